/-! pure: codes and states of the packer's sequences; the class -/
def codeL (B : Nat → Nat) (x : Nat) : Nat → Nat
  | 0 => 0
  | c + 1 => if B c ≤ x then c else codeL B x c
theorem codeL_lt (B : Nat → Nat) (x : Nat) : ∀ n, codeL B x n = 0 ∨ codeL B x n < n
  | 0 => Or.inl rfl
  | c + 1 => by
    unfold codeL
    split
    · exact Or.inr (Nat.lt_succ_self c)
    · rcases codeL_lt B x c with h | h
      · exact Or.inl h
      · exact Or.inr (by omega)
def acS (a : Nat) : Nat := codeL aB a 12
def mcS (m : Nat) : Nat := codeL mB m 12
theorem acS_lt (a : Nat) : acS a < 12 := by rcases codeL_lt aB a 12 with h | h <;> unfold acS <;> omega
theorem mcS_lt (a : Nat) : mcS a < 12 := by rcases codeL_lt mB a 12 with h | h <;> unfold mcS <;> omega
def ucd (k s : Nat) : Nat := tcd (usC k) 12 s
def uwd (k s : Nat) : Nat := wd (tx (usC k) 12 s)
def ubs (k s : Nat) : Nat := tx (usC k) 12 s * 2 ^ uwd k s - 16
theorem uwd_le (k s : Nat) : uwd k s ≤ 4 := wd_le _
theorem u_tab : ∀ k, k < 2 → ∀ s, s < 16 → ucd k s < 12 ∧ tx (usC k) 12 s < 32 ∧ 0 < tx (usC k) 12 s ∧ ubs k s < 16 := by decide +kernel
def fndU (P : Nat → Bool) : Nat → Nat → Nat
  | 0, _ => 0
  | d + 1, s => if P s = true then s else fndU P d (s + 1)
theorem fndU_lt (P : Nat → Bool) : ∀ d s, s + d ≤ 16 → fndU P d s < 16
  | 0, s, _ => by show 0 < 16; decide
  | d + 1, s, h => by
    unfold fndU
    split
    · omega
    · exact fndU_lt P d (s + 1) (by omega)
def lstS (k code : Nat) : Nat := fndU (fun s => decide (ucd k s = code)) 16 0
def befS (k code next : Nat) : Nat := fndU (fun s => decide (ucd k s = code ∧ ubs k s ≤ next ∧ next < ubs k s + 2 ^ uwd k s)) 16 0
theorem lstS_lt (k c : Nat) : lstS k c < 16 := fndU_lt _ 16 0 (by decide)
theorem befS_lt (k c n : Nat) : befS k c n < 16 := fndU_lt _ 16 0 (by decide)
/-- the state at n - 1 - d, of n codes cd -/
def stD (k : Nat) (cd : Nat → Nat) (n : Nat) : Nat → Nat
  | 0 => lstS k (cd (n - 1))
  | d + 1 => befS k (cd (n - 1 - (d + 1))) (stD k cd n d)
def stF (k : Nat) (cd : Nat → Nat) (n i : Nat) : Nat := stD k cd n (n - 1 - i)
theorem stF_lt (k : Nat) (cd : Nat → Nat) (n i : Nat) : stF k cd n i < 16 := by
  unfold stF
  cases n - 1 - i with
  | zero => exact lstS_lt _ _
  | succ d => exact befS_lt _ _ _
theorem stF_last (k : Nat) (cd : Nat → Nat) {n i : Nat} (h : i + 1 = n) : stF k cd n i = lstS k (cd i) := by
  unfold stF
  rw [show n - 1 - i = 0 by omega, show i = n - 1 by omega]
  rfl
theorem stF_step (k : Nat) (cd : Nat → Nat) {n i : Nat} (h : i + 1 < n) : stF k cd n i = befS k (cd i) (stF k cd n (i + 1)) := by
  unfold stF
  rw [show n - 1 - i = (n - 1 - (i + 1)) + 1 by omega]
  show befS k (cd (n - 1 - (n - 1 - (i + 1) + 1))) _ = _
  rw [show n - 1 - (n - 1 - (i + 1) + 1) = i by omega]
/-! the bits of the sequences -/
def qA (qs : List N3) (i : Nat) : Nat := (qs.getD i (0, 0, 0)).2.2
def qM (qs : List N3) (i : Nat) : Nat := (qs.getD i (0, 0, 0)).2.1
def qV (qs : List N3) (i : Nat) : Nat := (qs.getD i (0, 0, 0)).1
def sA (qs : List N3) (i : Nat) : Nat := stF 0 (fun j => acS (qA qs j)) qs.length i
def sM (qs : List N3) (i : Nat) : Nat := stF 0 (fun j => mcS (qM qs j)) qs.length i
def sW (qs : List N3) (i : Nat) : Nat := stF 1 (fun j => Nat.log2 (qV qs j)) qs.length i
def valB (qs : List N3) (i : Nat) : List Nat := bitsS (nI (qV qs i) - nI (2 ^ Nat.log2 (qV qs i))) (Nat.log2 (qV qs i)) ++ bitsS (nI (qM qs i) - nI (mB (mcS (qM qs i)))) (mb (mcS (qM qs i))) ++ bitsS (nI (qA qs i) - nI (aB (acS (qA qs i)))) (ab (acS (qA qs i)))
def stpB (qs : List N3) (i : Nat) : List Nat := bitsS (nI (sA qs (i + 1)) - nI (ubs 0 (sA qs i))) (uwd 0 (sA qs i)) ++ bitsS (nI (sM qs (i + 1)) - nI (ubs 0 (sM qs i))) (uwd 0 (sM qs i)) ++ bitsS (nI (sW qs (i + 1)) - nI (ubs 1 (sW qs i))) (uwd 1 (sW qs i))
def preB (qs : List N3) : List Nat := bitsS (nI (sA qs 0)) 4 ++ bitsS (nI (sW qs 0)) 4 ++ bitsS (nI (sM qs 0)) 4
def cB (qs : List N3) : Nat → List Nat
  | 0 => []
  | i + 1 => cB qs i ++ (if 0 < i then stpB qs (i - 1) else []) ++ valB qs i
def mBv (qs : List N3) : Nat → List Nat
  | 0 => []
  | i + 1 => mBv qs i ++ valB qs i ++ (if i + 1 < qs.length then stpB qs i else [])
theorem mBv_cB (qs : List N3) : ∀ i, i ≤ qs.length → mBv qs i = cB qs i ++ (if 0 < i ∧ i < qs.length then stpB qs (i - 1) else [])
  | 0, _ => by simp [mBv, cB]
  | i + 1, h => by
    show mBv qs i ++ valB qs i ++ (if i + 1 < qs.length then stpB qs i else []) = cB qs i ++ (if 0 < i then stpB qs (i - 1) else []) ++ valB qs i ++ _
    rw [mBv_cB qs i (by omega)]
    have e1 : (if 0 < i ∧ i < qs.length then stpB qs (i - 1) else []) = (if 0 < i then stpB qs (i - 1) else []) := by
      by_cases q : 0 < i
      · rw [if_pos ⟨q, by omega⟩, if_pos q]
      · rw [if_neg (fun c => q c.1), if_neg q]
    rw [e1]
    congr 1
    by_cases q : i + 1 < qs.length
    · rw [if_pos q, if_pos ⟨by omega, q⟩, Nat.add_sub_cancel]
    · rw [if_neg q, if_neg (fun c => q c.2)]
theorem valB_len {qs : List N3} {i : Nat} (h : PQ (qs.getD i (0, 0, 0))) : (valB qs i).length ≤ 19 := by
  have h1 := mb_le _ (mcS_lt (qM qs i))
  have h2 := mb_le _ (acS_lt (qA qs i))
  have h3 : Nat.log2 (qV qs i) ≤ 6 := by
    have := h.1
    have := (Nat.log2_lt (k := 7) (show qV qs i ≠ 0 by unfold qV; omega)).mpr (by unfold qV; omega)
    omega
  unfold valB
  simp only [List.length_append, bitsS_len]
  omega
theorem stpB_len (qs : List N3) (i : Nat) : (stpB qs i).length ≤ 12 := by
  have h1 := uwd_le 0 (sA qs i)
  have h2 := uwd_le 0 (sM qs i)
  have h3 := uwd_le 1 (sW qs i)
  unfold stpB
  simp only [List.length_append, bitsS_len]
  omega
theorem cB_len {qs : List N3} (h : ∀ q ∈ qs, PQ q) : ∀ i, i ≤ qs.length → (cB qs i).length ≤ 31 * i
  | 0, _ => Nat.zero_le _
  | i + 1, hi => by
    have h1 := cB_len h i (by omega)
    have h2 := valB_len (qs := qs) (i := i) (h _ (by rw [List.getD_eq_getElem?_getD, List.getElem?_eq_getElem (by omega)]; exact List.getElem_mem _))
    have h3 : (if 0 < i then stpB qs (i - 1) else []).length ≤ 12 := by
      split
      · exact stpB_len qs _
      · exact Nat.zero_le _
    simp only [cB, List.length_append]
    omega
theorem app_b {a b : List Nat} (ha : ∀ x ∈ a, x < 2) (hb : ∀ x ∈ b, x < 2) : ∀ x ∈ a ++ b, x < 2 := fun x h => (List.mem_append.mp h).elim (ha x) (hb x)
theorem valB_b (qs : List N3) (i : Nat) : ∀ x ∈ valB qs i, x < 2 := app_b (app_b (bitsS_b _ _) (bitsS_b _ _)) (bitsS_b _ _)
theorem stpB_b (qs : List N3) (i : Nat) : ∀ x ∈ stpB qs i, x < 2 := app_b (app_b (bitsS_b _ _) (bitsS_b _ _)) (bitsS_b _ _)
theorem preB_b (qs : List N3) : ∀ x ∈ preB qs, x < 2 := app_b (app_b (bitsS_b _ _) (bitsS_b _ _)) (bitsS_b _ _)
theorem preB_len (qs : List N3) : (preB qs).length = 12 := by unfold preB; simp [bitsS_len]
theorem cB_b (qs : List N3) : ∀ i, ∀ x ∈ cB qs i, x < 2
  | 0 => by simp [cB]
  | i + 1 => by
    refine app_b (app_b (cB_b qs i) ?_) (valB_b qs i)
    split
    · exact stpB_b qs _
    · simp
/-! the class's tables and searches -/
def UC (F : Mem) : Prop := ∀ s, s < 16 → (F 6 s = nI (ucd 0 s) ∧ F 7 s = nI (uwd 0 s) ∧ F 8 s = nI (ubs 0 s)) ∧ (F 11 s = nI (ucd 1 s) ∧ F 12 s = nI (uwd 1 s) ∧ F 13 s = nI (ubs 1 s))
theorem UC.of {U F : Mem} (hU : UT U) (h : ∀ k, 5 ≤ k → k ≤ 14 → F k = U k) : UC F := by
  intro s hs
  obtain ⟨⟨a1, a2, a3⟩, ⟨b1, b2, b3⟩⟩ := hU s hs
  have t0 := u_tab 0 (by decide) s hs
  have t1 := u_tab 1 (by decide) s hs
  rw [h 6 (by decide) (by decide), h 7 (by decide) (by decide), h 8 (by decide) (by decide), h 11 (by decide) (by decide), h 12 (by decide) (by decide), h 13 (by decide) (by decide)]
  exact ⟨⟨a1, a2, by rw [a3, bs_nI t0.2.1 t0.2.2.1]; rfl⟩, ⟨b1, b2, by rw [b3, bs_nI t1.2.1 t1.2.2.1]; rfl⟩⟩
theorem UC.fr {F G : Mem} {S : List Nat} (h : UC F) (f : Fr S F G) (n : ∀ k, 5 ≤ k → k ≤ 14 → k ∉ S) : UC G := by
  unfold UC at *
  rw [f 6 (n 6 (by decide) (by decide)), f 7 (n 7 (by decide) (by decide)), f 8 (n 8 (by decide) (by decide)), f 11 (n 11 (by decide) (by decide)), f 12 (n 12 (by decide) (by decide)), f 13 (n 13 (by decide) (by decide))]
  exact h
/-- a usual table of the class's: its object, codes, widths, bases -/
def UO (k i a1 a2 a3 : Nat) : Prop := (k = 0 ∧ i = 5 ∧ a1 = 6 ∧ a2 = 7 ∧ a3 = 8) ∨ (k = 1 ∧ i = 10 ∧ a1 = 11 ∧ a2 = 12 ∧ a3 = 13)
theorem UO.f {k i a1 a2 a3 : Nat} (h : UO k i a1 a2 a3) : (mRf L1 i 1 = a1 ∧ mRf L1 i 2 = a2 ∧ mRf L1 i 3 = a3) ∧ (mGl L1 a1 = 16 ∧ mGl L1 a2 = 16 ∧ mGl L1 a3 = 16) ∧ (a1 < mNc L1 ∧ a2 < mNc L1 ∧ a3 < mNc L1) ∧ k < 2 := by
  rcases h with ⟨rfl, rfl, rfl, rfl, rfl⟩ | ⟨rfl, rfl, rfl, rfl, rfl⟩ <;> exact ⟨⟨rfl, rfl, rfl⟩, ⟨rfl, rfl, rfl⟩, ⟨by decide, by decide, by decide⟩, by decide⟩
theorem UO.g {k i a1 a2 a3 : Nat} (h : UO k i a1 a2 a3) {F : Mem} (u : UC F) {s : Nat} (hs : s < 16) : F a1 s = nI (ucd k s) ∧ F a2 s = nI (uwd k s) ∧ F a3 s = nI (ubs k s) := by
  rcases h with ⟨rfl, rfl, rfl, rfl, rfl⟩ | ⟨rfl, rfl, rfl, rfl, rfl⟩
  · exact (u s hs).1
  · exact (u s hs).2
theorem st_least {k i a1 a2 a3 : Nat} (o : UO k i a1 a2 a3) {F : Mem} (u : UC F) {code : Nat} (hc : code < 2 ^ 20) : ∀ (d s fu : Nat), d + s = 16 → d < fu → f_ST_leastStateOf_2 L1 fu i (nI code) (nI s) F = some (nI (fndU (fun s => decide (ucd k s = code)) d s), F) := by
  obtain ⟨⟨r1, r2, r3⟩, ⟨z1, z2, z3⟩, ⟨n1, n2, n3⟩, hk⟩ := o.f
  intro d
  induction d with
  | zero =>
    intro s fu hd hf
    obtain ⟨fu, rfl⟩ : ∃ k, fu = k + 1 := ⟨fu - 1, by omega⟩
    obtain rfl : s = 16 := by omega
    show b_ST_leastStateOf_2 L1 (f_ST_leastStateOf_2 L1 fu) i (nI code) (nI 16) F = _
    unfold b_ST_leastStateOf_2
    rw [if_pos (show (16 : Int32) ≤ nI 16 by decide)]
    rfl
  | succ d ih =>
    intro s fu hd hf
    obtain ⟨fu, rfl⟩ : ∃ k, fu = k + 1 := ⟨fu - 1, by omega⟩
    have t := u_tab k hk s (by omega)
    show b_ST_leastStateOf_2 L1 (f_ST_leastStateOf_2 L1 fu) i (nI code) (nI s) F = _
    unfold b_ST_leastStateOf_2 fndU
    rw [if_neg (show ¬ (16 : Int32) ≤ nI s from fun q => absurd ((nI_leI (a := 16) (by omega) (by omega)).mp q) (by omega)), r1, z1, if_neg (inb_no (n := s) (by omega) (by omega)), mGa_n n1, show F a1 (nI s).toNatClampNeg = nI (ucd k s) by rw [nI_clamp (by omega)]; exact (o.g u (by omega)).1]
    by_cases q : ucd k s = code
    · rw [ieq q, if_pos (decide_eq_true q)]
    · rw [ieqn q (by omega) (by omega), if_neg (by simpa using q), nI_1]
      exact ih (s + 1) fu (by omega) (by omega)
theorem st_before {k i a1 a2 a3 : Nat} (o : UO k i a1 a2 a3) {F : Mem} (u : UC F) {code next : Nat} (hc : code < 2 ^ 20) (hx : next < 16) : ∀ (d s fu : Nat), d + s = 16 → d < fu → f_ST_stateBefore_2 L1 fu i (nI code) (nI next) (nI s) F = some (nI (fndU (fun s => decide (ucd k s = code ∧ ubs k s ≤ next ∧ next < ubs k s + 2 ^ uwd k s)) d s), F) := by
  obtain ⟨⟨r1, r2, r3⟩, ⟨z1, z2, z3⟩, ⟨n1, n2, n3⟩, hk⟩ := o.f
  intro d
  induction d with
  | zero =>
    intro s fu hd hf
    obtain ⟨fu, rfl⟩ : ∃ k, fu = k + 1 := ⟨fu - 1, by omega⟩
    obtain rfl : s = 16 := by omega
    show b_ST_stateBefore_2 L1 (f_ST_stateBefore_2 L1 fu) i (nI code) (nI next) (nI 16) F = _
    unfold b_ST_stateBefore_2
    rw [if_pos (show (16 : Int32) ≤ nI 16 by decide)]
    rfl
  | succ d ih =>
    intro s fu hd hf
    obtain ⟨fu, rfl⟩ : ∃ k, fu = k + 1 := ⟨fu - 1, by omega⟩
    have t := u_tab k hk s (by omega)
    have tw := uwd_le k s
    have p4 : 2 ^ uwd k s ≤ 2 ^ 4 := Nat.pow_le_pow_right (by decide) tw
    obtain ⟨g1, g2, g3⟩ := o.g u (s := s) (by omega)
    have nx := ih (s + 1) fu (by omega) (by omega)
    have e1 : mGa L1 F a1 (nI s).toNatClampNeg = nI (ucd k s) := by rw [mGa_n n1, nI_clamp (by omega), g1]
    have e2 : mGa L1 F a2 (nI s).toNatClampNeg = nI (uwd k s) := by rw [mGa_n n2, nI_clamp (by omega), g2]
    have e3 : mGa L1 F a3 (nI s).toNatClampNeg = nI (ubs k s) := by rw [mGa_n n3, nI_clamp (by omega), g3]
    show b_ST_stateBefore_2 L1 (f_ST_stateBefore_2 L1 fu) i (nI code) (nI next) (nI s) F = _
    unfold b_ST_stateBefore_2 b_ST_stateBefore_49 fndU
    rw [if_neg (show ¬ (16 : Int32) ≤ nI s from fun q => absurd ((nI_leI (a := 16) (by omega) (by omega)).mp q) (by omega)), r1, r2, r3, z1, z2, z3, if_neg (inb_no (n := s) (by omega) (by omega)), e1, nI_1]
    by_cases q : ucd k s = code
    · rw [ieq q, if_neg (inb_no (n := s) (by omega) (by omega)), e3]
      by_cases q2 : ubs k s ≤ next
      · rw [iltn q2 (by omega), if_neg (inb_no (n := s) (by omega) (by omega)), if_neg (inb_no (n := s) (by omega) (by omega)), e2, show jshl (1 : Int32) (nI (uwd k s)) = nI (2 ^ uwd k s) by rw [l1, jshl_n (by omega) (by omega), Nat.one_mul], nI_add]
        by_cases q3 : next < ubs k s + 2 ^ uwd k s
        · rw [ilen (by omega) (by omega), if_pos (decide_eq_true ⟨q, q2, q3⟩)]
        · rw [ile (by omega) (by omega), if_neg (by simp only [decide_eq_true_eq]; exact fun c => q3 c.2.2)]
          exact nx
      · rw [ilt (by omega) (by omega), if_neg (by simp only [decide_eq_true_eq]; exact fun c => q2 c.2.1)]
        exact nx
    · rw [ieqn q (by omega) (by omega), if_neg (by simp only [decide_eq_true_eq]; exact fun c => q c.1)]
      exact nx
/-- a static table of bases -/
theorem pk_code4 {t : Nat} {B : Nat → Nat} (hg : mGl L1 t = 12) (hB : ∀ c, c < 12 → B c ≤ 25) {F : Mem} (hF : ∀ c, c < 12 → mGa L1 F t c = nI (B c)) {x : Nat} (hx : x < 2 ^ 20) : ∀ (d i fu : Nat), d + i = 12 → d < fu → f_Pk_codeOf_4 L1 fu t (nI x) (nI (codeL B x i)) (nI i) F = some (nI (codeL B x 12), F) := by
  intro d
  induction d with
  | zero =>
    intro i fu hd hf
    obtain ⟨fu, rfl⟩ : ∃ k, fu = k + 1 := ⟨fu - 1, by omega⟩
    obtain rfl : i = 12 := by omega
    show b_Pk_codeOf_4 L1 (f_Pk_codeOf_4 L1 fu) t (nI x) _ (nI 12) F = _
    unfold b_Pk_codeOf_4
    rw [hg, ile (Nat.le_refl _) (by omega)]
  | succ d ih =>
    intro i fu hd hf
    obtain ⟨fu, rfl⟩ : ∃ k, fu = k + 1 := ⟨fu - 1, by omega⟩
    have nx := ih (i + 1) fu (by omega) (by omega)
    have b := hB i (by omega)
    show b_Pk_codeOf_4 L1 (f_Pk_codeOf_4 L1 fu) t (nI x) _ (nI i) F = _
    unfold b_Pk_codeOf_4 b_Pk_codeOf_19
    rw [hg, ilen (by omega) (by omega), if_neg (inb_no (n := i) (by omega) (by omega)), nI_clamp (by omega), hF i (by omega), nI_1]
    have ec : codeL B x (i + 1) = if B i ≤ x then i else codeL B x i := rfl
    by_cases q : B i ≤ x
    · rw [if_pos q] at ec
      rw [iltn q (by omega)]
      rw [ec] at nx
      exact nx
    · rw [if_neg q] at ec
      rw [ilt (by omega) (by omega)]
      rw [ec] at nx
      exact nx
theorem pk_acode (F : Mem) {x : Nat} (hx : x < 2 ^ 20) : f_Pk_codeOf L1 68 (nI x) F = some (nI (acS x), F) := pk_code4 (t := 68) (B := aB) rfl (by decide) (fun c hc => s68 F hc) hx 11 1 mFU (by omega) (by unfold mFU; omega)
theorem pk_mcode (F : Mem) {x : Nat} (hx : x < 2 ^ 20) : f_Pk_codeOf L1 70 (nI x) F = some (nI (mcS x), F) := by
  have := pk_code4 (t := 70) (B := mB) rfl (by decide) (fun c hc => s70 F hc) hx 11 1 mFU (by omega) (by unfold mFU; omega)
  have e : codeL mB x 1 = 0 := by
    show (if mB 0 ≤ x then 0 else 0) = 0
    split <;> rfl
  rw [e] at this
  exact this
theorem pk_wcode (F : Mem) {x : Nat} (h0 : 0 < x) (hx : x < 256) : f_Pk_wayCodeOf L1 (nI x) F = some (nI (Nat.log2 x), F) := by
  have hl : Nat.log2 x < 8 := (Nat.log2_lt (by omega)).mpr hx
  unfold f_Pk_wayCodeOf
  rw [nlz_eq]
  dsimp only [Option.bind_some]
  rw [nlz_b _ hx h0, l31, pk_sub (by omega), show 31 - (31 - Nat.log2 x) = Nat.log2 x by omega]
