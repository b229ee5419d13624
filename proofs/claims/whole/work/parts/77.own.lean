/-! pure: the cells of a tree -/
def cl (v : Nat) : Nat := if v = 0 then 0 else 2 ^ (v - 1)
/-- the cells of weight v, of the symbols below m -/
def own1 (wt : Nat → Nat) (v : Nat) : Nat → List Nat
  | 0 => []
  | m + 1 => own1 wt v m ++ if wt m = v then List.replicate (2 ^ (v - 1)) m else []
/-- the cells of the weights 1 to v, of the symbols 0 to n -/
def ownL (wt : Nat → Nat) (n : Nat) : Nat → List Nat
  | 0 => []
  | v + 1 => ownL wt n v ++ own1 wt (v + 1) (n + 1)
theorem sumh_add (a b : Nat → Nat) : ∀ n, sumh (fun i => a i + b i) n = sumh a n + sumh b n
  | 0 => rfl
  | n + 1 => by
    have := sumh_add a b n
    simp only [sumh]
    omega
theorem sumh_cong {a b : Nat → Nat} : ∀ n, (∀ i, i < n → a i = b i) → sumh a n = sumh b n
  | 0, _ => rfl
  | n + 1, h => by
    simp only [sumh]
    rw [sumh_cong n (fun i hi => h i (by omega)), h n (by omega)]
theorem sumh_mono {a : Nat → Nat} {m n : Nat} (h : m ≤ n) : sumh a m ≤ sumh a n := by
  induction n with
  | zero => rw [show m = 0 by omega]; exact Nat.le_refl _
  | succ n ih =>
    rcases Nat.eq_or_lt_of_le h with rfl | h
    · exact Nat.le_refl _
    · have := ih (by omega)
      simp only [sumh]
      omega
theorem sumh_one {a : Nat → Nat} {n i : Nat} (h : i < n) : a i ≤ sumh a n := by
  have : sumh a (i + 1) ≤ sumh a n := sumh_mono (by omega)
  simp only [sumh] at this
  omega
theorem own1_len (wt : Nat → Nat) (v : Nat) : ∀ m, (own1 wt v m).length = sumh (fun s => if wt s = v then 2 ^ (v - 1) else 0) m
  | 0 => rfl
  | m + 1 => by
    simp only [own1, sumh, List.length_append]
    rw [own1_len wt v m]
    split <;> simp
theorem ownL_len (wt : Nat → Nat) (n : Nat) : ∀ v, (ownL wt n v).length = sumh (fun s => if wt s ≤ v then cl (wt s) else 0) (n + 1)
  | 0 => by
    have : sumh (fun s => if wt s ≤ 0 then cl (wt s) else 0) (n + 1) = sumh (fun _ => 0) (n + 1) := sumh_cong _ (fun i _ => by
      split
      · unfold cl
        rw [if_pos (by omega)]
      · rfl)
    have z : ∀ n, sumh (fun _ => 0) n = 0 := fun n => by induction n with | zero => rfl | succ n ih => simp only [sumh]; omega
    rw [this, z]
    rfl
  | v + 1 => by
    simp only [ownL, List.length_append]
    rw [ownL_len wt n v, own1_len, ← sumh_add]
    refine sumh_cong _ (fun i _ => ?_)
    by_cases h : wt i ≤ v
    · rw [if_pos h, if_neg (show ¬ wt i = v + 1 by omega), if_pos (show wt i ≤ v + 1 by omega)]
      rfl
    · by_cases h2 : wt i = v + 1
      · rw [if_neg h, if_pos h2, if_pos (show wt i ≤ v + 1 by omega), h2]
        unfold cl
        rw [if_neg (by omega)]
        omega
      · rw [if_neg h, if_neg h2, if_neg (show ¬ wt i ≤ v + 1 by omega)]
theorem own1_mono (wt : Nat → Nat) (v : Nat) {m n : Nat} (h : m ≤ n) : (own1 wt v m).length ≤ (own1 wt v n).length := by
  rw [own1_len, own1_len]
  exact sumh_mono h
theorem ownL_mono (wt : Nat → Nat) (n : Nat) {v k : Nat} (h : v ≤ k) : (ownL wt n v).length ≤ (ownL wt n k).length := by
  induction k with
  | zero => rw [show v = 0 by omega]; exact Nat.le_refl _
  | succ k ih =>
    rcases Nat.eq_or_lt_of_le h with rfl | h
    · exact Nat.le_refl _
    · have := ih (by omega)
      simp only [ownL, List.length_append]
      omega
theorem ownL_all {wt : Nat → Nat} {n : Nat} (h : ∀ s, s ≤ n → wt s ≤ 7) : (ownL wt n 7).length = sumh (fun s => cl (wt s)) (n + 1) := by
  rw [ownL_len]
  exact sumh_cong _ (fun i hi => if_pos (h i (by omega)))
theorem own1_mem {wt : Nat → Nat} {v : Nat} : ∀ {m s : Nat}, s ∈ own1 wt v m → s < m ∧ wt s = v
  | 0, s, h => absurd h (by simp [own1])
  | m + 1, s, h => by
    simp only [own1] at h
    rcases List.mem_append.mp h with h | h
    · have := own1_mem h
      exact ⟨by omega, this.2⟩
    · split at h
      · have := (List.mem_replicate.mp h).2
        subst this
        exact ⟨by omega, by assumption⟩
      · exact absurd h (by simp)
theorem ownL_mem {wt : Nat → Nat} {n : Nat} : ∀ {v s : Nat}, s ∈ ownL wt n v → s ≤ n ∧ 1 ≤ wt s ∧ wt s ≤ v
  | 0, s, h => absurd h (by simp [ownL])
  | v + 1, s, h => by
    simp only [ownL] at h
    rcases List.mem_append.mp h with h | h
    · have := ownL_mem h
      exact ⟨this.1, this.2.1, by omega⟩
    · have := own1_mem h
      exact ⟨by omega, by omega, by omega⟩
/-- the first cell of symbol s -/
def startS (wt : Nat → Nat) (n s : Nat) : Nat := (ownL wt n (wt s - 1)).length + (own1 wt (wt s) s).length
/-! the class's tree: its object i, weights a0, starts a1, owners a2 -/
def TO3 (L : La) (i a0 a1 a2 : Nat) : Prop := (mRf L i 0 = a0 ∧ mRf L i 1 = a1 ∧ mRf L i 2 = a2) ∧ (a0 < mNc L ∧ a1 < mNc L ∧ a2 < mNc L) ∧ (mLn L a0 = 17 ∧ mLn L a1 = 17 ∧ mLn L a2 = 128) ∧ (i ≠ a0 ∧ i ≠ a1 ∧ i ≠ a2) ∧ (a0 ≠ a1 ∧ a0 ≠ a2 ∧ a1 ≠ a2)
theorem mGl_n {L : La} {a N : Nat} (h : a < mNc L) (h2 : mLn L a = N) : mGl L a = N := by rw [mGl, if_pos h, h2]
theorem mGa_n {L : La} {a : Nat} (h : a < mNc L) (F : Mem) (j : Nat) : mGa L F a j = F a j := by rw [mGa, if_pos h]
theorem cl_le {v : Nat} (h : v ≤ 7) : cl v ≤ 64 := by
  unfold cl
  split
  · omega
  · exact Nat.pow_le_pow_right (n := 2) (by decide) (show v - 1 ≤ 6 by omega)
theorem tr_cells {L : La} {i a0 a1 a2 : Nat} (T : TO3 L i a0 a1 a2) {F : Mem} {s v : Nat} (hs : s < 17) (hv : v ≤ 7) (h : F a0 s = nI v) : f_Tr_cellsOf L i (nI s) F = some (nI (cl v), F) := by
  obtain ⟨⟨r0, r1, r2⟩, ⟨n0, n1, n2⟩, ⟨z0, z1, z2⟩, -, -⟩ := T
  unfold f_Tr_cellsOf b_Tr_cellsOf_23
  have ev : mGa L F a0 (nI s).toNatClampNeg = nI v := by rw [mGa_n n0, nI_clamp (by omega), h]
  rw [r0, mGl_n n0 z0, if_neg (inb_no (n := s) (by omega) (by omega)), if_neg (inb_no (n := s) (by omega) (by omega)), ev]
  unfold cl
  by_cases q : v = 0
  · subst q
    rw [if_pos (show nI 0 = (0 : Int32) from rfl), if_pos rfl]
    rfl
  · have p7 : 2 ^ (v - 1) ≤ 2 ^ 6 := Nat.pow_le_pow_right (by decide) (by omega)
    rw [if_neg (show ¬ nI v = (0 : Int32) from nne (b := 0) q (by omega) (by omega)), if_neg q, l1, pk_sub (by omega), jshl_n (by omega) (by omega), Nat.one_mul]
def bcV (x : Int32) : Int32 := ((f_Int_bitCount L1 x fST).map (fun q => q.1)).getD 0
theorem bc_eq (L : La) (x : Int32) (F : Mem) : f_Int_bitCount L x F = some (bcV x, F) := rfl
theorem bc_b : ∀ b, b < 256 → 0 < b → (bcV (nI b) = 1 ↔ 2 ^ Nat.log2 b = b) := by decide +kernel
def sumW (wt : Nat → Nat) (n : Nat) : Nat := sumh (fun s => cl (wt s)) n
def restW (wt : Nat → Nat) (n : Nat) : Nat := 2 ^ (Nat.log2 (sumW wt n) + 1) - sumW wt n
/-- the weights of n symbols make a tree -/
def compS (wt : Nat → Nat) (n : Nat) : Prop := (∀ j, j < n → wt j ≤ 7) ∧ 0 < sumW wt n ∧ sumW wt n < 128 ∧ 2 ^ Nat.log2 (restW wt n) = restW wt n
theorem log2_b {s : Nat} (h : 0 < s) : 2 ^ Nat.log2 s ≤ s ∧ s < 2 ^ (Nat.log2 s + 1) := ⟨Nat.log2_self_le (by omega), Nat.lt_log2_self⟩
theorem rest_b {wt : Nat → Nat} {n : Nat} (h0 : 0 < sumW wt n) (h : sumW wt n < 128) : 0 < restW wt n ∧ restW wt n ≤ 2 ^ Nat.log2 (sumW wt n) ∧ Nat.log2 (sumW wt n) ≤ 6 ∧ 2 ^ Nat.log2 (sumW wt n) ≤ 64 := by
  obtain ⟨h1, h2⟩ := log2_b h0
  have h3 : Nat.log2 (sumW wt n) < 7 := (Nat.log2_lt (by omega)).mpr h
  have h4 : 2 ^ Nat.log2 (sumW wt n) ≤ 2 ^ 6 := Nat.pow_le_pow_right (by decide) (by omega)
  unfold restW
  rw [Nat.pow_succ] at *
  omega
theorem tr_comp4 {L : La} {i a0 a1 a2 : Nat} (T : TO3 L i a0 a1 a2) {wt : Nat → Nat} {n : Nat} (hn : n ≤ 16) : ∀ (d k : Nat) (F : Mem) (fu : Nat), d + k = n → d < fu → (∀ j, j < n → F a0 j = nI (wt j) ∧ wt j < 16) → (∀ j, j < k → wt j ≤ 7) → sumW wt k ≤ 64 * k →
    ∃ G r, f_Tr_complete_4 L fu i (nI n) (nI (sumW wt k)) (nI k) F = some (r, G) ∧ (compS wt n → r = 1 ∧ G a0 n = nI (Nat.log2 (restW wt n) + 1) ∧ G i 4 = nI (Nat.log2 (sumW wt n) + 1)) ∧ (¬ compS wt n → r = 0 ∧ G a0 n = F a0 n) ∧ (∀ j, j ≠ n → G a0 j = F a0 j) ∧ (∀ j, j ≠ 4 → G i j = F i j) ∧ Fr [i, a0] F G := by
  obtain ⟨⟨r0, r1, r2⟩, ⟨n0, n1, n2⟩, ⟨z0, z1, z2⟩, ⟨d0, d1, d2⟩, -⟩ := id T
  intro d
  induction d with
  | zero =>
    intro k F fu hd hf hw h7 hs
    obtain ⟨fu, rfl⟩ : ∃ k, fu = k + 1 := ⟨fu - 1, by omega⟩
    obtain rfl : k = n := by omega
    show ∃ G r, b_Tr_complete_4 L (f_Tr_complete_4 L fu) i (nI k) (nI (sumW wt k)) (nI k) F = some (r, G) ∧ _
    unfold b_Tr_complete_4 b_Tr_complete_47
    have no : ¬ compS wt k → ∃ G r, some ((0 : Int32), F) = some (r, G) ∧ (compS wt k → r = 1 ∧ G a0 k = nI (Nat.log2 (restW wt k) + 1) ∧ G i 4 = nI (Nat.log2 (sumW wt k) + 1)) ∧ (¬ compS wt k → r = 0 ∧ G a0 k = F a0 k) ∧ (∀ j, j ≠ k → G a0 j = F a0 j) ∧ (∀ j, j ≠ 4 → G i j = F i j) ∧ Fr [i, a0] F G := fun q => ⟨F, 0, rfl, fun c => absurd c q, fun _ => ⟨rfl, rfl⟩, fun _ _ => rfl, fun _ _ => rfl, Fr.rf⟩
    rw [ile (Nat.le_refl _) (by omega), if_pos zb0]
    by_cases q0 : sumW wt k = 0
    · rw [if_pos (show nI (sumW wt k) = (0 : Int32) by rw [q0]; rfl)]
      exact no (fun c => by have := c.2.1; omega)
    · rw [if_neg (show ¬ nI (sumW wt k) = (0 : Int32) from nne (b := 0) q0 (by omega) (by omega)), l128]
      by_cases q1 : sumW wt k < 128
      · obtain ⟨b1, b2, b3, b4⟩ := rest_b (by omega) q1
        rw [ilt q1 (by omega), nlz_eq]
        dsimp only [Option.bind_some]
        rw [nlz_b _ (by omega) (by omega), l32, pk_sub (by omega), show 32 - (31 - Nat.log2 (sumW wt k)) = Nat.log2 (sumW wt k) + 1 by omega, ld, u2_s, l1]
        have pw : 2 ^ (Nat.log2 (sumW wt k) + 1) ≤ 2 ^ 7 := Nat.pow_le_pow_right (by decide) (by omega)
        have hl := (log2_b (s := sumW wt k) (by omega)).2
        rw [jshl_n (by omega) (by omega), Nat.one_mul, pk_sub (by omega), show 2 ^ (Nat.log2 (sumW wt k) + 1) - sumW wt k = restW wt k from rfl, bc_eq]
        dsimp only [Option.bind_some]
        by_cases q2 : 2 ^ Nat.log2 (restW wt k) = restW wt k
        · have cp : compS wt k := ⟨h7, by omega, q1, q2⟩
          have hr : Nat.log2 (restW wt k) ≤ 6 := by
            have := (Nat.log2_lt (k := 7) (show restW wt k ≠ 0 by omega)).mpr (by omega)
            omega
          rw [if_pos (show bcV (nI (restW wt k)) = nI 1 from (bc_b _ (by omega) b1).mpr q2), nlz_eq]
          dsimp only [Option.bind_some]
          rw [nlz_b _ (by omega) b1, pk_sub (by omega), show 32 - (31 - Nat.log2 (restW wt k)) = Nat.log2 (restW wt k) + 1 by omega, r0, z0, if_neg (in_w (n := k) (by omega) (by omega) n0), ld, nI_clamp (by omega), if_pos (show nI 1 = 0 ∨ nI 1 = nI 1 from zb1)]
          refine ⟨_, 1, rfl, fun _ => ⟨rfl, u2_s, ?_⟩, fun c => absurd cp c, fun j hj => ?_, fun j hj => ?_, ?_⟩
          · rw [u2_c d0, u2_s]
          · rw [u2_p hj, u2_c d0.symm]
          · rw [u2_c d0, u2_p hj]
          · exact (Fr.u (by simp)).tr (Fr.u (by simp))
        · rw [if_neg (show ¬ bcV (nI (restW wt k)) = nI 1 from fun q => q2 ((bc_b _ (by omega) b1).mp q))]
          exact ⟨_, 0, rfl, fun c => absurd c.2.2.2 q2, fun _ => ⟨rfl, u2_c d0.symm⟩, fun j _ => u2_c d0.symm, fun j hj => u2_p hj, Fr.u (by simp)⟩
      · rw [iltn (by omega) (by omega)]
        exact no (fun c => q1 c.2.2.1)
  | succ d ih =>
    intro k F fu hd hf hw h7 hs
    obtain ⟨fu, rfl⟩ : ∃ k, fu = k + 1 := ⟨fu - 1, by omega⟩
    show ∃ G r, b_Tr_complete_4 L (f_Tr_complete_4 L fu) i (nI n) (nI (sumW wt k)) (nI k) F = some (r, G) ∧ _
    unfold b_Tr_complete_4
    obtain ⟨hk, hk2⟩ := hw k (by omega)
    rw [ilen (by omega) (by omega), r0, mGl_n n0 z0, if_neg (inb_no (n := k) (by omega) (by omega)), mGa_n n0, show F a0 (nI k).toNatClampNeg = nI (wt k) by rw [nI_clamp (by omega), hk], l7]
    by_cases q : wt k ≤ 7
    · have c64 := cl_le q
      have es : sumW wt (k + 1) = sumW wt k + cl (wt k) := rfl
      rw [ile q (by omega), tr_cells T (by omega) q hk]
      dsimp only [Option.bind_some]
      rw [nI_add, nI_1, ← es]
      exact ih (k + 1) F fu (by omega) (by omega) hw (fun j hj => by rcases Nat.lt_or_ge j k with h | h; exact h7 j h; rw [show j = k by omega]; exact q) (by omega)
    · rw [ilen (by omega) (by omega), if_pos zb0]
      exact ⟨F, 0, rfl, fun c => absurd (c.1 k (by omega)) q, fun _ => ⟨rfl, rfl⟩, fun _ _ => rfl, fun _ _ => rfl, Fr.rf⟩
theorem tr_complete {L : La} {i a0 a1 a2 : Nat} (T : TO3 L i a0 a1 a2) {wt : Nat → Nat} {n : Nat} (hn : n ≤ 16) {F : Mem} (hw : ∀ j, j < n → F a0 j = nI (wt j) ∧ wt j < 16) :
    ∃ G r, f_Tr_complete L i (nI n) F = some (r, G) ∧ (compS wt n → r = 1 ∧ G a0 n = nI (Nat.log2 (restW wt n) + 1) ∧ G i 4 = nI (Nat.log2 (sumW wt n) + 1)) ∧ (¬ compS wt n → r = 0 ∧ G a0 n = F a0 n) ∧ (∀ j, j ≠ n → G a0 j = F a0 j) ∧ (∀ j, j ≠ 4 → G i j = F i j) ∧ Fr [i, a0] F G :=
  tr_comp4 T hn n 0 F mFU (by omega) (by unfold mFU; omega) hw (fun j hj => absurd hj (by omega)) (Nat.le_refl _)
