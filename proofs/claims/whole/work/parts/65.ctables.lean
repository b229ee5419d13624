/-! pure: the class takes a table -/
abbrev TT : Type := Nat ⊕ (Nat → Nat)
def TC (F : Mem) (i0 a1 a2 a3 : Nat) (t : TT) : Prop := match t with
  | .inl c => F i0 5 = nI 0 ∧ F a1 0 = nI c ∧ F a2 0 = nI 0 ∧ F a3 0 = nI 0
  | .inr c => TD F i0 a1 a2 a3 c 12
def sumh (c : Nat → Nat) : Nat → Nat
  | 0 => 0
  | n + 1 => sumh c n + c n
theorem exl_sum (c : Nat → Nat) : ∀ n, (exl c n).length = sumh c n
  | 0 => rfl
  | n + 1 => by simp [exl, sumh, exl_sum c n]
theorem exl_cong {c d : Nat → Nat} : ∀ n, (∀ k, k < n → c k = d k) → exl c n = exl d n
  | 0, _ => rfl
  | n + 1, h => by
    show exl c n ++ List.replicate (c n) n = exl d n ++ List.replicate (d n) n
    rw [exl_cong n (fun k hk => h k (by omega)), h n (by omega)]
theorem exl_z {c : Nat → Nat} {n : Nat} : ∀ m, n ≤ m → (∀ k, n ≤ k → c k = 0) → exl c m = exl c n := by
  intro m hm hz
  induction m with
  | zero => rw [show n = 0 by omega]
  | succ m ih =>
    rcases Nat.eq_or_lt_of_le hm with rfl | hm
    · rfl
    · show exl c m ++ List.replicate (c m) m = _
      rw [hz m (by omega), ih (by omega)]
      simp
theorem TD.ext {F : Mem} {i0 a1 a2 a3 n : Nat} {c : Nat → Nat} (h : TD F i0 a1 a2 a3 c n) (hn : n ≤ 12) (hz : ∀ k, n ≤ k → c k = 0) : TD F i0 a1 a2 a3 c 12 := by
  have e1 : tcd c 12 = tcd c n := by funext s; unfold tcd; rw [exl_z 12 hn hz]
  have e2 : tx c 12 = tx c n := by funext s; unfold tx; rw [e1]
  refine ⟨h.1, fun s hs => ?_⟩
  rw [e1, e2]
  exact h.2 s hs
/-- the counts that n halves from p on give -/
def hc (w : List Nat) (p n k : Nat) : Nat := if k < n then hv w p k else 0
/-- a table as it stands on the wire: its kind, where the reader stands, the table of the kind before -/
def tabS (w : List Nat) (lim most : Nat) (us : Nat → Nat) (kn : Option TT) (how p : Nat) : Option (TT × Nat) :=
  if how = 0 then some (.inr us, p)
  else if how = 1 then (if p < lim ∧ w.getD p 0 < most then some (.inl (w.getD p 0), p + 1) else none)
  else if how = 2 then (if p < lim ∧ 1 ≤ w.getD p 0 ∧ w.getD p 0 ≤ most ∧ p + 1 + (w.getD p 0 + 1) / 2 ≤ lim ∧ (w.getD p 0 % 2 = 0 ∨ w.getD (p + 1 + w.getD p 0 / 2) 0 % 16 = 0) ∧ sumh (hc w (p + 1) (w.getD p 0)) 12 = 16 then some (.inr (hc w (p + 1) (w.getD p 0)), p + 1 + (w.getD p 0 + 1) / 2) else none)
  else kn.map (fun t => (t, p))
/-- a table of the reader's: where it lies -/
def TI (i1 src most a1 a2 a3 a4 : Nat) (us : Nat → Nat) : Prop := SK L1 i1 src most a1 a2 a3 a4 ∧ (∀ n, n ≤ most → SK L1 i1 42 n a1 a2 a3 a4) ∧ mRf L1 i1 0 = src ∧ mGl L1 src = most ∧ most ≤ 12 ∧ (exl us most).length = 16 ∧ (∀ k, us k ≤ 16) ∧ (∀ (F : Mem) k, k < most → mGa L1 F src k = nI (us k)) ∧ (∀ k, most ≤ k → us k = 0) ∧ (∀ q ∈ [i1, a1, a2, a3, a4], q ≠ 3 ∧ q ≠ 4 ∧ q ≠ 25 ∧ q ≠ 26 ∧ q ≠ 42)
theorem keep_us {F : Mem} {w : List Nat} {p lim ss bl : Nat} {ok : Bool} {i1 src most a1 a2 a3 a4 : Nat} {us : Nat → Nat} (T : TI i1 src most a1 a2 a3 a4 us) (h : CR F w p lim ss bl ok) : ∃ G, f_ST_keepCounts L1 i1 src (nI most) F = some G ∧ CR G w p lim ss bl ok ∧ TC G i1 a1 a2 a3 (.inr us) ∧ Fr [25, 42, i1, a1, a2, a3, a4] F G ∧ Fr [i1, a1, a2, a3, a4] F G := by
  obtain ⟨S, -, -, -, hm, h16, hle, hg, hz, hd⟩ := T
  obtain ⟨G, e, t, -, f⟩ := st_keep S us h16 hm (fun k _ => hle k) (fun k hk => hg F k hk)
  have fr : Fr [i1, a1, a2, a3, a4] F G := fun k hk => by
    simp only [List.mem_cons, List.not_mem_nil, or_false, not_or] at hk
    exact f k hk.1 hk.2.1 hk.2.2.1 hk.2.2.2.1 hk.2.2.2.2
  refine ⟨G, e, ?_, t.ext hm hz, fr.up (by simp_all), fr⟩
  obtain ⟨h1, ha, h2⟩ := h
  have n3 : 3 ∉ [i1, a1, a2, a3, a4] := fun q => (hd 3 q).1 rfl
  have n4 : 4 ∉ [i1, a1, a2, a3, a4] := fun q => (hd 4 q).2.1 rfl
  have n25 : 25 ∉ [i1, a1, a2, a3, a4] := fun q => (hd 25 q).2.2.1 rfl
  refine ⟨h1.fr fr n3 n4, ?_, h2⟩
  rw [fr 25 n25]
  exact ha
theorem CR.fr {F G : Mem} {w : List Nat} {p lim ss bl : Nat} {ok : Bool} {S : List Nat} (h : CR F w p lim ss bl ok) (f : Fr S F G) (n3 : 3 ∉ S) (n4 : 4 ∉ S) (n25 : 25 ∉ S) : CR G w p lim ss bl ok := by
  obtain ⟨h1, ha, h2⟩ := h
  refine ⟨h1.fr f n3 n4, ?_, h2⟩
  rw [f 25 n25]
  exact ha
theorem inb0 {N : Nat} (h : 0 < N) : ¬ inb (0 : Int32) N := fun q => q.elim (by decide) (fun q => absurd h (by
  have : (0 : Int32).toNatClampNeg = 0 := rfl
  omega))
theorem keep_one {F : Mem} {i1 src most a1 a2 a3 a4 : Nat} {us : Nat → Nat} (T : TI i1 src most a1 a2 a3 a4 us) (c : Nat) : ∃ G, f_ST_keepOne L1 i1 (nI c) F = some G ∧ TC G i1 a1 a2 a3 (.inl c) ∧ Fr [i1, a1, a2, a3, a4] F G := by
  obtain ⟨⟨⟨r1, r2, r3, r4⟩, ⟨n1, n2, n3, n4⟩, ⟨l1, l2, l3, l4, l5, l6, l7⟩, ⟨d1, d2, d3, d4, d5, d6, d7, d8, d9, d10⟩, -⟩, -⟩ := T
  refine ⟨u2 (u2 (u2 (u2 F i1 5 0) a1 0 (nI c)) a2 0 0) a3 0 0, ?_, ⟨?_, ?_, ?_, ?_⟩, ?_⟩
  · unfold f_ST_keepOne
    have i0 : ∀ {P : Prop}, P → ¬ (inb (0 : Int32) 16 ∨ ¬ P) := fun hp q => q.elim (inb0 (by decide)) (fun q => q hp)
    rw [ld, r1, r2, r3, l1, l2, l3, if_neg (i0 n1), ld, if_neg (i0 n2), ld, if_neg (i0 n3), ld]
    rfl
  · rw [u2_c d9, u2_c d8, u2_c d7, u2_s]; rfl
  · rw [u2_c d2, u2_c d1, u2_s]
  · rw [u2_c d4, u2_s]; rfl
  · rw [u2_s]; rfl
  · exact (((Fr.u (by simp)).tr (Fr.u (by simp))).tr (Fr.u (by simp))).tr (Fr.u (by simp))
theorem r260 : mRf L1 26 0 = 25 := rfl
theorem r264 : mRf L1 26 4 = 42 := rfl
def CT (F : Mem) : Prop := ∀ i, i < 12 → ∃ k, k < 16 ∧ F 42 i = nI k
theorem CT.fr {F G : Mem} {S : List Nat} (h : CT F) (f : Fr S F G) (n : 42 ∉ S) : CT G := fun i hi => by rw [f 42 n]; exact h i hi
/-- what a table's taking leaves: sound then just if it was and the table stood there; and then the table is kept -/
def TO (F G : Mem) (w : List Nat) (lim ss bl : Nat) (ok : Bool) (sp : Option (TT × Nat)) (i1 a1 a2 a3 a4 : Nat) : Prop := ∃ p' ok', CR G w p' lim ss bl ok' ∧ (ok' = true → ok = true ∧ ∃ t, sp = some (t, p') ∧ TC G i1 a1 a2 a3 t) ∧ (ok = true → sp ≠ none → ok' = true) ∧ Fr [25, 42, i1, a1, a2, a3, a4] F G ∧ (G i1 5 = F i1 5 ∨ G i1 5 = nI 0 ∨ G i1 5 = nI 4) ∧ (CT F → CT G)
theorem take_one {F : Mem} {w : List Nat} {p lim ss bl : Nat} {ok : Bool} {i1 src most a1 a2 a3 a4 : Nat} {us : Nat → Nat} (kn : Option TT) (T : TI i1 src most a1 a2 a3 a4 us) (h : CR F w p lim ss bl ok) : ∃ G, f_Sq_takeOneCode L1 26 i1 F = some G ∧ TO F G w lim ss bl ok (tabS w lim most us kn 1 p) i1 a1 a2 a3 a4 := by
  have hd := T.2.2.2.2.2.2.2.2.2
  have hm := T.2.2.2.2.1
  have nin : ∀ q, (q = 3 ∨ q = 4 ∨ q = 25 ∨ q = 26 ∨ q = 42) → q ∉ [i1, a1, a2, a3, a4] := fun q hq hmem => by have := hd q hmem; omega
  obtain ⟨G1, e1, c1, f1⟩ := wr_byte h
  have hw := h.2.2.2.2.2.2
  unfold f_Sq_takeOneCode b_Sq_takeOneCode_32
  rw [r260, e1]
  dsimp only [Option.bind_some]
  rw [T.2.2.1, T.2.2.2.1]
  by_cases hp : p < lim
  · have hb : w.getD p 0 < 256 := hw _ (getD_mem (by have := h.2.2.2.1; omega))
    rw [if_pos hp] at c1 ⊢
    by_cases hc : w.getD p 0 < most
    · obtain ⟨G2, e2, t2, f2⟩ := keep_one (F := G1) T (w.getD p 0)
      refine ⟨G2, ?_, p + 1, ok, ?_, fun q => ⟨q, .inl (w.getD p 0), ?_, t2⟩, fun q _ => q, (f1.up (by simp)).tr (f2.up (by simp_all)), Or.inr (Or.inl t2.1), fun q => (q.fr f1 (by decide)).fr f2 (nin 42 (by omega))⟩
      · rw [if_neg (fun q => absurd ((nI_leI (by omega) (by omega)).mp q) (by omega)), e2]; rfl
      · have : CR G1 w (p + 1) lim ss bl ok := by simpa [hp] using c1
        exact this.fr f2 (nin 3 (by omega)) (nin 4 (by omega)) (nin 25 (by omega))
      · unfold tabS
        rw [if_neg (by decide), if_pos rfl, if_pos ⟨hp, hc⟩]
    · obtain ⟨G2, e2, c2, f2⟩ := wr_refuse c1
      refine ⟨G2, ?_, p + 1, false, c2, fun q => absurd q (by decide), fun _ q => absurd ?_ q, (f1.tr f2).up (by simp), ?_, fun q => (q.fr f1 (by decide)).fr f2 (by decide)⟩
      · rw [if_pos (nI_le (by omega) (by omega)), e2]; rfl
      · unfold tabS
        rw [if_neg (by decide), if_pos rfl, if_neg (fun q => hc q.2)]
      · left
        rw [f2 i1 (by simpa using (hd i1 (by simp)).2.2.1), f1 i1 (by simpa using (hd i1 (by simp)).2.2.1)]
  · rw [if_neg hp] at c1 ⊢
    have c1' : CR G1 w p lim ss bl false := by simpa [hp] using c1
    have sp : tabS w lim most us kn 1 p = none := by
      unfold tabS
      rw [if_neg (by decide), if_pos rfl, if_neg (fun q => hp q.1)]
    by_cases hc : 0 < most
    · obtain ⟨G2, e2, t2, f2⟩ := keep_one (F := G1) T 0
      refine ⟨G2, ?_, p, false, c1'.fr f2 (nin 3 (by omega)) (nin 4 (by omega)) (nin 25 (by omega)), fun q => absurd q (by decide), fun _ q => absurd sp q, (f1.up (by simp)).tr (f2.up (by simp_all)), Or.inr (Or.inl t2.1), fun q => (q.fr f1 (by decide)).fr f2 (nin 42 (by omega))⟩
      rw [if_neg (fun q => absurd ((nI_leI (by omega) (by omega)).mp q) (by omega)), e2]; rfl
    · obtain ⟨G2, e2, c2, f2⟩ := wr_refuse c1'
      refine ⟨G2, ?_, p, false, c2, fun q => absurd q (by decide), fun _ q => absurd sp q, (f1.tr f2).up (by simp), ?_, fun q => (q.fr f1 (by decide)).fr f2 (by decide)⟩
      · rw [if_pos (nI_le (by omega) (by omega)), e2]; rfl
      · left
        rw [f2 i1 (by simpa using (hd i1 (by simp)).2.2.1), f1 i1 (by simpa using (hd i1 (by simp)).2.2.1)]

theorem pickN {N : Nat} {P : Nat → Nat → Prop} (h : ∀ i, i < N → ∃ k, P i k) : ∃ c : Nat → Nat, ∀ i, i < N → P i (c i) := by
  have hx : ∀ i : Nat, ∃ k : Nat, i < N → P i k := fun i => by
    by_cases hi : i < N
    · obtain ⟨k, q⟩ := h i hi
      exact ⟨k, fun _ => q⟩
    · exact ⟨0, fun q => absurd q hi⟩
  exact Classical.axiomOfChoice hx
theorem nI_byte {w : List Nat} (hw : ∀ b ∈ w, b < 256) (j : Nat) : w.getD j 0 < 256 := by
  by_cases q : j < w.length
  · exact hw _ (getD_mem q)
  · rw [List.getD_eq_getElem?_getD, List.getElem?_eq_none (by omega)]
    decide
theorem hv_lt {w : List Nat} (hw : ∀ b ∈ w, b < 256) (p i : Nat) : hv w p i < 16 := by
  have := nI_byte hw (p + i / 2)
  unfold hv
  split <;> omega
theorem sumh_le (c : Nat → Nat) (k : Nat) (h : ∀ i, c i ≤ k) : ∀ n, sumh c n ≤ k * n
  | 0 => by simp [sumh]
  | n + 1 => by have := sumh_le c k h n; have := h n; unfold sumh; rw [Nat.mul_succ]; omega
theorem g42 : mGl L1 42 = 12 := rfl
theorem a42 (F : Mem) (j : Nat) : mGa L1 F 42 j = F 42 j := if_pos (by decide)
theorem tc47 {F : Mem} {i1 n : Nat} {c : Nat → Nat} (hn : n ≤ 12) (hc : ∀ k, c k ≤ 15) (hF : ∀ k, k < n → F 42 k = nI (c k)) : ∀ (d i fu : Nat), d + i = n → d < fu → f_Sq_takeCounts_47 L1 fu 26 i1 (nI n) (nI (sumh c i)) (nI i) F =
    if sumh c n = 16 then (f_ST_keepCounts L1 i1 42 (nI n) F).bind fun F5 => some F5 else (f_Wr_refuse L1 25 F).bind fun F2 => some F2 := by
  intro d
  induction d with
  | zero =>
    intro i fu hd hf
    obtain ⟨fu, rfl⟩ : ∃ k, fu = k + 1 := ⟨fu - 1, by omega⟩
    obtain rfl : i = n := by omega
    show b_Sq_takeCounts_47 L1 (f_Sq_takeCounts_47 L1 fu) 26 i1 (nI i) _ _ F = _
    unfold b_Sq_takeCounts_47 b_Sq_takeCounts_94
    have := sumh_le c 15 hc i
    rw [ile (Nat.le_refl _) (by omega), r260, r264, l16]
    by_cases q : sumh c i = 16
    · rw [ieq q, if_pos q]
    · rw [ieqn q (by omega) (by omega), if_neg q]
  | succ d ih =>
    intro i fu hd hf
    obtain ⟨fu, rfl⟩ : ∃ k, fu = k + 1 := ⟨fu - 1, by omega⟩
    have := ih (i + 1) fu (by omega) (by omega)
    show b_Sq_takeCounts_47 L1 (f_Sq_takeCounts_47 L1 fu) 26 i1 (nI n) _ _ F = _
    unfold b_Sq_takeCounts_47
    rw [ilen (by omega) (by omega), r264, g42, if_neg (inb_no (by omega) (by omega)), a42, nI_clamp (by omega), hF i (by omega), nI_add, nI_1]
    exact this
theorem take_counts {F : Mem} {w : List Nat} {p lim ss bl : Nat} {ok : Bool} {i1 src most a1 a2 a3 a4 : Nat} {us : Nat → Nat} (kn : Option TT) (T : TI i1 src most a1 a2 a3 a4 us) (hct : CT F) (h : CR F w p lim ss bl ok) : ∃ G, f_Sq_takeCounts L1 26 i1 F = some G ∧ TO F G w lim ss bl ok (tabS w lim most us kn 2 p) i1 a1 a2 a3 a4 := by
  have hd := T.2.2.2.2.2.2.2.2.2
  have hm := T.2.2.2.2.1
  have nin : ∀ q, (q = 3 ∨ q = 4 ∨ q = 25 ∨ q = 26 ∨ q = 42) → q ∉ [i1, a1, a2, a3, a4] := fun q hq hmem => by have := hd q hmem; omega
  obtain ⟨G1, e1, c1, f1⟩ := wr_byte h
  have hw := h.2.2.2.2.2.2
  have i25 : i1 ≠ 25 := (hd i1 (by simp)).2.2.1
  have i42 : i1 ≠ 42 := (hd i1 (by simp)).2.2.2.2
  have hct1 : CT G1 := hct.fr f1 (by decide)
  -- what is refused
  have rf : ∀ (n : Nat) (F' : Mem) (p' : Nat) (ok' : Bool), CR F' w p' lim ss bl ok' → Fr [25, 42] F F' → CT F' → tabS w lim most us kn 2 p = none → ∃ G, (f_Wr_refuse L1 25 F').bind (fun F2 => some F2) = some G ∧ TO F G w lim ss bl ok (tabS w lim most us kn 2 p) i1 a1 a2 a3 a4 := by
    intro n F' p' ok' h' f' ct' sp
    obtain ⟨G2, e2, c2, f2⟩ := wr_refuse h'
    refine ⟨G2, by rw [e2]; rfl, p', false, c2, fun q => absurd q (by decide), fun _ q => absurd sp q, (f'.up (by simp)).tr (f2.up (by simp)), ?_, fun _ => ct'.fr f2 (by decide)⟩
    left
    rw [f2 i1 (by simpa using i25), f' i1 (by simp [i25, i42])]
  -- the counts are there
  have keep : ∀ (n : Nat) (c : Nat → Nat) (F' : Mem) (p' : Nat) (ok' : Bool), n ≤ most → (∀ k, c k ≤ 15) → (∀ k, n ≤ k → c k = 0) → (∀ k, k < n → F' 42 k = nI (c k)) → CR F' w p' lim ss bl ok' → Fr [25, 42] F F' → CT F' →
      (ok' = true → ok = true ∧ (sumh c 12 = 16 → tabS w lim most us kn 2 p = some (.inr c, p'))) → (tabS w lim most us kn 2 p ≠ none → sumh c 12 = 16 ∧ (ok = true → ok' = true)) → ∃ G, f_Sq_takeCounts_47 L1 mFU 26 i1 (nI n) (nI 0) (nI 0) F' = some G ∧ TO F G w lim ss bl ok (tabS w lim most us kn 2 p) i1 a1 a2 a3 a4 := by
    intro n c F' p' ok' hn hc hz hF h' f' ct' hok hno
    have ee := tc47 (i1 := i1) (show n ≤ 12 by omega) hc hF n 0 mFU (by omega) (by unfold mFU; omega)
    have e12 : sumh c 12 = sumh c n := by rw [← exl_sum, ← exl_sum, exl_z 12 (by omega) hz]
    rw [show nI (sumh c 0) = nI 0 from rfl] at ee
    rw [ee]
    by_cases q : sumh c n = 16
    · rw [if_pos q]
      obtain ⟨G, e, t, -, f⟩ := st_keep (T.2.1 n hn) c (by rw [exl_sum]; exact q) (by omega) (fun k _ => by have := hc k; omega) (fun k hk => by rw [a42]; exact hF k hk)
      have fr : Fr [i1, a1, a2, a3, a4] F' G := fun k hk => by
        simp only [List.mem_cons, List.not_mem_nil, or_false, not_or] at hk
        exact f k hk.1 hk.2.1 hk.2.2.1 hk.2.2.2.1 hk.2.2.2.2
      refine ⟨G, by rw [e]; rfl, p', ok', h'.fr fr (nin 3 (by omega)) (nin 4 (by omega)) (nin 25 (by omega)), fun o => ⟨(hok o).1, .inr c, (hok o).2 (by omega), t.ext (by omega) hz⟩, fun o s => (hno s).2 o, (f'.up (by simp)).tr (fr.up (by simp_all)), Or.inr (Or.inr t.1), fun _ => ct'.fr fr (nin 42 (by omega))⟩
    · rw [if_neg q]
      refine rf n F' p' ok' h' f' ct' ?_
      cases hs : tabS w lim most us kn 2 p with
      | none => rfl
      | some v => exact absurd (hno (by rw [hs]; simp)).1 (by omega)
  unfold f_Sq_takeCounts b_Sq_takeCounts_22
  rw [r260, e1]
  dsimp only [Option.bind_some]
  rw [T.2.2.1, T.2.2.2.1, r264, l1]
  have ts : tabS w lim most us kn 2 p = (if p < lim ∧ 1 ≤ w.getD p 0 ∧ w.getD p 0 ≤ most ∧ p + 1 + (w.getD p 0 + 1) / 2 ≤ lim ∧ (w.getD p 0 % 2 = 0 ∨ w.getD (p + 1 + w.getD p 0 / 2) 0 % 16 = 0) ∧ sumh (hc w (p + 1) (w.getD p 0)) 12 = 16 then some (.inr (hc w (p + 1) (w.getD p 0)), p + 1 + (w.getD p 0 + 1) / 2) else none) := by
    unfold tabS
    rw [if_neg (by decide), if_neg (by decide), if_pos rfl]
  by_cases hp : p < lim
  · have hb : w.getD p 0 < 256 := nI_byte hw p
    rw [if_pos hp] at c1 ⊢
    have c1' : CR G1 w (p + 1) lim ss bl ok := by simpa [hp] using c1
    by_cases h1 : w.getD p 0 < 1
    · rw [ilt h1 (by omega)]
      exact rf 0 G1 _ _ c1' (f1.up (by simp)) hct1 (by rw [ts, if_neg (by omega)])
    · rw [iltn (by omega) (by omega)]
      by_cases h2 : w.getD p 0 ≤ most
      · rw [ile h2 (by omega)]
        obtain ⟨G2, e2, c2, f2⟩ := wr_halves c1' (n := w.getD p 0) (a := 42) (by omega) (by decide) (show w.getD p 0 ≤ 12 by omega) (show 12 < 2 ^ 20 by decide) (by decide) (by decide) (by decide)
        rw [e2]
        dsimp only [Option.bind_some]
        rw [l0]
        by_cases h3 : p + 1 + (w.getD p 0 + 1) / 2 ≤ lim
        · rw [if_pos h3] at c2
          obtain ⟨c2, v2, n2⟩ := c2
          have hcl : ∀ k, hc w (p + 1) (w.getD p 0) k ≤ 15 := fun k => by
            have := hv_lt hw (p + 1) k
            unfold hc
            split <;> omega
          refine keep (w.getD p 0) (hc w (p + 1) (w.getD p 0)) G2 _ _ h2 hcl (fun k hk => if_neg (by omega)) (fun k hk => ?_) c2 ((f1.up (by simp)).tr (f2.up (by simp))) (fun i hi => ?_) ?_ ?_
          · rw [v2 k hk]
            congr 1
            exact (if_pos hk).symm
          · by_cases hk : i < w.getD p 0
            · exact ⟨_, hv_lt hw (p + 1) i, v2 i hk⟩
            · rw [n2 i (by omega)]
              exact hct1 i hi
          · intro o
            have o' : ok = true ∧ (w.getD p 0 % 2 = 0 ∨ w.getD (p + 1 + w.getD p 0 / 2) 0 % 16 = 0) := by simpa using o
            refine ⟨o'.1, fun s => ?_⟩
            rw [ts, if_pos ⟨hp, by omega, h2, h3, o'.2, s⟩]
          · intro s
            rw [ts] at s
            by_cases q : p < lim ∧ 1 ≤ w.getD p 0 ∧ w.getD p 0 ≤ most ∧ p + 1 + (w.getD p 0 + 1) / 2 ≤ lim ∧ (w.getD p 0 % 2 = 0 ∨ w.getD (p + 1 + w.getD p 0 / 2) 0 % 16 = 0) ∧ sumh (hc w (p + 1) (w.getD p 0)) 12 = 16
            · refine ⟨q.2.2.2.2.2, fun o => ?_⟩
              rw [o, decide_eq_true q.2.2.2.2.1]
              rfl
            · rw [if_neg q] at s
              exact absurd rfl s
        · rw [if_neg h3] at c2
          obtain ⟨c2, v2⟩ := c2
          obtain ⟨c, hcc⟩ := pickN hct1
          refine keep (w.getD p 0) (fun k => if k < w.getD p 0 then c k else 0) G2 _ _ h2 (fun k => ?_) (fun k hk => if_neg (by omega)) (fun k hk => ?_) c2 ((f1.up (by simp)).tr (f2.up (by simp))) (fun i hi => ?_) (fun o => absurd o (by decide)) ?_
          · by_cases hk : k < w.getD p 0
            · have := (hcc k (by omega)).1
              simp only [if_pos hk]
              omega
            · simp only [if_neg hk]
              omega
          · rw [v2 k, (hcc k (by omega)).2]
            simp only [if_pos hk]
          · rw [v2 i]
            exact hct1 i hi
          · intro s
            rw [ts, if_neg (by omega)] at s
            exact absurd rfl s
      · rw [ilen (by omega) (by omega)]
        exact rf 0 G1 _ _ c1' (f1.up (by simp)) hct1 (by rw [ts, if_neg (by omega)])
  · rw [if_neg hp] at c1 ⊢
    rw [ilt (by omega) (by omega)]
    exact rf 0 G1 _ _ c1 (f1.up (by simp)) hct1 (by rw [ts, if_neg (by omega)])
