/-! pure: CONTENT is divided; the class -/
def runL (c : List Nat) (q p : Nat) : Nat → Nat → Nat
  | 0, n => n
  | r + 1, n => if c.getD (q + n) 0 = c.getD (p + n) 0 then runL c q p r (n + 1) else n
def runS (c : List Nat) (q p : Nat) : Nat := runL c q p (c.length - p) 0
def bestS (c : List Nat) (p : Nat) : Nat → Nat × Nat
  | 0 => (0, 0)
  | q + 1 => if (bestS c p q).1 ≤ runS c q p then (runS c q p, q) else bestS c p q
theorem runL_le (c : List Nat) (q p : Nat) : ∀ r n, runL c q p r n ≤ r + n
  | 0, n => by show n ≤ 0 + n; omega
  | r + 1, n => by
    unfold runL
    split
    · have := runL_le c q p r (n + 1)
      omega
    · omega
theorem runS_le (c : List Nat) (q p : Nat) : runS c q p ≤ c.length - p := runL_le c q p (c.length - p) 0
theorem bestS_b (c : List Nat) (p : Nat) : ∀ k, (bestS c p k).1 ≤ c.length - p ∧ ((bestS c p k).1 = 0 ∨ (bestS c p k).2 < k) ∧ (bestS c p k).2 ≤ k
  | 0 => ⟨Nat.zero_le _, Or.inl rfl, Nat.le_refl _⟩
  | k + 1 => by
    obtain ⟨h1, h2, h3⟩ := bestS_b c p k
    unfold bestS
    split
    · exact ⟨runS_le c k p, Or.inr (Nat.lt_succ_self k), Nat.le_succ k⟩
    · refine ⟨h1, ?_, by omega⟩
      rcases h2 with h2 | h2
      · exact Or.inl h2
      · exact Or.inr (by omega)
def valS (y l : Nat) (r : N3) : Nat := if wayS 1 l r = y then 1 else if wayS 2 l r = y then 2 else if wayS 3 l r = y then 3 else y + 3
theorem valS_b (y l : Nat) (r : N3) : 1 ≤ valS y l r ∧ valS y l r ≤ y + 3 := by
  unfold valS
  repeat' split
  all_goals omega
theorem wayS_val {y : Nat} (l : Nat) (r : N3) (hy : 1 ≤ y) : wayS (valS y l r) l r = y := by
  unfold valS
  split
  · assumption
  · split
    · assumption
    · split
      · assumption
      · unfold wayS
        rw [if_pos (by omega)]
        omega
abbrev PS : Type := List Nat × List N3 × N3
def parseS (c : List Nat) : Nat → Nat → Nat → PS → PS
  | 0, _, _, x => x
  | k + 1, p, l, x => if c.length ≤ p then x else if 3 ≤ (bestS c p p).1 then parseS c k (p + (bestS c p p).1) 0 (x.1, x.2.1 ++ [(valS (p - (bestS c p p).2) l x.2.2, (bestS c p p).1, l)], keepS (valS (p - (bestS c p p).2) l x.2.2) l (p - (bestS c p p).2) x.2.2) else parseS c k (p + 1) (l + 1) (x.1 ++ [c.getD p 0], x.2)
/-- a sequence of the packer's -/
def PQ (q : N3) : Prop := (1 ≤ q.1 ∧ q.1 ≤ 122) ∧ (3 ≤ q.2.1 ∧ q.2.1 ≤ 119) ∧ q.2.2 ≤ 119
/-- what holds at place p of c -/
def PI (c : List Nat) (p l : Nat) (x : PS) : Prop := p ≤ c.length ∧ x.1.length + 3 * x.2.1.length ≤ p ∧ l ≤ p ∧ (∀ b ∈ x.1, b < 256) ∧ (∀ q ∈ x.2.1, PQ q) ∧ RB x.2.2
theorem PI.lit {c : List Nat} {p l : Nat} {x : PS} (hc : ∀ b ∈ c, b < 256) (h : PI c p l x) (hp : p < c.length) : PI c (p + 1) (l + 1) (x.1 ++ [c.getD p 0], x.2) := by
  obtain ⟨h1, h2, h3, h4, h5, h6⟩ := h
  refine ⟨by omega, by simp; omega, by omega, fun b hb => ?_, h5, h6⟩
  rcases List.mem_append.mp hb with q | q
  · exact h4 b q
  · rw [List.mem_singleton] at q
    rw [q]
    exact nI_byte hc p
theorem PI.seq {c : List Nat} {p l : Nat} {x : PS} (hc : c.length ≤ 120) (h : PI c p l x) (hp : p < c.length) (hb : 3 ≤ (bestS c p p).1) : PI c (p + (bestS c p p).1) 0 (x.1, x.2.1 ++ [(valS (p - (bestS c p p).2) l x.2.2, (bestS c p p).1, l)], keepS (valS (p - (bestS c p p).2) l x.2.2) l (p - (bestS c p p).2) x.2.2) ∧ (bestS c p p).2 < p ∧ x.2.1.length < 40 ∧ 1 ≤ p := by
  obtain ⟨h1, h2, h3, h4, h5, h6⟩ := h
  obtain ⟨b1, b2, b3⟩ := bestS_b c p p
  have b4 : (bestS c p p).2 < p := by omega
  obtain ⟨v1, v2⟩ := valS_b (p - (bestS c p p).2) l x.2.2
  refine ⟨⟨by omega, by simp; omega, by omega, h4, fun q hq => ?_, keepS_rb h6 (by omega) (by omega)⟩, b4, by omega, by omega⟩
  rcases List.mem_append.mp hq with q1 | q1
  · exact h5 q q1
  · rw [List.mem_singleton] at q1
    subst q1
    exact ⟨⟨v1, by dsimp only; omega⟩, ⟨hb, by dsimp only; omega⟩, by dsimp only; omega⟩
/-- the end of the parse is as good as its beginning -/
theorem parse_pi {c : List Nat} (hc : c.length ≤ 120) (hb : ∀ b ∈ c, b < 256) : ∀ (k p l : Nat) (x : PS), c.length ≤ p + k → PI c p l x → ∃ p' l', PI c p' l' (parseS c k p l x)
  | 0, p, l, x, hk, h => ⟨p, l, h⟩
  | k + 1, p, l, x, hk, h => by
    unfold parseS
    by_cases q0 : c.length ≤ p
    · rw [if_pos q0]
      exact ⟨p, l, h⟩
    · rw [if_neg q0]
      by_cases q1 : 3 ≤ (bestS c p p).1
      · rw [if_pos q1]
        exact parse_pi hc hb k _ _ _ (by omega) (h.seq hc (by omega) q1).1
      · rw [if_neg q1]
        exact parse_pi hc hb k _ _ _ (by omega) (h.lit hb (by omega))
/-! ways back, at any Repeats -/
def RPx (F : Mem) (i : Nat) (r : N3) : Prop := F i 0 = nI r.1 ∧ F i 1 = nI r.2.1 ∧ F i 2 = nI r.2.2
theorem rpx_way {F : Mem} {i : Nat} {r : N3} (h : RPx F i r) (hb : RB r) {v a : Nat} (hv : v < 256) (ha : a < 2 ^ 20) : f_Rp_wayFor L1 i (nI v) (nI a) F = some (nI (wayS v a r), F) := by
  obtain ⟨h1, h2, h3⟩ := h
  obtain ⟨⟨k1, k1'⟩, ⟨k2, k2'⟩, ⟨k3, k3'⟩⟩ := hb
  have hi : iS v a < 2 ^ 20 := by unfold iS; split <;> omega
  unfold f_Rp_wayFor
  rw [rp_i hv ha (fun y => b_Rp_wayFor_20 L1 i y F)]
  unfold b_Rp_wayFor_20 wayS
  by_cases q : 3 < v
  · rw [l3, ilen q (by omega), pk_sub (by omega), if_pos q]
  · rw [l3, ile (by omega) (by omega), if_neg q, l1, l2, h1, h2, h3]
    by_cases q1 : iS v a = 1
    · rw [ieq q1, if_pos q1]
    · rw [ieqn q1 (by omega) (by omega), if_neg q1]
      by_cases q2 : iS v a = 2
      · rw [ieq q2, if_pos q2]
      · rw [ieqn q2 (by omega) (by omega), if_neg q2]
        by_cases q3 : iS v a = 3
        · rw [ieq q3, if_pos q3]
        · rw [ieqn q3 (by omega) (by omega), if_neg q3, pk_sub k1]
theorem rpx_keep {F : Mem} {i : Nat} {r : N3} (h : RPx F i r) (hb : RB r) {v a : Nat} (hv1 : 1 ≤ v) (hv : v < 256) (ha : a < 2 ^ 20) : ∃ G, f_Rp_keepWay L1 i (nI v) (nI a) F = some G ∧ RPx G i (keepS v a (wayS v a r) r) ∧ Fr [i] F G := by
  have ew := rpx_way h hb hv ha
  obtain ⟨h1, h2, h3⟩ := id h
  have hi : iS v a < 2 ^ 20 := by unfold iS; split <;> omega
  have hi1 : 1 ≤ iS v a := by unfold iS; split <;> omega
  obtain ⟨y, ey⟩ : ∃ y, y = wayS v a r := ⟨_, rfl⟩
  rw [← ey] at ew ⊢
  unfold f_Rp_keepWay
  rw [ew]
  dsimp only [Option.bind_some]
  rw [rp_i hv ha (fun z => b_Rp_keepWay_18 L1 i (nI y) z F)]
  unfold b_Rp_keepWay_18 b_Rp_keepWay_41 keepS
  by_cases q1 : iS v a = 1
  · rw [l1, ieq q1, if_pos q1]
    exact ⟨F, rfl, h, Fr.rf⟩
  · rw [l1, ieqn q1 (by omega) (by omega), if_neg q1, l2]
    by_cases q2 : iS v a = 2
    · rw [ile (by omega) (by omega), if_pos q2, ld, ld]
      refine ⟨_, rfl, ⟨u2_s, ?_, ?_⟩, (Fr.u (by simp)).tr (Fr.u (by simp))⟩
      · rw [u2_p (by decide), u2_s]; exact h1
      · rw [u2_p (by decide), u2_p (by decide)]; exact h3
    · rw [ilen (by omega) (by omega), if_neg q2, ld, ld, ld]
      refine ⟨_, rfl, ⟨u2_s, ?_, ?_⟩, ((Fr.u (by simp)).tr (Fr.u (by simp))).tr (Fr.u (by simp))⟩
      · rw [u2_p (by decide), u2_s, u2_p (by decide)]; exact h1
      · rw [u2_p (by decide), u2_p (by decide), u2_s]; exact h2
theorem rpx_least {F : Mem} {i : Nat} {r : N3} (h : RPx F i r) (hb : RB r) {y a : Nat} (hy : y < 200) (ha : a < 2 ^ 20) : f_Rp_leastValueFor L1 i (nI y) (nI a) F = some (nI (valS y a r), F) := by
  have w1 := wayS_le (v := 1) (a := a) hb (by decide)
  have w2 := wayS_le (v := 2) (a := a) hb (by decide)
  have w3 := wayS_le (v := 3) (a := a) hb (by decide)
  show b_Rp_leastValueFor_2 L1 (f_Rp_leastValueFor_2 L1 4095) i (nI y) (nI a) (nI 1) F = _
  unfold b_Rp_leastValueFor_2 valS
  rw [if_neg (show ¬ (3 : Int32) < nI 1 by decide), rpx_way h hb (by decide) ha]
  dsimp only [Option.bind_some]
  by_cases q1 : wayS 1 a r = y
  · rw [ieq q1, if_pos q1]
  · rw [ieqn q1 (by omega) (by omega), if_neg q1]
    show b_Rp_leastValueFor_2 L1 (f_Rp_leastValueFor_2 L1 4094) i (nI y) (nI a) (nI 2) F = _
    unfold b_Rp_leastValueFor_2
    rw [if_neg (show ¬ (3 : Int32) < nI 2 by decide), rpx_way h hb (by decide) ha]
    dsimp only [Option.bind_some]
    by_cases q2 : wayS 2 a r = y
    · rw [ieq q2, if_pos q2]
    · rw [ieqn q2 (by omega) (by omega), if_neg q2]
      show b_Rp_leastValueFor_2 L1 (f_Rp_leastValueFor_2 L1 4093) i (nI y) (nI a) (nI 3) F = _
      unfold b_Rp_leastValueFor_2
      rw [if_neg (show ¬ (3 : Int32) < nI 3 by decide), rpx_way h hb (by decide) ha]
      dsimp only [Option.bind_some]
      by_cases q3 : wayS 3 a r = y
      · rw [ieq q3, if_pos q3]
      · rw [ieqn q3 (by omega) (by omega), if_neg q3]
        show b_Rp_leastValueFor_2 L1 (f_Rp_leastValueFor_2 L1 4092) i (nI y) (nI a) (nI 4) F = _
        unfold b_Rp_leastValueFor_2
        rw [if_pos (show (3 : Int32) < nI 4 by decide), l3, nI_add]
/-! the class's finder: cell 59 -/
theorem r590 : mRf L1 59 0 = 1 := rfl
theorem r591 : mRf L1 59 1 = 60 := rfl
theorem r592 : mRf L1 59 2 = 62 := rfl
theorem r593 : mRf L1 59 3 = 63 := rfl
theorem r594 : mRf L1 59 4 = 64 := rfl
theorem r595 : mRf L1 59 5 = 65 := rfl
theorem rs60 : RS L1 60 61 120 := ⟨rfl, by decide, rfl, by decide, by decide⟩
theorem fl19 {c : List Nat} (hc : c.length ≤ 120) (hby : ∀ b ∈ c, b < 256) {p q : Nat} (hq : q < p) (hp : p < c.length) {F : Mem} (hd : RD F 1 2 c) {b fr : Nat} (hb : b ≤ 120) (h8 : F 59 8 = nI b) (h7 : F 59 7 = nI fr) (k12 : Nat → Int32 → Int32 → Mem → Option Mem) : ∀ (d n fu : Nat), d + n + p = c.length → d < fu → runS c q p = runL c q p d n →
    ∃ G, f_Mf_findLongest_19 L1 k12 fu 59 (nI p) (nI q) (nI n) F = k12 59 (nI p) (nI (q + 1)) G ∧ G 59 8 = nI (if b ≤ runS c q p then runS c q p else b) ∧ G 59 7 = nI (if b ≤ runS c q p then q else fr) ∧ Fr [59] F G ∧ (∀ j, j ≠ 7 → j ≠ 8 → G 59 j = F 59 j) := by
  have e63 : ∃ G, b_Mf_findLongest_63 L1 k12 59 (nI p) (nI q) (nI (runS c q p)) F = k12 59 (nI p) (nI (q + 1)) G ∧ G 59 8 = nI (if b ≤ runS c q p then runS c q p else b) ∧ G 59 7 = nI (if b ≤ runS c q p then q else fr) ∧ Fr [59] F G ∧ (∀ j, j ≠ 7 → j ≠ 8 → G 59 j = F 59 j) := by
    have hr := runS_le c q p
    unfold b_Mf_findLongest_63 b_Mf_findLongest_81
    rw [h8, nI_1]
    by_cases q1 : b ≤ runS c q p
    · rw [iltn q1 (by omega), ld, ld, if_pos q1, if_pos q1]
      exact ⟨_, rfl, by rw [u2_p (by decide), u2_s], u2_s, (Fr.u (by simp)).tr (Fr.u (by simp)), fun j h1 h2 => by rw [u2_p h1, u2_p h2]⟩
    · rw [ilt (by omega) (by omega), if_neg q1, if_neg q1]
      exact ⟨F, rfl, h8, h7, Fr.rf, fun _ _ _ => rfl⟩
  intro d
  induction d with
  | zero =>
    intro n fu hd' hf hr
    obtain ⟨fu, rfl⟩ : ∃ k, fu = k + 1 := ⟨fu - 1, by omega⟩
    show ∃ G, b_Mf_findLongest_19 L1 k12 (f_Mf_findLongest_19 L1 k12 fu) 59 (nI p) (nI q) (nI n) F = _ ∧ _
    unfold b_Mf_findLongest_19
    rw [r590, hd.1, nI_add, ile (by omega) (by omega), show n = runS c q p from hr.symm]
    exact e63
  | succ d ih =>
    intro n fu hd' hf hr
    obtain ⟨fu, rfl⟩ : ∃ k, fu = k + 1 := ⟨fu - 1, by omega⟩
    show ∃ G, b_Mf_findLongest_19 L1 k12 (f_Mf_findLongest_19 L1 k12 fu) 59 (nI p) (nI q) (nI n) F = _ ∧ _
    unfold b_Mf_findLongest_19
    have eq1 : mGa L1 F 2 (nI (q + n)).toNatClampNeg = nI (c.getD (q + n) 0) := by rw [rs1.ga, nI_clamp (by omega), hd.2 _ (by omega)]
    have eq2 : mGa L1 F 2 (nI (p + n)).toNatClampNeg = nI (c.getD (p + n) 0) := by rw [rs1.ga, nI_clamp (by omega), hd.2 _ (by omega)]
    rw [r590, hd.1, nI_add, nI_add, ilen (by omega) (by omega), rs1.1, rs1.gl, if_neg (inb_no (n := q + n) (by omega) (by omega)), if_neg (inb_no (n := p + n) (by omega) (by omega)), eq1, eq2]
    unfold runL at hr
    by_cases q1 : c.getD (q + n) 0 = c.getD (p + n) 0
    · rw [if_pos q1] at hr
      rw [ieq q1, nI_1]
      exact ih (n + 1) fu (by omega) (by omega) hr
    · rw [if_neg q1] at hr
      have y1 := nI_byte hby (q + n)
      have y2 := nI_byte hby (p + n)
      rw [ieqn q1 (by omega) (by omega), ← hr]
      exact e63
theorem fl12 {c : List Nat} (hc : c.length ≤ 120) (hby : ∀ b ∈ c, b < 256) {p : Nat} (hp : p < c.length) : ∀ (d q : Nat) (F : Mem) (fu : Nat), d + q = p → d < fu → RD F 1 2 c → F 59 8 = nI (bestS c p q).1 → F 59 7 = nI (bestS c p q).2 →
    ∃ G, f_Mf_findLongest_12 L1 fu 59 (nI p) (nI q) F = some G ∧ G 59 8 = nI (bestS c p p).1 ∧ G 59 7 = nI (bestS c p p).2 ∧ Fr [59] F G ∧ (∀ j, j ≠ 7 → j ≠ 8 → G 59 j = F 59 j) := by
  intro d
  induction d with
  | zero =>
    intro q F fu hd' hf hd h8 h7
    obtain ⟨fu, rfl⟩ : ∃ k, fu = k + 1 := ⟨fu - 1, by omega⟩
    obtain rfl : q = p := by omega
    refine ⟨F, ?_, h8, h7, Fr.rf, fun _ _ _ => rfl⟩
    show b_Mf_findLongest_12 L1 (f_Mf_findLongest_12 L1 fu) 59 (nI q) (nI q) F = _
    unfold b_Mf_findLongest_12
    rw [ile (by omega) (by omega)]
  | succ d ih =>
    intro q F fu hd' hf hd h8 h7
    obtain ⟨fu, rfl⟩ : ∃ k, fu = k + 1 := ⟨fu - 1, by omega⟩
    obtain ⟨b1, b2, b3⟩ := bestS_b c p q
    obtain ⟨A, eA, a8, a7, fA, jA⟩ := fl19 hc hby (q := q) (by omega) hp hd (b := (bestS c p q).1) (fr := (bestS c p q).2) (by omega) h8 h7 (f_Mf_findLongest_12 L1 fu) (c.length - p) 0 mFU (by omega) (by unfold mFU; omega) rfl
    have eb : bestS c p (q + 1) = if (bestS c p q).1 ≤ runS c q p then (runS c q p, q) else bestS c p q := rfl
    obtain ⟨G, eG, g8, g7, fG, jG⟩ := ih (q + 1) A fu (by omega) (by omega) (hd.fr fA (by decide) (by decide)) (by rw [a8, eb]; split <;> rfl) (by rw [a7, eb]; split <;> rfl)
    refine ⟨G, ?_, g8, g7, fA.tr fG, fun j h1 h2 => by rw [jG j h1 h2, jA j h1 h2]⟩
    show b_Mf_findLongest_12 L1 (f_Mf_findLongest_12 L1 fu) 59 (nI p) (nI q) F = _
    unfold b_Mf_findLongest_12
    rw [ilen (by omega) (by omega)]
    exact eA.trans eG
theorem mf_longest {c : List Nat} (hc : c.length ≤ 120) (hby : ∀ b ∈ c, b < 256) {p : Nat} (hp : p < c.length) {F : Mem} (hd : RD F 1 2 c) : ∃ G, f_Mf_findLongest L1 59 (nI p) F = some G ∧ G 59 8 = nI (bestS c p p).1 ∧ G 59 7 = nI (bestS c p p).2 ∧ Fr [59] F G ∧ (∀ j, j ≠ 7 → j ≠ 8 → G 59 j = F 59 j) := by
  have f1 : Fr [59] F (u2 (u2 F 59 8 0) 59 7 0) := (Fr.u (by simp)).tr (Fr.u (by simp))
  obtain ⟨G, e, g8, g7, fG, jG⟩ := fl12 hc hby hp p 0 (u2 (u2 F 59 8 0) 59 7 0) mFU (by omega) (by unfold mFU; omega) (hd.fr f1 (by decide) (by decide)) (by rw [u2_p (by decide), u2_s]; rfl) (by rw [u2_s]; rfl)
  exact ⟨G, e, g8, g7, f1.tr fG, fun j h1 h2 => by rw [jG j h1 h2, u2_p h1, u2_p h2]⟩
/-- the sequences stand in the class's arrays -/
def CQ (F : Mem) (qs : List N3) : Prop := F 59 6 = nI qs.length ∧ ∀ i, i < qs.length → F 63 i = nI (qs.getD i (0, 0, 0)).1 ∧ F 64 i = nI (qs.getD i (0, 0, 0)).2.1 ∧ F 62 i = nI (qs.getD i (0, 0, 0)).2.2
theorem getD_app {α : Type} {xs : List α} {x d : α} {i : Nat} : (xs ++ [x]).getD i d = if i < xs.length then xs.getD i d else if i = xs.length then x else d := by
  rw [List.getD_eq_getElem?_getD]
  by_cases h : i < xs.length
  · rw [if_pos h, List.getElem?_append_left h, List.getD_eq_getElem?_getD]
  · rw [if_neg h]
    by_cases e : i = xs.length
    · subst e
      rw [if_pos rfl]
      simp
    · rw [if_neg e, List.getElem?_eq_none (by simp; omega)]
      rfl
theorem mf_add {F : Mem} {qs : List N3} {r : N3} {l y m : Nat} (hq : CQ F qs) (hn : qs.length < 40) (hr : RPx F 65 r) (hb : RB r) (hy1 : 1 ≤ y) (hy : y ≤ 119) (hl : l ≤ 120) (hm : F 59 8 = nI m) :
    ∃ G, f_Mf_addSequence L1 59 (nI l) (nI y) F = some G ∧ CQ G (qs ++ [(valS y l r, m, l)]) ∧ RPx G 65 (keepS (valS y l r) l y r) ∧ Fr [59, 62, 63, 64, 65] F G ∧ G 59 8 = nI m := by
  obtain ⟨v1, v2⟩ := valS_b y l r
  obtain ⟨A, eA, kA, fA⟩ := rpx_keep hr hb v1 (show valS y l r < 256 by omega) (show l < 2 ^ 20 by omega)
  rw [wayS_val l r hy1] at kA
  have a6 : A 59 6 = nI qs.length := by rw [fA 59 (by decide)]; exact hq.1
  obtain ⟨B, hB⟩ : ∃ B, B = u2 (u2 (u2 (u2 A 62 qs.length (nI l)) 63 qs.length (nI (valS y l r))) 64 qs.length (nI m)) 59 6 (nI (qs.length + 1)) := ⟨_, rfl⟩
  have fB : Fr [59, 62, 63, 64] A B := by
    rw [hB]
    exact (((Fr.u (by simp)).tr (Fr.u (by simp))).tr (Fr.u (by simp))).tr (Fr.u (by simp))
  have a8 : A 59 8 = nI m := by rw [fA 59 (by decide)]; exact hm
  refine ⟨B, ?_, ⟨?_, fun i hi => ?_⟩, ?_, (fA.up (by simp)).tr (fB.up (by simp)), ?_⟩
  · unfold f_Mf_addSequence
    rw [hq.1, if_pos (show nI qs.length < (40 : Int32) from nI_lt (b := 40) hn (by omega)), r595, r592, r593, r594, rpx_least hr hb (by omega) (by omega)]
    dsimp only [Option.bind_some]
    rw [eA]
    dsimp only [Option.bind_some]
    rw [a6, show mLn L1 62 = 40 from rfl, show mLn L1 63 = 40 from rfl, show mLn L1 64 = 40 from rfl, if_neg (in_w (n := qs.length) (by omega) (by omega) (show 62 < mNc L1 by decide)), ld, u2_c (show (59 : Nat) ≠ 62 by decide), a6, if_neg (in_w (n := qs.length) (by omega) (by omega) (show 63 < mNc L1 by decide)), ld, u2_c (show (59 : Nat) ≠ 63 by decide), u2_c (show (59 : Nat) ≠ 62 by decide), u2_c (show (59 : Nat) ≠ 63 by decide), u2_c (show (59 : Nat) ≠ 62 by decide), a6, a8, if_neg (in_w (n := qs.length) (by omega) (by omega) (show 64 < mNc L1 by decide)), ld, ld, u2_c (show (59 : Nat) ≠ 64 by decide), u2_c (show (59 : Nat) ≠ 63 by decide), u2_c (show (59 : Nat) ≠ 62 by decide), a6, nI_clamp (by omega), nI_1, hB]
  · rw [hB, u2_s]; simp
  · rw [getD_app]
    by_cases e : i < qs.length
    · obtain ⟨q1, q2, q3⟩ := hq.2 i e
      rw [if_pos e, hB, u2_c (by decide), u2_c (by decide), u2_p (by omega), u2_c (by decide), fA 63 (by decide), u2_c (by decide), u2_p (by omega), u2_c (by decide), u2_c (by decide), fA 64 (by decide), u2_c (by decide), u2_c (by decide), u2_c (by decide), u2_p (by omega), fA 62 (by decide)]
      exact ⟨q1, q2, q3⟩
    · have e' : i = qs.length := by simp at hi; omega
      subst e'
      rw [if_neg (by omega), if_pos rfl, hB]
      refine ⟨?_, ?_, ?_⟩
      · rw [u2_c (by decide), u2_c (by decide), u2_s]
      · rw [u2_c (by decide), u2_s]
      · rw [u2_c (by decide), u2_c (by decide), u2_c (by decide), u2_s]
  · unfold RPx at *
    rw [fB 65 (by decide)]
    exact kA
  · rw [hB, u2_p (by decide), u2_c (by decide), u2_c (by decide), u2_c (by decide)]
    exact a8
theorem CQ.fr {F G : Mem} {qs : List N3} {S : List Nat} (h : CQ F qs) (f : Fr S F G) (n1 : 62 ∉ S) (n2 : 63 ∉ S) (n3 : 64 ∉ S) (e : G 59 6 = F 59 6) : CQ G qs := by
  unfold CQ at *
  rw [f 62 n1, f 63 n2, f 64 n3, e]
  exact h
theorem mf_divide24 {c : List Nat} (hc : c.length ≤ 120) (hby : ∀ b ∈ c, b < 256) : ∀ (k p l : Nat) (F : Mem) (x : PS) (fu : Nat), c.length ≤ p + k → k < fu → PI c p l x → RD F 1 2 c → RD F 60 61 x.1 → CQ F x.2.1 → RPx F 65 x.2.2 →
    ∃ G, f_Mf_divide_24 L1 fu 59 (nI l) (nI p) F = some G ∧ RD G 60 61 (parseS c k p l x).1 ∧ CQ G (parseS c k p l x).2.1 ∧ Fr [59, 60, 61, 62, 63, 64, 65] F G := by
  have fin : ∀ (p l k : Nat) (F : Mem) (x : PS) (fu : Nat), c.length ≤ p → PI c p l x → RD F 1 2 c → f_Mf_divide_24 L1 (fu + 1) 59 (nI l) (nI p) F = some F := fun p l k F x fu hp pi hd => by
    show b_Mf_divide_24 L1 (f_Mf_divide_24 L1 fu) 59 (nI l) (nI p) F = _
    have := pi.1
    unfold b_Mf_divide_24
    rw [r590, hd.1, ile hp (by omega)]
  intro k
  induction k with
  | zero =>
    intro p l F x fu hk hf pi hd hl hq hr
    obtain ⟨fu, rfl⟩ : ∃ k, fu = k + 1 := ⟨fu - 1, by omega⟩
    exact ⟨F, fin p l 0 F x fu (by omega) pi hd, hl, hq, Fr.rf⟩
  | succ k ih =>
    intro p l F x fu hk hf pi hd hl hq hr
    obtain ⟨fu, rfl⟩ : ∃ k, fu = k + 1 := ⟨fu - 1, by omega⟩
    by_cases q0 : c.length ≤ p
    · have es : parseS c (k + 1) p l x = x := by rw [parseS, if_pos q0]
      rw [es]
      exact ⟨F, fin p l 0 F x fu q0 pi hd, hl, hq, Fr.rf⟩
    · obtain ⟨A, eA, a8, a7, fA, jA⟩ := mf_longest hc hby (p := p) (by omega) hd
      obtain ⟨b1, b2, b3⟩ := bestS_b c p p
      have hdA := hd.fr fA (by decide) (by decide)
      have hlA := hl.fr fA (by decide) (by decide)
      have hqA : CQ A x.2.1 := hq.fr fA (by decide) (by decide) (by decide) (jA 6 (by decide) (by decide))
      have hrA : RPx A 65 x.2.2 := by unfold RPx at *; rw [fA 65 (by decide)]; exact hr
      by_cases q1 : 3 ≤ (bestS c p p).1
      · obtain ⟨pi', c1, c2, c3⟩ := pi.seq hc (by omega) q1
        obtain ⟨B, eB, qB, rB, fB, b8⟩ := mf_add (y := p - (bestS c p p).2) (l := l) hqA c2 hrA pi.2.2.2.2.2 (by omega) (by omega) (by have := pi.2.2.1; omega) a8
        obtain ⟨G, eG, gl, gq, fG⟩ := ih (p + (bestS c p p).1) 0 B _ fu (by omega) (by omega) pi' (hdA.fr fB (by decide) (by decide)) (hlA.fr fB (by decide) (by decide)) qB rB
        have es : parseS c (k + 1) p l x = parseS c k (p + (bestS c p p).1) 0 (x.1, x.2.1 ++ [(valS (p - (bestS c p p).2) l x.2.2, (bestS c p p).1, l)], keepS (valS (p - (bestS c p p).2) l x.2.2) l (p - (bestS c p p).2) x.2.2) := by rw [parseS, if_neg q0, if_pos q1]
        rw [es]
        refine ⟨G, ?_, gl, gq, ((fA.up (by simp)).tr (fB.up (by simp))).tr fG⟩
        show b_Mf_divide_24 L1 (f_Mf_divide_24 L1 fu) 59 (nI l) (nI p) F = _
        unfold b_Mf_divide_24 b_Mf_divide_92
        rw [r590, r591, hd.1, ilen (by omega) (by omega), eA]
        dsimp only [Option.bind_some]
        rw [if_neg (show ¬ A 59 8 < (3 : Int32) by rw [a8]; exact fun q => absurd ((nI_ltI (b := 3) (by omega) (by omega)).mp q) (by omega)), a7, pk_sub (by omega), eB]
        dsimp only [Option.bind_some]
        rw [b8, l1, pk_sub (by omega), nI_add, nI_add, show p + ((bestS c p p).1 - 1) + 1 = p + (bestS c p p).1 by omega]
        exact eG
      · have pi' := pi.lit hby (by omega)
        have y := nI_byte hby p
        obtain ⟨B, eB, dB, fB⟩ := row_add rs60 hlA (by have := pi.2.1; omega) (x := nI (c.getD p 0)) _ (byte_255 y)
        obtain ⟨G, eG, gl, gq, fG⟩ := ih (p + 1) (l + 1) B _ fu (by omega) (by omega) pi' (hdA.fr fB (by decide) (by decide)) dB (hqA.fr fB (by decide) (by decide) (by decide) (by rw [fB 59 (by decide)])) (by unfold RPx at *; rw [fB 65 (by decide)]; exact hrA)
        have es : parseS c (k + 1) p l x = parseS c k (p + 1) (l + 1) (x.1 ++ [c.getD p 0], x.2) := by rw [parseS, if_neg q0, if_neg q1]
        rw [es]
        refine ⟨G, ?_, gl, gq, ((fA.up (by simp)).tr (fB.up (by simp))).tr fG⟩
        show b_Mf_divide_24 L1 (f_Mf_divide_24 L1 fu) 59 (nI l) (nI p) F = _
        unfold b_Mf_divide_24 b_Mf_divide_92
        rw [r590, r591, hd.1, ilen (by omega) (by omega), eA]
        dsimp only [Option.bind_some]
        rw [if_pos (show A 59 8 < (3 : Int32) by rw [a8]; exact nI_lt (b := 3) (by omega) (by omega)), rs1.1, rs1.gl, if_neg (inb_no (n := p) (by omega) (by omega)), show mGa L1 A 2 (nI p).toNatClampNeg = nI (c.getD p 0) by rw [rs1.ga, nI_clamp (by omega), hdA.2 p (by omega)], eB]
        dsimp only [Option.bind_some]
        rw [nI_1, nI_1]
        exact eG
/-- the literals and the sequences of c -/
def parsed (c : List Nat) : PS := parseS c c.length 0 0 ([], [], (1, 4, 8))
theorem pi0 (c : List Nat) : PI c 0 0 ([], [], (1, 4, 8)) := ⟨Nat.zero_le _, Nat.le_refl _, Nat.le_refl _, by simp, by simp, ⟨by decide, by decide⟩, ⟨by decide, by decide⟩, ⟨by decide, by decide⟩⟩
theorem mf_divide {c : List Nat} (hc : c.length ≤ 120) (hby : ∀ b ∈ c, b < 256) {F : Mem} (hd : RD F 1 2 c) : ∃ G, f_Mf_divide L1 59 F = some G ∧ RD G 60 61 (parsed c).1 ∧ CQ G (parsed c).2.1 ∧ Fr [59, 60, 61, 62, 63, 64, 65] F G := by
  obtain ⟨A, hA⟩ : ∃ A, A = u2 (u2 (u2 (u2 (u2 F 60 1 0) 59 6 0) 65 0 1) 65 1 4) 65 2 8 := ⟨_, rfl⟩
  have fA : Fr [59, 60, 61, 62, 63, 64, 65] F A := by
    rw [hA]
    exact ((((Fr.u (by simp)).tr (Fr.u (by simp))).tr (Fr.u (by simp))).tr (Fr.u (by simp))).tr (Fr.u (by simp))
  obtain ⟨G, e, g1, g2, f⟩ := mf_divide24 hc hby c.length 0 0 A ([], [], (1, 4, 8)) mFU (by omega) (by unfold mFU; omega) (pi0 c) (hd.fr fA (by decide) (by decide)) ⟨by rw [hA, u2_c (by decide), u2_c (by decide), u2_c (by decide), u2_c (by decide), u2_s]; rfl, fun j hj => absurd hj (by simp)⟩ ⟨by rw [hA, u2_c (by decide), u2_c (by decide), u2_c (by decide), u2_s]; rfl, fun i hi => absurd hi (by simp)⟩ ⟨by rw [hA, u2_p (by decide), u2_p (by decide), u2_s]; rfl, by rw [hA, u2_p (by decide), u2_s]; rfl, by rw [hA, u2_s]; rfl⟩
  refine ⟨G, ?_, g1, g2, fA.tr f⟩
  unfold f_Mf_divide f_Rp_begin
  rw [r591, r595, ld, ld, ld, ld, ld]
  dsimp only [Option.bind_some]
  rw [← hA]
  exact e
