/-! pure: the model chooses the states and pushes the bits -/
def cdK (q : List N3) (k j : Nat) : Nat := if k = 0 then acS (qA q j) else if k = 1 then Nat.log2 (qV q j) else mcS (qM q j)
theorem cdK_lt {q : List N3} (hp : ∀ x ∈ q, PQ x) {k j : Nat} (hk : k < 3) (hj : j < q.length) : cdK q k j < mo k := by
  have pm := g_le hp hj
  have : k = 0 ∨ k = 1 ∨ k = 2 := by omega
  rcases this with rfl | rfl | rfl
  · exact acS_lt _
  · have hv : 0 < qV q j ∧ qV q j < 128 := by have := pm.1; unfold qV; omega
    have := (Nat.log2_lt (k := 7) (show qV q j ≠ 0 by omega)).mpr hv.2
    show Nat.log2 (qV q j) < 8
    omega
  · exact mcS_lt _
theorem MCd.g {G : Mem} {q : List N3} (h : MCd G q q.length) {k j : Nat} (hk : k < 3) (hj : j < q.length) : G 18 (40 * k + j) = nI (cdK q k j) := by
  obtain ⟨h1, h2, h3⟩ := h j hj
  have : k = 0 ∨ k = 1 ∨ k = 2 := by omega
  rcases this with rfl | rfl | rfl
  · rw [Nat.mul_zero, Nat.zero_add]; exact h1
  · exact h2
  · exact h3
/-- one step of the search, from the top down -/
theorem mc46 {q : List N3} (hn : q.length ≤ 40) {k j next : Nat} (hk : k < 3) (hj : j < q.length) (hp : ∀ x ∈ q, PQ x) (hx : next < 16) {G : Mem} (u : UM G) (hc : MCd G q q.length) (h28 : G 0 28 = nI q.length) {P : Nat → Bool} (hP1 : j + 1 = q.length → P = fun s => decide (ucd k s = cdK q k j)) (hP2 : j + 1 ≠ q.length → P = fun s => decide (ucd k s = cdK q k j ∧ ubs k s ≤ next ∧ next < ubs k s + 2 ^ uwd k s)) (k7 : Nat → Int32 → Int32 → Mem → Option Mem) : ∀ (m fu : Nat), m ≤ 16 → m < fu →
    f_Md_choose_46 L2 k7 fu 0 (nI k) (nI j) (nI next) (fI P (16 - m)) (nI m - 1) G = k7 0 (nI k) (nI j - 1) (u2 G 19 (40 * k + j) (fI P 16)) := by
  intro m
  induction m with
  | zero =>
    intro fu hm hf
    obtain ⟨fu, rfl⟩ : ∃ k, fu = k + 1 := ⟨fu - 1, by omega⟩
    show b_Md_choose_46 L2 k7 (f_Md_choose_46 L2 k7 fu) 0 (nI k) (nI j) (nI next) (fI P 16) (nI 0 - 1) G = _
    unfold b_Md_choose_46
    rw [if_pos (by decide), r033, m19, show ((40 : Int32) * nI k + nI j) = nI (40 * k + j) by rw [show (40 : Int32) = nI 40 from rfl, pk_mul, nI_add], if_neg (in_w (n := 40 * k + j) (by omega) (by omega) (show 19 < mNc L2 by decide)), ld, nI_clamp (by omega), ← Int32.sub_eq_add_neg]
  | succ m ih =>
    intro fu hm hf
    obtain ⟨fu, rfl⟩ : ∃ k, fu = k + 1 := ⟨fu - 1, by omega⟩
    have nx := ih fu (by omega) (by omega)
    have t := u_tab3 hk (s := m) (by omega)
    have tw := uwd_le k m
    have p4 : 2 ^ uwd k m ≤ 2 ^ 4 := Nat.pow_le_pow_right (by decide) tw
    obtain ⟨g1, g2, g3⟩ := u k hk m (by omega)
    have cl := cdK_lt hp hk hj
    have cl2 : mo k ≤ 12 := by unfold mo; split <;> omega
    have ef : fI P (16 - m) = if P m = true then nI m else fI P (16 - (m + 1)) := by
      rw [show 16 - m = (16 - (m + 1)) + 1 by omega]
      show (if P (15 - (16 - (m + 1))) = true then nI (15 - (16 - (m + 1))) else _) = _
      rw [show 15 - (16 - (m + 1)) = m by omega]
    have e10 : mGa L2 G 10 (nI (16 * k + m)).toNatClampNeg = nI (ucd k m) := by rw [ga10, nI_clamp (by omega), g1]
    have e11 : mGa L2 G 11 (nI (16 * k + m)).toNatClampNeg = nI (uwd k m) := by rw [ga11, nI_clamp (by omega), g2]
    have e12 : mGa L2 G 12 (nI (16 * k + m)).toNatClampNeg = nI (ubs k m) := by rw [ga12, nI_clamp (by omega), g3]
    have e18 : mGa L2 G 18 (nI (40 * k + j)).toNatClampNeg = nI (cdK q k j) := by rw [ga18, nI_clamp (by omega), hc.g hk hj]
    have e40 : ((40 : Int32) * nI k + nI j) = nI (40 * k + j) := by rw [show (40 : Int32) = nI 40 from rfl, pk_mul, nI_add]
    have e107 : ∀ (y : Int32), (y = 1 ∨ y = 0) → (P m = true ↔ ucd k m = cdK q k j ∧ y = 1) → b_Md_choose_107 L2 k7 (f_Md_choose_46 L2 k7 fu) 0 (nI k) (nI j) (nI next) (fI P (16 - (m + 1))) (nI m) (nI (16 * k + m)) y G = k7 0 (nI k) (nI j - 1) (u2 G 19 (40 * k + j) (fI P 16)) := fun y hy hiff => by
      unfold b_Md_choose_107 b_Md_choose_140 b_Md_choose_142
      rw [r023, gl10, r032, gl18, e40, if_neg (inb_no (n := 16 * k + m) (by omega) (by omega)), if_neg (inb_no (n := 40 * k + j) (by omega) (by omega)), e10, e18, ← Int32.sub_eq_add_neg]
      by_cases z : ucd k m = cdK q k j
      · rw [ieq z]
        rcases hy with rfl | rfl
        · rw [if_neg (show ¬ (1 : Int32) = 0 by decide)]
          rw [ef, if_pos (hiff.mpr ⟨z, rfl⟩)] at nx
          exact nx
        · rw [if_pos rfl]
          rw [ef, if_neg (fun c => absurd (hiff.mp c).2 (by decide))] at nx
          exact nx
      · rw [ieqn z (by omega) (by omega)]
        rw [ef, if_neg (fun c => z (hiff.mp c).1)] at nx
        exact nx
    show b_Md_choose_46 L2 k7 (f_Md_choose_46 L2 k7 fu) 0 (nI k) (nI j) (nI next) (fI P (16 - (m + 1))) (nI (m + 1) - 1) G = _
    unfold b_Md_choose_46 b_Md_choose_102 b_Md_choose_106
    rw [nI_pred, if_neg (nI_pos (by omega)), nI_1, h28, show ((16 : Int32) * nI k + nI m) = nI (16 * k + m) by rw [l16, pk_mul, nI_add]]
    by_cases z : j + 1 = q.length
    · rw [ieq z]
      refine e107 1 (Or.inl rfl) ?_
      rw [hP1 z]
      simp
    · rw [ieqn z (by omega) (by omega), r025, gl12, r024, gl11, if_neg (inb_no (n := 16 * k + m) (by omega) (by omega)), e12]
      have hP := hP2 z
      by_cases z2 : ubs k m ≤ next
      · rw [iltn z2 (by omega), if_neg (inb_no (n := 16 * k + m) (by omega) (by omega)), if_neg (inb_no (n := 16 * k + m) (by omega) (by omega)), e11, show jshl (1 : Int32) (nI (uwd k m)) = nI (2 ^ uwd k m) by rw [l1, jshl_n (by omega) (by omega), Nat.one_mul], nI_add]
        by_cases z3 : next < ubs k m + 2 ^ uwd k m
        · rw [ilen (by omega) (by omega)]
          refine e107 1 (Or.inl rfl) ?_
          rw [hP]
          simp [z2, z3]
        · rw [ile (by omega) (by omega)]
          refine e107 0 (Or.inr rfl) ?_
          rw [hP]
          simp only [decide_eq_true_eq]
          exact ⟨fun c => absurd c.2.2 z3, fun c => absurd c.2 (by decide)⟩
      · rw [ilt (by omega) (by omega)]
        refine e107 0 (Or.inr rfl) ?_
        rw [hP]
        simp only [decide_eq_true_eq]
        exact ⟨fun c => absurd c.2.1 z2, fun c => absurd c.2 (by decide)⟩
theorem mc7 {q : List N3} (hn : q.length ≤ 40) (hp : ∀ x ∈ q, PQ x) {k : Nat} (hk : k < 3) : ∀ (m : Nat) (G : Mem) (fu : Nat), m ≤ q.length → m < fu → UM G → MCd G q q.length → G 0 28 = nI q.length → (∀ j, m ≤ j → j < q.length → G 19 (40 * k + j) = nI (stF k (cdK q k) q.length j)) →
    ∃ H, f_Md_choose_7 L2 fu 0 (nI k) (nI m - 1) G = some H ∧ (∀ j, j < q.length → H 19 (40 * k + j) = nI (stF k (cdK q k) q.length j)) ∧ (∀ j, ¬ (40 * k ≤ j ∧ j < 40 * k + q.length) → H 19 j = G 19 j) ∧ Fm [] [19] G H := by
  intro m
  induction m with
  | zero =>
    intro G fu hm hf u hc h28 hs
    obtain ⟨fu, rfl⟩ : ∃ k, fu = k + 1 := ⟨fu - 1, by omega⟩
    refine ⟨G, ?_, fun j hj => hs j (by omega) hj, fun _ _ => rfl, Fm.rf⟩
    show b_Md_choose_7 L2 (f_Md_choose_7 L2 fu) 0 (nI k) (nI 0 - 1) G = _
    unfold b_Md_choose_7
    rw [if_pos (by decide)]
  | succ m ih =>
    intro G fu hm hf u hc h28 hs
    obtain ⟨fu, rfl⟩ : ∃ k, fu = k + 1 := ⟨fu - 1, by omega⟩
    have cl := cdK_lt hp hk (j := m) (by omega)
    -- with the state found
    have go : ∀ (next : Nat) (P : Nat → Bool), next < 16 → (m + 1 = q.length → P = fun s => decide (ucd k s = cdK q k m)) → (m + 1 ≠ q.length → P = fun s => decide (ucd k s = cdK q k m ∧ ubs k s ≤ next ∧ next < ubs k s + 2 ^ uwd k s)) → (∃ s, s < 16 ∧ P s = true) → fndU P 16 0 = stF k (cdK q k) q.length m → ∃ H, b_Md_choose_38 L2 (f_Md_choose_7 L2 fu) 0 (nI k) (nI m) (nI next) G = some H ∧ (∀ j, j < q.length → H 19 (40 * k + j) = nI (stF k (cdK q k) q.length j)) ∧ (∀ j, ¬ (40 * k ≤ j ∧ j < 40 * k + q.length) → H 19 j = G 19 j) ∧ Fm [] [19] G H := by
      intro next P hx hP1 hP2 hex hst
      have e := mc46 hn hk (show m < q.length by omega) hp hx u hc h28 hP1 hP2 (f_Md_choose_7 L2 fu) 16 mFU (by omega) (by unfold mFU; omega)
      have ef : fI P 16 = nI (stF k (cdK q k) q.length m) := by
        obtain ⟨s, s1, s2⟩ := hex
        rw [fI_fnd P 16 (by omega) ⟨s, by omega, s1, s2⟩, ← hst]
      rw [ef] at e
      have f1 : Fm [] [19] G (u2 G 19 (40 * k + m) (nI (stF k (cdK q k) q.length m))) := Fm.uc (by simp) (by decide)
      obtain ⟨H, eH, h1, h2, fH⟩ := ih (u2 G 19 (40 * k + m) (nI (stF k (cdK q k) q.length m))) fu (by omega) (by omega) (u.fm f1 (by decide) (by decide) (by decide)) (by unfold MCd at *; rw [f1.1 18 (by decide) (by decide)]; exact hc) (by rw [f1.2 28 (by simp)]; exact h28) (fun j j1 j2 => by
        rcases Nat.eq_or_lt_of_le j1 with rfl | j1
        · rw [u2_s]
        · rw [u2_p (by omega)]; exact hs j (by omega) j2)
      refine ⟨H, ?_, h1, fun j hj => ?_, f1.tr fH⟩
      · unfold b_Md_choose_38
        exact e.trans eH
      · rw [h2 j hj, u2_p (by omega)]
    show ∃ H, b_Md_choose_7 L2 (f_Md_choose_7 L2 fu) 0 (nI k) (nI (m + 1) - 1) G = _ ∧ _
    unfold b_Md_choose_7
    rw [nI_pred, if_neg (nI_pos (by omega)), nI_1, h28]
    by_cases z : m + 1 = q.length
    · rw [ile (by omega) (by omega)]
      exact go 0 (fun s => decide (ucd k s = cdK q k m)) (by decide) (fun _ => rfl) (fun c => absurd z c) (u_e1 hk cl) (stF_last k (cdK q k) z).symm
    · have sl := stF_lt k (cdK q k) q.length (m + 1)
      rw [ilen (by omega) (by omega), r033, gl19, show ((40 : Int32) * nI k + nI m + 1) = nI (40 * k + m + 1) by rw [show (40 : Int32) = nI 40 from rfl, pk_mul, nI_add, nI_1], if_neg (inb_no (n := 40 * k + m + 1) (by omega) (by omega)), show mGa L2 G 19 (nI (40 * k + m + 1)).toNatClampNeg = nI (stF k (cdK q k) q.length (m + 1)) by rw [ga19, nI_clamp (by omega)]; exact hs (m + 1) (by omega) (by omega)]
      exact go _ (fun s => decide (ucd k s = cdK q k m ∧ ubs k s ≤ stF k (cdK q k) q.length (m + 1) ∧ stF k (cdK q k) q.length (m + 1) < ubs k s + 2 ^ uwd k s)) sl (fun c => absurd c z) (fun _ => rfl) (u_e2 hk cl sl) (stF_step k (cdK q k) (show m + 1 < q.length by omega)).symm
/-- the states stand in the model's array -/
def MSt (G : Mem) (q : List N3) : Prop := ∀ j, j < q.length → G 19 j = nI (sA q j) ∧ G 19 (40 + j) = nI (sW q j) ∧ G 19 (80 + j) = nI (sM q j)
theorem MSt.fm {G H : Mem} {q : List N3} {sl cs : List Nat} (h : MSt G q) (f : Fm sl cs G H) (n : 19 ∉ cs) : MSt H q := by
  unfold MSt at *
  rw [f.1 19 (by decide) n]
  exact h
theorem md_choose3 {q : List N3} (hn : q.length ≤ 40) (hp : ∀ x ∈ q, PQ x) {G : Mem} (u : UM G) (hc : MCd G q q.length) (h28 : G 0 28 = nI q.length) : ∃ H, f_Md_addSequences_166 L2 mFU 0 0 G = f_Md_addSequences_189 L2 mFU 0 0 (u2 H 0 36 0) ∧ MSt H q ∧ Fm [] [19] G H := by
  have ch : ∀ (k : Nat) (K : Mem), k < 3 → UM K → MCd K q q.length → K 0 28 = nI q.length → ∃ H, f_Md_choose L2 0 (nI k) K = some H ∧ (∀ j, j < q.length → H 19 (40 * k + j) = nI (stF k (cdK q k) q.length j)) ∧ (∀ j, ¬ (40 * k ≤ j ∧ j < 40 * k + q.length) → H 19 j = K 19 j) ∧ Fm [] [19] K H := fun k K hk u' c' k28 => by
    obtain ⟨H, e, r⟩ := mc7 hn hp hk q.length K mFU (Nat.le_refl _) (by unfold mFU; omega) u' c' k28 (fun j h1 h2 => absurd h1 (by omega))
    refine ⟨H, ?_, r⟩
    unfold f_Md_choose
    rw [k28]
    exact e
  have mcf : ∀ {X Y : Mem}, MCd X q q.length → Fm [] [19] X Y → MCd Y q q.length := fun h f => by unfold MCd at *; rw [f.1 18 (by decide) (by decide)]; exact h
  obtain ⟨A, eA, a1, a2, fA⟩ := ch 0 G (by decide) u hc h28
  obtain ⟨B, eB, b1, b2, fB⟩ := ch 1 A (by decide) (u.fm fA (by decide) (by decide) (by decide)) (mcf hc fA) (by rw [fA.2 28 (by simp)]; exact h28)
  obtain ⟨C, eC, c1, c2, fC⟩ := ch 2 B (by decide) ((u.fm fA (by decide) (by decide) (by decide)).fm fB (by decide) (by decide) (by decide)) (mcf (mcf hc fA) fB) (by rw [fB.2 28 (by simp), fA.2 28 (by simp)]; exact h28)
  refine ⟨C, ?_, fun j hj => ⟨?_, ?_, ?_⟩, (fA.tr fB).tr fC⟩
  · have s0 : ∀ (kk : Nat → Int32 → Mem → Option Mem), b_Md_addSequences_166 L2 kk 0 (nI 0) G = kk 0 (nI 1) A := fun kk => by
      unfold b_Md_addSequences_166
      rw [if_neg (show ¬ (3 : Int32) ≤ nI 0 by decide), eA, Option.bind_some, nI_1]
    have s1 : ∀ (kk : Nat → Int32 → Mem → Option Mem), b_Md_addSequences_166 L2 kk 0 (nI 1) A = kk 0 (nI 2) B := fun kk => by
      unfold b_Md_addSequences_166
      rw [if_neg (show ¬ (3 : Int32) ≤ nI 1 by decide), eB, Option.bind_some, nI_1]
    have s2 : ∀ (kk : Nat → Int32 → Mem → Option Mem), b_Md_addSequences_166 L2 kk 0 (nI 2) B = kk 0 (nI 3) C := fun kk => by
      unfold b_Md_addSequences_166
      rw [if_neg (show ¬ (3 : Int32) ≤ nI 2 by decide), eC, Option.bind_some, nI_1]
    have s3 : ∀ (kk : Nat → Int32 → Mem → Option Mem), b_Md_addSequences_166 L2 kk 0 (nI 3) C = f_Md_addSequences_189 L2 mFU 0 0 (u2 C 0 36 0) := fun kk => by
      unfold b_Md_addSequences_166
      rw [if_pos (show (3 : Int32) ≤ nI 3 by decide), ld]
    have t0 : f_Md_addSequences_166 L2 mFU 0 0 G = b_Md_addSequences_166 L2 (f_Md_addSequences_166 L2 4095) 0 (nI 0) G := rfl
    have t1 : f_Md_addSequences_166 L2 4095 0 (nI 1) A = b_Md_addSequences_166 L2 (f_Md_addSequences_166 L2 4094) 0 (nI 1) A := rfl
    have t2 : f_Md_addSequences_166 L2 4094 0 (nI 2) B = b_Md_addSequences_166 L2 (f_Md_addSequences_166 L2 4093) 0 (nI 2) B := rfl
    have t3 : f_Md_addSequences_166 L2 4093 0 (nI 3) C = b_Md_addSequences_166 L2 (f_Md_addSequences_166 L2 4092) 0 (nI 3) C := rfl
    rw [t0, s0, t1, s1, t2, s2, t3, s3]
  · have := a1 j hj
    rw [Nat.mul_zero, Nat.zero_add] at this
    rw [c2 j (by omega), b2 j (by omega), this]
    rfl
  · rw [c2 (40 + j) (by omega)]
    exact b1 j hj
  · have := c1 j hj
    rw [stF2] at this
    exact this
/-! the bits -/
theorem md_pstep {q : List N3} (hn : q.length ≤ 40) {G : Mem} (u : UM G) {bs : List Nat} (hb : MD G 36 21 bs) (hl : bs.length + 4 ≤ 1600) {k i s s' : Nat} (hk : k < 3) (hi : i + 1 < q.length) (h1 : G 19 (40 * k + i) = nI s) (h2 : G 19 (40 * k + (i + 1)) = nI s') (hs : s < 16) : ∃ H, f_Md_pushStep L2 0 (nI k) (nI i) G = some H ∧ MD H 36 21 (bs ++ bitsS (nI s' - nI (ubs k s)) (uwd k s)) ∧ Fm [36] [21] G H := by
  obtain ⟨g1, g2, g3⟩ := u k hk s hs
  have tw := uwd_le k s
  obtain ⟨H, eH, gH, fH⟩ := md_push hb (nI s' - nI (ubs k s)) (n := uwd k s) (by omega) (by omega)
  refine ⟨H, ?_, gH, fH⟩
  unfold f_Md_pushStep
  have e40 : ((40 : Int32) * nI k + nI i) = nI (40 * k + i) := by rw [show (40 : Int32) = nI 40 from rfl, pk_mul, nI_add]
  have ea : mGa L2 G 19 (nI (40 * k + i)).toNatClampNeg = nI s := by rw [ga19, nI_clamp (by omega), h1]
  have eb : mGa L2 G 19 (nI (40 * k + i + 1)).toNatClampNeg = nI s' := by rw [ga19, nI_clamp (by omega), show 40 * k + i + 1 = 40 * k + (i + 1) by omega, h2]
  have e16 : ((16 : Int32) * nI k + nI s) = nI (16 * k + s) := by rw [l16, pk_mul, nI_add]
  have ec : mGa L2 G 12 (nI (16 * k + s)).toNatClampNeg = nI (ubs k s) := by rw [ga12, nI_clamp (by omega), g3]
  have ed : mGa L2 G 11 (nI (16 * k + s)).toNatClampNeg = nI (uwd k s) := by rw [ga11, nI_clamp (by omega), g2]
  rw [r033, gl19, e40, nI_1, if_neg (inb_no (n := 40 * k + i) (by omega) (by omega)), if_neg (inb_no (n := 40 * k + i + 1) (by omega) (by omega)), ea, eb, e16, r025, gl12, r024, gl11, if_neg (inb_no (n := 16 * k + s) (by omega) (by omega)), if_neg (inb_no (n := 16 * k + s) (by omega) (by omega)), ec, ed, eH]
  rfl
theorem mBv_len {q : List N3} (h : ∀ x ∈ q, PQ x) {i : Nat} (hi : i ≤ q.length) : (mBv q i).length ≤ 31 * i + 12 := by
  rw [mBv_cB q i hi, List.length_append]
  have h1 := cB_len h i hi
  have : (if 0 < i ∧ i < q.length then stpB q (i - 1) else []).length ≤ 12 := by
    split
    · exact stpB_len q _
    · exact Nat.zero_le _
  omega
theorem md_216 {q : List N3} (hn : q.length ≤ 40) (hp : ∀ x ∈ q, PQ x) {ps : List Nat} (hx : ps.length ≤ 300) : ∀ (d i : Nat) (G : Mem) (fu : Nat), d + i = q.length → d < fu → UM G → MCd G q q.length → MSt G q → MSq G 0 q → G 0 28 = nI q.length → MD G 34 20 ps → MD G 36 21 (preB q ++ mBv q i) →
    ∃ H, f_Md_addSequences_216 L2 fu 0 (nI i) G = some H ∧ MD H 34 20 (ps ++ strmS (preB q ++ cB q q.length)) ∧ Fm [34, 36] [20, 21] G H := by
  have bb : ∀ x ∈ preB q ++ cB q q.length, x < 2 := app_b (preB_b q) (cB_b q _)
  intro d
  induction d with
  | zero =>
    intro i G fu hd hf u hc st hq h28 hb hs
    obtain ⟨fu, rfl⟩ : ∃ k, fu = k + 1 := ⟨fu - 1, by omega⟩
    obtain rfl : i = q.length := by omega
    rw [mBv_cB q q.length (Nat.le_refl _), if_neg (by omega), List.append_nil] at hs
    have t : (preB q ++ cB q q.length).length ≤ 12 + 31 * q.length := by
      rw [List.length_append, preB_len]
      have := cB_len hp q.length (Nat.le_refl _)
      omega
    obtain ⟨H, e, g1, f⟩ := md_stream bb (by omega) hs hb (by omega)
    refine ⟨H, ?_, g1, f.up (by simp) (by simp)⟩
    show b_Md_addSequences_216 L2 (f_Md_addSequences_216 L2 fu) 0 (nI q.length) G = _
    unfold b_Md_addSequences_216
    rw [h28, ile (Nat.le_refl _) (by omega), e]
    rfl
  | succ d ih =>
    intro i G fu hd hf u hc st hq h28 hb hs
    obtain ⟨fu, rfl⟩ : ∃ k, fu = k + 1 := ⟨fu - 1, by omega⟩
    have hi : i < q.length := by omega
    have pm := g_le hp hi
    have ha : qA q i ≤ 119 := by have := pm.2.2; unfold qA; omega
    have hm' : qM q i ≤ 119 := by have := pm.2.1.2; unfold qM; omega
    have hv : 0 < qV q i ∧ qV q i < 128 := by have := pm.1; unfold qV; omega
    have hlg : Nat.log2 (qV q i) < 7 := (Nat.log2_lt (by omega)).mpr hv.2
    have h1 := mb_le _ (mcS_lt (qM q i))
    have h2 := mb_le _ (acS_lt (qA q i))
    have c1 := mcS_lt (qM q i)
    have c2 := acS_lt (qA q i)
    have t0 := mBv_len hp (i := i) (by omega)
    have tp := preB_len q
    have t : (preB q ++ mBv q i).length ≤ 31 * i + 24 := by rw [List.length_append]; omega
    obtain ⟨q1, q2, q3⟩ := hq i hi
    rw [Nat.zero_add] at q1 q2 q3
    obtain ⟨k1, k2, k3⟩ := hc i hi
    obtain ⟨A, eA, dA, fA⟩ := md_push hs (nI (qV q i) - nI (2 ^ Nat.log2 (qV q i))) (n := Nat.log2 (qV q i)) (by omega) (by omega)
    obtain ⟨B, eB, dB, fB⟩ := md_push dA (nI (qM q i) - nI (mB (mcS (qM q i)))) (n := mb (mcS (qM q i))) (by omega) (by rw [List.length_append, bitsS_len]; omega)
    obtain ⟨C, eC, dC, fC⟩ := md_push dB (nI (qA q i) - nI (aB (acS (qA q i)))) (n := ab (acS (qA q i))) (by omega) (by rw [List.length_append, List.length_append, bitsS_len, bitsS_len]; omega)
    have fGC : Fm [36] [21] G C := (fA.tr fB).tr fC
    have eval : preB q ++ mBv q i ++ bitsS (nI (qV q i) - nI (2 ^ Nat.log2 (qV q i))) (Nat.log2 (qV q i)) ++ bitsS (nI (qM q i) - nI (mB (mcS (qM q i)))) (mb (mcS (qM q i))) ++ bitsS (nI (qA q i) - nI (aB (acS (qA q i)))) (ab (acS (qA q i))) = preB q ++ mBv q i ++ valB q i := by
      unfold valB
      simp only [List.append_assoc]
    rw [eval] at dC
    -- and on
    have go : ∀ (D : Mem), Fm [36] [21] G D → MD D 36 21 (preB q ++ mBv q (i + 1)) → ∃ H, b_Md_addSequences_332 L2 (f_Md_addSequences_216 L2 fu) 0 (nI i) D = some H ∧ MD H 34 20 (ps ++ strmS (preB q ++ cB q q.length)) ∧ Fm [34, 36] [20, 21] G H := by
      intro D fD dD
      obtain ⟨H, eH, gH, fH⟩ := ih (i + 1) D fu (by omega) (by omega) (u.fm fD (by decide) (by decide) (by decide)) (by unfold MCd at *; rw [fD.1 18 (by decide) (by decide)]; exact hc) (st.fm fD (by decide)) (hq.fm fD (by decide) (by decide) (by decide)) (by rw [fD.2 28 (by decide)]; exact h28) (hb.fm fD (by decide) (by decide) (by decide)) dD
      refine ⟨H, ?_, gH, (fD.up (by simp) (by simp)).tr fH⟩
      unfold b_Md_addSequences_332
      rw [nI_1]
      exact eH
    have st1 : ∀ H, (if C 0 28 ≤ nI (i + 1) then b_Md_addSequences_332 L2 (f_Md_addSequences_216 L2 fu) 0 (nI i) C else (f_Md_pushStep L2 0 (0 : Int32) (nI i) C).bind fun F29 => (f_Md_pushStep L2 0 (2 : Int32) (nI i) F29).bind fun F31 => (f_Md_pushStep L2 0 (1 : Int32) (nI i) F31).bind fun F33 => b_Md_addSequences_332 L2 (f_Md_addSequences_216 L2 fu) 0 (nI i) F33) = some H → f_Md_addSequences_216 L2 (fu + 1) 0 (nI i) G = some H := fun H hH => by
      rw [← hH]
      show b_Md_addSequences_216 L2 (f_Md_addSequences_216 L2 fu) 0 (nI i) G = _
      unfold b_Md_addSequences_216
      have e40 : ((40 : Int32) + nI i) = nI (40 + i) := by rw [show (40 : Int32) = nI 40 from rfl, nI_add]
      have e80 : ((80 : Int32) + nI i) = nI (80 + i) := by rw [show (80 : Int32) = nI 80 from rfl, nI_add]
      have eq1 : mGa L2 G 18 (nI (40 + i)).toNatClampNeg = nI (Nat.log2 (qV q i)) := by rw [ga18, nI_clamp (by omega)]; exact k2
      have eq2 : mGa L2 G 16 (nI i).toNatClampNeg = nI (qV q i) := by rw [ga16, nI_clamp (by omega)]; exact q1
      have eq3 : mGa L2 A 18 (nI (80 + i)).toNatClampNeg = nI (mcS (qM q i)) := by rw [ga18, nI_clamp (by omega), fA.1 18 (by decide) (by decide)]; exact k3
      have eq4 : mGa L2 A 17 (nI i).toNatClampNeg = nI (qM q i) := by rw [ga17, nI_clamp (by omega), fA.1 17 (by decide) (by decide)]; exact q2
      have eq5 : mGa L2 B 18 (nI i).toNatClampNeg = nI (acS (qA q i)) := by rw [ga18, nI_clamp (by omega), fB.1 18 (by decide) (by decide), fA.1 18 (by decide) (by decide)]; exact k1
      have eq6 : mGa L2 B 15 (nI i).toNatClampNeg = nI (qA q i) := by rw [ga15, nI_clamp (by omega), fB.1 15 (by decide) (by decide), fA.1 15 (by decide) (by decide)]; exact q3
      rw [h28, ilen (by omega) (by omega), r032, gl18, r030, gl16, r031, gl17, r029, gl15, e40, e80, if_neg (inb_no (n := 40 + i) (by omega) (by omega)), if_neg (inb_no (n := i) (by omega) (by omega)), eq1, eq2, show jshl (1 : Int32) (nI (Nat.log2 (qV q i))) = nI (2 ^ Nat.log2 (qV q i)) by rw [l1, jshl_n (by omega) (by have : 2 ^ Nat.log2 (qV q i) ≤ 2 ^ 7 := Nat.pow_le_pow_right (by decide) (by omega); omega), Nat.one_mul], eA, Option.bind_some, if_neg (inb_no (n := 80 + i) (by omega) (by omega)), if_neg (inb_no (n := i) (by omega) (by omega)), eq3, eq4, (md_mB c1 A).1, Option.bind_some, (md_mB c1 A).2.1, Option.bind_some, eB, Option.bind_some, if_neg (inb_no (n := i) (by omega) (by omega)), if_neg (inb_no (n := i) (by omega) (by omega)), eq5, eq6, (md_mB c2 B).2.2.1, Option.bind_some, (md_mB c2 B).2.2.2, Option.bind_some, eC, Option.bind_some, nI_1]
    have h28C : C 0 28 = nI q.length := by rw [fGC.2 28 (by decide)]; exact h28
    by_cases z : q.length ≤ i + 1
    · have em : mBv q (i + 1) = mBv q i ++ valB q i := by
        show mBv q i ++ valB q i ++ (if i + 1 < q.length then stpB q i else []) = _
        rw [if_neg (by omega), List.append_nil]
      obtain ⟨H, eH, gH, fH⟩ := go C fGC (by rw [em, ← List.append_assoc]; exact dC)
      exact ⟨H, st1 H (by rw [h28C, ile z (by omega)]; exact eH), gH, fH⟩
    · have em : mBv q (i + 1) = mBv q i ++ valB q i ++ stpB q i := by
        show mBv q i ++ valB q i ++ (if i + 1 < q.length then stpB q i else []) = _
        rw [if_pos (by omega)]
      have tv := valB_len (qs := q) (i := i) pm
      obtain ⟨s1, s2, s3⟩ := st.fm fGC (by decide) i hi
      obtain ⟨r1, r2, r3⟩ := st.fm fGC (by decide) (i + 1) (by omega)
      have uC := u.fm fGC (by decide) (by decide) (by decide)
      have w1 := uwd_le 0 (sA q i)
      have w2 := uwd_le 2 (sM q i)
      obtain ⟨D, eD, dD, fD⟩ := md_pstep hn uC dC (by rw [List.length_append]; omega) (k := 0) (i := i) (s := sA q i) (s' := sA q (i + 1)) (by decide) (by omega) (by rw [Nat.mul_zero, Nat.zero_add]; exact s1) (by rw [Nat.mul_zero, Nat.zero_add]; exact r1) (stF_lt _ _ _ _)
      have uD := uC.fm fD (by decide) (by decide) (by decide)
      obtain ⟨E, eE, dE, fE⟩ := md_pstep hn uD dD (by rw [List.length_append, List.length_append, bitsS_len]; omega) (k := 2) (i := i) (s := sM q i) (s' := sM q (i + 1)) (by decide) (by omega) (by rw [fD.1 19 (by decide) (by decide)]; exact s3) (by rw [fD.1 19 (by decide) (by decide)]; exact r3) (stF_lt _ _ _ _)
      have uE := uD.fm fE (by decide) (by decide) (by decide)
      obtain ⟨K, eK, dK, fK⟩ := md_pstep hn uE dE (by rw [List.length_append, List.length_append, List.length_append, bitsS_len, bitsS_len]; omega) (k := 1) (i := i) (s := sW q i) (s' := sW q (i + 1)) (by decide) (by omega) (by rw [fE.1 19 (by decide) (by decide), fD.1 19 (by decide) (by decide)]; exact s2) (by rw [fE.1 19 (by decide) (by decide), fD.1 19 (by decide) (by decide)]; exact r2) (stF_lt _ _ _ _)
      rw [ubs2, uwd2] at dK
      have es : preB q ++ mBv q i ++ valB q i ++ bitsS (nI (sA q (i + 1)) - nI (ubs 0 (sA q i))) (uwd 0 (sA q i)) ++ bitsS (nI (sM q (i + 1)) - nI (ubs 0 (sM q i))) (uwd 0 (sM q i)) ++ bitsS (nI (sW q (i + 1)) - nI (ubs 1 (sW q i))) (uwd 1 (sW q i)) = preB q ++ mBv q (i + 1) := by
        rw [em]
        unfold stpB
        simp only [List.append_assoc]
      rw [es] at dK
      obtain ⟨H, eH, gH, fH⟩ := go K (fGC.tr ((fD.tr fE).tr fK)) dK
      refine ⟨H, st1 H ?_, gH, fH⟩
      rw [h28C, ilen (by omega) (by omega), show f_Md_pushStep L2 0 (0 : Int32) (nI i) C = some D by rw [l0]; exact eD, Option.bind_some, show f_Md_pushStep L2 0 (2 : Int32) (nI i) D = some E by rw [l2]; exact eE, Option.bind_some, show f_Md_pushStep L2 0 (1 : Int32) (nI i) E = some K by rw [l1]; exact eK, Option.bind_some]
      exact eH
theorem md_addSeqs {G : Mem} {q : List N3} (hn : q.length ≤ 40) (hp : ∀ x ∈ q, PQ x) {ps : List Nat} (hx : ps.length ≤ 250) (hq : MSq G 0 q) (h28 : G 0 28 = nI q.length) (hb : MD G 34 20 ps) : ∃ H, f_Md_addSequences L2 0 G = some H ∧ MD H 34 20 (ps ++ seqBy q) ∧ Fm [34, 36] [9, 10, 11, 12, 13, 18, 19, 20, 21] G H := by
  obtain ⟨A, eA, dA, fA⟩ := md_add hb (by omega) q.length
  have a28 : A 0 28 = nI q.length := by rw [fA.2 28 (by decide)]; exact h28
  unfold f_Md_addSequences seqBy
  rw [h28, eA, Option.bind_some, a28]
  by_cases q0 : q.length = 0
  · rw [if_pos (show nI q.length = 0 by rw [q0]; rfl), if_pos q0]
    rw [q0] at dA
    exact ⟨A, rfl, dA, fA.up (by simp) (by simp)⟩
  · rw [if_neg (show ¬ nI q.length = 0 from nne (b := 0) q0 (by omega) (by omega)), if_neg q0]
    obtain ⟨B, eB, dB, fB⟩ := md_add dA (by simp; omega) 0
    rw [show f_Md_add L2 0 (0 : Int32) A = some B by rw [l0]; exact eB, Option.bind_some]
    obtain ⟨C, eC, uC, fC⟩ := md_usual3 (G := B)
    rw [eC]
    have fGC : Fm [34, 36] [9, 10, 11, 12, 13, 18, 19, 20, 21] G C := ((fA.up (by simp) (by simp)).tr (fB.up (by simp) (by simp))).tr (fC.up (by simp) (by simp))
    obtain ⟨D, eD, cD, fD⟩ := mc41 hn hp q.length 0 C mFU (by omega) (by unfold mFU; omega) (by rw [fGC.2 28 (by decide)]; exact h28) (hq.fm fGC (by decide) (by decide) (by decide)) (fun i hi => absurd hi (by omega))
    rw [show f_Md_addSequences_41 L2 mFU 0 (0 : Int32) C = f_Md_addSequences_166 L2 mFU 0 0 D by rw [l0]; exact eD]
    have fGD : Fm [34, 36] [9, 10, 11, 12, 13, 18, 19, 20, 21] G D := fGC.tr (fD.up (by simp) (by simp))
    have uD := uC.fm fD (by decide) (by decide) (by decide)
    obtain ⟨E, eE, sE, fE⟩ := md_choose3 hn hp uD cD (by rw [fGD.2 28 (by decide)]; exact h28)
    rw [eE]
    obtain ⟨K, hK⟩ : ∃ K, K = u2 E 0 36 0 := ⟨_, rfl⟩
    have fK : Fm [36] [] E K := by rw [hK]; exact Fm.us (by simp)
    rw [← hK]
    have fGK : Fm [34, 36] [9, 10, 11, 12, 13, 18, 19, 20, 21] G K := (fGD.tr (fE.up (by simp) (by simp))).tr (fK.up (by simp) (by simp))
    have d0 : MD K 36 21 [] := ⟨by rw [hK, u2_s]; rfl, fun j hj => absurd hj (by simp)⟩
    have sK := sE.fm fK (by simp)
    obtain ⟨s1, s2, s3⟩ := sK 0 (by omega)
    obtain ⟨A1, e1, d1, f1⟩ := md_push d0 (nI (sA q 0)) (n := 4) (by omega) (by rw [List.length_nil]; omega)
    obtain ⟨A2, e2, d2, f2⟩ := md_push d1 (nI (sW q 0)) (n := 4) (by omega) (by rw [List.length_append, bitsS_len, List.length_nil]; omega)
    obtain ⟨A3, e3, d3, f3⟩ := md_push d2 (nI (sM q 0)) (n := 4) (by omega) (by rw [List.length_append, List.length_append, bitsS_len, bitsS_len, List.length_nil]; omega)
    have fK3 : Fm [36] [21] K A3 := (f1.tr f2).tr f3
    have p0 : ∀ (kk : Nat → Int32 → Mem → Option Mem), b_Md_addSequences_189 L2 kk 0 (nI 0) K = kk 0 (nI 1) A1 := fun kk => by
      unfold b_Md_addSequences_189
      rw [if_neg (show ¬ (3 : Int32) ≤ nI 0 by decide), r033, gl19, show ((40 : Int32) * nI 0) = nI 0 from rfl, if_neg (inb_no (n := 0) (by omega) (by omega)), show mGa L2 K 19 (nI 0).toNatClampNeg = nI (sA q 0) by rw [ga19, nI_clamp (by omega)]; exact s1, l4, e1, Option.bind_some, nI_1]
    have p1 : ∀ (kk : Nat → Int32 → Mem → Option Mem), b_Md_addSequences_189 L2 kk 0 (nI 1) A1 = kk 0 (nI 2) A2 := fun kk => by
      unfold b_Md_addSequences_189
      rw [if_neg (show ¬ (3 : Int32) ≤ nI 1 by decide), r033, gl19, show ((40 : Int32) * nI 1) = nI 40 from rfl, if_neg (inb_no (n := 40) (by omega) (by omega)), show mGa L2 A1 19 (nI 40).toNatClampNeg = nI (sW q 0) by rw [ga19, nI_clamp (by omega), f1.1 19 (by decide) (by decide)]; exact s2, l4, e2, Option.bind_some, nI_1]
    have p2 : ∀ (kk : Nat → Int32 → Mem → Option Mem), b_Md_addSequences_189 L2 kk 0 (nI 2) A2 = kk 0 (nI 3) A3 := fun kk => by
      unfold b_Md_addSequences_189
      rw [if_neg (show ¬ (3 : Int32) ≤ nI 2 by decide), r033, gl19, show ((40 : Int32) * nI 2) = nI 80 from rfl, if_neg (inb_no (n := 80) (by omega) (by omega)), show mGa L2 A2 19 (nI 80).toNatClampNeg = nI (sM q 0) by rw [ga19, nI_clamp (by omega), f2.1 19 (by decide) (by decide), f1.1 19 (by decide) (by decide)]; exact s3, l4, e3, Option.bind_some, nI_1]
    have p3 : ∀ (kk : Nat → Int32 → Mem → Option Mem), b_Md_addSequences_189 L2 kk 0 (nI 3) A3 = f_Md_addSequences_216 L2 mFU 0 0 A3 := fun kk => by
      unfold b_Md_addSequences_189
      rw [if_pos (show (3 : Int32) ≤ nI 3 by decide)]
    have t0 : f_Md_addSequences_189 L2 mFU 0 0 K = b_Md_addSequences_189 L2 (f_Md_addSequences_189 L2 4095) 0 (nI 0) K := rfl
    have t1 : f_Md_addSequences_189 L2 4095 0 (nI 1) A1 = b_Md_addSequences_189 L2 (f_Md_addSequences_189 L2 4094) 0 (nI 1) A1 := rfl
    have t2 : f_Md_addSequences_189 L2 4094 0 (nI 2) A2 = b_Md_addSequences_189 L2 (f_Md_addSequences_189 L2 4093) 0 (nI 2) A2 := rfl
    have t3 : f_Md_addSequences_189 L2 4093 0 (nI 3) A3 = b_Md_addSequences_189 L2 (f_Md_addSequences_189 L2 4092) 0 (nI 3) A3 := rfl
    rw [t0, p0, t1, p1, t2, p2, t3, p3]
    have fG3 : Fm [34, 36] [9, 10, 11, 12, 13, 18, 19, 20, 21] G A3 := fGK.tr (fK3.up (by simp) (by simp))
    have fD3 : Fm [36] [19, 21] D A3 := ((fE.up (by simp) (by simp)).tr (fK.up (by simp) (by simp))).tr (fK3.up (by simp) (by simp))
    have dB3 : MD A3 34 20 (ps ++ [q.length] ++ [0]) := ((dB.fm fC (by decide) (by decide) (by decide)).fm fD (by decide) (by decide) (by decide)).fm fD3 (by decide) (by decide) (by decide)
    have cD3 : MCd A3 q q.length := by unfold MCd at *; rw [fD3.1 18 (by decide) (by decide)]; exact cD
    obtain ⟨H, eH, gH, fH⟩ := md_216 hn hp (ps := ps ++ [q.length] ++ [0]) (by simp; omega) q.length 0 A3 mFU (by omega) (by unfold mFU; omega) (uD.fm fD3 (by decide) (by decide) (by decide)) cD3 (sK.fm fK3 (by decide)) (hq.fm fG3 (by decide) (by decide) (by decide)) (by rw [fG3.2 28 (by decide)]; exact h28) dB3 (by
      unfold preB mBv
      simpa using d3)
    refine ⟨H, by rw [l0]; exact eH, ?_, fG3.tr (fH.up (by simp) (by simp))⟩
    rw [List.append_assoc, List.append_assoc] at gH
    exact gH
