/-! pure: the cells are dealt, class and model -/
def OW (F : Mem) (a : Nat) (xs : List Nat) : Prop := ∀ j, j < xs.length → F a j = nI (xs.getD j 0)
theorem OW.push {F : Mem} {a : Nat} {xs : List Nat} (h : OW F a xs) (b : Nat) : OW (u2 F a xs.length (nI b)) a (xs ++ [b]) := by
  intro j hj
  by_cases e : j = xs.length
  · subst e
    rw [u2_s]; simp
  · have h6 : j < xs.length := by simp at hj; omega
    rw [u2_p e, h j h6]
    simp [List.getD_eq_getElem?_getD, List.getElem?_append_left h6]
theorem OW.eq {F G : Mem} {a : Nat} {xs : List Nat} (h : OW F a xs) (e : G a = F a) : OW G a xs := fun j hj => by rw [e]; exact h j hj
theorem deal48 {L : La} {i a0 a1 a2 : Nat} (T : TO3 L i a0 a1 a2) (x1 x3 : Int32) (s : Nat) (k4 : Nat → Int32 → Int32 → Int32 → Mem → Option Mem) (k13 : Nat → Int32 → Int32 → Int32 → Int32 → Mem → Option Mem) : ∀ (d : Nat) (F : Mem) (acc : List Nat) (fu : Nat), d < fu → acc.length + d ≤ 128 → OW F a2 acc →
    ∃ G, f_Tr_dealCells_48 L k4 k13 fu i x1 (nI acc.length) x3 (nI s) (nI (acc.length + d)) F = k13 i x1 (nI (acc.length + d)) x3 (nI (s + 1)) G ∧ OW G a2 (acc ++ List.replicate d s) ∧ Fr [a2] F G := by
  obtain ⟨⟨r0, r1, r2⟩, ⟨n0, n1, n2⟩, ⟨z0, z1, z2⟩, ⟨d0, d1, d2⟩, -⟩ := id T
  intro d
  induction d with
  | zero =>
    intro F acc fu hf hc ho
    obtain ⟨fu, rfl⟩ : ∃ k, fu = k + 1 := ⟨fu - 1, by omega⟩
    refine ⟨F, ?_, by simpa using ho, Fr.rf⟩
    show b_Tr_dealCells_48 L k4 k13 (f_Tr_dealCells_48 L k4 k13 fu) i x1 (nI acc.length) x3 (nI s) (nI (acc.length + 0)) F = _
    unfold b_Tr_dealCells_48 b_Tr_dealCells_77
    rw [ile (by omega) (by omega), nI_1]
    rfl
  | succ d ih =>
    intro F acc fu hf hc ho
    obtain ⟨fu, rfl⟩ : ∃ k, fu = k + 1 := ⟨fu - 1, by omega⟩
    obtain ⟨G, e, o, f⟩ := ih (u2 F a2 acc.length (nI s)) (acc ++ [s]) fu (by omega) (by simp; omega) (ho.push s)
    have el : (acc ++ [s]).length = acc.length + 1 := by simp
    rw [el, show acc.length + 1 + d = acc.length + (d + 1) by omega] at e
    refine ⟨G, ?_, ?_, (Fr.u (by simp)).tr f⟩
    · show b_Tr_dealCells_48 L k4 k13 (f_Tr_dealCells_48 L k4 k13 fu) i x1 (nI acc.length) x3 (nI s) (nI (acc.length + (d + 1))) F = _
      unfold b_Tr_dealCells_48
      rw [ilen (by omega) (by omega), r2, mGl_n n2 z2, z2, ilen (by omega) (by omega), if_neg (in_w (n := acc.length) (by omega) (by omega) n2), ld, nI_clamp (by omega), nI_1]
      exact e
    · rw [List.replicate_succ]
      simpa using o
theorem deal13 {L : La} {i a0 a1 a2 : Nat} (T : TO3 L i a0 a1 a2) {wt : Nat → Nat} {n v : Nat} (hn : n ≤ 16) (hv1 : 1 ≤ v) (hv : v ≤ 7) (base : List Nat) (hb : base.length + (own1 wt v (n + 1)).length ≤ 128) (k4 : Nat → Int32 → Int32 → Int32 → Mem → Option Mem) : ∀ (d k : Nat) (F : Mem) (fu : Nat), d + k = n + 1 → d < fu → (∀ s, s ≤ n → F a0 s = nI (wt s) ∧ wt s < 16) → OW F a2 (base ++ own1 wt v k) →
    ∃ G, f_Tr_dealCells_13 L k4 fu i (nI n) (nI (base ++ own1 wt v k).length) (nI v) (nI k) F = k4 i (nI n) (nI (base ++ own1 wt v (n + 1)).length) (nI (v + 1)) G ∧ OW G a2 (base ++ own1 wt v (n + 1)) ∧ (∀ s, k ≤ s → s ≤ n → wt s = v → G a1 s = nI (base.length + (own1 wt v s).length)) ∧ (∀ s, ¬ (k ≤ s ∧ s ≤ n ∧ wt s = v) → G a1 s = F a1 s) ∧ Fr [a1, a2] F G := by
  obtain ⟨⟨r0, r1, r2⟩, ⟨n0, n1, n2⟩, ⟨z0, z1, z2⟩, ⟨d0, d1, d2⟩, ⟨g0, g1, g2⟩⟩ := id T
  intro d
  induction d with
  | zero =>
    intro k F fu hd hf hw ho
    obtain ⟨fu, rfl⟩ : ∃ k, fu = k + 1 := ⟨fu - 1, by omega⟩
    obtain rfl : k = n + 1 := by omega
    refine ⟨F, ?_, ho, fun s h1 h2 => absurd h1 (by omega), fun _ _ => rfl, Fr.rf⟩
    show b_Tr_dealCells_13 L k4 (f_Tr_dealCells_13 L k4 fu) i (nI n) _ (nI v) (nI (n + 1)) F = _
    unfold b_Tr_dealCells_13
    rw [ilt (by omega) (by omega), nI_1]
  | succ d ih =>
    intro k F fu hd hf hw ho
    obtain ⟨fu, rfl⟩ : ∃ k, fu = k + 1 := ⟨fu - 1, by omega⟩
    obtain ⟨hk, hk2⟩ := hw k (by omega)
    have hm := own1_mono wt v (show k + 1 ≤ n + 1 by omega)
    show ∃ G, b_Tr_dealCells_13 L k4 (f_Tr_dealCells_13 L k4 fu) i (nI n) _ (nI v) (nI k) F = _ ∧ _
    unfold b_Tr_dealCells_13
    rw [iltn (by omega) (by omega), r0, mGl_n n0 z0, if_neg (inb_no (n := k) (by omega) (by omega)), show mGa L F a0 (nI k).toNatClampNeg = nI (wt k) by rw [mGa_n n0, nI_clamp (by omega), hk]]
    by_cases q : wt k = v
    · have eo : own1 wt v (k + 1) = own1 wt v k ++ List.replicate (2 ^ (v - 1)) k := by
        simp only [own1, if_pos q]
      have el : (own1 wt v (k + 1)).length = (own1 wt v k).length + 2 ^ (v - 1) := by rw [eo]; simp
      have ec : cl (wt k) = 2 ^ (v - 1) := by unfold cl; rw [if_neg (by omega), q]
      rw [ieq q, r1, z1, if_neg (in_w (n := k) (by omega) (by omega) n1), ld, nI_clamp (by omega)]
      obtain ⟨A, hA⟩ : ∃ A, A = u2 F a1 k (nI (base ++ own1 wt v k).length) := ⟨_, rfl⟩
      have fA : Fr [a1] F A := by rw [hA]; exact Fr.u (by simp)
      have fA0 : A a0 = F a0 := fA a0 (by simpa using g0)
      have fA2 : A a2 = F a2 := fA a2 (by simpa using Ne.symm g2)
      rw [← hA, tr_cells T (by omega) (show wt k ≤ 7 by omega) (by rw [fA0]; exact hk)]
      dsimp only [Option.bind_some]
      obtain ⟨B, eB, oB, fB⟩ := deal48 T (nI n) (nI v) k k4 (f_Tr_dealCells_13 L k4 fu) (2 ^ (v - 1)) A (base ++ own1 wt v k) mFU (by have : 2 ^ (v - 1) ≤ 2 ^ 6 := Nat.pow_le_pow_right (by decide) (by omega); unfold mFU; omega) (by simp; omega) (ho.eq fA2)
      have el2 : (base ++ own1 wt v k).length + 2 ^ (v - 1) = (base ++ own1 wt v (k + 1)).length := by simp [el]; omega
      have ol : base ++ own1 wt v k ++ List.replicate (2 ^ (v - 1)) k = base ++ own1 wt v (k + 1) := by rw [eo, List.append_assoc]
      rw [nI_add, ec, eB, el2]
      rw [ol] at oB
      have fB0 : B a0 = F a0 := by rw [fB a0 (by simpa using g1), fA0]
      obtain ⟨G, eG, oG, sG, uG, fG⟩ := ih (k + 1) B fu (by omega) (by omega) (fun s hs => by rw [fB0]; exact hw s hs) oB
      have fB1 : B a1 = A a1 := fB a1 (by simpa using g2)
      refine ⟨G, eG, oG, fun s h1 h2 h3 => ?_, fun s hs => ?_, ((fA.up (by simp)).tr (fB.up (by simp))).tr fG⟩
      · rcases Nat.eq_or_lt_of_le h1 with rfl | h1
        · rw [uG k (by omega), fB1, hA, u2_s]; simp
        · exact sG s (by omega) h2 h3
      · rw [uG s (fun c => hs ⟨by omega, c.2⟩), fB1, hA, u2_p (fun c => hs ⟨by omega, by omega, by rw [c]; exact q⟩)]
    · have eo : own1 wt v (k + 1) = own1 wt v k := by
        simp only [own1, if_neg q, List.append_nil]
      rw [ieqn q (by omega) (by omega)]
      unfold b_Tr_dealCells_77
      rw [nI_1]
      obtain ⟨G, eG, oG, sG, uG, fG⟩ := ih (k + 1) F fu (by omega) (by omega) hw (by rw [eo]; exact ho)
      rw [eo] at eG
      refine ⟨G, eG, oG, fun s h1 h2 h3 => ?_, fun s hs => uG s (fun c => hs ⟨by omega, c.2⟩), fG⟩
      rcases Nat.eq_or_lt_of_le h1 with rfl | h1
      · exact absurd h3 q
      · exact sG s (by omega) h2 h3
theorem deal4 {L : La} {i a0 a1 a2 : Nat} (T : TO3 L i a0 a1 a2) {wt : Nat → Nat} {n : Nat} (hn : n ≤ 16) (hb : (ownL wt n 7).length ≤ 128) : ∀ (d v : Nat) (F : Mem) (fu : Nat), d + v = 7 → d < fu → (∀ s, s ≤ n → F a0 s = nI (wt s) ∧ wt s < 16) → OW F a2 (ownL wt n v) →
    ∃ G, f_Tr_dealCells_4 L fu i (nI n) (nI (ownL wt n v).length) (nI (v + 1)) F = some G ∧ OW G a2 (ownL wt n 7) ∧ (∀ s, s ≤ n → v < wt s → wt s ≤ 7 → G a1 s = nI (startS wt n s)) ∧ (∀ s, s ≤ n → wt s ≤ v → G a1 s = F a1 s) ∧ Fr [a1, a2] F G := by
  obtain ⟨⟨r0, r1, r2⟩, ⟨n0, n1, n2⟩, ⟨z0, z1, z2⟩, ⟨d0, d1, d2⟩, ⟨g0, g1, g2⟩⟩ := id T
  intro d
  induction d with
  | zero =>
    intro v F fu hd hf hw ho
    obtain ⟨fu, rfl⟩ : ∃ k, fu = k + 1 := ⟨fu - 1, by omega⟩
    obtain rfl : v = 7 := by omega
    refine ⟨F, ?_, ho, fun s h1 h2 h3 => absurd h2 (by omega), fun _ _ _ => rfl, Fr.rf⟩
    show b_Tr_dealCells_4 L (f_Tr_dealCells_4 L fu) i (nI n) _ (nI (7 + 1)) F = _
    unfold b_Tr_dealCells_4
    rw [if_pos (show (7 : Int32) < nI (7 + 1) by decide)]
  | succ d ih =>
    intro v F fu hd hf hw ho
    obtain ⟨fu, rfl⟩ : ∃ k, fu = k + 1 := ⟨fu - 1, by omega⟩
    have hm := ownL_mono wt n (show v + 1 ≤ 7 by omega)
    have e1 : ownL wt n (v + 1) = ownL wt n v ++ own1 wt (v + 1) (n + 1) := rfl
    have hm2 : (ownL wt n v).length + (own1 wt (v + 1) (n + 1)).length ≤ 128 := by
      rw [e1, List.length_append] at hm
      omega
    obtain ⟨A, eA, oA, sA, uA, fA⟩ := deal13 T (wt := wt) hn (show 1 ≤ v + 1 by omega) (show v + 1 ≤ 7 by omega) (ownL wt n v) hm2 (f_Tr_dealCells_4 L fu) (n + 1) 0 F mFU (by omega) (by unfold mFU; omega) hw (by simpa [own1] using ho)
    rw [← e1] at eA oA
    obtain ⟨G, eG, oG, sG, uG, fG⟩ := ih (v + 1) A fu (by omega) (by omega) (fun s hs => by rw [fA a0 (by simp [g0, g1])]; exact hw s hs) oA
    refine ⟨G, ?_, oG, fun s h1 h2 h3 => ?_, fun s h1 h2 => ?_, fA.tr fG⟩
    · show b_Tr_dealCells_4 L (f_Tr_dealCells_4 L fu) i (nI n) _ (nI (v + 1)) F = _
      unfold b_Tr_dealCells_4
      rw [l7, iltn (by omega) (by omega)]
      have : own1 wt (v + 1) 0 = [] := rfl
      rw [this, List.append_nil] at eA
      exact eA.trans eG
    · by_cases q : wt s = v + 1
      · rw [uG s h1 (by omega), sA s (by omega) h1 q]
        unfold startS
        rw [q]
        rfl
      · exact sG s h1 (by omega) h3
    · rw [uG s h1 (by omega), uA s (by omega)]
theorem tr_deal {L : La} {i a0 a1 a2 : Nat} (T : TO3 L i a0 a1 a2) {wt : Nat → Nat} {n : Nat} (hn : n ≤ 16) (hb : (ownL wt n 7).length ≤ 128) {F : Mem} (hw : ∀ s, s ≤ n → F a0 s = nI (wt s) ∧ wt s < 16) :
    ∃ G, f_Tr_dealCells L i (nI n) F = some G ∧ OW G a2 (ownL wt n 7) ∧ (∀ s, s ≤ n → 0 < wt s → wt s ≤ 7 → G a1 s = nI (startS wt n s)) ∧ Fr [a1, a2] F G := by
  obtain ⟨G, e, o, s, -, f⟩ := deal4 T hn hb 7 0 F mFU (by omega) (by unfold mFU; omega) hw (fun j hj => absurd hj (by simp [ownL]))
  exact ⟨G, e, o, s, f⟩
/-! the model -/
theorem r019 : mRf L2 0 19 = 6 := rfl
theorem r020 : mRf L2 0 20 = 7 := rfl
theorem m6 : mLn L2 6 = 17 := rfl
theorem m7 : mLn L2 7 = 128 := rfl
theorem gl6 : mGl L2 6 = 17 := rfl
theorem gl7 : mGl L2 7 = 128 := rfl
theorem ga6 (F : Mem) (j : Nat) : mGa L2 F 6 j = F 6 j := if_pos (by decide)
theorem ga7 (F : Mem) (j : Nat) : mGa L2 F 7 j = F 7 j := if_pos (by decide)
theorem plant28 {v s : Nat} (hs : s < 17) (hv1 : 1 ≤ v) (hv : v ≤ 7) (k9 : Nat → Int32 → Int32 → Mem → Option Mem) (k17 : Nat → Int32 → Int32 → Int32 → Mem → Option Mem) : ∀ (d k : Nat) (F : Mem) (acc : List Nat) (fu : Nat), d + k = 2 ^ (v - 1) → d < fu → acc.length + d ≤ 128 → F 6 s = nI v → OW F 7 acc →
    ∃ G, f_Md_plant_28 L2 k9 k17 fu 0 (nI acc.length) (nI v) (nI s) (nI k) F = k17 0 (nI (acc.length + d)) (nI v) (nI (s + 1)) G ∧ OW G 7 (acc ++ List.replicate d s) ∧ Fm [] [7] F G := by
  have p6 : 2 ^ (v - 1) ≤ 2 ^ 6 := Nat.pow_le_pow_right (by decide) (by omega)
  intro d
  induction d with
  | zero =>
    intro k F acc fu hd hf hc hw ho
    obtain ⟨fu, rfl⟩ : ∃ k, fu = k + 1 := ⟨fu - 1, by omega⟩
    refine ⟨F, ?_, by simpa using ho, Fm.rf⟩
    show b_Md_plant_28 L2 k9 k17 (f_Md_plant_28 L2 k9 k17 fu) 0 (nI acc.length) (nI v) (nI s) (nI k) F = _
    unfold b_Md_plant_28 b_Md_plant_64
    rw [show jshl (1 : Int32) (nI v - 1) = nI (2 ^ (v - 1)) by rw [l1, pk_sub hv1, jshl_n (by omega) (by omega), Nat.one_mul], ile (by omega) (by omega), nI_1]
    rfl
  | succ d ih =>
    intro k F acc fu hd hf hc hw ho
    obtain ⟨fu, rfl⟩ : ∃ k, fu = k + 1 := ⟨fu - 1, by omega⟩
    obtain ⟨G, e, o, f⟩ := ih (k + 1) (u2 F 7 acc.length (nI s)) (acc ++ [s]) fu (by omega) (by omega) (by simp; omega) (by rw [u2_c (by decide)]; exact hw) (ho.push s)
    have el : (acc ++ [s]).length = acc.length + 1 := by simp
    rw [el, show acc.length + 1 + d = acc.length + (d + 1) by omega] at e
    refine ⟨G, ?_, ?_, (Fm.uc (by simp) (by decide)).tr f⟩
    · show b_Md_plant_28 L2 k9 k17 (f_Md_plant_28 L2 k9 k17 fu) 0 (nI acc.length) (nI v) (nI s) (nI k) F = _
      unfold b_Md_plant_28
      rw [show jshl (1 : Int32) (nI v - 1) = nI (2 ^ (v - 1)) by rw [l1, pk_sub hv1, jshl_n (by omega) (by omega), Nat.one_mul], ilen (by omega) (by omega), r019, r020, gl6, m7, if_neg (inb_no (n := s) (by omega) (by omega)), show mGa L2 F 6 (nI s).toNatClampNeg = nI v by rw [ga6, nI_clamp (by omega), hw], ieq rfl, if_neg (in_w (n := acc.length) (by omega) (by omega) (show 7 < mNc L2 by decide)), ld, nI_clamp (by omega), nI_1, nI_1]
      exact e
    · rw [List.replicate_succ]
      simpa using o
theorem plant17 {wt : Nat → Nat} {n v : Nat} (hn : n ≤ 16) (hv1 : 1 ≤ v) (hv : v ≤ 7) (base : List Nat) (hb : base.length + (own1 wt v (n + 1)).length ≤ 128) (k9 : Nat → Int32 → Int32 → Mem → Option Mem) : ∀ (d k : Nat) (F : Mem) (fu : Nat), d + k = n + 1 → d < fu → F 0 17 = nI n → (∀ s, s ≤ n → F 6 s = nI (wt s) ∧ wt s < 16) → OW F 7 (base ++ own1 wt v k) →
    ∃ G, f_Md_plant_17 L2 k9 fu 0 (nI (base ++ own1 wt v k).length) (nI v) (nI k) F = k9 0 (nI (base ++ own1 wt v (n + 1)).length) (nI (v + 1)) G ∧ OW G 7 (base ++ own1 wt v (n + 1)) ∧ Fm [] [7] F G := by
  have p6 : 2 ^ (v - 1) ≤ 2 ^ 6 := Nat.pow_le_pow_right (by decide) (by omega)
  have p0 : 0 < 2 ^ (v - 1) := Nat.two_pow_pos _
  intro d
  induction d with
  | zero =>
    intro k F fu hd hf h17 hw ho
    obtain ⟨fu, rfl⟩ : ∃ k, fu = k + 1 := ⟨fu - 1, by omega⟩
    obtain rfl : k = n + 1 := by omega
    refine ⟨F, ?_, ho, Fm.rf⟩
    show b_Md_plant_17 L2 k9 (f_Md_plant_17 L2 k9 fu) 0 _ (nI v) (nI (n + 1)) F = _
    unfold b_Md_plant_17
    rw [h17, ilt (by omega) (by omega), nI_1]
  | succ d ih =>
    intro k F fu hd hf h17 hw ho
    obtain ⟨fu, rfl⟩ : ∃ k, fu = k + 1 := ⟨fu - 1, by omega⟩
    obtain ⟨hk, hk2⟩ := hw k (by omega)
    have hm := own1_mono wt v (show k + 1 ≤ n + 1 by omega)
    have st : f_Md_plant_17 L2 k9 (fu + 1) 0 (nI (base ++ own1 wt v k).length) (nI v) (nI k) F = f_Md_plant_28 L2 k9 (f_Md_plant_17 L2 k9 fu) mFU 0 (nI (base ++ own1 wt v k).length) (nI v) (nI k) (nI 0) F := by
      show b_Md_plant_17 L2 k9 (f_Md_plant_17 L2 k9 fu) 0 _ (nI v) (nI k) F = _
      unfold b_Md_plant_17
      rw [h17, iltn (by omega) (by omega)]
      rfl
    by_cases q : wt k = v
    · have eo : own1 wt v (k + 1) = own1 wt v k ++ List.replicate (2 ^ (v - 1)) k := by
        simp only [own1, if_pos q]
      have el : (own1 wt v (k + 1)).length = (own1 wt v k).length + 2 ^ (v - 1) := by rw [eo]; simp
      obtain ⟨B, eB, oB, fB⟩ := plant28 (v := v) (s := k) (by omega) hv1 hv k9 (f_Md_plant_17 L2 k9 fu) (2 ^ (v - 1)) 0 F (base ++ own1 wt v k) mFU (by omega) (by unfold mFU; omega) (by simp; omega) (by rw [hk, q]) ho
      have el2 : (base ++ own1 wt v k).length + 2 ^ (v - 1) = (base ++ own1 wt v (k + 1)).length := by simp [el]; omega
      have ol : base ++ own1 wt v k ++ List.replicate (2 ^ (v - 1)) k = base ++ own1 wt v (k + 1) := by rw [eo, List.append_assoc]
      rw [ol] at oB
      rw [el2] at eB
      obtain ⟨G, eG, oG, fG⟩ := ih (k + 1) B fu (by omega) (by omega) (by rw [fB.2 17 (by simp)]; exact h17) (fun s hs => by rw [fB.1 6 (by decide) (by decide)]; exact hw s hs) oB
      exact ⟨G, st.trans (eB.trans eG), oG, fB.tr fG⟩
    · have eo : own1 wt v (k + 1) = own1 wt v k := by
        simp only [own1, if_neg q, List.append_nil]
      obtain ⟨G, eG, oG, fG⟩ := ih (k + 1) F fu (by omega) (by omega) h17 hw (by rw [eo]; exact ho)
      rw [eo] at eG
      refine ⟨G, st.trans (Eq.trans ?_ eG), oG, fG⟩
      show b_Md_plant_28 L2 k9 (f_Md_plant_17 L2 k9 fu) (f_Md_plant_28 L2 k9 (f_Md_plant_17 L2 k9 fu) 4095) 0 _ (nI v) (nI k) (nI 0) F = _
      unfold b_Md_plant_28 b_Md_plant_64
      rw [show jshl (1 : Int32) (nI v - 1) = nI (2 ^ (v - 1)) by rw [l1, pk_sub hv1, jshl_n (by omega) (by omega), Nat.one_mul], ilen (by omega) (by omega), r019, gl6, if_neg (inb_no (n := k) (by omega) (by omega)), show mGa L2 F 6 (nI k).toNatClampNeg = nI (wt k) by rw [ga6, nI_clamp (by omega), hk], ieqn q (by omega) (by omega), nI_1]
theorem plant9 {wt : Nat → Nat} {n : Nat} (hn : n ≤ 16) (hb : (ownL wt n 7).length ≤ 128) : ∀ (d v : Nat) (F : Mem) (fu : Nat), d + v = 7 → d < fu → F 0 17 = nI n → (∀ s, s ≤ n → F 6 s = nI (wt s) ∧ wt s < 16) → OW F 7 (ownL wt n v) →
    ∃ G, f_Md_plant_9 L2 fu 0 (nI (ownL wt n v).length) (nI (v + 1)) F = some G ∧ OW G 7 (ownL wt n 7) ∧ Fm [] [7] F G := by
  intro d
  induction d with
  | zero =>
    intro v F fu hd hf h17 hw ho
    obtain ⟨fu, rfl⟩ : ∃ k, fu = k + 1 := ⟨fu - 1, by omega⟩
    obtain rfl : v = 7 := by omega
    refine ⟨F, ?_, ho, Fm.rf⟩
    show b_Md_plant_9 L2 (f_Md_plant_9 L2 fu) 0 _ (nI (7 + 1)) F = _
    unfold b_Md_plant_9
    rw [if_pos (show (8 : Int32) ≤ nI (7 + 1) by decide)]
  | succ d ih =>
    intro v F fu hd hf h17 hw ho
    obtain ⟨fu, rfl⟩ : ∃ k, fu = k + 1 := ⟨fu - 1, by omega⟩
    have hm := ownL_mono wt n (show v + 1 ≤ 7 by omega)
    have e1 : ownL wt n (v + 1) = ownL wt n v ++ own1 wt (v + 1) (n + 1) := rfl
    have hm2 : (ownL wt n v).length + (own1 wt (v + 1) (n + 1)).length ≤ 128 := by
      rw [e1, List.length_append] at hm
      omega
    obtain ⟨A, eA, oA, fA⟩ := plant17 (wt := wt) hn (show 1 ≤ v + 1 by omega) (show v + 1 ≤ 7 by omega) (ownL wt n v) hm2 (f_Md_plant_9 L2 fu) (n + 1) 0 F mFU (by omega) (by unfold mFU; omega) h17 hw (by simpa [own1] using ho)
    rw [← e1] at eA oA
    obtain ⟨G, eG, oG, fG⟩ := ih (v + 1) A fu (by omega) (by omega) (by rw [fA.2 17 (by simp)]; exact h17) (fun s hs => by rw [fA.1 6 (by decide) (by decide)]; exact hw s hs) oA
    refine ⟨G, ?_, oG, fA.tr fG⟩
    show b_Md_plant_9 L2 (f_Md_plant_9 L2 fu) 0 _ (nI (v + 1)) F = _
    unfold b_Md_plant_9
    rw [l8, ilen (by omega) (by omega)]
    have : own1 wt (v + 1) 0 = [] := rfl
    rw [this, List.append_nil] at eA
    exact eA.trans eG
theorem md_plant {wt : Nat → Nat} {n : Nat} (hn : n ≤ 16) (hb : (ownL wt n 7).length ≤ 128) {F : Mem} (h17 : F 0 17 = nI n) (hw : ∀ s, s ≤ n → F 6 s = nI (wt s) ∧ wt s < 16) : ∃ G, f_Md_plant L2 0 F = some G ∧ OW G 7 (ownL wt n 7) ∧ G 0 15 = 1 ∧ Fm [15] [7] F G := by
  have f1 : Fm [15] [7] F (u2 F 0 15 1) := Fm.us (by simp)
  obtain ⟨G, e, o, f⟩ := plant9 hn hb 7 0 (u2 F 0 15 1) mFU (by omega) (by unfold mFU; omega) (by rw [u2_p (by decide)]; exact h17) (fun s hs => by rw [u2_c (by decide)]; exact hw s hs) (fun j hj => absurd hj (by simp [ownL]))
  refine ⟨G, ?_, o, by rw [f.2 15 (by simp), u2_s], f1.tr (f.up (by simp) (by simp))⟩
  unfold f_Md_plant
  rw [if_neg (fun q => q zb1), ld]
  exact e
