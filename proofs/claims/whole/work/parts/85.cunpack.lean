/-! pure: the class unpacks -/
def itemS (w : List Nat) (p : Nat) (o : List Nat) : Option (Nat × List Nat) :=
  if w.getD p 0 = 90 then frameS w (p + 1) o else if w.getD p 0 = 83 ∧ p + 1 < w.length ∧ p + 2 + w.getD (p + 1) 0 ≤ w.length then some (p + 2 + w.getD (p + 1) 0, o) else none
/-- the place of an item that is refused, or OUT -/
def itemsS (w : List Nat) : Nat → Nat → List Nat → Nat ⊕ List Nat
  | 0, _, o => .inr o
  | k + 1, p, o => if w.length ≤ p then .inr o else match itemS w p o with
    | none => .inl p
    | some z => itemsS w k z.1 z.2
theorem itemS_ge {w : List Nat} {p : Nat} {o : List Nat} {z : Nat × List Nat} (h : itemS w p o = some z) : p + 1 ≤ z.1 := by
  unfold itemS at h
  split at h
  · have := frameS_ge h
    omega
  · split at h
    · injection h with h
      subst h
      dsimp only
      omega
    · exact absurd h (by simp)
theorem nI_m1 {n : Nat} (h : n < 2 ^ 31) : ¬ nI n = -1 := fun q => absurd (show nI n < 0 by rw [q]; decide) (nI_pos h)
theorem r000 : mRf L1 0 0 = 1 := rfl
theorem r001 : mRf L1 0 1 = 3 := rfl
theorem r004 : mRf L1 0 4 = 15 := rfl
theorem pf_skip {F : Mem} {w o : List Nat} {p : Nat} (h : RD F 3 4 w) (h5 : w.length ≤ 240) (h6 : ∀ b ∈ w, b < 256) (hp : p < w.length) (h90 : ¬ w.getD p 0 = 90) : ∃ r, f_PF_placeBehindSkip L1 0 (nI p) F = some (r, F) ∧ (∀ z, itemS w p o = some z → r = nI z.1 ∧ o = z.2 ∧ z.1 ≤ w.length) ∧ (itemS w p o = none → r = -1) := by
  have b0 := nI_byte h6 p
  have b1 := nI_byte h6 (p + 1)
  have es : itemS w p o = if w.getD p 0 = 83 ∧ p + 1 < w.length ∧ p + 2 + w.getD (p + 1) 0 ≤ w.length then some (p + 2 + w.getD (p + 1) 0, o) else none := by
    unfold itemS
    rw [if_neg h90]
  have no : ¬ (w.getD p 0 = 83 ∧ p + 1 < w.length ∧ p + 2 + w.getD (p + 1) 0 ≤ w.length) → ∃ r, some ((-1 : Int32), F) = some (r, F) ∧ (∀ z, itemS w p o = some z → r = nI z.1 ∧ o = z.2 ∧ z.1 ≤ w.length) ∧ (itemS w p o = none → r = -1) := fun q => by
    refine ⟨-1, rfl, fun z hz => ?_, fun _ => rfl⟩
    rw [es, if_neg q] at hz
    exact absurd hz (by simp)
  have ep : mGa L1 F 4 (nI p).toNatClampNeg = nI (w.getD p 0) := by rw [a4, nI_clamp (by omega), h.2 p hp]
  unfold f_PF_placeBehindSkip b_PF_placeBehindSkip_27 b_PF_placeBehindSkip_61
  rw [r001, r30, g4, if_neg (inb_no (n := p) (by omega) (by omega)), ep, nI_1, h.1]
  by_cases q0 : w.getD p 0 = 83
  · rw [if_pos (show nI (w.getD p 0) = (83 : Int32) by rw [q0]; rfl)]
    by_cases q1 : p + 1 < w.length
    · have ep1 : mGa L1 F 4 (nI (p + 1)).toNatClampNeg = nI (w.getD (p + 1) 0) := by rw [a4, nI_clamp (by omega), h.2 (p + 1) q1]
      rw [ilt q1 (by omega), if_neg (inb_no (n := p + 1) (by omega) (by omega)), ep1, l2, nI_add, nI_add]
      by_cases q2 : p + 2 + w.getD (p + 1) 0 ≤ w.length
      · rw [iltn q2 (by omega)]
        have e' : itemS w p o = some (p + 2 + w.getD (p + 1) 0, o) := by rw [es, if_pos ⟨q0, q1, q2⟩]
        refine ⟨_, rfl, fun z hz => ?_, fun hz => ?_⟩
        · rw [e'] at hz
          injection hz with hz
          subst hz
          exact ⟨rfl, rfl, q2⟩
        · rw [e'] at hz
          exact absurd hz (by simp)
      · rw [ilt (by omega) (by omega)]
        exact no (fun c => q2 c.2.2)
    · rw [iltn (by omega) (by omega)]
      exact no (fun c => q1 c.2.1)
  · rw [if_neg (show ¬ nI (w.getD p 0) = (83 : Int32) from nne (b := 83) q0 (by omega) (by omega))]
    exact no (fun c => q0 c.1)
theorem pf_items {w : List Nat} (h5 : w.length ≤ 240) (h6 : ∀ b ∈ w, b < 256) : ∀ (k i : Nat) (F : Mem) (p : Nat) (o : List Nat) (fu : Nat), k + i = 240 → k < fu → w.length ≤ p + k → p ≤ w.length → UI F w o →
    ∃ G o', UI G w o' ∧ Fr FS F G ∧ (∀ q, itemsS w k p o = .inl q → f_PF_unpack_15 L1 fu 0 (nI p) (nI i) F = some (-1 - nI q, G)) ∧ (∀ z, itemsS w k p o = .inr z → f_PF_unpack_15 L1 fu 0 (nI p) (nI i) F = b_PF_unpack_94 L1 0 G ∧ z = o') := by
  intro k
  induction k with
  | zero =>
    intro i F p o fu hd hf hk hp u
    obtain ⟨fu, rfl⟩ : ∃ k, fu = k + 1 := ⟨fu - 1, by omega⟩
    obtain rfl : i = 240 := by omega
    refine ⟨F, o, u, Fr.rf, fun q hq => absurd hq (by simp [itemsS]), fun z hz => ⟨?_, ?_⟩⟩
    · show b_PF_unpack_15 L1 (f_PF_unpack_15 L1 fu) 0 (nI p) (nI 240) F = _
      unfold b_PF_unpack_15
      rw [if_pos (show (240 : Int32) ≤ nI 240 by decide)]
    · unfold itemsS at hz
      injection hz with hz
      exact hz.symm
  | succ k ih =>
    intro i F p o fu hd hf hk hp u
    obtain ⟨fu, rfl⟩ : ∃ k, fu = k + 1 := ⟨fu - 1, by omega⟩
    have e240 : ¬ (240 : Int32) ≤ nI i := fun q => absurd ((nI_leI (a := 240) (by omega) (by omega)).mp q) (by omega)
    by_cases q0 : w.length ≤ p
    · have es : itemsS w (k + 1) p o = .inr o := by
        unfold itemsS
        rw [if_pos q0]
      refine ⟨F, o, u, Fr.rf, fun q hq => absurd (es.symm.trans hq) (by simp), fun z hz => ⟨?_, ?_⟩⟩
      · show b_PF_unpack_15 L1 (f_PF_unpack_15 L1 fu) 0 (nI p) (nI i) F = _
        unfold b_PF_unpack_15
        rw [if_neg e240, r001, u.1.1, ile q0 (by omega)]
      · rw [es] at hz
        injection hz with hz
        exact hz.symm
    · have b0 := nI_byte h6 p
      have ep : mGa L1 F 4 (nI p).toNatClampNeg = nI (w.getD p 0) := by rw [a4, nI_clamp (by omega), u.1.2 p (by omega)]
      -- the item
      obtain ⟨A, r, oA, eA, uA, fA, g1, g2⟩ : ∃ A r oA, f_PF_unpack_15 L1 (fu + 1) 0 (nI p) (nI i) F = b_PF_unpack_73 L1 (f_PF_unpack_15 L1 fu) 0 (nI p) (nI i) r A ∧ UI A w oA ∧ Fr FS F A ∧ (∀ z, itemS w p o = some z → r = nI z.1 ∧ oA = z.2 ∧ z.1 ≤ w.length) ∧ (itemS w p o = none → r = -1) := by
        by_cases q : w.getD p 0 = 90
        · obtain ⟨A, r, oA, eA, uA, fA, g1, g2⟩ := fr_frame u h5 h6 (p := p) (by omega)
          have es : itemS w p o = frameS w (p + 1) o := by
            unfold itemS
            rw [if_pos q]
          refine ⟨A, r, oA, ?_, uA, fA, by rw [es]; exact g1, by rw [es]; exact g2⟩
          show b_PF_unpack_15 L1 (f_PF_unpack_15 L1 fu) 0 (nI p) (nI i) F = _
          unfold b_PF_unpack_15 b_PF_unpack_52
          rw [if_neg e240, r001, r30, u.1.1, ilen (by omega) (by omega), g4, if_neg (inb_no (n := p) (by omega) (by omega)), ep, if_pos (show nI (w.getD p 0) = (90 : Int32) by rw [q]; rfl), if_neg (by decide), r004, eA]
          rfl
        · obtain ⟨r, eA, g1, g2⟩ := pf_skip (o := o) u.1 h5 h6 (p := p) (by omega) q
          refine ⟨F, r, o, ?_, u, Fr.rf, g1, g2⟩
          show b_PF_unpack_15 L1 (f_PF_unpack_15 L1 fu) 0 (nI p) (nI i) F = _
          unfold b_PF_unpack_15 b_PF_unpack_52
          rw [if_neg e240, r001, r30, u.1.1, ilen (by omega) (by omega), g4, if_neg (inb_no (n := p) (by omega) (by omega)), ep, if_neg (show ¬ nI (w.getD p 0) = (90 : Int32) from nne (b := 90) q (by omega) (by omega)), if_pos rfl, eA]
          rfl
      cases e4 : itemS w p o with
      | none =>
        have es : itemsS w (k + 1) p o = .inl p := by
          unfold itemsS
          rw [if_neg q0, e4]
        refine ⟨A, oA, uA, fA, fun q hq => ?_, fun z hz => absurd (es.symm.trans hz) (by simp)⟩
        rw [es] at hq
        injection hq with hq
        subst hq
        rw [eA, g2 e4]
        unfold b_PF_unpack_73
        rw [if_pos rfl]
      | some z =>
        obtain ⟨r1, r2, r3⟩ := g1 z e4
        have hz := itemS_ge e4
        have es : itemsS w (k + 1) p o = itemsS w k z.1 z.2 := by
          rw [itemsS, if_neg q0, e4]
        subst r2
        obtain ⟨G, o', uG, fG, k1, k2⟩ := ih (i + 1) A z.1 z.2 fu (by omega) (by omega) (by omega) r3 uA
        have st : f_PF_unpack_15 L1 (fu + 1) 0 (nI p) (nI i) F = f_PF_unpack_15 L1 fu 0 (nI z.1) (nI (i + 1)) A := by
          rw [eA, r1]
          unfold b_PF_unpack_73
          rw [if_neg (nI_m1 (by omega)), nI_1]
        refine ⟨G, o', uG, fA.tr fG, fun q hq => ?_, fun y hy => ?_⟩
        · rw [es] at hq
          rw [st]
          exact k1 q hq
        · rw [es] at hy
          rw [st]
          exact k2 y hy
theorem pf_unpack {U F : Mem} {c w : List Nat} (h : CW c w) (hp : RP U F c w) :
    ∃ F', (∀ q, itemsS w 240 0 [] = .inl q → f_PF_unpack L1 0 F = some (-1 - nI q, F') ∧ RP U F' c w) ∧ (∀ z, itemsS w 240 0 [] = .inr z → f_PF_unpack L1 0 F = some (nI z.length, F') ∧ RP U F' z w ∧ CW z w) := by
  obtain ⟨h1, h2, h3, h4⟩ := h
  obtain ⟨p1, p2, s1, s2, s3, s4, s5, s6⟩ := hp
  have f0 : Fr [16] F (u2 F 16 1 0) := Fr.u (by simp)
  have u0 : UI (u2 F 16 1 0) w [] := ⟨p2.fr f0 (by decide) (by decide), ⟨u2_s, fun j hj => absurd hj (by simp)⟩, by simp, by simp, fun i hi => by rw [f0 20 (by decide)]; exact s5 i hi, fun i hi => by rw [f0 42 (by decide)]; exact s6 i hi, ⟨by rw [f0 27 (by decide)]; exact s2, by rw [f0 32 (by decide)]; exact s3, by rw [f0 37 (by decide)]; exact s4⟩⟩
  obtain ⟨G, o', uG, fG, k1, k2⟩ := pf_items h2 h4 240 0 (u2 F 16 1 0) 0 [] mFU (by omega) (by unfold mFU; omega) (by omega) (by omega) u0
  have fFG : Fr FS F G := (f0.up (by simp)).tr fG
  have e0 : f_PF_unpack L1 0 F = f_PF_unpack_15 L1 mFU 0 (nI 0) (nI 0) (u2 F 16 1 0) := rfl
  obtain ⟨g1, g2, g3, g4, g5, g6, g7⟩ := id uG
  have sf : ∀ H : Mem, Fr [1, 2] G H → Sf U H := fun H f => by
    refine ⟨fun k h1 h2 => ?_, ?_, ?_, ?_, ?_, ?_⟩
    · rw [f k (by simp; omega), fFG k (by simp; omega)]
      exact s1 k h1 h2
    · rw [f 27 (by decide)]; exact g7.1
    · rw [f 32 (by decide)]; exact g7.2.1
    · rw [f 37 (by decide)]; exact g7.2.2
    · rw [f 20 (by decide)]; exact g5
    · rw [f 42 (by decide)]; exact g6
  cases es : itemsS w 240 0 [] with
  | inl q =>
    refine ⟨G, fun q' hq => ?_, fun z hz => absurd hz (by simp)⟩
    injection hq with hq
    subst hq
    refine ⟨?_, p1.fr fFG (by decide) (by decide), g1, sf G Fr.rf⟩
    rw [e0]
    exact k1 q es
  | inr z =>
    obtain ⟨e1, e2⟩ := k2 z es
    subst e2
    have f1 : Fr [1, 2] G (u2 G 1 1 0) := Fr.u (by simp)
    obtain ⟨H, eH, dH, fH⟩ := row_addRow (F := u2 G 1 1 0) (xs := []) (ys := z) rs1 rs16 (by decide) (by decide) (by decide) (by decide) ⟨u2_s, fun j hj => absurd hj (by simp)⟩ (g2.fr f1 (by decide) (by decide)) g4 g3 (by omega) (by simpa using g3)
    rw [List.nil_append] at dH
    have fGH : Fr [1, 2] G H := f1.tr fH
    refine ⟨H, fun q hq => absurd hq (by simp), fun z' hz => ?_⟩
    injection hz with hz
    subst hz
    refine ⟨?_, ⟨dH, g1.fr fGH (by decide) (by decide), sf H fGH⟩, g3, h2, g4, h4⟩
    rw [e0]
    refine e1.trans ?_
    unfold b_PF_unpack_94
    rw [r000, r004, r150, ld, eH]
    dsimp only [Option.bind_some]
    rw [dH.1]
