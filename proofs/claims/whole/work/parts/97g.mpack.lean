/-! pure: the model makes its packing -/
theorem md_same {xs : List Nat} (hl : xs.length ≤ 120) (hb : ∀ b ∈ xs, b < 256) (h1 : 1 ≤ xs.length) {x : Int32} {s a : Nat} (hx : (x = 0 ∧ s = 1 ∧ a = 1) ∨ (x = 1 ∧ s = 13 ∧ a = 5)) {G : Mem} (hd : MD G s a xs) : f_Md_allSame L2 0 x G = some (if smL xs xs.length = true then 1 else 0, G) := by
  have lp : ∀ (d m fu : Nat), d + m = xs.length → d < fu → f_Md_allSame_21 L2 fu 0 x (nI xs.length) (if smL xs m = true then 1 else 0) (nI m) G = some (if smL xs xs.length = true then 1 else 0, G) := by
    intro d
    induction d with
    | zero =>
      intro m fu hd' hf
      obtain ⟨fu, rfl⟩ : ∃ k, fu = k + 1 := ⟨fu - 1, by omega⟩
      obtain rfl : m = xs.length := by omega
      show b_Md_allSame_21 L2 (f_Md_allSame_21 L2 fu) 0 x (nI xs.length) (if smL xs xs.length = true then 1 else 0) (nI xs.length) G = _
      unfold b_Md_allSame_21
      rw [ile (Nat.le_refl _) (by omega)]
      by_cases q : smL xs xs.length = true
      · rw [if_pos q, if_pos zb1]
      · rw [if_neg q, if_pos zb0]
    | succ d ih =>
      intro m fu hd' hf
      obtain ⟨fu, rfl⟩ : ∃ k, fu = k + 1 := ⟨fu - 1, by omega⟩
      have e := ih (m + 1) fu (by omega) (by omega)
      have k1 : smL xs (m + 1) = true ↔ smL xs m = true ∧ xs.getD m 0 = xs.getD 0 0 := by
        show (smL xs m && decide (xs.getD m 0 = xs.getD 0 0)) = true ↔ _
        rw [Bool.and_eq_true, decide_eq_true_iff]
      have b0 := nI_byte hb 0
      have bm := nI_byte hb m
      have no : ¬ smL xs (m + 1) = true → b_Md_allSame_74 L2 (f_Md_allSame_21 L2 fu) 0 x (nI xs.length) (nI m) G = some (if smL xs xs.length = true then 1 else 0, G) := fun q => by
        rw [if_neg q] at e
        unfold b_Md_allSame_74 b_Md_allSame_75
        rw [nI_1]
        exact e
      have yes : smL xs (m + 1) = true → b_Md_allSame_70 L2 (f_Md_allSame_21 L2 fu) 0 x (nI xs.length) (nI m) G = some (if smL xs xs.length = true then 1 else 0, G) := fun q => by
        rw [if_pos q] at e
        unfold b_Md_allSame_70 b_Md_allSame_75
        rw [nI_1]
        exact e
      have n0 : (0 : Int32).toNatClampNeg = 0 := rfl
      show b_Md_allSame_21 L2 (f_Md_allSame_21 L2 fu) 0 x (nI xs.length) (if smL xs m = true then 1 else 0) (nI m) G = _
      unfold b_Md_allSame_21
      rw [ilen (by omega) (by omega)]
      by_cases q : smL xs m = true
      · rw [if_pos q, if_neg (show ¬ (1 : Int32) = 0 by decide)]
        rcases hx with ⟨rfl, rfl, rfl⟩ | ⟨rfl, rfl, rfl⟩
        · have g1 : mGl L2 1 = 120 := rfl
          have a1 : ∀ j, mGa L2 G 1 j = G 1 j := fun j => if_pos (by decide)
          rw [if_pos (show (0 : Int32) = 0 from rfl), r00', g1, if_neg (inb_no (n := m) (by omega) (by omega)), if_neg (show ¬ inb (0 : Int32) 120 from inb_no (n := 0) (by omega) (by omega)), a1, a1, nI_clamp (by omega), n0, hd.2 m (by omega), hd.2 0 (by omega)]
          by_cases w : xs.getD m 0 = xs.getD 0 0
          · rw [ieq w]
            exact yes (k1.mpr ⟨q, w⟩)
          · rw [ieqn w (by omega) (by omega)]
            exact no (fun c => w (k1.mp c).2)
        · rw [if_neg (show ¬ (1 : Int32) = 0 by decide), r014, gl5, if_neg (inb_no (n := m) (by omega) (by omega)), if_neg (show ¬ inb (0 : Int32) 120 from inb_no (n := 0) (by omega) (by omega)), ga5, ga5, nI_clamp (by omega), n0, hd.2 m (by omega), hd.2 0 (by omega)]
          by_cases w : xs.getD m 0 = xs.getD 0 0
          · rw [ieq w]
            exact yes (k1.mpr ⟨q, w⟩)
          · rw [ieqn w (by omega) (by omega)]
            exact no (fun c => w (k1.mp c).2)
      · rw [if_neg q, if_pos (show (0 : Int32) = 0 from rfl)]
        exact no (fun c => q (k1.mp c).1)
  have e := lp (xs.length - 1) 1 mFU (by omega) (by unfold mFU; omega)
  rw [if_pos (show smL xs 1 = true from sm_iff.mpr (fun k hk => by rw [show k = 0 by omega]))] at e
  unfold f_Md_allSame b_Md_allSame_15
  rcases hx with ⟨rfl, rfl, rfl⟩ | ⟨rfl, rfl, rfl⟩
  · rw [if_pos (show (0 : Int32) = 0 from rfl), hd.1]
    exact e
  · rw [if_neg (show ¬ (1 : Int32) = 0 by decide), hd.1]
    exact e
theorem md_plain {xs : List Nat} (hl : xs.length ≤ 120) : ∀ (d m : Nat) (G : Mem) (ps : List Nat) (fu : Nat), d + m = xs.length → d < fu → MD G 13 5 xs → MD G 34 20 ps → ps.length + d ≤ 700 →
    ∃ H, f_Md_makePack_91 L2 fu 0 (nI m) G = b_Md_makePack_115 L2 0 H ∧ MD H 34 20 (ps ++ xs.drop m) ∧ Fm [34] [20] G H := by
  intro d
  induction d with
  | zero =>
    intro m G ps fu hd hf hx hp hc
    obtain ⟨fu, rfl⟩ : ∃ k, fu = k + 1 := ⟨fu - 1, by omega⟩
    refine ⟨G, ?_, by rw [List.drop_of_length_le (by omega)]; simpa using hp, Fm.rf⟩
    show b_Md_makePack_91 L2 (f_Md_makePack_91 L2 fu) 0 (nI m) G = _
    unfold b_Md_makePack_91
    rw [hx.1, ile (by omega) (by omega)]
  | succ d ih =>
    intro m G ps fu hd hf hx hp hc
    obtain ⟨fu, rfl⟩ : ∃ k, fu = k + 1 := ⟨fu - 1, by omega⟩
    obtain ⟨A, eA, dA, fA⟩ := md_add hp (by omega) (xs.getD m 0)
    obtain ⟨H, e, g, f⟩ := ih (m + 1) A _ fu (by omega) (by omega) (hx.fm fA (by decide) (by decide) (by decide)) dA (by simp; omega)
    have hm : m < xs.length := by omega
    refine ⟨H, ?_, ?_, fA.tr f⟩
    · show b_Md_makePack_91 L2 (f_Md_makePack_91 L2 fu) 0 (nI m) G = _
      unfold b_Md_makePack_91
      rw [hx.1, ilen (by omega) (by omega), r014, gl5, if_neg (inb_no (n := m) (by omega) (by omega)), show mGa L2 G 5 (nI m).toNatClampNeg = nI (xs.getD m 0) by rw [ga5, nI_clamp (by omega), hx.2 m hm], eA, Option.bind_some, nI_1]
      exact e
    · rw [List.drop_eq_getElem_cons hm]
      simpa [List.getD_eq_getElem?_getD, hm] using g
theorem md_makePack {c : List Nat} (hc : c.length ≤ 120) (hby : ∀ b ∈ c, b < 256) {G : Mem} (hd : MD G 1 1 c) : ∃ H, f_Md_makePack L2 0 G = some H ∧ MD H 34 20 (litBy (parsed c).1 ++ seqBy (parsed c).2.1) ∧ H 0 13 = nI (parsed c).1.length ∧ Fm [13, 15, 16, 17, 18, 28, 34, 36] [4, 5, 6, 7, 9, 10, 11, 12, 13, 15, 16, 17, 18, 19, 20, 21, 22, 23, 24, 25] G H := by
  obtain ⟨p', l', pi⟩ := parse_pi hc hby c.length 0 0 _ (by omega) (pi0 c)
  obtain ⟨A, hA⟩ : ∃ A, A = u2 (u2 (u2 (u2 G 4 (0 : Int32).toNatClampNeg 1) 4 (1 : Int32).toNatClampNeg 4) 4 (2 : Int32).toNatClampNeg 8) 0 34 0 := ⟨_, rfl⟩
  have hA' : A = u2 (u2 (u2 (u2 G 4 0 1) 4 1 4) 4 2 8) 0 34 0 := hA
  have fA : Fm [34] [4] G A := by
    rw [hA']
    exact (((Fm.uc (by simp) (by decide)).tr (Fm.uc (by simp) (by decide))).tr (Fm.uc (by simp) (by decide))).tr (Fm.us (by simp))
  have rp : MRp A (1, 4, 8) := by
    refine ⟨?_, ?_, ?_⟩
    · rw [hA', u2_c (by decide), u2_p (by decide), u2_p (by decide), u2_s]; rfl
    · rw [hA', u2_c (by decide), u2_p (by decide), u2_s]; rfl
    · rw [hA', u2_c (by decide), u2_s]; rfl
  obtain ⟨B, eB, b13, b28, bq, fB⟩ := md_parse hc hby (hd.fm fA (by decide) (by decide) (by decide)) rp
  have b34 : MD B 34 20 [] := ⟨by rw [fB.2 34 (by decide), hA', u2_s]; rfl, fun j hj => absurd hj (by simp)⟩
  have pi' : PI c p' l' (parsed c) := pi
  obtain ⟨p1, p2, -, p4, p5, -⟩ := pi'
  clear pi
  generalize (parsed c).1 = xs at *
  generalize (parsed c).2.1 = qs at *
  have hx := litBy_len xs
  have fin : ∀ (K : Mem) (ps : List Nat), ps = litBy xs → MD K 34 20 ps → Fm [15, 16, 17, 18, 34, 36] [6, 7, 20, 21, 22, 23, 24, 25] B K → ∃ H, b_Md_makePack_115 L2 0 K = some H ∧ MD H 34 20 (litBy xs ++ seqBy qs) ∧ H 0 13 = nI xs.length ∧ Fm [13, 15, 16, 17, 18, 28, 34, 36] [4, 5, 6, 7, 9, 10, 11, 12, 13, 15, 16, 17, 18, 19, 20, 21, 22, 23, 24, 25] G H := fun K ps hps dK fK => by
    rw [hps] at dK
    obtain ⟨H, eH, dH, fH⟩ := md_addSeqs (q := qs) (by omega) p5 (by omega) (bq.fm fK (by decide) (by decide) (by decide)) (by rw [fK.2 28 (by decide)]; exact b28) dK
    refine ⟨H, ?_, dH, ?_, (((fA.up (by simp) (by simp)).tr (fB.up (by simp) (by simp))).tr (fK.up (by simp) (by simp))).tr (fH.up (by simp) (by simp))⟩
    · unfold b_Md_makePack_115
      rw [eH, Option.bind_some]
    · rw [fH.2 13 (by decide), fK.2 13 (by decide), b13.1]
  have tree : ¬ (1 < xs.length ∧ smL xs xs.length = true) → ∃ H, b_Md_makePack_72 L2 0 B = some H ∧ MD H 34 20 (litBy xs ++ seqBy qs) ∧ H 0 13 = nI xs.length ∧ Fm [13, 15, 16, 17, 18, 28, 34, 36] [4, 5, 6, 7, 9, 10, 11, 12, 13, 15, 16, 17, 18, 19, 20, 21, 22, 23, 24, 25] G H := fun q => by
    obtain ⟨T, r, eT, t1, t2, fT⟩ := md_addTree p4 (by omega) b13 b34
    unfold b_Md_makePack_72
    rw [eT, Option.bind_some]
    dsimp only
    by_cases t : trB xs = true
    · obtain ⟨rfl, dT⟩ := t1 t
      rw [if_neg (show ¬ (1 : Int32) = 0 by decide)]
      exact fin T _ (by unfold litBy; rw [if_neg q, if_pos t]) dT fT
    · obtain ⟨rfl, dT⟩ := t2 t
      have x13 : MD T 13 5 xs := b13.fm fT (by decide) (by decide) (by decide)
      obtain ⟨C, eC, dC, fC⟩ := md_add dT (by simp) (4 * xs.length)
      obtain ⟨D, eD, dD, fD⟩ := md_plain (by omega) xs.length 0 C _ mFU (by omega) (by unfold mFU; omega) (x13.fm fC (by decide) (by decide) (by decide)) dC (by simp; omega)
      rw [← l0] at eD
      rw [if_pos (show (0 : Int32) = 0 from rfl), x13.1, l4, pk_mul, eC, Option.bind_some, eD]
      exact fin D _ (by unfold litBy; rw [if_neg q, if_neg t]; simp) dD (fT.tr ((fC.tr fD).up (by simp) (by simp)))
  unfold f_Md_makePack
  rw [r010, m4, if_neg (show ¬ (inb (0 : Int32) 3 ∨ ¬ 4 < mNc L2) from in_w (n := 0) (by omega) (by omega) (by decide)), ld, if_neg (show ¬ (inb (1 : Int32) 3 ∨ ¬ 4 < mNc L2) from in_w (n := 1) (by omega) (by omega) (by decide)), ld, if_neg (show ¬ (inb (2 : Int32) 3 ∨ ¬ 4 < mNc L2) from in_w (n := 2) (by omega) (by omega) (by decide)), ld, ld, ← hA, eB, Option.bind_some, b13.1]
  by_cases q1 : 1 < xs.length
  · rw [if_neg (show ¬ nI xs.length ≤ (1 : Int32) from fun c => absurd ((nI_leI (b := 1) (by omega) (by omega)).mp c) (by omega)), md_same (by omega) p4 (by omega) (Or.inr ⟨rfl, rfl, rfl⟩) b13, Option.bind_some]
    dsimp only
    by_cases q2 : smL xs xs.length = true
    · obtain ⟨C, eC, dC, fC⟩ := md_add b34 (by simp) (4 * xs.length + 1)
      obtain ⟨D, eD, dD, fD⟩ := md_add dC (by simp) (xs.getD 0 0)
      have c0 : mGa L2 C 5 (0 : Int32).toNatClampNeg = nI (xs.getD 0 0) := by
        rw [ga5, fC.1 5 (by decide) (by decide)]
        exact b13.2 0 (by omega)
      rw [if_pos q2, if_neg (show ¬ (1 : Int32) = 0 by decide), b13.1, show (4 : Int32) * nI xs.length + 1 = nI (4 * xs.length + 1) by rw [l4, pk_mul, nI_1], eC, Option.bind_some, r014, gl5, if_neg (show ¬ inb (0 : Int32) 120 from inb_no (n := 0) (by omega) (by omega)), c0, eD, Option.bind_some]
      exact fin D _ (by unfold litBy; rw [if_pos ⟨q1, q2⟩]; rfl) dD ((fC.tr fD).up (by simp) (by simp))
    · rw [if_neg q2, if_pos (show (0 : Int32) = 0 from rfl)]
      exact tree (fun c => q2 c.2)
  · rw [if_pos (show nI xs.length ≤ (1 : Int32) from nI_le (b := 1) (by omega) (by omega))]
    exact tree (fun c => q1 c.1)
