/-! pure: the class adds the literals -/
def TrW (F : Mem) (xs : List Nat) : Prop := F 52 3 = nI (loS xs) ∧ F 52 4 = nI (moX xs) ∧ (∀ s, s ≤ nS xs → F 53 s = nI (wtE xs s)) ∧ (∀ s, s ≤ nS xs → 0 < wtE xs s → F 54 s = nI (startS (wtE xs) (nS xs) s))
theorem TrW.fr {F G : Mem} {xs : List Nat} {S : List Nat} (h : TrW F xs) (f : Fr S F G) (n1 : 52 ∉ S) (n2 : 53 ∉ S) (n3 : 54 ∉ S) : TrW G xs := by
  unfold TrW at *
  rw [f 52 n1, f 53 n2, f 54 n3]
  exact h
theorem tr_sym {F : Mem} {xs bs : List Nat} (h : LH xs (loS xs) (nS xs)) (hf : JFin (nS xs) (totS xs (loS xs)) (dpE xs (loS xs) (nS xs)) (moX xs)) (hm : moX xs ≤ 7) (tw : TrW F xs) (hb : RD F 46 47 bs) (hl : bs.length + 8 ≤ 1280) {s : Nat} (hs : s ≤ nS xs) (ht : 0 < totS xs (loS xs) s) : ∃ G, f_Tr_addSymbol L1 52 (nI s) 46 F = some G ∧ RD G 46 47 (bs ++ syB xs s) ∧ Fr [46, 47] F G := by
  obtain ⟨w1, w2⟩ := wtE_b h hf hs
  have w3 := w2 ht
  have h5 := h.2.2.2.2.1
  obtain ⟨t1, t2, t3, t4⟩ := tw
  obtain ⟨G, eG, gG, fG⟩ := br_add hb (jshr (nI (startS (wtE xs) (nS xs) s)) (nI (wtE xs s) - 1)) (n := moX xs + 1 - wtE xs s) (by omega) (by omega)
  refine ⟨G, ?_, gG, fG⟩
  have e53 : mGa L1 F 53 (nI s).toNatClampNeg = nI (wtE xs s) := by rw [mGa_n (show 53 < mNc L1 by decide), nI_clamp (by omega), t3 s hs]
  have e54 : mGa L1 F 54 (nI s).toNatClampNeg = nI (startS (wtE xs) (nS xs) s) := by rw [mGa_n (show 54 < mNc L1 by decide), nI_clamp (by omega), t4 s hs w3]
  have eb : f_Tr_bitsOf L1 52 (nI s) F = some (nI (moX xs + 1 - wtE xs s), F) := by
    unfold f_Tr_bitsOf
    rw [show mRf L1 52 0 = 53 from rfl, show mGl L1 53 = 17 from rfl, if_neg (inb_no (n := s) (by omega) (by omega)), e53, t2, nI_1, pk_sub (by omega)]
  unfold f_Tr_addSymbol
  rw [show mRf L1 52 1 = 54 from rfl, show mRf L1 52 0 = 53 from rfl, show mGl L1 54 = 17 from rfl, show mGl L1 53 = 17 from rfl, if_neg (inb_no (n := s) (by omega) (by omega)), if_neg (inb_no (n := s) (by omega) (by omega)), eb, Option.bind_some, e53, e54, eG]
  rfl
theorem pk_pair24 {xs ys : List Nat} (h5 : nS xs ≤ 16) (hw : ∀ s, s ≤ nS xs → wtE xs s ≤ 7) (hy : ys.length ≤ 100) : ∀ (d k : Nat) (F : Mem) (bs : List Nat) (fu : Nat), d + k = (nS xs + 1) / 2 → d < fu → TrW F xs → RD F 44 45 bs → bs.length + d ≤ 200 → ∃ G, f_Pk_addTree_24 L1 fu 43 (nI (nS xs)) (nI (2 * k)) F = some G ∧ RD G 44 45 (bs ++ prL (wtE xs) (nS xs) k d) ∧ Fr [44, 45] F G := by
  intro d
  induction d with
  | zero =>
    intro k F bs fu hd hf tw hb hl
    obtain ⟨fu, rfl⟩ : ∃ k, fu = k + 1 := ⟨fu - 1, by omega⟩
    refine ⟨F, ?_, by simpa [prL] using hb, Fr.rf⟩
    show b_Pk_addTree_24 L1 (f_Pk_addTree_24 L1 fu) 43 (nI (nS xs)) (nI (2 * k)) F = _
    unfold b_Pk_addTree_24
    rw [ile (by omega) (by omega)]
  | succ d ih =>
    intro k F bs fu hd hf tw hb hl
    obtain ⟨fu, rfl⟩ : ∃ k, fu = k + 1 := ⟨fu - 1, by omega⟩
    have w1 := hw (2 * k) (by omega)
    obtain ⟨v, hv⟩ : ∃ v, v = (if 2 * k + 1 < nS xs then wtE xs (2 * k + 1) else 0) := ⟨_, rfl⟩
    have hv2 : v ≤ 7 := by
      rw [hv]
      split
      · exact hw _ (by omega)
      · omega
    obtain ⟨A, eA, dA, fA⟩ := row_add rs44 hb (by omega) (x := nI (16 * wtE xs (2 * k) + v)) _ (byte_255 (by omega))
    obtain ⟨G, eG, gG, fG⟩ := ih (k + 1) A _ fu (by omega) (by omega) (tw.fr fA (by decide) (by decide) (by decide)) dA (by simp; omega)
    refine ⟨G, ?_, by simp only [prL, ← hv]; simpa using gG, fA.tr fG⟩
    have e53 : ∀ s, s ≤ nS xs → mGa L1 F 53 (nI s).toNatClampNeg = nI (wtE xs s) := fun s hs => by rw [mGa_n (show 53 < mNc L1 by decide), nI_clamp (by omega), tw.2.2.1 s hs]
    have e51 : b_Pk_addTree_51 L1 (f_Pk_addTree_24 L1 fu) 43 (nI (nS xs)) (nI (2 * k)) (nI v) F = some G := by
      unfold b_Pk_addTree_51
      rw [r437, r434, show mRf L1 52 0 = 53 from rfl, show mGl L1 53 = 17 from rfl, if_neg (inb_no (n := 2 * k) (by omega) (by omega)), e53 (2 * k) (by omega), show jshl (nI (wtE xs (2 * k))) 4 ||| nI v = nI (16 * wtE xs (2 * k) + v) by rw [l4, jshl_n (by omega) (by omega), or_lo (k := 4) (by omega) (by omega), Nat.mul_comm], eA, Option.bind_some, show nI (2 * k) + 2 = nI (2 * (k + 1)) by rw [l2, nI_add]; rfl]
      exact eG
    show b_Pk_addTree_24 L1 (f_Pk_addTree_24 L1 fu) 43 (nI (nS xs)) (nI (2 * k)) F = _
    unfold b_Pk_addTree_24
    rw [ilen (by omega) (by omega), nI_1]
    by_cases q : 2 * k + 1 < nS xs
    · rw [ilen (by omega) (by omega), r437, show mRf L1 52 0 = 53 from rfl, show mGl L1 53 = 17 from rfl, if_neg (inb_no (n := 2 * k + 1) (by omega) (by omega)), e53 (2 * k + 1) (by omega)]
      rw [if_pos q] at hv
      rw [← hv]
      exact e51
    · rw [ile (by omega) (by omega)]
      rw [if_neg q] at hv
      rw [hv] at e51
      rw [l0]
      exact e51
theorem pk_tree {F : Mem} {xs bs : List Nat} (h5 : nS xs ≤ 16) (hlo : loS xs < 256) (hw : ∀ s, s ≤ nS xs → wtE xs s ≤ 7) (tw : TrW F xs) (hb : RD F 44 45 bs) (hl : bs.length ≤ 10) : ∃ G, f_Pk_addTree L1 43 (nI (nS xs)) F = some G ∧ RD G 44 45 (bs ++ [loS xs, nS xs] ++ prL (wtE xs) (nS xs) 0 ((nS xs + 1) / 2)) ∧ Fr [44, 45] F G := by
  obtain ⟨A, eA, dA, fA⟩ := row_add rs44 hb (by omega) (x := nI (loS xs)) _ (byte_255 hlo)
  obtain ⟨B, eB, dB, fB⟩ := row_add rs44 dA (by simp; omega) (x := nI (nS xs)) _ (byte_255 (by omega))
  have fFB := fA.tr fB
  obtain ⟨G, eG, gG, fG⟩ := pk_pair24 (xs := xs) (ys := []) h5 hw (by simp) ((nS xs + 1) / 2) 0 B (bs ++ [loS xs] ++ [nS xs]) mFU (by omega) (by unfold mFU; omega) (tw.fr fFB (by decide) (by decide) (by decide)) dB (by simp; omega)
  refine ⟨G, ?_, by simpa using gG, fFB.tr fG⟩
  unfold f_Pk_addTree
  rw [r434, r437, tw.1, eA, Option.bind_some, eB, Option.bind_some, l0]
  exact eG
theorem pk_87 {xs : List Nat} (hby : ∀ b ∈ xs, b < 256) (h63 : xs.length ≤ 63) (h : LH xs (loS xs) (nS xs)) (hf : JFin (nS xs) (totS xs (loS xs)) (dpE xs (loS xs) (nS xs)) (moX xs)) (hm : moX xs ≤ 7) (h2 : 2 ≤ xs.length) : ∀ (d m : Nat) (F : Mem) (fu : Nat), d + m = xs.length → d < fu → TrW F xs → RD F 60 61 xs → RD F 44 45 [] → RD F 46 47 (sbL xs m) →
    ∃ G r, f_Pk_addedWithTree_87 L1 fu 43 60 (nI (loS xs)) (nI (nS xs)) (nI m) F = some (r, G) ∧ (trB xs = true → r = 1 ∧ RD G 44 45 (treeBy xs)) ∧ (¬ trB xs = true → r = 0 ∧ RD G 44 45 []) ∧ Fr [44, 45, 46, 47] F G := by
  obtain ⟨g1, -, -, g4, g5, g6, g7⟩ := id h
  intro d
  induction d with
  | zero =>
    intro m F fu hd hf' tw hr hb hs
    obtain ⟨fu, rfl⟩ : ∃ k, fu = k + 1 := ⟨fu - 1, by omega⟩
    obtain rfl : m = xs.length := by omega
    have sl := sbL_len hm xs.length
    have en : ∀ G : Mem, RD G 46 47 (sbL xs xs.length) → f_Br_bytesNeeded L1 46 G = some (nI ((sbL xs xs.length).length / 8 + 1), G) := fun G hG => by
      unfold f_Br_bytesNeeded
      rw [hG.1, j_div8 (by omega), nI_1]
    have ec : (2 : Int32) + (nI (nS xs) + 1) / 2 + 1 + nI ((sbL xs xs.length).length / 8 + 1) = nI (2 + (nS xs + 1) / 2 + 1 + ((sbL xs xs.length).length / 8 + 1)) := by
      rw [nI_1, j_div2 (by omega), l2, nI_add, nI_1, nI_add]
    have tb : trB xs = true ↔ 2 + (nS xs + 1) / 2 + 1 + ((sbL xs xs.length).length / 8 + 1) < xs.length := by
      unfold trB
      rw [decide_eq_true_iff]
      exact ⟨fun c => c.2.2.2.2, fun c => ⟨h2, g5, g4, hm, c⟩⟩
    show ∃ G r, b_Pk_addedWithTree_87 L1 (f_Pk_addedWithTree_87 L1 fu) 43 60 (nI (loS xs)) (nI (nS xs)) (nI xs.length) F = some (r, G) ∧ _
    unfold b_Pk_addedWithTree_87
    rw [hr.1, ile (Nat.le_refl _) (by omega), r435, r434, en F hs, Option.bind_some]
    by_cases q : 2 + (nS xs + 1) / 2 + 1 + ((sbL xs xs.length).length / 8 + 1) < xs.length
    · rw [if_pos (show (2 : Int32) + (nI (nS xs) + 1) / 2 + 1 + nI ((sbL xs xs.length).length / 8 + 1) < F 60 1 by rw [ec, hr.1]; exact nI_lt q (by omega))]
      obtain ⟨A, eA, dA, fA⟩ := row_add rs44 hb (by simp) (x := nI (4 * xs.length + 2)) _ (byte_255 (by omega))
      have eh : jshl (F 60 1) 2 ||| 2 = nI (4 * xs.length + 2) := by rw [hr.1, l2, jshl_n (by omega) (by omega), or_lo (k := 2) (by omega) (by omega), Nat.mul_comm]
      obtain ⟨B, eB, dB, fB⟩ := pk_tree g5 g7 (fun s hs => by have := (wtE_b h hf hs).1; omega) (tw.fr fA (by decide) (by decide) (by decide)) dA (by simp)
      have fFB : Fr [44, 45] F B := fA.tr fB
      have bl : ([] ++ [4 * xs.length + 2] ++ [loS xs, nS xs] ++ prL (wtE xs) (nS xs) 0 ((nS xs + 1) / 2)).length ≤ 12 := by
        simp only [List.length_append, List.length_cons, List.length_nil, prL_len]
        omega
      obtain ⟨C, eC, dC, fC⟩ := row_add rs44 dB (by omega) (x := nI ((sbL xs xs.length).length / 8 + 1)) _ (byte_255 (by omega))
      have fFC : Fr [44, 45] F C := fFB.tr fC
      obtain ⟨D, eD, dD, fD⟩ := br_stream (sbL_b xs _) (by omega) (hs.fr fFC (by decide) (by decide)) dC (by rw [List.length_append, List.length_singleton]; omega)
      refine ⟨D, 1, ?_, fun _ => ⟨rfl, by unfold treeBy; simpa using dD⟩, fun c => absurd (tb.mpr q) c, (fFC.tr fD).up (by simp)⟩
      rw [eh, eA, Option.bind_some, eB, Option.bind_some, en B (hs.fr fFB (by decide) (by decide)), Option.bind_some, eC, Option.bind_some, eD, Option.bind_some, if_pos zb1]
    · rw [if_neg (show ¬ (2 : Int32) + (nI (nS xs) + 1) / 2 + 1 + nI ((sbL xs xs.length).length / 8 + 1) < F 60 1 by rw [ec, hr.1]; exact fun c => absurd ((nI_ltI (by omega) (by omega)).mp c) q), if_pos zb0]
      exact ⟨F, 0, rfl, fun c => absurd (tb.mp c) q, fun _ => ⟨rfl, hb⟩, Fr.rf⟩
  | succ d ih =>
    intro m F fu hd hf' tw hr hb hs
    obtain ⟨fu, rfl⟩ : ∃ k, fu = k + 1 := ⟨fu - 1, by omega⟩
    obtain ⟨b1, b2⟩ := g1 m (by omega)
    have sl := sbL_len hm m
    obtain ⟨A, eA, dA, fA⟩ := tr_sym h hf hm tw hs (by omega) (s := xs.getD m 0 - loS xs) (by omega) (tot_at (by omega) b1)
    obtain ⟨G, r, eG, k1, k2, fG⟩ := ih (m + 1) A fu (by omega) (by omega) (tw.fr fA (by decide) (by decide) (by decide)) (hr.fr fA (by decide) (by decide)) (hb.fr fA (by decide) (by decide)) dA
    refine ⟨G, r, ?_, k1, k2, (fA.up (by simp)).tr fG⟩
    show b_Pk_addedWithTree_87 L1 (f_Pk_addedWithTree_87 L1 fu) 43 60 (nI (loS xs)) (nI (nS xs)) (nI m) F = _
    unfold b_Pk_addedWithTree_87
    have y := nI_byte hby m
    rw [hr.1, ilen (by omega) (by omega), r435, r437, r600, rs60.gl, if_neg (inb_no (n := m) (by omega) (by omega)), show mGa L1 F 61 (nI m).toNatClampNeg = nI (xs.getD m 0) by rw [rs60.ga, nI_clamp (by omega), hr.2 m (by omega)], pk_sub b1, eA, Option.bind_some, nI_1]
    exact eG
theorem pk_12 {xs : List Nat} (hby : ∀ b ∈ xs, b < 256) (h63 : xs.length ≤ 63) (h2 : 2 ≤ xs.length) (hns : ¬ smL xs xs.length = true) : ∀ (d m : Nat) (F : Mem) (fu : Nat), d + m = xs.length → d < fu → RD F 60 61 xs → RD F 44 45 [] →
    ∃ G r, f_Pk_addedWithTree_12 L1 fu 43 60 (nI (lowL xs m)) (nI (highL xs m)) (nI m) F = some (r, G) ∧ (trB xs = true → r = 1 ∧ RD G 44 45 (treeBy xs)) ∧ (¬ trB xs = true → r = 0 ∧ RD G 44 45 []) ∧ Fr [44, 45, 46, 47, 48, 49, 50, 51, 52, 53, 54, 55] F G := by
  have hh : ∀ m, highL xs m ≤ 255 := fun m => by
    induction m with
    | zero => exact Nat.zero_le _
    | succ m ih =>
      have := nI_byte hby m
      show max _ _ ≤ 255
      omega
  have hlw : ∀ m, lowL xs m ≤ 255 := fun m => by
    induction m with
    | zero => exact Nat.le_refl _
    | succ m ih =>
      show min _ _ ≤ 255
      omega
  intro d
  induction d with
  | zero =>
    intro m F fu hd hf hr hb
    obtain ⟨fu, rfl⟩ : ∃ k, fu = k + 1 := ⟨fu - 1, by omega⟩
    obtain rfl : m = xs.length := by omega
    have b0 := lh_b (xs := xs) (m := xs.length) (k := 0) (by omega)
    have h1 := hh xs.length
    have n1 : 1 ≤ nS xs := by
      rcases Nat.eq_zero_or_pos (nS xs) with e | e
      · refine absurd (sm_iff.mpr (fun k hk => ?_)) hns
        have bk := lh_b (xs := xs) (m := xs.length) hk
        unfold nS at e
        omega
      · exact e
    show ∃ G r, b_Pk_addedWithTree_12 L1 (f_Pk_addedWithTree_12 L1 fu) 43 60 (nI (lowL xs xs.length)) (nI (highL xs xs.length)) (nI xs.length) F = some (r, G) ∧ _
    unfold b_Pk_addedWithTree_12 b_Pk_addedWithTree_74
    have en : highL xs xs.length - lowL xs xs.length = nS xs := rfl
    have el : lowL xs xs.length = loS xs := rfl
    rw [hr.1, ile (Nat.le_refl _) (by omega), pk_sub (by omega), en, el]
    by_cases q : nS xs ≤ 16
    · have h := lh_of hby h2 (by omega) n1 q
      rw [if_neg (show ¬ (17 : Int32) ≤ nI (nS xs) from fun c => absurd ((nI_leI (a := 17) (by omega) (by omega)).mp c) (by omega))]
      obtain ⟨A, r, eA, jf, k1, k2, fA⟩ := pk_grow h hr
      rw [eA, Option.bind_some]
      by_cases q2 : moX xs ≤ 7
      · obtain ⟨r1, t1, t2, t3, t4⟩ := k1 q2
        rw [if_neg (show ¬ r = 0 by rw [r1]; decide), r435, ld]
        have f1 : Fr [46] A (u2 A 46 1 0) := Fr.u (by simp)
        have tw : TrW (u2 A 46 1 0) xs := (show TrW A xs from ⟨t1, t2, t3, t4⟩).fr f1 (by decide) (by decide) (by decide)
        obtain ⟨G, r', eG, g1, g2, fG⟩ := pk_87 hby h63 h jf q2 h2 xs.length 0 (u2 A 46 1 0) mFU (by omega) (by unfold mFU; omega) tw ((hr.fr fA (by decide) (by decide)).fr f1 (by decide) (by decide)) ((hb.fr fA (by decide) (by decide)).fr f1 (by decide) (by decide)) ⟨u2_s, fun j hj => absurd hj (by simp [sbL])⟩
        refine ⟨G, r', ?_, g1, g2, (fA.up (by simp)).tr ((f1.up (by simp)).tr (fG.up (by simp)))⟩
        rw [l0]
        exact eG
      · rw [if_pos (k2 q2), if_pos zb0]
        refine ⟨A, 0, rfl, fun c => ?_, fun _ => ⟨rfl, hb.fr fA (by decide) (by decide)⟩, fA.up (by simp)⟩
        exact absurd (of_decide_eq_true c).2.2.2.1 q2
    · rw [if_pos (show (17 : Int32) ≤ nI (nS xs) from nI_le (a := 17) (by omega) (by unfold nS; omega)), if_pos zb0]
      exact ⟨F, 0, rfl, fun c => absurd (of_decide_eq_true c).2.1 q, fun _ => ⟨rfl, hb⟩, Fr.rf⟩
  | succ d ih =>
    intro m F fu hd hf hr hb
    obtain ⟨fu, rfl⟩ : ∃ k, fu = k + 1 := ⟨fu - 1, by omega⟩
    obtain ⟨G, r, eG, k⟩ := ih (m + 1) F fu (by omega) (by omega) hr hb
    refine ⟨G, r, ?_, k⟩
    have y := nI_byte hby m
    have h1 := hh m
    have h2' := hlw m
    show b_Pk_addedWithTree_12 L1 (f_Pk_addedWithTree_12 L1 fu) 43 60 (nI (lowL xs m)) (nI (highL xs m)) (nI m) F = _
    unfold b_Pk_addedWithTree_12
    have e61 : mGa L1 F 61 (nI m).toNatClampNeg = nI (xs.getD m 0) := by rw [rs60.ga, nI_clamp (by omega), hr.2 m (by omega)]
    rw [hr.1, ilen (by omega) (by omega), r600, rs60.gl, if_neg (inb_no (n := m) (by omega) (by omega)), if_neg (inb_no (n := m) (by omega) (by omega)), e61, nI_1]
    have m1 : (if nI (xs.getD m 0) < nI (lowL xs m) then nI (xs.getD m 0) else nI (lowL xs m)) = nI (lowL xs (m + 1)) := by
      show _ = nI (min (lowL xs m) (xs.getD m 0))
      by_cases q : xs.getD m 0 < lowL xs m
      · rw [ilt q (by omega)]
        congr 1
        omega
      · rw [iltn (by omega) (by omega)]
        congr 1
        omega
    have m2 : (if nI (highL xs m) < nI (xs.getD m 0) then nI (xs.getD m 0) else nI (highL xs m)) = nI (highL xs (m + 1)) := by
      show _ = nI (max (highL xs m) (xs.getD m 0))
      by_cases q : highL xs m < xs.getD m 0
      · rw [ilt q (by omega)]
        congr 1
        omega
      · rw [iltn (by omega) (by omega)]
        congr 1
        omega
    rw [m1, m2]
    exact eG
theorem r5911 : mRf L1 60 0 = 61 := rfl
theorem pk_lits {F : Mem} {xs : List Nat} (hby : ∀ b ∈ xs, b < 256) (h63 : xs.length ≤ 63) (hr : RD F 60 61 xs) (hb : RD F 44 45 []) : ∃ G, f_Pk_addLiterals L1 43 F = some G ∧ RD G 44 45 (litBy xs) ∧ Fr [44, 45, 46, 47, 48, 49, 50, 51, 52, 53, 54, 55] F G := by
  have plain : ∀ A : Mem, RD A 60 61 xs → RD A 44 45 [] → Fr [44, 45, 46, 47, 48, 49, 50, 51, 52, 53, 54, 55] F A → ∃ G, b_Pk_addLiterals_70 L1 43 60 A = some G ∧ RD G 44 45 ((4 * xs.length) :: xs) ∧ Fr [44, 45, 46, 47, 48, 49, 50, 51, 52, 53, 54, 55] F G := fun A rA bA fA => by
    obtain ⟨B, eB, dB, fB⟩ := row_add rs44 bA (by simp) (x := nI (4 * xs.length)) _ (byte_255 (by omega))
    obtain ⟨C, eC, dC, fC⟩ := row_addRow rs44 rs60 (by decide) (by decide) (by decide) (by decide) dB (rA.fr fB (by decide) (by decide)) hby (by omega) (by omega) (by simp; omega)
    refine ⟨C, ?_, by simpa using dC, fA.tr ((fB.tr fC).up (by simp))⟩
    unfold b_Pk_addLiterals_70 b_Pk_addLiterals_93
    rw [rA.1, r434, show jshl (nI xs.length) 2 ||| 0 = nI (4 * xs.length) by rw [l2, jshl_n (by omega) (by omega), l0, or_lo (k := 2) (b := 0) (by omega) (by omega), Nat.add_zero, Nat.mul_comm], eB, Option.bind_some, eC]
    rfl
  unfold f_Pk_addLiterals litBy
  rw [r431, r591, hr.1]
  by_cases q1 : 1 < xs.length
  · rw [if_neg (show ¬ nI xs.length ≤ (1 : Int32) from fun c => absurd ((nI_leI (b := 1) (by omega) (by omega)).mp c) (by omega)), row_same rs60 hr (by omega) hby (by omega), Option.bind_some]
    dsimp only
    by_cases q2 : smL xs xs.length = true
    · rw [if_pos (show 1 < xs.length ∧ smL xs xs.length = true from ⟨q1, q2⟩)]
      have e1 : (if 0 < xs.length ∧ smL xs xs.length = true then (1 : Int32) else 0) = 1 := if_pos ⟨by omega, q2⟩
      obtain ⟨A, eA, dA, fA⟩ := row_add rs44 hb (by simp) (x := nI (4 * xs.length + 1)) _ (byte_255 (by omega))
      have y := nI_byte hby 0
      obtain ⟨B, eB, dB, fB⟩ := row_add rs44 dA (by simp) (x := nI (xs.getD 0 0)) _ (byte_255 y)
      refine ⟨B, ?_, by simpa using dB, (fA.tr fB).up (by simp)⟩
      unfold b_Pk_addLiterals_93
      rw [if_neg (show ¬ (if 0 < xs.length ∧ smL xs xs.length = true then (1 : Int32) else 0) = 0 by rw [e1]; decide), r434, show jshl (F 60 1) 2 ||| 1 = nI (4 * xs.length + 1) by rw [hr.1, l2, jshl_n (by omega) (by omega), l1, or_lo (k := 2) (by omega) (by omega), Nat.mul_comm], eA, Option.bind_some, r600, rs60.gl, if_neg (show ¬ inb (0 : Int32) 120 from inb_no (n := 0) (by omega) (by omega)), show mGa L1 A 61 (0 : Int32).toNatClampNeg = nI (xs.getD 0 0) by rw [rs60.ga, fA 61 (by decide)]; exact hr.2 0 (by omega), eB]
      rfl
    · rw [if_neg (show ¬ (1 < xs.length ∧ smL xs xs.length = true) from fun c => q2 c.2)]
      have e1 : (if 0 < xs.length ∧ smL xs xs.length = true then (1 : Int32) else 0) = 0 := if_neg (fun c => q2 c.2)
      rw [if_pos e1]
      have y0 := nI_byte hby 0
      obtain ⟨A, r, eA, k1, k2, fA⟩ := pk_12 hby h63 (by omega) q2 (xs.length - 1) 1 F mFU (by omega) (by unfold mFU; omega) hr hb
      have el : lowL xs 1 = xs.getD 0 0 := by
        show min 255 (xs.getD 0 0) = _
        omega
      have eh : highL xs 1 = xs.getD 0 0 := by
        show max 0 (xs.getD 0 0) = _
        omega
      rw [el, eh] at eA
      have eW : f_Pk_addedWithTree L1 43 60 F = some (r, A) := by
        unfold f_Pk_addedWithTree
        rw [r600, rs60.gl, if_neg (show ¬ inb (0 : Int32) 120 from inb_no (n := 0) (by omega) (by omega)), show mGa L1 F 61 (0 : Int32).toNatClampNeg = nI (xs.getD 0 0) by rw [rs60.ga]; exact hr.2 0 (by omega), l1]
        exact eA
      unfold b_Pk_addLiterals_54
      rw [hr.1, if_neg (show ¬ nI xs.length < (2 : Int32) from fun c => absurd ((nI_ltI (b := 2) (by omega) (by omega)).mp c) (by omega)), eW, Option.bind_some]
      by_cases q3 : trB xs = true
      · obtain ⟨r1, d1⟩ := k1 q3
        rw [if_pos q3, if_neg (show ¬ r = 0 by rw [r1]; decide)]
        exact ⟨A, rfl, d1, fA⟩
      · obtain ⟨r1, d1⟩ := k2 q3
        rw [if_neg q3, if_pos r1]
        exact plain A (hr.fr fA (by decide) (by decide)) d1 fA
  · rw [if_pos (show nI xs.length ≤ (1 : Int32) from nI_le (b := 1) (by omega) (by omega)), if_neg (show ¬ (1 < xs.length ∧ smL xs xs.length = true) from fun c => q1 c.1)]
    have q3 : ¬ trB xs = true := fun c => by have := (of_decide_eq_true c).1; omega
    rw [if_neg q3]
    unfold b_Pk_addLiterals_54
    rw [hr.1, if_pos (show nI xs.length < (2 : Int32) from nI_lt (b := 2) (by omega) (by omega))]
    exact plain F hr hb Fr.rf
