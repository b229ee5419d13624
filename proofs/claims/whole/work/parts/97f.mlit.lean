/-! pure: the model adds the literals -/
theorem own1_split {wt : Nat → Nat} {v s : Nat} (hs : wt s = v) : ∀ {m}, s < m → ∃ r, own1 wt v m = own1 wt v s ++ s :: r
  | 0, h => absurd h (by omega)
  | m + 1, h => by
    rcases Nat.lt_or_ge s m with q | q
    · obtain ⟨r, hr⟩ := own1_split hs q
      refine ⟨r ++ (if wt m = v then List.replicate (2 ^ (v - 1)) m else []), ?_⟩
      show own1 wt v m ++ _ = _
      rw [hr]
      simp
    · have e : s = m := by omega
      subst e
      refine ⟨List.replicate (2 ^ (v - 1) - 1) s, ?_⟩
      show own1 wt v s ++ (if wt s = v then List.replicate (2 ^ (v - 1)) s else []) = _
      rw [if_pos hs, ← List.replicate_succ, Nat.sub_add_cancel (Nat.two_pow_pos _)]
theorem ownL_split {wt : Nat → Nat} {n s : Nat} (hs : s ≤ n) (h1 : 1 ≤ wt s) : ∀ {k}, wt s ≤ k → ∃ r, ownL wt n k = (ownL wt n (wt s - 1) ++ own1 wt (wt s) s) ++ s :: r
  | 0, h => absurd h (by omega)
  | k + 1, h => by
    rcases Nat.lt_or_ge k (wt s) with q | q
    · have e : wt s = k + 1 := by omega
      obtain ⟨r, hr⟩ := own1_split (wt := wt) (v := k + 1) e (m := n + 1) (by omega)
      refine ⟨r, ?_⟩
      show ownL wt n k ++ own1 wt (k + 1) (n + 1) = _
      rw [hr, e, Nat.add_sub_cancel]
      simp
    · obtain ⟨r, hr⟩ := ownL_split hs h1 q
      refine ⟨r ++ own1 wt (k + 1) (n + 1), ?_⟩
      show ownL wt n k ++ own1 wt (k + 1) (n + 1) = _
      rw [hr]
      simp
theorem own_at {wt : Nat → Nat} {n s : Nat} (hs : s ≤ n) (h1 : 1 ≤ wt s) (h7 : wt s ≤ 7) : startS wt n s < (ownL wt n 7).length ∧ (ownL wt n 7).getD (startS wt n s) 0 = s ∧ ∀ j, j < startS wt n s → (ownL wt n 7).getD j 0 ≠ s := by
  obtain ⟨r, hr⟩ := ownL_split hs h1 h7
  obtain ⟨pre, hp⟩ : ∃ p, p = ownL wt n (wt s - 1) ++ own1 wt (wt s) s := ⟨_, rfl⟩
  have hl : pre.length = startS wt n s := by rw [hp, List.length_append]; rfl
  have hn : s ∉ pre := fun c => by
    rw [hp] at c
    rcases List.mem_append.mp c with c | c
    · have := ownL_mem c
      omega
    · have := own1_mem c
      omega
  rw [← hp] at hr
  rw [hr]
  refine ⟨by simp; omega, ?_, fun j hj => ?_⟩
  · rw [← hl, List.getD_eq_getElem?_getD, List.getElem?_append_right (Nat.le_refl _)]
    simp
  · rw [List.getD_eq_getElem?_getD, List.getElem?_append_left (by omega), List.getElem?_eq_getElem (by omega)]
    intro c
    have : pre[j]'(by omega) = s := c
    exact hn (by rw [← this]; exact List.getElem_mem _)
theorem md_place {own : List Nat} {s st : Nat} (hl : own.length ≤ 128) (h1 : st < own.length) (h2 : own.getD st 0 = s) (h3 : ∀ j, j < st → own.getD j 0 ≠ s) (hs : s < 2 ^ 20) (hb : ∀ j, own.getD j 0 < 2 ^ 20) {G : Mem} (ho : OW G 7 own) : f_Md_placeOf L2 0 (nI s) G = some (nI st, G) := by
  have lp : ∀ (d k fu : Nat), d + k = st → d < fu → f_Md_placeOf_2 L2 fu 0 (nI s) (nI k) G = some (nI st, G) := by
    intro d
    induction d with
    | zero =>
      intro k fu hd hf
      obtain ⟨fu, rfl⟩ : ∃ k, fu = k + 1 := ⟨fu - 1, by omega⟩
      obtain rfl : k = st := by omega
      show b_Md_placeOf_2 L2 (f_Md_placeOf_2 L2 fu) 0 (nI s) (nI k) G = _
      unfold b_Md_placeOf_2 b_Md_placeOf_24
      by_cases q : 127 ≤ k
      · rw [if_pos (show (127 : Int32) ≤ nI k from nI_le (a := 127) q (by omega))]
      · rw [if_neg (show ¬ (127 : Int32) ≤ nI k from fun c => absurd ((nI_leI (a := 127) (by omega) (by omega)).mp c) (by omega)), r020, gl7, if_neg (inb_no (n := k) (by omega) (by omega)), show mGa L2 G 7 (nI k).toNatClampNeg = nI s by rw [ga7, nI_clamp (by omega), ho k (by omega), h2], ieq rfl]
    | succ d ih =>
      intro k fu hd hf
      obtain ⟨fu, rfl⟩ : ∃ k, fu = k + 1 := ⟨fu - 1, by omega⟩
      have b := hb k
      show b_Md_placeOf_2 L2 (f_Md_placeOf_2 L2 fu) 0 (nI s) (nI k) G = _
      unfold b_Md_placeOf_2
      rw [if_neg (show ¬ (127 : Int32) ≤ nI k from fun c => absurd ((nI_leI (a := 127) (by omega) (by omega)).mp c) (by omega)), r020, gl7, if_neg (inb_no (n := k) (by omega) (by omega)), show mGa L2 G 7 (nI k).toNatClampNeg = nI (own.getD k 0) by rw [ga7, nI_clamp (by omega), ho k (by omega)], ieqn (h3 k (by omega)) (by omega) (by omega), nI_1]
      exact ih (k + 1) fu (by omega) (by omega)
  unfold f_Md_placeOf
  rw [l0]
  exact lp st 0 mFU (by omega) (by unfold mFU; omega)
/-- the model's tree of the packer -/
def TrX (G : Mem) (xs : List Nat) : Prop := G 0 16 = nI (loS xs) ∧ G 0 17 = nI (nS xs) ∧ G 0 18 = nI (moX xs) ∧ (∀ s, s ≤ nS xs → G 6 s = nI (wtE xs s)) ∧ OW G 7 (ownL (wtE xs) (nS xs) 7)
theorem TrX.fm {G H : Mem} {xs : List Nat} {sl cs : List Nat} (h : TrX G xs) (f : Fm sl cs G H) (n1 : 16 ∉ sl) (n2 : 17 ∉ sl) (n3 : 18 ∉ sl) (n6 : 6 ∉ cs) (n7 : 7 ∉ cs) : TrX H xs := by
  unfold TrX OW at *
  rw [f.2 16 n1, f.2 17 n2, f.2 18 n3, f.1 6 (by decide) n6, f.1 7 (by decide) n7]
  exact h
/-- the packer's tree is good -/
theorem tree_g {xs : List Nat} (h : LH xs (loS xs) (nS xs)) (hf : JFin (nS xs) (totS xs (loS xs)) (dpE xs (loS xs) (nS xs)) (moX xs)) (hm : moX xs ≤ 7) : (ownL (wtE xs) (nS xs) 7).length ≤ 128 := by
  have tk := tree_ok hf h.2.2.2.1 h.t0 h.tn hm
  have tk1 : compS (wtE xs) (nS xs) := tk.1
  have tk2 : fullW (wtE xs) (nS xs) = wtE xs := tk.2.1
  have tk3 : Nat.log2 (sumW (wtE xs) (nS xs)) + 1 = moX xs := tk.2.2
  have h5 := h.2.2.2.2.1
  have tg := comp_good (f := 0) tk1 h.2.2.2.1 h5 (by omega)
  rw [tk2, tk3] at tg
  have e4 := tg.2.2.2.2
  dsimp only at e4
  rw [e4]
  exact Nat.pow_le_pow_right (n := 2) (by decide) hm
theorem mt304 {xs : List Nat} (h5 : nS xs ≤ 16) (hw : ∀ s, s ≤ nS xs → wtE xs s ≤ 7) (hsl : (sbL xs xs.length).length ≤ 1600) : ∀ (d k : Nat) (G : Mem) (ps : List Nat) (fu : Nat), d + k = (nS xs + 1) / 2 → d < fu → TrX G xs → MD G 36 21 (sbL xs xs.length) → MD G 34 20 ps → ps.length + d ≤ 100 →
    ∃ H, f_Md_addTree_304 L2 fu 0 (nI (2 * k)) G = some (1, H) ∧ MD H 34 20 (ps ++ prL (wtE xs) (nS xs) k d ++ [(sbL xs xs.length).length / 8 + 1] ++ strmS (sbL xs xs.length)) ∧ Fm [34] [20] G H := by
  intro d
  induction d with
  | zero =>
    intro k G ps fu hd hf tx hs hp hl
    obtain ⟨fu, rfl⟩ : ∃ k, fu = k + 1 := ⟨fu - 1, by omega⟩
    obtain ⟨A, eA, dA, fA⟩ := md_add hp (by omega) ((sbL xs xs.length).length / 8 + 1)
    obtain ⟨B, eB, dB, fB⟩ := md_stream (sbL_b xs _) hsl (hs.fm fA (by decide) (by decide) (by decide)) dA (by rw [List.length_append, List.length_singleton]; omega)
    refine ⟨B, ?_, by simpa [prL] using dB, fA.tr fB⟩
    show b_Md_addTree_304 L2 (f_Md_addTree_304 L2 fu) 0 (nI (2 * k)) G = _
    unfold b_Md_addTree_304
    rw [tx.2.1, ile (by omega) (by omega), hs.1, j_div8 (by omega), nI_1, eA, Option.bind_some, eB, Option.bind_some, if_pos zb1]
  | succ d ih =>
    intro k G ps fu hd hf tx hs hp hl
    obtain ⟨fu, rfl⟩ : ∃ k, fu = k + 1 := ⟨fu - 1, by omega⟩
    have w1 := hw (2 * k) (by omega)
    obtain ⟨v, hv⟩ : ∃ v, v = (if 2 * k + 1 < nS xs then wtE xs (2 * k + 1) else 0) := ⟨_, rfl⟩
    obtain ⟨A, eA, dA, fA⟩ := md_add hp (by omega) (16 * wtE xs (2 * k) + v)
    obtain ⟨H, eH, gH, fH⟩ := ih (k + 1) A _ fu (by omega) (by omega) (tx.fm fA (by decide) (by decide) (by decide) (by decide) (by decide)) (hs.fm fA (by decide) (by decide) (by decide)) dA (by simp; omega)
    refine ⟨H, ?_, by simp only [prL, ← hv]; simpa using gH, fA.tr fH⟩
    have e6 : ∀ s, s ≤ nS xs → mGa L2 G 6 (nI s).toNatClampNeg = nI (wtE xs s) := fun s hs => by rw [ga6, nI_clamp (by omega), tx.2.2.2.1 s hs]
    have e348 : ∀ y : Nat, y = v → b_Md_addTree_348 L2 (f_Md_addTree_304 L2 fu) 0 (nI (2 * k)) 0 (nI (16 * wtE xs (2 * k))) (nI y) G = some (1, H) := fun y hy => by
      unfold b_Md_addTree_348
      rw [nI_add, hy, eA, Option.bind_some, show nI (2 * k) + 2 = nI (2 * (k + 1)) by rw [l2, nI_add]; rfl]
      exact eH
    show b_Md_addTree_304 L2 (f_Md_addTree_304 L2 fu) 0 (nI (2 * k)) G = _
    unfold b_Md_addTree_304
    rw [tx.2.1, ilen (by omega) (by omega), r019, gl6, if_neg (inb_no (n := 2 * k) (by omega) (by omega)), e6 (2 * k) (by omega), nI_1, l16, pk_mul]
    by_cases q : 2 * k + 1 < nS xs
    · rw [ilen (by omega) (by omega), if_neg (inb_no (n := 2 * k + 1) (by omega) (by omega)), e6 (2 * k + 1) (by omega)]
      rw [if_pos q] at hv
      exact e348 _ hv.symm
    · rw [ile (by omega) (by omega), l0]
      rw [if_neg q] at hv
      exact e348 0 hv.symm
theorem mt179 {xs : List Nat} (h : LH xs (loS xs) (nS xs)) (hf : JFin (nS xs) (totS xs (loS xs)) (dpE xs (loS xs) (nS xs)) (moX xs)) (hm : moX xs ≤ 7) (h2 : 2 ≤ xs.length) : ∀ (d m : Nat) (G : Mem) (fu : Nat), d + m = xs.length → d < fu → TrX G xs → MD G 13 5 xs → MD G 34 20 [] → MD G 36 21 (sbL xs m) →
    ∃ H r, f_Md_addTree_179 L2 fu 0 (nI m) G = some (r, H) ∧ (trB xs = true → r = 1 ∧ MD H 34 20 (treeBy xs)) ∧ (¬ trB xs = true → r = 0 ∧ MD H 34 20 []) ∧ Fm [34, 36] [20, 21] G H := by
  obtain ⟨g1, -, -, g4, g5, g6, g7⟩ := id h
  have wb : ∀ s, s ≤ nS xs → wtE xs s ≤ 7 := fun s hs => by have := (wtE_b h hf hs).1; omega
  have own128 := tree_g h hf hm
  intro d
  induction d with
  | zero =>
    intro m G fu hd hf' tx hl hp hs
    obtain ⟨fu, rfl⟩ : ∃ k, fu = k + 1 := ⟨fu - 1, by omega⟩
    obtain rfl : m = xs.length := by omega
    have sl := sbL_len hm xs.length
    have ec : (2 : Int32) + (nI (nS xs) + 1) / 2 + 1 + nI ((sbL xs xs.length).length / 8) + 1 = nI (2 + (nS xs + 1) / 2 + 1 + ((sbL xs xs.length).length / 8 + 1)) := by
      rw [nI_1, j_div2 (by omega), l2, nI_add, nI_1, nI_add, nI_1]
      rfl
    have tb : trB xs = true ↔ 2 + (nS xs + 1) / 2 + 1 + ((sbL xs xs.length).length / 8 + 1) < xs.length := by
      unfold trB
      rw [decide_eq_true_iff]
      exact ⟨fun c => c.2.2.2.2, fun c => ⟨h2, g5, g4, hm, c⟩⟩
    show ∃ H r, b_Md_addTree_179 L2 (f_Md_addTree_179 L2 fu) 0 (nI xs.length) G = some (r, H) ∧ _
    unfold b_Md_addTree_179
    rw [hl.1, ile (Nat.le_refl _) (by omega), tx.2.1, hs.1, j_div8 (by omega), ec]
    by_cases q : 2 + (nS xs + 1) / 2 + 1 + ((sbL xs xs.length).length / 8 + 1) < xs.length
    · rw [ilt q (by omega)]
      obtain ⟨A, eA, dA, fA⟩ := md_add hp (by simp) (4 * xs.length + 2)
      obtain ⟨B, eB, dB, fB⟩ := md_add dA (by simp) (loS xs)
      obtain ⟨C, eC, dC, fC⟩ := md_add dB (by simp) (nS xs)
      have fGC : Fm [34] [20] G C := (fA.tr fB).tr fC
      obtain ⟨H, eH, gH, fH⟩ := mt304 g5 wb (by omega) ((nS xs + 1) / 2) 0 C _ mFU (by omega) (by unfold mFU; omega) (tx.fm fGC (by decide) (by decide) (by decide) (by decide) (by decide)) (hs.fm fGC (by decide) (by decide) (by decide)) dC (by simp; omega)
      refine ⟨H, 1, ?_, fun _ => ⟨rfl, by unfold treeBy; simpa using gH⟩, fun c => absurd (tb.mpr q) c, (fGC.tr fH).up (by simp) (by simp)⟩
      rw [l4, l2, pk_mul, nI_add, eA, Option.bind_some, fA.2 16 (by decide), tx.1, eB, Option.bind_some, fB.2 17 (by decide), fA.2 17 (by decide), tx.2.1, eC, Option.bind_some, l0]
      exact eH
    · rw [iltn (by omega) (by omega), if_pos zb0]
      exact ⟨G, 0, rfl, fun c => absurd (tb.mp c) q, fun _ => ⟨rfl, hp⟩, Fm.rf⟩
  | succ d ih =>
    intro m G fu hd hf' tx hl hp hs
    obtain ⟨fu, rfl⟩ : ∃ k, fu = k + 1 := ⟨fu - 1, by omega⟩
    obtain ⟨b1, b2⟩ := g1 m (by omega)
    have sl := sbL_len hm m
    obtain ⟨s, hs'⟩ : ∃ s, s = xs.getD m 0 - loS xs := ⟨_, rfl⟩
    have ht := tot_at (xs := xs) (low := loS xs) (k := m) (by omega) b1
    rw [← hs'] at ht
    obtain ⟨w1, w2⟩ := wtE_b h hf (s := s) (by omega)
    have w3 := w2 ht
    obtain ⟨o1, o2, o3⟩ := own_at (wt := wtE xs) (n := nS xs) (s := s) (by omega) w3 (by omega)
    have ob : ∀ j, (ownL (wtE xs) (nS xs) 7).getD j 0 < 2 ^ 20 := fun j => by
      by_cases q : j < (ownL (wtE xs) (nS xs) 7).length
      · have := (ownL_mem (getD_mem (m := j) q)).1
        omega
      · rw [List.getD_eq_getElem?_getD, List.getElem?_eq_none (by omega)]
        decide
    have ep := md_place own128 o1 o2 o3 (by omega) ob tx.2.2.2.2
    obtain ⟨A, eA, dA, fA⟩ := md_push hs (jshr (nI (startS (wtE xs) (nS xs) s)) (nI (wtE xs s) - 1)) (n := moX xs + 1 - wtE xs s) (by omega) (by omega)
    have dA' : MD A 36 21 (sbL xs (m + 1)) := by
      show MD A 36 21 (sbL xs m ++ syB xs (xs.getD m 0 - loS xs))
      rw [← hs']
      exact dA
    obtain ⟨H, r, eH, k1, k2, fH⟩ := ih (m + 1) A fu (by omega) (by omega) (tx.fm fA (by decide) (by decide) (by decide) (by decide) (by decide)) (hl.fm fA (by decide) (by decide) (by decide)) (hp.fm fA (by decide) (by decide) (by decide)) dA'
    refine ⟨H, r, ?_, k1, k2, (fA.up (by simp) (by simp)).tr fH⟩
    show b_Md_addTree_179 L2 (f_Md_addTree_179 L2 fu) 0 (nI m) G = _
    unfold b_Md_addTree_179
    have e5 : mGa L2 G 5 (nI m).toNatClampNeg = nI (xs.getD m 0) := by rw [ga5, nI_clamp (by omega), hl.2 m (by omega)]
    have e6 : mGa L2 G 6 (nI s).toNatClampNeg = nI (wtE xs s) := by rw [ga6, nI_clamp (by omega), tx.2.2.2.1 s (by omega)]
    rw [hl.1, ilen (by omega) (by omega), r014, gl5, if_neg (inb_no (n := m) (by omega) (by omega)), e5, tx.1, pk_sub b1, ← hs', ep, Option.bind_some]
    dsimp only
    rw [r019, gl6, if_neg (inb_no (n := s) (by omega) (by omega)), if_neg (inb_no (n := s) (by omega) (by omega)), e6, tx.2.2.1, show nI (moX xs) + 1 - nI (wtE xs s) = nI (moX xs + 1 - wtE xs s) by rw [nI_1, pk_sub (by omega)], eA, Option.bind_some, nI_1]
    exact eH
theorem mt120 {xs : List Nat} (h : LH xs (loS xs) (nS xs)) (hf : JFin (nS xs) (totS xs (loS xs)) (dpE xs (loS xs) (nS xs)) (moX xs)) : ∀ (d s : Nat) (G : Mem) (fu : Nat), d + s = nS xs + 1 → d < fu → G 0 17 = nI (nS xs) → (∀ j, j ≤ nS xs → G 22 j = nI (totS xs (loS xs) j) ∧ G 25 j = nI (dpE xs (loS xs) (nS xs) j)) → (∀ j, j < s → G 6 j = nI (wtE xs j)) → moX xs ≤ 16 →
    ∃ H, f_Md_addTree_120 L2 fu 0 (nI (moX xs)) (nI s) G = ((f_Md_plant L2 0 H).bind fun F1 => lt' (u2 F1 0 36 (0 : Int32)) fun F3 => f_Md_addTree_179 L2 mFU 0 (0 : Int32) F3) ∧ (∀ j, j ≤ nS xs → H 6 j = nI (wtE xs j)) ∧ Fm [] [6] G H := by
  obtain ⟨-, -, -, h4, h5, h6, h7⟩ := id h
  intro d
  induction d with
  | zero =>
    intro s G fu hd hf' h17 h22 hw h16
    obtain ⟨fu, rfl⟩ : ∃ k, fu = k + 1 := ⟨fu - 1, by omega⟩
    obtain rfl : s = nS xs + 1 := by omega
    refine ⟨G, ?_, fun j hj => hw j (by omega), Fm.rf⟩
    show b_Md_addTree_120 L2 (f_Md_addTree_120 L2 fu) 0 (nI (moX xs)) (nI (nS xs + 1)) G = _
    unfold b_Md_addTree_120
    rw [h17, ilt (by omega) (by omega)]
  | succ d ih =>
    intro s G fu hd hf' h17 h22 hw h16
    obtain ⟨fu, rfl⟩ : ∃ k, fu = k + 1 := ⟨fu - 1, by omega⟩
    have f1 : Fm [] [6] G (u2 G 6 s (nI (wtE xs s))) := Fm.uc (by simp) (by decide)
    obtain ⟨H, eH, gH, fH⟩ := ih (s + 1) (u2 G 6 s (nI (wtE xs s))) fu (by omega) (by omega) (by rw [f1.2 17 (by simp)]; exact h17) (fun j hj => by rw [u2_c (by decide), u2_c (by decide)]; exact h22 j hj) (fun j hj => by
      by_cases q : j = s
      · rw [q, u2_s]
      · rw [u2_p q]; exact hw j (by omega)) h16
    refine ⟨H, ?_, gH, f1.tr fH⟩
    obtain ⟨t1, t2⟩ := h22 s (by omega)
    have tb := totS_le h s
    have e160 : ∀ y : Int32, y = nI (wtE xs s) → b_Md_addTree_160 L2 (f_Md_addTree_120 L2 fu) 0 (nI (moX xs)) (nI s) 6 (nI s) y G = _ := fun y hy => by
      unfold b_Md_addTree_160
      rw [m6, if_neg (in_w (n := s) (by omega) (by omega) (show 6 < mNc L2 by decide)), ld, nI_clamp (by omega), nI_1, hy]
    show b_Md_addTree_120 L2 (f_Md_addTree_120 L2 fu) 0 (nI (moX xs)) (nI s) G = _
    unfold b_Md_addTree_120
    rw [h17, iltn (by omega) (by omega), r038, gl22, r019, r041, gl25, if_neg (inb_no (n := s) (by omega) (by omega)), show mGa L2 G 22 (nI s).toNatClampNeg = nI (totS xs (loS xs) s) by rw [ga22, nI_clamp (by omega), t1]]
    have ew : wtE xs s = if totS xs (loS xs) s = 0 then 0 else moX xs + 1 - dpE xs (loS xs) (nS xs) s := rfl
    by_cases t : totS xs (loS xs) s = 0
    · rw [if_pos (show nI (totS xs (loS xs) s) = 0 by rw [t]; rfl)]
      refine (e160 0 ?_).trans eH
      rw [ew, if_pos t]
      rfl
    · have := hf.1 s (by omega) (by omega)
      rw [if_neg (show ¬ nI (totS xs (loS xs) s) = 0 from nne (b := 0) t (by omega) (by omega)), if_neg (inb_no (n := s) (by omega) (by omega)), show mGa L2 G 25 (nI s).toNatClampNeg = nI (dpE xs (loS xs) (nS xs) s) by rw [ga25, nI_clamp (by omega), t2], nI_1, pk_sub (by omega)]
      refine (e160 _ ?_).trans eH
      rw [ew, if_neg t]
/-- the depths are good, whatever the machine -/
theorem jfin_all {xs : List Nat} (h : LH xs (loS xs) (nS xs)) : JFin (nS xs) (totS xs (loS xs)) (dpE xs (loS xs) (nS xs)) (moX xs) ∧ moX xs ≤ 16 := by
  obtain ⟨-, -, -, h4, h5, h6, h7⟩ := id h
  obtain ⟨th1, th2⟩ := thr_b h5 h4 h.t0 h.tn
  obtain ⟨cnt, par, hR, ha, -⟩ := jr_all (tot := totS xs (loS xs)) h5 (fun i hi => h.tz hi) (thr (nS xs) (totS xs (loS xs)) - 1) (by omega)
  obtain ⟨-, -, k3⟩ := hR.fin h5 h4 (by omega) (by omega) (by omega) h.t0 h.tn (fun s hs hz => (jIt_b (n := nS xs) (tot := totS xs (loS xs)) _ s).2.2 hz)
  refine ⟨k3, mxU_lub (fun s hs => ?_)⟩
  have := (jIt_b (n := nS xs) (tot := totS xs (loS xs)) (thr (nS xs) (totS xs (loS xs)) - 1) s).2.1
  show (jIt (nS xs) (totS xs (loS xs)) (thr (nS xs) (totS xs (loS xs)) - 1)).2.2 s ≤ 16
  omega
theorem md_addTree {xs : List Nat} (hby : ∀ b ∈ xs, b < 256) (h120 : xs.length ≤ 120) {G : Mem} (hl : MD G 13 5 xs) (hp : MD G 34 20 []) : ∃ H r, f_Md_addTree L2 0 G = some (r, H) ∧ (trB xs = true → r = 1 ∧ MD H 34 20 (treeBy xs)) ∧ (¬ trB xs = true → r = 0 ∧ MD H 34 20 []) ∧ Fm [15, 16, 17, 18, 34, 36] [6, 7, 20, 21, 22, 23, 24, 25] G H := by
  have hh : ∀ m, highL xs m ≤ 255 := fun m => by
    induction m with
    | zero => exact Nat.zero_le _
    | succ m ih =>
      have := nI_byte hby m
      show max _ _ ≤ 255
      omega
  have hlw : ∀ m, lowL xs m ≤ 255 := fun m => by
    induction m with
    | zero => exact Nat.le_refl _
    | succ m ih =>
      show min _ _ ≤ 255
      omega
  have no : ¬ trB xs = true → ∃ H r, b_Md_addTree_85 L2 G = some (r, H) ∧ (trB xs = true → r = 1 ∧ MD H 34 20 (treeBy xs)) ∧ (¬ trB xs = true → r = 0 ∧ MD H 34 20 []) ∧ Fm [15, 16, 17, 18, 34, 36] [6, 7, 20, 21, 22, 23, 24, 25] G H := fun q => by
    unfold b_Md_addTree_85
    rw [if_pos zb0]
    exact ⟨G, 0, rfl, fun c => absurd c q, fun _ => ⟨rfl, hp⟩, Fm.rf⟩
  have lp : ∀ (d m fu : Nat), d + m = xs.length → d < fu → ∃ H r, f_Md_addTree_8 L2 fu 0 (nI (lowL xs m)) (nI (highL xs m)) (nI m) G = some (r, H) ∧ (trB xs = true → r = 1 ∧ MD H 34 20 (treeBy xs)) ∧ (¬ trB xs = true → r = 0 ∧ MD H 34 20 []) ∧ Fm [15, 16, 17, 18, 34, 36] [6, 7, 20, 21, 22, 23, 24, 25] G H := by
    intro d
    induction d with
    | zero =>
      intro m fu hd hf
      obtain ⟨fu, rfl⟩ : ∃ k, fu = k + 1 := ⟨fu - 1, by omega⟩
      obtain rfl : m = xs.length := by omega
      show ∃ H r, b_Md_addTree_8 L2 (f_Md_addTree_8 L2 fu) 0 (nI (lowL xs xs.length)) (nI (highL xs xs.length)) (nI xs.length) G = some (r, H) ∧ _
      unfold b_Md_addTree_8
      rw [hl.1, ile (Nat.le_refl _) (by omega)]
      by_cases q2 : 2 ≤ xs.length
      · rw [if_neg (show ¬ nI xs.length < (2 : Int32) from fun c => absurd ((nI_ltI (b := 2) (by omega) (by omega)).mp c) (by omega))]
        have b0 := lh_b (xs := xs) (m := xs.length) (k := 0) (by omega)
        have h1 := hh xs.length
        have en : highL xs xs.length - lowL xs xs.length = nS xs := rfl
        have el : lowL xs xs.length = loS xs := rfl
        rw [pk_sub (by omega), en, el]
        by_cases q3 : nS xs ≤ 16
        · rw [if_neg (show ¬ (16 : Int32) < nI (nS xs) from fun c => absurd ((nI_ltI (a := 16) (by omega) (by omega)).mp c) (by omega))]
          by_cases q4 : highL xs xs.length = loS xs
          · rw [ieq q4]
            refine no (fun c => ?_)
            have := (of_decide_eq_true c).2.2.1
            rw [← el] at q4
            unfold nS at this
            omega
          · have ll := hlw xs.length
            rw [ieqn q4 (by omega) (by omega), ld, ld]
            have n1 : 1 ≤ nS xs := by
              rw [← el] at q4
              unfold nS
              omega
            have h := lh_of hby q2 h120 n1 q3
            obtain ⟨jf, j16⟩ := jfin_all h
            obtain ⟨A, hA⟩ : ∃ A, A = u2 (u2 G 0 16 (nI (loS xs))) 0 17 (nI (nS xs)) := ⟨_, rfl⟩
            have fA : Fm [16, 17] [] G A := by rw [hA]; exact (Fm.us (by simp)).tr (Fm.us (by simp))
            have a16 : A 0 16 = nI (loS xs) := by rw [hA, u2_p (by decide), u2_s]
            have a17 : A 0 17 = nI (nS xs) := by rw [hA, u2_s]
            rw [← hA]
            obtain ⟨B, eB, tB, fB⟩ := md_grow h (hl.fm fA (by decide) (by simp) (by decide)) a16 a17
            rw [eB, Option.bind_some]
            have em : moE xs (loS xs) (nS xs) = moX xs := rfl
            rw [em, l7]
            have fGB : Fm [15, 16, 17, 18, 34, 36] [6, 7, 20, 21, 22, 23, 24, 25] G B := (fA.up (by simp) (by simp)).tr (fB.up (by simp) (by simp))
            have hpB : MD B 34 20 [] := (hp.fm fA (by decide) (by simp) (by decide)).fm fB (by simp) (by decide) (by decide)
            by_cases q5 : moX xs ≤ 7
            · rw [ile q5 (by omega), ld]
              obtain ⟨C, hC⟩ : ∃ C, C = u2 B 0 18 (nI (moX xs)) := ⟨_, rfl⟩
              have fC : Fm [18] [] B C := by rw [hC]; exact Fm.us (by simp)
              rw [← hC]
              have c17 : C 0 17 = nI (nS xs) := by rw [fC.2 17 (by decide), fB.2 17 (by simp)]; exact a17
              obtain ⟨D, eD, wD, fD⟩ := mt120 h jf (nS xs + 1) 0 C mFU (by omega) (by unfold mFU; omega) c17 (fun j hj => by rw [fC.1 22 (by decide) (by simp), fC.1 25 (by decide) (by simp)]; exact tB j hj) (fun j hj => absurd hj (by omega)) j16
              rw [← l0] at eD
              rw [eD]
              obtain ⟨E, eE, oE, -, fE⟩ := md_plant q3 (tree_g h jf q5) (F := D) (by rw [fD.2 17 (by simp)]; exact c17) (fun s hs => ⟨wD s hs, by have := (wtE_b h jf hs).1; omega⟩)
              rw [eE, Option.bind_some, ld]
              obtain ⟨K, hK⟩ : ∃ K, K = u2 E 0 36 0 := ⟨_, rfl⟩
              have fK : Fm [36] [] E K := by rw [hK]; exact Fm.us (by simp)
              rw [← hK]
              have fBK : Fm [15, 18, 36] [6, 7] B K := (((fC.up (by simp) (by simp)).tr (fD.up (by simp) (by simp))).tr (fE.up (by simp) (by simp))).tr (fK.up (by simp) (by simp))
              have tx : TrX K xs := by
                refine ⟨?_, ?_, ?_, fun s hs => ?_, ?_⟩
                · rw [fBK.2 16 (by decide), fB.2 16 (by simp)]; exact a16
                · rw [fBK.2 17 (by decide), fB.2 17 (by simp)]; exact a17
                · rw [fK.2 18 (by decide), fE.2 18 (by decide), fD.2 18 (by simp), hC, u2_s]
                · rw [fK.1 6 (by decide) (by simp), fE.1 6 (by decide) (by decide)]; exact wD s hs
                · exact oE.eq (fK.1 7 (by decide) (by simp))
              have hlK : MD K 13 5 xs := ((hl.fm fA (by decide) (by simp) (by decide)).fm fB (by simp) (by decide) (by decide)).fm fBK (by decide) (by decide) (by decide)
              obtain ⟨H, r, eH, k1, k2, fH⟩ := mt179 h jf q5 q2 xs.length 0 K mFU (by omega) (by unfold mFU; omega) tx hlK (hpB.fm fBK (by decide) (by decide) (by decide)) ⟨by rw [hK, u2_s]; rfl, fun j hj => absurd hj (by simp [sbL])⟩
              refine ⟨H, r, ?_, k1, k2, (fGB.tr (fBK.up (by simp) (by simp))).tr (fH.up (by simp) (by simp))⟩
              rw [l0]
              exact eH
            · rw [ilen (by omega) (by omega), if_pos zb0]
              exact ⟨B, 0, rfl, fun c => absurd (of_decide_eq_true c).2.2.2.1 q5, fun _ => ⟨rfl, hpB⟩, fGB⟩
        · rw [if_pos (show (16 : Int32) < nI (nS xs) from nI_lt (a := 16) (by omega) (by unfold nS; omega))]
          exact no (fun c => absurd (of_decide_eq_true c).2.1 q3)
      · rw [if_pos (show nI xs.length < (2 : Int32) from nI_lt (b := 2) (by omega) (by omega))]
        exact no (fun c => absurd (of_decide_eq_true c).1 q2)
    | succ d ih =>
      intro m fu hd hf
      obtain ⟨fu, rfl⟩ : ∃ k, fu = k + 1 := ⟨fu - 1, by omega⟩
      obtain ⟨H, r, eH, k⟩ := ih (m + 1) fu (by omega) (by omega)
      refine ⟨H, r, ?_, k⟩
      have y := nI_byte hby m
      have h1 := hh m
      have h2' := hlw m
      have e5 : mGa L2 G 5 (nI m).toNatClampNeg = nI (xs.getD m 0) := by rw [ga5, nI_clamp (by omega), hl.2 m (by omega)]
      have e36 : ∀ v : Nat, v = lowL xs (m + 1) → b_Md_addTree_36 L2 (f_Md_addTree_8 L2 fu) 0 (nI (highL xs m)) (nI m) (nI v) G = some (r, H) := fun v hv => by
        unfold b_Md_addTree_36 b_Md_addTree_57
        rw [r014, gl5, if_neg (inb_no (n := m) (by omega) (by omega)), e5, nI_1, hv]
        have e2 : highL xs (m + 1) = max (highL xs m) (xs.getD m 0) := rfl
        by_cases q : xs.getD m 0 ≤ highL xs m
        · rw [ile q (by omega)]
          rw [e2, show max (highL xs m) (xs.getD m 0) = highL xs m by omega] at eH
          exact eH
        · rw [ilen (by omega) (by omega), if_neg (inb_no (n := m) (by omega) (by omega))]
          rw [e2, show max (highL xs m) (xs.getD m 0) = xs.getD m 0 by omega] at eH
          exact eH
      have e1 : lowL xs (m + 1) = min (lowL xs m) (xs.getD m 0) := rfl
      show b_Md_addTree_8 L2 (f_Md_addTree_8 L2 fu) 0 (nI (lowL xs m)) (nI (highL xs m)) (nI m) G = _
      unfold b_Md_addTree_8
      rw [hl.1, ilen (by omega) (by omega), r014, gl5, if_neg (inb_no (n := m) (by omega) (by omega)), e5]
      by_cases q : lowL xs m ≤ xs.getD m 0
      · rw [ile q (by omega)]
        exact e36 _ (by omega)
      · rw [ilen (by omega) (by omega), if_neg (inb_no (n := m) (by omega) (by omega))]
        exact e36 _ (by omega)
  unfold f_Md_addTree
  rw [show (255 : Int32) = nI 255 from rfl, l0]
  exact lp xs.length 0 mFU (by omega) (by unfold mFU; omega)
