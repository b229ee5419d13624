/-! pure: the model unpacks; both answer alike -/
theorem frameS_len {w o : List Nat} {p : Nat} {z : Nat × List Nat} (h : frameS w p o = some z) : z.2.length ≤ 120 := by
  unfold frameS at h
  split at h
  · rename_i c
    cases e : blocksS w o.length (o.length + (w.getD (p + 1) 0 + 256 * w.getD (p + 2) 0)) 240 (p + 3) (o, (1, 4, 8), none, none) with
    | none => rw [e] at h; exact absurd h (by simp)
    | some q =>
      rw [e] at h
      dsimp only [Option.bind_some] at h
      split at h
      · split at h
        · split at h
          · injection h with h
            subst h
            dsimp only
            omega
          · exact absurd h (by simp)
        · injection h with h
          subst h
          dsimp only
          omega
      · exact absurd h (by simp)
  · exact absurd h (by simp)
theorem blocksS_le {w : List Nat} {fs fe : Nat} : ∀ {k p : Nat} {b : BSt} {z : Nat × BSt}, blocksS w fs fe k p b = some z → z.1 ≤ w.length
  | 0, p, b, z, h => absurd h (by simp [blocksS])
  | k + 1, p, b, z, h => by
    unfold blocksS at h
    split at h
    · cases e : blockS w fs fe (w.getD p 0 / 2 % 4) (w.getD p 0 / 8 + 32 * w.getD (p + 1) 0) (p + 2) b with
      | none => rw [e] at h; exact absurd h (by simp)
      | some q =>
        rw [e] at h
        dsimp only [Option.bind_some] at h
        split at h
        · injection h with h
          subst h
          exact blockS_le e
        · exact blocksS_le h
    · exact absurd h (by simp)
theorem frameS_le {w o : List Nat} {p : Nat} {z : Nat × List Nat} (h : frameS w p o = some z) : z.1 ≤ w.length := by
  unfold frameS at h
  split at h
  · cases e : blocksS w o.length (o.length + (w.getD (p + 1) 0 + 256 * w.getD (p + 2) 0)) 240 (p + 3) (o, (1, 4, 8), none, none) with
    | none => rw [e] at h; exact absurd h (by simp)
    | some q =>
      rw [e] at h
      dsimp only [Option.bind_some] at h
      have := blocksS_le e
      split at h
      · split at h
        · split at h
          · injection h with h
            subst h
            dsimp only
            omega
          · exact absurd h (by simp)
        · injection h with h
          subst h
          exact this
      · exact absurd h (by simp)
  · exact absurd h (by simp)
theorem itemS_le {w o : List Nat} {p : Nat} {z : Nat × List Nat} (hl : o.length ≤ 120) (h : itemS w p o = some z) : z.1 ≤ w.length ∧ z.2.length ≤ 120 := by
  unfold itemS at h
  split at h
  · exact ⟨frameS_le h, frameS_len h⟩
  · split at h
    · injection h with h
      subst h
      rename_i c
      exact ⟨c.2.2, hl⟩
    · exact absurd h (by simp)
/-- one item -/
theorem md_item {G : Mem} {w o : List Nat} {p : Nat} (h : MN G w p true) (hl : o.length ≤ 120) (hp : p < w.length) (x : MD G 6 3 o) (kk : Nat → Mem → Option (Int32 × Mem)) :
    ∃ H p' ok' o', b_Md_unpack_15 L2 kk 0 G = b_Md_unpack_115 L2 kk 0 (nI p) H ∧ MN H w p' ok' ∧ (ok' = true → itemS w p o = some (p', o') ∧ MD H 6 3 o') ∧ (itemS w p o ≠ none → ok' = true) ∧ Fm FL FC G H := by
  have hw := h.2.2.2.2.2
  have h5 := h.2.2.2.2.1
  have b0 := nI_byte hw p
  obtain ⟨A, eA, mA, fA⟩ := mn_next h (Nat.le_refl w.length)
  rw [if_pos hp] at eA mA
  rw [Bool.true_and, decide_eq_true hp] at mA
  have xA : MD A 6 3 o := x.fm fA (by decide) (by simp) (by decide)
  unfold b_Md_unpack_15
  rw [h.1.1, h.2.1, ilen (by omega) (by omega), eA]
  dsimp only [Option.bind_some]
  by_cases q83 : w.getD p 0 = 83
  · rw [if_pos (show nI (w.getD p 0) = (83 : Int32) by rw [q83]; rfl), mA.1.1]
    obtain ⟨B, eB, mB, fB⟩ := mn_next mA (Nat.le_refl w.length)
    obtain ⟨n, hn⟩ : ∃ a, a = (if p + 1 < w.length then w.getD (p + 1) 0 else 0) := ⟨_, rfl⟩
    have hn2 : n < 256 := by have := nI_byte hw (p + 1); rw [hn]; split <;> omega
    rw [← hn] at eB
    obtain ⟨pB, hpB⟩ : ∃ q, q = (if p + 1 < w.length then p + 1 + 1 else p + 1) := ⟨_, rfl⟩
    rw [← hpB] at mB
    have hpB2 : pB ≤ 1000 := by rw [hpB]; split <;> omega
    rw [eB]
    dsimp only [Option.bind_some]
    have es : itemS w p o = if p + 1 < w.length ∧ p + 2 + w.getD (p + 1) 0 ≤ w.length then some (p + 2 + w.getD (p + 1) 0, o) else none := by
      unfold itemS
      rw [if_neg (by omega)]
      by_cases c : p + 1 < w.length ∧ p + 2 + w.getD (p + 1) 0 ≤ w.length
      · rw [if_pos c, if_pos ⟨q83, c⟩]
      · rw [if_neg c, if_neg (fun c' => c c'.2)]
    have fGB : Fm [4, 5] [] G B := fA.tr fB
    have xB : MD B 6 3 o := xA.fm fB (by decide) (by simp) (by decide)
    -- the place goes on
    have main : ∀ (y : Int32) (ok1 : Bool), (y = 0 ∨ y = 1) → (y = if ok1 then 0 else 1) → (ok1 = true → p + 1 < w.length ∧ p + 2 + w.getD (p + 1) 0 ≤ w.length) → ((p + 1 < w.length ∧ p + 2 + w.getD (p + 1) 0 ≤ w.length) → ok1 = true) → ∃ H p' ok' o', b_Md_unpack_81 L2 kk 0 (nI p) (nI n) 0 y B = b_Md_unpack_115 L2 kk 0 (nI p) H ∧ MN H w p' ok' ∧ (ok' = true → itemS w p o = some (p', o') ∧ MD H 6 3 o') ∧ (itemS w p o ≠ none → ok' = true) ∧ Fm FL FC G H := by
      intro y ok1 hy ho c1 c2
      have f2 : Fm [4, 5] [] B (u2 (u2 B 0 5 y) 0 4 (nI (pB + n))) := (Fm.us (by simp)).tr (Fm.us (by simp))
      refine ⟨u2 (u2 B 0 5 y) 0 4 (nI (pB + n)), pB + n, ok1, o, ?_, ⟨mB.1.fm f2 (by decide) (by simp) (by decide), u2_s, by rw [u2_p (by decide), u2_s, ho], by omega, h5, hw⟩, fun o1 => ⟨?_, xB.fm f2 (by decide) (by simp) (by decide)⟩, fun hs => ?_, (fGB.tr f2).up (by simp) (by simp)⟩
      · unfold b_Md_unpack_81
        rw [if_neg (fun q => q hy), ld, ld, u2_p (show (4 : Nat) ≠ 5 by decide), mB.2.1, nI_add]
      · have c := c1 o1
        rw [es, if_pos c, hpB, if_pos c.1, hn, if_pos c.1]
      · refine c2 ?_
        by_cases c : p + 1 < w.length ∧ p + 2 + w.getD (p + 1) 0 ≤ w.length
        · exact c
        · rw [es, if_neg c] at hs
          exact absurd rfl hs
    unfold b_Md_unpack_76
    by_cases q1 : p + 1 < w.length
    · rw [Bool.true_and, decide_eq_true q1] at mB
      rw [if_pos q1] at hn hpB
      rw [if_pos mB.b0]
      by_cases q2 : p + 2 + w.getD (p + 1) 0 ≤ w.length
      · rw [if_pos (show B 0 4 + nI n ≤ B 0 3 by rw [mB.2.1, mB.1.1, nI_add]; exact nI_le (by omega) (by omega))]
        exact main 0 true zb0 rfl (fun _ => ⟨q1, q2⟩) (fun _ => rfl)
      · rw [if_neg (show ¬ B 0 4 + nI n ≤ B 0 3 by rw [mB.2.1, mB.1.1, nI_add]; exact fun c => absurd ((nI_leI (by omega) (by omega)).mp c) (by omega))]
        exact main 1 false zb1 rfl (fun o => absurd o (by decide)) (fun c => absurd c.2 q2)
    · rw [Bool.true_and, decide_eq_false q1] at mB
      rw [if_neg mB.b1]
      exact main 1 false zb1 rfl (fun o => absurd o (by decide)) (fun c => absurd c.1 q1)
  · rw [if_neg (show ¬ nI (w.getD p 0) = (83 : Int32) from nne (b := 83) q83 (by omega) (by omega))]
    by_cases q90 : w.getD p 0 = 90
    · rw [if_pos (show nI (w.getD p 0) = (90 : Int32) by rw [q90]; rfl)]
      obtain ⟨H, p', ok', o', eH, mH, g1, g2, f⟩ := md_frame mA hl (by omega) xA
      have es : itemS w p o = frameS w (p + 1) o := by
        unfold itemS
        rw [if_pos q90]
      rw [eH]
      exact ⟨H, p', ok', o', rfl, mH, by rw [es]; exact g1, by rw [es]; exact g2, (fA.up (by simp) (by simp)).tr f⟩
    · rw [if_neg (show ¬ nI (w.getD p 0) = (90 : Int32) from nne (b := 90) q90 (by omega) (by omega)), if_neg (fun q => q zb1), ld]
      refine ⟨u2 A 0 5 1, p + 1, false, o, rfl, mA.bad, fun o => absurd o (by decide), fun hs => ?_, (fA.up (by simp) (by simp)).tr (Fm.us (by simp))⟩
      unfold itemS at hs
      rw [if_neg q90, if_neg (fun c => q83 c.1)] at hs
      exact absurd rfl hs
theorem md_items {w : List Nat} : ∀ (k : Nat) (G : Mem) (p : Nat) (o : List Nat) (fu : Nat), k < fu → w.length ≤ p + k → p ≤ w.length → MN G w p true → o.length ≤ 120 → MD G 6 3 o →
    ∃ H o', MD H 3 2 w ∧ Fm FL FC G H ∧ (∀ q, itemsS w k p o = .inl q → f_Md_unpack_15 L2 fu 0 G = some (-1 - nI q, H)) ∧ (∀ z, itemsS w k p o = .inr z → f_Md_unpack_15 L2 fu 0 G = f_Md_unpack_139 L2 mFU 0 0 (u2 H 0 1 (H 0 6)) ∧ z = o' ∧ MD H 6 3 z ∧ z.length ≤ 120) := by
  -- the end
  have fin : ∀ (G : Mem) (p : Nat) (o : List Nat) (fu : Nat) (k : Nat), w.length ≤ p → p ≤ w.length → MN G w p true → o.length ≤ 120 → MD G 6 3 o → itemsS w k p o = .inr o → ∃ H o', MD H 3 2 w ∧ Fm FL FC G H ∧ (∀ q, itemsS w k p o = .inl q → f_Md_unpack_15 L2 (fu + 1) 0 G = some (-1 - nI q, H)) ∧ (∀ z, itemsS w k p o = .inr z → f_Md_unpack_15 L2 (fu + 1) 0 G = f_Md_unpack_139 L2 mFU 0 0 (u2 H 0 1 (H 0 6)) ∧ z = o' ∧ MD H 6 3 z ∧ z.length ≤ 120) := by
    intro G p o fu k h1 h2 h hl x es
    have h5 := h.2.2.2.2.1
    refine ⟨G, o, h.1, Fm.rf, fun q hq => absurd (es.symm.trans hq) (by simp), fun z hz => ?_⟩
    rw [es] at hz
    injection hz with hz
    subst hz
    refine ⟨?_, rfl, x, hl⟩
    show b_Md_unpack_15 L2 (f_Md_unpack_15 L2 fu) 0 G = _
    unfold b_Md_unpack_15
    rw [h.1.1, h.2.1, ile h1 (by omega), ld]
  intro k
  induction k with
  | zero =>
    intro G p o fu hf hk hp h hl x
    obtain ⟨fu, rfl⟩ : ∃ k, fu = k + 1 := ⟨fu - 1, by omega⟩
    exact fin G p o fu 0 (by omega) hp h hl x rfl
  | succ k ih =>
    intro G p o fu hf hk hp h hl x
    obtain ⟨fu, rfl⟩ : ∃ k, fu = k + 1 := ⟨fu - 1, by omega⟩
    by_cases q0 : w.length ≤ p
    · exact fin G p o fu (k + 1) q0 hp h hl x (by rw [itemsS, if_pos q0])
    · obtain ⟨A, pA, okA, oA, eA, mA, g1, g2, fA⟩ := md_item h hl (by omega) x (f_Md_unpack_15 L2 fu)
      have st : f_Md_unpack_15 L2 (fu + 1) 0 G = b_Md_unpack_115 L2 (f_Md_unpack_15 L2 fu) 0 (nI p) A := eA
      unfold b_Md_unpack_115 at st
      cases okA with
      | false =>
        rw [if_neg mA.b1] at st
        have e4 : itemS w p o = none := by
          cases e4 : itemS w p o with
          | none => rfl
          | some z => exact absurd (g2 (by rw [e4]; simp)) (by decide)
        have es : itemsS w (k + 1) p o = .inl p := by
          rw [itemsS, if_neg q0, e4]
        refine ⟨A, [], mA.1, fA, fun q hq => ?_, fun z hz => absurd (es.symm.trans hz) (by simp)⟩
        have hq' := Sum.inl.inj (es.symm.trans hq)
        rw [← hq']
        exact st
      | true =>
        rw [if_pos mA.b0] at st
        obtain ⟨e4, xA⟩ := g1 rfl
        have hz := itemS_ge e4
        obtain ⟨hz2, hz3⟩ := itemS_le hl e4
        dsimp only at hz hz2 hz3
        have es : itemsS w (k + 1) p o = itemsS w k pA oA := by
          rw [itemsS, if_neg q0, e4]
        obtain ⟨H, o', m1, f1, k1, k2⟩ := ih A pA oA fu (by omega) (by omega) hz2 mA hz3 xA
        refine ⟨H, o', m1, fA.tr f1, fun q hq => ?_, fun z hz => ?_⟩
        · rw [es] at hq
          rw [st]
          exact k1 q hq
        · rw [es] at hz
          rw [st]
          exact k2 z hz
theorem md_u139 {z : List Nat} (hl : z.length ≤ 120) : ∀ (d m : Nat) (G : Mem) (fu : Nat), d + m = z.length → d < fu → MD G 6 3 z → (∀ j, j < m → G 1 j = nI (z.getD j 0)) → ∃ H, f_Md_unpack_139 L2 fu 0 (nI m) G = some (nI z.length, H) ∧ (∀ j, j < z.length → H 1 j = nI (z.getD j 0)) ∧ Fm [] [1] G H := by
  intro d
  induction d with
  | zero =>
    intro m G fu hd hf x h1
    obtain ⟨fu, rfl⟩ : ∃ k, fu = k + 1 := ⟨fu - 1, by omega⟩
    refine ⟨G, ?_, fun j hj => h1 j (by omega), Fm.rf⟩
    show b_Md_unpack_139 L2 (f_Md_unpack_139 L2 fu) 0 (nI m) G = _
    unfold b_Md_unpack_139
    rw [x.1, ile (by omega) (by omega)]
  | succ d ih =>
    intro m G fu hd hf x h1
    obtain ⟨fu, rfl⟩ : ∃ k, fu = k + 1 := ⟨fu - 1, by omega⟩
    have f1 : Fm [] [1] G (u2 G 1 m (nI (z.getD m 0))) := Fm.uc (by simp) (by decide)
    obtain ⟨H, e, g1, f⟩ := ih (m + 1) (u2 G 1 m (nI (z.getD m 0))) fu (by omega) (by omega) (x.fm f1 (by simp) (by decide) (by decide)) (fun j hj => by
      by_cases q : j = m
      · rw [q, u2_s]
      · rw [u2_p q]; exact h1 j (by omega))
    refine ⟨H, ?_, g1, f1.tr f⟩
    show b_Md_unpack_139 L2 (f_Md_unpack_139 L2 fu) 0 (nI m) G = _
    unfold b_Md_unpack_139
    rw [x.1, ilen (by omega) (by omega), r07, gl3, show mRf L2 0 0 = 1 from rfl, show mLn L2 1 = 120 from rfl, if_neg (inb_no (n := m) (by omega) (by omega)), if_neg (in_w (n := m) (by omega) (by omega) (show 1 < mNc L2 by decide)), ld, nI_clamp (by omega), ga3, x.2 m (by omega), nI_1]
    exact e
theorem md_unpack {G : Mem} {c w : List Nat} (h : CW c w) (hm : RM G c w) :
    ∃ G', (∀ q, itemsS w 240 0 [] = .inl q → f_Md_unpack L2 0 G = some (-1 - nI q, G') ∧ RM G' c w) ∧ (∀ z, itemsS w 240 0 [] = .inr z → f_Md_unpack L2 0 G = some (nI z.length, G') ∧ RM G' z w) := by
  obtain ⟨h1, h2, h3, h4⟩ := h
  obtain ⟨A, hA⟩ : ∃ A, A = u2 (u2 (u2 G 0 4 0) 0 6 0) 0 5 0 := ⟨_, rfl⟩
  have fA : Fm [4, 5, 6] [] G A := by rw [hA]; exact ((Fm.us (by simp)).tr (Fm.us (by simp))).tr (Fm.us (by simp))
  have mA : MN A w 0 true := ⟨hm.2.fm fA (by decide) (by simp) (by decide), by rw [hA, u2_p (by decide), u2_p (by decide), u2_s]; rfl, by rw [hA, u2_s]; rfl, by omega, h2, h4⟩
  have xA : MD A 6 3 [] := ⟨by rw [hA, u2_p (by decide), u2_s]; rfl, fun j hj => absurd hj (by simp)⟩
  obtain ⟨H, o', m1, f1, k1, k2⟩ := md_items 240 A 0 [] mFU (by unfold mFU; omega) (by omega) (by omega) mA (by simp) xA
  have e0 : f_Md_unpack L2 0 G = f_Md_unpack_15 L2 mFU 0 A := by
    unfold f_Md_unpack
    rw [ld, ld, if_neg (fun q => q zb0), ld, ← hA]
  have fGH : Fm FL FC G H := (fA.up (by simp) (by simp)).tr f1
  cases es : itemsS w 240 0 [] with
  | inl q =>
    refine ⟨H, fun q' hq => ?_, fun z hz => absurd hz (by simp)⟩
    injection hq with hq
    subst hq
    exact ⟨by rw [e0]; exact k1 q es, hm.1.fm fGH (by decide) (by decide) (by decide), m1⟩
  | inr z =>
    obtain ⟨e1, e2, x1, hz⟩ := k2 z es
    have f2 : Fm [1] [] H (u2 H 0 1 (H 0 6)) := Fm.us (by simp)
    obtain ⟨K, eK, gK, fK⟩ := md_u139 hz z.length 0 (u2 H 0 1 (H 0 6)) mFU (by omega) (by unfold mFU; omega) (x1.fm f2 (by decide) (by simp) (by decide)) (fun j hj => absurd hj (by omega))
    refine ⟨K, fun q hq => absurd hq (by simp), fun z' hz' => ?_⟩
    injection hz' with hz'
    subst hz'
    refine ⟨by rw [e0, e1]; exact eK, ⟨by rw [fK.2 1 (by simp), u2_s, x1.1], gK⟩, (m1.fm f2 (by decide) (by simp) (by decide)).fm fK (by simp) (by decide) (by decide)⟩
theorem op_unpack {U F G : Mem} {c w : List Nat} (h : CW c w) (hp : RP U F c w) (hm : RM G c w) : ∃ r F' G' c' w', f_PF_unpack L1 0 F = some (r, F') ∧ f_Md_unpack L2 0 G = some (r, G') ∧ CW c' w' ∧ RP U F' c' w' ∧ RM G' c' w' := by
  obtain ⟨F', a1, a2⟩ := pf_unpack h hp
  obtain ⟨G', b1, b2⟩ := md_unpack h hm
  cases es : itemsS w 240 0 [] with
  | inl q =>
    obtain ⟨e1, p1⟩ := a1 q es
    obtain ⟨e2, p2⟩ := b1 q es
    exact ⟨_, F', G', c, w, e1, e2, h, p1, p2⟩
  | inr z =>
    obtain ⟨e1, p1, c1⟩ := a2 z es
    obtain ⟨e2, p2⟩ := b2 z es
    exact ⟨_, F', G', z, w, e1, e2, c1, p1, p2⟩
