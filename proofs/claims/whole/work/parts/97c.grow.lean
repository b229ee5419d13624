/-! pure: the model grows its tree -/
/-- at each turn there is a class's state beside the model's -/
theorem jr_all {n : Nat} {tot : Nat → Nat} (hn : n ≤ 16) (hz : ∀ i, n < i → tot i = 0) : ∀ T, T < thr n tot → ∃ cnt par, JR n tot T cnt par (jIt n tot T).1 (jIt n tot T).2.1 (jIt n tot T).2.2 ∧ actN n tot (jIt n tot T).1 + T = thr n tot ∧ ∀ s, s ≤ n → (jIt n tot T).1 s ≤ n
  | 0, _ => ⟨fun i => if i < 17 then tot i else 0, fun _ => 0, JR.init hn (fun i hi => if_pos hi) (fun i hi => if_neg (by omega)) (fun i hi _ => hz i hi), by
      show actN n tot (fun s => s) + 0 = _
      rw [act_init]
      rfl, fun s hs => hs⟩
  | T + 1, hT => by
    obtain ⟨cnt, par, h1, h2, h3⟩ := jr_all hn hz T (by omega)
    obtain ⟨x1, x2, -, -, ⟨na, nb⟩, -, hR, ha⟩ := jr_it hn h1 (by omega)
    refine ⟨_, _, hR, by omega, fun s hs => ?_⟩
    show grJ tot (jIt n tot T).1 _ _ s ≤ n
    unfold grJ
    split
    · exact Nat.le_trans (Nat.min_le_left _ _) na
    · exact h3 s hs
theorem r038 : mRf L2 0 38 = 22 := rfl
theorem r039 : mRf L2 0 39 = 23 := rfl
theorem r040 : mRf L2 0 40 = 24 := rfl
theorem r041 : mRf L2 0 41 = 25 := rfl
theorem m22 : mLn L2 22 = 17 := rfl
theorem m23 : mLn L2 23 = 17 := rfl
theorem m24 : mLn L2 24 = 17 := rfl
theorem m25 : mLn L2 25 = 17 := rfl
theorem gl22 : mGl L2 22 = 17 := rfl
theorem gl23 : mGl L2 23 = 17 := rfl
theorem gl24 : mGl L2 24 = 17 := rfl
theorem gl25 : mGl L2 25 = 17 := rfl
theorem ga22 (F : Mem) (j : Nat) : mGa L2 F 22 j = F 22 j := if_pos (by decide)
theorem ga23 (F : Mem) (j : Nat) : mGa L2 F 23 j = F 23 j := if_pos (by decide)
theorem ga24 (F : Mem) (j : Nat) : mGa L2 F 24 j = F 24 j := if_pos (by decide)
theorem ga25 (F : Mem) (j : Nat) : mGa L2 F 25 j = F 25 j := if_pos (by decide)
/-- the model's groups -/
def MJ (G : Mem) (n m : Nat) (tot : Nat → Nat) (x : JS) : Prop := G 0 17 = nI n ∧ ∀ s, s < m → G 22 s = nI (tot s) ∧ G 23 s = nI (x.1 s) ∧ G 24 s = nI (x.2.1 s) ∧ G 25 s = nI (x.2.2 s)
theorem mg42 {lits : List Nat} {low n : Nat} (h : LH lits low n) {s : Nat} (hs : s ≤ n) (x1 : Int32) (k4 : Nat → Int32 → Int32 → Mem → Option (Int32 × Mem)) : ∀ (d m : Nat) (G : Mem) (fu : Nat), d + m = lits.length → d < fu → MD G 13 5 lits → G 0 16 = nI low → G 22 s = nI (cntL lits (low + s) m) →
    ∃ H, f_Md_grow_42 L2 k4 fu 0 x1 (nI s) (nI m) G = k4 0 (x1 + (if 0 < totS lits low s then 1 else 0)) (nI (s + 1)) H ∧ H 22 s = nI (totS lits low s) ∧ (∀ j, j ≠ s → H 22 j = G 22 j) ∧ Fm [] [22] G H := by
  obtain ⟨h1, -, -, h4, h5, h6, h7⟩ := id h
  intro d
  induction d with
  | zero =>
    intro m G fu hd hf hl h16 hc
    obtain ⟨fu, rfl⟩ : ∃ k, fu = k + 1 := ⟨fu - 1, by omega⟩
    obtain rfl : m = lits.length := by omega
    have hc' : G 22 s = nI (totS lits low s) := hc
    have tb := totS_le h s
    refine ⟨G, ?_, hc', fun _ _ => rfl, Fm.rf⟩
    show b_Md_grow_42 L2 k4 (f_Md_grow_42 L2 k4 fu) 0 x1 (nI s) (nI lits.length) G = _
    unfold b_Md_grow_42 b_Md_grow_100
    rw [hl.1, ile (Nat.le_refl _) (by omega), r038, gl22, if_neg (inb_no (n := s) (by omega) (by omega)), show mGa L2 G 22 (nI s).toNatClampNeg = nI (totS lits low s) by rw [ga22, nI_clamp (by omega), hc'], nI_1]
    by_cases q : 0 < totS lits low s
    · rw [if_neg (show ¬ nI (totS lits low s) ≤ 0 from fun c => absurd ((nI_leI (b := 0) (by omega) (by omega)).mp c) (by omega)), if_pos q]
    · rw [if_pos (show nI (totS lits low s) ≤ 0 from (nI_leI (b := 0) (by omega) (by omega)).mpr (by omega)), if_neg q]
  | succ d ih =>
    intro m G fu hd hf hl h16 hc
    obtain ⟨fu, rfl⟩ : ∃ k, fu = k + 1 := ⟨fu - 1, by omega⟩
    obtain ⟨b1, b2⟩ := h1 m (by omega)
    have cl := cntL_le lits (low + s) m
    have es : cntL lits (low + s) (m + 1) = cntL lits (low + s) m + (if lits.getD m 0 = low + s then 1 else 0) := rfl
    have f1 : Fm [] [22] G (u2 G 22 s (nI (cntL lits (low + s) (m + 1)))) := Fm.uc (by simp) (by decide)
    obtain ⟨H, e, g1, g2, f⟩ := ih (m + 1) (u2 G 22 s (nI (cntL lits (low + s) (m + 1)))) fu (by omega) (by omega) (hl.fm f1 (by simp) (by decide) (by decide)) (by rw [f1.2 16 (by simp)]; exact h16) u2_s
    refine ⟨H, ?_, g1, fun j hj => by rw [g2 j hj, u2_p hj], f1.tr f⟩
    have e77 : ∀ y : Nat, y = (if lits.getD m 0 = low + s then 1 else 0) → b_Md_grow_77 L2 k4 (f_Md_grow_42 L2 k4 fu) 0 x1 (nI s) (nI m) 22 (nI s) (nI (cntL lits (low + s) m)) (nI y) G = f_Md_grow_42 L2 k4 fu 0 x1 (nI s) (nI (m + 1)) (u2 G 22 s (nI (cntL lits (low + s) (m + 1)))) := fun y hy => by
      unfold b_Md_grow_77
      rw [m22, if_neg (in_w (n := s) (by omega) (by omega) (show 22 < mNc L2 by decide)), ld, nI_add, nI_1, nI_clamp (by omega), hy, es]
    show b_Md_grow_42 L2 k4 (f_Md_grow_42 L2 k4 fu) 0 x1 (nI s) (nI m) G = _
    unfold b_Md_grow_42
    rw [hl.1, ilen (by omega) (by omega), r038, gl22, r014, gl5, if_neg (inb_no (n := s) (by omega) (by omega)), if_neg (inb_no (n := m) (by omega) (by omega)), show mGa L2 G 5 (nI m).toNatClampNeg = nI (lits.getD m 0) by rw [ga5, nI_clamp (by omega), hl.2 m (by omega)], h16, nI_add, show mGa L2 G 22 (nI s).toNatClampNeg = nI (cntL lits (low + s) m) by rw [ga22, nI_clamp (by omega), hc]]
    by_cases q : lits.getD m 0 = low + s
    · rw [ieq q, l1]
      exact (e77 1 (by rw [if_pos q])).trans e
    · rw [ieqn q (by omega) (by omega), l0]
      exact (e77 0 (by rw [if_neg q])).trans e
theorem mg4 {lits : List Nat} {low n : Nat} (h : LH lits low n) : ∀ (d s : Nat) (G : Mem) (fu : Nat), d + s = n + 1 → d < fu → MD G 13 5 lits → G 0 16 = nI low → MJ G n s (totS lits low) (jIt n (totS lits low) 0) →
    ∃ H, f_Md_grow_4 L2 fu 0 (nI (sumh (fun g => if 0 < totS lits low g then 1 else 0) s)) (nI s) G = f_Md_grow_110 L2 mFU 0 (nI (thr n (totS lits low))) 1 H ∧ MJ H n (n + 1) (totS lits low) (jIt n (totS lits low) 0) ∧ Fm [] [22, 23, 24, 25] G H := by
  obtain ⟨h1, -, -, h4, h5, h6, h7⟩ := id h
  intro d
  induction d with
  | zero =>
    intro s G fu hd hf hl h16 hm
    obtain ⟨fu, rfl⟩ : ∃ k, fu = k + 1 := ⟨fu - 1, by omega⟩
    obtain rfl : s = n + 1 := by omega
    refine ⟨G, ?_, hm, Fm.rf⟩
    show b_Md_grow_4 L2 (f_Md_grow_4 L2 fu) 0 _ (nI (n + 1)) G = _
    unfold b_Md_grow_4
    rw [hm.1, ilt (by omega) (by omega)]
    rfl
  | succ d ih =>
    intro s G fu hd hf hl h16 hm
    obtain ⟨fu, rfl⟩ : ∃ k, fu = k + 1 := ⟨fu - 1, by omega⟩
    obtain ⟨A, hA⟩ : ∃ A, A = u2 (u2 (u2 (u2 G 22 s 0) 25 s 0) 24 s 0) 23 s (nI s) := ⟨_, rfl⟩
    have fA : Fm [] [22, 23, 24, 25] G A := by
      rw [hA]
      exact (((Fm.uc (by simp) (by decide)).tr (Fm.uc (by simp) (by decide))).tr (Fm.uc (by simp) (by decide))).tr (Fm.uc (by simp) (by decide))
    obtain ⟨B, eB, b1, b2, fB⟩ := mg42 h (s := s) (by omega) (nI (sumh (fun g => if 0 < totS lits low g then 1 else 0) s)) (f_Md_grow_4 L2 fu) lits.length 0 A mFU (by omega) (by unfold mFU; omega) (hl.fm fA (by simp) (by decide) (by decide)) (by rw [fA.2 16 (by simp)]; exact h16) (by rw [hA, u2_c (by decide), u2_c (by decide), u2_c (by decide), u2_s]; rfl)
    have fGB : Fm [] [22, 23, 24, 25] G B := fA.tr (fB.up (by simp) (by simp))
    have es : sumh (fun g => if 0 < totS lits low g then 1 else 0) (s + 1) = sumh (fun g => if 0 < totS lits low g then 1 else 0) s + (if 0 < totS lits low s then 1 else 0) := rfl
    have mB' : MJ B n (s + 1) (totS lits low) (jIt n (totS lits low) 0) := by
      refine ⟨by rw [fGB.2 17 (by simp)]; exact hm.1, fun j hj => ?_⟩
      by_cases q : j = s
      · refine ⟨by rw [q]; exact b1, ?_, ?_, ?_⟩
        · rw [fB.1 23 (by decide) (by decide), hA, q, u2_s]
          rfl
        · rw [fB.1 24 (by decide) (by decide), hA, q, u2_c (by decide), u2_s]
          rfl
        · rw [fB.1 25 (by decide) (by decide), hA, q, u2_c (by decide), u2_c (by decide), u2_s]
          rfl
      · obtain ⟨m1, m2, m3, m4⟩ := hm.2 j (by omega)
        refine ⟨?_, ?_, ?_, ?_⟩
        · rw [b2 j q, hA, u2_c (by decide), u2_c (by decide), u2_c (by decide), u2_p q]; exact m1
        · rw [fB.1 23 (by decide) (by decide), hA, u2_p q, u2_c (by decide), u2_c (by decide), u2_c (by decide)]; exact m2
        · rw [fB.1 24 (by decide) (by decide), hA, u2_c (by decide), u2_p q, u2_c (by decide), u2_c (by decide)]; exact m3
        · rw [fB.1 25 (by decide) (by decide), hA, u2_c (by decide), u2_c (by decide), u2_p q, u2_c (by decide)]; exact m4
    obtain ⟨H, eH, hH, fH⟩ := ih (s + 1) B fu (by omega) (by omega) (hl.fm fGB (by simp) (by decide) (by decide)) (by rw [fGB.2 16 (by simp)]; exact h16) mB'
    refine ⟨H, ?_, hH, fGB.tr fH⟩
    show b_Md_grow_4 L2 (f_Md_grow_4 L2 fu) 0 _ (nI s) G = _
    unfold b_Md_grow_4
    rw [hm.1, iltn (by omega) (by omega), r038, r039, r040, r041, m22, m23, m24, m25, if_neg (in_w (n := s) (by omega) (by omega) (show 22 < mNc L2 by decide)), ld, if_neg (in_w (n := s) (by omega) (by omega) (show 25 < mNc L2 by decide)), ld, if_neg (in_w (n := s) (by omega) (by omega) (show 24 < mNc L2 by decide)), ld, if_neg (in_w (n := s) (by omega) (by omega) (show 23 < mNc L2 by decide)), ld, nI_clamp (by omega), ← hA]
    have e2 : (nI (sumh (fun g => if 0 < totS lits low g then 1 else 0) s) + if 0 < totS lits low s then 1 else 0) = nI (sumh (fun g => if 0 < totS lits low g then 1 else 0) (s + 1)) := by
      rw [es]
      split
      · rw [l1, nI_add]
      · rw [l0, nI_add]
    rw [e2] at eB
    rw [l0]
    exact eB.trans eH
theorem mg_count {G : Mem} {n : Nat} {tot : Nat → Nat} {x : JS} (hn : n ≤ 16) (ht : ∀ s, tot s ≤ 120) (hx : ∀ s, s ≤ n → x.1 s ≤ n) (h : MJ G n (n + 1) tot x) {g : Nat} (hg : g ≤ 16) : ∀ (d s fu : Nat), d + s = n + 1 → d < fu → f_Md_countOf_4 L2 fu 0 (nI g) (nI (sumh (fun s => if x.1 s = g then tot s else 0) s)) (nI s) G = some (nI (cO n tot x.1 g), G) := by
  intro d
  induction d with
  | zero =>
    intro s fu hd hf
    obtain ⟨fu, rfl⟩ : ∃ k, fu = k + 1 := ⟨fu - 1, by omega⟩
    obtain rfl : s = n + 1 := by omega
    show b_Md_countOf_4 L2 (f_Md_countOf_4 L2 fu) 0 (nI g) _ (nI (n + 1)) G = _
    unfold b_Md_countOf_4
    rw [h.1, ilt (by omega) (by omega)]
    rfl
  | succ d ih =>
    intro s fu hd hf
    obtain ⟨fu, rfl⟩ : ∃ k, fu = k + 1 := ⟨fu - 1, by omega⟩
    have nx := ih (s + 1) fu (by omega) (by omega)
    have es : sumh (fun s => if x.1 s = g then tot s else 0) (s + 1) = sumh (fun s => if x.1 s = g then tot s else 0) s + (if x.1 s = g then tot s else 0) := rfl
    obtain ⟨m1, m2, m3, m4⟩ := h.2 s (by omega)
    have xs := hx s (by omega)
    show b_Md_countOf_4 L2 (f_Md_countOf_4 L2 fu) 0 (nI g) _ (nI s) G = _
    unfold b_Md_countOf_4 b_Md_countOf_33
    rw [h.1, iltn (by omega) (by omega), r039, gl23, r038, gl22, if_neg (inb_no (n := s) (by omega) (by omega)), show mGa L2 G 23 (nI s).toNatClampNeg = nI (x.1 s) by rw [ga23, nI_clamp (by omega), m2], nI_1]
    by_cases q : x.1 s = g
    · rw [ieq q, if_neg (inb_no (n := s) (by omega) (by omega)), show mGa L2 G 22 (nI s).toNatClampNeg = nI (tot s) by rw [ga22, nI_clamp (by omega), m1], nI_add]
      rw [es, if_pos q] at nx
      exact nx
    · rw [ieqn q (by omega) (by omega), l0, nI_add]
      rw [es, if_neg q] at nx
      exact nx
theorem md_countOf {G : Mem} {n : Nat} {tot : Nat → Nat} {x : JS} (hn : n ≤ 16) (ht : ∀ s, tot s ≤ 120) (hx : ∀ s, s ≤ n → x.1 s ≤ n) (h : MJ G n (n + 1) tot x) {g : Nat} (hg : g ≤ 16) : f_Md_countOf L2 0 (nI g) G = some (nI (cO n tot x.1 g), G) := by
  unfold f_Md_countOf
  rw [l0]
  exact mg_count hn ht hx h hg (n + 1) 0 mFU (by omega) (by unfold mFU; omega)
def gI : Option Nat → Int32
  | none => -1
  | some x => nI x
theorem md_least {G : Mem} {n : Nat} {tot : Nat → Nat} {x : JS} (hn : n ≤ 16) (ht : ∀ s, tot s ≤ 120) (hx : ∀ s, s ≤ n → x.1 s ≤ n) (hj : ∀ s, x.2.1 s ≤ 20) (h : MJ G n (n + 1) tot x) {but : Option Nat} (hb : ∀ y, but = some y → y ≤ 16) : f_Md_leastGroup L2 0 (gI but) G = some (gI (lgL (cO n tot x.1) x.2.1 but (n + 1)), G) := by
  have cb : ∀ g, cO n tot x.1 g ≤ 2040 := fun g => by
    have := cO_le (n := n) (gr := x.1) ht g
    have h17 : 120 * (n + 1) ≤ 120 * 17 := Nat.mul_le_mul_left _ (by omega)
    omega
  have lp : ∀ (d g fu : Nat), d + g = n + 1 → d < fu → f_Md_leastGroup_4 L2 fu 0 (gI but) (gI (lgL (cO n tot x.1) x.2.1 but g)) (nI g) G = some (gI (lgL (cO n tot x.1) x.2.1 but (n + 1)), G) := by
    intro d
    induction d with
    | zero =>
      intro g fu hd hf
      obtain ⟨fu, rfl⟩ : ∃ k, fu = k + 1 := ⟨fu - 1, by omega⟩
      obtain rfl : g = n + 1 := by omega
      show b_Md_leastGroup_4 L2 (f_Md_leastGroup_4 L2 fu) 0 (gI but) _ (nI (n + 1)) G = _
      unfold b_Md_leastGroup_4
      rw [h.1, ilt (by omega) (by omega)]
    | succ d ih =>
      intro g fu hd hf
      obtain ⟨fu, rfl⟩ : ∃ k, fu = k + 1 := ⟨fu - 1, by omega⟩
      have nx := ih (g + 1) fu (by omega) (by omega)
      have el : lgL (cO n tot x.1) x.2.1 but (g + 1) = if but ≠ some g ∧ 0 < cO n tot x.1 g ∧ lgB (cO n tot x.1) x.2.1 g (lgL (cO n tot x.1) x.2.1 but g) = true then some g else lgL (cO n tot x.1) x.2.1 but g := rfl
      have cg := cb g
      have jg := hj g
      -- kept or taken
      have kept : ¬ (but ≠ some g ∧ 0 < cO n tot x.1 g ∧ lgB (cO n tot x.1) x.2.1 g (lgL (cO n tot x.1) x.2.1 but g) = true) → b_Md_leastGroup_98 L2 (f_Md_leastGroup_4 L2 fu) 0 (gI but) (nI g) (gI (lgL (cO n tot x.1) x.2.1 but g)) G = some (gI (lgL (cO n tot x.1) x.2.1 but (n + 1)), G) := fun q => by
        unfold b_Md_leastGroup_98
        rw [nI_1]
        rw [el, if_neg q] at nx
        exact nx
      have taken : (but ≠ some g ∧ 0 < cO n tot x.1 g ∧ lgB (cO n tot x.1) x.2.1 g (lgL (cO n tot x.1) x.2.1 but g) = true) → b_Md_leastGroup_98 L2 (f_Md_leastGroup_4 L2 fu) 0 (gI but) (nI g) (nI g) G = some (gI (lgL (cO n tot x.1) x.2.1 but (n + 1)), G) := fun q => by
        unfold b_Md_leastGroup_98
        rw [nI_1]
        rw [el, if_pos q] at nx
        exact nx
      have no : ¬ (but ≠ some g ∧ 0 < cO n tot x.1 g) → b_Md_leastGroup_33 L2 (f_Md_leastGroup_4 L2 fu) 0 (gI but) (gI (lgL (cO n tot x.1) x.2.1 but g)) (nI g) (nI (cO n tot x.1 g)) G = some (gI (lgL (cO n tot x.1) x.2.1 but (n + 1)), G) := fun q => by
        unfold b_Md_leastGroup_33 b_Md_leastGroup_34 b_Md_leastGroup_88
        rw [if_pos rfl, if_pos rfl]
        exact kept (fun c => q ⟨c.1, c.2.1⟩)
      show b_Md_leastGroup_4 L2 (f_Md_leastGroup_4 L2 fu) 0 (gI but) _ (nI g) G = _
      unfold b_Md_leastGroup_4
      rw [h.1, iltn (by omega) (by omega), md_countOf hn ht hx h (by omega), Option.bind_some]
      have eb : nI g = gI but ↔ but = some g := by
        cases but with
        | none => exact ⟨fun c => absurd c (nI_m1 (by omega)), fun c => absurd c (by simp)⟩
        | some y =>
          have := hb y rfl
          exact ⟨fun c => by rw [nI_inj (by omega) (by omega) c], fun c => by injection c with c; rw [c]; rfl⟩
      by_cases q1 : but = some g
      · rw [if_pos (eb.mpr q1)]
        exact no (fun c => c.1 q1)
      · rw [if_neg (fun c => q1 (eb.mp c))]
        by_cases q2 : 0 < cO n tot x.1 g
        · rw [if_neg (show ¬ nI (cO n tot x.1 g) ≤ 0 from fun c => absurd ((nI_leI (b := 0) (by omega) (by omega)).mp c) (by omega))]
          unfold b_Md_leastGroup_34 b_Md_leastGroup_81 b_Md_leastGroup_85 b_Md_leastGroup_86 b_Md_leastGroup_88
          rw [if_neg (show ¬ (1 : Int32) = 0 by decide), if_neg (show ¬ (1 : Int32) = 0 by decide)]
          cases e : lgL (cO n tot x.1) x.2.1 but g with
          | none =>
            rw [if_pos (show gI none < 0 by decide)]
            exact taken ⟨q1, q2, by rw [e]; rfl⟩
          | some y =>
            have hy := (lg_min (cO n tot x.1) x.2.1 but g).1 y e
            have y1 := hy.1
            have cy := cb y
            have jy := hj y
            rw [if_neg (show ¬ gI (some y) < 0 from nI_pos (by omega)), show gI (some y) = nI y from rfl, md_countOf hn ht hx h (by omega), Option.bind_some]
            have bl : lgB (cO n tot x.1) x.2.1 g (lgL (cO n tot x.1) x.2.1 but g) = true ↔ (cO n tot x.1 g < cO n tot x.1 y ∨ (cO n tot x.1 g = cO n tot x.1 y ∧ x.2.1 g < x.2.1 y)) := by
              rw [e]
              simp [lgB]
            rw [e] at kept
            have kept' : ¬ lgB (cO n tot x.1) x.2.1 g (lgL (cO n tot x.1) x.2.1 but g) = true → b_Md_leastGroup_98 L2 (f_Md_leastGroup_4 L2 fu) 0 (gI but) (nI g) (nI y) G = some (gI (lgL (cO n tot x.1) x.2.1 but (n + 1)), G) := fun z => kept (fun c => z (by rw [e]; exact c.2.2))
            by_cases z1 : cO n tot x.1 g < cO n tot x.1 y
            · rw [ilt z1 (by omega)]
              exact taken ⟨q1, q2, bl.mpr (Or.inl z1)⟩
            · rw [iltn (by omega) (by omega)]
              by_cases z2 : cO n tot x.1 g = cO n tot x.1 y
              · rw [ieq z2, r040, gl24, if_neg (inb_no (n := g) (by omega) (by omega)), if_neg (inb_no (n := y) (by omega) (by omega)), show mGa L2 G 24 (nI y).toNatClampNeg = nI (x.2.1 y) by rw [ga24, nI_clamp (by omega), (h.2 y (by omega)).2.2.1], show mGa L2 G 24 (nI g).toNatClampNeg = nI (x.2.1 g) by rw [ga24, nI_clamp (by omega), (h.2 g (by omega)).2.2.1]]
                by_cases z3 : x.2.1 g < x.2.1 y
                · rw [ilen z3 (by omega)]
                  exact taken ⟨q1, q2, bl.mpr (Or.inr ⟨z2, z3⟩)⟩
                · rw [ile (by omega) (by omega), if_pos rfl]
                  exact kept' (fun c => by have := bl.mp c; omega)
              · rw [ieqn z2 (by omega) (by omega), if_pos rfl]
                exact kept' (fun c => by have := bl.mp c; omega)
        · rw [if_pos (show nI (cO n tot x.1 g) ≤ 0 from (nI_leI (b := 0) (by omega) (by omega)).mpr (by omega))]
          exact no (fun c => q2 c.2)
  unfold f_Md_leastGroup
  rw [l0]
  exact lp (n + 1) 0 mFU (by omega) (by unfold mFU; omega)
theorem md_join {n : Nat} {tot : Nat → Nat} {x : JS} (hn : n ≤ 16) (ht : ∀ s, tot s ≤ 120) (hx : ∀ s, s ≤ n → x.1 s ≤ n) (hdp : ∀ s, x.2.2 s ≤ 20) {a b T : Nat} (ha : a ≤ n) (hb : b ≤ n) (hT : T ≤ 20) {G : Mem} (h : MJ G n (n + 1) tot x) : ∃ H, f_Md_join L2 0 (nI a) (nI b) (nI T) G = some H ∧ MJ H n (n + 1) tot (grJ tot x.1 a b, updN x.2.1 (min a b) T, dpJ tot x.1 x.2.2 a b) ∧ Fm [] [23, 24, 25] G H := by
  obtain ⟨m, hm⟩ : ∃ m, m = min a b := ⟨_, rfl⟩
  have lp : ∀ (d s : Nat) (G : Mem) (fu : Nat), d + s = n + 1 → d < fu → G 0 17 = nI n → (∀ j, j < n + 1 → G 22 j = nI (tot j) ∧ G 24 j = nI (x.2.1 j)) → (∀ j, j < s → G 23 j = nI (grJ tot x.1 a b j) ∧ G 25 j = nI (dpJ tot x.1 x.2.2 a b j)) → (∀ j, s ≤ j → j < n + 1 → G 23 j = nI (x.1 j) ∧ G 25 j = nI (x.2.2 j)) → ∃ H, f_Md_join_15 L2 fu 0 (nI a) (nI b) (nI T) (nI m) (nI s) G = some H ∧ MJ H n (n + 1) tot (grJ tot x.1 a b, updN x.2.1 m T, dpJ tot x.1 x.2.2 a b) ∧ Fm [] [23, 24, 25] G H := by
    intro d
    induction d with
    | zero =>
      intro s G fu hd hf h17 h1 h2 h3
      obtain ⟨fu, rfl⟩ : ∃ k, fu = k + 1 := ⟨fu - 1, by omega⟩
      obtain rfl : s = n + 1 := by omega
      have f1 : Fm [] [23, 24, 25] G (u2 G 24 m (nI T)) := Fm.uc (by simp) (by decide)
      refine ⟨u2 G 24 m (nI T), ?_, ⟨by rw [f1.2 17 (by simp)]; exact h17, fun j hj => ⟨by rw [u2_c (by decide)]; exact (h1 j hj).1, by rw [u2_c (by decide)]; exact (h2 j hj).1, ?_, by rw [u2_c (by decide)]; exact (h2 j hj).2⟩⟩, f1⟩
      · show b_Md_join_15 L2 (f_Md_join_15 L2 fu) 0 (nI a) (nI b) (nI T) (nI m) (nI (n + 1)) G = _
        unfold b_Md_join_15
        rw [h17, ilt (by omega) (by omega), r040, m24, if_neg (in_w (n := m) (by omega) (by omega) (show 24 < mNc L2 by decide)), ld, nI_clamp (by omega)]
      · show _ = nI (updN x.2.1 m T j)
        by_cases q : j = m
        · rw [q, u2_s, updN_s]
        · rw [u2_p q, updN_n q]
          exact (h1 j hj).2
    | succ d ih =>
      intro s G fu hd hf h17 h1 h2 h3
      obtain ⟨fu, rfl⟩ : ∃ k, fu = k + 1 := ⟨fu - 1, by omega⟩
      obtain ⟨g23, g25⟩ := h3 s (Nat.le_refl _) (by omega)
      have g22 := (h1 s (by omega)).1
      have tb := ht s
      have xb := hx s (by omega)
      have db := hdp s
      have e22 : mGa L2 G 22 (nI s).toNatClampNeg = nI (tot s) := by rw [ga22, nI_clamp (by omega), g22]
      have e23 : mGa L2 G 23 (nI s).toNatClampNeg = nI (x.1 s) := by rw [ga23, nI_clamp (by omega), g23]
      -- left as it is
      have keep : ¬ (0 < tot s ∧ (x.1 s = a ∨ x.1 s = b)) → ∃ H, b_Md_join_76 L2 (f_Md_join_15 L2 fu) 0 (nI a) (nI b) (nI T) (nI m) (nI s) G = some H ∧ MJ H n (n + 1) tot (grJ tot x.1 a b, updN x.2.1 m T, dpJ tot x.1 x.2.2 a b) ∧ Fm [] [23, 24, 25] G H := fun q => by
        obtain ⟨H, eH, r⟩ := ih (s + 1) G fu (by omega) (by omega) h17 h1 (fun j hj => by
          rcases Nat.lt_or_ge j s with z | z
          · exact h2 j z
          · rw [show j = s by omega, grJ_out q, dpJ_out q]
            exact ⟨g23, g25⟩) (fun j j1 j2 => h3 j (by omega) j2)
        refine ⟨H, ?_, r⟩
        unfold b_Md_join_76
        rw [nI_1]
        exact eH
      have take : (0 < tot s ∧ (x.1 s = a ∨ x.1 s = b)) → ∃ H, b_Md_join_56 L2 (f_Md_join_15 L2 fu) 0 (nI a) (nI b) (nI T) (nI m) (nI s) G = some H ∧ MJ H n (n + 1) tot (grJ tot x.1 a b, updN x.2.1 m T, dpJ tot x.1 x.2.2 a b) ∧ Fm [] [23, 24, 25] G H := fun q => by
        obtain ⟨A, hA⟩ : ∃ A, A = u2 (u2 G 23 s (nI m)) 25 s (nI (x.2.2 s + 1)) := ⟨_, rfl⟩
        have fA : Fm [] [23, 24, 25] G A := by rw [hA]; exact (Fm.uc (by simp) (by decide)).tr (Fm.uc (by simp) (by decide))
        obtain ⟨H, eH, r1, r2⟩ := ih (s + 1) A fu (by omega) (by omega) (by rw [fA.2 17 (by simp)]; exact h17) (fun j hj => by
          rw [hA, u2_c (by decide), u2_c (by decide), u2_c (by decide), u2_c (by decide)]
          exact h1 j hj) (fun j hj => by
          rw [hA]
          rcases Nat.lt_or_ge j s with z | z
          · rw [u2_c (by decide), u2_p (by omega), u2_p (by omega), u2_c (by decide)]
            exact h2 j z
          · rw [show j = s by omega, u2_c (by decide), u2_s, u2_s, grJ_in q.1 q.2, dpJ_in q.1 q.2, ← hm]
            exact ⟨rfl, rfl⟩) (fun j j1 j2 => by
          rw [hA, u2_c (by decide), u2_p (by omega), u2_p (by omega), u2_c (by decide)]
          exact h3 j (by omega) j2)
        refine ⟨H, ?_, r1, fA.tr r2⟩
        unfold b_Md_join_56 b_Md_join_76
        rw [r039, m23, r041, gl25, m25, if_neg (in_w (n := s) (by omega) (by omega) (show 23 < mNc L2 by decide)), ld, if_neg (inb_no (n := s) (by omega) (by omega)), if_neg (in_w (n := s) (by omega) (by omega) (show 25 < mNc L2 by decide)), ld, ga25, nI_clamp (by omega), u2_c (show (25 : Nat) ≠ 23 by decide), g25, nI_1, nI_1, ← hA]
        exact eH
      show ∃ H, b_Md_join_15 L2 (f_Md_join_15 L2 fu) 0 (nI a) (nI b) (nI T) (nI m) (nI s) G = _ ∧ _
      unfold b_Md_join_15
      rw [h17, iltn (by omega) (by omega), r038, gl22, r039, gl23, if_neg (inb_no (n := s) (by omega) (by omega)), e22]
      by_cases q0 : 0 < tot s
      · rw [if_neg (show ¬ nI (tot s) ≤ 0 from fun c => absurd ((nI_leI (b := 0) (by omega) (by omega)).mp c) (by omega)), if_neg (inb_no (n := s) (by omega) (by omega)), if_neg (inb_no (n := s) (by omega) (by omega)), e23]
        by_cases q1 : x.1 s = a
        · rw [ieq q1]
          exact take ⟨q0, Or.inl q1⟩
        · rw [ieqn q1 (by omega) (by omega)]
          by_cases q2 : x.1 s = b
          · rw [ieq q2]
            exact take ⟨q0, Or.inr q2⟩
          · rw [ieqn q2 (by omega) (by omega)]
            exact keep (fun c => c.2.elim q1 q2)
      · rw [if_pos (show nI (tot s) ≤ 0 from (nI_leI (b := 0) (by omega) (by omega)).mpr (by omega))]
        exact keep (fun c => q0 c.1)
  have r := lp (n + 1) 0 G mFU (by omega) (by unfold mFU; omega) h.1 (fun j hj => ⟨(h.2 j hj).1, (h.2 j hj).2.2.1⟩) (fun j hj => absurd hj (by omega)) (fun j _ hj => ⟨(h.2 j hj).2.1, (h.2 j hj).2.2.2⟩)
  rw [← hm]
  unfold f_Md_join b_Md_join_10
  by_cases q : b ≤ a
  · rw [ile q (by omega)]
    rw [show m = b by omega] at r ⊢
    rw [l0]
    exact r
  · rw [ilen (by omega) (by omega)]
    rw [show m = a by omega] at r ⊢
    rw [l0]
    exact r
theorem mg110 {lits : List Nat} {low n : Nat} (h : LH lits low n) : ∀ (d T : Nat) (G : Mem) (fu : Nat), d + T + 1 = thr n (totS lits low) → thr n (totS lits low) ≤ 17 → d < fu → MJ G n (n + 1) (totS lits low) (jIt n (totS lits low) T) →
    ∃ H, f_Md_grow_110 L2 fu 0 (nI (d + 1)) (nI (T + 1)) G = f_Md_grow_149 L2 mFU 0 0 0 H ∧ MJ H n (n + 1) (totS lits low) (jIt n (totS lits low) (thr n (totS lits low) - 1)) ∧ Fm [] [23, 24, 25] G H := by
  have hn := h.2.2.2.2.1
  have ht := fun s => totS_le h s
  intro d
  induction d with
  | zero =>
    intro T G fu hd h17 hf hm
    obtain ⟨fu, rfl⟩ : ∃ k, fu = k + 1 := ⟨fu - 1, by omega⟩
    obtain rfl : T = thr n (totS lits low) - 1 := by omega
    refine ⟨G, ?_, hm, Fm.rf⟩
    show b_Md_grow_110 L2 (f_Md_grow_110 L2 fu) 0 (nI (0 + 1)) _ G = _
    unfold b_Md_grow_110
    rw [if_pos (show nI (0 + 1) ≤ (1 : Int32) by decide)]
  | succ d ih =>
    intro T G fu hd h17 hf hm
    obtain ⟨fu, rfl⟩ : ∃ k, fu = k + 1 := ⟨fu - 1, by omega⟩
    obtain ⟨cnt, par, hR, ha, hg⟩ := jr_all (tot := totS lits low) hn (fun i hi => h.tz hi) T (by omega)
    obtain ⟨x1, x2, -, -, ⟨na, nb⟩, ⟨ea, eb⟩, -, -⟩ := jr_it hn hR (by omega)
    have jb : ∀ s, (jIt n (totS lits low) T).2.1 s ≤ 20 := fun s => by have := (jIt_b (n := n) (tot := totS lits low) T s).1; omega
    have db : ∀ s, (jIt n (totS lits low) T).2.2 s ≤ 20 := fun s => by have := (jIt_b (n := n) (tot := totS lits low) T s).2.1; omega
    have l1' := md_least hn ht hg jb hm (but := none) (fun y hy => absurd hy (by simp))
    have l2' := md_least hn ht hg jb hm (but := some (jA n (totS lits low) (jIt n (totS lits low) T))) (fun y hy => by injection hy with hy; omega)
    rw [ea] at l1'
    rw [eb] at l2'
    obtain ⟨A, eA, mA, fA⟩ := md_join hn ht hg db na nb (T := T + 1) (by omega) hm
    obtain ⟨H, eH, mH, fH⟩ := ih (T + 1) A fu (by omega) h17 (by omega) mA
    refine ⟨H, ?_, mH, fA.tr fH⟩
    show b_Md_grow_110 L2 (f_Md_grow_110 L2 fu) 0 (nI (d + 1 + 1)) (nI (T + 1)) G = _
    unfold b_Md_grow_110
    rw [if_neg (show ¬ nI (d + 1 + 1) ≤ (1 : Int32) from fun c => absurd ((nI_leI (b := 1) (by omega) (by omega)).mp c) (by omega)), show f_Md_leastGroup L2 0 (-1 : Int32) G = some (nI (jA n (totS lits low) (jIt n (totS lits low) T)), G) from l1', Option.bind_some, show f_Md_leastGroup L2 0 (nI (jA n (totS lits low) (jIt n (totS lits low) T))) G = some (nI (jB n (totS lits low) (jIt n (totS lits low) T)), G) from l2', Option.bind_some, eA, Option.bind_some, ← Int32.sub_eq_add_neg, nI_pred, nI_1]
    exact eH
theorem mg149 {n : Nat} (hn : n ≤ 16) {f : Nat → Nat} (hf' : ∀ s, f s ≤ 20) {G : Mem} (h17 : G 0 17 = nI n) (h25 : ∀ s, s ≤ n → G 25 s = nI (f s)) : ∀ (d s fu : Nat), d + s = n + 1 → d < fu → f_Md_grow_149 L2 fu 0 (nI (mxU f s)) (nI s) G = some (nI (mxU f (n + 1)), G) := by
  have mb' : ∀ s, mxU f s ≤ 20 := fun s => mxU_lub (fun i _ => hf' i)
  intro d
  induction d with
  | zero =>
    intro s fu hd hf
    obtain ⟨fu, rfl⟩ : ∃ k, fu = k + 1 := ⟨fu - 1, by omega⟩
    obtain rfl : s = n + 1 := by omega
    show b_Md_grow_149 L2 (f_Md_grow_149 L2 fu) 0 _ (nI (n + 1)) G = _
    unfold b_Md_grow_149
    rw [h17, ilt (by omega) (by omega)]
  | succ d ih =>
    intro s fu hd hf
    obtain ⟨fu, rfl⟩ : ∃ k, fu = k + 1 := ⟨fu - 1, by omega⟩
    have nx := ih (s + 1) fu (by omega) (by omega)
    have es : mxU f (s + 1) = max (mxU f s) (f s) := rfl
    have b1 := mb' s
    have b2 := hf' s
    have e25 : mGa L2 G 25 (nI s).toNatClampNeg = nI (f s) := by rw [ga25, nI_clamp (by omega), h25 s (by omega)]
    show b_Md_grow_149 L2 (f_Md_grow_149 L2 fu) 0 _ (nI s) G = _
    unfold b_Md_grow_149 b_Md_grow_177
    rw [h17, iltn (by omega) (by omega), r041, gl25, if_neg (inb_no (n := s) (by omega) (by omega)), e25, nI_1]
    by_cases q : f s ≤ mxU f s
    · rw [ile q (by omega)]
      rw [es, show max (mxU f s) (f s) = mxU f s by omega] at nx
      exact nx
    · rw [ilen (by omega) (by omega), if_neg (inb_no (n := s) (by omega) (by omega))]
      rw [es, show max (mxU f s) (f s) = f s by omega] at nx
      exact nx
theorem md_grow {G : Mem} {lits : List Nat} {low n : Nat} (h : LH lits low n) (hl : MD G 13 5 lits) (h16 : G 0 16 = nI low) (h17 : G 0 17 = nI n) : ∃ H, f_Md_grow L2 0 G = some (nI (moE lits low n), H) ∧ (∀ s, s ≤ n → H 22 s = nI (totS lits low s) ∧ H 25 s = nI (dpE lits low n s)) ∧ Fm [] [22, 23, 24, 25] G H := by
  obtain ⟨-, -, -, h4, h5, h6, h7⟩ := id h
  obtain ⟨th1, th2⟩ := thr_b h5 h4 h.t0 h.tn
  obtain ⟨A, eA, mA, fA⟩ := mg4 h (n + 1) 0 G mFU (by omega) (by unfold mFU; omega) hl h16 ⟨h17, fun s hs => absurd hs (by omega)⟩
  obtain ⟨B, eB, mB', fB⟩ := mg110 h (thr n (totS lits low) - 1) 0 A mFU (by omega) th2 (by unfold mFU; omega) mA
  rw [show thr n (totS lits low) - 1 + 1 = thr n (totS lits low) by omega] at eB
  have ed := mg149 h5 (f := dpE lits low n) (fun s => by
    have := (jIt_b (n := n) (tot := totS lits low) (thr n (totS lits low) - 1) s).2.1
    show (jIt n (totS lits low) (thr n (totS lits low) - 1)).2.2 s ≤ 20
    omega) mB'.1 (fun s hs => (mB'.2 s (by omega)).2.2.2) (n + 1) 0 mFU (by omega) (by unfold mFU; omega)
  refine ⟨B, ?_, fun s hs => ⟨(mB'.2 s (by omega)).1, (mB'.2 s (by omega)).2.2.2⟩, fA.tr (fB.up (by simp) (by simp))⟩
  unfold f_Md_grow
  rw [l0]
  refine eA.trans ?_
  rw [l1]
  refine eB.trans ?_
  rw [l0]
  exact ed
