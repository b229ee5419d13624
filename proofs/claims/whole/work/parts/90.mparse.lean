/-! pure: CONTENT is divided; the model -/
theorem r00' : mRf L2 0 0 = 1 := rfl
theorem gl1' : mGl L2 1 = 120 := rfl
theorem ga1' (F : Mem) (j : Nat) : mGa L2 F 1 j = F 1 j := if_pos (by decide)
theorem md_run2 {c : List Nat} (hc : c.length ≤ 120) (hby : ∀ b ∈ c, b < 256) {p q : Nat} (hq : q < p) {G : Mem} (hd : MD G 1 1 c) : ∀ (d n fu : Nat), d + n + p = c.length → d < fu → f_Md_run_2 L2 fu 0 (nI q) (nI p) (nI n) G = some (nI (runL c q p d n), G) := by
  intro d
  induction d with
  | zero =>
    intro n fu hd' hf
    obtain ⟨fu, rfl⟩ : ∃ k, fu = k + 1 := ⟨fu - 1, by omega⟩
    show b_Md_run_2 L2 (f_Md_run_2 L2 fu) 0 (nI q) (nI p) (nI n) G = _
    unfold b_Md_run_2 b_Md_run_37
    rw [hd.1, nI_add, ile (by omega) (by omega)]
    rfl
  | succ d ih =>
    intro n fu hd' hf
    obtain ⟨fu, rfl⟩ : ∃ k, fu = k + 1 := ⟨fu - 1, by omega⟩
    show b_Md_run_2 L2 (f_Md_run_2 L2 fu) 0 (nI q) (nI p) (nI n) G = _
    unfold b_Md_run_2 b_Md_run_37
    have eq1 : mGa L2 G 1 (nI (q + n)).toNatClampNeg = nI (c.getD (q + n) 0) := by rw [ga1', nI_clamp (by omega), hd.2 _ (by omega)]
    have eq2 : mGa L2 G 1 (nI (p + n)).toNatClampNeg = nI (c.getD (p + n) 0) := by rw [ga1', nI_clamp (by omega), hd.2 _ (by omega)]
    have y1 := nI_byte hby (q + n)
    have y2 := nI_byte hby (p + n)
    rw [hd.1, nI_add, nI_add, ilen (by omega) (by omega), r00', gl1', if_neg (inb_no (n := q + n) (by omega) (by omega)), if_neg (inb_no (n := p + n) (by omega) (by omega)), eq1, eq2]
    show _ = some (nI (if c.getD (q + n) 0 = c.getD (p + n) 0 then runL c q p d (n + 1) else n), G)
    by_cases q1 : c.getD (q + n) 0 = c.getD (p + n) 0
    · rw [ieq q1, if_pos q1, nI_1]
      exact ih (n + 1) fu (by omega) (by omega)
    · rw [ieqn q1 (by omega) (by omega), if_neg q1]
theorem md_run {c : List Nat} (hc : c.length ≤ 120) (hby : ∀ b ∈ c, b < 256) {p q : Nat} (hq : q < p) (hp : p ≤ c.length) {G : Mem} (hd : MD G 1 1 c) : f_Md_run L2 0 (nI q) (nI p) G = some (nI (runS c q p), G) := md_run2 hc hby hq hd (c.length - p) 0 mFU (by omega) (by unfold mFU; omega)
theorem md_value {G : Mem} {r : N3} (h : MRp G r) (hb : RB r) {y l : Nat} (hy1 : 1 ≤ y) (hy : y < 200) (hl : l < 2 ^ 20) : ∃ H, f_Md_valueOf L2 0 (nI y) (nI l) G = some (nI (valS y l r), H) ∧ MRp H (keepS (valS y l r) l y r) ∧ Fm [] [4] G H := by
  have n0 : (0 : Int32).toNatClampNeg = 0 := rfl
  have n1 : (1 : Int32).toNatClampNeg = 1 := rfl
  have n2 : (2 : Int32).toNatClampNeg = 2 := rfl
  have j0 : ¬ (inb (0 : Int32) 3 ∨ ¬ 4 < mNc L2) := in_w (n := 0) (by decide) (by decide) (by decide)
  have j1 : ¬ (inb (1 : Int32) 3 ∨ ¬ 4 < mNc L2) := in_w (n := 1) (by decide) (by decide) (by decide)
  have j2 : ¬ (inb (2 : Int32) 3 ∨ ¬ 4 < mNc L2) := in_w (n := 2) (by decide) (by decide) (by decide)
  have w := fun v (hv : v < 256) => wayS_le (v := v) (a := l) hb hv
  -- one value tried
  have step : ∀ (v : Nat) (K : Mem) (k26 : Nat → Int32 → Int32 → Int32 → Int32 → Int32 → Int32 → Mem → Option (Int32 × Mem)), 1 ≤ v → v ≤ 3 → MRp K r → Fm [] [4] G K → (wayS v l r = y → ∃ H, b_Md_valueOf_26 L2 k26 0 (nI y) (nI l) (nI r.1) (nI r.2.1) (nI r.2.2) (nI v) K = some (nI v, H) ∧ MRp H (keepS v l y r) ∧ Fm [] [4] G H) ∧ (wayS v l r ≠ y → ∃ K', b_Md_valueOf_26 L2 k26 0 (nI y) (nI l) (nI r.1) (nI r.2.1) (nI r.2.2) (nI v) K = k26 0 (nI y) (nI l) (nI r.1) (nI r.2.1) (nI r.2.2) (nI (v + 1)) K' ∧ MRp K' r ∧ Fm [] [4] G K') := by
    intro v K k26 h1 h3 hK fK
    obtain ⟨A, eA, kA, fA⟩ := md_way hK hb h1 (show v < 256 by omega) hl
    have e4 : ¬ (4 : Int32) ≤ nI v := fun q => absurd ((nI_leI (a := 4) (by omega) (by omega)).mp q) (by omega)
    have wv := w v (by omega)
    unfold b_Md_valueOf_26
    rw [if_neg e4, eA]
    dsimp only [Option.bind_some]
    refine ⟨fun q => ?_, fun q => ?_⟩
    · rw [ieq q]
      rw [q] at kA
      exact ⟨A, rfl, kA, fK.tr fA⟩
    · rw [ieqn q (by omega) (by omega), r010, m4, if_neg j0, ld, if_neg j1, ld, if_neg j2, ld, n0, n1, n2, nI_1]
      refine ⟨_, rfl, ⟨?_, ?_, u2_s⟩, fK.tr (fA.tr (((Fm.uc (by simp) (by decide)).tr (Fm.uc (by simp) (by decide))).tr (Fm.uc (by simp) (by decide))))⟩
      · rw [u2_p (by decide), u2_p (by decide), u2_s]
      · rw [u2_p (by decide), u2_s]
  unfold f_Md_valueOf
  rw [r010, gl4, if_neg (show ¬ inb (0 : Int32) 3 from inb_no (n := 0) (by decide) (by decide)), if_neg (show ¬ inb (1 : Int32) 3 from inb_no (n := 1) (by decide) (by decide)), if_neg (show ¬ inb (2 : Int32) 3 from inb_no (n := 2) (by decide) (by decide)), ga4, ga4, ga4, n0, n1, n2, h.1, h.2.1, h.2.2]
  show ∃ H, b_Md_valueOf_26 L2 (f_Md_valueOf_26 L2 4095) 0 (nI y) (nI l) (nI r.1) (nI r.2.1) (nI r.2.2) (nI 1) G = some (nI (valS y l r), H) ∧ _
  unfold valS
  obtain ⟨a1, a2⟩ := step 1 G (f_Md_valueOf_26 L2 4095) (by decide) (by decide) h Fm.rf
  by_cases q1 : wayS 1 l r = y
  · rw [if_pos q1]
    exact a1 q1
  · rw [if_neg q1]
    obtain ⟨K, eK, hK, fK⟩ := a2 q1
    rw [eK]
    show ∃ H, b_Md_valueOf_26 L2 (f_Md_valueOf_26 L2 4094) 0 (nI y) (nI l) (nI r.1) (nI r.2.1) (nI r.2.2) (nI 2) K = _ ∧ _
    obtain ⟨b1, b2⟩ := step 2 K (f_Md_valueOf_26 L2 4094) (by decide) (by decide) hK fK
    by_cases q2 : wayS 2 l r = y
    · rw [if_pos q2]
      exact b1 q2
    · rw [if_neg q2]
      obtain ⟨M, eM, hM, fM⟩ := b2 q2
      rw [eM]
      show ∃ H, b_Md_valueOf_26 L2 (f_Md_valueOf_26 L2 4093) 0 (nI y) (nI l) (nI r.1) (nI r.2.1) (nI r.2.2) (nI 3) M = _ ∧ _
      obtain ⟨c1, c2⟩ := step 3 M (f_Md_valueOf_26 L2 4093) (by decide) (by decide) hM fM
      by_cases q3 : wayS 3 l r = y
      · rw [if_pos q3]
        exact c1 q3
      · rw [if_neg q3]
        obtain ⟨P, eP, hP, fP⟩ := c2 q3
        rw [eP]
        show ∃ H, b_Md_valueOf_26 L2 (f_Md_valueOf_26 L2 4092) 0 (nI y) (nI l) (nI r.1) (nI r.2.1) (nI r.2.2) (nI 4) P = _ ∧ _
        obtain ⟨A, eA, kA, fA⟩ := md_way hP hb (show 1 ≤ y + 3 by omega) (show y + 3 < 256 by omega) hl
        have ey : wayS (y + 3) l r = y := by
          unfold wayS
          rw [if_pos (by omega)]
          omega
        rw [ey] at kA
        unfold b_Md_valueOf_26
        rw [if_pos (show (4 : Int32) ≤ nI 4 by decide), l3, nI_add, eA]
        exact ⟨A, rfl, kA, fP.tr fA⟩
theorem mp30 {c : List Nat} (hc : c.length ≤ 120) (hby : ∀ b ∈ c, b < 256) {p : Nat} (hp : p < c.length) {G : Mem} (hd : MD G 1 1 c) (x1 : Int32) (k14 : Nat → Int32 → Int32 → Mem → Option Mem) : ∀ (d q fu : Nat), d + q = p → d < fu → f_Md_parse_30 L2 k14 fu 0 x1 (nI p) (nI (bestS c p q).1) (nI (bestS c p q).2) (nI q) G = f_Md_parse_30 L2 k14 1 0 x1 (nI p) (nI (bestS c p p).1) (nI (bestS c p p).2) (nI p) G := by
  intro d
  induction d with
  | zero =>
    intro q fu hd' hf
    obtain ⟨fu, rfl⟩ : ∃ k, fu = k + 1 := ⟨fu - 1, by omega⟩
    obtain rfl : q = p := by omega
    show b_Md_parse_30 L2 k14 (f_Md_parse_30 L2 k14 fu) 0 x1 (nI q) _ _ (nI q) G = b_Md_parse_30 L2 k14 (f_Md_parse_30 L2 k14 0) 0 x1 (nI q) _ _ (nI q) G
    unfold b_Md_parse_30
    rw [ile (by omega) (by omega), ile (by omega) (by omega)]
  | succ d ih =>
    intro q fu hd' hf
    obtain ⟨fu, rfl⟩ : ∃ k, fu = k + 1 := ⟨fu - 1, by omega⟩
    have := ih (q + 1) fu (by omega) (by omega)
    rw [← this]
    obtain ⟨b1, b2, b3⟩ := bestS_b c p q
    have hr := runS_le c q p
    have eb : bestS c p (q + 1) = if (bestS c p q).1 ≤ runS c q p then (runS c q p, q) else bestS c p q := rfl
    show b_Md_parse_30 L2 k14 (f_Md_parse_30 L2 k14 fu) 0 x1 (nI p) _ _ (nI q) G = _
    unfold b_Md_parse_30 b_Md_parse_58 b_Md_parse_72
    rw [ilen (by omega) (by omega), md_run hc hby (by omega) (by omega) hd]
    dsimp only [Option.bind_some]
    rw [nI_1, eb]
    by_cases q1 : (bestS c p q).1 ≤ runS c q p
    · rw [iltn q1 (by omega), if_pos q1]
      by_cases q2 : runS c q p ≤ (bestS c p q).1
      · rw [ile q2 (by omega), show (bestS c p q).1 = runS c q p by omega]
      · rw [ilen (by omega) (by omega)]
    · rw [ilt (by omega) (by omega), if_neg q1, ile (by omega) (by omega)]
theorem MSq.app {G H : Mem} {qs : List N3} {v m a : Nat} (h : MSq G 0 qs) (hv : H 16 qs.length = nI v) (hm : H 17 qs.length = nI m) (ha : H 15 qs.length = nI a) (o : ∀ j, j ≠ qs.length → H 16 j = G 16 j ∧ H 17 j = G 17 j ∧ H 15 j = G 15 j) : MSq H 0 (qs ++ [(v, m, a)]) := by
  intro i hi
  rw [Nat.zero_add, getD_app]
  by_cases e : i < qs.length
  · rw [if_pos e]
    have := h i e
    rw [Nat.zero_add] at this
    obtain ⟨o1, o2, o3⟩ := o i (by omega)
    rw [o1, o2, o3]
    exact this
  · have e' : i = qs.length := by simp at hi; omega
    rw [if_neg e, if_pos e', e']
    exact ⟨hv, hm, ha⟩
theorem md_parse14 {c : List Nat} (hc : c.length ≤ 120) (hby : ∀ b ∈ c, b < 256) : ∀ (k p l : Nat) (G : Mem) (x : PS) (fu : Nat), c.length ≤ p + k → k < fu → PI c p l x → MD G 1 1 c → MD G 13 5 x.1 → G 0 28 = nI x.2.1.length → MSq G 0 x.2.1 → MRp G x.2.2 →
    ∃ H, f_Md_parse_14 L2 fu 0 (nI l) (nI p) G = some H ∧ MD H 13 5 (parseS c k p l x).1 ∧ H 0 28 = nI (parseS c k p l x).2.1.length ∧ MSq H 0 (parseS c k p l x).2.1 ∧ Fm [13, 28] [4, 5, 15, 16, 17] G H := by
  have fin : ∀ (p l : Nat) (G : Mem) (x : PS) (fu : Nat), c.length ≤ p → PI c p l x → MD G 1 1 c → f_Md_parse_14 L2 (fu + 1) 0 (nI l) (nI p) G = some G := fun p l G x fu hp pi hd => by
    show b_Md_parse_14 L2 (f_Md_parse_14 L2 fu) 0 (nI l) (nI p) G = _
    have := pi.1
    unfold b_Md_parse_14
    rw [hd.1, ile hp (by omega)]
  intro k
  induction k with
  | zero =>
    intro p l G x fu hk hf pi hd hl hn hq hr
    obtain ⟨fu, rfl⟩ : ∃ k, fu = k + 1 := ⟨fu - 1, by omega⟩
    exact ⟨G, fin p l G x fu (by omega) pi hd, hl, hn, hq, Fm.rf⟩
  | succ k ih =>
    intro p l G x fu hk hf pi hd hl hn hq hr
    obtain ⟨fu, rfl⟩ : ∃ k, fu = k + 1 := ⟨fu - 1, by omega⟩
    by_cases q0 : c.length ≤ p
    · have es : parseS c (k + 1) p l x = x := by rw [parseS, if_pos q0]
      rw [es]
      exact ⟨G, fin p l G x fu q0 pi hd, hl, hn, hq, Fm.rf⟩
    · obtain ⟨b1, b2, b3⟩ := bestS_b c p p
      have h30 := mp30 hc hby (p := p) (by omega) hd (nI l) (f_Md_parse_14 L2 fu) p 0 mFU (by omega) (by unfold mFU; omega)
      have st : f_Md_parse_14 L2 (fu + 1) 0 (nI l) (nI p) G = b_Md_parse_30 L2 (f_Md_parse_14 L2 fu) (f_Md_parse_30 L2 (f_Md_parse_14 L2 fu) 0) 0 (nI l) (nI p) (nI (bestS c p p).1) (nI (bestS c p p).2) (nI p) G := by
        show b_Md_parse_14 L2 (f_Md_parse_14 L2 fu) 0 (nI l) (nI p) G = _
        unfold b_Md_parse_14
        rw [hd.1, ilen (by omega) (by omega)]
        exact h30
      by_cases q1 : 3 ≤ (bestS c p p).1
      · obtain ⟨pi', c1, c2, c3⟩ := pi.seq hc (by omega) q1
        obtain ⟨v1, v2⟩ := valS_b (p - (bestS c p p).2) l x.2.2
        obtain ⟨n, hn'⟩ : ∃ n, n = x.2.1.length := ⟨_, rfl⟩
        rw [← hn'] at hn c2
        have f1 : Fm [13, 28] [4, 5, 15, 16, 17] G (u2 G 15 n (nI l)) := Fm.uc (by simp) (by decide)
        have f2 : Fm [13, 28] [4, 5, 15, 16, 17] G (u2 (u2 G 15 n (nI l)) 17 n (nI (bestS c p p).1)) := f1.tr (Fm.uc (by simp) (by decide))
        obtain ⟨A, eA, kA, fA⟩ := md_value (G := u2 (u2 G 15 n (nI l)) 17 n (nI (bestS c p p).1)) (r := x.2.2) (by unfold MRp at *; rw [u2_c (by decide), u2_c (by decide), u2_c (by decide), u2_c (by decide), u2_c (by decide), u2_c (by decide)]; exact hr) pi.2.2.2.2.2 (y := p - (bestS c p p).2) (l := l) (by omega) (by omega) (by have := pi.2.2.1; omega)
        obtain ⟨B, hB⟩ : ∃ B, B = u2 (u2 A 16 n (nI (valS (p - (bestS c p p).2) l x.2.2))) 0 28 (nI (n + 1)) := ⟨_, rfl⟩
        have fB : Fm [13, 28] [4, 5, 15, 16, 17] A B := by rw [hB]; exact (Fm.uc (by simp) (by decide)).tr (Fm.us (by simp))
        have fGB : Fm [13, 28] [4, 5, 15, 16, 17] G B := (f2.tr (fA.up (by simp) (by simp))).tr fB
        have rB : MRp B (keepS (valS (p - (bestS c p p).2) l x.2.2) l (p - (bestS c p p).2) x.2.2) := by
          unfold MRp at *
          rw [hB, u2_c (by decide), u2_c (by decide), u2_c (by decide), u2_c (by decide), u2_c (by decide), u2_c (by decide)]
          exact kA
        have aC : ∀ q, q ≠ 0 → q ≠ 4 → A q = (u2 (u2 G 15 n (nI l)) 17 n (nI (bestS c p p).1)) q := fun q h0 h4 => fA.1 q h0 (by simpa using h4)
        have qB : MSq B 0 (x.2.1 ++ [(valS (p - (bestS c p p).2) l x.2.2, (bestS c p p).1, l)]) := by
          refine hq.app ?_ ?_ ?_ (fun j hj => ⟨?_, ?_, ?_⟩)
          · rw [← hn', hB, u2_c (by decide), u2_s]
          · rw [← hn', hB, u2_c (by decide), u2_c (by decide), aC 17 (by decide) (by decide), u2_s]
          · rw [← hn', hB, u2_c (by decide), u2_c (by decide), aC 15 (by decide) (by decide), u2_c (by decide), u2_s]
          · rw [hB, u2_c (by decide), u2_p (by omega), aC 16 (by decide) (by decide), u2_c (by decide), u2_c (by decide)]
          · rw [hB, u2_c (by decide), u2_c (by decide), aC 17 (by decide) (by decide), u2_p (by omega), u2_c (by decide)]
          · rw [hB, u2_c (by decide), u2_c (by decide), aC 15 (by decide) (by decide), u2_c (by decide), u2_p (by omega)]
        have lB : MD B 13 5 x.1 := by
          refine ⟨?_, fun j hj => ?_⟩
          · rw [hB, u2_p (by decide), u2_c (by decide), fA.2 13 (by simp), u2_c (by decide), u2_c (by decide)]
            exact hl.1
          · rw [hB, u2_c (by decide), u2_c (by decide), aC 5 (by decide) (by decide), u2_c (by decide), u2_c (by decide)]
            exact hl.2 j hj
        obtain ⟨H, eH, h1, h2, h3, fH⟩ := ih (p + (bestS c p p).1) 0 B _ fu (by omega) (by omega) pi' (hd.fm fGB (by decide) (by decide) (by decide)) lB (by rw [hB, u2_s, hn']; simp) qB rB
        have es : parseS c (k + 1) p l x = parseS c k (p + (bestS c p p).1) 0 (x.1, x.2.1 ++ [(valS (p - (bestS c p p).2) l x.2.2, (bestS c p p).1, l)], keepS (valS (p - (bestS c p p).2) l x.2.2) l (p - (bestS c p p).2) x.2.2) := by rw [parseS, if_neg q0, if_pos q1]
        rw [es]
        refine ⟨H, ?_, h1, h2, h3, fGB.tr fH⟩
        rw [st]
        unfold b_Md_parse_30 b_Md_parse_172
        rw [ile (by omega) (by omega), if_neg (show ¬ nI (bestS c p p).1 < (3 : Int32) from fun q => absurd ((nI_ltI (b := 3) (by omega) (by omega)).mp q) (by omega)), r029, r030, r031, m15, m16, m17, hn, if_neg (in_w (n := n) (by omega) (by omega) (show 15 < mNc L2 by decide)), ld, u2_c (show (0 : Nat) ≠ 15 by decide), hn, if_neg (in_w (n := n) (by omega) (by omega) (show 17 < mNc L2 by decide)), ld, nI_clamp (by omega), pk_sub (by omega), eA]
        dsimp only [Option.bind_some]
        rw [u2_c (show (0 : Nat) ≠ 17 by decide), u2_c (show (0 : Nat) ≠ 15 by decide), hn, if_neg (in_w (n := n) (by omega) (by omega) (show 16 < mNc L2 by decide)), ld, ld, nI_clamp (by omega), u2_c (show (0 : Nat) ≠ 16 by decide), fA.2 28 (by simp), u2_c (show (0 : Nat) ≠ 17 by decide), u2_c (show (0 : Nat) ≠ 15 by decide), hn, nI_1, nI_add, ← hB]
        exact eH
      · have pi' := pi.lit hby (by omega)
        obtain ⟨d1, f1⟩ := hl.push (by decide) (c.getD p 0)
        obtain ⟨B, hB⟩ : ∃ B, B = u2 (u2 G 5 x.1.length (nI (c.getD p 0))) 0 13 (nI (x.1.length + 1)) := ⟨_, rfl⟩
        rw [← hB] at d1 f1
        obtain ⟨H, eH, h1, h2, h3, fH⟩ := ih (p + 1) (l + 1) B _ fu (by omega) (by omega) pi' (hd.fm f1 (by decide) (by decide) (by decide)) d1 (by rw [f1.2 28 (by decide)]; exact hn) (hq.fm f1 (by decide) (by decide) (by decide)) (by unfold MRp at *; rw [f1.1 4 (by decide) (by decide)]; exact hr)
        have es : parseS c (k + 1) p l x = parseS c k (p + 1) (l + 1) (x.1 ++ [c.getD p 0], x.2) := by rw [parseS, if_neg q0, if_neg q1]
        rw [es]
        refine ⟨H, ?_, h1, h2, h3, (f1.up (by simp) (by simp)).tr fH⟩
        rw [st]
        unfold b_Md_parse_30 b_Md_parse_172
        have hlp := pi.2.1
        rw [ile (by omega) (by omega), if_pos (show nI (bestS c p p).1 < (3 : Int32) from nI_lt (b := 3) (by omega) (by omega)), r00', gl1', r014, m5, if_neg (inb_no (n := p) (by omega) (by omega)), hl.1, if_neg (in_w (n := x.1.length) (by omega) (by omega) (show 5 < mNc L2 by decide)), ld, ld, show mGa L2 G 1 (nI p).toNatClampNeg = nI (c.getD p 0) by rw [ga1', nI_clamp (by omega), hd.2 p (by omega)], nI_clamp (by omega), u2_c (show (0 : Nat) ≠ 5 by decide), hl.1, nI_1, nI_1, nI_1, ← hB]
        exact eH
theorem md_parse {c : List Nat} (hc : c.length ≤ 120) (hby : ∀ b ∈ c, b < 256) {G : Mem} (hd : MD G 1 1 c) (hr : MRp G (1, 4, 8)) : ∃ H, f_Md_parse L2 0 G = some H ∧ MD H 13 5 (parsed c).1 ∧ H 0 28 = nI (parsed c).2.1.length ∧ MSq H 0 (parsed c).2.1 ∧ Fm [13, 28] [4, 5, 15, 16, 17] G H := by
  have f1 : Fm [13, 28] [4, 5, 15, 16, 17] G (u2 (u2 G 0 13 0) 0 28 0) := (Fm.us (by simp)).tr (Fm.us (by simp))
  obtain ⟨H, e, h1, h2, h3, f⟩ := md_parse14 hc hby c.length 0 0 (u2 (u2 G 0 13 0) 0 28 0) ([], [], (1, 4, 8)) mFU (by omega) (by unfold mFU; omega) (pi0 c) (hd.fm f1 (by decide) (by decide) (by decide)) ⟨by rw [u2_p (by decide), u2_s]; rfl, fun j hj => absurd hj (by simp)⟩ (by rw [u2_s]; rfl) (fun i hi => absurd hi (by simp)) (by unfold MRp at *; rw [u2_c (by decide), u2_c (by decide), u2_c (by decide), u2_c (by decide), u2_c (by decide), u2_c (by decide)]; exact hr)
  exact ⟨H, e, h1, h2, h3, f1.tr f⟩
