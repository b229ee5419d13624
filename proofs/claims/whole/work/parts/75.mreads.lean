/-! pure: the model reads all sequences -/
theorem MS.z {G : Mem} {w : List Nat} {p ss bl t : Nat} (h : MS G w p ss bl true t) : MS G w p ss bl true 0 := ⟨h.1, h.2.1, (h.2.1 rfl).sb h.1.2.2.2.2.1⟩
theorem rs291 {G : Mem} {w : List Nat} {p ss bl t : Nat} {ok : Bool} (h : MS G w p ss bl ok t) : ∃ H, b_Md_readSequences_291 L2 0 G = some H ∧ MN H w p (ok && decide (bl = 0)) ∧ Fm [5] [] G H := by
  have bad : b_Md_readSequences_306 L2 0 G = some (u2 G 0 5 1) := by
    unfold b_Md_readSequences_306 b_Md_readSequences_311
    rw [if_neg (fun q => q zb1), ld]
  cases ok with
  | false =>
    refine ⟨u2 G 0 5 1, ?_, h.1.bad, Fm.us (by simp)⟩
    unfold b_Md_readSequences_291
    rw [if_neg h.1.b1, bad]
  | true =>
    obtain ⟨h1, h2, h3⟩ := h
    obtain ⟨s1, s2, s3⟩ := h2 rfl
    have hb : bl ≤ 2000 := by
      have := h1.2.2.2.2.1
      rcases Nat.eq_zero_or_pos bl with q | q
      · omega
      · have := s3 q
        omega
    unfold b_Md_readSequences_291
    rw [if_pos h1.b0, s2]
    by_cases q : bl = 0
    · subst q
      refine ⟨u2 G 0 5 0, ?_, by simpa using h1.set, Fm.us (by simp)⟩
      unfold b_Md_readSequences_311
      rw [if_pos (show nI 0 = (0 : Int32) from rfl), if_neg (fun q => q zb0), ld]
    · refine ⟨u2 G 0 5 1, ?_, by simpa [q] using h1.bad, Fm.us (by simp)⟩
      rw [if_neg (show ¬ nI bl = (0 : Int32) from nne (b := 0) q (by omega) (by omega)), bad]
theorem rs141_bad {G : Mem} {w : List Nat} {p : Nat} (h : MN G w p false) (fu : Nat) (x : Int32) : f_Md_readSequences_141 L2 (fu + 1) 0 x G = some (u2 G 0 5 1) := by
  have e : b_Md_readSequences_291 L2 0 G = some (u2 G 0 5 1) := by
    unfold b_Md_readSequences_291 b_Md_readSequences_306 b_Md_readSequences_311
    rw [if_neg h.b1, if_neg (fun q => q zb1), ld]
  show b_Md_readSequences_141 L2 (f_Md_readSequences_141 L2 fu) 0 x G = _
  unfold b_Md_readSequences_141
  rw [if_neg h.b1, e]
  split <;> rfl
theorem rs_loop {w : List Nat} {p ss n : Nat} {t : T3} (hn : n ≤ 255) : ∀ (d i : Nat) (G : Mem) (bl s0 s1 s2 fu : Nat), d + i = n → d < fu → MS G w p ss bl true 0 → MVs G t (s0, s1, s2, bl) → G 0 28 = nI n →
    ∃ H qs ok', f_Md_readSequences_141 L2 fu 0 (nI i) G = some H ∧ MN H w p ok' ∧ (ok' = true → allS w ss t d (s0, s1, s2, bl) = some (qs, 0) ∧ qs.length = d ∧ MSq H i qs ∧ ∀ q ∈ qs, QB q) ∧ (∀ z, allS w ss t d (s0, s1, s2, bl) = some (z, 0) → ok' = true) ∧ (∀ j, j < i → H 16 j = G 16 j ∧ H 17 j = G 17 j ∧ H 15 j = G 15 j) ∧ Fm [5, 12] [14, 15, 16, 17] G H := by
  intro d
  induction d with
  | zero =>
    intro i G bl s0 s1 s2 fu hd hf h c h28
    obtain ⟨fu, rfl⟩ : ∃ k, fu = k + 1 := ⟨fu - 1, by omega⟩
    obtain ⟨H, e, m, f⟩ := rs291 h
    have fc : ∀ q, q ≠ 0 → H q = G q := fun q h0 => f.1 q h0 (by simp)
    refine ⟨H, [], _, ?_, m, fun o => ?_, fun z hz => ?_, fun j _ => by rw [fc 16 (by decide), fc 17 (by decide), fc 15 (by decide)]; exact ⟨rfl, rfl, rfl⟩, f.up (by simp) (by simp)⟩
    · show b_Md_readSequences_141 L2 (f_Md_readSequences_141 L2 fu) 0 (nI i) G = _
      unfold b_Md_readSequences_141
      rw [h28, ile (by omega) (by omega)]
      exact e
    · have : bl = 0 := by simpa using o
      subst this
      exact ⟨rfl, rfl, fun j hj => absurd hj (by simp), fun q hq => absurd hq (by simp)⟩
    · unfold allS at hz
      injection hz with hz
      injection hz with hz hz2
      have : bl = 0 := hz2
      simp [this]
  | succ d ih =>
    intro i G bl s0 s1 s2 fu hd hf h c h28
    obtain ⟨fu, rfl⟩ : ∃ k, fu = k + 1 := ⟨fu - 1, by omega⟩
    obtain ⟨A, v, m, a, z0, z1, z2, blA, okA, eA, mA, cA, vA, qA, oA, ho, hr, fA⟩ := rs_one (n := n) (i := i) h c (by omega) hn h28 (f_Md_readSequences_141 L2 fu)
    have st : f_Md_readSequences_141 L2 (fu + 1) 0 (nI i) G = f_Md_readSequences_141 L2 fu 0 (nI (i + 1)) A := eA
    have hl : decide (n ≤ i + 1) = decide (d = 0) := by
      by_cases q : d = 0
      · rw [decide_eq_true q, decide_eq_true (by omega)]
      · rw [decide_eq_false q, decide_eq_false (by omega)]
    rw [hl] at ho hr
    cases okA with
    | false =>
      obtain ⟨fu, rfl⟩ : ∃ k, fu = k + 1 := ⟨fu - 1, by omega⟩
      have fb : Fm [5] [] A (u2 A 0 5 1) := Fm.us (by simp)
      refine ⟨u2 A 0 5 1, [], false, by rw [st, rs141_bad mA.1], mA.1.bad, fun o => absurd o (by decide), fun z hz => ?_, fun j hj => ?_, fA.tr (fb.up (by simp) (by simp))⟩
      · rw [all_one] at hz
        cases e : oneS w ss t (decide (d = 0)) (s0, s1, s2, bl) with
        | none => rw [e] at hz; exact absurd hz (by simp)
        | some r => rw [e] at ho; exact absurd ho (by simp)
      · rw [u2_c (by decide), u2_c (by decide), u2_c (by decide)]
        exact oA j (by omega)
    | true =>
      obtain ⟨r, er⟩ := Option.isSome_iff_exists.mp ho.symm
      have := hr r er
      subst this
      obtain ⟨H, qs, ok', e, m1, g1, g2, o2, f2⟩ := ih (i + 1) A blA z0 z1 z2 fu (by omega) (by omega) mA.z cA (by rw [fA.2 28 (by decide)]; exact h28)
      refine ⟨H, (v, m, a) :: qs, ok', st.trans e, m1, fun o => ?_, fun z hz => ?_, fun j hj => ?_, fA.tr f2⟩
      · obtain ⟨k1, k2, k3, k4⟩ := g1 o
        refine ⟨?_, by simp [k2], fun j hj => ?_, fun q hq => ?_⟩
        · rw [all_one, er]
          dsimp only [Option.bind_some]
          rw [k1]
          rfl
        · cases j with
          | zero =>
            simp only [Nat.add_zero, List.getD_cons_zero]
            rw [(o2 i (by omega)).1, (o2 i (by omega)).2.1, (o2 i (by omega)).2.2]
            exact vA
          | succ j =>
            have := k3 j (by simp at hj; omega)
            rw [show i + (j + 1) = i + 1 + j by omega]
            simpa using this
        · rcases List.mem_cons.mp hq with rfl | hq
          · exact qA
          · exact k4 q hq
      · rw [all_one, er] at hz
        dsimp only [Option.bind_some] at hz
        cases e3 : allS w ss t d (z0, z1, z2, blA) with
        | none => rw [e3] at hz; exact absurd hz (by simp)
        | some y =>
          rw [e3] at hz
          dsimp only [Option.bind_some] at hz
          injection hz with hz
          injection hz with hz hz2
          exact g2 y.1 (by rw [e3, ← hz2])
      · obtain ⟨q1, q2, q3⟩ := o2 j (by omega)
        obtain ⟨y1, y2, y3⟩ := oA j (by omega)
        exact ⟨q1.trans y1, q2.trans y2, q3.trans y3⟩
theorem rs97_bad {G : Mem} {w : List Nat} {p : Nat} (h : MN G w p false) (fu : Nat) (x : Int32) : f_Md_readSequences_97 L2 (fu + 1) 0 x G = some (u2 G 0 5 1) := by
  have e : b_Md_readSequences_139 L2 0 G = some (u2 G 0 5 1) := rs141_bad h 4095 0
  show b_Md_readSequences_97 L2 (f_Md_readSequences_97 L2 fu) 0 x G = _
  unfold b_Md_readSequences_97
  rw [if_neg h.b1, e]
  split <;> rfl
theorem rs_first {G : Mem} {w : List Nat} {p ss bl k : Nat} {t : TT} (h : MS G w p ss bl true 0) (hk : k < 3) (c : TMt G k t) (kk : Nat → Int32 → Mem → Option Mem) :
    ∃ v H, b_Md_readSequences_97 L2 kk 0 (nI k) G = kk 0 (nI (k + 1)) H ∧ H 14 k = nI v ∧ v < 2 ^ tsb t ∧ v = nbits w ss bl (tsb t) ∧ MS H w p ss (bl - tsb t) (decide (tsb t ≤ bl)) 1 ∧ (∀ j, j ≠ k → H 14 j = G 14 j) ∧ Fm [5, 12] [14] G H := by
  unfold b_Md_readSequences_97 b_Md_readSequences_132
  have ek : (nI k).toNatClampNeg = k := nI_clamp (by omega)
  rw [if_neg (show ¬ (3 : Int32) ≤ nI k from fun q => absurd ((nI_leI (a := 3) (by omega) (by omega)).mp q) (by omega)), if_pos h.1.b0, r022, r027', m9, m14, if_neg (inb_no (n := k) (by omega) (by omega))]
  cases t with
  | inl c' =>
    have h9 : G 9 k = 1 := c.2.2.2
    have f : Fm [] [14] G (u2 G 14 k (nI 0)) := Fm.uc (by simp) (by decide)
    refine ⟨0, u2 G 14 k (nI 0), ?_, u2_s, Nat.two_pow_pos _, rfl, ?_, fun j hj => u2_p hj, f.up (by simp) (by simp)⟩
    · rw [if_neg (show ¬ G 9 (nI k).toNatClampNeg = 0 by rw [ek, h9]; decide), if_neg (in_w (n := k) (by omega) (by omega) (show 14 < mNc L2 by decide)), ld, nI_1, ek]
      rfl
    · have := h.fm f (by decide) (by decide) (by decide) (by decide) (by decide) (by decide)
      exact ⟨by simpa [tsb] using this.1, fun _ => by simpa [tsb] using this.2.1 rfl, this.2.2.mono (by decide)⟩
  | inr c' =>
    have h9 : G 9 k = 0 := c.2
    obtain ⟨v, A, eA, lA, gA, mA, fA⟩ := ms_take h (by decide) (n := 4) (by decide)
    have f : Fm [] [14] A (u2 A 14 k (nI v)) := Fm.uc (by simp) (by decide)
    refine ⟨v, u2 A 14 k (nI v), ?_, u2_s, lA, gA rfl, ?_, fun j hj => ?_, (fA.up (by simp) (by simp)).tr (f.up (by simp) (by simp))⟩
    · rw [if_pos (show G 9 (nI k).toNatClampNeg = 0 by rw [ek, h9]), l4, eA]
      dsimp only [Option.bind_some]
      rw [if_neg (in_w (n := k) (by omega) (by omega) (show 14 < mNc L2 by decide)), ld, nI_1, ek]
    · have := mA.fm f (by decide) (by decide) (by decide) (by decide) (by decide) (by decide)
      rw [Bool.true_and] at this
      exact this
    · rw [u2_p hj, fA.1 14 (by decide) (by simp)]
def readS (w : List Nat) (lim : Nat) (t : T3) (c p : Nat) : Option (List N3) :=
  if p < lim ∧ w.getD (lim - 1) 0 ≠ 0 then
    (firstS w p t (8 * (lim - p - 1) + Nat.log2 (w.getD (lim - 1) 0))).bind fun s => (allS w p t c s).bind fun z => if z.2 = 0 then some z.1 else none
  else none
theorem str_read (w : List Nat) (lim : Nat) (t : T3) (c p fs fe : Nat) (lits : List Nat) (x : ES) : strS w lim t c p fs fe lits x = (readS w lim t c p).bind fun qs => exsS fs fe lits qs x := by
  unfold strS readS
  split
  · cases firstS w p t (8 * (lim - p - 1) + Nat.log2 (w.getD (lim - 1) 0)) with
    | none => rfl
    | some s =>
      dsimp only [Option.bind_some]
      cases allS w p t c s with
      | none => rfl
      | some z =>
        dsimp only [Option.bind_some]
        split <;> rfl
  · rfl
theorem md_str {G : Mem} {w : List Nat} {p e n : Nat} {ok : Bool} {t : T3} (h : MN G w p ok) (he : e ≤ w.length) (hp : p ≤ e) (hn : n ≤ 255) (c : ok = true → (TMt G 0 t.1 ∧ TMt G 1 t.2.1 ∧ TMt G 2 t.2.2) ∧ TG3 t) (h28 : G 0 28 = nI n) :
    ∃ H p' qs ok', ((f_Md_openStream L2 0 (nI (e - p)) (nI e) G).bind fun F10 => f_Md_readSequences_97 L2 mFU 0 (0 : Int32) F10) = some H ∧ MN H w p' ok' ∧ (ok' = true → ok = true ∧ p' = e ∧ readS w e t n p = some qs ∧ qs.length = n ∧ MSq H 0 qs ∧ ∀ q ∈ qs, QB q) ∧ (ok = true → readS w e t n p ≠ none → ok' = true) ∧ Fm [4, 5, 11, 12] [14, 15, 16, 17] G H := by
  have hw := h.2.2.2.2.1
  obtain ⟨A, eA, mA, fA⟩ := mn_open h (n := e - p) (e := e) (by omega) he
  rw [eA]
  dsimp only [Option.bind_some]
  by_cases q : ok = true ∧ 1 ≤ e - p ∧ p + (e - p) ≤ e ∧ w.getD (p + (e - p) - 1) 0 ≠ 0
  · rw [if_pos q] at mA
    obtain ⟨o, q1, q2, q3⟩ := q
    rw [show p + (e - p) = e by omega] at mA q3
    have q' : p < e ∧ w.getD (e - 1) 0 ≠ 0 := ⟨by omega, q3⟩
    have es : readS w e t n p = (firstS w p t (8 * (e - p - 1) + Nat.log2 (w.getD (e - 1) 0))).bind fun s => (allS w p t n s).bind fun z => if z.2 = 0 then some z.1 else none := if_pos q'
    obtain ⟨bl, hbl⟩ : ∃ b, b = 8 * (e - p - 1) + Nat.log2 (w.getD (e - 1) 0) := ⟨_, rfl⟩
    rw [← hbl] at mA es
    obtain ⟨⟨c0, c1, c2⟩, g0, g1, g2⟩ := c o
    have n9 : ∀ q, 9 ≤ q → q ≤ 12 → q ∉ ([] : List Nat) := by simp
    have n14 : ∀ q, 9 ≤ q → q ≤ 12 → q ∉ [14] := by simp; omega
    have msA : MS A w e p bl true 0 := ⟨mA.1, fun _ => mA.2, mA.2.sb hw⟩
    have a0 := c0.fm fA n9
    have a1 := c1.fm fA n9
    have a2 := c2.fm fA n9
    -- refused at some first state
    have bad : ∀ (B : Mem) (fu : Nat) (x : Int32), MN B w e false → Fm [4, 5, 11, 12] [14, 15, 16, 17] G B → readS w e t n p = none → ∃ H p' qs ok', f_Md_readSequences_97 L2 (fu + 1) 0 x B = some H ∧ MN H w p' ok' ∧ (ok' = true → ok = true ∧ p' = e ∧ readS w e t n p = some qs ∧ qs.length = n ∧ MSq H 0 qs ∧ ∀ q ∈ qs, QB q) ∧ (ok = true → readS w e t n p ≠ none → ok' = true) ∧ Fm [4, 5, 11, 12] [14, 15, 16, 17] G H := by
      intro B fu x k f en
      exact ⟨u2 B 0 5 1, e, [], false, rs97_bad k fu x, k.bad, fun q => absurd q (by decide), fun _ q => absurd en q, f.tr (Fm.us (by simp))⟩
    obtain ⟨v0, B, eB, sB, lB, nB, mB, oB, fB⟩ := rs_first msA (k := 0) (by decide) a0 (f_Md_readSequences_97 L2 4095)
    have fGB : Fm [4, 5, 11, 12] [14, 15, 16, 17] G B := (fA.up (by simp) (by simp)).tr (fB.up (by simp) (by simp))
    have st0 : f_Md_readSequences_97 L2 mFU 0 (0 : Int32) A = f_Md_readSequences_97 L2 4095 0 (nI 1) B := eB
    rw [st0]
    by_cases q0 : tsb t.1 ≤ bl
    · rw [decide_eq_true q0] at mB
      obtain ⟨v1, C, eC, sC, lC, nC, mC, oC, fC⟩ := rs_first mB.z (k := 1) (by decide) (a1.fm fB n14) (f_Md_readSequences_97 L2 4094)
      have fGC : Fm [4, 5, 11, 12] [14, 15, 16, 17] G C := fGB.tr (fC.up (by simp) (by simp))
      have st1 : f_Md_readSequences_97 L2 4095 0 (nI 1) B = f_Md_readSequences_97 L2 4094 0 (nI 2) C := eC
      rw [st1]
      by_cases q1 : tsb t.2.1 ≤ bl - tsb t.1
      · rw [decide_eq_true q1] at mC
        obtain ⟨v2, D, eD, sD, lD, nD, mD, oD, fD⟩ := rs_first mC.z (k := 2) (by decide) ((a2.fm fB n14).fm fC n14) (f_Md_readSequences_97 L2 4093)
        have fGD : Fm [4, 5, 11, 12] [14, 15, 16, 17] G D := fGC.tr (fD.up (by simp) (by simp))
        have st2 : f_Md_readSequences_97 L2 4094 0 (nI 2) C = f_Md_readSequences_97 L2 4093 0 (nI 3) D := eD
        rw [st2]
        by_cases q2 : tsb t.2.2 ≤ bl - tsb t.1 - tsb t.2.1
        · rw [decide_eq_true q2] at mD
          have ef : firstS w p t bl = some (v0, v1, v2, bl - tsb t.1 - tsb t.2.1 - tsb t.2.2) := by
            unfold firstS tk
            rw [if_pos q0]
            dsimp only [Option.bind_some]
            rw [if_pos q1]
            dsimp only [Option.bind_some]
            rw [if_pos q2]
            dsimp only [Option.bind_some]
            rw [nB, nC, nD]
          have cD : MVs D t (v0, v1, v2, bl - tsb t.1 - tsb t.2.1 - tsb t.2.2) := ⟨⟨((a0.fm fB n14).fm fC n14).fm fD n14, g0, by rw [oD 0 (by decide), oC 0 (by decide)]; exact sB, tsb_ok lB⟩, ⟨((a1.fm fB n14).fm fC n14).fm fD n14, g1, by rw [oD 1 (by decide)]; exact sC, tsb_ok lC⟩, ⟨((a2.fm fB n14).fm fC n14).fm fD n14, g2, sD, tsb_ok lD⟩⟩
          obtain ⟨K, qs, okK, eK, mK, k1, k2, oK, fK⟩ := rs_loop (n := n) hn n 0 D _ v0 v1 v2 mFU (by omega) (by unfold mFU; omega) mD.z cD (by rw [fGD.2 28 (by decide)]; exact h28)
          refine ⟨K, e, qs, okK, ?_, mK, fun o2 => ?_, fun _ hs => ?_, fGD.tr (fK.up (by simp) (by simp))⟩
          · show b_Md_readSequences_97 L2 (f_Md_readSequences_97 L2 4092) 0 (nI 3) D = _
            unfold b_Md_readSequences_97 b_Md_readSequences_139
            rw [if_pos (show (3 : Int32) ≤ nI 3 by decide)]
            exact eK
          · obtain ⟨j1, j2, j3, j4⟩ := k1 o2
            refine ⟨o, rfl, ?_, j2, j3, j4⟩
            rw [es, ef]
            dsimp only [Option.bind_some]
            rw [j1]
            rfl
          · rw [es, ef] at hs
            dsimp only [Option.bind_some] at hs
            cases e3 : allS w p t n (v0, v1, v2, bl - tsb t.1 - tsb t.2.1 - tsb t.2.2) with
            | none => rw [e3] at hs; exact absurd rfl hs
            | some z =>
              rw [e3] at hs
              dsimp only [Option.bind_some] at hs
              by_cases hz : z.2 = 0
              · exact k2 z.1 (by rw [e3, ← hz])
              · rw [if_neg hz] at hs
                exact absurd rfl hs
        · rw [decide_eq_false q2] at mD
          refine bad D 4092 (nI 3) mD.1 fGD ?_
          rw [es]
          unfold firstS tk
          rw [if_pos q0]
          dsimp only [Option.bind_some]
          rw [if_pos q1]
          dsimp only [Option.bind_some]
          rw [if_neg q2]
          rfl
      · rw [decide_eq_false q1] at mC
        refine bad C 4093 (nI 2) mC.1 fGC ?_
        rw [es]
        unfold firstS tk
        rw [if_pos q0]
        dsimp only [Option.bind_some]
        rw [if_neg q1]
        rfl
    · rw [decide_eq_false q0] at mB
      refine bad B 4094 (nI 1) mB.1 fGB ?_
      rw [es]
      unfold firstS tk
      rw [if_neg q0]
      rfl
  · rw [if_neg q] at mA
    obtain ⟨⟨p', hp', mA⟩, sA⟩ := mA
    refine ⟨u2 A 0 5 1, p', [], false, rs97_bad mA 4095 0, mA.bad, fun o => absurd o (by decide), fun o hs => ?_, (fA.up (by simp) (by simp)).tr (Fm.us (by simp))⟩
    unfold readS at hs
    rw [if_neg (fun q' => q ⟨o, by omega, by omega, by rw [show p + (e - p) = e by omega]; exact q'.2⟩)] at hs
    exact absurd rfl hs
