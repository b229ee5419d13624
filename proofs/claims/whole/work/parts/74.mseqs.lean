/-! pure: the model reads the sequences -/
theorem SB.mono {G : Mem} {w : List Nat} {t t' : Nat} (h : SB G w t) (ht : t ≤ t') : SB G w t' := by
  obtain ⟨ss, bl, m, h1, h2, h3, h4, h5⟩ := h
  exact ⟨ss, bl, m, h1, h2, h3, by omega, h5⟩
/-- the model's stream, sound or not -/
def MS (G : Mem) (w : List Nat) (p ss bl : Nat) (ok : Bool) (t : Nat) : Prop := MN G w p ok ∧ (ok = true → SM G w ss bl) ∧ SB G w t
theorem MS.fm {G H : Mem} {w : List Nat} {p ss bl t : Nat} {ok : Bool} {sl cs : List Nat} (h : MS G w p ss bl ok t) (f : Fm sl cs G H) (h3 : 3 ∉ sl) (h4 : 4 ∉ sl) (h5 : 5 ∉ sl) (h11 : 11 ∉ sl) (h12 : 12 ∉ sl) (h2 : 2 ∉ cs) : MS H w p ss bl ok t := ⟨h.1.fm f h3 h4 h5 h2, fun o => (h.2.1 o).fm f h11 h12, h.2.2.fm f h11 h12⟩
theorem ms_take {G : Mem} {w : List Nat} {p ss bl t n : Nat} {ok : Bool} (h : MS G w p ss bl ok t) (ht : t ≤ 1000) (hn : n ≤ 16) : ∃ v H, f_Md_take L2 0 (nI n) G = some (nI v, H) ∧ v < 2 ^ n ∧ (ok = true → v = nbits w ss bl n) ∧ MS H w p ss (bl - n) (ok && decide (n ≤ bl)) (t + 1) ∧ Fm [5, 12] [] G H := by
  obtain ⟨h1, h2, h3⟩ := h
  obtain ⟨v, H, ok', hv, e, m1, o1, s1, f⟩ := mn_take h1 h3 ht hn
  cases ok with
  | false =>
    have : ok' = false := by cases ok' with | false => rfl | true => exact absurd (o1 rfl) (by decide)
    subst this
    exact ⟨v, H, e, hv, fun q => absurd q (by decide), ⟨by simpa using m1, fun q => absurd q (by simp), s1⟩, f⟩
  | true =>
    obtain ⟨H', e', c', f'⟩ := mn_takeG h1 (h2 rfl) hn
    have e2 := e.symm.trans e'
    injection e2 with e2
    injection e2 with e2 e3
    subst e3
    refine ⟨nbits w ss bl n, H, by rw [e, e2], nbits_lt _ _ _ _, fun _ => rfl, ?_, f⟩
    by_cases q : n ≤ bl
    · rw [if_pos q] at c'
      exact ⟨by simpa [q] using c'.1, fun _ => c'.2, s1⟩
    · rw [if_neg q] at c'
      exact ⟨by simpa [q] using c'.1, fun o => absurd o (by simp [q]), s1⟩
def MV (G : Mem) (k most : Nat) (t : TT) (s : Nat) : Prop := TMt G k t ∧ TG most t ∧ G 14 k = nI s ∧ ts0 t s
theorem TMt.fm {G H : Mem} {k : Nat} {t : TT} {sl cs : List Nat} (h : TMt G k t) (f : Fm sl cs G H) (n : ∀ q, 9 ≤ q → q ≤ 12 → q ∉ cs) : TMt H k t := by
  unfold TMt TM at *
  rw [f.1 9 (by decide) (n 9 (by decide) (by decide)), f.1 10 (by decide) (n 10 (by decide) (by decide)), f.1 11 (by decide) (n 11 (by decide) (by decide)), f.1 12 (by decide) (n 12 (by decide) (by decide))]
  exact h
theorem TMt.co {G : Mem} {k most : Nat} {t : TT} (h : TMt G k t) (g : TG most t) {s : Nat} (hs : ts0 t s) : G 10 (16 * k + s) = nI (tco t s) ∧ G 11 (16 * k + s) = nI (twi t s) ∧ G 12 (16 * k + s) = nI (tba t s) := by
  cases t with
  | inl c =>
    obtain rfl : s = 0 := hs
    exact ⟨h.1, h.2.1, h.2.2.1⟩
  | inr c =>
    obtain ⟨b1, b2⟩ := tx_b g.1 g.2.1 hs
    obtain ⟨q1, q2, q3⟩ := h.1 s hs
    exact ⟨q1, q2, by rw [q3, bs_nI b1 b2]; rfl⟩
theorem MV.fm {G H : Mem} {k most s : Nat} {t : TT} {sl cs : List Nat} (h : MV G k most t s) (f : Fm sl cs G H) (n : ∀ q, 9 ≤ q → q ≤ 12 → q ∉ cs) (n14 : 14 ∉ cs) : MV H k most t s := ⟨h.1.fm f n, h.2.1, by rw [f.1 14 (by decide) n14]; exact h.2.2.1, h.2.2.2⟩
theorem r027' : mRf L2 0 27 = 14 := rfl
theorem m14 : mLn L2 14 = 3 := rfl
theorem gl14 : mGl L2 14 = 3 := rfl
theorem gl10 : mGl L2 10 = 48 := rfl
theorem gl11 : mGl L2 11 = 48 := rfl
theorem gl12 : mGl L2 12 = 48 := rfl
theorem ga14 (F : Mem) (j : Nat) : mGa L2 F 14 j = F 14 j := if_pos (by decide)
theorem ga10 (F : Mem) (j : Nat) : mGa L2 F 10 j = F 10 j := if_pos (by decide)
theorem ga11 (F : Mem) (j : Nat) : mGa L2 F 11 j = F 11 j := if_pos (by decide)
theorem ga12 (F : Mem) (j : Nat) : mGa L2 F 12 j = F 12 j := if_pos (by decide)
theorem md_step {G : Mem} {w : List Nat} {p ss bl t0 k most s : Nat} {ok : Bool} {t : TT} (h : MS G w p ss bl ok t0) (ht : t0 ≤ 1000) (hk : k < 3) (c : MV G k most t s) : ∃ v H, f_Md_step L2 0 (nI k) G = some H ∧ MV H k most t (tba t s + v) ∧ (∀ j, j ≠ k → H 14 j = G 14 j) ∧ (ok = true → v = nbits w ss bl (twi t s)) ∧ MS H w p ss (bl - twi t s) (ok && decide (twi t s ≤ bl)) (t0 + 1) ∧ Fm [5, 12] [14] G H := by
  obtain ⟨c1, c2, c3, c4⟩ := id c
  obtain ⟨q1, q2, q3⟩ := c1.co c2 c4
  have hs := ts0_lt c4
  have hw := c2.wi s
  obtain ⟨v, A, e, hv, hn, m1, f⟩ := ms_take h ht (n := twi t s) (by omega)
  have f2 : Fm [] [14] A (u2 A 14 k (nI (tba t s + v))) := Fm.uc (by simp) (by decide)
  obtain ⟨g1, g2⟩ := c2.go c4 hv
  refine ⟨v, u2 A 14 k (nI (tba t s + v)), ?_, ⟨(c1.fm f (by simp)).fm f2 (by simp; omega), c2, u2_s, g1⟩, fun j hj => ?_, hn, m1.fm f2 (by decide) (by decide) (by decide) (by decide) (by decide) (by decide), (f.up (by simp) (by simp)).tr (f2.up (by simp) (by simp))⟩
  · unfold f_Md_step
    have ej : (16 : Int32) * nI k + mGa L2 G 14 (nI k).toNatClampNeg = nI (16 * k + s) := by rw [ga14, nI_clamp (by omega), c3, l16, pk_mul, nI_add]
    rw [r027', r025, r024, gl14, gl12, gl11, m14, if_neg (inb_no (n := k) (by omega) (by omega)), ej, if_neg (inb_no (by omega) (by omega)), if_neg (inb_no (by omega) (by omega)), ga11, nI_clamp (n := 16 * k + s) (by omega), q2, e]
    dsimp only [Option.bind_some]
    rw [if_neg (in_w (n := k) (by omega) (by omega) (show 14 < mNc L2 by decide)), ga12, q3, nI_add, ld, nI_clamp (n := k) (by omega)]
  · rw [u2_p hj, f.1 14 (by decide) (by simp)]
/-- a sequence and, but behind the last one, the states of the next -/
def oneS (w : List Nat) (ss : Nat) (t : T3) (last : Bool) (s : N4) : Option (N3 × N4) := (seqS w ss t s).bind fun q => if last = true then some q else (nextS w ss t q.2).bind fun s' => some (q.1, s')
theorem all_one (w : List Nat) (ss : Nat) (t : T3) (n : Nat) (s : N4) : allS w ss t (n + 1) s = (oneS w ss t (decide (n = 0)) s).bind fun q => (allS w ss t n q.2).bind fun z => some (q.1 :: z.1, z.2) := by
  show ((seqS w ss t s).bind fun q => (restS w ss t n q.2).bind fun z => some (q.1 :: z.1, z.2)) = _
  unfold oneS
  cases seqS w ss t s with
  | none => rfl
  | some q =>
    cases n with
    | zero => rfl
    | succ n =>
      dsimp only [Option.bind_some]
      rw [rest_succ, if_neg (by simp)]
      cases nextS w ss t q.2 <;> rfl
def MVs (G : Mem) (t : T3) (s : N4) : Prop := MV G 0 12 t.1 s.1 ∧ MV G 1 8 t.2.1 s.2.1 ∧ MV G 2 12 t.2.2 s.2.2.1
theorem MVs.fm {G H : Mem} {t : T3} {s : N4} {sl cs : List Nat} (h : MVs G t s) (f : Fm sl cs G H) (n : ∀ q, 9 ≤ q → q ≤ 14 → q ∉ cs) : MVs H t s :=
  have n' : ∀ q, 9 ≤ q → q ≤ 12 → q ∉ cs := fun q h1 h2 => n q h1 (by omega)
  ⟨h.1.fm f n' (n 14 (by decide) (by decide)), h.2.1.fm f n' (n 14 (by decide) (by decide)), h.2.2.fm f n' (n 14 (by decide) (by decide))⟩
theorem md_mB {c : Nat} (hc : c < 12) (F : Mem) : f_Md_matchBase L2 (nI c) F = some (nI (mB c), F) ∧ f_Md_matchBits L2 (nI c) F = some (nI (mb c), F) ∧ f_Md_aheadBase L2 (nI c) F = some (nI (aB c), F) ∧ f_Md_aheadBits L2 (nI c) F = some (nI (ab c), F) := by
  unfold f_Md_matchBase f_Md_matchBits f_Md_aheadBase f_Md_aheadBits b_Md_matchBase_47 b_Md_matchBits_25 b_Md_aheadBase_45 b_Md_aheadBits_32
  have : c = 0 ∨ c = 1 ∨ c = 2 ∨ c = 3 ∨ c = 4 ∨ c = 5 ∨ c = 6 ∨ c = 7 ∨ c = 8 ∨ c = 9 ∨ c = 10 ∨ c = 11 := by omega
  rcases this with rfl | rfl | rfl | rfl | rfl | rfl | rfl | rfl | rfl | rfl | rfl | rfl <;> exact ⟨rfl, rfl, rfl, rfl⟩
theorem m15 : mLn L2 15 = 255 := rfl
theorem m16 : mLn L2 16 = 255 := rfl
theorem m17 : mLn L2 17 = 255 := rfl
theorem rs_one {G : Mem} {w : List Nat} {p ss bl s0 s1 s2 n i : Nat} {t : T3} (h : MS G w p ss bl true 0) (c : MVs G t (s0, s1, s2, bl)) (hi : i < n) (hn : n ≤ 255) (h28 : G 0 28 = nI n) (kk : Nat → Int32 → Mem → Option Mem) :
    ∃ H v m a z0 z1 z2 bl' ok', b_Md_readSequences_141 L2 kk 0 (nI i) G = kk 0 (nI (i + 1)) H ∧ MS H w p ss bl' ok' 6 ∧ MVs H t (z0, z1, z2, bl') ∧ (H 16 i = nI v ∧ H 17 i = nI m ∧ H 15 i = nI a) ∧ QB (v, m, a) ∧ (∀ j, j ≠ i → H 16 j = G 16 j ∧ H 17 j = G 17 j ∧ H 15 j = G 15 j) ∧ ok' = (oneS w ss t (decide (n ≤ i + 1)) (s0, s1, s2, bl)).isSome ∧ (∀ r, oneS w ss t (decide (n ≤ i + 1)) (s0, s1, s2, bl) = some r → r = ((v, m, a), (z0, z1, z2, bl'))) ∧ Fm [5, 12] [14, 15, 16, 17] G H := by
  obtain ⟨c0, c1, c2⟩ := id c
  have w0 := c0.2.1.co c0.2.2.2
  have w1 := c1.2.1.co c1.2.2.2
  have w2 := c2.2.1.co c2.2.2.2
  dsimp only at c0 c1 c2 w0 w1 w2
  have b0 := mb_le _ w0
  have b2 := mb_le _ w2
  have y0 := ts0_lt c0.2.2.2
  have y1 := ts0_lt c1.2.2.2
  have y2 := ts0_lt c2.2.2.2
  have nn : ∀ q, 9 ≤ q → q ≤ 14 → q ∉ ([] : List Nat) := by simp
  -- the value
  obtain ⟨vA, A, eA, lA, gA, mA, fA⟩ := ms_take h (by decide) (n := tco t.2.1 s1) (by omega)
  have ei : (nI i).toNatClampNeg = i := nI_clamp (by omega)
  obtain ⟨A', kA'⟩ : ∃ A', A' = u2 A 16 (nI i).toNatClampNeg (nI (2 ^ tco t.2.1 s1 + vA)) := ⟨_, rfl⟩
  have hA' : A' = u2 A 16 i (nI (2 ^ tco t.2.1 s1 + vA)) := by rw [kA', ei]
  have fA' : Fm [] [16] A A' := by rw [hA']; exact Fm.uc (by simp) (by decide)
  have mA' := mA.fm fA' (by decide) (by decide) (by decide) (by decide) (by decide) (by decide)
  have cA : MVs A' t (s0, s1, s2, bl) := (c.fm fA nn).fm fA' (by simp; omega)
  -- the match
  obtain ⟨vB, B, eB, lB, gB, mB', fB⟩ := ms_take mA' (by decide) (n := mb (tco t.2.2 s2)) (by omega)
  obtain ⟨B', kB'⟩ : ∃ B', B' = u2 B 17 (nI i).toNatClampNeg (nI (mB (tco t.2.2 s2) + vB)) := ⟨_, rfl⟩
  have hB' : B' = u2 B 17 i (nI (mB (tco t.2.2 s2) + vB)) := by rw [kB', ei]
  have fB' : Fm [] [17] B B' := by rw [hB']; exact Fm.uc (by simp) (by decide)
  have mB'' := mB'.fm fB' (by decide) (by decide) (by decide) (by decide) (by decide) (by decide)
  have cB : MVs B' t (s0, s1, s2, bl) := (cA.fm fB nn).fm fB' (by simp; omega)
  -- the literals ahead
  obtain ⟨vC, C, eC, lC, gC, mC, fC⟩ := ms_take mB'' (by decide) (n := ab (tco t.1 s0)) (by omega)
  obtain ⟨C', kC'⟩ : ∃ C', C' = u2 C 15 (nI i).toNatClampNeg (nI (aB (tco t.1 s0) + vC)) := ⟨_, rfl⟩
  have hC' : C' = u2 C 15 i (nI (aB (tco t.1 s0) + vC)) := by rw [kC', ei]
  have fC' : Fm [] [15] C C' := by rw [hC']; exact Fm.uc (by simp) (by decide)
  have mC' := mC.fm fC' (by decide) (by decide) (by decide) (by decide) (by decide) (by decide)
  have cC : MVs C' t (s0, s1, s2, bl) := (cB.fm fC nn).fm fC' (by simp; omega)
  have pA : 2 ^ tco t.2.1 s1 ≤ 2 ^ 7 := Nat.pow_le_pow_right (by decide) (by omega)
  have pA1 : 0 < 2 ^ tco t.2.1 s1 := Nat.two_pow_pos _
  have fGC : Fm [5, 12] [14, 15, 16, 17] G C' := ((((((fA.up (by simp) (by simp)).tr (fA'.up (by simp) (by simp))).tr (fB.up (by simp) (by simp))).tr (fB'.up (by simp) (by simp))).tr (fC.up (by simp) (by simp))).tr (fC'.up (by simp) (by simp)))
  have v16 : C' 16 i = nI (2 ^ tco t.2.1 s1 + vA) := by
    rw [fC'.1 16 (by decide) (by decide), fC.1 16 (by decide) (by decide), fB'.1 16 (by decide) (by decide), fB.1 16 (by decide) (by decide), hA', u2_s]
  have v17 : C' 17 i = nI (mB (tco t.2.2 s2) + vB) := by
    rw [fC'.1 17 (by decide) (by decide), fC.1 17 (by decide) (by decide), hB', u2_s]
  have v15 : C' 15 i = nI (aB (tco t.1 s0) + vC) := by rw [hC', u2_s]
  have oth : ∀ j, j ≠ i → C' 16 j = G 16 j ∧ C' 17 j = G 17 j ∧ C' 15 j = G 15 j := fun j hj => by
    refine ⟨?_, ?_, ?_⟩
    · rw [fC'.1 16 (by decide) (by decide), fC.1 16 (by decide) (by decide), fB'.1 16 (by decide) (by decide), fB.1 16 (by decide) (by decide), hA', u2_p hj, fA.1 16 (by decide) (by decide)]
    · rw [fC'.1 17 (by decide) (by decide), fC.1 17 (by decide) (by decide), hB', u2_p hj, fB.1 17 (by decide) (by decide), fA'.1 17 (by decide) (by decide), fA.1 17 (by decide) (by decide)]
    · rw [hC', u2_p hj, fC.1 15 (by decide) (by decide), fB'.1 15 (by decide) (by decide), fB.1 15 (by decide) (by decide), fA'.1 15 (by decide) (by decide), fA.1 15 (by decide) (by decide)]
  have qb : QB (2 ^ tco t.2.1 s1 + vA, mB (tco t.2.2 s2) + vB, aB (tco t.1 s0) + vC) := ⟨by omega, by dsimp only; omega, by dsimp only; omega, by dsimp only; omega, by dsimp only; omega⟩
  -- what was read
  obtain ⟨okC, hokC⟩ : ∃ o, o = (true && decide (tco t.2.1 s1 ≤ bl) && decide (mb (tco t.2.2 s2) ≤ bl - tco t.2.1 s1) && decide (ab (tco t.1 s0) ≤ bl - tco t.2.1 s1 - mb (tco t.2.2 s2))) := ⟨_, rfl⟩
  rw [← hokC] at mC'
  obtain ⟨blC, hblC⟩ : ∃ b, b = bl - tco t.2.1 s1 - mb (tco t.2.2 s2) - ab (tco t.1 s0) := ⟨_, rfl⟩
  rw [← hblC] at mC'
  have es : seqS w ss t (s0, s1, s2, bl) = if okC = true then some ((2 ^ tco t.2.1 s1 + vA, mB (tco t.2.2 s2) + vB, aB (tco t.1 s0) + vC), (s0, s1, s2, blC)) else none := by
    unfold seqS tk
    dsimp only
    by_cases q1 : tco t.2.1 s1 ≤ bl
    · by_cases q2 : mb (tco t.2.2 s2) ≤ bl - tco t.2.1 s1
      · by_cases q3 : ab (tco t.1 s0) ≤ bl - tco t.2.1 s1 - mb (tco t.2.2 s2)
        · rw [if_pos q1]
          dsimp only [Option.bind_some]
          rw [if_pos q2]
          dsimp only [Option.bind_some]
          rw [if_pos q3]
          dsimp only [Option.bind_some]
          rw [show okC = true by rw [hokC]; simp [q1, q2, q3], if_pos rfl, gA rfl, gB (by simp [q1]), gC (by simp [q1, q2]), hblC]
        · rw [show okC = false by rw [hokC]; simp [q3]]
          rw [if_pos q1]
          dsimp only [Option.bind_some]
          rw [if_pos q2]
          dsimp only [Option.bind_some]
          rw [if_neg q3]
          rfl
      · rw [show okC = false by rw [hokC]; simp [q2]]
        rw [if_pos q1]
        dsimp only [Option.bind_some]
        rw [if_neg q2]
        rfl
    · rw [show okC = false by rw [hokC]; simp [q1], if_neg q1]
      rfl
  obtain ⟨t10, -, -⟩ := c1.1.co c1.2.1 c1.2.2.2
  obtain ⟨t20, -, -⟩ := cA.2.2.1.co cA.2.2.2.1 cA.2.2.2.2.2
  obtain ⟨t00, -, -⟩ := cB.1.1.co cB.1.2.1 cB.1.2.2.2
  dsimp only at t10 t20 t00
  rw [Nat.mul_one] at t10
  rw [Nat.mul_zero, Nat.zero_add] at t00
  have n0 : (0 : Int32).toNatClampNeg = 0 := rfl
  have n1 : (1 : Int32).toNatClampNeg = 1 := rfl
  have n2 : (2 : Int32).toNatClampNeg = 2 := rfl
  have g14 : G 14 1 = nI s1 := c1.2.2.1
  have gA14 : A' 14 2 = nI s2 := cA.2.2.2.2.1
  have gB14 : B' 14 0 = nI s0 := cB.1.2.2.1
  have h28C : C' 0 28 = nI n := by rw [fGC.2 28 (by decide)]; exact h28
  unfold b_Md_readSequences_141 b_Md_readSequences_285
  rw [h28, ilen hi (by omega), if_pos h.1.b0, r027', r023, r030, r031, r029, gl14, gl10, m16, m17, m15, if_neg (show ¬ inb (1 : Int32) 3 from inb_no (n := 1) (by decide) (by decide)), show ((16 : Int32) + mGa L2 G 14 (1 : Int32).toNatClampNeg) = nI (16 + s1) by rw [ga14, n1, g14, l16, nI_add], if_neg (inb_no (n := 16 + s1) (by omega) (by omega)), show mGa L2 G 10 (nI (16 + s1)).toNatClampNeg = nI (tco t.2.1 s1) by rw [ga10, nI_clamp (by omega), t10], eA]
  dsimp only [Option.bind_some]
  rw [if_neg (in_w (n := i) (by omega) (by omega) (show 16 < mNc L2 by decide)), ld, show jshl (1 : Int32) (nI (tco t.2.1 s1)) = nI (2 ^ tco t.2.1 s1) by rw [l1, jshl_n (by omega) (by omega), Nat.one_mul], nI_add, ← kA', if_neg (show ¬ inb (2 : Int32) 3 from inb_no (n := 2) (by decide) (by decide)), show ((32 : Int32) + mGa L2 A' 14 (2 : Int32).toNatClampNeg) = nI (16 * 2 + s2) by rw [ga14, n2, gA14, l32, nI_add], if_neg (inb_no (n := 16 * 2 + s2) (by omega) (by omega)), show mGa L2 A' 10 (nI (16 * 2 + s2)).toNatClampNeg = nI (tco t.2.2 s2) by rw [ga10, nI_clamp (by omega), t20], (md_mB w2 A').1]
  dsimp only [Option.bind_some]
  rw [(md_mB w2 A').2.1]
  dsimp only [Option.bind_some]
  rw [eB]
  dsimp only [Option.bind_some]
  rw [if_neg (in_w (n := i) (by omega) (by omega) (show 17 < mNc L2 by decide)), ld, nI_add, ← kB', if_neg (show ¬ inb (0 : Int32) 3 from inb_no (n := 0) (by decide) (by decide)), show mGa L2 B' 14 (0 : Int32).toNatClampNeg = nI s0 by rw [ga14, n0, gB14], if_neg (inb_no (n := s0) (by omega) (by omega)), show mGa L2 B' 10 (nI s0).toNatClampNeg = nI (tco t.1 s0) by rw [ga10, nI_clamp (by omega), t00], (md_mB w0 B').2.2.1]
  dsimp only [Option.bind_some]
  rw [(md_mB w0 B').2.2.2]
  dsimp only [Option.bind_some]
  rw [eC]
  dsimp only [Option.bind_some]
  rw [if_neg (in_w (n := i) (by omega) (by omega) (show 15 < mNc L2 by decide)), ld, nI_add, ← kC', h28C, nI_1]
  by_cases hl : n ≤ i + 1
  · rw [ile hl (by omega), decide_eq_true hl]
    have eo : oneS w ss t true (s0, s1, s2, bl) = if okC = true then some ((2 ^ tco t.2.1 s1 + vA, mB (tco t.2.2 s2) + vB, aB (tco t.1 s0) + vC), (s0, s1, s2, blC)) else none := by
      unfold oneS
      rw [es]
      split <;> rfl
    refine ⟨C', _, _, _, s0, s1, s2, blC, okC, rfl, ⟨mC'.1, mC'.2.1, mC'.2.2.mono (by decide)⟩, cC, ⟨v16, v17, v15⟩, qb, oth, ?_, fun r hr => ?_, fGC⟩
    · rw [eo]
      cases okC <;> rfl
    · rw [eo] at hr
      cases okC with
      | false => exact absurd hr (by simp)
      | true =>
        rw [if_pos rfl] at hr
        injection hr with hr
        exact hr.symm
  · rw [ilen (by omega) (by omega), decide_eq_false hl]
    obtain ⟨vD, D, eD, cD0, oD, gD, mD, fD⟩ := md_step mC' (by decide) (k := 0) (by decide) cC.1
    have nD : ∀ q, 9 ≤ q → q ≤ 12 → q ∉ [14] := by simp; omega
    have cD2 : MV D 2 12 t.2.2 s2 := ⟨cC.2.2.1.fm fD nD, cC.2.2.2.1, by rw [oD 2 (by decide)]; exact cC.2.2.2.2.1, cC.2.2.2.2.2⟩
    have cD1 : MV D 1 8 t.2.1 s1 := ⟨cC.2.1.1.fm fD nD, cC.2.1.2.1, by rw [oD 1 (by decide)]; exact cC.2.1.2.2.1, cC.2.1.2.2.2⟩
    obtain ⟨vE, E, eE, cE2, oE, gE, mE, fE⟩ := md_step mD (by decide) (k := 2) (by decide) cD2
    have cE1 : MV E 1 8 t.2.1 s1 := ⟨cD1.1.fm fE nD, cD1.2.1, by rw [oE 1 (by decide)]; exact cD1.2.2.1, cD1.2.2.2⟩
    have cE0 : MV E 0 12 t.1 (tba t.1 s0 + vD) := ⟨cD0.1.fm fE nD, cD0.2.1, by rw [oE 0 (by decide)]; exact cD0.2.2.1, cD0.2.2.2⟩
    obtain ⟨vK, K, eK, cK1, oK, gK, mK, fK⟩ := md_step mE (by decide) (k := 1) (by decide) cE1
    have cK0 : MV K 0 12 t.1 (tba t.1 s0 + vD) := ⟨cE0.1.fm fK nD, cE0.2.1, by rw [oK 0 (by decide)]; exact cE0.2.2.1, cE0.2.2.2⟩
    have cK2 : MV K 2 12 t.2.2 (tba t.2.2 s2 + vE) := ⟨cE2.1.fm fK nD, cE2.2.1, by rw [oK 2 (by decide)]; exact cE2.2.2.1, cE2.2.2.2⟩
    have fCK : Fm [5, 12] [14] C' K := (fD.tr fE).tr fK
    dsimp only at gD gE gK mD mE mK
    obtain ⟨okK, hokK⟩ : ∃ o, o = (okC && decide (twi t.1 s0 ≤ blC) && decide (twi t.2.2 s2 ≤ blC - twi t.1 s0) && decide (twi t.2.1 s1 ≤ blC - twi t.1 s0 - twi t.2.2 s2)) := ⟨_, rfl⟩
    rw [← hokK] at mK
    have eo : oneS w ss t false (s0, s1, s2, bl) = if okK = true then some ((2 ^ tco t.2.1 s1 + vA, mB (tco t.2.2 s2) + vB, aB (tco t.1 s0) + vC), (tba t.1 s0 + vD, tba t.2.1 s1 + vK, tba t.2.2 s2 + vE, blC - twi t.1 s0 - twi t.2.2 s2 - twi t.2.1 s1)) else none := by
      unfold oneS
      rw [es]
      cases okC with
      | false =>
        rw [hokK]
        rfl
      | true =>
        rw [if_pos rfl]
        dsimp only [Option.bind_some]
        rw [if_neg (by decide)]
        unfold nextS tk
        dsimp only
        by_cases q1 : twi t.1 s0 ≤ blC
        · rw [if_pos q1]
          dsimp only [Option.bind_some]
          by_cases q2 : twi t.2.2 s2 ≤ blC - twi t.1 s0
          · rw [if_pos q2]
            dsimp only [Option.bind_some]
            by_cases q3 : twi t.2.1 s1 ≤ blC - twi t.1 s0 - twi t.2.2 s2
            · rw [if_pos q3]
              dsimp only [Option.bind_some]
              rw [show okK = true by rw [hokK]; simp [q1, q2, q3], if_pos rfl, gD rfl, gE (by simp [q1]), gK (by simp [q1, q2])]
            · rw [if_neg q3, show okK = false by rw [hokK]; simp [q3]]
              rfl
          · rw [if_neg q2, show okK = false by rw [hokK]; simp [q2]]
            rfl
        · rw [if_neg q1, show okK = false by rw [hokK]; simp [q1]]
          rfl
    refine ⟨K, 2 ^ tco t.2.1 s1 + vA, mB (tco t.2.2 s2) + vB, aB (tco t.1 s0) + vC, tba t.1 s0 + vD, tba t.2.1 s1 + vK, tba t.2.2 s2 + vE, _, okK, ?_, mK, ⟨cK0, cK1, cK2⟩, ⟨by rw [fCK.1 16 (by decide) (by decide)]; exact v16, by rw [fCK.1 17 (by decide) (by decide)]; exact v17, by rw [fCK.1 15 (by decide) (by decide)]; exact v15⟩, qb, fun j hj => ?_, ?_, fun r hr => ?_, fGC.tr (fCK.up (by simp) (by simp))⟩
    · rw [show (0 : Int32) = nI 0 from rfl, eD]
      dsimp only [Option.bind_some]
      rw [show (2 : Int32) = nI 2 from rfl, eE]
      dsimp only [Option.bind_some]
      rw [show (1 : Int32) = nI 1 from rfl, eK]
      rfl
    · rw [fCK.1 16 (by decide) (by decide), fCK.1 17 (by decide) (by decide), fCK.1 15 (by decide) (by decide)]
      exact oth j hj
    · rw [eo]
      cases okK <;> rfl
    · rw [eo] at hr
      cases okK with
      | false => exact absurd hr (by simp)
      | true =>
        rw [if_pos rfl] at hr
        injection hr with hr
        exact hr.symm
