/-! pure: the class takes its three tables -/
theorem take_table {F : Mem} {w : List Nat} {p lim ss bl : Nat} {ok : Bool} {i1 src most a1 a2 a3 a4 : Nat} {us : Nat → Nat} (kn : Option TT) (T : TI i1 src most a1 a2 a3 a4 us) (hct : CT F) (h : CR F w p lim ss bl ok) (hk : ok = true → F 26 5 = (if kn.isSome then 1 else 0) ∧ ∀ t, kn = some t → TC F i1 a1 a2 a3 t) {how : Nat} (hh : how < 4) : ∃ G, f_Sq_takeTable L1 26 i1 (nI how) F = some G ∧ TO F G w lim ss bl ok (tabS w lim most us kn how p) i1 a1 a2 a3 a4 := by
  have hd := T.2.2.2.2.2.2.2.2.2
  have nin : ∀ q, (q = 3 ∨ q = 4 ∨ q = 25 ∨ q = 26 ∨ q = 42) → q ∉ [i1, a1, a2, a3, a4] := fun q hq hmem => by have := hd q hmem; omega
  unfold f_Sq_takeTable b_Sq_takeTable_74
  by_cases h0 : how = 0
  · subst h0
    obtain ⟨G, e, c, t, f, f2⟩ := keep_us T h
    rw [if_pos (show nI 0 = 0 from rfl), T.2.2.1, T.2.2.2.1, e]
    refine ⟨G, rfl, p, ok, c, fun q => ⟨q, .inr us, rfl, t⟩, fun q _ => q, f, Or.inr (Or.inr t.1), fun q => q.fr f2 (nin 42 (by omega))⟩
  · rw [l0, ieqn h0 (by omega) (by omega)]
    by_cases h1 : how = 1
    · subst h1
      obtain ⟨G, e, o⟩ := take_one kn T h
      rw [if_pos (show nI 1 = 1 from rfl), e]
      exact ⟨G, rfl, o⟩
    · rw [l1, ieqn h1 (by omega) (by omega)]
      by_cases h2 : how = 2
      · subst h2
        obtain ⟨G, e, o⟩ := take_counts kn T hct h
        rw [if_pos (show nI 2 = 2 from rfl), e]
        exact ⟨G, rfl, o⟩
      · rw [l2, ieqn h2 (by omega) (by omega), r260]
        obtain rfl : how = 3 := by omega
        have ts : tabS w lim most us kn 3 p = kn.map (fun t => (t, p)) := rfl
        have i25 : i1 ≠ 25 := (hd i1 (by simp)).2.2.1
        obtain ⟨G2, e2, c2, f2⟩ := wr_refuse h
        have bad : (ok = true → kn = none) → TO F G2 w lim ss bl ok (tabS w lim most us kn 3 p) i1 a1 a2 a3 a4 := fun q => ⟨p, false, c2, fun q => absurd q (by decide), fun o s => absurd (by rw [ts, q o]; rfl) s, f2.up (by simp), Or.inl (by rw [f2 i1 (by simpa using i25)]), fun q => q.fr f2 (by decide)⟩
        have good : (ok = true → ∃ t, kn = some t) → TO F F w lim ss bl ok (tabS w lim most us kn 3 p) i1 a1 a2 a3 a4 := fun q => ⟨p, ok, h, fun o => ⟨o, by obtain ⟨t, e⟩ := q o; exact ⟨t, by rw [ts, e]; rfl, (hk o).2 t e⟩⟩, fun o _ => o, Fr.rf, Or.inl rfl, fun q => q⟩
        by_cases q : F 26 5 = nI 0
        · rw [if_pos q, e2]
          refine ⟨G2, rfl, bad (fun o => ?_)⟩
          cases kn with
          | none => rfl
          | some t =>
            have := (hk o).1.symm.trans q
            exact absurd this (by simp only [Option.isSome]; decide)
        · rw [if_neg q]
          refine ⟨F, rfl, good (fun o => ?_)⟩
          cases kn with
          | some t => exact ⟨t, rfl⟩
          | none => exact absurd (hk o).1 q
def usT (k c : Nat) : Nat := if c < 12 then usC k c else 0
theorem usT_le (k c : Nat) : usT k c ≤ 16 := by unfold usT; split; exact usle k c; omega
theorem ti0 : TI 27 66 12 28 29 30 31 (usT 0) := ⟨⟨by decide, by decide, by decide, by decide, by decide⟩, fun n hn => ⟨by decide, by decide, ⟨rfl, rfl, rfl, show n ≤ 12 from hn, show n ≤ 12 from hn, by decide, by decide⟩, by decide, by decide⟩, rfl, rfl, by decide, by decide, usT_le 0, fun F k hk => by
  have : ∀ k, k < 12 → mGa L1 fST 66 k = nI (usT 0 k) := by decide
  exact this k hk, fun k hk => if_neg (by omega), by decide⟩
theorem ti1 : TI 32 67 8 33 34 35 36 (usT 1) := ⟨⟨by decide, by decide, by decide, by decide, by decide⟩, fun n hn => ⟨by decide, by decide, ⟨rfl, rfl, rfl, show n ≤ 8 from hn, show n ≤ 12 by omega, by decide, by decide⟩, by decide, by decide⟩, rfl, rfl, by decide, by decide, usT_le 1, fun F k hk => by
  have : ∀ k, k < 8 → mGa L1 fST 67 k = nI (usT 1 k) := by decide
  exact this k hk, fun k hk => by
    unfold usT usC
    split
    · rw [if_pos rfl, if_neg (by omega)]
    · rfl, by decide⟩
theorem ti2 : TI 37 66 12 38 39 40 41 (usT 0) := ⟨⟨by decide, by decide, by decide, by decide, by decide⟩, fun n hn => ⟨by decide, by decide, ⟨rfl, rfl, rfl, show n ≤ 12 from hn, show n ≤ 12 from hn, by decide, by decide⟩, by decide, by decide⟩, rfl, rfl, by decide, by decide, usT_le 0, fun F k hk => by
  have : ∀ k, k < 12 → mGa L1 fST 66 k = nI (usT 0 k) := by decide
  exact this k hk, fun k hk => if_neg (by omega), by decide⟩
theorem TC.fr {F G : Mem} {i0 a1 a2 a3 : Nat} {t : TT} {S : List Nat} (h : TC F i0 a1 a2 a3 t) (f : Fr S F G) (n0 : i0 ∉ S) (n1 : a1 ∉ S) (n2 : a2 ∉ S) (n3 : a3 ∉ S) : TC G i0 a1 a2 a3 t := by
  unfold TC TD at *
  rw [f i0 n0, f a1 n1, f a2 n2, f a3 n3]
  exact h
abbrev T3 : Type := TT × TT × TT
/-- the three tables on the wire -/
def tabsS (w : List Nat) (lim : Nat) (kn : Option T3) (p : Nat) : Option (T3 × Nat) :=
  if p < lim ∧ w.getD p 0 % 4 = 0 then
    (tabS w lim 12 (usT 0) (kn.map (fun t => t.1)) (w.getD p 0 / 64) (p + 1)).bind fun q1 =>
    (tabS w lim 8 (usT 1) (kn.map (fun t => t.2.1)) (w.getD p 0 / 16 % 4) q1.2).bind fun q2 =>
    (tabS w lim 12 (usT 0) (kn.map (fun t => t.2.2)) (w.getD p 0 / 4 % 4) q2.2).bind fun q3 =>
    some ((q1.1, q2.1, q3.1), q3.2)
  else none
/-- the class's tables -/
def CTs (F : Mem) (t : T3) : Prop := TC F 27 28 29 30 t.1 ∧ TC F 32 33 34 35 t.2.1 ∧ TC F 37 38 39 40 t.2.2
/-- the class's tables where nothing is known of them -/
def CSb (F : Mem) : Prop := (F 27 5 = nI 0 ∨ F 27 5 = nI 4) ∧ (F 32 5 = nI 0 ∨ F 32 5 = nI 4) ∧ (F 37 5 = nI 0 ∨ F 37 5 = nI 4)
theorem take_tables {F : Mem} {w : List Nat} {p lim ss bl : Nat} {ok : Bool} (kn : Option T3) (hct : CT F) (hsb : CSb F) (h : CR F w p lim ss bl ok) (hk : ok = true → F 26 5 = (if kn.isSome then 1 else 0) ∧ ∀ t, kn = some t → CTs F t) :
    ∃ G p' ok', f_Sq_takeTables L1 26 F = some G ∧ CR G w p' lim ss bl ok' ∧ (ok' = true → ok = true ∧ ∃ t, tabsS w lim kn p = some (t, p') ∧ CTs G t) ∧ (ok = true → tabsS w lim kn p ≠ none → ok' = true) ∧ G 26 5 = 1 ∧ CT G ∧ CSb G ∧ Fr [25, 26, 27, 28, 29, 30, 31, 32, 33, 34, 35, 36, 37, 38, 39, 40, 41, 42] F G := by
  obtain ⟨G1, e1, c1, f1⟩ := wr_byte h
  have hw := h.2.2.2.2.2.2
  obtain ⟨m, hm⟩ : ∃ m, m = (if p < lim then w.getD p 0 else 0) := ⟨_, rfl⟩
  have hm2 : m < 256 := by have := nI_byte hw p; rw [hm]; split <;> omega
  rw [← hm] at e1
  obtain ⟨p1, hp1⟩ : ∃ p1, p1 = (if p < lim then p + 1 else p) := ⟨_, rfl⟩
  rw [← hp1] at c1
  -- behind the modes
  have main : ∀ (F' : Mem) (ok1 : Bool), CR F' w p1 lim ss bl ok1 → Fr [25] F F' → (ok1 = true → ok = true ∧ p < lim ∧ w.getD p 0 % 4 = 0) → (ok = true → p < lim → w.getD p 0 % 4 = 0 → ok1 = true) →
      ∃ G p' ok', b_Sq_takeTables_21 L1 26 (nI m) F' = some G ∧ CR G w p' lim ss bl ok' ∧ (ok' = true → ok = true ∧ ∃ t, tabsS w lim kn p = some (t, p') ∧ CTs G t) ∧ (ok = true → tabsS w lim kn p ≠ none → ok' = true) ∧ G 26 5 = 1 ∧ CT G ∧ CSb G ∧ Fr [25, 26, 27, 28, 29, 30, 31, 32, 33, 34, 35, 36, 37, 38, 39, 40, 41, 42] F G := by
    intro F' ok1 h' f' g1 g2
    have hk' : ok1 = true → F' 26 5 = (if kn.isSome then 1 else 0) ∧ ∀ t, kn = some t → CTs F' t := fun o => by
      obtain ⟨k1, k2⟩ := hk (g1 o).1
      refine ⟨by rw [f' 26 (by decide)]; exact k1, fun t e => ?_⟩
      obtain ⟨q1, q2, q3⟩ := k2 t e
      exact ⟨q1.fr f' (by decide) (by decide) (by decide) (by decide), q2.fr f' (by decide) (by decide) (by decide) (by decide), q3.fr f' (by decide) (by decide) (by decide) (by decide)⟩
    have ct' : CT F' := hct.fr f' (by decide)
    obtain ⟨A, eA, pA, okA, cA, gA, nA, fA, sA, tA⟩ := take_table (kn.map (fun t => t.1)) ti0 ct' h' (fun o => ⟨by rw [(hk' o).1, Option.isSome_map], fun t e => by
      obtain ⟨t', e', rfl⟩ := Option.map_eq_some_iff.mp e
      exact ((hk' o).2 t' e').1⟩) (how := m / 64) (by omega)
    have ctA := tA ct'
    have fA' : Fr [25, 42, 27, 28, 29, 30, 31] F' A := fA
    obtain ⟨B, eB, pB, okB, cB, gB, nB, fB, sB, tB⟩ := take_table (kn.map (fun t => t.2.1)) ti1 ctA cA (fun o => ⟨by rw [fA' 26 (by decide), (hk' (gA o).1).1, Option.isSome_map], fun t e => by
      obtain ⟨t', e', rfl⟩ := Option.map_eq_some_iff.mp e
      exact ((hk' (gA o).1).2 t' e').2.1.fr fA' (by decide) (by decide) (by decide) (by decide)⟩) (how := m / 16 % 4) (by omega)
    have ctB := tB ctA
    have fB' : Fr [25, 42, 32, 33, 34, 35, 36] A B := fB
    obtain ⟨C, eC, pC, okC, cC, gC, nC, fC, sC, tC⟩ := take_table (kn.map (fun t => t.2.2)) ti2 ctB cB (fun o => ⟨by rw [fB' 26 (by decide), fA' 26 (by decide), (hk' (gA (gB o).1).1).1, Option.isSome_map], fun t e => by
      obtain ⟨t', e', rfl⟩ := Option.map_eq_some_iff.mp e
      exact (((hk' (gA (gB o).1).1).2 t' e').2.2.fr fA' (by decide) (by decide) (by decide) (by decide)).fr fB' (by decide) (by decide) (by decide) (by decide)⟩) (how := m / 4 % 4) (by omega)
    have ctC := tC ctB
    have fC' : Fr [25, 42, 37, 38, 39, 40, 41] B C := fC
    have fu : Fr [26] C (u2 C 26 5 1) := Fr.u (by simp)
    refine ⟨u2 C 26 5 1, pC, okC, ?_, cC.fr fu (by decide) (by decide) (by decide), fun o => ?_, fun o s => ?_, u2_s, ctC.fr fu (by decide), ⟨?_, ?_, ?_⟩, ?_⟩
    · unfold b_Sq_takeTables_21
      rw [show mRf L1 26 1 = 27 from rfl, show mRf L1 26 2 = 32 from rfl, show mRf L1 26 3 = 37 from rfl, l6, l4, l2, jshr_n (by omega) (by omega), jshr_n (by omega) (by omega), jshr_n (by omega) (by omega), pk_andN (by omega) 2 rfl, pk_andN (by omega) 2 rfl]
      rw [show m / 2 ^ 6 = m / 64 from rfl, eA]
      dsimp only [Option.bind_some]
      rw [show m / 2 ^ 4 % 2 ^ 2 = m / 16 % 4 from rfl, eB]
      dsimp only [Option.bind_some]
      rw [show m / 2 ^ 2 % 2 ^ 2 = m / 4 % 4 from rfl, eC]
      dsimp only [Option.bind_some]
      rw [if_neg (fun q => q zb1), ld]
    · obtain ⟨oB, t3, s3, d3⟩ := gC o
      obtain ⟨oA, t2, s2, d2⟩ := gB oB
      obtain ⟨o1, t1, s1, d1⟩ := gA oA
      obtain ⟨o0, hp, h4⟩ := g1 o1
      rw [if_pos hp] at hm hp1
      subst hm hp1
      refine ⟨o0, (t1, t2, t3), ?_, ((d1.fr fB' (by decide) (by decide) (by decide) (by decide)).fr fC' (by decide) (by decide) (by decide) (by decide)).fr fu (by decide) (by decide) (by decide) (by decide), (d2.fr fC' (by decide) (by decide) (by decide) (by decide)).fr fu (by decide) (by decide) (by decide) (by decide), d3.fr fu (by decide) (by decide) (by decide) (by decide)⟩
      unfold tabsS
      rw [if_pos ⟨hp, h4⟩, s1]
      dsimp only [Option.bind_some]
      rw [s2]
      dsimp only [Option.bind_some]
      rw [s3]
      rfl
    · unfold tabsS at s
      by_cases q : p < lim ∧ w.getD p 0 % 4 = 0
      · rw [if_pos q] at s
        rw [if_pos q.1] at hm hp1
        subst hm hp1
        have o1 := g2 o q.1 q.2
        cases e1 : tabS w lim 12 (usT 0) (kn.map (fun t => t.1)) (w.getD p 0 / 64) (p + 1) with
        | none => rw [e1] at s; exact absurd rfl s
        | some v1 =>
          have oA := nA o1 (by rw [e1]; simp)
          obtain ⟨-, t1, s1, d1⟩ := gA oA
          rw [s1] at s
          dsimp only [Option.bind_some] at s
          cases e2 : tabS w lim 8 (usT 1) (kn.map (fun t => t.2.1)) (w.getD p 0 / 16 % 4) pA with
          | none => rw [e2] at s; exact absurd rfl s
          | some v2 =>
            have oB := nB oA (by rw [e2]; simp)
            obtain ⟨-, t2, s2, d2⟩ := gB oB
            rw [s2] at s
            dsimp only [Option.bind_some] at s
            refine nC oB (fun e3 => ?_)
            rw [e3] at s
            exact absurd rfl s
      · rw [if_neg q] at s
        exact absurd rfl s
    · rw [fu 27 (by decide), fC' 27 (by decide), fB' 27 (by decide)]
      rcases sA with q | q
      · rw [q, f' 27 (by decide)]; exact hsb.1
      · exact q
    · rw [fu 32 (by decide), fC' 32 (by decide)]
      rcases sB with q | q
      · rw [q, fA' 32 (by decide), f' 32 (by decide)]; exact hsb.2.1
      · exact q
    · rw [fu 37 (by decide)]
      rcases sC with q | q
      · rw [q, fB' 37 (by decide), fA' 37 (by decide), f' 37 (by decide)]; exact hsb.2.2
      · exact q
    · exact ((((f'.up (by simp)).tr (fA'.up (by simp))).tr (fB'.up (by simp))).tr (fC'.up (by simp))).tr (fu.up (by simp))
  unfold f_Sq_takeTables
  rw [r260, e1]
  dsimp only [Option.bind_some]
  rw [l3, pk_andN (by omega) 2 rfl, l0]
  by_cases q : m % 4 = 0
  · rw [ieq q]
    refine main G1 _ c1 f1 (fun o => ?_) (fun o hp h4 => ?_)
    · have o' : ok = true ∧ p < lim := by simpa using o
      rw [if_pos o'.2] at hm
      rw [hm] at q
      exact ⟨o'.1, o'.2, q⟩
    · rw [o, decide_eq_true hp]; rfl
  · rw [ieqn q (by omega) (by omega)]
    obtain ⟨G2, e2, c2, f2⟩ := wr_refuse c1
    rw [e2]
    dsimp only [Option.bind_some]
    refine main G2 _ c2 (f1.tr f2) (fun o => absurd o (by decide)) (fun o hp h4 => ?_)
    rw [if_pos hp] at hm
    rw [hm] at q
    exact absurd h4 q
