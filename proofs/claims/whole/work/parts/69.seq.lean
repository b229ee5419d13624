/-! pure: states of tables; what is read for a sequence -/
def tsb (t : TT) : Nat := match t with
  | .inl _ => 0
  | .inr _ => 4
def tco (t : TT) (s : Nat) : Nat := match t with
  | .inl c => c
  | .inr c => tcd c 12 s
def twi (t : TT) (s : Nat) : Nat := match t with
  | .inl _ => 0
  | .inr c => wd (tx c 12 s)
def tba (t : TT) (s : Nat) : Nat := match t with
  | .inl _ => 0
  | .inr c => tx c 12 s * 2 ^ wd (tx c 12 s) - 16
def TG (most : Nat) (t : TT) : Prop := match t with
  | .inl c => c < most
  | .inr c => (exl c 12).length = 16 ∧ (∀ k, c k ≤ 16) ∧ ∀ k, most ≤ k → c k = 0
def ts0 (t : TT) (s : Nat) : Prop := match t with
  | .inl _ => s = 0
  | .inr _ => s < 16
theorem tx_b {c : Nat → Nat} (h16 : (exl c 12).length = 16) (hc : ∀ k, c k ≤ 16) {s : Nat} (hs : s < 16) : tx c 12 s < 32 ∧ 0 < tx c 12 s := by
  have h1 := (tcd_lt h16 s).2
  have h2 := cnt_le (tcd c 12) (tcd c 12 s) s
  have h3 := hc (tcd c 12 s)
  unfold tx
  omega
theorem TG.co {most : Nat} {t : TT} (h : TG most t) {s : Nat} (_ : ts0 t s) : tco t s < most := by
  cases t with
  | inl c => exact h
  | inr c =>
    have h1 := tcd_lt h.1 s
    rcases Nat.lt_or_ge (tcd c 12 s) most with q | q
    · exact q
    · exact absurd (h.2.2 _ q) (by omega)
theorem TG.wi {most : Nat} {t : TT} (_ : TG most t) (s : Nat) : twi t s ≤ 4 := by
  cases t with
  | inl c => exact Nat.zero_le _
  | inr c => exact wd_le _
theorem TG.go {most : Nat} {t : TT} (h : TG most t) {s v : Nat} (hs : ts0 t s) (hv : v < 2 ^ twi t s) : ts0 t (tba t s + v) ∧ tba t s + v < 16 := by
  cases t with
  | inl c =>
    have : v < 1 := hv
    have e : tba (.inl c) s + v = 0 := by show 0 + v = 0; omega
    rw [e]
    exact ⟨rfl, by decide⟩
  | inr c =>
    obtain ⟨b1, b2⟩ := tx_b h.1 h.2.1 hs
    have := wd_c _ b1 b2
    have hv' : v < 2 ^ wd (tx c 12 s) := hv
    have e : tba (.inr c) s + v = tx c 12 s * 2 ^ wd (tx c 12 s) - 16 + v := rfl
    rw [e]
    refine ⟨?_, by omega⟩
    show _ < 16
    omega
theorem tsb_ok {t : TT} {v : Nat} (h : v < 2 ^ tsb t) : ts0 t v := by
  cases t with
  | inl c => exact (by have : v < 1 := h; show v = 0; omega)
  | inr c => exact h
theorem tsb_le (t : TT) : tsb t ≤ 4 := by cases t <;> simp [tsb]
theorem tabS_good {w : List Nat} {lim most : Nat} {us : Nat → Nat} {kn : Option TT} {how p p' : Nat} {t : TT} (hw : ∀ b ∈ w, b < 256) (h : tabS w lim most us kn how p = some (t, p')) (hp : p ≤ lim) (hm : most ≤ 12) (hu : TG most (.inr us)) (hk : ∀ t, kn = some t → TG most t) : TG most t ∧ p ≤ p' ∧ p' ≤ lim := by
  unfold tabS at h
  by_cases h0 : how = 0
  · rw [if_pos h0] at h
    obtain ⟨rfl, rfl⟩ := Prod.mk.inj (Option.some.inj h)
    exact ⟨hu, Nat.le_refl _, hp⟩
  rw [if_neg h0] at h
  by_cases h1 : how = 1
  · rw [if_pos h1] at h
    by_cases q : p < lim ∧ w.getD p 0 < most
    · rw [if_pos q] at h
      obtain ⟨rfl, rfl⟩ := Prod.mk.inj (Option.some.inj h)
      exact ⟨q.2, by omega, by omega⟩
    · rw [if_neg q] at h
      exact absurd h (by simp)
  rw [if_neg h1] at h
  by_cases h2 : how = 2
  · rw [if_pos h2] at h
    by_cases q : p < lim ∧ 1 ≤ w.getD p 0 ∧ w.getD p 0 ≤ most ∧ p + 1 + (w.getD p 0 + 1) / 2 ≤ lim ∧ (w.getD p 0 % 2 = 0 ∨ w.getD (p + 1 + w.getD p 0 / 2) 0 % 16 = 0) ∧ sumh (hc w (p + 1) (w.getD p 0)) 12 = 16
    · rw [if_pos q] at h
      obtain ⟨rfl, rfl⟩ := Prod.mk.inj (Option.some.inj h)
      refine ⟨⟨by rw [exl_sum]; exact q.2.2.2.2.2, fun k => ?_, fun k hk => if_neg (by omega)⟩, by omega, by omega⟩
      have := hv_lt hw (p + 1) k
      unfold hc
      split <;> omega
    · rw [if_neg q] at h
      exact absurd h (by simp)
  rw [if_neg h2] at h
  obtain ⟨t', e, e'⟩ := Option.map_eq_some_iff.mp h
  obtain ⟨rfl, rfl⟩ := Prod.mk.inj e'
  exact ⟨hk _ e, Nat.le_refl _, hp⟩
def TG3 (t : T3) : Prop := TG 12 t.1 ∧ TG 8 t.2.1 ∧ TG 12 t.2.2
theorem us_g0 : TG 12 (.inr (usT 0)) := ⟨by decide, usT_le 0, fun k hk => if_neg (by omega)⟩
theorem us_g1 : TG 8 (.inr (usT 1)) := ⟨by decide, usT_le 1, ti1.2.2.2.2.2.2.2.2.1⟩
theorem tabsS_good {w : List Nat} {lim : Nat} {kn : Option T3} {p p' : Nat} {t : T3} (hw : ∀ b ∈ w, b < 256) (h : tabsS w lim kn p = some (t, p')) (hk : ∀ t, kn = some t → TG3 t) : TG3 t ∧ p < p' ∧ p' ≤ lim := by
  unfold tabsS at h
  by_cases q : p < lim ∧ w.getD p 0 % 4 = 0
  · rw [if_pos q] at h
    obtain ⟨⟨t1, p1⟩, e1, h⟩ := Option.bind_eq_some_iff.mp h
    obtain ⟨⟨t2, p2⟩, e2, h⟩ := Option.bind_eq_some_iff.mp h
    obtain ⟨⟨t3, p3⟩, e3, h⟩ := Option.bind_eq_some_iff.mp h
    obtain ⟨rfl, rfl⟩ := Prod.mk.inj (Option.some.inj h)
    obtain ⟨a1, a2, a3⟩ := tabS_good hw e1 (by omega) (by decide) us_g0 (fun t e => by
      obtain ⟨t', e', rfl⟩ := Option.map_eq_some_iff.mp e
      exact (hk t' e').1)
    obtain ⟨b1, b2, b3⟩ := tabS_good hw e2 a3 (by decide) us_g1 (fun t e => by
      obtain ⟨t', e', rfl⟩ := Option.map_eq_some_iff.mp e
      exact (hk t' e').2.1)
    obtain ⟨c1, c2, c3⟩ := tabS_good hw e3 b3 (by decide) us_g0 (fun t e => by
      obtain ⟨t', e', rfl⟩ := Option.map_eq_some_iff.mp e
      exact (hk t' e').2.2)
    exact ⟨⟨a1, b1, c1⟩, by simp only at *; omega, c3⟩
  · rw [if_neg q] at h
    exact absurd h (by simp)
def mB (c : Nat) : Nat := if c < 8 then 3 + c else if c = 8 then 11 else if c = 9 then 13 else if c = 10 then 17 else 25
def mb (c : Nat) : Nat := if c < 8 then 0 else if c = 11 then 7 else c - 7
def aB (c : Nat) : Nat := if c < 8 then c else if c = 8 then 8 else if c = 9 then 10 else if c = 10 then 12 else 16
def ab (c : Nat) : Nat := if c < 8 then 0 else if c < 10 then 1 else if c = 10 then 2 else 6
theorem mb_le : ∀ c, c < 12 → mb c ≤ 7 ∧ mB c + 2 ^ mb c ≤ 153 ∧ ab c ≤ 6 ∧ aB c + 2 ^ ab c ≤ 80 ∧ 3 ≤ mB c := by decide
def tk (w : List Nat) (ss n bl : Nat) : Option (Nat × Nat) := if n ≤ bl then some (nbits w ss bl n, bl - n) else none
abbrev N4 : Type := Nat × Nat × Nat × Nat
/-- the first states: of literals, ways, matches; the bits left -/
def firstS (w : List Nat) (ss : Nat) (t : T3) (bl : Nat) : Option N4 :=
  (tk w ss (tsb t.1) bl).bind fun a => (tk w ss (tsb t.2.1) a.2).bind fun b => (tk w ss (tsb t.2.2) b.2).bind fun c => some (a.1, b.1, c.1, c.2)
def nextS (w : List Nat) (ss : Nat) (t : T3) (s : N4) : Option N4 :=
  (tk w ss (twi t.1 s.1) s.2.2.2).bind fun a => (tk w ss (twi t.2.2 s.2.2.1) a.2).bind fun c => (tk w ss (twi t.2.1 s.2.1) c.2).bind fun b => some (tba t.1 s.1 + a.1, tba t.2.1 s.2.1 + b.1, tba t.2.2 s.2.2.1 + c.1, b.2)
abbrev N3 : Type := Nat × Nat × Nat
/-- a sequence: value, match, literals -/
def seqS (w : List Nat) (ss : Nat) (t : T3) (s : N4) : Option (N3 × N4) :=
  (tk w ss (tco t.2.1 s.2.1) s.2.2.2).bind fun a => (tk w ss (mb (tco t.2.2 s.2.2.1)) a.2).bind fun b => (tk w ss (ab (tco t.1 s.1)) b.2).bind fun c => some ((2 ^ tco t.2.1 s.2.1 + a.1, mB (tco t.2.2 s.2.2.1) + b.1, aB (tco t.1 s.1) + c.1), (s.1, s.2.1, s.2.2.1, c.2))
/-! the class's side -/
theorem TC.co {F : Mem} {i0 a1 a2 a3 : Nat} {t : TT} (h : TC F i0 a1 a2 a3 t) {s : Nat} (hs : ts0 t s) : F a1 s = nI (tco t s) ∧ F a2 s = nI (twi t s) := by
  cases t with
  | inl c =>
    obtain rfl : s = 0 := hs
    exact ⟨h.2.1, h.2.2.1⟩
  | inr c => exact ⟨(h.2 s hs).1, (h.2 s hs).2.1⟩
theorem bs_nI {x : Nat} (hx : x < 32) (h0 : 0 < x) : bs x = nI (x * 2 ^ wd x - 16) := by
  unfold bs
  rw [l16, pk_sub (wd_c x hx h0).1]
theorem TC.ba {F : Mem} {i0 a1 a2 a3 most : Nat} {t : TT} (h : TC F i0 a1 a2 a3 t) (g : TG most t) {s : Nat} (hs : ts0 t s) : F a3 s = nI (tba t s) := by
  cases t with
  | inl c =>
    obtain rfl : s = 0 := hs
    exact h.2.2.2
  | inr c =>
    obtain ⟨b1, b2⟩ := tx_b g.1 g.2.1 hs
    rw [(h.2 s hs).2.2, bs_nI b1 b2]
    rfl
theorem ts0_lt {t : TT} {s : Nat} (h : ts0 t s) : s < 16 := by
  cases t with
  | inl c => exact (by have : s = 0 := h; omega)
  | inr c => exact h
theorem TC.st {F : Mem} {i0 a1 a2 a3 : Nat} {t : TT} (h : TC F i0 a1 a2 a3 t) (v : Int32) (h1 : a1 ≠ i0) (h2 : a2 ≠ i0) (h3 : a3 ≠ i0) : TC (u2 F i0 6 v) i0 a1 a2 a3 t := by
  unfold TC TD at *
  rw [u2_p (by decide), u2_ne h1, u2_ne h2, u2_ne h3]
  exact h
/-- one table of the class's with its state -/
def CV (F : Mem) (i0 a1 a2 a3 most : Nat) (t : TT) (s : Nat) : Prop := TC F i0 a1 a2 a3 t ∧ TG most t ∧ F i0 6 = nI s ∧ ts0 t s
theorem CV.fr {F G : Mem} {i0 a1 a2 a3 most : Nat} {t : TT} {s : Nat} {S : List Nat} (h : CV F i0 a1 a2 a3 most t s) (f : Fr S F G) (n0 : i0 ∉ S) (n1 : a1 ∉ S) (n2 : a2 ∉ S) (n3 : a3 ∉ S) : CV G i0 a1 a2 a3 most t s := ⟨h.1.fr f n0 n1 n2 n3, h.2.1, by rw [f i0 n0]; exact h.2.2.1, h.2.2.2⟩
theorem st_code {F : Mem} {i1 src most a1 a2 a3 a4 s : Nat} {us : Nat → Nat} {t : TT} (T : TI i1 src most a1 a2 a3 a4 us) (c : CV F i1 a1 a2 a3 most t s) : f_ST_code L1 i1 F = some (nI (tco t s), F) := by
  obtain ⟨⟨⟨r1, r2, r3, r4⟩, ⟨n1, n2, n3, n4⟩, ⟨q1, q2, q3, q4, q5, q6, q7⟩, -⟩, -⟩ := T
  have hs := ts0_lt c.2.2.2
  have g : mGl L1 a1 = 16 := by rw [mGl, if_pos n1, q1]
  unfold f_ST_code
  rw [r1, g, c.2.2.1, if_neg (inb_no (by omega) (by omega)), nI_clamp (by omega), mGa, if_pos n1, (c.1.co c.2.2.2).1]
theorem st_width {F : Mem} {i1 src most a1 a2 a3 a4 s : Nat} {us : Nat → Nat} {t : TT} (T : TI i1 src most a1 a2 a3 a4 us) (c : CV F i1 a1 a2 a3 most t s) : f_ST_width L1 i1 F = some (nI (twi t s), F) := by
  obtain ⟨⟨⟨r1, r2, r3, r4⟩, ⟨n1, n2, n3, n4⟩, ⟨q1, q2, q3, q4, q5, q6, q7⟩, -⟩, -⟩ := T
  have hs := ts0_lt c.2.2.2
  have g : mGl L1 a2 = 16 := by rw [mGl, if_pos n2, q2]
  unfold f_ST_width
  rw [r2, g, c.2.2.1, if_neg (inb_no (by omega) (by omega)), nI_clamp (by omega), mGa, if_pos n2, (c.1.co c.2.2.2).2]
theorem st_go {F : Mem} {i1 src most a1 a2 a3 a4 s v : Nat} {us : Nat → Nat} {t : TT} (T : TI i1 src most a1 a2 a3 a4 us) (c : CV F i1 a1 a2 a3 most t s) (hv : v < 2 ^ twi t s) : ∃ G, f_ST_goOn L1 i1 (nI v) F = some G ∧ CV G i1 a1 a2 a3 most t (tba t s + v) ∧ Fr [i1] F G := by
  obtain ⟨⟨⟨r1, r2, r3, r4⟩, ⟨n1, n2, n3, n4⟩, ⟨q1, q2, q3, q4, q5, q6, q7⟩, ⟨d1, d2, d3, d4, d5, d6, d7, d8, d9, d10⟩, -⟩, -⟩ := T
  have hs := ts0_lt c.2.2.2
  have g : mGl L1 a3 = 16 := by rw [mGl, if_pos n3, q3]
  have go := c.2.1.go c.2.2.2 hv
  refine ⟨u2 F i1 6 (nI (tba t s + v)), ?_, ⟨c.1.st _ d7.symm d8.symm d9.symm, c.2.1, u2_s, go.1⟩, Fr.u (by simp)⟩
  unfold f_ST_goOn
  rw [r3, g, c.2.2.1, if_neg (inb_no (by omega) (by omega)), nI_clamp (by omega), mGa, if_pos n3, c.1.ba c.2.1 c.2.2.2, nI_add, ld, pk_andN (by omega) 4 rfl, Nat.mod_eq_of_lt (by omega)]
/-- the class's three tables with their states -/
def CVs (F : Mem) (t : T3) (s0 s1 s2 : Nat) : Prop := CV F 27 28 29 30 12 t.1 s0 ∧ CV F 32 33 34 35 8 t.2.1 s1 ∧ CV F 37 38 39 40 12 t.2.2 s2
theorem sq_next {F : Mem} {w : List Nat} {p lim ss bl s0 s1 s2 : Nat} {ok : Bool} {t : T3} (h : CR F w p lim ss bl ok) (c : CVs F t s0 s1 s2) :
    ∃ G s0' s1' s2' bl', f_Sq_takeNextStates L1 26 F = some G ∧ CR G w p lim ss bl' (ok && (nextS w ss t (s0, s1, s2, bl)).isSome) ∧ CVs G t s0' s1' s2' ∧ (∀ r, nextS w ss t (s0, s1, s2, bl) = some r → r = (s0', s1', s2', bl')) ∧ Fr [25, 27, 32, 37] F G := by
  obtain ⟨c0, c1, c2⟩ := c
  have w0 := c0.2.1.wi s0
  have w1 := c1.2.1.wi s1
  have w2 := c2.2.1.wi s2
  obtain ⟨A, eA, hA, fA⟩ := wr_take h (n := twi t.1 s0) (by omega)
  obtain ⟨A', eA', cA, fA'⟩ := st_go ti0 (c0.fr fA (by decide) (by decide) (by decide) (by decide)) (nbits_lt w ss bl (twi t.1 s0))
  have hA' := hA.fr fA' (by decide) (by decide) (by decide)
  have c2' := (c2.fr fA (by decide) (by decide) (by decide) (by decide)).fr fA' (by decide) (by decide) (by decide) (by decide)
  have c1' := (c1.fr fA (by decide) (by decide) (by decide) (by decide)).fr fA' (by decide) (by decide) (by decide) (by decide)
  obtain ⟨blA, hblA⟩ : ∃ b, b = (if twi t.1 s0 ≤ bl then bl - twi t.1 s0 else bl) := ⟨_, rfl⟩
  rw [← hblA] at hA'
  obtain ⟨B, eB, hB, fB⟩ := wr_take hA' (n := twi t.2.2 s2) (by omega)
  obtain ⟨B', eB', cB, fB'⟩ := st_go ti2 (c2'.fr fB (by decide) (by decide) (by decide) (by decide)) (nbits_lt w ss blA (twi t.2.2 s2))
  have hB' := hB.fr fB' (by decide) (by decide) (by decide)
  have c1'' := (c1'.fr fB (by decide) (by decide) (by decide) (by decide)).fr fB' (by decide) (by decide) (by decide) (by decide)
  have cA' := (cA.fr fB (by decide) (by decide) (by decide) (by decide)).fr fB' (by decide) (by decide) (by decide) (by decide)
  obtain ⟨blB, hblB⟩ : ∃ b, b = (if twi t.2.2 s2 ≤ blA then blA - twi t.2.2 s2 else blA) := ⟨_, rfl⟩
  rw [← hblB] at hB'
  obtain ⟨C, eC, hC, fC⟩ := wr_take hB' (n := twi t.2.1 s1) (by omega)
  obtain ⟨C', eC', cC, fC'⟩ := st_go ti1 (c1''.fr fC (by decide) (by decide) (by decide) (by decide)) (nbits_lt w ss blB (twi t.2.1 s1))
  have hC' := hC.fr fC' (by decide) (by decide) (by decide)
  refine ⟨C', _, _, _, (if twi t.2.1 s1 ≤ blB then blB - twi t.2.1 s1 else blB), ?_, ?_, ⟨(cA'.fr fC (by decide) (by decide) (by decide) (by decide)).fr fC' (by decide) (by decide) (by decide) (by decide), cC, (cB.fr fC (by decide) (by decide) (by decide) (by decide)).fr fC' (by decide) (by decide) (by decide) (by decide)⟩, ?_, ?_⟩
  · unfold f_Sq_takeNextStates
    rw [r260, show mRf L1 26 1 = 27 from rfl, show mRf L1 26 2 = 32 from rfl, show mRf L1 26 3 = 37 from rfl, st_width ti0 c0]
    dsimp only [Option.bind_some]
    rw [eA]
    dsimp only [Option.bind_some]
    rw [eA']
    dsimp only [Option.bind_some]
    rw [st_width ti2 c2']
    dsimp only [Option.bind_some]
    rw [eB]
    dsimp only [Option.bind_some]
    rw [eB']
    dsimp only [Option.bind_some]
    rw [st_width ti1 c1'']
    dsimp only [Option.bind_some]
    rw [eC]
    dsimp only [Option.bind_some]
    rw [eC']
    rfl
  · have e : (ok && decide (twi t.1 s0 ≤ bl) && decide (twi t.2.2 s2 ≤ blA) && decide (twi t.2.1 s1 ≤ blB)) = (ok && (nextS w ss t (s0, s1, s2, bl)).isSome) := by
      unfold nextS tk
      by_cases q1 : twi t.1 s0 ≤ bl
      · rw [if_pos q1] at hblA
        subst hblA
        by_cases q2 : twi t.2.2 s2 ≤ bl - twi t.1 s0
        · rw [if_pos q2] at hblB
          subst hblB
          by_cases q3 : twi t.2.1 s1 ≤ bl - twi t.1 s0 - twi t.2.2 s2
          · simp [q1, q2, q3]
          · simp [q1, q2, q3]
        · simp [q1, q2]
      · simp [q1]
    rw [← e]
    exact hC'
  · intro r hr
    unfold nextS tk at hr
    by_cases q1 : twi t.1 s0 ≤ bl
    · rw [if_pos q1] at hblA
      by_cases q2 : twi t.2.2 s2 ≤ bl - twi t.1 s0
      · subst hblA
        rw [if_pos q2] at hblB
        by_cases q3 : twi t.2.1 s1 ≤ bl - twi t.1 s0 - twi t.2.2 s2
        · subst hblB
          simp only [if_pos q1, if_pos q2, if_pos q3, Option.bind_some, Option.some.injEq] at hr ⊢
          exact hr.symm
        · simp [q1, q2, q3] at hr
      · simp [q1, q2] at hr
    · simp [q1] at hr
  · exact (((((fA.up (by simp)).tr (fA'.up (by simp))).tr (fB.up (by simp))).tr (fB'.up (by simp))).tr (fC.up (by simp))).tr (fC'.up (by simp))

theorem TC.sb {F : Mem} {i0 a1 a2 a3 : Nat} {t : TT} (h : TC F i0 a1 a2 a3 t) : F i0 5 = nI (tsb t) := by
  cases t with
  | inl c => exact h.1
  | inr c => exact h.1
theorem sb_n {x : Int32} (h : x = nI 0 ∨ x = nI 4) : ∃ n, x = nI n ∧ n ≤ 4 ∧ (n = 0 ∨ n = 4) := by
  rcases h with h | h
  · exact ⟨0, h, by decide, Or.inl rfl⟩
  · exact ⟨4, h, by decide, Or.inr rfl⟩
theorem sq_first {F : Mem} {w : List Nat} {p lim ss bl : Nat} {ok : Bool} {t : T3} (h : CR F w p lim ss bl ok) (sb : CSb F) (c : ok = true → CTs F t ∧ TG3 t) :
    ∃ G s0 s1 s2 bl' ok', f_Sq_takeFirstStates L1 26 F = some G ∧ CR G w p lim ss bl' ok' ∧ (ok' = true → ok = true ∧ firstS w ss t bl = some (s0, s1, s2, bl') ∧ CVs G t s0 s1 s2) ∧ (ok = true → firstS w ss t bl ≠ none → ok' = true) ∧ CSb G ∧ Fr [25, 27, 32, 37] F G := by
  obtain ⟨n0, z0, y0, x0⟩ := sb_n sb.1
  obtain ⟨n1, z1, y1, x1⟩ := sb_n sb.2.1
  obtain ⟨n2, z2, y2, x2⟩ := sb_n sb.2.2
  have tn : ok = true → n0 = tsb t.1 ∧ n1 = tsb t.2.1 ∧ n2 = tsb t.2.2 := fun o => by
    obtain ⟨⟨k0, k1, k2⟩, -⟩ := c o
    have b0 := tsb_le t.1
    have b1 := tsb_le t.2.1
    have b2 := tsb_le t.2.2
    exact ⟨nI_inj (by omega) (by omega) (z0.symm.trans k0.sb), nI_inj (by omega) (by omega) (z1.symm.trans k1.sb), nI_inj (by omega) (by omega) (z2.symm.trans k2.sb)⟩
  obtain ⟨A, eA, hA, fA⟩ := wr_take h (n := n0) (by omega)
  obtain ⟨v0, hv0⟩ : ∃ v, v = nbits w ss bl n0 := ⟨_, rfl⟩
  have l0' : v0 < 2 ^ n0 := by rw [hv0]; exact nbits_lt _ _ _ _
  rw [← hv0] at eA
  have fA' : Fr [27] A (u2 A 27 6 (nI v0)) := Fr.u (by simp)
  have hA' := hA.fr fA' (by decide) (by decide) (by decide)
  obtain ⟨blA, hblA⟩ : ∃ b, b = (if n0 ≤ bl then bl - n0 else bl) := ⟨_, rfl⟩
  rw [← hblA] at hA'
  obtain ⟨B, eB, hB, fB⟩ := wr_take hA' (n := n1) (by omega)
  obtain ⟨v1, hv1⟩ : ∃ v, v = nbits w ss blA n1 := ⟨_, rfl⟩
  have l1' : v1 < 2 ^ n1 := by rw [hv1]; exact nbits_lt _ _ _ _
  rw [← hv1] at eB
  have fB' : Fr [32] B (u2 B 32 6 (nI v1)) := Fr.u (by simp)
  have hB' := hB.fr fB' (by decide) (by decide) (by decide)
  obtain ⟨blB, hblB⟩ : ∃ b, b = (if n1 ≤ blA then blA - n1 else blA) := ⟨_, rfl⟩
  rw [← hblB] at hB'
  obtain ⟨C, eC, hC, fC⟩ := wr_take hB' (n := n2) (by omega)
  obtain ⟨v2, hv2⟩ : ∃ v, v = nbits w ss blB n2 := ⟨_, rfl⟩
  have l2' : v2 < 2 ^ n2 := by rw [hv2]; exact nbits_lt _ _ _ _
  rw [← hv2] at eC
  have fC' : Fr [37] C (u2 C 37 6 (nI v2)) := Fr.u (by simp)
  have hC' := hC.fr fC' (by decide) (by decide) (by decide)
  obtain ⟨blC, hblC⟩ : ∃ b, b = (if n2 ≤ blB then blB - n2 else blB) := ⟨_, rfl⟩
  rw [← hblC] at hC'
  have F27 : ∀ j, j ≠ 6 → (u2 C 37 6 (nI v2)) 27 j = F 27 j := fun j hj => by
    rw [fC' 27 (by decide), fC 27 (by decide), fB' 27 (by decide), fB 27 (by decide), u2_p hj, fA 27 (by decide)]
  have F32 : ∀ j, j ≠ 6 → (u2 C 37 6 (nI v2)) 32 j = F 32 j := fun j hj => by
    rw [fC' 32 (by decide), fC 32 (by decide), u2_p hj, fB 32 (by decide), fA' 32 (by decide), fA 32 (by decide)]
  have F37 : ∀ j, j ≠ 6 → (u2 C 37 6 (nI v2)) 37 j = F 37 j := fun j hj => by
    rw [u2_p hj, fC 37 (by decide), fB' 37 (by decide), fB 37 (by decide), fA' 37 (by decide), fA 37 (by decide)]
  have ft : Fr [25, 27, 32, 37] F (u2 C 37 6 (nI v2)) := (((((fA.up (by simp)).tr (fA'.up (by simp))).tr (fB.up (by simp))).tr (fB'.up (by simp))).tr (fC.up (by simp))).tr (fC'.up (by simp))
  have tcv : ∀ {i0 a1 a2 a3 : Nat} {tt : TT}, TC F i0 a1 a2 a3 tt → (∀ j, j ≠ 6 → (u2 C 37 6 (nI v2)) i0 j = F i0 j) → a1 ∉ [25, 27, 32, 37] → a2 ∉ [25, 27, 32, 37] → a3 ∉ [25, 27, 32, 37] → TC (u2 C 37 6 (nI v2)) i0 a1 a2 a3 tt := by
    intro i0 a1 a2 a3 tt k e k1 k2 k3
    unfold TC TD at *
    rw [e 5 (by decide), ft a1 k1, ft a2 k2, ft a3 k3]
    exact k
  refine ⟨u2 C 37 6 (nI v2), v0, v1, v2, blC, _, ?_, hC', fun o => ?_, fun o s => ?_, ⟨?_, ?_, ?_⟩, ft⟩
  · unfold f_Sq_takeFirstStates
    rw [r260, show mRf L1 26 1 = 27 from rfl, show mRf L1 26 2 = 32 from rfl, show mRf L1 26 3 = 37 from rfl, z0, eA]
    dsimp only [Option.bind_some]
    rw [ld, show (u2 A 27 6 (nI v0)) 32 5 = nI n1 by rw [fA' 32 (by decide), fA 32 (by decide)]; exact z1, eB]
    dsimp only [Option.bind_some]
    rw [ld, show (u2 B 32 6 (nI v1)) 37 5 = nI n2 by rw [fB' 37 (by decide), fB 37 (by decide), fA' 37 (by decide), fA 37 (by decide)]; exact z2, eC]
    rfl
  · have o' : ((ok = true ∧ n0 ≤ bl) ∧ n1 ≤ blA) ∧ n2 ≤ blB := by simpa using o
    obtain ⟨⟨⟨o1, q1⟩, q2⟩, q3⟩ := o'
    obtain ⟨⟨k0, k1, k2⟩, g0, g1, g2⟩ := c o1
    obtain ⟨rfl, rfl, rfl⟩ := tn o1
    rw [if_pos q1] at hblA
    subst hblA
    rw [if_pos q2] at hblB
    subst hblB
    rw [if_pos q3] at hblC
    subst hblC
    refine ⟨o1, ?_, ⟨tcv k0 F27 (by decide) (by decide) (by decide), g0, ?_, tsb_ok l0'⟩, ⟨tcv k1 F32 (by decide) (by decide) (by decide), g1, ?_, tsb_ok l1'⟩, ⟨tcv k2 F37 (by decide) (by decide) (by decide), g2, u2_s, tsb_ok l2'⟩⟩
    · unfold firstS tk
      simp only [if_pos q1, if_pos q2, if_pos q3, Option.bind_some]
      rw [hv0, hv1, hv2]
    · rw [fC' 27 (by decide), fC 27 (by decide), fB' 27 (by decide), fB 27 (by decide), u2_s]
    · rw [fC' 32 (by decide), fC 32 (by decide), u2_s]
  · obtain ⟨rfl, rfl, rfl⟩ := tn o
    unfold firstS tk at s
    by_cases q1 : tsb t.1 ≤ bl
    · rw [if_pos q1] at hblA
      subst hblA
      by_cases q2 : tsb t.2.1 ≤ bl - tsb t.1
      · rw [if_pos q2] at hblB
        subst hblB
        by_cases q3 : tsb t.2.2 ≤ bl - tsb t.1 - tsb t.2.1
        · simp [o, q1, q2, q3]
        · simp [q1, q2, q3] at s
      · simp [q1, q2] at s
    · simp [q1] at s
  · rw [F27 5 (by decide)]; exact sb.1
  · rw [F32 5 (by decide)]; exact sb.2.1
  · rw [F37 5 (by decide)]; exact sb.2.2
theorem s70 (F : Mem) {c : Nat} (hc : c < 12) : mGa L1 F 70 c = nI (mB c) := by
  have : ∀ k, k < 12 → mGa L1 fST 70 k = nI (mB k) := by decide
  exact this c hc
theorem s71 (F : Mem) {c : Nat} (hc : c < 12) : mGa L1 F 71 c = nI (mb c) := by
  have : ∀ k, k < 12 → mGa L1 fST 71 k = nI (mb k) := by decide
  exact this c hc
theorem s68 (F : Mem) {c : Nat} (hc : c < 12) : mGa L1 F 68 c = nI (aB c) := by
  have : ∀ k, k < 12 → mGa L1 fST 68 k = nI (aB k) := by decide
  exact this c hc
theorem s69 (F : Mem) {c : Nat} (hc : c < 12) : mGa L1 F 69 c = nI (ab c) := by
  have : ∀ k, k < 12 → mGa L1 fST 69 k = nI (ab k) := by decide
  exact this c hc
theorem CVs.fr {F G : Mem} {t : T3} {s0 s1 s2 : Nat} {S : List Nat} (h : CVs F t s0 s1 s2) (f : Fr S F G) (n : ∀ k, 27 ≤ k → k ≤ 40 → k ∉ S) : CVs G t s0 s1 s2 :=
  ⟨h.1.fr f (n _ (by decide) (by decide)) (n _ (by decide) (by decide)) (n _ (by decide) (by decide)) (n _ (by decide) (by decide)), h.2.1.fr f (n _ (by decide) (by decide)) (n _ (by decide) (by decide)) (n _ (by decide) (by decide)) (n _ (by decide) (by decide)), h.2.2.fr f (n _ (by decide) (by decide)) (n _ (by decide) (by decide)) (n _ (by decide) (by decide)) (n _ (by decide) (by decide))⟩
theorem sq_seq {F : Mem} {w : List Nat} {p lim ss bl s0 s1 s2 : Nat} {ok : Bool} {t : T3} (h : CR F w p lim ss bl ok) (c : CVs F t s0 s1 s2) :
    ∃ G v m a bl', f_Sq_takeSequence L1 26 F = some G ∧ CR G w p lim ss bl' (ok && (seqS w ss t (s0, s1, s2, bl)).isSome) ∧ CVs G t s0 s1 s2 ∧ (G 26 7 = nI v ∧ G 26 8 = nI m ∧ G 26 6 = nI a) ∧ (1 ≤ v ∧ v < 256 ∧ 3 ≤ m ∧ m < 153 ∧ a < 80) ∧ (∀ r, seqS w ss t (s0, s1, s2, bl) = some r → r = ((v, m, a), (s0, s1, s2, bl'))) ∧ Fr [25, 26] F G ∧ G 26 5 = F 26 5 := by
  obtain ⟨c0, c1, c2⟩ := id c
  have w0 := c0.2.1.co c0.2.2.2
  have w1 := c1.2.1.co c1.2.2.2
  have w2 := c2.2.1.co c2.2.2.2
  have b0 := mb_le _ w0
  have b2 := mb_le _ w2
  have nn : ∀ k, 27 ≤ k → k ≤ 40 → k ∉ [25] := fun k h1 h2 => by simp; omega
  have nn6 : ∀ k, 27 ≤ k → k ≤ 40 → k ∉ [26] := fun k h1 h2 => by simp; omega
  obtain ⟨A, eA, hA, fA⟩ := wr_take h (n := tco t.2.1 s1) (by omega)
  obtain ⟨vA, hvA⟩ : ∃ v, v = nbits w ss bl (tco t.2.1 s1) := ⟨_, rfl⟩
  have lA : vA < 2 ^ tco t.2.1 s1 := by rw [hvA]; exact nbits_lt _ _ _ _
  rw [← hvA] at eA
  have pA : 2 ^ tco t.2.1 s1 ≤ 2 ^ 7 := Nat.pow_le_pow_right (by decide) (by omega)
  have pA1 : 0 < 2 ^ tco t.2.1 s1 := Nat.two_pow_pos _
  have fA' : Fr [26] A (u2 A 26 7 (nI (2 ^ tco t.2.1 s1 + vA))) := Fr.u (by simp)
  have hA' := hA.fr fA' (by decide) (by decide) (by decide)
  obtain ⟨blA, hblA⟩ : ∃ b, b = (if tco t.2.1 s1 ≤ bl then bl - tco t.2.1 s1 else bl) := ⟨_, rfl⟩
  rw [← hblA] at hA'
  have cA := (c.fr fA nn).fr fA' nn6
  obtain ⟨B, eB, hB, fB⟩ := wr_take hA' (n := mb (tco t.2.2 s2)) (by omega)
  obtain ⟨vB, hvB⟩ : ∃ v, v = nbits w ss blA (mb (tco t.2.2 s2)) := ⟨_, rfl⟩
  have lB : vB < 2 ^ mb (tco t.2.2 s2) := by rw [hvB]; exact nbits_lt _ _ _ _
  rw [← hvB] at eB
  have fB' : Fr [26] B (u2 B 26 8 (nI (mB (tco t.2.2 s2) + vB))) := Fr.u (by simp)
  have hB' := hB.fr fB' (by decide) (by decide) (by decide)
  obtain ⟨blB, hblB⟩ : ∃ b, b = (if mb (tco t.2.2 s2) ≤ blA then blA - mb (tco t.2.2 s2) else blA) := ⟨_, rfl⟩
  rw [← hblB] at hB'
  have cB := (cA.fr fB nn).fr fB' nn6
  obtain ⟨C, eC, hC, fC⟩ := wr_take hB' (n := ab (tco t.1 s0)) (by omega)
  obtain ⟨vC, hvC⟩ : ∃ v, v = nbits w ss blB (ab (tco t.1 s0)) := ⟨_, rfl⟩
  have lC : vC < 2 ^ ab (tco t.1 s0) := by rw [hvC]; exact nbits_lt _ _ _ _
  rw [← hvC] at eC
  have fC' : Fr [26] C (u2 C 26 6 (nI (aB (tco t.1 s0) + vC))) := Fr.u (by simp)
  have hC' := hC.fr fC' (by decide) (by decide) (by decide)
  obtain ⟨blC, hblC⟩ : ∃ b, b = (if ab (tco t.1 s0) ≤ blB then blB - ab (tco t.1 s0) else blB) := ⟨_, rfl⟩
  rw [← hblC] at hC'
  have cC := (cB.fr fC nn).fr fC' nn6
  refine ⟨u2 C 26 6 (nI (aB (tco t.1 s0) + vC)), 2 ^ tco t.2.1 s1 + vA, mB (tco t.2.2 s2) + vB, aB (tco t.1 s0) + vC, blC, ?_, ?_, cC, ⟨?_, ?_, u2_s⟩, ⟨by omega, by omega, by omega, by omega, by omega⟩, ?_, ?_, ?_⟩
  · unfold f_Sq_takeSequence
    rw [r260, show mRf L1 26 1 = 27 from rfl, show mRf L1 26 2 = 32 from rfl, show mRf L1 26 3 = 37 from rfl, st_code ti1 c1]
    dsimp only [Option.bind_some]
    rw [eA]
    dsimp only [Option.bind_some]
    rw [l1, jshl_n (by omega) (by omega), Nat.one_mul, nI_add, ld, st_code ti2 cA.2.2]
    dsimp only [Option.bind_some]
    rw [show mNc L1 + 4 = 70 from rfl, show mNc L1 + 5 = 71 from rfl, show mNc L1 + 2 = 68 from rfl, show mNc L1 + 3 = 69 from rfl, show mGl L1 70 = 12 from rfl, show mGl L1 71 = 12 from rfl, show mGl L1 68 = 12 from rfl, show mGl L1 69 = 12 from rfl, if_neg (inb_no (by omega) (by omega)), if_neg (inb_no (by omega) (by omega)), nI_clamp (by omega), s71 _ w2, s70 _ w2, eB]
    dsimp only [Option.bind_some]
    rw [nI_add, ld, st_code ti0 cB.1]
    dsimp only [Option.bind_some]
    rw [if_neg (inb_no (by omega) (by omega)), if_neg (inb_no (by omega) (by omega)), nI_clamp (by omega), s69 _ w0, s68 _ w0, eC]
    dsimp only [Option.bind_some]
    rw [nI_add, ld]
  · have e : (ok && decide (tco t.2.1 s1 ≤ bl) && decide (mb (tco t.2.2 s2) ≤ blA) && decide (ab (tco t.1 s0) ≤ blB)) = (ok && (seqS w ss t (s0, s1, s2, bl)).isSome) := by
      unfold seqS tk
      by_cases q1 : tco t.2.1 s1 ≤ bl
      · rw [if_pos q1] at hblA
        by_cases q2 : mb (tco t.2.2 s2) ≤ bl - tco t.2.1 s1
        · subst hblA
          rw [if_pos q2] at hblB
          by_cases q3 : ab (tco t.1 s0) ≤ bl - tco t.2.1 s1 - mb (tco t.2.2 s2)
          · subst hblB
            simp [q1, q2, q3]
          · subst hblB
            simp [q1, q2, q3]
        · subst hblA
          simp [q1, q2]
      · simp [q1]
    rw [← e]
    exact hC'
  · rw [u2_p (by decide), fC 26 (by decide), u2_p (by decide), fB 26 (by decide), u2_s]
  · rw [u2_p (by decide), fC 26 (by decide), u2_s]
  · intro r hr
    unfold seqS tk at hr
    by_cases q1 : tco t.2.1 s1 ≤ bl
    · rw [if_pos q1] at hblA
      by_cases q2 : mb (tco t.2.2 s2) ≤ bl - tco t.2.1 s1
      · subst hblA
        rw [if_pos q2] at hblB
        by_cases q3 : ab (tco t.1 s0) ≤ bl - tco t.2.1 s1 - mb (tco t.2.2 s2)
        · subst hblB
          rw [if_pos q3] at hblC
          simp only [if_pos q1, if_pos q2, if_pos q3, Option.bind_some, Option.some.injEq] at hr
          rw [hvA, hvB, hvC, hblC]
          exact hr.symm
        · simp [q1, q2, q3] at hr
      · simp [q1, q2] at hr
    · simp [q1] at hr
  · exact (((((fA.up (by simp)).tr (fA'.up (by simp))).tr (fB.up (by simp))).tr (fB'.up (by simp))).tr (fC.up (by simp))).tr (fC'.up (by simp))
  · rw [u2_p (by decide), fC 26 (by decide), u2_p (by decide), fB 26 (by decide), u2_p (by decide), fA 26 (by decide)]
