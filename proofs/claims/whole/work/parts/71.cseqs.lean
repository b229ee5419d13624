/-! pure: the class reads the sequences and puts them -/
def CK (F : Mem) (fs fe : Nat) (lits : List Nat) (x : ES) : Prop := CO F fs fe x.1 ∧ CL F lits x.2.1 ∧ CRp F x.2.2
/-- n sequences more, each behind new states -/
def restS (w : List Nat) (ss : Nat) (t : T3) : Nat → N4 → Option (List N3 × Nat)
  | 0, s => some ([], s.2.2.2)
  | n + 1, s => (nextS w ss t s).bind fun s' => (seqS w ss t s').bind fun q => (restS w ss t n q.2).bind fun z => some (q.1 :: z.1, z.2)
def allS (w : List Nat) (ss : Nat) (t : T3) : Nat → N4 → Option (List N3 × Nat)
  | 0, s => some ([], s.2.2.2)
  | n + 1, s => (seqS w ss t s).bind fun q => (restS w ss t n q.2).bind fun z => some (q.1 :: z.1, z.2)
theorem rest_succ (w : List Nat) (ss : Nat) (t : T3) (n : Nat) (s : N4) : restS w ss t (n + 1) s = (nextS w ss t s).bind fun s' => allS w ss t (n + 1) s' := rfl
def exsS (fs fe : Nat) (lits : List Nat) : List N3 → ES → Option ES
  | [], x => some x
  | q :: l, x => (exS fs fe lits q x).bind fun y => exsS fs fe lits l y
/-- the same, read and put one by one -/
def intS (w : List Nat) (ss : Nat) (t : T3) (fs fe : Nat) (lits : List Nat) : Nat → N4 → ES → Option (Nat × ES)
  | 0, s, x => some (s.2.2.2, x)
  | n + 1, s, x => (nextS w ss t s).bind fun s' => (seqS w ss t s').bind fun q => (exS fs fe lits q.1 x).bind fun y => intS w ss t fs fe lits n q.2 y
theorem int_rest (w : List Nat) (ss : Nat) (t : T3) (fs fe : Nat) (lits : List Nat) : ∀ (n : Nat) (s : N4) (x : ES), intS w ss t fs fe lits n s x = (restS w ss t n s).bind fun z => (exsS fs fe lits z.1 x).bind fun y => some (z.2, y)
  | 0, s, x => rfl
  | n + 1, s, x => by
    unfold intS restS
    cases nextS w ss t s with
    | none => rfl
    | some s' =>
      dsimp only [Option.bind_some]
      cases seqS w ss t s' with
      | none => rfl
      | some q =>
        dsimp only [Option.bind_some]
        cases e : exS fs fe lits q.1 x with
        | none =>
          cases restS w ss t n q.2 with
          | none => rfl
          | some z =>
            dsimp only [Option.bind_some, Option.bind_none]
            unfold exsS
            rw [e]
            rfl
        | some y =>
          dsimp only [Option.bind_some]
          rw [int_rest w ss t fs fe lits n q.2 y]
          cases restS w ss t n q.2 with
          | none => rfl
          | some z =>
            dsimp only [Option.bind_some]
            show _ = ((exS fs fe lits q.1 x).bind fun y => exsS fs fe lits z.1 y).bind _
            rw [e]
            rfl
def strS (w : List Nat) (lim : Nat) (t : T3) (c p fs fe : Nat) (lits : List Nat) (x : ES) : Option ES :=
  if p < lim ∧ w.getD (lim - 1) 0 ≠ 0 then
    (firstS w p t (8 * (lim - p - 1) + Nat.log2 (w.getD (lim - 1) 0))).bind fun s => (allS w p t c s).bind fun z => if z.2 = 0 then exsS fs fe lits z.1 x else none
  else none
theorem CK.fr {F G : Mem} {fs fe : Nat} {lits : List Nat} {x : ES} {S : List Nat} (h : CK F fs fe lits x) (f : Fr S F G) (n : ∀ k, k = 15 ∨ k = 16 ∨ k = 17 ∨ k = 18 ∨ k = 23 ∨ k = 24 → k ∉ S) : CK G fs fe lits x :=
  ⟨h.1.fr f (n _ (by omega)) (n _ (by omega)) (n _ (by omega)), h.2.1.fr f (n _ (by omega)) (n _ (by omega)) (n _ (by omega)), h.2.2.fr f (n _ (by omega))⟩
theorem CVs.sb {F : Mem} {t : T3} {s0 s1 s2 : Nat} (h : CVs F t s0 s1 s2) : CSb F := by
  have q : ∀ t : TT, tsb t = 0 ∨ tsb t = 4 := fun t => by cases t; exact Or.inl rfl; exact Or.inr rfl
  refine ⟨?_, ?_, ?_⟩
  · rw [h.1.1.sb]; rcases q t.1 with e | e <;> rw [e] <;> simp
  · rw [h.2.1.1.sb]; rcases q t.2.1 with e | e <;> rw [e] <;> simp
  · rw [h.2.2.1.sb]; rcases q t.2.2 with e | e <;> rw [e] <;> simp
theorem CVs.ts {F : Mem} {t : T3} {s0 s1 s2 : Nat} (h : CVs F t s0 s1 s2) : CTs F t := ⟨h.1.1, h.2.1.1, h.2.2.1⟩
theorem sq_body {F : Mem} {w : List Nat} {p lim ss bl s0 s1 s2 fs fe i : Nat} {ok : Bool} {t : T3} {lits : List Nat} {x : ES} (h : CR F w p lim ss bl ok) (c : CVs F t s0 s1 s2) (k : CK F fs fe lits x) (x1 : Int32) (kk : Nat → Int32 → Int32 → Mem → Option Mem) :
    ∃ G bl' x' ok', b_Fr_readSequences_49 L1 kk 15 x1 (nI i) F = kk 15 x1 (nI (i + 1)) G ∧ CR G w p lim ss bl' ok' ∧ CVs G t s0 s1 s2 ∧ CK G fs fe lits x' ∧ (ok' = true → ok = true ∧ ∃ q, seqS w ss t (s0, s1, s2, bl) = some (q, (s0, s1, s2, bl')) ∧ exS fs fe lits q x = some x') ∧ (ok = true → ∀ q s z, seqS w ss t (s0, s1, s2, bl) = some (q, s) → exS fs fe lits q x = some z → ok' = true) ∧ Fr [15, 16, 17, 18, 25, 26] F G ∧ G 15 6 = F 15 6 ∧ G 26 5 = F 26 5 := by
  obtain ⟨A, v, m, a, blA, eA, hA, cA, sA, bA, rA, fA, tA⟩ := sq_seq h c
  have kA : CK A fs fe lits x := k.fr fA (by simp)
  obtain ⟨B, oB, uB, eB, hB, coB, clB, rB, fB, tB⟩ := fr_lits hA kA.1 kA.2.1 (n := a) (by omega)
  obtain ⟨C, oC, rC, eC, hC, coC, crC, rrC, fC⟩ := fr_match hB coB (kA.2.2.fr fB (by decide)) (by rw [fB 26 (by decide)]; exact sA) bA
  refine ⟨C, blA, (oC, uB, rC), _, ?_, hC, ((cA.fr fB (by simp; omega)).fr fC (by simp; omega)), ⟨coC, clB.fr fC (by decide) (by decide) (by decide), crC⟩, ?_, ?_, ((fA.up (by simp)).tr (fB.up (by simp))).tr (fC.up (by simp)), ?_, ?_⟩
  · unfold b_Fr_readSequences_49
    rw [r152, eA]
    dsimp only [Option.bind_some]
    rw [sA.2.2, eB]
    dsimp only [Option.bind_some]
    rw [eC]
    dsimp only [Option.bind_some]
    rw [nI_1]
  · intro o
    have o' : ((ok = true ∧ (seqS w ss t (s0, s1, s2, bl)).isSome = true) ∧ (litS fe lits a x.1 x.2.1).isSome = true) ∧ (matS fs fe v m a oB x.2.2).isSome = true := by simpa using o
    obtain ⟨⟨⟨o1, o2⟩, o3⟩, o4⟩ := o'
    obtain ⟨r, hr⟩ := Option.isSome_iff_exists.mp o2
    obtain ⟨z, hz⟩ := Option.isSome_iff_exists.mp o3
    obtain ⟨y, hy⟩ := Option.isSome_iff_exists.mp o4
    have r1 := rA r hr
    obtain ⟨z1, z2⟩ := rB z hz
    have y1 := rrC y hy
    subst r1 z1 y1
    refine ⟨o1, _, hr, ?_⟩
    unfold exS
    dsimp only
    rw [hz]
    dsimp only [Option.bind_some]
    rw [hy, z2]
    rfl
  · intro o q s z hq hz
    have r1 := rA _ hq
    injection r1 with r1 r2
    subst r1
    unfold exS at hz
    dsimp only at hz
    cases e3 : litS fe lits a x.1 x.2.1 with
    | none => rw [e3] at hz; exact absurd hz (by simp)
    | some z3 =>
      rw [e3] at hz
      dsimp only [Option.bind_some] at hz
      obtain ⟨z1, z2⟩ := rB z3 e3
      subst z1
      cases e4 : matS fs fe v m a z3 x.2.2 with
      | none => rw [e4] at hz; exact absurd hz (by simp)
      | some z4 => simp [o, hq]
  · rw [fC 15 (by decide), tB, fA 15 (by decide)]
  · rw [fC 26 (by decide), fB 26 (by decide), tA]
theorem CR.s1 {F : Mem} {w : List Nat} {p lim ss bl : Nat} (h : CR F w p lim ss bl true) : ¬ F 25 3 = 0 := by rw [h.2.1.2.2.1]; decide
theorem CR.s0 {F : Mem} {w : List Nat} {p lim ss bl : Nat} (h : CR F w p lim ss bl false) : F 25 3 = 0 := h.2.1.2.2.1
theorem fr_b77 {F : Mem} {w : List Nat} {p lim ss bl : Nat} {ok : Bool} (h : CR F w p lim ss bl ok) : ∃ G, b_Fr_readSequences_77 L1 15 F = some G ∧ CR G w p lim ss bl (ok && decide (bl = 0)) ∧ Fr [25] F G := by
  obtain ⟨G, e, c, f⟩ := wr_end h
  refine ⟨G, ?_, c, f⟩
  unfold b_Fr_readSequences_77
  rw [r151, e]
  rfl
theorem sq_loop {w : List Nat} {p lim ss fs fe c : Nat} {t : T3} {lits : List Nat} (hc : c < 256) : ∀ (d i : Nat) (F : Mem) (bl s0 s1 s2 : Nat) (ok : Bool) (x : ES) (fu : Nat), d + i = c → d < fu → 1 ≤ i → CR F w p lim ss bl ok → CVs F t s0 s1 s2 → CK F fs fe lits x →
    ∃ G bl' ok' x' z0 z1 z2, f_Fr_readSequences_23 L1 fu 15 (nI c) (nI i) F = some G ∧ CR G w p lim ss bl' ok' ∧ CVs G t z0 z1 z2 ∧ CK G fs fe lits x' ∧ (ok' = true → ok = true ∧ intS w ss t fs fe lits d (s0, s1, s2, bl) x = some (0, x')) ∧ (ok = true → ∀ z, intS w ss t fs fe lits d (s0, s1, s2, bl) x = some (0, z) → ok' = true) ∧ Fr [15, 16, 17, 18, 25, 26, 27, 32, 37] F G ∧ G 15 6 = F 15 6 ∧ G 26 5 = F 26 5 := by
  intro d
  induction d with
  | zero =>
    intro i F bl s0 s1 s2 ok x fu hd hf hi h cv k
    obtain ⟨fu, rfl⟩ : ∃ k, fu = k + 1 := ⟨fu - 1, by omega⟩
    obtain ⟨G, e, cG, f⟩ := fr_b77 h
    refine ⟨G, bl, _, x, s0, s1, s2, ?_, cG, cv.fr f (by simp; omega), k.fr f (by simp), fun o => ?_, fun o z hz => ?_, f.up (by simp), by rw [f 15 (by decide)], by rw [f 26 (by decide)]⟩
    · show b_Fr_readSequences_23 L1 (f_Fr_readSequences_23 L1 fu) 15 (nI c) (nI i) F = _
      unfold b_Fr_readSequences_23
      rw [ile (by omega) (by omega)]
      exact e
    · have o' : ok = true ∧ bl = 0 := by simpa using o
      refine ⟨o'.1, ?_⟩
      unfold intS
      rw [o'.2]
    · unfold intS at hz
      injection hz with hz
      injection hz with hz
      have : bl = 0 := hz
      simp [o, this]
  | succ d ih =>
    intro i F bl s0 s1 s2 ok x fu hd hf hi h cv k
    obtain ⟨fu, rfl⟩ : ∃ k, fu = k + 1 := ⟨fu - 1, by omega⟩
    cases ok with
    | false =>
      obtain ⟨G, e, cG, f⟩ := fr_b77 h
      refine ⟨G, bl, false, x, s0, s1, s2, ?_, by simpa using cG, cv.fr f (by simp; omega), k.fr f (by simp), fun o => absurd o (by decide), fun o => absurd o (by decide), f.up (by simp), by rw [f 15 (by decide)], by rw [f 26 (by decide)]⟩
      show b_Fr_readSequences_23 L1 (f_Fr_readSequences_23 L1 fu) 15 (nI c) (nI i) F = _
      unfold b_Fr_readSequences_23
      rw [ilen (by omega) (by omega), r151, if_pos h.s0]
      exact e
    | true =>
      obtain ⟨A, z0, z1, z2, blA, eA, hA, cA, rA, fA⟩ := sq_next h cv
      have kA : CK A fs fe lits x := k.fr fA (by simp)
      obtain ⟨B, blB, xB, okB, eB, hB, cB, kB, g1, g2, fB, tB, uB⟩ := sq_body (i := i) hA cA kA (nI c) (f_Fr_readSequences_23 L1 fu)
      obtain ⟨C, blC, okC, xC, y0, y1, y2, eC, hC, cC, kC, g3, g4, fC, tC, uC⟩ := ih (i + 1) B blB z0 z1 z2 okB xB fu (by omega) (by omega) (by omega) hB cB kB
      refine ⟨C, blC, okC, xC, y0, y1, y2, ?_, hC, cC, kC, fun o => ?_, fun _ z hz => ?_, ((fA.up (by simp)).tr (fB.up (by simp))).tr (fC.up (by simp)), by rw [tC, tB, fA 15 (by decide)], by rw [uC, uB, fA 26 (by decide)]⟩
      · show b_Fr_readSequences_23 L1 (f_Fr_readSequences_23 L1 fu) 15 (nI c) (nI i) F = _
        unfold b_Fr_readSequences_23
        rw [ilen (by omega) (by omega), r151, if_neg h.s1, l0, ilen (by omega) (by omega), r152, eA]
        dsimp only [Option.bind_some]
        rw [eB]
        exact eC
      · obtain ⟨o1, i1⟩ := g3 o
        obtain ⟨o2, q, q1, q2⟩ := g1 o1
        have o3 : (nextS w ss t (s0, s1, s2, bl)).isSome = true := by simpa using o2
        obtain ⟨r, hr⟩ := Option.isSome_iff_exists.mp o3
        have := rA r hr
        subst this
        refine ⟨rfl, ?_⟩
        unfold intS
        rw [hr]
        dsimp only [Option.bind_some]
        rw [q1]
        dsimp only [Option.bind_some]
        rw [q2]
        exact i1
      · unfold intS at hz
        cases e1 : nextS w ss t (s0, s1, s2, bl) with
        | none => rw [e1] at hz; exact absurd hz (by simp)
        | some r =>
          have := rA r e1
          subst this
          rw [e1] at hz
          dsimp only [Option.bind_some] at hz
          cases e2 : seqS w ss t (z0, z1, z2, blA) with
          | none => rw [e2] at hz; exact absurd hz (by simp)
          | some q =>
            rw [e2] at hz
            dsimp only [Option.bind_some] at hz
            cases e3 : exS fs fe lits q.1 x with
            | none => rw [e3] at hz; exact absurd hz (by simp)
            | some y =>
              rw [e3] at hz
              dsimp only [Option.bind_some] at hz
              have oB : okB = true := g2 (by simp [e1]) q.1 q.2 y e2 e3
              obtain ⟨-, q', q1, q2⟩ := g1 oB
              rw [e2] at q1
              injection q1 with q1
              subst q1
              rw [e3] at q2
              injection q2 with q2
              subst q2
              exact g4 oB z hz
theorem fr_seqs {F : Mem} {w : List Nat} {p lim ss bl fs fe c : Nat} {ok : Bool} {t : T3} {lits : List Nat} {x : ES} (h : CR F w p lim ss bl ok) (hc1 : 1 ≤ c) (hc : c < 256) (sb : CSb F) (ct : ok = true → CTs F t ∧ TG3 t) (k : CK F fs fe lits x) :
    ∃ G p' ss' bl' ok' x', f_Fr_readSequences L1 15 (nI c) F = some G ∧ CR G w p' lim ss' bl' ok' ∧ CK G fs fe lits x' ∧ CSb G ∧ (ok' = true → ok = true ∧ p' = lim ∧ strS w lim t c p fs fe lits x = some x' ∧ CTs G t) ∧ (ok = true → strS w lim t c p fs fe lits x ≠ none → ok' = true) ∧ Fr [15, 16, 17, 18, 25, 26, 27, 32, 37] F G ∧ G 15 6 = F 15 6 ∧ G 26 5 = F 26 5 := by
  have hpl := h.2.2.1
  have hlw := h.2.2.2.1
  have hw240 := h.2.2.2.2.2.1
  obtain ⟨A, eA, hA, fA⟩ := wr_stream h (n := lim - p) (by omega)
  have kA : CK A fs fe lits x := k.fr fA (by simp)
  have sA : CSb A := by unfold CSb at *; rw [fA 27 (by decide), fA 32 (by decide), fA 37 (by decide)]; exact sb
  -- the loop behind the first states
  have lp : ∀ (B : Mem) (p' ss' bl' : Nat) (okB : Bool) (s0 s1 s2 : Nat), CR B w p' lim ss' bl' okB → (okB = true → CVs B t s0 s1 s2) → CSb B → CK B fs fe lits x →
      ∃ G bl2 ok' x', f_Fr_readSequences_23 L1 mFU 15 (nI c) 0 B = some G ∧ CR G w p' lim ss' bl2 ok' ∧ CK G fs fe lits x' ∧ CSb G ∧ (ok' = true → okB = true ∧ (∃ z, allS w ss' t c (s0, s1, s2, bl') = some (z, 0) ∧ exsS fs fe lits z x = some x') ∧ CTs G t) ∧ (okB = true → ∀ z y, allS w ss' t c (s0, s1, s2, bl') = some (z, 0) → exsS fs fe lits z x = some y → ok' = true) ∧ Fr [15, 16, 17, 18, 25, 26, 27, 32, 37] B G ∧ G 15 6 = B 15 6 ∧ G 26 5 = B 26 5 := by
    intro B p' ss' bl' okB s0 s1 s2 hB cB sB kB
    cases okB with
    | false =>
      obtain ⟨G, e, cG, f⟩ := fr_b77 hB
      refine ⟨G, bl', false, x, ?_, by simpa using cG, kB.fr f (by simp), by unfold CSb at *; rw [f 27 (by decide), f 32 (by decide), f 37 (by decide)]; exact sB, fun o => absurd o (by decide), fun o => absurd o (by decide), f.up (by simp), by rw [f 15 (by decide)], by rw [f 26 (by decide)]⟩
      show b_Fr_readSequences_23 L1 (f_Fr_readSequences_23 L1 4095) 15 (nI c) (nI 0) B = _
      unfold b_Fr_readSequences_23
      rw [ilen (by omega) (by omega), r151, if_pos hB.s0]
      exact e
    | true =>
      obtain ⟨C, blC, xC, okC, eC, hC, cC, kC, g1, g2, fC, tC, uC⟩ := sq_body (i := 0) hB (cB rfl) kB (nI c) (f_Fr_readSequences_23 L1 4095)
      obtain ⟨D, blD, okD, xD, y0, y1, y2, eD, hD, cD, kD, g3, g4, fD, tD, uD⟩ := sq_loop (t := t) (lits := lits) hc (c - 1) 1 C blC s0 s1 s2 okC xC 4095 (by omega) (by omega) (by omega) hC cC kC
      have ec : allS w ss' t c (s0, s1, s2, bl') = (seqS w ss' t (s0, s1, s2, bl')).bind fun q => (restS w ss' t (c - 1) q.2).bind fun z => some (q.1 :: z.1, z.2) := by
        obtain ⟨c, rfl⟩ : ∃ k, c = k + 1 := ⟨c - 1, by omega⟩
        rfl
      refine ⟨D, blD, okD, xD, ?_, hD, kD, cD.sb, fun o => ?_, fun _ z y hz hy => ?_, (fC.up (by simp)).tr fD, by rw [tD, tC], by rw [uD, uC]⟩
      · show b_Fr_readSequences_23 L1 (f_Fr_readSequences_23 L1 4095) 15 (nI c) (nI 0) B = _
        unfold b_Fr_readSequences_23
        rw [ilen (by omega) (by omega), r151, if_neg hB.s1, if_pos (show nI 0 ≤ 0 by decide), eC]
        exact eD
      · obtain ⟨o1, i1⟩ := g3 o
        obtain ⟨-, q, q1, q2⟩ := g1 o1
        rw [int_rest] at i1
        cases e1 : restS w ss' t (c - 1) (s0, s1, s2, blC) with
        | none => rw [e1] at i1; exact absurd i1 (by simp)
        | some z =>
          rw [e1] at i1
          dsimp only [Option.bind_some] at i1
          cases e2 : exsS fs fe lits z.1 xC with
          | none => rw [e2] at i1; exact absurd i1 (by simp)
          | some y =>
            rw [e2] at i1
            dsimp only [Option.bind_some] at i1
            injection i1 with i1
            injection i1 with i1 i2
            subst i2
            refine ⟨rfl, ⟨q :: z.1, ?_, ?_⟩, cD.ts⟩
            · rw [ec, q1]
              dsimp only [Option.bind_some]
              rw [e1]
              dsimp only [Option.bind_some]
              rw [i1]
            · unfold exsS
              rw [q2]
              exact e2
      · rw [ec] at hz
        cases e1 : seqS w ss' t (s0, s1, s2, bl') with
        | none => rw [e1] at hz; exact absurd hz (by simp)
        | some q =>
          rw [e1] at hz
          dsimp only [Option.bind_some] at hz
          cases e2 : restS w ss' t (c - 1) q.2 with
          | none => rw [e2] at hz; exact absurd hz (by simp)
          | some r =>
            rw [e2] at hz
            dsimp only [Option.bind_some] at hz
            injection hz with hz
            injection hz with hz hz2
            subst hz
            unfold exsS at hy
            cases e3 : exS fs fe lits q.1 x with
            | none => rw [e3] at hy; exact absurd hy (by simp)
            | some y1 =>
              rw [e3] at hy
              dsimp only [Option.bind_some] at hy
              have oC : okC = true := g2 rfl q.1 q.2 y1 e1 e3
              obtain ⟨-, q', q1, q2⟩ := g1 oC
              rw [e1] at q1
              injection q1 with q1
              subst q1
              rw [e3] at q2
              injection q2 with q2
              subst q2
              refine g4 oC y ?_
              rw [int_rest, e2]
              dsimp only [Option.bind_some]
              rw [hy]
              dsimp only [Option.bind_some]
              rw [hz2]
  unfold f_Fr_readSequences
  rw [r151, r152, wr_left h]
  dsimp only [Option.bind_some]
  rw [eA]
  dsimp only [Option.bind_some]
  have ct' : ok = true → CTs A t ∧ TG3 t := fun o => by
    obtain ⟨⟨q1, q2, q3⟩, g⟩ := ct o
    exact ⟨⟨q1.fr fA (by decide) (by decide) (by decide) (by decide), q2.fr fA (by decide) (by decide) (by decide) (by decide), q3.fr fA (by decide) (by decide) (by decide) (by decide)⟩, g⟩
  by_cases q : 1 ≤ lim - p ∧ lim - p ≤ lim - p ∧ w.getD (p + (lim - p) - 1) 0 ≠ 0
  · rw [if_pos q] at hA
    have e1 : p + (lim - p) = lim := by omega
    rw [e1] at hA q
    have q' : p < lim ∧ w.getD (lim - 1) 0 ≠ 0 := ⟨by omega, q.2.2⟩
    obtain ⟨B, s0, s1, s2, blB, okB, eB, hB, g1, g2, sB, fB⟩ := sq_first hA sA ct'
    obtain ⟨D, blD, okD, xD, eD, hD, kD, sD, g3, g4, fD, tD, uD⟩ := lp B lim p blB okB s0 s1 s2 hB (fun o => (g1 o).2.2) sB (kA.fr fB (by simp))
    have es : strS w lim t c p fs fe lits x = (firstS w p t (8 * (lim - p - 1) + Nat.log2 (w.getD (lim - 1) 0))).bind fun s => (allS w p t c s).bind fun z => if z.2 = 0 then exsS fs fe lits z.1 x else none := if_pos q'
    refine ⟨D, lim, p, blD, okD, xD, ?_, hD, kD, sD, fun o => ?_, fun o hs => ?_, ((fA.up (by simp)).tr (fB.up (by simp))).tr fD, by rw [tD, fB 15 (by decide), fA 15 (by decide)], by rw [uD, fB 26 (by decide), fA 26 (by decide)]⟩
    · rw [eB]
      exact eD
    · obtain ⟨o1, ⟨z, z1, z2⟩, cD⟩ := g3 o
      obtain ⟨o2, fs1, -⟩ := g1 o1
      refine ⟨o2, rfl, ?_, cD⟩
      rw [es, fs1]
      dsimp only [Option.bind_some]
      rw [z1]
      exact z2
    · rw [es] at hs
      cases e2 : firstS w p t (8 * (lim - p - 1) + Nat.log2 (w.getD (lim - 1) 0)) with
      | none => rw [e2] at hs; exact absurd rfl hs
      | some s =>
        have oB := g2 o (by rw [e2]; simp)
        obtain ⟨-, f1, -⟩ := g1 oB
        rw [f1] at hs
        dsimp only [Option.bind_some] at hs
        cases e3 : allS w p t c (s0, s1, s2, blB) with
        | none => rw [e3] at hs; exact absurd rfl hs
        | some z =>
          rw [e3] at hs
          dsimp only [Option.bind_some] at hs
          by_cases hz : z.2 = 0
          · rw [if_pos hz] at hs
            obtain ⟨y, hy⟩ := Option.ne_none_iff_exists'.mp hs
            exact g4 oB z.1 y (by rw [e3, ← hz]) hy
          · rw [if_neg hz] at hs
            exact absurd rfl hs
  · rw [if_neg q] at hA
    obtain ⟨B, s0, s1, s2, blB, okB, eB, hB, g1, g2, sB, fB⟩ := sq_first (t := t) hA sA (fun o => absurd o (by decide))
    obtain ⟨D, blD, okD, xD, eD, hD, kD, sD, g3, g4, fD, tD, uD⟩ := lp B p ss blB okB s0 s1 s2 hB (fun o => (g1 o).2.2) sB (kA.fr fB (by simp))
    refine ⟨D, p, ss, blD, okD, xD, ?_, hD, kD, sD, fun o => absurd (g1 (g3 o).1).1 (by decide), fun o hs => ?_, ((fA.up (by simp)).tr (fB.up (by simp))).tr fD, by rw [tD, fB 15 (by decide), fA 15 (by decide)], by rw [uD, fB 26 (by decide), fA 26 (by decide)]⟩
    · rw [eB]
      exact eD
    · unfold strS at hs
      rw [if_neg (fun q' => q ⟨by omega, Nat.le_refl _, by rw [show p + (lim - p) = lim by omega]; exact q'.2⟩)] at hs
      exact absurd rfl hs
