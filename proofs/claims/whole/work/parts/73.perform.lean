/-! pure: the model performs all sequences -/
def finS (fs fe : Nat) (lits : List Nat) (qs : List N3) (x : ES) : Option (List Nat × N3) := (exsS fs fe lits qs x).bind fun y => (litS fe lits (lits.length - y.2.1) y.1 y.2.1).bind fun o => some (o, y.2.2)
def QB (q : N3) : Prop := 1 ≤ q.1 ∧ q.1 < 256 ∧ 3 ≤ q.2.1 ∧ q.2.1 < 153 ∧ q.2.2 < 80
/-- the sequences qs stand in the model's arrays from j on -/
def MSq (G : Mem) (j : Nat) (qs : List N3) : Prop := ∀ i, i < qs.length → G 16 (j + i) = nI (qs.getD i (0, 0, 0)).1 ∧ G 17 (j + i) = nI (qs.getD i (0, 0, 0)).2.1 ∧ G 15 (j + i) = nI (qs.getD i (0, 0, 0)).2.2
theorem MSq.fm {G H : Mem} {j : Nat} {qs : List N3} {sl cs : List Nat} (h : MSq G j qs) (f : Fm sl cs G H) (h1 : 15 ∉ cs) (h2 : 16 ∉ cs) (h3 : 17 ∉ cs) : MSq H j qs := by
  intro i hi
  rw [f.1 16 (by decide) h2, f.1 17 (by decide) h3, f.1 15 (by decide) h1]
  exact h i hi
theorem MSq.tl {G : Mem} {j : Nat} {q : N3} {qs : List N3} (h : MSq G j (q :: qs)) : MSq G (j + 1) qs := by
  intro i hi
  have := h (i + 1) (by simp; omega)
  rw [show j + 1 + i = j + (i + 1) by omega]
  simpa using this
theorem pf_all {w lits : List Nat} {p bg due n : Nat} (hn : n ≤ 255) (hl : lits.length ≤ 63) : ∀ (qs : List N3) (j : Nat) (G : Mem) (o : List Nat) (u : Nat) (r : N3) (fu : Nat), qs.length + j = n → qs.length < fu → MN G w p true → MX G bg due o → MD G 13 5 lits → MRp G r → RB r → u ≤ lits.length → G 0 28 = nI n → MSq G j qs → (∀ q ∈ qs, QB q) →
    ∃ H o' r' ok', f_Md_perform_4 L2 fu 0 (nI u) (nI j) G = some H ∧ MN H w p ok' ∧ MX H bg due o' ∧ (ok' = true → finS bg (mcap bg due) lits qs (o, u, r) = some (o', r') ∧ MRp H r' ∧ RB r') ∧ (finS bg (mcap bg due) lits qs (o, u, r) ≠ none → ok' = true) ∧ Fm [5, 6] [3, 4] G H := by
  intro qs
  induction qs with
  | nil =>
    intro j G o u r fu hd hf h x hlt hr hrb hu h28 hq hb
    obtain ⟨fu, rfl⟩ : ∃ k, fu = k + 1 := ⟨fu - 1, by simp at hf; omega⟩
    obtain rfl : j = n := by simpa using hd
    obtain ⟨H, o', ok', e, k1, k2, k3, k4, f⟩ := pf191 (w := w) (p := p) (bg := bg) (due := due) hl (lits.length - u) u G o mFU (by omega) (by unfold mFU; omega) h x hlt
    refine ⟨H, o', r, ok', ?_, k1, k2, fun ok => ?_, fun hs => ?_, f.up (by simp) (by simp)⟩
    · show b_Md_perform_4 L2 (f_Md_perform_4 L2 fu) 0 (nI u) (nI j) G = _
      unfold b_Md_perform_4
      rw [h28, ile (Nat.le_refl _) (by omega)]
      exact e
    · obtain ⟨c1, c2⟩ := k3 ok
      refine ⟨?_, ?_, hrb⟩
      · unfold finS exsS litS
        dsimp only [Option.bind_some]
        rw [if_pos ⟨by omega, c1⟩, c2]
        rfl
      · unfold MRp at *
        rw [f.1 4 (by decide) (by decide)]
        exact hr
    · refine k4 ?_
      unfold finS exsS litS at hs
      dsimp only [Option.bind_some] at hs
      by_cases q : u + (lits.length - u) ≤ lits.length ∧ o.length + (lits.length - u) ≤ mcap bg due
      · exact q.2
      · rw [if_neg q] at hs
        exact absurd rfl hs
  | cons q qs ih =>
    intro j G o u r fu hd hf h x hlt hr hrb hu h28 hq hb
    simp only [List.length_cons] at hd hf
    obtain ⟨fu, rfl⟩ : ∃ k, fu = k + 1 := ⟨fu - 1, by omega⟩
    obtain ⟨v, m, a⟩ := q
    have q0 := hq 0 (by simp)
    simp only [Nat.add_zero, List.getD_cons_zero] at q0
    obtain ⟨A, u', o', r', okA, eA, k1, k2, k3, k4, fA⟩ := pf_one (j := j) (n := n) (by omega) hn (hb (v, m, a) (by simp)) hl h x hlt hr hrb hu h28 q0.1 q0.2.1 q0.2.2 (f_Md_perform_4 L2 fu)
    have st : f_Md_perform_4 L2 (fu + 1) 0 (nI u) (nI j) G = f_Md_perform_4 L2 fu 0 (nI u') (nI (j + 1)) A := eA
    have ef : finS bg (mcap bg due) lits ((v, m, a) :: qs) (o, u, r) = (exS bg (mcap bg due) lits (v, m, a) (o, u, r)).bind fun y => finS bg (mcap bg due) lits qs y := by
      unfold finS
      show ((exS bg (mcap bg due) lits (v, m, a) (o, u, r)).bind fun y => exsS bg (mcap bg due) lits qs y).bind _ = _
      cases exS bg (mcap bg due) lits (v, m, a) (o, u, r) <;> rfl
    cases okA with
    | false =>
      obtain ⟨fu, rfl⟩ : ∃ k, fu = k + 1 := ⟨fu - 1, by omega⟩
      refine ⟨A, o', r, false, by rw [st, pf_bad k1], k1, k2, fun q => absurd q (by decide), fun hs => ?_, fA⟩
      have : exS bg (mcap bg due) lits (v, m, a) (o, u, r) = none := by
        cases e : exS bg (mcap bg due) lits (v, m, a) (o, u, r) with
        | none => rfl
        | some y => exact absurd (k4 (by rw [e]; simp)) (by decide)
      rw [ef, this] at hs
      exact absurd rfl hs
    | true =>
      obtain ⟨c1, c2, c3, c4⟩ := k3 rfl
      obtain ⟨H, o2, r2, ok2, e2, n1, n2, n3, n4, f2⟩ := ih (j + 1) A o' u' r' fu (by omega) (by omega) k1 k2 (hlt.fm fA (by decide) (by decide) (by decide)) c2 c3 c4 (by rw [fA.2 28 (by decide)]; exact h28) (hq.tl.fm fA (by decide) (by decide) (by decide)) (fun q hq => hb q (by simp [hq]))
      refine ⟨H, o2, r2, ok2, st.trans e2, n1, n2, fun ok => ?_, fun hs => n4 ?_, fA.tr f2⟩
      · rw [ef, c1]
        exact n3 ok
      · rw [ef, c1] at hs
        exact hs
