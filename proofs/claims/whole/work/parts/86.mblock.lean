/-! pure: the model reads a block -/
theorem symsS_len {w : List Nat} {lim : Nat} {T : T4} {c p : Nat} {z : List Nat × Nat} (h : symsS w lim T c p = some z) : z.1.length = c := by
  unfold symsS at h
  split at h
  · cases e : symS w (p + 1) T c (8 * (w.getD p 0 - 1) + Nat.log2 (w.getD (p + w.getD p 0) 0)) with
    | none => rw [e] at h; exact absurd h (by simp)
    | some y =>
      rw [e] at h
      dsimp only [Option.bind_some] at h
      split at h
      · injection h with h
        subst h
        have := symS_len e
        exact this
      · exact absurd h (by simp)
  · exact absurd h (by simp)
theorem litsS_len {w : List Nat} {lim : Nat} {kt : Option T4} {p : Nat} {z : List Nat × Nat × Option T4} (hw : ∀ b ∈ w, b < 256) (h : litsS w lim kt p = some z) : z.1.length ≤ 63 := by
  have hb := nI_byte hw p
  unfold litsS at h
  split at h
  · split at h
    · split at h
      · injection h with h
        subst h
        dsimp only
        rw [List.length_take]
        omega
      · exact absurd h (by simp)
    · split at h
      · split at h
        · injection h with h
          subst h
          dsimp only
          rw [List.length_replicate]
          omega
        · exact absurd h (by simp)
      · split at h
        · cases e : treeS w lim (p + 1) with
          | none => rw [e] at h; exact absurd h (by simp)
          | some q =>
            rw [e] at h
            dsimp only [Option.bind_some] at h
            cases e2 : symsS w lim q.1 (w.getD p 0 / 4) q.2 with
            | none => rw [e2] at h; exact absurd h (by simp)
            | some y =>
              rw [e2] at h
              dsimp only [Option.bind_some] at h
              injection h with h
              subst h
              have := symsS_len e2
              dsimp only
              omega
        · cases kt with
          | none => exact absurd h (by simp)
          | some T =>
            dsimp only [Option.bind_some] at h
            cases e2 : symsS w lim T (w.getD p 0 / 4) (p + 1) with
            | none => rw [e2] at h; exact absurd h (by simp)
            | some y =>
              rw [e2] at h
              dsimp only [Option.bind_some] at h
              injection h with h
              subst h
              have := symsS_len e2
              dsimp only
              omega
  · exact absurd h (by simp)
theorem blockS_le {w : List Nat} {fs fe ty n p : Nat} {b : BSt} {z : Nat × BSt} (h : blockS w fs fe ty n p b = some z) : z.1 ≤ w.length := by
  unfold blockS at h
  split at h
  · split at h
    · injection h with h
      subst h
      dsimp only
      omega
    · exact absurd h (by simp)
  · split at h
    · split at h
      · injection h with h
        subst h
        dsimp only
        omega
      · exact absurd h (by simp)
    · split at h
      · split at h
        · cases e : packS w (p + n) fs fe p b with
          | none => rw [e] at h; exact absurd h (by simp)
          | some c =>
            rw [e] at h
            injection h with h
            subst h
            dsimp only
            omega
        · exact absurd h (by simp)
      · exact absurd h (by simp)
def MBs (G : Mem) (b : BSt) : Prop := MRp G b.2.1 ∧ RB b.2.1 ∧ MKT G b.2.2.1 ∧ MK G b.2.2.2
/-- the slots and cells that reading a frame may change -/
abbrev FL : List Nat := [4, 5, 6, 8, 9, 11, 12, 13, 15, 16, 17, 18, 28]
abbrev FC : List Nat := [3, 4, 5, 6, 7, 8, 9, 10, 11, 12, 13, 14, 15, 16, 17]
theorem MBs.fm {G H : Mem} {b : BSt} {o : List Nat} (h : MBs G b) (f : Fm [4, 5, 6] [3] G H) : MBs H (o, b.2) := by
  refine ⟨?_, h.2.1, h.2.2.1.fm f (by decide) (by decide) (by decide) (by decide) (by decide) (by decide), h.2.2.2.fm f (by simp; omega)⟩
  have := h.1
  unfold MRp at *
  rw [f.1 4 (by decide) (by decide)]
  exact this
theorem bl49_bad {G : Mem} {w : List Nat} {p : Nat} (h : MN G w p false) (fu : Nat) (x2 x4 : Int32) : f_Md_block_49 L2 (fu + 1) 0 x2 x4 G = some G := by
  show b_Md_block_49 L2 (f_Md_block_49 L2 fu) 0 x2 x4 G = _
  unfold b_Md_block_49 b_Md_block_84 b_Md_block_203
  rw [if_neg h.b1]
  split <;> rfl
theorem bl105_bad {G : Mem} {w : List Nat} {p : Nat} (h : MN G w p false) (fu : Nat) (x2 x4 x5 : Int32) : f_Md_block_105 L2 (fu + 1) 0 x2 x4 x5 G = some G := by
  show b_Md_block_105 L2 (f_Md_block_105 L2 fu) 0 x2 x4 x5 G = _
  unfold b_Md_block_105 b_Md_block_130 b_Md_block_203
  rw [if_neg h.b1]
  split <;> rfl
theorem bl49 {w : List Nat} {bg due n : Nat} (hn : n < 2 ^ 20) : ∀ (m d i : Nat) (G : Mem) (p : Nat) (o : List Nat) (fu : Nat), d + i = n → o.length + m = mcap bg due → m + 1 < fu → p ≤ w.length → MN G w p true → MX G bg due o →
    ∃ H p' o' ok', f_Md_block_49 L2 fu 0 (nI n) (nI i) G = some H ∧ MN H w p' ok' ∧ MX H bg due o' ∧ (ok' = true → (p + d ≤ w.length ∧ o.length + d ≤ mcap bg due) ∧ p' = p + d ∧ o' = o ++ (w.drop p).take d) ∧ (p + d ≤ w.length → o.length + d ≤ mcap bg due → ok' = true) ∧ Fm [4, 5, 6] [3] G H := by
  intro m
  induction m with
  | zero =>
    intro d i G p o fu hd hm hf hp h x
    obtain ⟨fu, rfl⟩ : ∃ k, fu = k + 1 := ⟨fu - 1, by omega⟩
    by_cases q0 : d = 0
    · subst q0
      refine ⟨G, p, o, true, ?_, h, x, fun _ => ⟨⟨by omega, by omega⟩, rfl, by simp⟩, fun _ _ => rfl, Fm.rf⟩
      show b_Md_block_49 L2 (f_Md_block_49 L2 fu) 0 (nI n) (nI i) G = _
      unfold b_Md_block_49 b_Md_block_84 b_Md_block_203
      rw [ile (by omega) (by omega)]
    · obtain ⟨A, eA, mA, fA⟩ := mn_next h (Nat.le_refl w.length)
      obtain ⟨B, eB, fB, g1, g2⟩ := md_emit mA (x.fm fA (by decide) (by decide) (by decide) (by simp)) (if p < w.length then w.getD p 0 else 0)
      obtain ⟨k1, k2⟩ := g2 (by omega)
      obtain ⟨fu, rfl⟩ : ∃ k, fu = k + 1 := ⟨fu - 1, by omega⟩
      refine ⟨B, _, o, false, ?_, k1, k2, fun q => absurd q (by decide), fun _ q => absurd q (by omega), (fA.up (by simp) (by simp)).tr (fB.up (by simp) (by simp))⟩
      show b_Md_block_49 L2 (f_Md_block_49 L2 (fu + 1)) 0 (nI n) (nI i) G = _
      unfold b_Md_block_49
      rw [ilen (by omega) (by omega), if_pos h.b0, h.1.1, eA]
      dsimp only [Option.bind_some]
      rw [eB]
      dsimp only [Option.bind_some]
      exact bl49_bad k1 fu _ _
  | succ m ih =>
    intro d i G p o fu hd hm hf hp h x
    obtain ⟨fu, rfl⟩ : ∃ k, fu = k + 1 := ⟨fu - 1, by omega⟩
    by_cases q0 : d = 0
    · subst q0
      refine ⟨G, p, o, true, ?_, h, x, fun _ => ⟨⟨by omega, by omega⟩, rfl, by simp⟩, fun _ _ => rfl, Fm.rf⟩
      show b_Md_block_49 L2 (f_Md_block_49 L2 fu) 0 (nI n) (nI i) G = _
      unfold b_Md_block_49 b_Md_block_84 b_Md_block_203
      rw [ile (by omega) (by omega)]
    · obtain ⟨d, rfl⟩ : ∃ k, d = k + 1 := ⟨d - 1, by omega⟩
      obtain ⟨A, eA, mA, fA⟩ := mn_next h (Nat.le_refl w.length)
      obtain ⟨B, eB, fB, g1, g2⟩ := md_emit mA (x.fm fA (by decide) (by decide) (by decide) (by simp)) (if p < w.length then w.getD p 0 else 0)
      obtain ⟨k1, k2⟩ := g1 (by omega)
      have fGB : Fm [4, 5, 6] [3] G B := (fA.up (by simp) (by simp)).tr (fB.up (by simp) (by simp))
      have st : f_Md_block_49 L2 (fu + 1) 0 (nI n) (nI i) G = f_Md_block_49 L2 fu 0 (nI n) (nI (i + 1)) B := by
        show b_Md_block_49 L2 (f_Md_block_49 L2 fu) 0 (nI n) (nI i) G = _
        unfold b_Md_block_49
        rw [ilen (by omega) (by omega), if_pos h.b0, h.1.1, eA]
        dsimp only [Option.bind_some]
        rw [eB]
        dsimp only [Option.bind_some]
        rw [nI_1]
      by_cases q : p < w.length
      · rw [Bool.true_and, decide_eq_true q, if_pos q] at k1
        rw [if_pos q] at k2
        obtain ⟨H, p', o', ok', e, n1, n2, n3, n4, f⟩ := ih d (i + 1) B (p + 1) _ fu (by omega) (by simp; omega) (by omega) (by omega) k1 k2
        refine ⟨H, p', o', ok', st.trans e, n1, n2, fun o' => ?_, fun c1 c2 => n4 (by omega) (by simp; omega), fGB.tr f⟩
        obtain ⟨⟨j1, j2⟩, j3, j4⟩ := n3 o'
        refine ⟨⟨by omega, by simp at j2; omega⟩, by omega, ?_⟩
        rw [j4, take_drop_succ q]
        simp
      · rw [Bool.true_and, decide_eq_false q] at k1
        obtain ⟨fu, rfl⟩ : ∃ k, fu = k + 1 := ⟨fu - 1, by omega⟩
        exact ⟨B, _, _, false, by rw [st, bl49_bad k1], k1, k2, fun q => absurd q (by decide), fun c1 _ => absurd c1 (by omega), fGB⟩
theorem bl105 {w : List Nat} {p bg due n y : Nat} (hn : n < 2 ^ 20) : ∀ (m d i : Nat) (G : Mem) (o : List Nat) (fu : Nat), d + i = n → o.length + m = mcap bg due → m + 1 < fu → MN G w p true → MX G bg due o →
    ∃ H o' ok', f_Md_block_105 L2 fu 0 (nI n) (nI y) (nI i) G = some H ∧ MN H w p ok' ∧ MX H bg due o' ∧ (ok' = true → o.length + d ≤ mcap bg due ∧ o' = o ++ List.replicate d y) ∧ (o.length + d ≤ mcap bg due → ok' = true) ∧ Fm [4, 5, 6] [3] G H := by
  intro m
  induction m with
  | zero =>
    intro d i G o fu hd hm hf h x
    obtain ⟨fu, rfl⟩ : ∃ k, fu = k + 1 := ⟨fu - 1, by omega⟩
    by_cases q0 : d = 0
    · subst q0
      refine ⟨G, o, true, ?_, h, x, fun _ => ⟨by omega, by simp⟩, fun _ => rfl, Fm.rf⟩
      show b_Md_block_105 L2 (f_Md_block_105 L2 fu) 0 (nI n) (nI y) (nI i) G = _
      unfold b_Md_block_105 b_Md_block_130 b_Md_block_203
      rw [ile (by omega) (by omega)]
    · obtain ⟨B, eB, fB, g1, g2⟩ := md_emit h x y
      obtain ⟨k1, k2⟩ := g2 (by omega)
      obtain ⟨fu, rfl⟩ : ∃ k, fu = k + 1 := ⟨fu - 1, by omega⟩
      refine ⟨B, o, false, ?_, k1, k2, fun q => absurd q (by decide), fun q => absurd q (by omega), fB.up (by simp) (by simp)⟩
      show b_Md_block_105 L2 (f_Md_block_105 L2 (fu + 1)) 0 (nI n) (nI y) (nI i) G = _
      unfold b_Md_block_105
      rw [ilen (by omega) (by omega), if_pos h.b0, eB]
      dsimp only [Option.bind_some]
      exact bl105_bad k1 fu _ _ _
  | succ m ih =>
    intro d i G o fu hd hm hf h x
    obtain ⟨fu, rfl⟩ : ∃ k, fu = k + 1 := ⟨fu - 1, by omega⟩
    by_cases q0 : d = 0
    · subst q0
      refine ⟨G, o, true, ?_, h, x, fun _ => ⟨by omega, by simp⟩, fun _ => rfl, Fm.rf⟩
      show b_Md_block_105 L2 (f_Md_block_105 L2 fu) 0 (nI n) (nI y) (nI i) G = _
      unfold b_Md_block_105 b_Md_block_130 b_Md_block_203
      rw [ile (by omega) (by omega)]
    · obtain ⟨d, rfl⟩ : ∃ k, d = k + 1 := ⟨d - 1, by omega⟩
      obtain ⟨B, eB, fB, g1, g2⟩ := md_emit h x y
      obtain ⟨k1, k2⟩ := g1 (by omega)
      obtain ⟨H, o', ok', e, n1, n2, n3, n4, f⟩ := ih d (i + 1) B _ fu (by omega) (by simp; omega) (by omega) k1 k2
      refine ⟨H, o', ok', ?_, n1, n2, fun o' => ?_, fun c => n4 (by simp; omega), (fB.up (by simp) (by simp)).tr f⟩
      · show b_Md_block_105 L2 (f_Md_block_105 L2 fu) 0 (nI n) (nI y) (nI i) G = _
        unfold b_Md_block_105
        rw [ilen (by omega) (by omega), if_pos h.b0, eB]
        dsimp only [Option.bind_some]
        rw [nI_1]
        exact e
      · obtain ⟨j1, j2⟩ := n3 o'
        refine ⟨by simp at j1; omega, ?_⟩
        rw [j2, List.replicate_succ]
        simp
theorem MX.len {G : Mem} {bg due : Nat} {o : List Nat} (h : MX G bg due o) : o.length ≤ 120 := Nat.le_trans h.2.2.2.2.1 (mcap_le bg due)
theorem md_block {G : Mem} {w : List Nat} {p bg due x : Nat} {ok : Bool} {b : BSt} (h : MN G w p ok) (hx : x < 256) (m : MX G bg due b.1) (k : ok = true → MBs G b) :
    ∃ H p' ok' b', f_Md_block L2 0 (nI x) G = some H ∧ MN H w p' ok' ∧ MX H bg due b'.1 ∧ (ok' = true → ok = true ∧ p < w.length ∧ blockS w bg (mcap bg due) (x / 2 % 4) (x / 8 + 32 * w.getD p 0) (p + 1) b = some (p', b') ∧ MBs H b') ∧ (ok = true → p < w.length → blockS w bg (mcap bg due) (x / 2 % 4) (x / 8 + 32 * w.getD p 0) (p + 1) b ≠ none → ok' = true) ∧ Fm FL FC G H ∧ H 0 8 = G 0 8 ∧ H 0 9 = G 0 9 := by
  have hw := h.2.2.2.2.2
  have h5 := h.2.2.2.2.1
  obtain ⟨A, eA, mA, fA⟩ := mn_next h (Nat.le_refl w.length)
  obtain ⟨y, hy⟩ : ∃ y, y = (if p < w.length then w.getD p 0 else 0) := ⟨_, rfl⟩
  have hy2 : y < 256 := by have := nI_byte hw p; rw [hy]; split <;> omega
  rw [← hy] at eA
  have xA : MX A bg due b.1 := m.fm fA (by decide) (by decide) (by decide) (by simp)
  have fGA : Fm FL FC G A := fA.up (by simp) (by simp)
  have bad : ∀ (p1 : Nat) (ok1 : Bool), MN A w p1 ok1 → (ok = true → p < w.length → blockS w bg (mcap bg due) (x / 2 % 4) (x / 8 + 32 * w.getD p 0) (p + 1) b = none) → ∃ H p' ok' b', some (u2 A 0 5 1) = some H ∧ MN H w p' ok' ∧ MX H bg due b'.1 ∧ (ok' = true → ok = true ∧ p < w.length ∧ blockS w bg (mcap bg due) (x / 2 % 4) (x / 8 + 32 * w.getD p 0) (p + 1) b = some (p', b') ∧ MBs H b') ∧ (ok = true → p < w.length → blockS w bg (mcap bg due) (x / 2 % 4) (x / 8 + 32 * w.getD p 0) (p + 1) b ≠ none → ok' = true) ∧ Fm FL FC G H ∧ H 0 8 = G 0 8 ∧ H 0 9 = G 0 9 := by
    intro p1 ok1 m1 q
    have fb : Fm [5] [] A (u2 A 0 5 1) := Fm.us (by simp)
    exact ⟨u2 A 0 5 1, p1, false, b, rfl, m1.bad, xA.fm fb (by decide) (by decide) (by decide) (by simp), fun o => absurd o (by decide), fun o c s => absurd (q o c) s, fGA.tr (fb.up (by simp) (by simp)), by rw [fb.2 8 (by decide), fA.2 8 (by decide)], by rw [fb.2 9 (by decide), fA.2 9 (by decide)]⟩
  have e34 : b_Md_block_34 L2 0 A = some (u2 A 0 5 1) := by
    unfold b_Md_block_34 b_Md_block_203
    rw [if_neg (fun q => q zb1), ld]
  unfold f_Md_block
  rw [h.1.1, eA]
  dsimp only [Option.bind_some]
  by_cases q0 : ok = true ∧ p < w.length
  · obtain ⟨o, hp⟩ := q0
    subst o
    rw [if_pos hp] at hy mA
    rw [Bool.true_and, decide_eq_true hp] at mA
    rw [if_pos mA.b0, show jshr (nI x) 1 &&& 3 = nI (x / 2 % 4) by rw [l1, jshr_n (by omega) (by omega), pk_andN (by omega) 2 rfl], show jshr (nI x) 3 + 32 * nI y = nI (x / 8 + 32 * y) by rw [l3, jshr_n (by omega) (by omega), l32, pk_mul, nI_add], ← hy]
    have kA : MBs A b := by
      obtain ⟨k1, k2, k3, k4⟩ := k rfl
      refine ⟨?_, k2, k3.fm fA (by decide) (by decide) (by decide) (by decide) (by simp) (by simp), k4.fm fA (by simp)⟩
      unfold MRp at *
      rw [fA.1 4 (by decide) (by simp)]
      exact k1
    rw [← hy] at bad
    have hl := m.len
    have hcap := mcap_le bg due
    have hmc := m.2.2.2.2.1
    obtain ⟨n, hn⟩ : ∃ n, n = x / 8 + 32 * y := ⟨_, rfl⟩
    have hn2 : n < 2 ^ 20 := by omega
    rw [← hn] at bad ⊢
    by_cases t3 : x / 2 % 4 = 3
    · rw [if_pos (show nI (x / 2 % 4) = (3 : Int32) by rw [t3]; rfl), e34]
      refine bad (p + 1) true mA (fun _ _ => ?_)
      unfold blockS
      rw [if_neg (by omega), if_neg (by omega), if_neg (by omega)]
    · rw [if_neg (show ¬ nI (x / 2 % 4) = (3 : Int32) from nne (b := 3) t3 (by omega) (by omega))]
      by_cases t0 : x / 2 % 4 = 0
      · rw [if_pos (show nI (x / 2 % 4) = 0 by rw [t0]; rfl), t0]
        obtain ⟨H, p', o', ok', e, n1, n2, n3, n4, f⟩ := bl49 (w := w) (bg := bg) (due := due) hn2 (mcap bg due - b.1.length) n 0 A (p + 1) b.1 mFU (by omega) (by omega) (by unfold mFU; omega) (by omega) mA xA
        refine ⟨H, p', ok', (o', b.2), e, n1, n2, fun o => ?_, fun _ _ hs => ?_, fGA.tr (f.up (by simp) (by simp)), by rw [f.2 8 (by decide), fA.2 8 (by decide)], by rw [f.2 9 (by decide), fA.2 9 (by decide)]⟩
        · obtain ⟨j1, j2, j3⟩ := n3 o
          refine ⟨rfl, hp, ?_, kA.fm f⟩
          unfold blockS
          rw [if_pos rfl, if_pos j1, j2, j3]
        · unfold blockS at hs
          rw [if_pos rfl] at hs
          by_cases c : p + 1 + n ≤ w.length ∧ b.1.length + n ≤ mcap bg due
          · exact n4 c.1 c.2
          · rw [if_neg c] at hs
            exact absurd rfl hs
      · rw [if_neg (show ¬ nI (x / 2 % 4) = 0 from nne (b := 0) t0 (by omega) (by omega))]
        by_cases t1 : x / 2 % 4 = 1
        · rw [if_pos (show nI (x / 2 % 4) = (1 : Int32) by rw [t1]; rfl), t1, mA.1.1]
          obtain ⟨B, eB, mB, fB⟩ := mn_next mA (Nat.le_refl w.length)
          obtain ⟨v, hv⟩ : ∃ v, v = (if p + 1 < w.length then w.getD (p + 1) 0 else 0) := ⟨_, rfl⟩
          rw [← hv] at eB
          rw [eB]
          dsimp only [Option.bind_some]
          have xB : MX B bg due b.1 := xA.fm fB (by decide) (by decide) (by decide) (by simp)
          by_cases q : p + 1 < w.length
          · rw [Bool.true_and, decide_eq_true q, if_pos q] at mB
            rw [if_pos q] at hv
            obtain ⟨H, o', ok', e, n1, n2, n3, n4, f⟩ := bl105 (w := w) (p := p + 1 + 1) (bg := bg) (due := due) (y := v) hn2 (mcap bg due - b.1.length) n 0 B b.1 mFU (by omega) (by omega) (by unfold mFU; omega) mB xB
            have fAH : Fm [4, 5, 6] [3] A H := (fB.up (by simp) (by simp)).tr f
            refine ⟨H, _, ok', (o', b.2), e, n1, n2, fun o => ?_, fun _ _ hs => ?_, fGA.tr (fAH.up (by simp) (by simp)), by rw [fAH.2 8 (by decide), fA.2 8 (by decide)], by rw [fAH.2 9 (by decide), fA.2 9 (by decide)]⟩
            · obtain ⟨j1, j2⟩ := n3 o
              refine ⟨rfl, hp, ?_, kA.fm fAH⟩
              unfold blockS
              rw [if_neg (by decide), if_pos rfl, if_pos ⟨q, j1⟩, j2, hv]
            · unfold blockS at hs
              rw [if_neg (by decide), if_pos rfl] at hs
              by_cases c : p + 1 < w.length ∧ b.1.length + n ≤ mcap bg due
              · exact n4 c.2
              · rw [if_neg c] at hs
                exact absurd rfl hs
          · rw [Bool.true_and, decide_eq_false q] at mB
            refine ⟨B, _, false, b, bl105_bad mB 4095 _ _ _, mB, xB, fun o => absurd o (by decide), fun _ _ hs => ?_, fGA.tr (fB.up (by simp) (by simp)), by rw [fB.2 8 (by decide), fA.2 8 (by decide)], by rw [fB.2 9 (by decide), fA.2 9 (by decide)]⟩
            unfold blockS at hs
            rw [if_neg (by decide), if_pos rfl, if_neg (fun c => q c.1)] at hs
            exact absurd rfl hs
        · have t2 : x / 2 % 4 = 2 := by omega
          rw [if_neg (show ¬ nI (x / 2 % 4) = (1 : Int32) from nne (b := 1) t1 (by omega) (by omega)), t2]
          have ee : A 0 4 + nI n = nI (p + 1 + n) := by rw [mA.2.1, nI_add]
          have ebl : blockS w bg (mcap bg due) 2 n (p + 1) b = if p + 1 + n ≤ w.length then (packS w (p + 1 + n) bg (mcap bg due) (p + 1) b).bind fun c => some (p + 1 + n, c) else none := by
            unfold blockS
            rw [if_neg (by decide), if_neg (by decide), if_pos rfl]
          rw [t2] at bad
          by_cases q : p + 1 + n ≤ w.length
          · rw [if_pos (show A 0 4 + nI n ≤ A 0 3 by rw [ee, mA.1.1]; exact nI_le q (by omega))]
            rw [if_pos q] at ebl
            obtain ⟨e, he⟩ : ∃ e, e = p + 1 + n := ⟨_, rfl⟩
            rw [← he] at q ebl ee
            obtain ⟨B, pB, okB, lits, kt', eB, mB, g1, g2, fB⟩ := md_literals mA q (fun _ => kA.2.2.1)
            rw [show f_Md_readLiterals L2 0 (A 0 4 + nI n) A = some B by rw [ee]; exact eB]
            dsimp only [Option.bind_some]
            obtain ⟨C, pC, qs, kn', okC, eC, mC, g3, g4, fC⟩ := md_seqs mB q (fun o => litsS_le (g1 o).2.1) (fun o => kA.2.2.2.fm fB (by simp; omega))
            rw [show f_Md_readSequences L2 0 (A 0 4 + nI n) B = some C by rw [ee]; exact eC]
            dsimp only [Option.bind_some]
            have fAC : Fm [4, 5, 11, 12, 13, 15, 16, 17, 18, 28] [5, 6, 7, 8, 9, 10, 11, 12, 13, 14, 15, 16, 17] A C := (fB.up (by simp) (by simp)).tr (fC.up (by simp) (by simp))
            have xC : MX C bg due b.1 := xA.fm fAC (by decide) (by decide) (by decide) (by decide)
            have e8 : C 0 8 = G 0 8 := by rw [fAC.2 8 (by decide), fA.2 8 (by decide)]
            have e9 : C 0 9 = G 0 9 := by rw [fAC.2 9 (by decide), fA.2 9 (by decide)]
            have fGC : Fm FL FC G C := fGA.tr (fAC.up (by simp) (by simp))
            have ps : okC = true → packS w e bg (mcap bg due) (p + 1) b = if pC = e then (finS bg (mcap bg due) lits qs (b.1, 0, b.2.1)).bind fun z => some (z.1, z.2, kt', kn') else none := fun o => by
              obtain ⟨oB, s1, -⟩ := g3 o
              obtain ⟨-, l1, -⟩ := g1 oB
              unfold packS
              rw [l1]
              dsimp only [Option.bind_some]
              rw [s1]
              dsimp only [Option.bind_some]
            have psn : okC = false → packS w e bg (mcap bg due) (p + 1) b = none := fun o => by
              unfold packS
              cases e1 : litsS w e b.2.2.1 (p + 1) with
              | none => rfl
              | some l =>
                have oB := g2 rfl (by rw [e1]; simp)
                obtain ⟨-, l1, -⟩ := g1 oB
                rw [e1] at l1
                injection l1 with l1
                subst l1
                dsimp only [Option.bind_some]
                cases e2 : seqsM w e b.2.2.2 pB with
                | none => rfl
                | some z =>
                  have := g4 oB (by rw [e2]; simp)
                  rw [o] at this
                  exact absurd this (by decide)
            -- refused
            have bad2 : packS w e bg (mcap bg due) (p + 1) b = none → ∃ H p' ok' b', b_Md_block_191 L2 0 0 C = some H ∧ MN H w p' ok' ∧ MX H bg due b'.1 ∧ (ok' = true → true = true ∧ p < w.length ∧ blockS w bg (mcap bg due) 2 n (p + 1) b = some (p', b') ∧ MBs H b') ∧ (true = true → p < w.length → blockS w bg (mcap bg due) 2 n (p + 1) b ≠ none → ok' = true) ∧ Fm FL FC G H ∧ H 0 8 = G 0 8 ∧ H 0 9 = G 0 9 := fun qn => by
              have fb : Fm [5] [] C (u2 C 0 5 1) := Fm.us (by simp)
              refine ⟨u2 C 0 5 1, pC, false, b, ?_, mC.bad, xC.fm fb (by decide) (by decide) (by decide) (by simp), fun o => absurd o (by decide), fun _ _ s => ?_, fGC.tr (fb.up (by simp) (by simp)), by rw [fb.2 8 (by decide)]; exact e8, by rw [fb.2 9 (by decide)]; exact e9⟩
              · unfold b_Md_block_191 b_Md_block_196 b_Md_block_203
                rw [if_neg (fun q => q zb1), ld]
                have : f_Md_perform L2 0 (u2 C 0 5 1) = some (u2 C 0 5 1) := pf_bad mC.bad 4095 0 0
                rw [this]
                rfl
              · rw [ebl, qn] at s
                exact absurd rfl s
            cases okC with
            | false =>
              rw [if_neg mC.b1]
              exact bad2 (psn rfl)
            | true =>
              obtain ⟨oB, s1, s2, s3, s4, s5, s6, s7⟩ := g3 rfl
              obtain ⟨-, l1, l2', l3'⟩ := g1 oB
              rw [if_pos mC.b0]
              by_cases qe : pC = e
              · rw [if_pos (show C 0 4 = A 0 4 + nI n by rw [ee, mC.2.1, qe])]
                have ps' := ps rfl
                rw [if_pos qe] at ps'
                have f0 : Fm [5] [] C (u2 C 0 5 0) := Fm.us (by simp)
                have fC0 : Fm [4, 5, 11, 12, 28] [8, 9, 10, 11, 12, 13, 14, 15, 16, 17] B (u2 C 0 5 0) := fC.tr (f0.up (by simp) (by simp))
                have rp0 : MRp (u2 C 0 5 0) b.2.1 := by
                  have := kA.1
                  unfold MRp at *
                  rw [f0.1 4 (by decide) (by simp), fAC.1 4 (by decide) (by decide)]
                  exact this
                obtain ⟨H, o', r', ok', eH, mH, xH, n3, n4, fH⟩ := pf_all (w := w) (p := pC) (bg := bg) (due := due) (n := qs.length) s4 (litsS_len hw l1) qs 0 (u2 C 0 5 0) b.1 0 b.2.1 mFU (by omega) (by unfold mFU; omega) mC.set (xC.fm f0 (by decide) (by decide) (by decide) (by simp)) (l2'.fm fC0 (by decide) (by decide) (by decide)) rp0 kA.2.1 (Nat.zero_le _) (by rw [f0.2 28 (by decide)]; exact s3) (s5.fm f0 (by simp) (by simp) (by simp)) s6
                have fCH : Fm [5, 6] [3, 4] C H := (f0.up (by simp) (by simp)).tr fH
                refine ⟨H, pC, ok', (o', r', kt', kn'), ?_, mH, xH, fun o => ?_, fun _ _ s => n4 (fun e4 => ?_), fGC.tr (fCH.up (by simp) (by simp)), by rw [fCH.2 8 (by decide)]; exact e8, by rw [fCH.2 9 (by decide)]; exact e9⟩
                · unfold b_Md_block_196 b_Md_block_203
                  rw [if_neg (fun q => q zb0), ld]
                  have : f_Md_perform L2 0 (u2 C 0 5 0) = some H := eH
                  rw [this]
                  rfl
                · obtain ⟨j1, j2, j3⟩ := n3 o
                  refine ⟨rfl, hp, ?_, j2, j3, ?_, ?_⟩
                  · rw [ebl, ps', j1, qe]
                    rfl
                  · exact ((l3'.fm fC (by decide) (by decide) (by decide) (by decide) (by decide) (by decide)).fm fCH (by decide) (by decide) (by decide) (by decide) (by decide) (by decide))
                  · exact s7.fm fCH (by simp; omega)
                · rw [ebl, ps', e4] at s
                  exact absurd rfl s
              · rw [if_neg (show ¬ C 0 4 = A 0 4 + nI n by rw [ee, mC.2.1]; exact nne qe (by have := mC.2.2.2.1; omega) (by omega))]
                refine bad2 ?_
                rw [ps rfl, if_neg qe]
          · rw [if_neg (show ¬ A 0 4 + nI n ≤ A 0 3 by rw [ee, mA.1.1]; exact fun c => absurd ((nI_leI (by omega) (by omega)).mp c) (by omega))]
            unfold b_Md_block_203
            rw [if_neg (fun q => q zb1), ld]
            refine bad (p + 1) true mA (fun _ _ => ?_)
            rw [ebl, if_neg q]
  · have mA2 : MN A w (if p < w.length then p + 1 else p) false := by
      have : (ok && decide (p < w.length)) = false := by
        cases ok with
        | false => rfl
        | true =>
          have : ¬ p < w.length := fun c => q0 ⟨rfl, c⟩
          simp [this]
      rw [this] at mA
      exact mA
    rw [if_neg mA2.b1, e34]
    exact bad _ _ mA2 (fun o c => absurd ⟨o, c⟩ q0)
