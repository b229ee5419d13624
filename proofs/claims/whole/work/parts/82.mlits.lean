/-! pure: the model reads symbols and literals -/
theorem symS_len {w : List Nat} {ss : Nat} {T : T4} : ∀ {c bl : Nat} {z : List Nat × Nat}, symS w ss T c bl = some z → z.1.length = c
  | 0, bl, z, h => by
    unfold symS at h
    injection h with h
    subst h
    rfl
  | c + 1, bl, z, h => by
    unfold symS at h
    split at h
    · cases e : symS w ss T c (bl - (T.2.2.2 + 1 - T.2.2.1 ((ownL T.2.2.1 T.2.1 7).getD (nbits w ss bl T.2.2.2) 0))) with
      | none => rw [e] at h; exact absurd h (by simp)
      | some y =>
        rw [e] at h
        dsimp only [Option.bind_some] at h
        injection h with h
        subst h
        have := symS_len e
        simp [this]
    · exact absurd h (by simp)
theorem m5 : mLn L2 5 = 120 := rfl
def MKT (G : Mem) (kt : Option T4) : Prop := G 0 15 = (if kt.isSome then 1 else 0) ∧ ∀ T, kt = some T → MTr G T
theorem MKT.fm {G H : Mem} {kt : Option T4} {sl cs : List Nat} (h : MKT G kt) (f : Fm sl cs G H) (n0 : 15 ∉ sl) (n1 : 16 ∉ sl) (n2 : 17 ∉ sl) (n3 : 18 ∉ sl) (n6 : 6 ∉ cs) (n7 : 7 ∉ cs) : MKT H kt := ⟨by rw [f.2 15 n0]; exact h.1, fun T e => (h.2 T e).fm f n1 n2 n3 n6 n7⟩
theorem ms106 {G : Mem} {w : List Nat} {p ss bl t : Nat} {ok : Bool} (h : MS G w p ss bl ok t) : ∃ H, b_Md_readSymbols_106 L2 0 G = some H ∧ MN H w p (ok && decide (bl = 0)) ∧ Fm [5] [] G H := by
  obtain ⟨H, e, r⟩ := rs291 h
  exact ⟨H, e, r⟩
theorem ms37_bad {G : Mem} {w : List Nat} {p : Nat} (h : MN G w p false) (fu : Nat) (x : Int32) : f_Md_readSymbols_37 L2 (fu + 1) 0 x G = some (u2 G 0 5 1) := by
  have e : b_Md_readSymbols_106 L2 0 G = some (u2 G 0 5 1) := by
    unfold b_Md_readSymbols_106 b_Md_readSymbols_121 b_Md_readSymbols_126
    rw [if_neg h.b1, if_neg (fun q => q zb1), ld]
  show b_Md_readSymbols_37 L2 (f_Md_readSymbols_37 L2 fu) 0 x G = _
  unfold b_Md_readSymbols_37
  rw [if_neg h.b1, e]
  split <;> rfl
theorem ms37 {w : List Nat} {p ss c : Nat} {T : T4} (hc : c ≤ 63) : ∀ (d i : Nat) (G : Mem) (bl fu : Nat), d + i = c → d < fu → MS G w p ss bl true 0 → MTr G T → G 0 13 = nI c →
    ∃ H l ok', f_Md_readSymbols_37 L2 fu 0 (nI i) G = some H ∧ MN H w p ok' ∧ (ok' = true → symS w ss T d bl = some (l, 0) ∧ ∀ j, j < d → H 5 (i + j) = nI (l.getD j 0)) ∧ (∀ l, symS w ss T d bl = some (l, 0) → ok' = true) ∧ (∀ j, j < i → H 5 j = G 5 j) ∧ Fm [5, 12] [5] G H := by
  intro d
  induction d with
  | zero =>
    intro i G bl fu hd hf h t h13
    obtain ⟨fu, rfl⟩ : ∃ k, fu = k + 1 := ⟨fu - 1, by omega⟩
    obtain ⟨H, e, m, f⟩ := ms106 h
    refine ⟨H, [], _, ?_, m, fun o => ?_, fun l hz => ?_, fun j _ => by rw [f.1 5 (by decide) (by simp)], f.up (by simp) (by simp)⟩
    · show b_Md_readSymbols_37 L2 (f_Md_readSymbols_37 L2 fu) 0 (nI i) G = _
      unfold b_Md_readSymbols_37
      rw [h13, ile (by omega) (by omega)]
      exact e
    · have : bl = 0 := by simpa using o
      exact ⟨by rw [this]; rfl, fun j hj => absurd hj (by omega)⟩
    · unfold symS at hz
      injection hz with hz
      injection hz with hz hz2
      simp [hz2]
  | succ d ih =>
    intro i G bl fu hd hf h t h13
    obtain ⟨fu, rfl⟩ : ∃ k, fu = k + 1 := ⟨fu - 1, by omega⟩
    obtain ⟨t1, t2, t3, t4, t5, t6⟩ := id t
    obtain ⟨⟨g1, g2⟩, g3, g4, ⟨g5, g6⟩, g7⟩ := id t6
    have p7 : 2 ^ T.2.2.2 ≤ 2 ^ 7 := Nat.pow_le_pow_right (by decide) g6
    obtain ⟨v, hv⟩ : ∃ v, v = nbits w ss bl T.2.2.2 := ⟨_, rfl⟩
    have hv2 : v < 2 ^ T.2.2.2 := by rw [hv]; exact nbits_lt _ _ _ _
    obtain ⟨s, hs⟩ : ∃ s, s = (ownL T.2.2.1 T.2.1 7).getD v 0 := ⟨_, rfl⟩
    obtain ⟨o1, o2⟩ := own_sym t6 hv2
    rw [← hs] at o1 o2
    obtain ⟨w1, w2⟩ := g4 s o1
    obtain ⟨k, hk⟩ : ∃ k, k = T.2.2.2 + 1 - T.2.2.1 s := ⟨_, rfl⟩
    have es : symS w ss T (d + 1) bl = if k ≤ bl then (symS w ss T d (bl - k)).bind fun z => some ((T.1 + s) :: z.1, z.2) else none := by
      show (if T.2.2.2 + 1 - T.2.2.1 ((ownL T.2.2.1 T.2.1 7).getD (nbits w ss bl T.2.2.2) 0) ≤ bl then _ else none) = _
      rw [← hv, ← hs, ← hk]
    obtain ⟨A, hA⟩ : ∃ A, A = u2 G 5 i (nI (T.1 + s)) := ⟨_, rfl⟩
    have fA : Fm [] [5] G A := by rw [hA]; exact Fm.uc (by simp) (by decide)
    have mA := h.fm fA (by decide) (by decide) (by decide) (by decide) (by decide) (by decide)
    have tA : MTr A T := t.fm fA (by simp) (by simp) (by simp) (by decide) (by decide)
    obtain ⟨y, B, eB, lB, nB, mB, fB⟩ := ms_take mA (by decide) (n := k) (by omega)
    have tB : MTr B T := tA.fm fB (by decide) (by decide) (by decide) (by simp) (by simp)
    have b5 : B 5 i = nI (T.1 + s) := by rw [fB.1 5 (by decide) (by simp), hA, u2_s]
    have b5o : ∀ j, j ≠ i → B 5 j = G 5 j := fun j hj => by rw [fB.1 5 (by decide) (by simp), hA, u2_p hj]
    have fGB : Fm [5, 12] [5] G B := (fA.up (by simp) (by simp)).tr (fB.up (by simp) (by simp))
    have st : f_Md_readSymbols_37 L2 (fu + 1) 0 (nI i) G = f_Md_readSymbols_37 L2 fu 0 (nI (i + 1)) B := by
      show b_Md_readSymbols_37 L2 (f_Md_readSymbols_37 L2 fu) 0 (nI i) G = _
      unfold b_Md_readSymbols_37
      rw [h13, ilen (by omega) (by omega), if_pos h.1.b0, t3, md_look (MR.of h.1 (h.2.1 rfl)) (by omega), ← hv]
      dsimp only [Option.bind_some]
      have e7 : mGa L2 G 7 (nI v).toNatClampNeg = nI s := by rw [ga7, nI_clamp (by omega), t5 v (by omega), hs]
      rw [r020, r014, r019, gl7, m5, gl6, if_neg (inb_no (n := v) (by omega) (by omega)), e7, t1, nI_add, if_neg (in_w (n := i) (by omega) (by omega) (show 5 < mNc L2 by decide)), ld, show u2 G 5 (nI i).toNatClampNeg (nI (T.1 + s)) = A by rw [hA, nI_clamp (by omega)], if_neg (inb_no (n := s) (by omega) (by omega)), tA.2.2.1, ga6, show A 6 (nI s).toNatClampNeg = nI (T.2.2.1 s) by rw [nI_clamp (by omega)]; exact tA.2.2.2.1 s o1, nI_1, pk_sub w2, ← hk, eB]
      dsimp only [Option.bind_some]
      rw [nI_1]
    by_cases q : k ≤ bl
    · rw [Bool.true_and, decide_eq_true q] at mB
      obtain ⟨H, l, ok', e, m1, k1, k2, k3, f⟩ := ih (i + 1) B (bl - k) fu (by omega) (by omega) mB.z tB (by rw [fB.2 13 (by decide), fA.2 13 (by simp)]; exact h13)
      refine ⟨H, (T.1 + s) :: l, ok', st.trans e, m1, fun o => ?_, fun l' hz => ?_, fun j hj => by rw [k3 j (by omega)]; exact b5o j (by omega), fGB.tr f⟩
      · obtain ⟨q1, q2⟩ := k1 o
        refine ⟨by rw [es, if_pos q, q1]; rfl, fun j hj => ?_⟩
        cases j with
        | zero =>
          rw [Nat.add_zero, k3 i (by omega), b5]
          rfl
        | succ j =>
          rw [show i + (j + 1) = i + 1 + j by omega, q2 j (by omega)]
          rfl
      · rw [es, if_pos q] at hz
        cases e3 : symS w ss T d (bl - k) with
        | none => rw [e3] at hz; exact absurd hz (by simp)
        | some z =>
          rw [e3] at hz
          dsimp only [Option.bind_some] at hz
          injection hz with hz
          injection hz with hz hz2
          exact k2 z.1 (by rw [e3, ← hz2])
    · rw [Bool.true_and, decide_eq_false q] at mB
      obtain ⟨fu, rfl⟩ : ∃ k, fu = k + 1 := ⟨fu - 1, by omega⟩
      refine ⟨u2 B 0 5 1, [], false, by rw [st, ms37_bad mB.1], mB.1.bad, fun o => absurd o (by decide), fun l hz => ?_, fun j hj => by rw [u2_c (by decide)]; exact b5o j (by omega), fGB.tr (Fm.us (by simp))⟩
      rw [es, if_neg q] at hz
      exact absurd hz (by simp)
theorem md_syms {G : Mem} {w : List Nat} {p e c : Nat} {ok : Bool} {kt : Option T4} (h : MN G w p ok) (he : e ≤ w.length) (hc : c ≤ 63) (h13 : G 0 13 = nI c) (k : ok = true → MKT G kt) :
    ∃ H p' ok' l, f_Md_readSymbols L2 0 (nI e) G = some H ∧ MN H w p' ok' ∧ (ok' = true → ok = true ∧ ∃ T, kt = some T ∧ symsS w e T c p = some (l, p') ∧ MD H 13 5 l) ∧ (ok = true → ∀ T, kt = some T → symsS w e T c p ≠ none → ok' = true) ∧ Fm [4, 5, 11, 12] [5] G H := by
  have hw := h.2.2.2.2.2
  have main : ∀ ok1 : Bool, (ok1 = true → ok = true ∧ ∃ T, kt = some T) → (ok = true → (∃ T, kt = some T) → ok1 = true) → MN (u2 G 0 5 (if ok1 then 0 else 1)) w p ok1 → ∃ H p' ok' l, b_Md_readSymbols_20 L2 0 (nI e) 0 (if ok1 then 0 else 1) G = some H ∧ MN H w p' ok' ∧ (ok' = true → ok = true ∧ ∃ T, kt = some T ∧ symsS w e T c p = some (l, p') ∧ MD H 13 5 l) ∧ (ok = true → ∀ T, kt = some T → symsS w e T c p ≠ none → ok' = true) ∧ Fm [4, 5, 11, 12] [5] G H := by
    intro ok1 c1 c2 m1
    obtain ⟨A, hA⟩ : ∃ A, A = u2 G 0 5 (if ok1 = true then 0 else 1) := ⟨_, rfl⟩
    have fA : Fm [5] [] G A := by rw [hA]; exact Fm.us (by simp)
    rw [← hA] at m1
    obtain ⟨B, eB, mB, fB⟩ := mn_next m1 he
    obtain ⟨n, hn⟩ : ∃ n, n = (if p < e then w.getD p 0 else 0) := ⟨_, rfl⟩
    have hn2 : n < 256 := by have := nI_byte hw p; rw [hn]; split <;> omega
    rw [← hn] at eB
    obtain ⟨C, eC, mC, fC⟩ := mn_open mB (n := n) (e := e) (by omega) he
    have fGC : Fm [4, 5, 11, 12] [5] G C := ((fA.up (by simp) (by simp)).tr (fB.up (by simp) (by simp))).tr (fC.up (by simp) (by simp))
    have e20 : b_Md_readSymbols_20 L2 0 (nI e) 0 (if ok1 = true then 0 else 1) G = f_Md_readSymbols_37 L2 mFU 0 (nI 0) C := by
      unfold b_Md_readSymbols_20
      rw [if_neg (show ¬ ¬ ((if ok1 = true then (0 : Int32) else 1) = 0 ∨ (if ok1 = true then (0 : Int32) else 1) = 1) by cases ok1; exact fun q => q zb1; exact fun q => q zb0), ld, ← hA, eB]
      dsimp only [Option.bind_some]
      rw [eC]
      rfl
    rw [e20]
    by_cases q : (ok1 && decide (p < e)) = true ∧ 1 ≤ n ∧ (if p < e then p + 1 else p) + n ≤ e ∧ w.getD ((if p < e then p + 1 else p) + n - 1) 0 ≠ 0
    · rw [if_pos q] at mC
      obtain ⟨q1, q2, q3, q4⟩ := q
      have q1' : ok1 = true ∧ p < e := by simpa using q1
      obtain ⟨o1, hpe⟩ := q1'
      rw [if_pos hpe] at hn q3 q4 mC
      rw [show p + 1 + n - 1 = p + n by omega] at q4 mC
      obtain ⟨o, T, hT⟩ := c1 o1
      have hq : p < e ∧ 1 ≤ w.getD p 0 ∧ p + 1 + w.getD p 0 ≤ e ∧ w.getD (p + w.getD p 0) 0 ≠ 0 := by
        rw [← hn]
        exact ⟨hpe, q2, by omega, q4⟩
      have es : symsS w e T c p = (symS w (p + 1) T c (8 * (n - 1) + Nat.log2 (w.getD (p + n) 0))).bind fun z => if z.2 = 0 then some (z.1, p + 1 + n) else none := by
        unfold symsS
        rw [if_pos hq, hn]
      have tC : MTr C T := (((k o).2 T hT).fm fGC (by decide) (by decide) (by decide) (by decide) (by decide))
      obtain ⟨H, l, ok', eH, mH, k1, k2, -, f⟩ := ms37 hc c 0 C _ mFU (by omega) (by unfold mFU; omega) ⟨mC.1, fun _ => mC.2, mC.2.sb h.2.2.2.2.1⟩ tC (by rw [fGC.2 13 (by decide)]; exact h13)
      refine ⟨H, _, ok', l, eH, mH, fun o' => ?_, fun _ T' e' hs => ?_, fGC.tr (f.up (by simp) (by simp))⟩
      · obtain ⟨j1, j2⟩ := k1 o'
        have jl := symS_len j1
        dsimp only at jl
        refine ⟨o, T, hT, ?_, ?_, fun j hj => ?_⟩
        · rw [es, j1]
          dsimp only [Option.bind_some]
          rw [if_pos rfl]
        · rw [f.2 13 (by decide), fGC.2 13 (by decide), h13, jl]
        · have := j2 j (by omega)
          rw [Nat.zero_add] at this
          exact this
      · rw [hT] at e'
        injection e' with e'
        subst e'
        rw [es] at hs
        cases e3 : symS w (p + 1) T c (8 * (n - 1) + Nat.log2 (w.getD (p + n) 0)) with
        | none => rw [e3] at hs; exact absurd rfl hs
        | some z =>
          rw [e3] at hs
          dsimp only [Option.bind_some] at hs
          by_cases hz : z.2 = 0
          · exact k2 z.1 (by rw [e3, ← hz])
          · rw [if_neg hz] at hs
            exact absurd rfl hs
    · rw [if_neg q] at mC
      obtain ⟨⟨p', hp', mC⟩, sC⟩ := mC
      refine ⟨u2 C 0 5 1, p', false, [], ms37_bad mC 4095 _, mC.bad, fun o => absurd o (by decide), fun o T eT hs => ?_, fGC.tr (Fm.us (by simp))⟩
      unfold symsS at hs
      rw [if_neg (fun c' => ?_)] at hs
      · exact absurd rfl hs
      · have o1 := c2 o ⟨T, eT⟩
        rw [if_pos c'.1] at hn
        refine q ⟨by rw [o1, decide_eq_true c'.1]; rfl, by omega, ?_, ?_⟩
        · rw [if_pos c'.1]; omega
        · rw [if_pos c'.1, hn, show p + 1 + w.getD p 0 - 1 = p + w.getD p 0 by omega]
          exact c'.2.2.2
  unfold f_Md_readSymbols b_Md_readSymbols_15
  cases ok with
  | false =>
    rw [if_neg h.b1]
    exact main false (fun o => absurd o (by decide)) (fun o => absurd o (by decide)) h.bad
  | true =>
    rw [if_pos h.b0]
    obtain ⟨k1, k2⟩ := k rfl
    cases kt with
    | none =>
      rw [if_pos (show G 0 15 = 0 from k1)]
      exact main false (fun o => absurd o (by decide)) (fun _ o => absurd o.choose_spec (by simp)) h.bad
    | some T =>
      rw [if_neg (show ¬ G 0 15 = 0 by rw [k1]; simp only [Option.isSome]; decide)]
      exact main true (fun _ => ⟨rfl, T, rfl⟩) (fun _ _ => rfl) h.set
theorem ml57_bad {G : Mem} {w : List Nat} {p : Nat} (h : MN G w p false) (fu : Nat) (x1 x3 x4 x5 : Int32) : f_Md_readLiterals_57 L2 (fu + 1) 0 x1 x3 x4 x5 G = some G := by
  show b_Md_readLiterals_57 L2 (f_Md_readLiterals_57 L2 fu) 0 x1 x3 x4 x5 G = _
  unfold b_Md_readLiterals_57 b_Md_readLiterals_101
  rw [if_neg h.b1]
  split <;> rfl
/-- one literal is kept -/
theorem ml94 {F : Mem} {i y : Nat} (hi : i < 120) (x1 x3 x4 : Int32) (k57 : Nat → Int32 → Int32 → Int32 → Int32 → Mem → Option Mem) : b_Md_readLiterals_94 L2 k57 0 x1 x3 x4 (nI i) 5 (nI i) (nI y) F = k57 0 x1 x3 x4 (nI (i + 1)) (u2 F 5 i (nI y)) := by
  unfold b_Md_readLiterals_94
  rw [m5, if_neg (in_w (n := i) (by omega) (by omega) (show 5 < mNc L2 by decide)), ld, nI_clamp (by omega), nI_1]
theorem ml57_1 {w : List Nat} {p c y : Nat} (hc : c ≤ 63) (x1 : Int32) : ∀ (d i : Nat) (G : Mem) (fu : Nat), d + i = c → d < fu → MN G w p true → G 0 13 = nI c → ∃ H, f_Md_readLiterals_57 L2 fu 0 x1 1 (nI y) (nI i) G = some H ∧ MN H w p true ∧ (∀ j, i ≤ j → j < c → H 5 j = nI y) ∧ (∀ j, j < i → H 5 j = G 5 j) ∧ Fm [] [5] G H := by
  intro d
  induction d with
  | zero =>
    intro i G fu hd hf h h13
    obtain ⟨fu, rfl⟩ : ∃ k, fu = k + 1 := ⟨fu - 1, by omega⟩
    refine ⟨G, ?_, h, fun j h1 h2 => absurd h1 (by omega), fun _ _ => rfl, Fm.rf⟩
    show b_Md_readLiterals_57 L2 (f_Md_readLiterals_57 L2 fu) 0 x1 1 (nI y) (nI i) G = _
    unfold b_Md_readLiterals_57 b_Md_readLiterals_101
    rw [h13, ile (by omega) (by omega)]
  | succ d ih =>
    intro i G fu hd hf h h13
    obtain ⟨fu, rfl⟩ : ∃ k, fu = k + 1 := ⟨fu - 1, by omega⟩
    have f1 : Fm [] [5] G (u2 G 5 i (nI y)) := Fm.uc (by simp) (by decide)
    obtain ⟨H, e, m, k1, k2, f⟩ := ih (i + 1) (u2 G 5 i (nI y)) fu (by omega) (by omega) (h.fm f1 (by decide) (by decide) (by decide) (by decide)) (by rw [f1.2 13 (by simp)]; exact h13)
    refine ⟨H, ?_, m, fun j h1 h2 => ?_, fun j hj => by rw [k2 j (by omega), u2_p (by omega)], f1.tr f⟩
    · show b_Md_readLiterals_57 L2 (f_Md_readLiterals_57 L2 fu) 0 x1 1 (nI y) (nI i) G = _
      unfold b_Md_readLiterals_57
      rw [h13, ilen (by omega) (by omega), if_pos h.b0, if_pos rfl, r014, ml94 (by omega)]
      exact e
    · rcases Nat.eq_or_lt_of_le h1 with rfl | h1
      · rw [k2 i (by omega), u2_s]
      · exact k1 j (by omega) h2
theorem ml57_0 {w : List Nat} {e c : Nat} (hc : c ≤ 63) (he : e ≤ w.length) (x4 : Int32) : ∀ (d i : Nat) (G : Mem) (p fu : Nat), d + i = c → d < fu → MN G w p true → G 0 13 = nI c → p ≤ e → ∃ H p', f_Md_readLiterals_57 L2 fu 0 (nI e) 0 x4 (nI i) G = some H ∧ MN H w p' (decide (p + d ≤ e)) ∧ (p + d ≤ e → p' = p + d ∧ ∀ j, j < d → H 5 (i + j) = nI (w.getD (p + j) 0)) ∧ (∀ j, j < i → H 5 j = G 5 j) ∧ Fm [4, 5] [5] G H := by
  intro d
  induction d with
  | zero =>
    intro i G p fu hd hf h h13 hp
    obtain ⟨fu, rfl⟩ : ∃ k, fu = k + 1 := ⟨fu - 1, by omega⟩
    refine ⟨G, p, ?_, by rw [decide_eq_true (show p + 0 ≤ e by omega)]; exact h, fun _ => ⟨rfl, fun j hj => absurd hj (by omega)⟩, fun _ _ => rfl, Fm.rf⟩
    show b_Md_readLiterals_57 L2 (f_Md_readLiterals_57 L2 fu) 0 (nI e) 0 x4 (nI i) G = _
    unfold b_Md_readLiterals_57 b_Md_readLiterals_101
    rw [h13, ile (by omega) (by omega)]
  | succ d ih =>
    intro i G p fu hd hf h h13 hp
    obtain ⟨fu, rfl⟩ : ∃ k, fu = k + 1 := ⟨fu - 1, by omega⟩
    obtain ⟨A, eA, mA, fA⟩ := mn_next h he
    obtain ⟨y, hy⟩ : ∃ y, y = (if p < e then w.getD p 0 else 0) := ⟨_, rfl⟩
    rw [← hy] at eA
    have f1 : Fm [] [5] A (u2 A 5 i (nI y)) := Fm.uc (by simp) (by decide)
    have mB := mA.fm f1 (by decide) (by decide) (by decide) (by decide)
    have fGB : Fm [4, 5] [5] G (u2 A 5 i (nI y)) := (fA.up (by simp) (by simp)).tr (f1.up (by simp) (by simp))
    have st : f_Md_readLiterals_57 L2 (fu + 1) 0 (nI e) 0 x4 (nI i) G = f_Md_readLiterals_57 L2 fu 0 (nI e) 0 x4 (nI (i + 1)) (u2 A 5 i (nI y)) := by
      show b_Md_readLiterals_57 L2 (f_Md_readLiterals_57 L2 fu) 0 (nI e) 0 x4 (nI i) G = _
      unfold b_Md_readLiterals_57
      rw [h13, ilen (by omega) (by omega), if_pos h.b0, if_neg (by decide), eA]
      dsimp only [Option.bind_some]
      rw [r014, ml94 (by omega)]
    have oB : ∀ j, j ≠ i → (u2 A 5 i (nI y)) 5 j = G 5 j := fun j hj => by rw [u2_p hj, fA.1 5 (by decide) (by simp)]
    by_cases q : p < e
    · rw [Bool.true_and, decide_eq_true q, if_pos q] at mB
      rw [if_pos q] at hy
      obtain ⟨H, p', eH, mH, k1, k2, f⟩ := ih (i + 1) _ (p + 1) fu (by omega) (by omega) mB (by rw [fGB.2 13 (by decide)]; exact h13) (by omega)
      refine ⟨H, p', st.trans eH, by rw [show p + (d + 1) = p + 1 + d by omega]; exact mH, fun q' => ?_, fun j hj => by rw [k2 j (by omega)]; exact oB j (by omega), fGB.tr f⟩
      obtain ⟨j1, j2⟩ := k1 (by omega)
      refine ⟨by omega, fun j hj => ?_⟩
      cases j with
      | zero => rw [Nat.add_zero, k2 i (by omega), u2_s, hy, Nat.add_zero]
      | succ j => rw [show i + (j + 1) = i + 1 + j by omega, j2 j (by omega), show p + (j + 1) = p + 1 + j by omega]
    · rw [Bool.true_and, decide_eq_false q] at mB
      obtain ⟨fu, rfl⟩ : ∃ k, fu = k + 1 := ⟨fu - 1, by omega⟩
      exact ⟨_, _, by rw [st, ml57_bad mB], by rw [decide_eq_false (show ¬ p + (d + 1) ≤ e by omega)]; exact mB, fun q' => absurd q' (by omega), fun j hj => oB j (by omega), fGB⟩
theorem getD_take_drop {w : List Nat} {p d j : Nat} (hj : j < d) (h : p + j < w.length) : ((w.drop p).take d).getD j 0 = w.getD (p + j) 0 := by
  rw [List.getD_eq_getElem?_getD, List.getElem?_take_of_lt hj, List.getElem?_drop, List.getD_eq_getElem?_getD]
theorem md_literals {G : Mem} {w : List Nat} {p e : Nat} {ok : Bool} {kt : Option T4} (h : MN G w p ok) (he : e ≤ w.length) (k : ok = true → MKT G kt) :
    ∃ H p' ok' lits kt', f_Md_readLiterals L2 0 (nI e) G = some H ∧ MN H w p' ok' ∧ (ok' = true → ok = true ∧ litsS w e kt p = some (lits, p', kt') ∧ MD H 13 5 lits ∧ MKT H kt') ∧ (ok = true → litsS w e kt p ≠ none → ok' = true) ∧ Fm [4, 5, 11, 12, 13, 15, 16, 17, 18] [5, 6, 7] G H := by
  have hw := h.2.2.2.2.2
  obtain ⟨A, eA, mA, fA⟩ := mn_next h he
  obtain ⟨x, hx⟩ : ∃ x, x = (if p < e then w.getD p 0 else 0) := ⟨_, rfl⟩
  have hx2 : x < 256 := by have := nI_byte hw p; rw [hx]; split <;> omega
  rw [← hx] at eA
  obtain ⟨p1, hp1⟩ : ∃ q, q = (if p < e then p + 1 else p) := ⟨_, rfl⟩
  rw [← hp1] at mA
  obtain ⟨B, hB⟩ : ∃ B, B = u2 A 0 13 (nI (x / 4)) := ⟨_, rfl⟩
  have fB : Fm [13] [] A B := by rw [hB]; exact Fm.us (by simp)
  have mB := mA.fm fB (by decide) (by decide) (by decide) (by decide)
  have b13 : B 0 13 = nI (x / 4) := by rw [hB, u2_s]
  have fGB : Fm [4, 5, 11, 12, 13, 15, 16, 17, 18] [5, 6, 7] G B := (fA.up (by simp) (by simp)).tr (fB.up (by simp) (by simp))
  have kB : ok = true → MKT B kt := fun o => (((k o).fm fA (by decide) (by decide) (by decide) (by decide) (by simp) (by simp)).fm fB (by decide) (by decide) (by decide) (by decide) (by simp) (by simp))
  obtain ⟨okB, hokB⟩ : ∃ o, o = (ok && decide (p < e)) := ⟨_, rfl⟩
  rw [← hokB] at mB
  have hok : okB = true → ok = true ∧ p < e ∧ x = w.getD p 0 ∧ p1 = p + 1 := fun o => by
    rw [hokB] at o
    have : ok = true ∧ p < e := by simpa using o
    rw [if_pos this.2] at hx hp1
    exact ⟨this.1, this.2, hx, hp1⟩
  have hok' : ok = true → p < e → okB = true := fun o q => by rw [hokB, o, decide_eq_true q]; rfl
  have hkt : okB = true → MKT B kt := fun o => kB (hok o).1
  unfold f_Md_readLiterals b_Md_readLiterals_52 b_Md_readLiterals_32
  rw [eA]
  dsimp only [Option.bind_some]
  rw [ld, show jshr (nI x) 2 = nI (x / 4) by rw [l2, jshr_n (by omega) (by omega)], ← hB, show nI x &&& 3 = nI (x % 4) from pk_andN (by omega) 2 rfl]
  by_cases q01 : x % 4 ≤ 1
  · rw [if_pos (show nI (x % 4) ≤ (1 : Int32) from nI_le (b := 1) q01 (by omega))]
    by_cases q1 : x % 4 = 1
    · rw [if_pos (show nI (x % 4) = (1 : Int32) by rw [q1]; rfl), show nI (x % 4) = (1 : Int32) by rw [q1]; rfl]
      obtain ⟨C, eC, mC, fC⟩ := mn_next mB he
      obtain ⟨y, hy⟩ : ∃ y, y = (if p1 < e then w.getD p1 0 else 0) := ⟨_, rfl⟩
      rw [← hy] at eC
      rw [eC]
      dsimp only [Option.bind_some]
      have fGC : Fm [4, 5, 11, 12, 13, 15, 16, 17, 18] [5, 6, 7] G C := fGB.tr (fC.up (by simp) (by simp))
      by_cases q : okB = true ∧ p1 < e
      · obtain ⟨ob, hpe⟩ := q
        obtain ⟨o1, o2, o3, o4⟩ := hok ob
        rw [ob, decide_eq_true hpe, if_pos hpe] at mC
        rw [if_pos hpe] at hy
        obtain ⟨H, eH, mH, k1, k2, f⟩ := ml57_1 (c := x / 4) (y := y) (by omega) (nI e) (x / 4) 0 C mFU (by omega) (by unfold mFU; omega) mC (by rw [fC.2 13 (by decide)]; exact b13)
        have es : litsS w e kt p = some (List.replicate (x / 4) y, p1 + 1, kt) := by
          unfold litsS
          rw [if_pos o2, ← o3, if_neg (by omega), if_pos q1, ← o4, if_pos hpe, hy, o4]
        refine ⟨H, _, true, List.replicate (x / 4) y, kt, eH, mH, fun _ => ⟨o1, es, ⟨?_, fun j hj => ?_⟩, ((hkt ob).fm fC (by decide) (by decide) (by decide) (by decide) (by simp) (by simp)).fm f (by simp) (by simp) (by simp) (by simp) (by decide) (by decide)⟩, fun _ _ => rfl, fGC.tr (f.up (by simp) (by simp))⟩
        · rw [f.2 13 (by simp), fC.2 13 (by decide), b13]; simp
        · have hj' : j < x / 4 := by simpa using hj
          rw [k1 j (by omega) hj', List.getD_eq_getElem?_getD, List.getElem?_replicate_of_lt hj']
          rfl
      · have mC' : MN C w (if p1 < e then p1 + 1 else p1) false := by
          have : (okB && decide (p1 < e)) = false := by
            cases okB with
            | false => rfl
            | true =>
              have : ¬ p1 < e := fun c => q ⟨rfl, c⟩
              simp [this]
          rw [this] at mC
          exact mC
        refine ⟨C, _, false, [], kt, ml57_bad mC' 4095 _ _ _ _, mC', fun o => absurd o (by decide), fun o hs => ?_, fGC⟩
        unfold litsS at hs
        by_cases c : p < e
        · have ob := hok' o c
          obtain ⟨o1, o2, o3, o4⟩ := hok ob
          rw [if_pos c, ← o3, if_neg (by omega), if_pos q1, ← o4, if_neg (fun c2 => q ⟨ob, c2⟩)] at hs
          exact absurd rfl hs
        · rw [if_neg c] at hs
          exact absurd rfl hs
    · have q0 : x % 4 = 0 := by omega
      rw [if_neg (show ¬ nI (x % 4) = (1 : Int32) from nne (b := 1) q1 (by omega) (by omega)), show nI (x % 4) = (0 : Int32) by rw [q0]; rfl]
      cases okB with
      | false =>
        refine ⟨B, _, false, [], kt, ml57_bad mB 4095 _ _ _ _, mB, fun o => absurd o (by decide), fun o hs => ?_, fGB⟩
        unfold litsS at hs
        rw [if_neg (fun c => absurd (hok' o c) (by decide))] at hs
        exact absurd rfl hs
      | true =>
        obtain ⟨o1, o2, o3, o4⟩ := hok rfl
        obtain ⟨H, p', eH, mH, k1, k2, f⟩ := ml57_0 (c := x / 4) (by omega) he (0 : Int32) (x / 4) 0 B p1 mFU (by omega) (by unfold mFU; omega) mB b13 (by omega)
        have es : litsS w e kt p = if p1 + x / 4 ≤ e then some ((w.drop p1).take (x / 4), p1 + x / 4, kt) else none := by
          unfold litsS
          rw [if_pos o2, ← o3, if_pos q0, ← o4]
        refine ⟨H, p', _, (w.drop p1).take (x / 4), kt, eH, mH, fun o => ?_, fun o hs => ?_, fGB.tr (f.up (by simp) (by simp))⟩
        · have q : p1 + x / 4 ≤ e := by simpa using o
          obtain ⟨j1, j2⟩ := k1 q
          have hl : ((w.drop p1).take (x / 4)).length = x / 4 := by simp; omega
          refine ⟨o1, by rw [es, if_pos q, j1], ⟨?_, fun j hj => ?_⟩, (hkt rfl).fm f (by decide) (by decide) (by decide) (by decide) (by decide) (by decide)⟩
          · rw [f.2 13 (by decide), b13, hl]
          · rw [hl] at hj
            have := j2 j hj
            rw [Nat.zero_add] at this
            rw [this, getD_take_drop hj (by omega)]
        · rw [es] at hs
          by_cases q : p1 + x / 4 ≤ e
          · rw [decide_eq_true q]
          · rw [if_neg q] at hs
            exact absurd rfl hs
  · rw [if_neg (show ¬ nI (x % 4) ≤ (1 : Int32) from fun q => absurd ((nI_leI (b := 1) (by omega) (by omega)).mp q) (by omega))]
    by_cases q2 : x % 4 = 2
    · rw [if_pos (show nI (x % 4) = (2 : Int32) by rw [q2]; rfl)]
      obtain ⟨C, pC, okC, eC, mC, g1, g2, fC⟩ := md_tree mB he
      rw [eC]
      dsimp only [Option.bind_some]
      obtain ⟨T, hT⟩ : ∃ T : T4, okC = true → treeS w e p1 = some (T, pC) ∧ MTr C T ∧ C 0 15 = 1 := by
        cases okC with
        | false => exact ⟨(0, 0, fun _ => 0, 0), fun o => absurd o (by decide)⟩
        | true =>
          obtain ⟨-, T, q⟩ := g1 rfl
          exact ⟨T, fun _ => q⟩
      obtain ⟨H, p', ok', l, eH, mH, k1, k2, f⟩ := md_syms (c := x / 4) (kt := some T) mC he (by omega) (by rw [fC.2 13 (by decide)]; exact b13) (fun o => ⟨(hT o).2.2, fun T' e' => by injection e' with e'; subst e'; exact (hT o).2.1⟩)
      rw [eH]
      refine ⟨H, p', ok', l, some T, rfl, mH, fun o => ?_, fun o hs => ?_, (fGB.tr (fC.up (by simp) (by simp))).tr (f.up (by simp) (by simp))⟩
      · obtain ⟨oC, T', t1, t2, t3⟩ := k1 o
        injection t1 with t1
        subst t1
        obtain ⟨s1, s2, s3⟩ := hT oC
        obtain ⟨oB, -⟩ := g1 oC
        obtain ⟨o1, o2, o3, o4⟩ := hok oB
        refine ⟨o1, ?_, t3, ⟨by rw [f.2 15 (by decide)]; exact s3, fun T' e' => by injection e' with e'; subst e'; exact s2.fm f (by decide) (by decide) (by decide) (by decide) (by decide)⟩⟩
        unfold litsS
        rw [if_pos o2, ← o3, if_neg (by omega), if_neg (by omega), if_pos q2, ← o4, s1]
        dsimp only [Option.bind_some]
        rw [t2]
        rfl
      · unfold litsS at hs
        by_cases c : p < e
        · have ob := hok' o c
          obtain ⟨o1, o2, o3, o4⟩ := hok ob
          rw [if_pos c, ← o3, if_neg (by omega), if_neg (by omega), if_pos q2, ← o4] at hs
          cases e3 : treeS w e p1 with
          | none => rw [e3] at hs; exact absurd rfl hs
          | some z =>
            have oC := g2 ob (by rw [e3]; simp)
            obtain ⟨s1, -⟩ := hT oC
            rw [s1] at hs
            dsimp only [Option.bind_some] at hs
            refine k2 oC T rfl (fun e4 => ?_)
            rw [e4] at hs
            exact absurd rfl hs
        · rw [if_neg c] at hs
          exact absurd rfl hs
    · rw [if_neg (show ¬ nI (x % 4) = (2 : Int32) from nne (b := 2) q2 (by omega) (by omega))]
      obtain ⟨H, p', ok', l, eH, mH, k1, k2, f⟩ := md_syms (c := x / 4) mB he (by omega) b13 hkt
      rw [eH]
      refine ⟨H, p', ok', l, kt, rfl, mH, fun o => ?_, fun o hs => ?_, fGB.tr (f.up (by simp) (by simp))⟩
      · obtain ⟨oB, T, t1, t2, t3⟩ := k1 o
        obtain ⟨o1, o2, o3, o4⟩ := hok oB
        refine ⟨o1, ?_, t3, (hkt oB).fm f (by decide) (by decide) (by decide) (by decide) (by decide) (by decide)⟩
        unfold litsS
        rw [if_pos o2, ← o3, if_neg (by omega), if_neg (by omega), if_neg q2, t1]
        dsimp only [Option.bind_some]
        rw [← o4, t2]
        rfl
      · unfold litsS at hs
        by_cases c : p < e
        · have ob := hok' o c
          obtain ⟨o1, o2, o3, o4⟩ := hok ob
          rw [if_pos c, ← o3, if_neg (by omega), if_neg (by omega), if_neg q2, ← o4] at hs
          cases kt with
          | none => exact absurd rfl hs
          | some T =>
            dsimp only [Option.bind_some] at hs
            refine k2 ob T rfl (fun e4 => ?_)
            rw [e4] at hs
            exact absurd rfl hs
        · rw [if_neg c] at hs
          exact absurd rfl hs
