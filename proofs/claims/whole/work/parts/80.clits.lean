/-! pure: the class reads symbols and literals -/
def symS (w : List Nat) (ss : Nat) (T : T4) : Nat → Nat → Option (List Nat × Nat)
  | 0, bl => some ([], bl)
  | c + 1, bl => if T.2.2.2 + 1 - T.2.2.1 ((ownL T.2.2.1 T.2.1 7).getD (nbits w ss bl T.2.2.2) 0) ≤ bl then (symS w ss T c (bl - (T.2.2.2 + 1 - T.2.2.1 ((ownL T.2.2.1 T.2.1 7).getD (nbits w ss bl T.2.2.2) 0)))).bind fun z => some ((T.1 + (ownL T.2.2.1 T.2.1 7).getD (nbits w ss bl T.2.2.2) 0) :: z.1, z.2) else none
def symsS (w : List Nat) (lim : Nat) (T : T4) (c p : Nat) : Option (List Nat × Nat) :=
  if p < lim ∧ 1 ≤ w.getD p 0 ∧ p + 1 + w.getD p 0 ≤ lim ∧ w.getD (p + w.getD p 0) 0 ≠ 0 then
    (symS w (p + 1) T c (8 * (w.getD p 0 - 1) + Nat.log2 (w.getD (p + w.getD p 0) 0))).bind fun z => if z.2 = 0 then some (z.1, p + 1 + w.getD p 0) else none
  else none
theorem own_sym {T : T4} (h : TrG T) {j : Nat} (hj : j < 2 ^ T.2.2.2) : (ownL T.2.2.1 T.2.1 7).getD j 0 ≤ T.2.1 ∧ 1 ≤ T.2.2.1 ((ownL T.2.2.1 T.2.1 7).getD j 0) := by
  have hl := h.2.2.2.2
  have := ownL_mem (getD_mem (xs := ownL T.2.2.1 T.2.1 7) (m := j) (by omega))
  exact ⟨this.1, this.2.1⟩
/-- the literals that stand in the class, whatever they are -/
def CLx (F : Mem) (xs : List Nat) : Prop := RD F 23 24 xs ∧ xs.length ≤ 63 ∧ ∀ b ∈ xs, b < 256
theorem CLx.add {F : Mem} {xs : List Nat} (h : CLx F xs) (hl : xs.length < 63) {b : Nat} (hb : b < 256) : ∃ G, f_Row_add L1 23 (nI b) F = some G ∧ CLx G (xs ++ [b]) ∧ Fr [23, 24] F G := by
  obtain ⟨G, e, d, f⟩ := row_add rs23 h.1 hl (x := nI b) b (byte_255 hb)
  exact ⟨G, e, ⟨d, by simp; omega, fun c q => (List.mem_append.mp q).elim (h.2.2 c) (fun q => by rw [List.mem_singleton] at q; omega)⟩, f⟩
theorem CLx.fr {F G : Mem} {xs : List Nat} {S : List Nat} (h : CLx F xs) (f : Fr S F G) (n1 : 23 ∉ S) (n2 : 24 ∉ S) : CLx G xs := ⟨h.1.fr f n1 n2, h.2⟩
theorem sym31 {w : List Nat} {p lim ss c : Nat} {T : T4} (hc : c ≤ 63) : ∀ (d i : Nat) (F : Mem) (bl : Nat) (ok : Bool) (xs : List Nat) (fu : Nat), d + i = c → d < fu → xs.length + d ≤ 63 → CR F w p lim ss bl ok → CTr F T → CLx F xs →
    ∃ G bl' ok' xs', f_Fr_readSymbols_31 L1 fu 15 (nI c) (nI i) F = some G ∧ CR G w p lim ss bl' ok' ∧ CLx G xs' ∧ (ok' = true → ok = true ∧ ∃ l, symS w ss T d bl = some (l, 0) ∧ xs' = xs ++ l) ∧ (ok = true → ∀ l, symS w ss T d bl = some (l, 0) → ok' = true) ∧ Fr [23, 24, 25] F G := by
  have en : ∀ (F : Mem) (bl : Nat) (ok : Bool), CR F w p lim ss bl ok → ∃ G, b_Fr_readSymbols_106 L1 15 F = some G ∧ CR G w p lim ss bl (ok && decide (bl = 0)) ∧ Fr [25] F G := fun F bl ok h => by
    obtain ⟨G, e, c, f⟩ := wr_end h
    refine ⟨G, ?_, c, f⟩
    unfold b_Fr_readSymbols_106
    rw [r151, e]
    rfl
  intro d
  induction d with
  | zero =>
    intro i F bl ok xs fu hd hf hl h t x
    obtain ⟨fu, rfl⟩ : ∃ k, fu = k + 1 := ⟨fu - 1, by omega⟩
    obtain ⟨G, e, cG, f⟩ := en F bl ok h
    refine ⟨G, bl, _, xs, ?_, cG, x.fr f (by decide) (by decide), fun o => ?_, fun o l hz => ?_, f.up (by simp)⟩
    · show b_Fr_readSymbols_31 L1 (f_Fr_readSymbols_31 L1 fu) 15 (nI c) (nI i) F = _
      unfold b_Fr_readSymbols_31
      rw [ile (by omega) (by omega)]
      exact e
    · have o' : ok = true ∧ bl = 0 := by simpa using o
      exact ⟨o'.1, [], by rw [o'.2]; rfl, by simp⟩
    · unfold symS at hz
      injection hz with hz
      injection hz with hz hz2
      simp [o, hz2]
  | succ d ih =>
    intro i F bl ok xs fu hd hf hl h t x
    obtain ⟨fu, rfl⟩ : ∃ k, fu = k + 1 := ⟨fu - 1, by omega⟩
    cases ok with
    | false =>
      obtain ⟨G, e, cG, f⟩ := en F bl false h
      refine ⟨G, bl, false, xs, ?_, by simpa using cG, x.fr f (by decide) (by decide), fun o => absurd o (by decide), fun o => absurd o (by decide), f.up (by simp)⟩
      show b_Fr_readSymbols_31 L1 (f_Fr_readSymbols_31 L1 fu) 15 (nI c) (nI i) F = _
      unfold b_Fr_readSymbols_31
      rw [ilen (by omega) (by omega), r151, if_pos h.s0]
      exact e
    | true =>
      obtain ⟨t1, t2, t3, t4, t5⟩ := id t
      obtain ⟨⟨g1, g2⟩, g3, g4, ⟨g5, g6⟩, g7⟩ := id t5
      have p7 : 2 ^ T.2.2.2 ≤ 2 ^ 7 := Nat.pow_le_pow_right (by decide) g6
      obtain ⟨v, hv⟩ : ∃ v, v = nbits w ss bl T.2.2.2 := ⟨_, rfl⟩
      have hv2 : v < 2 ^ T.2.2.2 := by rw [hv]; exact nbits_lt _ _ _ _
      obtain ⟨s, hs⟩ : ∃ s, s = (ownL T.2.2.1 T.2.1 7).getD v 0 := ⟨_, rfl⟩
      obtain ⟨o1, o2⟩ := own_sym t5 hv2
      rw [← hs] at o1 o2
      obtain ⟨w1, w2⟩ := g4 s o1
      obtain ⟨k, hk⟩ : ∃ k, k = T.2.2.2 + 1 - T.2.2.1 s := ⟨_, rfl⟩
      obtain ⟨A, eA, cA, fA⟩ := wr_drop h (n := k) (by omega)
      obtain ⟨B, eB, xB, fB⟩ := (x.fr fA (by decide) (by decide)).add (by omega) (b := T.1 + s) (by omega)
      have cB := cA.fr fB (by decide) (by decide) (by decide)
      have tB := (t.fr fA (by decide) (by decide) (by decide)).fr fB (by decide) (by decide) (by decide)
      have es : symS w ss T (d + 1) bl = if k ≤ bl then (symS w ss T d (bl - k)).bind fun z => some ((T.1 + s) :: z.1, z.2) else none := by
        show (if T.2.2.2 + 1 - T.2.2.1 ((ownL T.2.2.1 T.2.1 7).getD (nbits w ss bl T.2.2.2) 0) ≤ bl then _ else none) = _
        rw [← hv, ← hs, ← hk]
      obtain ⟨G, bl', ok', xs', e, cG, xG, k1, k2, fG⟩ := ih (i + 1) B _ _ _ fu (by omega) (by omega) (by simp; omega) cB tB xB
      refine ⟨G, bl', ok', xs', ?_, cG, xG, fun o => ?_, fun _ l hz => ?_, ((fA.up (by simp)).tr (fB.up (by simp))).tr fG⟩
      · show b_Fr_readSymbols_31 L1 (f_Fr_readSymbols_31 L1 fu) 15 (nI c) (nI i) F = _
        unfold b_Fr_readSymbols_31
        rw [ilen (by omega) (by omega), r151, r154, r155, r192, if_neg h.s1, t2, wr_bits h (by omega), ← hv]
        dsimp only [Option.bind_some]
        have e22 : mGa L1 F 22 (nI v).toNatClampNeg = nI s := by rw [mGa_n (show 22 < mNc L1 by decide), nI_clamp (by omega), t4 v (by omega), hs]
        rw [show mGl L1 22 = 128 from rfl, if_neg (inb_no (n := v) (by omega) (by omega)), e22]
        have eb : f_Tr_bitsOf L1 19 (nI s) F = some (nI k, F) := by
          unfold f_Tr_bitsOf
          rw [r190, show mGl L1 20 = 17 from rfl, if_neg (inb_no (n := s) (by omega) (by omega)), mGa_n (show 20 < mNc L1 by decide), nI_clamp (by omega), t3 s o1, t2, nI_1, pk_sub w2, hk]
        rw [eb]
        dsimp only [Option.bind_some]
        rw [eA]
        dsimp only [Option.bind_some]
        rw [fA 19 (by decide), t1, nI_add, eB]
        dsimp only [Option.bind_some]
        rw [nI_1]
        exact e
      · obtain ⟨q1, l, q2, q3⟩ := k1 o
        have q4 : k ≤ bl := by simpa using q1
        rw [if_pos q4] at q2
        refine ⟨rfl, (T.1 + s) :: l, ?_, by rw [q3]; simp⟩
        rw [es, if_pos q4, q2]
        rfl
      · rw [es] at hz
        by_cases q4 : k ≤ bl
        · rw [if_pos q4] at hz
          cases e3 : symS w ss T d (bl - k) with
          | none => rw [e3] at hz; exact absurd hz (by simp)
          | some z =>
            rw [e3] at hz
            dsimp only [Option.bind_some] at hz
            injection hz with hz
            injection hz with hz hz2
            refine k2 (by simp [q4]) z.1 ?_
            rw [if_pos q4, e3, ← hz2]
        · rw [if_neg q4] at hz
          exact absurd hz (by simp)
theorem fr_syms {F : Mem} {w : List Nat} {p lim ss bl c : Nat} {ok : Bool} {kt : Option T4} (h : CR F w p lim ss bl ok) (hc : c ≤ 63) (x : CLx F []) (k : ok = true → KT F kt) :
    ∃ G p' ss' bl' ok' xs, f_Fr_readSymbols L1 15 (nI c) F = some G ∧ CR G w p' lim ss' bl' ok' ∧ CLx G xs ∧ (ok' = true → ok = true ∧ ∃ T, kt = some T ∧ symsS w lim T c p = some (xs, p')) ∧ (ok = true → ∀ T, kt = some T → symsS w lim T c p ≠ none → ok' = true) ∧ Fr [23, 24, 25] F G := by
  have hw := h.2.2.2.2.2.2
  have h240 := h.2.2.2.2.2.1
  have hll := h.2.2.2.1
  unfold f_Fr_readSymbols
  by_cases q : F 15 6 = 0
  · obtain ⟨G, e, cG, f⟩ := wr_refuse h
    rw [if_pos q, r151, e]
    refine ⟨G, p, ss, bl, false, [], rfl, cG, x.fr f (by decide) (by decide), fun o => absurd o (by decide), fun o T e => ?_, f.up (by simp)⟩
    have := (k o).1
    rw [e, q] at this
    exact absurd this (by simp only [Option.isSome]; decide)
  · rw [if_neg q, r151]
    obtain ⟨A, eA, cA, fA⟩ := wr_byte h
    obtain ⟨n, hn⟩ : ∃ n, n = (if p < lim then w.getD p 0 else 0) := ⟨_, rfl⟩
    have hn2 : n < 256 := by have := nI_byte hw p; rw [hn]; split <;> omega
    rw [← hn] at eA
    obtain ⟨p1, hp1⟩ : ∃ q, q = (if p < lim then p + 1 else p) := ⟨_, rfl⟩
    rw [← hp1] at cA
    obtain ⟨B, eB, cB, fB⟩ := wr_stream cA (n := n) (by omega)
    rw [eA]
    dsimp only [Option.bind_some]
    rw [eB]
    dsimp only [Option.bind_some]
    have fFB : Fr [25] F B := fA.tr fB
    have xB := x.fr fFB (by decide) (by decide)
    by_cases qs : 1 ≤ n ∧ n ≤ lim - p1 ∧ w.getD (p1 + n - 1) 0 ≠ 0
    · rw [if_pos qs] at cB
      have hpl : p < lim := by
        by_cases q : p < lim
        · exact q
        · rw [if_neg q] at hn
          omega
      rw [if_pos hpl] at hn hp1
      subst hp1
      rw [decide_eq_true hpl, Bool.and_true] at cB
      rw [show p + 1 + n - 1 = p + n by omega] at cB qs
      cases ok with
      | false =>
        obtain ⟨G, e, cG, f⟩ := wr_end cB
        refine ⟨G, _, _, _, false, [], ?_, by simpa using cG, xB.fr f (by decide) (by decide), fun o => absurd o (by decide), fun o => absurd o (by decide), (fFB.up (by simp)).tr (f.up (by simp))⟩
        show b_Fr_readSymbols_31 L1 (f_Fr_readSymbols_31 L1 4095) 15 (nI c) 0 B = _
        unfold b_Fr_readSymbols_31 b_Fr_readSymbols_106
        rw [r151, if_pos cB.s0, e]
        split <;> rfl
      | true =>
        obtain ⟨T, hT⟩ : ∃ T, kt = some T := by
          cases kt with
          | some T => exact ⟨T, rfl⟩
          | none => exact absurd (k rfl).1 q
        obtain ⟨G, bl', ok', xs, e, cG, xG, k1, k2, f⟩ := sym31 (T := T) hc c 0 B _ true [] mFU (by omega) (by unfold mFU; omega) (by simpa using hc) cB (((k rfl).2 T hT).fr fFB (by decide) (by decide) (by decide)) xB
        have hq : p < lim ∧ 1 ≤ w.getD p 0 ∧ p + 1 + w.getD p 0 ≤ lim ∧ w.getD (p + w.getD p 0) 0 ≠ 0 := by
          rw [← hn]
          exact ⟨hpl, qs.1, by omega, qs.2.2⟩
        have es : symsS w lim T c p = (symS w (p + 1) T c (8 * (n - 1) + Nat.log2 (w.getD (p + n) 0))).bind fun z => if z.2 = 0 then some (z.1, p + 1 + n) else none := by
          unfold symsS
          rw [if_pos hq, hn]
        refine ⟨G, _, _, bl', ok', xs, e, cG, xG, fun o => ?_, fun _ T' e' hs => ?_, (fFB.up (by simp)).tr f⟩
        · obtain ⟨-, l, q1, q2⟩ := k1 o
          refine ⟨rfl, T, hT, ?_⟩
          rw [es, q1]
          dsimp only [Option.bind_some]
          rw [if_pos rfl, q2]
          rfl
        · rw [hT] at e'
          injection e' with e'
          subst e'
          rw [es] at hs
          cases e3 : symS w (p + 1) T c (8 * (n - 1) + Nat.log2 (w.getD (p + n) 0)) with
          | none => rw [e3] at hs; exact absurd rfl hs
          | some z =>
            rw [e3] at hs
            dsimp only [Option.bind_some] at hs
            by_cases hz : z.2 = 0
            · exact k2 rfl z.1 (by rw [e3, ← hz])
            · rw [if_neg hz] at hs
              exact absurd rfl hs
    · rw [if_neg qs] at cB
      obtain ⟨G, e, cG, f⟩ := wr_end cB
      refine ⟨G, _, _, _, false, [], ?_, by simpa using cG, xB.fr f (by decide) (by decide), fun o => absurd o (by decide), fun o T e hs => ?_, (fFB.up (by simp)).tr (f.up (by simp))⟩
      · show b_Fr_readSymbols_31 L1 (f_Fr_readSymbols_31 L1 4095) 15 (nI c) 0 B = _
        unfold b_Fr_readSymbols_31 b_Fr_readSymbols_106
        rw [r151, if_pos cB.s0, e]
        split <;> rfl
      · unfold symsS at hs
        rw [if_neg (fun c => ?_)] at hs
        · exact absurd rfl hs
        · rw [if_pos c.1] at hn hp1
          refine qs ⟨by omega, by omega, ?_⟩
          rw [hp1, hn, show p + 1 + w.getD p 0 - 1 = p + w.getD p 0 by omega]
          exact c.2.2.2
/-- the literals of a pack -/
def litsS (w : List Nat) (lim : Nat) (kt : Option T4) (p : Nat) : Option (List Nat × Nat × Option T4) :=
  if p < lim then
    if w.getD p 0 % 4 = 0 then (if p + 1 + w.getD p 0 / 4 ≤ lim then some ((w.drop (p + 1)).take (w.getD p 0 / 4), p + 1 + w.getD p 0 / 4, kt) else none)
    else if w.getD p 0 % 4 = 1 then (if p + 1 < lim then some (List.replicate (w.getD p 0 / 4) (w.getD (p + 1) 0), p + 2, kt) else none)
    else if w.getD p 0 % 4 = 2 then (treeS w lim (p + 1)).bind fun q => (symsS w lim q.1 (w.getD p 0 / 4) q.2).bind fun z => some (z.1, z.2, some q.1)
    else kt.bind fun T => (symsS w lim T (w.getD p 0 / 4) (p + 1)).bind fun z => some (z.1, z.2, kt)
  else none
theorem lits58 {w : List Nat} {lim ss bl c : Nat} (hc : c ≤ 63) : ∀ (d i : Nat) (F : Mem) (p : Nat) (ok : Bool) (xs : List Nat) (fu : Nat), d + i = c → d < fu → xs.length + d ≤ 63 → CR F w p lim ss bl ok → CLx F xs →
    ∃ G p' xs', f_Fr_readLiterals_58 L1 fu 15 (nI c) (nI i) F = some G ∧ CR G w p' lim ss bl (ok && decide (p + d ≤ lim)) ∧ CLx G xs' ∧ (p + d ≤ lim → p' = p + d ∧ xs' = xs ++ (w.drop p).take d) ∧ Fr [23, 24, 25] F G := by
  intro d
  induction d with
  | zero =>
    intro i F p ok xs fu hd hf hl h x
    obtain ⟨fu, rfl⟩ : ∃ k, fu = k + 1 := ⟨fu - 1, by omega⟩
    refine ⟨F, p, xs, ?_, ?_, x, fun _ => ⟨rfl, by simp⟩, Fr.rf⟩
    · show b_Fr_readLiterals_58 L1 (f_Fr_readLiterals_58 L1 fu) 15 (nI c) (nI i) F = _
      unfold b_Fr_readLiterals_58 b_Fr_readLiterals_121
      rw [ile (by omega) (by omega)]
    · have := h.2.2.1
      rw [decide_eq_true (show p + 0 ≤ lim by omega), Bool.and_true]
      exact h
  | succ d ih =>
    intro i F p ok xs fu hd hf hl h x
    obtain ⟨fu, rfl⟩ : ∃ k, fu = k + 1 := ⟨fu - 1, by omega⟩
    have hw := h.2.2.2.2.2.2
    have hlw := h.2.2.2.1
    obtain ⟨A, eA, cA, fA⟩ := wr_byte h
    obtain ⟨n, hn⟩ : ∃ n, n = (if p < lim then w.getD p 0 else 0) := ⟨_, rfl⟩
    have hn2 : n < 256 := by have := nI_byte hw p; rw [hn]; split <;> omega
    rw [← hn] at eA
    obtain ⟨B, eB, xB, fB⟩ := (x.fr fA (by decide) (by decide)).add (by omega) hn2
    obtain ⟨G, p', xs', e, cG, xG, k1, f⟩ := ih (i + 1) B _ _ _ fu (by omega) (by omega) (by simp; omega) (cA.fr fB (by decide) (by decide) (by decide)) xB
    refine ⟨G, p', xs', ?_, ?_, xG, fun q => ?_, ((fA.up (by simp)).tr (fB.up (by simp))).tr f⟩
    · show b_Fr_readLiterals_58 L1 (f_Fr_readLiterals_58 L1 fu) 15 (nI c) (nI i) F = _
      unfold b_Fr_readLiterals_58
      rw [ilen (by omega) (by omega), r151, r155, eA]
      dsimp only [Option.bind_some]
      rw [eB]
      dsimp only [Option.bind_some]
      rw [nI_1]
      exact e
    · by_cases q : p < lim
      · rw [if_pos q, decide_eq_true q, Bool.and_true, show p + 1 + d = p + (d + 1) by omega] at cG
        exact cG
      · rw [decide_eq_false q, Bool.and_false, Bool.false_and] at cG
        rw [decide_eq_false (show ¬ p + (d + 1) ≤ lim by omega), Bool.and_false]
        exact cG
    · have q0 : p < lim := by omega
      rw [if_pos q0] at k1 hn
      obtain ⟨k2, k3⟩ := k1 (by omega)
      refine ⟨by omega, ?_⟩
      rw [k3, take_drop_succ (by omega), hn]
      simp
theorem fr_literals {F : Mem} {w : List Nat} {p lim ss bl : Nat} {ok : Bool} {kt : Option T4} (h : CR F w p lim ss bl ok) (hb : WB F) (k : ok = true → KT F kt) :
    ∃ G p' ss' bl' ok' lits kt', f_Fr_readLiterals L1 15 F = some G ∧ CR G w p' lim ss' bl' ok' ∧ CL G lits 0 ∧ WB G ∧ (ok' = true → ok = true ∧ litsS w lim kt p = some (lits, p', kt') ∧ KT G kt') ∧ (ok = true → litsS w lim kt p ≠ none → ok' = true) ∧ Fr [15, 19, 20, 21, 22, 23, 24, 25] F G ∧ (∀ j, j ≠ 6 → j ≠ 7 → G 15 j = F 15 j) := by
  have hw := h.2.2.2.2.2.2
  obtain ⟨A, eA, cA, fA⟩ := wr_byte h
  obtain ⟨x, hx⟩ : ∃ x, x = (if p < lim then w.getD p 0 else 0) := ⟨_, rfl⟩
  have hx2 : x < 256 := by have := nI_byte hw p; rw [hx]; split <;> omega
  rw [← hx] at eA
  obtain ⟨B, hB⟩ : ∃ B, B = u2 (u2 A 23 1 0) 15 7 0 := ⟨_, rfl⟩
  have fB : Fr [15, 23] A B := by rw [hB]; exact (Fr.u (by simp)).tr (Fr.u (by simp))
  have cB := cA.fr fB (by decide) (by decide) (by decide)
  obtain ⟨p1, hp1⟩ : ∃ q, q = (if p < lim then p + 1 else p) := ⟨_, rfl⟩
  rw [← hp1] at cB
  have xB : CLx B [] := ⟨⟨by rw [hB, u2_c (by decide), u2_s]; rfl, fun j hj => absurd hj (by simp)⟩, by simp, by simp⟩
  have b157 : B 15 7 = nI 0 := by rw [hB, u2_s]; rfl
  have jB : ∀ j, j ≠ 7 → B 15 j = F 15 j := fun j hj => by rw [hB, u2_p hj, u2_c (by decide), fA 15 (by decide)]
  have kB : ok = true → KT B kt := fun o => by
    obtain ⟨k1, k2⟩ := k o
    refine ⟨by rw [jB 6 (by decide)]; exact k1, fun T e => ?_⟩
    exact ((k2 T e).fr fA (by decide) (by decide) (by decide)).fr fB (by decide) (by decide) (by decide)
  have wB : WB B := fun i hi => by rw [fB 20 (by decide), fA 20 (by decide)]; exact hb i hi
  have fFB : Fr [15, 19, 20, 21, 22, 23, 24, 25] F B := (fA.up (by simp)).tr (fB.up (by simp))
  have cl0 : ∀ (G : Mem) (xs : List Nat), CLx G xs → G 15 7 = B 15 7 → CL G xs 0 := fun G xs c e => ⟨c.1, by rw [e]; exact b157, Nat.zero_le _, c.2⟩
  obtain ⟨okB, hokB⟩ : ∃ o, o = (ok && decide (p < lim)) := ⟨_, rfl⟩
  rw [← hokB] at cB
  have hok : okB = true → ok = true ∧ p < lim ∧ x = w.getD p 0 ∧ p1 = p + 1 := fun o => by
    rw [hokB] at o
    have : ok = true ∧ p < lim := by simpa using o
    rw [if_pos this.2] at hx hp1
    exact ⟨this.1, this.2, hx, hp1⟩
  have hok' : ok = true → p < lim → okB = true := fun o q => by rw [hokB, o, decide_eq_true q]; rfl
  have hkt : okB = true → KT B kt := fun o => kB (hok o).1
  have e7 : ∀ G : Mem, Fr [23, 24, 25] B G → G 15 = B 15 := fun G f => f 15 (by decide)
  have ktG : ∀ {S : List Nat} (G : Mem) (kt : Option T4), KT B kt → Fr S B G → 15 ∉ S → 19 ∉ S → 20 ∉ S → 22 ∉ S → KT G kt := fun G kt q f n1 n2 n3 n4 => ⟨by rw [f 15 n1]; exact q.1, fun T e => (q.2 T e).fr f n2 n3 n4⟩
  unfold f_Fr_readLiterals b_Fr_readLiterals_121
  rw [r151, r155, eA]
  dsimp only [Option.bind_some]
  rw [ld, ld, ← hB, show nI x &&& 3 = nI (x % 4) from pk_andN (by omega) 2 rfl, show jshr (nI x) 2 = nI (x / 4) by rw [l2, jshr_n (by omega) (by omega)]]
  by_cases q0 : x % 4 = 0
  · rw [if_pos (show nI (x % 4) = 0 by rw [q0]; rfl)]
    obtain ⟨G, p', xs, e, cG, xG, k1, f⟩ := lits58 (c := x / 4) (by omega) (x / 4) 0 B p1 okB [] mFU (by omega) (by unfold mFU; omega) (by simp; omega) cB xB
    refine ⟨G, p', ss, bl, _, xs, kt, e, cG, cl0 G xs xG (by rw [e7 G f]), fun i hi => by rw [f 20 (by decide)]; exact wB i hi, fun o => ?_, fun o hs => ?_, fFB.tr (f.up (by simp)), fun j h6 h7 => by rw [e7 G f]; exact jB j h7⟩
    · have o' : okB = true ∧ p1 + x / 4 ≤ lim := by simpa using o
      obtain ⟨o1, o2, o3, o4⟩ := hok o'.1
      obtain ⟨k2, k3⟩ := k1 o'.2
      refine ⟨o1, ?_, ktG G kt (hkt o'.1) f (by decide) (by decide) (by decide) (by decide)⟩
      unfold litsS
      rw [if_pos o2, ← o3, if_pos q0, ← o4, if_pos o'.2, k2, k3]
      rfl
    · unfold litsS at hs
      by_cases q : p < lim
      · have ob := hok' o q
        obtain ⟨o1, o2, o3, o4⟩ := hok ob
        rw [if_pos q, ← o3, if_pos q0, ← o4] at hs
        by_cases q2 : p1 + x / 4 ≤ lim
        · rw [ob, decide_eq_true q2]; rfl
        · rw [if_neg q2] at hs
          exact absurd rfl hs
      · rw [if_neg q] at hs
        exact absurd rfl hs
  · rw [if_neg (show ¬ nI (x % 4) = 0 from nne (b := 0) q0 (by omega) (by omega))]
    by_cases q1 : x % 4 = 1
    · rw [if_pos (show nI (x % 4) = 1 by rw [q1]; rfl)]
      obtain ⟨C, eC, cC, fC⟩ := wr_byte cB
      obtain ⟨y, hy⟩ : ∃ y, y = (if p1 < lim then w.getD p1 0 else 0) := ⟨_, rfl⟩
      have hy2 : y < 256 := by have := nI_byte hw p1; rw [hy]; split <;> omega
      rw [← hy] at eC
      rw [eC]
      dsimp only [Option.bind_some]
      have xC := xB.fr fC (by decide) (by decide)
      obtain ⟨D, eD, dD, fD⟩ := row_addTimes rs23 xC.1 (x := nI y) y (byte_255 hy2) (x / 4) (by omega) (by simp; omega)
      rw [eD]
      rw [List.nil_append] at dD
      have f : Fr [23, 24, 25] B D := (fC.up (by simp)).tr (fD.up (by simp))
      have cD := cC.fr fD (by decide) (by decide) (by decide)
      refine ⟨D, _, ss, bl, _, _, kt, rfl, cD, cl0 D _ ⟨dD, by simp; omega, fun b q => by have := (List.mem_replicate.mp q).2; omega⟩ (by rw [e7 D f]), fun i hi => by rw [f 20 (by decide)]; exact wB i hi, fun o => ?_, fun o hs => ?_, fFB.tr (f.up (by simp)), fun j h6 h7 => by rw [e7 D f]; exact jB j h7⟩
      · have o' : okB = true ∧ p1 < lim := by simpa using o
        obtain ⟨o1, o2, o3, o4⟩ := hok o'.1
        have o5 := o'.2
        subst o4
        rw [if_pos o5] at hy
        refine ⟨o1, ?_, ktG D kt (hkt o'.1) f (by decide) (by decide) (by decide) (by decide)⟩
        unfold litsS
        rw [if_pos o2, ← o3, if_neg q0, if_pos q1, if_pos o5, if_pos o5, hy]
      · unfold litsS at hs
        by_cases q : p < lim
        · have ob := hok' o q
          obtain ⟨o1, o2, o3, o4⟩ := hok ob
          rw [if_pos q, ← o3, if_neg q0, if_pos q1, ← o4] at hs
          by_cases q2 : p1 < lim
          · rw [ob, decide_eq_true q2]; rfl
          · rw [if_neg q2] at hs
            exact absurd rfl hs
        · rw [if_neg q] at hs
          exact absurd rfl hs
    · rw [if_neg (show ¬ nI (x % 4) = 1 from nne (b := 1) q1 (by omega) (by omega))]
      by_cases q2 : x % 4 = 2
      · rw [if_pos (show nI (x % 4) = 2 by rw [q2]; rfl)]
        obtain ⟨C, pC, okC, eC, cC, wC, g1, g2, fC, jC⟩ := fr_tree cB wB
        rw [eC]
        dsimp only [Option.bind_some]
        have xC := xB.fr fC (by decide) (by decide)
        -- the tree that is known then
        obtain ⟨kt', hk'⟩ : ∃ kt' : Option T4, okC = true → KT C kt' ∧ ((treeS w lim p1 = none ∧ kt' = none) ∨ ∃ T, treeS w lim p1 = some (T, pC) ∧ kt' = some T) := by
          cases okC with
          | false => exact ⟨none, fun o => absurd o (by decide)⟩
          | true =>
            rcases (g1 rfl).2 with ⟨t1, t2⟩ | ⟨T, t1, t2, t3⟩
            · exact ⟨none, fun _ => ⟨⟨t2, fun T e => absurd e (by simp)⟩, Or.inl ⟨t1, rfl⟩⟩⟩
            · exact ⟨some T, fun _ => ⟨⟨t3, fun T' e => by injection e with e; subst e; exact t2⟩, Or.inr ⟨T, t1, rfl⟩⟩⟩
        obtain ⟨G, p', ss', bl', ok', xs, e, cG, xG, k1, k2, f⟩ := fr_syms (c := x / 4) cC (by omega) xC (fun o => (hk' o).1)
        rw [e]
        refine ⟨G, p', ss', bl', ok', xs, kt', rfl, cG, cl0 G xs xG (by rw [f 15 (by decide), jC 7 (by decide)]), fun i hi => by rw [f 20 (by decide)]; exact wC i hi, fun o => ?_, fun o hs => ?_, (fFB.tr (fC.up (by simp))).tr (f.up (by simp)), fun j h6 h7 => by rw [f 15 (by decide), jC j h6]; exact jB j h7⟩
        · obtain ⟨oC, T, t1, t2⟩ := k1 o
          obtain ⟨m1, m2⟩ := hk' oC
          obtain ⟨oB, -⟩ := g1 oC
          obtain ⟨o1, o2, o3, o4⟩ := hok oB
          refine ⟨o1, ?_, ⟨by rw [f 15 (by decide)]; exact m1.1, fun T e => (m1.2 T e).fr f (by decide) (by decide) (by decide)⟩⟩
          rcases m2 with ⟨m3, m4⟩ | ⟨T', m3, m4⟩
          · rw [m4] at t1
            exact absurd t1 (by simp)
          · rw [m4] at t1
            injection t1 with t1
            subst t1
            unfold litsS
            rw [if_pos o2, ← o3, if_neg q0, if_neg q1, if_pos q2, ← o4, m3]
            dsimp only [Option.bind_some]
            rw [t2, m4]
            rfl
        · unfold litsS at hs
          by_cases q : p < lim
          · have ob := hok' o q
            obtain ⟨o1, o2, o3, o4⟩ := hok ob
            rw [if_pos q, ← o3, if_neg q0, if_neg q1, if_pos q2, ← o4] at hs
            cases e3 : treeS w lim p1 with
            | none => rw [e3] at hs; exact absurd rfl hs
            | some z =>
              have oC := g2 ob (by rw [e3]; simp)
              obtain ⟨m1, m2⟩ := hk' oC
              rcases m2 with ⟨m3, m4⟩ | ⟨T', m3, m4⟩
              · rw [m3] at e3
                exact absurd e3 (by simp)
              · rw [m3] at hs
                dsimp only [Option.bind_some] at hs
                refine k2 oC T' m4 (fun e4 => ?_)
                rw [e4] at hs
                exact absurd rfl hs
          · rw [if_neg q] at hs
            exact absurd rfl hs
      · rw [if_neg (show ¬ nI (x % 4) = 2 from nne (b := 2) q2 (by omega) (by omega))]
        obtain ⟨G, p', ss', bl', ok', xs, e, cG, xG, k1, k2, f⟩ := fr_syms (c := x / 4) cB (by omega) xB hkt
        rw [e]
        refine ⟨G, p', ss', bl', ok', xs, kt, rfl, cG, cl0 G xs xG (by rw [e7 G f]), fun i hi => by rw [f 20 (by decide)]; exact wB i hi, fun o => ?_, fun o hs => ?_, fFB.tr (f.up (by simp)), fun j h6 h7 => by rw [e7 G f]; exact jB j h7⟩
        · obtain ⟨oB, T, t1, t2⟩ := k1 o
          obtain ⟨o1, o2, o3, o4⟩ := hok oB
          refine ⟨o1, ?_, ktG G kt (hkt oB) f (by decide) (by decide) (by decide) (by decide)⟩
          unfold litsS
          rw [if_pos o2, ← o3, if_neg q0, if_neg q1, if_neg q2, t1]
          dsimp only [Option.bind_some]
          rw [← o4, t2]
          rfl
        · unfold litsS at hs
          by_cases q : p < lim
          · have ob := hok' o q
            obtain ⟨o1, o2, o3, o4⟩ := hok ob
            rw [if_pos q, ← o3, if_neg q0, if_neg q1, if_neg q2, ← o4] at hs
            cases kt with
            | none => exact absurd rfl hs
            | some T =>
              dsimp only [Option.bind_some] at hs
              refine k2 ob T rfl (fun e4 => ?_)
              rw [e4] at hs
              exact absurd rfl hs
          · rw [if_neg q] at hs
            exact absurd rfl hs
