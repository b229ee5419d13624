/-! pure: the class reads trees, symbols, literals -/
abbrev T4 : Type := Nat × Nat × (Nat → Nat) × Nat
def compB (wt : Nat → Nat) (n : Nat) : Bool := decide ((∀ j, j < n → wt j ≤ 7) ∧ 0 < sumW wt n ∧ sumW wt n < 128 ∧ 2 ^ Nat.log2 (restW wt n) = restW wt n)
theorem compB_iff {wt : Nat → Nat} {n : Nat} : compB wt n = true ↔ compS wt n := by
  unfold compB compS
  exact decide_eq_true_iff
def fullW (wt : Nat → Nat) (n j : Nat) : Nat := if j = n then Nat.log2 (restW wt n) + 1 else wt j
/-- a tree on the wire: first symbol, number of symbols, weights, depth; the place behind it -/
def treeS (w : List Nat) (lim p : Nat) : Option (T4 × Nat) :=
  if p + 1 < lim ∧ 1 ≤ w.getD (p + 1) 0 ∧ w.getD (p + 1) 0 ≤ 16 ∧ w.getD p 0 + w.getD (p + 1) 0 ≤ 255 ∧ p + 2 + (w.getD (p + 1) 0 + 1) / 2 ≤ lim ∧ (w.getD (p + 1) 0 % 2 = 0 ∨ w.getD (p + 2 + w.getD (p + 1) 0 / 2) 0 % 16 = 0) ∧ compB (hv w (p + 2)) (w.getD (p + 1) 0) = true
  then some ((w.getD p 0, w.getD (p + 1) 0, fullW (hv w (p + 2)) (w.getD (p + 1) 0), Nat.log2 (sumW (hv w (p + 2)) (w.getD (p + 1) 0)) + 1), p + 2 + (w.getD (p + 1) 0 + 1) / 2) else none
def TrG (T : T4) : Prop := (1 ≤ T.2.1 ∧ T.2.1 ≤ 16) ∧ T.1 + T.2.1 ≤ 255 ∧ (∀ s, s ≤ T.2.1 → T.2.2.1 s ≤ 7 ∧ T.2.2.1 s ≤ T.2.2.2 + 1) ∧ (1 ≤ T.2.2.2 ∧ T.2.2.2 ≤ 7) ∧ (ownL T.2.2.1 T.2.1 7).length = 2 ^ T.2.2.2
theorem comp_good {wt : Nat → Nat} {n f : Nat} (h : compS wt n) (hn1 : 1 ≤ n) (hn : n ≤ 16) (hf : f + n ≤ 255) : TrG (f, n, fullW wt n, Nat.log2 (sumW wt n) + 1) := by
  obtain ⟨h1, h2, h3, h4⟩ := h
  obtain ⟨b1, b2, b3, b4⟩ := rest_b h2 h3
  have hr : Nat.log2 (restW wt n) ≤ 6 := by
    have := (Nat.log2_lt (k := 7) (show restW wt n ≠ 0 by omega)).mpr (by omega)
    omega
  have hl := (log2_b h2).2
  have e0 : sumW (fullW wt n) n = sumW wt n := by
    unfold sumW
    refine sumh_cong _ (fun i hi => ?_)
    unfold fullW
    rw [if_neg (by omega)]
  have e1 : sumW (fullW wt n) (n + 1) = 2 ^ (Nat.log2 (sumW wt n) + 1) := by
    have : sumW (fullW wt n) (n + 1) = sumW (fullW wt n) n + cl (fullW wt n n) := rfl
    rw [this, e0]
    unfold fullW cl
    rw [if_pos rfl, if_neg (by omega), Nat.add_sub_cancel, h4]
    unfold restW
    omega
  have w7 : ∀ s, s ≤ n → fullW wt n s ≤ 7 := fun s hs => by
    unfold fullW
    by_cases q : s = n
    · rw [if_pos q]; omega
    · rw [if_neg q]; exact h1 s (by omega)
  refine ⟨⟨hn1, hn⟩, hf, fun s hs => ⟨w7 s hs, ?_⟩, ⟨by dsimp only; omega, by dsimp only; omega⟩, ?_⟩
  · have := sumh_one (a := fun s => cl (fullW wt n s)) (n := n + 1) (i := s) (by dsimp only at hs; omega)
    have e2 : sumh (fun s => cl (fullW wt n s)) (n + 1) = 2 ^ (Nat.log2 (sumW wt n) + 1) := e1
    rw [e2] at this
    dsimp only
    rcases Nat.eq_zero_or_pos (fullW wt n s) with q | q
    · omega
    · have ec : cl (fullW wt n s) = 2 ^ (fullW wt n s - 1) := by unfold cl; rw [if_neg (by omega)]
      rw [ec] at this
      have := (Nat.pow_le_pow_iff_right (a := 2) (by decide)).mp this
      omega
  · dsimp only
    rw [ownL_all w7]
    exact e1
/-- the class's tree -/
def CTr (F : Mem) (T : T4) : Prop := F 19 3 = nI T.1 ∧ F 19 4 = nI T.2.2.2 ∧ (∀ s, s ≤ T.2.1 → F 20 s = nI (T.2.2.1 s)) ∧ OW F 22 (ownL T.2.2.1 T.2.1 7) ∧ TrG T
theorem CTr.fr {F G : Mem} {T : T4} {S : List Nat} (h : CTr F T) (f : Fr S F G) (n1 : 19 ∉ S) (n2 : 20 ∉ S) (n3 : 22 ∉ S) : CTr G T := by
  unfold CTr OW at *
  rw [f 19 n1, f 20 n2, f 22 n3]
  exact h
def KT (F : Mem) (kt : Option T4) : Prop := F 15 6 = (if kt.isSome then 1 else 0) ∧ ∀ T, kt = some T → CTr F T
def WB (F : Mem) : Prop := ∀ i, i < 17 → ∃ k, k < 16 ∧ F 20 i = nI k
theorem to19 : TO3 L1 19 20 21 22 := ⟨⟨rfl, rfl, rfl⟩, ⟨by decide, by decide, by decide⟩, ⟨rfl, rfl, rfl⟩, ⟨by decide, by decide, by decide⟩, ⟨by decide, by decide, by decide⟩⟩
theorem r190 : mRf L1 19 0 = 20 := rfl
theorem r192 : mRf L1 19 2 = 22 := rfl
theorem fr_tree {F : Mem} {w : List Nat} {p lim ss bl : Nat} {ok : Bool} (h : CR F w p lim ss bl ok) (hb : WB F) :
    ∃ G p' ok', f_Fr_readTree L1 15 F = some G ∧ CR G w p' lim ss bl ok' ∧ WB G ∧ (ok' = true → ok = true ∧ ((treeS w lim p = none ∧ G 15 6 = 0) ∨ ∃ T, treeS w lim p = some (T, p') ∧ CTr G T ∧ G 15 6 = 1)) ∧ (ok = true → treeS w lim p ≠ none → ok' = true) ∧ Fr [15, 19, 20, 21, 22, 25] F G ∧ (∀ j, j ≠ 6 → G 15 j = F 15 j) := by
  have hw := h.2.2.2.2.2.2
  have f0 : Fr [15] F (u2 F 15 6 0) := Fr.u (by simp)
  obtain ⟨A, eA, cA, fA⟩ := wr_byte (h.fr f0 (by decide) (by decide) (by decide))
  obtain ⟨x, hx⟩ : ∃ x, x = (if p < lim then w.getD p 0 else 0) := ⟨_, rfl⟩
  have hx2 : x < 256 := by have := nI_byte hw p; rw [hx]; split <;> omega
  rw [← hx] at eA
  have f1 : Fr [19] A (u2 A 19 3 (nI x)) := Fr.u (by simp)
  obtain ⟨p1, hp1⟩ : ∃ q, q = (if p < lim then p + 1 else p) := ⟨_, rfl⟩
  rw [← hp1] at cA
  obtain ⟨B, eB, cB, fB⟩ := wr_byte (cA.fr f1 (by decide) (by decide) (by decide))
  obtain ⟨n, hn⟩ : ∃ n, n = (if p1 < lim then w.getD p1 0 else 0) := ⟨_, rfl⟩
  have hn2 : n < 256 := by have := nI_byte hw p1; rw [hn]; split <;> omega
  rw [← hn] at eB
  obtain ⟨p2, hp2⟩ : ∃ q, q = (if p1 < lim then p1 + 1 else p1) := ⟨_, rfl⟩
  rw [← hp2] at cB
  have fFB : Fr [15, 19, 20, 21, 22, 25] F B := (((f0.up (by simp)).tr (fA.up (by simp))).tr (f1.up (by simp))).tr (fB.up (by simp))
  have j15 : ∀ j, j ≠ 6 → B 15 j = F 15 j := fun j hj => by rw [fB 15 (by decide), f1 15 (by decide), fA 15 (by decide), u2_p hj]
  have b156 : B 15 6 = 0 := by rw [fB 15 (by decide), f1 15 (by decide), fA 15 (by decide), u2_s]
  have b193 : B 19 3 = nI x := by rw [fB 19 (by decide), u2_s]
  have wB : WB B := fun i hi => by rw [fB 20 (by decide), f1 20 (by decide), fA 20 (by decide), f0 20 (by decide)]; exact hb i hi
  -- both bytes were there
  have two : p + 1 < lim → p1 = p + 1 ∧ x = w.getD p 0 ∧ n = w.getD (p + 1) 0 ∧ p2 = p + 2 := fun q => by
    rw [if_pos (by omega)] at hx hp1
    subst hp1
    rw [if_pos q] at hn hp2
    exact ⟨rfl, hx, hn, by omega⟩
  have two' : (ok && decide (p < lim) && decide (p1 < lim)) = true → ok = true ∧ p + 1 < lim := fun q => by
    have : (ok = true ∧ p < lim) ∧ p1 < lim := by simpa using q
    obtain ⟨⟨q1, q2⟩, q3⟩ := this
    rw [if_pos q2] at hp1
    exact ⟨q1, by omega⟩
  obtain ⟨okB, hokB⟩ : ∃ o, o = (ok && decide (p < lim) && decide (p1 < lim)) := ⟨_, rfl⟩
  rw [← hokB] at cB two'
  -- no tree, nothing refused here
  have no : ∀ (G : Mem) (p' : Nat) (ok' : Bool), CR G w p' lim ss bl ok' → WB G → G 15 6 = 0 → Fr [15, 19, 20, 21, 22, 25] F G → (∀ j, j ≠ 6 → G 15 j = F 15 j) → (ok' = true → ok = true) → treeS w lim p = none → ∃ G' p' ok', some G = some G' ∧ CR G' w p' lim ss bl ok' ∧ WB G' ∧ (ok' = true → ok = true ∧ ((treeS w lim p = none ∧ G' 15 6 = 0) ∨ ∃ T, treeS w lim p = some (T, p') ∧ CTr G' T ∧ G' 15 6 = 1)) ∧ (ok = true → treeS w lim p ≠ none → ok' = true) ∧ Fr [15, 19, 20, 21, 22, 25] F G' ∧ (∀ j, j ≠ 6 → G' 15 j = F 15 j) :=
    fun G p' ok' c1 c2 c3 c4 c5 c6 c7 => ⟨G, p', ok', rfl, c1, c2, fun o => ⟨c6 o, Or.inl ⟨c7, c3⟩⟩, fun _ q => absurd c7 q, c4, c5⟩
  have okb : okB = true → ok = true := fun o => (two' o).1
  unfold f_Fr_readTree b_Fr_readTree_53 b_Fr_readTree_93
  rw [if_neg (fun q => q zb0), ld, r151, r154, r190, eA]
  dsimp only [Option.bind_some]
  rw [ld, eB]
  dsimp only [Option.bind_some]
  by_cases q1 : 1 ≤ n
  · rw [if_neg (show ¬ nI n < (1 : Int32) from fun q => absurd ((nI_ltI (b := 1) (by omega) (by omega)).mp q) (by omega))]
    by_cases q2 : n ≤ 16
    · rw [if_neg (show ¬ (17 : Int32) ≤ nI n from fun q => absurd ((nI_leI (a := 17) (by omega) (by omega)).mp q) (by omega))]
      by_cases q3 : x + n ≤ 255
      · rw [if_pos (show B 19 3 + nI n ≤ (255 : Int32) by rw [b193, nI_add]; exact nI_le (b := 255) q3 (by omega))]
        obtain ⟨C, eC, cC, fC⟩ := wr_halves cB (n := n) (a := 20) (by omega) (by decide) (show n ≤ 17 by omega) (by decide) (by decide) (by decide) (by decide)
        rw [eC]
        dsimp only [Option.bind_some]
        have fFC : Fr [15, 19, 20, 21, 22, 25] F C := fFB.tr (fC.up (by simp))
        -- the weights, sound or not
        have wts : ∀ (okC : Bool) (pC : Nat) (wt : Nat → Nat), CR C w pC lim ss bl okC → (∀ j, j < n → C 20 j = nI (wt j) ∧ wt j < 16) → WB C → (okC = true → ok = true ∧ (compS wt n → treeS w lim p = some ((x, n, fullW wt n, Nat.log2 (sumW wt n) + 1), pC)) ∧ (¬ compS wt n → treeS w lim p = none)) → (ok = true → treeS w lim p ≠ none → okC = true) →
            ∃ G p' ok', ((f_Tr_complete L1 19 (nI n) C).bind fun q20 => if q20.1 = 0 then some q20.2 else (f_Tr_dealCells L1 19 (nI n) q20.2).bind fun F23 => if ¬ ((1 : Int32) = 0 ∨ (1 : Int32) = 1) then none else lt' (u2 F23 15 6 (1 : Int32)) fun F25 => some F25) = some G ∧ CR G w p' lim ss bl ok' ∧ WB G ∧ (ok' = true → ok = true ∧ ((treeS w lim p = none ∧ G 15 6 = 0) ∨ ∃ T, treeS w lim p = some (T, p') ∧ CTr G T ∧ G 15 6 = 1)) ∧ (ok = true → treeS w lim p ≠ none → ok' = true) ∧ Fr [15, 19, 20, 21, 22, 25] F G ∧ (∀ j, j ≠ 6 → G 15 j = F 15 j) := by
          intro okC pC wt cC hwt wC g1 g2
          obtain ⟨D, r, eD, k1, k2, k3, k4, fD⟩ := tr_complete to19 q2 hwt
          have cD := cC.fr fD (by decide) (by decide) (by decide)
          have fFD : Fr [15, 19, 20, 21, 22, 25] F D := fFC.tr (fD.up (by simp))
          have jD : ∀ j, j ≠ 6 → D 15 j = F 15 j := fun j hj => by rw [fD 15 (by decide), fC 15 (by decide)]; exact j15 j hj
          have d156 : D 15 6 = 0 := by rw [fD 15 (by decide), fC 15 (by decide)]; exact b156
          rw [eD]
          dsimp only [Option.bind_some]
          by_cases qc : compS wt n
          · obtain ⟨e1, e2, e3⟩ := k1 qc
            have hr : Nat.log2 (restW wt n) ≤ 6 := by
              obtain ⟨b1, b2, b3, b4⟩ := rest_b qc.2.1 qc.2.2.1
              have := (Nat.log2_lt (k := 7) (show restW wt n ≠ 0 by omega)).mpr (by omega)
              omega
            rw [if_neg (show ¬ r = 0 by rw [e1]; decide)]
            have tg := comp_good (f := x) qc q1 q2 q3
            have hfw : ∀ s, s ≤ n → D 20 s = nI (fullW wt n s) ∧ fullW wt n s < 16 := fun s hs => by
              unfold fullW
              by_cases q : s = n
              · rw [if_pos q, q]
                exact ⟨e2, by omega⟩
              · rw [if_neg q, k3 s q]
                exact hwt s (by omega)
            have hd7 := tg.2.2.2.1.2
            dsimp only at hd7
            have h128 : (ownL (fullW wt n) n 7).length ≤ 128 := by
              have e4 := tg.2.2.2.2
              dsimp only at e4
              rw [e4]
              exact Nat.pow_le_pow_right (n := 2) (by decide) hd7
            obtain ⟨E, eE, oE, -, fE⟩ := tr_deal to19 q2 h128 hfw
            rw [eE]
            dsimp only [Option.bind_some]
            rw [if_neg (fun q => q zb1), ld]
            have fu : Fr [15] E (u2 E 15 6 1) := Fr.u (by simp)
            refine ⟨u2 E 15 6 1, pC, okC, rfl, (cD.fr fE (by decide) (by decide) (by decide)).fr fu (by decide) (by decide) (by decide), fun i hi => ?_, fun o => ?_, g2, (fFD.tr (fE.up (by simp))).tr (fu.up (by simp)), fun j hj => by rw [u2_p hj, fE 15 (by decide)]; exact jD j hj⟩
            · rw [fu 20 (by decide), fE 20 (by decide)]
              by_cases q : i = n
              · rw [q, e2]
                exact ⟨_, by omega, rfl⟩
              · rw [k3 i q]
                exact wC i hi
            · obtain ⟨g3, g4, g5⟩ := g1 o
              refine ⟨g3, Or.inr ⟨_, g4 qc, ⟨?_, ?_, fun s hs => ?_, ?_, tg⟩, u2_s⟩⟩
              · rw [fu 19 (by decide), fE 19 (by decide), k4 3 (by decide), fC 19 (by decide)]
                exact b193
              · rw [fu 19 (by decide), fE 19 (by decide)]
                exact e3
              · rw [fu 20 (by decide), fE 20 (by decide)]
                exact (hfw s hs).1
              · exact oE.eq (fu 22 (by decide))
          · obtain ⟨e1, e2⟩ := k2 qc
            rw [if_pos e1]
            refine ⟨D, pC, okC, rfl, cD, fun i hi => ?_, fun o => ?_, g2, fFD, jD⟩
            · by_cases q : i = n
              · rw [q, e2]
                exact wC n (by omega)
              · rw [k3 i q]
                exact wC i hi
            · obtain ⟨g3, g4, g5⟩ := g1 o
              exact ⟨g3, Or.inl ⟨g5 qc, d156⟩⟩
        by_cases q4 : p2 + (n + 1) / 2 ≤ lim
        · rw [if_pos q4] at cC
          obtain ⟨cC, v1, v2⟩ := cC
          refine wts _ _ (hv w p2) cC (fun j hj => ⟨v1 j hj, hv_lt hw p2 j⟩) (fun i hi => ?_) (fun o => ?_) (fun o hs => ?_)
          · by_cases q : i < n
            · exact ⟨_, hv_lt hw p2 i, v1 i q⟩
            · rw [v2 i (by omega)]
              exact wB i hi
          · have o' : okB = true ∧ (n % 2 = 0 ∨ w.getD (p2 + n / 2) 0 % 16 = 0) := by simpa using o
            obtain ⟨o1, o2⟩ := two' o'.1
            obtain ⟨t1, t2, t3, t4⟩ := two o2
            refine ⟨o1, fun qc => ?_, fun qc => ?_⟩
            · unfold treeS
              rw [← t2, ← t3, ← t4, if_pos ⟨o2, q1, q2, q3, q4, o'.2, compB_iff.mpr qc⟩]
            · unfold treeS
              rw [← t2, ← t3, ← t4, if_neg (fun c => qc (compB_iff.mp c.2.2.2.2.2.2))]
          · unfold treeS at hs
            by_cases c : p + 1 < lim ∧ 1 ≤ w.getD (p + 1) 0 ∧ w.getD (p + 1) 0 ≤ 16 ∧ w.getD p 0 + w.getD (p + 1) 0 ≤ 255 ∧ p + 2 + (w.getD (p + 1) 0 + 1) / 2 ≤ lim ∧ (w.getD (p + 1) 0 % 2 = 0 ∨ w.getD (p + 2 + w.getD (p + 1) 0 / 2) 0 % 16 = 0) ∧ compB (hv w (p + 2)) (w.getD (p + 1) 0) = true
            · obtain ⟨t1, t2, t3, t4⟩ := two c.1
              have c6 := c.2.2.2.2.2.1
              rw [← t3, ← t4] at c6
              have : okB = true := by rw [hokB, o, t1, decide_eq_true (show p < lim by omega), decide_eq_true c.1]; rfl
              rw [this, decide_eq_true c6]
              rfl
            · rw [if_neg c] at hs
              exact absurd rfl hs
        · rw [if_neg q4] at cC
          obtain ⟨cC, v1⟩ := cC
          have wC : WB C := fun i hi => by rw [v1 i]; exact wB i hi
          obtain ⟨g, hg⟩ := pickN wC
          refine wts false _ g cC (fun j hj => ⟨(hg j (by omega)).2, (hg j (by omega)).1⟩) wC (fun o => absurd o (by decide)) (fun o hs => ?_)
          unfold treeS at hs
          rw [if_neg (fun c => ?_)] at hs
          · exact absurd rfl hs
          · obtain ⟨t1, t2, t3, t4⟩ := two c.1
            have := c.2.2.2.2.1
            rw [← t3, ← t4] at this
            exact q4 this
      · rw [if_neg (show ¬ B 19 3 + nI n ≤ (255 : Int32) by rw [b193, nI_add]; exact fun q => absurd ((nI_leI (b := 255) (by omega) (by omega)).mp q) (by omega))]
        refine no B p2 okB cB wB b156 fFB j15 okb ?_
        unfold treeS
        rw [if_neg (fun c => ?_)]
        obtain ⟨t1, t2, t3, t4⟩ := two c.1
        omega
    · rw [if_pos (show (17 : Int32) ≤ nI n from nI_le (a := 17) (by omega) (by omega))]
      refine no B p2 okB cB wB b156 fFB j15 okb ?_
      unfold treeS
      rw [if_neg (fun c => ?_)]
      obtain ⟨t1, t2, t3, t4⟩ := two c.1
      omega
  · rw [if_pos (show nI n < (1 : Int32) from nI_lt (b := 1) (by omega) (by omega))]
    refine no B p2 okB cB wB b156 fFB j15 okb ?_
    unfold treeS
    rw [if_neg (fun c => ?_)]
    obtain ⟨t1, t2, t3, t4⟩ := two c.1
    omega
