/-! pure: the usual tables -/
def usC (k c : Nat) : Nat := if k = 1 then (if c < 8 then 2 else if c < 12 then 0 else 0) else (if c = 0 then 3 else if c < 3 then 2 else 1)
theorem us16 : ∀ k, k < 3 → (exl (usC k) 12).length = 16 := by decide
theorem us16w : (exl (usC 1) 8).length = 16 := by decide
theorem usw : exl (usC 1) 8 = exl (usC 1) 12 := by decide
theorem us2 : exl (usC 2) 12 = exl (usC 0) 12 := by decide
theorem usle (k c : Nat) : usC k c ≤ 16 := by unfold usC; split <;> split <;> (try split) <;> omega
theorem tcd_w : tcd (usC 1) 8 = tcd (usC 1) 12 := by funext s; unfold tcd; rw [usw]
theorem tx_w : tx (usC 1) 8 = tx (usC 1) 12 := by funext s; unfold tx; rw [tcd_w]
theorem tcd_2 : tcd (usC 2) 12 = tcd (usC 0) 12 := by funext s; unfold tcd; rw [us2]
theorem tx_2 : tx (usC 2) 12 = tx (usC 0) 12 := by funext s; unfold tx; rw [tcd_2]; rfl
theorem su2 {k : Nat} (hk : k < 3) : ∀ (d m : Nat) (F : Mem) (fu : Nat), d + m = 12 → d < fu → (∀ j, j < m → F 13 j = nI (usC k j)) →
    ∃ G1 G, f_Md_setUsual_2 L2 fu 0 (nI k) (nI m) F = some G ∧ f_Md_spread L2 0 (nI k) G1 = some G ∧ (∀ j, j < 12 → G1 13 j = nI (usC k j)) ∧ ∀ q, q ≠ 13 → G1 q = F q := by
  have r26 : mRf L2 0 26 = 13 := rfl
  have l13 : mLn L2 13 = 12 := rfl
  intro d
  induction d with
  | zero =>
    intro m F fu hd hf hg
    obtain ⟨fu, rfl⟩ : ∃ k, fu = k + 1 := ⟨fu - 1, by omega⟩
    obtain rfl : m = 12 := by omega
    obtain ⟨G, e, -⟩ := md_spread hk (usC k) (us16 k hk) (fun j _ => usle k j) hg
    refine ⟨F, G, ?_, e, hg, fun _ _ => rfl⟩
    show b_Md_setUsual_2 L2 (f_Md_setUsual_2 L2 fu) 0 (nI k) (nI 12) F = _
    unfold b_Md_setUsual_2
    rw [if_pos (by decide), e]
    rfl
  | succ d ih =>
    intro m F fu hd hf hg
    obtain ⟨fu, rfl⟩ : ∃ k, fu = k + 1 := ⟨fu - 1, by omega⟩
    have hm : m < 12 := by omega
    obtain ⟨G1, G, e, e2, g1, g2⟩ := ih (m + 1) (u2 F 13 m (nI (usC k m))) fu (by omega) (by omega) (fun j hj => by
      by_cases q : j = m
      · subst q
        rw [u2_s]
      · rw [u2_p q]; exact hg j (by omega))
    refine ⟨G1, G, ?_, e2, g1, fun q hq => (g2 q hq).trans (u2_ne hq)⟩
    have st : ∀ v, v = usC k m → b_Md_setUsual_50 L2 (f_Md_setUsual_2 L2 fu) 0 (nI k) (nI m) 13 (nI m) (nI v) F = some G := by
      intro v hv
      subst hv
      unfold b_Md_setUsual_50
      rw [l13, if_neg (in_l (m := 0) hm (by omega) (by omega) (show 13 < mNc L2 by decide)), ld, nI_clamp (by omega), nI_1]
      exact e
    show b_Md_setUsual_2 L2 (f_Md_setUsual_2 L2 fu) 0 (nI k) (nI m) F = _
    unfold b_Md_setUsual_2
    rw [r26, show (12 : Int32) = nI 12 from rfl, if_neg (fun q => absurd ((nI_leI (by omega) (by omega)).mp q) (by omega))]
    by_cases h1 : k = 1
    · subst h1
      rw [if_pos (show nI 1 = 1 from rfl), show (8 : Int32) = nI 8 from rfl]
      by_cases h8 : 8 ≤ m
      · rw [if_pos (nI_le h8 (by omega))]
        exact st 0 (by unfold usC; rw [if_pos rfl, if_neg (by omega)]; split <;> rfl)
      · rw [if_neg (fun q => h8 ((nI_leI (by omega) (by omega)).mp q))]
        exact st 2 (by unfold usC; rw [if_pos rfl, if_pos (by omega)])
    · rw [if_neg (show ¬ nI k = 1 from fun q => h1 (nI_inj (by omega) (by omega) (show nI k = nI 1 from q)))]
      by_cases h0 : m = 0
      · subst h0
        rw [if_pos (show nI 0 = 0 from rfl)]
        exact st 3 (by unfold usC; rw [if_neg h1, if_pos rfl])
      · rw [if_neg (fun q => h0 (nI_inj (by omega) (by omega) (q.trans nI_0.symm))), show (3 : Int32) = nI 3 from rfl]
        by_cases h3 : 3 ≤ m
        · rw [if_pos (nI_le h3 (by omega))]
          exact st 1 (by unfold usC; rw [if_neg h1, if_neg h0, if_neg (by omega)])
        · rw [if_neg (fun q => h3 ((nI_leI (by omega) (by omega)).mp q))]
          exact st 2 (by unfold usC; rw [if_neg h1, if_neg h0, if_pos (by omega)])
theorem md_setUsual {F : Mem} {k : Nat} (hk : k < 3) : ∃ G, f_Md_setUsual L2 0 (nI k) F = some G ∧ TM G k (usC k) ∧ G 9 k = 0 ∧ (∀ j, j ≠ k → G 9 j = F 9 j) ∧ (∀ q, q ≠ 9 → q ≠ 10 → q ≠ 11 → q ≠ 12 → q ≠ 13 → G q = F q) ∧ In (16 * k) 10 F G ∧ In (16 * k) 11 F G ∧ In (16 * k) 12 F G := by
  obtain ⟨G1, G, e, e2, g1, g2⟩ := su2 hk 12 0 F mFU (by omega) (by unfold mFU; omega) (fun j hj => absurd hj (by omega))
  obtain ⟨G', e3, t, h9, h9', hq, i1, i2, i3⟩ := md_spread hk (usC k) (us16 k hk) (fun j _ => usle k j) g1
  obtain rfl : G = G' := Option.some.inj (e2.symm.trans e3)
  refine ⟨G, e, t, h9, fun j hj => (h9' j hj).trans (by rw [g2 9 (by decide)]), fun q q1 q2 q3 q4 q5 => (hq q q1 q2 q3 q4).trans (g2 q q5), fun j hj => (i1 j hj).trans (by rw [g2 10 (by decide)]), fun j hj => (i2 j hj).trans (by rw [g2 11 (by decide)]), fun j hj => (i3 j hj).trans (by rw [g2 12 (by decide)])⟩
/-- the class's usual tables, as they were made -/
def UT (U : Mem) : Prop := ∀ s, s < 16 → (U 6 s = nI (tcd (usC 0) 12 s) ∧ U 7 s = nI (wd (tx (usC 0) 12 s)) ∧ U 8 s = bs (tx (usC 0) 12 s)) ∧ (U 11 s = nI (tcd (usC 1) 12 s) ∧ U 12 s = nI (wd (tx (usC 1) 12 s)) ∧ U 13 s = bs (tx (usC 1) 12 s))
theorem pf_us36 {F : Mem} {j a1 a2 a3 : Nat} (r1 : mRf L1 j 1 = a1) (r2 : mRf L1 j 2 = a2) (r3 : mRf L1 j 3 = a3) (n1 : a1 < 66) (n2 : a2 < 66) (n3 : a3 < 66) (l1 : mLn L1 a1 = 16) (l2 : mLn L1 a2 = 16) (l3 : mLn L1 a3 = 16) {s : Nat} (hs : s < 16) (z : Int32) :
    b_PF_usual_36 L1 (nI s) z j F = some (if z = 0 then F a1 s else if z = 1 then F a2 s else if z = 2 then F a3 s else -1, F) := by
  unfold b_PF_usual_36
  have g : ∀ a, a < 66 → mLn L1 a = 16 → mGl L1 a = 16 := fun a ha hl => by rw [mGl, if_pos (show a < mNc L1 from ha), hl]
  have ga : ∀ a, a < 66 → mGa L1 F a s = F a s := fun a ha => if_pos ha
  have hi : ¬ inb (nI s) 16 := inb_no hs (by omega)
  rw [r1, r2, r3, g a1 n1 l1, g a2 n2 l2, g a3 n3 l3]
  simp only [if_neg hi]
  rw [nI_clamp (by omega), ga a1 n1, ga a2 n2, ga a3 n3]
  by_cases h0 : z = 0
  · rw [if_pos h0, if_pos h0]
  · rw [if_neg h0, if_neg h0]
    by_cases h1 : z = 1
    · rw [if_pos h1, if_pos h1]
    · rw [if_neg h1, if_neg h1]
      by_cases h2 : z = 2
      · rw [if_pos h2, if_pos h2]
      · rw [if_neg h2, if_neg h2]
theorem md_us {F : Mem} {k s : Nat} (hk : k < 2) (hs : s < 16) (z : Int32) : ∃ G, f_Md_usual L2 0 (nI k) (nI s) z F = some (if z = 0 then nI (tcd (usC k) 12 s) else if z = 1 then nI (wd (tx (usC k) 12 s)) else if z = 2 then bs (tx (usC k) 12 s) else -1, G) ∧ ∀ q, q ≠ 9 → q ≠ 10 → q ≠ 11 → q ≠ 12 → q ≠ 13 → G q = F q := by
  obtain ⟨G, e, t, -, -, hq, -⟩ := md_setUsual (F := F) (show k < 3 by omega)
  refine ⟨G, ?_, hq⟩
  unfold f_Md_usual b_Md_usual_79
  have r1 : mRf L2 0 23 = 10 := rfl
  have r2 : mRf L2 0 24 = 11 := rfl
  have r3 : mRf L2 0 25 = 12 := rfl
  have g1 : mGl L2 10 = 48 := rfl
  have g2 : mGl L2 11 = 48 := rfl
  have g3 : mGl L2 12 = 48 := rfl
  have ga : ∀ a j, a < 26 → mGa L2 G a j = G a j := fun a j ha => if_pos ha
  have hi : ¬ inb (nI (16 * k + s)) 48 := inb_no (by omega) (by omega)
  obtain ⟨t1, t2, t3⟩ := t s hs
  rw [if_neg (nI_pos (by omega)), if_neg (show ¬ 1 < nI k from fun q => absurd ((nI_ltI (show 1 < 2 ^ 31 by omega) (by omega)).mp q) (by omega)), if_neg (nI_pos (by omega)), show (15 : Int32) = nI 15 from rfl, if_pos (nI_le (by omega) (by omega)), e]
  simp only [Option.bind_some]
  rw [k16, r1, r2, r3, g1, g2, g3]
  simp only [if_neg hi]
  rw [nI_clamp (by omega), ga 10 _ (by decide), ga 11 _ (by decide), ga 12 _ (by decide), t1, t2, t3]
  by_cases h0 : z = 0
  · rw [if_pos h0, if_pos h0]
  · rw [if_neg h0, if_neg h0]
    by_cases h1 : z = 1
    · rw [if_pos h1, if_pos h1]
    · rw [if_neg h1, if_neg h1]
      by_cases h2 : z = 2
      · rw [if_pos h2, if_pos h2]
      · rw [if_neg h2, if_neg h2]
theorem op_usual {U F G : Mem} {c w : List Nat} (hU : UT U) (x y z : Int32) (hp : RP U F c w) (hm : RM G c w) : ∃ r G', f_PF_usual L1 0 x y z F = some (r, F) ∧ f_Md_usual L2 0 x y z G = some (r, G') ∧ RM G' c w := by
  by_cases h0 : x < 0
  · refine ⟨-1, G, ?_, ?_, hm⟩
    · unfold f_PF_usual b_PF_usual_19; rw [if_pos h0]
    · unfold f_Md_usual b_Md_usual_19; rw [if_pos h0]
  by_cases h1 : 1 < x
  · refine ⟨-1, G, ?_, ?_, hm⟩
    · unfold f_PF_usual b_PF_usual_19; rw [if_neg h0, if_pos h1]
    · unfold f_Md_usual b_Md_usual_19; rw [if_neg h0, if_pos h1]
  by_cases h2 : y < 0
  · refine ⟨-1, G, ?_, ?_, hm⟩
    · unfold f_PF_usual b_PF_usual_19; rw [if_neg h0, if_neg h1, if_pos h2]
    · unfold f_Md_usual b_Md_usual_19; rw [if_neg h0, if_neg h1, if_pos h2]
  obtain ⟨k, hk, rfl⟩ : ∃ k, k ≤ 1 ∧ x = nI k := nI_of2 (M := 1) rfl h0 (Int32.not_lt.mp h1)
  obtain ⟨s, hs, rfl⟩ := nI_of h2
  by_cases h3 : s < 16
  · obtain ⟨G', e, q⟩ := md_us (F := G) (k := k) (by omega) h3 z
    refine ⟨_, G', ?_, e, ⟨?_, ?_⟩⟩
    · unfold f_PF_usual
      rw [if_neg h0, if_neg h1, if_neg h2, show (16 : Int32) = nI 16 from rfl, if_pos (nI_lt h3 (by omega))]
      obtain ⟨⟨u1, u2, u3⟩, u4, u5, u6⟩ := hU s h3
      have f := hp.2.2.1
      rcases (show k = 0 ∨ k = 1 by omega) with rfl | rfl
      · rw [if_pos (show nI 0 = 0 from rfl), show mRf L1 0 2 = 5 from rfl, pf_us36 (a1 := 6) (a2 := 7) (a3 := 8) rfl rfl rfl (by decide) (by decide) (by decide) rfl rfl rfl h3, f 6 (by decide) (by decide), f 7 (by decide) (by decide), f 8 (by decide) (by decide), u1, u2, u3]
      · rw [if_neg (by decide), show mRf L1 0 3 = 10 from rfl, pf_us36 (a1 := 11) (a2 := 12) (a3 := 13) rfl rfl rfl (by decide) (by decide) (by decide) rfl rfl rfl h3, f 11 (by decide) (by decide), f 12 (by decide) (by decide), f 13 (by decide) (by decide), u4, u5, u6]
    · exact ⟨by rw [q 0 (by decide) (by decide) (by decide) (by decide) (by decide)]; exact hm.1.1, fun j hj => by rw [q 1 (by decide) (by decide) (by decide) (by decide) (by decide)]; exact hm.1.2 j hj⟩
    · exact ⟨by rw [q 0 (by decide) (by decide) (by decide) (by decide) (by decide)]; exact hm.2.1, fun j hj => by rw [q 2 (by decide) (by decide) (by decide) (by decide) (by decide)]; exact hm.2.2 j hj⟩
  · refine ⟨-1, G, ?_, ?_, hm⟩
    · unfold f_PF_usual b_PF_usual_19
      rw [if_neg h0, if_neg h1, if_neg h2, show (16 : Int32) = nI 16 from rfl, if_neg (fun q => h3 ((nI_ltI (by omega) (by omega)).mp q))]
    · unfold f_Md_usual b_Md_usual_19
      rw [if_neg h0, if_neg h1, if_neg h2, show (15 : Int32) = nI 15 from rfl, if_neg (fun q => absurd ((nI_leI (by omega) (by omega)).mp q) (by omega))]
/-- the start -/
theorem init_ok : ∃ G0 G1 : Mem, f_ST_keepCounts (lST 0) 0 5 (nI 12) fST = some G0 ∧ f_ST_keepCounts (lST 1) 0 6 (nI 8) fST = some G1 ∧ UT (F1 G0 G1) ∧ RP (F1 G0 G1) (F1 G0 G1) [] [] ∧ RM F2 [] [] := by
  have S0 : SK (lST 0) 0 5 12 1 2 3 4 := ⟨⟨rfl, rfl, rfl, rfl⟩, ⟨by decide, by decide, by decide, by decide⟩, ⟨rfl, rfl, rfl, by decide, by decide, by decide, by decide⟩, by decide, by decide⟩
  have S1 : SK (lST 1) 0 6 8 1 2 3 4 := ⟨⟨rfl, rfl, rfl, rfl⟩, ⟨by decide, by decide, by decide, by decide⟩, ⟨rfl, rfl, rfl, by decide, by decide, by decide, by decide⟩, by decide, by decide⟩
  have c0 : ∀ k, k < 12 → mGa (lST 0) fST 5 k = nI (usC 0 k) := by decide
  have c1 : ∀ k, k < 8 → mGa (lST 1) fST 6 k = nI (usC 1 k) := by decide
  obtain ⟨G0, e0, t0, -⟩ := st_keep S0 (usC 0) (us16 0 (by decide)) (by decide) (fun k _ => usle 0 k) c0
  obtain ⟨G1, e1, t1, -⟩ := st_keep S1 (usC 1) us16w (by decide) (fun k _ => usle 1 k) c1
  refine ⟨G0, G1, e0, e1, fun s hs => ⟨t0.2 s hs, ?_⟩, ⟨⟨rfl, fun j hj => absurd hj (by simp)⟩, ⟨rfl, fun j hj => absurd hj (by simp)⟩, fun _ _ _ => rfl, Or.inr t0.1, Or.inr t1.1, Or.inr t0.1, fun i _ => ⟨0, by decide, rfl⟩, fun i _ => ⟨0, by decide, rfl⟩⟩, ⟨rfl, fun j hj => absurd hj (by simp)⟩, ⟨rfl, fun j hj => absurd hj (by simp)⟩⟩
  rw [← tcd_w, ← tx_w]
  exact t1.2 s hs
