/-! pure: the model adds the sequences -/
theorem usC2 : usC 2 = usC 0 := by
  funext c
  rfl
theorem ucd2 : ucd 2 = ucd 0 := by funext s; unfold ucd; rw [usC2]
theorem uwd2 : uwd 2 = uwd 0 := by funext s; unfold uwd; rw [usC2]
theorem ubs2 : ubs 2 = ubs 0 := by funext s; unfold ubs; rw [usC2, uwd2]
theorem lst2 (c : Nat) : lstS 2 c = lstS 0 c := by unfold lstS; rw [ucd2]
theorem bef2 (c n : Nat) : befS 2 c n = befS 0 c n := by unfold befS; rw [ucd2, uwd2, ubs2]
theorem stD2 (cd : Nat → Nat) (n : Nat) : ∀ d, stD 2 cd n d = stD 0 cd n d
  | 0 => lst2 _
  | d + 1 => by
    show befS 2 _ (stD 2 cd n d) = befS 0 _ (stD 0 cd n d)
    rw [stD2 cd n d, bef2]
theorem stF2 (cd : Nat → Nat) (n i : Nat) : stF 2 cd n i = stF 0 cd n i := stD2 cd n _
theorem u_tab3 {k : Nat} (hk : k < 3) {s : Nat} (hs : s < 16) : ucd k s < 12 ∧ tx (usC k) 12 s < 32 ∧ 0 < tx (usC k) 12 s ∧ ubs k s < 16 := by
  have : k = 0 ∨ k = 1 ∨ k = 2 := by omega
  rcases this with rfl | rfl | rfl
  · exact u_tab 0 (by decide) s hs
  · exact u_tab 1 (by decide) s hs
  · rw [ucd2, ubs2, usC2]
    exact u_tab 0 (by decide) s hs
theorem any_lt {P : Nat → Bool} {n : Nat} (h : (List.range n).any P = true) : ∃ s, s < n ∧ P s = true := by
  obtain ⟨s, h1, h2⟩ := List.any_eq_true.mp h
  exact ⟨s, List.mem_range.mp h1, h2⟩
theorem u_ex1 : ∀ k, k < 2 → ∀ c, c < (if k = 1 then 8 else 12) → (List.range 16).any (fun s => decide (ucd k s = c)) = true := by decide +kernel
theorem u_ex2 : ∀ k, k < 2 → ∀ c, c < (if k = 1 then 8 else 12) → ∀ x, x < 16 → (List.range 16).any (fun s => decide (ucd k s = c ∧ ubs k s ≤ x ∧ x < ubs k s + 2 ^ uwd k s)) = true := by decide +kernel
theorem u_e1 {k c : Nat} (hk : k < 3) (hc : c < mo k) : ∃ s, s < 16 ∧ decide (ucd k s = c) = true := by
  have : k = 0 ∨ k = 1 ∨ k = 2 := by omega
  rcases this with rfl | rfl | rfl
  · exact any_lt (u_ex1 0 (by decide) c hc)
  · exact any_lt (u_ex1 1 (by decide) c hc)
  · rw [ucd2]
    exact any_lt (u_ex1 0 (by decide) c hc)
theorem u_e2 {k c x : Nat} (hk : k < 3) (hc : c < mo k) (hx : x < 16) : ∃ s, s < 16 ∧ decide (ucd k s = c ∧ ubs k s ≤ x ∧ x < ubs k s + 2 ^ uwd k s) = true := by
  have : k = 0 ∨ k = 1 ∨ k = 2 := by omega
  rcases this with rfl | rfl | rfl
  · exact any_lt (u_ex2 0 (by decide) c hc x hx)
  · exact any_lt (u_ex2 1 (by decide) c hc x hx)
  · rw [ucd2, ubs2, uwd2]
    exact any_lt (u_ex2 0 (by decide) c hc x hx)
/-- what the model has found from the top down -/
def fI (P : Nat → Bool) : Nat → Int32
  | 0 => -1
  | d + 1 => if P (15 - d) = true then nI (15 - d) else fI P d
theorem fI_fnd (P : Nat → Bool) : ∀ d, d ≤ 16 → (∃ s, 16 - d ≤ s ∧ s < 16 ∧ P s = true) → fI P d = nI (fndU P d (16 - d))
  | 0, _, ⟨s, h1, h2, _⟩ => absurd h1 (by omega)
  | d + 1, hd, ⟨s, h1, h2, h3⟩ => by
    show (if P (15 - d) = true then nI (15 - d) else fI P d) = nI (if P (16 - (d + 1)) = true then 16 - (d + 1) else fndU P d (16 - (d + 1) + 1))
    rw [show 16 - (d + 1) = 15 - d by omega]
    by_cases q : P (15 - d) = true
    · rw [if_pos q, if_pos q]
    · rw [if_neg q, if_neg q, show 15 - d + 1 = 16 - d by omega]
      refine fI_fnd P d (by omega) ⟨s, ?_, h2, h3⟩
      by_cases e : s = 15 - d
      · rw [e] at h3
        exact absurd h3 q
      · omega
/-- the model's usual tables -/
def UM (G : Mem) : Prop := ∀ k, k < 3 → ∀ s, s < 16 → G 10 (16 * k + s) = nI (ucd k s) ∧ G 11 (16 * k + s) = nI (uwd k s) ∧ G 12 (16 * k + s) = nI (ubs k s)
theorem UM.fm {G H : Mem} {sl cs : List Nat} (h : UM G) (f : Fm sl cs G H) (n1 : 10 ∉ cs) (n2 : 11 ∉ cs) (n3 : 12 ∉ cs) : UM H := by
  unfold UM at *
  rw [f.1 10 (by decide) n1, f.1 11 (by decide) n2, f.1 12 (by decide) n3]
  exact h
theorem TM.um {G : Mem} {k : Nat} (hk : k < 3) (h : TM G k (usC k)) {s : Nat} (hs : s < 16) : G 10 (16 * k + s) = nI (ucd k s) ∧ G 11 (16 * k + s) = nI (uwd k s) ∧ G 12 (16 * k + s) = nI (ubs k s) := by
  obtain ⟨h1, h2, h3⟩ := h s hs
  have t := u_tab3 hk hs
  exact ⟨h1, h2, by rw [h3, bs_nI t.2.1 t.2.2.1]; rfl⟩
theorem r032 : mRf L2 0 32 = 18 := rfl
theorem r033 : mRf L2 0 33 = 19 := rfl
theorem m18 : mLn L2 18 = 120 := rfl
theorem m19 : mLn L2 19 = 120 := rfl
theorem gl18 : mGl L2 18 = 120 := rfl
theorem gl19 : mGl L2 19 = 120 := rfl
theorem ga18 (F : Mem) (j : Nat) : mGa L2 F 18 j = F 18 j := if_pos (by decide)
theorem ga19 (F : Mem) (j : Nat) : mGa L2 F 19 j = F 19 j := if_pos (by decide)
/-- three usual tables -/
theorem md_usual3 {G : Mem} : ∃ H, f_Md_addSequences_23 L2 mFU 0 0 G = f_Md_addSequences_41 L2 mFU 0 0 H ∧ UM H ∧ Fm [] [9, 10, 11, 12, 13] G H := by
  obtain ⟨A, eA, tA, -, -, fA, iA0, iA1, iA2⟩ := md_setUsual (F := G) (k := 0) (by decide)
  obtain ⟨B, eB, tB, -, -, fB, iB0, iB1, iB2⟩ := md_setUsual (F := A) (k := 1) (by decide)
  obtain ⟨C, eC, tC, -, -, fC, iC0, iC1, iC2⟩ := md_setUsual (F := B) (k := 2) (by decide)
  refine ⟨C, ?_, fun k hk s hs => ?_, ?_⟩
  · have s0 : ∀ (kk : Nat → Int32 → Mem → Option Mem), b_Md_addSequences_23 L2 kk 0 (nI 0) G = kk 0 (nI 1) A := fun kk => by
      unfold b_Md_addSequences_23
      rw [if_neg (show ¬ (3 : Int32) ≤ nI 0 by decide), eA, Option.bind_some, nI_1]
    have s1 : ∀ (kk : Nat → Int32 → Mem → Option Mem), b_Md_addSequences_23 L2 kk 0 (nI 1) A = kk 0 (nI 2) B := fun kk => by
      unfold b_Md_addSequences_23
      rw [if_neg (show ¬ (3 : Int32) ≤ nI 1 by decide), eB, Option.bind_some, nI_1]
    have s2 : ∀ (kk : Nat → Int32 → Mem → Option Mem), b_Md_addSequences_23 L2 kk 0 (nI 2) B = kk 0 (nI 3) C := fun kk => by
      unfold b_Md_addSequences_23
      rw [if_neg (show ¬ (3 : Int32) ≤ nI 2 by decide), eC, Option.bind_some, nI_1]
    have s3 : ∀ (kk : Nat → Int32 → Mem → Option Mem), b_Md_addSequences_23 L2 kk 0 (nI 3) C = f_Md_addSequences_41 L2 mFU 0 0 C := fun kk => by
      unfold b_Md_addSequences_23
      rw [if_pos (show (3 : Int32) ≤ nI 3 by decide)]
    have t0 : f_Md_addSequences_23 L2 mFU 0 0 G = b_Md_addSequences_23 L2 (f_Md_addSequences_23 L2 4095) 0 (nI 0) G := rfl
    have t1 : f_Md_addSequences_23 L2 4095 0 (nI 1) A = b_Md_addSequences_23 L2 (f_Md_addSequences_23 L2 4094) 0 (nI 1) A := rfl
    have t2 : f_Md_addSequences_23 L2 4094 0 (nI 2) B = b_Md_addSequences_23 L2 (f_Md_addSequences_23 L2 4093) 0 (nI 2) B := rfl
    have t3 : f_Md_addSequences_23 L2 4093 0 (nI 3) C = b_Md_addSequences_23 L2 (f_Md_addSequences_23 L2 4092) 0 (nI 3) C := rfl
    rw [t0, s0, t1, s1, t2, s2, t3, s3]
  · have : k = 0 ∨ k = 1 ∨ k = 2 := by omega
    rcases this with rfl | rfl | rfl
    · have := tA.um (by decide) hs
      rw [iC0 _ (by omega), iB0 _ (by omega), iC1 _ (by omega), iB1 _ (by omega), iC2 _ (by omega), iB2 _ (by omega)]
      exact this
    · have := tB.um (by decide) hs
      rw [iC0 _ (by omega), iC1 _ (by omega), iC2 _ (by omega)]
      exact this
    · exact tC.um (by decide) hs
  · have q : ∀ {X Y : Mem}, (∀ q, q ≠ 9 → q ≠ 10 → q ≠ 11 → q ≠ 12 → q ≠ 13 → Y q = X q) → Fm [] [9, 10, 11, 12, 13] X Y := fun h => ⟨fun k h0 hk => by
      simp only [List.mem_cons, List.not_mem_nil, or_false, not_or] at hk
      exact h k hk.1 hk.2.1 hk.2.2.1 hk.2.2.2.1 hk.2.2.2.2, fun s _ => by rw [h 0 (by decide) (by decide) (by decide) (by decide) (by decide)]⟩
    exact ((q fA).tr (q fB)).tr (q fC)
/-! codes -/
theorem mc82 {q : List N3} {i : Nat} (hi : i < q.length) (hn : q.length ≤ 40) (hp : ∀ x ∈ q, PQ x) (k41 : Nat → Int32 → Mem → Option Mem) : ∀ (d c : Nat) (G : Mem) (fu : Nat), d + c = 12 → d < fu → G 17 i = nI (qM q i) → G 15 i = nI (qA q i) → (0 < c → G 18 (80 + i) = nI (codeL mB (qM q i) c) ∧ G 18 i = nI (codeL aB (qA q i) c)) →
    ∃ H, f_Md_addSequences_82 L2 k41 fu 0 (nI i) (nI c) G = k41 0 (nI (i + 1)) H ∧ H 18 (80 + i) = nI (mcS (qM q i)) ∧ H 18 i = nI (acS (qA q i)) ∧ (∀ j, j ≠ i → j ≠ 80 + i → H 18 j = G 18 j) ∧ Fm [] [18] G H := by
  have pm := g_le hp hi
  have hm1 : 3 ≤ qM q i ∧ qM q i ≤ 119 := by have := pm.2.1; unfold qM; omega
  have ha1 : qA q i ≤ 119 := by have := pm.2.2; unfold qA; omega
  have cl' : ∀ B x c, codeL B x c < 2 ^ 20 ∨ 12 < c := fun B x c => by
    rcases codeL_lt B x c with h | h <;> omega
  intro d
  induction d with
  | zero =>
    intro c G fu hd hf h17 h15 hc
    obtain ⟨fu, rfl⟩ : ∃ k, fu = k + 1 := ⟨fu - 1, by omega⟩
    obtain rfl : c = 12 := by omega
    obtain ⟨h1, h2⟩ := hc (by decide)
    refine ⟨G, ?_, h1, h2, fun _ _ _ => rfl, Fm.rf⟩
    show b_Md_addSequences_82 L2 k41 (f_Md_addSequences_82 L2 k41 fu) 0 (nI i) (nI 12) G = _
    unfold b_Md_addSequences_82
    rw [if_pos (show (12 : Int32) ≤ nI 12 by decide), nI_1]
  | succ d ih =>
    intro c G fu hd hf h17 h15 hc
    obtain ⟨fu, rfl⟩ : ∃ k, fu = k + 1 := ⟨fu - 1, by omega⟩
    have hcc : c < 12 := by omega
    have eM : codeL mB (qM q i) (c + 1) = if mB c ≤ qM q i then c else codeL mB (qM q i) c := rfl
    have eA : codeL aB (qA q i) (c + 1) = if aB c ≤ qA q i then c else codeL aB (qA q i) c := rfl
    have bM : mB c ≤ 25 := by
      have : ∀ c, c < 12 → mB c ≤ 25 := by decide
      exact this c hcc
    have bA : aB c ≤ 25 := by
      have : ∀ c, c < 12 → aB c ≤ 25 := by decide
      exact this c hcc
    obtain ⟨A, hA⟩ : ∃ A, A = u2 G 18 (80 + i) (nI (codeL mB (qM q i) (c + 1))) := ⟨_, rfl⟩
    have fA : Fm [] [18] G A := by rw [hA]; exact Fm.uc (by simp) (by decide)
    obtain ⟨B, hB⟩ : ∃ B, B = u2 A 18 i (nI (codeL aB (qA q i) (c + 1))) := ⟨_, rfl⟩
    have fB : Fm [] [18] A B := by rw [hB]; exact Fm.uc (by simp) (by decide)
    obtain ⟨H, eH, h1, h2, h3, fH⟩ := ih (c + 1) B fu (by omega) (by omega) (by rw [fB.1 17 (by decide) (by decide), fA.1 17 (by decide) (by decide)]; exact h17) (by rw [fB.1 15 (by decide) (by decide), fA.1 15 (by decide) (by decide)]; exact h15) (fun _ => ⟨by rw [hB, u2_p (by omega), hA, u2_s], by rw [hB, u2_s]⟩)
    refine ⟨H, ?_, h1, h2, fun j j1 j2 => by rw [h3 j j1 j2, hB, u2_p j1, hA, u2_p j2], (fA.tr fB).tr fH⟩
    have e151 : ∀ y : Nat, y = codeL aB (qA q i) (c + 1) → b_Md_addSequences_151 L2 k41 (f_Md_addSequences_82 L2 k41 fu) 0 (nI i) (nI c) 18 (nI i) (nI y) A = f_Md_addSequences_82 L2 k41 fu 0 (nI i) (nI (c + 1)) B := fun y hy => by
      unfold b_Md_addSequences_151
      rw [m18, if_neg (in_w (n := i) (by omega) (by omega) (show 18 < mNc L2 by decide)), ld, nI_clamp (by omega), nI_1, hy, ← hB]
    have e122 : ∀ y : Nat, y = codeL mB (qM q i) (c + 1) → b_Md_addSequences_122 L2 k41 (f_Md_addSequences_82 L2 k41 fu) 0 (nI i) (nI c) 18 (nI (80 + i)) (nI y) G = f_Md_addSequences_82 L2 k41 fu 0 (nI i) (nI (c + 1)) B := fun y hy => by
      unfold b_Md_addSequences_122
      rw [m18, if_neg (in_w (n := 80 + i) (by omega) (by omega) (show 18 < mNc L2 by decide)), ld, nI_clamp (by omega), hy, ← hA, (md_mB hcc A).2.2.1, Option.bind_some, r029, gl15, r032, gl18, if_neg (inb_no (n := i) (by omega) (by omega)), show mGa L2 A 15 (nI i).toNatClampNeg = nI (qA q i) by rw [ga15, nI_clamp (by omega), fA.1 15 (by decide) (by decide)]; exact h15]
      by_cases z : aB c ≤ qA q i
      · rw [if_pos z] at eA
        rw [iltn z (by omega)]
        exact e151 c eA.symm
      · rw [if_neg z] at eA
        have c0 : 0 < c := by
          rcases Nat.eq_zero_or_pos c with e | e
          · subst e
            exact absurd (Nat.zero_le _) z
          · exact e
        rw [ilt (by omega) (by omega), if_neg (inb_no (n := i) (by omega) (by omega)), show mGa L2 A 18 (nI i).toNatClampNeg = nI (codeL aB (qA q i) c) by rw [ga18, nI_clamp (by omega), hA, u2_p (by omega)]; exact (hc c0).2]
        exact e151 _ eA.symm
    show b_Md_addSequences_82 L2 k41 (f_Md_addSequences_82 L2 k41 fu) 0 (nI i) (nI c) G = _
    unfold b_Md_addSequences_82
    rw [if_neg (show ¬ (12 : Int32) ≤ nI c from fun z => absurd ((nI_leI (a := 12) (by omega) (by omega)).mp z) (by omega)), (md_mB hcc G).1, Option.bind_some, r031, gl17, r032, gl18, if_neg (inb_no (n := i) (by omega) (by omega)), show mGa L2 G 17 (nI i).toNatClampNeg = nI (qM q i) by rw [ga17, nI_clamp (by omega)]; exact h17, show ((80 : Int32) + nI i) = nI (80 + i) by rw [show (80 : Int32) = nI 80 from rfl, nI_add]]
    by_cases z : mB c ≤ qM q i
    · rw [if_pos z] at eM
      rw [iltn z (by omega)]
      exact (e122 c eM.symm).trans eH
    · rw [if_neg z] at eM
      have c0 : 0 < c := by
        rcases Nat.eq_zero_or_pos c with e | e
        · subst e
          exact absurd (show mB 0 ≤ qM q i from hm1.1) z
        · exact e
      rw [ilt (by omega) (by omega), if_neg (inb_no (n := 80 + i) (by omega) (by omega)), show mGa L2 G 18 (nI (80 + i)).toNatClampNeg = nI (codeL mB (qM q i) c) by rw [ga18, nI_clamp (by omega)]; exact (hc c0).1]
      exact (e122 _ eM.symm).trans eH
theorem mc51 {q : List N3} {i : Nat} (hi : i < q.length) (hn : q.length ≤ 40) (hp : ∀ x ∈ q, PQ x) {G : Mem} (h16 : G 16 i = nI (qV q i)) (k41 : Nat → Int32 → Mem → Option Mem) : ∀ (d b fu : Nat), d + b = Nat.log2 (qV q i) → d < fu → f_Md_addSequences_51 L2 k41 fu 0 (nI i) (nI b) G = f_Md_addSequences_82 L2 k41 mFU 0 (nI i) 0 (u2 G 18 (40 + i) (nI (Nat.log2 (qV q i)))) := by
  have pm := g_le hp hi
  have hv : 0 < qV q i ∧ qV q i < 128 := by have := pm.1; unfold qV; omega
  have hlg : Nat.log2 (qV q i) < 7 := (Nat.log2_lt (by omega)).mpr hv.2
  obtain ⟨lb1, lb2⟩ := log2_b hv.1
  intro d
  induction d with
  | zero =>
    intro b fu hd hf
    obtain ⟨fu, rfl⟩ : ∃ k, fu = k + 1 := ⟨fu - 1, by omega⟩
    obtain rfl : b = Nat.log2 (qV q i) := by omega
    show b_Md_addSequences_51 L2 k41 (f_Md_addSequences_51 L2 k41 fu) 0 (nI i) (nI _) G = _
    unfold b_Md_addSequences_51
    rw [r030, gl16, r032, m18, if_neg (inb_no (n := i) (by omega) (by omega)), show mGa L2 G 16 (nI i).toNatClampNeg = nI (qV q i) by rw [ga16, nI_clamp (by omega)]; exact h16, nI_1, jshr_n (by omega) (by omega), show qV q i / 2 ^ (Nat.log2 (qV q i) + 1) = 0 from Nat.div_eq_of_lt lb2, if_pos (show nI 0 ≤ 0 by decide), show ((40 : Int32) + nI i) = nI (40 + i) by rw [show (40 : Int32) = nI 40 from rfl, nI_add], if_neg (in_w (n := 40 + i) (by omega) (by omega) (show 18 < mNc L2 by decide)), ld, nI_clamp (by omega)]
  | succ d ih =>
    intro b fu hd hf
    obtain ⟨fu, rfl⟩ : ∃ k, fu = k + 1 := ⟨fu - 1, by omega⟩
    have hdv : 0 < qV q i / 2 ^ (b + 1) := Nat.div_pos (Nat.le_trans (Nat.pow_le_pow_right (by decide) (by omega)) lb1) (Nat.two_pow_pos _)
    have hdl : qV q i / 2 ^ (b + 1) ≤ qV q i := Nat.div_le_self _ _
    show b_Md_addSequences_51 L2 k41 (f_Md_addSequences_51 L2 k41 fu) 0 (nI i) (nI b) G = _
    unfold b_Md_addSequences_51
    rw [r030, gl16, if_neg (inb_no (n := i) (by omega) (by omega)), show mGa L2 G 16 (nI i).toNatClampNeg = nI (qV q i) by rw [ga16, nI_clamp (by omega)]; exact h16, nI_1, jshr_n (by omega) (by omega), if_neg (show ¬ nI (qV q i / 2 ^ (b + 1)) ≤ 0 from fun z => absurd ((nI_leI (b := 0) (by omega) (by omega)).mp z) (by omega))]
    exact ih (b + 1) fu (by omega) (by omega)
/-- the codes stand in the model's array -/
def MCd (G : Mem) (q : List N3) (n : Nat) : Prop := ∀ i, i < n → G 18 i = nI (acS (qA q i)) ∧ G 18 (40 + i) = nI (Nat.log2 (qV q i)) ∧ G 18 (80 + i) = nI (mcS (qM q i))
theorem mc41 {q : List N3} (hn : q.length ≤ 40) (hp : ∀ x ∈ q, PQ x) : ∀ (d i : Nat) (G : Mem) (fu : Nat), d + i = q.length → d < fu → G 0 28 = nI q.length → MSq G 0 q → MCd G q i → ∃ H, f_Md_addSequences_41 L2 fu 0 (nI i) G = f_Md_addSequences_166 L2 mFU 0 0 H ∧ MCd H q q.length ∧ Fm [] [18] G H := by
  intro d
  induction d with
  | zero =>
    intro i G fu hd hf h28 hq hc
    obtain ⟨fu, rfl⟩ : ∃ k, fu = k + 1 := ⟨fu - 1, by omega⟩
    obtain rfl : i = q.length := by omega
    refine ⟨G, ?_, hc, Fm.rf⟩
    show b_Md_addSequences_41 L2 (f_Md_addSequences_41 L2 fu) 0 (nI q.length) G = _
    unfold b_Md_addSequences_41
    rw [h28, ile (Nat.le_refl _) (by omega)]
  | succ d ih =>
    intro i G fu hd hf h28 hq hc
    obtain ⟨fu, rfl⟩ : ∃ k, fu = k + 1 := ⟨fu - 1, by omega⟩
    have hi : i < q.length := by omega
    have pm := g_le hp hi
    have hv : 0 < qV q i ∧ qV q i < 128 := by have := pm.1; unfold qV; omega
    have hlg : Nat.log2 (qV q i) < 7 := (Nat.log2_lt (by omega)).mpr hv.2
    obtain ⟨q1, q2, q3⟩ := hq i hi
    rw [Nat.zero_add] at q1 q2 q3
    have e1 := mc51 hi hn hp (G := G) q1 (f_Md_addSequences_41 L2 fu) (Nat.log2 (qV q i)) 0 mFU (by omega) (by unfold mFU; omega)
    obtain ⟨A, hA⟩ : ∃ A, A = u2 G 18 (40 + i) (nI (Nat.log2 (qV q i))) := ⟨_, rfl⟩
    have fA : Fm [] [18] G A := by rw [hA]; exact Fm.uc (by simp) (by decide)
    rw [← hA] at e1
    obtain ⟨B, eB, b1, b2, b3, fB⟩ := mc82 hi hn hp (f_Md_addSequences_41 L2 fu) 12 0 A mFU (by omega) (by unfold mFU; omega) (by rw [fA.1 17 (by decide) (by decide)]; exact q2) (by rw [fA.1 15 (by decide) (by decide)]; exact q3) (fun z => absurd z (by omega))
    have fGB : Fm [] [18] G B := fA.tr fB
    obtain ⟨H, eH, hH, fH⟩ := ih (i + 1) B fu (by omega) (by omega) (by rw [fGB.2 28 (by simp)]; exact h28) (hq.fm fGB (by decide) (by decide) (by decide)) (fun j hj => by
      rcases Nat.lt_or_ge j i with z | z
      · obtain ⟨c1, c2, c3⟩ := hc j z
        refine ⟨?_, ?_, ?_⟩
        · rw [b3 j (by omega) (by omega), hA, u2_p (by omega)]; exact c1
        · rw [b3 (40 + j) (by omega) (by omega), hA, u2_p (by omega)]; exact c2
        · rw [b3 (80 + j) (by omega) (by omega), hA, u2_p (by omega)]; exact c3
      · obtain rfl : j = i := by omega
        exact ⟨b2, by rw [b3 (40 + j) (by omega) (by omega), hA, u2_s], b1⟩)
    refine ⟨H, ?_, hH, fGB.tr fH⟩
    show b_Md_addSequences_41 L2 (f_Md_addSequences_41 L2 fu) 0 (nI i) G = _
    unfold b_Md_addSequences_41
    rw [h28, ilen (by omega) (by omega)]
    exact e1.trans (eB.trans eH)
