/-! pure: literals and matches are put; the model -/
def mcap (bg due : Nat) : Nat := min 120 (bg + due)
def MX (G : Mem) (bg due : Nat) (o : List Nat) : Prop := MD G 6 3 o ∧ G 0 8 = nI bg ∧ G 0 9 = nI due ∧ bg ≤ o.length ∧ o.length ≤ mcap bg due ∧ due < 65536
theorem mcap_le (bg due : Nat) : mcap bg due ≤ 120 := Nat.min_le_left _ _
theorem MX.fm {G H : Mem} {bg due : Nat} {o : List Nat} {sl cs : List Nat} (h : MX G bg due o) (f : Fm sl cs G H) (h6 : 6 ∉ sl) (h8 : 8 ∉ sl) (h9 : 9 ∉ sl) (h3 : 3 ∉ cs) : MX H bg due o := ⟨h.1.fm f h6 h3 (by decide), by rw [f.2 8 h8]; exact h.2.1, by rw [f.2 9 h9]; exact h.2.2.1, h.2.2.2⟩
theorem r07 : mRf L2 0 7 = 3 := rfl
theorem r010 : mRf L2 0 10 = 4 := rfl
theorem r014 : mRf L2 0 14 = 5 := rfl
theorem r029 : mRf L2 0 29 = 15 := rfl
theorem r030 : mRf L2 0 30 = 16 := rfl
theorem r031 : mRf L2 0 31 = 17 := rfl
theorem m3 : mLn L2 3 = 120 := rfl
theorem m4 : mLn L2 4 = 3 := rfl
theorem gl3 : mGl L2 3 = 120 := rfl
theorem gl4 : mGl L2 4 = 3 := rfl
theorem gl5 : mGl L2 5 = 120 := rfl
theorem gl15 : mGl L2 15 = 255 := rfl
theorem gl16 : mGl L2 16 = 255 := rfl
theorem gl17 : mGl L2 17 = 255 := rfl
theorem ga3 (F : Mem) (j : Nat) : mGa L2 F 3 j = F 3 j := if_pos (by decide)
theorem ga4 (F : Mem) (j : Nat) : mGa L2 F 4 j = F 4 j := if_pos (by decide)
theorem ga5 (F : Mem) (j : Nat) : mGa L2 F 5 j = F 5 j := if_pos (by decide)
theorem ga15 (F : Mem) (j : Nat) : mGa L2 F 15 j = F 15 j := if_pos (by decide)
theorem ga16 (F : Mem) (j : Nat) : mGa L2 F 16 j = F 16 j := if_pos (by decide)
theorem ga17 (F : Mem) (j : Nat) : mGa L2 F 17 j = F 17 j := if_pos (by decide)
/-- one byte more, or refused -/
theorem md_emit {G : Mem} {w : List Nat} {p bg due : Nat} {ok : Bool} {o : List Nat} (h : MN G w p ok) (x : MX G bg due o) (b : Nat) : ∃ H, f_Md_emit L2 0 (nI b) G = some H ∧ Fm [5, 6] [3] G H ∧ (o.length < mcap bg due → MN H w p ok ∧ MX H bg due (o ++ [b])) ∧ (¬ o.length < mcap bg due → MN H w p false ∧ MX H bg due o) := by
  obtain ⟨h1, h2, h3, h4, h5, h6⟩ := id x
  have hc := mcap_le bg due
  have bad : b_Md_emit_25 L2 0 G = some (u2 G 0 5 1) := by
    unfold b_Md_emit_25 b_Md_emit_53
    rw [if_neg (fun q => q zb1), ld]
  have fb : Fm [5] [] G (u2 G 0 5 1) := Fm.us (by simp)
  unfold f_Md_emit b_Md_emit_53
  rw [h1.1, h2, h3, l120, pk_sub h4]
  by_cases q : o.length < mcap bg due
  · have q' : o.length < 120 ∧ o.length < bg + due := by unfold mcap at q; omega
    obtain ⟨d1, f1⟩ := h1.push (by decide) b
    refine ⟨_, ?_, f1.up (by simp) (by simp), fun _ => ⟨h.fm f1 (by decide) (by decide) (by decide) (by decide), d1, by rw [f1.2 8 (by decide)]; exact h2, by rw [f1.2 9 (by decide)]; exact h3, by simp; omega, by simp; omega, h6⟩, fun n => absurd q n⟩
    rw [ilen q'.1 (by omega), ilt (by omega) (by omega), r07, m3, if_neg (in_w (by omega) (by omega) (show 3 < mNc L2 by decide)), ld, ld, nI_clamp (by omega), u2_c (by decide), h1.1, nI_1]
  · refine ⟨u2 G 0 5 1, ?_, fb.up (by simp) (by simp), fun n => absurd n q, fun _ => ⟨h.bad, x.fm fb (by decide) (by decide) (by decide) (by decide)⟩⟩
    by_cases q' : 120 ≤ o.length
    · rw [ile q' (by omega), bad]
    · have q2 : ¬ o.length < bg + due := by unfold mcap at q; omega
      rw [ilen (by omega) (by omega), iltn (by omega) (by omega), bad]
def MRp (G : Mem) (r : N3) : Prop := G 4 0 = nI r.1 ∧ G 4 1 = nI r.2.1 ∧ G 4 2 = nI r.2.2
def RB (r : N3) : Prop := (1 ≤ r.1 ∧ r.1 ≤ 255) ∧ (1 ≤ r.2.1 ∧ r.2.1 ≤ 255) ∧ (1 ≤ r.2.2 ∧ r.2.2 ≤ 255)
theorem wayS_le {v a : Nat} {r : N3} (h : RB r) (hv : v < 256) : wayS v a r ≤ 255 := by
  obtain ⟨⟨k1, k1'⟩, ⟨k2, k2'⟩, ⟨k3, k3'⟩⟩ := h
  unfold wayS
  repeat' split
  all_goals omega
theorem keepS_rb {v a y : Nat} {r : N3} (h : RB r) (hy : 1 ≤ y) (hy2 : y ≤ 255) : RB (keepS v a y r) := by
  obtain ⟨k1, k2, k3⟩ := h
  unfold keepS
  split
  · exact ⟨k1, k2, k3⟩
  · split
    · exact ⟨⟨hy, hy2⟩, k1, k3⟩
    · exact ⟨⟨hy, hy2⟩, k1, k2⟩
theorem md_way {G : Mem} {r : N3} (h : MRp G r) (hb : RB r) {v a : Nat} (hv1 : 1 ≤ v) (hv : v < 256) (ha : a < 2 ^ 20) : ∃ H, f_Md_wayBack L2 0 (nI v) (nI a) G = some (nI (wayS v a r), H) ∧ MRp H (keepS v a (wayS v a r) r) ∧ Fm [] [4] G H := by
  obtain ⟨h1, h2, h3⟩ := h
  obtain ⟨⟨k1, k1'⟩, ⟨k2, k2'⟩, ⟨k3, k3'⟩⟩ := hb
  have n0 : (0 : Int32).toNatClampNeg = 0 := rfl
  have n1 : (1 : Int32).toNatClampNeg = 1 := rfl
  have n2 : (2 : Int32).toNatClampNeg = 2 := rfl
  have i0 : ¬ inb (0 : Int32) 3 := inb_no (n := 0) (by decide) (by decide)
  have i1 : ¬ inb (1 : Int32) 3 := inb_no (n := 1) (by decide) (by decide)
  have j0 : ¬ (inb (0 : Int32) 3 ∨ ¬ 4 < mNc L2) := in_w (n := 0) (by decide) (by decide) (by decide)
  have j1 : ¬ (inb (1 : Int32) 3 ∨ ¬ 4 < mNc L2) := in_w (n := 1) (by decide) (by decide) (by decide)
  have j2 : ¬ (inb (2 : Int32) 3 ∨ ¬ 4 < mNc L2) := in_w (n := 2) (by decide) (by decide) (by decide)
  have hi : iS v a < 2 ^ 20 := by unfold iS; split <;> omega
  have hi1 : 1 ≤ iS v a := by unfold iS; split <;> omega
  -- the three keepings
  have f1 : ∀ y : Int32, Fm [] [4] G (u2 G 4 0 y) := fun y => Fm.uc (by simp) (by decide)
  have c92 : ∀ (F : Mem) (y : Int32), b_Md_wayBack_92 L2 0 y F = some (y, u2 F 4 0 y) := fun F y => by
    unfold b_Md_wayBack_92
    rw [r010, m4, if_neg j0, ld, n0]
  have c1 : ∀ (F : Mem) (y : Int32) (x : Nat), x ≤ 1 → b_Md_wayBack_75 L2 0 (nI x) y F = some (y, u2 F 4 0 y) := fun F y x hx => by
    unfold b_Md_wayBack_75
    rw [l1, ile hx (by omega), c92]
  have c2 : ∀ (F : Mem) (y : Int32) (x : Nat), 1 < x → x < 2 ^ 20 → b_Md_wayBack_75 L2 0 (nI x) y F = some (y, u2 (u2 F 4 1 (F 4 0)) 4 0 y) := fun F y x hx hx2 => by
    unfold b_Md_wayBack_75
    rw [if_neg (show ¬ nI x ≤ (1 : Int32) from fun q => absurd ((nI_leI (b := 1) (by omega) (by omega)).mp q) (by omega)), r010, m4, gl4, if_neg i0, if_neg j1, ld, c92, n0, n1, ga4]
  have c3 : ∀ (F : Mem) (y : Int32) (x : Nat), 2 < x → x < 2 ^ 20 → b_Md_wayBack_56 L2 0 (nI x) y F = some (y, u2 (u2 (u2 F 4 2 (F 4 1)) 4 1 (F 4 0)) 4 0 y) := fun F y x hx hx2 => by
    unfold b_Md_wayBack_56
    rw [if_neg (show ¬ nI x ≤ (2 : Int32) from fun q => absurd ((nI_leI (b := 2) (by omega) (by omega)).mp q) (by omega)), r010, m4, gl4, if_neg i1, if_neg j2, ld, c2 _ _ _ (by omega) hx2, n1, n2, ga4, u2_p (show (0 : Nat) ≠ 2 by decide)]
  have c56 : ∀ (F : Mem) (y : Int32) (x : Nat), x ≤ 2 → b_Md_wayBack_56 L2 0 (nI x) y F = b_Md_wayBack_75 L2 0 (nI x) y F := fun F y x hx => by
    unfold b_Md_wayBack_56
    rw [l2, ile hx (by omega)]
  have all : ∀ (y : Nat), MRp (u2 (u2 (u2 G 4 2 (G 4 1)) 4 1 (G 4 0)) 4 0 (nI y)) (y, r.1, r.2.1) ∧ Fm [] [4] G (u2 (u2 (u2 G 4 2 (G 4 1)) 4 1 (G 4 0)) 4 0 (nI y)) := fun y => by
    refine ⟨⟨u2_s, ?_, ?_⟩, ((Fm.uc (by simp) (by decide)).tr (Fm.uc (by simp) (by decide))).tr (Fm.uc (by simp) (by decide))⟩
    · rw [u2_p (by decide), u2_s]; exact h1
    · rw [u2_p (by decide), u2_p (by decide), u2_s]; exact h2
  unfold f_Md_wayBack
  by_cases q : 3 < v
  · rw [l3, ilen q (by omega)]
    have ei : iS v a ≠ 1 ∧ iS v a ≠ 2 := by unfold iS; split <;> omega
    refine ⟨u2 (u2 (u2 G 4 2 (G 4 1)) 4 1 (G 4 0)) 4 0 (nI (v - 3)), ?_, ?_, (all _).2⟩
    · unfold b_Md_wayBack_20
      rw [if_pos rfl, l5, l3, pk_sub (by omega), c3 _ _ _ (by decide) (by decide)]
      unfold wayS
      rw [if_pos q]
    · unfold keepS wayS
      rw [if_neg ei.1, if_neg ei.2, if_pos q]
      exact (all _).1
  · rw [l3, ile (by omega) (by omega), rp_i hv ha (fun y => b_Md_wayBack_20 L2 0 (nI v) y G)]
    have i4 : iS v a ≤ 4 := by unfold iS; split <;> omega
    unfold b_Md_wayBack_20
    rw [if_neg (show ¬ nI (iS v a) = (5 : Int32) from nne (b := 5) (by omega) (by omega) (by omega))]
    unfold wayS keepS
    rw [if_neg q]
    by_cases q4 : iS v a = 4
    · rw [q4, if_pos (show nI 4 = (4 : Int32) from rfl), r010, gl4, if_neg i0, ga4, n0, h1, l1, pk_sub k1, c3 _ _ _ (by decide) (by decide), if_neg (by decide), if_neg (by decide), if_neg (by decide), if_neg (by decide), if_neg (by decide)]
      exact ⟨_, rfl, (all _).1, (all _).2⟩
    · rw [if_neg (show ¬ nI (iS v a) = (4 : Int32) from nne (b := 4) q4 (by omega) (by omega)), r010, gl4, l1, pk_sub hi1, if_neg (inb_no (by omega) (by omega)), ga4, nI_clamp (by omega)]
      by_cases q1 : iS v a = 1
      · rw [q1, if_pos rfl, c56 _ _ _ (by decide), c1 _ _ _ (by decide), show (1 - 1) = 0 from rfl, h1, if_pos rfl]
        refine ⟨_, rfl, ⟨u2_s, ?_, ?_⟩, f1 _⟩
        · rw [u2_p (by decide)]; exact h2
        · rw [u2_p (by decide)]; exact h3
      · rw [if_neg q1, if_neg q1]
        by_cases q2 : iS v a = 2
        · rw [q2, if_pos rfl, c56 _ _ _ (by decide), c2 _ _ _ (by decide) (by decide), show (2 - 1) = 1 from rfl, h2, if_pos rfl]
          refine ⟨_, rfl, ⟨u2_s, ?_, ?_⟩, (Fm.uc (by simp) (by decide)).tr (Fm.uc (by simp) (by decide))⟩
          · rw [u2_p (by decide), u2_s]; exact h1
          · rw [u2_p (by decide), u2_p (by decide)]; exact h3
        · have q3 : iS v a = 3 := by omega
          rw [q3, if_neg (by decide), if_pos rfl, c3 _ _ _ (by decide) (by decide), show (3 - 1) = 2 from rfl, h3, if_neg (by decide)]
          exact ⟨_, rfl, (all _).1, (all _).2⟩
/-- the literals ahead of a match -/
theorem pf45 {w lits : List Nat} {p bg due a j u0 : Nat} (hj : j < 255) (ha : a < 2 ^ 20) (hl : lits.length ≤ 63) (k4 : Nat → Int32 → Int32 → Mem → Option Mem) : ∀ (d i : Nat) (G : Mem) (o : List Nat) (u fu : Nat), d + i = a → d < fu → u + d ≤ lits.length → MN G w p true → MX G bg due o → (∀ n, n < lits.length → G 5 n = nI (lits.getD n 0)) → G 15 j = nI a →
    ∃ H u' o' ok', f_Md_perform_45 L2 k4 fu 0 (nI u) (nI j) (nI i) G = b_Md_perform_81 L2 k4 0 (nI u') (nI j) H ∧ MN H w p ok' ∧ MX H bg due o' ∧ (ok' = true → o.length + d ≤ mcap bg due ∧ o' = o ++ (lits.drop u).take d ∧ u' = u + d) ∧ (o.length + d ≤ mcap bg due → ok' = true) ∧ Fm [5, 6] [3] G H := by
  intro d
  induction d with
  | zero =>
    intro i G o u fu hd hf hu h x hlt h15
    obtain ⟨fu, rfl⟩ : ∃ k, fu = k + 1 := ⟨fu - 1, by omega⟩
    refine ⟨G, u, o, true, ?_, h, x, fun _ => ⟨x.2.2.2.2.1, by simp, rfl⟩, fun _ => rfl, Fm.rf⟩
    show b_Md_perform_45 L2 k4 (f_Md_perform_45 L2 k4 fu) 0 (nI u) (nI j) (nI i) G = _
    unfold b_Md_perform_45
    rw [r029, gl15, if_neg (inb_no (by omega) (by omega)), ga15, nI_clamp (by omega), h15, ile (by omega) (by omega)]
  | succ d ih =>
    intro i G o u fu hd hf hu h x hlt h15
    obtain ⟨fu, rfl⟩ : ∃ k, fu = k + 1 := ⟨fu - 1, by omega⟩
    obtain ⟨A, eA, fA, gA, nA⟩ := md_emit h x (lits.getD u 0)
    have st : f_Md_perform_45 L2 k4 (fu + 1) 0 (nI u) (nI j) (nI i) G = f_Md_perform_45 L2 k4 fu 0 (nI (u + 1)) (nI j) (nI (i + 1)) A := by
      show b_Md_perform_45 L2 k4 (f_Md_perform_45 L2 k4 fu) 0 (nI u) (nI j) (nI i) G = _
      unfold b_Md_perform_45
      rw [r029, gl15, if_neg (inb_no (by omega) (by omega)), ga15, nI_clamp (by omega), h15, ilen (by omega) (by omega), if_pos h.b0, r014, gl5, if_neg (inb_no (by omega) (by omega)), ga5, nI_clamp (by omega), hlt u (by omega), eA]
      dsimp only [Option.bind_some]
      rw [nI_1, nI_1]
    have h15' : A 15 j = nI a := by rw [fA.1 15 (by decide) (by decide)]; exact h15
    by_cases q : o.length < mcap bg due
    · obtain ⟨k1, k2⟩ := gA q
      obtain ⟨H, u', o', ok', e, m1, m2, m3, m4, f⟩ := ih (i + 1) A (o ++ [lits.getD u 0]) (u + 1) fu (by omega) (by omega) (by omega) k1 k2 (fun n hn => by rw [fA.1 5 (by decide) (by decide)]; exact hlt n hn) h15'
      refine ⟨H, u', o', ok', st.trans e, m1, m2, fun ok => ?_, fun hc => m4 (by simp; omega), fA.tr f⟩
      obtain ⟨c1, c2, c3⟩ := m3 ok
      refine ⟨by simp at c1; omega, ?_, by omega⟩
      rw [c2, take_drop_succ (by omega)]
      simp
    · obtain ⟨k1, k2⟩ := nA q
      refine ⟨A, u + 1, o, false, st.trans ?_, k1, k2, fun q => absurd q (by decide), fun hc => absurd hc (by omega), fA⟩
      obtain ⟨fu, rfl⟩ : ∃ k, fu = k + 1 := ⟨fu - 1, by omega⟩
      show b_Md_perform_45 L2 k4 (f_Md_perform_45 L2 k4 fu) 0 (nI (u + 1)) (nI j) (nI (i + 1)) A = _
      unfold b_Md_perform_45
      rw [r029, gl15, if_neg (inb_no (by omega) (by omega)), ga15, nI_clamp (by omega), h15', if_neg k1.b1]
      split <;> rfl
/-- the bytes of a match -/
theorem pf146 {w : List Nat} {p bg due m j y : Nat} (hj : j < 255) (hm : m < 2 ^ 20) (hy : 1 ≤ y) (x1 : Int32) (k4 : Nat → Int32 → Int32 → Mem → Option Mem) : ∀ (d i : Nat) (G : Mem) (o : List Nat) (fu : Nat), d + i = m → d < fu → y ≤ o.length → MN G w p true → MX G bg due o → G 17 j = nI m →
    ∃ H o' ok', f_Md_perform_146 L2 k4 fu 0 x1 (nI j) (nI y) (nI i) G = k4 0 x1 (nI (j + 1)) H ∧ MN H w p ok' ∧ MX H bg due o' ∧ (ok' = true → o.length + d ≤ mcap bg due ∧ o' = copyM y d o) ∧ (o.length + d ≤ mcap bg due → ok' = true) ∧ Fm [5, 6] [3] G H := by
  intro d
  induction d with
  | zero =>
    intro i G o fu hd hf hyo h x h17
    obtain ⟨fu, rfl⟩ : ∃ k, fu = k + 1 := ⟨fu - 1, by omega⟩
    refine ⟨G, o, true, ?_, h, x, fun _ => ⟨x.2.2.2.2.1, rfl⟩, fun _ => rfl, Fm.rf⟩
    show b_Md_perform_146 L2 k4 (f_Md_perform_146 L2 k4 fu) 0 x1 (nI j) (nI y) (nI i) G = _
    unfold b_Md_perform_146 b_Md_perform_185
    rw [r031, gl17, if_neg (inb_no (by omega) (by omega)), ga17, nI_clamp (by omega), h17, ile (by omega) (by omega), nI_1]
  | succ d ih =>
    intro i G o fu hd hf hyo h x h17
    obtain ⟨fu, rfl⟩ : ∃ k, fu = k + 1 := ⟨fu - 1, by omega⟩
    have hc := mcap_le bg due
    have hol := x.2.2.2.2.1
    obtain ⟨A, eA, fA, gA, nA⟩ := md_emit h x (o.getD (o.length - y) 0)
    have st : f_Md_perform_146 L2 k4 (fu + 1) 0 x1 (nI j) (nI y) (nI i) G = f_Md_perform_146 L2 k4 fu 0 x1 (nI j) (nI y) (nI (i + 1)) A := by
      show b_Md_perform_146 L2 k4 (f_Md_perform_146 L2 k4 fu) 0 x1 (nI j) (nI y) (nI i) G = _
      unfold b_Md_perform_146
      rw [r031, gl17, if_neg (inb_no (by omega) (by omega)), ga17, nI_clamp (by omega), h17, ilen (by omega) (by omega), if_pos h.b0, r07, gl3, x.1.1, pk_sub hyo, if_neg (inb_no (by omega) (by omega)), ga3, nI_clamp (by omega), x.1.2 _ (by omega), eA]
      dsimp only [Option.bind_some]
      rw [nI_1]
    have h17' : A 17 j = nI m := by rw [fA.1 17 (by decide) (by decide)]; exact h17
    by_cases q : o.length < mcap bg due
    · obtain ⟨k1, k2⟩ := gA q
      obtain ⟨H, o', ok', e, m1, m2, m3, m4, f⟩ := ih (i + 1) A _ fu (by omega) (by omega) (by simp; omega) k1 k2 h17'
      refine ⟨H, o', ok', st.trans e, m1, m2, fun ok => ?_, fun hc => m4 (by simp; omega), fA.tr f⟩
      obtain ⟨c1, c2⟩ := m3 ok
      exact ⟨by simp at c1; omega, c2⟩
    · obtain ⟨k1, k2⟩ := nA q
      refine ⟨A, o, false, st.trans ?_, k1, k2, fun q => absurd q (by decide), fun hc => absurd hc (by omega), fA⟩
      obtain ⟨fu, rfl⟩ : ∃ k, fu = k + 1 := ⟨fu - 1, by omega⟩
      show b_Md_perform_146 L2 k4 (f_Md_perform_146 L2 k4 fu) 0 x1 (nI j) (nI y) (nI (i + 1)) A = _
      unfold b_Md_perform_146 b_Md_perform_185
      rw [r031, gl17, if_neg (inb_no (by omega) (by omega)), ga17, nI_clamp (by omega), h17', if_neg k1.b1, nI_1]
      split <;> rfl
/-- the literals behind the last match -/
theorem pf191 {w lits : List Nat} {p bg due : Nat} (hl : lits.length ≤ 63) : ∀ (d u : Nat) (G : Mem) (o : List Nat) (fu : Nat), d + u = lits.length → d < fu → MN G w p true → MX G bg due o → MD G 13 5 lits →
    ∃ H o' ok', f_Md_perform_191 L2 fu 0 (nI u) G = some H ∧ MN H w p ok' ∧ MX H bg due o' ∧ (ok' = true → o.length + d ≤ mcap bg due ∧ o' = o ++ (lits.drop u).take d) ∧ (o.length + d ≤ mcap bg due → ok' = true) ∧ Fm [5, 6] [3] G H := by
  intro d
  induction d with
  | zero =>
    intro u G o fu hd hf h x hlt
    obtain ⟨fu, rfl⟩ : ∃ k, fu = k + 1 := ⟨fu - 1, by omega⟩
    refine ⟨G, o, true, ?_, h, x, fun _ => ⟨x.2.2.2.2.1, by simp⟩, fun _ => rfl, Fm.rf⟩
    show b_Md_perform_191 L2 (f_Md_perform_191 L2 fu) 0 (nI u) G = _
    unfold b_Md_perform_191 b_Md_perform_222
    rw [hlt.1, ile (by omega) (by omega)]
  | succ d ih =>
    intro u G o fu hd hf h x hlt
    obtain ⟨fu, rfl⟩ : ∃ k, fu = k + 1 := ⟨fu - 1, by omega⟩
    obtain ⟨A, eA, fA, gA, nA⟩ := md_emit h x (lits.getD u 0)
    have st : f_Md_perform_191 L2 (fu + 1) 0 (nI u) G = f_Md_perform_191 L2 fu 0 (nI (u + 1)) A := by
      show b_Md_perform_191 L2 (f_Md_perform_191 L2 fu) 0 (nI u) G = _
      unfold b_Md_perform_191
      rw [hlt.1, ilen (by omega) (by omega), if_pos h.b0, r014, gl5, if_neg (inb_no (by omega) (by omega)), ga5, nI_clamp (by omega), hlt.2 u (by omega), eA]
      dsimp only [Option.bind_some]
      rw [nI_1]
    have hlt' : MD A 13 5 lits := hlt.fm fA (by decide) (by decide) (by decide)
    by_cases q : o.length < mcap bg due
    · obtain ⟨k1, k2⟩ := gA q
      obtain ⟨H, o', ok', e, m1, m2, m3, m4, f⟩ := ih (u + 1) A _ fu (by omega) (by omega) k1 k2 hlt'
      refine ⟨H, o', ok', st.trans e, m1, m2, fun ok => ?_, fun hc => m4 (by simp; omega), fA.tr f⟩
      obtain ⟨c1, c2⟩ := m3 ok
      refine ⟨by simp at c1; omega, ?_⟩
      rw [c2, take_drop_succ (by omega)]
      simp
    · obtain ⟨k1, k2⟩ := nA q
      refine ⟨A, o, false, st.trans ?_, k1, k2, fun q => absurd q (by decide), fun hc => absurd hc (by omega), fA⟩
      obtain ⟨fu, rfl⟩ : ∃ k, fu = k + 1 := ⟨fu - 1, by omega⟩
      show b_Md_perform_191 L2 (f_Md_perform_191 L2 fu) 0 (nI (u + 1)) A = _
      unfold b_Md_perform_191 b_Md_perform_222
      rw [hlt'.1, if_neg k1.b1]
      split <;> rfl
theorem pf_bad {w : List Nat} {p : Nat} {G : Mem} (h : MN G w p false) (fu : Nat) (x1 x2 : Int32) : f_Md_perform_4 L2 (fu + 1) 0 x1 x2 G = some G := by
  have e : f_Md_perform_191 L2 mFU 0 x1 G = some G := by
    show b_Md_perform_191 L2 (f_Md_perform_191 L2 4095) 0 x1 G = _
    unfold b_Md_perform_191 b_Md_perform_222
    rw [if_neg h.b1]
    split <;> rfl
  show b_Md_perform_4 L2 (f_Md_perform_4 L2 fu) 0 x1 x2 G = _
  unfold b_Md_perform_4
  rw [if_neg h.b1, e]
  split <;> rfl
/-- one sequence is put -/
theorem pf_one {G : Mem} {w lits : List Nat} {p bg due v m a j u n : Nat} {o : List Nat} {r : N3} (hj : j < n) (hn : n ≤ 255) (hb : 1 ≤ v ∧ v < 256 ∧ 3 ≤ m ∧ m < 153 ∧ a < 80) (hl : lits.length ≤ 63) (h : MN G w p true) (x : MX G bg due o) (hlt : MD G 13 5 lits) (hr : MRp G r) (hrb : RB r) (hu : u ≤ lits.length) (h28 : G 0 28 = nI n) (hv : G 16 j = nI v) (hm : G 17 j = nI m) (ha : G 15 j = nI a) (k4 : Nat → Int32 → Int32 → Mem → Option Mem) :
    ∃ H u' o' r' ok', b_Md_perform_4 L2 k4 0 (nI u) (nI j) G = k4 0 (nI u') (nI (j + 1)) H ∧ MN H w p ok' ∧ MX H bg due o' ∧ (ok' = true → exS bg (mcap bg due) lits (v, m, a) (o, u, r) = some (o', u', r') ∧ MRp H r' ∧ RB r' ∧ u' ≤ lits.length) ∧ (exS bg (mcap bg due) lits (v, m, a) (o, u, r) ≠ none → ok' = true) ∧ Fm [5, 6] [3, 4] G H := by
  obtain ⟨b1, b2, b3, b4, b5⟩ := hb
  have hc := mcap_le bg due
  -- from a refused state on
  have bad : ∀ (A : Mem) (ub : Nat) (o' : List Nat), MN A w p false → MX A bg due o' → Fm [5, 6] [3, 4] G A → exS bg (mcap bg due) lits (v, m, a) (o, u, r) = none → ∃ H u' o' r' ok', b_Md_perform_108 L2 k4 0 (nI ub) (nI j) 1 A = k4 0 (nI u') (nI (j + 1)) H ∧ MN H w p ok' ∧ MX H bg due o' ∧ (ok' = true → exS bg (mcap bg due) lits (v, m, a) (o, u, r) = some (o', u', r') ∧ MRp H r' ∧ RB r' ∧ u' ≤ lits.length) ∧ (exS bg (mcap bg due) lits (v, m, a) (o, u, r) ≠ none → ok' = true) ∧ Fm [5, 6] [3, 4] G H := by
    intro A ub o' k1 k2 f en
    have fb : Fm [5] [] A (u2 A 0 5 1) := Fm.us (by simp)
    refine ⟨u2 A 0 5 1, ub, o', r, false, ?_, k1.bad, k2.fm fb (by decide) (by decide) (by decide) (by decide), fun q => absurd q (by decide), fun q => absurd en q, f.tr (fb.up (by simp) (by simp))⟩
    have h17 : (u2 A 0 5 1) 17 j = nI m := by rw [u2_c (by decide), f.1 17 (by decide) (by decide)]; exact hm
    unfold b_Md_perform_108 b_Md_perform_135 b_Md_perform_140
    rw [if_neg k1.b1, if_neg (fun q => q zb1), ld]
    show b_Md_perform_146 L2 k4 (f_Md_perform_146 L2 k4 4095) 0 (nI ub) (nI j) 1 0 (u2 A 0 5 1) = _
    unfold b_Md_perform_146 b_Md_perform_185
    rw [r031, gl17, if_neg (inb_no (by omega) (by omega)), ga17, nI_clamp (by omega), h17, if_neg k1.bad.b1, nI_1]
    split <;> rfl
  unfold b_Md_perform_4
  rw [h28, ilen hj (by omega), if_pos h.b0, r029, gl15, if_neg (inb_no (by omega) (by omega)), ga15, nI_clamp (by omega), ha, hlt.1, nI_add]
  by_cases q1 : u + a ≤ lits.length
  · rw [ile q1 (by omega)]
    unfold b_Md_perform_40
    rw [if_neg (fun q => q zb0), ld]
    have f0 : Fm [5] [] G (u2 G 0 5 0) := Fm.us (by simp)
    obtain ⟨A, u', o', okA, eA, k1, k2, k3, k4', fA⟩ := pf45 (w := w) (p := p) (bg := bg) (due := due) (a := a) (j := j) (u0 := 0) (by omega) (by omega) hl k4 a 0 (u2 G 0 5 0) o u mFU (by omega) (by unfold mFU; omega) q1 h.set (x.fm f0 (by decide) (by decide) (by decide) (by decide)) (fun n hn => by rw [f0.1 5 (by decide) (by simp)]; exact hlt.2 n hn) (by rw [f0.1 15 (by decide) (by simp)]; exact ha)
    have fGA : Fm [5, 6] [3, 4] G A := (f0.up (by simp) (by simp)).tr (fA.up (by simp) (by simp))
    have eA' : f_Md_perform_45 L2 k4 mFU 0 (nI u) (nI j) 0 (u2 G 0 5 0) = b_Md_perform_81 L2 k4 0 (nI u') (nI j) A := eA
    rw [eA']
    cases okA with
    | false =>
      unfold b_Md_perform_81
      rw [if_neg k1.b1]
      refine bad A u' o' k1 k2 fGA ?_
      unfold exS litS
      dsimp only
      rw [if_neg (fun q => absurd (k4' q.2) (by decide))]
      rfl
    | true =>
      obtain ⟨c1, c2, c3⟩ := k3 rfl
      subst c3
      have hr' : MRp A r := by unfold MRp at *; rw [fA.1 4 (by decide) (by decide), f0.1 4 (by decide) (by simp)]; exact hr
      obtain ⟨B, eB, k5, fB⟩ := md_way hr' hrb b1 b2 (show a < 2 ^ 20 by omega)
      have hw := wayS_le (v := v) (a := a) hrb b2
      have hlit : litS (mcap bg due) lits a o u = some o' := by
        unfold litS
        rw [if_pos ⟨q1, c1⟩, c2]
      have kB : MN B w p true := k1.fm fB (by decide) (by decide) (by decide) (by decide)
      have xB : MX B bg due o' := k2.fm fB (by decide) (by decide) (by decide) (by decide)
      have fGB : Fm [5, 6] [3, 4] G B := fGA.tr (fB.up (by simp) (by simp))
      have h16 : A 16 j = nI v := by rw [fGA.1 16 (by decide) (by decide)]; exact hv
      have h15 : A 15 j = nI a := by rw [fGA.1 15 (by decide) (by decide)]; exact ha
      unfold b_Md_perform_81
      rw [if_pos k1.b0, r030, gl16, r029, gl15, if_neg (inb_no (by omega) (by omega)), if_neg (inb_no (by omega) (by omega)), ga16, ga15, nI_clamp (by omega), h16, h15, eB]
      dsimp only [Option.bind_some]
      -- a way that is none
      have no : ¬ (1 ≤ wayS v a r ∧ wayS v a r ≤ o'.length - bg) → ∃ H u' o' r' ok', b_Md_perform_135 L2 k4 0 (nI (u + a)) (nI j) (nI (wayS v a r)) 0 B = k4 0 (nI u') (nI (j + 1)) H ∧ MN H w p ok' ∧ MX H bg due o' ∧ (ok' = true → exS bg (mcap bg due) lits (v, m, a) (o, u, r) = some (o', u', r') ∧ MRp H r' ∧ RB r' ∧ u' ≤ lits.length) ∧ (exS bg (mcap bg due) lits (v, m, a) (o, u, r) ≠ none → ok' = true) ∧ Fm [5, 6] [3, 4] G H := by
        intro hno
        have fb : Fm [5] [] B (u2 B 0 5 1) := Fm.us (by simp)
        have en : exS bg (mcap bg due) lits (v, m, a) (o, u, r) = none := by
          unfold exS
          dsimp only
          rw [hlit]
          dsimp only [Option.bind_some]
          unfold matS
          rw [if_neg (fun q => hno ⟨q.1, q.2.1⟩)]
          rfl
        refine ⟨u2 B 0 5 1, u + a, o', r, false, ?_, kB.bad, xB.fm fb (by decide) (by decide) (by decide) (by decide), fun q => absurd q (by decide), fun q => absurd en q, fGB.tr (fb.up (by simp) (by simp))⟩
        have h17 : (u2 B 0 5 1) 17 j = nI m := by rw [u2_c (by decide), fGB.1 17 (by decide) (by decide)]; exact hm
        unfold b_Md_perform_135 b_Md_perform_140
        rw [if_neg (fun q => q zb1), ld]
        show b_Md_perform_146 L2 k4 (f_Md_perform_146 L2 k4 4095) 0 (nI (u + a)) (nI j) _ 0 (u2 B 0 5 1) = _
        unfold b_Md_perform_146 b_Md_perform_185
        rw [r031, gl17, if_neg (inb_no (by omega) (by omega)), ga17, nI_clamp (by omega), h17, if_neg kB.bad.b1, nI_1]
        split <;> rfl
      unfold b_Md_perform_108
      rw [if_pos kB.b0, xB.1.1, xB.2.1, pk_sub xB.2.2.2.1, l1]
      by_cases q2 : 1 ≤ wayS v a r
      · rw [iltn q2 (by omega)]
        have hol := xB.2.2.2.2.1
        by_cases q3 : wayS v a r ≤ o'.length - bg
        · rw [ile q3 (by omega)]
          unfold b_Md_perform_140
          rw [if_neg (fun q => q zb0), ld]
          have f5 : Fm [5] [] B (u2 B 0 5 0) := Fm.us (by simp)
          obtain ⟨C, oC, okC, eC, n1, n2, n3, n4, fC⟩ := pf146 (w := w) (p := p) (bg := bg) (due := due) (m := m) (j := j) (by omega) (by omega) q2 (nI (u + a)) k4 m 0 (u2 B 0 5 0) o' mFU (by omega) (by unfold mFU; omega) (by omega) kB.set (xB.fm f5 (by decide) (by decide) (by decide) (by decide)) (by rw [f5.1 17 (by decide) (by simp), fGB.1 17 (by decide) (by decide)]; exact hm)
          have fBC : Fm [5, 6] [3] B C := (f5.up (by simp) (by simp)).tr fC
          refine ⟨C, u + a, oC, keepS v a (wayS v a r) r, okC, eC, n1, n2, fun ok => ?_, fun hs => ?_, fGB.tr (fBC.up (by simp) (by simp))⟩
          · obtain ⟨c4, c5⟩ := n3 ok
            refine ⟨?_, ?_, keepS_rb hrb q2 hw, q1⟩
            · unfold exS
              dsimp only
              rw [hlit]
              dsimp only [Option.bind_some]
              unfold matS
              rw [if_pos ⟨q2, q3, c4⟩, c5]
              rfl
            · unfold MRp at *
              rw [fBC.1 4 (by decide) (by decide)]
              exact k5
          · refine n4 ?_
            unfold exS at hs
            dsimp only at hs
            rw [hlit] at hs
            dsimp only [Option.bind_some] at hs
            unfold matS at hs
            by_cases q : 1 ≤ wayS v a r ∧ wayS v a r ≤ o'.length - bg ∧ o'.length + m ≤ mcap bg due
            · exact q.2.2
            · rw [if_neg q] at hs
              exact absurd rfl hs
        · rw [ilen (by omega) (by omega)]
          exact no (fun q => q3 q.2)
      · rw [ilt (by omega) (by omega)]
        exact no (fun q => q2 q.1)
  · rw [ilen (by omega) (by omega)]
    unfold b_Md_perform_40
    rw [if_neg (fun q => q zb1), ld]
    have f0 : Fm [5] [] G (u2 G 0 5 1) := Fm.us (by simp)
    have k1 := h.bad
    have e : f_Md_perform_45 L2 k4 mFU 0 (nI u) (nI j) 0 (u2 G 0 5 1) = b_Md_perform_81 L2 k4 0 (nI u) (nI j) (u2 G 0 5 1) := by
      show b_Md_perform_45 L2 k4 (f_Md_perform_45 L2 k4 4095) 0 (nI u) (nI j) 0 (u2 G 0 5 1) = _
      unfold b_Md_perform_45
      rw [r029, gl15, if_neg (inb_no (by omega) (by omega)), ga15, nI_clamp (by omega), if_neg k1.b1]
      split <;> rfl
    rw [e]
    unfold b_Md_perform_81
    rw [if_neg k1.b1]
    refine bad _ u o k1 (x.fm f0 (by decide) (by decide) (by decide) (by decide)) (f0.up (by simp) (by simp)) ?_
    unfold exS litS
    dsimp only
    rw [if_neg (fun q => q1 q.1)]
    rfl
