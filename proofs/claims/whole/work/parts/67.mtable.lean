/-! pure: the model reads a table -/
def TMt (G : Mem) (k : Nat) (t : TT) : Prop := match t with
  | .inl c => G 10 (16 * k) = nI c ∧ G 11 (16 * k) = 0 ∧ G 12 (16 * k) = 0 ∧ G 9 k = 1
  | .inr c => TM G k c ∧ G 9 k = 0
/-- what reading table k may change -/
def TF (k : Nat) (G H : Mem) : Prop := Fm [4, 5] [8, 9, 10, 11, 12, 13] G H ∧ (∀ j, j ≠ k → H 8 j = G 8 j ∧ H 9 j = G 9 j) ∧ In (16 * k) 10 G H ∧ In (16 * k) 11 G H ∧ In (16 * k) 12 G H
theorem TF.rf {k : Nat} {G : Mem} : TF k G G := ⟨Fm.rf, fun _ _ => ⟨rfl, rfl⟩, In.rf, In.rf, In.rf⟩
theorem TF.tr {k : Nat} {F G H : Mem} (a : TF k F G) (b : TF k G H) : TF k F H := ⟨a.1.tr b.1, fun j hj => ⟨(b.2.1 j hj).1.trans (a.2.1 j hj).1, (b.2.1 j hj).2.trans (a.2.1 j hj).2⟩, a.2.2.1.tr b.2.2.1, a.2.2.2.1.tr b.2.2.2.1, a.2.2.2.2.tr b.2.2.2.2⟩
theorem TF.of {k : Nat} {G H : Mem} (f : Fm [4, 5] [13] G H) : TF k G H := by
  have q : ∀ c, c ≠ 0 → c ≠ 13 → H c = G c := fun c h0 h => f.1 c h0 (by simpa using h)
  refine ⟨⟨fun c h0 hc => f.1 c h0 (by simp at hc ⊢; omega), f.2⟩, fun j _ => ⟨by rw [q 8 (by decide) (by decide)], by rw [q 9 (by decide) (by decide)]⟩, fun j _ => by rw [q 10 (by decide) (by decide)], fun j _ => by rw [q 11 (by decide) (by decide)], fun j _ => by rw [q 12 (by decide) (by decide)]⟩
theorem TMt.tf {G H : Mem} {j k : Nat} {t : TT} (h : TMt G j t) (f : TF k G H) (hj : j ≠ k) : TMt H j t := by
  obtain ⟨-, f1, f2, f3, f4⟩ := f
  have o : ∀ s, s < 16 → ¬ (16 * k ≤ 16 * j + s ∧ 16 * j + s < 16 * k + 16) := fun s hs => by omega
  cases t with
  | inl c =>
    obtain ⟨h1, h2, h3, h4⟩ := h
    exact ⟨by rw [f2 (16 * j) (by omega)]; exact h1, by rw [f3 (16 * j) (by omega)]; exact h2, by rw [f4 (16 * j) (by omega)]; exact h3, by rw [(f1 j hj).2]; exact h4⟩
  | inr c =>
    obtain ⟨h1, h2⟩ := h
    refine ⟨fun s hs => ?_, by rw [(f1 j hj).2]; exact h2⟩
    rw [f2 _ (o s hs), f3 _ (o s hs), f4 _ (o s hs)]
    exact h1 s hs
theorem TM.cong {G : Mem} {k : Nat} {c d : Nat → Nat} (h : TM G k c) (h16 : (exl c 12).length = 16) (e : ∀ i, i < 12 → c i = d i) : TM G k d := by
  have e1 : tcd d 12 = tcd c 12 := by funext s; unfold tcd; rw [exl_cong 12 e]
  have e2 : ∀ s, tx d 12 s = tx c 12 s := fun s => by unfold tx; rw [e1, e _ (tcd_lt h16 s).1]
  intro s hs
  rw [e1, e2]
  exact h s hs
theorem r021 : mRf L2 0 21 = 8 := rfl
theorem r022 : mRf L2 0 22 = 9 := rfl
theorem r023 : mRf L2 0 23 = 10 := rfl
theorem r024 : mRf L2 0 24 = 11 := rfl
theorem r025 : mRf L2 0 25 = 12 := rfl
theorem r026 : mRf L2 0 26 = 13 := rfl
theorem r027 : mRf L2 0 27 = 14 := rfl
theorem m8 : mLn L2 8 = 3 := rfl
theorem m9 : mLn L2 9 = 3 := rfl
theorem m10 : mLn L2 10 = 48 := rfl
theorem m11 : mLn L2 11 = 48 := rfl
theorem m12 : mLn L2 12 = 48 := rfl
theorem m13 : mLn L2 13 = 12 := rfl
theorem gl13 : mGl L2 13 = 12 := rfl
theorem ga13 (F : Mem) (j : Nat) : mGa L2 F 13 j = F 13 j := if_pos (by decide)
theorem MN.b0 {G : Mem} {w : List Nat} {p : Nat} (h : MN G w p true) : G 0 5 = 0 := h.2.2.1
theorem MN.b1 {G : Mem} {w : List Nat} {p : Nat} (h : MN G w p false) : ¬ G 0 5 = 0 := by rw [h.2.2.1]; decide
theorem in_w {n N : Nat} (h : n < N) (hN : N < 2 ^ 31) {p : Prop} (hp : p) : ¬ (inb (nI n) N ∨ ¬ p) := fun q => q.elim (inb_no h hN) (fun q => q hp)
theorem rt_bad {w : List Nat} {k e n p : Nat} (hn : n < 256) (x7 : Int32) : ∀ (d c : Nat) (G : Mem) (x6 : Int32) (fu : Nat), d + c = 12 → d < fu → MN G w p false →
    ∃ H y6, f_Md_readTable_152 L2 fu 0 (nI k) (nI e) (nI n) x6 x7 (nI c) G = f_Md_readTable_152 L2 1 0 (nI k) (nI e) (nI n) y6 x7 (nI 12) H ∧ MN H w p false ∧ Fm [4, 5] [13] G H := by
  intro d
  induction d with
  | zero =>
    intro c G x6 fu hd hf h
    obtain ⟨fu, rfl⟩ : ∃ k, fu = k + 1 := ⟨fu - 1, by omega⟩
    obtain rfl : c = 12 := by omega
    refine ⟨G, x6, ?_, h, Fm.rf⟩
    show b_Md_readTable_152 L2 (f_Md_readTable_152 L2 fu) 0 _ _ _ _ _ _ G = b_Md_readTable_152 L2 (f_Md_readTable_152 L2 0) 0 _ _ _ _ _ _ G
    unfold b_Md_readTable_152
    rw [l12, ile (by omega) (by omega), ile (by omega) (by omega)]
  | succ d ih =>
    intro c G x6 fu hd hf h
    obtain ⟨fu, rfl⟩ : ∃ k, fu = k + 1 := ⟨fu - 1, by omega⟩
    have f1 : Fm [4, 5] [13] G (u2 G 13 c 0) := Fm.uc (by simp) (by decide)
    have f1' : Fm [] [13] G (u2 G 13 c 0) := Fm.uc (by simp) (by decide)
    obtain ⟨H, y6, e1, h1, f2⟩ := ih (c + 1) (u2 G 13 c 0) (x6 + 0) fu (by omega) (by omega) (h.fm f1' (by decide) (by decide) (by decide) (by decide))
    refine ⟨H, y6, ?_, h1, f1.tr f2⟩
    have st : b_Md_readTable_212 L2 (f_Md_readTable_152 L2 fu) 0 (nI k) (nI e) (nI n) x6 x7 (nI c) 13 (nI c) G = f_Md_readTable_152 L2 1 0 (nI k) (nI e) (nI n) y6 x7 (nI 12) H := by
      unfold b_Md_readTable_212 b_Md_readTable_235
      rw [m13, if_neg (in_w (by omega) (by omega) (show 13 < mNc L2 by decide)), ld, r026, gl13, if_neg (inb_no (by omega) (by omega)), ga13, nI_clamp (by omega), u2_s, nI_1]
      exact e1
    have st2 : b_Md_readTable_188 L2 (f_Md_readTable_152 L2 fu) 0 (nI k) (nI e) (nI n) x6 x7 (nI c) G = f_Md_readTable_152 L2 1 0 (nI k) (nI e) (nI n) y6 x7 (nI 12) H := by
      unfold b_Md_readTable_188 b_Md_readTable_190
      rw [r026, if_neg h.b1, st]
      split <;> rfl
    show b_Md_readTable_152 L2 (f_Md_readTable_152 L2 fu) 0 _ _ _ _ _ _ G = _
    unfold b_Md_readTable_152
    rw [l12, ilen (by omega) (by omega), if_neg h.b1, st2]
    split
    · rfl
    · split <;> rfl
/-- the last byte that was read for c of n halves from p on -/
def lastb (w : List Nat) (p n c : Nat) : Nat := if c = 0 then 0 else w.getD (p + (min c n - 1) / 2) 0
theorem rt_good {w : List Nat} {k e n p : Nat} (he : e ≤ w.length) (hn : n ≤ 12) (hn1 : 1 ≤ n) : ∀ (d c : Nat) (G : Mem) (fu : Nat), d + c = 12 → d < fu → p + (min c n + 1) / 2 ≤ e → MN G w (p + (min c n + 1) / 2) true → (∀ j, j < c → G 13 j = nI (hc w p n j)) →
    ∃ H y6 y7 p' ok', f_Md_readTable_152 L2 fu 0 (nI k) (nI e) (nI n) (nI (sumh (hc w p n) c)) (nI (lastb w p n c)) (nI c) G = f_Md_readTable_152 L2 1 0 (nI k) (nI e) (nI n) y6 y7 (nI 12) H ∧ MN H w p' ok' ∧ p' ≤ e ∧ Fm [4, 5] [13] G H ∧
      (p + (n + 1) / 2 ≤ e → ok' = true ∧ p' = p + (n + 1) / 2 ∧ y6 = nI (sumh (hc w p n) 12) ∧ y7 = nI (w.getD (p + (n - 1) / 2) 0) ∧ ∀ j, j < 12 → H 13 j = nI (hc w p n j)) ∧ (¬ p + (n + 1) / 2 ≤ e → ok' = false) := by
  intro d
  induction d with
  | zero =>
    intro c G fu hd hf hpe h hv'
    obtain ⟨fu, rfl⟩ : ∃ k, fu = k + 1 := ⟨fu - 1, by omega⟩
    obtain rfl : c = 12 := by omega
    rw [Nat.min_eq_right hn] at h hpe
    refine ⟨G, nI (sumh (hc w p n) 12), nI (lastb w p n 12), p + (n + 1) / 2, true, ?_, h, hpe, Fm.rf, fun _ => ⟨rfl, rfl, rfl, ?_, hv'⟩, fun q => absurd hpe q⟩
    · show b_Md_readTable_152 L2 (f_Md_readTable_152 L2 fu) 0 _ _ _ _ _ _ G = b_Md_readTable_152 L2 (f_Md_readTable_152 L2 0) 0 _ _ _ _ _ _ G
      unfold b_Md_readTable_152
      rw [l12, ile (by omega) (by omega), ile (by omega) (by omega)]
    · unfold lastb
      rw [if_neg (by decide), Nat.min_eq_right hn]
  | succ d ih =>
    intro c G fu hd hf hpe h hv'
    obtain ⟨fu, rfl⟩ : ∃ k, fu = k + 1 := ⟨fu - 1, by omega⟩
    have hw := h.2.2.2.2.2
    -- one count more, and on
    have go : ∀ (G' : Mem), MN G' w (p + (min (c + 1) n + 1) / 2) true → p + (min (c + 1) n + 1) / 2 ≤ e → (∀ j, j < c → G' 13 j = nI (hc w p n j)) → Fm [4, 5] [13] G G' →
        ∃ H y6 y7 p' ok', b_Md_readTable_235 L2 (f_Md_readTable_152 L2 fu) 0 (nI k) (nI e) (nI n) (nI (sumh (hc w p n) c)) (nI (lastb w p n (c + 1))) (nI c) 13 (nI c) (nI (hc w p n c)) G' = f_Md_readTable_152 L2 1 0 (nI k) (nI e) (nI n) y6 y7 (nI 12) H ∧ MN H w p' ok' ∧ p' ≤ e ∧ Fm [4, 5] [13] G H ∧
        (p + (n + 1) / 2 ≤ e → ok' = true ∧ p' = p + (n + 1) / 2 ∧ y6 = nI (sumh (hc w p n) 12) ∧ y7 = nI (w.getD (p + (n - 1) / 2) 0) ∧ ∀ j, j < 12 → H 13 j = nI (hc w p n j)) ∧ (¬ p + (n + 1) / 2 ≤ e → ok' = false) := by
      intro G' h' hpe' v' f'
      have f1 : Fm [4, 5] [13] G' (u2 G' 13 c (nI (hc w p n c))) := Fm.uc (by simp) (by decide)
      have f1' : Fm [] [13] G' (u2 G' 13 c (nI (hc w p n c))) := Fm.uc (by simp) (by decide)
      obtain ⟨H, y6, y7, p', ok', e1, h1, q1, f2, g1, g2⟩ := ih (c + 1) (u2 G' 13 c (nI (hc w p n c))) fu (by omega) (by omega) hpe' (h'.fm f1' (by decide) (by decide) (by decide) (by decide)) (fun j hj => by
        by_cases q : j = c
        · rw [q, u2_s]
        · rw [u2_p q]; exact v' j (by omega))
      refine ⟨H, y6, y7, p', ok', ?_, h1, q1, (f'.tr f1).tr f2, g1, g2⟩
      unfold b_Md_readTable_235
      rw [m13, if_neg (in_w (by omega) (by omega) (show 13 < mNc L2 by decide)), ld, r026, gl13, if_neg (inb_no (by omega) (by omega)), ga13, nI_clamp (by omega), u2_s, nI_1, nI_add]
      exact e1
    show ∃ H y6 y7 p' ok', b_Md_readTable_152 L2 (f_Md_readTable_152 L2 fu) 0 _ _ _ _ _ _ G = _ ∧ _
    unfold b_Md_readTable_152
    rw [l12, ilen (by omega) (by omega), j_rem2 (by omega), if_pos h.b0, l0]
    by_cases hc' : n ≤ c
    · rw [ile hc' (by omega)]
      have em : min (c + 1) n = n := by omega
      have em' : min c n = n := by omega
      have el : lastb w p n (c + 1) = lastb w p n c := by unfold lastb; rw [em, em', if_neg (by omega), if_neg (by omega)]
      have eh : hc w p n c = 0 := if_neg (by omega)
      obtain ⟨H, y6, y7, p', ok', e1, r⟩ := go G (by rw [em]; rw [em'] at h; exact h) (by rw [em]; rw [em'] at hpe; exact hpe) hv' Fm.rf
      refine ⟨H, y6, y7, p', ok', ?_, r⟩
      unfold b_Md_readTable_188 b_Md_readTable_190 b_Md_readTable_212
      rw [ile hc' (by omega), r026, l0]
      rw [el, eh] at e1
      exact e1
    · rw [ilen (by omega) (by omega)]
      have em : min (c + 1) n = c + 1 := by omega
      have em' : min c n = c := by omega
      rw [em'] at h hpe
      have eh : hc w p n c = hv w p c := if_pos (by omega)
      by_cases h2 : c % 2 = 0
      · rw [ieq h2]
        obtain ⟨G1, e1, h1, f1⟩ := mn_next h he
        rw [e1]
        dsimp only [Option.bind_some]
        have e0 : p + (c + 1) / 2 = p + c / 2 := by omega
        rw [e0] at h1 e1 ⊢
        by_cases hpc : p + c / 2 < e
        · rw [if_pos hpc] at h1 ⊢
          have h1' : MN G1 w (p + (min (c + 1) n + 1) / 2) true := by
            rw [em, show p + (c + 1 + 1) / 2 = p + c / 2 + 1 by omega]
            simpa [hpc] using h1
          have el : lastb w p n (c + 1) = w.getD (p + c / 2) 0 := by unfold lastb; rw [em, if_neg (by omega), show (c + 1 - 1) = c by omega]
          obtain ⟨H, y6, y7, p', ok', e2, r⟩ := go G1 h1' (by rw [em]; omega) (fun j hj => by rw [f1.1 13 (by decide) (by decide)]; exact hv' j hj) (f1.tr Fm.rf |> fun q => ⟨fun a b _ => q.1 a b (by simp), q.2⟩)
          refine ⟨H, y6, y7, p', ok', ?_, r⟩
          have hy := nI_byte hw (p + c / 2)
          unfold b_Md_readTable_190
          rw [ilen (by omega) (by omega), if_pos h1'.b0, j_rem2 (by omega), l0, ieq h2, r026, l4, jshr_n (by omega) (by omega)]
          rw [el, eh] at e2
          unfold hv at e2
          rw [if_pos h2] at e2
          exact e2
        · rw [if_neg hpc] at h1 ⊢
          have h1' : MN G1 w (p + c / 2) false := by simpa [hpc] using h1
          obtain ⟨H, y6, e2, h3, f3⟩ := rt_bad (w := w) (k := k) (e := e) (n := n) (p := p + c / 2) (by omega) (nI 0) (d + 1) c G1 (nI (sumh (hc w p n) c)) (fu + 1) (by omega) (by omega) h1'
          refine ⟨H, y6, nI 0, p + c / 2, false, ?_, h3, by omega, (show Fm [4, 5] [13] G G1 from ⟨fun a b _ => f1.1 a b (by simp), f1.2⟩).tr f3, fun q => absurd q (by omega), fun _ => rfl⟩
          rw [← e2]
          show _ = b_Md_readTable_152 L2 (f_Md_readTable_152 L2 fu) 0 _ _ _ _ _ _ G1
          unfold b_Md_readTable_152
          rw [l12, ilen (by omega) (by omega), ilen (by omega) (by omega), j_rem2 (by omega), if_neg h1'.b1, l0, ieq h2]
          rfl
      · rw [ieqn h2 (by omega) (by omega)]
        have el : lastb w p n (c + 1) = lastb w p n c := by
          unfold lastb
          rw [em, em', if_neg (by omega), if_neg (by omega), show (c + 1 - 1) / 2 = (c - 1) / 2 by omega]
        obtain ⟨H, y6, y7, p', ok', e1, r⟩ := go G (by rw [em, show p + (c + 1 + 1) / 2 = p + (c + 1) / 2 by omega]; exact h) (by rw [em, show p + (c + 1 + 1) / 2 = p + (c + 1) / 2 by omega]; exact hpe) hv' Fm.rf
        refine ⟨H, y6, y7, p', ok', ?_, r⟩
        have hy := nI_byte hw (p + c / 2)
        have eb : lastb w p n c = w.getD (p + c / 2) 0 := by
          unfold lastb
          rw [em', if_neg (by omega), show (c - 1) / 2 = c / 2 by omega]
        unfold b_Md_readTable_188 b_Md_readTable_190
        rw [ilen (by omega) (by omega), if_pos h.b0, j_rem2 (by omega), l0, ieqn h2 (by omega) (by omega), r026, eb, l15, show (nI 15) = (15 : Int32) from rfl, pk_andN (by omega) 4 rfl]
        rw [el, eh, eb] at e1
        unfold hv at e1
        rw [if_neg h2] at e1
        exact e1
