/-! pure: the model reads a table, all of it; three tables -/
theorem nne {a b : Nat} (h : a ≠ b) (ha : a < 2 ^ 31) (hb : b < 2 ^ 31) : ¬ nI a = nI b := fun q => h (nI_inj ha hb q)
theorem MN.set {G : Mem} {w : List Nat} {p : Nat} (h : MN G w p true) : MN (u2 G 0 5 0) w p true := ⟨h.1.fm (Fm.us (sl := [5]) (cs := []) (by simp)) (by decide) (by decide) (by decide), by rw [u2_p (by decide)]; exact h.2.1, by rw [u2_s]; rfl, h.2.2.2⟩
def mo (k : Nat) : Nat := if k = 1 then 8 else 12
def MO0 (G H : Mem) (w : List Nat) (e k : Nat) (ok : Bool) (sp : Option (TT × Nat)) : Prop := ∃ p' ok', MN H w p' ok' ∧ p' ≤ e ∧ (ok' = true → ok = true ∧ ∃ t, sp = some (t, p') ∧ TMt H k t) ∧ (ok = true → sp ≠ none → ok' = true) ∧ TF k G H
def MO (G H : Mem) (w : List Nat) (e k : Nat) (ok : Bool) (sp : Option (TT × Nat)) : Prop := MO0 G H w e k ok sp ∧ H 8 k = 1
theorem MN.tf {G H : Mem} {w : List Nat} {p : Nat} {ok : Bool} {cs : List Nat} (h : MN G w p ok) (f : Fm [] cs G H) (h2 : 2 ∉ cs) : MN H w p ok := h.fm f (by decide) (by decide) (by decide) h2
theorem TF.c {k a j : Nat} {G : Mem} {v : Int32} (h : a = 13 ∨ (a = 8 ∧ j = k) ∨ (a = 9 ∧ j = k) ∨ ((a = 10 ∨ a = 11 ∨ a = 12) ∧ 16 * k ≤ j ∧ j < 16 * k + 16)) : TF k G (u2 G a j v) := by
  refine ⟨Fm.uc (by simp; omega) (by omega), fun i hi => ⟨u2_n (by omega), u2_n (by omega)⟩, fun i hi => u2_n (by omega), fun i hi => u2_n (by omega), fun i hi => u2_n (by omega)⟩
theorem TF.s {k s : Nat} {G : Mem} {v : Int32} (h : s = 4 ∨ s = 5) : TF k G (u2 G 0 s v) := ⟨Fm.us (by simp; omega), fun i hi => ⟨u2_n (by omega), u2_n (by omega)⟩, fun i hi => u2_n (by omega), fun i hi => u2_n (by omega), fun i hi => u2_n (by omega)⟩
theorem rt333 {G G1 : Mem} {w : List Nat} {e k : Nat} {ok : Bool} {sp : Option (TT × Nat)} (hk : k < 3) (h : MO0 G G1 w e k ok sp) : ∃ H, b_Md_readTable_333 L2 0 (nI k) G1 = some H ∧ MO G H w e k ok sp := by
  obtain ⟨p', ok', h1, h2, h3, h4, h5⟩ := h
  refine ⟨u2 G1 8 k 1, ?_, ⟨p', ok', h1.tf (Fm.uc (cs := [8]) (by simp) (by decide)) (by decide), h2, fun o => ?_, h4, h5.tr (TF.c (by omega))⟩, u2_s⟩
  · unfold b_Md_readTable_333
    rw [r021, m8, if_neg (in_w (by omega) (by omega) zb1), ld, nI_clamp (by omega)]
  · obtain ⟨o1, t, s, q⟩ := h3 o
    refine ⟨o1, t, s, ?_⟩
    cases t with
    | inl c => exact ⟨(u2_c (by decide)).trans q.1, (u2_c (by decide)).trans q.2.1, (u2_c (by decide)).trans q.2.2.1, (u2_c (by decide)).trans q.2.2.2⟩
    | inr c => exact ⟨fun s hs => ⟨(u2_c (by decide)).trans (q.1 s hs).1, (u2_c (by decide)).trans (q.1 s hs).2.1, (u2_c (by decide)).trans (q.1 s hs).2.2⟩, (u2_c (by decide)).trans q.2⟩
theorem md_table {G : Mem} {w : List Nat} {p e k : Nat} {ok : Bool} (h : MN G w p ok) (he : e ≤ w.length) (hp : p ≤ e) (hk : k < 3) (kn : Option TT) (hkn : ok = true → G 8 k = (if kn.isSome then 1 else 0) ∧ ∀ t, kn = some t → TMt G k t) {how : Nat} (hh : how < 4) :
    ∃ H, f_Md_readTable L2 0 (nI k) (nI how) (nI e) G = some H ∧ MO G H w e k ok (tabS w e (mo k) (usT k) kn how p) := by
  have hw := h.2.2.2.2.2
  have hmo : mo k ≤ 12 := by unfold mo; split <;> omega
  have main : f_Md_readTable L2 0 (nI k) (nI how) (nI e) G = b_Md_readTable_12 L2 0 (nI k) (nI how) (nI e) (nI (mo k)) G := by
    unfold f_Md_readTable mo
    by_cases q : k = 1
    · rw [l1, ieq q, if_pos q]; rfl
    · rw [l1, ieqn q (by omega) (by omega), if_neg q]; rfl
  rw [main]
  unfold b_Md_readTable_12
  by_cases h0 : how = 0
  · subst h0
    obtain ⟨G1, e1, t1, s1, j1, q1, i1, i2, i3⟩ := md_setUsual (F := G) hk
    rw [if_pos (show nI 0 = (0 : Int32) from rfl), e1]
    dsimp only [Option.bind_some]
    have f1 : Fm [] [9, 10, 11, 12, 13] G G1 := ⟨fun c _ hc => by
      simp only [List.mem_cons, List.not_mem_nil, or_false, not_or] at hc
      exact q1 c hc.1 hc.2.1 hc.2.2.1 hc.2.2.2.1 hc.2.2.2.2, fun s _ => by rw [q1 0 (by decide) (by decide) (by decide) (by decide) (by decide)]⟩
    refine rt333 hk ⟨p, ok, h.tf f1 (by decide), hp, fun o => ⟨o, .inr (usT k), rfl, t1.cong (us16 k hk) (fun i hi => (if_pos hi).symm), s1⟩, fun o _ => o, f1.up (by simp) (by simp), fun j hj => ⟨by rw [q1 8 (by decide) (by decide) (by decide) (by decide) (by decide)], j1 j hj⟩, i1, i2, i3⟩
  · rw [if_neg (show ¬ nI how = (0 : Int32) from nne (b := 0) h0 (by omega) (by omega))]
    by_cases h1 : how = 1
    · subst h1
      rw [if_pos (show nI 1 = (1 : Int32) from rfl)]
      obtain ⟨G1, e1, c1, f1⟩ := mn_next h he
      rw [e1]
      dsimp only [Option.bind_some]
      have tf1 : TF k G G1 := TF.of (f1.up (by simp) (by simp))
      -- code c, good or not
      have st : ∀ (c p' : Nat) (ok' : Bool) (G2 : Mem), MN G2 w p' ok' → p' ≤ e → TF k G G2 → (ok' = true → ok = true ∧ tabS w e (mo k) (usT k) kn 1 p = some (.inl c, p')) → (ok = true → tabS w e (mo k) (usT k) kn 1 p ≠ none → ok' = true) →
          ∃ H, (if inb ((16 : Int32) * nI k) (mLn L2 (mRf L2 0 23)) ∨ ¬ (mRf L2 0 23) < mNc L2 then none else
            lt' (u2 G2 (mRf L2 0 23) ((16 : Int32) * nI k).toNatClampNeg (nI c)) fun F6 =>
            if inb ((16 : Int32) * nI k) (mLn L2 (mRf L2 0 24)) ∨ ¬ (mRf L2 0 24) < mNc L2 then none else
            lt' (u2 F6 (mRf L2 0 24) ((16 : Int32) * nI k).toNatClampNeg (0 : Int32)) fun F10 =>
            if inb ((16 : Int32) * nI k) (mLn L2 (mRf L2 0 25)) ∨ ¬ (mRf L2 0 25) < mNc L2 then none else
            lt' (u2 F10 (mRf L2 0 25) ((16 : Int32) * nI k).toNatClampNeg (0 : Int32)) fun F14 =>
            if inb (nI k) (mLn L2 (mRf L2 0 22)) ∨ ¬ ((1 : Int32) = 0 ∨ (1 : Int32) = 1) then none else
            lt' (u2 F14 (mRf L2 0 22) (nI k).toNatClampNeg (1 : Int32)) fun F18 =>
            b_Md_readTable_333 L2 0 (nI k) F18) = some H ∧ MO G H w e k ok (tabS w e (mo k) (usT k) kn 1 p) := by
        intro c p' ok' G2 a1 a2 a3 a4 a5
        rw [r022, r023, r024, r025, m9, m10, m11, m12, l16, pk_mul, if_neg (in_w (by omega) (by omega) (show 10 < mNc L2 by decide)), ld, if_neg (in_w (by omega) (by omega) (show 11 < mNc L2 by decide)), ld, if_neg (in_w (by omega) (by omega) (show 12 < mNc L2 by decide)), ld, if_neg (in_w (by omega) (by omega) zb1), ld, nI_clamp (by omega), nI_clamp (by omega)]
        have ff : Fm [] [9, 10, 11, 12] G2 (u2 (u2 (u2 (u2 G2 10 (16 * k) (nI c)) 11 (16 * k) 0) 12 (16 * k) 0) 9 k 1) := (((Fm.uc (by simp) (by decide)).tr (Fm.uc (by simp) (by decide))).tr (Fm.uc (by simp) (by decide))).tr (Fm.uc (by simp) (by decide))
        refine rt333 hk ⟨p', ok', a1.tf ff (by decide), a2, fun o => ⟨(a4 o).1, .inl c, (a4 o).2, ?_, ?_, ?_, u2_s⟩, a5, (((a3.tr (TF.c (by omega))).tr (TF.c (by omega))).tr (TF.c (by omega))).tr (TF.c (by omega))⟩
        · rw [u2_c (by decide), u2_c (by decide), u2_c (by decide), u2_s]
        · rw [u2_c (by decide), u2_c (by decide), u2_s]
        · rw [u2_c (by decide), u2_s]
      have ts : tabS w e (mo k) (usT k) kn 1 p = (if p < e ∧ w.getD p 0 < mo k then some (.inl (w.getD p 0), p + 1) else none) := rfl
      have badR : ∀ (c p' : Nat) (ok1 : Bool), MN G1 w p' ok1 → p' ≤ e → (ok = true → tabS w e (mo k) (usT k) kn 1 p = none) → ∃ H, b_Md_readTable_53 L2 0 (nI k) (nI c) 0 G1 = some H ∧ MO G H w e k ok (tabS w e (mo k) (usT k) kn 1 p) := by
        intro c p' ok1 a1 a2 a3
        unfold b_Md_readTable_53 b_Md_readTable_58
        rw [if_neg (fun q => q zb1), ld]
        exact st c p' false (u2 G1 0 5 1) a1.bad a2 (tf1.tr (TF.s (by omega))) (fun o => absurd o (by decide)) (fun o s => absurd (a3 o) s)
      by_cases hpe : p < e
      · rw [if_pos hpe] at c1 ⊢
        have hy := nI_byte hw p
        cases ok with
        | false =>
          have c1' : MN G1 w (p + 1) false := by simpa using c1
          rw [if_neg c1'.b1]
          exact badR _ (p + 1) _ c1' (by omega) (fun o => absurd o (by decide))
        | true =>
          have c1' : MN G1 w (p + 1) true := by simpa [hpe] using c1
          rw [if_pos c1'.b0]
          by_cases hc : w.getD p 0 < mo k
          · rw [ilt hc (by omega)]
            unfold b_Md_readTable_58
            rw [if_neg (fun q => q zb0), ld]
            exact st _ (p + 1) true (u2 G1 0 5 0) c1'.set (by omega) (tf1.tr (TF.s (by omega))) (fun o => ⟨o, by rw [ts, if_pos ⟨hpe, hc⟩]⟩) (fun _ _ => rfl)
          · rw [iltn (by omega) (by omega)]
            exact badR _ (p + 1) _ c1' (by omega) (fun _ => by rw [ts, if_neg (by omega)])
      · rw [if_neg hpe] at c1 ⊢
        have c1' : MN G1 w p false := by simpa [hpe] using c1
        rw [if_neg c1'.b1]
        exact badR 0 p _ c1' (by omega) (fun _ => by rw [ts, if_neg (by omega)])
    · rw [if_neg (show ¬ nI how = (1 : Int32) from nne (b := 1) h1 (by omega) (by omega))]
      by_cases h2 : how = 2
      · subst h2
        rw [if_pos (show nI 2 = (2 : Int32) from rfl)]
        obtain ⟨G1, e1, c1, f1⟩ := mn_next h he
        rw [e1]
        dsimp only [Option.bind_some]
        have tf1 : TF k G G1 := TF.of (f1.up (by simp) (by simp))
        have ts : tabS w e (mo k) (usT k) kn 2 p = (if p < e ∧ 1 ≤ w.getD p 0 ∧ w.getD p 0 ≤ mo k ∧ p + 1 + (w.getD p 0 + 1) / 2 ≤ e ∧ (w.getD p 0 % 2 = 0 ∨ w.getD (p + 1 + w.getD p 0 / 2) 0 % 16 = 0) ∧ sumh (hc w (p + 1) (w.getD p 0)) 12 = 16 then some (.inr (hc w (p + 1) (w.getD p 0)), p + 1 + (w.getD p 0 + 1) / 2) else none) := rfl
        -- the end, refused
        have badE : ∀ (H : Mem) (p' : Nat) (ok1 : Bool), MN H w p' ok1 → p' ≤ e → TF k G H → (ok = true → tabS w e (mo k) (usT k) kn 2 p = none) → ∃ H', b_Md_readTable_285 L2 0 (nI k) 0 H = some H' ∧ MO G H' w e k ok (tabS w e (mo k) (usT k) kn 2 p) := by
          intro H p' ok1 a1 a2 a3 a4
          unfold b_Md_readTable_285 b_Md_readTable_290 b_Md_readTable_305
          rw [if_neg (fun q => q zb1), ld, if_neg a1.bad.b1]
          exact rt333 hk ⟨p', false, a1.bad, a2, fun o => absurd o (by decide), fun o s => absurd (a4 o) s, a3.tr (TF.s (by omega))⟩
        have badR : ∀ (n p' : Nat) (ok1 : Bool), n < 256 → MN G1 w p' ok1 → p' ≤ e → (ok = true → tabS w e (mo k) (usT k) kn 2 p = none) → ∃ H, b_Md_readTable_135 L2 0 (nI k) (nI e) (nI n) 0 G1 = some H ∧ MO G H w e k ok (tabS w e (mo k) (usT k) kn 2 p) := by
          intro n p' ok1 hn a1 a2 a3
          unfold b_Md_readTable_135 b_Md_readTable_140
          obtain ⟨H, y6, e2, h3, f3⟩ := rt_bad (w := w) (k := k) (e := e) (n := n) (p := p') hn 0 12 0 (u2 G1 0 5 1) 0 mFU (by omega) (by unfold mFU; omega) a1.bad
          rw [if_neg (fun q => q zb1), ld, show f_Md_readTable_152 L2 mFU 0 (nI k) (nI e) (nI n) 0 0 0 (u2 G1 0 5 1) = f_Md_readTable_152 L2 1 0 (nI k) (nI e) (nI n) y6 0 (nI 12) H from e2]
          show ∃ H', b_Md_readTable_152 L2 _ 0 (nI k) (nI e) (nI n) y6 0 (nI 12) H = some H' ∧ _
          unfold b_Md_readTable_152
          rw [l12, ile (by omega) (by omega), if_neg h3.b1]
          exact badE H p' false h3 a2 ((tf1.tr (TF.s (by omega))).tr (TF.of f3)) a3
        by_cases hpe : p < e
        · rw [if_pos hpe] at c1 ⊢
          have hy := nI_byte hw p
          cases ok with
          | false =>
            have c1' : MN G1 w (p + 1) false := by simpa using c1
            rw [if_neg c1'.b1]
            exact badR _ (p + 1) _ hy c1' (by omega) (fun o => absurd o (by decide))
          | true =>
            have c1' : MN G1 w (p + 1) true := by simpa [hpe] using c1
            rw [if_pos c1'.b0]
            by_cases hn1 : w.getD p 0 < 1
            · rw [l1, ilt hn1 (by omega)]
              exact badR _ (p + 1) _ hy c1' (by omega) (fun _ => by rw [ts, if_neg (by omega)])
            · rw [l1, iltn (by omega) (by omega)]
              by_cases hn2 : w.getD p 0 ≤ mo k
              · rw [ile hn2 (by omega)]
                unfold b_Md_readTable_140
                rw [if_neg (fun q => q zb0), ld]
                obtain ⟨H, y6, y7, p', ok', e2, a1, a2, a3, a4, a5⟩ := rt_good (w := w) (k := k) (e := e) (n := w.getD p 0) (p := p + 1) he (by omega) (by omega) 12 0 (u2 G1 0 5 0) mFU (by omega) (by unfold mFU; omega) (by rw [Nat.zero_min]; omega) (by rw [Nat.zero_min]; exact c1'.set) (fun j hj => absurd hj (by omega))
                rw [show f_Md_readTable_152 L2 mFU 0 (nI k) (nI e) (nI (w.getD p 0)) 0 0 0 (u2 G1 0 5 0) = f_Md_readTable_152 L2 1 0 (nI k) (nI e) (nI (w.getD p 0)) y6 y7 (nI 12) H from e2]
                show ∃ H', b_Md_readTable_152 L2 _ 0 (nI k) (nI e) (nI (w.getD p 0)) y6 y7 (nI 12) H = some H' ∧ _
                unfold b_Md_readTable_152
                have tf2 : TF k G H := (tf1.tr (TF.s (by omega))).tr (TF.of a3)
                rw [l12, ile (by omega) (by omega)]
                by_cases hq : p + 1 + (w.getD p 0 + 1) / 2 ≤ e
                · obtain ⟨rfl, rfl, rfl, rfl, hv'⟩ := a4 hq
                  have hcl : ∀ i, hc w (p + 1) (w.getD p 0) i ≤ 15 := fun i => by
                    have := hv_lt hw (p + 1) i
                    unfold hc
                    split <;> omega
                  have hs := sumh_le _ 15 hcl 12
                  have hy2 := nI_byte hw (p + 1 + (w.getD p 0 - 1) / 2)
                  rw [if_pos a1.b0, l16]
                  by_cases hs16 : sumh (hc w (p + 1) (w.getD p 0)) 12 = 16
                  · rw [ieq hs16, j_rem2 (by omega), pk_andN (by omega) 4 rfl, l1, l0]
                    have good : (w.getD p 0 % 2 = 0 ∨ w.getD (p + 1 + w.getD p 0 / 2) 0 % 16 = 0) → ∃ H', b_Md_readTable_289 L2 0 (nI k) 0 H = some H' ∧ MO G H' w e k true (tabS w e (mo k) (usT k) kn 2 p) := by
                      intro hodd
                      unfold b_Md_readTable_289 b_Md_readTable_290 b_Md_readTable_305
                      rw [if_neg (fun q => q zb0), ld, if_pos a1.set.b0]
                      obtain ⟨J, e3, t3, s3, j3, q3, i1, i2, i3⟩ := md_spread (F := u2 H 0 5 0) hk (hc w (p + 1) (w.getD p 0)) (by rw [exl_sum]; exact hs16) (fun i _ => by have := hcl i; omega) (fun i hi => by rw [u2_c (by decide)]; exact hv' i hi)
                      rw [e3]
                      dsimp only [Option.bind_some]
                      have f3 : Fm [] [9, 10, 11, 12] (u2 H 0 5 0) J := ⟨fun c _ hc => by
                        simp only [List.mem_cons, List.not_mem_nil, or_false, not_or] at hc
                        exact q3 c hc.1 hc.2.1 hc.2.2.1 hc.2.2.2, fun s _ => by rw [q3 0 (by decide) (by decide) (by decide) (by decide)]⟩
                      refine rt333 hk ⟨_, true, a1.set.tf f3 (by decide), a2, fun o => ⟨rfl, .inr (hc w (p + 1) (w.getD p 0)), ?_, t3, s3⟩, fun _ _ => rfl, (tf2.tr (TF.s (by omega))).tr ⟨f3.up (by simp) (by simp), fun j hj => ⟨by rw [q3 8 (by decide) (by decide) (by decide) (by decide)], j3 j hj⟩, i1, i2, i3⟩⟩
                      rw [ts, if_pos ⟨hpe, by omega, hn2, hq, hodd, hs16⟩]
                    by_cases hodd : w.getD p 0 % 2 = 1
                    · rw [ieq hodd]
                      have e9 : (w.getD p 0 - 1) / 2 = w.getD p 0 / 2 := by omega
                      rw [e9] at hy2 ⊢
                      by_cases hz : w.getD (p + 1 + w.getD p 0 / 2) 0 % 16 = 0
                      · rw [ieq hz]
                        exact good (Or.inr hz)
                      · rw [ieqn hz (by omega) (by omega)]
                        refine badE H _ true a1 a2 tf2 (fun _ => ?_)
                        rw [ts, if_neg (fun q => q.2.2.2.2.1.elim (by omega) hz)]
                    · rw [ieqn hodd (by omega) (by omega)]
                      exact good (Or.inl (by omega))
                  · rw [ieqn hs16 (by omega) (by omega)]
                    refine badE H _ true a1 a2 tf2 (fun _ => ?_)
                    rw [ts, if_neg (fun q => hs16 q.2.2.2.2.2)]
                · obtain rfl := a5 hq
                  rw [if_neg a1.b1]
                  refine badE H _ false a1 a2 tf2 (fun _ => ?_)
                  rw [ts, if_neg (fun q => hq q.2.2.2.1)]
              · rw [ilen (by omega) (by omega)]
                exact badR _ (p + 1) _ hy c1' (by omega) (fun _ => by rw [ts, if_neg (by omega)])
        · rw [if_neg hpe] at c1 ⊢
          have c1' : MN G1 w p false := by simpa [hpe] using c1
          rw [if_neg c1'.b1]
          exact badR 0 p _ (by omega) c1' (by omega) (fun _ => by rw [ts, if_neg (by omega)])
      · rw [if_neg (show ¬ nI how = (2 : Int32) from nne (b := 2) h2 (by omega) (by omega))]
        obtain rfl : how = 3 := by omega
        have ts : tabS w e (mo k) (usT k) kn 3 p = kn.map (fun t => (t, p)) := rfl
        have badR : (ok = true → kn = none) → ∃ H, b_Md_readTable_325 L2 0 (nI k) 0 G = some H ∧ MO G H w e k ok (tabS w e (mo k) (usT k) kn 3 p) := by
          intro a
          unfold b_Md_readTable_325 b_Md_readTable_330
          rw [if_neg (fun q => q zb1), ld]
          exact rt333 hk ⟨p, false, h.bad, hp, fun o => absurd o (by decide), fun o s => absurd (by rw [ts, a o]; rfl) s, TF.s (by omega)⟩
        cases ok with
        | false =>
          rw [if_neg h.b1]
          exact badR (fun o => absurd o (by decide))
        | true =>
          rw [if_pos h.b0, r021, m8, if_neg (inb_no (by omega) (by omega)), nI_clamp (by omega)]
          obtain ⟨k1, k2⟩ := hkn rfl
          cases kn with
          | none =>
            rw [if_pos (show G 8 k = 0 from k1)]
            exact badR (fun _ => rfl)
          | some t =>
            rw [if_neg (by rw [show G 8 k = 1 from k1]; decide)]
            unfold b_Md_readTable_330
            rw [if_neg (fun q => q zb0), ld]
            refine rt333 hk ⟨p, true, h.set, hp, fun _ => ⟨rfl, t, rfl, ?_⟩, fun _ _ => rfl, TF.s (by omega)⟩
            have q := k2 t rfl
            cases t with
            | inl c => exact ⟨(u2_c (by decide)).trans q.1, (u2_c (by decide)).trans q.2.1, (u2_c (by decide)).trans q.2.2.1, (u2_c (by decide)).trans q.2.2.2⟩
            | inr c => exact ⟨fun s hs => ⟨(u2_c (by decide)).trans (q.1 s hs).1, (u2_c (by decide)).trans (q.1 s hs).2.1, (u2_c (by decide)).trans (q.1 s hs).2.2⟩, (u2_c (by decide)).trans q.2⟩
