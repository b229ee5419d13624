/-! pure: the model reads a tree -/
def MTr (G : Mem) (T : T4) : Prop := G 0 16 = nI T.1 ∧ G 0 17 = nI T.2.1 ∧ G 0 18 = nI T.2.2.2 ∧ (∀ s, s ≤ T.2.1 → G 6 s = nI (T.2.2.1 s)) ∧ OW G 7 (ownL T.2.2.1 T.2.1 7) ∧ TrG T
theorem MTr.fm {G H : Mem} {T : T4} {sl cs : List Nat} (h : MTr G T) (f : Fm sl cs G H) (n1 : 16 ∉ sl) (n2 : 17 ∉ sl) (n3 : 18 ∉ sl) (n6 : 6 ∉ cs) (n7 : 7 ∉ cs) : MTr H T := by
  unfold MTr OW at *
  rw [f.2 16 n1, f.2 17 n2, f.2 18 n3, f.1 6 (by decide) n6, f.1 7 (by decide) n7]
  exact h
/-- one weight more -/
theorem rt95 {G : Mem} {w : List Nat} {p k b s : Nat} {ok : Bool} (h : MN G w p ok) (hk : k < 17) (hb : b < 256) (x1 : Int32) (kk : Nat → Int32 → Int32 → Int32 → Int32 → Mem → Option Mem) :
    ∃ H, b_Md_readTree_95 L2 kk 0 x1 (nI s) (nI k) (nI b) G = kk 0 x1 (nI (s + cl ((if k % 2 = 0 then b / 16 else b % 16) % 8))) (nI b) (nI (k + 1)) H ∧ MN H w p (ok && decide ((if k % 2 = 0 then b / 16 else b % 16) ≤ 7)) ∧ H 6 k = nI ((if k % 2 = 0 then b / 16 else b % 16) % 8) ∧ (∀ j, j ≠ k → H 6 j = G 6 j) ∧ Fm [5] [6] G H := by
  obtain ⟨v, hv⟩ : ∃ v, v = (if k % 2 = 0 then b / 16 else b % 16) := ⟨_, rfl⟩
  have hv2 : v < 16 := by rw [hv]; split <;> omega
  rw [← hv]
  have e95 : b_Md_readTree_95 L2 kk 0 x1 (nI s) (nI k) (nI b) G = b_Md_readTree_113 L2 kk 0 x1 (nI s) (nI b) (nI k) (nI v) G := by
    unfold b_Md_readTree_95
    rw [j_rem2 (by omega)]
    by_cases q : k % 2 = 0
    · rw [if_pos (show nI (k % 2) = 0 by rw [q]; rfl), hv, if_pos q, show jshr (nI b) 4 = nI (b / 16) by rw [l4, jshr_n (by omega) (by omega)]]
    · rw [if_neg (show ¬ nI (k % 2) = 0 from nne (b := 0) q (by omega) (by omega)), hv, if_neg q, show nI b &&& 15 = nI (b % 16) from pk_andN (by omega) 4 rfl]
  rw [e95]
  have main : ∀ (y : Int32) (ok1 : Bool), (y = 0 ∨ y = 1) → MN (u2 G 0 5 y) w p ok1 → ∃ H, b_Md_readTree_135 L2 kk 0 x1 (nI s) (nI b) (nI k) (nI v) 0 y G = kk 0 x1 (nI (s + cl (v % 8))) (nI b) (nI (k + 1)) H ∧ MN H w p ok1 ∧ H 6 k = nI (v % 8) ∧ (∀ j, j ≠ k → H 6 j = G 6 j) ∧ Fm [5] [6] G H := by
    intro y ok1 hy m1
    obtain ⟨H, hH⟩ : ∃ H, H = u2 (u2 G 0 5 y) 6 k (nI (v % 8)) := ⟨_, rfl⟩
    have f1 : Fm [] [6] (u2 G 0 5 y) H := by rw [hH]; exact Fm.uc (by simp) (by decide)
    have v6 : H 6 k = nI (v % 8) := by rw [hH, u2_s]
    refine ⟨H, ?_, m1.fm f1 (by decide) (by decide) (by decide) (by decide), v6, fun j hj => by rw [hH, u2_p hj, u2_c (by decide)], (Fm.us (by simp)).tr (f1.up (by simp) (by simp))⟩
    unfold b_Md_readTree_135 b_Md_readTree_176
    have e6 : mGa L2 H 6 (nI k).toNatClampNeg = nI (v % 8) := by rw [ga6, nI_clamp (by omega), v6]
    rw [if_neg (fun q => q hy), ld, r019, m6, gl6, if_neg (in_w (n := k) (by omega) (by omega) (show 6 < mNc L2 by decide)), ld, show nI v &&& 7 = nI (v % 8) from pk_andN (by omega) 3 rfl, show u2 (u2 G 0 5 y) 6 (nI k).toNatClampNeg (nI (v % 8)) = H by rw [hH, nI_clamp (by omega)], if_neg (inb_no (n := k) (by omega) (by omega)), if_neg (inb_no (n := k) (by omega) (by omega)), e6, nI_1]
    unfold cl
    by_cases q : v % 8 = 0
    · rw [if_pos (show nI (v % 8) = 0 by rw [q]; rfl), if_pos q, l0, nI_add]
    · rw [if_neg (show ¬ nI (v % 8) = 0 from nne (b := 0) q (by omega) (by omega)), if_neg q, l1, pk_sub (by omega), jshl_n (by omega) (by have : 2 ^ (v % 8 - 1) ≤ 2 ^ 6 := Nat.pow_le_pow_right (by decide) (by omega); omega), Nat.one_mul, nI_add]
  unfold b_Md_readTree_113 b_Md_readTree_130
  cases ok with
  | false =>
    rw [if_neg h.b1]
    exact main 1 _ zb1 (by simpa using h.bad)
  | true =>
    rw [if_pos h.b0, l7]
    by_cases q : v ≤ 7
    · rw [ile q (by omega)]
      exact main 0 _ zb0 (by simpa [q] using h.set)
    · rw [ilen (by omega) (by omega)]
      exact main 1 _ zb1 (by simpa [q] using h.bad)
def TCn (w : List Nat) (p0 e n : Nat) : Prop := p0 + (n + 1) / 2 ≤ e ∧ (∀ j, j < n → hv w p0 j ≤ 7) ∧ sumW (hv w p0) n ≠ 0 ∧ (n % 2 = 0 ∨ w.getD (p0 + n / 2) 0 % 16 = 0)
theorem rt70 {w : List Nat} {p0 e n : Nat} (he : e ≤ w.length) (hn1 : 1 ≤ n) (hn : n ≤ 16) : ∀ (d k : Nat) (G : Mem) (s b p : Nat) (ok : Bool) (fu : Nat), d + k = n → d < fu → MN G w p ok → G 0 17 = nI n → s ≤ 64 * k → b < 256 →
    (ok = true → p = p0 + (k + 1) / 2 ∧ p ≤ e ∧ (∀ j, j < k → hv w p0 j ≤ 7 ∧ G 6 j = nI (hv w p0 j)) ∧ s = sumW (hv w p0) k ∧ (0 < k → b = w.getD (p0 + (k - 1) / 2) 0)) → (TCn w p0 e n → ok = true) →
    ∃ H s' p' ok2 ok', f_Md_readTree_70 L2 fu 0 (nI e) (nI s) (nI b) (nI k) G = b_Md_readTree_218 L2 0 (nI s') 0 (if ok' then 0 else 1) H ∧ MN H w p' ok2 ∧ (ok' = true → ok2 = true) ∧ s' ≤ 1024 ∧ (ok' = true → TCn w p0 e n ∧ p' = p0 + (n + 1) / 2 ∧ (∀ j, j < n → H 6 j = nI (hv w p0 j)) ∧ s' = sumW (hv w p0) n) ∧ (TCn w p0 e n → ok' = true) ∧ Fm [4, 5] [6] G H := by
  intro d
  induction d with
  | zero =>
    intro k G s b p ok fu hd hf h h17 hs hb hg hc
    obtain ⟨fu, rfl⟩ : ∃ k, fu = k + 1 := ⟨fu - 1, by omega⟩
    obtain rfl : k = n := by omega
    have bad : ¬ TCn w p0 e k → ∃ H s' p' ok2 ok', b_Md_readTree_213 L2 0 (nI s) 0 G = b_Md_readTree_218 L2 0 (nI s') 0 (if ok' = true then 0 else 1) H ∧ MN H w p' ok2 ∧ (ok' = true → ok2 = true) ∧ s' ≤ 1024 ∧ (ok' = true → TCn w p0 e k ∧ p' = p0 + (k + 1) / 2 ∧ (∀ j, j < k → H 6 j = nI (hv w p0 j)) ∧ s' = sumW (hv w p0) k) ∧ (TCn w p0 e k → ok' = true) ∧ Fm [4, 5] [6] G H := fun q => ⟨G, s, p, ok, false, rfl, h, fun o => absurd o (by decide), by omega, fun o => absurd o (by decide), fun c => absurd c q, Fm.rf⟩
    show ∃ H s' p' ok2 ok', b_Md_readTree_70 L2 (f_Md_readTree_70 L2 fu) 0 (nI e) (nI s) (nI b) (nI k) G = _ ∧ _
    unfold b_Md_readTree_70
    rw [h17, ile (Nat.le_refl _) (by omega), j_rem2 (by omega)]
    cases ok with
    | false =>
      rw [if_neg h.b1]
      exact bad (fun c => absurd (hc c) (by decide))
    | true =>
      obtain ⟨g1, g2, g3, g4, g5⟩ := hg rfl
      have good : TCn w p0 e k → ∃ H s' p' ok2 ok', b_Md_readTree_217 L2 0 (nI s) 0 G = b_Md_readTree_218 L2 0 (nI s') 0 (if ok' = true then 0 else 1) H ∧ MN H w p' ok2 ∧ (ok' = true → ok2 = true) ∧ s' ≤ 1024 ∧ (ok' = true → TCn w p0 e k ∧ p' = p0 + (k + 1) / 2 ∧ (∀ j, j < k → H 6 j = nI (hv w p0 j)) ∧ s' = sumW (hv w p0) k) ∧ (TCn w p0 e k → ok' = true) ∧ Fm [4, 5] [6] G H := fun q => ⟨G, s, p, true, true, rfl, h, fun _ => rfl, by omega, fun _ => ⟨q, g1, fun j hj => (g3 j hj).2, g4⟩, fun _ => rfl, Fm.rf⟩
      rw [if_pos h.b0]
      by_cases q0 : s = 0
      · rw [if_pos (show nI s = 0 by rw [q0]; rfl)]
        exact bad (fun c => c.2.2.1 (by omega))
      · rw [if_neg (show ¬ nI s = 0 from nne (b := 0) q0 (by omega) (by omega))]
        by_cases q1 : k % 2 = 1
        · have eb : b = w.getD (p0 + k / 2) 0 := by rw [g5 (by omega), show (k - 1) / 2 = k / 2 by omega]
          rw [if_pos (show nI (k % 2) = 1 by rw [q1]; rfl), show nI b &&& 15 = nI (b % 16) from pk_andN (by omega) 4 rfl]
          by_cases q2 : b % 16 = 0
          · rw [if_pos (show nI (b % 16) = 0 by rw [q2]; rfl)]
            exact good ⟨by omega, fun j hj => (g3 j hj).1, by omega, Or.inr (by rw [← eb]; exact q2)⟩
          · rw [if_neg (show ¬ nI (b % 16) = 0 from nne (b := 0) q2 (by omega) (by omega))]
            refine bad (fun c => ?_)
            rcases c.2.2.2 with c | c
            · omega
            · rw [← eb] at c
              exact q2 c
        · rw [if_neg (show ¬ nI (k % 2) = 1 from nne (b := 1) q1 (by omega) (by omega))]
          exact good ⟨by omega, fun j hj => (g3 j hj).1, by omega, Or.inl (by omega)⟩
  | succ d ih =>
    intro k G s b p ok fu hd hf h h17 hs hb hg hc
    obtain ⟨fu, rfl⟩ : ∃ k, fu = k + 1 := ⟨fu - 1, by omega⟩
    have hw := h.2.2.2.2.2
    -- with the byte at hand
    have go : ∀ (A : Mem) (b' p' : Nat) (ok1 : Bool), MN A w p' ok1 → b' < 256 → Fm [4, 5] [] G A → (ok1 = true → ok = true ∧ p' = p0 + (k + 1 + 1) / 2 ∧ p' ≤ e ∧ b' = w.getD (p0 + k / 2) 0) → (TCn w p0 e n → ok1 = true) →
        ∃ H s' p' ok2 ok', b_Md_readTree_95 L2 (f_Md_readTree_70 L2 fu) 0 (nI e) (nI s) (nI k) (nI b') A = b_Md_readTree_218 L2 0 (nI s') 0 (if ok' then 0 else 1) H ∧ MN H w p' ok2 ∧ (ok' = true → ok2 = true) ∧ s' ≤ 1024 ∧ (ok' = true → TCn w p0 e n ∧ p' = p0 + (n + 1) / 2 ∧ (∀ j, j < n → H 6 j = nI (hv w p0 j)) ∧ s' = sumW (hv w p0) n) ∧ (TCn w p0 e n → ok' = true) ∧ Fm [4, 5] [6] G H := by
      intro A b' p' ok1 mA hb' fA c1 c2
      obtain ⟨B, eB, mB, vB, oB, fB⟩ := rt95 (s := s) mA (show k < 17 by omega) hb' (nI e) (f_Md_readTree_70 L2 fu)
      rw [eB]
      obtain ⟨v, hv'⟩ : ∃ v, v = (if k % 2 = 0 then b' / 16 else b' % 16) := ⟨_, rfl⟩
      rw [← hv'] at mB vB ⊢
      have ev : ok1 = true → v = hv w p0 k := fun o => by
        rw [hv', (c1 o).2.2.2]
        rfl
      have cv := cl_le (v := v % 8) (by omega)
      have g1' : (ok1 && decide (v ≤ 7)) = true → p' = p0 + (k + 1 + 1) / 2 ∧ p' ≤ e ∧ (∀ j, j < k + 1 → hv w p0 j ≤ 7 ∧ B 6 j = nI (hv w p0 j)) ∧ s + cl (v % 8) = sumW (hv w p0) (k + 1) ∧ (0 < k + 1 → b' = w.getD (p0 + (k + 1 - 1) / 2) 0) := fun o => by
        have o' : ok1 = true ∧ v ≤ 7 := by simpa using o
        obtain ⟨d1, d2, d3, d4⟩ := c1 o'.1
        obtain ⟨g1, g2, g3, g4, g5⟩ := hg d1
        have e2 := ev o'.1
        refine ⟨d2, d3, fun j hj => ?_, ?_, fun _ => by rw [d4]; rfl⟩
        · rcases Nat.lt_or_ge j k with q | q
          · rw [oB j (by omega), fA.1 6 (by decide) (by simp)]
            exact g3 j q
          · rw [show j = k by omega, ← e2]
            refine ⟨o'.2, ?_⟩
            rw [vB, Nat.mod_eq_of_lt (by omega)]
        · have : sumW (hv w p0) (k + 1) = sumW (hv w p0) k + cl (hv w p0 k) := rfl
          rw [this, ← g4, ← e2, Nat.mod_eq_of_lt (by omega)]
      have g2' : TCn w p0 e n → (ok1 && decide (v ≤ 7)) = true := fun c => by
        have o1 := c2 c
        have : v ≤ 7 := by rw [ev o1]; exact c.2.1 k (by omega)
        rw [o1, decide_eq_true this]
        rfl
      obtain ⟨H, s', p2, ok2, ok', e1, r1, r2, r3, r4, r5, r6⟩ := ih (k + 1) B (s + cl (v % 8)) b' p' (ok1 && decide (v ≤ 7)) fu (by omega) (by omega) mB (by rw [fB.2 17 (by decide), fA.2 17 (by decide)]; exact h17) (by omega) hb' g1' g2'
      exact ⟨H, s', p2, ok2, ok', e1, r1, r2, r3, r4, r5, (fA.up (by simp) (by simp)).tr ((fB.up (by simp) (by simp)).tr r6)⟩
    show ∃ H s' p' ok2 ok', b_Md_readTree_70 L2 (f_Md_readTree_70 L2 fu) 0 (nI e) (nI s) (nI b) (nI k) G = _ ∧ _
    unfold b_Md_readTree_70
    rw [h17, ilen (by omega) (by omega), j_rem2 (a := k) (by omega)]
    by_cases q : k % 2 = 0
    · rw [if_pos (show nI (k % 2) = 0 by rw [q]; rfl)]
      obtain ⟨A, eA, mA, fA⟩ := mn_next h he
      rw [eA]
      dsimp only [Option.bind_some]
      refine go A _ _ _ mA ?_ fA (fun o => ?_) (fun c => ?_)
      · have := nI_byte hw p
        split <;> omega
      · have o' : ok = true ∧ p < e := by simpa using o
        obtain ⟨g1, g2, g3, g4, g5⟩ := hg o'.1
        rw [if_pos o'.2, if_pos o'.2]
        exact ⟨o'.1, by omega, by omega, by rw [g1, show p0 + (k + 1) / 2 = p0 + k / 2 by omega]⟩
      · have o1 := hc c
        obtain ⟨g1, g2, g3, g4, g5⟩ := hg o1
        have : p < e := by have := c.1; omega
        rw [o1, decide_eq_true this]
        rfl
    · rw [if_neg (show ¬ nI (k % 2) = 0 from nne (b := 0) q (by omega) (by omega))]
      refine go G b p ok h hb Fm.rf (fun o => ?_) hc
      obtain ⟨g1, g2, g3, g4, g5⟩ := hg o
      exact ⟨o, by omega, g2, by rw [g5 (by omega), show (k - 1) / 2 = k / 2 by omega]⟩
def depS (s : Nat) : Nat := if s = 0 then 0 else Nat.log2 s + 1
theorem depS_lt (s : Nat) : s < 2 ^ depS s := by
  unfold depS
  split
  · subst_vars; decide
  · exact Nat.lt_log2_self
theorem depS_ge {s k : Nat} (h : k < depS s) : 2 ^ k ≤ s := by
  unfold depS at h
  split at h
  · omega
  · have : 2 ^ k ≤ 2 ^ Nat.log2 s := Nat.pow_le_pow_right (by decide) (by omega)
    have := Nat.log2_self_le (n := s) (by assumption)
    omega
theorem depS_le {s : Nat} (h : s ≤ 1024) : depS s ≤ 11 := by
  unfold depS
  split
  · omega
  · have := (Nat.log2_lt (k := 11) (by assumption)).mpr (by omega)
    omega
theorem rt226 {s : Nat} (hs : s ≤ 1024) : ∀ (d k : Nat) (F : Mem) (fu : Nat), d + k = depS s → d < fu → F 0 18 = nI k → ∃ G, f_Md_readTree_226 L2 fu 0 (nI s) F = f_Md_readTree_262 L2 mFU 0 (nI (2 ^ depS s - s)) 1 G ∧ G 0 18 = nI (depS s) ∧ Fm [18] [] F G := by
  have hd11 := depS_le hs
  intro d
  induction d with
  | zero =>
    intro k F fu hd hf h18
    obtain ⟨fu, rfl⟩ : ∃ k, fu = k + 1 := ⟨fu - 1, by omega⟩
    obtain rfl : k = depS s := by omega
    have h1 := depS_lt s
    have h2 : 2 ^ depS s ≤ 2 ^ 11 := Nat.pow_le_pow_right (by decide) hd11
    refine ⟨F, ?_, h18, Fm.rf⟩
    show b_Md_readTree_226 L2 (f_Md_readTree_226 L2 fu) 0 (nI s) F = _
    unfold b_Md_readTree_226
    rw [h18, show jshl (1 : Int32) (nI (depS s)) = nI (2 ^ depS s) by rw [l1, jshl_n (by omega) (by omega), Nat.one_mul], ilt h1 (by omega), pk_sub (by omega)]
  | succ d ih =>
    intro k F fu hd hf h18
    obtain ⟨fu, rfl⟩ : ∃ k, fu = k + 1 := ⟨fu - 1, by omega⟩
    have h1 := depS_ge (s := s) (k := k) (by omega)
    obtain ⟨G, e, g1, f⟩ := ih (k + 1) (u2 F 0 18 (nI (k + 1))) fu (by omega) (by omega) u2_s
    refine ⟨G, ?_, g1, (Fm.us (by simp)).tr f⟩
    show b_Md_readTree_226 L2 (f_Md_readTree_226 L2 fu) 0 (nI s) F = _
    unfold b_Md_readTree_226
    rw [h18, show jshl (1 : Int32) (nI k) = nI (2 ^ k) by rw [l1, jshl_n (by omega) (by omega), Nat.one_mul], iltn h1 (by omega), ld, nI_1]
    exact e
theorem rt262 {r : Nat} (hr1 : 1 ≤ r) (hr : r ≤ 2048) (F : Mem) : ∀ (d v fu : Nat), d + v = 13 → d < fu → 1 ≤ v → (v = 1 ∨ 2 ^ (v - 2) < r) → ∃ V, 1 ≤ V ∧ V ≤ 13 ∧ r ≤ 2 ^ (V - 1) ∧ (V = 1 ∨ 2 ^ (V - 2) < r) ∧ f_Md_readTree_262 L2 fu 0 (nI r) (nI v) F = (if F 0 5 = 0 then (if (7 : Int32) < F 0 18 then b_Md_readTree_307 L2 0 (nI V) 0 F else if nI (2 ^ (V - 1)) = nI r then b_Md_readTree_312 L2 0 (nI V) 0 0 F else b_Md_readTree_307 L2 0 (nI V) 0 F) else b_Md_readTree_307 L2 0 (nI V) 0 F) := by
  intro d
  induction d with
  | zero =>
    intro v fu hd hf hv hl
    obtain ⟨fu, rfl⟩ : ∃ k, fu = k + 1 := ⟨fu - 1, by omega⟩
    obtain rfl : v = 13 := by omega
    have : r ≤ 2 ^ (13 - 1) := Nat.le_trans hr (by decide)
    refine ⟨13, by decide, by decide, this, hl, ?_⟩
    show b_Md_readTree_262 L2 (f_Md_readTree_262 L2 fu) 0 (nI r) (nI 13) F = _
    unfold b_Md_readTree_262
    rw [show jshl (1 : Int32) (nI 13 - 1) = nI (2 ^ (13 - 1)) by decide, ile this (by decide)]
  | succ d ih =>
    intro v fu hd hf hv hl
    obtain ⟨fu, rfl⟩ : ∃ k, fu = k + 1 := ⟨fu - 1, by omega⟩
    have p12 : 2 ^ (v - 1) ≤ 2 ^ 12 := Nat.pow_le_pow_right (by decide) (by omega)
    have e0 : jshl (1 : Int32) (nI v - 1) = nI (2 ^ (v - 1)) := by rw [l1, pk_sub hv, jshl_n (by omega) (by omega), Nat.one_mul]
    by_cases q : r ≤ 2 ^ (v - 1)
    · refine ⟨v, hv, by omega, q, hl, ?_⟩
      show b_Md_readTree_262 L2 (f_Md_readTree_262 L2 fu) 0 (nI r) (nI v) F = _
      unfold b_Md_readTree_262
      rw [e0, ile q (by omega)]
    · obtain ⟨V, v1, v2, v3, v4, e⟩ := ih (v + 1) fu (by omega) (by omega) (by omega) (Or.inr (by rw [show v + 1 - 2 = v - 1 by omega]; omega))
      refine ⟨V, v1, v2, v3, v4, ?_⟩
      show b_Md_readTree_262 L2 (f_Md_readTree_262 L2 fu) 0 (nI r) (nI v) F = _
      unfold b_Md_readTree_262
      rw [e0, ilen (by omega) (by omega), nI_1]
      exact e
theorem pow_V {r V : Nat} (hr : 1 ≤ r) (h1 : 1 ≤ V) (h2 : r ≤ 2 ^ (V - 1)) (h3 : V = 1 ∨ 2 ^ (V - 2) < r) : (2 ^ (V - 1) = r ↔ 2 ^ Nat.log2 r = r) ∧ (2 ^ Nat.log2 r = r → V = Nat.log2 r + 1) := by
  have key : 2 ^ Nat.log2 r = r → V = Nat.log2 r + 1 := fun h => by
    rw [← h] at h2
    have a := (Nat.pow_le_pow_iff_right (a := 2) (by decide)).mp h2
    rcases h3 with h3 | h3
    · omega
    · rw [← h] at h3
      have b := (Nat.pow_lt_pow_iff_right (a := 2) (by decide)).mp h3
      omega
  refine ⟨⟨fun h => ?_, fun h => ?_⟩, key⟩
  · have : Nat.log2 r = V - 1 := by rw [← h, Nat.log2_two_pow]
    rw [this, h]
  · have := key h
    rw [this, Nat.add_sub_cancel, h]
theorem md_tree {G : Mem} {w : List Nat} {p e : Nat} {ok : Bool} (h : MN G w p ok) (he : e ≤ w.length) :
    ∃ H p' ok', f_Md_readTree L2 0 (nI e) G = some H ∧ MN H w p' ok' ∧ (ok' = true → ok = true ∧ ∃ T, treeS w e p = some (T, p') ∧ MTr H T ∧ H 0 15 = 1) ∧ (ok = true → treeS w e p ≠ none → ok' = true) ∧ Fm [4, 5, 15, 16, 17, 18] [6, 7] G H := by
  have hw := h.2.2.2.2.2
  obtain ⟨A, eA, mA, fA⟩ := mn_next h he
  obtain ⟨x, hx⟩ : ∃ x, x = (if p < e then w.getD p 0 else 0) := ⟨_, rfl⟩
  have hx2 : x < 256 := by have := nI_byte hw p; rw [hx]; split <;> omega
  rw [← hx] at eA
  obtain ⟨p1, hp1⟩ : ∃ q, q = (if p < e then p + 1 else p) := ⟨_, rfl⟩
  rw [← hp1] at mA
  have f1 : Fm [16] [] A (u2 A 0 16 (nI x)) := Fm.us (by simp)
  obtain ⟨B, eB, mB, fB⟩ := mn_next (mA.fm f1 (by decide) (by decide) (by decide) (by decide)) he
  obtain ⟨n, hn⟩ : ∃ n, n = (if p1 < e then w.getD p1 0 else 0) := ⟨_, rfl⟩
  have hn2 : n < 256 := by have := nI_byte hw p1; rw [hn]; split <;> omega
  rw [← hn] at eB
  obtain ⟨p2, hp2⟩ : ∃ q, q = (if p1 < e then p1 + 1 else p1) := ⟨_, rfl⟩
  rw [← hp2] at mB
  obtain ⟨C, hC⟩ : ∃ C, C = u2 B 0 17 (nI n) := ⟨_, rfl⟩
  have f2 : Fm [17] [] B C := by rw [hC]; exact Fm.us (by simp)
  have mC := mB.fm f2 (by decide) (by decide) (by decide) (by decide)
  have fGC : Fm [4, 5, 15, 16, 17, 18] [6, 7] G C := (((fA.up (by simp) (by simp)).tr (f1.up (by simp) (by simp))).tr (fB.up (by simp) (by simp))).tr (f2.up (by simp) (by simp))
  have c17 : C 0 17 = nI n := by rw [hC, u2_s]
  have c16 : C 0 16 = nI x := by rw [f2.2 16 (by decide), fB.2 16 (by decide), u2_s]
  have two : p + 1 < e → p1 = p + 1 ∧ x = w.getD p 0 ∧ n = w.getD (p + 1) 0 ∧ p2 = p + 2 := fun q => by
    rw [if_pos (by omega)] at hx hp1
    subst hp1
    rw [if_pos q] at hn hp2
    exact ⟨rfl, hx, hn, by omega⟩
  obtain ⟨okC, hokC⟩ : ∃ o, o = (ok && decide (p < e) && decide (p1 < e)) := ⟨_, rfl⟩
  rw [← hokC] at mC
  have two' : okC = true → ok = true ∧ p + 1 < e := fun q => by
    rw [hokC] at q
    have : (ok = true ∧ p < e) ∧ p1 < e := by simpa using q
    obtain ⟨⟨q1, q2⟩, q3⟩ := this
    rw [if_pos q2] at hp1
    exact ⟨q1, by omega⟩
  have two2 : ok = true → p + 1 < e → okC = true := fun o q => by
    obtain ⟨t1, -⟩ := two q
    rw [hokC, o, t1, decide_eq_true (show p < e by omega), decide_eq_true q]
    rfl
  have bad : (ok = true → treeS w e p = none) → ∃ H p' ok', b_Md_readTree_57 L2 0 C = some H ∧ MN H w p' ok' ∧ (ok' = true → ok = true ∧ ∃ T, treeS w e p = some (T, p') ∧ MTr H T ∧ H 0 15 = 1) ∧ (ok = true → treeS w e p ≠ none → ok' = true) ∧ Fm [4, 5, 15, 16, 17, 18] [6, 7] G H := fun q => by
    refine ⟨u2 C 0 5 1, p2, false, ?_, mC.bad, fun o => absurd o (by decide), fun o s => absurd (q o) s, fGC.tr (Fm.us (by simp))⟩
    unfold b_Md_readTree_57
    rw [if_neg (fun q => q zb1), ld]
  unfold f_Md_readTree
  rw [eA]
  dsimp only [Option.bind_some]
  rw [ld, eB]
  dsimp only [Option.bind_some]
  rw [ld, ← hC]
  cases okC with
  | false =>
    rw [if_neg mC.b1]
    refine bad (fun o => ?_)
    unfold treeS
    rw [if_neg (fun c => absurd (two2 o c.1) (by decide))]
  | true =>
    obtain ⟨o0, hpe⟩ := two' rfl
    obtain ⟨t1, t2, t3, t4⟩ := two hpe
    rw [if_pos mC.b0, c17, c16]
    have tn : ¬ (1 ≤ n ∧ n ≤ 16 ∧ x + n ≤ 255) → treeS w e p = none := fun q => by
      unfold treeS
      rw [← t2, ← t3, if_neg (fun c => q ⟨c.2.1, c.2.2.1, c.2.2.2.1⟩)]
    by_cases q1 : 1 ≤ n
    · rw [if_neg (show ¬ nI n < (1 : Int32) from fun q => absurd ((nI_ltI (b := 1) (by omega) (by omega)).mp q) (by omega))]
      by_cases q2 : n ≤ 16
      · rw [if_neg (show ¬ (16 : Int32) < nI n from fun q => absurd ((nI_ltI (a := 16) (by omega) (by omega)).mp q) (by omega)), nI_add]
        by_cases q3 : x + n ≤ 255
        · rw [if_pos (show nI (x + n) ≤ (255 : Int32) from nI_le (b := 255) q3 (by omega))]
          obtain ⟨D, s, pD, ok2, okD, eD, mD, g0, hs, g1, g2, fD⟩ := rt70 (p0 := p2) he q1 q2 n 0 C 0 0 p2 true mFU (by omega) (by unfold mFU; omega) mC c17 (by omega) (by omega) (fun _ => ⟨by omega, by omega, fun j hj => absurd hj (by omega), rfl, fun q => absurd q (by omega)⟩) (fun _ => rfl)
          have eD' : f_Md_readTree_70 L2 mFU 0 (nI e) (0 : Int32) (0 : Int32) (0 : Int32) C = b_Md_readTree_218 L2 0 (nI s) 0 (if okD = true then 0 else 1) D := eD
          rw [eD']
          obtain ⟨E, hE⟩ : ∃ E, E = u2 D 0 5 (if okD = true then 0 else 1) := ⟨_, rfl⟩
          have mE : MN E w pD okD := by
            rw [hE]
            cases okD with
            | false => exact mD.bad
            | true =>
              rw [g0 rfl] at mD
              exact mD.set
          have f3 : Fm [5] [] D E := by rw [hE]; exact Fm.us (by simp)
          obtain ⟨K, eK, k18, fK⟩ := rt226 hs (depS s) 0 (u2 E 0 18 (nI 0)) mFU (by omega) (by have := depS_le hs; unfold mFU; omega) u2_s
          have f4 : Fm [18] [] E K := (Fm.us (by simp)).tr fK
          have mK := mE.fm f4 (by decide) (by decide) (by decide) (by decide)
          have hd11 := depS_le hs
          have hlt := depS_lt s
          have hpw : 2 ^ depS s ≤ 2 ^ 11 := Nat.pow_le_pow_right (by decide) hd11
          obtain ⟨V, v1, v2, v3, v4, eV⟩ := rt262 (r := 2 ^ depS s - s) (by omega) (by omega) K 12 1 mFU (by omega) (by unfold mFU; omega) (by omega) (Or.inl rfl)
          obtain ⟨pv1, pv2⟩ := pow_V (by omega) v1 v3 v4
          have fCK : Fm [4, 5, 15, 16, 17, 18] [6, 7] C K := ((fD.up (by simp) (by simp)).tr (f3.up (by simp) (by simp))).tr (f4.up (by simp) (by simp))
          have k17 : K 0 17 = nI n := by rw [f4.2 17 (by decide), f3.2 17 (by decide), fD.2 17 (by decide)]; exact c17
          have e218 : b_Md_readTree_218 L2 0 (nI s) 0 (if okD = true then 0 else 1) D = f_Md_readTree_262 L2 mFU 0 (nI (2 ^ depS s - s)) (nI 1) K := by
            unfold b_Md_readTree_218
            rw [if_neg (show ¬ ¬ ((if okD = true then (0 : Int32) else 1) = 0 ∨ (if okD = true then (0 : Int32) else 1) = 1) by cases okD; exact fun q => q zb1; exact fun q => q zb0), ld, ld, ← hE]
            exact eK
          rw [e218, eV]
          -- refused
          have bad2 : treeS w e p = none → ∃ H p' ok', b_Md_readTree_307 L2 0 (nI V) 0 K = some H ∧ MN H w p' ok' ∧ (ok' = true → ok = true ∧ ∃ T, treeS w e p = some (T, p') ∧ MTr H T ∧ H 0 15 = 1) ∧ (ok = true → treeS w e p ≠ none → ok' = true) ∧ Fm [4, 5, 15, 16, 17, 18] [6, 7] G H := fun q => by
            have f5 : Fm [] [6] (u2 K 0 5 1) (u2 (u2 K 0 5 1) 6 n (nI V)) := Fm.uc (by simp) (by decide)
            have m5 := mK.bad.fm f5 (by decide) (by decide) (by decide) (by decide)
            refine ⟨u2 (u2 K 0 5 1) 6 n (nI V), pD, false, ?_, m5, fun o => absurd o (by decide), fun o s => absurd q s, (fGC.tr fCK).tr ((Fm.us (by simp)).tr (f5.up (by simp) (by simp)))⟩
            unfold b_Md_readTree_307 b_Md_readTree_312 b_Md_readTree_337
            rw [if_neg (fun q => q zb1), ld, r019, m6, u2_p (show (17 : Nat) ≠ 5 by decide), k17, if_neg (in_w (n := n) (by omega) (by omega) (show 6 < mNc L2 by decide)), ld, nI_clamp (by omega), if_neg m5.b1]
          cases okD with
          | false =>
            rw [if_neg mK.b1]
            refine bad2 ?_
            unfold treeS
            rw [← t2, ← t3, ← t4, if_neg (fun c => ?_)]
            have cp := compB_iff.mp c.2.2.2.2.2.2
            exact absurd (g2 ⟨c.2.2.2.2.1, cp.1, by have := cp.2.1; omega, c.2.2.2.2.2.1⟩) (by decide)
          | true =>
            obtain ⟨c1, c2, c3, c4⟩ := g1 rfl
            have s0 : s ≠ 0 := by rw [c4]; exact c1.2.2.1
            have ed : depS s = Nat.log2 (sumW (hv w p2) n) + 1 := by
              unfold depS
              rw [if_neg s0, c4]
            have er : 2 ^ depS s - s = restW (hv w p2) n := by
              unfold restW
              rw [ed, c4]
            rw [er] at pv1 pv2 v3
            have cs : compS (hv w p2) n ↔ s < 128 ∧ 2 ^ (V - 1) = restW (hv w p2) n := by
              rw [pv1]
              constructor
              · intro c
                exact ⟨by rw [c4]; exact c.2.2.1, c.2.2.2⟩
              · intro c
                exact ⟨c1.2.1, by omega, by omega, c.2⟩
            have ts : treeS w e p = if compB (hv w p2) n = true then some ((x, n, fullW (hv w p2) n, Nat.log2 (sumW (hv w p2) n) + 1), p2 + (n + 1) / 2) else none := by
              unfold treeS
              rw [← t2, ← t3, ← t4]
              by_cases q : compB (hv w p2) n = true
              · rw [if_pos q, if_pos ⟨hpe, q1, q2, q3, c1.1, c1.2.2.2, q⟩]
              · rw [if_neg q, if_neg (fun c => q c.2.2.2.2.2.2)]
            have tno : ¬ compS (hv w p2) n → treeS w e p = none := fun q => by
              rw [ts, if_neg (fun c => q (compB_iff.mp c))]
            rw [if_pos mK.b0, k18, er]
            have p12 : 2 ^ (V - 1) ≤ 2 ^ 12 := Nat.pow_le_pow_right (by decide) (by omega)
            have hrl : restW (hv w p2) n ≤ 2048 := by rw [← er]; omega
            by_cases q5 : depS s ≤ 7
            · have s128 : s < 128 := by
                have : 2 ^ depS s ≤ 2 ^ 7 := Nat.pow_le_pow_right (by decide) q5
                omega
              rw [if_neg (show ¬ (7 : Int32) < nI (depS s) from fun q => absurd ((nI_ltI (a := 7) (by omega) (by omega)).mp q) (by omega))]
              by_cases q6 : 2 ^ (V - 1) = restW (hv w p2) n
              · have cp : compS (hv w p2) n := cs.mpr ⟨s128, q6⟩
                have eV2 := pv2 (pv1.mp q6)
                rw [ieq q6]
                have f5 : Fm [] [6] (u2 K 0 5 0) (u2 (u2 K 0 5 0) 6 n (nI V)) := Fm.uc (by simp) (by decide)
                have m5 := mK.set.fm f5 (by decide) (by decide) (by decide) (by decide)
                have f6 : Fm [4, 5, 15, 16, 17, 18] [6, 7] K (u2 (u2 K 0 5 0) 6 n (nI V)) := (Fm.us (by simp)).tr (f5.up (by simp) (by simp))
                have tg := comp_good (f := x) cp q1 q2 q3
                have h128 : (ownL (fullW (hv w p2) n) n 7).length ≤ 128 := by
                  have e4 := tg.2.2.2.2
                  have e5 := tg.2.2.2.1.2
                  dsimp only at e4 e5
                  rw [e4]
                  exact Nat.pow_le_pow_right (n := 2) (by decide) e5
                have hwt : ∀ j, j ≤ n → (u2 (u2 K 0 5 0) 6 n (nI V)) 6 j = nI (fullW (hv w p2) n j) ∧ fullW (hv w p2) n j < 16 := fun j hj => by
                  have t7 := (tg.2.2.1 j hj).1
                  dsimp only at t7
                  refine ⟨?_, by omega⟩
                  unfold fullW
                  by_cases qj : j = n
                  · rw [qj, u2_s, if_pos rfl, eV2]
                  · rw [u2_p qj, if_neg qj, u2_c (by decide), f4.1 6 (by decide) (by simp), f3.1 6 (by decide) (by simp)]
                    exact c3 j (by omega)
                obtain ⟨M, eM, oM, m15, fM⟩ := md_plant q2 h128 (F := u2 (u2 K 0 5 0) 6 n (nI V)) (by rw [u2_c (by decide), u2_p (by decide)]; exact k17) hwt
                have hM : MTr M (x, n, fullW (hv w p2) n, Nat.log2 (sumW (hv w p2) n) + 1) := by
                  refine ⟨?_, ?_, ?_, fun j hj => ?_, oM, tg⟩
                  · rw [fM.2 16 (by decide), f5.2 16 (by simp), u2_p (by decide), f4.2 16 (by decide), f3.2 16 (by decide), fD.2 16 (by decide)]
                    exact c16
                  · rw [fM.2 17 (by decide), f5.2 17 (by simp), u2_p (by decide)]
                    exact k17
                  · rw [fM.2 18 (by decide), f5.2 18 (by simp), u2_p (by decide), k18, ed]
                  · rw [fM.1 6 (by decide) (by decide)]
                    exact (hwt j hj).1
                have hT : treeS w e p = some ((x, n, fullW (hv w p2) n, Nat.log2 (sumW (hv w p2) n) + 1), pD) := by rw [ts, if_pos (compB_iff.mpr cp), c2]
                have e312 : b_Md_readTree_312 L2 0 (nI V) 0 0 K = some M := by
                  unfold b_Md_readTree_312 b_Md_readTree_337
                  rw [if_neg (fun q => q zb0), ld, r019, m6, u2_p (show (17 : Nat) ≠ 5 by decide), k17, if_neg (in_w (n := n) (by omega) (by omega) (show 6 < mNc L2 by decide)), ld, nI_clamp (by omega), if_pos m5.b0, eM]
                  rfl
                exact ⟨M, pD, true, e312, m5.fm fM (by decide) (by decide) (by decide) (by decide), fun _ => ⟨o0, _, hT, hM, m15⟩, fun _ _ => rfl, ((fGC.tr fCK).tr f6).tr (fM.up (by simp) (by simp))⟩
              · rw [ieqn q6 (by omega) (by omega)]
                exact bad2 (tno (fun c => q6 (cs.mp c).2))
            · rw [if_pos (show (7 : Int32) < nI (depS s) from nI_lt (a := 7) (by omega) (by omega))]
              refine bad2 (tno (fun c => ?_))
              have s128 := (cs.mp c).1
              unfold depS at q5
              rw [if_neg s0] at q5
              have := (Nat.log2_lt (k := 7) s0).mpr s128
              omega
        · rw [if_neg (show ¬ nI (x + n) ≤ (255 : Int32) from fun q => absurd ((nI_leI (b := 255) (by omega) (by omega)).mp q) (by omega))]
          exact bad (fun _ => tn (by omega))
      · rw [if_pos (show (16 : Int32) < nI n from nI_lt (a := 16) (by omega) (by omega))]
        exact bad (fun _ => tn (by omega))
    · rw [if_pos (show nI n < (1 : Int32) from nI_lt (b := 1) (by omega) (by omega))]
      exact bad (fun _ => tn (by omega))
