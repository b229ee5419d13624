/-! pure: the model's tables -/
/-- only the sixteen places from o on have changed in that cell -/
def In (o a : Nat) (F G : Mem) : Prop := ∀ j, ¬ (o ≤ j ∧ j < o + 16) → G a j = F a j
theorem In.rf {o a : Nat} {F : Mem} : In o a F F := fun _ _ => rfl
theorem In.tr {o a : Nat} {F G H : Mem} (h1 : In o a F G) (h2 : In o a G H) : In o a F H := fun j hj => (h2 j hj).trans (h1 j hj)
theorem In.u {o a p : Nat} {F : Mem} {v : Int32} (h : p < 16) : In o a F (u2 F a (o + p) v) := fun j hj => u2_p (fun e => hj (by omega))
theorem k16 (k s : Nat) : (16 : Int32) * nI k + nI s = nI (16 * k + s) := by rw [show (16 : Int32) = nI 16 from rfl, pk_mul, nI_add]
theorem sp20 {k : Nat} (hk : k < 3) {c : Nat → Nat} {k11 : Nat → Int32 → Int32 → Int32 → Mem → Option Mem} {m : Nat} (hm : m < 12) (h16 : (exl c (m + 1)).length ≤ 16) : ∀ (d j : Nat) (F : Mem) (fu : Nat), d + j = c m → d < fu → F 13 m = nI (c m) → PL F 10 (16 * k) (exl c m ++ List.replicate j m) →
    ∃ G, f_Md_spread_20 L2 k11 fu 0 (nI k) (nI ((13 * ((exl c m).length + j)) % 16)) (nI m) (nI j) F = k11 0 (nI k) (nI ((13 * (exl c (m + 1)).length) % 16)) (nI (m + 1)) G ∧ PL G 10 (16 * k) (exl c (m + 1)) ∧ (∀ q, q ≠ 10 → G q = F q) ∧ In (16 * k) 10 F G := by
  have h16' : (exl c m).length + c m ≤ 16 := by simpa [exl] using h16
  have r26 : mRf L2 0 26 = 13 := rfl
  have r23 : mRf L2 0 23 = 10 := rfl
  have g13 : mGl L2 13 = 12 := rfl
  have l10 : mLn L2 10 = 48 := rfl
  intro d
  induction d with
  | zero =>
    intro j F fu hd hf hg hp
    obtain ⟨fu, rfl⟩ : ∃ k, fu = k + 1 := ⟨fu - 1, by omega⟩
    have ej : j = c m := by omega
    subst ej
    refine ⟨F, ?_, hp, fun _ _ => rfl, In.rf⟩
    show b_Md_spread_20 L2 k11 (f_Md_spread_20 L2 k11 fu) 0 (nI k) _ (nI m) (nI (c m)) F = _
    unfold b_Md_spread_20
    have ga : mGa L2 F 13 m = F 13 m := if_pos (by decide)
    rw [r26, g13, if_neg (inb_no (by omega) (by omega)), nI_clamp (by omega), ga, hg, if_pos (nI_le (Nat.le_refl _) (by omega)), nI_1]
    simp [exl]
  | succ d ih =>
    intro j F fu hd hf hg hp
    obtain ⟨fu, rfl⟩ : ∃ k, fu = k + 1 := ⟨fu - 1, by omega⟩
    have hlen : (exl c m ++ List.replicate j m).length = (exl c m).length + j := by simp
    have hp2 := hp.push (by omega) m
    rw [hlen] at hp2
    obtain ⟨G, e, g1, g2, g3⟩ := ih (j + 1) (u2 F 10 (16 * k + (13 * ((exl c m).length + j)) % 16) (nI m)) fu (by omega) (by omega) (by rw [u2_c (by decide)]; exact hg) (by
      rw [List.replicate_succ', ← List.append_assoc]
      exact hp2)
    refine ⟨G, ?_, g1, fun q hq => (g2 q hq).trans (u2_ne hq), In.tr (In.u (by omega)) g3⟩
    show b_Md_spread_20 L2 k11 (f_Md_spread_20 L2 k11 fu) 0 (nI k) _ (nI m) (nI j) F = _
    unfold b_Md_spread_20
    have ga : mGa L2 F 13 m = F 13 m := if_pos (by decide)
    rw [r26, r23, g13, l10, if_neg (inb_no (by omega) (by omega)), nI_clamp (show m < 2 ^ 31 by omega), ga, hg, if_neg (fun q => absurd ((nI_leI (by omega) (by omega)).mp q) (by omega)), k16, if_neg (in_l (m := 0) (by omega) (by omega) (by omega) (show 10 < mNc L2 by decide)), ld, nI_clamp (by omega), nI_1, show (13 : Int32) = nI 13 from rfl, nI_add, pk_andN (by omega) 4 rfl, ← e]
    congr 2
    omega
theorem sp11 {k : Nat} (hk : k < 3) {c : Nat → Nat} (h16 : (exl c 12).length ≤ 16) : ∀ (d m : Nat) (F : Mem) (fu : Nat), d + m = 12 → d < fu → (∀ k, k < 12 → F 13 k = nI (c k)) → PL F 10 (16 * k) (exl c m) →
    ∃ G, f_Md_spread_11 L2 fu 0 (nI k) (nI ((13 * (exl c m).length) % 16)) (nI m) F = f_Md_spread_65 L2 mFU 0 (nI k) 0 G ∧ PL G 10 (16 * k) (exl c 12) ∧ (∀ q, q ≠ 10 → G q = F q) ∧ In (16 * k) 10 F G := by
  intro d
  induction d with
  | zero =>
    intro m F fu hd hf hg hp
    obtain ⟨fu, rfl⟩ : ∃ k, fu = k + 1 := ⟨fu - 1, by omega⟩
    obtain rfl : m = 12 := by omega
    refine ⟨F, ?_, hp, fun _ _ => rfl, In.rf⟩
    show b_Md_spread_11 L2 (f_Md_spread_11 L2 fu) 0 (nI k) _ (nI 12) F = _
    unfold b_Md_spread_11
    rw [if_pos (by decide)]
  | succ d ih =>
    intro m F fu hd hf hg hp
    obtain ⟨fu, rfl⟩ : ∃ k, fu = k + 1 := ⟨fu - 1, by omega⟩
    have hm : m < 12 := by omega
    have h16m : (exl c (m + 1)).length ≤ 16 := Nat.le_trans (exl_len_mono c (by omega)) h16
    have hcm : c m ≤ 16 := by simp [exl] at h16m; omega
    obtain ⟨G1, e, g1, g2, g3⟩ := sp20 hk (k11 := f_Md_spread_11 L2 fu) hm h16m (c m) 0 F mFU (by omega) (by unfold mFU; omega) (hg m hm) (by simpa using hp)
    obtain ⟨G2, f, k1, k2, k3⟩ := ih (m + 1) G1 fu (by omega) (by omega) (fun k hk => by rw [g2 13 (by decide)]; exact hg k hk) g1
    refine ⟨G2, ?_, k1, fun q hq => (k2 q hq).trans (g2 q hq), g3.tr k3⟩
    show b_Md_spread_11 L2 (f_Md_spread_11 L2 fu) 0 (nI k) _ (nI m) F = _
    unfold b_Md_spread_11
    rw [show (12 : Int32) = nI 12 from rfl, if_neg (fun q => absurd ((nI_leI (by omega) (by omega)).mp q) (by omega)), ← f]
    rw [Nat.add_zero] at e
    exact e
theorem sp139 {k s x : Nat} (hk : k < 3) (hs : s < 16) (hx : x < 32) (h0 : 0 < x) {k65 : Nat → Int32 → Int32 → Mem → Option Mem} (F : Mem) : ∀ (d v fu : Nat), d + v = wd x → d < fu → f_Md_spread_139 L2 k65 fu 0 (nI k) (nI s) (nI x) (nI v) F = k65 0 (nI k) (nI (s + 1)) (u2 (u2 F 11 (16 * k + s) (nI (wd x))) 12 (16 * k + s) (bs x)) := by
  have hw := wd_le x
  have r24 : mRf L2 0 24 = 11 := rfl
  have r25 : mRf L2 0 25 = 12 := rfl
  have l11 : mLn L2 11 = 48 := rfl
  have l12 : mLn L2 12 = 48 := rfl
  intro d
  induction d with
  | zero =>
    intro v fu hd hf
    obtain ⟨fu, rfl⟩ : ∃ k, fu = k + 1 := ⟨fu - 1, by omega⟩
    obtain rfl : v = wd x := by omega
    show b_Md_spread_139 L2 k65 (f_Md_spread_139 L2 k65 fu) 0 (nI k) (nI s) (nI x) (nI (wd x)) F = _
    unfold b_Md_spread_139
    have hb := wd_b x hx (wd x) (Nat.le_refl _)
    have hc := wd_c x hx h0
    have hi : ∀ {p : Prop}, p → ¬ (inb (nI (16 * k + s)) 48 ∨ ¬ p) := fun hp => in_l (m := 0) (by omega) (by omega) (by omega) hp
    rw [k16, jshl_n (by omega) (by omega), r24, r25, l11, l12, show (16 : Int32) = nI 16 from rfl, if_pos (nI_le hc.1 (by omega)), if_neg (hi (show 11 < mNc L2 by decide)), ld, if_neg (hi (show 12 < mNc L2 by decide)), ld, nI_clamp (by omega), nI_1]
    rfl
  | succ d ih =>
    intro v fu hd hf
    obtain ⟨fu, rfl⟩ : ∃ k, fu = k + 1 := ⟨fu - 1, by omega⟩
    have h1 := wd_lo x hx v (by omega)
    have hb := wd_b x hx v (by omega)
    show b_Md_spread_139 L2 k65 (f_Md_spread_139 L2 k65 fu) 0 (nI k) (nI s) (nI x) (nI v) F = _
    unfold b_Md_spread_139
    rw [jshl_n (by omega) (by omega), show (16 : Int32) = nI 16 from rfl, if_neg (fun q => h1.1 ((nI_leI (by omega) (by omega)).mp q)), nI_1]
    exact ih (v + 1) fu (by omega) (by omega)
theorem sp96 {k s : Nat} (hk : k < 3) (hs : s < 16) {c : Nat → Nat} (h16 : (exl c 12).length = 16) {k65 : Nat → Int32 → Int32 → Mem → Option Mem} {F : Mem} (hp : PL F 10 (16 * k) (exl c 12)) (b x0 : Nat) (hb : b < 12) (hx : x0 ≤ 16) : ∀ (d t fu : Nat), d + t = s → d < fu →
    f_Md_spread_96 L2 k65 fu 0 (nI k) (nI s) (nI b) (nI (x0 + cnt (tcd c 12) t b)) (nI t) F = f_Md_spread_139 L2 k65 mFU 0 (nI k) (nI s) (nI (x0 + cnt (tcd c 12) s b)) 0 F := by
  have r23 : mRf L2 0 23 = 10 := rfl
  have g10 : mGl L2 10 = 48 := rfl
  intro d
  induction d with
  | zero =>
    intro t fu hd hf
    obtain ⟨fu, rfl⟩ : ∃ k, fu = k + 1 := ⟨fu - 1, by omega⟩
    obtain rfl : t = s := by omega
    show b_Md_spread_96 L2 k65 (f_Md_spread_96 L2 k65 fu) 0 (nI k) (nI t) (nI b) _ (nI t) F = _
    unfold b_Md_spread_96
    rw [if_pos (nI_le (Nat.le_refl _) (by omega))]
  | succ d ih =>
    intro t fu hd hf
    obtain ⟨fu, rfl⟩ : ∃ k, fu = k + 1 := ⟨fu - 1, by omega⟩
    have hcn := cnt_le (tcd c 12) b t
    have hcd := hp.get h16 (show t < 16 by omega)
    have ht := (tcd_lt h16 t).1
    have := ih (t + 1) fu (by omega) (by omega)
    rw [cnt_s] at this
    show b_Md_spread_96 L2 k65 (f_Md_spread_96 L2 k65 fu) 0 (nI k) (nI s) (nI b) _ (nI t) F = _
    unfold b_Md_spread_96 b_Md_spread_128
    have ga : mGa L2 F 10 (16 * k + t) = nI (tcd c 12 t) := by rw [← hcd]; exact if_pos (by decide)
    rw [if_neg (fun q => absurd ((nI_leI (by omega) (by omega)).mp q) (by omega)), k16, r23, g10, if_neg (inb_no (by omega) (by omega)), nI_clamp (by omega), ga, nI_1]
    by_cases q : tcd c 12 t = b
    · rw [if_pos q] at this
      rw [if_pos (by rw [q]), nI_1]
      exact this
    · rw [if_neg q] at this
      rw [if_neg (fun e => q (nI_inj (by omega) (by omega) e)), nI_1]
      exact this
/-- what the model's table k holds -/
def TM (G : Mem) (k : Nat) (c : Nat → Nat) : Prop := ∀ s, s < 16 → G 10 (16 * k + s) = nI (tcd c 12 s) ∧ G 11 (16 * k + s) = nI (wd (tx c 12 s)) ∧ G 12 (16 * k + s) = bs (tx c 12 s)
theorem sp65 {k : Nat} (hk : k < 3) {c : Nat → Nat} (h16 : (exl c 12).length = 16) (hc : ∀ k, k < 12 → c k ≤ 16) : ∀ (d s : Nat) (F : Mem) (fu : Nat), d + s = 16 → d < fu → PL F 10 (16 * k) (exl c 12) → (∀ k, k < 12 → F 13 k = nI (c k)) →
    ∃ G, f_Md_spread_65 L2 fu 0 (nI k) (nI s) F = some G ∧ (∀ t, s ≤ t → t < 16 → G 11 (16 * k + t) = nI (wd (tx c 12 t)) ∧ G 12 (16 * k + t) = bs (tx c 12 t)) ∧ (∀ t, t < s → G 11 (16 * k + t) = F 11 (16 * k + t) ∧ G 12 (16 * k + t) = F 12 (16 * k + t)) ∧ (∀ q, q ≠ 11 → q ≠ 12 → G q = F q) ∧ In (16 * k) 11 F G ∧ In (16 * k) 12 F G := by
  have r23 : mRf L2 0 23 = 10 := rfl
  have r26 : mRf L2 0 26 = 13 := rfl
  have g10 : mGl L2 10 = 48 := rfl
  have g13 : mGl L2 13 = 12 := rfl
  intro d
  induction d with
  | zero =>
    intro s F fu hd hf hp hg
    obtain ⟨fu, rfl⟩ : ∃ k, fu = k + 1 := ⟨fu - 1, by omega⟩
    refine ⟨F, ?_, fun t h1 h2 => absurd h2 (by omega), fun _ _ => ⟨rfl, rfl⟩, fun _ _ _ => rfl, In.rf, In.rf⟩
    show b_Md_spread_65 L2 (f_Md_spread_65 L2 fu) 0 (nI k) (nI s) F = _
    unfold b_Md_spread_65
    rw [show (16 : Int32) = nI 16 from rfl, if_pos (nI_le (by omega) (by omega))]
  | succ d ih =>
    intro s F fu hd hf hp hg
    obtain ⟨fu, rfl⟩ : ∃ k, fu = k + 1 := ⟨fu - 1, by omega⟩
    have hs : s < 16 := by omega
    have hcd := hp.get h16 hs
    obtain ⟨t1, t2⟩ := tcd_lt h16 s
    have hcc := hc _ t1
    have hcn := cnt_le (tcd c 12) (tcd c 12 s) s
    have htx : tx c 12 s < 32 := by unfold tx; omega
    have ht0 : 0 < tx c 12 s := by unfold tx; omega
    obtain ⟨G, e, k1, k2, k3, k4, k5⟩ := ih (s + 1) (u2 (u2 F 11 (16 * k + s) (nI (wd (tx c 12 s)))) 12 (16 * k + s) (bs (tx c 12 s))) fu (by omega) (by omega)
      (hp.fr (by rw [u2_ne (by decide), u2_ne (by decide)])) (fun q hq => by rw [u2_c (by decide), u2_c (by decide)]; exact hg q hq)
    refine ⟨G, ?_, fun t h1 h2 => ?_, fun t ht => ?_, fun q q1 q2 => (k3 q q1 q2).trans (by rw [u2_ne q2, u2_ne q1]), fun j hj => (k4 j hj).trans (by rw [u2_c (by decide)]; exact In.u hs j hj), fun j hj => (k5 j hj).trans ((In.u hs j hj).trans (u2_c (by decide)))⟩
    · show b_Md_spread_65 L2 (f_Md_spread_65 L2 fu) 0 (nI k) (nI s) F = _
      unfold b_Md_spread_65
      have ga : mGa L2 F 10 (nI (16 * k + s)).toNatClampNeg = nI (tcd c 12 s) := by rw [nI_clamp (by omega), ← hcd]; exact if_pos (by decide)
      have gb : mGa L2 F 13 (nI (tcd c 12 s)).toNatClampNeg = nI (c (tcd c 12 s)) := by rw [nI_clamp (by omega), ← hg _ t1]; exact if_pos (by decide)
      rw [k16, r23, r26, g10, g13, ga, gb, show (16 : Int32) = nI 16 from rfl, if_neg (fun q => absurd ((nI_leI (by omega) (by omega)).mp q) (by omega)), if_neg (inb_no (by omega) (by omega)), if_neg (inb_no (by omega) (by omega))]
      have e1 := sp96 hk hs h16 (k65 := f_Md_spread_65 L2 fu) hp (tcd c 12 s) (c (tcd c 12 s)) t1 hcc s 0 mFU (by omega) (by unfold mFU; omega)
      have e2 := sp139 hk hs htx ht0 (k65 := f_Md_spread_65 L2 fu) F (wd (tx c 12 s)) 0 mFU (by omega) (by have := wd_le (tx c 12 s); unfold mFU; omega)
      exact (e1.trans e2).trans e
    · rcases Nat.eq_or_lt_of_le h1 with rfl | h1
      · rw [(k2 s (by omega)).1, (k2 s (by omega)).2, u2_c (by decide), u2_s, u2_s]
        exact ⟨rfl, rfl⟩
      · exact k1 t (by omega) h2
    · rw [(k2 t (by omega)).1, (k2 t (by omega)).2, u2_c (by decide), u2_p (by omega), u2_p (by omega), u2_c (by decide)]
      exact ⟨rfl, rfl⟩
theorem md_spread {F : Mem} {k : Nat} (hk : k < 3) (c : Nat → Nat) (h16 : (exl c 12).length = 16) (hc : ∀ k, k < 12 → c k ≤ 16) (hg : ∀ k, k < 12 → F 13 k = nI (c k)) : ∃ G, f_Md_spread L2 0 (nI k) F = some G ∧ TM G k c ∧ G 9 k = 0 ∧ (∀ j, j ≠ k → G 9 j = F 9 j) ∧ (∀ q, q ≠ 9 → q ≠ 10 → q ≠ 11 → q ≠ 12 → G q = F q) ∧ In (16 * k) 10 F G ∧ In (16 * k) 11 F G ∧ In (16 * k) 12 F G := by
  have r22 : mRf L2 0 22 = 9 := rfl
  have l9 : mLn L2 9 = 3 := rfl
  obtain ⟨G1, g0, g1, g2, g3⟩ := sp11 hk (c := c) (by omega) 12 0 (u2 F 9 k 0) mFU (by omega) (by unfold mFU; omega) (fun q hq => by rw [u2_c (by decide)]; exact hg q hq) (fun t ht => absurd ht (by simp [exl]))
  obtain ⟨G2, h0, h1, h2, h3, h4, h5⟩ := sp65 hk h16 hc 16 0 G1 mFU (by omega) (by unfold mFU; omega) g1 (fun q hq => by rw [g2 13 (by decide), u2_c (by decide)]; exact hg q hq)
  refine ⟨G2, ?_, fun s hs => ⟨by rw [h3 10 (by decide) (by decide)]; exact g1.get h16 hs, h1 s (by omega) hs⟩, ?_, fun j hj => ?_, fun q q1 q2 q3 q4 => ?_, fun j hj => ?_, fun j hj => ?_, fun j hj => ?_⟩
  · unfold f_Md_spread
    rw [r22, l9, if_neg (fun q => q.elim (inb_no hk (by omega)) (fun q => q zb0)), ld, nI_clamp (by omega)]
    exact g0.trans h0
  · rw [h3 9 (by decide) (by decide), g2 9 (by decide), u2_s]
  · rw [h3 9 (by decide) (by decide), g2 9 (by decide), u2_p hj]
  · rw [h3 q q3 q4, g2 q q2, u2_ne q1]
  · rw [h3 10 (by decide) (by decide), g3 j hj, u2_c (by decide)]
  · rw [h4 j hj, g2 11 (by decide), u2_c (by decide)]
  · rw [h5 j hj, g2 12 (by decide), u2_c (by decide)]
