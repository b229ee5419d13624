/-! pure: tables of sixteen states -/
def exl (c : Nat → Nat) : Nat → List Nat
  | 0 => []
  | n + 1 => exl c n ++ List.replicate (c n) n
def cnt (cd : Nat → Nat) : Nat → Nat → Nat
  | 0, _ => 0
  | s + 1, k => cnt cd s k + if cd s = k then 1 else 0
theorem cnt_s (cd : Nat → Nat) (s k : Nat) : cnt cd (s + 1) k = cnt cd s k + if cd s = k then 1 else 0 := rfl
theorem cnt_le (cd : Nat → Nat) (k : Nat) : ∀ s, cnt cd s k ≤ s
  | 0 => Nat.le_refl 0
  | s + 1 => by
    have := cnt_le cd k s
    unfold cnt
    split <;> omega
/-- the code of state s; its number x, the width and the base of it -/
def tcd (c : Nat → Nat) (n s : Nat) : Nat := (exl c n).getD ((5 * s) % 16) 0
def tx (c : Nat → Nat) (n s : Nat) : Nat := c (tcd c n s) + cnt (tcd c n) s (tcd c n s)
def wd (x : Nat) : Nat := if 16 ≤ x then 0 else if 8 ≤ x then 1 else if 4 ≤ x then 2 else if 2 ≤ x then 3 else 4
theorem wd_le (x : Nat) : wd x ≤ 4 := by unfold wd; split <;> (try split) <;> (try split) <;> (try split) <;> omega
theorem exl_len_mono (c : Nat → Nat) {m n : Nat} (h : m ≤ n) : (exl c m).length ≤ (exl c n).length := by
  induction n with
  | zero => rw [show m = 0 by omega]; exact Nat.le_refl _
  | succ n ih =>
    rcases Nat.eq_or_lt_of_le h with rfl | h
    · exact Nat.le_refl _
    · have := ih (by omega)
      simp only [exl, List.length_append, List.length_replicate]
      omega
theorem exl_lt (c : Nat → Nat) (n : Nat) : ∀ k ∈ exl c n, k < n ∧ 0 < c k := by
  induction n with
  | zero => intro k hk; cases hk
  | succ n ih =>
    intro k hk
    rcases List.mem_append.mp hk with hk | hk
    · have := ih k hk; omega
    · have := List.mem_replicate.mp hk
      obtain ⟨h1, rfl⟩ := this
      omega
theorem tcd_lt {c : Nat → Nat} {n : Nat} (hl : (exl c n).length = 16) (s : Nat) : tcd c n s < n ∧ 0 < c (tcd c n s) := exl_lt c n _ (getD_mem (by omega))
/-- xs stands in cell a, each thirteen places behind the one ahead of it -/
def PL (F : Mem) (a : Nat) (o : Nat) (xs : List Nat) : Prop := ∀ t, t < xs.length → F a (o + (13 * t) % 16) = nI (xs.getD t 0)
theorem p13 : ∀ a, a < 16 → ∀ b, b < 16 → (13 * a) % 16 = (13 * b) % 16 → a = b := by decide
theorem p5 : ∀ s, s < 16 → (13 * ((5 * s) % 16)) % 16 = s := by decide
theorem PL.push {F : Mem} {a o : Nat} {xs : List Nat} (h : PL F a o xs) (hl : xs.length < 16) (v : Nat) : PL (u2 F a (o + (13 * xs.length) % 16) (nI v)) a o (xs ++ [v]) := by
  intro t ht
  by_cases e : t = xs.length
  · subst e
    rw [u2_s]; simp
  · have h6 : t < xs.length := by simp at ht; omega
    rw [u2_p (fun q => e (p13 t (by omega) xs.length hl (by omega))), h t h6]
    simp [List.getD_eq_getElem?_getD, List.getElem?_append_left h6]
theorem PL.fr {F G : Mem} {a o : Nat} {xs : List Nat} (h : PL F a o xs) (e : G a = F a) : PL G a o xs := fun t ht => by rw [e]; exact h t ht
theorem PL.get {F : Mem} {a o : Nat} {c : Nat → Nat} {n : Nat} (h : PL F a o (exl c n)) (hl : (exl c n).length = 16) {s : Nat} (hs : s < 16) : F a (o + s) = nI (tcd c n s) := by
  have := h ((5 * s) % 16) (by omega)
  rw [p5 s hs] at this
  exact this
theorem ga_eq {L : La} {F G : Mem} {i k : Nat} (h : G i = F i) : mGa L G i k = mGa L F i k := by unfold mGa; rw [h]
/-- table i0 with its four arrays; its counts come from i1, n of them -/
def SK (L : La) (i0 i1 n a1 a2 a3 a4 : Nat) : Prop := (mRf L i0 1 = a1 ∧ mRf L i0 2 = a2 ∧ mRf L i0 3 = a3 ∧ mRf L i0 4 = a4) ∧ (a1 < mNc L ∧ a2 < mNc L ∧ a3 < mNc L ∧ a4 < mNc L) ∧ (mLn L a1 = 16 ∧ mLn L a2 = 16 ∧ mLn L a3 = 16 ∧ n ≤ mLn L a4 ∧ n ≤ mGl L i1 ∧ mLn L a4 < 2 ^ 20 ∧ mGl L i1 < 2 ^ 20) ∧
  (a1 ≠ a2 ∧ a1 ≠ a3 ∧ a1 ≠ a4 ∧ a2 ≠ a3 ∧ a2 ≠ a4 ∧ a3 ≠ a4 ∧ i0 ≠ a1 ∧ i0 ≠ a2 ∧ i0 ≠ a3 ∧ i0 ≠ a4) ∧ (i1 ≠ i0 ∧ i1 ≠ a1 ∧ i1 ≠ a2 ∧ i1 ≠ a3 ∧ i1 ≠ a4)
theorem in_l {n : Nat} {N m : Nat} (h : n < N) (hN : N < 2 ^ 20) (hm : m < 2 ^ 31) {p : Prop} (hp : p) : ¬ (inb (nI n) N ∨ ¬ p) := fun q => q.elim (inb_no h (by omega)) (fun q => q hp)
theorem kc30 {L : La} {i0 i1 n a1 a2 a3 a4 : Nat} (S : SK L i0 i1 n a1 a2 a3 a4) {c : Nat → Nat} {k10 : Nat → Nat → Int32 → Int32 → Int32 → Mem → Option Mem} {x2 : Int32} {m : Nat} (hm : m < n) (h16 : (exl c (m + 1)).length ≤ 16) : ∀ (d j : Nat) (F : Mem) (fu : Nat), d + j = c m → d < fu → mGa L F i1 m = nI (c m) → PL F a1 0 (exl c m ++ List.replicate j m) →
    ∃ G, f_ST_keepCounts_30 L k10 fu i0 i1 x2 (nI ((13 * ((exl c m).length + j)) % 16)) (nI m) (nI j) F = k10 i0 i1 x2 (nI ((13 * (exl c (m + 1)).length) % 16)) (nI (m + 1)) G ∧ PL G a1 0 (exl c (m + 1)) ∧ ∀ k, k ≠ a1 → G k = F k := by
  obtain ⟨⟨r1, r2, r3, r4⟩, ⟨n1, n2, n3, n4⟩, ⟨l1, l2, l3, l4, l5, l6, l7⟩, ⟨d1, d2, d3, d4, d5, d6, d7, d8, d9, d10⟩, ⟨e1, e2, e3, e4, e5⟩⟩ := S
  have h16' : (exl c m).length + c m ≤ 16 := by simpa [exl] using h16
  intro d
  induction d with
  | zero =>
    intro j F fu hd hf hg hp
    obtain ⟨fu, rfl⟩ : ∃ k, fu = k + 1 := ⟨fu - 1, by omega⟩
    have ej : j = c m := by omega
    subst ej
    refine ⟨F, ?_, hp, fun _ _ => rfl⟩
    show b_ST_keepCounts_30 L k10 (f_ST_keepCounts_30 L k10 fu) i0 i1 x2 _ (nI m) (nI (c m)) F = _
    unfold b_ST_keepCounts_30
    rw [if_neg (inb_no (by omega) (by omega)), nI_clamp (by omega), hg, if_pos (nI_le (Nat.le_refl _) (by omega)), nI_1]
    simp [exl]
  | succ d ih =>
    intro j F fu hd hf hg hp
    obtain ⟨fu, rfl⟩ : ∃ k, fu = k + 1 := ⟨fu - 1, by omega⟩
    have hlen : (exl c m ++ List.replicate j m).length = (exl c m).length + j := by simp
    have hp2 := hp.push (by omega) m
    rw [hlen] at hp2
    obtain ⟨G, e, g1, g2⟩ := ih (j + 1) (u2 F a1 ((13 * ((exl c m).length + j)) % 16) (nI m)) fu (by omega) (by omega) (by rw [ga_eq (u2_ne e2)]; exact hg) (by
      rw [Nat.zero_add] at hp2
      rw [List.replicate_succ', ← List.append_assoc]
      exact hp2)
    refine ⟨G, ?_, g1, fun k hk => (g2 k hk).trans (u2_ne hk)⟩
    show b_ST_keepCounts_30 L k10 (f_ST_keepCounts_30 L k10 fu) i0 i1 x2 _ (nI m) (nI j) F = _
    unfold b_ST_keepCounts_30
    rw [if_neg (inb_no (by omega) (by omega)), nI_clamp (show m < 2 ^ 31 by omega), hg, if_neg (fun q => absurd ((nI_leI (by omega) (by omega)).mp q) (by omega)), r1, l1, if_neg (in_l (m := 0) (by omega) (by omega) (by omega) n1), ld, nI_clamp (by omega), nI_1, show (13 : Int32) = nI 13 from rfl, nI_add, pk_andN (by omega) 4 rfl, ← e]
    congr 2
    omega
theorem kc10 {L : La} {i0 i1 n a1 a2 a3 a4 : Nat} (S : SK L i0 i1 n a1 a2 a3 a4) {c : Nat → Nat} (h16 : (exl c n).length ≤ 16) : ∀ (d m : Nat) (F : Mem) (fu : Nat), d + m = n → d < fu → (∀ k, k < n → mGa L F i1 k = nI (c k)) → PL F a1 0 (exl c m) → (∀ k, k < m → F a4 k = nI (c k)) →
    ∃ G, f_ST_keepCounts_10 L fu i0 i1 (nI n) (nI ((13 * (exl c m).length) % 16)) (nI m) F = f_ST_keepCounts_70 L mFU i0 0 G ∧ PL G a1 0 (exl c n) ∧ (∀ k, k < n → G a4 k = nI (c k)) ∧ ∀ k, k ≠ a1 → k ≠ a4 → G k = F k := by
  obtain ⟨⟨r1, r2, r3, r4⟩, ⟨n1, n2, n3, n4⟩, ⟨l1, l2, l3, l4, l5, l6, l7⟩, ⟨d1, d2, d3, d4, d5, d6, d7, d8, d9, d10⟩, ⟨e1, e2, e3, e4, e5⟩⟩ := id S
  intro d
  induction d with
  | zero =>
    intro m F fu hd hf hg hp hx
    obtain ⟨fu, rfl⟩ : ∃ k, fu = k + 1 := ⟨fu - 1, by omega⟩
    obtain rfl : m = n := by omega
    refine ⟨F, ?_, hp, hx, fun _ _ _ => rfl⟩
    show b_ST_keepCounts_10 L (f_ST_keepCounts_10 L fu) i0 i1 (nI m) _ (nI m) F = _
    unfold b_ST_keepCounts_10
    rw [if_pos (nI_le (Nat.le_refl _) (by omega))]
  | succ d ih =>
    intro m F fu hd hf hg hp hx
    obtain ⟨fu, rfl⟩ : ∃ k, fu = k + 1 := ⟨fu - 1, by omega⟩
    have hm : m < n := by omega
    have h16m : (exl c (m + 1)).length ≤ 16 := Nat.le_trans (exl_len_mono c (by omega)) h16
    have hcm : c m ≤ 16 := by simp [exl] at h16m; omega
    obtain ⟨G1, e, g1, g2⟩ := kc30 S (k10 := f_ST_keepCounts_10 L fu) (x2 := nI n) hm h16m (c m) 0 (u2 F a4 m (nI (c m))) mFU (by omega) (by unfold mFU; omega) (by rw [ga_eq (u2_ne e5)]; exact hg m hm) (by simpa using hp.fr (u2_ne d3))
    obtain ⟨G2, f, k1, k2, k3⟩ := ih (m + 1) G1 fu (by omega) (by omega) (fun k hk => by rw [ga_eq (g2 i1 e2), ga_eq (u2_ne e5)]; exact hg k hk) g1 (fun k hk => by
      rw [g2 a4 d3.symm]
      by_cases q : k = m
      · subst q
        rw [u2_s]
      · rw [u2_p q]; exact hx k (by omega))
    refine ⟨G2, ?_, k1, k2, fun k q1 q2 => (k3 k q1 q2).trans ((g2 k q1).trans (u2_ne q2))⟩
    show b_ST_keepCounts_10 L (f_ST_keepCounts_10 L fu) i0 i1 (nI n) _ (nI m) F = _
    unfold b_ST_keepCounts_10
    rw [if_neg (fun q => absurd ((nI_leI (by omega) (by omega)).mp q) (by omega)), if_neg (inb_no (by omega) (by omega)), r4, if_neg (in_l (m := 0) (by omega) l6 (by omega) n4), ld, nI_clamp (by omega), hg m hm, ← f]
    rw [Nat.add_zero] at e
    exact e
theorem wd_lo : ∀ x, x < 32 → ∀ v, v < wd x → ¬ (16 ≤ x * 2 ^ v) ∧ v < 4 := by decide
theorem wd_hi : ∀ x, x < 32 → 4 ≤ wd x ∨ 16 ≤ x * 2 ^ wd x := by decide
theorem wd_b : ∀ x, x < 32 → ∀ v, v ≤ wd x → x * 2 ^ v < 64 := by decide
theorem wd_c : ∀ x, x < 32 → 0 < x → 16 ≤ x * 2 ^ wd x ∧ x * 2 ^ wd x - 16 + 2 ^ wd x ≤ 16 := by decide
theorem kc110 {L : La} {k70 : Nat → Int32 → Mem → Option Mem} {i0 : Nat} {x4 : Int32} {x : Nat} (hx : x < 32) (F : Mem) : ∀ (d v fu : Nat), d + v = wd x → d < fu → f_ST_keepCounts_110 L k70 fu i0 x4 (nI x) (nI v) F = b_ST_keepCounts_132 L k70 i0 x4 (nI x) (nI (wd x)) F := by
  have hw := wd_le x
  intro d
  induction d with
  | zero =>
    intro v fu hd hf
    obtain ⟨fu, rfl⟩ : ∃ k, fu = k + 1 := ⟨fu - 1, by omega⟩
    obtain rfl : v = wd x := by omega
    show b_ST_keepCounts_110 L k70 (f_ST_keepCounts_110 L k70 fu) i0 x4 (nI x) (nI (wd x)) F = _
    unfold b_ST_keepCounts_110
    have hb := wd_b x hx (wd x) (Nat.le_refl _)
    rw [show (4 : Int32) = nI 4 from rfl, show (16 : Int32) = nI 16 from rfl]
    by_cases h4 : 4 ≤ wd x
    · rw [if_pos (nI_le h4 (by omega))]
    · rw [if_neg (fun q => h4 ((nI_leI (by omega) (by omega)).mp q)), jshl_n (by omega) (by omega), if_pos (nI_le ((wd_hi x hx).resolve_left h4) (by omega))]
  | succ d ih =>
    intro v fu hd hf
    obtain ⟨fu, rfl⟩ : ∃ k, fu = k + 1 := ⟨fu - 1, by omega⟩
    have h1 := wd_lo x hx v (by omega)
    have hb := wd_b x hx v (by omega)
    show b_ST_keepCounts_110 L k70 (f_ST_keepCounts_110 L k70 fu) i0 x4 (nI x) (nI v) F = _
    unfold b_ST_keepCounts_110
    rw [show (4 : Int32) = nI 4 from rfl, show (16 : Int32) = nI 16 from rfl, if_neg (fun q => absurd ((nI_leI (by omega) (by omega)).mp q) (by omega)), jshl_n (by omega) (by omega), if_neg (fun q => h1.1 ((nI_leI (by omega) (by omega)).mp q)), nI_1]
    exact ih (v + 1) fu (by omega) (by omega)
def bs (x : Nat) : Int32 := nI (x * 2 ^ wd x) - 16
theorem kc70 {L : La} {i0 i1 n a1 a2 a3 a4 : Nat} (S : SK L i0 i1 n a1 a2 a3 a4) {c : Nat → Nat} (h16 : (exl c n).length = 16) (hc : ∀ k, k < n → c k ≤ 16) : ∀ (d s : Nat) (F : Mem) (fu : Nat), d + s = 16 → d < fu → PL F a1 0 (exl c n) → (∀ k, k < n → F a4 k = nI (c k + cnt (tcd c n) s k)) →
    ∃ G, f_ST_keepCounts_70 L fu i0 (nI s) F = some G ∧ (∀ t, s ≤ t → t < 16 → G a2 t = nI (wd (tx c n t)) ∧ G a3 t = bs (tx c n t)) ∧ (∀ t, t < s → G a2 t = F a2 t ∧ G a3 t = F a3 t) ∧ ∀ k, k ≠ a2 → k ≠ a3 → k ≠ a4 → G k = F k := by
  obtain ⟨⟨r1, r2, r3, r4⟩, ⟨n1, n2, n3, n4⟩, ⟨l1, l2, l3, l4, l5, l6, l7⟩, ⟨d1, d2, d3, d4, d5, d6, d7, d8, d9, d10⟩, ⟨e1, e2, e3, e4, e5⟩⟩ := id S
  intro d
  induction d with
  | zero =>
    intro s F fu hd hf hp hx
    obtain ⟨fu, rfl⟩ : ∃ k, fu = k + 1 := ⟨fu - 1, by omega⟩
    refine ⟨F, ?_, fun t h1 h2 => absurd h2 (by omega), fun _ _ => ⟨rfl, rfl⟩, fun _ _ _ _ => rfl⟩
    show b_ST_keepCounts_70 L (f_ST_keepCounts_70 L fu) i0 (nI s) F = _
    unfold b_ST_keepCounts_70
    rw [show (16 : Int32) = nI 16 from rfl, if_pos (nI_le (by omega) (by omega))]
  | succ d ih =>
    intro s F fu hd hf hp hx
    obtain ⟨fu, rfl⟩ : ∃ k, fu = k + 1 := ⟨fu - 1, by omega⟩
    have hs : s < 16 := by omega
    have hcd := hp.get h16 hs
    rw [Nat.zero_add] at hcd
    obtain ⟨t1, t2⟩ := tcd_lt h16 s
    have hcc := hc _ t1
    have hcn := cnt_le (tcd c n) (tcd c n s) s
    have htx : tx c n s < 32 := by unfold tx; omega
    have hX : F a4 (tcd c n s) = nI (tx c n s) := hx _ t1
    have q1 : mGa L F a1 (nI s).toNatClampNeg = nI (tcd c n s) := by rw [nI_clamp (by omega), mGa, if_pos n1]; exact hcd
    have q4 : mGa L F a4 (nI (tcd c n s)).toNatClampNeg = nI (tx c n s) := by rw [nI_clamp (by omega), mGa, if_pos n4]; exact hX
    have g1 : mGl L a1 = 16 := by rw [mGl, if_pos n1]; exact l1
    have g4 : mGl L a4 = mLn L a4 := by rw [mGl, if_pos n4]
    have F1a : u2 F a4 (tcd c n s) (nI (tx c n s + 1)) = u2 F a4 (tcd c n s) (nI (tx c n s + 1)) := rfl
    obtain ⟨G, e, k1, k2, k3⟩ := ih (s + 1) (u2 (u2 (u2 F a4 (tcd c n s) (nI (tx c n s + 1))) a2 s (nI (wd (tx c n s)))) a3 s (bs (tx c n s))) fu (by omega) (by omega)
      (hp.fr (by rw [u2_ne d2, u2_ne d1, u2_ne d3])) (fun k hk => by
        rw [u2_c d6.symm, u2_c d5.symm]
        by_cases q : k = tcd c n s
        · subst q
          rw [u2_s]
          rw [cnt_s, if_pos rfl]
          rfl
        · rw [u2_p q, hx k hk]
          rw [cnt_s, if_neg (fun e => q e.symm)]
          rfl)
    refine ⟨G, ?_, fun t h1 h2 => ?_, fun t ht => ?_, fun k q2 q3 q4 => (k3 k q2 q3 q4).trans (by rw [u2_ne q3, u2_ne q2, u2_ne q4])⟩
    · show b_ST_keepCounts_70 L (f_ST_keepCounts_70 L fu) i0 (nI s) F = _
      unfold b_ST_keepCounts_70
      have hi : ¬ inb (nI s) 16 := inb_no hs (by omega)
      have hi4 : ¬ inb (nI (tcd c n s)) (mLn L a4) := inb_no (by omega) (by omega)
      rw [r1, r4, g1, g4, q1, q4]
      rw [show (16 : Int32) = nI 16 from rfl, if_neg (fun q => absurd ((nI_leI (by omega) (by omega)).mp q) (by omega)), if_neg hi, if_neg hi4, if_neg hi, if_neg hi4, if_neg (fun q => q.elim hi4 (fun q => q n4)), ld, nI_1, nI_clamp (show tcd c n s < 2 ^ 31 by omega), show (0 : Int32) = nI 0 from rfl, kc110 htx _ (wd (tx c n s)) 0 mFU (by omega) (by have := wd_le (tx c n s); unfold mFU; omega)]
      have hb := wd_b _ htx (wd (tx c n s)) (Nat.le_refl _)
      have hw := wd_le (tx c n s)
      unfold b_ST_keepCounts_132
      rw [r2, r3, l2, l3, if_neg (fun q => q.elim hi (fun q => q n2)), ld, if_neg (fun q => q.elim hi (fun q => q n3)), ld, nI_clamp (show s < 2 ^ 31 by omega), jshl_n (by omega) (by omega), nI_1]
      exact e
    · rcases Nat.eq_or_lt_of_le h1 with rfl | h1
      · rw [(k2 s (by omega)).1, (k2 s (by omega)).2, u2_c d4, u2_s, u2_s]
        exact ⟨rfl, rfl⟩
      · exact k1 t (by omega) h2
    · rw [(k2 t (by omega)).1, (k2 t (by omega)).2, u2_c d4, u2_p (by omega), u2_c d5, u2_p (by omega), u2_c d4.symm, u2_c d6]
      exact ⟨rfl, rfl⟩
/-- what a table holds -/
def TD (F : Mem) (i0 a1 a2 a3 : Nat) (c : Nat → Nat) (n : Nat) : Prop := F i0 5 = nI 4 ∧ ∀ s, s < 16 → F a1 s = nI (tcd c n s) ∧ F a2 s = nI (wd (tx c n s)) ∧ F a3 s = bs (tx c n s)
theorem st_keep {L : La} {F : Mem} {i0 i1 n a1 a2 a3 a4 : Nat} (S : SK L i0 i1 n a1 a2 a3 a4) (c : Nat → Nat) (h16 : (exl c n).length = 16) (hn : n ≤ 12) (hc : ∀ k, k < n → c k ≤ 16) (hg : ∀ k, k < n → mGa L F i1 k = nI (c k)) :
    ∃ G, f_ST_keepCounts L i0 i1 (nI n) F = some G ∧ TD G i0 a1 a2 a3 c n ∧ (∀ j, j ≠ 5 → G i0 j = F i0 j) ∧ ∀ k, k ≠ i0 → k ≠ a1 → k ≠ a2 → k ≠ a3 → k ≠ a4 → G k = F k := by
  obtain ⟨⟨r1, r2, r3, r4⟩, ⟨n1, n2, n3, n4⟩, ⟨l1, l2, l3, l4, l5, l6, l7⟩, ⟨d1, d2, d3, d4, d5, d6, d7, d8, d9, d10⟩, ⟨e1, e2, e3, e4, e5⟩⟩ := id S
  obtain ⟨G1, g0, g1, g2, g3⟩ := kc10 S (c := c) (by omega) n 0 (u2 F i0 5 (nI 4)) mFU (by omega) (by unfold mFU; omega) (fun k hk => by rw [ga_eq (u2_ne e1)]; exact hg k hk) (fun t ht => absurd ht (by simp [exl])) (fun k hk => absurd hk (by omega))
  obtain ⟨G2, h0, h1, h2, h3⟩ := kc70 S h16 hc 16 0 G1 mFU (by omega) (by unfold mFU; omega) g1 (fun k hk => by rw [g2 k hk]; rfl)
  refine ⟨G2, ?_, ⟨?_, fun s hs => ⟨?_, h1 s (by omega) hs⟩⟩, fun j hj => ?_, fun k k0 k1 k2 k3 k4 => ?_⟩
  · unfold f_ST_keepCounts
    rw [ld]
    exact g0.trans h0
  · rw [h3 i0 d8 d9 d10, g3 i0 d7 d10, u2_s]
  · rw [h3 a1 d1 d2 d3]
    have := g1.get h16 hs
    rwa [Nat.zero_add] at this
  · rw [h3 i0 d8 d9 d10, g3 i0 d7 d10, u2_p hj]
  · rw [h3 k k2 k3 k4, g3 k k1 k4, u2_ne k0]
