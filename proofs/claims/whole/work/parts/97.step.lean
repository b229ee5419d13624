/-! pure: one joining, both ways -/
theorem JR.pick {n : Nat} {tot : Nat → Nat} {T : Nat} {cnt par gr jn dp : Nat → Nat} (hn : n ≤ 16) (h : JR n tot T cnt par gr jn dp) {but : Option Nat} {c1 : Nat → Nat} (hc1 : ∀ i, i < 17 + T → (0 < c1 i ↔ 0 < cnt i ∧ ∀ x, but = some x → i ≠ nd jn x)) (hc2 : ∀ i, 0 < c1 i → c1 i = cnt i) (hb : ∀ x, but = some x → x ≤ n ∧ 0 < cO n tot gr x) (hex : ∃ g, g ≤ n ∧ but ≠ some g ∧ 0 < cO n tot gr g) :
    ∃ a, lgL (cO n tot gr) jn but (n + 1) = some a ∧ a ≤ n ∧ but ≠ some a ∧ 0 < cO n tot gr a ∧ gaL c1 (17 + T) = nd jn a ∧ c1 (nd jn a) = cO n tot gr a ∧ nd jn a < 17 + T := by
  obtain ⟨A, B, C, D, E, F, G', K, Z⟩ := h
  obtain ⟨l1, l2⟩ := lg_min (cO n tot gr) jn but (n + 1)
  obtain ⟨g0, hg0, hg1, hg2⟩ := hex
  cases e : lgL (cO n tot gr) jn but (n + 1) with
  | none => exact absurd hg2 (l2 e g0 (by omega) hg1)
  | some a =>
    obtain ⟨m1, m2, m3, m4⟩ := l1 a e
    obtain ⟨a1, a2, a3⟩ := A a (by omega) m3
    have ca : 0 < c1 (nd jn a) := (hc1 _ a2).mpr ⟨by omega, fun x hx q => m2 (by
      obtain ⟨x1, x2⟩ := hb x hx
      rw [hx, C a x (by omega) x1 m3 x2 q])⟩
    obtain ⟨-, k2, -⟩ := ga_min c1 (17 + T)
    obtain ⟨k3, k4, k5⟩ := k2 ⟨nd jn a, a2, ca⟩
    obtain ⟨k6, k7⟩ := (hc1 _ k3).mp k4
    obtain ⟨g, g1, g2, g3⟩ := B _ k3 k6
    have gb : but ≠ some g := fun q => k7 g q g3.symm
    have e1 := (A g g1 g2).1
    rw [g3] at e1
    have e2 := hc2 _ k4
    have e3 := hc2 _ ca
    have x1 := k5 (nd jn a) a2 ca
    have x2 := m4 g (by omega) gb g2
    have e4 : cO n tot gr a = cO n tot gr g := by omega
    have x3 : nd jn a ≤ nd jn g := nd_le (by omega) (by omega)
    have x4 : gaL c1 (17 + T) = nd jn a := by omega
    exact ⟨a, rfl, by omega, m2, m3, x4, by omega, a2⟩
theorem JR.step {n : Nat} {tot : Nat → Nat} {T : Nat} {cnt par gr jn dp : Nat → Nat} (hn : n ≤ 16) (h : JR n tot T cnt par gr jn dp) (h2 : 2 ≤ actN n tot gr) :
    ∃ a b, lgL (cO n tot gr) jn none (n + 1) = some a ∧ lgL (cO n tot gr) jn (some a) (n + 1) = some b ∧ (a ≤ n ∧ b ≤ n ∧ a ≠ b) ∧ (0 < cO n tot gr a ∧ 0 < cO n tot gr b) ∧ (gaL cnt (17 + T) = nd jn a ∧ gaL (updN cnt (nd jn a) 0) (17 + T) = nd jn b) ∧ (nd jn a < 17 + T ∧ nd jn b < 17 + T) ∧ (cnt (nd jn a) = cO n tot gr a ∧ updN cnt (nd jn a) 0 (nd jn b) = cO n tot gr b) ∧
      JR n tot (T + 1) (updN (updN (updN cnt (nd jn a) 0) (nd jn b) 0) (17 + T) (cO n tot gr a + cO n tot gr b)) (updN (updN par (nd jn a) (17 + T)) (nd jn b) (17 + T)) (grJ tot gr a b) (updN jn (min a b) (T + 1)) (dpJ tot gr dp a b) := by
  obtain ⟨g0, hg0, -, hg2⟩ := act_two h2 (n + 1)
  obtain ⟨a, ea, ha, -, ca, xa, va, na⟩ := h.pick hn (but := none) (c1 := cnt) (fun i _ => ⟨fun q => ⟨q, fun x hx => absurd hx (by simp)⟩, fun q => q.1⟩) (fun _ _ => rfl) (fun x hx => absurd hx (by simp)) ⟨g0, hg0, by simp, hg2⟩
  obtain ⟨g1, hg1, hg3, hg4⟩ := act_two h2 a
  obtain ⟨b, eb, hb, hba, cb, xb, vb, nb⟩ := h.pick hn (but := some a) (c1 := updN cnt (nd jn a) 0) (fun i _ => by
    by_cases e : i = nd jn a
    · rw [e, updN_s]
      exact ⟨fun q => absurd q (by omega), fun q => absurd rfl (q.2 a rfl)⟩
    · rw [updN_n e]
      exact ⟨fun q => ⟨q, fun x hx => by injection hx with hx; rw [← hx]; exact e⟩, fun q => q.1⟩) (fun i q => by
    by_cases e : i = nd jn a
    · rw [e, updN_s] at q
      omega
    · rw [updN_n e]) (fun x hx => by injection hx with hx; rw [← hx]; exact ⟨ha, ca⟩) ⟨g1, hg1, fun q => hg3 (by injection q with q; exact q.symm), hg4⟩
  have hab : a ≠ b := fun q => hba (by rw [q])
  obtain ⟨A, B, C, D, ⟨E1, E2⟩, F, G', K, Z⟩ := id h
  obtain ⟨j1, j2, j3⟩ := cO_join (n := n) (tot := tot) (gr := gr) hab
  have hm : (min a b = a ∧ max a b = b) ∨ (min a b = b ∧ max a b = a) := by omega
  have nab : nd jn a ≠ nd jn b := fun q => hab (C a b ha hb ca cb q)
  have pa0 : par (nd jn a) = 0 := E1 _ (by omega)
  have pb0 : par (nd jn b) = 0 := by
    refine E1 _ ?_
    rw [updN_n (fun q => nab q.symm)] at vb
    omega
  obtain ⟨x1, hx1⟩ : ∃ x, x = nd jn a := ⟨_, rfl⟩
  obtain ⟨x2, hx2⟩ : ∃ x, x = nd jn b := ⟨_, rfl⟩
  rw [← hx1] at xa va na nab pa0 xb vb
  rw [← hx2] at nb nab pb0 xb vb
  obtain ⟨N, hN⟩ : ∃ N, N = 17 + T := ⟨_, rfl⟩
  have pN : par N = 0 := by
    rcases Nat.eq_zero_or_pos (par N) with e | e
    · exact e
    · have := E2 N (by omega)
      omega
  -- the three groups that matter
  have act : ∀ g, g ≤ n → 0 < cO n tot (grJ tot gr a b) g → g = min a b ∨ (g ≠ a ∧ g ≠ b ∧ 0 < cO n tot gr g) := fun g hg hc => by
    by_cases e1 : g = min a b
    · exact Or.inl e1
    · by_cases e2 : g = max a b
      · rw [e2, j2] at hc
        omega
      · have : g ≠ a ∧ g ≠ b := by omega
        rw [j3 g this.1 this.2] at hc
        exact Or.inr ⟨this.1, this.2, hc⟩
  have ndn : ∀ g, g ≠ min a b → nd (updN jn (min a b) (T + 1)) g = nd jn g := fun g hg => by
    unfold nd
    rw [updN_n hg]
  have nd0 : nd (updN jn (min a b) (T + 1)) (min a b) = N := by
    unfold nd
    rw [updN_s, if_neg (by omega)]
    omega
  have pm : ∀ i, par i ≠ 0 → updN (updN par x1 N) x2 N i = par i := fun i hi => by
    rw [updN_n (fun e => hi (by rw [e]; exact pb0)), updN_n (fun e => hi (by rw [e]; exact pa0))]
  have p1 : updN (updN par x1 N) x2 N x1 = N := by rw [updN_n nab, updN_s]
  have p2 : updN (updN par x1 N) x2 N x2 = N := updN_s _ _ _
  have cn : ∀ i, i ≠ x1 → i ≠ x2 → i ≠ N → updN (updN (updN cnt x1 0) x2 0) N (cO n tot gr a + cO n tot gr b) i = cnt i := fun i h1 h2 h3 => by
    rw [updN_n h3, updN_n h2, updN_n h1]
  have c1' : updN (updN (updN cnt x1 0) x2 0) N (cO n tot gr a + cO n tot gr b) x1 = 0 := by rw [updN_n (by omega), updN_n nab, updN_s]
  have c2' : updN (updN (updN cnt x1 0) x2 0) N (cO n tot gr a + cO n tot gr b) x2 = 0 := by rw [updN_n (by omega), updN_s]
  have cN : updN (updN (updN cnt x1 0) x2 0) N (cO n tot gr a + cO n tot gr b) N = cO n tot gr a + cO n tot gr b := updN_s _ _ _
  refine ⟨a, b, ea, eb, ⟨ha, hb, hab⟩, ⟨ca, cb⟩, ⟨by rw [← hx1]; exact xa, by rw [← hx1, ← hx2]; exact xb⟩, ⟨by rw [← hx1]; exact na, by rw [← hx2]; exact nb⟩, ⟨by rw [← hx1]; exact va, by rw [← hx1, ← hx2]; exact vb⟩, ?_⟩
  rw [← hx1, ← hx2, ← hN]
  have mem : ∀ s, s ≤ n → 0 < tot s → (gr s = a ∨ gr s = b) → upP (updN (updN par x1 N) x2 N) (dp s + 1) s N := fun s hs ht hg => by
    have u := up_mono pm (D s hs ht).2
    rcases hg with e | e
    · rw [e, ← hx1] at u
      have := up_snoc u (by rw [p1]; omega)
      rw [p1] at this
      exact this
    · rw [e, ← hx2] at u
      have := up_snoc u (by rw [p2]; omega)
      rw [p2] at this
      exact this
  refine ⟨fun g hg hc => ?_, fun i hi hc => ?_, fun g g' hg hg' hc hc' he => ?_, fun s hs ht => ?_, ⟨fun i hc => ?_, fun i hp => ?_⟩, fun j hj1 hj2 => ?_, fun i hi hp => ?_, fun g hg hc M hM => ?_, fun i hi => ?_⟩
  · rcases act g hg hc with e | ⟨e1, e2, e3⟩
    · rw [e, nd0, cN, j1]
      refine ⟨rfl, by omega, ?_⟩
      rw [updN_s]
      exact Nat.le_refl _
    · obtain ⟨k1, k2, k3⟩ := A g hg e3
      rw [ndn g (by omega), j3 g e1 e2]
      have n1 : nd jn g ≠ x1 := fun q => e1 (C g a hg ha e3 ca (by rw [q, hx1]))
      have n2 : nd jn g ≠ x2 := fun q => e2 (C g b hg hb e3 cb (by rw [q, hx2]))
      rw [cn _ n1 n2 (by omega), updN_n (f := jn) (show g ≠ min a b by omega)]
      exact ⟨k1, by omega, by omega⟩
  · by_cases e1 : i = N
    · exact ⟨min a b, by omega, by rw [j1]; omega, by rw [nd0, e1]⟩
    · by_cases e2 : i = x1
      · rw [e2, c1'] at hc
        omega
      · by_cases e3 : i = x2
        · rw [e3, c2'] at hc
          omega
        · rw [cn i e2 e3 e1] at hc
          obtain ⟨g, k1, k2, k3⟩ := B i (by omega) hc
          have n1 : g ≠ a := fun q => e2 (by rw [← k3, q, hx1])
          have n2 : g ≠ b := fun q => e3 (by rw [← k3, q, hx2])
          exact ⟨g, k1, by rw [j3 g n1 n2]; exact k2, by rw [ndn g (by omega)]; exact k3⟩
  · rcases act g hg hc with e | ⟨e1, e2, e3⟩
    · rcases act g' hg' hc' with e' | ⟨e1', e2', e3'⟩
      · rw [e, e']
      · rw [e, nd0, ndn g' (by omega)] at he
        have := (A g' hg' e3').2.1
        omega
    · rcases act g' hg' hc' with e' | ⟨e1', e2', e3'⟩
      · rw [e', nd0, ndn g (by omega)] at he
        have := (A g hg e3).2.1
        omega
      · rw [ndn g (by omega), ndn g' (by omega)] at he
        exact C g g' hg hg' e3 e3' he
  · by_cases e : gr s = a ∨ gr s = b
    · rw [grJ_in ht e, dpJ_in ht e, nd0]
      exact ⟨by omega, mem s hs ht e⟩
    · rw [grJ_out (fun c => e c.2), dpJ_out (fun c => e c.2), ndn _ (by omega)]
      exact ⟨(D s hs ht).1, up_mono pm (D s hs ht).2⟩
  · by_cases e1 : i = N
    · rw [e1, updN_n (by omega), updN_n (by omega)]
      exact pN
    · by_cases e2 : i = x1
      · rw [e2, c1'] at hc
        omega
      · by_cases e3 : i = x2
        · rw [e3, c2'] at hc
          omega
        · rw [cn i e2 e3 e1] at hc
          rw [updN_n e3, updN_n e2]
          exact E1 i hc
  · by_cases e3 : i = x2
    · rw [e3, p2]
      omega
    · by_cases e2 : i = x1
      · rw [e2, p1]
        omega
      · rw [updN_n e3, updN_n e2] at hp ⊢
        have := E2 i hp
        omega
  · by_cases e1 : j = N
    · exact ⟨x1, by omega, by rw [p1, e1]⟩
    · obtain ⟨i, i1, i2⟩ := F j hj1 (by omega)
      exact ⟨i, i1, by rw [pm i (by omega)]; exact i2⟩
  · -- a leaf that was given away
    have leaf : ∀ c x, c ≤ n → 0 < cO n tot gr c → x = nd jn c → x < 17 → x ≤ n ∧ 0 < tot x := fun c x hc1 hc2 hx hl => by
      have jc : jn c = 0 := by
        rcases Nat.eq_zero_or_pos (jn c) with e | e
        · exact e
        · unfold nd at hx
          rw [if_neg (by omega)] at hx
          omega
      have xc : x = c := by
        rw [hx]
        unfold nd
        rw [if_pos jc]
      obtain ⟨s, s1, s2, s3⟩ := cO_mem hc2
      have u := (D s s1 s3).2
      rw [s2, ← hx] at u
      have k0 := up_ge (N := 17) (fun i hi => (E2 i hi).2.2) u hl
      rw [k0] at u
      have u' : s = x := u
      rw [← u']
      exact ⟨s1, s3⟩
    by_cases e3 : i = x2
    · rw [e3] at hi ⊢
      exact leaf b x2 hb cb hx2 hi
    · by_cases e2 : i = x1
      · rw [e2] at hi ⊢
        exact leaf a x1 ha ca hx1 hi
      · rw [updN_n e3, updN_n e2] at hp
        exact G' i hi hp
  · rcases act g hg hc with e | ⟨e1, e2, e3⟩
    · subst e
      obtain ⟨s, s1, s2, s3⟩ := cO_mem ca
      have hM1 : 1 ≤ M := by
        have := hM s s1 s3 (grJ_in s3 (Or.inl s2))
        rw [dpJ_in s3 (Or.inl s2)] at this
        omega
      have Ka := K a ha ca (M - 1) (fun s hs ht hg => by
        have := hM s hs ht (grJ_in ht (Or.inl hg))
        rw [dpJ_in ht (Or.inl hg)] at this
        omega)
      have Kb := K b hb cb (M - 1) (fun s hs ht hg => by
        have := hM s hs ht (grJ_in ht (Or.inr hg))
        rw [dpJ_in ht (Or.inr hg)] at this
        omega)
      have ee : sumh (fun s => if 0 < tot s ∧ grJ tot gr a b s = min a b then 2 ^ (M - dpJ tot gr dp a b s) else 0) (n + 1) = sumh (fun s => (if 0 < tot s ∧ gr s = a then 2 ^ (M - 1 - dp s) else 0) + (if 0 < tot s ∧ gr s = b then 2 ^ (M - 1 - dp s) else 0)) (n + 1) := sumh_cong _ (fun s _ => by
        by_cases t : 0 < tot s
        · by_cases q1 : gr s = a
          · rw [grJ_in t (Or.inl q1), dpJ_in t (Or.inl q1), if_pos (show 0 < tot s ∧ min a b = min a b from ⟨t, rfl⟩), if_pos (show 0 < tot s ∧ gr s = a from ⟨t, q1⟩), if_neg (show ¬ (0 < tot s ∧ gr s = b) by omega), show M - (dp s + 1) = M - 1 - dp s by omega]
            rfl
          · by_cases q2 : gr s = b
            · rw [grJ_in t (Or.inr q2), dpJ_in t (Or.inr q2), if_pos (show 0 < tot s ∧ min a b = min a b from ⟨t, rfl⟩), if_neg (show ¬ (0 < tot s ∧ gr s = a) by omega), if_pos (show 0 < tot s ∧ gr s = b from ⟨t, q2⟩), show M - (dp s + 1) = M - 1 - dp s by omega]
              omega
            · rw [grJ_out (fun c => c.2.elim q1 q2), if_neg (show ¬ (0 < tot s ∧ gr s = min a b) by omega), if_neg (show ¬ (0 < tot s ∧ gr s = a) by omega), if_neg (show ¬ (0 < tot s ∧ gr s = b) by omega)]
        · rw [if_neg (fun c => t c.1), if_neg (fun c => t c.1), if_neg (fun c => t c.1)])
      rw [ee, sumh_add, Ka, Kb, show M = (M - 1) + 1 by omega, Nat.pow_succ, Nat.add_sub_cancel]
      omega
    · have ee : sumh (fun s => if 0 < tot s ∧ grJ tot gr a b s = g then 2 ^ (M - dpJ tot gr dp a b s) else 0) (n + 1) = sumh (fun s => if 0 < tot s ∧ gr s = g then 2 ^ (M - dp s) else 0) (n + 1) := sumh_cong _ (fun s _ => by
        by_cases t : 0 < tot s
        · by_cases q1 : gr s = a ∨ gr s = b
          · rw [grJ_in t q1, if_neg (show ¬ (0 < tot s ∧ min a b = g) by omega), if_neg (show ¬ (0 < tot s ∧ gr s = g) by omega)]
          · rw [grJ_out (fun c => q1 c.2), dpJ_out (fun c => q1 c.2)]
        · rw [if_neg (fun c => t c.1), if_neg (fun c => t c.1)])
      rw [ee]
      refine K g hg e3 M (fun s hs ht hgs => ?_)
      have q1 : ¬ (gr s = a ∨ gr s = b) := by omega
      have := hM s hs ht (by rw [grJ_out (fun c => q1 c.2)]; exact hgs)
      rw [dpJ_out (fun c => q1 c.2)] at this
      exact this
  · rw [cn i (by omega) (by omega) (by omega)]
    exact Z i (by omega)
/-- before any joining -/
theorem JR.init {n : Nat} {tot cnt : Nat → Nat} (hn : n ≤ 16) (hc : ∀ i, i < 17 → cnt i = tot i) (hz : ∀ i, 17 ≤ i → cnt i = 0) (ht : ∀ i, n < i → i < 17 → tot i = 0) : JR n tot 0 cnt (fun _ => 0) (fun s => s) (fun _ => 0) (fun _ => 0) := by
  have e : ∀ g, g ≤ n → cO n tot (fun s => s) g = tot g := fun g hg => by
    unfold cO
    rw [sumh_ind (v := tot), if_pos (by omega)]
  have nd0 : ∀ g, nd (fun _ => 0) g = g := fun g => if_pos rfl
  refine ⟨fun g hg h => ?_, fun i hi h => ?_, fun g g' _ _ _ _ he => ?_, fun s hs _ => ⟨hs, by rw [nd0]; rfl⟩, ⟨fun _ _ => rfl, fun i hp => absurd rfl hp⟩, fun j h1 h2 => absurd h2 (by omega), fun i _ hp => absurd rfl hp, fun g hg h M _ => ?_, fun i hi => hz i (by omega)⟩
  · rw [nd0, hc g (by omega), e g hg]
    exact ⟨rfl, by omega, Nat.le_refl _⟩
  · have hin : i ≤ n := by
      by_cases q : i ≤ n
      · exact q
      · rw [hc i (by omega), ht i (by omega) (by omega)] at h
        omega
    refine ⟨i, hin, ?_, nd0 i⟩
    rw [e i hin, ← hc i (by omega)]
    exact h
  · rw [nd0, nd0] at he
    exact he
  · rw [e g hg] at h
    have : sumh (fun s => if 0 < tot s ∧ s = g then 2 ^ (M - 0) else 0) (n + 1) = sumh (fun s => if s = g then 2 ^ M else 0) (n + 1) := sumh_cong _ (fun s _ => by
      by_cases q : s = g
      · rw [if_pos ⟨by rw [q]; exact h, q⟩, if_pos q]
        rfl
      · rw [if_neg (fun c => q c.2), if_neg q])
    rw [this, sumh_ind (v := fun _ => 2 ^ M), if_pos (by omega)]
theorem act_init {n : Nat} {tot : Nat → Nat} : actN n tot (fun s => s) = sumh (fun g => if 0 < tot g then 1 else 0) (n + 1) := by
  unfold actN
  refine sumh_cong _ (fun g hg => ?_)
  have : cO n tot (fun s => s) g = tot g := by
    unfold cO
    rw [sumh_ind (v := tot), if_pos (by omega)]
  rw [this]
