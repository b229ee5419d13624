/-! pure: what the joinings come to -/
abbrev JS : Type := (Nat → Nat) × (Nat → Nat) × (Nat → Nat)
def jA (n : Nat) (tot : Nat → Nat) (x : JS) : Nat := (lgL (cO n tot x.1) x.2.1 none (n + 1)).getD 0
def jB (n : Nat) (tot : Nat → Nat) (x : JS) : Nat := (lgL (cO n tot x.1) x.2.1 (some (jA n tot x)) (n + 1)).getD 0
def jStep (n : Nat) (tot : Nat → Nat) (T : Nat) (x : JS) : JS := (grJ tot x.1 (jA n tot x) (jB n tot x), updN x.2.1 (min (jA n tot x) (jB n tot x)) (T + 1), dpJ tot x.1 x.2.2 (jA n tot x) (jB n tot x))
def jIt (n : Nat) (tot : Nat → Nat) : Nat → JS
  | 0 => (fun s => s, fun _ => 0, fun _ => 0)
  | T + 1 => jStep n tot T (jIt n tot T)
/-- how many symbols there are -/
def thr (n : Nat) (tot : Nat → Nat) : Nat := sumh (fun g => if 0 < tot g then 1 else 0) (n + 1)
/-- sizes, of use for the machine's numbers -/
theorem jIt_b {n : Nat} {tot : Nat → Nat} : ∀ T s, (jIt n tot T).2.1 s ≤ T ∧ (jIt n tot T).2.2 s ≤ T ∧ (tot s = 0 → (jIt n tot T).2.2 s = 0)
  | 0, s => ⟨Nat.le_refl _, Nat.le_refl _, fun _ => rfl⟩
  | T + 1, s => by
    obtain ⟨h1, h2, h3⟩ := jIt_b (n := n) (tot := tot) T s
    refine ⟨?_, ?_, fun h0 => ?_⟩
    · show updN _ _ _ s ≤ _
      unfold updN
      split <;> omega
    · show dpJ _ _ _ _ _ s ≤ _
      unfold dpJ
      split <;> omega
    · show dpJ _ _ _ _ _ s = 0
      rw [dpJ_out (fun c => by omega)]
      exact h3 h0
theorem jIt_gr {n : Nat} {tot : Nat → Nat} : ∀ T s, s ≤ n → (∀ k, k < T → jA n tot (jIt n tot k) ≤ n) → (jIt n tot T).1 s ≤ n
  | 0, s, hs, _ => hs
  | T + 1, s, hs, h => by
    have h1 := jIt_gr T s hs (fun k hk => h k (by omega))
    have h2 := h T (by omega)
    show grJ _ _ _ _ s ≤ n
    unfold grJ
    split
    · exact Nat.le_trans (Nat.min_le_left _ _) h2
    · exact h1
/-! the lengths that the class makes of the parents -/
def lnF (par : Nat → Nat) : Nat → Nat → Nat
  | 0, _ => 0
  | f + 1, i => if par i = 0 then 0 else lnF par f (par i) + 1
theorem ln_st {par : Nat → Nat} {N : Nat} (h : ∀ i, par i ≠ 0 → i < par i ∧ par i < N) : ∀ f i, N - i ≤ f → lnF par (f + 1) i = lnF par f i
  | 0, i, hi => by
    show (if par i = 0 then 0 else _) = 0
    by_cases q : par i = 0
    · rw [if_pos q]
    · have := h i q
      omega
  | f + 1, i, hi => by
    show (if par i = 0 then 0 else lnF par (f + 1) (par i) + 1) = (if par i = 0 then 0 else lnF par f (par i) + 1)
    by_cases q : par i = 0
    · rw [if_pos q, if_pos q]
    · have := h i q
      rw [if_neg q, if_neg q, ln_st h f (par i) (by omega)]
theorem ln_eq {par : Nat → Nat} {N : Nat} (hN : N ≤ 39) (h : ∀ i, par i ≠ 0 → i < par i ∧ par i < N) (i : Nat) : lnF par 40 i = if par i = 0 then 0 else lnF par 40 (par i) + 1 := by
  show (if par i = 0 then 0 else lnF par 39 (par i) + 1) = _
  by_cases q : par i = 0
  · rw [if_pos q, if_pos q]
  · rw [if_neg q, if_neg q, ln_st h 39 (par i) (by omega)]
theorem ln_up {par : Nat → Nat} {N : Nat} (hN : N ≤ 39) (h : ∀ i, par i ≠ 0 → i < par i ∧ par i < N) : ∀ {k i j}, upP par k i j → par j = 0 → lnF par 40 i = k
  | 0, i, j, u, hj => by
    have u' : i = j := u
    rw [ln_eq hN h, u', if_pos hj]
  | k + 1, i, j, u, hj => by
    rw [ln_eq hN h, if_neg u.1, ln_up hN h u.2 hj]
def mxU (f : Nat → Nat) : Nat → Nat
  | 0 => 0
  | n + 1 => max (mxU f n) (f n)
def mxD (f : Nat → Nat) : Nat → Nat → Nat
  | 0, _ => 0
  | d + 1, i => max (f i) (mxD f d (i + 1))
theorem mxU_ub {f : Nat → Nat} : ∀ {n i}, i < n → f i ≤ mxU f n
  | 0, i, h => absurd h (by omega)
  | n + 1, i, h => by
    show f i ≤ max (mxU f n) (f n)
    rcases Nat.lt_or_ge i n with q | q
    · have := mxU_ub (f := f) q
      omega
    · rw [show i = n by omega]
      omega
theorem mxU_lub {f : Nat → Nat} {m : Nat} : ∀ {n}, (∀ i, i < n → f i ≤ m) → mxU f n ≤ m
  | 0, _ => Nat.zero_le _
  | n + 1, h => by
    have h1 := mxU_lub (f := f) (m := m) (n := n) (fun i hi => h i (by omega))
    have h2 := h n (by omega)
    show max (mxU f n) (f n) ≤ m
    omega
theorem mxD_ub {f : Nat → Nat} : ∀ {d k i}, k ≤ i → i < k + d → f i ≤ mxD f d k
  | 0, k, i, h1, h2 => absurd h2 (by omega)
  | d + 1, k, i, h1, h2 => by
    show f i ≤ max (f k) (mxD f d (k + 1))
    rcases Nat.eq_or_lt_of_le h1 with q | q
    · rw [q]
      omega
    · have := mxD_ub (f := f) (d := d) (k := k + 1) (i := i) q (by omega)
      omega
theorem mxD_lub {f : Nat → Nat} {m : Nat} : ∀ {d k}, (∀ i, k ≤ i → i < k + d → f i ≤ m) → mxD f d k ≤ m
  | 0, k, _ => Nat.zero_le _
  | d + 1, k, h => by
    have h1 := mxD_lub (f := f) (m := m) (d := d) (k := k + 1) (fun i hi1 hi2 => h i (by omega) (by omega))
    have h2 := h k (by omega) (by omega)
    show max (f k) (mxD f d (k + 1)) ≤ m
    omega
/-- the depths at the end: of mo at most, and their cells fill 2 ^ mo -/
def JFin (n : Nat) (tot dp : Nat → Nat) (mo : Nat) : Prop := (∀ s, s ≤ n → 0 < tot s → 1 ≤ dp s ∧ dp s ≤ mo) ∧ sumh (fun s => if 0 < tot s then 2 ^ (mo - dp s) else 0) (n + 1) = 2 ^ mo
theorem JR.fin {n : Nat} {tot : Nat → Nat} {T : Nat} {cnt par gr jn dp : Nat → Nat} (hn : n ≤ 16) (hn1 : 1 ≤ n) (hT : T ≤ 20) (hT1 : 1 ≤ T) (h : JR n tot T cnt par gr jn dp) (h1 : actN n tot gr = 1) (t0 : 0 < tot 0) (tn : 0 < tot n) (hz : ∀ s, s ≤ n → tot s = 0 → dp s = 0) :
    (∀ i, i < 17 → lnF par 40 i = if i ≤ n then dp i else 0) ∧ mxD (lnF par 40) (16 + T) 0 = mxU dp (n + 1) ∧ JFin n tot dp (mxU dp (n + 1)) := by
  obtain ⟨A, B, C, D, ⟨E1, E2⟩, F, G', K, Z⟩ := h
  have one : ∀ g g', g ≤ n → g' ≤ n → 0 < cO n tot gr g → 0 < cO n tot gr g' → g = g' := fun g g' hg hg' hc hc' => by
    by_cases q : g = g'
    · exact q
    · have := act_join (tot := tot) (gr := gr) q hg hg' hc hc'
      obtain ⟨j1, j2, j3⟩ := cO_join (n := n) (tot := tot) (gr := gr) q
      have p : 0 < actN n tot (grJ tot gr g g') := by
        have := sumh_one (a := fun x => if 0 < cO n tot (grJ tot gr g g') x then 1 else 0) (n := n + 1) (i := min g g') (by omega)
        rw [if_pos (by omega)] at this
        exact this
      omega
  have hpN : ∀ i, par i ≠ 0 → i < par i ∧ par i < 17 + T := fun i hi => ⟨(E2 i hi).1, (E2 i hi).2.1⟩
  have same : ∀ s, s ≤ n → 0 < tot s → gr s = gr 0 := fun s hs ht => one _ _ (D s hs ht).1 (D 0 (by omega) t0).1 (cO_of hs ht) (cO_of (by omega) t0)
  have c0 : 0 < cO n tot gr (gr 0) := cO_of (by omega) t0
  have g0n := (D 0 (by omega) t0).1
  obtain ⟨r1, r2, r3⟩ := A (gr 0) g0n c0
  have pr : par (nd jn (gr 0)) = 0 := E1 _ (by omega)
  have ups : ∀ s, s ≤ n → 0 < tot s → upP par (dp s) s (nd jn (gr 0)) := fun s hs ht => by
    have := (D s hs ht).2
    rw [same s hs ht] at this
    exact this
  have ln : ∀ s, s ≤ n → 0 < tot s → lnF par 40 s = dp s := fun s hs ht => ln_up (by omega) hpN (ups s hs ht) pr
  have d1 : ∀ s, s ≤ n → 0 < tot s → 1 ≤ dp s := fun s hs ht => by
    rcases Nat.eq_zero_or_pos (dp s) with e | e
    · exfalso
      have u := ups s hs ht
      rw [e] at u
      have u' : s = nd jn (gr 0) := u
      have r17 : nd jn (gr 0) < 17 := by omega
      have a0 := up_ge (N := 17) (fun i hi => (E2 i hi).2.2) (ups 0 (by omega) t0) r17
      have an := up_ge (N := 17) (fun i hi => (E2 i hi).2.2) (ups n (by omega) tn) r17
      have u0 := ups 0 (by omega) t0
      rw [a0] at u0
      have un := ups n (by omega) tn
      rw [an] at un
      have e0 : 0 = nd jn (gr 0) := u0
      have en : n = nd jn (gr 0) := un
      omega
    · exact e
  have l17 : ∀ i, i < 17 → lnF par 40 i = if i ≤ n then dp i else 0 := fun i hi => by
    by_cases q : i ≤ n
    · rw [if_pos q]
      by_cases t : 0 < tot i
      · exact ln i q t
      · have p0 : par i = 0 := by
          rcases Nat.eq_zero_or_pos (par i) with e | e
          · exact e
          · exact absurd (G' i hi (by omega)).2 t
        rw [ln_eq (N := 17 + T) (by omega) hpN, if_pos p0, hz i q (by omega)]
    · have p0 : par i = 0 := by
        rcases Nat.eq_zero_or_pos (par i) with e | e
        · exact e
        · exact absurd (G' i hi (by omega)).1 q
      rw [if_neg q, ln_eq (N := 17 + T) (by omega) hpN, if_pos p0]
  have low : ∀ m i, i < m → par i ≠ 0 → ∃ s, s ≤ n ∧ 0 < tot s ∧ lnF par 40 i ≤ lnF par 40 s := fun m => by
    induction m with
    | zero => exact fun i hi => absurd hi (by omega)
    | succ m ih =>
      intro i hi hp
      by_cases q : i < 17
      · obtain ⟨k1, k2⟩ := G' i q hp
        exact ⟨i, k1, k2, Nat.le_refl _⟩
      · have := E2 i hp
        obtain ⟨c, k1, k2⟩ := F i (by omega) (by omega)
        obtain ⟨s, s1, s2, s3⟩ := ih c (by omega) (by omega)
        refine ⟨s, s1, s2, ?_⟩
        have e := ln_eq (N := 17 + T) (by omega) hpN c
        rw [if_neg (by omega), k2] at e
        omega
  have mx : mxD (lnF par 40) (16 + T) 0 = mxU dp (n + 1) := by
    apply Nat.le_antisymm
    · refine mxD_lub (fun i _ hi => ?_)
      by_cases p0 : par i = 0
      · rw [ln_eq (N := 17 + T) (by omega) hpN, if_pos p0]
        exact Nat.zero_le _
      · obtain ⟨s, s1, s2, s3⟩ := low (i + 1) i (by omega) p0
        rw [ln s s1 s2] at s3
        exact Nat.le_trans s3 (mxU_ub (by omega))
    · refine mxU_lub (fun s hs => ?_)
      have := mxD_ub (f := lnF par 40) (d := 16 + T) (k := 0) (i := s) (by omega) (by omega)
      rw [l17 s (by omega), if_pos (by omega)] at this
      exact this
  refine ⟨l17, mx, fun s hs ht => ⟨d1 s hs ht, mxU_ub (by omega)⟩, ?_⟩
  have := K (gr 0) g0n c0 (mxU dp (n + 1)) (fun s hs _ _ => mxU_ub (by omega))
  rw [← this]
  refine sumh_cong _ (fun s hs => ?_)
  by_cases t : 0 < tot s
  · rw [if_pos t, if_pos (show 0 < tot s ∧ gr s = gr 0 from ⟨t, same s (by omega) t⟩)]
  · rw [if_neg t, if_neg (fun c => t c.1)]
def wtS (tot dp : Nat → Nat) (mo s : Nat) : Nat := if tot s = 0 then 0 else mo + 1 - dp s
theorem tree_ok {n : Nat} {tot dp : Nat → Nat} {mo : Nat} (h : JFin n tot dp mo) (hn1 : 1 ≤ n) (t0 : 0 < tot 0) (tn : 0 < tot n) (hm : mo ≤ 7) : compS (wtS tot dp mo) n ∧ fullW (wtS tot dp mo) n = wtS tot dp mo ∧ Nat.log2 (sumW (wtS tot dp mo) n) + 1 = mo := by
  obtain ⟨h1, h2⟩ := h
  have ec : ∀ s, s < n + 1 → cl (wtS tot dp mo s) = if 0 < tot s then 2 ^ (mo - dp s) else 0 := fun s hs => by
    unfold wtS
    by_cases t : tot s = 0
    · rw [if_pos t, if_neg (by omega)]
      rfl
    · have := h1 s (by omega) (by omega)
      rw [if_neg t, if_pos (by omega)]
      unfold cl
      rw [if_neg (by omega), show mo + 1 - dp s - 1 = mo - dp s by omega]
  have es : sumW (wtS tot dp mo) (n + 1) = 2 ^ mo := by
    unfold sumW
    rw [← h2]
    exact sumh_cong _ ec
  have en : sumW (wtS tot dp mo) (n + 1) = sumW (wtS tot dp mo) n + 2 ^ (mo - dp n) := by
    show sumW (wtS tot dp mo) n + cl (wtS tot dp mo n) = _
    rw [ec n (by omega), if_pos tn]
  obtain ⟨n1, n2⟩ := h1 n (Nat.le_refl _) tn
  have pm : 2 ^ (mo - dp n) ≤ 2 ^ (mo - 1) := Nat.pow_le_pow_right (by decide) (by omega)
  have p2 : 2 ^ mo = 2 * 2 ^ (mo - 1) := by
    have e : mo = (mo - 1) + 1 := by omega
    rw [e, Nat.pow_succ, Nat.add_sub_cancel]
    omega
  have p0 : 0 < 2 ^ (mo - dp n) := Nat.two_pow_pos _
  have p7 : 2 ^ mo ≤ 2 ^ 7 := Nat.pow_le_pow_right (by decide) hm
  have s0 : 0 < sumW (wtS tot dp mo) n := by omega
  have lg : Nat.log2 (sumW (wtS tot dp mo) n) = mo - 1 := by
    have a := (Nat.log2_lt (k := mo) (show sumW (wtS tot dp mo) n ≠ 0 by omega)).mpr (by omega)
    have b := (Nat.le_log2 (k := mo - 1) (show sumW (wtS tot dp mo) n ≠ 0 by omega)).mpr (by omega)
    omega
  have er : restW (wtS tot dp mo) n = 2 ^ (mo - dp n) := by
    unfold restW
    rw [lg, show mo - 1 + 1 = mo by omega]
    omega
  have lr : Nat.log2 (restW (wtS tot dp mo) n) = mo - dp n := by rw [er, Nat.log2_two_pow]
  refine ⟨⟨fun j hj => ?_, s0, by omega, by rw [lr, er]⟩, ?_, by omega⟩
  · unfold wtS
    by_cases t : tot j = 0
    · rw [if_pos t]
      omega
    · have := h1 j (by omega) (by omega)
      rw [if_neg t]
      omega
  · funext j
    unfold fullW
    by_cases q : j = n
    · rw [if_pos q, lr, q]
      unfold wtS
      rw [if_neg (by omega)]
      omega
    · rw [if_neg q]
/-- the joinings, turn by turn, beside the class's state -/
theorem jr_it {n : Nat} {tot : Nat → Nat} (hn : n ≤ 16) {T : Nat} {cnt par : Nat → Nat} (h : JR n tot T cnt par (jIt n tot T).1 (jIt n tot T).2.1 (jIt n tot T).2.2) (h2 : 2 ≤ actN n tot (jIt n tot T).1) :
    ∃ x1 x2, (gaL cnt (17 + T) = x1 ∧ gaL (updN cnt x1 0) (17 + T) = x2) ∧ (x1 < 17 + T ∧ x2 < 17 + T) ∧ (jA n tot (jIt n tot T) ≤ n ∧ jB n tot (jIt n tot T) ≤ n) ∧ (lgL (cO n tot (jIt n tot T).1) (jIt n tot T).2.1 none (n + 1) = some (jA n tot (jIt n tot T)) ∧ lgL (cO n tot (jIt n tot T).1) (jIt n tot T).2.1 (some (jA n tot (jIt n tot T))) (n + 1) = some (jB n tot (jIt n tot T))) ∧ JR n tot (T + 1) (updN (updN (updN cnt x1 0) x2 0) (17 + T) (cnt x1 + updN cnt x1 0 x2)) (updN (updN par x1 (17 + T)) x2 (17 + T)) (jIt n tot (T + 1)).1 (jIt n tot (T + 1)).2.1 (jIt n tot (T + 1)).2.2 ∧ actN n tot (jIt n tot (T + 1)).1 + 1 = actN n tot (jIt n tot T).1 := by
  obtain ⟨a, b, ea, eb, ⟨ha, hb, hab⟩, ⟨ca, cb⟩, ⟨xa, xb⟩, ⟨na, nb⟩, ⟨va, vb⟩, hR⟩ := h.step hn h2
  have eA : jA n tot (jIt n tot T) = a := by
    unfold jA
    rw [ea]
    rfl
  have eB : jB n tot (jIt n tot T) = b := by
    unfold jB
    rw [eA, eb]
    rfl
  have e1 : (jIt n tot (T + 1)).1 = grJ tot (jIt n tot T).1 a b := by
    show grJ tot (jIt n tot T).1 (jA n tot (jIt n tot T)) (jB n tot (jIt n tot T)) = _
    rw [eA, eB]
  have e2 : (jIt n tot (T + 1)).2.1 = updN (jIt n tot T).2.1 (min a b) (T + 1) := by
    show updN (jIt n tot T).2.1 (min (jA n tot (jIt n tot T)) (jB n tot (jIt n tot T))) (T + 1) = _
    rw [eA, eB]
  have e3 : (jIt n tot (T + 1)).2.2 = dpJ tot (jIt n tot T).1 (jIt n tot T).2.2 a b := by
    show dpJ tot (jIt n tot T).1 (jIt n tot T).2.2 (jA n tot (jIt n tot T)) (jB n tot (jIt n tot T)) = _
    rw [eA, eB]
  refine ⟨_, _, ⟨xa, xb⟩, ⟨na, nb⟩, ⟨by rw [eA]; exact ha, by rw [eB]; exact hb⟩, ⟨by rw [eA]; exact ea, by rw [eA, eB]; exact eb⟩, ?_, ?_⟩
  · rw [e1, e2, e3, va, vb]
    exact hR
  · rw [e1]
    exact (act_join hab ha hb ca cb).symm
