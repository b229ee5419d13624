/-! pure: joining the least two again and again -/
def updN (f : Nat → Nat) (i v j : Nat) : Nat := if j = i then v else f j
theorem updN_s (f : Nat → Nat) (i v : Nat) : updN f i v i = v := if_pos rfl
theorem updN_n {f : Nat → Nat} {i v j : Nat} (h : j ≠ i) : updN f i v j = f j := if_neg h
theorem sumh_ind {v : Nat → Nat} {g : Nat} : ∀ n, sumh (fun s => if s = g then v s else 0) n = if g < n then v g else 0
  | 0 => by simp [sumh]
  | n + 1 => by
    simp only [sumh]
    rw [sumh_ind n]
    by_cases h : g < n
    · rw [if_pos h, if_neg (by omega), if_pos (by omega)]
      omega
    · by_cases e : n = g
      · rw [if_neg h, if_pos e, if_pos (by omega), e]
        omega
      · rw [if_neg h, if_neg e, if_neg (by omega)]
theorem sumh_lem {a b : Nat → Nat} : ∀ n, (∀ i, i < n → a i ≤ b i) → sumh a n ≤ sumh b n
  | 0, _ => Nat.le_refl _
  | n + 1, h => by
    have h1 := sumh_lem n (fun i hi => h i (by omega))
    have h2 := h n (by omega)
    simp only [sumh]
    omega
theorem sumh_pos {a : Nat → Nat} : ∀ {n}, 0 < sumh a n → ∃ i, i < n ∧ 0 < a i
  | 0, h => absurd h (by simp [sumh])
  | n + 1, h => by
    simp only [sumh] at h
    by_cases q : 0 < a n
    · exact ⟨n, by omega, q⟩
    · obtain ⟨i, h1, h2⟩ := sumh_pos (a := a) (n := n) (by omega)
      exact ⟨i, by omega, h2⟩
/-- the count of group g -/
def cO (n : Nat) (tot gr : Nat → Nat) (g : Nat) : Nat := sumh (fun s => if gr s = g then tot s else 0) (n + 1)
def lgB (c jn : Nat → Nat) (g : Nat) : Option Nat → Bool
  | none => true
  | some x => decide (c g < c x ∨ (c g = c x ∧ jn g < jn x))
def lgL (c jn : Nat → Nat) (but : Option Nat) : Nat → Option Nat
  | 0 => none
  | g + 1 => if but ≠ some g ∧ 0 < c g ∧ lgB c jn g (lgL c jn but g) = true then some g else lgL c jn but g
/-- the group that comes first of those with a count, but for one -/
def LgM (c jn : Nat → Nat) (but : Option Nat) (m x : Nat) : Prop := x < m ∧ but ≠ some x ∧ 0 < c x ∧ ∀ g, g < m → but ≠ some g → 0 < c g → c x < c g ∨ (c x = c g ∧ (jn x < jn g ∨ (jn x = jn g ∧ x ≤ g)))
theorem lg_min (c jn : Nat → Nat) (but : Option Nat) : ∀ m, (∀ x, lgL c jn but m = some x → LgM c jn but m x) ∧ (lgL c jn but m = none → ∀ g, g < m → but ≠ some g → ¬ 0 < c g)
  | 0 => ⟨fun x h => absurd h (by simp [lgL]), fun _ g h => absurd h (by omega)⟩
  | m + 1 => by
    obtain ⟨h1, h2⟩ := lg_min c jn but m
    unfold lgL
    by_cases q : but ≠ some m ∧ 0 < c m ∧ lgB c jn m (lgL c jn but m) = true
    · rw [if_pos q]
      refine ⟨fun x hx => ?_, fun h => absurd h (by simp)⟩
      injection hx with hx
      subst hx
      refine ⟨by omega, q.1, q.2.1, fun g hg hb hc => ?_⟩
      rcases Nat.lt_or_ge g m with hg | hg
      · cases e : lgL c jn but m with
        | none => exact absurd hc (h2 e g hg hb)
        | some x =>
          have q3 := q.2.2
          rw [e] at q3
          have q4 : c m < c x ∨ (c m = c x ∧ jn m < jn x) := by simpa [lgB] using q3
          obtain ⟨k1, k2, k3, k4⟩ := h1 x e
          have := k4 g hg hb hc
          omega
      · obtain rfl : g = m := by omega
        exact Or.inr ⟨rfl, Or.inr ⟨rfl, Nat.le_refl _⟩⟩
    · rw [if_neg q]
      refine ⟨fun x hx => ?_, fun h g hg hb hc => ?_⟩
      · obtain ⟨k1, k2, k3, k4⟩ := h1 x hx
        refine ⟨by omega, k2, k3, fun g hg hb hc => ?_⟩
        rcases Nat.lt_or_ge g m with hg | hg
        · exact k4 g hg hb hc
        · obtain rfl : g = m := by omega
          have : ¬ lgB c jn g (lgL c jn but g) = true := fun z => q ⟨hb, hc, z⟩
          rw [hx] at this
          have q4 : ¬ (c g < c x ∨ (c g = c x ∧ jn g < jn x)) := by simpa [lgB] using this
          omega
      · rcases Nat.lt_or_ge g m with hg | hg
        · exact h2 h g hg hb hc
        · obtain rfl : g = m := by omega
          exact q ⟨hb, hc, by rw [h]; rfl⟩
/-- the class's search -/
def gaL (cnt : Nat → Nat) : Nat → Nat
  | 0 => 0
  | i + 1 => if 0 < cnt i ∧ (cnt (gaL cnt i) = 0 ∨ cnt i < cnt (gaL cnt i)) then i else gaL cnt i
theorem ga_min (cnt : Nat → Nat) : ∀ m, gaL cnt m ≤ m ∧ ((∃ i, i < m ∧ 0 < cnt i) → gaL cnt m < m ∧ 0 < cnt (gaL cnt m) ∧ ∀ i, i < m → 0 < cnt i → cnt (gaL cnt m) < cnt i ∨ (cnt (gaL cnt m) = cnt i ∧ gaL cnt m ≤ i)) ∧ ((∀ i, i < m → ¬ 0 < cnt i) → gaL cnt m = 0)
  | 0 => ⟨Nat.le_refl _, fun ⟨i, h, _⟩ => absurd h (by omega), fun _ => rfl⟩
  | m + 1 => by
    obtain ⟨h0, h1, h2⟩ := ga_min cnt m
    unfold gaL
    by_cases q : 0 < cnt m ∧ (cnt (gaL cnt m) = 0 ∨ cnt m < cnt (gaL cnt m))
    · rw [if_pos q]
      refine ⟨by omega, fun _ => ⟨by omega, q.1, fun i hi hc => ?_⟩, fun h => absurd q.1 (h m (by omega))⟩
      rcases Nat.lt_or_ge i m with hi | hi
      · obtain ⟨k1, k2, k3⟩ := h1 ⟨i, hi, hc⟩
        have := k3 i hi hc
        omega
      · obtain rfl : i = m := by omega
        exact Or.inr ⟨rfl, Nat.le_refl _⟩
    · rw [if_neg q]
      refine ⟨by omega, fun ⟨i, hi, hc⟩ => ?_, fun h => h2 (fun i hi => h i (by omega))⟩
      by_cases z : ∃ i, i < m ∧ 0 < cnt i
      · obtain ⟨k1, k2, k3⟩ := h1 z
        refine ⟨by omega, k2, fun j hj hcj => ?_⟩
        rcases Nat.lt_or_ge j m with hj | hj
        · exact k3 j hj hcj
        · obtain rfl : j = m := by omega
          omega
      · have hm : i = m := by
          rcases Nat.lt_or_ge i m with hi | hi'
          · exact absurd ⟨i, hi, hc⟩ z
          · omega
        subst hm
        have e0 := h2 (fun j hj hcj => z ⟨j, hj, hcj⟩)
        rw [e0] at q ⊢
        rcases Nat.eq_zero_or_pos i with e | e
        · subst e
          refine ⟨by omega, hc, fun j hj hcj => ?_⟩
          obtain rfl : j = 0 := by omega
          exact Or.inr ⟨rfl, Nat.le_refl _⟩
        · have : ¬ 0 < cnt 0 := fun h => z ⟨0, e, h⟩
          omega
/-- from i, k steps up, to j -/
def upP (par : Nat → Nat) : Nat → Nat → Nat → Prop
  | 0, i, j => i = j
  | k + 1, i, j => par i ≠ 0 ∧ upP par k (par i) j
theorem up_mono {p1 p2 : Nat → Nat} (h : ∀ i, p1 i ≠ 0 → p2 i = p1 i) : ∀ {k i j}, upP p1 k i j → upP p2 k i j
  | 0, i, j, u => u
  | k + 1, i, j, u => by
    refine ⟨by rw [h i u.1]; exact u.1, ?_⟩
    rw [h i u.1]
    exact up_mono h u.2
theorem up_snoc {p : Nat → Nat} : ∀ {k i j}, upP p k i j → p j ≠ 0 → upP p (k + 1) i (p j)
  | 0, i, j, u, hj => by
    have u' : i = j := u
    subst u'
    exact ⟨hj, rfl⟩
  | k + 1, i, j, u, hj => ⟨u.1, up_snoc u.2 hj⟩
theorem up_ge {p : Nat → Nat} {N : Nat} (h : ∀ i, p i ≠ 0 → N ≤ p i) : ∀ {k i j}, upP p k i j → j < N → k = 0
  | 0, _, _, _, _ => rfl
  | k + 1, i, j, u, hj => by
    have := up_ge h u.2 hj
    subst this
    have e : p i = j := u.2
    have := h i u.1
    omega
def nd (jn : Nat → Nat) (g : Nat) : Nat := if jn g = 0 then g else 16 + jn g
def JR (n : Nat) (tot : Nat → Nat) (T : Nat) (cnt par gr jn dp : Nat → Nat) : Prop :=
  (∀ g, g ≤ n → 0 < cO n tot gr g → cnt (nd jn g) = cO n tot gr g ∧ nd jn g < 17 + T ∧ jn g ≤ T) ∧
  (∀ i, i < 17 + T → 0 < cnt i → ∃ g, g ≤ n ∧ 0 < cO n tot gr g ∧ nd jn g = i) ∧
  (∀ g h, g ≤ n → h ≤ n → 0 < cO n tot gr g → 0 < cO n tot gr h → nd jn g = nd jn h → g = h) ∧
  (∀ s, s ≤ n → 0 < tot s → gr s ≤ n ∧ upP par (dp s) s (nd jn (gr s))) ∧
  ((∀ i, 0 < cnt i → par i = 0) ∧ (∀ i, par i ≠ 0 → i < par i ∧ par i < 17 + T ∧ 17 ≤ par i)) ∧
  (∀ j, 17 ≤ j → j < 17 + T → ∃ i, i < j ∧ par i = j) ∧
  (∀ i, i < 17 → par i ≠ 0 → i ≤ n ∧ 0 < tot i) ∧
  (∀ g, g ≤ n → 0 < cO n tot gr g → ∀ M, (∀ s, s ≤ n → 0 < tot s → gr s = g → dp s ≤ M) → sumh (fun s => if 0 < tot s ∧ gr s = g then 2 ^ (M - dp s) else 0) (n + 1) = 2 ^ M) ∧
  (∀ i, 17 + T ≤ i → cnt i = 0)
/-- how many groups there are -/
def actN (n : Nat) (tot gr : Nat → Nat) : Nat := sumh (fun g => if 0 < cO n tot gr g then 1 else 0) (n + 1)
theorem cO_mem {n : Nat} {tot gr : Nat → Nat} {g : Nat} (h : 0 < cO n tot gr g) : ∃ s, s ≤ n ∧ gr s = g ∧ 0 < tot s := by
  obtain ⟨s, h1, h2⟩ := sumh_pos h
  by_cases e : gr s = g
  · rw [if_pos e] at h2
    exact ⟨s, by omega, e, h2⟩
  · rw [if_neg e] at h2
    omega
theorem cO_of {n : Nat} {tot gr : Nat → Nat} {s : Nat} (hs : s ≤ n) (h : 0 < tot s) : 0 < cO n tot gr (gr s) := by
  have := sumh_one (a := fun x => if gr x = gr s then tot x else 0) (n := n + 1) (i := s) (by omega)
  rw [if_pos rfl] at this
  exact Nat.lt_of_lt_of_le h this
def grJ (tot gr : Nat → Nat) (a b s : Nat) : Nat := if 0 < tot s ∧ (gr s = a ∨ gr s = b) then min a b else gr s
def dpJ (tot gr dp : Nat → Nat) (a b s : Nat) : Nat := if 0 < tot s ∧ (gr s = a ∨ gr s = b) then dp s + 1 else dp s
theorem grJ_in {tot gr : Nat → Nat} {a b s : Nat} (h : 0 < tot s) (e : gr s = a ∨ gr s = b) : grJ tot gr a b s = min a b := if_pos ⟨h, e⟩
theorem grJ_out {tot gr : Nat → Nat} {a b s : Nat} (h : ¬ (0 < tot s ∧ (gr s = a ∨ gr s = b))) : grJ tot gr a b s = gr s := if_neg h
theorem dpJ_in {tot gr dp : Nat → Nat} {a b s : Nat} (h : 0 < tot s) (e : gr s = a ∨ gr s = b) : dpJ tot gr dp a b s = dp s + 1 := if_pos ⟨h, e⟩
theorem dpJ_out {tot gr dp : Nat → Nat} {a b s : Nat} (h : ¬ (0 < tot s ∧ (gr s = a ∨ gr s = b))) : dpJ tot gr dp a b s = dp s := if_neg h
theorem cO_join {n : Nat} {tot gr : Nat → Nat} {a b : Nat} (hab : a ≠ b) : cO n tot (grJ tot gr a b) (min a b) = cO n tot gr a + cO n tot gr b ∧ cO n tot (grJ tot gr a b) (max a b) = 0 ∧ ∀ g, g ≠ a → g ≠ b → cO n tot (grJ tot gr a b) g = cO n tot gr g := by
  have hm : (min a b = a ∧ max a b = b) ∨ (min a b = b ∧ max a b = a) := by omega
  refine ⟨?_, ?_, fun g h1 h2 => ?_⟩
  · unfold cO
    rw [← sumh_add]
    refine sumh_cong _ (fun s _ => ?_)
    by_cases t : 0 < tot s
    · by_cases e1 : gr s = a
      · rw [grJ_in t (Or.inl e1), if_pos (show min a b = min a b from rfl), if_pos e1, if_neg (show ¬ gr s = b by omega)]
        rfl
      · by_cases e2 : gr s = b
        · rw [grJ_in t (Or.inr e2), if_pos (show min a b = min a b from rfl), if_neg e1, if_pos e2]
          omega
        · rw [grJ_out (fun c => c.2.elim e1 e2), if_neg (show ¬ gr s = min a b by omega), if_neg e1, if_neg e2]
    · have : tot s = 0 := by omega
      rw [this]
      split <;> split <;> split <;> rfl
  · unfold cO
    have : sumh (fun s => if grJ tot gr a b s = max a b then tot s else 0) (n + 1) = sumh (fun s => if s = n + 1 then 0 else 0) (n + 1) := sumh_cong _ (fun s _ => by
      by_cases t : 0 < tot s
      · by_cases e : gr s = a ∨ gr s = b
        · rw [grJ_in t e, if_neg (show ¬ min a b = max a b by omega)]
          split <;> rfl
        · rw [grJ_out (fun c => e c.2), if_neg (show ¬ gr s = max a b by omega)]
          split <;> rfl
      · have : tot s = 0 := by omega
        rw [this]
        split <;> split <;> rfl)
    rw [this, sumh_ind (v := fun _ => 0)]
    split <;> rfl
  · unfold cO
    refine sumh_cong _ (fun s _ => ?_)
    by_cases t : 0 < tot s
    · by_cases e : gr s = a ∨ gr s = b
      · rw [grJ_in t e, if_neg (show ¬ min a b = g by omega), if_neg (show ¬ gr s = g by omega)]
      · rw [grJ_out (fun c => e c.2)]
    · have : tot s = 0 := by omega
      rw [this]
      split <;> split <;> rfl
theorem act_join {n : Nat} {tot gr : Nat → Nat} {a b : Nat} (hab : a ≠ b) (ha : a ≤ n) (hb : b ≤ n) (ca : 0 < cO n tot gr a) (cb : 0 < cO n tot gr b) : actN n tot gr = actN n tot (grJ tot gr a b) + 1 := by
  obtain ⟨j1, j2, j3⟩ := cO_join (n := n) (tot := tot) (gr := gr) hab
  have hm : (min a b = a ∧ max a b = b) ∨ (min a b = b ∧ max a b = a) := by omega
  have e : actN n tot gr = sumh (fun g => (if 0 < cO n tot (grJ tot gr a b) g then 1 else 0) + (if g = max a b then 1 else 0)) (n + 1) := by
    unfold actN
    refine sumh_cong _ (fun g _ => ?_)
    by_cases g1 : g = max a b
    · have : 0 < cO n tot gr g := by
        rcases hm with ⟨_, m2⟩ | ⟨_, m2⟩
        · rw [g1, m2]; exact cb
        · rw [g1, m2]; exact ca
      rw [if_pos this, if_pos g1, g1, j2]
      rfl
    · rw [if_neg g1]
      by_cases g2 : g = min a b
      · have : 0 < cO n tot gr g := by
          rcases hm with ⟨m1, _⟩ | ⟨m1, _⟩
          · rw [g2, m1]; exact ca
          · rw [g2, m1]; exact cb
        rw [if_pos this, g2, j1, if_pos (by omega)]
      · rw [j3 g (by omega) (by omega)]
        rfl
  rw [e, sumh_add, sumh_ind (v := fun _ => 1), if_pos (by omega)]
  rfl
theorem act_two {n : Nat} {tot gr : Nat → Nat} (h : 2 ≤ actN n tot gr) (a : Nat) : ∃ g, g ≤ n ∧ g ≠ a ∧ 0 < cO n tot gr g := by
  by_cases q : ∃ g, g ≤ n ∧ g ≠ a ∧ 0 < cO n tot gr g
  · exact q
  · have : actN n tot gr ≤ sumh (fun g => if g = a then 1 else 0) (n + 1) := sumh_lem _ (fun g hg => by
      by_cases c : 0 < cO n tot gr g
      · by_cases e : g = a
        · rw [if_pos c, if_pos e]
          exact Nat.le_refl _
        · exact absurd ⟨g, by omega, e, c⟩ q
      · rw [if_neg c]
        exact Nat.zero_le _)
    rw [sumh_ind (v := fun _ => 1)] at this
    split at this <;> omega
theorem nd_le {jn : Nat → Nat} {x g : Nat} (hx : x ≤ 16) (h : jn x < jn g ∨ (jn x = jn g ∧ x ≤ g)) : nd jn x ≤ nd jn g := by
  unfold nd
  rcases h with h | ⟨h1, h2⟩
  · rw [if_neg (show ¬ jn g = 0 by omega)]
    split <;> omega
  · rw [h1]
    split
    · exact h2
    · exact Nat.le_refl _
