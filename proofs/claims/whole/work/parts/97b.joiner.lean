/-! pure: the class's joiner -/
def cntL (lits : List Nat) (v : Nat) : Nat → Nat
  | 0 => 0
  | m + 1 => cntL lits v m + (if lits.getD m 0 = v then 1 else 0)
theorem cntL_le (lits : List Nat) (v : Nat) : ∀ m, cntL lits v m ≤ m
  | 0 => Nat.le_refl _
  | m + 1 => by
    have := cntL_le lits v m
    unfold cntL
    split <;> omega
theorem cntL_pos {lits : List Nat} {v : Nat} : ∀ {m k}, k < m → lits.getD k 0 = v → 0 < cntL lits v m
  | 0, k, h, _ => absurd h (by omega)
  | m + 1, k, h, e => by
    unfold cntL
    rcases Nat.lt_or_ge k m with q | q
    · have := cntL_pos q e
      omega
    · rw [show m = k by omega, if_pos e]
      omega
theorem cntL_zero {lits : List Nat} {v : Nat} : ∀ {m}, (∀ k, k < m → lits.getD k 0 ≠ v) → cntL lits v m = 0
  | 0, _ => rfl
  | m + 1, h => by
    unfold cntL
    rw [cntL_zero (fun k hk => h k (by omega)), if_neg (h m (by omega))]
/-- how often low + s stands in lits -/
def totS (lits : List Nat) (low s : Nat) : Nat := cntL lits (low + s) lits.length
/-- the literals lie in low .. low + n, and both ends are there -/
def LH (lits : List Nat) (low n : Nat) : Prop := (∀ k, k < lits.length → low ≤ lits.getD k 0 ∧ lits.getD k 0 ≤ low + n) ∧ (∃ k, k < lits.length ∧ lits.getD k 0 = low) ∧ (∃ k, k < lits.length ∧ lits.getD k 0 = low + n) ∧ 1 ≤ n ∧ n ≤ 16 ∧ lits.length ≤ 120 ∧ low < 256
theorem LH.t0 {lits : List Nat} {low n : Nat} (h : LH lits low n) : 0 < totS lits low 0 := by
  obtain ⟨k, k1, k2⟩ := h.2.1
  exact cntL_pos k1 (by omega)
theorem LH.tn {lits : List Nat} {low n : Nat} (h : LH lits low n) : 0 < totS lits low n := by
  obtain ⟨k, k1, k2⟩ := h.2.2.1
  exact cntL_pos k1 k2
theorem LH.tz {lits : List Nat} {low n : Nat} (h : LH lits low n) {i : Nat} (hi : n < i) : totS lits low i = 0 := cntL_zero (fun k hk e => by have := h.1 k hk; omega)
theorem totS_le {lits : List Nat} {low n : Nat} (h : LH lits low n) (s : Nat) : totS lits low s ≤ 120 := Nat.le_trans (cntL_le _ _ _) h.2.2.2.2.2.1
theorem arr_fill5 {a N : Nat} (ha : a < mNc L1) (hl : mLn L1 a = N) (hN : N ≤ 2000) : ∀ (d i : Nat) (F : Mem) (fu : Nat), d + i = N → d < fu → (∀ j, j < i → F a j = 0) → ∃ G, f_Arr_fill_5 L1 fu a 0 (nI i) (nI N) F = some G ∧ (∀ j, j < N → G a j = 0) ∧ Fr [a] F G := by
  intro d
  induction d with
  | zero =>
    intro i F fu hd hf h
    obtain ⟨fu, rfl⟩ : ∃ k, fu = k + 1 := ⟨fu - 1, by omega⟩
    refine ⟨F, ?_, fun j hj => h j (by omega), Fr.rf⟩
    show b_Arr_fill_5 L1 (f_Arr_fill_5 L1 fu) a 0 (nI i) (nI N) F = _
    unfold b_Arr_fill_5
    rw [ile (by omega) (by omega)]
  | succ d ih =>
    intro i F fu hd hf h
    obtain ⟨fu, rfl⟩ : ∃ k, fu = k + 1 := ⟨fu - 1, by omega⟩
    obtain ⟨G, e, g1, f⟩ := ih (i + 1) (u2 F a i 0) fu (by omega) (by omega) (fun j hj => by
      by_cases q : j = i
      · rw [q, u2_s]
      · rw [u2_p q]; exact h j (by omega))
    refine ⟨G, ?_, g1, (Fr.u (by simp)).tr f⟩
    show b_Arr_fill_5 L1 (f_Arr_fill_5 L1 fu) a 0 (nI i) (nI N) F = _
    unfold b_Arr_fill_5
    rw [ilen (by omega) (by omega), hl, if_neg (in_w (n := i) (by omega) (by omega) ha), ld, nI_clamp (by omega), nI_1]
    exact e
theorem arr_fill {a N : Nat} (ha : a < mNc L1) (hl : mLn L1 a = N) (hN : N ≤ 2000) (F : Mem) : ∃ G, f_Arr_fill L1 a 0 F = some G ∧ (∀ j, j < N → G a j = 0) ∧ Fr [a] F G := by
  obtain ⟨G, e, r⟩ := arr_fill5 ha hl hN N 0 F mFU (by omega) (by unfold mFU; omega) (fun j hj => absurd hj (by omega))
  refine ⟨G, ?_, r⟩
  unfold f_Arr_fill
  rw [mGl_n ha hl, l0]
  exact e
theorem r480 : mRf L1 48 0 = 49 := rfl
theorem r481 : mRf L1 48 1 = 50 := rfl
theorem r482 : mRf L1 48 2 = 51 := rfl
theorem r600 : mRf L1 60 0 = 61 := rfl
theorem jo_count10 {lits : List Nat} {low n : Nat} (h : LH lits low n) : ∀ (d m : Nat) (F : Mem) (fu : Nat), d + m = lits.length → d < fu → RD F 60 61 lits → (∀ i, i < 34 → F 49 i = nI (if i < 17 then cntL lits (low + i) m else 0)) → ∃ G, f_Jo_countBytes_10 L1 fu 48 60 (nI low) (nI m) F = some G ∧ (∀ i, i < 34 → G 49 i = nI (if i < 17 then totS lits low i else 0)) ∧ Fr [49] F G := by
  obtain ⟨h1, -, -, h4, h5, h6, h7⟩ := h
  intro d
  induction d with
  | zero =>
    intro m F fu hd hf hr hc
    obtain ⟨fu, rfl⟩ : ∃ k, fu = k + 1 := ⟨fu - 1, by omega⟩
    obtain rfl : m = lits.length := by omega
    refine ⟨F, ?_, hc, Fr.rf⟩
    show b_Jo_countBytes_10 L1 (f_Jo_countBytes_10 L1 fu) 48 60 (nI low) (nI lits.length) F = _
    unfold b_Jo_countBytes_10
    rw [hr.1, ile (Nat.le_refl _) (by omega)]
  | succ d ih =>
    intro m F fu hd hf hr hc
    obtain ⟨fu, rfl⟩ : ∃ k, fu = k + 1 := ⟨fu - 1, by omega⟩
    obtain ⟨b1, b2⟩ := h1 m (by omega)
    obtain ⟨s, hs⟩ : ∃ s, s = lits.getD m 0 - low := ⟨_, rfl⟩
    have hv := hc s (by omega)
    rw [if_pos (by omega)] at hv
    have cl := cntL_le lits (low + s) m
    have es : cntL lits (low + s) (m + 1) = cntL lits (low + s) m + 1 := by
      show cntL lits (low + s) m + (if lits.getD m 0 = low + s then 1 else 0) = _
      rw [if_pos (by omega)]
    have f1 : Fr [49] F (u2 F 49 s (nI (cntL lits (low + s) m + 1))) := Fr.u (by simp)
    obtain ⟨G, e, g1, f⟩ := ih (m + 1) (u2 F 49 s (nI (cntL lits (low + s) m + 1))) fu (by omega) (by omega) (hr.fr f1 (by decide) (by decide)) (fun i hi => by
      by_cases q : i = s
      · rw [q, u2_s, if_pos (by omega), es]
      · rw [u2_p q, hc i hi]
        congr 1
        by_cases q2 : i < 17
        · rw [if_pos q2, if_pos q2]
          show _ = cntL lits (low + i) m + (if lits.getD m 0 = low + i then 1 else 0)
          rw [if_neg (by omega)]
          rfl
        · rw [if_neg q2, if_neg q2])
    refine ⟨G, ?_, g1, f1.tr f⟩
    show b_Jo_countBytes_10 L1 (f_Jo_countBytes_10 L1 fu) 48 60 (nI low) (nI m) F = _
    unfold b_Jo_countBytes_10 b_Jo_countBytes_51
    rw [hr.1, ilen (by omega) (by omega), r600, rs60.gl, if_neg (inb_no (n := m) (by omega) (by omega)), show mGa L1 F 61 (nI m).toNatClampNeg = nI (lits.getD m 0) by rw [rs60.ga, nI_clamp (by omega), hr.2 m (by omega)], pk_sub b1, ← hs, if_neg (nI_pos (by omega)), if_neg (show ¬ (17 : Int32) ≤ nI s from fun q => absurd ((nI_leI (a := 17) (by omega) (by omega)).mp q) (by omega)), r480, show mGl L1 49 = 34 from rfl, show mLn L1 49 = 34 from rfl, if_neg (inb_no (n := s) (by omega) (by omega)), if_neg (in_w (n := s) (by omega) (by omega) (show 49 < mNc L1 by decide)), ld, mGa_n (show 49 < mNc L1 by decide), nI_clamp (by omega), hv, nI_1, nI_1]
    exact e
theorem jo_count {F : Mem} {lits : List Nat} {low n : Nat} (h : LH lits low n) (hr : RD F 60 61 lits) : ∃ G, f_Jo_countBytes L1 48 60 (nI low) F = some G ∧ (∀ i, i < 34 → G 49 i = nI (if i < 17 then totS lits low i else 0)) ∧ Fr [49] F G := by
  obtain ⟨A, eA, zA, fA⟩ := arr_fill (a := 49) (N := 34) (by decide) rfl (by decide) F
  obtain ⟨G, e, g1, f⟩ := jo_count10 h lits.length 0 A mFU (by omega) (by have := h.2.2.2.2.2.1; unfold mFU; omega) (hr.fr fA (by decide) (by decide)) (fun i hi => by
    rw [zA i hi]
    show (0 : Int32) = nI (if i < 17 then 0 else 0)
    split <;> rfl)
  refine ⟨G, ?_, g1, fA.tr f⟩
  unfold f_Jo_countBytes
  rw [r480, eA, Option.bind_some, l0]
  exact e
/-- the least one is given away -/
theorem jo_give {cnt : Nat → Nat} {N : Nat} (hN1 : 1 ≤ N) (hN : N ≤ 33) (hb : ∀ i, i < 34 → cnt i < 2 ^ 20) {F : Mem} (hc : ∀ i, i < 34 → F 49 i = nI (cnt i)) : f_Jo_giveAway L1 48 (nI N) F = some (nI (cnt (gaL cnt N)), u2 (u2 F 49 (gaL cnt N) 0) 50 (gaL cnt N) (nI N)) := by
  have gle : ∀ m, m ≤ N → gaL cnt m ≤ m := fun m _ => (ga_min cnt m).1
  have e49 : ∀ i, i < 34 → mGa L1 F 49 (nI i).toNatClampNeg = nI (cnt i) := fun i hi => by rw [mGa_n (show 49 < mNc L1 by decide), nI_clamp (by omega), hc i hi]
  have lp : ∀ (d i fu : Nat), d + i = N → d < fu → f_Jo_giveAway_4 L1 fu 48 (nI N) (nI (gaL cnt i)) (nI i) F = some (nI (cnt (gaL cnt N)), u2 (u2 F 49 (gaL cnt N) 0) 50 (gaL cnt N) (nI N)) := by
    intro d
    induction d with
    | zero =>
      intro i fu hd hf
      obtain ⟨fu, rfl⟩ : ∃ k, fu = k + 1 := ⟨fu - 1, by omega⟩
      obtain rfl : i = N := by omega
      have g := gle i (Nat.le_refl _)
      show b_Jo_giveAway_4 L1 (f_Jo_giveAway_4 L1 fu) 48 (nI i) (nI (gaL cnt i)) (nI i) F = _
      unfold b_Jo_giveAway_4
      rw [ile (Nat.le_refl _) (by omega), r480, r481, show mGl L1 49 = 34 from rfl, show mLn L1 49 = 34 from rfl, show mLn L1 50 = 34 from rfl, if_neg (inb_no (n := gaL cnt i) (by omega) (by omega)), if_neg (in_w (n := gaL cnt i) (by omega) (by omega) (show 49 < mNc L1 by decide)), ld, if_neg (in_w (n := gaL cnt i) (by omega) (by omega) (show 50 < mNc L1 by decide)), ld, e49 _ (by omega), nI_clamp (by omega)]
    | succ d ih =>
      intro i fu hd hf
      obtain ⟨fu, rfl⟩ : ∃ k, fu = k + 1 := ⟨fu - 1, by omega⟩
      have g := gle i (by omega)
      have nx := ih (i + 1) fu (by omega) (by omega)
      have eg : gaL cnt (i + 1) = if 0 < cnt i ∧ (cnt (gaL cnt i) = 0 ∨ cnt i < cnt (gaL cnt i)) then i else gaL cnt i := rfl
      have bi := hb i (by omega)
      have bg := hb (gaL cnt i) (by omega)
      show b_Jo_giveAway_4 L1 (f_Jo_giveAway_4 L1 fu) 48 (nI N) (nI (gaL cnt i)) (nI i) F = _
      unfold b_Jo_giveAway_4 b_Jo_giveAway_42 b_Jo_giveAway_44
      rw [ilen (by omega) (by omega), r480, show mGl L1 49 = 34 from rfl, if_neg (inb_no (n := i) (by omega) (by omega)), e49 i (by omega), nI_1]
      by_cases q1 : 0 < cnt i
      · rw [if_neg (show ¬ nI (cnt i) ≤ 0 from fun c => absurd ((nI_leI (b := 0) (by omega) (by omega)).mp c) (by omega)), if_neg (inb_no (n := gaL cnt i) (by omega) (by omega)), e49 (gaL cnt i) (by omega)]
        by_cases q2 : cnt (gaL cnt i) = 0
        · rw [if_pos (show nI (cnt (gaL cnt i)) = 0 by rw [q2]; rfl)]
          rw [eg, if_pos ⟨q1, Or.inl q2⟩] at nx
          exact nx
        · rw [if_neg (show ¬ nI (cnt (gaL cnt i)) = 0 from nne (b := 0) q2 (by omega) (by omega)), if_neg (inb_no (n := i) (by omega) (by omega)), if_neg (inb_no (n := gaL cnt i) (by omega) (by omega))]
          by_cases q3 : cnt i < cnt (gaL cnt i)
          · rw [ilen q3 (by omega)]
            rw [eg, if_pos ⟨q1, Or.inr q3⟩] at nx
            exact nx
          · rw [ile (by omega) (by omega)]
            rw [eg, if_neg (by omega)] at nx
            exact nx
      · rw [if_pos (show nI (cnt i) ≤ 0 from (nI_leI (b := 0) (by omega) (by omega)).mpr (by omega))]
        rw [eg, if_neg (by omega)] at nx
        exact nx
  have e1 : gaL cnt 1 = 0 := by
    show (if 0 < cnt 0 ∧ (cnt 0 = 0 ∨ cnt 0 < cnt 0) then 0 else 0) = 0
    split <;> rfl
  have := lp (N - 1) 1 mFU (by omega) (by unfold mFU; omega)
  rw [e1] at this
  unfold f_Jo_giveAway
  rw [l0, l1]
  exact this
theorem cO_le {n : Nat} {tot gr : Nat → Nat} {k : Nat} (h : ∀ s, tot s ≤ k) (g : Nat) : cO n tot gr g ≤ k * (n + 1) := sumh_le _ k (fun s => by
  split
  · exact h s
  · exact Nat.zero_le _) (n + 1)
theorem JR.bd {n : Nat} {tot : Nat → Nat} {T : Nat} {cnt par gr jn dp : Nat → Nat} (h : JR n tot T cnt par gr jn dp) (hn : n ≤ 16) (ht : ∀ s, tot s ≤ 120) (i : Nat) : cnt i ≤ 2040 := by
  obtain ⟨A, B, C, D, E, F, G', K, Z⟩ := h
  by_cases q : 17 + T ≤ i
  · rw [Z i q]
    omega
  · rcases Nat.eq_zero_or_pos (cnt i) with e | e
    · omega
    · obtain ⟨g, g1, g2, g3⟩ := B i (by omega) e
      have e1 := (A g g1 g2).1
      rw [g3] at e1
      have := cO_le (n := n) (gr := gr) ht g
      have h17 : 120 * (n + 1) ≤ 120 * 17 := Nat.mul_le_mul_left _ (by omega)
      omega
/-- the class's counts and parents -/
def JM (F : Mem) (cnt par : Nat → Nat) : Prop := (∀ i, i < 34 → F 49 i = nI (cnt i)) ∧ ∀ i, i < 34 → F 50 i = nI (par i)
theorem jo_29 {lits : List Nat} {low n : Nat} (h : LH lits low n) : ∀ (d T : Nat) (F : Mem) (cnt par : Nat → Nat) (fu : Nat), d + T + 1 = thr n (totS lits low) → thr n (totS lits low) ≤ 17 → d < fu → JM F cnt par → JR n (totS lits low) T cnt par (jIt n (totS lits low) T).1 (jIt n (totS lits low) T).2.1 (jIt n (totS lits low) T).2.2 → actN n (totS lits low) (jIt n (totS lits low) T).1 + T = thr n (totS lits low) →
    ∃ G cnt' par', f_Jo_findLengths_29 L1 fu 48 (nI (17 + T)) (nI (16 + thr n (totS lits low))) F = b_Jo_findLengths_63 L1 48 (nI (16 + thr n (totS lits low))) G ∧ JM G cnt' par' ∧ JR n (totS lits low) (thr n (totS lits low) - 1) cnt' par' (jIt n (totS lits low) (thr n (totS lits low) - 1)).1 (jIt n (totS lits low) (thr n (totS lits low) - 1)).2.1 (jIt n (totS lits low) (thr n (totS lits low) - 1)).2.2 ∧ actN n (totS lits low) (jIt n (totS lits low) (thr n (totS lits low) - 1)).1 = 1 ∧ Fr [49, 50] F G := by
  have hn := h.2.2.2.2.1
  intro d
  induction d with
  | zero =>
    intro T F cnt par fu hd h17 hf hm hR ha
    obtain ⟨fu, rfl⟩ : ∃ k, fu = k + 1 := ⟨fu - 1, by omega⟩
    obtain rfl : T = thr n (totS lits low) - 1 := by omega
    refine ⟨F, cnt, par, ?_, hm, hR, by omega, Fr.rf⟩
    show b_Jo_findLengths_29 L1 (f_Jo_findLengths_29 L1 fu) 48 (nI (17 + (thr n (totS lits low) - 1))) (nI (16 + thr n (totS lits low))) F = _
    unfold b_Jo_findLengths_29
    rw [ile (by omega) (by omega), show 17 + (thr n (totS lits low) - 1) = 16 + thr n (totS lits low) by omega]
  | succ d ih =>
    intro T F cnt par fu hd h17 hf hm hR ha
    obtain ⟨fu, rfl⟩ : ∃ k, fu = k + 1 := ⟨fu - 1, by omega⟩
    obtain ⟨x1, x2, ⟨xa, xb⟩, ⟨na, nb⟩, -, -, hR', ha'⟩ := jr_it hn hR (by omega)
    have bd := hR.bd hn (fun s => totS_le h s)
    have b1 := bd x1
    have g1 := jo_give (N := 17 + T) (by omega) (by omega) (fun i _ => by have := bd i; omega) hm.1
    rw [xa] at g1
    obtain ⟨A, hA⟩ : ∃ A, A = u2 (u2 F 49 x1 0) 50 x1 (nI (17 + T)) := ⟨_, rfl⟩
    rw [← hA] at g1
    have cA : ∀ i, i < 34 → A 49 i = nI (updN cnt x1 0 i) := fun i hi => by
      rw [hA, u2_c (by decide)]
      by_cases q : i = x1
      · rw [q, u2_s, updN_s]
        rfl
      · rw [u2_p q, updN_n q, hm.1 i hi]
    have b2 : ∀ i, updN cnt x1 0 i ≤ 2040 := fun i => by
      have := bd i
      unfold updN
      split <;> omega
    have g2 := jo_give (N := 17 + T) (by omega) (by omega) (fun i _ => by have := b2 i; omega) cA
    rw [xb] at g2
    obtain ⟨B, hB⟩ : ∃ B, B = u2 (u2 A 49 x2 0) 50 x2 (nI (17 + T)) := ⟨_, rfl⟩
    rw [← hB] at g2
    obtain ⟨C, hC⟩ : ∃ C, C = u2 B 49 (17 + T) (nI (cnt x1 + updN cnt x1 0 x2)) := ⟨_, rfl⟩
    have mC : JM C (updN (updN (updN cnt x1 0) x2 0) (17 + T) (cnt x1 + updN cnt x1 0 x2)) (updN (updN par x1 (17 + T)) x2 (17 + T)) := by
      refine ⟨fun i hi => ?_, fun i hi => ?_⟩
      · rw [hC]
        by_cases q : i = 17 + T
        · rw [q, u2_s, updN_s]
        · rw [u2_p q, updN_n q, hB, u2_c (by decide)]
          by_cases q2 : i = x2
          · rw [q2, u2_s, updN_s]
            rfl
          · rw [u2_p q2, updN_n q2, cA i hi]
      · rw [hC, u2_c (by decide), hB]
        by_cases q2 : i = x2
        · rw [q2, u2_s, updN_s]
        · rw [u2_p q2, updN_n q2, u2_c (by decide), hA]
          by_cases q : i = x1
          · rw [q, u2_s, updN_s]
          · rw [u2_p q, updN_n q, u2_c (by decide), hm.2 i hi]
    have fC : Fr [49, 50] F C := by
      rw [hC, hB, hA]
      exact ((((Fr.u (by simp)).tr (Fr.u (by simp))).tr (Fr.u (by simp))).tr (Fr.u (by simp))).tr (Fr.u (by simp))
    obtain ⟨G, cnt', par', eG, mG, rG, aG, fG⟩ := ih (T + 1) C _ _ fu (by omega) h17 (by omega) mC hR' (by omega)
    refine ⟨G, cnt', par', ?_, mG, rG, aG, fC.tr fG⟩
    show b_Jo_findLengths_29 L1 (f_Jo_findLengths_29 L1 fu) 48 (nI (17 + T)) (nI (16 + thr n (totS lits low))) F = _
    unfold b_Jo_findLengths_29
    rw [ilen (by omega) (by omega), if_neg (show ¬ (34 : Int32) ≤ nI (17 + T) from fun c => absurd ((nI_leI (a := 34) (by omega) (by omega)).mp c) (by omega)), g1, Option.bind_some, g2, Option.bind_some, r480, show mLn L1 49 = 34 from rfl, if_neg (in_w (n := 17 + T) (by omega) (by omega) (show 49 < mNc L1 by decide)), ld, nI_add, nI_clamp (by omega), nI_1, ← hC]
    exact eG
theorem jo_72 {par : Nat → Nat} {N : Nat} (hN : N ≤ 34) (hp : ∀ i, par i ≠ 0 → i < par i ∧ par i < N) (hpb : ∀ i, par i < 34) : ∀ (i : Nat) (F : Mem) (fu : Nat), i + 1 ≤ N → i < fu → (∀ j, j < 34 → F 50 j = nI (par j)) → (∀ j, j < 34 → F 51 j = nI (if i ≤ j then lnF par 40 j else 0)) → F 48 3 = nI (mxD (lnF par 40) (N - 1 - i) i) →
    ∃ G, f_Jo_findLengths_72 L1 fu 48 (nI i - 1) F = some G ∧ (∀ j, j < 34 → G 51 j = nI (lnF par 40 j)) ∧ G 48 3 = nI (mxD (lnF par 40) (N - 1) 0) ∧ Fr [48, 51] F G := by
  have lb : ∀ f i, lnF par f i ≤ f := fun f => by
    induction f with
    | zero => exact fun i => Nat.le_refl _
    | succ f ih =>
      intro i
      have := ih (par i)
      unfold lnF
      split <;> omega
  have mb' : ∀ d i, mxD (lnF par 40) d i ≤ 40 := fun d i => mxD_lub (fun j _ _ => lb 40 j)
  intro i
  induction i with
  | zero =>
    intro F fu hi hf h50 h51 h3
    obtain ⟨fu, rfl⟩ : ∃ k, fu = k + 1 := ⟨fu - 1, by omega⟩
    refine ⟨F, ?_, fun j hj => by rw [h51 j hj, if_pos (Nat.zero_le _)], h3, Fr.rf⟩
    show b_Jo_findLengths_72 L1 (f_Jo_findLengths_72 L1 fu) 48 (nI 0 - 1) F = _
    unfold b_Jo_findLengths_72
    rw [if_pos (by decide)]
  | succ i ih =>
    intro F fu hi hf h50 h51 h3
    obtain ⟨fu, rfl⟩ : ∃ k, fu = k + 1 := ⟨fu - 1, by omega⟩
    have e50 : mGa L1 F 50 (nI i).toNatClampNeg = nI (par i) := by rw [mGa_n (show 50 < mNc L1 by decide), nI_clamp (by omega), h50 i (by omega)]
    have em : mxD (lnF par 40) (N - 1 - i) i = max (lnF par 40 i) (mxD (lnF par 40) (N - 1 - (i + 1)) (i + 1)) := by
      rw [show N - 1 - i = (N - 1 - (i + 1)) + 1 by omega]
      rfl
    have le := ln_eq (N := N) (by omega) hp i
    have pi := hpb i
    have lbi := lb 40 i
    have mbi := mb' (N - 1 - (i + 1)) (i + 1)
    show ∃ G, b_Jo_findLengths_72 L1 (f_Jo_findLengths_72 L1 fu) 48 (nI (i + 1) - 1) F = _ ∧ _
    unfold b_Jo_findLengths_72 b_Jo_findLengths_121
    rw [nI_pred, if_neg (nI_pos (by omega)), r481, r482, show mGl L1 50 = 34 from rfl, show mGl L1 51 = 34 from rfl, show mLn L1 51 = 34 from rfl, if_neg (inb_no (n := i) (by omega) (by omega)), e50, ← Int32.sub_eq_add_neg]
    by_cases p0 : par i = 0
    · rw [if_pos (show nI (par i) ≤ 0 by rw [p0]; decide)]
      rw [if_pos p0] at le
      refine ih F fu (by omega) (by omega) h50 (fun j hj => ?_) ?_
      · rw [h51 j hj]
        congr 1
        by_cases q : i = j
        · rw [if_neg (by omega), if_pos (by omega), ← q, le]
        · by_cases q2 : i + 1 ≤ j
          · rw [if_pos q2, if_pos (by omega)]
          · rw [if_neg q2, if_neg (by omega)]
      · rw [h3, em, le]
        congr 1
    · have hpi := hp i p0
      rw [if_neg p0] at le
      have lbp := lb 40 (par i)
      rw [if_neg (show ¬ nI (par i) ≤ 0 from fun c => absurd ((nI_leI (b := 0) (by omega) (by omega)).mp c) (by omega)), if_neg (inb_no (n := i) (by omega) (by omega)), if_neg (inb_no (n := par i) (by omega) (by omega)), if_neg (in_w (n := i) (by omega) (by omega) (show 51 < mNc L1 by decide)), ld]
      have e51 : mGa L1 F 51 (nI (par i)).toNatClampNeg = nI (lnF par 40 (par i)) := by rw [mGa_n (show 51 < mNc L1 by decide), nI_clamp (by omega), h51 (par i) (by omega), if_pos (by omega)]
      rw [e51, nI_1, ← le, if_neg (inb_no (n := i) (by omega) (by omega)), nI_clamp (by omega)]
      obtain ⟨A, hA⟩ : ∃ A, A = u2 F 51 i (nI (lnF par 40 i)) := ⟨_, rfl⟩
      rw [← hA, ld, show A 48 3 = nI (mxD (lnF par 40) (N - 1 - (i + 1)) (i + 1)) by rw [hA, u2_c (by decide)]; exact h3, show mGa L1 A 51 i = nI (lnF par 40 i) by rw [mGa_n (show 51 < mNc L1 by decide), hA, u2_s]]
      have emx : (if nI (mxD (lnF par 40) (N - 1 - (i + 1)) (i + 1)) < nI (lnF par 40 i) then nI (lnF par 40 i) else nI (mxD (lnF par 40) (N - 1 - (i + 1)) (i + 1))) = nI (mxD (lnF par 40) (N - 1 - i) i) := by
        rw [em]
        by_cases q : mxD (lnF par 40) (N - 1 - (i + 1)) (i + 1) < lnF par 40 i
        · rw [ilt q (by omega)]
          congr 1
          omega
        · rw [iltn (by omega) (by omega)]
          congr 1
          omega
      rw [emx]
      obtain ⟨G, eG, g1, g2, fG⟩ := ih (u2 A 48 3 (nI (mxD (lnF par 40) (N - 1 - i) i))) fu (by omega) (by omega) (fun j hj => by rw [u2_c (by decide), hA, u2_c (by decide)]; exact h50 j hj) (fun j hj => by
        rw [u2_c (by decide), hA]
        by_cases q : j = i
        · rw [q, u2_s, if_pos (Nat.le_refl _)]
        · rw [u2_p q, h51 j hj]
          congr 1
          by_cases q2 : i + 1 ≤ j
          · rw [if_pos q2, if_pos (by omega)]
          · rw [if_neg q2, if_neg (by omega)]) u2_s
      refine ⟨G, eG, g1, g2, ?_⟩
      have : Fr [48, 51] F (u2 A 48 3 (nI (mxD (lnF par 40) (N - 1 - i) i))) := by
        rw [hA]
        exact (Fr.u (by simp)).tr (Fr.u (by simp))
      exact this.tr fG
/-- the depths at the end -/
def dpE (lits : List Nat) (low n : Nat) : Nat → Nat := (jIt n (totS lits low) (thr n (totS lits low) - 1)).2.2
def moE (lits : List Nat) (low n : Nat) : Nat := mxU (dpE lits low n) (n + 1)
theorem thr_b {n : Nat} {tot : Nat → Nat} (hn : n ≤ 16) (hn1 : 1 ≤ n) (t0 : 0 < tot 0) (tn : 0 < tot n) : 2 ≤ thr n tot ∧ thr n tot ≤ 17 := by
  have h1 : thr n tot ≤ 1 * (n + 1) := sumh_le _ 1 (fun i => by split <;> omega) (n + 1)
  have e : thr n tot = sumh (fun g => if 0 < tot g then 1 else 0) n + 1 := by
    show sumh _ n + (if 0 < tot n then 1 else 0) = _
    rw [if_pos tn]
  have := sumh_one (a := fun g => if 0 < tot g then 1 else 0) (n := n) (i := 0) (by omega)
  rw [if_pos t0] at this
  omega
theorem thr_17 {n : Nat} {tot : Nat → Nat} (hn : n ≤ 16) (hz : ∀ i, n < i → tot i = 0) : sumh (fun g => if 0 < tot g then 1 else 0) 17 = thr n tot := by
  have : ∀ d, sumh (fun g => if 0 < tot g then 1 else 0) (n + 1 + d) = thr n tot := fun d => by
    induction d with
    | zero => rfl
    | succ d ih =>
      show sumh _ (n + 1 + d) + (if 0 < tot (n + 1 + d) then 1 else 0) = _
      rw [ih, hz _ (by omega), if_neg (by omega)]
      rfl
  have e := this (16 - n)
  rw [show n + 1 + (16 - n) = 17 by omega] at e
  exact e
theorem jo_there {F : Mem} {tot : Nat → Nat} (hb : ∀ i, tot i ≤ 120) (hc : ∀ i, i < 17 → F 49 i = nI (tot i)) : ∀ (d i fu : Nat), d + i = 17 → d < fu → f_Jo_countThere_4 L1 fu 48 (nI (sumh (fun g => if 0 < tot g then 1 else 0) i)) (nI i) F = some (nI (sumh (fun g => if 0 < tot g then 1 else 0) 17), F) := by
  intro d
  induction d with
  | zero =>
    intro i fu hd hf
    obtain ⟨fu, rfl⟩ : ∃ k, fu = k + 1 := ⟨fu - 1, by omega⟩
    obtain rfl : i = 17 := by omega
    show b_Jo_countThere_4 L1 (f_Jo_countThere_4 L1 fu) 48 _ (nI 17) F = _
    unfold b_Jo_countThere_4
    rw [if_pos (show (17 : Int32) ≤ nI 17 by decide)]
  | succ d ih =>
    intro i fu hd hf
    obtain ⟨fu, rfl⟩ : ∃ k, fu = k + 1 := ⟨fu - 1, by omega⟩
    have nx := ih (i + 1) fu (by omega) (by omega)
    have es : sumh (fun g => if 0 < tot g then 1 else 0) (i + 1) = sumh (fun g => if 0 < tot g then 1 else 0) i + (if 0 < tot i then 1 else 0) := rfl
    have b := hb i
    show b_Jo_countThere_4 L1 (f_Jo_countThere_4 L1 fu) 48 _ (nI i) F = _
    unfold b_Jo_countThere_4 b_Jo_countThere_22
    rw [if_neg (show ¬ (17 : Int32) ≤ nI i from fun c => absurd ((nI_leI (a := 17) (by omega) (by omega)).mp c) (by omega)), r480, show mGl L1 49 = 34 from rfl, if_neg (inb_no (n := i) (by omega) (by omega)), show mGa L1 F 49 (nI i).toNatClampNeg = nI (tot i) by rw [mGa_n (show 49 < mNc L1 by decide), nI_clamp (by omega), hc i (by omega)], nI_1, nI_1]
    by_cases q : 0 < tot i
    · rw [if_neg (show ¬ nI (tot i) ≤ 0 from fun c => absurd ((nI_leI (b := 0) (by omega) (by omega)).mp c) (by omega))]
      rw [es, if_pos q] at nx
      exact nx
    · rw [if_pos (show nI (tot i) ≤ 0 from (nI_leI (b := 0) (by omega) (by omega)).mpr (by omega))]
      rw [es, if_neg q] at nx
      exact nx
theorem jo_find {F : Mem} {lits : List Nat} {low n : Nat} (h : LH lits low n) (hc : ∀ i, i < 34 → F 49 i = nI (if i < 17 then totS lits low i else 0)) : ∃ G, f_Jo_findLengths L1 48 F = some G ∧ (∀ i, i ≤ n → G 51 i = nI (dpE lits low n i)) ∧ G 48 3 = nI (moE lits low n) ∧ JFin n (totS lits low) (dpE lits low n) (moE lits low n) ∧ moE lits low n ≤ 16 ∧ Fr [48, 49, 50, 51] F G := by
  obtain ⟨-, -, -, h4, h5, h6, h7⟩ := id h
  have t0 := h.t0
  have tn := h.tn
  obtain ⟨th1, th2⟩ := thr_b h5 h4 t0 tn
  obtain ⟨A, eA, zA, fA⟩ := arr_fill (a := 50) (N := 34) (by decide) rfl (by decide) F
  obtain ⟨B, eB, zB, fB⟩ := arr_fill (a := 51) (N := 34) (by decide) rfl (by decide) A
  have fFB : Fr [50, 51] F B := (fA.up (by simp)).tr (fB.up (by simp))
  have cB : ∀ i, i < 34 → B 49 i = nI (if i < 17 then totS lits low i else 0) := fun i hi => by rw [fFB 49 (by decide)]; exact hc i hi
  have ct := jo_there (F := B) (tot := totS lits low) (fun i => totS_le h i) (fun i hi => by rw [cB i (by omega), if_pos hi]) 17 0 mFU (by omega) (by unfold mFU; omega)
  rw [thr_17 h5 (fun i hi => h.tz hi)] at ct
  have ct' : f_Jo_countThere L1 48 B = some (nI (thr n (totS lits low)), B) := by
    unfold f_Jo_countThere
    rw [l0]
    exact ct
  have mB' : JM B (fun i => if i < 17 then totS lits low i else 0) (fun _ => 0) := ⟨cB, fun i hi => by rw [fB 50 (by decide), zA i hi]; rfl⟩
  have r0 : JR n (totS lits low) 0 (fun i => if i < 17 then totS lits low i else 0) (fun _ => 0) (jIt n (totS lits low) 0).1 (jIt n (totS lits low) 0).2.1 (jIt n (totS lits low) 0).2.2 := JR.init h5 (fun i hi => if_pos hi) (fun i hi => if_neg (by omega)) (fun i hi _ => h.tz hi)
  obtain ⟨C, cnt', par', eC, mC, rC, aC, fC⟩ := jo_29 h (thr n (totS lits low) - 1) 0 B _ _ mFU (by omega) th2 (by unfold mFU; omega) mB' r0 (by
    show actN n (totS lits low) (fun s => s) + 0 = _
    rw [act_init]
    rfl)
  obtain ⟨k1, k2, k3⟩ := rC.fin h5 h4 (by omega) (by omega) aC t0 tn (fun s hs hz => (jIt_b (n := n) (tot := totS lits low) _ s).2.2 hz)
  obtain ⟨N, hN⟩ : ∃ N, N = 16 + thr n (totS lits low) := ⟨_, rfl⟩
  have hE2 := rC.2.2.2.2.1.2
  have hpN : ∀ i, par' i ≠ 0 → i < par' i ∧ par' i < N := fun i hi => by have := hE2 i hi; omega
  have hpb : ∀ i, par' i < 34 := fun i => by
    rcases Nat.eq_zero_or_pos (par' i) with e | e
    · omega
    · have := hpN i (by omega)
      omega
  have lz : ∀ j, N - 1 ≤ j → lnF par' 40 j = 0 := fun j hj => by
    rw [ln_eq (N := N) (by omega) hpN]
    by_cases q : par' j = 0
    · rw [if_pos q]
    · have := hpN j q
      omega
  have f3 : Fr [48] C (u2 C 48 3 0) := Fr.u (by simp)
  obtain ⟨G, eG, g1, g2, fG⟩ := jo_72 (N := N) (by omega) hpN hpb (N - 1) (u2 C 48 3 0) mFU (by omega) (by unfold mFU; omega) (fun j hj => by rw [u2_c (by decide)]; exact mC.2 j hj) (fun j hj => by
    rw [u2_c (by decide), fC 51 (by decide), zB j hj]
    by_cases q : N - 1 ≤ j
    · rw [if_pos q, lz j q]
      rfl
    · rw [if_neg q]
      rfl) (by rw [u2_s, Nat.sub_self]; rfl)
  refine ⟨G, ?_, fun i hi => ?_, ?_, k3, ?_, ((fFB.up (by simp)).tr (fC.up (by simp))).tr ((f3.up (by simp)).tr (fG.up (by simp)))⟩
  · unfold f_Jo_findLengths
    rw [r481, r482, eA, Option.bind_some, eB, Option.bind_some, ct', Option.bind_some, show ((17 : Int32) + nI (thr n (totS lits low)) - 1) = nI (16 + thr n (totS lits low)) by rw [l17, nI_add, l1, pk_sub (by omega)]; congr 1; omega, l17]
    have eC' : f_Jo_findLengths_29 L1 mFU 48 (nI 17) (nI (16 + thr n (totS lits low))) B = b_Jo_findLengths_63 L1 48 (nI (16 + thr n (totS lits low))) C := eC
    rw [eC', ← hN]
    unfold b_Jo_findLengths_63
    rw [ld, l2, pk_sub (by omega), show N - 2 = N - 1 - 1 by omega, ← pk_sub (show 1 ≤ N - 1 by omega)]
    exact eG
  · rw [g1 i (by omega), k1 i (by omega), if_pos hi]
    rfl
  · rw [g2]
    have e : N - 1 = 16 + (thr n (totS lits low) - 1) := by omega
    rw [e, k2]
    rfl
  · refine mxU_lub (fun s hs => ?_)
    have := (jIt_b (n := n) (tot := totS lits low) (thr n (totS lits low) - 1) s).2.1
    show (jIt n (totS lits low) (thr n (totS lits low) - 1)).2.2 s ≤ 16
    omega
