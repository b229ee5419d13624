/-! pure: how literals are packed; the class -/
def smL (xs : List Nat) : Nat → Bool
  | 0 => true
  | m + 1 => smL xs m && decide (xs.getD m 0 = xs.getD 0 0)
def lowL (xs : List Nat) : Nat → Nat
  | 0 => 255
  | m + 1 => min (lowL xs m) (xs.getD m 0)
def highL (xs : List Nat) : Nat → Nat
  | 0 => 0
  | m + 1 => max (highL xs m) (xs.getD m 0)
theorem lh_b {xs : List Nat} : ∀ {m k}, k < m → lowL xs m ≤ xs.getD k 0 ∧ xs.getD k 0 ≤ highL xs m
  | 0, k, h => absurd h (by omega)
  | m + 1, k, h => by
    show min (lowL xs m) (xs.getD m 0) ≤ _ ∧ _ ≤ max (highL xs m) (xs.getD m 0)
    rcases Nat.lt_or_ge k m with q | q
    · have := lh_b (xs := xs) q
      omega
    · rw [show k = m by omega]
      omega
theorem low_at {xs : List Nat} (hb : ∀ b ∈ xs, b < 256) : ∀ {m}, 1 ≤ m → ∃ k, k < m ∧ xs.getD k 0 = lowL xs m
  | 0, h => absurd h (by omega)
  | m + 1, _ => by
    show ∃ k, k < m + 1 ∧ xs.getD k 0 = min (lowL xs m) (xs.getD m 0)
    by_cases q : xs.getD m 0 ≤ lowL xs m
    · exact ⟨m, by omega, by omega⟩
    · rcases Nat.eq_zero_or_pos m with e | e
      · subst e
        have := nI_byte hb 0
        exact absurd (show xs.getD 0 0 ≤ 255 by omega) q
      · obtain ⟨k, k1, k2⟩ := low_at hb (xs := xs) e
        exact ⟨k, by omega, by omega⟩
theorem high_at {xs : List Nat} : ∀ {m}, 1 ≤ m → ∃ k, k < m ∧ xs.getD k 0 = highL xs m
  | 0, h => absurd h (by omega)
  | m + 1, _ => by
    show ∃ k, k < m + 1 ∧ xs.getD k 0 = max (highL xs m) (xs.getD m 0)
    by_cases q : highL xs m ≤ xs.getD m 0
    · exact ⟨m, by omega, by omega⟩
    · rcases Nat.eq_zero_or_pos m with e | e
      · subst e
        exact absurd (Nat.zero_le _) q
      · obtain ⟨k, k1, k2⟩ := high_at (xs := xs) e
        exact ⟨k, by omega, by omega⟩
theorem sm_iff {xs : List Nat} : ∀ {m}, smL xs m = true ↔ ∀ k, k < m → xs.getD k 0 = xs.getD 0 0
  | 0 => ⟨fun _ k hk => absurd hk (by omega), fun _ => rfl⟩
  | m + 1 => by
    show (smL xs m && decide (xs.getD m 0 = xs.getD 0 0)) = true ↔ _
    rw [Bool.and_eq_true, decide_eq_true_iff, sm_iff (m := m)]
    refine ⟨fun ⟨h1, h2⟩ k hk => ?_, fun h => ⟨fun k hk => h k (by omega), h m (by omega)⟩⟩
    rcases Nat.lt_or_ge k m with q | q
    · exact h1 k q
    · rw [show k = m by omega]; exact h2
def loS (xs : List Nat) : Nat := lowL xs xs.length
def nS (xs : List Nat) : Nat := highL xs xs.length - lowL xs xs.length
def wtE (xs : List Nat) : Nat → Nat := wtS (totS xs (loS xs)) (dpE xs (loS xs) (nS xs)) (moE xs (loS xs) (nS xs))
def moX (xs : List Nat) : Nat := moE xs (loS xs) (nS xs)
def syB (xs : List Nat) (s : Nat) : List Nat := bitsS (jshr (nI (startS (wtE xs) (nS xs) s)) (nI (wtE xs s) - 1)) (moX xs + 1 - wtE xs s)
def sbL (xs : List Nat) : Nat → List Nat
  | 0 => []
  | m + 1 => sbL xs m ++ syB xs (xs.getD m 0 - loS xs)
def prL (wt : Nat → Nat) (n : Nat) : Nat → Nat → List Nat
  | _, 0 => []
  | k, d + 1 => (16 * wt (2 * k) + (if 2 * k + 1 < n then wt (2 * k + 1) else 0)) :: prL wt n (k + 1) d
def trB (xs : List Nat) : Bool := decide (2 ≤ xs.length ∧ nS xs ≤ 16 ∧ 1 ≤ nS xs ∧ moX xs ≤ 7 ∧ 2 + (nS xs + 1) / 2 + 1 + ((sbL xs xs.length).length / 8 + 1) < xs.length)
def treeBy (xs : List Nat) : List Nat := [4 * xs.length + 2, loS xs, nS xs] ++ prL (wtE xs) (nS xs) 0 ((nS xs + 1) / 2) ++ [(sbL xs xs.length).length / 8 + 1] ++ strmS (sbL xs xs.length)
def litBy (xs : List Nat) : List Nat := if 1 < xs.length ∧ smL xs xs.length = true then [4 * xs.length + 1, xs.getD 0 0] else if trB xs = true then treeBy xs else (4 * xs.length) :: xs
theorem prL_len (wt : Nat → Nat) (n : Nat) : ∀ d k, (prL wt n k d).length = d
  | 0, k => rfl
  | d + 1, k => by simp [prL, prL_len wt n d (k + 1)]
theorem litBy_len (xs : List Nat) : (litBy xs).length ≤ xs.length + 1 := by
  unfold litBy
  split
  · rename_i q
    simp
    omega
  · split
    · rename_i q
      have q' := of_decide_eq_true q
      unfold treeBy
      simp only [List.length_append, List.length_cons, List.length_nil, prL_len, strmS_len]
      omega
    · simp
theorem lh_of {xs : List Nat} (hb : ∀ b ∈ xs, b < 256) (hl : 2 ≤ xs.length) (hl2 : xs.length ≤ 120) (h1 : 1 ≤ nS xs) (h16 : nS xs ≤ 16) : LH xs (loS xs) (nS xs) := by
  obtain ⟨k, k1, k2⟩ := low_at hb (xs := xs) (m := xs.length) (by omega)
  obtain ⟨j, j1, j2⟩ := high_at (xs := xs) (m := xs.length) (by omega)
  have b := nI_byte hb k
  unfold nS loS at *
  refine ⟨fun i hi => ?_, ⟨k, k1, k2⟩, ⟨j, j1, by omega⟩, h1, h16, hl2, by omega⟩
  have := lh_b (xs := xs) hi
  omega
theorem wtE_b {xs : List Nat} (h : LH xs (loS xs) (nS xs)) (hf : JFin (nS xs) (totS xs (loS xs)) (dpE xs (loS xs) (nS xs)) (moX xs)) {s : Nat} (hs : s ≤ nS xs) : wtE xs s ≤ moX xs ∧ (0 < totS xs (loS xs) s → 1 ≤ wtE xs s) := by
  unfold wtE wtS
  have e : moE xs (loS xs) (nS xs) = moX xs := rfl
  rw [e]
  by_cases t : totS xs (loS xs) s = 0
  · rw [if_pos t]
    exact ⟨by omega, fun c => by omega⟩
  · have := hf.1 s hs (by omega)
    rw [if_neg t]
    exact ⟨by omega, fun _ => by omega⟩
theorem sbL_len {xs : List Nat} (hm : moX xs ≤ 7) : ∀ m, (sbL xs m).length ≤ 8 * m
  | 0 => Nat.le_refl _
  | m + 1 => by
    have := sbL_len hm m
    show (sbL xs m ++ syB xs _).length ≤ _
    rw [List.length_append]
    unfold syB
    rw [bitsS_len]
    omega
theorem sbL_b (xs : List Nat) : ∀ m, ∀ b ∈ sbL xs m, b < 2
  | 0 => by simp [sbL]
  | m + 1 => app_b (sbL_b xs m) (bitsS_b _ _)
theorem tot_at {xs : List Nat} {low k : Nat} (hk : k < xs.length) (hl : low ≤ xs.getD k 0) : 0 < totS xs low (xs.getD k 0 - low) := cntL_pos hk (by omega)
/-! the class's rows -/
theorem row_same2 {L : La} {F : Mem} {i a cap : Nat} {xs : List Nat} (hs : RS L i a cap) (hd : RD F i a xs) (hl : xs.length ≤ cap) (hb : ∀ b ∈ xs, b < 256) : ∀ (d m fu : Nat), d + m = xs.length → d < fu → 1 ≤ m → smL xs m = true → f_Row_isOneByteOnly_2 L fu i (nI m) F = some (if smL xs xs.length = true then 1 else 0, F) := by
  have hc := hs.2.2.2.2
  intro d
  induction d with
  | zero =>
    intro m fu hd' hf hm hsm
    obtain ⟨fu, rfl⟩ : ∃ k, fu = k + 1 := ⟨fu - 1, by omega⟩
    obtain rfl : m = xs.length := by omega
    show b_Row_isOneByteOnly_2 L (f_Row_isOneByteOnly_2 L fu) i (nI xs.length) F = _
    unfold b_Row_isOneByteOnly_2 b_Row_isOneByteOnly_45
    rw [hd.1, ile (Nat.le_refl _) (by omega), if_neg (show ¬ nI xs.length ≤ 0 from fun c => absurd ((nI_leI (b := 0) (by omega) (by omega)).mp c) (by omega)), if_pos zb1, if_pos hsm]
  | succ d ih =>
    intro m fu hd' hf hm hsm
    obtain ⟨fu, rfl⟩ : ∃ k, fu = k + 1 := ⟨fu - 1, by omega⟩
    have y1 := nI_byte hb m
    have y2 := nI_byte hb 0
    show b_Row_isOneByteOnly_2 L (f_Row_isOneByteOnly_2 L fu) i (nI m) F = _
    unfold b_Row_isOneByteOnly_2
    rw [hd.1, ilen (by omega) (by omega), hs.1, hs.gl, if_neg (inb_no (n := m) (by omega) (by omega)), if_neg (show ¬ inb (0 : Int32) cap from inb_no (n := 0) (by omega) (by omega)), show mGa L F a (nI m).toNatClampNeg = nI (xs.getD m 0) by rw [hs.ga, nI_clamp (by omega), hd.2 m (by omega)], show mGa L F a (0 : Int32).toNatClampNeg = nI (xs.getD 0 0) by rw [hs.ga]; exact hd.2 0 (by omega), nI_1]
    by_cases q : xs.getD m 0 = xs.getD 0 0
    · rw [ieq q]
      exact ih (m + 1) fu (by omega) (by omega) (by omega) (by show (smL xs m && _) = true; rw [hsm, decide_eq_true q]; rfl)
    · rw [ieqn q (by omega) (by omega), if_pos zb0, if_neg (fun c => q (sm_iff.mp c m (by omega)))]
theorem row_same {L : La} {F : Mem} {i a cap : Nat} {xs : List Nat} (hs : RS L i a cap) (hd : RD F i a xs) (hl : xs.length ≤ cap) (hb : ∀ b ∈ xs, b < 256) (h4 : xs.length < 4000) : f_Row_isOneByteOnly L i F = some (if 0 < xs.length ∧ smL xs xs.length = true then 1 else 0, F) := by
  rcases Nat.eq_zero_or_pos xs.length with e | e
  · unfold f_Row_isOneByteOnly
    show b_Row_isOneByteOnly_2 L (f_Row_isOneByteOnly_2 L 4095) i 1 F = _
    unfold b_Row_isOneByteOnly_2 b_Row_isOneByteOnly_45
    rw [hd.1, e, if_pos (show nI 0 ≤ (1 : Int32) by decide), if_pos (show nI 0 ≤ (0 : Int32) by decide), if_pos zb0, if_neg (by omega)]
  · have := row_same2 hs hd hl hb (xs.length - 1) 1 mFU (by omega) (by unfold mFU; omega) (by omega) (by simp [smL])
    unfold f_Row_isOneByteOnly
    rw [l1, this]
    by_cases q : smL xs xs.length = true
    · rw [if_pos q, if_pos ⟨e, q⟩]
      rfl
    · rw [if_neg q, if_neg (fun c => q c.2)]
/-! the class's tree of the packer -/
theorem to52 : TO3 L1 52 53 54 55 := ⟨⟨rfl, rfl, rfl⟩, ⟨by decide, by decide, by decide⟩, ⟨rfl, rfl, rfl⟩, ⟨by decide, by decide, by decide⟩, ⟨by decide, by decide, by decide⟩⟩
theorem pk_gr41 {xs : List Nat} (h : LH xs (loS xs) (nS xs)) (hf : JFin (nS xs) (totS xs (loS xs)) (dpE xs (loS xs) (nS xs)) (moX xs)) (hm : moX xs ≤ 7) : ∀ (d i : Nat) (F : Mem) (fu : Nat), d + i = nS xs + 1 → d < fu → (∀ j, j ≤ nS xs → F 51 j = nI (dpE xs (loS xs) (nS xs) j)) → F 48 3 = nI (moX xs) → (∀ j, j < i → F 53 j = nI (wtE xs j)) → F 52 3 = nI (loS xs) →
    ∃ G, f_Pk_growTree_41 L1 fu 43 (nI (nS xs)) (nI i) F = some (1, G) ∧ G 52 3 = nI (loS xs) ∧ G 52 4 = nI (moX xs) ∧ (∀ s, s ≤ nS xs → G 53 s = nI (wtE xs s)) ∧ (∀ s, s ≤ nS xs → 0 < wtE xs s → G 54 s = nI (startS (wtE xs) (nS xs) s)) ∧ Fr [52, 53, 54, 55] F G := by
  obtain ⟨-, -, -, h4, h5, h6, h7⟩ := id h
  have dz : ∀ s, totS xs (loS xs) s = 0 → dpE xs (loS xs) (nS xs) s = 0 := fun s hz => (jIt_b (n := nS xs) (tot := totS xs (loS xs)) _ s).2.2 hz
  intro d
  induction d with
  | zero =>
    intro i F fu hd hf' h51 h3 hw hl
    obtain ⟨fu, rfl⟩ : ∃ k, fu = k + 1 := ⟨fu - 1, by omega⟩
    obtain rfl : i = nS xs + 1 := by omega
    have tk := tree_ok hf h4 h.t0 h.tn hm
    have tk1 : compS (wtE xs) (nS xs) := tk.1
    have tk2 : fullW (wtE xs) (nS xs) = wtE xs := tk.2.1
    have tk3 : Nat.log2 (sumW (wtE xs) (nS xs)) + 1 = moX xs := tk.2.2
    have wb : ∀ s, s ≤ nS xs → wtE xs s < 16 := fun s hs => by have := (wtE_b h hf hs).1; omega
    obtain ⟨A, r, eA, k1, k2, k3, k4, fA⟩ := tr_complete to52 h5 (F := F) (wt := wtE xs) (fun j hj => ⟨hw j (by omega), wb j (by omega)⟩)
    obtain ⟨r1, r2, r3⟩ := k1 tk1
    have tg := comp_good (f := 0) tk1 h4 h5 (by omega)
    rw [tk2, tk3] at tg
    have wn : Nat.log2 (restW (wtE xs) (nS xs)) + 1 = wtE xs (nS xs) := by
      have := congrFun tk2 (nS xs)
      unfold fullW at this
      rw [if_pos rfl] at this
      exact this
    have wA : ∀ s, s ≤ nS xs → A 53 s = nI (wtE xs s) := fun s hs => by
      by_cases q : s = nS xs
      · rw [q, r2, wn]
      · rw [k3 s q]
        exact hw s (by omega)
    have h128 : (ownL (wtE xs) (nS xs) 7).length ≤ 128 := by
      have e4 := tg.2.2.2.2
      dsimp only at e4
      rw [e4]
      exact Nat.pow_le_pow_right (n := 2) (by decide) hm
    obtain ⟨B, eB, oB, sB, fB⟩ := tr_deal to52 h5 h128 (F := A) (fun s hs => ⟨wA s hs, wb s hs⟩)
    refine ⟨B, ?_, ?_, ?_, fun s hs => by rw [fB 53 (by decide)]; exact wA s hs, fun s hs hp => sB s hs hp (by have := (wtE_b h hf hs).1; omega), (fA.up (by simp)).tr (fB.up (by simp))⟩
    · show b_Pk_growTree_41 L1 (f_Pk_growTree_41 L1 fu) 43 (nI (nS xs)) (nI (nS xs + 1)) F = _
      unfold b_Pk_growTree_41
      rw [ilt (by omega) (by omega), r437, eA, Option.bind_some]
      rw [if_neg (show ¬ r = 0 by rw [r1]; decide), eB, Option.bind_some, if_pos zb1]
    · rw [fB 52 (by decide), k4 3 (by decide)]
      exact hl
    · rw [fB 52 (by decide), r3, tk3]
  | succ d ih =>
    intro i F fu hd hf' h51 h3 hw hl
    obtain ⟨fu, rfl⟩ : ∃ k, fu = k + 1 := ⟨fu - 1, by omega⟩
    have f1 : Fr [52, 53, 54, 55] F (u2 F 53 i (nI (wtE xs i))) := Fr.u (by simp)
    obtain ⟨G, eG, g1, g2, g3, g4, fG⟩ := ih (i + 1) (u2 F 53 i (nI (wtE xs i))) fu (by omega) (by omega) (fun j hj => by rw [u2_c (by decide)]; exact h51 j hj) (by rw [u2_c (by decide)]; exact h3) (fun j hj => by
      by_cases q : j = i
      · rw [q, u2_s]
      · rw [u2_p q]; exact hw j (by omega)) (by rw [u2_c (by decide)]; exact hl)
    refine ⟨G, ?_, g1, g2, g3, g4, f1.tr fG⟩
    have e89 : ∀ y : Int32, y = nI (wtE xs i) → b_Pk_growTree_89 L1 (f_Pk_growTree_41 L1 fu) 43 (nI (nS xs)) (nI i) 53 (nI i) y F = some (1, G) := fun y hy => by
      unfold b_Pk_growTree_89
      rw [show mLn L1 53 = 17 from rfl, if_neg (in_w (n := i) (by omega) (by omega) (show 53 < mNc L1 by decide)), ld, nI_clamp (by omega), nI_1, hy]
      exact eG
    show b_Pk_growTree_41 L1 (f_Pk_growTree_41 L1 fu) 43 (nI (nS xs)) (nI i) F = _
    unfold b_Pk_growTree_41
    rw [iltn (by omega) (by omega), r436, r437, r482, show mRf L1 52 0 = 53 from rfl, show mGl L1 51 = 34 from rfl, if_neg (inb_no (n := i) (by omega) (by omega)), show mGa L1 F 51 (nI i).toNatClampNeg = nI (dpE xs (loS xs) (nS xs) i) by rw [mGa_n (show 51 < mNc L1 by decide), nI_clamp (by omega), h51 i (by omega)], h3]
    have ew : wtE xs i = if totS xs (loS xs) i = 0 then 0 else moX xs + 1 - dpE xs (loS xs) (nS xs) i := rfl
    by_cases t : totS xs (loS xs) i = 0
    · rw [if_pos (show nI (dpE xs (loS xs) (nS xs) i) = 0 by rw [dz i t]; rfl)]
      refine e89 0 ?_
      rw [ew, if_pos t]
      rfl
    · have := hf.1 i (by omega) (by omega)
      rw [if_neg (show ¬ nI (dpE xs (loS xs) (nS xs) i) = 0 from nne (b := 0) (by omega) (by omega) (by omega)), nI_1, pk_sub (by omega)]
      refine e89 _ ?_
      rw [ew, if_neg t]
theorem pk_grow {F : Mem} {xs : List Nat} (h : LH xs (loS xs) (nS xs)) (hr : RD F 60 61 xs) : ∃ G r, f_Pk_growTree L1 43 60 (nI (loS xs)) (nI (nS xs)) F = some (r, G) ∧ JFin (nS xs) (totS xs (loS xs)) (dpE xs (loS xs) (nS xs)) (moX xs) ∧ (moX xs ≤ 7 → r = 1 ∧ G 52 3 = nI (loS xs) ∧ G 52 4 = nI (moX xs) ∧ (∀ s, s ≤ nS xs → G 53 s = nI (wtE xs s)) ∧ (∀ s, s ≤ nS xs → 0 < wtE xs s → G 54 s = nI (startS (wtE xs) (nS xs) s))) ∧ (¬ moX xs ≤ 7 → r = 0) ∧ Fr [48, 49, 50, 51, 52, 53, 54, 55] F G := by
  obtain ⟨A, eA, cA, fA⟩ := jo_count h hr
  obtain ⟨B, eB, b1, b2, b3, b4, fB⟩ := jo_find h cA
  have b2' : B 48 3 = nI (moX xs) := b2
  have b4' : moX xs ≤ 16 := b4
  have fFB : Fr [48, 49, 50, 51, 52, 53, 54, 55] F B := (fA.up (by simp)).tr (fB.up (by simp))
  unfold f_Pk_growTree
  rw [r436, eA, Option.bind_some, eB, Option.bind_some, b2', l7]
  by_cases q : moX xs ≤ 7
  · rw [ile q (by omega), r437, ld]
    have f1 : Fr [48, 49, 50, 51, 52, 53, 54, 55] B (u2 B 52 3 (nI (loS xs))) := Fr.u (by simp)
    obtain ⟨G, eG, g1, g2, g3, g4, fG⟩ := pk_gr41 h b3 q (nS xs + 1) 0 (u2 B 52 3 (nI (loS xs))) mFU (by omega) (by have := h.2.2.2.2.1; unfold mFU; omega) (fun j hj => by rw [u2_c (by decide)]; exact b1 j hj) (by rw [u2_c (by decide)]; exact b2') (fun j hj => absurd hj (by omega)) u2_s
    refine ⟨G, 1, ?_, b3, fun _ => ⟨rfl, g1, g2, g3, g4⟩, fun c => absurd q c, (fFB.tr f1).tr (fG.up (by simp))⟩
    rw [l0]
    exact eG
  · rw [ilen (by omega) (by omega), if_pos zb0]
    exact ⟨B, 0, rfl, b3, fun c => absurd c q, fun _ => rfl, fFB⟩
