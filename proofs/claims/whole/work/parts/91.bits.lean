/-! pure: rows of bits and the streams made of them -/
theorem j_div8 {a : Nat} (ha : a < 2 ^ 31) : nI a / 8 = nI (a / 8) := pk_div ha (by decide) (by decide)
def bitV (x : Int32) (k : Nat) : Nat := (jshr x (nI k) &&& 1).toBitVec.toNat
theorem bitV_eq (x : Int32) (k : Nat) : jshr x (nI k) &&& 1 = nI (bitV x k) ∧ bitV x k < 2 := by
  obtain ⟨b, hb, e⟩ := pk_andE (jshr x (nI k)) (m := 1) 1 rfl
  have e' : jshr x (nI k) &&& 1 = nI b := e
  have : bitV x k = b := by
    unfold bitV
    rw [e', pk_tn (by omega)]
  rw [this]
  exact ⟨e', hb⟩
/-- the lowest n bits of x, the highest of them first -/
def bitsS (x : Int32) : Nat → List Nat
  | 0 => []
  | n + 1 => bitV x n :: bitsS x n
theorem bitsS_len (x : Int32) : ∀ n, (bitsS x n).length = n
  | 0 => rfl
  | n + 1 => by simp [bitsS, bitsS_len x n]
theorem bitsS_b (x : Int32) : ∀ n, ∀ b ∈ bitsS x n, b < 2
  | 0, b, h => absurd h (by simp [bitsS])
  | n + 1, b, h => by
    rcases List.mem_cons.mp h with h | h
    · rw [h]; exact (bitV_eq x n).2
    · exact bitsS_b x n b h
theorem rs46 : RS L1 46 47 1280 := ⟨rfl, by decide, rfl, by decide, by decide⟩
theorem rs44 : RS L1 44 45 256 := ⟨rfl, by decide, rfl, by decide, by decide⟩
theorem RD.push {F : Mem} {i a : Nat} {xs : List Nat} (h : RD F i a xs) (hia : a ≠ i) (b : Nat) : RD (u2 (u2 F a xs.length (nI b)) i 1 (nI (xs.length + 1))) i a (xs ++ [b]) := by
  refine ⟨by rw [u2_s]; simp, fun j hj => ?_⟩
  rw [u2_c hia]
  by_cases e : j = xs.length
  · subst e
    rw [u2_s]; simp
  · have h6 : j < xs.length := by simp at hj; omega
    rw [u2_p e, h.2 j h6]
    simp [List.getD_eq_getElem?_getD, List.getElem?_append_left h6]
theorem br_add4 (x : Int32) : ∀ (n : Nat) (F : Mem) (bs : List Nat) (fu : Nat), n < fu → n ≤ 31 → RD F 46 47 bs → bs.length + n ≤ 1280 → ∃ G, f_Br_add_4 L1 fu 46 x (nI n - 1) F = some G ∧ RD G 46 47 (bs ++ bitsS x n) ∧ Fr [46, 47] F G := by
  intro n
  induction n with
  | zero =>
    intro F bs fu hf h31 h hl
    obtain ⟨fu, rfl⟩ : ∃ k, fu = k + 1 := ⟨fu - 1, by omega⟩
    refine ⟨F, ?_, by simpa [bitsS] using h, Fr.rf⟩
    show b_Br_add_4 L1 (f_Br_add_4 L1 fu) 46 x (nI 0 - 1) F = _
    unfold b_Br_add_4
    rw [if_pos (by decide)]
  | succ n ih =>
    intro F bs fu hf h31 h hl
    obtain ⟨fu, rfl⟩ : ∃ k, fu = k + 1 := ⟨fu - 1, by omega⟩
    have d1 := h.push (by decide) (bitV x n)
    obtain ⟨G, e, g1, f⟩ := ih _ (bs ++ [bitV x n]) fu (by omega) (by omega) d1 (by simp; omega)
    refine ⟨G, ?_, by simpa [bitsS] using g1, ((Fr.u (by simp)).tr (Fr.u (by simp))).tr f⟩
    show b_Br_add_4 L1 (f_Br_add_4 L1 fu) 46 x (nI (n + 1) - 1) F = _
    unfold b_Br_add_4 b_Br_add_44
    rw [nI_pred, if_neg (nI_pos (by omega)), rs46.1, rs46.gl, h.1, ilen (by omega) (by omega), show mLn L1 47 = 1280 from rfl, if_neg (in_w (n := bs.length) (by omega) (by omega) (show 47 < mNc L1 by decide)), ld, ld, nI_clamp (by omega), (bitV_eq x n).1, u2_c (show (46 : Nat) ≠ 47 by decide), h.1, nI_1, ← Int32.sub_eq_add_neg]
    exact e
theorem br_add {F : Mem} {bs : List Nat} (h : RD F 46 47 bs) (x : Int32) {n : Nat} (hn : n ≤ 31) (hl : bs.length + n ≤ 1280) : ∃ G, f_Br_add L1 46 x (nI n) F = some G ∧ RD G 46 47 (bs ++ bitsS x n) ∧ Fr [46, 47] F G := br_add4 x n F bs mFU (by unfold mFU; omega) hn h hl
theorem r035 : mRf L2 0 35 = 20 := rfl
theorem r037 : mRf L2 0 37 = 21 := rfl
theorem m20 : mLn L2 20 = 700 := rfl
theorem m21 : mLn L2 21 = 1600 := rfl
theorem gl20 : mGl L2 20 = 700 := rfl
theorem gl21 : mGl L2 21 = 1600 := rfl
theorem ga20 (F : Mem) (j : Nat) : mGa L2 F 20 j = F 20 j := if_pos (by decide)
theorem ga21 (F : Mem) (j : Nat) : mGa L2 F 21 j = F 21 j := if_pos (by decide)
theorem md_push4 (x : Int32) : ∀ (n : Nat) (F : Mem) (bs : List Nat) (fu : Nat), n < fu → n ≤ 31 → MD F 36 21 bs → bs.length + n ≤ 1600 → ∃ G, f_Md_push_4 L2 fu 0 x (nI n - 1) F = some G ∧ MD G 36 21 (bs ++ bitsS x n) ∧ Fm [36] [21] F G := by
  intro n
  induction n with
  | zero =>
    intro F bs fu hf h31 h hl
    obtain ⟨fu, rfl⟩ : ∃ k, fu = k + 1 := ⟨fu - 1, by omega⟩
    refine ⟨F, ?_, by simpa [bitsS] using h, Fm.rf⟩
    show b_Md_push_4 L2 (f_Md_push_4 L2 fu) 0 x (nI 0 - 1) F = _
    unfold b_Md_push_4
    rw [if_pos (by decide)]
  | succ n ih =>
    intro F bs fu hf h31 h hl
    obtain ⟨fu, rfl⟩ : ∃ k, fu = k + 1 := ⟨fu - 1, by omega⟩
    obtain ⟨d1, f1⟩ := h.push (by decide) (bitV x n)
    obtain ⟨G, e, g1, f⟩ := ih _ (bs ++ [bitV x n]) fu (by omega) (by omega) d1 (by simp; omega)
    refine ⟨G, ?_, by simpa [bitsS] using g1, f1.tr f⟩
    show b_Md_push_4 L2 (f_Md_push_4 L2 fu) 0 x (nI (n + 1) - 1) F = _
    unfold b_Md_push_4
    rw [nI_pred, if_neg (nI_pos (by omega)), r037, m21, h.1, if_neg (in_w (n := bs.length) (by omega) (by omega) (show 21 < mNc L2 by decide)), ld, ld, nI_clamp (by omega), (bitV_eq x n).1, u2_c (show (0 : Nat) ≠ 21 by decide), h.1, nI_1, ← Int32.sub_eq_add_neg]
    exact e
theorem md_push {F : Mem} {bs : List Nat} (h : MD F 36 21 bs) (x : Int32) {n : Nat} (hn : n ≤ 31) (hl : bs.length + n ≤ 1600) : ∃ G, f_Md_push L2 0 x (nI n) F = some G ∧ MD G 36 21 (bs ++ bitsS x n) ∧ Fm [36] [21] F G := md_push4 x n F bs mFU (by unfold mFU; omega) hn h hl
theorem md_add {F : Mem} {ps : List Nat} (h : MD F 34 20 ps) (hl : ps.length < 700) (b : Nat) : ∃ G, f_Md_add L2 0 (nI b) F = some G ∧ MD G 34 20 (ps ++ [b]) ∧ Fm [34] [20] F G := by
  obtain ⟨d1, f1⟩ := h.push (by decide) b
  refine ⟨_, ?_, d1, f1⟩
  unfold f_Md_add
  rw [r035, m20, h.1, if_neg (in_w (n := ps.length) (by omega) (by omega) (show 20 < mNc L2 by decide)), ld, ld, nI_clamp (by omega), u2_c (by decide), h.1, nI_1]
/-! streams -/
def ovS (bs : List Nat) (j : Nat) : Nat := if j < bs.length then bs.getD (bs.length - 1 - j) 0 else if j = bs.length then 1 else 0
def bacc (bs : List Nat) (k : Nat) : Nat → Nat → Nat
  | 0, b => b
  | i + 1, b => bacc bs k i (2 * b + ovS bs (8 * k + i))
def strmL (bs : List Nat) : Nat → Nat → List Nat
  | _, 0 => []
  | k, d + 1 => bacc bs k 8 0 :: strmL bs (k + 1) d
def strmS (bs : List Nat) : List Nat := strmL bs 0 (bs.length / 8 + 1)
theorem strmL_len (bs : List Nat) : ∀ d k, (strmL bs k d).length = d
  | 0, k => rfl
  | d + 1, k => by simp [strmL, strmL_len bs d (k + 1)]
theorem strmS_len (bs : List Nat) : (strmS bs).length = bs.length / 8 + 1 := strmL_len bs _ 0
theorem getD_lt2 {bs : List Nat} (hb : ∀ b ∈ bs, b < 2) (j : Nat) : bs.getD j 0 < 2 := by
  by_cases q : j < bs.length
  · exact hb _ (getD_mem q)
  · rw [List.getD_eq_getElem?_getD, List.getElem?_eq_none (by omega)]
    decide
theorem ovS_lt {bs : List Nat} (hb : ∀ b ∈ bs, b < 2) (j : Nat) : ovS bs j < 2 := by
  unfold ovS
  split
  · exact getD_lt2 hb _
  · split <;> omega
theorem bacc_lt {bs : List Nat} (hb : ∀ b ∈ bs, b < 2) (k : Nat) : ∀ i b, bacc bs k i b < (b + 1) * 2 ^ i
  | 0, b => by show b < (b + 1) * 1; omega
  | i + 1, b => by
    have h1 := bacc_lt hb k i (2 * b + ovS bs (8 * k + i))
    have h2 := ovS_lt hb (8 * k + i)
    show bacc bs k i (2 * b + ovS bs (8 * k + i)) < _
    have h3 : (2 * b + ovS bs (8 * k + i) + 1) * 2 ^ i ≤ (2 * (b + 1)) * 2 ^ i := Nat.mul_le_mul_right _ (by omega)
    have h4 : (b + 1) * 2 ^ (i + 1) = (2 * (b + 1)) * 2 ^ i := by rw [Nat.pow_succ, Nat.mul_comm (2 ^ i) 2, ← Nat.mul_assoc, Nat.mul_comm (b + 1) 2]
    omega
theorem byte_lt {bs : List Nat} (hb : ∀ b ∈ bs, b < 2) (k : Nat) : bacc bs k 8 0 < 256 := by
  have := bacc_lt hb k 8 0
  omega
theorem strmS_b {bs : List Nat} (hb : ∀ b ∈ bs, b < 2) : ∀ d k, ∀ b ∈ strmL bs k d, b < 256
  | 0, k, b, h => absurd h (by simp [strmL])
  | d + 1, k, b, h => by
    rcases List.mem_cons.mp h with h | h
    · rw [h]; exact byte_lt hb k
    · exact strmS_b hb d (k + 1) b h
theorem br_over {F : Mem} {bs : List Nat} (h : RD F 46 47 bs) (hl : bs.length ≤ 1280) {j : Nat} (hj : j < 2 ^ 20) : f_Br_bitOver L1 46 (nI j) F = some (nI (ovS bs j), F) := by
  unfold f_Br_bitOver b_Br_bitOver_21 ovS
  rw [h.1]
  by_cases q : j < bs.length
  · rw [ilt q (by omega), if_pos q, l1, pk_sub (by omega), pk_sub (by omega), rs46.1, rs46.gl, if_neg (inb_no (n := bs.length - 1 - j) (by omega) (by omega)), rs46.ga, nI_clamp (by omega), h.2 _ (by omega)]
  · rw [iltn (by omega) (by omega), if_neg q]
    by_cases q2 : j = bs.length
    · rw [ieq q2, if_pos q2]
      rfl
    · rw [ieqn q2 (by omega) (by omega), if_neg q2]
      rfl
theorem br16 {bs : List Nat} (hb : ∀ b ∈ bs, b < 2) (hl : bs.length ≤ 1280) {k : Nat} (hk : k < 2 ^ 16) {F : Mem} (h : RD F 46 47 bs) (k2 : Nat → Nat → Int32 → Mem → Option Mem) : ∀ (i b fu : Nat), i ≤ 8 → i < fu → b < 2 ^ (8 - i) → f_Br_addStreamTo_16 L1 k2 fu 46 44 (nI k) (nI b) (nI i - 1) F = (f_Row_add L1 44 (nI (bacc bs k i b)) F).bind fun F1 => k2 46 44 (nI (k + 1)) F1 := by
  intro i
  induction i with
  | zero =>
    intro b fu hi hf hb2
    obtain ⟨fu, rfl⟩ : ∃ k, fu = k + 1 := ⟨fu - 1, by omega⟩
    show b_Br_addStreamTo_16 L1 k2 (f_Br_addStreamTo_16 L1 k2 fu) 46 44 (nI k) (nI b) (nI 0 - 1) F = _
    unfold b_Br_addStreamTo_16
    rw [if_pos (by decide), nI_1]
    rfl
  | succ i ih =>
    intro b fu hi hf hb2
    obtain ⟨fu, rfl⟩ : ∃ k, fu = k + 1 := ⟨fu - 1, by omega⟩
    have ho := ovS_lt hb (8 * k + i)
    have p8 : 2 ^ (8 - i) = 2 * 2 ^ (8 - (i + 1)) := by rw [show 8 - i = (8 - (i + 1)) + 1 by omega, Nat.pow_succ, Nat.mul_comm]
    have p9 : 2 ^ (8 - (i + 1)) ≤ 2 ^ 8 := Nat.pow_le_pow_right (by decide) (by omega)
    show b_Br_addStreamTo_16 L1 k2 (f_Br_addStreamTo_16 L1 k2 fu) 46 44 (nI k) (nI b) (nI (i + 1) - 1) F = _
    unfold b_Br_addStreamTo_16
    rw [nI_pred, if_neg (nI_pos (by omega)), l8, pk_mul, nI_add, br_over h hl (by omega)]
    dsimp only [Option.bind_some]
    rw [shl1_or (by omega) ho, ← Int32.sub_eq_add_neg]
    exact ih (2 * b + ovS bs (8 * k + i)) fu (by omega) (by omega) (by omega)
theorem br_str2 {bs : List Nat} (hb : ∀ b ∈ bs, b < 2) (hl : bs.length ≤ 1280) : ∀ (d k : Nat) (F : Mem) (xs : List Nat) (fu : Nat), d + k = bs.length / 8 + 1 → d < fu → RD F 46 47 bs → RD F 44 45 xs → xs.length + d ≤ 256 → ∃ G, f_Br_addStreamTo_2 L1 fu 46 44 (nI k) F = some G ∧ RD G 44 45 (xs ++ strmL bs k d) ∧ Fr [44, 45] F G := by
  have en : ∀ F : Mem, RD F 46 47 bs → f_Br_bytesNeeded L1 46 F = some (nI (bs.length / 8 + 1), F) := fun F h => by
    unfold f_Br_bytesNeeded
    rw [h.1, j_div8 (by omega), nI_1]
  intro d
  induction d with
  | zero =>
    intro k F xs fu hd hf h hx hc
    obtain ⟨fu, rfl⟩ : ∃ k, fu = k + 1 := ⟨fu - 1, by omega⟩
    refine ⟨F, ?_, by simpa [strmL] using hx, Fr.rf⟩
    show b_Br_addStreamTo_2 L1 (f_Br_addStreamTo_2 L1 fu) 46 44 (nI k) F = _
    unfold b_Br_addStreamTo_2
    rw [en F h]
    dsimp only [Option.bind_some]
    rw [ile (by omega) (by omega)]
  | succ d ih =>
    intro k F xs fu hd hf h hx hc
    obtain ⟨fu, rfl⟩ : ∃ k, fu = k + 1 := ⟨fu - 1, by omega⟩
    obtain ⟨A, eA, dA, fA⟩ := row_add rs44 hx (by omega) (x := nI (bacc bs k 8 0)) _ (byte_255 (byte_lt hb k))
    obtain ⟨G, eG, gG, fG⟩ := ih (k + 1) A _ fu (by omega) (by omega) (h.fr fA (by decide) (by decide)) dA (by simp; omega)
    refine ⟨G, ?_, by simpa [strmL] using gG, fA.tr fG⟩
    show b_Br_addStreamTo_2 L1 (f_Br_addStreamTo_2 L1 fu) 46 44 (nI k) F = _
    unfold b_Br_addStreamTo_2
    rw [en F h]
    dsimp only [Option.bind_some]
    rw [ilen (by omega) (by omega)]
    have := br16 hb hl (k := k) (by omega) h (f_Br_addStreamTo_2 L1 fu) 8 0 mFU (by omega) (by unfold mFU; omega) (by decide)
    rw [eA] at this
    exact this.trans eG
theorem br_stream {F : Mem} {bs xs : List Nat} (hb : ∀ b ∈ bs, b < 2) (hl : bs.length ≤ 1280) (h : RD F 46 47 bs) (hx : RD F 44 45 xs) (hc : xs.length + (bs.length / 8 + 1) ≤ 256) : ∃ G, f_Br_addStreamTo L1 46 44 F = some G ∧ RD G 44 45 (xs ++ strmS bs) ∧ Fr [44, 45] F G := br_str2 hb hl (bs.length / 8 + 1) 0 F xs mFU (by omega) (by unfold mFU; omega) h hx hc
theorem ms18 {bs : List Nat} (hb : ∀ b ∈ bs, b < 2) (hl : bs.length ≤ 1600) {k : Nat} (hk : k < 2 ^ 16) {G : Mem} (h : MD G 36 21 bs) (k2 : Nat → Int32 → Mem → Option Mem) : ∀ (i b fu : Nat), i ≤ 8 → i < fu → b < 2 ^ (8 - i) → f_Md_addStream_18 L2 k2 fu 0 (nI k) (nI b) (nI i - 1) G = (f_Md_add L2 0 (nI (bacc bs k i b)) G).bind fun F1 => k2 0 (nI (k + 1)) F1 := by
  intro i
  induction i with
  | zero =>
    intro b fu hi hf hb2
    obtain ⟨fu, rfl⟩ : ∃ k, fu = k + 1 := ⟨fu - 1, by omega⟩
    show b_Md_addStream_18 L2 k2 (f_Md_addStream_18 L2 k2 fu) 0 (nI k) (nI b) (nI 0 - 1) G = _
    unfold b_Md_addStream_18
    rw [if_pos (by decide), nI_1]
    rfl
  | succ i ih =>
    intro b fu hi hf hb2
    obtain ⟨fu, rfl⟩ : ∃ k, fu = k + 1 := ⟨fu - 1, by omega⟩
    have ho := ovS_lt hb (8 * k + i)
    have p8 : 2 ^ (8 - i) = 2 * 2 ^ (8 - (i + 1)) := by rw [show 8 - i = (8 - (i + 1)) + 1 by omega, Nat.pow_succ, Nat.mul_comm]
    have p9 : 2 ^ (8 - (i + 1)) ≤ 2 ^ 8 := Nat.pow_le_pow_right (by decide) (by omega)
    have nx := ih (2 * b + ovS bs (8 * k + i)) fu (by omega) (by omega) (by omega)
    show b_Md_addStream_18 L2 k2 (f_Md_addStream_18 L2 k2 fu) 0 (nI k) (nI b) (nI (i + 1) - 1) G = _
    unfold b_Md_addStream_18 b_Md_addStream_73
    rw [nI_pred, if_neg (nI_pos (by omega)), l8, pk_mul, nI_add, h.1, l2, pk_mul, ← Int32.sub_eq_add_neg]
    show _ = (f_Md_add L2 0 (nI (bacc bs k i (2 * b + ovS bs (8 * k + i)))) G).bind _
    rw [← nx]
    unfold ovS
    by_cases q2 : 8 * k + i = bs.length
    · rw [ieq q2, if_neg (by omega), if_pos q2, l1, nI_add]
    · rw [ieqn q2 (by omega) (by omega)]
      by_cases q : 8 * k + i < bs.length
      · rw [ilen (by omega) (by omega), if_pos q, l1, pk_sub (by omega), pk_sub (by omega), r037, gl21, if_neg (inb_no (n := bs.length - 1 - (8 * k + i)) (by omega) (by omega)), ga21, nI_clamp (by omega), h.2 _ (by omega), nI_add]
      · rw [ile (by omega) (by omega), if_neg q, if_neg q2, l0, nI_add]
theorem md_str2 {bs : List Nat} (hb : ∀ b ∈ bs, b < 2) (hl : bs.length ≤ 1600) : ∀ (d k : Nat) (G : Mem) (ps : List Nat) (fu : Nat), d + k = bs.length / 8 + 1 → d < fu → MD G 36 21 bs → MD G 34 20 ps → ps.length + d ≤ 700 → ∃ H, f_Md_addStream_2 L2 fu 0 (nI k) G = some H ∧ MD H 34 20 (ps ++ strmL bs k d) ∧ Fm [34] [20] G H := by
  intro d
  induction d with
  | zero =>
    intro k G ps fu hd hf h hx hc
    obtain ⟨fu, rfl⟩ : ∃ k, fu = k + 1 := ⟨fu - 1, by omega⟩
    refine ⟨G, ?_, by simpa [strmL] using hx, Fm.rf⟩
    show b_Md_addStream_2 L2 (f_Md_addStream_2 L2 fu) 0 (nI k) G = _
    unfold b_Md_addStream_2
    rw [h.1, j_div8 (by omega), show nI (bs.length / 8) = nI (bs.length / 8) from rfl]
    exact if_pos (nI_lt (by omega) (by omega))
  | succ d ih =>
    intro k G ps fu hd hf h hx hc
    obtain ⟨fu, rfl⟩ : ∃ k, fu = k + 1 := ⟨fu - 1, by omega⟩
    obtain ⟨A, eA, dA, fA⟩ := md_add hx (by omega) (bacc bs k 8 0)
    obtain ⟨H, eH, gH, fH⟩ := ih (k + 1) A _ fu (by omega) (by omega) (h.fm fA (by decide) (by decide) (by decide)) dA (by simp; omega)
    refine ⟨H, ?_, by simpa [strmL] using gH, fA.tr fH⟩
    show b_Md_addStream_2 L2 (f_Md_addStream_2 L2 fu) 0 (nI k) G = _
    unfold b_Md_addStream_2
    rw [h.1, j_div8 (by omega)]
    have := ms18 hb hl (k := k) (by omega) h (f_Md_addStream_2 L2 fu) 8 0 mFU (by omega) (by unfold mFU; omega) (by decide)
    rw [eA] at this
    refine (if_neg (fun q => absurd ((nI_ltI (by omega) (by omega)).mp q) (by omega))).trans ?_
    exact this.trans eH
theorem md_stream {G : Mem} {bs ps : List Nat} (hb : ∀ b ∈ bs, b < 2) (hl : bs.length ≤ 1600) (h : MD G 36 21 bs) (hx : MD G 34 20 ps) (hc : ps.length + (bs.length / 8 + 1) ≤ 700) : ∃ H, f_Md_addStream L2 0 G = some H ∧ MD H 34 20 (ps ++ strmS bs) ∧ Fm [34] [20] G H := md_str2 hb hl (bs.length / 8 + 1) 0 G ps mFU (by omega) (by unfold mFU; omega) h hx hc
