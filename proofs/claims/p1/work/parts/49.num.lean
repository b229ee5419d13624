/-! pure: numbers -/
theorem sm_n : ∀ k, k < 32 → ((nI k &&& 31).toBitVec.smod 32).toNat = k := by decide +kernel
theorem su_n : ∀ k, k < 32 → (((nI k).toUInt32 &&& Int32.toUInt32 31).toBitVec % 32).toNat = k := by decide +kernel
theorem jshr_n {n k : Nat} (hn : n < 2 ^ 31) (hk : k < 32) : jshr (nI n) (nI k) = nI (n / 2 ^ k) := pk_shrN hn _ k (sm_n k hk)
theorem jshl_n {n k : Nat} (hk : k < 32) (h : n * 2 ^ k < 2 ^ 32) : jshl (nI n) (nI k) = nI (n * 2 ^ k) := pk_shlN _ k (sm_n k hk) h
theorem jushr_n {n k : Nat} (hn : n < 2 ^ 32) (hk : k < 32) : jushr (nI n) (nI k) = nI (n / 2 ^ k) := pk_ushrN hn _ k (su_n k hk)
theorem nI_inj {a b : Nat} (ha : a < 2 ^ 31) (hb : b < 2 ^ 31) (h : nI a = nI b) : a = b := (nI_eq ha hb).mp h
theorem and_255 (x : Int32) : ∃ b, b < 256 ∧ x &&& 255 = nI b := pk_andE x 8 rfl
theorem byte_255 {b : Nat} (h : b < 256) : nI b &&& 255 = nI b := by rw [pk_andN (by omega) 8 rfl, Nat.mod_eq_of_lt (by omega)]
theorem or_lo {a b k : Nat} (hb : b < 2 ^ k) (h : a * 2 ^ k + b < 2 ^ 32) : nI (a * 2 ^ k) ||| nI b = nI (a * 2 ^ k + b) := by
  apply Int32.toBitVec_inj.mp
  apply BitVec.eq_of_toNat_eq
  have e1 : (nI (a * 2 ^ k) ||| nI b).toBitVec = (nI (a * 2 ^ k)).toBitVec ||| (nI b).toBitVec := rfl
  rw [e1, BitVec.toNat_or, pk_tn (by omega), pk_tn (by omega), pk_tn h, Nat.mul_comm a, Nat.two_pow_add_eq_or_of_lt hb]
theorem l_sm : ∀ k, k < 8 → ((8 * nI k).toInt64 &&& 63).toBitVec.smod 64 = BitVec.ofNat 64 (8 * k) := by decide +kernel
theorem l_um : ∀ k, k < 8 → ((8 * nI k).toInt64.toUInt64 &&& Int64.toUInt64 63).toBitVec % 64 = BitVec.ofNat 64 (8 * k) := by decide +kernel
theorem lo_byte (x : Int64) {k : Nat} (hk : k < 8) : (jlshr x (8 * nI k)).toInt32 &&& 255 = (jlushr x (8 * nI k)).toInt32 &&& 255 := by
  apply Int32.toBitVec_inj.mp
  have e1 : ((jlshr x (8 * nI k)).toInt32 &&& 255).toBitVec = (x.toBitVec.sshiftRight' (((8 * nI k).toInt64 &&& 63).toBitVec.smod 64)).signExtend 32 &&& 255#32 := rfl
  have e2 : ((jlushr x (8 * nI k)).toInt32 &&& 255).toBitVec = (x.toBitVec >>> (((8 * nI k).toInt64.toUInt64 &&& Int64.toUInt64 63).toBitVec % 64)).signExtend 32 &&& 255#32 := rfl
  rw [e1, e2, l_sm k hk, l_um k hk]
  have e3 : (BitVec.ofNat 64 (8 * k)).toNat = 8 * k := by rw [BitVec.toNat_ofNat, Nat.mod_eq_of_lt (by omega)]
  apply BitVec.eq_of_getLsbD_eq
  intro i hi
  have e4 : (255#32).getLsbD i = decide (i < 8) := by
    have : ∀ i, i < 32 → (255#32).getLsbD i = decide (i < 8) := by decide +kernel
    exact this i hi
  rw [BitVec.getLsbD_and, BitVec.getLsbD_and, e4, BitVec.getLsbD_signExtend, BitVec.getLsbD_signExtend, if_pos (show i < 64 by omega), if_pos (show i < 64 by omega)]
  by_cases h8 : i < 8
  · have e5 : (x.toBitVec.sshiftRight' (BitVec.ofNat 64 (8 * k))).getLsbD i = (x.toBitVec >>> BitVec.ofNat 64 (8 * k)).getLsbD i := by
      rw [BitVec.sshiftRight', e3, BitVec.getLsbD_sshiftRight, BitVec.ushiftRight_eq', e3, BitVec.getLsbD_ushiftRight]
      simp [show ¬ (64 ≤ i) by omega, show 8 * k + i < 64 by omega]
    rw [e5]
  · simp [h8]
