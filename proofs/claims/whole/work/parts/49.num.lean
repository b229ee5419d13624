/-! pure: numbers -/
theorem sm_n : ∀ k, k < 32 → ((nI k &&& 31).toBitVec.smod 32).toNat = k := by decide +kernel
theorem su_n : ∀ k, k < 32 → (((nI k).toUInt32 &&& Int32.toUInt32 31).toBitVec % 32).toNat = k := by decide +kernel
theorem jshr_n {n k : Nat} (hn : n < 2 ^ 31) (hk : k < 32) : jshr (nI n) (nI k) = nI (n / 2 ^ k) := pk_shrN hn _ k (sm_n k hk)
theorem jshl_n {n k : Nat} (hk : k < 32) (h : n * 2 ^ k < 2 ^ 32) : jshl (nI n) (nI k) = nI (n * 2 ^ k) := pk_shlN _ k (sm_n k hk) h
theorem jushr_n {n k : Nat} (hn : n < 2 ^ 32) (hk : k < 32) : jushr (nI n) (nI k) = nI (n / 2 ^ k) := pk_ushrN hn _ k (su_n k hk)
theorem nI_inj {a b : Nat} (ha : a < 2 ^ 31) (hb : b < 2 ^ 31) (h : nI a = nI b) : a = b := (nI_eq ha hb).mp h
theorem and_255 (x : Int32) : ∃ b, b < 256 ∧ x &&& 255 = nI b := pk_andE x 8 rfl
theorem byte_255 {b : Nat} (h : b < 256) : nI b &&& 255 = nI b := by rw [pk_andN (by omega) 8 rfl, Nat.mod_eq_of_lt (by omega)]
theorem or_lo {a b k : Nat} (hb : b < 2 ^ k) (h : a * 2 ^ k + b < 2 ^ 32) : nI (a * 2 ^ k) ||| nI b = nI (a * 2 ^ k + b) := by
  apply Int32.toBitVec_inj.mp
  apply BitVec.eq_of_toNat_eq
  have e1 : (nI (a * 2 ^ k) ||| nI b).toBitVec = (nI (a * 2 ^ k)).toBitVec ||| (nI b).toBitVec := rfl
  rw [e1, BitVec.toNat_or, pk_tn (by omega), pk_tn (by omega), pk_tn h, Nat.mul_comm a, Nat.two_pow_add_eq_or_of_lt hb]
theorem l_sm : ∀ k, k < 8 → ((8 * nI k).toInt64 &&& 63).toBitVec.smod 64 = BitVec.ofNat 64 (8 * k) := by decide +kernel
theorem l_um : ∀ k, k < 8 → ((8 * nI k).toInt64.toUInt64 &&& Int64.toUInt64 63).toBitVec % 64 = BitVec.ofNat 64 (8 * k) := by decide +kernel
theorem lo_byte (x : Int64) {k : Nat} (hk : k < 8) : (jlshr x (8 * nI k)).toInt32 &&& 255 = (jlushr x (8 * nI k)).toInt32 &&& 255 := by
  apply Int32.toBitVec_inj.mp
  have e1 : ((jlshr x (8 * nI k)).toInt32 &&& 255).toBitVec = (x.toBitVec.sshiftRight' (((8 * nI k).toInt64 &&& 63).toBitVec.smod 64)).signExtend 32 &&& 255#32 := rfl
  have e2 : ((jlushr x (8 * nI k)).toInt32 &&& 255).toBitVec = (x.toBitVec >>> (((8 * nI k).toInt64.toUInt64 &&& Int64.toUInt64 63).toBitVec % 64)).signExtend 32 &&& 255#32 := rfl
  rw [e1, e2, l_sm k hk, l_um k hk]
  have e3 : (BitVec.ofNat 64 (8 * k)).toNat = 8 * k := by rw [BitVec.toNat_ofNat, Nat.mod_eq_of_lt (by omega)]
  apply BitVec.eq_of_getLsbD_eq
  intro i hi
  have e4 : (255#32).getLsbD i = decide (i < 8) := by
    have : ∀ i, i < 32 → (255#32).getLsbD i = decide (i < 8) := by decide +kernel
    exact this i hi
  rw [BitVec.getLsbD_and, BitVec.getLsbD_and, e4, BitVec.getLsbD_signExtend, BitVec.getLsbD_signExtend, if_pos (show i < 64 by omega), if_pos (show i < 64 by omega)]
  by_cases h8 : i < 8
  · have e5 : (x.toBitVec.sshiftRight' (BitVec.ofNat 64 (8 * k))).getLsbD i = (x.toBitVec >>> BitVec.ofNat 64 (8 * k)).getLsbD i := by
      rw [BitVec.sshiftRight', e3, BitVec.getLsbD_sshiftRight, BitVec.ushiftRight_eq', e3, BitVec.getLsbD_ushiftRight]
      simp [show ¬ (64 ≤ i) by omega, show 8 * k + i < 64 by omega]
    rw [e5]
  · simp [h8]
theorem ile {α : Type} {a b : Nat} {x y : α} {i : Decidable (nI a ≤ nI b)} (h : a ≤ b) (hb : b < 2 ^ 31) : @ite α (nI a ≤ nI b) i x y = x := if_pos (nI_le h hb)
theorem ilen {α : Type} {a b : Nat} {x y : α} {i : Decidable (nI a ≤ nI b)} (h : b < a) (ha : a < 2 ^ 31) : @ite α (nI a ≤ nI b) i x y = y := if_neg (fun q => absurd ((nI_leI ha (by omega)).mp q) (by omega))
theorem ilt {α : Type} {a b : Nat} {x y : α} {i : Decidable (nI a < nI b)} (h : a < b) (hb : b < 2 ^ 31) : @ite α (nI a < nI b) i x y = x := if_pos (nI_lt h hb)
theorem iltn {α : Type} {a b : Nat} {x y : α} {i : Decidable (nI a < nI b)} (h : b ≤ a) (ha : a < 2 ^ 31) : @ite α (nI a < nI b) i x y = y := if_neg (fun q => absurd ((nI_ltI ha (by omega)).mp q) (by omega))
theorem ieq {α : Type} {a b : Nat} {x y : α} {i : Decidable (nI a = nI b)} (h : a = b) : @ite α (nI a = nI b) i x y = x := if_pos (by rw [h])
theorem ieqn {α : Type} {a b : Nat} {x y : α} {i : Decidable (nI a = nI b)} (h : a ≠ b) (ha : a < 2 ^ 31) (hb : b < 2 ^ 31) : @ite α (nI a = nI b) i x y = y := if_neg (fun q => h (nI_inj ha hb q))
theorem l0 : (0 : Int32) = nI 0 := rfl
theorem l1 : (1 : Int32) = nI 1 := rfl
theorem l2 : (2 : Int32) = nI 2 := rfl
theorem l3 : (3 : Int32) = nI 3 := rfl
theorem l4 : (4 : Int32) = nI 4 := rfl
theorem l5 : (5 : Int32) = nI 5 := rfl
theorem l6 : (6 : Int32) = nI 6 := rfl
theorem l7 : (7 : Int32) = nI 7 := rfl
theorem l8 : (8 : Int32) = nI 8 := rfl
theorem l9 : (9 : Int32) = nI 9 := rfl
theorem l10 : (10 : Int32) = nI 10 := rfl
theorem l11 : (11 : Int32) = nI 11 := rfl
theorem l12 : (12 : Int32) = nI 12 := rfl
theorem l13 : (13 : Int32) = nI 13 := rfl
theorem l14 : (14 : Int32) = nI 14 := rfl
theorem l15 : (15 : Int32) = nI 15 := rfl
theorem l16 : (16 : Int32) = nI 16 := rfl
theorem l17 : (17 : Int32) = nI 17 := rfl
theorem l31 : (31 : Int32) = nI 31 := rfl
theorem l32 : (32 : Int32) = nI 32 := rfl
theorem l63 : (63 : Int32) = nI 63 := rfl
theorem l64 : (64 : Int32) = nI 64 := rfl
theorem l83 : (83 : Int32) = nI 83 := rfl
theorem l90 : (90 : Int32) = nI 90 := rfl
theorem l119 : (119 : Int32) = nI 119 := rfl
theorem l120 : (120 : Int32) = nI 120 := rfl
theorem l127 : (127 : Int32) = nI 127 := rfl
theorem l128 : (128 : Int32) = nI 128 := rfl
theorem l240 : (240 : Int32) = nI 240 := rfl
theorem l256 : (256 : Int32) = nI 256 := rfl
