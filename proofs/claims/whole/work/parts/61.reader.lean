/-! pure: the class's reader (cell 25) over the wire (row 3, array 4) -/
def nlzV (x : Int32) : Int32 := ((f_Int_numberOfLeadingZeros L1 x fST).map (fun q => q.1)).getD 0
theorem nlz_eq (L : La) (x : Int32) (F : Mem) : f_Int_numberOfLeadingZeros L x F = some (nlzV x, F) := by
  unfold nlzV f_Int_numberOfLeadingZeros b_Int_numberOfLeadingZeros_33 b_Int_numberOfLeadingZeros_48 b_Int_numberOfLeadingZeros_61 b_Int_numberOfLeadingZeros_73 b_Int_numberOfLeadingZeros_14
  repeat' split
  all_goals first | rfl | contradiction | (simp_all; done)
theorem nlz_b : ∀ b, b < 256 → 0 < b → nlzV (nI b) = nI (31 - Nat.log2 b) := by decide +kernel
/-- place p of limit lim; stream from ss on, bl bits of it left; ok: nothing refused yet -/
def CR (F : Mem) (w : List Nat) (p lim ss bl : Nat) (ok : Bool) : Prop := RD F 3 4 w ∧ (F 25 1 = nI p ∧ F 25 2 = nI lim ∧ F 25 3 = (if ok then 1 else 0) ∧ F 25 4 = nI ss ∧ F 25 5 = nI bl) ∧ p ≤ lim ∧ lim ≤ w.length ∧ (0 < bl → ss + (bl + 7) / 8 ≤ w.length) ∧ w.length ≤ 240 ∧ ∀ b ∈ w, b < 256
theorem CR.bad {F : Mem} {w : List Nat} {p lim ss bl : Nat} {ok : Bool} (h : CR F w p lim ss bl ok) : CR (u2 F 25 3 0) w p lim ss bl false := by
  obtain ⟨h1, ⟨a1, a2, a3, a4, a5⟩, h2⟩ := h
  exact ⟨h1.fr (Fr.u (S := [25]) (by simp)) (by decide) (by decide), ⟨by rw [u2_p (by decide)]; exact a1, by rw [u2_p (by decide)]; exact a2, by rw [u2_s]; rfl, by rw [u2_p (by decide)]; exact a4, by rw [u2_p (by decide)]; exact a5⟩, h2⟩
theorem r250 : mRf L1 25 0 = 3 := rfl
theorem r30 : mRf L1 3 0 = 4 := rfl
theorem g4 : mGl L1 4 = 240 := rfl
theorem a4 (F : Mem) (j : Nat) : mGa L1 F 4 j = F 4 j := if_pos (by decide)
theorem wr_byte {F : Mem} {w : List Nat} {p lim ss bl : Nat} {ok : Bool} (h : CR F w p lim ss bl ok) : ∃ G, f_Wr_takeByte L1 25 F = some (nI (if p < lim then w.getD p 0 else 0), G) ∧ CR G w (if p < lim then p + 1 else p) lim ss bl (ok && decide (p < lim)) ∧ Fr [25] F G := by
  obtain ⟨h1, ⟨a1, a2, a3, a4', a5⟩, h2, h3, h4, h5, h6⟩ := id h
  unfold f_Wr_takeByte
  rw [r250, r30, g4, a1, a2]
  by_cases hp : p < lim
  · refine ⟨u2 F 25 1 (nI (p + 1)), ?_, ?_, Fr.u (by simp)⟩
    · rw [if_pos (nI_lt hp (by omega)), ld, nI_1, u2_s, nI_pred, if_neg (inb_no (by omega) (by omega)), a4, nI_clamp (by omega), u2_c (by decide), h1.2 p (by omega), if_pos hp]
    · rw [if_pos hp]
      refine ⟨h1.fr (Fr.u (S := [25]) (by simp)) (by decide) (by decide), ⟨u2_s, by rw [u2_p (by decide)]; exact a2, by rw [u2_p (by decide), a3]; simp [hp], by rw [u2_p (by decide)]; exact a4', by rw [u2_p (by decide)]; exact a5⟩, by omega, h3, h4, h5, h6⟩
  · refine ⟨u2 F 25 3 0, ?_, ?_, Fr.u (by simp)⟩
    · rw [if_neg (fun q => hp ((nI_ltI (by omega) (by omega)).mp q)), if_neg (fun q => q zb0), ld, if_neg hp]
      rfl
    · rw [if_neg hp]
      have := h.bad
      simpa [hp] using this
theorem wr_refuse {F : Mem} {w : List Nat} {p lim ss bl : Nat} {ok : Bool} (h : CR F w p lim ss bl ok) : ∃ G, f_Wr_refuse L1 25 F = some G ∧ CR G w p lim ss bl false ∧ Fr [25] F G := by
  refine ⟨_, ?_, h.bad, Fr.u (by simp)⟩
  unfold f_Wr_refuse
  rw [if_neg (fun q => q zb0), ld]
theorem wr_left {F : Mem} {w : List Nat} {p lim ss bl : Nat} {ok : Bool} (h : CR F w p lim ss bl ok) : f_Wr_bytesLeft L1 25 F = some (nI (lim - p), F) := by
  obtain ⟨h1, ⟨a1, a2, a3, a4', a5⟩, h2, h3, h4, h5, h6⟩ := h
  unfold f_Wr_bytesLeft
  rw [a1, a2, pk_sub h2]
/-! bits -/
def bitAt (w : List Nat) (ss i : Nat) : Nat := w.getD (ss + i / 8) 0 / 2 ^ (i % 8) % 2
/-- the next n bits of a stream from ss on of which bl are left; 0s behind the last one -/
def nbits (w : List Nat) (ss bl : Nat) : Nat → Nat
  | 0 => 0
  | n + 1 => 2 * nbits w ss bl n + if n < bl then bitAt w ss (bl - 1 - n) else 0
theorem bitAt_lt (w : List Nat) (ss i : Nat) : bitAt w ss i < 2 := Nat.mod_lt _ (by decide)
theorem nbits_lt (w : List Nat) (ss bl : Nat) : ∀ n, nbits w ss bl n < 2 ^ n
  | 0 => Nat.one_pos
  | n + 1 => by
    have h1 := nbits_lt w ss bl n
    have h2 := bitAt_lt w ss (bl - 1 - n)
    unfold nbits
    rw [Nat.pow_succ]
    split <;> omega
theorem lt_sub {a b c : Nat} (ha : a < 2 ^ 29) (hb : b < 2 ^ 29) (hc : c < 2 ^ 29) : nI a - nI b < nI a - nI c ↔ c < b := by
  rw [Int32.lt_iff_toInt_lt, pk_sub_toInt (by omega) (by omega), pk_sub_toInt (by omega) (by omega)]
  omega
theorem ge_sub {a b : Nat} (ha : a < 2 ^ 29) (hb : b < 2 ^ 29) : 0 ≤ nI a - nI b ↔ b ≤ a := by
  rw [Int32.le_iff_toInt_le, pk_sub_toInt (by omega) (by omega)]
  show (0 : Int) ≤ _ ↔ _
  omega
theorem byte_bit {b k : Nat} (hb : b < 256) (hk : k < 8) : jshr (nI b) (nI k) &&& 1 = nI (b / 2 ^ k % 2) := by
  rw [jshr_n (by omega) (by omega), pk_andN (Nat.lt_of_le_of_lt (Nat.div_le_self _ _) (by omega)) 1 rfl]
theorem shl1_or {v b : Nat} (hv : v < 2 ^ 20) (hb : b < 2) : jshl (nI v) 1 ||| nI b = nI (2 * v + b) := by
  rw [show (1 : Int32) = nI 1 from rfl, jshl_n (by omega) (by omega), or_lo (k := 1) (by omega) (by omega)]
  congr 1
  omega
theorem CR.bl {F : Mem} {w : List Nat} {p lim ss bl : Nat} {ok : Bool} (h : CR F w p lim ss bl ok) : bl ≤ 2000 := by
  obtain ⟨h1, ha, h2, h3, h4, h5, h6⟩ := h
  rcases Nat.eq_zero_or_pos bl with q | q
  · omega
  · have := h4 q
    omega
theorem wr_bits9 {F : Mem} {w : List Nat} {p lim ss bl : Nat} {ok : Bool} (h : CR F w p lim ss bl ok) {n : Nat} (hn : n ≤ 16) : ∀ (d k fu : Nat), d + k = n → d < fu → f_Wr_nextBits_9 L1 fu 25 (nI n) (nI (nbits w ss bl k)) (nI bl - nI (k + 1)) F = some (nI (nbits w ss bl n), F) := by
  have hbl := h.bl
  obtain ⟨h1, ⟨a1, a2, a3, a4', a5⟩, h2, h3, h4, h5, h6⟩ := id h
  intro d
  induction d with
  | zero =>
    intro k fu hd hf
    obtain ⟨fu, rfl⟩ : ∃ k, fu = k + 1 := ⟨fu - 1, by omega⟩
    obtain rfl : k = n := by omega
    show b_Wr_nextBits_9 L1 (f_Wr_nextBits_9 L1 fu) 25 (nI k) _ _ F = _
    unfold b_Wr_nextBits_9
    rw [a5, if_pos ((lt_sub (by omega) (by omega) (by omega)).mpr (by omega))]
  | succ d ih =>
    intro k fu hd hf
    obtain ⟨fu, rfl⟩ : ∃ k, fu = k + 1 := ⟨fu - 1, by omega⟩
    have hlt := nbits_lt w ss bl k
    have h20 : nbits w ss bl k < 2 ^ 20 := Nat.lt_of_lt_of_le hlt (Nat.pow_le_pow_right (by decide) (by omega))
    have := ih (k + 1) fu (by omega) (by omega)
    show b_Wr_nextBits_9 L1 (f_Wr_nextBits_9 L1 fu) 25 (nI n) _ _ F = _
    unfold b_Wr_nextBits_9 b_Wr_nextBits_50
    have e1 : nI bl - nI (k + 1) + -1 = nI bl - nI (k + 1 + 1) := by
      rw [← Int32.sub_eq_add_neg, Int32.sub_sub, show (1 : Int32) = nI 1 from rfl, nI_add]
    rw [a5, if_neg (fun q => absurd ((lt_sub (by omega) (by omega) (by omega)).mp q) (by omega)), e1]
    by_cases hb : k + 1 ≤ bl
    · have e2 : nI bl - nI (k + 1) = nI (bl - 1 - k) := by rw [pk_sub hb]; congr 1; omega
      have hi : ss + (bl - 1 - k) / 8 < w.length := by have := h4 (by omega); omega
      have hy := h6 _ (getD_mem hi)
      have h8 : (bl - 1 - k) % 8 < 8 := Nat.mod_lt _ (by decide)
      rw [if_pos ((ge_sub (by omega) (by omega)).mpr hb), e2, r250, r30, g4, a4', show (3 : Int32) = nI 3 from rfl, jshr_n (by omega) (by omega), nI_add, if_neg (inb_no (by omega) (by omega)), nI_clamp (by omega), a4, h1.2 _ hi, pk_andN (by omega) 3 rfl, byte_bit hy h8, shl1_or h20 (Nat.mod_lt _ (by decide))]
      have e3 : nbits w ss bl (k + 1) = 2 * nbits w ss bl k + w.getD (ss + (bl - 1 - k) / 2 ^ 3) 0 / 2 ^ ((bl - 1 - k) % 8) % 2 := by
        show 2 * nbits w ss bl k + (if k < bl then bitAt w ss (bl - 1 - k) else 0) = _
        rw [if_pos (by omega)]
        rfl
      rw [← e3]
      exact this
    · have e3 : nbits w ss bl (k + 1) = 2 * nbits w ss bl k + 0 := by
        show 2 * nbits w ss bl k + (if k < bl then bitAt w ss (bl - 1 - k) else 0) = _
        rw [if_neg (by omega)]
      rw [if_neg (fun q => hb ((ge_sub (by omega) (by omega)).mp q)), show (0 : Int32) = nI 0 from rfl, shl1_or h20 (by decide), ← e3]
      exact this
theorem wr_bits {F : Mem} {w : List Nat} {p lim ss bl : Nat} {ok : Bool} (h : CR F w p lim ss bl ok) {n : Nat} (hn : n ≤ 16) : f_Wr_nextBits L1 25 (nI n) F = some (nI (nbits w ss bl n), F) := by
  unfold f_Wr_nextBits
  rw [h.2.1.2.2.2.2]
  exact wr_bits9 h hn n 0 mFU (by omega) (by unfold mFU; omega)
theorem wr_drop {F : Mem} {w : List Nat} {p lim ss bl : Nat} {ok : Bool} (h : CR F w p lim ss bl ok) {n : Nat} (hn : n ≤ 16) : ∃ G, f_Wr_dropBits L1 25 (nI n) F = some G ∧ CR G w p lim ss (if n ≤ bl then bl - n else bl) (ok && decide (n ≤ bl)) ∧ Fr [25] F G := by
  have hbl := h.bl
  obtain ⟨h1, ⟨a1, a2, a3, a4', a5⟩, h2, h3, h4, h5, h6⟩ := id h
  unfold f_Wr_dropBits b_Wr_dropBits_26
  rw [a5]
  by_cases hb : n ≤ bl
  · refine ⟨u2 F 25 5 (nI (bl - n)), ?_, ?_, Fr.u (by simp)⟩
    · rw [if_pos (nI_le hb (by omega)), ld, pk_sub hb]
    · rw [if_pos hb]
      exact ⟨h1.fr (Fr.u (S := [25]) (by simp)) (by decide) (by decide), ⟨by rw [u2_p (by decide)]; exact a1, by rw [u2_p (by decide)]; exact a2, by rw [u2_p (by decide), a3]; simp [hb], by rw [u2_p (by decide)]; exact a4', u2_s⟩, h2, h3, (fun q => by have := h4 (by omega); omega), h5, h6⟩
  · refine ⟨u2 F 25 3 0, ?_, ?_, Fr.u (by simp)⟩
    · rw [if_neg (fun q => hb ((nI_leI (by omega) (by omega)).mp q)), if_neg (fun q => q zb0), ld]
    · rw [if_neg hb]
      have := h.bad
      simpa [hb] using this
theorem wr_take {F : Mem} {w : List Nat} {p lim ss bl : Nat} {ok : Bool} (h : CR F w p lim ss bl ok) {n : Nat} (hn : n ≤ 16) : ∃ G, f_Wr_takeBits L1 25 (nI n) F = some (nI (nbits w ss bl n), G) ∧ CR G w p lim ss (if n ≤ bl then bl - n else bl) (ok && decide (n ≤ bl)) ∧ Fr [25] F G := by
  obtain ⟨G, e, c, f⟩ := wr_drop h hn
  refine ⟨G, ?_, c, f⟩
  unfold f_Wr_takeBits
  rw [wr_bits h hn]
  simp only [Option.bind_some]
  rw [e]
  rfl
theorem nI_all (x : Int32) : ∃ n, x = nI n := ⟨x.toBitVec.toNat, by
  apply Int32.toBitVec_inj.mp
  show x.toBitVec = BitVec.ofNat 32 x.toBitVec.toNat
  rw [BitVec.ofNat_toNat, BitVec.setWidth_eq]⟩
theorem wr_begin {F : Mem} {w : List Nat} (hw : RD F 3 4 w) (h5 : w.length ≤ 240) (h6 : ∀ b ∈ w, b < 256) {p : Nat} (hp : p ≤ w.length) : ∃ G ss, f_Wr_begin L1 25 (nI p) F = some G ∧ CR G w p w.length ss 0 true ∧ Fr [25] F G := by
  obtain ⟨ss, hss⟩ := nI_all (F 25 4)
  have fr : Fr [25] F (u2 (u2 (u2 (u2 F 25 1 (nI p)) 25 2 (nI w.length)) 25 3 1) 25 5 0) := ((((Fr.u (by simp)).tr (Fr.u (by simp))).tr (Fr.u (by simp))).tr (Fr.u (by simp)))
  refine ⟨u2 (u2 (u2 (u2 F 25 1 (nI p)) 25 2 (nI w.length)) 25 3 1) 25 5 0, ss, ?_, ⟨hw.fr fr (by decide) (by decide), ⟨?_, ?_, ?_, ?_, ?_⟩, hp, Nat.le_refl _, fun q => absurd q (by omega), h5, h6⟩, fr⟩
  · unfold f_Wr_begin
    rw [r250, ld, ld, u2_c (by decide), hw.1, if_neg (fun q => q zb1), ld, ld]
  · rw [u2_p (by decide), u2_p (by decide), u2_p (by decide), u2_s]
  · rw [u2_p (by decide), u2_p (by decide), u2_s]
  · rw [u2_p (by decide), u2_s]; rfl
  · rw [u2_p (by decide), u2_p (by decide), u2_p (by decide), u2_p (by decide)]; exact hss
  · rw [u2_s]; rfl
theorem wr_end {F : Mem} {w : List Nat} {p lim ss bl : Nat} {ok : Bool} (h : CR F w p lim ss bl ok) : ∃ G, f_Wr_endStream L1 25 F = some G ∧ CR G w p lim ss bl (ok && decide (bl = 0)) ∧ Fr [25] F G := by
  have hbl := h.bl
  obtain ⟨h1, ⟨a1, a2, a3, a4', a5⟩, h2, h3, h4, h5, h6⟩ := id h
  unfold f_Wr_endStream b_Wr_endStream_12
  rw [a5]
  by_cases hb : bl = 0
  · subst hb
    refine ⟨F, by rw [if_pos (show nI 0 = 0 from rfl)], by simpa using h, Fr.rf⟩
  · refine ⟨_, ?_, ?_, Fr.u (i := 25) (j := 3) (v := 0) (by simp)⟩
    · rw [if_neg (fun q => hb (nI_inj (by omega) (by omega) (q.trans nI_0.symm))), if_neg (fun q => q zb0), ld]
    · have := h.bad
      simpa [hb] using this
/-- the next n bytes become the stream -/
theorem wr_stream {F : Mem} {w : List Nat} {p lim ss bl : Nat} {ok : Bool} (h : CR F w p lim ss bl ok) {n : Nat} (hn : n < 2 ^ 20) :
    ∃ G, f_Wr_beginStream L1 25 (nI n) F = some G ∧ (if 1 ≤ n ∧ n ≤ lim - p ∧ w.getD (p + n - 1) 0 ≠ 0 then CR G w (p + n) lim p (8 * (n - 1) + Nat.log2 (w.getD (p + n - 1) 0)) ok else CR G w p lim ss 0 false) ∧ Fr [25] F G := by
  obtain ⟨h1, ⟨a1, a2, a3, a4', a5⟩, h2, h3, h4, h5, h6⟩ := id h
  have hz : CR (u2 F 25 5 0) w p lim ss 0 ok := ⟨h1.fr (Fr.u (S := [25]) (by simp)) (by decide) (by decide), ⟨by rw [u2_p (by decide)]; exact a1, by rw [u2_p (by decide)]; exact a2, by rw [u2_p (by decide)]; exact a3, by rw [u2_p (by decide)]; exact a4', by rw [u2_s]; rfl⟩, h2, h3, by omega, h5, h6⟩
  have no : ¬ (1 ≤ n ∧ n ≤ lim - p ∧ w.getD (p + n - 1) 0 ≠ 0) → b_Wr_beginStream_37 L1 25 (u2 F 25 5 0) = some (u2 (u2 F 25 5 0) 25 3 0) := by
    intro _
    unfold b_Wr_beginStream_37
    rw [if_neg (fun q => q zb0), ld]
  unfold f_Wr_beginStream
  rw [ld]
  by_cases c1 : 1 ≤ n
  · rw [show (1 : Int32) = nI 1 from rfl, if_neg (fun q => absurd ((nI_ltI (by omega) (by omega)).mp q) (by omega)), wr_left hz]
    simp only [Option.bind_some]
    by_cases c2 : n ≤ lim - p
    · have e1 : (u2 F 25 5 0) 25 1 = nI p := by rw [u2_p (by decide)]; exact a1
      have hi : p + n - 1 < w.length := by omega
      have hy := h6 _ (getD_mem hi)
      have e2 : mGa L1 (u2 F 25 5 0) 4 (nI (p + n - 1)).toNatClampNeg = nI (w.getD (p + n - 1) 0) := by rw [a4, nI_clamp (by omega), u2_c (by decide), h1.2 _ hi]
      rw [if_neg (fun q => absurd ((nI_ltI (by omega) (by omega)).mp q) (by omega)), r250, r30, g4, e1, nI_add, pk_sub (by omega), if_neg (inb_no (by omega) (by omega)), e2]
      by_cases c3 : w.getD (p + n - 1) 0 = 0
      · refine ⟨u2 (u2 F 25 5 0) 25 3 0, ?_, ?_, (Fr.u (by simp)).tr (Fr.u (by simp))⟩
        · rw [if_pos (by rw [c3]; rfl), no (by omega)]
        · rw [if_neg (by omega)]
          exact hz.bad
      · refine ⟨u2 (u2 (u2 (u2 F 25 5 0) 25 4 (nI p)) 25 5 (nI (8 * (n - 1) + Nat.log2 (w.getD (p + n - 1) 0)))) 25 1 (nI (p + n)), ?_, ?_, (((Fr.u (by simp)).tr (Fr.u (by simp))).tr (Fr.u (by simp))).tr (Fr.u (by simp))⟩
        · have hlg : Nat.log2 (w.getD (p + n - 1) 0) < 8 := (Nat.log2_lt c3).mpr hy
          rw [if_neg (fun q => c3 (nI_inj (by omega) (by omega) (q.trans nI_0.symm))), ld, nlz_eq]
          simp only [Option.bind_some]
          rw [nlz_b _ hy (by omega), ld, ld, pk_sub c1, show (8 : Int32) = nI 8 from rfl, pk_mul, show (31 : Int32) = nI 31 from rfl, nI_add, pk_sub (by omega), show 8 * (n - 1) + 31 - (31 - Nat.log2 (w.getD (p + n - 1) 0)) = 8 * (n - 1) + Nat.log2 (w.getD (p + n - 1) 0) by omega, u2_p (by decide), u2_p (by decide), e1, nI_add, if_neg (inb_no (by omega) (by omega))]
        · rw [if_pos ⟨c1, c2, c3⟩]
          have hlg : Nat.log2 (w.getD (p + n - 1) 0) < 8 := (Nat.log2_lt c3).mpr hy
          have fr : Fr [25] F (u2 (u2 (u2 (u2 F 25 5 0) 25 4 (nI p)) 25 5 (nI (8 * (n - 1) + Nat.log2 (w.getD (p + n - 1) 0)))) 25 1 (nI (p + n))) := (((Fr.u (by simp)).tr (Fr.u (by simp))).tr (Fr.u (by simp))).tr (Fr.u (by simp))
          refine ⟨h1.fr fr (by decide) (by decide), ⟨u2_s, ?_, ?_, ?_, ?_⟩, by omega, h3, by omega, h5, h6⟩
          · rw [u2_p (by decide), u2_p (by decide), u2_p (by decide), u2_p (by decide)]; exact a2
          · rw [u2_p (by decide), u2_p (by decide), u2_p (by decide), u2_p (by decide)]; exact a3
          · rw [u2_p (by decide), u2_p (by decide), u2_s]
          · rw [u2_p (by decide), u2_s]
    · refine ⟨u2 (u2 F 25 5 0) 25 3 0, ?_, ?_, (Fr.u (by simp)).tr (Fr.u (by simp))⟩
      · rw [if_pos (nI_lt (by omega) (by omega)), no (by omega)]
      · rw [if_neg (by omega)]
        exact hz.bad
  · refine ⟨u2 (u2 F 25 5 0) 25 3 0, ?_, ?_, (Fr.u (by simp)).tr (Fr.u (by simp))⟩
    · rw [show (1 : Int32) = nI 1 from rfl, if_pos (nI_lt (by omega) (by omega)), no (by omega)]
    · rw [if_neg (by omega)]
      exact hz.bad
