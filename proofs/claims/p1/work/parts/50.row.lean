/-! pure: memories that differ in a few cells alone; rows of bytes -/
def Fr (S : List Nat) (F G : Mem) : Prop := ∀ k, k ∉ S → G k = F k
theorem Fr.rf {S : List Nat} {F : Mem} : Fr S F F := fun _ _ => rfl
theorem Fr.tr {S : List Nat} {F G H : Mem} (h1 : Fr S F G) (h2 : Fr S G H) : Fr S F H := fun k hk => (h2 k hk).trans (h1 k hk)
theorem Fr.up {S S' : List Nat} {F G : Mem} (h : Fr S F G) (hs : ∀ k, k ∈ S → k ∈ S') : Fr S' F G := fun k hk => h k (fun q => hk (hs k q))
theorem Fr.at {S : List Nat} {F G : Mem} (h : Fr S F G) {k : Nat} (hk : k ∉ S) (j : Nat) : G k j = F k j := by rw [h k hk]
theorem u2_s {F : Mem} {i j : Nat} {v : Int32} : u2 F i j v i j = v := if_pos ⟨rfl, rfl⟩
theorem u2_n {F : Mem} {i j a b : Nat} {v : Int32} (h : ¬ (a = i ∧ b = j)) : u2 F i j v a b = F a b := if_neg h
theorem u2_c {F : Mem} {i j a b : Nat} {v : Int32} (h : a ≠ i) : u2 F i j v a b = F a b := if_neg (fun q => h q.1)
theorem u2_p {F : Mem} {i j b : Nat} {v : Int32} (h : b ≠ j) : u2 F i j v i b = F i b := if_neg (fun q => h q.2)
theorem Fr.u {S : List Nat} {F : Mem} {i j : Nat} {v : Int32} (h : i ∈ S) : Fr S F (u2 F i j v) := fun k hk => u2_ne (fun e => hk (e ▸ h))
theorem ld {α β : Type} {a : α} {k : α → β} : lt' a k = k a := rfl
theorem zb0 : ((0 : Int32) = 0 ∨ (0 : Int32) = 1) := Or.inl rfl
theorem zb1 : ((1 : Int32) = 0 ∨ (1 : Int32) = 1) := Or.inr rfl
theorem inb_no {n N : Nat} (h : n < N) (hN : N < 2 ^ 31) : ¬ inb (nI n) N := nI_in h hN
/-- row i, its array a of cap places -/
def RS (L : La) (i a cap : Nat) : Prop := mRf L i 0 = a ∧ a < mNc L ∧ mLn L a = cap ∧ a ≠ i ∧ cap < 2 ^ 20
/-- it holds the bytes xs -/
def RD (F : Mem) (i a : Nat) (xs : List Nat) : Prop := F i 1 = nI xs.length ∧ ∀ j, j < xs.length → F a j = nI (xs.getD j 0)
theorem RD.fr {F G : Mem} {i a : Nat} {xs : List Nat} {S : List Nat} (h : RD F i a xs) (hf : Fr S F G) (hi : i ∉ S) (ha : a ∉ S) : RD G i a xs := ⟨by rw [hf i hi]; exact h.1, fun j hj => by rw [hf a ha]; exact h.2 j hj⟩
theorem RS.gl {L : La} {i a cap : Nat} (h : RS L i a cap) : mGl L a = cap := by rw [mGl, if_pos h.2.1, h.2.2.1]
theorem RS.ga {L : La} {i a cap : Nat} (h : RS L i a cap) (F : Mem) (j : Nat) : mGa L F a j = F a j := by rw [mGa, if_pos h.2.1]
theorem row_room {L : La} {F : Mem} {i a cap : Nat} {xs : List Nat} (hs : RS L i a cap) (hd : RD F i a xs) (hl : xs.length ≤ cap) (n : Nat) (hn : n < 2 ^ 20) : f_Row_hasRoom L i (nI n) F = some (if xs.length + n ≤ cap then 1 else 0, F) := by
  unfold f_Row_hasRoom b_Row_hasRoom_19
  obtain ⟨h1, h2, h3, h4, h5⟩ := id hs
  rw [h1, hs.gl, hd.1, pk_sub hl]
  by_cases h : xs.length + n ≤ cap
  · rw [if_neg (by rw [nI_ltI (by omega) (by omega)]; omega), if_pos zb1, if_pos h]
  · rw [if_pos (by rw [nI_ltI (by omega) (by omega)]; omega), if_pos zb0, if_neg h]
theorem row_add {L : La} {F : Mem} {i a cap : Nat} {xs : List Nat} (hs : RS L i a cap) (hd : RD F i a xs) (hl : xs.length < cap) {x : Int32} (b : Nat) (hx : x &&& 255 = nI b) : ∃ G, f_Row_add L i x F = some G ∧ RD G i a (xs ++ [b]) ∧ Fr [i, a] F G := by
  obtain ⟨h1, h2, h3, h4, h5⟩ := id hs
  refine ⟨u2 (u2 F a xs.length (nI b)) i 1 (nI (xs.length + 1)), ?_, ⟨?_, ?_⟩, ?_⟩
  · unfold f_Row_add b_Row_add_36
    rw [h1, hs.gl, hd.1, if_neg (by rw [nI_leI (by omega) (by omega)]; omega), if_neg (by rw [h3]; exact fun q => q.elim (inb_no hl (by omega)) (fun q => q h2)), ld, ld, nI_clamp (by omega), hx, u2_c h4.symm, hd.1, nI_1]
  · rw [u2_s]; simp
  · intro j hj
    rw [u2_c h4]
    by_cases h : j = xs.length
    · subst h
      rw [u2_s]; simp
    · have h6 : j < xs.length := by simp at hj; omega
      rw [u2_p h, hd.2 j h6]
      simp [List.getD_eq_getElem?_getD, List.getElem?_append_left h6]
  · intro k hk
    simp only [List.mem_cons, List.not_mem_nil, or_false, not_or] at hk
    rw [u2_ne hk.1, u2_ne hk.2]
theorem row_full {L : La} {F : Mem} {i a cap : Nat} {xs : List Nat} (hs : RS L i a cap) (hd : RD F i a xs) (hl : xs.length = cap) (x : Int32) : f_Row_add L i x F = some F := by
  obtain ⟨h1, h2, h3, h4, h5⟩ := id hs
  unfold f_Row_add b_Row_add_36
  rw [h1, hs.gl, hd.1, if_pos (by rw [nI_leI (by omega) (by omega)]; omega)]
theorem row_pair {L : La} {F : Mem} {i a cap : Nat} {xs : List Nat} (hs : RS L i a cap) (hd : RD F i a xs) (hl : xs.length + 1 < cap) (n : Nat) (hn : n < 65536) : ∃ G, f_Row_addPair L i (nI n) F = some G ∧ RD G i a (xs ++ [n % 256, n / 256]) ∧ Fr [i, a] F G := by
  obtain ⟨G1, e1, d1, f1⟩ := row_add hs hd (by omega) (x := nI n) (n % 256) (pk_andN (by omega) 8 rfl)
  have e8 : jshr (nI n) 8 &&& 255 = nI (n / 256) := by
    rw [show (8 : Int32) = nI 8 from rfl, jshr_n (by omega) (by omega), byte_255 (by omega)]
  obtain ⟨G2, e2, d2, f2⟩ := row_add hs d1 (by simp; omega) (n / 256) e8
  refine ⟨G2, ?_, by simpa using d2, f1.tr f2⟩
  unfold f_Row_addPair
  rw [e1]
  simp only [Option.bind_some]
  rw [e2]
  rfl
theorem row_times {L : La} {i a cap : Nat} (hs : RS L i a cap) {x : Int32} (b : Nat) (hx : x &&& 255 = nI b) (n : Nat) (hn : n < 2 ^ 20) : ∀ (d m : Nat) (F : Mem) (xs : List Nat) (fu : Nat), d + m = n → d < fu → RD F i a xs → xs.length + d ≤ cap →
    ∃ G, f_Row_addTimes_2 L fu i x (nI n) (nI m) F = some G ∧ RD G i a (xs ++ List.replicate d b) ∧ Fr [i, a] F G := by
  intro d
  induction d with
  | zero =>
    intro m F xs fu hd hf hr hc
    obtain ⟨fu, rfl⟩ : ∃ k, fu = k + 1 := ⟨fu - 1, by omega⟩
    refine ⟨F, ?_, by simpa using hr, Fr.rf⟩
    show b_Row_addTimes_2 L (f_Row_addTimes_2 L fu) i x (nI n) (nI m) F = some F
    unfold b_Row_addTimes_2
    rw [if_pos (by rw [nI_leI (by omega) (by omega)]; omega)]
  | succ d ih =>
    intro m F xs fu hd hf hr hc
    obtain ⟨fu, rfl⟩ : ∃ k, fu = k + 1 := ⟨fu - 1, by omega⟩
    obtain ⟨G1, e1, d1, f1⟩ := row_add hs hr (by omega) b hx
    obtain ⟨G2, e2, d2, f2⟩ := ih (m + 1) G1 (xs ++ [b]) fu (by omega) (by omega) d1 (by simp; omega)
    refine ⟨G2, ?_, ?_, f1.tr f2⟩
    · show b_Row_addTimes_2 L (f_Row_addTimes_2 L fu) i x (nI n) (nI m) F = some G2
      unfold b_Row_addTimes_2
      rw [if_neg (by rw [nI_leI (by omega) (by omega)]; omega), e1]
      simp only [Option.bind_some]
      rw [nI_1, e2]
    · rw [List.replicate_succ]
      simpa using d2
theorem row_addTimes {L : La} {F : Mem} {i a cap : Nat} {xs : List Nat} (hs : RS L i a cap) (hd : RD F i a xs) {x : Int32} (b : Nat) (hx : x &&& 255 = nI b) (n : Nat) (hn : n < 4000) (hc : xs.length + n ≤ cap) : ∃ G, f_Row_addTimes L i x (nI n) F = some G ∧ RD G i a (xs ++ List.replicate n b) ∧ Fr [i, a] F G :=
  row_times hs b hx n (by omega) n 0 F xs mFU (by omega) (by unfold mFU; omega) hd hc
theorem row_rows {L : La} {i a cap i' a' cap' : Nat} (hs : RS L i a cap) (hs' : RS L i' a' cap') (hii : i' ≠ i) (hia : i' ≠ a) (hai : a' ≠ i) (haa : a' ≠ a) (ys : List Nat) (hb : ∀ y ∈ ys, y < 256) (hy : ys.length ≤ cap') : ∀ (d m : Nat) (F : Mem) (xs : List Nat) (fu : Nat), d + m = ys.length → d < fu → RD F i a xs → RD F i' a' ys → xs.length + d ≤ cap →
    ∃ G, f_Row_addRow_2 L fu i i' (nI m) F = some G ∧ RD G i a (xs ++ ys.drop m) ∧ Fr [i, a] F G := by
  have h5 := hs'.2.2.2.2
  intro d
  induction d with
  | zero =>
    intro m F xs fu hd hf hr hr' hc
    obtain ⟨fu, rfl⟩ : ∃ k, fu = k + 1 := ⟨fu - 1, by omega⟩
    refine ⟨F, ?_, ?_, Fr.rf⟩
    · show b_Row_addRow_2 L (f_Row_addRow_2 L fu) i i' (nI m) F = some F
      unfold b_Row_addRow_2
      rw [hr'.1, if_pos (by rw [nI_leI (by omega) (by omega)]; omega)]
    · rw [List.drop_of_length_le (by omega)]
      simpa using hr
  | succ d ih =>
    intro m F xs fu hd hf hr hr' hc
    obtain ⟨fu, rfl⟩ : ∃ k, fu = k + 1 := ⟨fu - 1, by omega⟩
    have hm : m < ys.length := by omega
    have hv : ys.getD m 0 < 256 := by
      rw [List.getD_eq_getElem?_getD, List.getElem?_eq_getElem hm]
      exact hb _ (List.getElem_mem hm)
    obtain ⟨G1, e1, d1, f1⟩ := row_add hs hr (by omega) (x := nI (ys.getD m 0)) (ys.getD m 0) (by rw [pk_andN (by omega) 8 rfl, Nat.mod_eq_of_lt (by omega)])
    obtain ⟨G2, e2, d2, f2⟩ := ih (m + 1) G1 (xs ++ [ys.getD m 0]) fu (by omega) (by omega) d1 (hr'.fr f1 (by simp [hii, hia]) (by simp [hai, haa])) (by simp; omega)
    refine ⟨G2, ?_, ?_, f1.tr f2⟩
    · show b_Row_addRow_2 L (f_Row_addRow_2 L fu) i i' (nI m) F = some G2
      unfold b_Row_addRow_2
      rw [hr'.1, if_neg (by rw [nI_leI (by omega) (by omega)]; omega), hs'.1, hs'.gl, if_neg (inb_no (by omega) (by omega)), hs'.ga, nI_clamp (by omega), hr'.2 m hm, e1]
      simp only [Option.bind_some]
      rw [nI_1, e2]
    · rw [List.drop_eq_getElem_cons hm]
      rw [List.getD_eq_getElem?_getD, List.getElem?_eq_getElem hm] at d2
      simpa using d2
theorem row_addRow {L : La} {F : Mem} {i a cap i' a' cap' : Nat} {xs ys : List Nat} (hs : RS L i a cap) (hs' : RS L i' a' cap') (hii : i' ≠ i) (hia : i' ≠ a) (hai : a' ≠ i) (haa : a' ≠ a) (hr : RD F i a xs) (hr' : RD F i' a' ys) (hb : ∀ y ∈ ys, y < 256) (hy : ys.length ≤ cap') (h4 : ys.length < 4000) (hc : xs.length + ys.length ≤ cap) : ∃ G, f_Row_addRow L i i' F = some G ∧ RD G i a (xs ++ ys) ∧ Fr [i, a] F G := by
  obtain ⟨G, h1, h2, h3⟩ := row_rows hs hs' hii hia hai haa ys hb hy ys.length 0 F xs mFU (by omega) (by unfold mFU; omega) hr hr' hc
  exact ⟨G, h1, by simpa using h2, h3⟩
theorem row_low {L : La} {i a cap : Nat} (hs : RS L i a cap) (x : Int64) : ∀ (n : Nat) (F : Mem) (xs : List Nat) (fu : Nat), n ≤ 8 → n < fu → RD F i a xs → xs.length + n ≤ cap →
    ∃ G ys, f_Row_addLowest_26 L fu i x (nI n - 1) F = some (1, G) ∧ RD G i a (xs ++ ys) ∧ Fr [i, a] F G ∧ ys.length = n ∧ ∀ j, j < n → ys.getD j 0 < 256 ∧ nI (ys.getD j 0) = (jlushr x (8 * nI (n - 1 - j))).toInt32 &&& 255 := by
  intro n
  induction n with
  | zero =>
    intro F xs fu hn hf hr hc
    obtain ⟨fu, rfl⟩ : ∃ k, fu = k + 1 := ⟨fu - 1, by omega⟩
    refine ⟨F, [], ?_, by simpa using hr, Fr.rf, rfl, fun j hj => absurd hj (by omega)⟩
    show b_Row_addLowest_26 L (f_Row_addLowest_26 L fu) i x (nI 0 - 1) F = some (1, F)
    unfold b_Row_addLowest_26
    rw [if_pos (by decide), if_pos zb1]
  | succ n ih =>
    intro F xs fu hn hf hr hc
    obtain ⟨fu, rfl⟩ : ∃ k, fu = k + 1 := ⟨fu - 1, by omega⟩
    obtain ⟨b, hb, hx⟩ := and_255 (jlushr x (8 * nI n)).toInt32
    obtain ⟨G1, e1, d1, f1⟩ := row_add hs hr (by omega) b hx
    obtain ⟨G2, ys, e2, d2, f2, l2, b2⟩ := ih G1 (xs ++ [b]) fu (by omega) (by omega) d1 (by simp; omega)
    refine ⟨G2, b :: ys, ?_, by simpa using d2, f1.tr f2, by simp [l2], fun j hj => ?_⟩
    · show b_Row_addLowest_26 L (f_Row_addLowest_26 L fu) i x (nI (n + 1) - 1) F = some (1, G2)
      unfold b_Row_addLowest_26
      rw [nI_pred, if_neg (nI_pos (by omega)), e1]
      simp only [Option.bind_some]
      rw [← Int32.sub_eq_add_neg, e2]
    · cases j with
      | zero => exact ⟨hb, by simpa using hx.symm⟩
      | succ j =>
        have := b2 j (by omega)
        rw [show n + 1 - 1 - (j + 1) = n - 1 - j by omega]
        simpa using this
/-- the n lowest bytes of x, the highest of them first -/
def lows (n : Nat) (x : Int64) : List Nat := (List.range n).map (fun j => ((jlushr x (8 * nI (n - 1 - j))).toInt32 &&& 255).toBitVec.toNat)
theorem lows_len (n : Nat) (x : Int64) : (lows n x).length = n := by simp [lows]
theorem and255_lt (x : Int32) : (x &&& 255).toBitVec.toNat < 256 := by
  obtain ⟨b, hb, e⟩ := and_255 x
  rw [e, pk_tn (by omega)]
  exact hb
theorem lows_byte (n : Nat) (x : Int64) : ∀ b ∈ lows n x, b < 256 := by
  intro b hb
  obtain ⟨j, -, rfl⟩ := List.mem_map.mp hb
  exact and255_lt _
theorem lows_of {n : Nat} {x : Int64} {ys : List Nat} (hl : ys.length = n) (h : ∀ j, j < n → ys.getD j 0 < 256 ∧ nI (ys.getD j 0) = (jlushr x (8 * nI (n - 1 - j))).toInt32 &&& 255) : ys = lows n x := by
  apply List.ext_getElem?
  intro j
  by_cases hj : j < n
  · have h1 := h j hj
    rw [List.getD_eq_getElem?_getD, List.getElem?_eq_getElem (by omega)] at h1
    rw [lows, List.getElem?_map, List.getElem?_range hj, List.getElem?_eq_getElem (by omega)]
    simp only [Option.map_some, Option.some.injEq, Option.getD_some] at h1 ⊢
    rw [← h1.2, pk_tn (by omega)]
  · rw [List.getElem?_eq_none (by omega), List.getElem?_eq_none (by rw [lows_len]; omega)]
theorem row_addLowest {L : La} {F : Mem} {i a cap : Nat} {xs : List Nat} (hs : RS L i a cap) (hd : RD F i a xs) (hl : xs.length ≤ cap) (n : Int32) (x : Int64) :
    (∃ k, n = nI k ∧ 1 ≤ k ∧ k ≤ 8 ∧ xs.length + k ≤ cap ∧ ∃ G, f_Row_addLowest L i n x F = some (1, G) ∧ RD G i a (xs ++ lows k x) ∧ Fr [i, a] F G) ∨
    ((∀ k, n = nI k → 1 ≤ k → k ≤ 8 → ¬ xs.length + k ≤ cap) ∧ f_Row_addLowest L i n x F = some (0, F)) := by
  have h5 := hs.2.2.2.2
  unfold f_Row_addLowest b_Row_addLowest_19
  by_cases h1 : n < 1
  · right
    refine ⟨fun k e h6 h7 => ?_, by rw [if_pos h1, if_pos zb0]⟩
    subst e
    exact absurd h1 (by rw [show (1 : Int32) = nI 1 from rfl, nI_ltI (by omega) (by omega)]; omega)
  · rw [if_neg h1]
    by_cases h8 : 8 < n
    · right
      refine ⟨fun k e h6 h7 => ?_, by rw [if_pos h8, if_pos zb0]⟩
      subst e
      exact absurd h8 (by rw [show (8 : Int32) = nI 8 from rfl, nI_ltI (by omega) (by omega)]; omega)
    · rw [if_neg h8]
      obtain ⟨k, hk, rfl⟩ : ∃ k, k ≤ 8 ∧ n = nI k := nI_of2 (M := 8) rfl (fun q => h1 (Int32.lt_trans q (by decide))) (Int32.not_lt.mp h8)
      have hk1 : 1 ≤ k := by
        rcases Nat.eq_zero_or_pos k with rfl | h
        · exact absurd (by decide) h1
        · exact h
      rw [row_room hs hd hl k (by omega)]
      simp only [Option.bind_some]
      by_cases hc : xs.length + k ≤ cap
      · left
        obtain ⟨G, ys, e2, d2, f2, l2, b2⟩ := row_low hs x k F xs mFU hk (by unfold mFU; omega) hd hc
        rw [if_pos hc, if_neg (by decide), e2]
        exact ⟨k, rfl, hk1, hk, hc, G, rfl, by rw [← lows_of l2 b2]; exact d2, f2⟩
      · right
        refine ⟨fun k' e h6 h7 => by rw [nI_inj (by omega) (by omega) e] at hc; exact hc, ?_⟩
        simp [hc]
theorem row_at {L : La} {F : Mem} {i a cap : Nat} {xs : List Nat} (hs : RS L i a cap) (hd : RD F i a xs) (hl : xs.length ≤ cap) (k : Int32) : f_Row_sizeOrByte L i k F = some (if k = -1 then nI xs.length else if inb k xs.length then -1 else nI (xs.getD k.toNatClampNeg 0), F) := by
  have h5 := hs.2.2.2.2
  unfold f_Row_sizeOrByte b_Row_sizeOrByte_31 b_Row_sizeOrByte_32
  by_cases h1 : k = -1
  · rw [if_pos h1, if_pos h1, hd.1]
  · rw [if_neg h1, if_neg h1]
    by_cases h2 : k < 0
    · rw [if_pos h2, if_pos (Or.inl h2)]
    · rw [if_neg h2]
      obtain ⟨j, hj, rfl⟩ := nI_of h2
      rw [hd.1]
      by_cases h3 : xs.length ≤ j
      · rw [if_pos ((nI_leI (by omega) hj).mpr h3), if_pos (Or.inr (by rw [nI_clamp hj]; exact h3))]
      · rw [if_neg (fun q => h3 ((nI_leI (by omega) hj).mp q)), hs.1, hs.gl, if_neg (inb_no (by omega) (by omega)), if_neg (inb_no (by omega) (by omega)), hs.ga, nI_clamp hj, hd.2 j (by omega)]
