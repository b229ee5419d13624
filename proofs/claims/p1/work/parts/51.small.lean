/-! pure: the check number; one byte alone -/
def mixh (h : Int32) (xs : List Nat) : Int32 := xs.foldl (fun h b => (h ^^^ nI b) * 16777619) h
def finh (h : Int32) : Int32 := (h ^^^ jushr h 16) &&& 65535
theorem getD_drop {xs : List Nat} {m : Nat} (h : m < xs.length) : xs.drop m = xs.getD m 0 :: xs.drop (m + 1) := by
  rw [List.drop_eq_getElem_cons h, List.getD_eq_getElem?_getD, List.getElem?_eq_getElem h]
  rfl
theorem getD_mem {xs : List Nat} {m : Nat} (h : m < xs.length) : xs.getD m 0 ∈ xs := by
  rw [List.getD_eq_getElem?_getD, List.getElem?_eq_getElem h]
  exact List.getElem_mem h
theorem row_mark9 {L : La} {F : Mem} {i a cap : Nat} {xs : List Nat} (hs : RS L i a cap) (hd : RD F i a xs) (hl : xs.length ≤ cap) : ∀ (d m : Nat) (h : Int32) (fu : Nat), d + m = xs.length → d < fu → f_Row_markFrom_9 L fu i h (nI m) F = some (finh (mixh h (xs.drop m)), F) := by
  have h5 := hs.2.2.2.2
  intro d
  induction d with
  | zero =>
    intro m h fu hm hf
    obtain ⟨fu, rfl⟩ : ∃ k, fu = k + 1 := ⟨fu - 1, by omega⟩
    show b_Row_markFrom_9 L (f_Row_markFrom_9 L fu) i h (nI m) F = _
    unfold b_Row_markFrom_9
    rw [hd.1, if_pos (by rw [nI_leI (by omega) (by omega)]; omega), List.drop_of_length_le (by omega)]
    rfl
  | succ d ih =>
    intro m h fu hm hf
    obtain ⟨fu, rfl⟩ : ∃ k, fu = k + 1 := ⟨fu - 1, by omega⟩
    show b_Row_markFrom_9 L (f_Row_markFrom_9 L fu) i h (nI m) F = _
    unfold b_Row_markFrom_9
    rw [hd.1, if_neg (by rw [nI_leI (by omega) (by omega)]; omega), hs.1, hs.gl, if_neg (inb_no (by omega) (by omega)), hs.ga, nI_clamp (by omega), hd.2 m (by omega), nI_1, ih (m + 1) _ fu (by omega) (by omega), getD_drop (show m < xs.length by omega)]
    rfl
theorem row_mark {L : La} {F : Mem} {i a cap : Nat} {xs : List Nat} (hs : RS L i a cap) (hd : RD F i a xs) (hl : xs.length ≤ cap) (h4 : xs.length < 4000) (m : Nat) (hm : m ≤ xs.length) : f_Row_markFrom L i (nI m) F = some (finh (mixh (nI (xs.length - m)) (xs.drop m)), F) := by
  have h5 := hs.2.2.2.2
  unfold f_Row_markFrom
  rw [hd.1, pk_sub hm, row_mark9 hs hd hl (xs.length - m) m _ mFU (by omega) (by unfold mFU; omega)]
/-! the model's two rows: a field of cell 0 and an array -/
def MD (G : Mem) (s a : Nat) (xs : List Nat) : Prop := G 0 s = nI xs.length ∧ ∀ j, j < xs.length → G a j = nI (xs.getD j 0)
/-- places of cell 0 in sl and cells in cs alone have changed -/
def Fm (sl cs : List Nat) (F G : Mem) : Prop := (∀ k, k ≠ 0 → k ∉ cs → G k = F k) ∧ ∀ s, s ∉ sl → G 0 s = F 0 s
theorem Fm.rf {sl cs : List Nat} {F : Mem} : Fm sl cs F F := ⟨fun _ _ _ => rfl, fun _ _ => rfl⟩
theorem Fm.tr {sl cs : List Nat} {F G H : Mem} (h1 : Fm sl cs F G) (h2 : Fm sl cs G H) : Fm sl cs F H := ⟨fun k h0 hk => (h2.1 k h0 hk).trans (h1.1 k h0 hk), fun s hs => (h2.2 s hs).trans (h1.2 s hs)⟩
theorem Fm.up {sl cs sl' cs' : List Nat} {F G : Mem} (h : Fm sl cs F G) (h1 : ∀ k ∈ sl, k ∈ sl') (h2 : ∀ k ∈ cs, k ∈ cs') : Fm sl' cs' F G := ⟨fun k h0 hk => h.1 k h0 (fun q => hk (h2 k q)), fun s hs => h.2 s (fun q => hs (h1 s q))⟩
theorem Fm.us {sl cs : List Nat} {F : Mem} {s : Nat} {v : Int32} (h : s ∈ sl) : Fm sl cs F (u2 F 0 s v) := ⟨fun k h0 _ => u2_ne h0, fun j hj => u2_p (fun e => hj (e ▸ h))⟩
theorem Fm.uc {sl cs : List Nat} {F : Mem} {a j : Nat} {v : Int32} (h : a ∈ cs) (h0 : a ≠ 0) : Fm sl cs F (u2 F a j v) := ⟨fun k _ hk => u2_ne (fun e => hk (e ▸ h)), fun s _ => u2_c h0.symm⟩
theorem MD.fm {F G : Mem} {s a : Nat} {xs : List Nat} {sl cs : List Nat} (h : MD F s a xs) (hf : Fm sl cs F G) (hs : s ∉ sl) (ha : a ∉ cs) (h0 : a ≠ 0) : MD G s a xs := ⟨by rw [hf.2 s hs]; exact h.1, fun j hj => by rw [hf.1 a h0 ha]; exact h.2 j hj⟩
/-- a byte put behind such a row -/
theorem MD.push {F : Mem} {s a : Nat} {xs : List Nat} (h : MD F s a xs) (h0 : a ≠ 0) (b : Nat) : MD (u2 (u2 F a xs.length (nI b)) 0 s (nI (xs.length + 1))) s a (xs ++ [b]) ∧ Fm [s] [a] F (u2 (u2 F a xs.length (nI b)) 0 s (nI (xs.length + 1))) := by
  refine ⟨⟨?_, ?_⟩, ?_⟩
  · rw [u2_s]; simp
  · intro j hj
    rw [u2_c h0]
    by_cases e : j = xs.length
    · subst e
      rw [u2_s]; simp
    · have h6 : j < xs.length := by simp at hj; omega
      rw [u2_p e, h.2 j h6]
      simp [List.getD_eq_getElem?_getD, List.getElem?_append_left h6]
  · exact (Fm.uc (by simp) h0).tr (Fm.us (by simp))
theorem md_write_lp (x : Int64) : ∀ (n : Nat) (F : Mem) (xs : List Nat) (fu : Nat), n ≤ 8 → n < fu → MD F 1 1 xs → xs.length + n ≤ 120 →
    ∃ G ys, f_Md_write_29 L2 fu 0 x (nI n - 1) F = some (1, G) ∧ MD G 1 1 (xs ++ ys) ∧ Fm [1] [1] F G ∧ ys.length = n ∧ ∀ j, j < n → ys.getD j 0 < 256 ∧ nI (ys.getD j 0) = (jlushr x (8 * nI (n - 1 - j))).toInt32 &&& 255 := by
  intro n
  induction n with
  | zero =>
    intro F xs fu hn hf hr hc
    obtain ⟨fu, rfl⟩ : ∃ k, fu = k + 1 := ⟨fu - 1, by omega⟩
    refine ⟨F, [], ?_, by simpa using hr, Fm.rf, rfl, fun j hj => absurd hj (by omega)⟩
    show b_Md_write_29 L2 (f_Md_write_29 L2 fu) 0 x (nI 0 - 1) F = some (1, F)
    unfold b_Md_write_29
    rw [if_pos (by decide), if_pos zb1]
  | succ n ih =>
    intro F xs fu hn hf hr hc
    obtain ⟨fu, rfl⟩ : ∃ k, fu = k + 1 := ⟨fu - 1, by omega⟩
    obtain ⟨b, hb, hx⟩ := and_255 (jlushr x (8 * nI n)).toInt32
    obtain ⟨d1, f1⟩ := hr.push (by decide) b
    obtain ⟨G2, ys, e2, d2, f2, l2, b2⟩ := ih _ (xs ++ [b]) fu (by omega) (by omega) d1 (by simp; omega)
    refine ⟨G2, b :: ys, ?_, by simpa using d2, f1.tr f2, by simp [l2], fun j hj => ?_⟩
    · show b_Md_write_29 L2 (f_Md_write_29 L2 fu) 0 x (nI (n + 1) - 1) F = some (1, G2)
      unfold b_Md_write_29
      have hm : mRf L2 0 0 = 1 := rfl
      have hl : mLn L2 1 = 120 := rfl
      rw [nI_pred, if_neg (nI_pos (by omega)), hm, hl, hr.1, if_neg (fun q => q.elim (inb_no (by omega) (by omega)) (fun q => q (by decide))), ld, ld, nI_clamp (by omega), lo_byte x (by omega), hx, u2_c (by decide), hr.1, nI_1, ← Int32.sub_eq_add_neg, e2]
    · cases j with
      | zero => exact ⟨hb, by simpa using hx.symm⟩
      | succ j =>
        have := b2 j (by omega)
        rw [show n + 1 - 1 - (j + 1) = n - 1 - j by omega]
        simpa using this
theorem md_write {F : Mem} {xs : List Nat} (hd : MD F 1 1 xs) (hl : xs.length ≤ 120) (n : Int32) (x : Int64) :
    (∃ k, n = nI k ∧ 1 ≤ k ∧ k ≤ 8 ∧ xs.length + k ≤ 120 ∧ ∃ G, f_Md_write L2 0 n x F = some (1, G) ∧ MD G 1 1 (xs ++ lows k x) ∧ Fm [1] [1] F G) ∨
    ((∀ k, n = nI k → 1 ≤ k → k ≤ 8 → ¬ xs.length + k ≤ 120) ∧ f_Md_write L2 0 n x F = some (0, F)) := by
  unfold f_Md_write b_Md_write_22
  by_cases h1 : n < 1
  · right
    refine ⟨fun k e h6 h7 => ?_, by rw [if_pos h1, if_pos zb0]⟩
    subst e
    exact absurd h1 (by rw [show (1 : Int32) = nI 1 from rfl, nI_ltI (by omega) (by omega)]; omega)
  · rw [if_neg h1]
    by_cases h8 : 8 < n
    · right
      refine ⟨fun k e h6 h7 => ?_, by rw [if_pos h8, if_pos zb0]⟩
      subst e
      exact absurd h8 (by rw [show (8 : Int32) = nI 8 from rfl, nI_ltI (by omega) (by omega)]; omega)
    · rw [if_neg h8]
      obtain ⟨k, hk, rfl⟩ : ∃ k, k ≤ 8 ∧ n = nI k := nI_of2 (M := 8) rfl (fun q => h1 (Int32.lt_trans q (by decide))) (Int32.not_lt.mp h8)
      have hk1 : 1 ≤ k := by
        rcases Nat.eq_zero_or_pos k with rfl | h
        · exact absurd (by decide) h1
        · exact h
      rw [hd.1, nI_add, show (120 : Int32) = nI 120 from rfl]
      by_cases hc : xs.length + k ≤ 120
      · left
        obtain ⟨G, ys, e2, d2, f2, l2, b2⟩ := md_write_lp x k F xs mFU hk (by unfold mFU; omega) hd hc
        rw [if_pos ((nI_leI (by omega) (by omega)).mpr hc)]
        exact ⟨k, rfl, hk1, hk, hc, G, e2, by rw [← lows_of l2 b2]; exact d2, f2⟩
      · right
        rw [if_neg (fun q => hc ((nI_leI (by omega) (by omega)).mp q)), if_pos zb0]
        exact ⟨fun k' e h6 h7 => by rw [nI_inj (by omega) (by omega) e] at hc; exact hc, rfl⟩
theorem md_put_lp (x : Int64) : ∀ (n : Nat) (F : Mem) (xs : List Nat) (fu : Nat), n ≤ 8 → n < fu → MD F 3 2 xs → xs.length + n ≤ 240 →
    ∃ G ys, f_Md_put_30 L2 fu 0 x (nI n - 1) F = some (1, G) ∧ MD G 3 2 (xs ++ ys) ∧ Fm [3] [2] F G ∧ ys.length = n ∧ ∀ j, j < n → ys.getD j 0 < 256 ∧ nI (ys.getD j 0) = (jlushr x (8 * nI (n - 1 - j))).toInt32 &&& 255 := by
  intro n
  induction n with
  | zero =>
    intro F xs fu hn hf hr hc
    obtain ⟨fu, rfl⟩ : ∃ k, fu = k + 1 := ⟨fu - 1, by omega⟩
    refine ⟨F, [], ?_, by simpa using hr, Fm.rf, rfl, fun j hj => absurd hj (by omega)⟩
    show b_Md_put_30 L2 (f_Md_put_30 L2 fu) 0 x (nI 0 - 1) F = some (1, F)
    unfold b_Md_put_30
    rw [if_pos (by decide), if_pos zb1]
  | succ n ih =>
    intro F xs fu hn hf hr hc
    obtain ⟨fu, rfl⟩ : ∃ k, fu = k + 1 := ⟨fu - 1, by omega⟩
    obtain ⟨b, hb, hx⟩ := and_255 (jlushr x (8 * nI n)).toInt32
    obtain ⟨d1, f1⟩ := hr.push (by decide) b
    obtain ⟨G2, ys, e2, d2, f2, l2, b2⟩ := ih _ (xs ++ [b]) fu (by omega) (by omega) d1 (by simp; omega)
    refine ⟨G2, b :: ys, ?_, by simpa using d2, f1.tr f2, by simp [l2], fun j hj => ?_⟩
    · show b_Md_put_30 L2 (f_Md_put_30 L2 fu) 0 x (nI (n + 1) - 1) F = some (1, G2)
      unfold b_Md_put_30
      have hm : mRf L2 0 2 = 2 := rfl
      have hl : mLn L2 2 = 240 := rfl
      rw [nI_pred, if_neg (nI_pos (by omega)), hm, hl, hr.1, if_neg (fun q => q.elim (inb_no (by omega) (by omega)) (fun q => q (by decide))), ld, ld, nI_clamp (by omega), lo_byte x (by omega), hx, u2_c (by decide), hr.1, nI_1, ← Int32.sub_eq_add_neg, e2]
    · cases j with
      | zero => exact ⟨hb, by simpa using hx.symm⟩
      | succ j =>
        have := b2 j (by omega)
        rw [show n + 1 - 1 - (j + 1) = n - 1 - j by omega]
        simpa using this
theorem md_put {F : Mem} {xs : List Nat} (hd : MD F 3 2 xs) (hl : xs.length ≤ 240) (n : Int32) (x : Int64) :
    (∃ k, n = nI k ∧ 1 ≤ k ∧ k ≤ 8 ∧ xs.length + k ≤ 240 ∧ ∃ G, f_Md_put L2 0 n x F = some (1, G) ∧ MD G 3 2 (xs ++ lows k x) ∧ Fm [3] [2] F G) ∨
    ((∀ k, n = nI k → 1 ≤ k → k ≤ 8 → ¬ xs.length + k ≤ 240) ∧ f_Md_put L2 0 n x F = some (0, F)) := by
  unfold f_Md_put b_Md_put_23
  by_cases h1 : n < 1
  · right
    refine ⟨fun k e h6 h7 => ?_, by rw [if_pos h1, if_pos zb0]⟩
    subst e
    exact absurd h1 (by rw [show (1 : Int32) = nI 1 from rfl, nI_ltI (by omega) (by omega)]; omega)
  · rw [if_neg h1]
    by_cases h8 : 8 < n
    · right
      refine ⟨fun k e h6 h7 => ?_, by rw [if_pos h8, if_pos zb0]⟩
      subst e
      exact absurd h8 (by rw [show (8 : Int32) = nI 8 from rfl, nI_ltI (by omega) (by omega)]; omega)
    · rw [if_neg h8]
      obtain ⟨k, hk, rfl⟩ : ∃ k, k ≤ 8 ∧ n = nI k := nI_of2 (M := 8) rfl (fun q => h1 (Int32.lt_trans q (by decide))) (Int32.not_lt.mp h8)
      have hk1 : 1 ≤ k := by
        rcases Nat.eq_zero_or_pos k with rfl | h
        · exact absurd (by decide) h1
        · exact h
      rw [hd.1, nI_add, show (240 : Int32) = nI 240 from rfl]
      by_cases hc : xs.length + k ≤ 240
      · left
        obtain ⟨G, ys, e2, d2, f2, l2, b2⟩ := md_put_lp x k F xs mFU hk (by unfold mFU; omega) hd hc
        rw [if_pos ((nI_leI (by omega) (by omega)).mpr hc)]
        exact ⟨k, rfl, hk1, hk, hc, G, e2, by rw [← lows_of l2 b2]; exact d2, f2⟩
      · right
        rw [if_neg (fun q => hc ((nI_leI (by omega) (by omega)).mp q)), if_pos zb0]
        exact ⟨fun k' e h6 h7 => by rw [nI_inj (by omega) (by omega) e] at hc; exact hc, rfl⟩
theorem md_content {F : Mem} {xs : List Nat} (hd : MD F 1 1 xs) (hl : xs.length ≤ 120) (k : Int32) : f_Md_content L2 0 k F = some (if k = -1 then nI xs.length else if inb k xs.length then -1 else nI (xs.getD k.toNatClampNeg 0), F) := by
  unfold f_Md_content b_Md_content_24 b_Md_content_34
  by_cases h1 : k = -1
  · rw [if_pos h1, if_pos h1, hd.1]
  · rw [if_neg h1, if_neg h1]
    by_cases h2 : k < 0
    · rw [if_pos h2, if_pos (Or.inl h2)]
    · rw [if_neg h2]
      obtain ⟨j, hj, rfl⟩ := nI_of h2
      rw [hd.1]
      by_cases h3 : j < xs.length
      · have hm : mRf L2 0 0 = 1 := rfl
        have hg : mGl L2 1 = 120 := rfl
        have ha : mGa L2 F 1 j = F 1 j := if_pos (by decide)
        rw [if_pos ((nI_ltI hj (by omega)).mpr h3), hm, hg, if_neg (inb_no (by omega) (by omega)), if_neg (inb_no (by omega) (by omega)), nI_clamp hj, ha, hd.2 j h3]
      · rw [if_neg (fun q => h3 ((nI_ltI hj (by omega)).mp q)), if_pos (Or.inr (by rw [nI_clamp hj]; omega))]
theorem md_wire {F : Mem} {xs : List Nat} (hd : MD F 3 2 xs) (hl : xs.length ≤ 240) (k : Int32) : f_Md_wire L2 0 k F = some (if k = -1 then nI xs.length else if inb k xs.length then -1 else nI (xs.getD k.toNatClampNeg 0), F) := by
  unfold f_Md_wire b_Md_wire_24 b_Md_wire_34
  by_cases h1 : k = -1
  · rw [if_pos h1, if_pos h1, hd.1]
  · rw [if_neg h1, if_neg h1]
    by_cases h2 : k < 0
    · rw [if_pos h2, if_pos (Or.inl h2)]
    · rw [if_neg h2]
      obtain ⟨j, hj, rfl⟩ := nI_of h2
      rw [hd.1]
      by_cases h3 : j < xs.length
      · have hm : mRf L2 0 2 = 2 := rfl
        have hg : mGl L2 2 = 240 := rfl
        have ha : mGa L2 F 2 j = F 2 j := if_pos (by decide)
        rw [if_pos ((nI_ltI hj (by omega)).mpr h3), hm, hg, if_neg (inb_no (by omega) (by omega)), if_neg (inb_no (by omega) (by omega)), nI_clamp hj, ha, hd.2 j h3]
      · rw [if_neg (fun q => h3 ((nI_ltI hj (by omega)).mp q)), if_pos (Or.inr (by rw [nI_clamp hj]; omega))]
theorem md_mark7 {F : Mem} {xs : List Nat} (hd : MD F 1 1 xs) (hl : xs.length ≤ 120) : ∀ (d m : Nat) (h : Int32) (fu : Nat), d + m = xs.length → d < fu → f_Md_mark_7 L2 fu 0 h (nI m) F = some (finh (mixh h (xs.drop m)), F) := by
  intro d
  induction d with
  | zero =>
    intro m h fu hm hf
    obtain ⟨fu, rfl⟩ : ∃ k, fu = k + 1 := ⟨fu - 1, by omega⟩
    show b_Md_mark_7 L2 (f_Md_mark_7 L2 fu) 0 h (nI m) F = _
    unfold b_Md_mark_7
    rw [hd.1, if_pos (by rw [nI_leI (by omega) (by omega)]; omega), List.drop_of_length_le (by omega)]
    rfl
  | succ d ih =>
    intro m h fu hm hf
    obtain ⟨fu, rfl⟩ : ∃ k, fu = k + 1 := ⟨fu - 1, by omega⟩
    show b_Md_mark_7 L2 (f_Md_mark_7 L2 fu) 0 h (nI m) F = _
    unfold b_Md_mark_7 f_Md_mixed
    have hr : mRf L2 0 0 = 1 := rfl
    have hg : mGl L2 1 = 120 := rfl
    have ha : mGa L2 F 1 m = F 1 m := if_pos (by decide)
    rw [hd.1, if_neg (by rw [nI_leI (by omega) (by omega)]; omega), hr, hg, if_neg (inb_no (by omega) (by omega)), nI_clamp (by omega), ha, hd.2 m (by omega)]
    simp only [Option.bind_some]
    rw [nI_1, ih (m + 1) _ fu (by omega) (by omega), getD_drop (show m < xs.length by omega)]
    rfl
theorem md_mark {F : Mem} {xs : List Nat} (hd : MD F 1 1 xs) (hl : xs.length ≤ 120) : f_Md_mark L2 0 F = some (finh (mixh (nI xs.length) xs), F) := by
  unfold f_Md_mark
  rw [hd.1]
  have := md_mark7 hd hl xs.length 0 (nI xs.length) mFU (by omega) (by unfold mFU; omega)
  rw [List.drop_zero] at this
  exact this
theorem md_append {F : Mem} {xs : List Nat} (hd : MD F 3 2 xs) (hl : xs.length < 240) (b : Nat) : ∃ G, f_Md_append L2 0 (nI b) F = some G ∧ MD G 3 2 (xs ++ [b]) ∧ Fm [3] [2] F G := by
  obtain ⟨d1, f1⟩ := hd.push (by decide) b
  refine ⟨_, ?_, d1, f1⟩
  unfold f_Md_append
  have hr : mRf L2 0 2 = 2 := rfl
  have hg : mLn L2 2 = 240 := rfl
  rw [hr, hg, hd.1, if_neg (fun q => q.elim (inb_no (by omega) (by omega)) (fun q => q (by decide))), ld, ld, nI_clamp (by omega), u2_c (by decide), hd.1, nI_1]
theorem md_skip39 (n : Nat) (hn : n ≤ 20) : ∀ (d m : Nat) (F : Mem) (xs : List Nat) (fu : Nat), d + m = n → d < fu → MD F 3 2 xs → xs.length + d ≤ 240 → ∃ G, f_Md_skip_39 L2 fu 0 (nI n) (nI m) F = some (1, G) ∧ MD G 3 2 (xs ++ List.replicate d 0) ∧ Fm [3] [2] F G := by
  intro d
  induction d with
  | zero =>
    intro m F xs fu hm hf hr hc
    obtain ⟨fu, rfl⟩ : ∃ k, fu = k + 1 := ⟨fu - 1, by omega⟩
    refine ⟨F, ?_, by simpa using hr, Fm.rf⟩
    show b_Md_skip_39 L2 (f_Md_skip_39 L2 fu) 0 (nI n) (nI m) F = _
    unfold b_Md_skip_39
    rw [if_pos (by rw [nI_leI (by omega) (by omega)]; omega), if_pos zb1]
  | succ d ih =>
    intro m F xs fu hm hf hr hc
    obtain ⟨fu, rfl⟩ : ∃ k, fu = k + 1 := ⟨fu - 1, by omega⟩
    obtain ⟨G1, e1, d1, f1⟩ := md_append hr (by omega) 0
    obtain ⟨G2, e2, d2, f2⟩ := ih (m + 1) G1 _ fu (by omega) (by omega) d1 (by simp; omega)
    refine ⟨G2, ?_, ?_, f1.tr f2⟩
    · show b_Md_skip_39 L2 (f_Md_skip_39 L2 fu) 0 (nI n) (nI m) F = _
      unfold b_Md_skip_39
      rw [if_neg (by rw [nI_leI (by omega) (by omega)]; omega), show (0 : Int32) = nI 0 from rfl, e1]
      simp only [Option.bind_some]
      rw [nI_1, e2]
    · rw [List.replicate_succ]
      simpa using d2
theorem md_skip {F : Mem} {xs : List Nat} (hd : MD F 3 2 xs) (hl : xs.length ≤ 240) (n : Int32) :
    (∃ k, n = nI k ∧ k ≤ 20 ∧ xs.length + 2 + k ≤ 240 ∧ ∃ G, f_Md_skip L2 0 n F = some (1, G) ∧ MD G 3 2 (xs ++ 83 :: k :: List.replicate k 0) ∧ Fm [3] [2] F G) ∨
    ((∀ k, n = nI k → k ≤ 20 → ¬ xs.length + 2 + k ≤ 240) ∧ f_Md_skip L2 0 n F = some (0, F)) := by
  unfold f_Md_skip b_Md_skip_24
  by_cases h1 : n < 0
  · right
    refine ⟨fun k e h6 h7 => ?_, by rw [if_pos h1, if_pos zb0]⟩
    subst e
    exact absurd h1 (nI_pos (by omega))
  · rw [if_neg h1]
    by_cases h8 : 20 < n
    · right
      refine ⟨fun k e h6 h7 => ?_, by rw [if_pos h8, if_pos zb0]⟩
      subst e
      exact absurd h8 (by rw [show (20 : Int32) = nI 20 from rfl, nI_ltI (by omega) (by omega)]; omega)
    · rw [if_neg h8]
      obtain ⟨k, hk, rfl⟩ : ∃ k, k ≤ 20 ∧ n = nI k := nI_of2 (M := 20) rfl h1 (Int32.not_lt.mp h8)
      rw [hd.1, show (2 : Int32) = nI 2 from rfl, nI_add, nI_add, show (240 : Int32) = nI 240 from rfl]
      by_cases hc : xs.length + 2 + k ≤ 240
      · left
        rw [if_pos ((nI_leI (by omega) (by omega)).mpr hc)]
        obtain ⟨G1, e1, d1, f1⟩ := md_append hd (by omega) 83
        obtain ⟨G2, e2, d2, f2⟩ := md_append d1 (by simp; omega) k
        obtain ⟨G3, e3, d3, f3⟩ := md_skip39 k hk k 0 G2 _ mFU (by omega) (by unfold mFU; omega) d2 (by simp; omega)
        refine ⟨k, rfl, hk, hc, G3, ?_, by simpa using d3, (f1.tr f2).tr f3⟩
        rw [show (83 : Int32) = nI 83 from rfl, e1]
        simp only [Option.bind_some]
        rw [e2]
        simp only [Option.bind_some]
        exact e3
      · right
        rw [if_neg (fun q => hc ((nI_leI (by omega) (by omega)).mp q)), if_pos zb0]
        exact ⟨fun k' e h6 => by rw [nI_inj (by omega) (by omega) e] at hc; exact hc, rfl⟩
