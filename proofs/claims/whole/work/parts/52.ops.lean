theorem nx_xor (a b : Nat) : nI a ^^^ nI b = nI (a ^^^ b) := by
  apply Int32.toBitVec_inj.mp
  apply BitVec.eq_of_toNat_eq
  show ((nI a).toBitVec ^^^ (nI b).toBitVec).toNat = (nI (a ^^^ b)).toBitVec.toNat
  have e : ∀ n, (nI n).toBitVec.toNat = n % 2 ^ 32 := fun n => by show (BitVec.ofNat 32 n).toNat = _; rw [BitVec.toNat_ofNat]
  rw [BitVec.toNat_xor, e, e, e, Nat.xor_mod_two_pow]
theorem getD_set {xs : List Nat} {k j : Nat} {v : Nat} (hj : j < xs.length) : (xs.set k v).getD j 0 = if j = k then v else xs.getD j 0 := by
  rw [List.getD_eq_getElem?_getD, List.getElem?_set, List.getD_eq_getElem?_getD]
  by_cases h : k = j
  · subst h
    simp [hj]
  · rw [if_neg h, if_neg (fun e => h e.symm)]
/-- the class's state: CONTENT c and WIRE w; what stays of the rest between calls -/
def Sf (U F : Mem) : Prop := (∀ k, 5 ≤ k → k ≤ 14 → F k = U k) ∧ (F 27 5 = nI 0 ∨ F 27 5 = nI 4) ∧ (F 32 5 = nI 0 ∨ F 32 5 = nI 4) ∧ (F 37 5 = nI 0 ∨ F 37 5 = nI 4) ∧ (∀ i, i < 17 → ∃ k, k < 16 ∧ F 20 i = nI k) ∧ ∀ i, i < 12 → ∃ k, k < 16 ∧ F 42 i = nI k
theorem Sf.fr {U F G : Mem} {S : List Nat} (h : Sf U F) (hf : Fr S F G) (hs : ∀ k, (5 ≤ k ∧ k ≤ 14) ∨ k = 27 ∨ k = 32 ∨ k = 37 ∨ k = 20 ∨ k = 42 → k ∉ S) : Sf U G :=
  ⟨fun k h1 h2 => by rw [hf k (hs k (Or.inl ⟨h1, h2⟩))]; exact h.1 k h1 h2, by rw [hf 27 (hs 27 (by omega))]; exact h.2.1, by rw [hf 32 (hs 32 (by omega))]; exact h.2.2.1, by rw [hf 37 (hs 37 (by omega))]; exact h.2.2.2.1, by rw [hf 20 (hs 20 (by omega))]; exact h.2.2.2.2.1, by rw [hf 42 (hs 42 (by omega))]; exact h.2.2.2.2.2⟩
def CW (c w : List Nat) : Prop := c.length ≤ 120 ∧ w.length ≤ 240 ∧ (∀ b ∈ c, b < 256) ∧ ∀ b ∈ w, b < 256
def RP (U F : Mem) (c w : List Nat) : Prop := RD F 1 2 c ∧ RD F 3 4 w ∧ Sf U F
def RM (G : Mem) (c w : List Nat) : Prop := MD G 1 1 c ∧ MD G 3 2 w
theorem rs1 : RS L1 1 2 120 := ⟨rfl, by decide, rfl, by decide, by decide⟩
theorem rs3 : RS L1 3 4 240 := ⟨rfl, by decide, rfl, by decide, by decide⟩
theorem RP.c {U F G : Mem} {c c' w : List Nat} (h : RP U F c w) (hc : RD G 1 2 c') (hf : Fr [1, 2] F G) : RP U G c' w := ⟨hc, h.2.1.fr hf (by decide) (by decide), h.2.2.fr hf (by simp; omega)⟩
theorem RP.w {U F G : Mem} {c w w' : List Nat} (h : RP U F c w) (hw : RD G 3 4 w') (hf : Fr [3, 4] F G) : RP U G c w' := ⟨h.1.fr hf (by decide) (by decide), hw, h.2.2.fr hf (by simp; omega)⟩
theorem RM.c {F G : Mem} {c c' w : List Nat} (h : RM F c w) (hc : MD G 1 1 c') (hf : Fm [1] [1] F G) : RM G c' w := ⟨hc, h.2.fm hf (by decide) (by decide) (by decide)⟩
theorem RM.w {F G : Mem} {c w w' : List Nat} (h : RM F c w) (hw : MD G 3 2 w') (hf : Fm [3] [2] F G) : RM G c w' := ⟨h.1.fm hf (by decide) (by decide) (by decide), hw⟩
theorem CW.wr {c w : List Nat} {k : Nat} (h : CW c w) (x : Int64) (hk : c.length + k ≤ 120) : CW (c ++ lows k x) w := ⟨by rw [List.length_append, lows_len]; exact hk, h.2.1, fun b hb => (List.mem_append.mp hb).elim (h.2.2.1 b) (lows_byte k x b), h.2.2.2⟩
theorem CW.pt {c w : List Nat} {k : Nat} (h : CW c w) (x : Int64) (hk : w.length + k ≤ 240) : CW c (w ++ lows k x) := ⟨h.1, by rw [List.length_append, lows_len]; exact hk, h.2.2.1, fun b hb => (List.mem_append.mp hb).elim (h.2.2.2 b) (lows_byte k x b)⟩
/-! call by call: class and model answer alike, and their states go on alike -/
theorem op_write {U F G : Mem} {c w : List Nat} (h : CW c w) (hp : RP U F c w) (hm : RM G c w) (n : Int32) (x : Int64) : ∃ r F' G' c' w', f_PF_write L1 0 n x F = some (r, F') ∧ f_Md_write L2 0 n x G = some (r, G') ∧ CW c' w' ∧ RP U F' c' w' ∧ RM G' c' w' := by
  unfold f_PF_write
  have e1 : mRf L1 0 0 = 1 := rfl
  rw [e1]
  rcases row_addLowest rs1 hp.1 h.1 n x with ⟨k, hn, h1, h8, hk, F', e, d, f⟩ | ⟨hn, e⟩
  · rcases md_write hm.1 h.1 n x with ⟨k', hn', h1', h8', hk', G', e', d', f'⟩ | ⟨hn', e'⟩
    · obtain rfl : k = k' := nI_inj (by omega) (by omega) (hn.symm.trans hn')
      exact ⟨1, F', G', _, w, by rw [e]; rfl, e', h.wr x hk, hp.c d f, hm.c d' f'⟩
    · exact absurd hk (hn' k hn h1 h8)
  · rcases md_write hm.1 h.1 n x with ⟨k', hn', h1', h8', hk', G', e', d', f'⟩ | ⟨hn', e'⟩
    · exact absurd hk' (hn k' hn' h1' h8')
    · exact ⟨0, F, G, c, w, by rw [e]; rfl, e', h, hp, hm⟩
theorem op_put {U F G : Mem} {c w : List Nat} (h : CW c w) (hp : RP U F c w) (hm : RM G c w) (n : Int32) (x : Int64) : ∃ r F' G' c' w', f_PF_put L1 0 n x F = some (r, F') ∧ f_Md_put L2 0 n x G = some (r, G') ∧ CW c' w' ∧ RP U F' c' w' ∧ RM G' c' w' := by
  unfold f_PF_put
  have e1 : mRf L1 0 1 = 3 := rfl
  rw [e1]
  rcases row_addLowest rs3 hp.2.1 h.2.1 n x with ⟨k, hn, h1, h8, hk, F', e, d, f⟩ | ⟨hn, e⟩
  · rcases md_put hm.2 h.2.1 n x with ⟨k', hn', h1', h8', hk', G', e', d', f'⟩ | ⟨hn', e'⟩
    · obtain rfl : k = k' := nI_inj (by omega) (by omega) (hn.symm.trans hn')
      exact ⟨1, F', G', c, _, by rw [e]; rfl, e', h.pt x hk, hp.w d f, hm.w d' f'⟩
    · exact absurd hk (hn' k hn h1 h8)
  · rcases md_put hm.2 h.2.1 n x with ⟨k', hn', h1', h8', hk', G', e', d', f'⟩ | ⟨hn', e'⟩
    · exact absurd hk' (hn k' hn' h1' h8')
    · exact ⟨0, F, G, c, w, by rw [e]; rfl, e', h, hp, hm⟩
theorem op_clear {U F G : Mem} {c w : List Nat} (h : CW c w) (hp : RP U F c w) (hm : RM G c w) : ∃ F' G', f_PF_clear L1 0 F = some F' ∧ f_Md_clear L2 0 G = some G' ∧ CW [] w ∧ RP U F' [] w ∧ RM G' [] w := by
  refine ⟨u2 F 1 1 0, u2 G 0 1 0, rfl, rfl, ⟨by simp, h.2.1, by simp, h.2.2.2⟩, hp.c ⟨u2_s, fun j hj => absurd hj (by simp)⟩ (Fr.u (by simp)), hm.c ⟨u2_s, fun j hj => absurd hj (by simp)⟩ (Fm.us (by simp))⟩
theorem op_wipe {U F G : Mem} {c w : List Nat} (h : CW c w) (hp : RP U F c w) (hm : RM G c w) : ∃ F' G', f_PF_wipe L1 0 F = some F' ∧ f_Md_wipe L2 0 G = some G' ∧ CW c [] ∧ RP U F' c [] ∧ RM G' c [] := by
  refine ⟨u2 F 3 1 0, u2 G 0 3 0, rfl, rfl, ⟨h.1, by simp, h.2.2.1, by simp⟩, hp.w ⟨u2_s, fun j hj => absurd hj (by simp)⟩ (Fr.u (by simp)), hm.w ⟨u2_s, fun j hj => absurd hj (by simp)⟩ (Fm.us (by simp))⟩
theorem op_content {U F G : Mem} {c w : List Nat} (h : CW c w) (hp : RP U F c w) (hm : RM G c w) (k : Int32) : ∃ r, f_PF_content L1 0 k F = some (r, F) ∧ f_Md_content L2 0 k G = some (r, G) := by
  refine ⟨_, ?_, md_content hm.1 h.1 k⟩
  unfold f_PF_content
  have e1 : mRf L1 0 0 = 1 := rfl
  rw [e1, row_at rs1 hp.1 h.1 k]
  rfl
theorem op_wire {U F G : Mem} {c w : List Nat} (h : CW c w) (hp : RP U F c w) (hm : RM G c w) (k : Int32) : ∃ r, f_PF_wire L1 0 k F = some (r, F) ∧ f_Md_wire L2 0 k G = some (r, G) := by
  refine ⟨_, ?_, md_wire hm.2 h.2.1 k⟩
  unfold f_PF_wire
  have e1 : mRf L1 0 1 = 3 := rfl
  rw [e1, row_at rs3 hp.2.1 h.2.1 k]
  rfl
theorem op_mark {U F G : Mem} {c w : List Nat} (h : CW c w) (hp : RP U F c w) (hm : RM G c w) : ∃ r, f_PF_mark L1 0 F = some (r, F) ∧ f_Md_mark L2 0 G = some (r, G) := by
  have h1 := h.1
  refine ⟨_, ?_, md_mark hm.1 h.1⟩
  unfold f_PF_mark
  have e1 : mRf L1 0 0 = 1 := rfl
  have e2 := row_mark rs1 hp.1 h.1 (by omega) 0 (by omega)
  rw [List.drop_zero, Nat.sub_zero] at e2
  rw [e1, show (0 : Int32) = nI 0 from rfl, e2]
  rfl
theorem row_skip {F : Mem} {xs : List Nat} (hd : RD F 3 4 xs) (hl : xs.length ≤ 240) (n : Int32) :
    (∃ k, n = nI k ∧ k ≤ 20 ∧ xs.length + 2 + k ≤ 240 ∧ ∃ G, f_PF_skip L1 0 n F = some (1, G) ∧ RD G 3 4 (xs ++ 83 :: k :: List.replicate k 0) ∧ Fr [3, 4] F G) ∨
    ((∀ k, n = nI k → k ≤ 20 → ¬ xs.length + 2 + k ≤ 240) ∧ f_PF_skip L1 0 n F = some (0, F)) := by
  unfold f_PF_skip b_PF_skip_23
  have er : mRf L1 0 1 = 3 := rfl
  rw [er]
  by_cases h1 : n < 0
  · right
    refine ⟨fun k e h6 h7 => ?_, by rw [if_pos h1, if_pos zb0]⟩
    subst e
    exact absurd h1 (nI_pos (by omega))
  · rw [if_neg h1]
    by_cases h8 : 20 < n
    · right
      refine ⟨fun k e h6 h7 => ?_, by rw [if_pos h8, if_pos zb0]⟩
      subst e
      exact absurd h8 (by rw [show (20 : Int32) = nI 20 from rfl, nI_ltI (by omega) (by omega)]; omega)
    · rw [if_neg h8]
      obtain ⟨k, hk, rfl⟩ : ∃ k, k ≤ 20 ∧ n = nI k := nI_of2 (M := 20) rfl h1 (Int32.not_lt.mp h8)
      rw [show (2 : Int32) = nI 2 from rfl, nI_add, row_room rs3 hd hl (k + 2) (by omega)]
      simp only [Option.bind_some]
      by_cases hc : xs.length + 2 + k ≤ 240
      · left
        obtain ⟨G1, e1, d1, f1⟩ := row_add rs3 hd (by omega) (x := 83) 83 (by decide)
        obtain ⟨G2, e2, d2, f2⟩ := row_add rs3 d1 (by simp; omega) (x := nI k) k (byte_255 (by omega))
        obtain ⟨G3, e3, d3, f3⟩ := row_addTimes rs3 d2 (x := 0) 0 (by decide) k (by omega) (by simp; omega)
        refine ⟨k, rfl, hk, hc, G3, ?_, by simpa using d3, (f1.tr f2).tr f3⟩
        rw [if_pos (show xs.length + (k + 2) ≤ 240 by omega), if_neg (by decide), e1]
        simp only [Option.bind_some]
        rw [e2]
        simp only [Option.bind_some]
        rw [e3]
        rfl
      · right
        refine ⟨fun k' e h6 => by rw [nI_inj (by omega) (by omega) e] at hc; exact hc, ?_⟩
        rw [if_neg (show ¬ xs.length + (k + 2) ≤ 240 by omega)]
        rfl
theorem op_skip {U F G : Mem} {c w : List Nat} (h : CW c w) (hp : RP U F c w) (hm : RM G c w) (n : Int32) : ∃ r F' G' c' w', f_PF_skip L1 0 n F = some (r, F') ∧ f_Md_skip L2 0 n G = some (r, G') ∧ CW c' w' ∧ RP U F' c' w' ∧ RM G' c' w' := by
  rcases row_skip hp.2.1 h.2.1 n with ⟨k, hn, h8, hk, F', e, d, f⟩ | ⟨hn, e⟩
  · rcases md_skip hm.2 h.2.1 n with ⟨k', hn', h8', hk', G', e', d', f'⟩ | ⟨hn', e'⟩
    · obtain rfl : k = k' := nI_inj (by omega) (by omega) (hn.symm.trans hn')
      refine ⟨1, F', G', c, _, e, e', ⟨h.1, by simp; omega, h.2.2.1, fun b hb => ?_⟩, hp.w d f, hm.w d' f'⟩
      rcases List.mem_append.mp hb with hb | hb
      · exact h.2.2.2 b hb
      · simp only [List.mem_cons, List.mem_replicate] at hb
        omega
    · exact absurd hk (hn' k hn h8)
  · rcases md_skip hm.2 h.2.1 n with ⟨k', hn', h8', hk', G', e', d', f'⟩ | ⟨hn', e'⟩
    · exact absurd hk' (hn k' hn' h8')
    · exact ⟨0, F, G, c, w, e, e', h, hp, hm⟩
theorem op_spoil {U F G : Mem} {c w : List Nat} (h : CW c w) (hp : RP U F c w) (hm : RM G c w) (k x : Int32) : ∃ r F' G' c' w', f_PF_spoil L1 0 k x F = some (r, F') ∧ f_Md_spoil L2 0 k x G = some (r, G') ∧ CW c' w' ∧ RP U F' c' w' ∧ RM G' c' w' := by
  have h2 := h.2.1
  unfold f_PF_spoil f_Md_spoil b_PF_spoil_15 b_Md_spoil_12
  have e1 : mRf L1 0 1 = 3 := rfl
  have e2 : mRf L1 3 0 = 4 := rfl
  have e3 : mRf L2 0 2 = 2 := rfl
  have e4 : mGl L1 4 = 240 := rfl
  have e5 : mGl L2 2 = 240 := rfl
  have e6 : mLn L1 4 = 240 := rfl
  have e7 : mLn L2 2 = 240 := rfl
  have a1 : ∀ j, mGa L1 F 4 j = F 4 j := fun j => if_pos (by decide)
  have a2 : ∀ j, mGa L2 G 2 j = G 2 j := fun j => if_pos (by decide)
  rw [e1, e2, e3, e4, e5, e6, e7, hp.2.1.1, hm.2.1]
  by_cases h0 : k < 0
  · exact ⟨0, F, G, c, w, by rw [if_pos h0, if_pos zb0], by rw [if_pos h0, if_pos zb0], h, hp, hm⟩
  · obtain ⟨j, hj, rfl⟩ := nI_of h0
    by_cases h3 : j < w.length
    · obtain ⟨m, hm8, ex⟩ := and_255 x
      have hb := h.2.2.2 _ (getD_mem h3)
      have hi := inb_no (n := j) (N := 240) (by omega) (by omega)
      refine ⟨1, u2 F 4 j (nI (w.getD j 0 ^^^ m)), u2 G 2 j (nI (w.getD j 0 ^^^ m)), c, w.set j (w.getD j 0 ^^^ m), ?_, ?_, ⟨h.1, by simpa using h2, h.2.2.1, fun b hb' => ?_⟩, hp.w ⟨by rw [u2_c (by decide), List.length_set]; exact hp.2.1.1, fun i hi => ?_⟩ (Fr.u (by simp)), hm.w ⟨by rw [u2_c (by decide), List.length_set]; exact hm.2.1, fun i hi => ?_⟩ (Fm.uc (by simp) (by decide))⟩
      · rw [if_neg h0, if_pos ((nI_ltI hj (by omega)).mpr h3), if_neg hi, if_neg (fun q => q.elim hi (fun q => q (by decide))), ld, nI_clamp hj, a1, hp.2.1.2 j h3, ex, nx_xor, if_pos zb1]
      · rw [if_neg h0, if_pos ((nI_ltI hj (by omega)).mpr h3), if_neg hi, if_neg (fun q => q.elim hi (fun q => q (by decide))), ld, nI_clamp hj, a2, hm.2.2 j h3, ex, nx_xor, if_pos zb1]
      · rcases List.mem_or_eq_of_mem_set hb' with q | q
        · exact h.2.2.2 b q
        · subst q
          exact Nat.xor_lt_two_pow (n := 8) hb hm8
      · rw [List.length_set] at hi
        rw [getD_set hi]
        by_cases q : i = j
        · subst q
          rw [u2_s, if_pos rfl]
        · rw [u2_p q, if_neg q, hp.2.1.2 i hi]
      · rw [List.length_set] at hi
        rw [getD_set hi]
        by_cases q : i = j
        · subst q
          rw [u2_s, if_pos rfl]
        · rw [u2_p q, if_neg q, hm.2.2 i hi]
    · have q : ¬ nI j < nI w.length := fun q => h3 ((nI_ltI hj (by omega)).mp q)
      exact ⟨0, F, G, c, w, by rw [if_neg h0, if_neg q, if_pos zb0], by rw [if_neg h0, if_neg q, if_pos zb0], h, hp, hm⟩
