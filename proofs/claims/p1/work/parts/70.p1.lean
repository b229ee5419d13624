/-! one call on a fresh object: the two larger calls by evaluation -/
def gA : Mem := (f_ST_keepCounts (lST 0) 0 5 (nI 12) fST).getD fST
def gB : Mem := (f_ST_keepCounts (lST 1) 0 6 (nI 8) fST).getD fST
theorem e_up1 : (f_PF_unpack L1 0 (F1 gA gB)).map (fun q => q.1) = some 0 := by decide +kernel
theorem e_up2 : (f_Md_unpack L2 0 F2).map (fun q => q.1) = some 0 := by decide +kernel
theorem e_pk2 : (f_Md_pack L2 0 0 F2).map (fun q => q.1) = some 6 := by decide +kernel
theorem e_pk2' : (f_Md_pack L2 0 1 F2).map (fun q => q.1) = some 8 := by decide +kernel
theorem e_pk1 : (f_PF_pack L1 0 0 (F1 gA gB)).map (fun q => q.1) = some 6 := by decide +kernel
theorem e_pk1' : (f_PF_pack L1 0 1 (F1 gA gB)).map (fun q => q.1) = some 8 := by decide +kernel
theorem of_map {α : Type} {x : Option (Int32 × α)} {r : Int32} (h : x.map (fun q => q.1) = some r) : ∃ G, x = some (r, G) := by
  cases x with
  | none => cases h
  | some q => exact ⟨q.2, by cases h; rfl⟩
theorem law_1 (xs : Nat → Int32) {U FF : Mem} (hU : UT U) (hp : RP U FF [] []) (hm : RM F2 [] []) (e_up1 : (f_PF_unpack L1 0 FF).map (fun q => q.1) = some 0) (e_pk1 : (f_PF_pack L1 0 0 FF).map (fun q => q.1) = some 6) (e_pk1' : (f_PF_pack L1 0 1 FF).map (fun q => q.1) = some 8) : f_Law_18 4 xs mFU 0 FF F2 = some () := by
  have h : CW [] [] := ⟨by simp, by simp, by simp, by simp⟩
  have go : ∀ (F G : Mem), b_Law_454 4 xs (f_Law_18 4 xs 4095) 0 F G = some () := by
    intro F G
    unfold b_Law_454
    show b_Law_18 4 xs (f_Law_18 4 xs 4094) (0 + 4) F G = some ()
    unfold b_Law_18
    rw [if_pos (by decide)]
  have i0 : ¬ inb (0 : Int32) 4 := by decide
  have i1 : ¬ inb ((0 : Int32) + 1) 4 := by decide
  have i2 : ¬ inb ((0 : Int32) + 2) 4 := by decide
  have i3 : ¬ inb ((0 : Int32) + 3) 4 := by decide
  show b_Law_18 4 xs (f_Law_18 4 xs 4095) 0 FF F2 = some ()
  generalize f_Law_18 4 xs 4095 = kk at go ⊢
  unfold b_Law_18
  rw [if_neg (by decide), if_neg i0]
  simp only [if_neg i1, if_neg i2, if_neg i3]
  by_cases q0 : xs (0 : Int32).toNatClampNeg &&& 15 = 0
  · rw [if_pos q0]
    obtain ⟨r, F3, G3, c3, w3, e1, e2, -⟩ := op_write h hp hm _ _
    rw [e1]
    simp only [Option.bind_some]
    rw [e2]
    simp only [Option.bind_some]
    rw [if_pos trivial]
    exact go _ _
  rw [if_neg q0]
  by_cases q1 : xs (0 : Int32).toNatClampNeg &&& 15 = 1
  · rw [if_pos q1]
    obtain ⟨F3, G3, e1, e2, -⟩ := op_clear h hp hm
    rw [e1]
    simp only [Option.bind_some]
    rw [e2]
    exact go _ _
  rw [if_neg q1]
  by_cases q2 : xs (0 : Int32).toNatClampNeg &&& 15 = 2
  · rw [if_pos q2]
    obtain ⟨r, e1, e2⟩ := op_content h hp hm (xs ((0 : Int32) + 1).toNatClampNeg)
    rw [e1]
    simp only [Option.bind_some]
    rw [e2]
    simp only [Option.bind_some]
    rw [if_pos trivial]
    exact go _ _
  rw [if_neg q2]
  by_cases q3 : xs (0 : Int32).toNatClampNeg &&& 15 = 3
  · rw [if_pos q3]
    obtain ⟨r, F3, G3, c3, w3, e1, e2, -⟩ := op_put h hp hm _ _
    rw [e1]
    simp only [Option.bind_some]
    rw [e2]
    simp only [Option.bind_some]
    rw [if_pos trivial]
    exact go _ _
  rw [if_neg q3]
  by_cases q4 : xs (0 : Int32).toNatClampNeg &&& 15 = 4
  · rw [if_pos q4]
    obtain ⟨F3, G3, e1, e2, -⟩ := op_wipe h hp hm
    rw [e1]
    simp only [Option.bind_some]
    rw [e2]
    exact go _ _
  rw [if_neg q4]
  by_cases q5 : xs (0 : Int32).toNatClampNeg &&& 15 = 5
  · rw [if_pos q5]
    obtain ⟨r, e1, e2⟩ := op_wire h hp hm (xs ((0 : Int32) + 1).toNatClampNeg)
    rw [e1]
    simp only [Option.bind_some]
    rw [e2]
    simp only [Option.bind_some]
    rw [if_pos trivial]
    exact go _ _
  rw [if_neg q5]
  by_cases q6 : xs (0 : Int32).toNatClampNeg &&& 15 = 6
  · rw [if_pos q6]
    obtain ⟨r, F3, G3, c3, w3, e1, e2, -⟩ := op_spoil h hp hm _ _
    rw [e1]
    simp only [Option.bind_some]
    rw [e2]
    simp only [Option.bind_some]
    rw [if_pos trivial]
    exact go _ _
  rw [if_neg q6]
  by_cases q7 : xs (0 : Int32).toNatClampNeg &&& 15 = 7
  · rw [if_pos q7]
    unfold b_Law_337 b_Law_354
    by_cases q : xs ((0 : Int32) + 1).toNatClampNeg = 0
    · rw [if_pos q]
      obtain ⟨F3, e1⟩ := of_map e_pk1
      obtain ⟨G3, e2⟩ := of_map e_pk2
      rw [e1]
      simp only [Option.bind_some, if_neg i1]
      rw [if_pos q, e2]
      simp only [Option.bind_some]
      rw [if_pos trivial]
      exact go _ _
    · rw [if_neg q]
      obtain ⟨F3, e1⟩ := of_map e_pk1'
      obtain ⟨G3, e2⟩ := of_map e_pk2'
      rw [e1]
      simp only [Option.bind_some, if_neg i1]
      rw [if_neg q, e2]
      simp only [Option.bind_some]
      rw [if_pos trivial]
      exact go _ _
  rw [if_neg q7]
  by_cases q8 : xs (0 : Int32).toNatClampNeg &&& 15 = 8
  · rw [if_pos q8]
    obtain ⟨r, F3, G3, c3, w3, e1, e2, -⟩ := op_skip h hp hm _
    rw [e1]
    simp only [Option.bind_some]
    rw [e2]
    simp only [Option.bind_some]
    rw [if_pos trivial]
    exact go _ _
  rw [if_neg q8]
  by_cases q9 : xs (0 : Int32).toNatClampNeg &&& 15 = 9
  · rw [if_pos q9]
    obtain ⟨F3, e1⟩ := of_map e_up1
    obtain ⟨G3, e2⟩ := of_map e_up2
    rw [e1]
    simp only [Option.bind_some]
    rw [e2]
    simp only [Option.bind_some]
    rw [if_pos trivial]
    exact go _ _
  rw [if_neg q9]
  by_cases q10 : xs (0 : Int32).toNatClampNeg &&& 15 = 10
  · rw [if_pos q10]
    obtain ⟨r, e1, e2⟩ := op_mark h hp hm 
    rw [e1]
    simp only [Option.bind_some]
    rw [e2]
    simp only [Option.bind_some]
    rw [if_pos trivial]
    exact go _ _
  rw [if_neg q10]
  by_cases q11 : xs (0 : Int32).toNatClampNeg &&& 15 = 11
  · rw [if_pos q11]
    obtain ⟨r, G3, e1, e2, -⟩ := op_usual hU (xs ((0 : Int32) + 1).toNatClampNeg) (xs ((0 : Int32) + 2).toNatClampNeg) (xs ((0 : Int32) + 3).toNatClampNeg) hp hm
    rw [e1]
    simp only [Option.bind_some]
    rw [e2]
    simp only [Option.bind_some]
    rw [if_pos trivial]
    exact go _ _
  rw [if_neg q11]
  exact go _ _
theorem law_true : ∃ G0 G1 : Mem, f_ST_keepCounts (lST 0) 0 5 (nI 12) fST = some G0 ∧ f_ST_keepCounts (lST 1) 0 6 (nI 8) fST = some G1 ∧ ∀ (Ln : Nat) (xs : Nat → Int32), Ln ≤ 4 → f_Law_18 Ln xs mFU 0 (F1 G0 G1) F2 = some () := by
  obtain ⟨G0, G1, e0, e1, hU, hp, hm⟩ := init_ok
  have q0 : gA = G0 := by unfold gA; rw [e0]; rfl
  have q1 : gB = G1 := by unfold gB; rw [e1]; rfl
  have a1 := e_up1
  have a2 := e_pk1
  have a3 := e_pk1'
  rw [q0, q1] at a1 a2 a3
  refine ⟨G0, G1, e0, e1, fun Ln xs hL => ?_⟩
  by_cases h4 : Ln = 4
  · subst h4
    exact law_1 xs hU hp hm a1 a2 a3
  · show b_Law_18 Ln xs (f_Law_18 Ln xs 4095) 0 (F1 G0 G1) F2 = some ()
    unfold b_Law_18
    rw [if_pos (by
      have : Ln = 0 ∨ Ln = 1 ∨ Ln = 2 ∨ Ln = 3 := by omega
      rcases this with rfl | rfl | rfl | rfl <;> decide)]
