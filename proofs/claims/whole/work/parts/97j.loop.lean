theorem sub4 {Ln i : Nat} (hL : Ln ≤ 2048) (h : Ln < i + 4) (hi : i ≤ 2048) : nI Ln - 4 < nI i := by
  rw [show (4 : Int32) = nI 4 from rfl, Int32.lt_iff_toInt_lt, pk_sub_toInt (by omega) (by omega), nI_toInt (by omega)]
  omega
theorem sub4n {Ln i : Nat} (hL : Ln ≤ 2048) (h : ¬ Ln < i + 4) : ¬ nI Ln - 4 < nI i := by
  rw [show (4 : Int32) = nI 4 from rfl, Int32.lt_iff_toInt_lt, pk_sub_toInt (by omega) (by omega), nI_toInt (by omega)]
  omega
/-! the law's loop: every call is answered alike -/
/-- what the three larger calls owe -/
def OpPack (U : Mem) : Prop := ∀ (F G : Mem) (c w : List Nat) (x : Int32), x = 0 ∨ x = 1 → CW c w → RP U F c w → RM G c w → ∃ r F' G' c' w', f_PF_pack L1 0 x F = some (r, F') ∧ f_Md_pack L2 0 x G = some (r, G') ∧ CW c' w' ∧ RP U F' c' w' ∧ RM G' c' w'
def OpUnpack (U : Mem) : Prop := ∀ (F G : Mem) (c w : List Nat), CW c w → RP U F c w → RM G c w → ∃ r F' G' c' w', f_PF_unpack L1 0 F = some (r, F') ∧ f_Md_unpack L2 0 G = some (r, G') ∧ CW c' w' ∧ RP U F' c' w' ∧ RM G' c' w'
def OpUsual (U : Mem) : Prop := ∀ (F G : Mem) (c w : List Nat) (x y z : Int32), CW c w → RP U F c w → RM G c w → ∃ r G', f_PF_usual L1 0 x y z F = some (r, F) ∧ f_Md_usual L2 0 x y z G = some (r, G') ∧ RM G' c w
theorem law_step {U : Mem} (hp : OpPack U) (hu : OpUnpack U) (hz : OpUsual U) {Ln : Nat} (hL : Ln ≤ 2048) (xs : Nat → Int32) : ∀ (d i : Nat) (F G : Mem) (c w : List Nat) (fu : Nat), Ln < i + 4 * d + 4 → d < fu → i ≤ 2048 → CW c w → RP U F c w → RM G c w → f_Law_18 Ln xs fu (nI i) F G = some () := by
  intro d
  induction d with
  | zero =>
    intro i F G c w fu hd hf hi h hP hM
    obtain ⟨fu, rfl⟩ : ∃ k, fu = k + 1 := ⟨fu - 1, by omega⟩
    show b_Law_18 Ln xs (f_Law_18 Ln xs fu) (nI i) F G = some ()
    unfold b_Law_18
    rw [if_pos (sub4 hL (by omega) hi)]
  | succ d ih =>
    intro i F G c w fu hd hf hi h hP hM
    obtain ⟨fu, rfl⟩ : ∃ k, fu = k + 1 := ⟨fu - 1, by omega⟩
    show b_Law_18 Ln xs (f_Law_18 Ln xs fu) (nI i) F G = some ()
    by_cases hend : Ln < i + 4
    · unfold b_Law_18
      rw [if_pos (sub4 hL hend hi)]
    · have go : ∀ (F G : Mem) (c w : List Nat), CW c w → RP U F c w → RM G c w → b_Law_454 Ln xs (f_Law_18 Ln xs fu) (nI i) F G = some () := by
        intro F G c w h hP hM
        unfold b_Law_454
        rw [show (4 : Int32) = nI 4 from rfl, nI_add]
        exact ih (i + 4) F G c w fu (by omega) (by omega) (by omega) h hP hM
      have i0 : ¬ inb (nI i) Ln := inb_no (by omega) (by omega)
      have i1 : ¬ inb (nI i + 1) Ln := by rw [nI_1]; exact inb_no (by omega) (by omega)
      have i2 : ¬ inb (nI i + 2) Ln := by rw [show (2 : Int32) = nI 2 from rfl, nI_add]; exact inb_no (by omega) (by omega)
      have i3 : ¬ inb (nI i + 3) Ln := by rw [show (3 : Int32) = nI 3 from rfl, nI_add]; exact inb_no (by omega) (by omega)
      unfold b_Law_18
      rw [if_neg (sub4n hL hend), if_neg i0]
      simp only [if_neg i1, if_neg i2, if_neg i3]
      by_cases q0 : xs (nI i).toNatClampNeg &&& 15 = 0
      · rw [if_pos q0]
        obtain ⟨r, F2, G2, c2, w2, e1, e2, h2, p2, m2⟩ := op_write h hP hM _ _
        rw [e1]
        simp only [Option.bind_some]
        rw [e2]
        simp only [Option.bind_some]
        rw [if_pos trivial]
        exact go F2 G2 c2 w2 h2 p2 m2
      rw [if_neg q0]
      by_cases q1 : xs (nI i).toNatClampNeg &&& 15 = 1
      · rw [if_pos q1]
        obtain ⟨F2, G2, e1, e2, h2, p2, m2⟩ := op_clear h hP hM
        rw [e1]
        simp only [Option.bind_some]
        rw [e2]
        exact go F2 G2 _ _ h2 p2 m2
      rw [if_neg q1]
      by_cases q2 : xs (nI i).toNatClampNeg &&& 15 = 2
      · rw [if_pos q2]
        obtain ⟨r, e1, e2⟩ := op_content h hP hM (xs (nI i + 1).toNatClampNeg)
        rw [e1]
        simp only [Option.bind_some]
        rw [e2]
        simp only [Option.bind_some]
        rw [if_pos trivial]
        exact go F G c w h hP hM
      rw [if_neg q2]
      by_cases q3 : xs (nI i).toNatClampNeg &&& 15 = 3
      · rw [if_pos q3]
        obtain ⟨r, F2, G2, c2, w2, e1, e2, h2, p2, m2⟩ := op_put h hP hM _ _
        rw [e1]
        simp only [Option.bind_some]
        rw [e2]
        simp only [Option.bind_some]
        rw [if_pos trivial]
        exact go F2 G2 c2 w2 h2 p2 m2
      rw [if_neg q3]
      by_cases q4 : xs (nI i).toNatClampNeg &&& 15 = 4
      · rw [if_pos q4]
        obtain ⟨F2, G2, e1, e2, h2, p2, m2⟩ := op_wipe h hP hM
        rw [e1]
        simp only [Option.bind_some]
        rw [e2]
        exact go F2 G2 _ _ h2 p2 m2
      rw [if_neg q4]
      by_cases q5 : xs (nI i).toNatClampNeg &&& 15 = 5
      · rw [if_pos q5]
        obtain ⟨r, e1, e2⟩ := op_wire h hP hM (xs (nI i + 1).toNatClampNeg)
        rw [e1]
        simp only [Option.bind_some]
        rw [e2]
        simp only [Option.bind_some]
        rw [if_pos trivial]
        exact go F G c w h hP hM
      rw [if_neg q5]
      by_cases q6 : xs (nI i).toNatClampNeg &&& 15 = 6
      · rw [if_pos q6]
        obtain ⟨r, F2, G2, c2, w2, e1, e2, h2, p2, m2⟩ := op_spoil h hP hM _ _
        rw [e1]
        simp only [Option.bind_some]
        rw [e2]
        simp only [Option.bind_some]
        rw [if_pos trivial]
        exact go F2 G2 c2 w2 h2 p2 m2
      rw [if_neg q6]
      by_cases q7 : xs (nI i).toNatClampNeg &&& 15 = 7
      · rw [if_pos q7]
        unfold b_Law_337 b_Law_354
        by_cases q : xs (nI i + 1).toNatClampNeg = 0
        · rw [if_pos q]
          obtain ⟨r, F2, G2, c2, w2, e1, e2, h2, p2, m2⟩ := hp F G c w 0 (Or.inl rfl) h hP hM
          rw [e1]
          simp only [Option.bind_some, if_neg i1]
          rw [if_pos q, e2]
          simp only [Option.bind_some]
          rw [if_pos trivial]
          exact go F2 G2 c2 w2 h2 p2 m2
        · rw [if_neg q]
          obtain ⟨r, F2, G2, c2, w2, e1, e2, h2, p2, m2⟩ := hp F G c w 1 (Or.inr rfl) h hP hM
          rw [e1]
          simp only [Option.bind_some, if_neg i1]
          rw [if_neg q, e2]
          simp only [Option.bind_some]
          rw [if_pos trivial]
          exact go F2 G2 c2 w2 h2 p2 m2
      rw [if_neg q7]
      by_cases q8 : xs (nI i).toNatClampNeg &&& 15 = 8
      · rw [if_pos q8]
        obtain ⟨r, F2, G2, c2, w2, e1, e2, h2, p2, m2⟩ := op_skip h hP hM _
        rw [e1]
        simp only [Option.bind_some]
        rw [e2]
        simp only [Option.bind_some]
        rw [if_pos trivial]
        exact go F2 G2 c2 w2 h2 p2 m2
      rw [if_neg q8]
      by_cases q9 : xs (nI i).toNatClampNeg &&& 15 = 9
      · rw [if_pos q9]
        obtain ⟨r, F2, G2, c2, w2, e1, e2, h2, p2, m2⟩ := hu F G c w h hP hM
        rw [e1]
        simp only [Option.bind_some]
        rw [e2]
        simp only [Option.bind_some]
        rw [if_pos trivial]
        exact go F2 G2 c2 w2 h2 p2 m2
      rw [if_neg q9]
      by_cases q10 : xs (nI i).toNatClampNeg &&& 15 = 10
      · rw [if_pos q10]
        obtain ⟨r, e1, e2⟩ := op_mark h hP hM
        rw [e1]
        simp only [Option.bind_some]
        rw [e2]
        simp only [Option.bind_some]
        rw [if_pos trivial]
        exact go F G c w h hP hM
      rw [if_neg q10]
      by_cases q11 : xs (nI i).toNatClampNeg &&& 15 = 11
      · rw [if_pos q11]
        obtain ⟨r, G2, e1, e2, m2⟩ := hz F G c w (xs (nI i + 1).toNatClampNeg) (xs (nI i + 2).toNatClampNeg) (xs (nI i + 3).toNatClampNeg) h hP hM
        rw [e1]
        simp only [Option.bind_some]
        rw [e2]
        simp only [Option.bind_some]
        rw [if_pos trivial]
        exact go F G2 c w h hP m2
      rw [if_neg q11]
      exact go F G c w h hP hM
