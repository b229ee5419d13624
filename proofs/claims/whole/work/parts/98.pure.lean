theorem law_true : ∃ G0 G1 : Mem, f_ST_keepCounts (lST 0) 0 5 (nI 12) fST = some G0 ∧ f_ST_keepCounts (lST 1) 0 6 (nI 8) fST = some G1 ∧ ∀ (Ln : Nat) (xs : Nat → Int32), Ln ≤ 2048 → f_Law_18 Ln xs mFU 0 (F1 G0 G1) F2 = some () := by
  obtain ⟨G0, G1, e0, e1, hU, hP, hM⟩ := init_ok
  refine ⟨G0, G1, e0, e1, fun Ln xs hL => ?_⟩
  have hp : OpPack (F1 G0 G1) := fun F G c w x hx h hP hM => op_pack hU hx h hP hM
  have hu : OpUnpack (F1 G0 G1) := fun F G c w h hP hM => op_unpack h hP hM
  have hz : OpUsual (F1 G0 G1) := fun F G c w x y z h hP hM => op_usual hU x y z hP hM
  rw [l0]
  exact law_step hp hu hz hL xs 512 0 (F1 G0 G1) F2 [] [] mFU (by omega) (by unfold mFU; omega) (by omega) ⟨by simp, by simp, by simp, by simp⟩ hP hM
