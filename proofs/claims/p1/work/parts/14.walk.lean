theorem d_Md_aheadBits_0 : decode cc_Md_aheadBits 0 = .ok (.iload_n 0, 1) := by decide +kernel
theorem d_Md_aheadBits_1 : decode cc_Md_aheadBits 1 = .ok (.bipush (8), 2) := by decide +kernel
theorem d_Md_aheadBits_3 : decode cc_Md_aheadBits 3 = .ok (.if_icmp .ge (7), 3) := by decide +kernel
theorem d_Md_aheadBits_6 : decode cc_Md_aheadBits 6 = .ok (.iconst 0, 1) := by decide +kernel
theorem d_Md_aheadBits_7 : decode cc_Md_aheadBits 7 = .ok (.goto (25), 3) := by decide +kernel
theorem d_Md_aheadBits_10 : decode cc_Md_aheadBits 10 = .ok (.iload_n 0, 1) := by decide +kernel
theorem d_Md_aheadBits_11 : decode cc_Md_aheadBits 11 = .ok (.bipush (10), 2) := by decide +kernel
theorem d_Md_aheadBits_13 : decode cc_Md_aheadBits 13 = .ok (.if_icmp .ge (7), 3) := by decide +kernel
theorem d_Md_aheadBits_16 : decode cc_Md_aheadBits 16 = .ok (.iconst 1, 1) := by decide +kernel
theorem d_Md_aheadBits_17 : decode cc_Md_aheadBits 17 = .ok (.goto (15), 3) := by decide +kernel
theorem d_Md_aheadBits_20 : decode cc_Md_aheadBits 20 = .ok (.iload_n 0, 1) := by decide +kernel
theorem d_Md_aheadBits_21 : decode cc_Md_aheadBits 21 = .ok (.bipush (10), 2) := by decide +kernel
theorem d_Md_aheadBits_23 : decode cc_Md_aheadBits 23 = .ok (.if_icmp .ne (7), 3) := by decide +kernel
theorem d_Md_aheadBits_26 : decode cc_Md_aheadBits 26 = .ok (.iconst 2, 1) := by decide +kernel
theorem d_Md_aheadBits_27 : decode cc_Md_aheadBits 27 = .ok (.goto (5), 3) := by decide +kernel
theorem d_Md_aheadBits_30 : decode cc_Md_aheadBits 30 = .ok (.bipush (6), 2) := by decide +kernel
theorem d_Md_aheadBits_32 : decode cc_Md_aheadBits 32 = .ok (.ireturn, 1) := by decide +kernel
section
variable {p : Program} {l : Launch} {e : Env} {s : State} {m : MethodId} {args : Array Value} {below : List Frame} {meth : Method} {c : Code} {X : Xs} {L : La}
def b_Md_aheadBits_32 (L : La)  (y0 : Int32) (F : Mem) : Option (Int32 × Mem) :=
  some (y0, F)
set_option maxHeartbeats 4000000 in
theorem t_Md_aheadBits_32 (hC : Cx X L p s m args meth c cc_Md_aheadBits 1 w_Md_aheadBits R_Md (some .int))  {out : (Int32 × Mem)}  {y0 : Int32} {F : Mem} {H : Heap} {locs : List Loc} {ls : Array Slot}  (hI : Iv X L s H locs F) (hl : lv_has ls 1 []) (h : b_Md_aheadBits_32 L  y0 F = some out) : W p l e (headSpec w_Md_aheadBits r_Md_aheadBits).room s m args below meth c H locs 0 0 (MQ below (QI X L out) args s 0 0 (AA X L)) (F0 m 32 ls [.int y0]) := by
  unfold b_Md_aheadBits_32 at h
  obtain ⟨S, hK, hT, hW, hr, hlk⟩ := id hC
  have hx := S.1
  have hb := S.2.1
  exact w_iret S hK hr hlk hI d_Md_aheadBits_32 h
def f_Md_aheadBits (L : La) (x0 : Int32) (F : Mem) : Option (Int32 × Mem) :=
  if (8 : Int32) ≤ x0 then
    if (10 : Int32) ≤ x0 then
      if x0 = (10 : Int32) then
        b_Md_aheadBits_32 L  (2 : Int32) F
      else
        b_Md_aheadBits_32 L  (6 : Int32) F
    else
      b_Md_aheadBits_32 L  (1 : Int32) F
  else
    b_Md_aheadBits_32 L  (0 : Int32) F
set_option maxHeartbeats 4000000 in
theorem c_Md_aheadBits (l : Launch) {X : Xs} {L : La} (hW : WT L) {out : (Int32 × Mem)} {x0 : Int32} {F : Mem}  (h : f_Md_aheadBits L x0 F = some out) : Met l y_Md_aheadBits w_Md_aheadBits r_Md_aheadBits (va_Pc [.int x0] (Pr X L F)) (QI X L out) 0 0 (AA X L) := by
  refine mk_met (by decide) rfl (Nat.le_of_ble_eq_true rfl) hW ?_
  intro p e s m args below meth c ls hC hI hl
  have hl : lv_has ls 1 [(0, .int x0)] := hl
  generalize hHe : s.heap = H at hI ⊢
  generalize ([] : List Loc) = locs at hI ⊢
  unfold f_Md_aheadBits at h
  obtain ⟨S, hK, hT, hW, hr, hlk⟩ := id hC
  have hx := S.1
  have hb := S.2.1
  refine lv_iload_n hx hb d_Md_aheadBits_0 rfl (lv_at hl 0 rfl) ?_
  refine lv_bipush (v := 8) hx hb d_Md_aheadBits_1 (by decide) ?_
  refine lv_icmp_ge (tgt := 10) hx hb d_Md_aheadBits_3 rfl (fun hc => ?_) (fun hc => ?_)
  · replace h := (if_pos hc).symm.trans h
    refine lv_iload_n hx hb d_Md_aheadBits_10 rfl (lv_at hl 0 rfl) ?_
    refine lv_bipush (v := 10) hx hb d_Md_aheadBits_11 (by decide) ?_
    refine lv_icmp_ge (tgt := 20) hx hb d_Md_aheadBits_13 rfl (fun hc => ?_) (fun hc => ?_)
    · replace h := (if_pos hc).symm.trans h
      refine lv_iload_n hx hb d_Md_aheadBits_20 rfl (lv_at hl 0 rfl) ?_
      refine lv_bipush (v := 10) hx hb d_Md_aheadBits_21 (by decide) ?_
      refine lv_icmp_ne (tgt := 30) hx hb d_Md_aheadBits_23 rfl (fun hc => ?_) (fun hc => ?_)
      · replace h := (if_neg hc).symm.trans h
        refine lv_bipush (v := 6) hx hb d_Md_aheadBits_30 (by decide) ?_
        exact t_Md_aheadBits_32 hC   hI (lv_sub hl [] rfl) h
      · replace h := (if_pos hc).symm.trans h
        refine lv_iconst (v := 2) hx hb d_Md_aheadBits_26 rfl ?_
        refine lv_goto (tgt := 32) hx hb d_Md_aheadBits_27 rfl ?_
        exact t_Md_aheadBits_32 hC   hI (lv_sub hl [] rfl) h
    · replace h := (if_neg hc).symm.trans h
      refine lv_iconst (v := 1) hx hb d_Md_aheadBits_16 rfl ?_
      refine lv_goto (tgt := 32) hx hb d_Md_aheadBits_17 rfl ?_
      exact t_Md_aheadBits_32 hC   hI (lv_sub hl [] rfl) h
  · replace h := (if_neg hc).symm.trans h
    refine lv_iconst (v := 0) hx hb d_Md_aheadBits_6 rfl ?_
    refine lv_goto (tgt := 32) hx hb d_Md_aheadBits_7 rfl ?_
    exact t_Md_aheadBits_32 hC   hI (lv_sub hl [] rfl) h
end
theorem d_Md_step_0 : decode cc_Md_step 0 = .ok (.bipush (16), 2) := by decide +kernel
theorem d_Md_step_2 : decode cc_Md_step 2 = .ok (.iload_n 1, 1) := by decide +kernel
theorem d_Md_step_3 : decode cc_Md_step 3 = .ok (.imul, 1) := by decide +kernel
theorem d_Md_step_4 : decode cc_Md_step 4 = .ok (.aload_n 0, 1) := by decide +kernel
theorem d_Md_step_5 : decode cc_Md_step 5 = .ok (.getfield 50, 3) := by decide +kernel
theorem d_Md_step_8 : decode cc_Md_step 8 = .ok (.iload_n 1, 1) := by decide +kernel
theorem d_Md_step_9 : decode cc_Md_step 9 = .ok (.iaload, 1) := by decide +kernel
theorem d_Md_step_10 : decode cc_Md_step 10 = .ok (.iadd, 1) := by decide +kernel
theorem d_Md_step_11 : decode cc_Md_step 11 = .ok (.istore_n 2, 1) := by decide +kernel
theorem d_Md_step_12 : decode cc_Md_step 12 = .ok (.aload_n 0, 1) := by decide +kernel
theorem d_Md_step_13 : decode cc_Md_step 13 = .ok (.getfield 50, 3) := by decide +kernel
theorem d_Md_step_16 : decode cc_Md_step 16 = .ok (.iload_n 1, 1) := by decide +kernel
theorem d_Md_step_17 : decode cc_Md_step 17 = .ok (.aload_n 0, 1) := by decide +kernel
theorem d_Md_step_18 : decode cc_Md_step 18 = .ok (.getfield 44, 3) := by decide +kernel
theorem d_Md_step_21 : decode cc_Md_step 21 = .ok (.iload_n 2, 1) := by decide +kernel
theorem d_Md_step_22 : decode cc_Md_step 22 = .ok (.iaload, 1) := by decide +kernel
theorem d_Md_step_23 : decode cc_Md_step 23 = .ok (.aload_n 0, 1) := by decide +kernel
theorem d_Md_step_24 : decode cc_Md_step 24 = .ok (.aload_n 0, 1) := by decide +kernel
theorem d_Md_step_25 : decode cc_Md_step 25 = .ok (.getfield 41, 3) := by decide +kernel
theorem d_Md_step_28 : decode cc_Md_step 28 = .ok (.iload_n 2, 1) := by decide +kernel
theorem d_Md_step_29 : decode cc_Md_step 29 = .ok (.iaload, 1) := by decide +kernel
theorem d_Md_step_30 : decode cc_Md_step 30 = .ok (.invokevirtual 169, 3) := by decide +kernel
theorem d_Md_step_33 : decode cc_Md_step 33 = .ok (.iadd, 1) := by decide +kernel
theorem d_Md_step_34 : decode cc_Md_step 34 = .ok (.iastore, 1) := by decide +kernel
theorem d_Md_step_35 : decode cc_Md_step 35 = .ok (.return_, 1) := by decide +kernel
section
variable {p : Program} {l : Launch} {e : Env} {s : State} {m : MethodId} {args : Array Value} {below : List Frame} {meth : Method} {c : Code} {X : Xs} {L : La}
def f_Md_step (L : La) (i0 : Nat) (x1 : Int32) (F : Mem) : Option Mem :=
  if inb x1 (mGl L (mRf L i0 27)) then none else
  if inb (((16 : Int32) * x1) + (mGa L F (mRf L i0 27) x1.toNatClampNeg)) (mGl L (mRf L i0 25)) then none else
  if inb (((16 : Int32) * x1) + (mGa L F (mRf L i0 27) x1.toNatClampNeg)) (mGl L (mRf L i0 24)) then none else
  (f_Md_take L i0 (mGa L F (mRf L i0 24) (((16 : Int32) * x1) + (mGa L F (mRf L i0 27) x1.toNatClampNeg)).toNatClampNeg) F).bind fun q8 =>
  if inb x1 (mLn L (mRf L i0 27)) ∨ ¬ (mRf L i0 27) < mNc L then none else
  lt' (u2 q8.2 (mRf L i0 27) x1.toNatClampNeg ((mGa L F (mRf L i0 25) (((16 : Int32) * x1) + (mGa L F (mRf L i0 27) x1.toNatClampNeg)).toNatClampNeg) + q8.1)) fun F11 =>
  some F11
set_option maxHeartbeats 4000000 in
theorem c_Md_step (l : Launch) {X : Xs} {L : La} (hW : WT L) {out : Mem} {i0 : Nat} {x1 : Int32} {F : Mem} (o0 : oO L 12 i0) (h : f_Md_step L i0 x1 F = some out) : Met l y_Md_step w_Md_step r_Md_step (va_Pc [.ref (mAd X i0), .int x1] (Pr X L F)) (QV X L out) 0 0 (AA X L) := by
  refine mk_met (by decide) rfl (Nat.le_of_ble_eq_true rfl) hW ?_
  intro p e s m args below meth c ls hC hI hl
  have hl : lv_has ls 3 [(0, .ref (mAd X i0)), (1, .int x1)] := hl
  generalize hHe : s.heap = H at hI ⊢
  generalize ([] : List Loc) = locs at hI ⊢
  unfold f_Md_step at h
  obtain ⟨S, hK, hT, hW, hr, hlk⟩ := id hC
  have hx := S.1
  have hb := S.2.1
  refine lv_bipush (v := 16) hx hb d_Md_step_0 (by decide) ?_
  refine lv_iload_n hx hb d_Md_step_2 rfl (lv_at hl 1 rfl) ?_
  refine lv_imul hx hb d_Md_step_3 ?_
  refine lv_aload_n hx hb d_Md_step_4 rfl (lv_at hl 0 rfl) ?_
  have p1 := wt_a hW o0 27 rfl (by decide) (by decide)
  refine w_getR (T := T_Md) S hK hI o0 rfl hin_Md 27 (index := 50) (by decide) lf_Md_50 d_Md_step_5 ?_
  refine lv_iload_n hx hb d_Md_step_8 rfl (lv_at hl 1 rfl) ?_
  obtain ⟨z2, h⟩ := un_if h
  refine w_iald S hK hI hT p1 z2 d_Md_step_9 ?_
  refine lv_iadd hx hb d_Md_step_10 ?_
  refine lv_istore_n (lv' := [(2, .int (((16 : Int32) * x1) + (mGa L F (mRf L i0 27) x1.toNatClampNeg))), (0, .ref (mAd X i0)), (1, .int x1)]) hx hb d_Md_step_11 rfl hl (by decide) rfl (fun ls hl => ?_)
  refine lv_aload_n hx hb d_Md_step_12 rfl (lv_at hl 1 rfl) ?_
  have p3 := wt_a hW o0 27 rfl (by decide) (by decide)
  refine w_getR (T := T_Md) S hK hI o0 rfl hin_Md 27 (index := 50) (by decide) lf_Md_50 d_Md_step_13 ?_
  refine lv_iload_n hx hb d_Md_step_16 rfl (lv_at hl 2 rfl) ?_
  refine lv_aload_n hx hb d_Md_step_17 rfl (lv_at hl 1 rfl) ?_
  have p4 := wt_a hW o0 25 rfl (by decide) (by decide)
  refine w_getR (T := T_Md) S hK hI o0 rfl hin_Md 25 (index := 44) (by decide) lf_Md_44 d_Md_step_18 ?_
  refine lv_iload_n hx hb d_Md_step_21 rfl (lv_at hl 0 rfl) ?_
  obtain ⟨z5, h⟩ := un_if h
  refine w_iald S hK hI hT p4 z5 d_Md_step_22 ?_
  refine lv_aload_n hx hb d_Md_step_23 rfl (lv_at hl 1 rfl) ?_
  refine lv_aload_n hx hb d_Md_step_24 rfl (lv_at hl 1 rfl) ?_
  have p6 := wt_a hW o0 24 rfl (by decide) (by decide)
  refine w_getR (T := T_Md) S hK hI o0 rfl hin_Md 24 (index := 41) (by decide) lf_Md_41 d_Md_step_25 ?_
  refine lv_iload_n hx hb d_Md_step_28 rfl (lv_at hl 0 rfl) ?_
  obtain ⟨z7, h⟩ := un_if h
  refine w_iald S hK hI hT p6 z7 d_Md_step_29 ?_
  obtain ⟨q8, e9, h⟩ := un_bi h
  refine w_callVi (As := [.int (mGa L F (mRf L i0 24) (((16 : Int32) * x1) + (mGa L F (mRf L i0 27) x1.toNatClampNeg)).toNatClampNeg)]) (rest := [.int (mGa L F (mRf L i0 25) (((16 : Int32) * x1) + (mGa L F (mRf L i0 27) x1.toNatClampNeg)).toNatClampNeg), .int x1, .ref (mAd X (mRf L i0 27))]) S hK hI hT (c_Md_take l hW o0 e9) (cwV 1 S.2.2.2.2 (gd_V lc_Md_take lm_Md_169 li_Md_take ls_Md_take ln_Md) rfl rfl rfl hd_Md_take ⟨Nat.le_of_ble_eq_true rfl, Nat.le_of_ble_eq_true rfl⟩) o0 rfl (by decide) rfl rfl hl.1 (Nat.le_of_ble_eq_true rfl) d_Md_step_30 ⟨Nat.zero_le _, Nat.zero_le _⟩ (fun H locs hI => ?_)
  refine lv_iadd hx hb d_Md_step_33 ?_
  obtain ⟨z10, h⟩ := un_if h
  refine w_iast S hK hI p3 z10 d_Md_step_34 (fun H locs F11 e12 hI => ?_)
  replace h := un_lt h _ e12
  exact w_vret S hK hr hlk hI d_Md_step_35 h
end
theorem d_Md_readSequences_0 : decode cc_Md_readSequences 0 = .ok (.aload_n 0, 1) := by decide +kernel
theorem d_Md_readSequences_1 : decode cc_Md_readSequences 1 = .ok (.aload_n 0, 1) := by decide +kernel
theorem d_Md_readSequences_2 : decode cc_Md_readSequences 2 = .ok (.iload_n 1, 1) := by decide +kernel
theorem d_Md_readSequences_3 : decode cc_Md_readSequences 3 = .ok (.invokevirtual 125, 3) := by decide +kernel
theorem d_Md_readSequences_6 : decode cc_Md_readSequences 6 = .ok (.putfield 178, 3) := by decide +kernel
theorem d_Md_readSequences_9 : decode cc_Md_readSequences 9 = .ok (.aload_n 0, 1) := by decide +kernel
theorem d_Md_readSequences_10 : decode cc_Md_readSequences 10 = .ok (.getfield 102, 3) := by decide +kernel
theorem d_Md_readSequences_13 : decode cc_Md_readSequences 13 = .ok (.ifCond .ne (10), 3) := by decide +kernel
theorem d_Md_readSequences_16 : decode cc_Md_readSequences 16 = .ok (.aload_n 0, 1) := by decide +kernel
theorem d_Md_readSequences_17 : decode cc_Md_readSequences 17 = .ok (.getfield 178, 3) := by decide +kernel
theorem d_Md_readSequences_20 : decode cc_Md_readSequences 20 = .ok (.ifCond .ne (4), 3) := by decide +kernel
theorem d_Md_readSequences_23 : decode cc_Md_readSequences 23 = .ok (.return_, 1) := by decide +kernel
theorem d_Md_readSequences_24 : decode cc_Md_readSequences 24 = .ok (.aload_n 0, 1) := by decide +kernel
theorem d_Md_readSequences_25 : decode cc_Md_readSequences 25 = .ok (.iload_n 1, 1) := by decide +kernel
theorem d_Md_readSequences_26 : decode cc_Md_readSequences 26 = .ok (.invokevirtual 125, 3) := by decide +kernel
theorem d_Md_readSequences_29 : decode cc_Md_readSequences 29 = .ok (.istore_n 2, 1) := by decide +kernel
theorem d_Md_readSequences_30 : decode cc_Md_readSequences 30 = .ok (.aload_n 0, 1) := by decide +kernel
theorem d_Md_readSequences_31 : decode cc_Md_readSequences 31 = .ok (.aload_n 0, 1) := by decide +kernel
theorem d_Md_readSequences_32 : decode cc_Md_readSequences 32 = .ok (.getfield 102, 3) := by decide +kernel
theorem d_Md_readSequences_35 : decode cc_Md_readSequences 35 = .ok (.ifCond .ne (9), 3) := by decide +kernel
theorem d_Md_readSequences_38 : decode cc_Md_readSequences 38 = .ok (.iload_n 2, 1) := by decide +kernel
theorem d_Md_readSequences_39 : decode cc_Md_readSequences 39 = .ok (.iconst 3, 1) := by decide +kernel
theorem d_Md_readSequences_40 : decode cc_Md_readSequences 40 = .ok (.iand, 1) := by decide +kernel
theorem d_Md_readSequences_41 : decode cc_Md_readSequences 41 = .ok (.ifCond .eq (7), 3) := by decide +kernel
theorem d_Md_readSequences_44 : decode cc_Md_readSequences 44 = .ok (.iconst 1, 1) := by decide +kernel
theorem d_Md_readSequences_45 : decode cc_Md_readSequences 45 = .ok (.goto (4), 3) := by decide +kernel
theorem d_Md_readSequences_48 : decode cc_Md_readSequences 48 = .ok (.iconst 0, 1) := by decide +kernel
theorem d_Md_readSequences_49 : decode cc_Md_readSequences 49 = .ok (.putfield 102, 3) := by decide +kernel
theorem d_Md_readSequences_52 : decode cc_Md_readSequences 52 = .ok (.aload_n 0, 1) := by decide +kernel
theorem d_Md_readSequences_53 : decode cc_Md_readSequences 53 = .ok (.iconst 0, 1) := by decide +kernel
theorem d_Md_readSequences_54 : decode cc_Md_readSequences 54 = .ok (.iload_n 2, 1) := by decide +kernel
theorem d_Md_readSequences_55 : decode cc_Md_readSequences 55 = .ok (.bipush (6), 2) := by decide +kernel
theorem d_Md_readSequences_57 : decode cc_Md_readSequences 57 = .ok (.ishr, 1) := by decide +kernel
theorem d_Md_readSequences_58 : decode cc_Md_readSequences 58 = .ok (.iload_n 1, 1) := by decide +kernel
theorem d_Md_readSequences_59 : decode cc_Md_readSequences 59 = .ok (.invokevirtual 181, 3) := by decide +kernel
theorem d_Md_readSequences_62 : decode cc_Md_readSequences 62 = .ok (.aload_n 0, 1) := by decide +kernel
theorem d_Md_readSequences_63 : decode cc_Md_readSequences 63 = .ok (.iconst 1, 1) := by decide +kernel
theorem d_Md_readSequences_64 : decode cc_Md_readSequences 64 = .ok (.iload_n 2, 1) := by decide +kernel
theorem d_Md_readSequences_65 : decode cc_Md_readSequences 65 = .ok (.iconst 4, 1) := by decide +kernel
theorem d_Md_readSequences_66 : decode cc_Md_readSequences 66 = .ok (.ishr, 1) := by decide +kernel
theorem d_Md_readSequences_67 : decode cc_Md_readSequences 67 = .ok (.iconst 3, 1) := by decide +kernel
theorem d_Md_readSequences_68 : decode cc_Md_readSequences 68 = .ok (.iand, 1) := by decide +kernel
theorem d_Md_readSequences_69 : decode cc_Md_readSequences 69 = .ok (.iload_n 1, 1) := by decide +kernel
theorem d_Md_readSequences_70 : decode cc_Md_readSequences 70 = .ok (.invokevirtual 181, 3) := by decide +kernel
theorem d_Md_readSequences_73 : decode cc_Md_readSequences 73 = .ok (.aload_n 0, 1) := by decide +kernel
theorem d_Md_readSequences_74 : decode cc_Md_readSequences 74 = .ok (.iconst 2, 1) := by decide +kernel
theorem d_Md_readSequences_75 : decode cc_Md_readSequences 75 = .ok (.iload_n 2, 1) := by decide +kernel
theorem d_Md_readSequences_76 : decode cc_Md_readSequences 76 = .ok (.iconst 2, 1) := by decide +kernel
theorem d_Md_readSequences_77 : decode cc_Md_readSequences 77 = .ok (.ishr, 1) := by decide +kernel
theorem d_Md_readSequences_78 : decode cc_Md_readSequences 78 = .ok (.iconst 3, 1) := by decide +kernel
theorem d_Md_readSequences_79 : decode cc_Md_readSequences 79 = .ok (.iand, 1) := by decide +kernel
theorem d_Md_readSequences_80 : decode cc_Md_readSequences 80 = .ok (.iload_n 1, 1) := by decide +kernel
theorem d_Md_readSequences_81 : decode cc_Md_readSequences 81 = .ok (.invokevirtual 181, 3) := by decide +kernel
theorem d_Md_readSequences_84 : decode cc_Md_readSequences 84 = .ok (.aload_n 0, 1) := by decide +kernel
theorem d_Md_readSequences_85 : decode cc_Md_readSequences 85 = .ok (.iload_n 1, 1) := by decide +kernel
theorem d_Md_readSequences_86 : decode cc_Md_readSequences 86 = .ok (.aload_n 0, 1) := by decide +kernel
theorem d_Md_readSequences_87 : decode cc_Md_readSequences 87 = .ok (.getfield 99, 3) := by decide +kernel
theorem d_Md_readSequences_90 : decode cc_Md_readSequences 90 = .ok (.isub, 1) := by decide +kernel
theorem d_Md_readSequences_91 : decode cc_Md_readSequences 91 = .ok (.iload_n 1, 1) := by decide +kernel
theorem d_Md_readSequences_92 : decode cc_Md_readSequences 92 = .ok (.invokevirtual 159, 3) := by decide +kernel
theorem d_Md_readSequences_95 : decode cc_Md_readSequences 95 = .ok (.iconst 0, 1) := by decide +kernel
theorem d_Md_readSequences_96 : decode cc_Md_readSequences 96 = .ok (.istore_n 3, 1) := by decide +kernel
theorem d_Md_readSequences_97 : decode cc_Md_readSequences 97 = .ok (.iload_n 3, 1) := by decide +kernel
theorem d_Md_readSequences_98 : decode cc_Md_readSequences 98 = .ok (.iconst 3, 1) := by decide +kernel
theorem d_Md_readSequences_99 : decode cc_Md_readSequences 99 = .ok (.if_icmp .ge (40), 3) := by decide +kernel
theorem d_Md_readSequences_102 : decode cc_Md_readSequences 102 = .ok (.aload_n 0, 1) := by decide +kernel
theorem d_Md_readSequences_103 : decode cc_Md_readSequences 103 = .ok (.getfield 102, 3) := by decide +kernel
theorem d_Md_readSequences_106 : decode cc_Md_readSequences 106 = .ok (.ifCond .ne (33), 3) := by decide +kernel
theorem d_Md_readSequences_109 : decode cc_Md_readSequences 109 = .ok (.aload_n 0, 1) := by decide +kernel
theorem d_Md_readSequences_110 : decode cc_Md_readSequences 110 = .ok (.getfield 50, 3) := by decide +kernel
theorem d_Md_readSequences_113 : decode cc_Md_readSequences 113 = .ok (.iload_n 3, 1) := by decide +kernel
theorem d_Md_readSequences_114 : decode cc_Md_readSequences 114 = .ok (.aload_n 0, 1) := by decide +kernel
theorem d_Md_readSequences_115 : decode cc_Md_readSequences 115 = .ok (.getfield 35, 3) := by decide +kernel
theorem d_Md_readSequences_118 : decode cc_Md_readSequences 118 = .ok (.iload_n 3, 1) := by decide +kernel
theorem d_Md_readSequences_119 : decode cc_Md_readSequences 119 = .ok (.baload, 1) := by decide +kernel
theorem d_Md_readSequences_120 : decode cc_Md_readSequences 120 = .ok (.ifCond .eq (7), 3) := by decide +kernel
theorem d_Md_readSequences_123 : decode cc_Md_readSequences 123 = .ok (.iconst 0, 1) := by decide +kernel
theorem d_Md_readSequences_124 : decode cc_Md_readSequences 124 = .ok (.goto (8), 3) := by decide +kernel
theorem d_Md_readSequences_127 : decode cc_Md_readSequences 127 = .ok (.aload_n 0, 1) := by decide +kernel
theorem d_Md_readSequences_128 : decode cc_Md_readSequences 128 = .ok (.iconst 4, 1) := by decide +kernel
theorem d_Md_readSequences_129 : decode cc_Md_readSequences 129 = .ok (.invokevirtual 169, 3) := by decide +kernel
theorem d_Md_readSequences_132 : decode cc_Md_readSequences 132 = .ok (.iastore, 1) := by decide +kernel
theorem d_Md_readSequences_133 : decode cc_Md_readSequences 133 = .ok (.iinc 3 (1), 3) := by decide +kernel
theorem d_Md_readSequences_136 : decode cc_Md_readSequences 136 = .ok (.goto (-39), 3) := by decide +kernel
theorem d_Md_readSequences_139 : decode cc_Md_readSequences 139 = .ok (.iconst 0, 1) := by decide +kernel
theorem d_Md_readSequences_140 : decode cc_Md_readSequences 140 = .ok (.istore_n 3, 1) := by decide +kernel
theorem d_Md_readSequences_141 : decode cc_Md_readSequences 141 = .ok (.iload_n 3, 1) := by decide +kernel
theorem d_Md_readSequences_142 : decode cc_Md_readSequences 142 = .ok (.aload_n 0, 1) := by decide +kernel
theorem d_Md_readSequences_143 : decode cc_Md_readSequences 143 = .ok (.getfield 178, 3) := by decide +kernel
theorem d_Md_readSequences_146 : decode cc_Md_readSequences 146 = .ok (.if_icmp .ge (145), 3) := by decide +kernel
theorem d_Md_readSequences_149 : decode cc_Md_readSequences 149 = .ok (.aload_n 0, 1) := by decide +kernel
theorem d_Md_readSequences_150 : decode cc_Md_readSequences 150 = .ok (.getfield 102, 3) := by decide +kernel
theorem d_Md_readSequences_153 : decode cc_Md_readSequences 153 = .ok (.ifCond .ne (138), 3) := by decide +kernel
theorem d_Md_readSequences_156 : decode cc_Md_readSequences 156 = .ok (.aload_n 0, 1) := by decide +kernel
theorem d_Md_readSequences_157 : decode cc_Md_readSequences 157 = .ok (.getfield 38, 3) := by decide +kernel
theorem d_Md_readSequences_160 : decode cc_Md_readSequences 160 = .ok (.bipush (16), 2) := by decide +kernel
theorem d_Md_readSequences_162 : decode cc_Md_readSequences 162 = .ok (.aload_n 0, 1) := by decide +kernel
theorem d_Md_readSequences_163 : decode cc_Md_readSequences 163 = .ok (.getfield 50, 3) := by decide +kernel
theorem d_Md_readSequences_166 : decode cc_Md_readSequences 166 = .ok (.iconst 1, 1) := by decide +kernel
theorem d_Md_readSequences_167 : decode cc_Md_readSequences 167 = .ok (.iaload, 1) := by decide +kernel
theorem d_Md_readSequences_168 : decode cc_Md_readSequences 168 = .ok (.iadd, 1) := by decide +kernel
theorem d_Md_readSequences_169 : decode cc_Md_readSequences 169 = .ok (.iaload, 1) := by decide +kernel
theorem d_Md_readSequences_170 : decode cc_Md_readSequences 170 = .ok (.istore 4, 2) := by decide +kernel
theorem d_Md_readSequences_172 : decode cc_Md_readSequences 172 = .ok (.aload_n 0, 1) := by decide +kernel
theorem d_Md_readSequences_173 : decode cc_Md_readSequences 173 = .ok (.getfield 56, 3) := by decide +kernel
theorem d_Md_readSequences_176 : decode cc_Md_readSequences 176 = .ok (.iload_n 3, 1) := by decide +kernel
theorem d_Md_readSequences_177 : decode cc_Md_readSequences 177 = .ok (.iconst 1, 1) := by decide +kernel
theorem d_Md_readSequences_178 : decode cc_Md_readSequences 178 = .ok (.iload 4, 2) := by decide +kernel
theorem d_Md_readSequences_180 : decode cc_Md_readSequences 180 = .ok (.ishl, 1) := by decide +kernel
theorem d_Md_readSequences_181 : decode cc_Md_readSequences 181 = .ok (.aload_n 0, 1) := by decide +kernel
theorem d_Md_readSequences_182 : decode cc_Md_readSequences 182 = .ok (.iload 4, 2) := by decide +kernel
theorem d_Md_readSequences_184 : decode cc_Md_readSequences 184 = .ok (.invokevirtual 169, 3) := by decide +kernel
theorem d_Md_readSequences_187 : decode cc_Md_readSequences 187 = .ok (.iadd, 1) := by decide +kernel
theorem d_Md_readSequences_188 : decode cc_Md_readSequences 188 = .ok (.iastore, 1) := by decide +kernel
theorem d_Md_readSequences_189 : decode cc_Md_readSequences 189 = .ok (.aload_n 0, 1) := by decide +kernel
theorem d_Md_readSequences_190 : decode cc_Md_readSequences 190 = .ok (.getfield 38, 3) := by decide +kernel
theorem d_Md_readSequences_193 : decode cc_Md_readSequences 193 = .ok (.bipush (32), 2) := by decide +kernel
theorem d_Md_readSequences_195 : decode cc_Md_readSequences 195 = .ok (.aload_n 0, 1) := by decide +kernel
theorem d_Md_readSequences_196 : decode cc_Md_readSequences 196 = .ok (.getfield 50, 3) := by decide +kernel
theorem d_Md_readSequences_199 : decode cc_Md_readSequences 199 = .ok (.iconst 2, 1) := by decide +kernel
theorem d_Md_readSequences_200 : decode cc_Md_readSequences 200 = .ok (.iaload, 1) := by decide +kernel
theorem d_Md_readSequences_201 : decode cc_Md_readSequences 201 = .ok (.iadd, 1) := by decide +kernel
theorem d_Md_readSequences_202 : decode cc_Md_readSequences 202 = .ok (.iaload, 1) := by decide +kernel
theorem d_Md_readSequences_203 : decode cc_Md_readSequences 203 = .ok (.istore 5, 2) := by decide +kernel
theorem d_Md_readSequences_205 : decode cc_Md_readSequences 205 = .ok (.aload_n 0, 1) := by decide +kernel
theorem d_Md_readSequences_206 : decode cc_Md_readSequences 206 = .ok (.getfield 59, 3) := by decide +kernel
theorem d_Md_readSequences_209 : decode cc_Md_readSequences 209 = .ok (.iload_n 3, 1) := by decide +kernel
theorem d_Md_readSequences_210 : decode cc_Md_readSequences 210 = .ok (.iload 5, 2) := by decide +kernel
theorem d_Md_readSequences_212 : decode cc_Md_readSequences 212 = .ok (.invokestatic 185, 3) := by decide +kernel
theorem d_Md_readSequences_215 : decode cc_Md_readSequences 215 = .ok (.aload_n 0, 1) := by decide +kernel
theorem d_Md_readSequences_216 : decode cc_Md_readSequences 216 = .ok (.iload 5, 2) := by decide +kernel
theorem d_Md_readSequences_218 : decode cc_Md_readSequences 218 = .ok (.invokestatic 188, 3) := by decide +kernel
theorem d_Md_readSequences_221 : decode cc_Md_readSequences 221 = .ok (.invokevirtual 169, 3) := by decide +kernel
theorem d_Md_readSequences_224 : decode cc_Md_readSequences 224 = .ok (.iadd, 1) := by decide +kernel
theorem d_Md_readSequences_225 : decode cc_Md_readSequences 225 = .ok (.iastore, 1) := by decide +kernel
theorem d_Md_readSequences_226 : decode cc_Md_readSequences 226 = .ok (.aload_n 0, 1) := by decide +kernel
theorem d_Md_readSequences_227 : decode cc_Md_readSequences 227 = .ok (.getfield 38, 3) := by decide +kernel
theorem d_Md_readSequences_230 : decode cc_Md_readSequences 230 = .ok (.aload_n 0, 1) := by decide +kernel
theorem d_Md_readSequences_231 : decode cc_Md_readSequences 231 = .ok (.getfield 50, 3) := by decide +kernel
theorem d_Md_readSequences_234 : decode cc_Md_readSequences 234 = .ok (.iconst 0, 1) := by decide +kernel
theorem d_Md_readSequences_235 : decode cc_Md_readSequences 235 = .ok (.iaload, 1) := by decide +kernel
theorem d_Md_readSequences_236 : decode cc_Md_readSequences 236 = .ok (.iaload, 1) := by decide +kernel
theorem d_Md_readSequences_237 : decode cc_Md_readSequences 237 = .ok (.istore 5, 2) := by decide +kernel
theorem d_Md_readSequences_239 : decode cc_Md_readSequences 239 = .ok (.aload_n 0, 1) := by decide +kernel
theorem d_Md_readSequences_240 : decode cc_Md_readSequences 240 = .ok (.getfield 53, 3) := by decide +kernel
theorem d_Md_readSequences_243 : decode cc_Md_readSequences 243 = .ok (.iload_n 3, 1) := by decide +kernel
theorem d_Md_readSequences_244 : decode cc_Md_readSequences 244 = .ok (.iload 5, 2) := by decide +kernel
theorem d_Md_readSequences_246 : decode cc_Md_readSequences 246 = .ok (.invokestatic 191, 3) := by decide +kernel
theorem d_Md_readSequences_249 : decode cc_Md_readSequences 249 = .ok (.aload_n 0, 1) := by decide +kernel
theorem d_Md_readSequences_250 : decode cc_Md_readSequences 250 = .ok (.iload 5, 2) := by decide +kernel
theorem d_Md_readSequences_252 : decode cc_Md_readSequences 252 = .ok (.invokestatic 194, 3) := by decide +kernel
theorem d_Md_readSequences_255 : decode cc_Md_readSequences 255 = .ok (.invokevirtual 169, 3) := by decide +kernel
theorem d_Md_readSequences_258 : decode cc_Md_readSequences 258 = .ok (.iadd, 1) := by decide +kernel
theorem d_Md_readSequences_259 : decode cc_Md_readSequences 259 = .ok (.iastore, 1) := by decide +kernel
theorem d_Md_readSequences_260 : decode cc_Md_readSequences 260 = .ok (.iload_n 3, 1) := by decide +kernel
theorem d_Md_readSequences_261 : decode cc_Md_readSequences 261 = .ok (.iconst 1, 1) := by decide +kernel
theorem d_Md_readSequences_262 : decode cc_Md_readSequences 262 = .ok (.iadd, 1) := by decide +kernel
theorem d_Md_readSequences_263 : decode cc_Md_readSequences 263 = .ok (.aload_n 0, 1) := by decide +kernel
theorem d_Md_readSequences_264 : decode cc_Md_readSequences 264 = .ok (.getfield 178, 3) := by decide +kernel
theorem d_Md_readSequences_267 : decode cc_Md_readSequences 267 = .ok (.if_icmp .ge (18), 3) := by decide +kernel
theorem d_Md_readSequences_270 : decode cc_Md_readSequences 270 = .ok (.aload_n 0, 1) := by decide +kernel
theorem d_Md_readSequences_271 : decode cc_Md_readSequences 271 = .ok (.iconst 0, 1) := by decide +kernel
theorem d_Md_readSequences_272 : decode cc_Md_readSequences 272 = .ok (.invokevirtual 197, 3) := by decide +kernel
theorem d_Md_readSequences_275 : decode cc_Md_readSequences 275 = .ok (.aload_n 0, 1) := by decide +kernel
theorem d_Md_readSequences_276 : decode cc_Md_readSequences 276 = .ok (.iconst 2, 1) := by decide +kernel
theorem d_Md_readSequences_277 : decode cc_Md_readSequences 277 = .ok (.invokevirtual 197, 3) := by decide +kernel
theorem d_Md_readSequences_280 : decode cc_Md_readSequences 280 = .ok (.aload_n 0, 1) := by decide +kernel
theorem d_Md_readSequences_281 : decode cc_Md_readSequences 281 = .ok (.iconst 1, 1) := by decide +kernel
theorem d_Md_readSequences_282 : decode cc_Md_readSequences 282 = .ok (.invokevirtual 197, 3) := by decide +kernel
theorem d_Md_readSequences_285 : decode cc_Md_readSequences 285 = .ok (.iinc 3 (1), 3) := by decide +kernel
theorem d_Md_readSequences_288 : decode cc_Md_readSequences 288 = .ok (.goto (-147), 3) := by decide +kernel
theorem d_Md_readSequences_291 : decode cc_Md_readSequences 291 = .ok (.aload_n 0, 1) := by decide +kernel
theorem d_Md_readSequences_292 : decode cc_Md_readSequences 292 = .ok (.aload_n 0, 1) := by decide +kernel
theorem d_Md_readSequences_293 : decode cc_Md_readSequences 293 = .ok (.getfield 102, 3) := by decide +kernel
theorem d_Md_readSequences_296 : decode cc_Md_readSequences 296 = .ok (.ifCond .ne (10), 3) := by decide +kernel
theorem d_Md_readSequences_299 : decode cc_Md_readSequences 299 = .ok (.aload_n 0, 1) := by decide +kernel
theorem d_Md_readSequences_300 : decode cc_Md_readSequences 300 = .ok (.getfield 115, 3) := by decide +kernel
theorem d_Md_readSequences_303 : decode cc_Md_readSequences 303 = .ok (.ifCond .eq (7), 3) := by decide +kernel
theorem d_Md_readSequences_306 : decode cc_Md_readSequences 306 = .ok (.iconst 1, 1) := by decide +kernel
theorem d_Md_readSequences_307 : decode cc_Md_readSequences 307 = .ok (.goto (4), 3) := by decide +kernel
theorem d_Md_readSequences_310 : decode cc_Md_readSequences 310 = .ok (.iconst 0, 1) := by decide +kernel
theorem d_Md_readSequences_311 : decode cc_Md_readSequences 311 = .ok (.putfield 102, 3) := by decide +kernel
theorem d_Md_readSequences_314 : decode cc_Md_readSequences 314 = .ok (.return_, 1) := by decide +kernel
section
variable {p : Program} {l : Launch} {e : Env} {s : State} {m : MethodId} {args : Array Value} {below : List Frame} {meth : Method} {c : Code} {X : Xs} {L : La}
def b_Md_readSequences_23 (L : La)   (F : Mem) : Option Mem :=
  some F
set_option maxHeartbeats 4000000 in
theorem t_Md_readSequences_23 (hC : Cx X L p s m args meth c cc_Md_readSequences 6 w_Md_readSequences R_Md none)  {out : Mem}   {F : Mem} {H : Heap} {locs : List Loc} {ls : Array Slot}  (hI : Iv X L s H locs F) (hl : lv_has ls 6 []) (h : b_Md_readSequences_23 L   F = some out) : W p l e (headSpec w_Md_readSequences r_Md_readSequences).room s m args below meth c H locs 0 0 (MQ below (QV X L out) args s 0 0 (AA X L)) (F0 m 23 ls []) := by
  unfold b_Md_readSequences_23 at h
  obtain ⟨S, hK, hT, hW, hr, hlk⟩ := id hC
  have hx := S.1
  have hb := S.2.1
  exact w_vret S hK hr hlk hI d_Md_readSequences_23 h
def b_Md_readSequences_311 (L : La)  (j0 : Nat) (y1 : Int32) (F : Mem) : Option Mem :=
  if ¬ (y1 = 0 ∨ y1 = 1) then none else
  lt' (u2 F j0 5 y1) fun F1 =>
  some F1
set_option maxHeartbeats 4000000 in
theorem t_Md_readSequences_311 (hC : Cx X L p s m args meth c cc_Md_readSequences 6 w_Md_readSequences R_Md none)  {out : Mem}  {j0 : Nat} {y1 : Int32} {F : Mem} {H : Heap} {locs : List Loc} {ls : Array Slot} (oy0 : oO L 12 j0) (hI : Iv X L s H locs F) (hl : lv_has ls 6 []) (h : b_Md_readSequences_311 L  j0 y1 F = some out) : W p l e (headSpec w_Md_readSequences r_Md_readSequences).room s m args below meth c H locs 0 0 (MQ below (QV X L out) args s 0 0 (AA X L)) (F0 m 311 ls [.int y1, .ref (mAd X j0)]) := by
  unfold b_Md_readSequences_311 at h
  obtain ⟨S, hK, hT, hW, hr, hlk⟩ := id hC
  have hx := S.1
  have hb := S.2.1
  obtain ⟨z3, h⟩ := un_if h
  refine w_putZ (T := T_Md) S hK hI oy0 rfl hin_Md ty_Md tk_Md nm_Md 5 (index := 102) (by decide) lf_Md_102 rfl z3 d_Md_readSequences_311 (fun H locs F1 e2 hI => ?_)
  replace h := un_lt h _ e2
  exact w_vret S hK hr hlk hI d_Md_readSequences_314 h
def b_Md_readSequences_306 (L : La)  (j0 : Nat) (F : Mem) : Option Mem :=
  b_Md_readSequences_311 L  j0 (1 : Int32) F
set_option maxHeartbeats 4000000 in
theorem t_Md_readSequences_306 (hC : Cx X L p s m args meth c cc_Md_readSequences 6 w_Md_readSequences R_Md none)  {out : Mem}  {j0 : Nat} {F : Mem} {H : Heap} {locs : List Loc} {ls : Array Slot} (oy0 : oO L 12 j0) (hI : Iv X L s H locs F) (hl : lv_has ls 6 []) (h : b_Md_readSequences_306 L  j0 F = some out) : W p l e (headSpec w_Md_readSequences r_Md_readSequences).room s m args below meth c H locs 0 0 (MQ below (QV X L out) args s 0 0 (AA X L)) (F0 m 306 ls [.ref (mAd X j0)]) := by
  unfold b_Md_readSequences_306 at h
  obtain ⟨S, hK, hT, hW, hr, hlk⟩ := id hC
  have hx := S.1
  have hb := S.2.1
  refine lv_iconst (v := 1) hx hb d_Md_readSequences_306 rfl ?_
  refine lv_goto (tgt := 311) hx hb d_Md_readSequences_307 rfl ?_
  exact t_Md_readSequences_311 hC  oy0 hI hl h
def b_Md_readSequences_291 (L : La)  (i0 : Nat) (F : Mem) : Option Mem :=
  if (F i0 5) = 0 then
    if (F i0 12) = 0 then
      b_Md_readSequences_311 L  i0 (0 : Int32) F
    else
      b_Md_readSequences_306 L  i0 F
  else
    b_Md_readSequences_306 L  i0 F
set_option maxHeartbeats 4000000 in
theorem t_Md_readSequences_291 (hC : Cx X L p s m args meth c cc_Md_readSequences 6 w_Md_readSequences R_Md none)  {out : Mem}  {i0 : Nat} {F : Mem} {H : Heap} {locs : List Loc} {ls : Array Slot} (o0 : oO L 12 i0) (hI : Iv X L s H locs F) (hl : lv_has ls 6 [(0, .ref (mAd X i0))]) (h : b_Md_readSequences_291 L  i0 F = some out) : W p l e (headSpec w_Md_readSequences r_Md_readSequences).room s m args below meth c H locs 0 0 (MQ below (QV X L out) args s 0 0 (AA X L)) (F0 m 291 ls []) := by
  unfold b_Md_readSequences_291 at h
  obtain ⟨S, hK, hT, hW, hr, hlk⟩ := id hC
  have hx := S.1
  have hb := S.2.1
  refine lv_aload_n hx hb d_Md_readSequences_291 rfl (lv_at hl 0 rfl) ?_
  refine lv_aload_n hx hb d_Md_readSequences_292 rfl (lv_at hl 0 rfl) ?_
  refine w_getI (T := T_Md) S hK hI o0 rfl hin_Md 5 (index := 102) (by decide) lf_Md_102 d_Md_readSequences_293 ?_
  refine lv_if_ne (tgt := 306) hx hb d_Md_readSequences_296 rfl (fun hc => ?_) (fun hc => ?_)
  · replace h := (if_neg hc).symm.trans h
    exact t_Md_readSequences_306 hC  o0 hI (lv_sub hl [] rfl) h
  · replace h := (if_pos hc).symm.trans h
    refine lv_aload_n hx hb d_Md_readSequences_299 rfl (lv_at hl 0 rfl) ?_
    refine w_getI (T := T_Md) S hK hI o0 rfl hin_Md 12 (index := 115) (by decide) lf_Md_115 d_Md_readSequences_300 ?_
    refine lv_if_eq (tgt := 310) hx hb d_Md_readSequences_303 rfl (fun hc => ?_) (fun hc => ?_)
    · replace h := (if_pos hc).symm.trans h
      refine lv_iconst (v := 0) hx hb d_Md_readSequences_310 rfl ?_
      exact t_Md_readSequences_311 hC  o0 hI (lv_sub hl [] rfl) h
    · replace h := (if_neg hc).symm.trans h
      exact t_Md_readSequences_306 hC  o0 hI (lv_sub hl [] rfl) h
def b_Md_readSequences_285 (L : La) (k141 : Nat → Int32 → Mem → Option Mem) (i0 : Nat) (x3 : Int32) (F : Mem) : Option Mem :=
  k141 i0 (x3 + (1 : Int32)) F
set_option maxHeartbeats 4000000 in
theorem t_Md_readSequences_285 (hC : Cx X L p s m args meth c cc_Md_readSequences 6 w_Md_readSequences R_Md none) {k141 : Nat → Int32 → Mem → Option Mem} {out : Mem} (hk141 : ∀ (i0 : Nat) (x3 : Int32) (F : Mem) (H : Heap) (locs : List Loc) (ls : Array Slot), oO L 12 i0 → Iv X L s H locs F → lv_has ls 6 [(0, .ref (mAd X i0)), (3, .int x3)] → k141 i0 x3 F = some out → W p l e (headSpec w_Md_readSequences r_Md_readSequences).room s m args below meth c H locs 0 0 (MQ below (QV X L out) args s 0 0 (AA X L)) (F0 m 141 ls [])) {i0 : Nat} {x3 : Int32} {F : Mem} {H : Heap} {locs : List Loc} {ls : Array Slot} (o0 : oO L 12 i0) (hI : Iv X L s H locs F) (hl : lv_has ls 6 [(0, .ref (mAd X i0)), (3, .int x3)]) (h : b_Md_readSequences_285 L k141 i0 x3 F = some out) : W p l e (headSpec w_Md_readSequences r_Md_readSequences).room s m args below meth c H locs 0 0 (MQ below (QV X L out) args s 0 0 (AA X L)) (F0 m 285 ls []) := by
  unfold b_Md_readSequences_285 at h
  obtain ⟨S, hK, hT, hW, hr, hlk⟩ := id hC
  have hx := S.1
  have hb := S.2.1
  refine lv_iinc (k := 1) (v := x3 + (1 : Int32)) (lv' := [(3, .int (x3 + (1 : Int32))), (0, .ref (mAd X i0))]) hx hb d_Md_readSequences_285 hl rfl rfl (by decide) rfl (fun ls hl => ?_)
  refine lv_goto (tgt := 141) hx hb d_Md_readSequences_288 rfl ?_
  exact hk141 _ _ _ _ _ _ o0 hI (lv_sub hl [1, 0] rfl) h
def b_Md_readSequences_141 (L : La) (k141 : Nat → Int32 → Mem → Option Mem) (i0 : Nat) (x3 : Int32) (F : Mem) : Option Mem :=
  if (F i0 28) ≤ x3 then
    b_Md_readSequences_291 L  i0 F
  else
    if (F i0 5) = 0 then
      if inb (1 : Int32) (mGl L (mRf L i0 27)) then none else
      if inb ((16 : Int32) + (mGa L F (mRf L i0 27) (1 : Int32).toNatClampNeg)) (mGl L (mRf L i0 23)) then none else
      (f_Md_take L i0 (mGa L F (mRf L i0 23) ((16 : Int32) + (mGa L F (mRf L i0 27) (1 : Int32).toNatClampNeg)).toNatClampNeg) F).bind fun q6 =>
      if inb x3 (mLn L (mRf L i0 30)) ∨ ¬ (mRf L i0 30) < mNc L then none else
      lt' (u2 q6.2 (mRf L i0 30) x3.toNatClampNeg ((jshl (1 : Int32) (mGa L F (mRf L i0 23) ((16 : Int32) + (mGa L F (mRf L i0 27) (1 : Int32).toNatClampNeg)).toNatClampNeg)) + q6.1)) fun F9 =>
      if inb (2 : Int32) (mGl L (mRf L i0 27)) then none else
      if inb ((32 : Int32) + (mGa L F9 (mRf L i0 27) (2 : Int32).toNatClampNeg)) (mGl L (mRf L i0 23)) then none else
      (f_Md_matchBase L (mGa L F9 (mRf L i0 23) ((32 : Int32) + (mGa L F9 (mRf L i0 27) (2 : Int32).toNatClampNeg)).toNatClampNeg) F9).bind fun q16 =>
      (f_Md_matchBits L (mGa L F9 (mRf L i0 23) ((32 : Int32) + (mGa L F9 (mRf L i0 27) (2 : Int32).toNatClampNeg)).toNatClampNeg) q16.2).bind fun q18 =>
      (f_Md_take L i0 q18.1 q18.2).bind fun q20 =>
      if inb x3 (mLn L (mRf L i0 31)) ∨ ¬ (mRf L i0 31) < mNc L then none else
      lt' (u2 q20.2 (mRf L i0 31) x3.toNatClampNeg (q16.1 + q20.1)) fun F23 =>
      if inb (0 : Int32) (mGl L (mRf L i0 27)) then none else
      if inb (mGa L F23 (mRf L i0 27) (0 : Int32).toNatClampNeg) (mGl L (mRf L i0 23)) then none else
      (f_Md_aheadBase L (mGa L F23 (mRf L i0 23) (mGa L F23 (mRf L i0 27) (0 : Int32).toNatClampNeg).toNatClampNeg) F23).bind fun q30 =>
      (f_Md_aheadBits L (mGa L F23 (mRf L i0 23) (mGa L F23 (mRf L i0 27) (0 : Int32).toNatClampNeg).toNatClampNeg) q30.2).bind fun q32 =>
      (f_Md_take L i0 q32.1 q32.2).bind fun q34 =>
      if inb x3 (mLn L (mRf L i0 29)) ∨ ¬ (mRf L i0 29) < mNc L then none else
      lt' (u2 q34.2 (mRf L i0 29) x3.toNatClampNeg (q30.1 + q34.1)) fun F37 =>
      if (F37 i0 28) ≤ (x3 + (1 : Int32)) then
        b_Md_readSequences_285 L k141 i0 x3 F37
      else
        (f_Md_step L i0 (0 : Int32) F37).bind fun F39 =>
        (f_Md_step L i0 (2 : Int32) F39).bind fun F41 =>
        (f_Md_step L i0 (1 : Int32) F41).bind fun F43 =>
        b_Md_readSequences_285 L k141 i0 x3 F43
    else
      b_Md_readSequences_291 L  i0 F
set_option maxHeartbeats 4000000 in
theorem t_Md_readSequences_141 (hC : Cx X L p s m args meth c cc_Md_readSequences 6 w_Md_readSequences R_Md none) {k141 : Nat → Int32 → Mem → Option Mem} {out : Mem} (hk141 : ∀ (i0 : Nat) (x3 : Int32) (F : Mem) (H : Heap) (locs : List Loc) (ls : Array Slot), oO L 12 i0 → Iv X L s H locs F → lv_has ls 6 [(0, .ref (mAd X i0)), (3, .int x3)] → k141 i0 x3 F = some out → W p l e (headSpec w_Md_readSequences r_Md_readSequences).room s m args below meth c H locs 0 0 (MQ below (QV X L out) args s 0 0 (AA X L)) (F0 m 141 ls [])) {i0 : Nat} {x3 : Int32} {F : Mem} {H : Heap} {locs : List Loc} {ls : Array Slot} (o0 : oO L 12 i0) (hI : Iv X L s H locs F) (hl : lv_has ls 6 [(0, .ref (mAd X i0)), (3, .int x3)]) (h : b_Md_readSequences_141 L k141 i0 x3 F = some out) : W p l e (headSpec w_Md_readSequences r_Md_readSequences).room s m args below meth c H locs 0 0 (MQ below (QV X L out) args s 0 0 (AA X L)) (F0 m 141 ls []) := by
  unfold b_Md_readSequences_141 at h
  obtain ⟨S, hK, hT, hW, hr, hlk⟩ := id hC
  have hx := S.1
  have hb := S.2.1
  refine lv_iload_n hx hb d_Md_readSequences_141 rfl (lv_at hl 1 rfl) ?_
  refine lv_aload_n hx hb d_Md_readSequences_142 rfl (lv_at hl 0 rfl) ?_
  refine w_getI (T := T_Md) S hK hI o0 rfl hin_Md 28 (index := 178) (by decide) lf_Md_178 d_Md_readSequences_143 ?_
  refine lv_icmp_ge (tgt := 291) hx hb d_Md_readSequences_146 rfl (fun hc => ?_) (fun hc => ?_)
  · replace h := (if_pos hc).symm.trans h
    exact t_Md_readSequences_291 hC  o0 hI (lv_sub hl [0] rfl) h
  · replace h := (if_neg hc).symm.trans h
    refine lv_aload_n hx hb d_Md_readSequences_149 rfl (lv_at hl 0 rfl) ?_
    refine w_getI (T := T_Md) S hK hI o0 rfl hin_Md 5 (index := 102) (by decide) lf_Md_102 d_Md_readSequences_150 ?_
    refine lv_if_ne (tgt := 291) hx hb d_Md_readSequences_153 rfl (fun hc => ?_) (fun hc => ?_)
    · replace h := (if_neg hc).symm.trans h
      exact t_Md_readSequences_291 hC  o0 hI (lv_sub hl [0] rfl) h
    · replace h := (if_pos hc).symm.trans h
      refine lv_aload_n hx hb d_Md_readSequences_156 rfl (lv_at hl 0 rfl) ?_
      have p1 := wt_a hW o0 23 rfl (by decide) (by decide)
      refine w_getR (T := T_Md) S hK hI o0 rfl hin_Md 23 (index := 38) (by decide) lf_Md_38 d_Md_readSequences_157 ?_
      refine lv_bipush (v := 16) hx hb d_Md_readSequences_160 (by decide) ?_
      refine lv_aload_n hx hb d_Md_readSequences_162 rfl (lv_at hl 0 rfl) ?_
      have p2 := wt_a hW o0 27 rfl (by decide) (by decide)
      refine w_getR (T := T_Md) S hK hI o0 rfl hin_Md 27 (index := 50) (by decide) lf_Md_50 d_Md_readSequences_163 ?_
      refine lv_iconst (v := 1) hx hb d_Md_readSequences_166 rfl ?_
      obtain ⟨z3, h⟩ := un_if h
      refine w_iald S hK hI hT p2 z3 d_Md_readSequences_167 ?_
      refine lv_iadd hx hb d_Md_readSequences_168 ?_
      obtain ⟨z4, h⟩ := un_if h
      refine w_iald S hK hI hT p1 z4 d_Md_readSequences_169 ?_
      refine lv_istore (lv' := [(4, .int (mGa L F (mRf L i0 23) ((16 : Int32) + (mGa L F (mRf L i0 27) (1 : Int32).toNatClampNeg)).toNatClampNeg)), (0, .ref (mAd X i0)), (3, .int x3)]) hx hb d_Md_readSequences_170 hl (by decide) rfl (fun ls hl => ?_)
      refine lv_aload_n hx hb d_Md_readSequences_172 rfl (lv_at hl 1 rfl) ?_
      have p5 := wt_a hW o0 30 rfl (by decide) (by decide)
      refine w_getR (T := T_Md) S hK hI o0 rfl hin_Md 30 (index := 56) (by decide) lf_Md_56 d_Md_readSequences_173 ?_
      refine lv_iload_n hx hb d_Md_readSequences_176 rfl (lv_at hl 2 rfl) ?_
      refine lv_iconst (v := 1) hx hb d_Md_readSequences_177 rfl ?_
      refine lv_iload hx hb d_Md_readSequences_178 (lv_at hl 0 rfl) ?_
      refine lv_ishl hx hb d_Md_readSequences_180 ?_
      refine lv_aload_n hx hb d_Md_readSequences_181 rfl (lv_at hl 1 rfl) ?_
      refine lv_iload hx hb d_Md_readSequences_182 (lv_at hl 0 rfl) ?_
      obtain ⟨q6, e7, h⟩ := un_bi h
      refine w_callVi (As := [.int (mGa L F (mRf L i0 23) ((16 : Int32) + (mGa L F (mRf L i0 27) (1 : Int32).toNatClampNeg)).toNatClampNeg)]) (rest := [.int (jshl (1 : Int32) (mGa L F (mRf L i0 23) ((16 : Int32) + (mGa L F (mRf L i0 27) (1 : Int32).toNatClampNeg)).toNatClampNeg)), .int x3, .ref (mAd X (mRf L i0 30))]) S hK hI hT (c_Md_take l hW o0 e7) (cwV 1 S.2.2.2.2 (gd_V lc_Md_take lm_Md_169 li_Md_take ls_Md_take ln_Md) rfl rfl rfl hd_Md_take ⟨Nat.le_of_ble_eq_true rfl, Nat.le_of_ble_eq_true rfl⟩) o0 rfl (by decide) rfl rfl hl.1 (Nat.le_of_ble_eq_true rfl) d_Md_readSequences_184 ⟨Nat.zero_le _, Nat.zero_le _⟩ (fun H locs hI => ?_)
      refine lv_iadd hx hb d_Md_readSequences_187 ?_
      obtain ⟨z8, h⟩ := un_if h
      refine w_iast S hK hI p5 z8 d_Md_readSequences_188 (fun H locs F9 e10 hI => ?_)
      replace h := un_lt h _ e10
      refine lv_aload_n hx hb d_Md_readSequences_189 rfl (lv_at hl 1 rfl) ?_
      have p11 := wt_a hW o0 23 rfl (by decide) (by decide)
      refine w_getR (T := T_Md) S hK hI o0 rfl hin_Md 23 (index := 38) (by decide) lf_Md_38 d_Md_readSequences_190 ?_
      refine lv_bipush (v := 32) hx hb d_Md_readSequences_193 (by decide) ?_
      refine lv_aload_n hx hb d_Md_readSequences_195 rfl (lv_at hl 1 rfl) ?_
      have p12 := wt_a hW o0 27 rfl (by decide) (by decide)
      refine w_getR (T := T_Md) S hK hI o0 rfl hin_Md 27 (index := 50) (by decide) lf_Md_50 d_Md_readSequences_196 ?_
      refine lv_iconst (v := 2) hx hb d_Md_readSequences_199 rfl ?_
      obtain ⟨z13, h⟩ := un_if h
      refine w_iald S hK hI hT p12 z13 d_Md_readSequences_200 ?_
      refine lv_iadd hx hb d_Md_readSequences_201 ?_
      obtain ⟨z14, h⟩ := un_if h
      refine w_iald S hK hI hT p11 z14 d_Md_readSequences_202 ?_
      refine lv_istore (lv' := [(5, .int (mGa L F9 (mRf L i0 23) ((32 : Int32) + (mGa L F9 (mRf L i0 27) (2 : Int32).toNatClampNeg)).toNatClampNeg)), (4, .int (mGa L F (mRf L i0 23) ((16 : Int32) + (mGa L F (mRf L i0 27) (1 : Int32).toNatClampNeg)).toNatClampNeg)), (0, .ref (mAd X i0)), (3, .int x3)]) hx hb d_Md_readSequences_203 hl (by decide) rfl (fun ls hl => ?_)
      refine lv_aload_n hx hb d_Md_readSequences_205 rfl (lv_at hl 2 rfl) ?_
      have p15 := wt_a hW o0 31 rfl (by decide) (by decide)
      refine w_getR (T := T_Md) S hK hI o0 rfl hin_Md 31 (index := 59) (by decide) lf_Md_59 d_Md_readSequences_206 ?_
      refine lv_iload_n hx hb d_Md_readSequences_209 rfl (lv_at hl 3 rfl) ?_
      refine lv_iload hx hb d_Md_readSequences_210 (lv_at hl 0 rfl) ?_
      obtain ⟨q16, e17, h⟩ := un_bi h
      refine w_callSi (As := [.int (mGa L F9 (mRf L i0 23) ((32 : Int32) + (mGa L F9 (mRf L i0 27) (2 : Int32).toNatClampNeg)).toNatClampNeg)]) (rest := [.int x3, .ref (mAd X (mRf L i0 31))]) S hK hI hT (c_Md_matchBase l hW  e17) (va_cwS 1 S.2.2.2.2 (gd_S lc_Md_matchBase lm_Md_185 lst_Md_matchBase ln_Md) rfl rfl rfl hd_Md_matchBase.2 ⟨Nat.le_of_ble_eq_true rfl, Nat.le_of_ble_eq_true rfl⟩)  rfl rfl hl.1 (Nat.le_of_ble_eq_true rfl) d_Md_readSequences_212 ⟨Nat.zero_le _, Nat.zero_le _⟩ (fun H locs hI => ?_)
      refine lv_aload_n hx hb d_Md_readSequences_215 rfl (lv_at hl 2 rfl) ?_
      refine lv_iload hx hb d_Md_readSequences_216 (lv_at hl 0 rfl) ?_
      obtain ⟨q18, e19, h⟩ := un_bi h
      refine w_callSi (As := [.int (mGa L F9 (mRf L i0 23) ((32 : Int32) + (mGa L F9 (mRf L i0 27) (2 : Int32).toNatClampNeg)).toNatClampNeg)]) (rest := [.ref (mAd X i0), .int q16.1, .int x3, .ref (mAd X (mRf L i0 31))]) S hK hI hT (c_Md_matchBits l hW  e19) (va_cwS 1 S.2.2.2.2 (gd_S lc_Md_matchBits lm_Md_188 lst_Md_matchBits ln_Md) rfl rfl rfl hd_Md_matchBits.2 ⟨Nat.le_of_ble_eq_true rfl, Nat.le_of_ble_eq_true rfl⟩)  rfl rfl hl.1 (Nat.le_of_ble_eq_true rfl) d_Md_readSequences_218 ⟨Nat.zero_le _, Nat.zero_le _⟩ (fun H locs hI => ?_)
      obtain ⟨q20, e21, h⟩ := un_bi h
      refine w_callVi (As := [.int q18.1]) (rest := [.int q16.1, .int x3, .ref (mAd X (mRf L i0 31))]) S hK hI hT (c_Md_take l hW o0 e21) (cwV 1 S.2.2.2.2 (gd_V lc_Md_take lm_Md_169 li_Md_take ls_Md_take ln_Md) rfl rfl rfl hd_Md_take ⟨Nat.le_of_ble_eq_true rfl, Nat.le_of_ble_eq_true rfl⟩) o0 rfl (by decide) rfl rfl hl.1 (Nat.le_of_ble_eq_true rfl) d_Md_readSequences_221 ⟨Nat.zero_le _, Nat.zero_le _⟩ (fun H locs hI => ?_)
      refine lv_iadd hx hb d_Md_readSequences_224 ?_
      obtain ⟨z22, h⟩ := un_if h
      refine w_iast S hK hI p15 z22 d_Md_readSequences_225 (fun H locs F23 e24 hI => ?_)
      replace h := un_lt h _ e24
      refine lv_aload_n hx hb d_Md_readSequences_226 rfl (lv_at hl 2 rfl) ?_
      have p25 := wt_a hW o0 23 rfl (by decide) (by decide)
      refine w_getR (T := T_Md) S hK hI o0 rfl hin_Md 23 (index := 38) (by decide) lf_Md_38 d_Md_readSequences_227 ?_
      refine lv_aload_n hx hb d_Md_readSequences_230 rfl (lv_at hl 2 rfl) ?_
      have p26 := wt_a hW o0 27 rfl (by decide) (by decide)
      refine w_getR (T := T_Md) S hK hI o0 rfl hin_Md 27 (index := 50) (by decide) lf_Md_50 d_Md_readSequences_231 ?_
      refine lv_iconst (v := 0) hx hb d_Md_readSequences_234 rfl ?_
      obtain ⟨z27, h⟩ := un_if h
      refine w_iald S hK hI hT p26 z27 d_Md_readSequences_235 ?_
      obtain ⟨z28, h⟩ := un_if h
      refine w_iald S hK hI hT p25 z28 d_Md_readSequences_236 ?_
      refine lv_istore (lv' := [(5, .int (mGa L F23 (mRf L i0 23) (mGa L F23 (mRf L i0 27) (0 : Int32).toNatClampNeg).toNatClampNeg)), (4, .int (mGa L F (mRf L i0 23) ((16 : Int32) + (mGa L F (mRf L i0 27) (1 : Int32).toNatClampNeg)).toNatClampNeg)), (0, .ref (mAd X i0)), (3, .int x3)]) hx hb d_Md_readSequences_237 hl (by decide) rfl (fun ls hl => ?_)
      refine lv_aload_n hx hb d_Md_readSequences_239 rfl (lv_at hl 2 rfl) ?_
      have p29 := wt_a hW o0 29 rfl (by decide) (by decide)
      refine w_getR (T := T_Md) S hK hI o0 rfl hin_Md 29 (index := 53) (by decide) lf_Md_53 d_Md_readSequences_240 ?_
      refine lv_iload_n hx hb d_Md_readSequences_243 rfl (lv_at hl 3 rfl) ?_
      refine lv_iload hx hb d_Md_readSequences_244 (lv_at hl 0 rfl) ?_
      obtain ⟨q30, e31, h⟩ := un_bi h
      refine w_callSi (As := [.int (mGa L F23 (mRf L i0 23) (mGa L F23 (mRf L i0 27) (0 : Int32).toNatClampNeg).toNatClampNeg)]) (rest := [.int x3, .ref (mAd X (mRf L i0 29))]) S hK hI hT (c_Md_aheadBase l hW  e31) (va_cwS 1 S.2.2.2.2 (gd_S lc_Md_aheadBase lm_Md_191 lst_Md_aheadBase ln_Md) rfl rfl rfl hd_Md_aheadBase.2 ⟨Nat.le_of_ble_eq_true rfl, Nat.le_of_ble_eq_true rfl⟩)  rfl rfl hl.1 (Nat.le_of_ble_eq_true rfl) d_Md_readSequences_246 ⟨Nat.zero_le _, Nat.zero_le _⟩ (fun H locs hI => ?_)
      refine lv_aload_n hx hb d_Md_readSequences_249 rfl (lv_at hl 2 rfl) ?_
      refine lv_iload hx hb d_Md_readSequences_250 (lv_at hl 0 rfl) ?_
      obtain ⟨q32, e33, h⟩ := un_bi h
      refine w_callSi (As := [.int (mGa L F23 (mRf L i0 23) (mGa L F23 (mRf L i0 27) (0 : Int32).toNatClampNeg).toNatClampNeg)]) (rest := [.ref (mAd X i0), .int q30.1, .int x3, .ref (mAd X (mRf L i0 29))]) S hK hI hT (c_Md_aheadBits l hW  e33) (va_cwS 1 S.2.2.2.2 (gd_S lc_Md_aheadBits lm_Md_194 lst_Md_aheadBits ln_Md) rfl rfl rfl hd_Md_aheadBits.2 ⟨Nat.le_of_ble_eq_true rfl, Nat.le_of_ble_eq_true rfl⟩)  rfl rfl hl.1 (Nat.le_of_ble_eq_true rfl) d_Md_readSequences_252 ⟨Nat.zero_le _, Nat.zero_le _⟩ (fun H locs hI => ?_)
      obtain ⟨q34, e35, h⟩ := un_bi h
      refine w_callVi (As := [.int q32.1]) (rest := [.int q30.1, .int x3, .ref (mAd X (mRf L i0 29))]) S hK hI hT (c_Md_take l hW o0 e35) (cwV 1 S.2.2.2.2 (gd_V lc_Md_take lm_Md_169 li_Md_take ls_Md_take ln_Md) rfl rfl rfl hd_Md_take ⟨Nat.le_of_ble_eq_true rfl, Nat.le_of_ble_eq_true rfl⟩) o0 rfl (by decide) rfl rfl hl.1 (Nat.le_of_ble_eq_true rfl) d_Md_readSequences_255 ⟨Nat.zero_le _, Nat.zero_le _⟩ (fun H locs hI => ?_)
      refine lv_iadd hx hb d_Md_readSequences_258 ?_
      obtain ⟨z36, h⟩ := un_if h
      refine w_iast S hK hI p29 z36 d_Md_readSequences_259 (fun H locs F37 e38 hI => ?_)
      replace h := un_lt h _ e38
      refine lv_iload_n hx hb d_Md_readSequences_260 rfl (lv_at hl 3 rfl) ?_
      refine lv_iconst (v := 1) hx hb d_Md_readSequences_261 rfl ?_
      refine lv_iadd hx hb d_Md_readSequences_262 ?_
      refine lv_aload_n hx hb d_Md_readSequences_263 rfl (lv_at hl 2 rfl) ?_
      refine w_getI (T := T_Md) S hK hI o0 rfl hin_Md 28 (index := 178) (by decide) lf_Md_178 d_Md_readSequences_264 ?_
      refine lv_icmp_ge (tgt := 285) hx hb d_Md_readSequences_267 rfl (fun hc => ?_) (fun hc => ?_)
      · replace h := (if_pos hc).symm.trans h
        exact t_Md_readSequences_285 hC hk141 o0 hI (lv_sub hl [2, 3] rfl) h
      · replace h := (if_neg hc).symm.trans h
        refine lv_aload_n hx hb d_Md_readSequences_270 rfl (lv_at hl 2 rfl) ?_
        refine lv_iconst (v := 0) hx hb d_Md_readSequences_271 rfl ?_
        obtain ⟨F39, e40, h⟩ := un_bi h
        refine w_callVv (As := [.int (0 : Int32)]) (rest := []) S hK hI hT (c_Md_step l hW o0 e40) (cwV 1 S.2.2.2.2 (gd_V lc_Md_step lm_Md_197 li_Md_step ls_Md_step ln_Md) rfl rfl rfl hd_Md_step ⟨Nat.le_of_ble_eq_true rfl, Nat.le_of_ble_eq_true rfl⟩) o0 rfl (by decide) rfl rfl hl.1 (Nat.le_of_ble_eq_true rfl) d_Md_readSequences_272 ⟨Nat.zero_le _, Nat.zero_le _⟩ (fun H locs hI => ?_)
        refine lv_aload_n hx hb d_Md_readSequences_275 rfl (lv_at hl 2 rfl) ?_
        refine lv_iconst (v := 2) hx hb d_Md_readSequences_276 rfl ?_
        obtain ⟨F41, e42, h⟩ := un_bi h
        refine w_callVv (As := [.int (2 : Int32)]) (rest := []) S hK hI hT (c_Md_step l hW o0 e42) (cwV 1 S.2.2.2.2 (gd_V lc_Md_step lm_Md_197 li_Md_step ls_Md_step ln_Md) rfl rfl rfl hd_Md_step ⟨Nat.le_of_ble_eq_true rfl, Nat.le_of_ble_eq_true rfl⟩) o0 rfl (by decide) rfl rfl hl.1 (Nat.le_of_ble_eq_true rfl) d_Md_readSequences_277 ⟨Nat.zero_le _, Nat.zero_le _⟩ (fun H locs hI => ?_)
        refine lv_aload_n hx hb d_Md_readSequences_280 rfl (lv_at hl 2 rfl) ?_
        refine lv_iconst (v := 1) hx hb d_Md_readSequences_281 rfl ?_
        obtain ⟨F43, e44, h⟩ := un_bi h
        refine w_callVv (As := [.int (1 : Int32)]) (rest := []) S hK hI hT (c_Md_step l hW o0 e44) (cwV 1 S.2.2.2.2 (gd_V lc_Md_step lm_Md_197 li_Md_step ls_Md_step ln_Md) rfl rfl rfl hd_Md_step ⟨Nat.le_of_ble_eq_true rfl, Nat.le_of_ble_eq_true rfl⟩) o0 rfl (by decide) rfl rfl hl.1 (Nat.le_of_ble_eq_true rfl) d_Md_readSequences_282 ⟨Nat.zero_le _, Nat.zero_le _⟩ (fun H locs hI => ?_)
        exact t_Md_readSequences_285 hC hk141 o0 hI (lv_sub hl [2, 3] rfl) h
def f_Md_readSequences_141 (L : La)  : Nat → Nat → Int32 → Mem → Option Mem
  | 0 => fun _ _ _ => none
  | n + 1 => b_Md_readSequences_141 L (f_Md_readSequences_141 L  n)
theorem tf_Md_readSequences_141 (hC : Cx X L p s m args meth c cc_Md_readSequences 6 w_Md_readSequences R_Md none)  {out : Mem}  (n : Nat) : ∀ (i0 : Nat) (x3 : Int32) (F : Mem) (H : Heap) (locs : List Loc) (ls : Array Slot), oO L 12 i0 → Iv X L s H locs F → lv_has ls 6 [(0, .ref (mAd X i0)), (3, .int x3)] → f_Md_readSequences_141 L  n i0 x3 F = some out → W p l e (headSpec w_Md_readSequences r_Md_readSequences).room s m args below meth c H locs 0 0 (MQ below (QV X L out) args s 0 0 (AA X L)) (F0 m 141 ls []) := by
  induction n with
  | zero => intro i0 x3 F H locs ls o0 hI hl h; cases h
  | succ n ih => intro i0 x3 F H locs ls o0 hI hl h; exact t_Md_readSequences_141 hC ih o0 hI hl h
def b_Md_readSequences_139 (L : La)  (i0 : Nat) (F : Mem) : Option Mem :=
  f_Md_readSequences_141 L  mFU i0 (0 : Int32) F
set_option maxHeartbeats 4000000 in
theorem t_Md_readSequences_139 (hC : Cx X L p s m args meth c cc_Md_readSequences 6 w_Md_readSequences R_Md none)  {out : Mem}  {i0 : Nat} {F : Mem} {H : Heap} {locs : List Loc} {ls : Array Slot} (o0 : oO L 12 i0) (hI : Iv X L s H locs F) (hl : lv_has ls 6 [(0, .ref (mAd X i0))]) (h : b_Md_readSequences_139 L  i0 F = some out) : W p l e (headSpec w_Md_readSequences r_Md_readSequences).room s m args below meth c H locs 0 0 (MQ below (QV X L out) args s 0 0 (AA X L)) (F0 m 139 ls []) := by
  unfold b_Md_readSequences_139 at h
  obtain ⟨S, hK, hT, hW, hr, hlk⟩ := id hC
  have hx := S.1
  have hb := S.2.1
  refine lv_iconst (v := 0) hx hb d_Md_readSequences_139 rfl ?_
  refine lv_istore_n (lv' := [(3, .int (0 : Int32)), (0, .ref (mAd X i0))]) hx hb d_Md_readSequences_140 rfl hl (by decide) rfl (fun ls hl => ?_)
  exact tf_Md_readSequences_141 hC  mFU _ _ _ _ _ _ o0 hI (lv_sub hl [1, 0] rfl) h
def b_Md_readSequences_132 (L : La) (k97 : Nat → Int32 → Mem → Option Mem) (i0 : Nat) (x3 : Int32) (j0 : Nat) (y1 : Int32) (y2 : Int32) (F : Mem) : Option Mem :=
  if inb y1 (mLn L j0) ∨ ¬ j0 < mNc L then none else
  lt' (u2 F j0 y1.toNatClampNeg y2) fun F2 =>
  k97 i0 (x3 + (1 : Int32)) F2
set_option maxHeartbeats 4000000 in
theorem t_Md_readSequences_132 (hC : Cx X L p s m args meth c cc_Md_readSequences 6 w_Md_readSequences R_Md none) {k97 : Nat → Int32 → Mem → Option Mem} {out : Mem} (hk97 : ∀ (i0 : Nat) (x3 : Int32) (F : Mem) (H : Heap) (locs : List Loc) (ls : Array Slot), oO L 12 i0 → Iv X L s H locs F → lv_has ls 6 [(0, .ref (mAd X i0)), (3, .int x3)] → k97 i0 x3 F = some out → W p l e (headSpec w_Md_readSequences r_Md_readSequences).room s m args below meth c H locs 0 0 (MQ below (QV X L out) args s 0 0 (AA X L)) (F0 m 97 ls [])) {i0 : Nat} {x3 : Int32} {j0 : Nat} {y1 : Int32} {y2 : Int32} {F : Mem} {H : Heap} {locs : List Loc} {ls : Array Slot} (o0 : oO L 12 i0) (oy0 : oA L j0) (hI : Iv X L s H locs F) (hl : lv_has ls 6 [(0, .ref (mAd X i0)), (3, .int x3)]) (h : b_Md_readSequences_132 L k97 i0 x3 j0 y1 y2 F = some out) : W p l e (headSpec w_Md_readSequences r_Md_readSequences).room s m args below meth c H locs 0 0 (MQ below (QV X L out) args s 0 0 (AA X L)) (F0 m 132 ls [.int y2, .int y1, .ref (mAd X j0)]) := by
  unfold b_Md_readSequences_132 at h
  obtain ⟨S, hK, hT, hW, hr, hlk⟩ := id hC
  have hx := S.1
  have hb := S.2.1
  obtain ⟨z1, h⟩ := un_if h
  refine w_iast S hK hI oy0 z1 d_Md_readSequences_132 (fun H locs F2 e3 hI => ?_)
  replace h := un_lt h _ e3
  refine lv_iinc (k := 1) (v := x3 + (1 : Int32)) (lv' := [(3, .int (x3 + (1 : Int32))), (0, .ref (mAd X i0))]) hx hb d_Md_readSequences_133 hl rfl rfl (by decide) rfl (fun ls hl => ?_)
  refine lv_goto (tgt := 97) hx hb d_Md_readSequences_136 rfl ?_
  exact hk97 _ _ _ _ _ _ o0 hI (lv_sub hl [1, 0] rfl) h
def b_Md_readSequences_97 (L : La) (k97 : Nat → Int32 → Mem → Option Mem) (i0 : Nat) (x3 : Int32) (F : Mem) : Option Mem :=
  if (3 : Int32) ≤ x3 then
    b_Md_readSequences_139 L  i0 F
  else
    if (F i0 5) = 0 then
      if inb x3 (mLn L (mRf L i0 22)) then none else
      if (F (mRf L i0 22) x3.toNatClampNeg) = 0 then
        (f_Md_take L i0 (4 : Int32) F).bind fun q4 =>
        b_Md_readSequences_132 L k97 i0 x3 (mRf L i0 27) x3 q4.1 q4.2
      else
        b_Md_readSequences_132 L k97 i0 x3 (mRf L i0 27) x3 (0 : Int32) F
    else
      b_Md_readSequences_139 L  i0 F
set_option maxHeartbeats 4000000 in
theorem t_Md_readSequences_97 (hC : Cx X L p s m args meth c cc_Md_readSequences 6 w_Md_readSequences R_Md none) {k97 : Nat → Int32 → Mem → Option Mem} {out : Mem} (hk97 : ∀ (i0 : Nat) (x3 : Int32) (F : Mem) (H : Heap) (locs : List Loc) (ls : Array Slot), oO L 12 i0 → Iv X L s H locs F → lv_has ls 6 [(0, .ref (mAd X i0)), (3, .int x3)] → k97 i0 x3 F = some out → W p l e (headSpec w_Md_readSequences r_Md_readSequences).room s m args below meth c H locs 0 0 (MQ below (QV X L out) args s 0 0 (AA X L)) (F0 m 97 ls [])) {i0 : Nat} {x3 : Int32} {F : Mem} {H : Heap} {locs : List Loc} {ls : Array Slot} (o0 : oO L 12 i0) (hI : Iv X L s H locs F) (hl : lv_has ls 6 [(0, .ref (mAd X i0)), (3, .int x3)]) (h : b_Md_readSequences_97 L k97 i0 x3 F = some out) : W p l e (headSpec w_Md_readSequences r_Md_readSequences).room s m args below meth c H locs 0 0 (MQ below (QV X L out) args s 0 0 (AA X L)) (F0 m 97 ls []) := by
  unfold b_Md_readSequences_97 at h
  obtain ⟨S, hK, hT, hW, hr, hlk⟩ := id hC
  have hx := S.1
  have hb := S.2.1
  refine lv_iload_n hx hb d_Md_readSequences_97 rfl (lv_at hl 1 rfl) ?_
  refine lv_iconst (v := 3) hx hb d_Md_readSequences_98 rfl ?_
  refine lv_icmp_ge (tgt := 139) hx hb d_Md_readSequences_99 rfl (fun hc => ?_) (fun hc => ?_)
  · replace h := (if_pos hc).symm.trans h
    exact t_Md_readSequences_139 hC  o0 hI (lv_sub hl [0] rfl) h
  · replace h := (if_neg hc).symm.trans h
    refine lv_aload_n hx hb d_Md_readSequences_102 rfl (lv_at hl 0 rfl) ?_
    refine w_getI (T := T_Md) S hK hI o0 rfl hin_Md 5 (index := 102) (by decide) lf_Md_102 d_Md_readSequences_103 ?_
    refine lv_if_ne (tgt := 139) hx hb d_Md_readSequences_106 rfl (fun hc => ?_) (fun hc => ?_)
    · replace h := (if_neg hc).symm.trans h
      exact t_Md_readSequences_139 hC  o0 hI (lv_sub hl [0] rfl) h
    · replace h := (if_pos hc).symm.trans h
      refine lv_aload_n hx hb d_Md_readSequences_109 rfl (lv_at hl 0 rfl) ?_
      have p1 := wt_a hW o0 27 rfl (by decide) (by decide)
      refine w_getR (T := T_Md) S hK hI o0 rfl hin_Md 27 (index := 50) (by decide) lf_Md_50 d_Md_readSequences_110 ?_
      refine lv_iload_n hx hb d_Md_readSequences_113 rfl (lv_at hl 1 rfl) ?_
      refine lv_aload_n hx hb d_Md_readSequences_114 rfl (lv_at hl 0 rfl) ?_
      have p2 := wt_o hW o0 22 101 rfl (by decide) (by decide) (by decide)
      refine w_getR (T := T_Md) S hK hI o0 rfl hin_Md 22 (index := 35) (by decide) lf_Md_35 d_Md_readSequences_115 ?_
      refine lv_iload_n hx hb d_Md_readSequences_118 rfl (lv_at hl 1 rfl) ?_
      obtain ⟨z3, h⟩ := un_if h
      refine w_zald S hK hI p2 z3 d_Md_readSequences_119 ?_
      refine lv_if_eq (tgt := 127) hx hb d_Md_readSequences_120 rfl (fun hc => ?_) (fun hc => ?_)
      · replace h := (if_pos hc).symm.trans h
        refine lv_aload_n hx hb d_Md_readSequences_127 rfl (lv_at hl 0 rfl) ?_
        refine lv_iconst (v := 4) hx hb d_Md_readSequences_128 rfl ?_
        obtain ⟨q4, e5, h⟩ := un_bi h
        refine w_callVi (As := [.int (4 : Int32)]) (rest := [.int x3, .ref (mAd X (mRf L i0 27))]) S hK hI hT (c_Md_take l hW o0 e5) (cwV 1 S.2.2.2.2 (gd_V lc_Md_take lm_Md_169 li_Md_take ls_Md_take ln_Md) rfl rfl rfl hd_Md_take ⟨Nat.le_of_ble_eq_true rfl, Nat.le_of_ble_eq_true rfl⟩) o0 rfl (by decide) rfl rfl hl.1 (Nat.le_of_ble_eq_true rfl) d_Md_readSequences_129 ⟨Nat.zero_le _, Nat.zero_le _⟩ (fun H locs hI => ?_)
        exact t_Md_readSequences_132 hC hk97 o0 p1 hI hl h
      · replace h := (if_neg hc).symm.trans h
        refine lv_iconst (v := 0) hx hb d_Md_readSequences_123 rfl ?_
        refine lv_goto (tgt := 132) hx hb d_Md_readSequences_124 rfl ?_
        exact t_Md_readSequences_132 hC hk97 o0 p1 hI hl h
def f_Md_readSequences_97 (L : La)  : Nat → Nat → Int32 → Mem → Option Mem
  | 0 => fun _ _ _ => none
  | n + 1 => b_Md_readSequences_97 L (f_Md_readSequences_97 L  n)
theorem tf_Md_readSequences_97 (hC : Cx X L p s m args meth c cc_Md_readSequences 6 w_Md_readSequences R_Md none)  {out : Mem}  (n : Nat) : ∀ (i0 : Nat) (x3 : Int32) (F : Mem) (H : Heap) (locs : List Loc) (ls : Array Slot), oO L 12 i0 → Iv X L s H locs F → lv_has ls 6 [(0, .ref (mAd X i0)), (3, .int x3)] → f_Md_readSequences_97 L  n i0 x3 F = some out → W p l e (headSpec w_Md_readSequences r_Md_readSequences).room s m args below meth c H locs 0 0 (MQ below (QV X L out) args s 0 0 (AA X L)) (F0 m 97 ls []) := by
  induction n with
  | zero => intro i0 x3 F H locs ls o0 hI hl h; cases h
  | succ n ih => intro i0 x3 F H locs ls o0 hI hl h; exact t_Md_readSequences_97 hC ih o0 hI hl h
def b_Md_readSequences_49 (L : La)  (i0 : Nat) (x1 : Int32) (x2 : Int32) (j0 : Nat) (y1 : Int32) (F : Mem) : Option Mem :=
  if ¬ (y1 = 0 ∨ y1 = 1) then none else
  lt' (u2 F j0 5 y1) fun F1 =>
  (f_Md_readTable L i0 (0 : Int32) (jshr x2 (6 : Int32)) x1 F1).bind fun F4 =>
  (f_Md_readTable L i0 (1 : Int32) ((jshr x2 (4 : Int32)) &&& (3 : Int32)) x1 F4).bind fun F6 =>
  (f_Md_readTable L i0 (2 : Int32) ((jshr x2 (2 : Int32)) &&& (3 : Int32)) x1 F6).bind fun F8 =>
  (f_Md_openStream L i0 (x1 - (F8 i0 4)) x1 F8).bind fun F10 =>
  f_Md_readSequences_97 L  mFU i0 (0 : Int32) F10
set_option maxHeartbeats 4000000 in
theorem t_Md_readSequences_49 (hC : Cx X L p s m args meth c cc_Md_readSequences 6 w_Md_readSequences R_Md none)  {out : Mem}  {i0 : Nat} {x1 : Int32} {x2 : Int32} {j0 : Nat} {y1 : Int32} {F : Mem} {H : Heap} {locs : List Loc} {ls : Array Slot} (o0 : oO L 12 i0) (oy0 : oO L 12 j0) (hI : Iv X L s H locs F) (hl : lv_has ls 6 [(0, .ref (mAd X i0)), (1, .int x1), (2, .int x2)]) (h : b_Md_readSequences_49 L  i0 x1 x2 j0 y1 F = some out) : W p l e (headSpec w_Md_readSequences r_Md_readSequences).room s m args below meth c H locs 0 0 (MQ below (QV X L out) args s 0 0 (AA X L)) (F0 m 49 ls [.int y1, .ref (mAd X j0)]) := by
  unfold b_Md_readSequences_49 at h
  obtain ⟨S, hK, hT, hW, hr, hlk⟩ := id hC
  have hx := S.1
  have hb := S.2.1
  obtain ⟨z3, h⟩ := un_if h
  refine w_putZ (T := T_Md) S hK hI oy0 rfl hin_Md ty_Md tk_Md nm_Md 5 (index := 102) (by decide) lf_Md_102 rfl z3 d_Md_readSequences_49 (fun H locs F1 e2 hI => ?_)
  replace h := un_lt h _ e2
  refine lv_aload_n hx hb d_Md_readSequences_52 rfl (lv_at hl 0 rfl) ?_
  refine lv_iconst (v := 0) hx hb d_Md_readSequences_53 rfl ?_
  refine lv_iload_n hx hb d_Md_readSequences_54 rfl (lv_at hl 2 rfl) ?_
  refine lv_bipush (v := 6) hx hb d_Md_readSequences_55 (by decide) ?_
  refine lv_ishr hx hb d_Md_readSequences_57 ?_
  refine lv_iload_n hx hb d_Md_readSequences_58 rfl (lv_at hl 1 rfl) ?_
  obtain ⟨F4, e5, h⟩ := un_bi h
  refine w_callVv (As := [.int (0 : Int32), .int (jshr x2 (6 : Int32)), .int x1]) (rest := []) S hK hI hT (c_Md_readTable l hW o0 e5) (cwV 3 S.2.2.2.2 (gd_V lc_Md_readTable lm_Md_181 li_Md_readTable ls_Md_readTable ln_Md) rfl rfl rfl hd_Md_readTable ⟨Nat.le_of_ble_eq_true rfl, Nat.le_of_ble_eq_true rfl⟩) o0 rfl (by decide) rfl rfl hl.1 (Nat.le_of_ble_eq_true rfl) d_Md_readSequences_59 ⟨Nat.zero_le _, Nat.zero_le _⟩ (fun H locs hI => ?_)
  refine lv_aload_n hx hb d_Md_readSequences_62 rfl (lv_at hl 0 rfl) ?_
  refine lv_iconst (v := 1) hx hb d_Md_readSequences_63 rfl ?_
  refine lv_iload_n hx hb d_Md_readSequences_64 rfl (lv_at hl 2 rfl) ?_
  refine lv_iconst (v := 4) hx hb d_Md_readSequences_65 rfl ?_
  refine lv_ishr hx hb d_Md_readSequences_66 ?_
  refine lv_iconst (v := 3) hx hb d_Md_readSequences_67 rfl ?_
  refine lv_iand hx hb d_Md_readSequences_68 ?_
  refine lv_iload_n hx hb d_Md_readSequences_69 rfl (lv_at hl 1 rfl) ?_
  obtain ⟨F6, e7, h⟩ := un_bi h
  refine w_callVv (As := [.int (1 : Int32), .int ((jshr x2 (4 : Int32)) &&& (3 : Int32)), .int x1]) (rest := []) S hK hI hT (c_Md_readTable l hW o0 e7) (cwV 3 S.2.2.2.2 (gd_V lc_Md_readTable lm_Md_181 li_Md_readTable ls_Md_readTable ln_Md) rfl rfl rfl hd_Md_readTable ⟨Nat.le_of_ble_eq_true rfl, Nat.le_of_ble_eq_true rfl⟩) o0 rfl (by decide) rfl rfl hl.1 (Nat.le_of_ble_eq_true rfl) d_Md_readSequences_70 ⟨Nat.zero_le _, Nat.zero_le _⟩ (fun H locs hI => ?_)
  refine lv_aload_n hx hb d_Md_readSequences_73 rfl (lv_at hl 0 rfl) ?_
  refine lv_iconst (v := 2) hx hb d_Md_readSequences_74 rfl ?_
  refine lv_iload_n hx hb d_Md_readSequences_75 rfl (lv_at hl 2 rfl) ?_
  refine lv_iconst (v := 2) hx hb d_Md_readSequences_76 rfl ?_
  refine lv_ishr hx hb d_Md_readSequences_77 ?_
  refine lv_iconst (v := 3) hx hb d_Md_readSequences_78 rfl ?_
  refine lv_iand hx hb d_Md_readSequences_79 ?_
  refine lv_iload_n hx hb d_Md_readSequences_80 rfl (lv_at hl 1 rfl) ?_
  obtain ⟨F8, e9, h⟩ := un_bi h
  refine w_callVv (As := [.int (2 : Int32), .int ((jshr x2 (2 : Int32)) &&& (3 : Int32)), .int x1]) (rest := []) S hK hI hT (c_Md_readTable l hW o0 e9) (cwV 3 S.2.2.2.2 (gd_V lc_Md_readTable lm_Md_181 li_Md_readTable ls_Md_readTable ln_Md) rfl rfl rfl hd_Md_readTable ⟨Nat.le_of_ble_eq_true rfl, Nat.le_of_ble_eq_true rfl⟩) o0 rfl (by decide) rfl rfl hl.1 (Nat.le_of_ble_eq_true rfl) d_Md_readSequences_81 ⟨Nat.zero_le _, Nat.zero_le _⟩ (fun H locs hI => ?_)
  refine lv_aload_n hx hb d_Md_readSequences_84 rfl (lv_at hl 0 rfl) ?_
  refine lv_iload_n hx hb d_Md_readSequences_85 rfl (lv_at hl 1 rfl) ?_
  refine lv_aload_n hx hb d_Md_readSequences_86 rfl (lv_at hl 0 rfl) ?_
  refine w_getI (T := T_Md) S hK hI o0 rfl hin_Md 4 (index := 99) (by decide) lf_Md_99 d_Md_readSequences_87 ?_
  refine lv_isub hx hb d_Md_readSequences_90 ?_
  refine lv_iload_n hx hb d_Md_readSequences_91 rfl (lv_at hl 1 rfl) ?_
  obtain ⟨F10, e11, h⟩ := un_bi h
  refine w_callVv (As := [.int (x1 - (F8 i0 4)), .int x1]) (rest := []) S hK hI hT (c_Md_openStream l hW o0 e11) (cwV 2 S.2.2.2.2 (gd_V lc_Md_openStream lm_Md_159 li_Md_openStream ls_Md_openStream ln_Md) rfl rfl rfl hd_Md_openStream ⟨Nat.le_of_ble_eq_true rfl, Nat.le_of_ble_eq_true rfl⟩) o0 rfl (by decide) rfl rfl hl.1 (Nat.le_of_ble_eq_true rfl) d_Md_readSequences_92 ⟨Nat.zero_le _, Nat.zero_le _⟩ (fun H locs hI => ?_)
  refine lv_iconst (v := 0) hx hb d_Md_readSequences_95 rfl ?_
  refine lv_istore_n (lv' := [(3, .int (0 : Int32)), (0, .ref (mAd X i0)), (1, .int x1), (2, .int x2)]) hx hb d_Md_readSequences_96 rfl hl (by decide) rfl (fun ls hl => ?_)
  exact tf_Md_readSequences_97 hC  mFU _ _ _ _ _ _ o0 hI (lv_sub hl [1, 0] rfl) h
def b_Md_readSequences_44 (L : La)  (i0 : Nat) (x1 : Int32) (x2 : Int32) (j0 : Nat) (F : Mem) : Option Mem :=
  b_Md_readSequences_49 L  i0 x1 x2 j0 (1 : Int32) F
set_option maxHeartbeats 4000000 in
theorem t_Md_readSequences_44 (hC : Cx X L p s m args meth c cc_Md_readSequences 6 w_Md_readSequences R_Md none)  {out : Mem}  {i0 : Nat} {x1 : Int32} {x2 : Int32} {j0 : Nat} {F : Mem} {H : Heap} {locs : List Loc} {ls : Array Slot} (o0 : oO L 12 i0) (oy0 : oO L 12 j0) (hI : Iv X L s H locs F) (hl : lv_has ls 6 [(0, .ref (mAd X i0)), (1, .int x1), (2, .int x2)]) (h : b_Md_readSequences_44 L  i0 x1 x2 j0 F = some out) : W p l e (headSpec w_Md_readSequences r_Md_readSequences).room s m args below meth c H locs 0 0 (MQ below (QV X L out) args s 0 0 (AA X L)) (F0 m 44 ls [.ref (mAd X j0)]) := by
  unfold b_Md_readSequences_44 at h
  obtain ⟨S, hK, hT, hW, hr, hlk⟩ := id hC
  have hx := S.1
  have hb := S.2.1
  refine lv_iconst (v := 1) hx hb d_Md_readSequences_44 rfl ?_
  refine lv_goto (tgt := 49) hx hb d_Md_readSequences_45 rfl ?_
  exact t_Md_readSequences_49 hC  o0 oy0 hI hl h
def f_Md_readSequences (L : La) (i0 : Nat) (x1 : Int32) (F : Mem) : Option Mem :=
  (f_Md_next L i0 x1 F).bind fun q1 =>
  lt' (u2 q1.2 i0 28 q1.1) fun F3 =>
  if (F3 i0 5) = 0 then
    if (F3 i0 28) = 0 then
      b_Md_readSequences_23 L   F3
    else
      (f_Md_next L i0 x1 F3).bind fun q5 =>
      if (q5.2 i0 5) = 0 then
        if (q5.1 &&& (3 : Int32)) = 0 then
          b_Md_readSequences_49 L  i0 x1 q5.1 i0 (0 : Int32) q5.2
        else
          b_Md_readSequences_44 L  i0 x1 q5.1 i0 q5.2
      else
        b_Md_readSequences_44 L  i0 x1 q5.1 i0 q5.2
  else
    b_Md_readSequences_23 L   F3
set_option maxHeartbeats 4000000 in
theorem c_Md_readSequences (l : Launch) {X : Xs} {L : La} (hW : WT L) {out : Mem} {i0 : Nat} {x1 : Int32} {F : Mem} (o0 : oO L 12 i0) (h : f_Md_readSequences L i0 x1 F = some out) : Met l y_Md_readSequences w_Md_readSequences r_Md_readSequences (va_Pc [.ref (mAd X i0), .int x1] (Pr X L F)) (QV X L out) 0 0 (AA X L) := by
  refine mk_met (by decide) rfl (Nat.le_of_ble_eq_true rfl) hW ?_
  intro p e s m args below meth c ls hC hI hl
  have hl : lv_has ls 6 [(0, .ref (mAd X i0)), (1, .int x1)] := hl
  generalize hHe : s.heap = H at hI ⊢
  generalize ([] : List Loc) = locs at hI ⊢
  unfold f_Md_readSequences at h
  obtain ⟨S, hK, hT, hW, hr, hlk⟩ := id hC
  have hx := S.1
  have hb := S.2.1
  refine lv_aload_n hx hb d_Md_readSequences_0 rfl (lv_at hl 0 rfl) ?_
  refine lv_aload_n hx hb d_Md_readSequences_1 rfl (lv_at hl 0 rfl) ?_
  refine lv_iload_n hx hb d_Md_readSequences_2 rfl (lv_at hl 1 rfl) ?_
  obtain ⟨q1, e2, h⟩ := un_bi h
  refine w_callVi (As := [.int x1]) (rest := [.ref (mAd X i0)]) S hK hI hT (c_Md_next l hW o0 e2) (cwV 1 S.2.2.2.2 (gd_V lc_Md_next lm_Md_125 li_Md_next ls_Md_next ln_Md) rfl rfl rfl hd_Md_next ⟨Nat.le_of_ble_eq_true rfl, Nat.le_of_ble_eq_true rfl⟩) o0 rfl (by decide) rfl rfl hl.1 (Nat.le_of_ble_eq_true rfl) d_Md_readSequences_3 ⟨Nat.zero_le _, Nat.zero_le _⟩ (fun H locs hI => ?_)
  refine w_putI (T := T_Md) S hK hI o0 rfl hin_Md ty_Md tk_Md nm_Md 28 (index := 178) (by decide) lf_Md_178 rfl d_Md_readSequences_6 (fun H locs F3 e4 hI => ?_)
  replace h := un_lt h _ e4
  refine lv_aload_n hx hb d_Md_readSequences_9 rfl (lv_at hl 0 rfl) ?_
  refine w_getI (T := T_Md) S hK hI o0 rfl hin_Md 5 (index := 102) (by decide) lf_Md_102 d_Md_readSequences_10 ?_
  refine lv_if_ne (tgt := 23) hx hb d_Md_readSequences_13 rfl (fun hc => ?_) (fun hc => ?_)
  · replace h := (if_neg hc).symm.trans h
    exact t_Md_readSequences_23 hC   hI (lv_sub hl [] rfl) h
  · replace h := (if_pos hc).symm.trans h
    refine lv_aload_n hx hb d_Md_readSequences_16 rfl (lv_at hl 0 rfl) ?_
    refine w_getI (T := T_Md) S hK hI o0 rfl hin_Md 28 (index := 178) (by decide) lf_Md_178 d_Md_readSequences_17 ?_
    refine lv_if_ne (tgt := 24) hx hb d_Md_readSequences_20 rfl (fun hc => ?_) (fun hc => ?_)
    · replace h := (if_neg hc).symm.trans h
      refine lv_aload_n hx hb d_Md_readSequences_24 rfl (lv_at hl 0 rfl) ?_
      refine lv_iload_n hx hb d_Md_readSequences_25 rfl (lv_at hl 1 rfl) ?_
      obtain ⟨q5, e6, h⟩ := un_bi h
      refine w_callVi (As := [.int x1]) (rest := []) S hK hI hT (c_Md_next l hW o0 e6) (cwV 1 S.2.2.2.2 (gd_V lc_Md_next lm_Md_125 li_Md_next ls_Md_next ln_Md) rfl rfl rfl hd_Md_next ⟨Nat.le_of_ble_eq_true rfl, Nat.le_of_ble_eq_true rfl⟩) o0 rfl (by decide) rfl rfl hl.1 (Nat.le_of_ble_eq_true rfl) d_Md_readSequences_26 ⟨Nat.zero_le _, Nat.zero_le _⟩ (fun H locs hI => ?_)
      refine lv_istore_n (lv' := [(2, .int q5.1), (0, .ref (mAd X i0)), (1, .int x1)]) hx hb d_Md_readSequences_29 rfl hl (by decide) rfl (fun ls hl => ?_)
      refine lv_aload_n hx hb d_Md_readSequences_30 rfl (lv_at hl 1 rfl) ?_
      refine lv_aload_n hx hb d_Md_readSequences_31 rfl (lv_at hl 1 rfl) ?_
      refine w_getI (T := T_Md) S hK hI o0 rfl hin_Md 5 (index := 102) (by decide) lf_Md_102 d_Md_readSequences_32 ?_
      refine lv_if_ne (tgt := 44) hx hb d_Md_readSequences_35 rfl (fun hc => ?_) (fun hc => ?_)
      · replace h := (if_neg hc).symm.trans h
        exact t_Md_readSequences_44 hC  o0 o0 hI (lv_sub hl [1, 2, 0] rfl) h
      · replace h := (if_pos hc).symm.trans h
        refine lv_iload_n hx hb d_Md_readSequences_38 rfl (lv_at hl 0 rfl) ?_
        refine lv_iconst (v := 3) hx hb d_Md_readSequences_39 rfl ?_
        refine lv_iand hx hb d_Md_readSequences_40 ?_
        refine lv_if_eq (tgt := 48) hx hb d_Md_readSequences_41 rfl (fun hc => ?_) (fun hc => ?_)
        · replace h := (if_pos hc).symm.trans h
          refine lv_iconst (v := 0) hx hb d_Md_readSequences_48 rfl ?_
          exact t_Md_readSequences_49 hC  o0 o0 hI (lv_sub hl [1, 2, 0] rfl) h
        · replace h := (if_neg hc).symm.trans h
          exact t_Md_readSequences_44 hC  o0 o0 hI (lv_sub hl [1, 2, 0] rfl) h
    · replace h := (if_pos hc).symm.trans h
      exact t_Md_readSequences_23 hC   hI (lv_sub hl [] rfl) h
end
theorem d_Md_wayBack_0 : decode cc_Md_wayBack 0 = .ok (.iload_n 1, 1) := by decide +kernel
theorem d_Md_wayBack_1 : decode cc_Md_wayBack 1 = .ok (.iconst 3, 1) := by decide +kernel
theorem d_Md_wayBack_2 : decode cc_Md_wayBack 2 = .ok (.if_icmp .le (7), 3) := by decide +kernel
theorem d_Md_wayBack_5 : decode cc_Md_wayBack 5 = .ok (.iconst 5, 1) := by decide +kernel
theorem d_Md_wayBack_6 : decode cc_Md_wayBack 6 = .ok (.goto (14), 3) := by decide +kernel
theorem d_Md_wayBack_9 : decode cc_Md_wayBack 9 = .ok (.iload_n 2, 1) := by decide +kernel
theorem d_Md_wayBack_10 : decode cc_Md_wayBack 10 = .ok (.ifCond .ne (9), 3) := by decide +kernel
theorem d_Md_wayBack_13 : decode cc_Md_wayBack 13 = .ok (.iload_n 1, 1) := by decide +kernel
theorem d_Md_wayBack_14 : decode cc_Md_wayBack 14 = .ok (.iconst 1, 1) := by decide +kernel
theorem d_Md_wayBack_15 : decode cc_Md_wayBack 15 = .ok (.iadd, 1) := by decide +kernel
theorem d_Md_wayBack_16 : decode cc_Md_wayBack 16 = .ok (.goto (4), 3) := by decide +kernel
theorem d_Md_wayBack_19 : decode cc_Md_wayBack 19 = .ok (.iload_n 1, 1) := by decide +kernel
theorem d_Md_wayBack_20 : decode cc_Md_wayBack 20 = .ok (.istore_n 3, 1) := by decide +kernel
theorem d_Md_wayBack_21 : decode cc_Md_wayBack 21 = .ok (.iload_n 3, 1) := by decide +kernel
theorem d_Md_wayBack_22 : decode cc_Md_wayBack 22 = .ok (.iconst 5, 1) := by decide +kernel
theorem d_Md_wayBack_23 : decode cc_Md_wayBack 23 = .ok (.if_icmp .ne (9), 3) := by decide +kernel
theorem d_Md_wayBack_26 : decode cc_Md_wayBack 26 = .ok (.iload_n 1, 1) := by decide +kernel
theorem d_Md_wayBack_27 : decode cc_Md_wayBack 27 = .ok (.iconst 3, 1) := by decide +kernel
theorem d_Md_wayBack_28 : decode cc_Md_wayBack 28 = .ok (.isub, 1) := by decide +kernel
theorem d_Md_wayBack_29 : decode cc_Md_wayBack 29 = .ok (.goto (27), 3) := by decide +kernel
theorem d_Md_wayBack_32 : decode cc_Md_wayBack 32 = .ok (.iload_n 3, 1) := by decide +kernel
theorem d_Md_wayBack_33 : decode cc_Md_wayBack 33 = .ok (.iconst 4, 1) := by decide +kernel
theorem d_Md_wayBack_34 : decode cc_Md_wayBack 34 = .ok (.if_icmp .ne (14), 3) := by decide +kernel
theorem d_Md_wayBack_37 : decode cc_Md_wayBack 37 = .ok (.aload_n 0, 1) := by decide +kernel
theorem d_Md_wayBack_38 : decode cc_Md_wayBack 38 = .ok (.getfield 19, 3) := by decide +kernel
theorem d_Md_wayBack_41 : decode cc_Md_wayBack 41 = .ok (.iconst 0, 1) := by decide +kernel
theorem d_Md_wayBack_42 : decode cc_Md_wayBack 42 = .ok (.iaload, 1) := by decide +kernel
theorem d_Md_wayBack_43 : decode cc_Md_wayBack 43 = .ok (.iconst 1, 1) := by decide +kernel
theorem d_Md_wayBack_44 : decode cc_Md_wayBack 44 = .ok (.isub, 1) := by decide +kernel
theorem d_Md_wayBack_45 : decode cc_Md_wayBack 45 = .ok (.goto (11), 3) := by decide +kernel
theorem d_Md_wayBack_48 : decode cc_Md_wayBack 48 = .ok (.aload_n 0, 1) := by decide +kernel
theorem d_Md_wayBack_49 : decode cc_Md_wayBack 49 = .ok (.getfield 19, 3) := by decide +kernel
theorem d_Md_wayBack_52 : decode cc_Md_wayBack 52 = .ok (.iload_n 3, 1) := by decide +kernel
theorem d_Md_wayBack_53 : decode cc_Md_wayBack 53 = .ok (.iconst 1, 1) := by decide +kernel
theorem d_Md_wayBack_54 : decode cc_Md_wayBack 54 = .ok (.isub, 1) := by decide +kernel
theorem d_Md_wayBack_55 : decode cc_Md_wayBack 55 = .ok (.iaload, 1) := by decide +kernel
theorem d_Md_wayBack_56 : decode cc_Md_wayBack 56 = .ok (.istore 4, 2) := by decide +kernel
theorem d_Md_wayBack_58 : decode cc_Md_wayBack 58 = .ok (.iload_n 3, 1) := by decide +kernel
theorem d_Md_wayBack_59 : decode cc_Md_wayBack 59 = .ok (.iconst 2, 1) := by decide +kernel
theorem d_Md_wayBack_60 : decode cc_Md_wayBack 60 = .ok (.if_icmp .le (15), 3) := by decide +kernel
theorem d_Md_wayBack_63 : decode cc_Md_wayBack 63 = .ok (.aload_n 0, 1) := by decide +kernel
theorem d_Md_wayBack_64 : decode cc_Md_wayBack 64 = .ok (.getfield 19, 3) := by decide +kernel
theorem d_Md_wayBack_67 : decode cc_Md_wayBack 67 = .ok (.iconst 2, 1) := by decide +kernel
theorem d_Md_wayBack_68 : decode cc_Md_wayBack 68 = .ok (.aload_n 0, 1) := by decide +kernel
theorem d_Md_wayBack_69 : decode cc_Md_wayBack 69 = .ok (.getfield 19, 3) := by decide +kernel
theorem d_Md_wayBack_72 : decode cc_Md_wayBack 72 = .ok (.iconst 1, 1) := by decide +kernel
theorem d_Md_wayBack_73 : decode cc_Md_wayBack 73 = .ok (.iaload, 1) := by decide +kernel
theorem d_Md_wayBack_74 : decode cc_Md_wayBack 74 = .ok (.iastore, 1) := by decide +kernel
theorem d_Md_wayBack_75 : decode cc_Md_wayBack 75 = .ok (.iload_n 3, 1) := by decide +kernel
theorem d_Md_wayBack_76 : decode cc_Md_wayBack 76 = .ok (.iconst 1, 1) := by decide +kernel
theorem d_Md_wayBack_77 : decode cc_Md_wayBack 77 = .ok (.if_icmp .le (15), 3) := by decide +kernel
theorem d_Md_wayBack_80 : decode cc_Md_wayBack 80 = .ok (.aload_n 0, 1) := by decide +kernel
theorem d_Md_wayBack_81 : decode cc_Md_wayBack 81 = .ok (.getfield 19, 3) := by decide +kernel
theorem d_Md_wayBack_84 : decode cc_Md_wayBack 84 = .ok (.iconst 1, 1) := by decide +kernel
theorem d_Md_wayBack_85 : decode cc_Md_wayBack 85 = .ok (.aload_n 0, 1) := by decide +kernel
theorem d_Md_wayBack_86 : decode cc_Md_wayBack 86 = .ok (.getfield 19, 3) := by decide +kernel
theorem d_Md_wayBack_89 : decode cc_Md_wayBack 89 = .ok (.iconst 0, 1) := by decide +kernel
theorem d_Md_wayBack_90 : decode cc_Md_wayBack 90 = .ok (.iaload, 1) := by decide +kernel
theorem d_Md_wayBack_91 : decode cc_Md_wayBack 91 = .ok (.iastore, 1) := by decide +kernel
theorem d_Md_wayBack_92 : decode cc_Md_wayBack 92 = .ok (.aload_n 0, 1) := by decide +kernel
theorem d_Md_wayBack_93 : decode cc_Md_wayBack 93 = .ok (.getfield 19, 3) := by decide +kernel
theorem d_Md_wayBack_96 : decode cc_Md_wayBack 96 = .ok (.iconst 0, 1) := by decide +kernel
theorem d_Md_wayBack_97 : decode cc_Md_wayBack 97 = .ok (.iload 4, 2) := by decide +kernel
theorem d_Md_wayBack_99 : decode cc_Md_wayBack 99 = .ok (.iastore, 1) := by decide +kernel
theorem d_Md_wayBack_100 : decode cc_Md_wayBack 100 = .ok (.iload 4, 2) := by decide +kernel
theorem d_Md_wayBack_102 : decode cc_Md_wayBack 102 = .ok (.ireturn, 1) := by decide +kernel
section
variable {p : Program} {l : Launch} {e : Env} {s : State} {m : MethodId} {args : Array Value} {below : List Frame} {meth : Method} {c : Code} {X : Xs} {L : La}
def b_Md_wayBack_92 (L : La)  (i0 : Nat) (x4 : Int32) (F : Mem) : Option (Int32 × Mem) :=
  if inb (0 : Int32) (mLn L (mRf L i0 10)) ∨ ¬ (mRf L i0 10) < mNc L then none else
  lt' (u2 F (mRf L i0 10) (0 : Int32).toNatClampNeg x4) fun F3 =>
  some (x4, F3)
set_option maxHeartbeats 4000000 in
theorem t_Md_wayBack_92 (hC : Cx X L p s m args meth c cc_Md_wayBack 5 w_Md_wayBack R_Md (some .int))  {out : (Int32 × Mem)}  {i0 : Nat} {x4 : Int32} {F : Mem} {H : Heap} {locs : List Loc} {ls : Array Slot} (o0 : oO L 12 i0) (hI : Iv X L s H locs F) (hl : lv_has ls 5 [(0, .ref (mAd X i0)), (4, .int x4)]) (h : b_Md_wayBack_92 L  i0 x4 F = some out) : W p l e (headSpec w_Md_wayBack r_Md_wayBack).room s m args below meth c H locs 0 0 (MQ below (QI X L out) args s 0 0 (AA X L)) (F0 m 92 ls []) := by
  unfold b_Md_wayBack_92 at h
  obtain ⟨S, hK, hT, hW, hr, hlk⟩ := id hC
  have hx := S.1
  have hb := S.2.1
  refine lv_aload_n hx hb d_Md_wayBack_92 rfl (lv_at hl 0 rfl) ?_
  have p1 := wt_a hW o0 10 rfl (by decide) (by decide)
  refine w_getR (T := T_Md) S hK hI o0 rfl hin_Md 10 (index := 19) (by decide) lf_Md_19 d_Md_wayBack_93 ?_
  refine lv_iconst (v := 0) hx hb d_Md_wayBack_96 rfl ?_
  refine lv_iload hx hb d_Md_wayBack_97 (lv_at hl 1 rfl) ?_
  obtain ⟨z2, h⟩ := un_if h
  refine w_iast S hK hI p1 z2 d_Md_wayBack_99 (fun H locs F3 e4 hI => ?_)
  replace h := un_lt h _ e4
  refine lv_iload hx hb d_Md_wayBack_100 (lv_at hl 1 rfl) ?_
  exact w_iret S hK hr hlk hI d_Md_wayBack_102 h
def b_Md_wayBack_75 (L : La)  (i0 : Nat) (x3 : Int32) (x4 : Int32) (F : Mem) : Option (Int32 × Mem) :=
  if x3 ≤ (1 : Int32) then
    b_Md_wayBack_92 L  i0 x4 F
  else
    if inb (0 : Int32) (mGl L (mRf L i0 10)) then none else
    if inb (1 : Int32) (mLn L (mRf L i0 10)) ∨ ¬ (mRf L i0 10) < mNc L then none else
    lt' (u2 F (mRf L i0 10) (1 : Int32).toNatClampNeg (mGa L F (mRf L i0 10) (0 : Int32).toNatClampNeg)) fun F5 =>
    b_Md_wayBack_92 L  i0 x4 F5
set_option maxHeartbeats 4000000 in
theorem t_Md_wayBack_75 (hC : Cx X L p s m args meth c cc_Md_wayBack 5 w_Md_wayBack R_Md (some .int))  {out : (Int32 × Mem)}  {i0 : Nat} {x3 : Int32} {x4 : Int32} {F : Mem} {H : Heap} {locs : List Loc} {ls : Array Slot} (o0 : oO L 12 i0) (hI : Iv X L s H locs F) (hl : lv_has ls 5 [(0, .ref (mAd X i0)), (3, .int x3), (4, .int x4)]) (h : b_Md_wayBack_75 L  i0 x3 x4 F = some out) : W p l e (headSpec w_Md_wayBack r_Md_wayBack).room s m args below meth c H locs 0 0 (MQ below (QI X L out) args s 0 0 (AA X L)) (F0 m 75 ls []) := by
  unfold b_Md_wayBack_75 at h
  obtain ⟨S, hK, hT, hW, hr, hlk⟩ := id hC
  have hx := S.1
  have hb := S.2.1
  refine lv_iload_n hx hb d_Md_wayBack_75 rfl (lv_at hl 1 rfl) ?_
  refine lv_iconst (v := 1) hx hb d_Md_wayBack_76 rfl ?_
  refine lv_icmp_le (tgt := 92) hx hb d_Md_wayBack_77 rfl (fun hc => ?_) (fun hc => ?_)
  · replace h := (if_pos hc).symm.trans h
    exact t_Md_wayBack_92 hC  o0 hI (lv_sub hl [0, 2] rfl) h
  · replace h := (if_neg hc).symm.trans h
    refine lv_aload_n hx hb d_Md_wayBack_80 rfl (lv_at hl 0 rfl) ?_
    have p1 := wt_a hW o0 10 rfl (by decide) (by decide)
    refine w_getR (T := T_Md) S hK hI o0 rfl hin_Md 10 (index := 19) (by decide) lf_Md_19 d_Md_wayBack_81 ?_
    refine lv_iconst (v := 1) hx hb d_Md_wayBack_84 rfl ?_
    refine lv_aload_n hx hb d_Md_wayBack_85 rfl (lv_at hl 0 rfl) ?_
    have p2 := wt_a hW o0 10 rfl (by decide) (by decide)
    refine w_getR (T := T_Md) S hK hI o0 rfl hin_Md 10 (index := 19) (by decide) lf_Md_19 d_Md_wayBack_86 ?_
    refine lv_iconst (v := 0) hx hb d_Md_wayBack_89 rfl ?_
    obtain ⟨z3, h⟩ := un_if h
    refine w_iald S hK hI hT p2 z3 d_Md_wayBack_90 ?_
    obtain ⟨z4, h⟩ := un_if h
    refine w_iast S hK hI p1 z4 d_Md_wayBack_91 (fun H locs F5 e6 hI => ?_)
    replace h := un_lt h _ e6
    exact t_Md_wayBack_92 hC  o0 hI (lv_sub hl [0, 2] rfl) h
def b_Md_wayBack_56 (L : La)  (i0 : Nat) (x3 : Int32) (y0 : Int32) (F : Mem) : Option (Int32 × Mem) :=
  if x3 ≤ (2 : Int32) then
    b_Md_wayBack_75 L  i0 x3 y0 F
  else
    if inb (1 : Int32) (mGl L (mRf L i0 10)) then none else
    if inb (2 : Int32) (mLn L (mRf L i0 10)) ∨ ¬ (mRf L i0 10) < mNc L then none else
    lt' (u2 F (mRf L i0 10) (2 : Int32).toNatClampNeg (mGa L F (mRf L i0 10) (1 : Int32).toNatClampNeg)) fun F5 =>
    b_Md_wayBack_75 L  i0 x3 y0 F5
set_option maxHeartbeats 4000000 in
theorem t_Md_wayBack_56 (hC : Cx X L p s m args meth c cc_Md_wayBack 5 w_Md_wayBack R_Md (some .int))  {out : (Int32 × Mem)}  {i0 : Nat} {x3 : Int32} {y0 : Int32} {F : Mem} {H : Heap} {locs : List Loc} {ls : Array Slot} (o0 : oO L 12 i0) (hI : Iv X L s H locs F) (hl : lv_has ls 5 [(0, .ref (mAd X i0)), (3, .int x3)]) (h : b_Md_wayBack_56 L  i0 x3 y0 F = some out) : W p l e (headSpec w_Md_wayBack r_Md_wayBack).room s m args below meth c H locs 0 0 (MQ below (QI X L out) args s 0 0 (AA X L)) (F0 m 56 ls [.int y0]) := by
  unfold b_Md_wayBack_56 at h
  obtain ⟨S, hK, hT, hW, hr, hlk⟩ := id hC
  have hx := S.1
  have hb := S.2.1
  refine lv_istore (lv' := [(4, .int y0), (0, .ref (mAd X i0)), (3, .int x3)]) hx hb d_Md_wayBack_56 hl (by decide) rfl (fun ls hl => ?_)
  refine lv_iload_n hx hb d_Md_wayBack_58 rfl (lv_at hl 2 rfl) ?_
  refine lv_iconst (v := 2) hx hb d_Md_wayBack_59 rfl ?_
  refine lv_icmp_le (tgt := 75) hx hb d_Md_wayBack_60 rfl (fun hc => ?_) (fun hc => ?_)
  · replace h := (if_pos hc).symm.trans h
    exact t_Md_wayBack_75 hC  o0 hI (lv_sub hl [1, 2, 0] rfl) h
  · replace h := (if_neg hc).symm.trans h
    refine lv_aload_n hx hb d_Md_wayBack_63 rfl (lv_at hl 1 rfl) ?_
    have p1 := wt_a hW o0 10 rfl (by decide) (by decide)
    refine w_getR (T := T_Md) S hK hI o0 rfl hin_Md 10 (index := 19) (by decide) lf_Md_19 d_Md_wayBack_64 ?_
    refine lv_iconst (v := 2) hx hb d_Md_wayBack_67 rfl ?_
    refine lv_aload_n hx hb d_Md_wayBack_68 rfl (lv_at hl 1 rfl) ?_
    have p2 := wt_a hW o0 10 rfl (by decide) (by decide)
    refine w_getR (T := T_Md) S hK hI o0 rfl hin_Md 10 (index := 19) (by decide) lf_Md_19 d_Md_wayBack_69 ?_
    refine lv_iconst (v := 1) hx hb d_Md_wayBack_72 rfl ?_
    obtain ⟨z3, h⟩ := un_if h
    refine w_iald S hK hI hT p2 z3 d_Md_wayBack_73 ?_
    obtain ⟨z4, h⟩ := un_if h
    refine w_iast S hK hI p1 z4 d_Md_wayBack_74 (fun H locs F5 e6 hI => ?_)
    replace h := un_lt h _ e6
    exact t_Md_wayBack_75 hC  o0 hI (lv_sub hl [1, 2, 0] rfl) h
def b_Md_wayBack_20 (L : La)  (i0 : Nat) (x1 : Int32) (y0 : Int32) (F : Mem) : Option (Int32 × Mem) :=
  if y0 = (5 : Int32) then
    b_Md_wayBack_56 L  i0 y0 (x1 - (3 : Int32)) F
  else
    if y0 = (4 : Int32) then
      if inb (0 : Int32) (mGl L (mRf L i0 10)) then none else
      b_Md_wayBack_56 L  i0 y0 ((mGa L F (mRf L i0 10) (0 : Int32).toNatClampNeg) - (1 : Int32)) F
    else
      if inb (y0 - (1 : Int32)) (mGl L (mRf L i0 10)) then none else
      b_Md_wayBack_56 L  i0 y0 (mGa L F (mRf L i0 10) (y0 - (1 : Int32)).toNatClampNeg) F
set_option maxHeartbeats 4000000 in
theorem t_Md_wayBack_20 (hC : Cx X L p s m args meth c cc_Md_wayBack 5 w_Md_wayBack R_Md (some .int))  {out : (Int32 × Mem)}  {i0 : Nat} {x1 : Int32} {y0 : Int32} {F : Mem} {H : Heap} {locs : List Loc} {ls : Array Slot} (o0 : oO L 12 i0) (hI : Iv X L s H locs F) (hl : lv_has ls 5 [(0, .ref (mAd X i0)), (1, .int x1)]) (h : b_Md_wayBack_20 L  i0 x1 y0 F = some out) : W p l e (headSpec w_Md_wayBack r_Md_wayBack).room s m args below meth c H locs 0 0 (MQ below (QI X L out) args s 0 0 (AA X L)) (F0 m 20 ls [.int y0]) := by
  unfold b_Md_wayBack_20 at h
  obtain ⟨S, hK, hT, hW, hr, hlk⟩ := id hC
  have hx := S.1
  have hb := S.2.1
  refine lv_istore_n (lv' := [(3, .int y0), (0, .ref (mAd X i0)), (1, .int x1)]) hx hb d_Md_wayBack_20 rfl hl (by decide) rfl (fun ls hl => ?_)
  refine lv_iload_n hx hb d_Md_wayBack_21 rfl (lv_at hl 0 rfl) ?_
  refine lv_iconst (v := 5) hx hb d_Md_wayBack_22 rfl ?_
  refine lv_icmp_ne (tgt := 32) hx hb d_Md_wayBack_23 rfl (fun hc => ?_) (fun hc => ?_)
  · replace h := (if_neg hc).symm.trans h
    refine lv_iload_n hx hb d_Md_wayBack_32 rfl (lv_at hl 0 rfl) ?_
    refine lv_iconst (v := 4) hx hb d_Md_wayBack_33 rfl ?_
    refine lv_icmp_ne (tgt := 48) hx hb d_Md_wayBack_34 rfl (fun hc => ?_) (fun hc => ?_)
    · replace h := (if_neg hc).symm.trans h
      refine lv_aload_n hx hb d_Md_wayBack_48 rfl (lv_at hl 1 rfl) ?_
      have p1 := wt_a hW o0 10 rfl (by decide) (by decide)
      refine w_getR (T := T_Md) S hK hI o0 rfl hin_Md 10 (index := 19) (by decide) lf_Md_19 d_Md_wayBack_49 ?_
      refine lv_iload_n hx hb d_Md_wayBack_52 rfl (lv_at hl 0 rfl) ?_
      refine lv_iconst (v := 1) hx hb d_Md_wayBack_53 rfl ?_
      refine lv_isub hx hb d_Md_wayBack_54 ?_
      obtain ⟨z2, h⟩ := un_if h
      refine w_iald S hK hI hT p1 z2 d_Md_wayBack_55 ?_
      exact t_Md_wayBack_56 hC  o0 hI (lv_sub hl [1, 0] rfl) h
    · replace h := (if_pos hc).symm.trans h
      refine lv_aload_n hx hb d_Md_wayBack_37 rfl (lv_at hl 1 rfl) ?_
      have p3 := wt_a hW o0 10 rfl (by decide) (by decide)
      refine w_getR (T := T_Md) S hK hI o0 rfl hin_Md 10 (index := 19) (by decide) lf_Md_19 d_Md_wayBack_38 ?_
      refine lv_iconst (v := 0) hx hb d_Md_wayBack_41 rfl ?_
      obtain ⟨z4, h⟩ := un_if h
      refine w_iald S hK hI hT p3 z4 d_Md_wayBack_42 ?_
      refine lv_iconst (v := 1) hx hb d_Md_wayBack_43 rfl ?_
      refine lv_isub hx hb d_Md_wayBack_44 ?_
      refine lv_goto (tgt := 56) hx hb d_Md_wayBack_45 rfl ?_
      exact t_Md_wayBack_56 hC  o0 hI (lv_sub hl [1, 0] rfl) h
  · replace h := (if_pos hc).symm.trans h
    refine lv_iload_n hx hb d_Md_wayBack_26 rfl (lv_at hl 2 rfl) ?_
    refine lv_iconst (v := 3) hx hb d_Md_wayBack_27 rfl ?_
    refine lv_isub hx hb d_Md_wayBack_28 ?_
    refine lv_goto (tgt := 56) hx hb d_Md_wayBack_29 rfl ?_
    exact t_Md_wayBack_56 hC  o0 hI (lv_sub hl [1, 0] rfl) h
def f_Md_wayBack (L : La) (i0 : Nat) (x1 : Int32) (x2 : Int32) (F : Mem) : Option (Int32 × Mem) :=
  if x1 ≤ (3 : Int32) then
    if x2 = 0 then
      b_Md_wayBack_20 L  i0 x1 (x1 + (1 : Int32)) F
    else
      b_Md_wayBack_20 L  i0 x1 x1 F
  else
    b_Md_wayBack_20 L  i0 x1 (5 : Int32) F
set_option maxHeartbeats 4000000 in
theorem c_Md_wayBack (l : Launch) {X : Xs} {L : La} (hW : WT L) {out : (Int32 × Mem)} {i0 : Nat} {x1 : Int32} {x2 : Int32} {F : Mem} (o0 : oO L 12 i0) (h : f_Md_wayBack L i0 x1 x2 F = some out) : Met l y_Md_wayBack w_Md_wayBack r_Md_wayBack (va_Pc [.ref (mAd X i0), .int x1, .int x2] (Pr X L F)) (QI X L out) 0 0 (AA X L) := by
  refine mk_met (by decide) rfl (Nat.le_of_ble_eq_true rfl) hW ?_
  intro p e s m args below meth c ls hC hI hl
  have hl : lv_has ls 5 [(0, .ref (mAd X i0)), (1, .int x1), (2, .int x2)] := hl
  generalize hHe : s.heap = H at hI ⊢
  generalize ([] : List Loc) = locs at hI ⊢
  unfold f_Md_wayBack at h
  obtain ⟨S, hK, hT, hW, hr, hlk⟩ := id hC
  have hx := S.1
  have hb := S.2.1
  refine lv_iload_n hx hb d_Md_wayBack_0 rfl (lv_at hl 1 rfl) ?_
  refine lv_iconst (v := 3) hx hb d_Md_wayBack_1 rfl ?_
  refine lv_icmp_le (tgt := 9) hx hb d_Md_wayBack_2 rfl (fun hc => ?_) (fun hc => ?_)
  · replace h := (if_pos hc).symm.trans h
    refine lv_iload_n hx hb d_Md_wayBack_9 rfl (lv_at hl 2 rfl) ?_
    refine lv_if_ne (tgt := 19) hx hb d_Md_wayBack_10 rfl (fun hc => ?_) (fun hc => ?_)
    · replace h := (if_neg hc).symm.trans h
      refine lv_iload_n hx hb d_Md_wayBack_19 rfl (lv_at hl 1 rfl) ?_
      exact t_Md_wayBack_20 hC  o0 hI (lv_sub hl [0, 1] rfl) h
    · replace h := (if_pos hc).symm.trans h
      refine lv_iload_n hx hb d_Md_wayBack_13 rfl (lv_at hl 1 rfl) ?_
      refine lv_iconst (v := 1) hx hb d_Md_wayBack_14 rfl ?_
      refine lv_iadd hx hb d_Md_wayBack_15 ?_
      refine lv_goto (tgt := 20) hx hb d_Md_wayBack_16 rfl ?_
      exact t_Md_wayBack_20 hC  o0 hI (lv_sub hl [0, 1] rfl) h
  · replace h := (if_neg hc).symm.trans h
    refine lv_iconst (v := 5) hx hb d_Md_wayBack_5 rfl ?_
    refine lv_goto (tgt := 20) hx hb d_Md_wayBack_6 rfl ?_
    exact t_Md_wayBack_20 hC  o0 hI (lv_sub hl [0, 1] rfl) h
end
theorem d_Md_perform_0 : decode cc_Md_perform 0 = .ok (.iconst 0, 1) := by decide +kernel
theorem d_Md_perform_1 : decode cc_Md_perform 1 = .ok (.istore_n 1, 1) := by decide +kernel
theorem d_Md_perform_2 : decode cc_Md_perform 2 = .ok (.iconst 0, 1) := by decide +kernel
theorem d_Md_perform_3 : decode cc_Md_perform 3 = .ok (.istore_n 2, 1) := by decide +kernel
theorem d_Md_perform_4 : decode cc_Md_perform 4 = .ok (.iload_n 2, 1) := by decide +kernel
theorem d_Md_perform_5 : decode cc_Md_perform 5 = .ok (.aload_n 0, 1) := by decide +kernel
theorem d_Md_perform_6 : decode cc_Md_perform 6 = .ok (.getfield 178, 3) := by decide +kernel
theorem d_Md_perform_9 : decode cc_Md_perform 9 = .ok (.if_icmp .ge (182), 3) := by decide +kernel
theorem d_Md_perform_12 : decode cc_Md_perform 12 = .ok (.aload_n 0, 1) := by decide +kernel
theorem d_Md_perform_13 : decode cc_Md_perform 13 = .ok (.getfield 102, 3) := by decide +kernel
theorem d_Md_perform_16 : decode cc_Md_perform 16 = .ok (.ifCond .ne (175), 3) := by decide +kernel
theorem d_Md_perform_19 : decode cc_Md_perform 19 = .ok (.aload_n 0, 1) := by decide +kernel
theorem d_Md_perform_20 : decode cc_Md_perform 20 = .ok (.iload_n 1, 1) := by decide +kernel
theorem d_Md_perform_21 : decode cc_Md_perform 21 = .ok (.aload_n 0, 1) := by decide +kernel
theorem d_Md_perform_22 : decode cc_Md_perform 22 = .ok (.getfield 53, 3) := by decide +kernel
theorem d_Md_perform_25 : decode cc_Md_perform 25 = .ok (.iload_n 2, 1) := by decide +kernel
theorem d_Md_perform_26 : decode cc_Md_perform 26 = .ok (.iaload, 1) := by decide +kernel
theorem d_Md_perform_27 : decode cc_Md_perform 27 = .ok (.iadd, 1) := by decide +kernel
theorem d_Md_perform_28 : decode cc_Md_perform 28 = .ok (.aload_n 0, 1) := by decide +kernel
theorem d_Md_perform_29 : decode cc_Md_perform 29 = .ok (.getfield 150, 3) := by decide +kernel
theorem d_Md_perform_32 : decode cc_Md_perform 32 = .ok (.if_icmp .le (7), 3) := by decide +kernel
theorem d_Md_perform_35 : decode cc_Md_perform 35 = .ok (.iconst 1, 1) := by decide +kernel
theorem d_Md_perform_36 : decode cc_Md_perform 36 = .ok (.goto (4), 3) := by decide +kernel
theorem d_Md_perform_39 : decode cc_Md_perform 39 = .ok (.iconst 0, 1) := by decide +kernel
theorem d_Md_perform_40 : decode cc_Md_perform 40 = .ok (.putfield 102, 3) := by decide +kernel
theorem d_Md_perform_43 : decode cc_Md_perform 43 = .ok (.iconst 0, 1) := by decide +kernel
theorem d_Md_perform_44 : decode cc_Md_perform 44 = .ok (.istore_n 3, 1) := by decide +kernel
theorem d_Md_perform_45 : decode cc_Md_perform 45 = .ok (.iload_n 3, 1) := by decide +kernel
theorem d_Md_perform_46 : decode cc_Md_perform 46 = .ok (.aload_n 0, 1) := by decide +kernel
theorem d_Md_perform_47 : decode cc_Md_perform 47 = .ok (.getfield 53, 3) := by decide +kernel
theorem d_Md_perform_50 : decode cc_Md_perform 50 = .ok (.iload_n 2, 1) := by decide +kernel
theorem d_Md_perform_51 : decode cc_Md_perform 51 = .ok (.iaload, 1) := by decide +kernel
theorem d_Md_perform_52 : decode cc_Md_perform 52 = .ok (.if_icmp .ge (29), 3) := by decide +kernel
theorem d_Md_perform_55 : decode cc_Md_perform 55 = .ok (.aload_n 0, 1) := by decide +kernel
theorem d_Md_perform_56 : decode cc_Md_perform 56 = .ok (.getfield 102, 3) := by decide +kernel
theorem d_Md_perform_59 : decode cc_Md_perform 59 = .ok (.ifCond .ne (22), 3) := by decide +kernel
theorem d_Md_perform_62 : decode cc_Md_perform 62 = .ok (.aload_n 0, 1) := by decide +kernel
theorem d_Md_perform_63 : decode cc_Md_perform 63 = .ok (.aload_n 0, 1) := by decide +kernel
theorem d_Md_perform_64 : decode cc_Md_perform 64 = .ok (.getfield 22, 3) := by decide +kernel
theorem d_Md_perform_67 : decode cc_Md_perform 67 = .ok (.iload_n 1, 1) := by decide +kernel
theorem d_Md_perform_68 : decode cc_Md_perform 68 = .ok (.iaload, 1) := by decide +kernel
theorem d_Md_perform_69 : decode cc_Md_perform 69 = .ok (.invokevirtual 138, 3) := by decide +kernel
theorem d_Md_perform_72 : decode cc_Md_perform 72 = .ok (.iinc 1 (1), 3) := by decide +kernel
theorem d_Md_perform_75 : decode cc_Md_perform 75 = .ok (.iinc 3 (1), 3) := by decide +kernel
theorem d_Md_perform_78 : decode cc_Md_perform 78 = .ok (.goto (-33), 3) := by decide +kernel
theorem d_Md_perform_81 : decode cc_Md_perform 81 = .ok (.aload_n 0, 1) := by decide +kernel
theorem d_Md_perform_82 : decode cc_Md_perform 82 = .ok (.getfield 102, 3) := by decide +kernel
theorem d_Md_perform_85 : decode cc_Md_perform 85 = .ok (.ifCond .eq (7), 3) := by decide +kernel
theorem d_Md_perform_88 : decode cc_Md_perform 88 = .ok (.iconst 1, 1) := by decide +kernel
theorem d_Md_perform_89 : decode cc_Md_perform 89 = .ok (.goto (19), 3) := by decide +kernel
theorem d_Md_perform_92 : decode cc_Md_perform 92 = .ok (.aload_n 0, 1) := by decide +kernel
theorem d_Md_perform_93 : decode cc_Md_perform 93 = .ok (.aload_n 0, 1) := by decide +kernel
theorem d_Md_perform_94 : decode cc_Md_perform 94 = .ok (.getfield 56, 3) := by decide +kernel
theorem d_Md_perform_97 : decode cc_Md_perform 97 = .ok (.iload_n 2, 1) := by decide +kernel
theorem d_Md_perform_98 : decode cc_Md_perform 98 = .ok (.iaload, 1) := by decide +kernel
theorem d_Md_perform_99 : decode cc_Md_perform 99 = .ok (.aload_n 0, 1) := by decide +kernel
theorem d_Md_perform_100 : decode cc_Md_perform 100 = .ok (.getfield 53, 3) := by decide +kernel
theorem d_Md_perform_103 : decode cc_Md_perform 103 = .ok (.iload_n 2, 1) := by decide +kernel
theorem d_Md_perform_104 : decode cc_Md_perform 104 = .ok (.iaload, 1) := by decide +kernel
theorem d_Md_perform_105 : decode cc_Md_perform 105 = .ok (.invokevirtual 206, 3) := by decide +kernel
theorem d_Md_perform_108 : decode cc_Md_perform 108 = .ok (.istore_n 3, 1) := by decide +kernel
theorem d_Md_perform_109 : decode cc_Md_perform 109 = .ok (.aload_n 0, 1) := by decide +kernel
theorem d_Md_perform_110 : decode cc_Md_perform 110 = .ok (.aload_n 0, 1) := by decide +kernel
theorem d_Md_perform_111 : decode cc_Md_perform 111 = .ok (.getfield 102, 3) := by decide +kernel
theorem d_Md_perform_114 : decode cc_Md_perform 114 = .ok (.ifCond .ne (21), 3) := by decide +kernel
theorem d_Md_perform_117 : decode cc_Md_perform 117 = .ok (.iload_n 3, 1) := by decide +kernel
theorem d_Md_perform_118 : decode cc_Md_perform 118 = .ok (.iconst 1, 1) := by decide +kernel
theorem d_Md_perform_119 : decode cc_Md_perform 119 = .ok (.if_icmp .lt (16), 3) := by decide +kernel
theorem d_Md_perform_122 : decode cc_Md_perform 122 = .ok (.iload_n 3, 1) := by decide +kernel
theorem d_Md_perform_123 : decode cc_Md_perform 123 = .ok (.aload_n 0, 1) := by decide +kernel
theorem d_Md_perform_124 : decode cc_Md_perform 124 = .ok (.getfield 106, 3) := by decide +kernel
theorem d_Md_perform_127 : decode cc_Md_perform 127 = .ok (.aload_n 0, 1) := by decide +kernel
theorem d_Md_perform_128 : decode cc_Md_perform 128 = .ok (.getfield 109, 3) := by decide +kernel
theorem d_Md_perform_131 : decode cc_Md_perform 131 = .ok (.isub, 1) := by decide +kernel
theorem d_Md_perform_132 : decode cc_Md_perform 132 = .ok (.if_icmp .le (7), 3) := by decide +kernel
theorem d_Md_perform_135 : decode cc_Md_perform 135 = .ok (.iconst 1, 1) := by decide +kernel
theorem d_Md_perform_136 : decode cc_Md_perform 136 = .ok (.goto (4), 3) := by decide +kernel
theorem d_Md_perform_139 : decode cc_Md_perform 139 = .ok (.iconst 0, 1) := by decide +kernel
theorem d_Md_perform_140 : decode cc_Md_perform 140 = .ok (.putfield 102, 3) := by decide +kernel
theorem d_Md_perform_143 : decode cc_Md_perform 143 = .ok (.iconst 0, 1) := by decide +kernel
theorem d_Md_perform_144 : decode cc_Md_perform 144 = .ok (.istore 4, 2) := by decide +kernel
theorem d_Md_perform_146 : decode cc_Md_perform 146 = .ok (.iload 4, 2) := by decide +kernel
theorem d_Md_perform_148 : decode cc_Md_perform 148 = .ok (.aload_n 0, 1) := by decide +kernel
theorem d_Md_perform_149 : decode cc_Md_perform 149 = .ok (.getfield 59, 3) := by decide +kernel
theorem d_Md_perform_152 : decode cc_Md_perform 152 = .ok (.iload_n 2, 1) := by decide +kernel
theorem d_Md_perform_153 : decode cc_Md_perform 153 = .ok (.iaload, 1) := by decide +kernel
theorem d_Md_perform_154 : decode cc_Md_perform 154 = .ok (.if_icmp .ge (31), 3) := by decide +kernel
theorem d_Md_perform_157 : decode cc_Md_perform 157 = .ok (.aload_n 0, 1) := by decide +kernel
theorem d_Md_perform_158 : decode cc_Md_perform 158 = .ok (.getfield 102, 3) := by decide +kernel
theorem d_Md_perform_161 : decode cc_Md_perform 161 = .ok (.ifCond .ne (24), 3) := by decide +kernel
theorem d_Md_perform_164 : decode cc_Md_perform 164 = .ok (.aload_n 0, 1) := by decide +kernel
theorem d_Md_perform_165 : decode cc_Md_perform 165 = .ok (.aload_n 0, 1) := by decide +kernel
theorem d_Md_perform_166 : decode cc_Md_perform 166 = .ok (.getfield 16, 3) := by decide +kernel
theorem d_Md_perform_169 : decode cc_Md_perform 169 = .ok (.aload_n 0, 1) := by decide +kernel
theorem d_Md_perform_170 : decode cc_Md_perform 170 = .ok (.getfield 106, 3) := by decide +kernel
theorem d_Md_perform_173 : decode cc_Md_perform 173 = .ok (.iload_n 3, 1) := by decide +kernel
theorem d_Md_perform_174 : decode cc_Md_perform 174 = .ok (.isub, 1) := by decide +kernel
theorem d_Md_perform_175 : decode cc_Md_perform 175 = .ok (.iaload, 1) := by decide +kernel
theorem d_Md_perform_176 : decode cc_Md_perform 176 = .ok (.invokevirtual 138, 3) := by decide +kernel
theorem d_Md_perform_179 : decode cc_Md_perform 179 = .ok (.iinc 4 (1), 3) := by decide +kernel
theorem d_Md_perform_182 : decode cc_Md_perform 182 = .ok (.goto (-36), 3) := by decide +kernel
theorem d_Md_perform_185 : decode cc_Md_perform 185 = .ok (.iinc 2 (1), 3) := by decide +kernel
theorem d_Md_perform_188 : decode cc_Md_perform 188 = .ok (.goto (-184), 3) := by decide +kernel
theorem d_Md_perform_191 : decode cc_Md_perform 191 = .ok (.iload_n 1, 1) := by decide +kernel
theorem d_Md_perform_192 : decode cc_Md_perform 192 = .ok (.aload_n 0, 1) := by decide +kernel
theorem d_Md_perform_193 : decode cc_Md_perform 193 = .ok (.getfield 150, 3) := by decide +kernel
theorem d_Md_perform_196 : decode cc_Md_perform 196 = .ok (.if_icmp .ge (26), 3) := by decide +kernel
theorem d_Md_perform_199 : decode cc_Md_perform 199 = .ok (.aload_n 0, 1) := by decide +kernel
theorem d_Md_perform_200 : decode cc_Md_perform 200 = .ok (.getfield 102, 3) := by decide +kernel
theorem d_Md_perform_203 : decode cc_Md_perform 203 = .ok (.ifCond .ne (19), 3) := by decide +kernel
theorem d_Md_perform_206 : decode cc_Md_perform 206 = .ok (.aload_n 0, 1) := by decide +kernel
theorem d_Md_perform_207 : decode cc_Md_perform 207 = .ok (.aload_n 0, 1) := by decide +kernel
theorem d_Md_perform_208 : decode cc_Md_perform 208 = .ok (.getfield 22, 3) := by decide +kernel
theorem d_Md_perform_211 : decode cc_Md_perform 211 = .ok (.iload_n 1, 1) := by decide +kernel
theorem d_Md_perform_212 : decode cc_Md_perform 212 = .ok (.iaload, 1) := by decide +kernel
theorem d_Md_perform_213 : decode cc_Md_perform 213 = .ok (.invokevirtual 138, 3) := by decide +kernel
theorem d_Md_perform_216 : decode cc_Md_perform 216 = .ok (.iinc 1 (1), 3) := by decide +kernel
theorem d_Md_perform_219 : decode cc_Md_perform 219 = .ok (.goto (-28), 3) := by decide +kernel
theorem d_Md_perform_222 : decode cc_Md_perform 222 = .ok (.return_, 1) := by decide +kernel
section
variable {p : Program} {l : Launch} {e : Env} {s : State} {m : MethodId} {args : Array Value} {below : List Frame} {meth : Method} {c : Code} {X : Xs} {L : La}
def b_Md_perform_222 (L : La)   (F : Mem) : Option Mem :=
  some F
set_option maxHeartbeats 4000000 in
theorem t_Md_perform_222 (hC : Cx X L p s m args meth c cc_Md_perform 5 w_Md_perform R_Md none)  {out : Mem}   {F : Mem} {H : Heap} {locs : List Loc} {ls : Array Slot}  (hI : Iv X L s H locs F) (hl : lv_has ls 5 []) (h : b_Md_perform_222 L   F = some out) : W p l e (headSpec w_Md_perform r_Md_perform).room s m args below meth c H locs 0 0 (MQ below (QV X L out) args s 0 0 (AA X L)) (F0 m 222 ls []) := by
  unfold b_Md_perform_222 at h
  obtain ⟨S, hK, hT, hW, hr, hlk⟩ := id hC
  have hx := S.1
  have hb := S.2.1
  exact w_vret S hK hr hlk hI d_Md_perform_222 h
def b_Md_perform_191 (L : La) (k191 : Nat → Int32 → Mem → Option Mem) (i0 : Nat) (x1 : Int32) (F : Mem) : Option Mem :=
  if (F i0 13) ≤ x1 then
    b_Md_perform_222 L   F
  else
    if (F i0 5) = 0 then
      if inb x1 (mGl L (mRf L i0 14)) then none else
      (f_Md_emit L i0 (mGa L F (mRf L i0 14) x1.toNatClampNeg) F).bind fun F3 =>
      k191 i0 (x1 + (1 : Int32)) F3
    else
      b_Md_perform_222 L   F
set_option maxHeartbeats 4000000 in
theorem t_Md_perform_191 (hC : Cx X L p s m args meth c cc_Md_perform 5 w_Md_perform R_Md none) {k191 : Nat → Int32 → Mem → Option Mem} {out : Mem} (hk191 : ∀ (i0 : Nat) (x1 : Int32) (F : Mem) (H : Heap) (locs : List Loc) (ls : Array Slot), oO L 12 i0 → Iv X L s H locs F → lv_has ls 5 [(0, .ref (mAd X i0)), (1, .int x1)] → k191 i0 x1 F = some out → W p l e (headSpec w_Md_perform r_Md_perform).room s m args below meth c H locs 0 0 (MQ below (QV X L out) args s 0 0 (AA X L)) (F0 m 191 ls [])) {i0 : Nat} {x1 : Int32} {F : Mem} {H : Heap} {locs : List Loc} {ls : Array Slot} (o0 : oO L 12 i0) (hI : Iv X L s H locs F) (hl : lv_has ls 5 [(0, .ref (mAd X i0)), (1, .int x1)]) (h : b_Md_perform_191 L k191 i0 x1 F = some out) : W p l e (headSpec w_Md_perform r_Md_perform).room s m args below meth c H locs 0 0 (MQ below (QV X L out) args s 0 0 (AA X L)) (F0 m 191 ls []) := by
  unfold b_Md_perform_191 at h
  obtain ⟨S, hK, hT, hW, hr, hlk⟩ := id hC
  have hx := S.1
  have hb := S.2.1
  refine lv_iload_n hx hb d_Md_perform_191 rfl (lv_at hl 1 rfl) ?_
  refine lv_aload_n hx hb d_Md_perform_192 rfl (lv_at hl 0 rfl) ?_
  refine w_getI (T := T_Md) S hK hI o0 rfl hin_Md 13 (index := 150) (by decide) lf_Md_150 d_Md_perform_193 ?_
  refine lv_icmp_ge (tgt := 222) hx hb d_Md_perform_196 rfl (fun hc => ?_) (fun hc => ?_)
  · replace h := (if_pos hc).symm.trans h
    exact t_Md_perform_222 hC   hI (lv_sub hl [] rfl) h
  · replace h := (if_neg hc).symm.trans h
    refine lv_aload_n hx hb d_Md_perform_199 rfl (lv_at hl 0 rfl) ?_
    refine w_getI (T := T_Md) S hK hI o0 rfl hin_Md 5 (index := 102) (by decide) lf_Md_102 d_Md_perform_200 ?_
    refine lv_if_ne (tgt := 222) hx hb d_Md_perform_203 rfl (fun hc => ?_) (fun hc => ?_)
    · replace h := (if_neg hc).symm.trans h
      exact t_Md_perform_222 hC   hI (lv_sub hl [] rfl) h
    · replace h := (if_pos hc).symm.trans h
      refine lv_aload_n hx hb d_Md_perform_206 rfl (lv_at hl 0 rfl) ?_
      refine lv_aload_n hx hb d_Md_perform_207 rfl (lv_at hl 0 rfl) ?_
      have p1 := wt_a hW o0 14 rfl (by decide) (by decide)
      refine w_getR (T := T_Md) S hK hI o0 rfl hin_Md 14 (index := 22) (by decide) lf_Md_22 d_Md_perform_208 ?_
      refine lv_iload_n hx hb d_Md_perform_211 rfl (lv_at hl 1 rfl) ?_
      obtain ⟨z2, h⟩ := un_if h
      refine w_iald S hK hI hT p1 z2 d_Md_perform_212 ?_
      obtain ⟨F3, e4, h⟩ := un_bi h
      refine w_callVv (As := [.int (mGa L F (mRf L i0 14) x1.toNatClampNeg)]) (rest := []) S hK hI hT (c_Md_emit l hW o0 e4) (cwV 1 S.2.2.2.2 (gd_V lc_Md_emit lm_Md_138 li_Md_emit ls_Md_emit ln_Md) rfl rfl rfl hd_Md_emit ⟨Nat.le_of_ble_eq_true rfl, Nat.le_of_ble_eq_true rfl⟩) o0 rfl (by decide) rfl rfl hl.1 (Nat.le_of_ble_eq_true rfl) d_Md_perform_213 ⟨Nat.zero_le _, Nat.zero_le _⟩ (fun H locs hI => ?_)
      refine lv_iinc (k := 1) (v := x1 + (1 : Int32)) (lv' := [(1, .int (x1 + (1 : Int32))), (0, .ref (mAd X i0))]) hx hb d_Md_perform_216 hl rfl rfl (by decide) rfl (fun ls hl => ?_)
      refine lv_goto (tgt := 191) hx hb d_Md_perform_219 rfl ?_
      exact hk191 _ _ _ _ _ _ o0 hI (lv_sub hl [1, 0] rfl) h
def f_Md_perform_191 (L : La)  : Nat → Nat → Int32 → Mem → Option Mem
  | 0 => fun _ _ _ => none
  | n + 1 => b_Md_perform_191 L (f_Md_perform_191 L  n)
theorem tf_Md_perform_191 (hC : Cx X L p s m args meth c cc_Md_perform 5 w_Md_perform R_Md none)  {out : Mem}  (n : Nat) : ∀ (i0 : Nat) (x1 : Int32) (F : Mem) (H : Heap) (locs : List Loc) (ls : Array Slot), oO L 12 i0 → Iv X L s H locs F → lv_has ls 5 [(0, .ref (mAd X i0)), (1, .int x1)] → f_Md_perform_191 L  n i0 x1 F = some out → W p l e (headSpec w_Md_perform r_Md_perform).room s m args below meth c H locs 0 0 (MQ below (QV X L out) args s 0 0 (AA X L)) (F0 m 191 ls []) := by
  induction n with
  | zero => intro i0 x1 F H locs ls o0 hI hl h; cases h
  | succ n ih => intro i0 x1 F H locs ls o0 hI hl h; exact t_Md_perform_191 hC ih o0 hI hl h
def b_Md_perform_185 (L : La) (k4 : Nat → Int32 → Int32 → Mem → Option Mem) (i0 : Nat) (x1 : Int32) (x2 : Int32) (F : Mem) : Option Mem :=
  k4 i0 x1 (x2 + (1 : Int32)) F
set_option maxHeartbeats 4000000 in
theorem t_Md_perform_185 (hC : Cx X L p s m args meth c cc_Md_perform 5 w_Md_perform R_Md none) {k4 : Nat → Int32 → Int32 → Mem → Option Mem} {out : Mem} (hk4 : ∀ (i0 : Nat) (x1 : Int32) (x2 : Int32) (F : Mem) (H : Heap) (locs : List Loc) (ls : Array Slot), oO L 12 i0 → Iv X L s H locs F → lv_has ls 5 [(0, .ref (mAd X i0)), (1, .int x1), (2, .int x2)] → k4 i0 x1 x2 F = some out → W p l e (headSpec w_Md_perform r_Md_perform).room s m args below meth c H locs 0 0 (MQ below (QV X L out) args s 0 0 (AA X L)) (F0 m 4 ls [])) {i0 : Nat} {x1 : Int32} {x2 : Int32} {F : Mem} {H : Heap} {locs : List Loc} {ls : Array Slot} (o0 : oO L 12 i0) (hI : Iv X L s H locs F) (hl : lv_has ls 5 [(0, .ref (mAd X i0)), (1, .int x1), (2, .int x2)]) (h : b_Md_perform_185 L k4 i0 x1 x2 F = some out) : W p l e (headSpec w_Md_perform r_Md_perform).room s m args below meth c H locs 0 0 (MQ below (QV X L out) args s 0 0 (AA X L)) (F0 m 185 ls []) := by
  unfold b_Md_perform_185 at h
  obtain ⟨S, hK, hT, hW, hr, hlk⟩ := id hC
  have hx := S.1
  have hb := S.2.1
  refine lv_iinc (k := 2) (v := x2 + (1 : Int32)) (lv' := [(2, .int (x2 + (1 : Int32))), (0, .ref (mAd X i0)), (1, .int x1)]) hx hb d_Md_perform_185 hl rfl rfl (by decide) rfl (fun ls hl => ?_)
  refine lv_goto (tgt := 4) hx hb d_Md_perform_188 rfl ?_
  exact hk4 _ _ _ _ _ _ _ o0 hI (lv_sub hl [1, 2, 0] rfl) h
def b_Md_perform_146 (L : La) (k4 : Nat → Int32 → Int32 → Mem → Option Mem) (k146 : Nat → Int32 → Int32 → Int32 → Int32 → Mem → Option Mem) (i0 : Nat) (x1 : Int32) (x2 : Int32) (x3 : Int32) (x4 : Int32) (F : Mem) : Option Mem :=
  if inb x2 (mGl L (mRf L i0 31)) then none else
  if (mGa L F (mRf L i0 31) x2.toNatClampNeg) ≤ x4 then
    b_Md_perform_185 L k4 i0 x1 x2 F
  else
    if (F i0 5) = 0 then
      if inb ((F i0 6) - x3) (mGl L (mRf L i0 7)) then none else
      (f_Md_emit L i0 (mGa L F (mRf L i0 7) ((F i0 6) - x3).toNatClampNeg) F).bind fun F5 =>
      k146 i0 x1 x2 x3 (x4 + (1 : Int32)) F5
    else
      b_Md_perform_185 L k4 i0 x1 x2 F
set_option maxHeartbeats 4000000 in
theorem t_Md_perform_146 (hC : Cx X L p s m args meth c cc_Md_perform 5 w_Md_perform R_Md none) {k4 : Nat → Int32 → Int32 → Mem → Option Mem} {k146 : Nat → Int32 → Int32 → Int32 → Int32 → Mem → Option Mem} {out : Mem} (hk4 : ∀ (i0 : Nat) (x1 : Int32) (x2 : Int32) (F : Mem) (H : Heap) (locs : List Loc) (ls : Array Slot), oO L 12 i0 → Iv X L s H locs F → lv_has ls 5 [(0, .ref (mAd X i0)), (1, .int x1), (2, .int x2)] → k4 i0 x1 x2 F = some out → W p l e (headSpec w_Md_perform r_Md_perform).room s m args below meth c H locs 0 0 (MQ below (QV X L out) args s 0 0 (AA X L)) (F0 m 4 ls [])) (hk146 : ∀ (i0 : Nat) (x1 : Int32) (x2 : Int32) (x3 : Int32) (x4 : Int32) (F : Mem) (H : Heap) (locs : List Loc) (ls : Array Slot), oO L 12 i0 → Iv X L s H locs F → lv_has ls 5 [(0, .ref (mAd X i0)), (1, .int x1), (2, .int x2), (3, .int x3), (4, .int x4)] → k146 i0 x1 x2 x3 x4 F = some out → W p l e (headSpec w_Md_perform r_Md_perform).room s m args below meth c H locs 0 0 (MQ below (QV X L out) args s 0 0 (AA X L)) (F0 m 146 ls [])) {i0 : Nat} {x1 : Int32} {x2 : Int32} {x3 : Int32} {x4 : Int32} {F : Mem} {H : Heap} {locs : List Loc} {ls : Array Slot} (o0 : oO L 12 i0) (hI : Iv X L s H locs F) (hl : lv_has ls 5 [(0, .ref (mAd X i0)), (1, .int x1), (2, .int x2), (3, .int x3), (4, .int x4)]) (h : b_Md_perform_146 L k4 k146 i0 x1 x2 x3 x4 F = some out) : W p l e (headSpec w_Md_perform r_Md_perform).room s m args below meth c H locs 0 0 (MQ below (QV X L out) args s 0 0 (AA X L)) (F0 m 146 ls []) := by
  unfold b_Md_perform_146 at h
  obtain ⟨S, hK, hT, hW, hr, hlk⟩ := id hC
  have hx := S.1
  have hb := S.2.1
  refine lv_iload hx hb d_Md_perform_146 (lv_at hl 4 rfl) ?_
  refine lv_aload_n hx hb d_Md_perform_148 rfl (lv_at hl 0 rfl) ?_
  have p1 := wt_a hW o0 31 rfl (by decide) (by decide)
  refine w_getR (T := T_Md) S hK hI o0 rfl hin_Md 31 (index := 59) (by decide) lf_Md_59 d_Md_perform_149 ?_
  refine lv_iload_n hx hb d_Md_perform_152 rfl (lv_at hl 2 rfl) ?_
  obtain ⟨z2, h⟩ := un_if h
  refine w_iald S hK hI hT p1 z2 d_Md_perform_153 ?_
  refine lv_icmp_ge (tgt := 185) hx hb d_Md_perform_154 rfl (fun hc => ?_) (fun hc => ?_)
  · replace h := (if_pos hc).symm.trans h
    exact t_Md_perform_185 hC hk4 o0 hI (lv_sub hl [0, 1, 2] rfl) h
  · replace h := (if_neg hc).symm.trans h
    refine lv_aload_n hx hb d_Md_perform_157 rfl (lv_at hl 0 rfl) ?_
    refine w_getI (T := T_Md) S hK hI o0 rfl hin_Md 5 (index := 102) (by decide) lf_Md_102 d_Md_perform_158 ?_
    refine lv_if_ne (tgt := 185) hx hb d_Md_perform_161 rfl (fun hc => ?_) (fun hc => ?_)
    · replace h := (if_neg hc).symm.trans h
      exact t_Md_perform_185 hC hk4 o0 hI (lv_sub hl [0, 1, 2] rfl) h
    · replace h := (if_pos hc).symm.trans h
      refine lv_aload_n hx hb d_Md_perform_164 rfl (lv_at hl 0 rfl) ?_
      refine lv_aload_n hx hb d_Md_perform_165 rfl (lv_at hl 0 rfl) ?_
      have p3 := wt_a hW o0 7 rfl (by decide) (by decide)
      refine w_getR (T := T_Md) S hK hI o0 rfl hin_Md 7 (index := 16) (by decide) lf_Md_16 d_Md_perform_166 ?_
      refine lv_aload_n hx hb d_Md_perform_169 rfl (lv_at hl 0 rfl) ?_
      refine w_getI (T := T_Md) S hK hI o0 rfl hin_Md 6 (index := 106) (by decide) lf_Md_106 d_Md_perform_170 ?_
      refine lv_iload_n hx hb d_Md_perform_173 rfl (lv_at hl 3 rfl) ?_
      refine lv_isub hx hb d_Md_perform_174 ?_
      obtain ⟨z4, h⟩ := un_if h
      refine w_iald S hK hI hT p3 z4 d_Md_perform_175 ?_
      obtain ⟨F5, e6, h⟩ := un_bi h
      refine w_callVv (As := [.int (mGa L F (mRf L i0 7) ((F i0 6) - x3).toNatClampNeg)]) (rest := []) S hK hI hT (c_Md_emit l hW o0 e6) (cwV 1 S.2.2.2.2 (gd_V lc_Md_emit lm_Md_138 li_Md_emit ls_Md_emit ln_Md) rfl rfl rfl hd_Md_emit ⟨Nat.le_of_ble_eq_true rfl, Nat.le_of_ble_eq_true rfl⟩) o0 rfl (by decide) rfl rfl hl.1 (Nat.le_of_ble_eq_true rfl) d_Md_perform_176 ⟨Nat.zero_le _, Nat.zero_le _⟩ (fun H locs hI => ?_)
      refine lv_iinc (k := 4) (v := x4 + (1 : Int32)) (lv' := [(4, .int (x4 + (1 : Int32))), (0, .ref (mAd X i0)), (1, .int x1), (2, .int x2), (3, .int x3)]) hx hb d_Md_perform_179 hl rfl rfl (by decide) rfl (fun ls hl => ?_)
      refine lv_goto (tgt := 146) hx hb d_Md_perform_182 rfl ?_
      exact hk146 _ _ _ _ _ _ _ _ _ o0 hI (lv_sub hl [1, 2, 3, 4, 0] rfl) h
def f_Md_perform_146 (L : La) (k4 : Nat → Int32 → Int32 → Mem → Option Mem) : Nat → Nat → Int32 → Int32 → Int32 → Int32 → Mem → Option Mem
  | 0 => fun _ _ _ _ _ _ => none
  | n + 1 => b_Md_perform_146 L k4 (f_Md_perform_146 L k4 n)
theorem tf_Md_perform_146 (hC : Cx X L p s m args meth c cc_Md_perform 5 w_Md_perform R_Md none) {k4 : Nat → Int32 → Int32 → Mem → Option Mem} {out : Mem} (hk4 : ∀ (i0 : Nat) (x1 : Int32) (x2 : Int32) (F : Mem) (H : Heap) (locs : List Loc) (ls : Array Slot), oO L 12 i0 → Iv X L s H locs F → lv_has ls 5 [(0, .ref (mAd X i0)), (1, .int x1), (2, .int x2)] → k4 i0 x1 x2 F = some out → W p l e (headSpec w_Md_perform r_Md_perform).room s m args below meth c H locs 0 0 (MQ below (QV X L out) args s 0 0 (AA X L)) (F0 m 4 ls [])) (n : Nat) : ∀ (i0 : Nat) (x1 : Int32) (x2 : Int32) (x3 : Int32) (x4 : Int32) (F : Mem) (H : Heap) (locs : List Loc) (ls : Array Slot), oO L 12 i0 → Iv X L s H locs F → lv_has ls 5 [(0, .ref (mAd X i0)), (1, .int x1), (2, .int x2), (3, .int x3), (4, .int x4)] → f_Md_perform_146 L k4 n i0 x1 x2 x3 x4 F = some out → W p l e (headSpec w_Md_perform r_Md_perform).room s m args below meth c H locs 0 0 (MQ below (QV X L out) args s 0 0 (AA X L)) (F0 m 146 ls []) := by
  induction n with
  | zero => intro i0 x1 x2 x3 x4 F H locs ls o0 hI hl h; cases h
  | succ n ih => intro i0 x1 x2 x3 x4 F H locs ls o0 hI hl h; exact t_Md_perform_146 hC hk4 ih o0 hI hl h
def b_Md_perform_140 (L : La) (k4 : Nat → Int32 → Int32 → Mem → Option Mem) (i0 : Nat) (x1 : Int32) (x2 : Int32) (x3 : Int32) (j0 : Nat) (y1 : Int32) (F : Mem) : Option Mem :=
  if ¬ (y1 = 0 ∨ y1 = 1) then none else
  lt' (u2 F j0 5 y1) fun F1 =>
  f_Md_perform_146 L k4 mFU i0 x1 x2 x3 (0 : Int32) F1
set_option maxHeartbeats 4000000 in
theorem t_Md_perform_140 (hC : Cx X L p s m args meth c cc_Md_perform 5 w_Md_perform R_Md none) {k4 : Nat → Int32 → Int32 → Mem → Option Mem} {out : Mem} (hk4 : ∀ (i0 : Nat) (x1 : Int32) (x2 : Int32) (F : Mem) (H : Heap) (locs : List Loc) (ls : Array Slot), oO L 12 i0 → Iv X L s H locs F → lv_has ls 5 [(0, .ref (mAd X i0)), (1, .int x1), (2, .int x2)] → k4 i0 x1 x2 F = some out → W p l e (headSpec w_Md_perform r_Md_perform).room s m args below meth c H locs 0 0 (MQ below (QV X L out) args s 0 0 (AA X L)) (F0 m 4 ls [])) {i0 : Nat} {x1 : Int32} {x2 : Int32} {x3 : Int32} {j0 : Nat} {y1 : Int32} {F : Mem} {H : Heap} {locs : List Loc} {ls : Array Slot} (o0 : oO L 12 i0) (oy0 : oO L 12 j0) (hI : Iv X L s H locs F) (hl : lv_has ls 5 [(0, .ref (mAd X i0)), (1, .int x1), (2, .int x2), (3, .int x3)]) (h : b_Md_perform_140 L k4 i0 x1 x2 x3 j0 y1 F = some out) : W p l e (headSpec w_Md_perform r_Md_perform).room s m args below meth c H locs 0 0 (MQ below (QV X L out) args s 0 0 (AA X L)) (F0 m 140 ls [.int y1, .ref (mAd X j0)]) := by
  unfold b_Md_perform_140 at h
  obtain ⟨S, hK, hT, hW, hr, hlk⟩ := id hC
  have hx := S.1
  have hb := S.2.1
  obtain ⟨z3, h⟩ := un_if h
  refine w_putZ (T := T_Md) S hK hI oy0 rfl hin_Md ty_Md tk_Md nm_Md 5 (index := 102) (by decide) lf_Md_102 rfl z3 d_Md_perform_140 (fun H locs F1 e2 hI => ?_)
  replace h := un_lt h _ e2
  refine lv_iconst (v := 0) hx hb d_Md_perform_143 rfl ?_
  refine lv_istore (lv' := [(4, .int (0 : Int32)), (0, .ref (mAd X i0)), (1, .int x1), (2, .int x2), (3, .int x3)]) hx hb d_Md_perform_144 hl (by decide) rfl (fun ls hl => ?_)
  exact tf_Md_perform_146 hC hk4 mFU _ _ _ _ _ _ _ _ _ o0 hI (lv_sub hl [1, 2, 3, 4, 0] rfl) h
def b_Md_perform_135 (L : La) (k4 : Nat → Int32 → Int32 → Mem → Option Mem) (i0 : Nat) (x1 : Int32) (x2 : Int32) (x3 : Int32) (j0 : Nat) (F : Mem) : Option Mem :=
  b_Md_perform_140 L k4 i0 x1 x2 x3 j0 (1 : Int32) F
set_option maxHeartbeats 4000000 in
theorem t_Md_perform_135 (hC : Cx X L p s m args meth c cc_Md_perform 5 w_Md_perform R_Md none) {k4 : Nat → Int32 → Int32 → Mem → Option Mem} {out : Mem} (hk4 : ∀ (i0 : Nat) (x1 : Int32) (x2 : Int32) (F : Mem) (H : Heap) (locs : List Loc) (ls : Array Slot), oO L 12 i0 → Iv X L s H locs F → lv_has ls 5 [(0, .ref (mAd X i0)), (1, .int x1), (2, .int x2)] → k4 i0 x1 x2 F = some out → W p l e (headSpec w_Md_perform r_Md_perform).room s m args below meth c H locs 0 0 (MQ below (QV X L out) args s 0 0 (AA X L)) (F0 m 4 ls [])) {i0 : Nat} {x1 : Int32} {x2 : Int32} {x3 : Int32} {j0 : Nat} {F : Mem} {H : Heap} {locs : List Loc} {ls : Array Slot} (o0 : oO L 12 i0) (oy0 : oO L 12 j0) (hI : Iv X L s H locs F) (hl : lv_has ls 5 [(0, .ref (mAd X i0)), (1, .int x1), (2, .int x2), (3, .int x3)]) (h : b_Md_perform_135 L k4 i0 x1 x2 x3 j0 F = some out) : W p l e (headSpec w_Md_perform r_Md_perform).room s m args below meth c H locs 0 0 (MQ below (QV X L out) args s 0 0 (AA X L)) (F0 m 135 ls [.ref (mAd X j0)]) := by
  unfold b_Md_perform_135 at h
  obtain ⟨S, hK, hT, hW, hr, hlk⟩ := id hC
  have hx := S.1
  have hb := S.2.1
  refine lv_iconst (v := 1) hx hb d_Md_perform_135 rfl ?_
  refine lv_goto (tgt := 140) hx hb d_Md_perform_136 rfl ?_
  exact t_Md_perform_140 hC hk4 o0 oy0 hI hl h
def b_Md_perform_108 (L : La) (k4 : Nat → Int32 → Int32 → Mem → Option Mem) (i0 : Nat) (x1 : Int32) (x2 : Int32) (y0 : Int32) (F : Mem) : Option Mem :=
  if (F i0 5) = 0 then
    if y0 < (1 : Int32) then
      b_Md_perform_135 L k4 i0 x1 x2 y0 i0 F
    else
      if y0 ≤ ((F i0 6) - (F i0 8)) then
        b_Md_perform_140 L k4 i0 x1 x2 y0 i0 (0 : Int32) F
      else
        b_Md_perform_135 L k4 i0 x1 x2 y0 i0 F
  else
    b_Md_perform_135 L k4 i0 x1 x2 y0 i0 F
set_option maxHeartbeats 4000000 in
theorem t_Md_perform_108 (hC : Cx X L p s m args meth c cc_Md_perform 5 w_Md_perform R_Md none) {k4 : Nat → Int32 → Int32 → Mem → Option Mem} {out : Mem} (hk4 : ∀ (i0 : Nat) (x1 : Int32) (x2 : Int32) (F : Mem) (H : Heap) (locs : List Loc) (ls : Array Slot), oO L 12 i0 → Iv X L s H locs F → lv_has ls 5 [(0, .ref (mAd X i0)), (1, .int x1), (2, .int x2)] → k4 i0 x1 x2 F = some out → W p l e (headSpec w_Md_perform r_Md_perform).room s m args below meth c H locs 0 0 (MQ below (QV X L out) args s 0 0 (AA X L)) (F0 m 4 ls [])) {i0 : Nat} {x1 : Int32} {x2 : Int32} {y0 : Int32} {F : Mem} {H : Heap} {locs : List Loc} {ls : Array Slot} (o0 : oO L 12 i0) (hI : Iv X L s H locs F) (hl : lv_has ls 5 [(0, .ref (mAd X i0)), (1, .int x1), (2, .int x2)]) (h : b_Md_perform_108 L k4 i0 x1 x2 y0 F = some out) : W p l e (headSpec w_Md_perform r_Md_perform).room s m args below meth c H locs 0 0 (MQ below (QV X L out) args s 0 0 (AA X L)) (F0 m 108 ls [.int y0]) := by
  unfold b_Md_perform_108 at h
  obtain ⟨S, hK, hT, hW, hr, hlk⟩ := id hC
  have hx := S.1
  have hb := S.2.1
  refine lv_istore_n (lv' := [(3, .int y0), (0, .ref (mAd X i0)), (1, .int x1), (2, .int x2)]) hx hb d_Md_perform_108 rfl hl (by decide) rfl (fun ls hl => ?_)
  refine lv_aload_n hx hb d_Md_perform_109 rfl (lv_at hl 1 rfl) ?_
  refine lv_aload_n hx hb d_Md_perform_110 rfl (lv_at hl 1 rfl) ?_
  refine w_getI (T := T_Md) S hK hI o0 rfl hin_Md 5 (index := 102) (by decide) lf_Md_102 d_Md_perform_111 ?_
  refine lv_if_ne (tgt := 135) hx hb d_Md_perform_114 rfl (fun hc => ?_) (fun hc => ?_)
  · replace h := (if_neg hc).symm.trans h
    exact t_Md_perform_135 hC hk4 o0 o0 hI (lv_sub hl [1, 2, 3, 0] rfl) h
  · replace h := (if_pos hc).symm.trans h
    refine lv_iload_n hx hb d_Md_perform_117 rfl (lv_at hl 0 rfl) ?_
    refine lv_iconst (v := 1) hx hb d_Md_perform_118 rfl ?_
    refine lv_icmp_lt (tgt := 135) hx hb d_Md_perform_119 rfl (fun hc => ?_) (fun hc => ?_)
    · replace h := (if_pos hc).symm.trans h
      exact t_Md_perform_135 hC hk4 o0 o0 hI (lv_sub hl [1, 2, 3, 0] rfl) h
    · replace h := (if_neg hc).symm.trans h
      refine lv_iload_n hx hb d_Md_perform_122 rfl (lv_at hl 0 rfl) ?_
      refine lv_aload_n hx hb d_Md_perform_123 rfl (lv_at hl 1 rfl) ?_
      refine w_getI (T := T_Md) S hK hI o0 rfl hin_Md 6 (index := 106) (by decide) lf_Md_106 d_Md_perform_124 ?_
      refine lv_aload_n hx hb d_Md_perform_127 rfl (lv_at hl 1 rfl) ?_
      refine w_getI (T := T_Md) S hK hI o0 rfl hin_Md 8 (index := 109) (by decide) lf_Md_109 d_Md_perform_128 ?_
      refine lv_isub hx hb d_Md_perform_131 ?_
      refine lv_icmp_le (tgt := 139) hx hb d_Md_perform_132 rfl (fun hc => ?_) (fun hc => ?_)
      · replace h := (if_pos hc).symm.trans h
        refine lv_iconst (v := 0) hx hb d_Md_perform_139 rfl ?_
        exact t_Md_perform_140 hC hk4 o0 o0 hI (lv_sub hl [1, 2, 3, 0] rfl) h
      · replace h := (if_neg hc).symm.trans h
        exact t_Md_perform_135 hC hk4 o0 o0 hI (lv_sub hl [1, 2, 3, 0] rfl) h
def b_Md_perform_81 (L : La) (k4 : Nat → Int32 → Int32 → Mem → Option Mem) (i0 : Nat) (x1 : Int32) (x2 : Int32) (F : Mem) : Option Mem :=
  if (F i0 5) = 0 then
    if inb x2 (mGl L (mRf L i0 30)) then none else
    if inb x2 (mGl L (mRf L i0 29)) then none else
    (f_Md_wayBack L i0 (mGa L F (mRf L i0 30) x2.toNatClampNeg) (mGa L F (mRf L i0 29) x2.toNatClampNeg) F).bind fun q5 =>
    b_Md_perform_108 L k4 i0 x1 x2 q5.1 q5.2
  else
    b_Md_perform_108 L k4 i0 x1 x2 (1 : Int32) F
set_option maxHeartbeats 4000000 in
theorem t_Md_perform_81 (hC : Cx X L p s m args meth c cc_Md_perform 5 w_Md_perform R_Md none) {k4 : Nat → Int32 → Int32 → Mem → Option Mem} {out : Mem} (hk4 : ∀ (i0 : Nat) (x1 : Int32) (x2 : Int32) (F : Mem) (H : Heap) (locs : List Loc) (ls : Array Slot), oO L 12 i0 → Iv X L s H locs F → lv_has ls 5 [(0, .ref (mAd X i0)), (1, .int x1), (2, .int x2)] → k4 i0 x1 x2 F = some out → W p l e (headSpec w_Md_perform r_Md_perform).room s m args below meth c H locs 0 0 (MQ below (QV X L out) args s 0 0 (AA X L)) (F0 m 4 ls [])) {i0 : Nat} {x1 : Int32} {x2 : Int32} {F : Mem} {H : Heap} {locs : List Loc} {ls : Array Slot} (o0 : oO L 12 i0) (hI : Iv X L s H locs F) (hl : lv_has ls 5 [(0, .ref (mAd X i0)), (1, .int x1), (2, .int x2)]) (h : b_Md_perform_81 L k4 i0 x1 x2 F = some out) : W p l e (headSpec w_Md_perform r_Md_perform).room s m args below meth c H locs 0 0 (MQ below (QV X L out) args s 0 0 (AA X L)) (F0 m 81 ls []) := by
  unfold b_Md_perform_81 at h
  obtain ⟨S, hK, hT, hW, hr, hlk⟩ := id hC
  have hx := S.1
  have hb := S.2.1
  refine lv_aload_n hx hb d_Md_perform_81 rfl (lv_at hl 0 rfl) ?_
  refine w_getI (T := T_Md) S hK hI o0 rfl hin_Md 5 (index := 102) (by decide) lf_Md_102 d_Md_perform_82 ?_
  refine lv_if_eq (tgt := 92) hx hb d_Md_perform_85 rfl (fun hc => ?_) (fun hc => ?_)
  · replace h := (if_pos hc).symm.trans h
    refine lv_aload_n hx hb d_Md_perform_92 rfl (lv_at hl 0 rfl) ?_
    refine lv_aload_n hx hb d_Md_perform_93 rfl (lv_at hl 0 rfl) ?_
    have p1 := wt_a hW o0 30 rfl (by decide) (by decide)
    refine w_getR (T := T_Md) S hK hI o0 rfl hin_Md 30 (index := 56) (by decide) lf_Md_56 d_Md_perform_94 ?_
    refine lv_iload_n hx hb d_Md_perform_97 rfl (lv_at hl 2 rfl) ?_
    obtain ⟨z2, h⟩ := un_if h
    refine w_iald S hK hI hT p1 z2 d_Md_perform_98 ?_
    refine lv_aload_n hx hb d_Md_perform_99 rfl (lv_at hl 0 rfl) ?_
    have p3 := wt_a hW o0 29 rfl (by decide) (by decide)
    refine w_getR (T := T_Md) S hK hI o0 rfl hin_Md 29 (index := 53) (by decide) lf_Md_53 d_Md_perform_100 ?_
    refine lv_iload_n hx hb d_Md_perform_103 rfl (lv_at hl 2 rfl) ?_
    obtain ⟨z4, h⟩ := un_if h
    refine w_iald S hK hI hT p3 z4 d_Md_perform_104 ?_
    obtain ⟨q5, e6, h⟩ := un_bi h
    refine w_callVi (As := [.int (mGa L F (mRf L i0 30) x2.toNatClampNeg), .int (mGa L F (mRf L i0 29) x2.toNatClampNeg)]) (rest := []) S hK hI hT (c_Md_wayBack l hW o0 e6) (cwV 2 S.2.2.2.2 (gd_V lc_Md_wayBack lm_Md_206 li_Md_wayBack ls_Md_wayBack ln_Md) rfl rfl rfl hd_Md_wayBack ⟨Nat.le_of_ble_eq_true rfl, Nat.le_of_ble_eq_true rfl⟩) o0 rfl (by decide) rfl rfl hl.1 (Nat.le_of_ble_eq_true rfl) d_Md_perform_105 ⟨Nat.zero_le _, Nat.zero_le _⟩ (fun H locs hI => ?_)
    exact t_Md_perform_108 hC hk4 o0 hI hl h
  · replace h := (if_neg hc).symm.trans h
    refine lv_iconst (v := 1) hx hb d_Md_perform_88 rfl ?_
    refine lv_goto (tgt := 108) hx hb d_Md_perform_89 rfl ?_
    exact t_Md_perform_108 hC hk4 o0 hI hl h
def b_Md_perform_45 (L : La) (k4 : Nat → Int32 → Int32 → Mem → Option Mem) (k45 : Nat → Int32 → Int32 → Int32 → Mem → Option Mem) (i0 : Nat) (x1 : Int32) (x2 : Int32) (x3 : Int32) (F : Mem) : Option Mem :=
  if inb x2 (mGl L (mRf L i0 29)) then none else
  if (mGa L F (mRf L i0 29) x2.toNatClampNeg) ≤ x3 then
    b_Md_perform_81 L k4 i0 x1 x2 F
  else
    if (F i0 5) = 0 then
      if inb x1 (mGl L (mRf L i0 14)) then none else
      (f_Md_emit L i0 (mGa L F (mRf L i0 14) x1.toNatClampNeg) F).bind fun F5 =>
      k45 i0 (x1 + (1 : Int32)) x2 (x3 + (1 : Int32)) F5
    else
      b_Md_perform_81 L k4 i0 x1 x2 F
set_option maxHeartbeats 4000000 in
theorem t_Md_perform_45 (hC : Cx X L p s m args meth c cc_Md_perform 5 w_Md_perform R_Md none) {k4 : Nat → Int32 → Int32 → Mem → Option Mem} {k45 : Nat → Int32 → Int32 → Int32 → Mem → Option Mem} {out : Mem} (hk4 : ∀ (i0 : Nat) (x1 : Int32) (x2 : Int32) (F : Mem) (H : Heap) (locs : List Loc) (ls : Array Slot), oO L 12 i0 → Iv X L s H locs F → lv_has ls 5 [(0, .ref (mAd X i0)), (1, .int x1), (2, .int x2)] → k4 i0 x1 x2 F = some out → W p l e (headSpec w_Md_perform r_Md_perform).room s m args below meth c H locs 0 0 (MQ below (QV X L out) args s 0 0 (AA X L)) (F0 m 4 ls [])) (hk45 : ∀ (i0 : Nat) (x1 : Int32) (x2 : Int32) (x3 : Int32) (F : Mem) (H : Heap) (locs : List Loc) (ls : Array Slot), oO L 12 i0 → Iv X L s H locs F → lv_has ls 5 [(0, .ref (mAd X i0)), (1, .int x1), (2, .int x2), (3, .int x3)] → k45 i0 x1 x2 x3 F = some out → W p l e (headSpec w_Md_perform r_Md_perform).room s m args below meth c H locs 0 0 (MQ below (QV X L out) args s 0 0 (AA X L)) (F0 m 45 ls [])) {i0 : Nat} {x1 : Int32} {x2 : Int32} {x3 : Int32} {F : Mem} {H : Heap} {locs : List Loc} {ls : Array Slot} (o0 : oO L 12 i0) (hI : Iv X L s H locs F) (hl : lv_has ls 5 [(0, .ref (mAd X i0)), (1, .int x1), (2, .int x2), (3, .int x3)]) (h : b_Md_perform_45 L k4 k45 i0 x1 x2 x3 F = some out) : W p l e (headSpec w_Md_perform r_Md_perform).room s m args below meth c H locs 0 0 (MQ below (QV X L out) args s 0 0 (AA X L)) (F0 m 45 ls []) := by
  unfold b_Md_perform_45 at h
  obtain ⟨S, hK, hT, hW, hr, hlk⟩ := id hC
  have hx := S.1
  have hb := S.2.1
  refine lv_iload_n hx hb d_Md_perform_45 rfl (lv_at hl 3 rfl) ?_
  refine lv_aload_n hx hb d_Md_perform_46 rfl (lv_at hl 0 rfl) ?_
  have p1 := wt_a hW o0 29 rfl (by decide) (by decide)
  refine w_getR (T := T_Md) S hK hI o0 rfl hin_Md 29 (index := 53) (by decide) lf_Md_53 d_Md_perform_47 ?_
  refine lv_iload_n hx hb d_Md_perform_50 rfl (lv_at hl 2 rfl) ?_
  obtain ⟨z2, h⟩ := un_if h
  refine w_iald S hK hI hT p1 z2 d_Md_perform_51 ?_
  refine lv_icmp_ge (tgt := 81) hx hb d_Md_perform_52 rfl (fun hc => ?_) (fun hc => ?_)
  · replace h := (if_pos hc).symm.trans h
    exact t_Md_perform_81 hC hk4 o0 hI (lv_sub hl [0, 1, 2] rfl) h
  · replace h := (if_neg hc).symm.trans h
    refine lv_aload_n hx hb d_Md_perform_55 rfl (lv_at hl 0 rfl) ?_
    refine w_getI (T := T_Md) S hK hI o0 rfl hin_Md 5 (index := 102) (by decide) lf_Md_102 d_Md_perform_56 ?_
    refine lv_if_ne (tgt := 81) hx hb d_Md_perform_59 rfl (fun hc => ?_) (fun hc => ?_)
    · replace h := (if_neg hc).symm.trans h
      exact t_Md_perform_81 hC hk4 o0 hI (lv_sub hl [0, 1, 2] rfl) h
    · replace h := (if_pos hc).symm.trans h
      refine lv_aload_n hx hb d_Md_perform_62 rfl (lv_at hl 0 rfl) ?_
      refine lv_aload_n hx hb d_Md_perform_63 rfl (lv_at hl 0 rfl) ?_
      have p3 := wt_a hW o0 14 rfl (by decide) (by decide)
      refine w_getR (T := T_Md) S hK hI o0 rfl hin_Md 14 (index := 22) (by decide) lf_Md_22 d_Md_perform_64 ?_
      refine lv_iload_n hx hb d_Md_perform_67 rfl (lv_at hl 1 rfl) ?_
      obtain ⟨z4, h⟩ := un_if h
      refine w_iald S hK hI hT p3 z4 d_Md_perform_68 ?_
      obtain ⟨F5, e6, h⟩ := un_bi h
      refine w_callVv (As := [.int (mGa L F (mRf L i0 14) x1.toNatClampNeg)]) (rest := []) S hK hI hT (c_Md_emit l hW o0 e6) (cwV 1 S.2.2.2.2 (gd_V lc_Md_emit lm_Md_138 li_Md_emit ls_Md_emit ln_Md) rfl rfl rfl hd_Md_emit ⟨Nat.le_of_ble_eq_true rfl, Nat.le_of_ble_eq_true rfl⟩) o0 rfl (by decide) rfl rfl hl.1 (Nat.le_of_ble_eq_true rfl) d_Md_perform_69 ⟨Nat.zero_le _, Nat.zero_le _⟩ (fun H locs hI => ?_)
      refine lv_iinc (k := 1) (v := x1 + (1 : Int32)) (lv' := [(1, .int (x1 + (1 : Int32))), (0, .ref (mAd X i0)), (2, .int x2), (3, .int x3)]) hx hb d_Md_perform_72 hl rfl rfl (by decide) rfl (fun ls hl => ?_)
      refine lv_iinc (k := 3) (v := x3 + (1 : Int32)) (lv' := [(3, .int (x3 + (1 : Int32))), (1, .int (x1 + (1 : Int32))), (0, .ref (mAd X i0)), (2, .int x2)]) hx hb d_Md_perform_75 hl rfl rfl (by decide) rfl (fun ls hl => ?_)
      refine lv_goto (tgt := 45) hx hb d_Md_perform_78 rfl ?_
      exact hk45 _ _ _ _ _ _ _ _ o0 hI (lv_sub hl [2, 1, 3, 0] rfl) h
def f_Md_perform_45 (L : La) (k4 : Nat → Int32 → Int32 → Mem → Option Mem) : Nat → Nat → Int32 → Int32 → Int32 → Mem → Option Mem
  | 0 => fun _ _ _ _ _ => none
  | n + 1 => b_Md_perform_45 L k4 (f_Md_perform_45 L k4 n)
theorem tf_Md_perform_45 (hC : Cx X L p s m args meth c cc_Md_perform 5 w_Md_perform R_Md none) {k4 : Nat → Int32 → Int32 → Mem → Option Mem} {out : Mem} (hk4 : ∀ (i0 : Nat) (x1 : Int32) (x2 : Int32) (F : Mem) (H : Heap) (locs : List Loc) (ls : Array Slot), oO L 12 i0 → Iv X L s H locs F → lv_has ls 5 [(0, .ref (mAd X i0)), (1, .int x1), (2, .int x2)] → k4 i0 x1 x2 F = some out → W p l e (headSpec w_Md_perform r_Md_perform).room s m args below meth c H locs 0 0 (MQ below (QV X L out) args s 0 0 (AA X L)) (F0 m 4 ls [])) (n : Nat) : ∀ (i0 : Nat) (x1 : Int32) (x2 : Int32) (x3 : Int32) (F : Mem) (H : Heap) (locs : List Loc) (ls : Array Slot), oO L 12 i0 → Iv X L s H locs F → lv_has ls 5 [(0, .ref (mAd X i0)), (1, .int x1), (2, .int x2), (3, .int x3)] → f_Md_perform_45 L k4 n i0 x1 x2 x3 F = some out → W p l e (headSpec w_Md_perform r_Md_perform).room s m args below meth c H locs 0 0 (MQ below (QV X L out) args s 0 0 (AA X L)) (F0 m 45 ls []) := by
  induction n with
  | zero => intro i0 x1 x2 x3 F H locs ls o0 hI hl h; cases h
  | succ n ih => intro i0 x1 x2 x3 F H locs ls o0 hI hl h; exact t_Md_perform_45 hC hk4 ih o0 hI hl h
def b_Md_perform_40 (L : La) (k4 : Nat → Int32 → Int32 → Mem → Option Mem) (i0 : Nat) (x1 : Int32) (x2 : Int32) (j0 : Nat) (y1 : Int32) (F : Mem) : Option Mem :=
  if ¬ (y1 = 0 ∨ y1 = 1) then none else
  lt' (u2 F j0 5 y1) fun F1 =>
  f_Md_perform_45 L k4 mFU i0 x1 x2 (0 : Int32) F1
set_option maxHeartbeats 4000000 in
theorem t_Md_perform_40 (hC : Cx X L p s m args meth c cc_Md_perform 5 w_Md_perform R_Md none) {k4 : Nat → Int32 → Int32 → Mem → Option Mem} {out : Mem} (hk4 : ∀ (i0 : Nat) (x1 : Int32) (x2 : Int32) (F : Mem) (H : Heap) (locs : List Loc) (ls : Array Slot), oO L 12 i0 → Iv X L s H locs F → lv_has ls 5 [(0, .ref (mAd X i0)), (1, .int x1), (2, .int x2)] → k4 i0 x1 x2 F = some out → W p l e (headSpec w_Md_perform r_Md_perform).room s m args below meth c H locs 0 0 (MQ below (QV X L out) args s 0 0 (AA X L)) (F0 m 4 ls [])) {i0 : Nat} {x1 : Int32} {x2 : Int32} {j0 : Nat} {y1 : Int32} {F : Mem} {H : Heap} {locs : List Loc} {ls : Array Slot} (o0 : oO L 12 i0) (oy0 : oO L 12 j0) (hI : Iv X L s H locs F) (hl : lv_has ls 5 [(0, .ref (mAd X i0)), (1, .int x1), (2, .int x2)]) (h : b_Md_perform_40 L k4 i0 x1 x2 j0 y1 F = some out) : W p l e (headSpec w_Md_perform r_Md_perform).room s m args below meth c H locs 0 0 (MQ below (QV X L out) args s 0 0 (AA X L)) (F0 m 40 ls [.int y1, .ref (mAd X j0)]) := by
  unfold b_Md_perform_40 at h
  obtain ⟨S, hK, hT, hW, hr, hlk⟩ := id hC
  have hx := S.1
  have hb := S.2.1
  obtain ⟨z3, h⟩ := un_if h
  refine w_putZ (T := T_Md) S hK hI oy0 rfl hin_Md ty_Md tk_Md nm_Md 5 (index := 102) (by decide) lf_Md_102 rfl z3 d_Md_perform_40 (fun H locs F1 e2 hI => ?_)
  replace h := un_lt h _ e2
  refine lv_iconst (v := 0) hx hb d_Md_perform_43 rfl ?_
  refine lv_istore_n (lv' := [(3, .int (0 : Int32)), (0, .ref (mAd X i0)), (1, .int x1), (2, .int x2)]) hx hb d_Md_perform_44 rfl hl (by decide) rfl (fun ls hl => ?_)
  exact tf_Md_perform_45 hC hk4 mFU _ _ _ _ _ _ _ _ o0 hI (lv_sub hl [1, 2, 3, 0] rfl) h
def b_Md_perform_4 (L : La) (k4 : Nat → Int32 → Int32 → Mem → Option Mem) (i0 : Nat) (x1 : Int32) (x2 : Int32) (F : Mem) : Option Mem :=
  if (F i0 28) ≤ x2 then
    f_Md_perform_191 L  mFU i0 x1 F
  else
    if (F i0 5) = 0 then
      if inb x2 (mGl L (mRf L i0 29)) then none else
      if (x1 + (mGa L F (mRf L i0 29) x2.toNatClampNeg)) ≤ (F i0 13) then
        b_Md_perform_40 L k4 i0 x1 x2 i0 (0 : Int32) F
      else
        b_Md_perform_40 L k4 i0 x1 x2 i0 (1 : Int32) F
    else
      f_Md_perform_191 L  mFU i0 x1 F
set_option maxHeartbeats 4000000 in
theorem t_Md_perform_4 (hC : Cx X L p s m args meth c cc_Md_perform 5 w_Md_perform R_Md none) {k4 : Nat → Int32 → Int32 → Mem → Option Mem} {out : Mem} (hk4 : ∀ (i0 : Nat) (x1 : Int32) (x2 : Int32) (F : Mem) (H : Heap) (locs : List Loc) (ls : Array Slot), oO L 12 i0 → Iv X L s H locs F → lv_has ls 5 [(0, .ref (mAd X i0)), (1, .int x1), (2, .int x2)] → k4 i0 x1 x2 F = some out → W p l e (headSpec w_Md_perform r_Md_perform).room s m args below meth c H locs 0 0 (MQ below (QV X L out) args s 0 0 (AA X L)) (F0 m 4 ls [])) {i0 : Nat} {x1 : Int32} {x2 : Int32} {F : Mem} {H : Heap} {locs : List Loc} {ls : Array Slot} (o0 : oO L 12 i0) (hI : Iv X L s H locs F) (hl : lv_has ls 5 [(0, .ref (mAd X i0)), (1, .int x1), (2, .int x2)]) (h : b_Md_perform_4 L k4 i0 x1 x2 F = some out) : W p l e (headSpec w_Md_perform r_Md_perform).room s m args below meth c H locs 0 0 (MQ below (QV X L out) args s 0 0 (AA X L)) (F0 m 4 ls []) := by
  unfold b_Md_perform_4 at h
  obtain ⟨S, hK, hT, hW, hr, hlk⟩ := id hC
  have hx := S.1
  have hb := S.2.1
  refine lv_iload_n hx hb d_Md_perform_4 rfl (lv_at hl 2 rfl) ?_
  refine lv_aload_n hx hb d_Md_perform_5 rfl (lv_at hl 0 rfl) ?_
  refine w_getI (T := T_Md) S hK hI o0 rfl hin_Md 28 (index := 178) (by decide) lf_Md_178 d_Md_perform_6 ?_
  refine lv_icmp_ge (tgt := 191) hx hb d_Md_perform_9 rfl (fun hc => ?_) (fun hc => ?_)
  · replace h := (if_pos hc).symm.trans h
    exact tf_Md_perform_191 hC  mFU _ _ _ _ _ _ o0 hI (lv_sub hl [0, 1] rfl) h
  · replace h := (if_neg hc).symm.trans h
    refine lv_aload_n hx hb d_Md_perform_12 rfl (lv_at hl 0 rfl) ?_
    refine w_getI (T := T_Md) S hK hI o0 rfl hin_Md 5 (index := 102) (by decide) lf_Md_102 d_Md_perform_13 ?_
    refine lv_if_ne (tgt := 191) hx hb d_Md_perform_16 rfl (fun hc => ?_) (fun hc => ?_)
    · replace h := (if_neg hc).symm.trans h
      exact tf_Md_perform_191 hC  mFU _ _ _ _ _ _ o0 hI (lv_sub hl [0, 1] rfl) h
    · replace h := (if_pos hc).symm.trans h
      refine lv_aload_n hx hb d_Md_perform_19 rfl (lv_at hl 0 rfl) ?_
      refine lv_iload_n hx hb d_Md_perform_20 rfl (lv_at hl 1 rfl) ?_
      refine lv_aload_n hx hb d_Md_perform_21 rfl (lv_at hl 0 rfl) ?_
      have p1 := wt_a hW o0 29 rfl (by decide) (by decide)
      refine w_getR (T := T_Md) S hK hI o0 rfl hin_Md 29 (index := 53) (by decide) lf_Md_53 d_Md_perform_22 ?_
      refine lv_iload_n hx hb d_Md_perform_25 rfl (lv_at hl 2 rfl) ?_
      obtain ⟨z2, h⟩ := un_if h
      refine w_iald S hK hI hT p1 z2 d_Md_perform_26 ?_
      refine lv_iadd hx hb d_Md_perform_27 ?_
      refine lv_aload_n hx hb d_Md_perform_28 rfl (lv_at hl 0 rfl) ?_
      refine w_getI (T := T_Md) S hK hI o0 rfl hin_Md 13 (index := 150) (by decide) lf_Md_150 d_Md_perform_29 ?_
      refine lv_icmp_le (tgt := 39) hx hb d_Md_perform_32 rfl (fun hc => ?_) (fun hc => ?_)
      · replace h := (if_pos hc).symm.trans h
        refine lv_iconst (v := 0) hx hb d_Md_perform_39 rfl ?_
        exact t_Md_perform_40 hC hk4 o0 o0 hI hl h
      · replace h := (if_neg hc).symm.trans h
        refine lv_iconst (v := 1) hx hb d_Md_perform_35 rfl ?_
        refine lv_goto (tgt := 40) hx hb d_Md_perform_36 rfl ?_
        exact t_Md_perform_40 hC hk4 o0 o0 hI hl h
def f_Md_perform_4 (L : La)  : Nat → Nat → Int32 → Int32 → Mem → Option Mem
  | 0 => fun _ _ _ _ => none
  | n + 1 => b_Md_perform_4 L (f_Md_perform_4 L  n)
theorem tf_Md_perform_4 (hC : Cx X L p s m args meth c cc_Md_perform 5 w_Md_perform R_Md none)  {out : Mem}  (n : Nat) : ∀ (i0 : Nat) (x1 : Int32) (x2 : Int32) (F : Mem) (H : Heap) (locs : List Loc) (ls : Array Slot), oO L 12 i0 → Iv X L s H locs F → lv_has ls 5 [(0, .ref (mAd X i0)), (1, .int x1), (2, .int x2)] → f_Md_perform_4 L  n i0 x1 x2 F = some out → W p l e (headSpec w_Md_perform r_Md_perform).room s m args below meth c H locs 0 0 (MQ below (QV X L out) args s 0 0 (AA X L)) (F0 m 4 ls []) := by
  induction n with
  | zero => intro i0 x1 x2 F H locs ls o0 hI hl h; cases h
  | succ n ih => intro i0 x1 x2 F H locs ls o0 hI hl h; exact t_Md_perform_4 hC ih o0 hI hl h
def f_Md_perform (L : La) (i0 : Nat) (F : Mem) : Option Mem :=
  f_Md_perform_4 L  mFU i0 (0 : Int32) (0 : Int32) F
set_option maxHeartbeats 4000000 in
theorem c_Md_perform (l : Launch) {X : Xs} {L : La} (hW : WT L) {out : Mem} {i0 : Nat} {F : Mem} (o0 : oO L 12 i0) (h : f_Md_perform L i0 F = some out) : Met l y_Md_perform w_Md_perform r_Md_perform (va_Pc [.ref (mAd X i0)] (Pr X L F)) (QV X L out) 0 0 (AA X L) := by
  refine mk_met (by decide) rfl (Nat.le_of_ble_eq_true rfl) hW ?_
  intro p e s m args below meth c ls hC hI hl
  have hl : lv_has ls 5 [(0, .ref (mAd X i0))] := hl
  generalize hHe : s.heap = H at hI ⊢
  generalize ([] : List Loc) = locs at hI ⊢
  unfold f_Md_perform at h
  obtain ⟨S, hK, hT, hW, hr, hlk⟩ := id hC
  have hx := S.1
  have hb := S.2.1
  refine lv_iconst (v := 0) hx hb d_Md_perform_0 rfl ?_
  refine lv_istore_n (lv' := [(1, .int (0 : Int32)), (0, .ref (mAd X i0))]) hx hb d_Md_perform_1 rfl hl (by decide) rfl (fun ls hl => ?_)
  refine lv_iconst (v := 0) hx hb d_Md_perform_2 rfl ?_
  refine lv_istore_n (lv' := [(2, .int (0 : Int32)), (1, .int (0 : Int32)), (0, .ref (mAd X i0))]) hx hb d_Md_perform_3 rfl hl (by decide) rfl (fun ls hl => ?_)
  exact tf_Md_perform_4 hC  mFU _ _ _ _ _ _ _ o0 hI (lv_sub hl [2, 1, 0] rfl) h
end
theorem d_Md_block_0 : decode cc_Md_block 0 = .ok (.iload_n 1, 1) := by decide +kernel
theorem d_Md_block_1 : decode cc_Md_block 1 = .ok (.iconst 3, 1) := by decide +kernel
theorem d_Md_block_2 : decode cc_Md_block 2 = .ok (.ishr, 1) := by decide +kernel
theorem d_Md_block_3 : decode cc_Md_block 3 = .ok (.bipush (32), 2) := by decide +kernel
theorem d_Md_block_5 : decode cc_Md_block 5 = .ok (.aload_n 0, 1) := by decide +kernel
theorem d_Md_block_6 : decode cc_Md_block 6 = .ok (.aload_n 0, 1) := by decide +kernel
theorem d_Md_block_7 : decode cc_Md_block 7 = .ok (.getfield 90, 3) := by decide +kernel
theorem d_Md_block_10 : decode cc_Md_block 10 = .ok (.invokevirtual 125, 3) := by decide +kernel
theorem d_Md_block_13 : decode cc_Md_block 13 = .ok (.imul, 1) := by decide +kernel
theorem d_Md_block_14 : decode cc_Md_block 14 = .ok (.iadd, 1) := by decide +kernel
theorem d_Md_block_15 : decode cc_Md_block 15 = .ok (.istore_n 2, 1) := by decide +kernel
theorem d_Md_block_16 : decode cc_Md_block 16 = .ok (.iload_n 1, 1) := by decide +kernel
theorem d_Md_block_17 : decode cc_Md_block 17 = .ok (.iconst 1, 1) := by decide +kernel
theorem d_Md_block_18 : decode cc_Md_block 18 = .ok (.ishr, 1) := by decide +kernel
theorem d_Md_block_19 : decode cc_Md_block 19 = .ok (.iconst 3, 1) := by decide +kernel
theorem d_Md_block_20 : decode cc_Md_block 20 = .ok (.iand, 1) := by decide +kernel
theorem d_Md_block_21 : decode cc_Md_block 21 = .ok (.istore_n 3, 1) := by decide +kernel
theorem d_Md_block_22 : decode cc_Md_block 22 = .ok (.aload_n 0, 1) := by decide +kernel
theorem d_Md_block_23 : decode cc_Md_block 23 = .ok (.getfield 102, 3) := by decide +kernel
theorem d_Md_block_26 : decode cc_Md_block 26 = .ok (.ifCond .ne (8), 3) := by decide +kernel
theorem d_Md_block_29 : decode cc_Md_block 29 = .ok (.iload_n 3, 1) := by decide +kernel
theorem d_Md_block_30 : decode cc_Md_block 30 = .ok (.iconst 3, 1) := by decide +kernel
theorem d_Md_block_31 : decode cc_Md_block 31 = .ok (.if_icmp .ne (11), 3) := by decide +kernel
theorem d_Md_block_34 : decode cc_Md_block 34 = .ok (.aload_n 0, 1) := by decide +kernel
theorem d_Md_block_35 : decode cc_Md_block 35 = .ok (.iconst 1, 1) := by decide +kernel
theorem d_Md_block_36 : decode cc_Md_block 36 = .ok (.putfield 102, 3) := by decide +kernel
theorem d_Md_block_39 : decode cc_Md_block 39 = .ok (.goto (164), 3) := by decide +kernel
theorem d_Md_block_42 : decode cc_Md_block 42 = .ok (.iload_n 3, 1) := by decide +kernel
theorem d_Md_block_43 : decode cc_Md_block 43 = .ok (.ifCond .ne (44), 3) := by decide +kernel
theorem d_Md_block_46 : decode cc_Md_block 46 = .ok (.iconst 0, 1) := by decide +kernel
theorem d_Md_block_47 : decode cc_Md_block 47 = .ok (.istore 4, 2) := by decide +kernel
theorem d_Md_block_49 : decode cc_Md_block 49 = .ok (.iload 4, 2) := by decide +kernel
theorem d_Md_block_51 : decode cc_Md_block 51 = .ok (.iload_n 2, 1) := by decide +kernel
theorem d_Md_block_52 : decode cc_Md_block 52 = .ok (.if_icmp .ge (32), 3) := by decide +kernel
theorem d_Md_block_55 : decode cc_Md_block 55 = .ok (.aload_n 0, 1) := by decide +kernel
theorem d_Md_block_56 : decode cc_Md_block 56 = .ok (.getfield 102, 3) := by decide +kernel
theorem d_Md_block_59 : decode cc_Md_block 59 = .ok (.ifCond .ne (25), 3) := by decide +kernel
theorem d_Md_block_62 : decode cc_Md_block 62 = .ok (.aload_n 0, 1) := by decide +kernel
theorem d_Md_block_63 : decode cc_Md_block 63 = .ok (.aload_n 0, 1) := by decide +kernel
theorem d_Md_block_64 : decode cc_Md_block 64 = .ok (.getfield 90, 3) := by decide +kernel
theorem d_Md_block_67 : decode cc_Md_block 67 = .ok (.invokevirtual 125, 3) := by decide +kernel
theorem d_Md_block_70 : decode cc_Md_block 70 = .ok (.istore 5, 2) := by decide +kernel
theorem d_Md_block_72 : decode cc_Md_block 72 = .ok (.aload_n 0, 1) := by decide +kernel
theorem d_Md_block_73 : decode cc_Md_block 73 = .ok (.iload 5, 2) := by decide +kernel
theorem d_Md_block_75 : decode cc_Md_block 75 = .ok (.invokevirtual 138, 3) := by decide +kernel
theorem d_Md_block_78 : decode cc_Md_block 78 = .ok (.iinc 4 (1), 3) := by decide +kernel
theorem d_Md_block_81 : decode cc_Md_block 81 = .ok (.goto (-32), 3) := by decide +kernel
theorem d_Md_block_84 : decode cc_Md_block 84 = .ok (.goto (119), 3) := by decide +kernel
theorem d_Md_block_87 : decode cc_Md_block 87 = .ok (.iload_n 3, 1) := by decide +kernel
theorem d_Md_block_88 : decode cc_Md_block 88 = .ok (.iconst 1, 1) := by decide +kernel
theorem d_Md_block_89 : decode cc_Md_block 89 = .ok (.if_icmp .ne (44), 3) := by decide +kernel
theorem d_Md_block_92 : decode cc_Md_block 92 = .ok (.aload_n 0, 1) := by decide +kernel
theorem d_Md_block_93 : decode cc_Md_block 93 = .ok (.aload_n 0, 1) := by decide +kernel
theorem d_Md_block_94 : decode cc_Md_block 94 = .ok (.getfield 90, 3) := by decide +kernel
theorem d_Md_block_97 : decode cc_Md_block 97 = .ok (.invokevirtual 125, 3) := by decide +kernel
theorem d_Md_block_100 : decode cc_Md_block 100 = .ok (.istore 4, 2) := by decide +kernel
theorem d_Md_block_102 : decode cc_Md_block 102 = .ok (.iconst 0, 1) := by decide +kernel
theorem d_Md_block_103 : decode cc_Md_block 103 = .ok (.istore 5, 2) := by decide +kernel
theorem d_Md_block_105 : decode cc_Md_block 105 = .ok (.iload 5, 2) := by decide +kernel
theorem d_Md_block_107 : decode cc_Md_block 107 = .ok (.iload_n 2, 1) := by decide +kernel
theorem d_Md_block_108 : decode cc_Md_block 108 = .ok (.if_icmp .ge (22), 3) := by decide +kernel
theorem d_Md_block_111 : decode cc_Md_block 111 = .ok (.aload_n 0, 1) := by decide +kernel
theorem d_Md_block_112 : decode cc_Md_block 112 = .ok (.getfield 102, 3) := by decide +kernel
theorem d_Md_block_115 : decode cc_Md_block 115 = .ok (.ifCond .ne (15), 3) := by decide +kernel
theorem d_Md_block_118 : decode cc_Md_block 118 = .ok (.aload_n 0, 1) := by decide +kernel
theorem d_Md_block_119 : decode cc_Md_block 119 = .ok (.iload 4, 2) := by decide +kernel
theorem d_Md_block_121 : decode cc_Md_block 121 = .ok (.invokevirtual 138, 3) := by decide +kernel
theorem d_Md_block_124 : decode cc_Md_block 124 = .ok (.iinc 5 (1), 3) := by decide +kernel
theorem d_Md_block_127 : decode cc_Md_block 127 = .ok (.goto (-22), 3) := by decide +kernel
theorem d_Md_block_130 : decode cc_Md_block 130 = .ok (.goto (73), 3) := by decide +kernel
theorem d_Md_block_133 : decode cc_Md_block 133 = .ok (.aload_n 0, 1) := by decide +kernel
theorem d_Md_block_134 : decode cc_Md_block 134 = .ok (.getfield 99, 3) := by decide +kernel
theorem d_Md_block_137 : decode cc_Md_block 137 = .ok (.iload_n 2, 1) := by decide +kernel
theorem d_Md_block_138 : decode cc_Md_block 138 = .ok (.iadd, 1) := by decide +kernel
theorem d_Md_block_139 : decode cc_Md_block 139 = .ok (.aload_n 0, 1) := by decide +kernel
theorem d_Md_block_140 : decode cc_Md_block 140 = .ok (.getfield 90, 3) := by decide +kernel
theorem d_Md_block_143 : decode cc_Md_block 143 = .ok (.if_icmp .le (11), 3) := by decide +kernel
theorem d_Md_block_146 : decode cc_Md_block 146 = .ok (.aload_n 0, 1) := by decide +kernel
theorem d_Md_block_147 : decode cc_Md_block 147 = .ok (.iconst 1, 1) := by decide +kernel
theorem d_Md_block_148 : decode cc_Md_block 148 = .ok (.putfield 102, 3) := by decide +kernel
theorem d_Md_block_151 : decode cc_Md_block 151 = .ok (.goto (52), 3) := by decide +kernel
theorem d_Md_block_154 : decode cc_Md_block 154 = .ok (.aload_n 0, 1) := by decide +kernel
theorem d_Md_block_155 : decode cc_Md_block 155 = .ok (.getfield 99, 3) := by decide +kernel
theorem d_Md_block_158 : decode cc_Md_block 158 = .ok (.iload_n 2, 1) := by decide +kernel
theorem d_Md_block_159 : decode cc_Md_block 159 = .ok (.iadd, 1) := by decide +kernel
theorem d_Md_block_160 : decode cc_Md_block 160 = .ok (.istore 4, 2) := by decide +kernel
theorem d_Md_block_162 : decode cc_Md_block 162 = .ok (.aload_n 0, 1) := by decide +kernel
theorem d_Md_block_163 : decode cc_Md_block 163 = .ok (.iload 4, 2) := by decide +kernel
theorem d_Md_block_165 : decode cc_Md_block 165 = .ok (.invokevirtual 141, 3) := by decide +kernel
theorem d_Md_block_168 : decode cc_Md_block 168 = .ok (.aload_n 0, 1) := by decide +kernel
theorem d_Md_block_169 : decode cc_Md_block 169 = .ok (.iload 4, 2) := by decide +kernel
theorem d_Md_block_171 : decode cc_Md_block 171 = .ok (.invokevirtual 144, 3) := by decide +kernel
theorem d_Md_block_174 : decode cc_Md_block 174 = .ok (.aload_n 0, 1) := by decide +kernel
theorem d_Md_block_175 : decode cc_Md_block 175 = .ok (.aload_n 0, 1) := by decide +kernel
theorem d_Md_block_176 : decode cc_Md_block 176 = .ok (.getfield 102, 3) := by decide +kernel
theorem d_Md_block_179 : decode cc_Md_block 179 = .ok (.ifCond .ne (12), 3) := by decide +kernel
theorem d_Md_block_182 : decode cc_Md_block 182 = .ok (.aload_n 0, 1) := by decide +kernel
theorem d_Md_block_183 : decode cc_Md_block 183 = .ok (.getfield 99, 3) := by decide +kernel
theorem d_Md_block_186 : decode cc_Md_block 186 = .ok (.iload 4, 2) := by decide +kernel
theorem d_Md_block_188 : decode cc_Md_block 188 = .ok (.if_icmp .eq (7), 3) := by decide +kernel
theorem d_Md_block_191 : decode cc_Md_block 191 = .ok (.iconst 1, 1) := by decide +kernel
theorem d_Md_block_192 : decode cc_Md_block 192 = .ok (.goto (4), 3) := by decide +kernel
theorem d_Md_block_195 : decode cc_Md_block 195 = .ok (.iconst 0, 1) := by decide +kernel
theorem d_Md_block_196 : decode cc_Md_block 196 = .ok (.putfield 102, 3) := by decide +kernel
theorem d_Md_block_199 : decode cc_Md_block 199 = .ok (.aload_n 0, 1) := by decide +kernel
theorem d_Md_block_200 : decode cc_Md_block 200 = .ok (.invokevirtual 147, 3) := by decide +kernel
theorem d_Md_block_203 : decode cc_Md_block 203 = .ok (.return_, 1) := by decide +kernel
section
variable {p : Program} {l : Launch} {e : Env} {s : State} {m : MethodId} {args : Array Value} {below : List Frame} {meth : Method} {c : Code} {X : Xs} {L : La}
def b_Md_block_203 (L : La)   (F : Mem) : Option Mem :=
  some F
set_option maxHeartbeats 4000000 in
theorem t_Md_block_203 (hC : Cx X L p s m args meth c cc_Md_block 6 w_Md_block R_Md none)  {out : Mem}   {F : Mem} {H : Heap} {locs : List Loc} {ls : Array Slot}  (hI : Iv X L s H locs F) (hl : lv_has ls 6 []) (h : b_Md_block_203 L   F = some out) : W p l e (headSpec w_Md_block r_Md_block).room s m args below meth c H locs 0 0 (MQ below (QV X L out) args s 0 0 (AA X L)) (F0 m 203 ls []) := by
  unfold b_Md_block_203 at h
  obtain ⟨S, hK, hT, hW, hr, hlk⟩ := id hC
  have hx := S.1
  have hb := S.2.1
  exact w_vret S hK hr hlk hI d_Md_block_203 h
def b_Md_block_34 (L : La)  (i0 : Nat) (F : Mem) : Option Mem :=
  if ¬ ((1 : Int32) = 0 ∨ (1 : Int32) = 1) then none else
  lt' (u2 F i0 5 (1 : Int32)) fun F1 =>
  b_Md_block_203 L   F1
set_option maxHeartbeats 4000000 in
theorem t_Md_block_34 (hC : Cx X L p s m args meth c cc_Md_block 6 w_Md_block R_Md none)  {out : Mem}  {i0 : Nat} {F : Mem} {H : Heap} {locs : List Loc} {ls : Array Slot} (o0 : oO L 12 i0) (hI : Iv X L s H locs F) (hl : lv_has ls 6 [(0, .ref (mAd X i0))]) (h : b_Md_block_34 L  i0 F = some out) : W p l e (headSpec w_Md_block r_Md_block).room s m args below meth c H locs 0 0 (MQ below (QV X L out) args s 0 0 (AA X L)) (F0 m 34 ls []) := by
  unfold b_Md_block_34 at h
  obtain ⟨S, hK, hT, hW, hr, hlk⟩ := id hC
  have hx := S.1
  have hb := S.2.1
  refine lv_aload_n hx hb d_Md_block_34 rfl (lv_at hl 0 rfl) ?_
  refine lv_iconst (v := 1) hx hb d_Md_block_35 rfl ?_
  obtain ⟨z3, h⟩ := un_if h
  refine w_putZ (T := T_Md) S hK hI o0 rfl hin_Md ty_Md tk_Md nm_Md 5 (index := 102) (by decide) lf_Md_102 rfl z3 d_Md_block_36 (fun H locs F1 e2 hI => ?_)
  replace h := un_lt h _ e2
  refine lv_goto (tgt := 203) hx hb d_Md_block_39 rfl ?_
  exact t_Md_block_203 hC   hI (lv_sub hl [] rfl) h
def b_Md_block_196 (L : La)  (i0 : Nat) (j0 : Nat) (y1 : Int32) (F : Mem) : Option Mem :=
  if ¬ (y1 = 0 ∨ y1 = 1) then none else
  lt' (u2 F j0 5 y1) fun F1 =>
  (f_Md_perform L i0 F1).bind fun F4 =>
  b_Md_block_203 L   F4
set_option maxHeartbeats 4000000 in
theorem t_Md_block_196 (hC : Cx X L p s m args meth c cc_Md_block 6 w_Md_block R_Md none)  {out : Mem}  {i0 : Nat} {j0 : Nat} {y1 : Int32} {F : Mem} {H : Heap} {locs : List Loc} {ls : Array Slot} (o0 : oO L 12 i0) (oy0 : oO L 12 j0) (hI : Iv X L s H locs F) (hl : lv_has ls 6 [(0, .ref (mAd X i0))]) (h : b_Md_block_196 L  i0 j0 y1 F = some out) : W p l e (headSpec w_Md_block r_Md_block).room s m args below meth c H locs 0 0 (MQ below (QV X L out) args s 0 0 (AA X L)) (F0 m 196 ls [.int y1, .ref (mAd X j0)]) := by
  unfold b_Md_block_196 at h
  obtain ⟨S, hK, hT, hW, hr, hlk⟩ := id hC
  have hx := S.1
  have hb := S.2.1
  obtain ⟨z3, h⟩ := un_if h
  refine w_putZ (T := T_Md) S hK hI oy0 rfl hin_Md ty_Md tk_Md nm_Md 5 (index := 102) (by decide) lf_Md_102 rfl z3 d_Md_block_196 (fun H locs F1 e2 hI => ?_)
  replace h := un_lt h _ e2
  refine lv_aload_n hx hb d_Md_block_199 rfl (lv_at hl 0 rfl) ?_
  obtain ⟨F4, e5, h⟩ := un_bi h
  refine w_callVv (As := []) (rest := []) S hK hI hT (c_Md_perform l hW o0 e5) (cwV 0 S.2.2.2.2 (gd_V lc_Md_perform lm_Md_147 li_Md_perform ls_Md_perform ln_Md) rfl rfl rfl hd_Md_perform ⟨Nat.le_of_ble_eq_true rfl, Nat.le_of_ble_eq_true rfl⟩) o0 rfl (by decide) rfl rfl hl.1 (Nat.le_of_ble_eq_true rfl) d_Md_block_200 ⟨Nat.zero_le _, Nat.zero_le _⟩ (fun H locs hI => ?_)
  exact t_Md_block_203 hC   hI (lv_sub hl [] rfl) h
def b_Md_block_191 (L : La)  (i0 : Nat) (j0 : Nat) (F : Mem) : Option Mem :=
  b_Md_block_196 L  i0 j0 (1 : Int32) F
set_option maxHeartbeats 4000000 in
theorem t_Md_block_191 (hC : Cx X L p s m args meth c cc_Md_block 6 w_Md_block R_Md none)  {out : Mem}  {i0 : Nat} {j0 : Nat} {F : Mem} {H : Heap} {locs : List Loc} {ls : Array Slot} (o0 : oO L 12 i0) (oy0 : oO L 12 j0) (hI : Iv X L s H locs F) (hl : lv_has ls 6 [(0, .ref (mAd X i0))]) (h : b_Md_block_191 L  i0 j0 F = some out) : W p l e (headSpec w_Md_block r_Md_block).room s m args below meth c H locs 0 0 (MQ below (QV X L out) args s 0 0 (AA X L)) (F0 m 191 ls [.ref (mAd X j0)]) := by
  unfold b_Md_block_191 at h
  obtain ⟨S, hK, hT, hW, hr, hlk⟩ := id hC
  have hx := S.1
  have hb := S.2.1
  refine lv_iconst (v := 1) hx hb d_Md_block_191 rfl ?_
  refine lv_goto (tgt := 196) hx hb d_Md_block_192 rfl ?_
  exact t_Md_block_196 hC  o0 oy0 hI hl h
def b_Md_block_130 (L : La)   (F : Mem) : Option Mem :=
  b_Md_block_203 L   F
set_option maxHeartbeats 4000000 in
theorem t_Md_block_130 (hC : Cx X L p s m args meth c cc_Md_block 6 w_Md_block R_Md none)  {out : Mem}   {F : Mem} {H : Heap} {locs : List Loc} {ls : Array Slot}  (hI : Iv X L s H locs F) (hl : lv_has ls 6 []) (h : b_Md_block_130 L   F = some out) : W p l e (headSpec w_Md_block r_Md_block).room s m args below meth c H locs 0 0 (MQ below (QV X L out) args s 0 0 (AA X L)) (F0 m 130 ls []) := by
  unfold b_Md_block_130 at h
  obtain ⟨S, hK, hT, hW, hr, hlk⟩ := id hC
  have hx := S.1
  have hb := S.2.1
  refine lv_goto (tgt := 203) hx hb d_Md_block_130 rfl ?_
  exact t_Md_block_203 hC   hI hl h
def b_Md_block_105 (L : La) (k105 : Nat → Int32 → Int32 → Int32 → Mem → Option Mem) (i0 : Nat) (x2 : Int32) (x4 : Int32) (x5 : Int32) (F : Mem) : Option Mem :=
  if x2 ≤ x5 then
    b_Md_block_130 L   F
  else
    if (F i0 5) = 0 then
      (f_Md_emit L i0 x4 F).bind fun F1 =>
      k105 i0 x2 x4 (x5 + (1 : Int32)) F1
    else
      b_Md_block_130 L   F
set_option maxHeartbeats 4000000 in
theorem t_Md_block_105 (hC : Cx X L p s m args meth c cc_Md_block 6 w_Md_block R_Md none) {k105 : Nat → Int32 → Int32 → Int32 → Mem → Option Mem} {out : Mem} (hk105 : ∀ (i0 : Nat) (x2 : Int32) (x4 : Int32) (x5 : Int32) (F : Mem) (H : Heap) (locs : List Loc) (ls : Array Slot), oO L 12 i0 → Iv X L s H locs F → lv_has ls 6 [(0, .ref (mAd X i0)), (2, .int x2), (4, .int x4), (5, .int x5)] → k105 i0 x2 x4 x5 F = some out → W p l e (headSpec w_Md_block r_Md_block).room s m args below meth c H locs 0 0 (MQ below (QV X L out) args s 0 0 (AA X L)) (F0 m 105 ls [])) {i0 : Nat} {x2 : Int32} {x4 : Int32} {x5 : Int32} {F : Mem} {H : Heap} {locs : List Loc} {ls : Array Slot} (o0 : oO L 12 i0) (hI : Iv X L s H locs F) (hl : lv_has ls 6 [(0, .ref (mAd X i0)), (2, .int x2), (4, .int x4), (5, .int x5)]) (h : b_Md_block_105 L k105 i0 x2 x4 x5 F = some out) : W p l e (headSpec w_Md_block r_Md_block).room s m args below meth c H locs 0 0 (MQ below (QV X L out) args s 0 0 (AA X L)) (F0 m 105 ls []) := by
  unfold b_Md_block_105 at h
  obtain ⟨S, hK, hT, hW, hr, hlk⟩ := id hC
  have hx := S.1
  have hb := S.2.1
  refine lv_iload hx hb d_Md_block_105 (lv_at hl 3 rfl) ?_
  refine lv_iload_n hx hb d_Md_block_107 rfl (lv_at hl 1 rfl) ?_
  refine lv_icmp_ge (tgt := 130) hx hb d_Md_block_108 rfl (fun hc => ?_) (fun hc => ?_)
  · replace h := (if_pos hc).symm.trans h
    exact t_Md_block_130 hC   hI (lv_sub hl [] rfl) h
  · replace h := (if_neg hc).symm.trans h
    refine lv_aload_n hx hb d_Md_block_111 rfl (lv_at hl 0 rfl) ?_
    refine w_getI (T := T_Md) S hK hI o0 rfl hin_Md 5 (index := 102) (by decide) lf_Md_102 d_Md_block_112 ?_
    refine lv_if_ne (tgt := 130) hx hb d_Md_block_115 rfl (fun hc => ?_) (fun hc => ?_)
    · replace h := (if_neg hc).symm.trans h
      exact t_Md_block_130 hC   hI (lv_sub hl [] rfl) h
    · replace h := (if_pos hc).symm.trans h
      refine lv_aload_n hx hb d_Md_block_118 rfl (lv_at hl 0 rfl) ?_
      refine lv_iload hx hb d_Md_block_119 (lv_at hl 2 rfl) ?_
      obtain ⟨F1, e2, h⟩ := un_bi h
      refine w_callVv (As := [.int x4]) (rest := []) S hK hI hT (c_Md_emit l hW o0 e2) (cwV 1 S.2.2.2.2 (gd_V lc_Md_emit lm_Md_138 li_Md_emit ls_Md_emit ln_Md) rfl rfl rfl hd_Md_emit ⟨Nat.le_of_ble_eq_true rfl, Nat.le_of_ble_eq_true rfl⟩) o0 rfl (by decide) rfl rfl hl.1 (Nat.le_of_ble_eq_true rfl) d_Md_block_121 ⟨Nat.zero_le _, Nat.zero_le _⟩ (fun H locs hI => ?_)
      refine lv_iinc (k := 3) (v := x5 + (1 : Int32)) (lv' := [(5, .int (x5 + (1 : Int32))), (0, .ref (mAd X i0)), (2, .int x2), (4, .int x4)]) hx hb d_Md_block_124 hl rfl rfl (by decide) rfl (fun ls hl => ?_)
      refine lv_goto (tgt := 105) hx hb d_Md_block_127 rfl ?_
      exact hk105 _ _ _ _ _ _ _ _ o0 hI (lv_sub hl [1, 2, 3, 0] rfl) h
def f_Md_block_105 (L : La)  : Nat → Nat → Int32 → Int32 → Int32 → Mem → Option Mem
  | 0 => fun _ _ _ _ _ => none
  | n + 1 => b_Md_block_105 L (f_Md_block_105 L  n)
theorem tf_Md_block_105 (hC : Cx X L p s m args meth c cc_Md_block 6 w_Md_block R_Md none)  {out : Mem}  (n : Nat) : ∀ (i0 : Nat) (x2 : Int32) (x4 : Int32) (x5 : Int32) (F : Mem) (H : Heap) (locs : List Loc) (ls : Array Slot), oO L 12 i0 → Iv X L s H locs F → lv_has ls 6 [(0, .ref (mAd X i0)), (2, .int x2), (4, .int x4), (5, .int x5)] → f_Md_block_105 L  n i0 x2 x4 x5 F = some out → W p l e (headSpec w_Md_block r_Md_block).room s m args below meth c H locs 0 0 (MQ below (QV X L out) args s 0 0 (AA X L)) (F0 m 105 ls []) := by
  induction n with
  | zero => intro i0 x2 x4 x5 F H locs ls o0 hI hl h; cases h
  | succ n ih => intro i0 x2 x4 x5 F H locs ls o0 hI hl h; exact t_Md_block_105 hC ih o0 hI hl h
def b_Md_block_84 (L : La)   (F : Mem) : Option Mem :=
  b_Md_block_203 L   F
set_option maxHeartbeats 4000000 in
theorem t_Md_block_84 (hC : Cx X L p s m args meth c cc_Md_block 6 w_Md_block R_Md none)  {out : Mem}   {F : Mem} {H : Heap} {locs : List Loc} {ls : Array Slot}  (hI : Iv X L s H locs F) (hl : lv_has ls 6 []) (h : b_Md_block_84 L   F = some out) : W p l e (headSpec w_Md_block r_Md_block).room s m args below meth c H locs 0 0 (MQ below (QV X L out) args s 0 0 (AA X L)) (F0 m 84 ls []) := by
  unfold b_Md_block_84 at h
  obtain ⟨S, hK, hT, hW, hr, hlk⟩ := id hC
  have hx := S.1
  have hb := S.2.1
  refine lv_goto (tgt := 203) hx hb d_Md_block_84 rfl ?_
  exact t_Md_block_203 hC   hI hl h
def b_Md_block_49 (L : La) (k49 : Nat → Int32 → Int32 → Mem → Option Mem) (i0 : Nat) (x2 : Int32) (x4 : Int32) (F : Mem) : Option Mem :=
  if x2 ≤ x4 then
    b_Md_block_84 L   F
  else
    if (F i0 5) = 0 then
      (f_Md_next L i0 (F i0 3) F).bind fun q1 =>
      (f_Md_emit L i0 q1.1 q1.2).bind fun F3 =>
      k49 i0 x2 (x4 + (1 : Int32)) F3
    else
      b_Md_block_84 L   F
set_option maxHeartbeats 4000000 in
theorem t_Md_block_49 (hC : Cx X L p s m args meth c cc_Md_block 6 w_Md_block R_Md none) {k49 : Nat → Int32 → Int32 → Mem → Option Mem} {out : Mem} (hk49 : ∀ (i0 : Nat) (x2 : Int32) (x4 : Int32) (F : Mem) (H : Heap) (locs : List Loc) (ls : Array Slot), oO L 12 i0 → Iv X L s H locs F → lv_has ls 6 [(0, .ref (mAd X i0)), (2, .int x2), (4, .int x4)] → k49 i0 x2 x4 F = some out → W p l e (headSpec w_Md_block r_Md_block).room s m args below meth c H locs 0 0 (MQ below (QV X L out) args s 0 0 (AA X L)) (F0 m 49 ls [])) {i0 : Nat} {x2 : Int32} {x4 : Int32} {F : Mem} {H : Heap} {locs : List Loc} {ls : Array Slot} (o0 : oO L 12 i0) (hI : Iv X L s H locs F) (hl : lv_has ls 6 [(0, .ref (mAd X i0)), (2, .int x2), (4, .int x4)]) (h : b_Md_block_49 L k49 i0 x2 x4 F = some out) : W p l e (headSpec w_Md_block r_Md_block).room s m args below meth c H locs 0 0 (MQ below (QV X L out) args s 0 0 (AA X L)) (F0 m 49 ls []) := by
  unfold b_Md_block_49 at h
  obtain ⟨S, hK, hT, hW, hr, hlk⟩ := id hC
  have hx := S.1
  have hb := S.2.1
  refine lv_iload hx hb d_Md_block_49 (lv_at hl 2 rfl) ?_
  refine lv_iload_n hx hb d_Md_block_51 rfl (lv_at hl 1 rfl) ?_
  refine lv_icmp_ge (tgt := 84) hx hb d_Md_block_52 rfl (fun hc => ?_) (fun hc => ?_)
  · replace h := (if_pos hc).symm.trans h
    exact t_Md_block_84 hC   hI (lv_sub hl [] rfl) h
  · replace h := (if_neg hc).symm.trans h
    refine lv_aload_n hx hb d_Md_block_55 rfl (lv_at hl 0 rfl) ?_
    refine w_getI (T := T_Md) S hK hI o0 rfl hin_Md 5 (index := 102) (by decide) lf_Md_102 d_Md_block_56 ?_
    refine lv_if_ne (tgt := 84) hx hb d_Md_block_59 rfl (fun hc => ?_) (fun hc => ?_)
    · replace h := (if_neg hc).symm.trans h
      exact t_Md_block_84 hC   hI (lv_sub hl [] rfl) h
    · replace h := (if_pos hc).symm.trans h
      refine lv_aload_n hx hb d_Md_block_62 rfl (lv_at hl 0 rfl) ?_
      refine lv_aload_n hx hb d_Md_block_63 rfl (lv_at hl 0 rfl) ?_
      refine w_getI (T := T_Md) S hK hI o0 rfl hin_Md 3 (index := 90) (by decide) lf_Md_90 d_Md_block_64 ?_
      obtain ⟨q1, e2, h⟩ := un_bi h
      refine w_callVi (As := [.int (F i0 3)]) (rest := []) S hK hI hT (c_Md_next l hW o0 e2) (cwV 1 S.2.2.2.2 (gd_V lc_Md_next lm_Md_125 li_Md_next ls_Md_next ln_Md) rfl rfl rfl hd_Md_next ⟨Nat.le_of_ble_eq_true rfl, Nat.le_of_ble_eq_true rfl⟩) o0 rfl (by decide) rfl rfl hl.1 (Nat.le_of_ble_eq_true rfl) d_Md_block_67 ⟨Nat.zero_le _, Nat.zero_le _⟩ (fun H locs hI => ?_)
      refine lv_istore (lv' := [(5, .int q1.1), (0, .ref (mAd X i0)), (2, .int x2), (4, .int x4)]) hx hb d_Md_block_70 hl (by decide) rfl (fun ls hl => ?_)
      refine lv_aload_n hx hb d_Md_block_72 rfl (lv_at hl 1 rfl) ?_
      refine lv_iload hx hb d_Md_block_73 (lv_at hl 0 rfl) ?_
      obtain ⟨F3, e4, h⟩ := un_bi h
      refine w_callVv (As := [.int q1.1]) (rest := []) S hK hI hT (c_Md_emit l hW o0 e4) (cwV 1 S.2.2.2.2 (gd_V lc_Md_emit lm_Md_138 li_Md_emit ls_Md_emit ln_Md) rfl rfl rfl hd_Md_emit ⟨Nat.le_of_ble_eq_true rfl, Nat.le_of_ble_eq_true rfl⟩) o0 rfl (by decide) rfl rfl hl.1 (Nat.le_of_ble_eq_true rfl) d_Md_block_75 ⟨Nat.zero_le _, Nat.zero_le _⟩ (fun H locs hI => ?_)
      refine lv_iinc (k := 3) (v := x4 + (1 : Int32)) (lv' := [(4, .int (x4 + (1 : Int32))), (5, .int q1.1), (0, .ref (mAd X i0)), (2, .int x2)]) hx hb d_Md_block_78 hl rfl rfl (by decide) rfl (fun ls hl => ?_)
      refine lv_goto (tgt := 49) hx hb d_Md_block_81 rfl ?_
      exact hk49 _ _ _ _ _ _ _ o0 hI (lv_sub hl [2, 3, 0] rfl) h
def f_Md_block_49 (L : La)  : Nat → Nat → Int32 → Int32 → Mem → Option Mem
  | 0 => fun _ _ _ _ => none
  | n + 1 => b_Md_block_49 L (f_Md_block_49 L  n)
theorem tf_Md_block_49 (hC : Cx X L p s m args meth c cc_Md_block 6 w_Md_block R_Md none)  {out : Mem}  (n : Nat) : ∀ (i0 : Nat) (x2 : Int32) (x4 : Int32) (F : Mem) (H : Heap) (locs : List Loc) (ls : Array Slot), oO L 12 i0 → Iv X L s H locs F → lv_has ls 6 [(0, .ref (mAd X i0)), (2, .int x2), (4, .int x4)] → f_Md_block_49 L  n i0 x2 x4 F = some out → W p l e (headSpec w_Md_block r_Md_block).room s m args below meth c H locs 0 0 (MQ below (QV X L out) args s 0 0 (AA X L)) (F0 m 49 ls []) := by
  induction n with
  | zero => intro i0 x2 x4 F H locs ls o0 hI hl h; cases h
  | succ n ih => intro i0 x2 x4 F H locs ls o0 hI hl h; exact t_Md_block_49 hC ih o0 hI hl h
def f_Md_block (L : La) (i0 : Nat) (x1 : Int32) (F : Mem) : Option Mem :=
  (f_Md_next L i0 (F i0 3) F).bind fun q1 =>
  if (q1.2 i0 5) = 0 then
    if ((jshr x1 (1 : Int32)) &&& (3 : Int32)) = (3 : Int32) then
      b_Md_block_34 L  i0 q1.2
    else
      if ((jshr x1 (1 : Int32)) &&& (3 : Int32)) = 0 then
        f_Md_block_49 L  mFU i0 ((jshr x1 (3 : Int32)) + ((32 : Int32) * q1.1)) (0 : Int32) q1.2
      else
        if ((jshr x1 (1 : Int32)) &&& (3 : Int32)) = (1 : Int32) then
          (f_Md_next L i0 (q1.2 i0 3) q1.2).bind fun q10 =>
          f_Md_block_105 L  mFU i0 ((jshr x1 (3 : Int32)) + ((32 : Int32) * q1.1)) q10.1 (0 : Int32) q10.2
        else
          if ((q1.2 i0 4) + ((jshr x1 (3 : Int32)) + ((32 : Int32) * q1.1))) ≤ (q1.2 i0 3) then
            (f_Md_readLiterals L i0 ((q1.2 i0 4) + ((jshr x1 (3 : Int32)) + ((32 : Int32) * q1.1))) q1.2).bind fun F3 =>
            (f_Md_readSequences L i0 ((q1.2 i0 4) + ((jshr x1 (3 : Int32)) + ((32 : Int32) * q1.1))) F3).bind fun F5 =>
            if (F5 i0 5) = 0 then
              if (F5 i0 4) = ((q1.2 i0 4) + ((jshr x1 (3 : Int32)) + ((32 : Int32) * q1.1))) then
                b_Md_block_196 L  i0 i0 (0 : Int32) F5
              else
                b_Md_block_191 L  i0 i0 F5
            else
              b_Md_block_191 L  i0 i0 F5
          else
            if ¬ ((1 : Int32) = 0 ∨ (1 : Int32) = 1) then none else
            lt' (u2 q1.2 i0 5 (1 : Int32)) fun F7 =>
            b_Md_block_203 L   F7
  else
    b_Md_block_34 L  i0 q1.2
set_option maxHeartbeats 4000000 in
theorem c_Md_block (l : Launch) {X : Xs} {L : La} (hW : WT L) {out : Mem} {i0 : Nat} {x1 : Int32} {F : Mem} (o0 : oO L 12 i0) (h : f_Md_block L i0 x1 F = some out) : Met l y_Md_block w_Md_block r_Md_block (va_Pc [.ref (mAd X i0), .int x1] (Pr X L F)) (QV X L out) 0 0 (AA X L) := by
  refine mk_met (by decide) rfl (Nat.le_of_ble_eq_true rfl) hW ?_
  intro p e s m args below meth c ls hC hI hl
  have hl : lv_has ls 6 [(0, .ref (mAd X i0)), (1, .int x1)] := hl
  generalize hHe : s.heap = H at hI ⊢
  generalize ([] : List Loc) = locs at hI ⊢
  unfold f_Md_block at h
  obtain ⟨S, hK, hT, hW, hr, hlk⟩ := id hC
  have hx := S.1
  have hb := S.2.1
  refine lv_iload_n hx hb d_Md_block_0 rfl (lv_at hl 1 rfl) ?_
  refine lv_iconst (v := 3) hx hb d_Md_block_1 rfl ?_
  refine lv_ishr hx hb d_Md_block_2 ?_
  refine lv_bipush (v := 32) hx hb d_Md_block_3 (by decide) ?_
  refine lv_aload_n hx hb d_Md_block_5 rfl (lv_at hl 0 rfl) ?_
  refine lv_aload_n hx hb d_Md_block_6 rfl (lv_at hl 0 rfl) ?_
  refine w_getI (T := T_Md) S hK hI o0 rfl hin_Md 3 (index := 90) (by decide) lf_Md_90 d_Md_block_7 ?_
  obtain ⟨q1, e2, h⟩ := un_bi h
  refine w_callVi (As := [.int (F i0 3)]) (rest := [.int (32 : Int32), .int (jshr x1 (3 : Int32))]) S hK hI hT (c_Md_next l hW o0 e2) (cwV 1 S.2.2.2.2 (gd_V lc_Md_next lm_Md_125 li_Md_next ls_Md_next ln_Md) rfl rfl rfl hd_Md_next ⟨Nat.le_of_ble_eq_true rfl, Nat.le_of_ble_eq_true rfl⟩) o0 rfl (by decide) rfl rfl hl.1 (Nat.le_of_ble_eq_true rfl) d_Md_block_10 ⟨Nat.zero_le _, Nat.zero_le _⟩ (fun H locs hI => ?_)
  refine lv_imul hx hb d_Md_block_13 ?_
  refine lv_iadd hx hb d_Md_block_14 ?_
  refine lv_istore_n (lv' := [(2, .int ((jshr x1 (3 : Int32)) + ((32 : Int32) * q1.1))), (0, .ref (mAd X i0)), (1, .int x1)]) hx hb d_Md_block_15 rfl hl (by decide) rfl (fun ls hl => ?_)
  refine lv_iload_n hx hb d_Md_block_16 rfl (lv_at hl 2 rfl) ?_
  refine lv_iconst (v := 1) hx hb d_Md_block_17 rfl ?_
  refine lv_ishr hx hb d_Md_block_18 ?_
  refine lv_iconst (v := 3) hx hb d_Md_block_19 rfl ?_
  refine lv_iand hx hb d_Md_block_20 ?_
  refine lv_istore_n (lv' := [(3, .int ((jshr x1 (1 : Int32)) &&& (3 : Int32))), (2, .int ((jshr x1 (3 : Int32)) + ((32 : Int32) * q1.1))), (0, .ref (mAd X i0)), (1, .int x1)]) hx hb d_Md_block_21 rfl hl (by decide) rfl (fun ls hl => ?_)
  refine lv_aload_n hx hb d_Md_block_22 rfl (lv_at hl 2 rfl) ?_
  refine w_getI (T := T_Md) S hK hI o0 rfl hin_Md 5 (index := 102) (by decide) lf_Md_102 d_Md_block_23 ?_
  refine lv_if_ne (tgt := 34) hx hb d_Md_block_26 rfl (fun hc => ?_) (fun hc => ?_)
  · replace h := (if_neg hc).symm.trans h
    exact t_Md_block_34 hC  o0 hI (lv_sub hl [2] rfl) h
  · replace h := (if_pos hc).symm.trans h
    refine lv_iload_n hx hb d_Md_block_29 rfl (lv_at hl 0 rfl) ?_
    refine lv_iconst (v := 3) hx hb d_Md_block_30 rfl ?_
    refine lv_icmp_ne (tgt := 42) hx hb d_Md_block_31 rfl (fun hc => ?_) (fun hc => ?_)
    · replace h := (if_neg hc).symm.trans h
      refine lv_iload_n hx hb d_Md_block_42 rfl (lv_at hl 0 rfl) ?_
      refine lv_if_ne (tgt := 87) hx hb d_Md_block_43 rfl (fun hc => ?_) (fun hc => ?_)
      · replace h := (if_neg hc).symm.trans h
        refine lv_iload_n hx hb d_Md_block_87 rfl (lv_at hl 0 rfl) ?_
        refine lv_iconst (v := 1) hx hb d_Md_block_88 rfl ?_
        refine lv_icmp_ne (tgt := 133) hx hb d_Md_block_89 rfl (fun hc => ?_) (fun hc => ?_)
        · replace h := (if_neg hc).symm.trans h
          refine lv_aload_n hx hb d_Md_block_133 rfl (lv_at hl 2 rfl) ?_
          refine w_getI (T := T_Md) S hK hI o0 rfl hin_Md 4 (index := 99) (by decide) lf_Md_99 d_Md_block_134 ?_
          refine lv_iload_n hx hb d_Md_block_137 rfl (lv_at hl 1 rfl) ?_
          refine lv_iadd hx hb d_Md_block_138 ?_
          refine lv_aload_n hx hb d_Md_block_139 rfl (lv_at hl 2 rfl) ?_
          refine w_getI (T := T_Md) S hK hI o0 rfl hin_Md 3 (index := 90) (by decide) lf_Md_90 d_Md_block_140 ?_
          refine lv_icmp_le (tgt := 154) hx hb d_Md_block_143 rfl (fun hc => ?_) (fun hc => ?_)
          · replace h := (if_pos hc).symm.trans h
            refine lv_aload_n hx hb d_Md_block_154 rfl (lv_at hl 2 rfl) ?_
            refine w_getI (T := T_Md) S hK hI o0 rfl hin_Md 4 (index := 99) (by decide) lf_Md_99 d_Md_block_155 ?_
            refine lv_iload_n hx hb d_Md_block_158 rfl (lv_at hl 1 rfl) ?_
            refine lv_iadd hx hb d_Md_block_159 ?_
            refine lv_istore (lv' := [(4, .int ((q1.2 i0 4) + ((jshr x1 (3 : Int32)) + ((32 : Int32) * q1.1)))), (3, .int ((jshr x1 (1 : Int32)) &&& (3 : Int32))), (2, .int ((jshr x1 (3 : Int32)) + ((32 : Int32) * q1.1))), (0, .ref (mAd X i0)), (1, .int x1)]) hx hb d_Md_block_160 hl (by decide) rfl (fun ls hl => ?_)
            refine lv_aload_n hx hb d_Md_block_162 rfl (lv_at hl 3 rfl) ?_
            refine lv_iload hx hb d_Md_block_163 (lv_at hl 0 rfl) ?_
            obtain ⟨F3, e4, h⟩ := un_bi h
            refine w_callVv (As := [.int ((q1.2 i0 4) + ((jshr x1 (3 : Int32)) + ((32 : Int32) * q1.1)))]) (rest := []) S hK hI hT (c_Md_readLiterals l hW o0 e4) (cwV 1 S.2.2.2.2 (gd_V lc_Md_readLiterals lm_Md_141 li_Md_readLiterals ls_Md_readLiterals ln_Md) rfl rfl rfl hd_Md_readLiterals ⟨Nat.le_of_ble_eq_true rfl, Nat.le_of_ble_eq_true rfl⟩) o0 rfl (by decide) rfl rfl hl.1 (Nat.le_of_ble_eq_true rfl) d_Md_block_165 ⟨Nat.zero_le _, Nat.zero_le _⟩ (fun H locs hI => ?_)
            refine lv_aload_n hx hb d_Md_block_168 rfl (lv_at hl 3 rfl) ?_
            refine lv_iload hx hb d_Md_block_169 (lv_at hl 0 rfl) ?_
            obtain ⟨F5, e6, h⟩ := un_bi h
            refine w_callVv (As := [.int ((q1.2 i0 4) + ((jshr x1 (3 : Int32)) + ((32 : Int32) * q1.1)))]) (rest := []) S hK hI hT (c_Md_readSequences l hW o0 e6) (cwV 1 S.2.2.2.2 (gd_V lc_Md_readSequences lm_Md_144 li_Md_readSequences ls_Md_readSequences ln_Md) rfl rfl rfl hd_Md_readSequences ⟨Nat.le_of_ble_eq_true rfl, Nat.le_of_ble_eq_true rfl⟩) o0 rfl (by decide) rfl rfl hl.1 (Nat.le_of_ble_eq_true rfl) d_Md_block_171 ⟨Nat.zero_le _, Nat.zero_le _⟩ (fun H locs hI => ?_)
            refine lv_aload_n hx hb d_Md_block_174 rfl (lv_at hl 3 rfl) ?_
            refine lv_aload_n hx hb d_Md_block_175 rfl (lv_at hl 3 rfl) ?_
            refine w_getI (T := T_Md) S hK hI o0 rfl hin_Md 5 (index := 102) (by decide) lf_Md_102 d_Md_block_176 ?_
            refine lv_if_ne (tgt := 191) hx hb d_Md_block_179 rfl (fun hc => ?_) (fun hc => ?_)
            · replace h := (if_neg hc).symm.trans h
              exact t_Md_block_191 hC  o0 o0 hI (lv_sub hl [3] rfl) h
            · replace h := (if_pos hc).symm.trans h
              refine lv_aload_n hx hb d_Md_block_182 rfl (lv_at hl 3 rfl) ?_
              refine w_getI (T := T_Md) S hK hI o0 rfl hin_Md 4 (index := 99) (by decide) lf_Md_99 d_Md_block_183 ?_
              refine lv_iload hx hb d_Md_block_186 (lv_at hl 0 rfl) ?_
              refine lv_icmp_eq (tgt := 195) hx hb d_Md_block_188 rfl (fun hc => ?_) (fun hc => ?_)
              · replace h := (if_pos hc).symm.trans h
                refine lv_iconst (v := 0) hx hb d_Md_block_195 rfl ?_
                exact t_Md_block_196 hC  o0 o0 hI (lv_sub hl [3] rfl) h
              · replace h := (if_neg hc).symm.trans h
                exact t_Md_block_191 hC  o0 o0 hI (lv_sub hl [3] rfl) h
          · replace h := (if_neg hc).symm.trans h
            refine lv_aload_n hx hb d_Md_block_146 rfl (lv_at hl 2 rfl) ?_
            refine lv_iconst (v := 1) hx hb d_Md_block_147 rfl ?_
            obtain ⟨z9, h⟩ := un_if h
            refine w_putZ (T := T_Md) S hK hI o0 rfl hin_Md ty_Md tk_Md nm_Md 5 (index := 102) (by decide) lf_Md_102 rfl z9 d_Md_block_148 (fun H locs F7 e8 hI => ?_)
            replace h := un_lt h _ e8
            refine lv_goto (tgt := 203) hx hb d_Md_block_151 rfl ?_
            exact t_Md_block_203 hC   hI (lv_sub hl [] rfl) h
        · replace h := (if_pos hc).symm.trans h
          refine lv_aload_n hx hb d_Md_block_92 rfl (lv_at hl 2 rfl) ?_
          refine lv_aload_n hx hb d_Md_block_93 rfl (lv_at hl 2 rfl) ?_
          refine w_getI (T := T_Md) S hK hI o0 rfl hin_Md 3 (index := 90) (by decide) lf_Md_90 d_Md_block_94 ?_
          obtain ⟨q10, e11, h⟩ := un_bi h
          refine w_callVi (As := [.int (q1.2 i0 3)]) (rest := []) S hK hI hT (c_Md_next l hW o0 e11) (cwV 1 S.2.2.2.2 (gd_V lc_Md_next lm_Md_125 li_Md_next ls_Md_next ln_Md) rfl rfl rfl hd_Md_next ⟨Nat.le_of_ble_eq_true rfl, Nat.le_of_ble_eq_true rfl⟩) o0 rfl (by decide) rfl rfl hl.1 (Nat.le_of_ble_eq_true rfl) d_Md_block_97 ⟨Nat.zero_le _, Nat.zero_le _⟩ (fun H locs hI => ?_)
          refine lv_istore (lv' := [(4, .int q10.1), (3, .int ((jshr x1 (1 : Int32)) &&& (3 : Int32))), (2, .int ((jshr x1 (3 : Int32)) + ((32 : Int32) * q1.1))), (0, .ref (mAd X i0)), (1, .int x1)]) hx hb d_Md_block_100 hl (by decide) rfl (fun ls hl => ?_)
          refine lv_iconst (v := 0) hx hb d_Md_block_102 rfl ?_
          refine lv_istore (lv' := [(5, .int (0 : Int32)), (4, .int q10.1), (3, .int ((jshr x1 (1 : Int32)) &&& (3 : Int32))), (2, .int ((jshr x1 (3 : Int32)) + ((32 : Int32) * q1.1))), (0, .ref (mAd X i0)), (1, .int x1)]) hx hb d_Md_block_103 hl (by decide) rfl (fun ls hl => ?_)
          exact tf_Md_block_105 hC  mFU _ _ _ _ _ _ _ _ o0 hI (lv_sub hl [4, 3, 1, 0] rfl) h
      · replace h := (if_pos hc).symm.trans h
        refine lv_iconst (v := 0) hx hb d_Md_block_46 rfl ?_
        refine lv_istore (lv' := [(4, .int (0 : Int32)), (3, .int ((jshr x1 (1 : Int32)) &&& (3 : Int32))), (2, .int ((jshr x1 (3 : Int32)) + ((32 : Int32) * q1.1))), (0, .ref (mAd X i0)), (1, .int x1)]) hx hb d_Md_block_47 hl (by decide) rfl (fun ls hl => ?_)
        exact tf_Md_block_49 hC  mFU _ _ _ _ _ _ _ o0 hI (lv_sub hl [3, 2, 0] rfl) h
    · replace h := (if_pos hc).symm.trans h
      exact t_Md_block_34 hC  o0 hI (lv_sub hl [2] rfl) h
end
