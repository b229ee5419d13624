theorem d_Fr_beginFrame_0 : decode cc_Fr_beginFrame 0 = .ok (.aload_n 0, 1) := by decide +kernel
theorem d_Fr_beginFrame_1 : decode cc_Fr_beginFrame 1 = .ok (.aload_n 0, 1) := by decide +kernel
theorem d_Fr_beginFrame_2 : decode cc_Fr_beginFrame 2 = .ok (.getfield 14, 3) := by decide +kernel
theorem d_Fr_beginFrame_5 : decode cc_Fr_beginFrame 5 = .ok (.getfield 88, 3) := by decide +kernel
theorem d_Fr_beginFrame_8 : decode cc_Fr_beginFrame 8 = .ok (.putfield 95, 3) := by decide +kernel
theorem d_Fr_beginFrame_11 : decode cc_Fr_beginFrame 11 = .ok (.aload_n 0, 1) := by decide +kernel
theorem d_Fr_beginFrame_12 : decode cc_Fr_beginFrame 12 = .ok (.aload_n 0, 1) := by decide +kernel
theorem d_Fr_beginFrame_13 : decode cc_Fr_beginFrame 13 = .ok (.getfield 14, 3) := by decide +kernel
theorem d_Fr_beginFrame_16 : decode cc_Fr_beginFrame 16 = .ok (.getfield 88, 3) := by decide +kernel
theorem d_Fr_beginFrame_19 : decode cc_Fr_beginFrame 19 = .ok (.iload_n 1, 1) := by decide +kernel
theorem d_Fr_beginFrame_20 : decode cc_Fr_beginFrame 20 = .ok (.iadd, 1) := by decide +kernel
theorem d_Fr_beginFrame_21 : decode cc_Fr_beginFrame 21 = .ok (.putfield 92, 3) := by decide +kernel
theorem d_Fr_beginFrame_24 : decode cc_Fr_beginFrame 24 = .ok (.aload_n 0, 1) := by decide +kernel
theorem d_Fr_beginFrame_25 : decode cc_Fr_beginFrame 25 = .ok (.iconst 0, 1) := by decide +kernel
theorem d_Fr_beginFrame_26 : decode cc_Fr_beginFrame 26 = .ok (.putfield 105, 3) := by decide +kernel
theorem d_Fr_beginFrame_29 : decode cc_Fr_beginFrame 29 = .ok (.aload_n 0, 1) := by decide +kernel
theorem d_Fr_beginFrame_30 : decode cc_Fr_beginFrame 30 = .ok (.getfield 51, 3) := by decide +kernel
theorem d_Fr_beginFrame_33 : decode cc_Fr_beginFrame 33 = .ok (.iconst 0, 1) := by decide +kernel
theorem d_Fr_beginFrame_34 : decode cc_Fr_beginFrame 34 = .ok (.putfield 108, 3) := by decide +kernel
theorem d_Fr_beginFrame_37 : decode cc_Fr_beginFrame 37 = .ok (.aload_n 0, 1) := by decide +kernel
theorem d_Fr_beginFrame_38 : decode cc_Fr_beginFrame 38 = .ok (.getfield 23, 3) := by decide +kernel
theorem d_Fr_beginFrame_41 : decode cc_Fr_beginFrame 41 = .ok (.invokevirtual 111, 3) := by decide +kernel
theorem d_Fr_beginFrame_44 : decode cc_Fr_beginFrame 44 = .ok (.return_, 1) := by decide +kernel
section
variable {p : Program} {l : Launch} {e : Env} {s : State} {m : MethodId} {args : Array Value} {below : List Frame} {meth : Method} {c : Code} {X : Xs} {L : La}
def f_Fr_beginFrame (L : La) (i0 : Nat) (x1 : Int32) (F : Mem) : Option Mem :=
  lt' (u2 F i0 8 (F (mRf L i0 0) 1)) fun F2 =>
  lt' (u2 F2 i0 9 ((F2 (mRf L i0 0) 1) + x1)) fun F5 =>
  if ¬ ((0 : Int32) = 0 ∨ (0 : Int32) = 1) then none else
  lt' (u2 F5 i0 6 (0 : Int32)) fun F7 =>
  if ¬ ((0 : Int32) = 0 ∨ (0 : Int32) = 1) then none else
  lt' (u2 F7 (mRf L i0 2) 5 (0 : Int32)) fun F11 =>
  (f_Rp_begin L (mRf L i0 3) F11).bind fun F15 =>
  some F15
set_option maxHeartbeats 4000000 in
theorem c_Fr_beginFrame (l : Launch) {X : Xs} {L : La} (hW : WT L) {out : Mem} {i0 : Nat} {x1 : Int32} {F : Mem} (o0 : oO L 9 i0) (h : f_Fr_beginFrame L i0 x1 F = some out) : Met l y_Fr_beginFrame w_Fr_beginFrame r_Fr_beginFrame (va_Pc [.ref (mAd X i0), .int x1] (Pr X L F)) (QV X L out) 0 0 (AA X L) := by
  refine mk_met (by decide) rfl (Nat.le_of_ble_eq_true rfl) hW ?_
  intro p e s m args below meth c ls hC hI hl
  have hl : lv_has ls 2 [(0, .ref (mAd X i0)), (1, .int x1)] := hl
  generalize hHe : s.heap = H at hI ⊢
  generalize ([] : List Loc) = locs at hI ⊢
  unfold f_Fr_beginFrame at h
  obtain ⟨S, hK, hT, hW, hr, hlk⟩ := id hC
  have hx := S.1
  have hb := S.2.1
  refine lv_aload_n hx hb d_Fr_beginFrame_0 rfl (lv_at hl 0 rfl) ?_
  refine lv_aload_n hx hb d_Fr_beginFrame_1 rfl (lv_at hl 0 rfl) ?_
  have p1 := wt_o hW o0 0 1 rfl (by decide) (by decide) (by decide)
  refine w_getR (T := T_Fr) S hK hI o0 rfl hin_Fr 0 (index := 14) (by decide) lf_Fr_14 d_Fr_beginFrame_2 ?_
  refine w_getI (T := T_Row) S hK hI p1 rfl hin_Row 1 (index := 88) (by decide) lf_Fr_88 d_Fr_beginFrame_5 ?_
  refine w_putI (T := T_Fr) S hK hI o0 rfl hin_Fr ty_Fr tk_Fr nm_Fr 8 (index := 95) (by decide) lf_Fr_95 rfl d_Fr_beginFrame_8 (fun H locs F2 e3 hI => ?_)
  replace h := un_lt h _ e3
  refine lv_aload_n hx hb d_Fr_beginFrame_11 rfl (lv_at hl 0 rfl) ?_
  refine lv_aload_n hx hb d_Fr_beginFrame_12 rfl (lv_at hl 0 rfl) ?_
  have p4 := wt_o hW o0 0 1 rfl (by decide) (by decide) (by decide)
  refine w_getR (T := T_Fr) S hK hI o0 rfl hin_Fr 0 (index := 14) (by decide) lf_Fr_14 d_Fr_beginFrame_13 ?_
  refine w_getI (T := T_Row) S hK hI p4 rfl hin_Row 1 (index := 88) (by decide) lf_Fr_88 d_Fr_beginFrame_16 ?_
  refine lv_iload_n hx hb d_Fr_beginFrame_19 rfl (lv_at hl 1 rfl) ?_
  refine lv_iadd hx hb d_Fr_beginFrame_20 ?_
  refine w_putI (T := T_Fr) S hK hI o0 rfl hin_Fr ty_Fr tk_Fr nm_Fr 9 (index := 92) (by decide) lf_Fr_92 rfl d_Fr_beginFrame_21 (fun H locs F5 e6 hI => ?_)
  replace h := un_lt h _ e6
  refine lv_aload_n hx hb d_Fr_beginFrame_24 rfl (lv_at hl 0 rfl) ?_
  refine lv_iconst (v := 0) hx hb d_Fr_beginFrame_25 rfl ?_
  obtain ⟨z9, h⟩ := un_if h
  refine w_putZ (T := T_Fr) S hK hI o0 rfl hin_Fr ty_Fr tk_Fr nm_Fr 6 (index := 105) (by decide) lf_Fr_105 rfl z9 d_Fr_beginFrame_26 (fun H locs F7 e8 hI => ?_)
  replace h := un_lt h _ e8
  refine lv_aload_n hx hb d_Fr_beginFrame_29 rfl (lv_at hl 0 rfl) ?_
  have p10 := wt_o hW o0 2 8 rfl (by decide) (by decide) (by decide)
  refine w_getR (T := T_Fr) S hK hI o0 rfl hin_Fr 2 (index := 51) (by decide) lf_Fr_51 d_Fr_beginFrame_30 ?_
  refine lv_iconst (v := 0) hx hb d_Fr_beginFrame_33 rfl ?_
  obtain ⟨z13, h⟩ := un_if h
  refine w_putZ (T := T_Sq) S hK hI p10 rfl hin_Sq ty_Sq tk_Sq nm_Sq 5 (index := 108) (by decide) lf_Fr_108 rfl z13 d_Fr_beginFrame_34 (fun H locs F11 e12 hI => ?_)
  replace h := un_lt h _ e12
  refine lv_aload_n hx hb d_Fr_beginFrame_37 rfl (lv_at hl 0 rfl) ?_
  have p14 := wt_o hW o0 3 6 rfl (by decide) (by decide) (by decide)
  refine w_getR (T := T_Fr) S hK hI o0 rfl hin_Fr 3 (index := 23) (by decide) lf_Fr_23 d_Fr_beginFrame_38 ?_
  obtain ⟨F15, e16, h⟩ := un_bi h
  refine w_callVv (As := []) (rest := []) S hK hI hT (c_Rp_begin l hW p14 e16) (cwV 0 S.2.2.2.2 (gd_V lc_Rp_begin lm_Fr_111 li_Rp_begin ls_Rp_begin ln_Rp) rfl rfl rfl hd_Rp_begin ⟨Nat.le_of_ble_eq_true rfl, Nat.le_of_ble_eq_true rfl⟩) p14 rfl (by decide) rfl rfl hl.1 (Nat.le_of_ble_eq_true rfl) d_Fr_beginFrame_41 ⟨Nat.zero_le _, Nat.zero_le _⟩ (fun H locs hI => ?_)
  exact w_vret S hK hr hlk hI d_Fr_beginFrame_44 h
end
theorem d_Wr_bytesLeft_0 : decode cc_Wr_bytesLeft 0 = .ok (.aload_n 0, 1) := by decide +kernel
theorem d_Wr_bytesLeft_1 : decode cc_Wr_bytesLeft 1 = .ok (.getfield 22, 3) := by decide +kernel
theorem d_Wr_bytesLeft_4 : decode cc_Wr_bytesLeft 4 = .ok (.aload_n 0, 1) := by decide +kernel
theorem d_Wr_bytesLeft_5 : decode cc_Wr_bytesLeft 5 = .ok (.getfield 13, 3) := by decide +kernel
theorem d_Wr_bytesLeft_8 : decode cc_Wr_bytesLeft 8 = .ok (.isub, 1) := by decide +kernel
theorem d_Wr_bytesLeft_9 : decode cc_Wr_bytesLeft 9 = .ok (.ireturn, 1) := by decide +kernel
section
variable {p : Program} {l : Launch} {e : Env} {s : State} {m : MethodId} {args : Array Value} {below : List Frame} {meth : Method} {c : Code} {X : Xs} {L : La}
def f_Wr_bytesLeft (L : La) (i0 : Nat) (F : Mem) : Option (Int32 × Mem) :=
  some ((F i0 2) - (F i0 1), F)
set_option maxHeartbeats 4000000 in
theorem c_Wr_bytesLeft (l : Launch) {X : Xs} {L : La} (hW : WT L) {out : (Int32 × Mem)} {i0 : Nat} {F : Mem} (o0 : oO L 7 i0) (h : f_Wr_bytesLeft L i0 F = some out) : Met l y_Wr_bytesLeft w_Wr_bytesLeft r_Wr_bytesLeft (va_Pc [.ref (mAd X i0)] (Pr X L F)) (QI X L out) 0 0 (AA X L) := by
  refine mk_met (by decide) rfl (Nat.le_of_ble_eq_true rfl) hW ?_
  intro p e s m args below meth c ls hC hI hl
  have hl : lv_has ls 1 [(0, .ref (mAd X i0))] := hl
  generalize hHe : s.heap = H at hI ⊢
  generalize ([] : List Loc) = locs at hI ⊢
  unfold f_Wr_bytesLeft at h
  obtain ⟨S, hK, hT, hW, hr, hlk⟩ := id hC
  have hx := S.1
  have hb := S.2.1
  refine lv_aload_n hx hb d_Wr_bytesLeft_0 rfl (lv_at hl 0 rfl) ?_
  refine w_getI (T := T_Wr) S hK hI o0 rfl hin_Wr 2 (index := 22) (by decide) lf_Wr_22 d_Wr_bytesLeft_1 ?_
  refine lv_aload_n hx hb d_Wr_bytesLeft_4 rfl (lv_at hl 0 rfl) ?_
  refine w_getI (T := T_Wr) S hK hI o0 rfl hin_Wr 1 (index := 13) (by decide) lf_Wr_13 d_Wr_bytesLeft_5 ?_
  refine lv_isub hx hb d_Wr_bytesLeft_8 ?_
  exact w_iret S hK hr hlk hI d_Wr_bytesLeft_9 h
end
theorem d_Fr_fits_0 : decode cc_Fr_fits 0 = .ok (.iload_n 1, 1) := by decide +kernel
theorem d_Fr_fits_1 : decode cc_Fr_fits 1 = .ok (.aload_n 0, 1) := by decide +kernel
theorem d_Fr_fits_2 : decode cc_Fr_fits 2 = .ok (.getfield 92, 3) := by decide +kernel
theorem d_Fr_fits_5 : decode cc_Fr_fits 5 = .ok (.aload_n 0, 1) := by decide +kernel
theorem d_Fr_fits_6 : decode cc_Fr_fits 6 = .ok (.getfield 14, 3) := by decide +kernel
theorem d_Fr_fits_9 : decode cc_Fr_fits 9 = .ok (.getfield 88, 3) := by decide +kernel
theorem d_Fr_fits_12 : decode cc_Fr_fits 12 = .ok (.isub, 1) := by decide +kernel
theorem d_Fr_fits_13 : decode cc_Fr_fits 13 = .ok (.if_icmp .gt (7), 3) := by decide +kernel
theorem d_Fr_fits_16 : decode cc_Fr_fits 16 = .ok (.iconst 1, 1) := by decide +kernel
theorem d_Fr_fits_17 : decode cc_Fr_fits 17 = .ok (.goto (4), 3) := by decide +kernel
theorem d_Fr_fits_20 : decode cc_Fr_fits 20 = .ok (.iconst 0, 1) := by decide +kernel
theorem d_Fr_fits_21 : decode cc_Fr_fits 21 = .ok (.ireturn, 1) := by decide +kernel
section
variable {p : Program} {l : Launch} {e : Env} {s : State} {m : MethodId} {args : Array Value} {below : List Frame} {meth : Method} {c : Code} {X : Xs} {L : La}
def b_Fr_fits_21 (L : La)  (y0 : Int32) (F : Mem) : Option (Int32 × Mem) :=
  if y0 = 0 ∨ y0 = 1 then some (y0, F) else none
set_option maxHeartbeats 4000000 in
theorem t_Fr_fits_21 (hC : Cx X L p s m args meth c cc_Fr_fits 2 w_Fr_fits R_Fr (some .boolean))  {out : (Int32 × Mem)}  {y0 : Int32} {F : Mem} {H : Heap} {locs : List Loc} {ls : Array Slot}  (hI : Iv X L s H locs F) (hl : lv_has ls 2 []) (h : b_Fr_fits_21 L  y0 F = some out) : W p l e (headSpec w_Fr_fits r_Fr_fits).room s m args below meth c H locs 0 0 (MQ below (QI X L out) args s 0 0 (AA X L)) (F0 m 21 ls [.int y0]) := by
  unfold b_Fr_fits_21 at h
  obtain ⟨S, hK, hT, hW, hr, hlk⟩ := id hC
  have hx := S.1
  have hb := S.2.1
  exact w_zret S hK hr hlk hI d_Fr_fits_21 h
def f_Fr_fits (L : La) (i0 : Nat) (x1 : Int32) (F : Mem) : Option (Int32 × Mem) :=
  if ((F i0 9) - (F (mRf L i0 0) 1)) < x1 then
    b_Fr_fits_21 L  (0 : Int32) F
  else
    b_Fr_fits_21 L  (1 : Int32) F
set_option maxHeartbeats 4000000 in
theorem c_Fr_fits (l : Launch) {X : Xs} {L : La} (hW : WT L) {out : (Int32 × Mem)} {i0 : Nat} {x1 : Int32} {F : Mem} (o0 : oO L 9 i0) (h : f_Fr_fits L i0 x1 F = some out) : Met l y_Fr_fits w_Fr_fits r_Fr_fits (va_Pc [.ref (mAd X i0), .int x1] (Pr X L F)) (QI X L out) 0 0 (AA X L) := by
  refine mk_met (by decide) rfl (Nat.le_of_ble_eq_true rfl) hW ?_
  intro p e s m args below meth c ls hC hI hl
  have hl : lv_has ls 2 [(0, .ref (mAd X i0)), (1, .int x1)] := hl
  generalize hHe : s.heap = H at hI ⊢
  generalize ([] : List Loc) = locs at hI ⊢
  unfold f_Fr_fits at h
  obtain ⟨S, hK, hT, hW, hr, hlk⟩ := id hC
  have hx := S.1
  have hb := S.2.1
  refine lv_iload_n hx hb d_Fr_fits_0 rfl (lv_at hl 1 rfl) ?_
  refine lv_aload_n hx hb d_Fr_fits_1 rfl (lv_at hl 0 rfl) ?_
  refine w_getI (T := T_Fr) S hK hI o0 rfl hin_Fr 9 (index := 92) (by decide) lf_Fr_92 d_Fr_fits_2 ?_
  refine lv_aload_n hx hb d_Fr_fits_5 rfl (lv_at hl 0 rfl) ?_
  have p1 := wt_o hW o0 0 1 rfl (by decide) (by decide) (by decide)
  refine w_getR (T := T_Fr) S hK hI o0 rfl hin_Fr 0 (index := 14) (by decide) lf_Fr_14 d_Fr_fits_6 ?_
  refine w_getI (T := T_Row) S hK hI p1 rfl hin_Row 1 (index := 88) (by decide) lf_Fr_88 d_Fr_fits_9 ?_
  refine lv_isub hx hb d_Fr_fits_12 ?_
  refine lv_icmp_gt (tgt := 20) hx hb d_Fr_fits_13 rfl (fun hc => ?_) (fun hc => ?_)
  · replace h := (if_pos hc).symm.trans h
    refine lv_iconst (v := 0) hx hb d_Fr_fits_20 rfl ?_
    exact t_Fr_fits_21 hC   hI (lv_sub hl [] rfl) h
  · replace h := (if_neg hc).symm.trans h
    refine lv_iconst (v := 1) hx hb d_Fr_fits_16 rfl ?_
    refine lv_goto (tgt := 21) hx hb d_Fr_fits_17 rfl ?_
    exact t_Fr_fits_21 hC   hI (lv_sub hl [] rfl) h
end
theorem d_Wr_refuse_0 : decode cc_Wr_refuse 0 = .ok (.aload_n 0, 1) := by decide +kernel
theorem d_Wr_refuse_1 : decode cc_Wr_refuse 1 = .ok (.iconst 0, 1) := by decide +kernel
theorem d_Wr_refuse_2 : decode cc_Wr_refuse 2 = .ok (.putfield 25, 3) := by decide +kernel
theorem d_Wr_refuse_5 : decode cc_Wr_refuse 5 = .ok (.return_, 1) := by decide +kernel
section
variable {p : Program} {l : Launch} {e : Env} {s : State} {m : MethodId} {args : Array Value} {below : List Frame} {meth : Method} {c : Code} {X : Xs} {L : La}
def f_Wr_refuse (L : La) (i0 : Nat) (F : Mem) : Option Mem :=
  if ¬ ((0 : Int32) = 0 ∨ (0 : Int32) = 1) then none else
  lt' (u2 F i0 3 (0 : Int32)) fun F1 =>
  some F1
set_option maxHeartbeats 4000000 in
theorem c_Wr_refuse (l : Launch) {X : Xs} {L : La} (hW : WT L) {out : Mem} {i0 : Nat} {F : Mem} (o0 : oO L 7 i0) (h : f_Wr_refuse L i0 F = some out) : Met l y_Wr_refuse w_Wr_refuse r_Wr_refuse (va_Pc [.ref (mAd X i0)] (Pr X L F)) (QV X L out) 0 0 (AA X L) := by
  refine mk_met (by decide) rfl (Nat.le_of_ble_eq_true rfl) hW ?_
  intro p e s m args below meth c ls hC hI hl
  have hl : lv_has ls 1 [(0, .ref (mAd X i0))] := hl
  generalize hHe : s.heap = H at hI ⊢
  generalize ([] : List Loc) = locs at hI ⊢
  unfold f_Wr_refuse at h
  obtain ⟨S, hK, hT, hW, hr, hlk⟩ := id hC
  have hx := S.1
  have hb := S.2.1
  refine lv_aload_n hx hb d_Wr_refuse_0 rfl (lv_at hl 0 rfl) ?_
  refine lv_iconst (v := 0) hx hb d_Wr_refuse_1 rfl ?_
  obtain ⟨z3, h⟩ := un_if h
  refine w_putZ (T := T_Wr) S hK hI o0 rfl hin_Wr ty_Wr tk_Wr nm_Wr 3 (index := 25) (by decide) lf_Wr_25 rfl z3 d_Wr_refuse_2 (fun H locs F1 e2 hI => ?_)
  replace h := un_lt h _ e2
  exact w_vret S hK hr hlk hI d_Wr_refuse_5 h
end
theorem d_Fr_readRaw_0 : decode cc_Fr_readRaw 0 = .ok (.iload_n 1, 1) := by decide +kernel
theorem d_Fr_readRaw_1 : decode cc_Fr_readRaw 1 = .ok (.aload_n 0, 1) := by decide +kernel
theorem d_Fr_readRaw_2 : decode cc_Fr_readRaw 2 = .ok (.getfield 42, 3) := by decide +kernel
theorem d_Fr_readRaw_5 : decode cc_Fr_readRaw 5 = .ok (.invokevirtual 113, 3) := by decide +kernel
theorem d_Fr_readRaw_8 : decode cc_Fr_readRaw 8 = .ok (.if_icmp .gt (11), 3) := by decide +kernel
theorem d_Fr_readRaw_11 : decode cc_Fr_readRaw 11 = .ok (.aload_n 0, 1) := by decide +kernel
theorem d_Fr_readRaw_12 : decode cc_Fr_readRaw 12 = .ok (.iload_n 1, 1) := by decide +kernel
theorem d_Fr_readRaw_13 : decode cc_Fr_readRaw 13 = .ok (.invokevirtual 116, 3) := by decide +kernel
theorem d_Fr_readRaw_16 : decode cc_Fr_readRaw 16 = .ok (.ifCond .ne (11), 3) := by decide +kernel
theorem d_Fr_readRaw_19 : decode cc_Fr_readRaw 19 = .ok (.aload_n 0, 1) := by decide +kernel
theorem d_Fr_readRaw_20 : decode cc_Fr_readRaw 20 = .ok (.getfield 42, 3) := by decide +kernel
theorem d_Fr_readRaw_23 : decode cc_Fr_readRaw 23 = .ok (.invokevirtual 85, 3) := by decide +kernel
theorem d_Fr_readRaw_26 : decode cc_Fr_readRaw 26 = .ok (.return_, 1) := by decide +kernel
theorem d_Fr_readRaw_27 : decode cc_Fr_readRaw 27 = .ok (.iconst 0, 1) := by decide +kernel
theorem d_Fr_readRaw_28 : decode cc_Fr_readRaw 28 = .ok (.istore_n 2, 1) := by decide +kernel
theorem d_Fr_readRaw_29 : decode cc_Fr_readRaw 29 = .ok (.iload_n 2, 1) := by decide +kernel
theorem d_Fr_readRaw_30 : decode cc_Fr_readRaw 30 = .ok (.iload_n 1, 1) := by decide +kernel
theorem d_Fr_readRaw_31 : decode cc_Fr_readRaw 31 = .ok (.if_icmp .ge (23), 3) := by decide +kernel
theorem d_Fr_readRaw_34 : decode cc_Fr_readRaw 34 = .ok (.aload_n 0, 1) := by decide +kernel
theorem d_Fr_readRaw_35 : decode cc_Fr_readRaw 35 = .ok (.getfield 14, 3) := by decide +kernel
theorem d_Fr_readRaw_38 : decode cc_Fr_readRaw 38 = .ok (.aload_n 0, 1) := by decide +kernel
theorem d_Fr_readRaw_39 : decode cc_Fr_readRaw 39 = .ok (.getfield 42, 3) := by decide +kernel
theorem d_Fr_readRaw_42 : decode cc_Fr_readRaw 42 = .ok (.invokevirtual 58, 3) := by decide +kernel
theorem d_Fr_readRaw_45 : decode cc_Fr_readRaw 45 = .ok (.invokevirtual 119, 3) := by decide +kernel
theorem d_Fr_readRaw_48 : decode cc_Fr_readRaw 48 = .ok (.iinc 2 (1), 3) := by decide +kernel
theorem d_Fr_readRaw_51 : decode cc_Fr_readRaw 51 = .ok (.goto (-22), 3) := by decide +kernel
theorem d_Fr_readRaw_54 : decode cc_Fr_readRaw 54 = .ok (.return_, 1) := by decide +kernel
section
variable {p : Program} {l : Launch} {e : Env} {s : State} {m : MethodId} {args : Array Value} {below : List Frame} {meth : Method} {c : Code} {X : Xs} {L : La}
def b_Fr_readRaw_19 (L : La)  (i0 : Nat) (F : Mem) : Option Mem :=
  (f_Wr_refuse L (mRf L i0 1) F).bind fun F2 =>
  some F2
set_option maxHeartbeats 4000000 in
theorem t_Fr_readRaw_19 (hC : Cx X L p s m args meth c cc_Fr_readRaw 3 w_Fr_readRaw R_Fr none)  {out : Mem}  {i0 : Nat} {F : Mem} {H : Heap} {locs : List Loc} {ls : Array Slot} (o0 : oO L 9 i0) (hI : Iv X L s H locs F) (hl : lv_has ls 3 [(0, .ref (mAd X i0))]) (h : b_Fr_readRaw_19 L  i0 F = some out) : W p l e (headSpec w_Fr_readRaw r_Fr_readRaw).room s m args below meth c H locs 0 0 (MQ below (QV X L out) args s 0 0 (AA X L)) (F0 m 19 ls []) := by
  unfold b_Fr_readRaw_19 at h
  obtain ⟨S, hK, hT, hW, hr, hlk⟩ := id hC
  have hx := S.1
  have hb := S.2.1
  refine lv_aload_n hx hb d_Fr_readRaw_19 rfl (lv_at hl 0 rfl) ?_
  have p1 := wt_o hW o0 1 7 rfl (by decide) (by decide) (by decide)
  refine w_getR (T := T_Fr) S hK hI o0 rfl hin_Fr 1 (index := 42) (by decide) lf_Fr_42 d_Fr_readRaw_20 ?_
  obtain ⟨F2, e3, h⟩ := un_bi h
  refine w_callVv (As := []) (rest := []) S hK hI hT (c_Wr_refuse l hW p1 e3) (cwV 0 S.2.2.2.2 (gd_V lc_Wr_refuse lm_Fr_85 li_Wr_refuse ls_Wr_refuse ln_Wr) rfl rfl rfl hd_Wr_refuse ⟨Nat.le_of_ble_eq_true rfl, Nat.le_of_ble_eq_true rfl⟩) p1 rfl (by decide) rfl rfl hl.1 (Nat.le_of_ble_eq_true rfl) d_Fr_readRaw_23 ⟨Nat.zero_le _, Nat.zero_le _⟩ (fun H locs hI => ?_)
  exact w_vret S hK hr hlk hI d_Fr_readRaw_26 h
def b_Fr_readRaw_29 (L : La) (k29 : Nat → Int32 → Int32 → Mem → Option Mem) (i0 : Nat) (x1 : Int32) (x2 : Int32) (F : Mem) : Option Mem :=
  if x1 ≤ x2 then
    some F
  else
    (f_Wr_takeByte L (mRf L i0 1) F).bind fun q3 =>
    (f_Row_add L (mRf L i0 0) q3.1 q3.2).bind fun F5 =>
    k29 i0 x1 (x2 + (1 : Int32)) F5
set_option maxHeartbeats 4000000 in
theorem t_Fr_readRaw_29 (hC : Cx X L p s m args meth c cc_Fr_readRaw 3 w_Fr_readRaw R_Fr none) {k29 : Nat → Int32 → Int32 → Mem → Option Mem} {out : Mem} (hk29 : ∀ (i0 : Nat) (x1 : Int32) (x2 : Int32) (F : Mem) (H : Heap) (locs : List Loc) (ls : Array Slot), oO L 9 i0 → Iv X L s H locs F → lv_has ls 3 [(0, .ref (mAd X i0)), (1, .int x1), (2, .int x2)] → k29 i0 x1 x2 F = some out → W p l e (headSpec w_Fr_readRaw r_Fr_readRaw).room s m args below meth c H locs 0 0 (MQ below (QV X L out) args s 0 0 (AA X L)) (F0 m 29 ls [])) {i0 : Nat} {x1 : Int32} {x2 : Int32} {F : Mem} {H : Heap} {locs : List Loc} {ls : Array Slot} (o0 : oO L 9 i0) (hI : Iv X L s H locs F) (hl : lv_has ls 3 [(0, .ref (mAd X i0)), (1, .int x1), (2, .int x2)]) (h : b_Fr_readRaw_29 L k29 i0 x1 x2 F = some out) : W p l e (headSpec w_Fr_readRaw r_Fr_readRaw).room s m args below meth c H locs 0 0 (MQ below (QV X L out) args s 0 0 (AA X L)) (F0 m 29 ls []) := by
  unfold b_Fr_readRaw_29 at h
  obtain ⟨S, hK, hT, hW, hr, hlk⟩ := id hC
  have hx := S.1
  have hb := S.2.1
  refine lv_iload_n hx hb d_Fr_readRaw_29 rfl (lv_at hl 2 rfl) ?_
  refine lv_iload_n hx hb d_Fr_readRaw_30 rfl (lv_at hl 1 rfl) ?_
  refine lv_icmp_ge (tgt := 54) hx hb d_Fr_readRaw_31 rfl (fun hc => ?_) (fun hc => ?_)
  · replace h := (if_pos hc).symm.trans h
    exact w_vret S hK hr hlk hI d_Fr_readRaw_54 h
  · replace h := (if_neg hc).symm.trans h
    refine lv_aload_n hx hb d_Fr_readRaw_34 rfl (lv_at hl 0 rfl) ?_
    have p1 := wt_o hW o0 0 1 rfl (by decide) (by decide) (by decide)
    refine w_getR (T := T_Fr) S hK hI o0 rfl hin_Fr 0 (index := 14) (by decide) lf_Fr_14 d_Fr_readRaw_35 ?_
    refine lv_aload_n hx hb d_Fr_readRaw_38 rfl (lv_at hl 0 rfl) ?_
    have p2 := wt_o hW o0 1 7 rfl (by decide) (by decide) (by decide)
    refine w_getR (T := T_Fr) S hK hI o0 rfl hin_Fr 1 (index := 42) (by decide) lf_Fr_42 d_Fr_readRaw_39 ?_
    obtain ⟨q3, e4, h⟩ := un_bi h
    refine w_callVi (As := []) (rest := [.ref (mAd X (mRf L i0 0))]) S hK hI hT (c_Wr_takeByte l hW p2 e4) (cwV 0 S.2.2.2.2 (gd_V lc_Wr_takeByte lm_Fr_58 li_Wr_takeByte ls_Wr_takeByte ln_Wr) rfl rfl rfl hd_Wr_takeByte ⟨Nat.le_of_ble_eq_true rfl, Nat.le_of_ble_eq_true rfl⟩) p2 rfl (by decide) rfl rfl hl.1 (Nat.le_of_ble_eq_true rfl) d_Fr_readRaw_42 ⟨Nat.zero_le _, Nat.zero_le _⟩ (fun H locs hI => ?_)
    obtain ⟨F5, e6, h⟩ := un_bi h
    refine w_callVv (As := [.int q3.1]) (rest := []) S hK hI hT (c_Row_add l hW p1 e6) (cwV 1 S.2.2.2.2 (gd_V lc_Row_add lm_Fr_119 li_Row_add ls_Row_add ln_Row) rfl rfl rfl hd_Row_add ⟨Nat.le_of_ble_eq_true rfl, Nat.le_of_ble_eq_true rfl⟩) p1 rfl (by decide) rfl rfl hl.1 (Nat.le_of_ble_eq_true rfl) d_Fr_readRaw_45 ⟨Nat.zero_le _, Nat.zero_le _⟩ (fun H locs hI => ?_)
    refine lv_iinc (k := 2) (v := x2 + (1 : Int32)) (lv' := [(2, .int (x2 + (1 : Int32))), (0, .ref (mAd X i0)), (1, .int x1)]) hx hb d_Fr_readRaw_48 hl rfl rfl (by decide) rfl (fun ls hl => ?_)
    refine lv_goto (tgt := 29) hx hb d_Fr_readRaw_51 rfl ?_
    exact hk29 _ _ _ _ _ _ _ o0 hI (lv_sub hl [1, 2, 0] rfl) h
def f_Fr_readRaw_29 (L : La)  : Nat → Nat → Int32 → Int32 → Mem → Option Mem
  | 0 => fun _ _ _ _ => none
  | n + 1 => b_Fr_readRaw_29 L (f_Fr_readRaw_29 L  n)
theorem tf_Fr_readRaw_29 (hC : Cx X L p s m args meth c cc_Fr_readRaw 3 w_Fr_readRaw R_Fr none)  {out : Mem}  (n : Nat) : ∀ (i0 : Nat) (x1 : Int32) (x2 : Int32) (F : Mem) (H : Heap) (locs : List Loc) (ls : Array Slot), oO L 9 i0 → Iv X L s H locs F → lv_has ls 3 [(0, .ref (mAd X i0)), (1, .int x1), (2, .int x2)] → f_Fr_readRaw_29 L  n i0 x1 x2 F = some out → W p l e (headSpec w_Fr_readRaw r_Fr_readRaw).room s m args below meth c H locs 0 0 (MQ below (QV X L out) args s 0 0 (AA X L)) (F0 m 29 ls []) := by
  induction n with
  | zero => intro i0 x1 x2 F H locs ls o0 hI hl h; cases h
  | succ n ih => intro i0 x1 x2 F H locs ls o0 hI hl h; exact t_Fr_readRaw_29 hC ih o0 hI hl h
def f_Fr_readRaw (L : La) (i0 : Nat) (x1 : Int32) (F : Mem) : Option Mem :=
  (f_Wr_bytesLeft L (mRf L i0 1) F).bind fun q2 =>
  if q2.1 < x1 then
    b_Fr_readRaw_19 L  i0 q2.2
  else
    (f_Fr_fits L i0 x1 q2.2).bind fun q4 =>
    if q4.1 = 0 then
      b_Fr_readRaw_19 L  i0 q4.2
    else
      f_Fr_readRaw_29 L  mFU i0 x1 (0 : Int32) q4.2
set_option maxHeartbeats 4000000 in
theorem c_Fr_readRaw (l : Launch) {X : Xs} {L : La} (hW : WT L) {out : Mem} {i0 : Nat} {x1 : Int32} {F : Mem} (o0 : oO L 9 i0) (h : f_Fr_readRaw L i0 x1 F = some out) : Met l y_Fr_readRaw w_Fr_readRaw r_Fr_readRaw (va_Pc [.ref (mAd X i0), .int x1] (Pr X L F)) (QV X L out) 0 0 (AA X L) := by
  refine mk_met (by decide) rfl (Nat.le_of_ble_eq_true rfl) hW ?_
  intro p e s m args below meth c ls hC hI hl
  have hl : lv_has ls 3 [(0, .ref (mAd X i0)), (1, .int x1)] := hl
  generalize hHe : s.heap = H at hI ⊢
  generalize ([] : List Loc) = locs at hI ⊢
  unfold f_Fr_readRaw at h
  obtain ⟨S, hK, hT, hW, hr, hlk⟩ := id hC
  have hx := S.1
  have hb := S.2.1
  refine lv_iload_n hx hb d_Fr_readRaw_0 rfl (lv_at hl 1 rfl) ?_
  refine lv_aload_n hx hb d_Fr_readRaw_1 rfl (lv_at hl 0 rfl) ?_
  have p1 := wt_o hW o0 1 7 rfl (by decide) (by decide) (by decide)
  refine w_getR (T := T_Fr) S hK hI o0 rfl hin_Fr 1 (index := 42) (by decide) lf_Fr_42 d_Fr_readRaw_2 ?_
  obtain ⟨q2, e3, h⟩ := un_bi h
  refine w_callVi (As := []) (rest := [.int x1]) S hK hI hT (c_Wr_bytesLeft l hW p1 e3) (cwV 0 S.2.2.2.2 (gd_V lc_Wr_bytesLeft lm_Fr_113 li_Wr_bytesLeft ls_Wr_bytesLeft ln_Wr) rfl rfl rfl hd_Wr_bytesLeft ⟨Nat.le_of_ble_eq_true rfl, Nat.le_of_ble_eq_true rfl⟩) p1 rfl (by decide) rfl rfl hl.1 (Nat.le_of_ble_eq_true rfl) d_Fr_readRaw_5 ⟨Nat.zero_le _, Nat.zero_le _⟩ (fun H locs hI => ?_)
  refine lv_icmp_gt (tgt := 19) hx hb d_Fr_readRaw_8 rfl (fun hc => ?_) (fun hc => ?_)
  · replace h := (if_pos hc).symm.trans h
    exact t_Fr_readRaw_19 hC  o0 hI (lv_sub hl [0] rfl) h
  · replace h := (if_neg hc).symm.trans h
    refine lv_aload_n hx hb d_Fr_readRaw_11 rfl (lv_at hl 0 rfl) ?_
    refine lv_iload_n hx hb d_Fr_readRaw_12 rfl (lv_at hl 1 rfl) ?_
    obtain ⟨q4, e5, h⟩ := un_bi h
    refine w_callVi (As := [.int x1]) (rest := []) S hK hI hT (c_Fr_fits l hW o0 e5) (cwV 1 S.2.2.2.2 (gd_V lc_Fr_fits lm_Fr_116 li_Fr_fits ls_Fr_fits ln_Fr) rfl rfl rfl hd_Fr_fits ⟨Nat.le_of_ble_eq_true rfl, Nat.le_of_ble_eq_true rfl⟩) o0 rfl (by decide) rfl rfl hl.1 (Nat.le_of_ble_eq_true rfl) d_Fr_readRaw_13 ⟨Nat.zero_le _, Nat.zero_le _⟩ (fun H locs hI => ?_)
    refine lv_if_ne (tgt := 27) hx hb d_Fr_readRaw_16 rfl (fun hc => ?_) (fun hc => ?_)
    · replace h := (if_neg hc).symm.trans h
      refine lv_iconst (v := 0) hx hb d_Fr_readRaw_27 rfl ?_
      refine lv_istore_n (lv' := [(2, .int (0 : Int32)), (0, .ref (mAd X i0)), (1, .int x1)]) hx hb d_Fr_readRaw_28 rfl hl (by decide) rfl (fun ls hl => ?_)
      exact tf_Fr_readRaw_29 hC  mFU _ _ _ _ _ _ _ o0 hI (lv_sub hl [1, 2, 0] rfl) h
    · replace h := (if_pos hc).symm.trans h
      exact t_Fr_readRaw_19 hC  o0 hI (lv_sub hl [0] rfl) h
end
theorem d_Fr_readRun_0 : decode cc_Fr_readRun 0 = .ok (.aload_n 0, 1) := by decide +kernel
theorem d_Fr_readRun_1 : decode cc_Fr_readRun 1 = .ok (.getfield 42, 3) := by decide +kernel
theorem d_Fr_readRun_4 : decode cc_Fr_readRun 4 = .ok (.invokevirtual 58, 3) := by decide +kernel
theorem d_Fr_readRun_7 : decode cc_Fr_readRun 7 = .ok (.istore_n 2, 1) := by decide +kernel
theorem d_Fr_readRun_8 : decode cc_Fr_readRun 8 = .ok (.aload_n 0, 1) := by decide +kernel
theorem d_Fr_readRun_9 : decode cc_Fr_readRun 9 = .ok (.iload_n 1, 1) := by decide +kernel
theorem d_Fr_readRun_10 : decode cc_Fr_readRun 10 = .ok (.invokevirtual 116, 3) := by decide +kernel
theorem d_Fr_readRun_13 : decode cc_Fr_readRun 13 = .ok (.ifCond .eq (15), 3) := by decide +kernel
theorem d_Fr_readRun_16 : decode cc_Fr_readRun 16 = .ok (.aload_n 0, 1) := by decide +kernel
theorem d_Fr_readRun_17 : decode cc_Fr_readRun 17 = .ok (.getfield 14, 3) := by decide +kernel
theorem d_Fr_readRun_20 : decode cc_Fr_readRun 20 = .ok (.iload_n 2, 1) := by decide +kernel
theorem d_Fr_readRun_21 : decode cc_Fr_readRun 21 = .ok (.iload_n 1, 1) := by decide +kernel
theorem d_Fr_readRun_22 : decode cc_Fr_readRun 22 = .ok (.invokevirtual 122, 3) := by decide +kernel
theorem d_Fr_readRun_25 : decode cc_Fr_readRun 25 = .ok (.goto (10), 3) := by decide +kernel
theorem d_Fr_readRun_28 : decode cc_Fr_readRun 28 = .ok (.aload_n 0, 1) := by decide +kernel
theorem d_Fr_readRun_29 : decode cc_Fr_readRun 29 = .ok (.getfield 42, 3) := by decide +kernel
theorem d_Fr_readRun_32 : decode cc_Fr_readRun 32 = .ok (.invokevirtual 85, 3) := by decide +kernel
theorem d_Fr_readRun_35 : decode cc_Fr_readRun 35 = .ok (.return_, 1) := by decide +kernel
section
variable {p : Program} {l : Launch} {e : Env} {s : State} {m : MethodId} {args : Array Value} {below : List Frame} {meth : Method} {c : Code} {X : Xs} {L : La}
def b_Fr_readRun_35 (L : La)   (F : Mem) : Option Mem :=
  some F
set_option maxHeartbeats 4000000 in
theorem t_Fr_readRun_35 (hC : Cx X L p s m args meth c cc_Fr_readRun 3 w_Fr_readRun R_Fr none)  {out : Mem}   {F : Mem} {H : Heap} {locs : List Loc} {ls : Array Slot}  (hI : Iv X L s H locs F) (hl : lv_has ls 3 []) (h : b_Fr_readRun_35 L   F = some out) : W p l e (headSpec w_Fr_readRun r_Fr_readRun).room s m args below meth c H locs 0 0 (MQ below (QV X L out) args s 0 0 (AA X L)) (F0 m 35 ls []) := by
  unfold b_Fr_readRun_35 at h
  obtain ⟨S, hK, hT, hW, hr, hlk⟩ := id hC
  have hx := S.1
  have hb := S.2.1
  exact w_vret S hK hr hlk hI d_Fr_readRun_35 h
def f_Fr_readRun (L : La) (i0 : Nat) (x1 : Int32) (F : Mem) : Option Mem :=
  (f_Wr_takeByte L (mRf L i0 1) F).bind fun q2 =>
  (f_Fr_fits L i0 x1 q2.2).bind fun q4 =>
  if q4.1 = 0 then
    (f_Wr_refuse L (mRf L i0 1) q4.2).bind fun F7 =>
    b_Fr_readRun_35 L   F7
  else
    (f_Row_addTimes L (mRf L i0 0) q2.1 x1 q4.2).bind fun F10 =>
    b_Fr_readRun_35 L   F10
set_option maxHeartbeats 4000000 in
theorem c_Fr_readRun (l : Launch) {X : Xs} {L : La} (hW : WT L) {out : Mem} {i0 : Nat} {x1 : Int32} {F : Mem} (o0 : oO L 9 i0) (h : f_Fr_readRun L i0 x1 F = some out) : Met l y_Fr_readRun w_Fr_readRun r_Fr_readRun (va_Pc [.ref (mAd X i0), .int x1] (Pr X L F)) (QV X L out) 0 0 (AA X L) := by
  refine mk_met (by decide) rfl (Nat.le_of_ble_eq_true rfl) hW ?_
  intro p e s m args below meth c ls hC hI hl
  have hl : lv_has ls 3 [(0, .ref (mAd X i0)), (1, .int x1)] := hl
  generalize hHe : s.heap = H at hI ⊢
  generalize ([] : List Loc) = locs at hI ⊢
  unfold f_Fr_readRun at h
  obtain ⟨S, hK, hT, hW, hr, hlk⟩ := id hC
  have hx := S.1
  have hb := S.2.1
  refine lv_aload_n hx hb d_Fr_readRun_0 rfl (lv_at hl 0 rfl) ?_
  have p1 := wt_o hW o0 1 7 rfl (by decide) (by decide) (by decide)
  refine w_getR (T := T_Fr) S hK hI o0 rfl hin_Fr 1 (index := 42) (by decide) lf_Fr_42 d_Fr_readRun_1 ?_
  obtain ⟨q2, e3, h⟩ := un_bi h
  refine w_callVi (As := []) (rest := []) S hK hI hT (c_Wr_takeByte l hW p1 e3) (cwV 0 S.2.2.2.2 (gd_V lc_Wr_takeByte lm_Fr_58 li_Wr_takeByte ls_Wr_takeByte ln_Wr) rfl rfl rfl hd_Wr_takeByte ⟨Nat.le_of_ble_eq_true rfl, Nat.le_of_ble_eq_true rfl⟩) p1 rfl (by decide) rfl rfl hl.1 (Nat.le_of_ble_eq_true rfl) d_Fr_readRun_4 ⟨Nat.zero_le _, Nat.zero_le _⟩ (fun H locs hI => ?_)
  refine lv_istore_n (lv' := [(2, .int q2.1), (0, .ref (mAd X i0)), (1, .int x1)]) hx hb d_Fr_readRun_7 rfl hl (by decide) rfl (fun ls hl => ?_)
  refine lv_aload_n hx hb d_Fr_readRun_8 rfl (lv_at hl 1 rfl) ?_
  refine lv_iload_n hx hb d_Fr_readRun_9 rfl (lv_at hl 2 rfl) ?_
  obtain ⟨q4, e5, h⟩ := un_bi h
  refine w_callVi (As := [.int x1]) (rest := []) S hK hI hT (c_Fr_fits l hW o0 e5) (cwV 1 S.2.2.2.2 (gd_V lc_Fr_fits lm_Fr_116 li_Fr_fits ls_Fr_fits ln_Fr) rfl rfl rfl hd_Fr_fits ⟨Nat.le_of_ble_eq_true rfl, Nat.le_of_ble_eq_true rfl⟩) o0 rfl (by decide) rfl rfl hl.1 (Nat.le_of_ble_eq_true rfl) d_Fr_readRun_10 ⟨Nat.zero_le _, Nat.zero_le _⟩ (fun H locs hI => ?_)
  refine lv_if_eq (tgt := 28) hx hb d_Fr_readRun_13 rfl (fun hc => ?_) (fun hc => ?_)
  · replace h := (if_pos hc).symm.trans h
    refine lv_aload_n hx hb d_Fr_readRun_28 rfl (lv_at hl 1 rfl) ?_
    have p6 := wt_o hW o0 1 7 rfl (by decide) (by decide) (by decide)
    refine w_getR (T := T_Fr) S hK hI o0 rfl hin_Fr 1 (index := 42) (by decide) lf_Fr_42 d_Fr_readRun_29 ?_
    obtain ⟨F7, e8, h⟩ := un_bi h
    refine w_callVv (As := []) (rest := []) S hK hI hT (c_Wr_refuse l hW p6 e8) (cwV 0 S.2.2.2.2 (gd_V lc_Wr_refuse lm_Fr_85 li_Wr_refuse ls_Wr_refuse ln_Wr) rfl rfl rfl hd_Wr_refuse ⟨Nat.le_of_ble_eq_true rfl, Nat.le_of_ble_eq_true rfl⟩) p6 rfl (by decide) rfl rfl hl.1 (Nat.le_of_ble_eq_true rfl) d_Fr_readRun_32 ⟨Nat.zero_le _, Nat.zero_le _⟩ (fun H locs hI => ?_)
    exact t_Fr_readRun_35 hC   hI (lv_sub hl [] rfl) h
  · replace h := (if_neg hc).symm.trans h
    refine lv_aload_n hx hb d_Fr_readRun_16 rfl (lv_at hl 1 rfl) ?_
    have p9 := wt_o hW o0 0 1 rfl (by decide) (by decide) (by decide)
    refine w_getR (T := T_Fr) S hK hI o0 rfl hin_Fr 0 (index := 14) (by decide) lf_Fr_14 d_Fr_readRun_17 ?_
    refine lv_iload_n hx hb d_Fr_readRun_20 rfl (lv_at hl 0 rfl) ?_
    refine lv_iload_n hx hb d_Fr_readRun_21 rfl (lv_at hl 2 rfl) ?_
    obtain ⟨F10, e11, h⟩ := un_bi h
    refine w_callVv (As := [.int q2.1, .int x1]) (rest := []) S hK hI hT (c_Row_addTimes l hW p9 e11) (cwV 2 S.2.2.2.2 (gd_V lc_Row_addTimes lm_Fr_122 li_Row_addTimes ls_Row_addTimes ln_Row) rfl rfl rfl hd_Row_addTimes ⟨Nat.le_of_ble_eq_true rfl, Nat.le_of_ble_eq_true rfl⟩) p9 rfl (by decide) rfl rfl hl.1 (Nat.le_of_ble_eq_true rfl) d_Fr_readRun_22 ⟨Nat.zero_le _, Nat.zero_le _⟩ (fun H locs hI => ?_)
    refine lv_goto (tgt := 35) hx hb d_Fr_readRun_25 rfl ?_
    exact t_Fr_readRun_35 hC   hI (lv_sub hl [] rfl) h
end
theorem d_Wr_takeHalves_0 : decode cc_Wr_takeHalves 0 = .ok (.iload_n 2, 1) := by decide +kernel
theorem d_Wr_takeHalves_1 : decode cc_Wr_takeHalves 1 = .ok (.iconst 1, 1) := by decide +kernel
theorem d_Wr_takeHalves_2 : decode cc_Wr_takeHalves 2 = .ok (.iadd, 1) := by decide +kernel
theorem d_Wr_takeHalves_3 : decode cc_Wr_takeHalves 3 = .ok (.iconst 2, 1) := by decide +kernel
theorem d_Wr_takeHalves_4 : decode cc_Wr_takeHalves 4 = .ok (.idiv, 1) := by decide +kernel
theorem d_Wr_takeHalves_5 : decode cc_Wr_takeHalves 5 = .ok (.aload_n 0, 1) := by decide +kernel
theorem d_Wr_takeHalves_6 : decode cc_Wr_takeHalves 6 = .ok (.getfield 22, 3) := by decide +kernel
theorem d_Wr_takeHalves_9 : decode cc_Wr_takeHalves 9 = .ok (.aload_n 0, 1) := by decide +kernel
theorem d_Wr_takeHalves_10 : decode cc_Wr_takeHalves 10 = .ok (.getfield 13, 3) := by decide +kernel
theorem d_Wr_takeHalves_13 : decode cc_Wr_takeHalves 13 = .ok (.isub, 1) := by decide +kernel
theorem d_Wr_takeHalves_14 : decode cc_Wr_takeHalves 14 = .ok (.if_icmp .le (9), 3) := by decide +kernel
theorem d_Wr_takeHalves_17 : decode cc_Wr_takeHalves 17 = .ok (.aload_n 0, 1) := by decide +kernel
theorem d_Wr_takeHalves_18 : decode cc_Wr_takeHalves 18 = .ok (.iconst 0, 1) := by decide +kernel
theorem d_Wr_takeHalves_19 : decode cc_Wr_takeHalves 19 = .ok (.putfield 25, 3) := by decide +kernel
theorem d_Wr_takeHalves_22 : decode cc_Wr_takeHalves 22 = .ok (.return_, 1) := by decide +kernel
theorem d_Wr_takeHalves_23 : decode cc_Wr_takeHalves 23 = .ok (.iconst 0, 1) := by decide +kernel
theorem d_Wr_takeHalves_24 : decode cc_Wr_takeHalves 24 = .ok (.istore_n 3, 1) := by decide +kernel
theorem d_Wr_takeHalves_25 : decode cc_Wr_takeHalves 25 = .ok (.iload_n 3, 1) := by decide +kernel
theorem d_Wr_takeHalves_26 : decode cc_Wr_takeHalves 26 = .ok (.iload_n 2, 1) := by decide +kernel
theorem d_Wr_takeHalves_27 : decode cc_Wr_takeHalves 27 = .ok (.if_icmp .ge (48), 3) := by decide +kernel
theorem d_Wr_takeHalves_30 : decode cc_Wr_takeHalves 30 = .ok (.aload_n 0, 1) := by decide +kernel
theorem d_Wr_takeHalves_31 : decode cc_Wr_takeHalves 31 = .ok (.getfield 7, 3) := by decide +kernel
theorem d_Wr_takeHalves_34 : decode cc_Wr_takeHalves 34 = .ok (.getfield 32, 3) := by decide +kernel
theorem d_Wr_takeHalves_37 : decode cc_Wr_takeHalves 37 = .ok (.aload_n 0, 1) := by decide +kernel
theorem d_Wr_takeHalves_38 : decode cc_Wr_takeHalves 38 = .ok (.getfield 13, 3) := by decide +kernel
theorem d_Wr_takeHalves_41 : decode cc_Wr_takeHalves 41 = .ok (.iload_n 3, 1) := by decide +kernel
theorem d_Wr_takeHalves_42 : decode cc_Wr_takeHalves 42 = .ok (.iconst 2, 1) := by decide +kernel
theorem d_Wr_takeHalves_43 : decode cc_Wr_takeHalves 43 = .ok (.idiv, 1) := by decide +kernel
theorem d_Wr_takeHalves_44 : decode cc_Wr_takeHalves 44 = .ok (.iadd, 1) := by decide +kernel
theorem d_Wr_takeHalves_45 : decode cc_Wr_takeHalves 45 = .ok (.iaload, 1) := by decide +kernel
theorem d_Wr_takeHalves_46 : decode cc_Wr_takeHalves 46 = .ok (.istore 4, 2) := by decide +kernel
theorem d_Wr_takeHalves_48 : decode cc_Wr_takeHalves 48 = .ok (.aload_n 1, 1) := by decide +kernel
theorem d_Wr_takeHalves_49 : decode cc_Wr_takeHalves 49 = .ok (.iload_n 3, 1) := by decide +kernel
theorem d_Wr_takeHalves_50 : decode cc_Wr_takeHalves 50 = .ok (.iload_n 3, 1) := by decide +kernel
theorem d_Wr_takeHalves_51 : decode cc_Wr_takeHalves 51 = .ok (.iconst 2, 1) := by decide +kernel
theorem d_Wr_takeHalves_52 : decode cc_Wr_takeHalves 52 = .ok (.irem, 1) := by decide +kernel
theorem d_Wr_takeHalves_53 : decode cc_Wr_takeHalves 53 = .ok (.ifCond .ne (10), 3) := by decide +kernel
theorem d_Wr_takeHalves_56 : decode cc_Wr_takeHalves 56 = .ok (.iload 4, 2) := by decide +kernel
theorem d_Wr_takeHalves_58 : decode cc_Wr_takeHalves 58 = .ok (.iconst 4, 1) := by decide +kernel
theorem d_Wr_takeHalves_59 : decode cc_Wr_takeHalves 59 = .ok (.ishr, 1) := by decide +kernel
theorem d_Wr_takeHalves_60 : decode cc_Wr_takeHalves 60 = .ok (.goto (8), 3) := by decide +kernel
theorem d_Wr_takeHalves_63 : decode cc_Wr_takeHalves 63 = .ok (.iload 4, 2) := by decide +kernel
theorem d_Wr_takeHalves_65 : decode cc_Wr_takeHalves 65 = .ok (.bipush (15), 2) := by decide +kernel
theorem d_Wr_takeHalves_67 : decode cc_Wr_takeHalves 67 = .ok (.iand, 1) := by decide +kernel
theorem d_Wr_takeHalves_68 : decode cc_Wr_takeHalves 68 = .ok (.iastore, 1) := by decide +kernel
theorem d_Wr_takeHalves_69 : decode cc_Wr_takeHalves 69 = .ok (.iinc 3 (1), 3) := by decide +kernel
theorem d_Wr_takeHalves_72 : decode cc_Wr_takeHalves 72 = .ok (.goto (-47), 3) := by decide +kernel
theorem d_Wr_takeHalves_75 : decode cc_Wr_takeHalves 75 = .ok (.iload_n 2, 1) := by decide +kernel
theorem d_Wr_takeHalves_76 : decode cc_Wr_takeHalves 76 = .ok (.iconst 2, 1) := by decide +kernel
theorem d_Wr_takeHalves_77 : decode cc_Wr_takeHalves 77 = .ok (.irem, 1) := by decide +kernel
theorem d_Wr_takeHalves_78 : decode cc_Wr_takeHalves 78 = .ok (.iconst 1, 1) := by decide +kernel
theorem d_Wr_takeHalves_79 : decode cc_Wr_takeHalves 79 = .ok (.if_icmp .ne (30), 3) := by decide +kernel
theorem d_Wr_takeHalves_82 : decode cc_Wr_takeHalves 82 = .ok (.aload_n 0, 1) := by decide +kernel
theorem d_Wr_takeHalves_83 : decode cc_Wr_takeHalves 83 = .ok (.getfield 7, 3) := by decide +kernel
theorem d_Wr_takeHalves_86 : decode cc_Wr_takeHalves 86 = .ok (.getfield 32, 3) := by decide +kernel
theorem d_Wr_takeHalves_89 : decode cc_Wr_takeHalves 89 = .ok (.aload_n 0, 1) := by decide +kernel
theorem d_Wr_takeHalves_90 : decode cc_Wr_takeHalves 90 = .ok (.getfield 13, 3) := by decide +kernel
theorem d_Wr_takeHalves_93 : decode cc_Wr_takeHalves 93 = .ok (.iload_n 2, 1) := by decide +kernel
theorem d_Wr_takeHalves_94 : decode cc_Wr_takeHalves 94 = .ok (.iconst 2, 1) := by decide +kernel
theorem d_Wr_takeHalves_95 : decode cc_Wr_takeHalves 95 = .ok (.idiv, 1) := by decide +kernel
theorem d_Wr_takeHalves_96 : decode cc_Wr_takeHalves 96 = .ok (.iadd, 1) := by decide +kernel
theorem d_Wr_takeHalves_97 : decode cc_Wr_takeHalves 97 = .ok (.iaload, 1) := by decide +kernel
theorem d_Wr_takeHalves_98 : decode cc_Wr_takeHalves 98 = .ok (.bipush (15), 2) := by decide +kernel
theorem d_Wr_takeHalves_100 : decode cc_Wr_takeHalves 100 = .ok (.iand, 1) := by decide +kernel
theorem d_Wr_takeHalves_101 : decode cc_Wr_takeHalves 101 = .ok (.ifCond .eq (8), 3) := by decide +kernel
theorem d_Wr_takeHalves_104 : decode cc_Wr_takeHalves 104 = .ok (.aload_n 0, 1) := by decide +kernel
theorem d_Wr_takeHalves_105 : decode cc_Wr_takeHalves 105 = .ok (.iconst 0, 1) := by decide +kernel
theorem d_Wr_takeHalves_106 : decode cc_Wr_takeHalves 106 = .ok (.putfield 25, 3) := by decide +kernel
theorem d_Wr_takeHalves_109 : decode cc_Wr_takeHalves 109 = .ok (.aload_n 0, 1) := by decide +kernel
theorem d_Wr_takeHalves_110 : decode cc_Wr_takeHalves 110 = .ok (.dup, 1) := by decide +kernel
theorem d_Wr_takeHalves_111 : decode cc_Wr_takeHalves 111 = .ok (.getfield 13, 3) := by decide +kernel
theorem d_Wr_takeHalves_114 : decode cc_Wr_takeHalves 114 = .ok (.iload_n 2, 1) := by decide +kernel
theorem d_Wr_takeHalves_115 : decode cc_Wr_takeHalves 115 = .ok (.iconst 1, 1) := by decide +kernel
theorem d_Wr_takeHalves_116 : decode cc_Wr_takeHalves 116 = .ok (.iadd, 1) := by decide +kernel
theorem d_Wr_takeHalves_117 : decode cc_Wr_takeHalves 117 = .ok (.iconst 2, 1) := by decide +kernel
theorem d_Wr_takeHalves_118 : decode cc_Wr_takeHalves 118 = .ok (.idiv, 1) := by decide +kernel
theorem d_Wr_takeHalves_119 : decode cc_Wr_takeHalves 119 = .ok (.iadd, 1) := by decide +kernel
theorem d_Wr_takeHalves_120 : decode cc_Wr_takeHalves 120 = .ok (.putfield 13, 3) := by decide +kernel
theorem d_Wr_takeHalves_123 : decode cc_Wr_takeHalves 123 = .ok (.return_, 1) := by decide +kernel
section
variable {p : Program} {l : Launch} {e : Env} {s : State} {m : MethodId} {args : Array Value} {below : List Frame} {meth : Method} {c : Code} {X : Xs} {L : La}
def b_Wr_takeHalves_109 (L : La)  (i0 : Nat) (x2 : Int32) (F : Mem) : Option Mem :=
  lt' (u2 F i0 1 ((F i0 1) + ((x2 + (1 : Int32)) / (2 : Int32)))) fun F1 =>
  some F1
set_option maxHeartbeats 4000000 in
theorem t_Wr_takeHalves_109 (hC : Cx X L p s m args meth c cc_Wr_takeHalves 5 w_Wr_takeHalves R_Wr none)  {out : Mem}  {i0 : Nat} {x2 : Int32} {F : Mem} {H : Heap} {locs : List Loc} {ls : Array Slot} (o0 : oO L 7 i0) (hI : Iv X L s H locs F) (hl : lv_has ls 5 [(0, .ref (mAd X i0)), (2, .int x2)]) (h : b_Wr_takeHalves_109 L  i0 x2 F = some out) : W p l e (headSpec w_Wr_takeHalves r_Wr_takeHalves).room s m args below meth c H locs 0 0 (MQ below (QV X L out) args s 0 0 (AA X L)) (F0 m 109 ls []) := by
  unfold b_Wr_takeHalves_109 at h
  obtain ⟨S, hK, hT, hW, hr, hlk⟩ := id hC
  have hx := S.1
  have hb := S.2.1
  refine lv_aload_n hx hb d_Wr_takeHalves_109 rfl (lv_at hl 0 rfl) ?_
  refine lv_dup hx hb d_Wr_takeHalves_110 rfl ?_
  refine w_getI (T := T_Wr) S hK hI o0 rfl hin_Wr 1 (index := 13) (by decide) lf_Wr_13 d_Wr_takeHalves_111 ?_
  refine lv_iload_n hx hb d_Wr_takeHalves_114 rfl (lv_at hl 1 rfl) ?_
  refine lv_iconst (v := 1) hx hb d_Wr_takeHalves_115 rfl ?_
  refine lv_iadd hx hb d_Wr_takeHalves_116 ?_
  refine lv_iconst (v := 2) hx hb d_Wr_takeHalves_117 rfl ?_
  refine lv_idiv hx hb d_Wr_takeHalves_118 (by decide) ?_
  refine lv_iadd hx hb d_Wr_takeHalves_119 ?_
  refine w_putI (T := T_Wr) S hK hI o0 rfl hin_Wr ty_Wr tk_Wr nm_Wr 1 (index := 13) (by decide) lf_Wr_13 rfl d_Wr_takeHalves_120 (fun H locs F1 e2 hI => ?_)
  replace h := un_lt h _ e2
  exact w_vret S hK hr hlk hI d_Wr_takeHalves_123 h
def b_Wr_takeHalves_68 (L : La) (k25 : Nat → Nat → Int32 → Int32 → Mem → Option Mem) (i0 : Nat) (i1 : Nat) (x2 : Int32) (x3 : Int32) (j0 : Nat) (y1 : Int32) (y2 : Int32) (F : Mem) : Option Mem :=
  if inb y1 (mLn L j0) ∨ ¬ j0 < mNc L then none else
  lt' (u2 F j0 y1.toNatClampNeg y2) fun F2 =>
  k25 i0 i1 x2 (x3 + (1 : Int32)) F2
set_option maxHeartbeats 4000000 in
theorem t_Wr_takeHalves_68 (hC : Cx X L p s m args meth c cc_Wr_takeHalves 5 w_Wr_takeHalves R_Wr none) {k25 : Nat → Nat → Int32 → Int32 → Mem → Option Mem} {out : Mem} (hk25 : ∀ (i0 : Nat) (i1 : Nat) (x2 : Int32) (x3 : Int32) (F : Mem) (H : Heap) (locs : List Loc) (ls : Array Slot), oO L 7 i0 → oA L i1 → Iv X L s H locs F → lv_has ls 5 [(0, .ref (mAd X i0)), (1, .ref (mAd X i1)), (2, .int x2), (3, .int x3)] → k25 i0 i1 x2 x3 F = some out → W p l e (headSpec w_Wr_takeHalves r_Wr_takeHalves).room s m args below meth c H locs 0 0 (MQ below (QV X L out) args s 0 0 (AA X L)) (F0 m 25 ls [])) {i0 : Nat} {i1 : Nat} {x2 : Int32} {x3 : Int32} {j0 : Nat} {y1 : Int32} {y2 : Int32} {F : Mem} {H : Heap} {locs : List Loc} {ls : Array Slot} (o0 : oO L 7 i0) (o1 : oA L i1) (oy0 : oA L j0) (hI : Iv X L s H locs F) (hl : lv_has ls 5 [(0, .ref (mAd X i0)), (1, .ref (mAd X i1)), (2, .int x2), (3, .int x3)]) (h : b_Wr_takeHalves_68 L k25 i0 i1 x2 x3 j0 y1 y2 F = some out) : W p l e (headSpec w_Wr_takeHalves r_Wr_takeHalves).room s m args below meth c H locs 0 0 (MQ below (QV X L out) args s 0 0 (AA X L)) (F0 m 68 ls [.int y2, .int y1, .ref (mAd X j0)]) := by
  unfold b_Wr_takeHalves_68 at h
  obtain ⟨S, hK, hT, hW, hr, hlk⟩ := id hC
  have hx := S.1
  have hb := S.2.1
  obtain ⟨z1, h⟩ := un_if h
  refine w_iast S hK hI oy0 z1 d_Wr_takeHalves_68 (fun H locs F2 e3 hI => ?_)
  replace h := un_lt h _ e3
  refine lv_iinc (k := 3) (v := x3 + (1 : Int32)) (lv' := [(3, .int (x3 + (1 : Int32))), (0, .ref (mAd X i0)), (1, .ref (mAd X i1)), (2, .int x2)]) hx hb d_Wr_takeHalves_69 hl rfl rfl (by decide) rfl (fun ls hl => ?_)
  refine lv_goto (tgt := 25) hx hb d_Wr_takeHalves_72 rfl ?_
  exact hk25 _ _ _ _ _ _ _ _ o0 o1 hI (lv_sub hl [1, 2, 3, 0] rfl) h
def b_Wr_takeHalves_25 (L : La) (k25 : Nat → Nat → Int32 → Int32 → Mem → Option Mem) (i0 : Nat) (i1 : Nat) (x2 : Int32) (x3 : Int32) (F : Mem) : Option Mem :=
  if x2 ≤ x3 then
    if (jrem x2 (2 : Int32)) = (1 : Int32) then
      if inb ((F i0 1) + (x2 / (2 : Int32))) (mGl L (mRf L (mRf L i0 0) 0)) then none else
      if ((mGa L F (mRf L (mRf L i0 0) 0) ((F i0 1) + (x2 / (2 : Int32))).toNatClampNeg) &&& (15 : Int32)) = 0 then
        b_Wr_takeHalves_109 L  i0 x2 F
      else
        if ¬ ((0 : Int32) = 0 ∨ (0 : Int32) = 1) then none else
        lt' (u2 F i0 3 (0 : Int32)) fun F4 =>
        b_Wr_takeHalves_109 L  i0 x2 F4
    else
      b_Wr_takeHalves_109 L  i0 x2 F
  else
    if inb ((F i0 1) + (x3 / (2 : Int32))) (mGl L (mRf L (mRf L i0 0) 0)) then none else
    if (jrem x3 (2 : Int32)) = 0 then
      b_Wr_takeHalves_68 L k25 i0 i1 x2 x3 i1 x3 (jshr (mGa L F (mRf L (mRf L i0 0) 0) ((F i0 1) + (x3 / (2 : Int32))).toNatClampNeg) (4 : Int32)) F
    else
      b_Wr_takeHalves_68 L k25 i0 i1 x2 x3 i1 x3 ((mGa L F (mRf L (mRf L i0 0) 0) ((F i0 1) + (x3 / (2 : Int32))).toNatClampNeg) &&& (15 : Int32)) F
set_option maxHeartbeats 4000000 in
theorem t_Wr_takeHalves_25 (hC : Cx X L p s m args meth c cc_Wr_takeHalves 5 w_Wr_takeHalves R_Wr none) {k25 : Nat → Nat → Int32 → Int32 → Mem → Option Mem} {out : Mem} (hk25 : ∀ (i0 : Nat) (i1 : Nat) (x2 : Int32) (x3 : Int32) (F : Mem) (H : Heap) (locs : List Loc) (ls : Array Slot), oO L 7 i0 → oA L i1 → Iv X L s H locs F → lv_has ls 5 [(0, .ref (mAd X i0)), (1, .ref (mAd X i1)), (2, .int x2), (3, .int x3)] → k25 i0 i1 x2 x3 F = some out → W p l e (headSpec w_Wr_takeHalves r_Wr_takeHalves).room s m args below meth c H locs 0 0 (MQ below (QV X L out) args s 0 0 (AA X L)) (F0 m 25 ls [])) {i0 : Nat} {i1 : Nat} {x2 : Int32} {x3 : Int32} {F : Mem} {H : Heap} {locs : List Loc} {ls : Array Slot} (o0 : oO L 7 i0) (o1 : oA L i1) (hI : Iv X L s H locs F) (hl : lv_has ls 5 [(0, .ref (mAd X i0)), (1, .ref (mAd X i1)), (2, .int x2), (3, .int x3)]) (h : b_Wr_takeHalves_25 L k25 i0 i1 x2 x3 F = some out) : W p l e (headSpec w_Wr_takeHalves r_Wr_takeHalves).room s m args below meth c H locs 0 0 (MQ below (QV X L out) args s 0 0 (AA X L)) (F0 m 25 ls []) := by
  unfold b_Wr_takeHalves_25 at h
  obtain ⟨S, hK, hT, hW, hr, hlk⟩ := id hC
  have hx := S.1
  have hb := S.2.1
  refine lv_iload_n hx hb d_Wr_takeHalves_25 rfl (lv_at hl 3 rfl) ?_
  refine lv_iload_n hx hb d_Wr_takeHalves_26 rfl (lv_at hl 2 rfl) ?_
  refine lv_icmp_ge (tgt := 75) hx hb d_Wr_takeHalves_27 rfl (fun hc => ?_) (fun hc => ?_)
  · replace h := (if_pos hc).symm.trans h
    refine lv_iload_n hx hb d_Wr_takeHalves_75 rfl (lv_at hl 2 rfl) ?_
    refine lv_iconst (v := 2) hx hb d_Wr_takeHalves_76 rfl ?_
    refine lv_irem hx hb d_Wr_takeHalves_77 (by decide) ?_
    refine lv_iconst (v := 1) hx hb d_Wr_takeHalves_78 rfl ?_
    refine lv_icmp_ne (tgt := 109) hx hb d_Wr_takeHalves_79 rfl (fun hc => ?_) (fun hc => ?_)
    · replace h := (if_neg hc).symm.trans h
      exact t_Wr_takeHalves_109 hC  o0 hI (lv_sub hl [0, 2] rfl) h
    · replace h := (if_pos hc).symm.trans h
      refine lv_aload_n hx hb d_Wr_takeHalves_82 rfl (lv_at hl 0 rfl) ?_
      have p1 := wt_o hW o0 0 1 rfl (by decide) (by decide) (by decide)
      refine w_getR (T := T_Wr) S hK hI o0 rfl hin_Wr 0 (index := 7) (by decide) lf_Wr_7 d_Wr_takeHalves_83 ?_
      have p2 := wt_a hW p1 0 rfl (by decide) (by decide)
      refine w_getR (T := T_Row) S hK hI p1 rfl hin_Row 0 (index := 32) (by decide) lf_Wr_32 d_Wr_takeHalves_86 ?_
      refine lv_aload_n hx hb d_Wr_takeHalves_89 rfl (lv_at hl 0 rfl) ?_
      refine w_getI (T := T_Wr) S hK hI o0 rfl hin_Wr 1 (index := 13) (by decide) lf_Wr_13 d_Wr_takeHalves_90 ?_
      refine lv_iload_n hx hb d_Wr_takeHalves_93 rfl (lv_at hl 2 rfl) ?_
      refine lv_iconst (v := 2) hx hb d_Wr_takeHalves_94 rfl ?_
      refine lv_idiv hx hb d_Wr_takeHalves_95 (by decide) ?_
      refine lv_iadd hx hb d_Wr_takeHalves_96 ?_
      obtain ⟨z3, h⟩ := un_if h
      refine w_iald S hK hI hT p2 z3 d_Wr_takeHalves_97 ?_
      refine lv_bipush (v := 15) hx hb d_Wr_takeHalves_98 (by decide) ?_
      refine lv_iand hx hb d_Wr_takeHalves_100 ?_
      refine lv_if_eq (tgt := 109) hx hb d_Wr_takeHalves_101 rfl (fun hc => ?_) (fun hc => ?_)
      · replace h := (if_pos hc).symm.trans h
        exact t_Wr_takeHalves_109 hC  o0 hI (lv_sub hl [0, 2] rfl) h
      · replace h := (if_neg hc).symm.trans h
        refine lv_aload_n hx hb d_Wr_takeHalves_104 rfl (lv_at hl 0 rfl) ?_
        refine lv_iconst (v := 0) hx hb d_Wr_takeHalves_105 rfl ?_
        obtain ⟨z6, h⟩ := un_if h
        refine w_putZ (T := T_Wr) S hK hI o0 rfl hin_Wr ty_Wr tk_Wr nm_Wr 3 (index := 25) (by decide) lf_Wr_25 rfl z6 d_Wr_takeHalves_106 (fun H locs F4 e5 hI => ?_)
        replace h := un_lt h _ e5
        exact t_Wr_takeHalves_109 hC  o0 hI (lv_sub hl [0, 2] rfl) h
  · replace h := (if_neg hc).symm.trans h
    refine lv_aload_n hx hb d_Wr_takeHalves_30 rfl (lv_at hl 0 rfl) ?_
    have p7 := wt_o hW o0 0 1 rfl (by decide) (by decide) (by decide)
    refine w_getR (T := T_Wr) S hK hI o0 rfl hin_Wr 0 (index := 7) (by decide) lf_Wr_7 d_Wr_takeHalves_31 ?_
    have p8 := wt_a hW p7 0 rfl (by decide) (by decide)
    refine w_getR (T := T_Row) S hK hI p7 rfl hin_Row 0 (index := 32) (by decide) lf_Wr_32 d_Wr_takeHalves_34 ?_
    refine lv_aload_n hx hb d_Wr_takeHalves_37 rfl (lv_at hl 0 rfl) ?_
    refine w_getI (T := T_Wr) S hK hI o0 rfl hin_Wr 1 (index := 13) (by decide) lf_Wr_13 d_Wr_takeHalves_38 ?_
    refine lv_iload_n hx hb d_Wr_takeHalves_41 rfl (lv_at hl 3 rfl) ?_
    refine lv_iconst (v := 2) hx hb d_Wr_takeHalves_42 rfl ?_
    refine lv_idiv hx hb d_Wr_takeHalves_43 (by decide) ?_
    refine lv_iadd hx hb d_Wr_takeHalves_44 ?_
    obtain ⟨z9, h⟩ := un_if h
    refine w_iald S hK hI hT p8 z9 d_Wr_takeHalves_45 ?_
    refine lv_istore (lv' := [(4, .int (mGa L F (mRf L (mRf L i0 0) 0) ((F i0 1) + (x3 / (2 : Int32))).toNatClampNeg)), (0, .ref (mAd X i0)), (1, .ref (mAd X i1)), (2, .int x2), (3, .int x3)]) hx hb d_Wr_takeHalves_46 hl (by decide) rfl (fun ls hl => ?_)
    refine lv_aload_n hx hb d_Wr_takeHalves_48 rfl (lv_at hl 2 rfl) ?_
    refine lv_iload_n hx hb d_Wr_takeHalves_49 rfl (lv_at hl 4 rfl) ?_
    refine lv_iload_n hx hb d_Wr_takeHalves_50 rfl (lv_at hl 4 rfl) ?_
    refine lv_iconst (v := 2) hx hb d_Wr_takeHalves_51 rfl ?_
    refine lv_irem hx hb d_Wr_takeHalves_52 (by decide) ?_
    refine lv_if_ne (tgt := 63) hx hb d_Wr_takeHalves_53 rfl (fun hc => ?_) (fun hc => ?_)
    · replace h := (if_neg hc).symm.trans h
      refine lv_iload hx hb d_Wr_takeHalves_63 (lv_at hl 0 rfl) ?_
      refine lv_bipush (v := 15) hx hb d_Wr_takeHalves_65 (by decide) ?_
      refine lv_iand hx hb d_Wr_takeHalves_67 ?_
      exact t_Wr_takeHalves_68 hC hk25 o0 o1 o1 hI (lv_sub hl [1, 2, 3, 4] rfl) h
    · replace h := (if_pos hc).symm.trans h
      refine lv_iload hx hb d_Wr_takeHalves_56 (lv_at hl 0 rfl) ?_
      refine lv_iconst (v := 4) hx hb d_Wr_takeHalves_58 rfl ?_
      refine lv_ishr hx hb d_Wr_takeHalves_59 ?_
      refine lv_goto (tgt := 68) hx hb d_Wr_takeHalves_60 rfl ?_
      exact t_Wr_takeHalves_68 hC hk25 o0 o1 o1 hI (lv_sub hl [1, 2, 3, 4] rfl) h
def f_Wr_takeHalves_25 (L : La)  : Nat → Nat → Nat → Int32 → Int32 → Mem → Option Mem
  | 0 => fun _ _ _ _ _ => none
  | n + 1 => b_Wr_takeHalves_25 L (f_Wr_takeHalves_25 L  n)
theorem tf_Wr_takeHalves_25 (hC : Cx X L p s m args meth c cc_Wr_takeHalves 5 w_Wr_takeHalves R_Wr none)  {out : Mem}  (n : Nat) : ∀ (i0 : Nat) (i1 : Nat) (x2 : Int32) (x3 : Int32) (F : Mem) (H : Heap) (locs : List Loc) (ls : Array Slot), oO L 7 i0 → oA L i1 → Iv X L s H locs F → lv_has ls 5 [(0, .ref (mAd X i0)), (1, .ref (mAd X i1)), (2, .int x2), (3, .int x3)] → f_Wr_takeHalves_25 L  n i0 i1 x2 x3 F = some out → W p l e (headSpec w_Wr_takeHalves r_Wr_takeHalves).room s m args below meth c H locs 0 0 (MQ below (QV X L out) args s 0 0 (AA X L)) (F0 m 25 ls []) := by
  induction n with
  | zero => intro i0 i1 x2 x3 F H locs ls o0 o1 hI hl h; cases h
  | succ n ih => intro i0 i1 x2 x3 F H locs ls o0 o1 hI hl h; exact t_Wr_takeHalves_25 hC ih o0 o1 hI hl h
def f_Wr_takeHalves (L : La) (i0 : Nat) (i1 : Nat) (x2 : Int32) (F : Mem) : Option Mem :=
  if ((x2 + (1 : Int32)) / (2 : Int32)) ≤ ((F i0 2) - (F i0 1)) then
    f_Wr_takeHalves_25 L  mFU i0 i1 x2 (0 : Int32) F
  else
    if ¬ ((0 : Int32) = 0 ∨ (0 : Int32) = 1) then none else
    lt' (u2 F i0 3 (0 : Int32)) fun F1 =>
    some F1
set_option maxHeartbeats 4000000 in
theorem c_Wr_takeHalves (l : Launch) {X : Xs} {L : La} (hW : WT L) {out : Mem} {i0 : Nat} {i1 : Nat} {x2 : Int32} {F : Mem} (o0 : oO L 7 i0) (o1 : oA L i1) (h : f_Wr_takeHalves L i0 i1 x2 F = some out) : Met l y_Wr_takeHalves w_Wr_takeHalves r_Wr_takeHalves (va_Pc [.ref (mAd X i0), .ref (mAd X i1), .int x2] (Pr X L F)) (QV X L out) 0 0 (AA X L) := by
  refine mk_met (by decide) rfl (Nat.le_of_ble_eq_true rfl) hW ?_
  intro p e s m args below meth c ls hC hI hl
  have hl : lv_has ls 5 [(0, .ref (mAd X i0)), (1, .ref (mAd X i1)), (2, .int x2)] := hl
  generalize hHe : s.heap = H at hI ⊢
  generalize ([] : List Loc) = locs at hI ⊢
  unfold f_Wr_takeHalves at h
  obtain ⟨S, hK, hT, hW, hr, hlk⟩ := id hC
  have hx := S.1
  have hb := S.2.1
  refine lv_iload_n hx hb d_Wr_takeHalves_0 rfl (lv_at hl 2 rfl) ?_
  refine lv_iconst (v := 1) hx hb d_Wr_takeHalves_1 rfl ?_
  refine lv_iadd hx hb d_Wr_takeHalves_2 ?_
  refine lv_iconst (v := 2) hx hb d_Wr_takeHalves_3 rfl ?_
  refine lv_idiv hx hb d_Wr_takeHalves_4 (by decide) ?_
  refine lv_aload_n hx hb d_Wr_takeHalves_5 rfl (lv_at hl 0 rfl) ?_
  refine w_getI (T := T_Wr) S hK hI o0 rfl hin_Wr 2 (index := 22) (by decide) lf_Wr_22 d_Wr_takeHalves_6 ?_
  refine lv_aload_n hx hb d_Wr_takeHalves_9 rfl (lv_at hl 0 rfl) ?_
  refine w_getI (T := T_Wr) S hK hI o0 rfl hin_Wr 1 (index := 13) (by decide) lf_Wr_13 d_Wr_takeHalves_10 ?_
  refine lv_isub hx hb d_Wr_takeHalves_13 ?_
  refine lv_icmp_le (tgt := 23) hx hb d_Wr_takeHalves_14 rfl (fun hc => ?_) (fun hc => ?_)
  · replace h := (if_pos hc).symm.trans h
    refine lv_iconst (v := 0) hx hb d_Wr_takeHalves_23 rfl ?_
    refine lv_istore_n (lv' := [(3, .int (0 : Int32)), (0, .ref (mAd X i0)), (1, .ref (mAd X i1)), (2, .int x2)]) hx hb d_Wr_takeHalves_24 rfl hl (by decide) rfl (fun ls hl => ?_)
    exact tf_Wr_takeHalves_25 hC  mFU _ _ _ _ _ _ _ _ o0 o1 hI (lv_sub hl [1, 2, 3, 0] rfl) h
  · replace h := (if_neg hc).symm.trans h
    refine lv_aload_n hx hb d_Wr_takeHalves_17 rfl (lv_at hl 0 rfl) ?_
    refine lv_iconst (v := 0) hx hb d_Wr_takeHalves_18 rfl ?_
    obtain ⟨z3, h⟩ := un_if h
    refine w_putZ (T := T_Wr) S hK hI o0 rfl hin_Wr ty_Wr tk_Wr nm_Wr 3 (index := 25) (by decide) lf_Wr_25 rfl z3 d_Wr_takeHalves_19 (fun H locs F1 e2 hI => ?_)
    replace h := un_lt h _ e2
    exact w_vret S hK hr hlk hI d_Wr_takeHalves_22 h
end
theorem d_Fr_readTree_0 : decode cc_Fr_readTree 0 = .ok (.aload_n 0, 1) := by decide +kernel
theorem d_Fr_readTree_1 : decode cc_Fr_readTree 1 = .ok (.iconst 0, 1) := by decide +kernel
theorem d_Fr_readTree_2 : decode cc_Fr_readTree 2 = .ok (.putfield 105, 3) := by decide +kernel
theorem d_Fr_readTree_5 : decode cc_Fr_readTree 5 = .ok (.aload_n 0, 1) := by decide +kernel
theorem d_Fr_readTree_6 : decode cc_Fr_readTree 6 = .ok (.getfield 30, 3) := by decide +kernel
theorem d_Fr_readTree_9 : decode cc_Fr_readTree 9 = .ok (.aload_n 0, 1) := by decide +kernel
theorem d_Fr_readTree_10 : decode cc_Fr_readTree 10 = .ok (.getfield 42, 3) := by decide +kernel
theorem d_Fr_readTree_13 : decode cc_Fr_readTree 13 = .ok (.invokevirtual 58, 3) := by decide +kernel
theorem d_Fr_readTree_16 : decode cc_Fr_readTree 16 = .ok (.putfield 153, 3) := by decide +kernel
theorem d_Fr_readTree_19 : decode cc_Fr_readTree 19 = .ok (.aload_n 0, 1) := by decide +kernel
theorem d_Fr_readTree_20 : decode cc_Fr_readTree 20 = .ok (.getfield 42, 3) := by decide +kernel
theorem d_Fr_readTree_23 : decode cc_Fr_readTree 23 = .ok (.invokevirtual 58, 3) := by decide +kernel
theorem d_Fr_readTree_26 : decode cc_Fr_readTree 26 = .ok (.istore_n 1, 1) := by decide +kernel
theorem d_Fr_readTree_27 : decode cc_Fr_readTree 27 = .ok (.iload_n 1, 1) := by decide +kernel
theorem d_Fr_readTree_28 : decode cc_Fr_readTree 28 = .ok (.iconst 1, 1) := by decide +kernel
theorem d_Fr_readTree_29 : decode cc_Fr_readTree 29 = .ok (.if_icmp .lt (24), 3) := by decide +kernel
theorem d_Fr_readTree_32 : decode cc_Fr_readTree 32 = .ok (.iload_n 1, 1) := by decide +kernel
theorem d_Fr_readTree_33 : decode cc_Fr_readTree 33 = .ok (.bipush (17), 2) := by decide +kernel
theorem d_Fr_readTree_35 : decode cc_Fr_readTree 35 = .ok (.if_icmp .ge (18), 3) := by decide +kernel
theorem d_Fr_readTree_38 : decode cc_Fr_readTree 38 = .ok (.aload_n 0, 1) := by decide +kernel
theorem d_Fr_readTree_39 : decode cc_Fr_readTree 39 = .ok (.getfield 30, 3) := by decide +kernel
theorem d_Fr_readTree_42 : decode cc_Fr_readTree 42 = .ok (.getfield 153, 3) := by decide +kernel
theorem d_Fr_readTree_45 : decode cc_Fr_readTree 45 = .ok (.iload_n 1, 1) := by decide +kernel
theorem d_Fr_readTree_46 : decode cc_Fr_readTree 46 = .ok (.iadd, 1) := by decide +kernel
theorem d_Fr_readTree_47 : decode cc_Fr_readTree 47 = .ok (.sipush (255), 3) := by decide +kernel
theorem d_Fr_readTree_50 : decode cc_Fr_readTree 50 = .ok (.if_icmp .le (4), 3) := by decide +kernel
theorem d_Fr_readTree_53 : decode cc_Fr_readTree 53 = .ok (.return_, 1) := by decide +kernel
theorem d_Fr_readTree_54 : decode cc_Fr_readTree 54 = .ok (.aload_n 0, 1) := by decide +kernel
theorem d_Fr_readTree_55 : decode cc_Fr_readTree 55 = .ok (.getfield 42, 3) := by decide +kernel
theorem d_Fr_readTree_58 : decode cc_Fr_readTree 58 = .ok (.aload_n 0, 1) := by decide +kernel
theorem d_Fr_readTree_59 : decode cc_Fr_readTree 59 = .ok (.getfield 30, 3) := by decide +kernel
theorem d_Fr_readTree_62 : decode cc_Fr_readTree 62 = .ok (.getfield 156, 3) := by decide +kernel
theorem d_Fr_readTree_65 : decode cc_Fr_readTree 65 = .ok (.iload_n 1, 1) := by decide +kernel
theorem d_Fr_readTree_66 : decode cc_Fr_readTree 66 = .ok (.invokevirtual 160, 3) := by decide +kernel
theorem d_Fr_readTree_69 : decode cc_Fr_readTree 69 = .ok (.aload_n 0, 1) := by decide +kernel
theorem d_Fr_readTree_70 : decode cc_Fr_readTree 70 = .ok (.getfield 30, 3) := by decide +kernel
theorem d_Fr_readTree_73 : decode cc_Fr_readTree 73 = .ok (.iload_n 1, 1) := by decide +kernel
theorem d_Fr_readTree_74 : decode cc_Fr_readTree 74 = .ok (.invokevirtual 164, 3) := by decide +kernel
theorem d_Fr_readTree_77 : decode cc_Fr_readTree 77 = .ok (.ifCond .eq (16), 3) := by decide +kernel
theorem d_Fr_readTree_80 : decode cc_Fr_readTree 80 = .ok (.aload_n 0, 1) := by decide +kernel
theorem d_Fr_readTree_81 : decode cc_Fr_readTree 81 = .ok (.getfield 30, 3) := by decide +kernel
theorem d_Fr_readTree_84 : decode cc_Fr_readTree 84 = .ok (.iload_n 1, 1) := by decide +kernel
theorem d_Fr_readTree_85 : decode cc_Fr_readTree 85 = .ok (.invokevirtual 167, 3) := by decide +kernel
theorem d_Fr_readTree_88 : decode cc_Fr_readTree 88 = .ok (.aload_n 0, 1) := by decide +kernel
theorem d_Fr_readTree_89 : decode cc_Fr_readTree 89 = .ok (.iconst 1, 1) := by decide +kernel
theorem d_Fr_readTree_90 : decode cc_Fr_readTree 90 = .ok (.putfield 105, 3) := by decide +kernel
theorem d_Fr_readTree_93 : decode cc_Fr_readTree 93 = .ok (.return_, 1) := by decide +kernel
section
variable {p : Program} {l : Launch} {e : Env} {s : State} {m : MethodId} {args : Array Value} {below : List Frame} {meth : Method} {c : Code} {X : Xs} {L : La}
def b_Fr_readTree_53 (L : La)   (F : Mem) : Option Mem :=
  some F
set_option maxHeartbeats 4000000 in
theorem t_Fr_readTree_53 (hC : Cx X L p s m args meth c cc_Fr_readTree 2 w_Fr_readTree R_Fr none)  {out : Mem}   {F : Mem} {H : Heap} {locs : List Loc} {ls : Array Slot}  (hI : Iv X L s H locs F) (hl : lv_has ls 2 []) (h : b_Fr_readTree_53 L   F = some out) : W p l e (headSpec w_Fr_readTree r_Fr_readTree).room s m args below meth c H locs 0 0 (MQ below (QV X L out) args s 0 0 (AA X L)) (F0 m 53 ls []) := by
  unfold b_Fr_readTree_53 at h
  obtain ⟨S, hK, hT, hW, hr, hlk⟩ := id hC
  have hx := S.1
  have hb := S.2.1
  exact w_vret S hK hr hlk hI d_Fr_readTree_53 h
def b_Fr_readTree_93 (L : La)   (F : Mem) : Option Mem :=
  some F
set_option maxHeartbeats 4000000 in
theorem t_Fr_readTree_93 (hC : Cx X L p s m args meth c cc_Fr_readTree 2 w_Fr_readTree R_Fr none)  {out : Mem}   {F : Mem} {H : Heap} {locs : List Loc} {ls : Array Slot}  (hI : Iv X L s H locs F) (hl : lv_has ls 2 []) (h : b_Fr_readTree_93 L   F = some out) : W p l e (headSpec w_Fr_readTree r_Fr_readTree).room s m args below meth c H locs 0 0 (MQ below (QV X L out) args s 0 0 (AA X L)) (F0 m 93 ls []) := by
  unfold b_Fr_readTree_93 at h
  obtain ⟨S, hK, hT, hW, hr, hlk⟩ := id hC
  have hx := S.1
  have hb := S.2.1
  exact w_vret S hK hr hlk hI d_Fr_readTree_93 h
def f_Fr_readTree (L : La) (i0 : Nat) (F : Mem) : Option Mem :=
  if ¬ ((0 : Int32) = 0 ∨ (0 : Int32) = 1) then none else
  lt' (u2 F i0 6 (0 : Int32)) fun F1 =>
  (f_Wr_takeByte L (mRf L i0 1) F1).bind fun q6 =>
  lt' (u2 q6.2 (mRf L i0 4) 3 q6.1) fun F8 =>
  (f_Wr_takeByte L (mRf L i0 1) F8).bind fun q11 =>
  if q11.1 < (1 : Int32) then
    b_Fr_readTree_53 L   q11.2
  else
    if (17 : Int32) ≤ q11.1 then
      b_Fr_readTree_53 L   q11.2
    else
      if ((q11.2 (mRf L i0 4) 3) + q11.1) ≤ (255 : Int32) then
        (f_Wr_takeHalves L (mRf L i0 1) (mRf L (mRf L i0 4) 0) q11.1 q11.2).bind fun F17 =>
        (f_Tr_complete L (mRf L i0 4) q11.1 F17).bind fun q20 =>
        if q20.1 = 0 then
          b_Fr_readTree_93 L   q20.2
        else
          (f_Tr_dealCells L (mRf L i0 4) q11.1 q20.2).bind fun F23 =>
          if ¬ ((1 : Int32) = 0 ∨ (1 : Int32) = 1) then none else
          lt' (u2 F23 i0 6 (1 : Int32)) fun F25 =>
          b_Fr_readTree_93 L   F25
      else
        b_Fr_readTree_53 L   q11.2
set_option maxHeartbeats 4000000 in
theorem c_Fr_readTree (l : Launch) {X : Xs} {L : La} (hW : WT L) {out : Mem} {i0 : Nat} {F : Mem} (o0 : oO L 9 i0) (h : f_Fr_readTree L i0 F = some out) : Met l y_Fr_readTree w_Fr_readTree r_Fr_readTree (va_Pc [.ref (mAd X i0)] (Pr X L F)) (QV X L out) 0 0 (AA X L) := by
  refine mk_met (by decide) rfl (Nat.le_of_ble_eq_true rfl) hW ?_
  intro p e s m args below meth c ls hC hI hl
  have hl : lv_has ls 2 [(0, .ref (mAd X i0))] := hl
  generalize hHe : s.heap = H at hI ⊢
  generalize ([] : List Loc) = locs at hI ⊢
  unfold f_Fr_readTree at h
  obtain ⟨S, hK, hT, hW, hr, hlk⟩ := id hC
  have hx := S.1
  have hb := S.2.1
  refine lv_aload_n hx hb d_Fr_readTree_0 rfl (lv_at hl 0 rfl) ?_
  refine lv_iconst (v := 0) hx hb d_Fr_readTree_1 rfl ?_
  obtain ⟨z3, h⟩ := un_if h
  refine w_putZ (T := T_Fr) S hK hI o0 rfl hin_Fr ty_Fr tk_Fr nm_Fr 6 (index := 105) (by decide) lf_Fr_105 rfl z3 d_Fr_readTree_2 (fun H locs F1 e2 hI => ?_)
  replace h := un_lt h _ e2
  refine lv_aload_n hx hb d_Fr_readTree_5 rfl (lv_at hl 0 rfl) ?_
  have p4 := wt_o hW o0 4 3 rfl (by decide) (by decide) (by decide)
  refine w_getR (T := T_Fr) S hK hI o0 rfl hin_Fr 4 (index := 30) (by decide) lf_Fr_30 d_Fr_readTree_6 ?_
  refine lv_aload_n hx hb d_Fr_readTree_9 rfl (lv_at hl 0 rfl) ?_
  have p5 := wt_o hW o0 1 7 rfl (by decide) (by decide) (by decide)
  refine w_getR (T := T_Fr) S hK hI o0 rfl hin_Fr 1 (index := 42) (by decide) lf_Fr_42 d_Fr_readTree_10 ?_
  obtain ⟨q6, e7, h⟩ := un_bi h
  refine w_callVi (As := []) (rest := [.ref (mAd X (mRf L i0 4))]) S hK hI hT (c_Wr_takeByte l hW p5 e7) (cwV 0 S.2.2.2.2 (gd_V lc_Wr_takeByte lm_Fr_58 li_Wr_takeByte ls_Wr_takeByte ln_Wr) rfl rfl rfl hd_Wr_takeByte ⟨Nat.le_of_ble_eq_true rfl, Nat.le_of_ble_eq_true rfl⟩) p5 rfl (by decide) rfl rfl hl.1 (Nat.le_of_ble_eq_true rfl) d_Fr_readTree_13 ⟨Nat.zero_le _, Nat.zero_le _⟩ (fun H locs hI => ?_)
  refine w_putI (T := T_Tr) S hK hI p4 rfl hin_Tr ty_Tr tk_Tr nm_Tr 3 (index := 153) (by decide) lf_Fr_153 rfl d_Fr_readTree_16 (fun H locs F8 e9 hI => ?_)
  replace h := un_lt h _ e9
  refine lv_aload_n hx hb d_Fr_readTree_19 rfl (lv_at hl 0 rfl) ?_
  have p10 := wt_o hW o0 1 7 rfl (by decide) (by decide) (by decide)
  refine w_getR (T := T_Fr) S hK hI o0 rfl hin_Fr 1 (index := 42) (by decide) lf_Fr_42 d_Fr_readTree_20 ?_
  obtain ⟨q11, e12, h⟩ := un_bi h
  refine w_callVi (As := []) (rest := []) S hK hI hT (c_Wr_takeByte l hW p10 e12) (cwV 0 S.2.2.2.2 (gd_V lc_Wr_takeByte lm_Fr_58 li_Wr_takeByte ls_Wr_takeByte ln_Wr) rfl rfl rfl hd_Wr_takeByte ⟨Nat.le_of_ble_eq_true rfl, Nat.le_of_ble_eq_true rfl⟩) p10 rfl (by decide) rfl rfl hl.1 (Nat.le_of_ble_eq_true rfl) d_Fr_readTree_23 ⟨Nat.zero_le _, Nat.zero_le _⟩ (fun H locs hI => ?_)
  refine lv_istore_n (lv' := [(1, .int q11.1), (0, .ref (mAd X i0))]) hx hb d_Fr_readTree_26 rfl hl (by decide) rfl (fun ls hl => ?_)
  refine lv_iload_n hx hb d_Fr_readTree_27 rfl (lv_at hl 0 rfl) ?_
  refine lv_iconst (v := 1) hx hb d_Fr_readTree_28 rfl ?_
  refine lv_icmp_lt (tgt := 53) hx hb d_Fr_readTree_29 rfl (fun hc => ?_) (fun hc => ?_)
  · replace h := (if_pos hc).symm.trans h
    exact t_Fr_readTree_53 hC   hI (lv_sub hl [] rfl) h
  · replace h := (if_neg hc).symm.trans h
    refine lv_iload_n hx hb d_Fr_readTree_32 rfl (lv_at hl 0 rfl) ?_
    refine lv_bipush (v := 17) hx hb d_Fr_readTree_33 (by decide) ?_
    refine lv_icmp_ge (tgt := 53) hx hb d_Fr_readTree_35 rfl (fun hc => ?_) (fun hc => ?_)
    · replace h := (if_pos hc).symm.trans h
      exact t_Fr_readTree_53 hC   hI (lv_sub hl [] rfl) h
    · replace h := (if_neg hc).symm.trans h
      refine lv_aload_n hx hb d_Fr_readTree_38 rfl (lv_at hl 1 rfl) ?_
      have p13 := wt_o hW o0 4 3 rfl (by decide) (by decide) (by decide)
      refine w_getR (T := T_Fr) S hK hI o0 rfl hin_Fr 4 (index := 30) (by decide) lf_Fr_30 d_Fr_readTree_39 ?_
      refine w_getI (T := T_Tr) S hK hI p13 rfl hin_Tr 3 (index := 153) (by decide) lf_Fr_153 d_Fr_readTree_42 ?_
      refine lv_iload_n hx hb d_Fr_readTree_45 rfl (lv_at hl 0 rfl) ?_
      refine lv_iadd hx hb d_Fr_readTree_46 ?_
      refine lv_sipush (v := 255) hx hb d_Fr_readTree_47 (by decide) ?_
      refine lv_icmp_le (tgt := 54) hx hb d_Fr_readTree_50 rfl (fun hc => ?_) (fun hc => ?_)
      · replace h := (if_pos hc).symm.trans h
        refine lv_aload_n hx hb d_Fr_readTree_54 rfl (lv_at hl 1 rfl) ?_
        have p14 := wt_o hW o0 1 7 rfl (by decide) (by decide) (by decide)
        refine w_getR (T := T_Fr) S hK hI o0 rfl hin_Fr 1 (index := 42) (by decide) lf_Fr_42 d_Fr_readTree_55 ?_
        refine lv_aload_n hx hb d_Fr_readTree_58 rfl (lv_at hl 1 rfl) ?_
        have p15 := wt_o hW o0 4 3 rfl (by decide) (by decide) (by decide)
        refine w_getR (T := T_Fr) S hK hI o0 rfl hin_Fr 4 (index := 30) (by decide) lf_Fr_30 d_Fr_readTree_59 ?_
        have p16 := wt_a hW p15 0 rfl (by decide) (by decide)
        refine w_getR (T := T_Tr) S hK hI p15 rfl hin_Tr 0 (index := 156) (by decide) lf_Fr_156 d_Fr_readTree_62 ?_
        refine lv_iload_n hx hb d_Fr_readTree_65 rfl (lv_at hl 0 rfl) ?_
        obtain ⟨F17, e18, h⟩ := un_bi h
        refine w_callVv (As := [.ref (mAd X (mRf L (mRf L i0 4) 0)), .int q11.1]) (rest := []) S hK hI hT (c_Wr_takeHalves l hW p14 p16 e18) (cwV 2 S.2.2.2.2 (gd_V lc_Wr_takeHalves lm_Fr_160 li_Wr_takeHalves ls_Wr_takeHalves ln_Wr) rfl rfl rfl hd_Wr_takeHalves ⟨Nat.le_of_ble_eq_true rfl, Nat.le_of_ble_eq_true rfl⟩) p14 rfl (by decide) rfl rfl hl.1 (Nat.le_of_ble_eq_true rfl) d_Fr_readTree_66 ⟨Nat.zero_le _, Nat.zero_le _⟩ (fun H locs hI => ?_)
        refine lv_aload_n hx hb d_Fr_readTree_69 rfl (lv_at hl 1 rfl) ?_
        have p19 := wt_o hW o0 4 3 rfl (by decide) (by decide) (by decide)
        refine w_getR (T := T_Fr) S hK hI o0 rfl hin_Fr 4 (index := 30) (by decide) lf_Fr_30 d_Fr_readTree_70 ?_
        refine lv_iload_n hx hb d_Fr_readTree_73 rfl (lv_at hl 0 rfl) ?_
        obtain ⟨q20, e21, h⟩ := un_bi h
        refine w_callVi (As := [.int q11.1]) (rest := []) S hK hI hT (c_Tr_complete l hW p19 e21) (cwV 1 S.2.2.2.2 (gd_V lc_Tr_complete lm_Fr_164 li_Tr_complete ls_Tr_complete ln_Tr) rfl rfl rfl hd_Tr_complete ⟨Nat.le_of_ble_eq_true rfl, Nat.le_of_ble_eq_true rfl⟩) p19 rfl (by decide) rfl rfl hl.1 (Nat.le_of_ble_eq_true rfl) d_Fr_readTree_74 ⟨Nat.zero_le _, Nat.zero_le _⟩ (fun H locs hI => ?_)
        refine lv_if_eq (tgt := 93) hx hb d_Fr_readTree_77 rfl (fun hc => ?_) (fun hc => ?_)
        · replace h := (if_pos hc).symm.trans h
          exact t_Fr_readTree_93 hC   hI (lv_sub hl [] rfl) h
        · replace h := (if_neg hc).symm.trans h
          refine lv_aload_n hx hb d_Fr_readTree_80 rfl (lv_at hl 1 rfl) ?_
          have p22 := wt_o hW o0 4 3 rfl (by decide) (by decide) (by decide)
          refine w_getR (T := T_Fr) S hK hI o0 rfl hin_Fr 4 (index := 30) (by decide) lf_Fr_30 d_Fr_readTree_81 ?_
          refine lv_iload_n hx hb d_Fr_readTree_84 rfl (lv_at hl 0 rfl) ?_
          obtain ⟨F23, e24, h⟩ := un_bi h
          refine w_callVv (As := [.int q11.1]) (rest := []) S hK hI hT (c_Tr_dealCells l hW p22 e24) (cwV 1 S.2.2.2.2 (gd_V lc_Tr_dealCells lm_Fr_167 li_Tr_dealCells ls_Tr_dealCells ln_Tr) rfl rfl rfl hd_Tr_dealCells ⟨Nat.le_of_ble_eq_true rfl, Nat.le_of_ble_eq_true rfl⟩) p22 rfl (by decide) rfl rfl hl.1 (Nat.le_of_ble_eq_true rfl) d_Fr_readTree_85 ⟨Nat.zero_le _, Nat.zero_le _⟩ (fun H locs hI => ?_)
          refine lv_aload_n hx hb d_Fr_readTree_88 rfl (lv_at hl 1 rfl) ?_
          refine lv_iconst (v := 1) hx hb d_Fr_readTree_89 rfl ?_
          obtain ⟨z27, h⟩ := un_if h
          refine w_putZ (T := T_Fr) S hK hI o0 rfl hin_Fr ty_Fr tk_Fr nm_Fr 6 (index := 105) (by decide) lf_Fr_105 rfl z27 d_Fr_readTree_90 (fun H locs F25 e26 hI => ?_)
          replace h := un_lt h _ e26
          exact t_Fr_readTree_93 hC   hI (lv_sub hl [] rfl) h
      · replace h := (if_neg hc).symm.trans h
        exact t_Fr_readTree_53 hC   hI (lv_sub hl [] rfl) h
end
theorem d_Wr_beginStream_0 : decode cc_Wr_beginStream 0 = .ok (.aload_n 0, 1) := by decide +kernel
theorem d_Wr_beginStream_1 : decode cc_Wr_beginStream 1 = .ok (.iconst 0, 1) := by decide +kernel
theorem d_Wr_beginStream_2 : decode cc_Wr_beginStream 2 = .ok (.putfield 29, 3) := by decide +kernel
theorem d_Wr_beginStream_5 : decode cc_Wr_beginStream 5 = .ok (.iload_n 1, 1) := by decide +kernel
theorem d_Wr_beginStream_6 : decode cc_Wr_beginStream 6 = .ok (.iconst 1, 1) := by decide +kernel
theorem d_Wr_beginStream_7 : decode cc_Wr_beginStream 7 = .ok (.if_icmp .lt (30), 3) := by decide +kernel
theorem d_Wr_beginStream_10 : decode cc_Wr_beginStream 10 = .ok (.iload_n 1, 1) := by decide +kernel
theorem d_Wr_beginStream_11 : decode cc_Wr_beginStream 11 = .ok (.aload_n 0, 1) := by decide +kernel
theorem d_Wr_beginStream_12 : decode cc_Wr_beginStream 12 = .ok (.invokevirtual 40, 3) := by decide +kernel
theorem d_Wr_beginStream_15 : decode cc_Wr_beginStream 15 = .ok (.if_icmp .gt (22), 3) := by decide +kernel
theorem d_Wr_beginStream_18 : decode cc_Wr_beginStream 18 = .ok (.aload_n 0, 1) := by decide +kernel
theorem d_Wr_beginStream_19 : decode cc_Wr_beginStream 19 = .ok (.getfield 7, 3) := by decide +kernel
theorem d_Wr_beginStream_22 : decode cc_Wr_beginStream 22 = .ok (.getfield 32, 3) := by decide +kernel
theorem d_Wr_beginStream_25 : decode cc_Wr_beginStream 25 = .ok (.aload_n 0, 1) := by decide +kernel
theorem d_Wr_beginStream_26 : decode cc_Wr_beginStream 26 = .ok (.getfield 13, 3) := by decide +kernel
theorem d_Wr_beginStream_29 : decode cc_Wr_beginStream 29 = .ok (.iload_n 1, 1) := by decide +kernel
theorem d_Wr_beginStream_30 : decode cc_Wr_beginStream 30 = .ok (.iadd, 1) := by decide +kernel
theorem d_Wr_beginStream_31 : decode cc_Wr_beginStream 31 = .ok (.iconst 1, 1) := by decide +kernel
theorem d_Wr_beginStream_32 : decode cc_Wr_beginStream 32 = .ok (.isub, 1) := by decide +kernel
theorem d_Wr_beginStream_33 : decode cc_Wr_beginStream 33 = .ok (.iaload, 1) := by decide +kernel
theorem d_Wr_beginStream_34 : decode cc_Wr_beginStream 34 = .ok (.ifCond .ne (9), 3) := by decide +kernel
theorem d_Wr_beginStream_37 : decode cc_Wr_beginStream 37 = .ok (.aload_n 0, 1) := by decide +kernel
theorem d_Wr_beginStream_38 : decode cc_Wr_beginStream 38 = .ok (.iconst 0, 1) := by decide +kernel
theorem d_Wr_beginStream_39 : decode cc_Wr_beginStream 39 = .ok (.putfield 25, 3) := by decide +kernel
theorem d_Wr_beginStream_42 : decode cc_Wr_beginStream 42 = .ok (.return_, 1) := by decide +kernel
theorem d_Wr_beginStream_43 : decode cc_Wr_beginStream 43 = .ok (.aload_n 0, 1) := by decide +kernel
theorem d_Wr_beginStream_44 : decode cc_Wr_beginStream 44 = .ok (.getfield 7, 3) := by decide +kernel
theorem d_Wr_beginStream_47 : decode cc_Wr_beginStream 47 = .ok (.getfield 32, 3) := by decide +kernel
theorem d_Wr_beginStream_50 : decode cc_Wr_beginStream 50 = .ok (.aload_n 0, 1) := by decide +kernel
theorem d_Wr_beginStream_51 : decode cc_Wr_beginStream 51 = .ok (.getfield 13, 3) := by decide +kernel
theorem d_Wr_beginStream_54 : decode cc_Wr_beginStream 54 = .ok (.iload_n 1, 1) := by decide +kernel
theorem d_Wr_beginStream_55 : decode cc_Wr_beginStream 55 = .ok (.iadd, 1) := by decide +kernel
theorem d_Wr_beginStream_56 : decode cc_Wr_beginStream 56 = .ok (.iconst 1, 1) := by decide +kernel
theorem d_Wr_beginStream_57 : decode cc_Wr_beginStream 57 = .ok (.isub, 1) := by decide +kernel
theorem d_Wr_beginStream_58 : decode cc_Wr_beginStream 58 = .ok (.iaload, 1) := by decide +kernel
theorem d_Wr_beginStream_59 : decode cc_Wr_beginStream 59 = .ok (.istore_n 2, 1) := by decide +kernel
theorem d_Wr_beginStream_60 : decode cc_Wr_beginStream 60 = .ok (.aload_n 0, 1) := by decide +kernel
theorem d_Wr_beginStream_61 : decode cc_Wr_beginStream 61 = .ok (.aload_n 0, 1) := by decide +kernel
theorem d_Wr_beginStream_62 : decode cc_Wr_beginStream 62 = .ok (.getfield 13, 3) := by decide +kernel
theorem d_Wr_beginStream_65 : decode cc_Wr_beginStream 65 = .ok (.putfield 43, 3) := by decide +kernel
theorem d_Wr_beginStream_68 : decode cc_Wr_beginStream 68 = .ok (.aload_n 0, 1) := by decide +kernel
theorem d_Wr_beginStream_69 : decode cc_Wr_beginStream 69 = .ok (.bipush (8), 2) := by decide +kernel
theorem d_Wr_beginStream_71 : decode cc_Wr_beginStream 71 = .ok (.iload_n 1, 1) := by decide +kernel
theorem d_Wr_beginStream_72 : decode cc_Wr_beginStream 72 = .ok (.iconst 1, 1) := by decide +kernel
theorem d_Wr_beginStream_73 : decode cc_Wr_beginStream 73 = .ok (.isub, 1) := by decide +kernel
theorem d_Wr_beginStream_74 : decode cc_Wr_beginStream 74 = .ok (.imul, 1) := by decide +kernel
theorem d_Wr_beginStream_75 : decode cc_Wr_beginStream 75 = .ok (.bipush (31), 2) := by decide +kernel
theorem d_Wr_beginStream_77 : decode cc_Wr_beginStream 77 = .ok (.iadd, 1) := by decide +kernel
theorem d_Wr_beginStream_78 : decode cc_Wr_beginStream 78 = .ok (.iload_n 2, 1) := by decide +kernel
theorem d_Wr_beginStream_79 : decode cc_Wr_beginStream 79 = .ok (.invokestatic 46, 3) := by decide +kernel
theorem d_Wr_beginStream_82 : decode cc_Wr_beginStream 82 = .ok (.isub, 1) := by decide +kernel
theorem d_Wr_beginStream_83 : decode cc_Wr_beginStream 83 = .ok (.putfield 29, 3) := by decide +kernel
theorem d_Wr_beginStream_86 : decode cc_Wr_beginStream 86 = .ok (.aload_n 0, 1) := by decide +kernel
theorem d_Wr_beginStream_87 : decode cc_Wr_beginStream 87 = .ok (.dup, 1) := by decide +kernel
theorem d_Wr_beginStream_88 : decode cc_Wr_beginStream 88 = .ok (.getfield 13, 3) := by decide +kernel
theorem d_Wr_beginStream_91 : decode cc_Wr_beginStream 91 = .ok (.iload_n 1, 1) := by decide +kernel
theorem d_Wr_beginStream_92 : decode cc_Wr_beginStream 92 = .ok (.iadd, 1) := by decide +kernel
theorem d_Wr_beginStream_93 : decode cc_Wr_beginStream 93 = .ok (.putfield 13, 3) := by decide +kernel
theorem d_Wr_beginStream_96 : decode cc_Wr_beginStream 96 = .ok (.return_, 1) := by decide +kernel
section
variable {p : Program} {l : Launch} {e : Env} {s : State} {m : MethodId} {args : Array Value} {below : List Frame} {meth : Method} {c : Code} {X : Xs} {L : La}
def b_Wr_beginStream_37 (L : La)  (i0 : Nat) (F : Mem) : Option Mem :=
  if ¬ ((0 : Int32) = 0 ∨ (0 : Int32) = 1) then none else
  lt' (u2 F i0 3 (0 : Int32)) fun F1 =>
  some F1
set_option maxHeartbeats 4000000 in
theorem t_Wr_beginStream_37 (hC : Cx X L p s m args meth c cc_Wr_beginStream 3 w_Wr_beginStream R_Wr none)  {out : Mem}  {i0 : Nat} {F : Mem} {H : Heap} {locs : List Loc} {ls : Array Slot} (o0 : oO L 7 i0) (hI : Iv X L s H locs F) (hl : lv_has ls 3 [(0, .ref (mAd X i0))]) (h : b_Wr_beginStream_37 L  i0 F = some out) : W p l e (headSpec w_Wr_beginStream r_Wr_beginStream).room s m args below meth c H locs 0 0 (MQ below (QV X L out) args s 0 0 (AA X L)) (F0 m 37 ls []) := by
  unfold b_Wr_beginStream_37 at h
  obtain ⟨S, hK, hT, hW, hr, hlk⟩ := id hC
  have hx := S.1
  have hb := S.2.1
  refine lv_aload_n hx hb d_Wr_beginStream_37 rfl (lv_at hl 0 rfl) ?_
  refine lv_iconst (v := 0) hx hb d_Wr_beginStream_38 rfl ?_
  obtain ⟨z3, h⟩ := un_if h
  refine w_putZ (T := T_Wr) S hK hI o0 rfl hin_Wr ty_Wr tk_Wr nm_Wr 3 (index := 25) (by decide) lf_Wr_25 rfl z3 d_Wr_beginStream_39 (fun H locs F1 e2 hI => ?_)
  replace h := un_lt h _ e2
  exact w_vret S hK hr hlk hI d_Wr_beginStream_42 h
def f_Wr_beginStream (L : La) (i0 : Nat) (x1 : Int32) (F : Mem) : Option Mem :=
  lt' (u2 F i0 5 (0 : Int32)) fun F1 =>
  if x1 < (1 : Int32) then
    b_Wr_beginStream_37 L  i0 F1
  else
    (f_Wr_bytesLeft L i0 F1).bind fun q3 =>
    if q3.1 < x1 then
      b_Wr_beginStream_37 L  i0 q3.2
    else
      if inb (((q3.2 i0 1) + x1) - (1 : Int32)) (mGl L (mRf L (mRf L i0 0) 0)) then none else
      if (mGa L q3.2 (mRf L (mRf L i0 0) 0) (((q3.2 i0 1) + x1) - (1 : Int32)).toNatClampNeg) = 0 then
        b_Wr_beginStream_37 L  i0 q3.2
      else
        if inb (((q3.2 i0 1) + x1) - (1 : Int32)) (mGl L (mRf L (mRf L i0 0) 0)) then none else
        lt' (u2 q3.2 i0 4 (q3.2 i0 1)) fun F11 =>
        (f_Int_numberOfLeadingZeros L (mGa L q3.2 (mRf L (mRf L i0 0) 0) (((q3.2 i0 1) + x1) - (1 : Int32)).toNatClampNeg) F11).bind fun q13 =>
        lt' (u2 q13.2 i0 5 ((((8 : Int32) * (x1 - (1 : Int32))) + (31 : Int32)) - q13.1)) fun F15 =>
        lt' (u2 F15 i0 1 ((F15 i0 1) + x1)) fun F17 =>
        some F17
set_option maxHeartbeats 4000000 in
theorem c_Wr_beginStream (l : Launch) {X : Xs} {L : La} (hW : WT L) {out : Mem} {i0 : Nat} {x1 : Int32} {F : Mem} (o0 : oO L 7 i0) (h : f_Wr_beginStream L i0 x1 F = some out) : Met l y_Wr_beginStream w_Wr_beginStream r_Wr_beginStream (va_Pc [.ref (mAd X i0), .int x1] (Pr X L F)) (QV X L out) 0 0 (AA X L) := by
  refine mk_met (by decide) rfl (Nat.le_of_ble_eq_true rfl) hW ?_
  intro p e s m args below meth c ls hC hI hl
  have hl : lv_has ls 3 [(0, .ref (mAd X i0)), (1, .int x1)] := hl
  generalize hHe : s.heap = H at hI ⊢
  generalize ([] : List Loc) = locs at hI ⊢
  unfold f_Wr_beginStream at h
  obtain ⟨S, hK, hT, hW, hr, hlk⟩ := id hC
  have hx := S.1
  have hb := S.2.1
  refine lv_aload_n hx hb d_Wr_beginStream_0 rfl (lv_at hl 0 rfl) ?_
  refine lv_iconst (v := 0) hx hb d_Wr_beginStream_1 rfl ?_
  refine w_putI (T := T_Wr) S hK hI o0 rfl hin_Wr ty_Wr tk_Wr nm_Wr 5 (index := 29) (by decide) lf_Wr_29 rfl d_Wr_beginStream_2 (fun H locs F1 e2 hI => ?_)
  replace h := un_lt h _ e2
  refine lv_iload_n hx hb d_Wr_beginStream_5 rfl (lv_at hl 1 rfl) ?_
  refine lv_iconst (v := 1) hx hb d_Wr_beginStream_6 rfl ?_
  refine lv_icmp_lt (tgt := 37) hx hb d_Wr_beginStream_7 rfl (fun hc => ?_) (fun hc => ?_)
  · replace h := (if_pos hc).symm.trans h
    exact t_Wr_beginStream_37 hC  o0 hI (lv_sub hl [0] rfl) h
  · replace h := (if_neg hc).symm.trans h
    refine lv_iload_n hx hb d_Wr_beginStream_10 rfl (lv_at hl 1 rfl) ?_
    refine lv_aload_n hx hb d_Wr_beginStream_11 rfl (lv_at hl 0 rfl) ?_
    obtain ⟨q3, e4, h⟩ := un_bi h
    refine w_callVi (As := []) (rest := [.int x1]) S hK hI hT (c_Wr_bytesLeft l hW o0 e4) (cwV 0 S.2.2.2.2 (gd_V lc_Wr_bytesLeft lm_Wr_40 li_Wr_bytesLeft ls_Wr_bytesLeft ln_Wr) rfl rfl rfl hd_Wr_bytesLeft ⟨Nat.le_of_ble_eq_true rfl, Nat.le_of_ble_eq_true rfl⟩) o0 rfl (by decide) rfl rfl hl.1 (Nat.le_of_ble_eq_true rfl) d_Wr_beginStream_12 ⟨Nat.zero_le _, Nat.zero_le _⟩ (fun H locs hI => ?_)
    refine lv_icmp_gt (tgt := 37) hx hb d_Wr_beginStream_15 rfl (fun hc => ?_) (fun hc => ?_)
    · replace h := (if_pos hc).symm.trans h
      exact t_Wr_beginStream_37 hC  o0 hI (lv_sub hl [0] rfl) h
    · replace h := (if_neg hc).symm.trans h
      refine lv_aload_n hx hb d_Wr_beginStream_18 rfl (lv_at hl 0 rfl) ?_
      have p5 := wt_o hW o0 0 1 rfl (by decide) (by decide) (by decide)
      refine w_getR (T := T_Wr) S hK hI o0 rfl hin_Wr 0 (index := 7) (by decide) lf_Wr_7 d_Wr_beginStream_19 ?_
      have p6 := wt_a hW p5 0 rfl (by decide) (by decide)
      refine w_getR (T := T_Row) S hK hI p5 rfl hin_Row 0 (index := 32) (by decide) lf_Wr_32 d_Wr_beginStream_22 ?_
      refine lv_aload_n hx hb d_Wr_beginStream_25 rfl (lv_at hl 0 rfl) ?_
      refine w_getI (T := T_Wr) S hK hI o0 rfl hin_Wr 1 (index := 13) (by decide) lf_Wr_13 d_Wr_beginStream_26 ?_
      refine lv_iload_n hx hb d_Wr_beginStream_29 rfl (lv_at hl 1 rfl) ?_
      refine lv_iadd hx hb d_Wr_beginStream_30 ?_
      refine lv_iconst (v := 1) hx hb d_Wr_beginStream_31 rfl ?_
      refine lv_isub hx hb d_Wr_beginStream_32 ?_
      obtain ⟨z7, h⟩ := un_if h
      refine w_iald S hK hI hT p6 z7 d_Wr_beginStream_33 ?_
      refine lv_if_ne (tgt := 43) hx hb d_Wr_beginStream_34 rfl (fun hc => ?_) (fun hc => ?_)
      · replace h := (if_neg hc).symm.trans h
        refine lv_aload_n hx hb d_Wr_beginStream_43 rfl (lv_at hl 0 rfl) ?_
        have p8 := wt_o hW o0 0 1 rfl (by decide) (by decide) (by decide)
        refine w_getR (T := T_Wr) S hK hI o0 rfl hin_Wr 0 (index := 7) (by decide) lf_Wr_7 d_Wr_beginStream_44 ?_
        have p9 := wt_a hW p8 0 rfl (by decide) (by decide)
        refine w_getR (T := T_Row) S hK hI p8 rfl hin_Row 0 (index := 32) (by decide) lf_Wr_32 d_Wr_beginStream_47 ?_
        refine lv_aload_n hx hb d_Wr_beginStream_50 rfl (lv_at hl 0 rfl) ?_
        refine w_getI (T := T_Wr) S hK hI o0 rfl hin_Wr 1 (index := 13) (by decide) lf_Wr_13 d_Wr_beginStream_51 ?_
        refine lv_iload_n hx hb d_Wr_beginStream_54 rfl (lv_at hl 1 rfl) ?_
        refine lv_iadd hx hb d_Wr_beginStream_55 ?_
        refine lv_iconst (v := 1) hx hb d_Wr_beginStream_56 rfl ?_
        refine lv_isub hx hb d_Wr_beginStream_57 ?_
        obtain ⟨z10, h⟩ := un_if h
        refine w_iald S hK hI hT p9 z10 d_Wr_beginStream_58 ?_
        refine lv_istore_n (lv' := [(2, .int (mGa L q3.2 (mRf L (mRf L i0 0) 0) (((q3.2 i0 1) + x1) - (1 : Int32)).toNatClampNeg)), (0, .ref (mAd X i0)), (1, .int x1)]) hx hb d_Wr_beginStream_59 rfl hl (by decide) rfl (fun ls hl => ?_)
        refine lv_aload_n hx hb d_Wr_beginStream_60 rfl (lv_at hl 1 rfl) ?_
        refine lv_aload_n hx hb d_Wr_beginStream_61 rfl (lv_at hl 1 rfl) ?_
        refine w_getI (T := T_Wr) S hK hI o0 rfl hin_Wr 1 (index := 13) (by decide) lf_Wr_13 d_Wr_beginStream_62 ?_
        refine w_putI (T := T_Wr) S hK hI o0 rfl hin_Wr ty_Wr tk_Wr nm_Wr 4 (index := 43) (by decide) lf_Wr_43 rfl d_Wr_beginStream_65 (fun H locs F11 e12 hI => ?_)
        replace h := un_lt h _ e12
        refine lv_aload_n hx hb d_Wr_beginStream_68 rfl (lv_at hl 1 rfl) ?_
        refine lv_bipush (v := 8) hx hb d_Wr_beginStream_69 (by decide) ?_
        refine lv_iload_n hx hb d_Wr_beginStream_71 rfl (lv_at hl 2 rfl) ?_
        refine lv_iconst (v := 1) hx hb d_Wr_beginStream_72 rfl ?_
        refine lv_isub hx hb d_Wr_beginStream_73 ?_
        refine lv_imul hx hb d_Wr_beginStream_74 ?_
        refine lv_bipush (v := 31) hx hb d_Wr_beginStream_75 (by decide) ?_
        refine lv_iadd hx hb d_Wr_beginStream_77 ?_
        refine lv_iload_n hx hb d_Wr_beginStream_78 rfl (lv_at hl 0 rfl) ?_
        obtain ⟨q13, e14, h⟩ := un_bi h
        refine w_callSi (As := [.int (mGa L q3.2 (mRf L (mRf L i0 0) 0) (((q3.2 i0 1) + x1) - (1 : Int32)).toNatClampNeg)]) (rest := [.int (((8 : Int32) * (x1 - (1 : Int32))) + (31 : Int32)), .ref (mAd X i0)]) S hK hI hT (c_Int_numberOfLeadingZeros l hW  e14) (va_cwS 1 S.2.2.2.2 (gd_S lc_Int_numberOfLeadingZeros lm_Wr_46 lst_Int_numberOfLeadingZeros ln_Int) rfl rfl rfl hd_Int_numberOfLeadingZeros.2 ⟨Nat.le_of_ble_eq_true rfl, Nat.le_of_ble_eq_true rfl⟩)  rfl rfl hl.1 (Nat.le_of_ble_eq_true rfl) d_Wr_beginStream_79 ⟨Nat.zero_le _, Nat.zero_le _⟩ (fun H locs hI => ?_)
        refine lv_isub hx hb d_Wr_beginStream_82 ?_
        refine w_putI (T := T_Wr) S hK hI o0 rfl hin_Wr ty_Wr tk_Wr nm_Wr 5 (index := 29) (by decide) lf_Wr_29 rfl d_Wr_beginStream_83 (fun H locs F15 e16 hI => ?_)
        replace h := un_lt h _ e16
        refine lv_aload_n hx hb d_Wr_beginStream_86 rfl (lv_at hl 1 rfl) ?_
        refine lv_dup hx hb d_Wr_beginStream_87 rfl ?_
        refine w_getI (T := T_Wr) S hK hI o0 rfl hin_Wr 1 (index := 13) (by decide) lf_Wr_13 d_Wr_beginStream_88 ?_
        refine lv_iload_n hx hb d_Wr_beginStream_91 rfl (lv_at hl 2 rfl) ?_
        refine lv_iadd hx hb d_Wr_beginStream_92 ?_
        refine w_putI (T := T_Wr) S hK hI o0 rfl hin_Wr ty_Wr tk_Wr nm_Wr 1 (index := 13) (by decide) lf_Wr_13 rfl d_Wr_beginStream_93 (fun H locs F17 e18 hI => ?_)
        replace h := un_lt h _ e18
        exact w_vret S hK hr hlk hI d_Wr_beginStream_96 h
      · replace h := (if_pos hc).symm.trans h
        exact t_Wr_beginStream_37 hC  o0 hI (lv_sub hl [0] rfl) h
end
theorem d_Wr_nextBits_0 : decode cc_Wr_nextBits 0 = .ok (.iconst 0, 1) := by decide +kernel
theorem d_Wr_nextBits_1 : decode cc_Wr_nextBits 1 = .ok (.istore_n 2, 1) := by decide +kernel
theorem d_Wr_nextBits_2 : decode cc_Wr_nextBits 2 = .ok (.aload_n 0, 1) := by decide +kernel
theorem d_Wr_nextBits_3 : decode cc_Wr_nextBits 3 = .ok (.getfield 29, 3) := by decide +kernel
theorem d_Wr_nextBits_6 : decode cc_Wr_nextBits 6 = .ok (.iconst 1, 1) := by decide +kernel
theorem d_Wr_nextBits_7 : decode cc_Wr_nextBits 7 = .ok (.isub, 1) := by decide +kernel
theorem d_Wr_nextBits_8 : decode cc_Wr_nextBits 8 = .ok (.istore_n 3, 1) := by decide +kernel
theorem d_Wr_nextBits_9 : decode cc_Wr_nextBits 9 = .ok (.iload_n 3, 1) := by decide +kernel
theorem d_Wr_nextBits_10 : decode cc_Wr_nextBits 10 = .ok (.aload_n 0, 1) := by decide +kernel
theorem d_Wr_nextBits_11 : decode cc_Wr_nextBits 11 = .ok (.getfield 29, 3) := by decide +kernel
theorem d_Wr_nextBits_14 : decode cc_Wr_nextBits 14 = .ok (.iload_n 1, 1) := by decide +kernel
theorem d_Wr_nextBits_15 : decode cc_Wr_nextBits 15 = .ok (.isub, 1) := by decide +kernel
theorem d_Wr_nextBits_16 : decode cc_Wr_nextBits 16 = .ok (.if_icmp .lt (49), 3) := by decide +kernel
theorem d_Wr_nextBits_19 : decode cc_Wr_nextBits 19 = .ok (.iload_n 3, 1) := by decide +kernel
theorem d_Wr_nextBits_20 : decode cc_Wr_nextBits 20 = .ok (.ifCond .ge (7), 3) := by decide +kernel
theorem d_Wr_nextBits_23 : decode cc_Wr_nextBits 23 = .ok (.iconst 0, 1) := by decide +kernel
theorem d_Wr_nextBits_24 : decode cc_Wr_nextBits 24 = .ok (.goto (26), 3) := by decide +kernel
theorem d_Wr_nextBits_27 : decode cc_Wr_nextBits 27 = .ok (.aload_n 0, 1) := by decide +kernel
theorem d_Wr_nextBits_28 : decode cc_Wr_nextBits 28 = .ok (.getfield 7, 3) := by decide +kernel
theorem d_Wr_nextBits_31 : decode cc_Wr_nextBits 31 = .ok (.getfield 32, 3) := by decide +kernel
theorem d_Wr_nextBits_34 : decode cc_Wr_nextBits 34 = .ok (.aload_n 0, 1) := by decide +kernel
theorem d_Wr_nextBits_35 : decode cc_Wr_nextBits 35 = .ok (.getfield 43, 3) := by decide +kernel
theorem d_Wr_nextBits_38 : decode cc_Wr_nextBits 38 = .ok (.iload_n 3, 1) := by decide +kernel
theorem d_Wr_nextBits_39 : decode cc_Wr_nextBits 39 = .ok (.iconst 3, 1) := by decide +kernel
theorem d_Wr_nextBits_40 : decode cc_Wr_nextBits 40 = .ok (.ishr, 1) := by decide +kernel
theorem d_Wr_nextBits_41 : decode cc_Wr_nextBits 41 = .ok (.iadd, 1) := by decide +kernel
theorem d_Wr_nextBits_42 : decode cc_Wr_nextBits 42 = .ok (.iaload, 1) := by decide +kernel
theorem d_Wr_nextBits_43 : decode cc_Wr_nextBits 43 = .ok (.iload_n 3, 1) := by decide +kernel
theorem d_Wr_nextBits_44 : decode cc_Wr_nextBits 44 = .ok (.bipush (7), 2) := by decide +kernel
theorem d_Wr_nextBits_46 : decode cc_Wr_nextBits 46 = .ok (.iand, 1) := by decide +kernel
theorem d_Wr_nextBits_47 : decode cc_Wr_nextBits 47 = .ok (.ishr, 1) := by decide +kernel
theorem d_Wr_nextBits_48 : decode cc_Wr_nextBits 48 = .ok (.iconst 1, 1) := by decide +kernel
theorem d_Wr_nextBits_49 : decode cc_Wr_nextBits 49 = .ok (.iand, 1) := by decide +kernel
theorem d_Wr_nextBits_50 : decode cc_Wr_nextBits 50 = .ok (.istore 4, 2) := by decide +kernel
theorem d_Wr_nextBits_52 : decode cc_Wr_nextBits 52 = .ok (.iload_n 2, 1) := by decide +kernel
theorem d_Wr_nextBits_53 : decode cc_Wr_nextBits 53 = .ok (.iconst 1, 1) := by decide +kernel
theorem d_Wr_nextBits_54 : decode cc_Wr_nextBits 54 = .ok (.ishl, 1) := by decide +kernel
theorem d_Wr_nextBits_55 : decode cc_Wr_nextBits 55 = .ok (.iload 4, 2) := by decide +kernel
theorem d_Wr_nextBits_57 : decode cc_Wr_nextBits 57 = .ok (.ior, 1) := by decide +kernel
theorem d_Wr_nextBits_58 : decode cc_Wr_nextBits 58 = .ok (.istore_n 2, 1) := by decide +kernel
theorem d_Wr_nextBits_59 : decode cc_Wr_nextBits 59 = .ok (.iinc 3 (-1), 3) := by decide +kernel
theorem d_Wr_nextBits_62 : decode cc_Wr_nextBits 62 = .ok (.goto (-53), 3) := by decide +kernel
theorem d_Wr_nextBits_65 : decode cc_Wr_nextBits 65 = .ok (.iload_n 2, 1) := by decide +kernel
theorem d_Wr_nextBits_66 : decode cc_Wr_nextBits 66 = .ok (.ireturn, 1) := by decide +kernel
section
variable {p : Program} {l : Launch} {e : Env} {s : State} {m : MethodId} {args : Array Value} {below : List Frame} {meth : Method} {c : Code} {X : Xs} {L : La}
def b_Wr_nextBits_50 (L : La) (k9 : Nat → Int32 → Int32 → Int32 → Mem → Option (Int32 × Mem)) (i0 : Nat) (x1 : Int32) (x2 : Int32) (x3 : Int32) (y0 : Int32) (F : Mem) : Option (Int32 × Mem) :=
  k9 i0 x1 ((jshl x2 (1 : Int32)) ||| y0) (x3 + (-1 : Int32)) F
set_option maxHeartbeats 4000000 in
theorem t_Wr_nextBits_50 (hC : Cx X L p s m args meth c cc_Wr_nextBits 5 w_Wr_nextBits R_Wr (some .int)) {k9 : Nat → Int32 → Int32 → Int32 → Mem → Option (Int32 × Mem)} {out : (Int32 × Mem)} (hk9 : ∀ (i0 : Nat) (x1 : Int32) (x2 : Int32) (x3 : Int32) (F : Mem) (H : Heap) (locs : List Loc) (ls : Array Slot), oO L 7 i0 → Iv X L s H locs F → lv_has ls 5 [(0, .ref (mAd X i0)), (1, .int x1), (2, .int x2), (3, .int x3)] → k9 i0 x1 x2 x3 F = some out → W p l e (headSpec w_Wr_nextBits r_Wr_nextBits).room s m args below meth c H locs 0 0 (MQ below (QI X L out) args s 0 0 (AA X L)) (F0 m 9 ls [])) {i0 : Nat} {x1 : Int32} {x2 : Int32} {x3 : Int32} {y0 : Int32} {F : Mem} {H : Heap} {locs : List Loc} {ls : Array Slot} (o0 : oO L 7 i0) (hI : Iv X L s H locs F) (hl : lv_has ls 5 [(0, .ref (mAd X i0)), (1, .int x1), (2, .int x2), (3, .int x3)]) (h : b_Wr_nextBits_50 L k9 i0 x1 x2 x3 y0 F = some out) : W p l e (headSpec w_Wr_nextBits r_Wr_nextBits).room s m args below meth c H locs 0 0 (MQ below (QI X L out) args s 0 0 (AA X L)) (F0 m 50 ls [.int y0]) := by
  unfold b_Wr_nextBits_50 at h
  obtain ⟨S, hK, hT, hW, hr, hlk⟩ := id hC
  have hx := S.1
  have hb := S.2.1
  refine lv_istore (lv' := [(4, .int y0), (0, .ref (mAd X i0)), (1, .int x1), (2, .int x2), (3, .int x3)]) hx hb d_Wr_nextBits_50 hl (by decide) rfl (fun ls hl => ?_)
  refine lv_iload_n hx hb d_Wr_nextBits_52 rfl (lv_at hl 3 rfl) ?_
  refine lv_iconst (v := 1) hx hb d_Wr_nextBits_53 rfl ?_
  refine lv_ishl hx hb d_Wr_nextBits_54 ?_
  refine lv_iload hx hb d_Wr_nextBits_55 (lv_at hl 0 rfl) ?_
  refine lv_ior hx hb d_Wr_nextBits_57 ?_
  refine lv_istore_n (lv' := [(2, .int ((jshl x2 (1 : Int32)) ||| y0)), (4, .int y0), (0, .ref (mAd X i0)), (1, .int x1), (3, .int x3)]) hx hb d_Wr_nextBits_58 rfl hl (by decide) rfl (fun ls hl => ?_)
  refine lv_iinc (k := 4) (v := x3 + (-1 : Int32)) (lv' := [(3, .int (x3 + (-1 : Int32))), (2, .int ((jshl x2 (1 : Int32)) ||| y0)), (4, .int y0), (0, .ref (mAd X i0)), (1, .int x1)]) hx hb d_Wr_nextBits_59 hl rfl rfl (by decide) rfl (fun ls hl => ?_)
  refine lv_goto (tgt := 9) hx hb d_Wr_nextBits_62 rfl ?_
  exact hk9 _ _ _ _ _ _ _ _ o0 hI (lv_sub hl [3, 4, 1, 0] rfl) h
def b_Wr_nextBits_9 (L : La) (k9 : Nat → Int32 → Int32 → Int32 → Mem → Option (Int32 × Mem)) (i0 : Nat) (x1 : Int32) (x2 : Int32) (x3 : Int32) (F : Mem) : Option (Int32 × Mem) :=
  if x3 < ((F i0 5) - x1) then
    some (x2, F)
  else
    if 0 ≤ x3 then
      if inb ((F i0 4) + (jshr x3 (3 : Int32))) (mGl L (mRf L (mRf L i0 0) 0)) then none else
      b_Wr_nextBits_50 L k9 i0 x1 x2 x3 ((jshr (mGa L F (mRf L (mRf L i0 0) 0) ((F i0 4) + (jshr x3 (3 : Int32))).toNatClampNeg) (x3 &&& (7 : Int32))) &&& (1 : Int32)) F
    else
      b_Wr_nextBits_50 L k9 i0 x1 x2 x3 (0 : Int32) F
set_option maxHeartbeats 4000000 in
theorem t_Wr_nextBits_9 (hC : Cx X L p s m args meth c cc_Wr_nextBits 5 w_Wr_nextBits R_Wr (some .int)) {k9 : Nat → Int32 → Int32 → Int32 → Mem → Option (Int32 × Mem)} {out : (Int32 × Mem)} (hk9 : ∀ (i0 : Nat) (x1 : Int32) (x2 : Int32) (x3 : Int32) (F : Mem) (H : Heap) (locs : List Loc) (ls : Array Slot), oO L 7 i0 → Iv X L s H locs F → lv_has ls 5 [(0, .ref (mAd X i0)), (1, .int x1), (2, .int x2), (3, .int x3)] → k9 i0 x1 x2 x3 F = some out → W p l e (headSpec w_Wr_nextBits r_Wr_nextBits).room s m args below meth c H locs 0 0 (MQ below (QI X L out) args s 0 0 (AA X L)) (F0 m 9 ls [])) {i0 : Nat} {x1 : Int32} {x2 : Int32} {x3 : Int32} {F : Mem} {H : Heap} {locs : List Loc} {ls : Array Slot} (o0 : oO L 7 i0) (hI : Iv X L s H locs F) (hl : lv_has ls 5 [(0, .ref (mAd X i0)), (1, .int x1), (2, .int x2), (3, .int x3)]) (h : b_Wr_nextBits_9 L k9 i0 x1 x2 x3 F = some out) : W p l e (headSpec w_Wr_nextBits r_Wr_nextBits).room s m args below meth c H locs 0 0 (MQ below (QI X L out) args s 0 0 (AA X L)) (F0 m 9 ls []) := by
  unfold b_Wr_nextBits_9 at h
  obtain ⟨S, hK, hT, hW, hr, hlk⟩ := id hC
  have hx := S.1
  have hb := S.2.1
  refine lv_iload_n hx hb d_Wr_nextBits_9 rfl (lv_at hl 3 rfl) ?_
  refine lv_aload_n hx hb d_Wr_nextBits_10 rfl (lv_at hl 0 rfl) ?_
  refine w_getI (T := T_Wr) S hK hI o0 rfl hin_Wr 5 (index := 29) (by decide) lf_Wr_29 d_Wr_nextBits_11 ?_
  refine lv_iload_n hx hb d_Wr_nextBits_14 rfl (lv_at hl 1 rfl) ?_
  refine lv_isub hx hb d_Wr_nextBits_15 ?_
  refine lv_icmp_lt (tgt := 65) hx hb d_Wr_nextBits_16 rfl (fun hc => ?_) (fun hc => ?_)
  · replace h := (if_pos hc).symm.trans h
    refine lv_iload_n hx hb d_Wr_nextBits_65 rfl (lv_at hl 2 rfl) ?_
    exact w_iret S hK hr hlk hI d_Wr_nextBits_66 h
  · replace h := (if_neg hc).symm.trans h
    refine lv_iload_n hx hb d_Wr_nextBits_19 rfl (lv_at hl 3 rfl) ?_
    refine lv_if_ge (tgt := 27) hx hb d_Wr_nextBits_20 rfl (fun hc => ?_) (fun hc => ?_)
    · replace h := (if_pos hc).symm.trans h
      refine lv_aload_n hx hb d_Wr_nextBits_27 rfl (lv_at hl 0 rfl) ?_
      have p1 := wt_o hW o0 0 1 rfl (by decide) (by decide) (by decide)
      refine w_getR (T := T_Wr) S hK hI o0 rfl hin_Wr 0 (index := 7) (by decide) lf_Wr_7 d_Wr_nextBits_28 ?_
      have p2 := wt_a hW p1 0 rfl (by decide) (by decide)
      refine w_getR (T := T_Row) S hK hI p1 rfl hin_Row 0 (index := 32) (by decide) lf_Wr_32 d_Wr_nextBits_31 ?_
      refine lv_aload_n hx hb d_Wr_nextBits_34 rfl (lv_at hl 0 rfl) ?_
      refine w_getI (T := T_Wr) S hK hI o0 rfl hin_Wr 4 (index := 43) (by decide) lf_Wr_43 d_Wr_nextBits_35 ?_
      refine lv_iload_n hx hb d_Wr_nextBits_38 rfl (lv_at hl 3 rfl) ?_
      refine lv_iconst (v := 3) hx hb d_Wr_nextBits_39 rfl ?_
      refine lv_ishr hx hb d_Wr_nextBits_40 ?_
      refine lv_iadd hx hb d_Wr_nextBits_41 ?_
      obtain ⟨z3, h⟩ := un_if h
      refine w_iald S hK hI hT p2 z3 d_Wr_nextBits_42 ?_
      refine lv_iload_n hx hb d_Wr_nextBits_43 rfl (lv_at hl 3 rfl) ?_
      refine lv_bipush (v := 7) hx hb d_Wr_nextBits_44 (by decide) ?_
      refine lv_iand hx hb d_Wr_nextBits_46 ?_
      refine lv_ishr hx hb d_Wr_nextBits_47 ?_
      refine lv_iconst (v := 1) hx hb d_Wr_nextBits_48 rfl ?_
      refine lv_iand hx hb d_Wr_nextBits_49 ?_
      exact t_Wr_nextBits_50 hC hk9 o0 hI hl h
    · replace h := (if_neg hc).symm.trans h
      refine lv_iconst (v := 0) hx hb d_Wr_nextBits_23 rfl ?_
      refine lv_goto (tgt := 50) hx hb d_Wr_nextBits_24 rfl ?_
      exact t_Wr_nextBits_50 hC hk9 o0 hI hl h
def f_Wr_nextBits_9 (L : La)  : Nat → Nat → Int32 → Int32 → Int32 → Mem → Option (Int32 × Mem)
  | 0 => fun _ _ _ _ _ => none
  | n + 1 => b_Wr_nextBits_9 L (f_Wr_nextBits_9 L  n)
theorem tf_Wr_nextBits_9 (hC : Cx X L p s m args meth c cc_Wr_nextBits 5 w_Wr_nextBits R_Wr (some .int))  {out : (Int32 × Mem)}  (n : Nat) : ∀ (i0 : Nat) (x1 : Int32) (x2 : Int32) (x3 : Int32) (F : Mem) (H : Heap) (locs : List Loc) (ls : Array Slot), oO L 7 i0 → Iv X L s H locs F → lv_has ls 5 [(0, .ref (mAd X i0)), (1, .int x1), (2, .int x2), (3, .int x3)] → f_Wr_nextBits_9 L  n i0 x1 x2 x3 F = some out → W p l e (headSpec w_Wr_nextBits r_Wr_nextBits).room s m args below meth c H locs 0 0 (MQ below (QI X L out) args s 0 0 (AA X L)) (F0 m 9 ls []) := by
  induction n with
  | zero => intro i0 x1 x2 x3 F H locs ls o0 hI hl h; cases h
  | succ n ih => intro i0 x1 x2 x3 F H locs ls o0 hI hl h; exact t_Wr_nextBits_9 hC ih o0 hI hl h
def f_Wr_nextBits (L : La) (i0 : Nat) (x1 : Int32) (F : Mem) : Option (Int32 × Mem) :=
  f_Wr_nextBits_9 L  mFU i0 x1 (0 : Int32) ((F i0 5) - (1 : Int32)) F
set_option maxHeartbeats 4000000 in
theorem c_Wr_nextBits (l : Launch) {X : Xs} {L : La} (hW : WT L) {out : (Int32 × Mem)} {i0 : Nat} {x1 : Int32} {F : Mem} (o0 : oO L 7 i0) (h : f_Wr_nextBits L i0 x1 F = some out) : Met l y_Wr_nextBits w_Wr_nextBits r_Wr_nextBits (va_Pc [.ref (mAd X i0), .int x1] (Pr X L F)) (QI X L out) 0 0 (AA X L) := by
  refine mk_met (by decide) rfl (Nat.le_of_ble_eq_true rfl) hW ?_
  intro p e s m args below meth c ls hC hI hl
  have hl : lv_has ls 5 [(0, .ref (mAd X i0)), (1, .int x1)] := hl
  generalize hHe : s.heap = H at hI ⊢
  generalize ([] : List Loc) = locs at hI ⊢
  unfold f_Wr_nextBits at h
  obtain ⟨S, hK, hT, hW, hr, hlk⟩ := id hC
  have hx := S.1
  have hb := S.2.1
  refine lv_iconst (v := 0) hx hb d_Wr_nextBits_0 rfl ?_
  refine lv_istore_n (lv' := [(2, .int (0 : Int32)), (0, .ref (mAd X i0)), (1, .int x1)]) hx hb d_Wr_nextBits_1 rfl hl (by decide) rfl (fun ls hl => ?_)
  refine lv_aload_n hx hb d_Wr_nextBits_2 rfl (lv_at hl 1 rfl) ?_
  refine w_getI (T := T_Wr) S hK hI o0 rfl hin_Wr 5 (index := 29) (by decide) lf_Wr_29 d_Wr_nextBits_3 ?_
  refine lv_iconst (v := 1) hx hb d_Wr_nextBits_6 rfl ?_
  refine lv_isub hx hb d_Wr_nextBits_7 ?_
  refine lv_istore_n (lv' := [(3, .int ((F i0 5) - (1 : Int32))), (2, .int (0 : Int32)), (0, .ref (mAd X i0)), (1, .int x1)]) hx hb d_Wr_nextBits_8 rfl hl (by decide) rfl (fun ls hl => ?_)
  exact tf_Wr_nextBits_9 hC  mFU _ _ _ _ _ _ _ _ o0 hI (lv_sub hl [2, 3, 1, 0] rfl) h
end
theorem d_Wr_dropBits_0 : decode cc_Wr_dropBits 0 = .ok (.iload_n 1, 1) := by decide +kernel
theorem d_Wr_dropBits_1 : decode cc_Wr_dropBits 1 = .ok (.aload_n 0, 1) := by decide +kernel
theorem d_Wr_dropBits_2 : decode cc_Wr_dropBits 2 = .ok (.getfield 29, 3) := by decide +kernel
theorem d_Wr_dropBits_5 : decode cc_Wr_dropBits 5 = .ok (.if_icmp .le (11), 3) := by decide +kernel
theorem d_Wr_dropBits_8 : decode cc_Wr_dropBits 8 = .ok (.aload_n 0, 1) := by decide +kernel
theorem d_Wr_dropBits_9 : decode cc_Wr_dropBits 9 = .ok (.iconst 0, 1) := by decide +kernel
theorem d_Wr_dropBits_10 : decode cc_Wr_dropBits 10 = .ok (.putfield 25, 3) := by decide +kernel
theorem d_Wr_dropBits_13 : decode cc_Wr_dropBits 13 = .ok (.goto (13), 3) := by decide +kernel
theorem d_Wr_dropBits_16 : decode cc_Wr_dropBits 16 = .ok (.aload_n 0, 1) := by decide +kernel
theorem d_Wr_dropBits_17 : decode cc_Wr_dropBits 17 = .ok (.dup, 1) := by decide +kernel
theorem d_Wr_dropBits_18 : decode cc_Wr_dropBits 18 = .ok (.getfield 29, 3) := by decide +kernel
theorem d_Wr_dropBits_21 : decode cc_Wr_dropBits 21 = .ok (.iload_n 1, 1) := by decide +kernel
theorem d_Wr_dropBits_22 : decode cc_Wr_dropBits 22 = .ok (.isub, 1) := by decide +kernel
theorem d_Wr_dropBits_23 : decode cc_Wr_dropBits 23 = .ok (.putfield 29, 3) := by decide +kernel
theorem d_Wr_dropBits_26 : decode cc_Wr_dropBits 26 = .ok (.return_, 1) := by decide +kernel
section
variable {p : Program} {l : Launch} {e : Env} {s : State} {m : MethodId} {args : Array Value} {below : List Frame} {meth : Method} {c : Code} {X : Xs} {L : La}
def b_Wr_dropBits_26 (L : La)   (F : Mem) : Option Mem :=
  some F
set_option maxHeartbeats 4000000 in
theorem t_Wr_dropBits_26 (hC : Cx X L p s m args meth c cc_Wr_dropBits 2 w_Wr_dropBits R_Wr none)  {out : Mem}   {F : Mem} {H : Heap} {locs : List Loc} {ls : Array Slot}  (hI : Iv X L s H locs F) (hl : lv_has ls 2 []) (h : b_Wr_dropBits_26 L   F = some out) : W p l e (headSpec w_Wr_dropBits r_Wr_dropBits).room s m args below meth c H locs 0 0 (MQ below (QV X L out) args s 0 0 (AA X L)) (F0 m 26 ls []) := by
  unfold b_Wr_dropBits_26 at h
  obtain ⟨S, hK, hT, hW, hr, hlk⟩ := id hC
  have hx := S.1
  have hb := S.2.1
  exact w_vret S hK hr hlk hI d_Wr_dropBits_26 h
def f_Wr_dropBits (L : La) (i0 : Nat) (x1 : Int32) (F : Mem) : Option Mem :=
  if x1 ≤ (F i0 5) then
    lt' (u2 F i0 5 ((F i0 5) - x1)) fun F1 =>
    b_Wr_dropBits_26 L   F1
  else
    if ¬ ((0 : Int32) = 0 ∨ (0 : Int32) = 1) then none else
    lt' (u2 F i0 3 (0 : Int32)) fun F3 =>
    b_Wr_dropBits_26 L   F3
set_option maxHeartbeats 4000000 in
theorem c_Wr_dropBits (l : Launch) {X : Xs} {L : La} (hW : WT L) {out : Mem} {i0 : Nat} {x1 : Int32} {F : Mem} (o0 : oO L 7 i0) (h : f_Wr_dropBits L i0 x1 F = some out) : Met l y_Wr_dropBits w_Wr_dropBits r_Wr_dropBits (va_Pc [.ref (mAd X i0), .int x1] (Pr X L F)) (QV X L out) 0 0 (AA X L) := by
  refine mk_met (by decide) rfl (Nat.le_of_ble_eq_true rfl) hW ?_
  intro p e s m args below meth c ls hC hI hl
  have hl : lv_has ls 2 [(0, .ref (mAd X i0)), (1, .int x1)] := hl
  generalize hHe : s.heap = H at hI ⊢
  generalize ([] : List Loc) = locs at hI ⊢
  unfold f_Wr_dropBits at h
  obtain ⟨S, hK, hT, hW, hr, hlk⟩ := id hC
  have hx := S.1
  have hb := S.2.1
  refine lv_iload_n hx hb d_Wr_dropBits_0 rfl (lv_at hl 1 rfl) ?_
  refine lv_aload_n hx hb d_Wr_dropBits_1 rfl (lv_at hl 0 rfl) ?_
  refine w_getI (T := T_Wr) S hK hI o0 rfl hin_Wr 5 (index := 29) (by decide) lf_Wr_29 d_Wr_dropBits_2 ?_
  refine lv_icmp_le (tgt := 16) hx hb d_Wr_dropBits_5 rfl (fun hc => ?_) (fun hc => ?_)
  · replace h := (if_pos hc).symm.trans h
    refine lv_aload_n hx hb d_Wr_dropBits_16 rfl (lv_at hl 0 rfl) ?_
    refine lv_dup hx hb d_Wr_dropBits_17 rfl ?_
    refine w_getI (T := T_Wr) S hK hI o0 rfl hin_Wr 5 (index := 29) (by decide) lf_Wr_29 d_Wr_dropBits_18 ?_
    refine lv_iload_n hx hb d_Wr_dropBits_21 rfl (lv_at hl 1 rfl) ?_
    refine lv_isub hx hb d_Wr_dropBits_22 ?_
    refine w_putI (T := T_Wr) S hK hI o0 rfl hin_Wr ty_Wr tk_Wr nm_Wr 5 (index := 29) (by decide) lf_Wr_29 rfl d_Wr_dropBits_23 (fun H locs F1 e2 hI => ?_)
    replace h := un_lt h _ e2
    exact t_Wr_dropBits_26 hC   hI (lv_sub hl [] rfl) h
  · replace h := (if_neg hc).symm.trans h
    refine lv_aload_n hx hb d_Wr_dropBits_8 rfl (lv_at hl 0 rfl) ?_
    refine lv_iconst (v := 0) hx hb d_Wr_dropBits_9 rfl ?_
    obtain ⟨z5, h⟩ := un_if h
    refine w_putZ (T := T_Wr) S hK hI o0 rfl hin_Wr ty_Wr tk_Wr nm_Wr 3 (index := 25) (by decide) lf_Wr_25 rfl z5 d_Wr_dropBits_10 (fun H locs F3 e4 hI => ?_)
    replace h := un_lt h _ e4
    refine lv_goto (tgt := 26) hx hb d_Wr_dropBits_13 rfl ?_
    exact t_Wr_dropBits_26 hC   hI (lv_sub hl [] rfl) h
end
theorem d_Wr_endStream_0 : decode cc_Wr_endStream 0 = .ok (.aload_n 0, 1) := by decide +kernel
theorem d_Wr_endStream_1 : decode cc_Wr_endStream 1 = .ok (.getfield 29, 3) := by decide +kernel
theorem d_Wr_endStream_4 : decode cc_Wr_endStream 4 = .ok (.ifCond .eq (8), 3) := by decide +kernel
theorem d_Wr_endStream_7 : decode cc_Wr_endStream 7 = .ok (.aload_n 0, 1) := by decide +kernel
theorem d_Wr_endStream_8 : decode cc_Wr_endStream 8 = .ok (.iconst 0, 1) := by decide +kernel
theorem d_Wr_endStream_9 : decode cc_Wr_endStream 9 = .ok (.putfield 25, 3) := by decide +kernel
theorem d_Wr_endStream_12 : decode cc_Wr_endStream 12 = .ok (.return_, 1) := by decide +kernel
section
variable {p : Program} {l : Launch} {e : Env} {s : State} {m : MethodId} {args : Array Value} {below : List Frame} {meth : Method} {c : Code} {X : Xs} {L : La}
def b_Wr_endStream_12 (L : La)   (F : Mem) : Option Mem :=
  some F
set_option maxHeartbeats 4000000 in
theorem t_Wr_endStream_12 (hC : Cx X L p s m args meth c cc_Wr_endStream 1 w_Wr_endStream R_Wr none)  {out : Mem}   {F : Mem} {H : Heap} {locs : List Loc} {ls : Array Slot}  (hI : Iv X L s H locs F) (hl : lv_has ls 1 []) (h : b_Wr_endStream_12 L   F = some out) : W p l e (headSpec w_Wr_endStream r_Wr_endStream).room s m args below meth c H locs 0 0 (MQ below (QV X L out) args s 0 0 (AA X L)) (F0 m 12 ls []) := by
  unfold b_Wr_endStream_12 at h
  obtain ⟨S, hK, hT, hW, hr, hlk⟩ := id hC
  have hx := S.1
  have hb := S.2.1
  exact w_vret S hK hr hlk hI d_Wr_endStream_12 h
def f_Wr_endStream (L : La) (i0 : Nat) (F : Mem) : Option Mem :=
  if (F i0 5) = 0 then
    b_Wr_endStream_12 L   F
  else
    if ¬ ((0 : Int32) = 0 ∨ (0 : Int32) = 1) then none else
    lt' (u2 F i0 3 (0 : Int32)) fun F1 =>
    b_Wr_endStream_12 L   F1
set_option maxHeartbeats 4000000 in
theorem c_Wr_endStream (l : Launch) {X : Xs} {L : La} (hW : WT L) {out : Mem} {i0 : Nat} {F : Mem} (o0 : oO L 7 i0) (h : f_Wr_endStream L i0 F = some out) : Met l y_Wr_endStream w_Wr_endStream r_Wr_endStream (va_Pc [.ref (mAd X i0)] (Pr X L F)) (QV X L out) 0 0 (AA X L) := by
  refine mk_met (by decide) rfl (Nat.le_of_ble_eq_true rfl) hW ?_
  intro p e s m args below meth c ls hC hI hl
  have hl : lv_has ls 1 [(0, .ref (mAd X i0))] := hl
  generalize hHe : s.heap = H at hI ⊢
  generalize ([] : List Loc) = locs at hI ⊢
  unfold f_Wr_endStream at h
  obtain ⟨S, hK, hT, hW, hr, hlk⟩ := id hC
  have hx := S.1
  have hb := S.2.1
  refine lv_aload_n hx hb d_Wr_endStream_0 rfl (lv_at hl 0 rfl) ?_
  refine w_getI (T := T_Wr) S hK hI o0 rfl hin_Wr 5 (index := 29) (by decide) lf_Wr_29 d_Wr_endStream_1 ?_
  refine lv_if_eq (tgt := 12) hx hb d_Wr_endStream_4 rfl (fun hc => ?_) (fun hc => ?_)
  · replace h := (if_pos hc).symm.trans h
    exact t_Wr_endStream_12 hC   hI (lv_sub hl [] rfl) h
  · replace h := (if_neg hc).symm.trans h
    refine lv_aload_n hx hb d_Wr_endStream_7 rfl (lv_at hl 0 rfl) ?_
    refine lv_iconst (v := 0) hx hb d_Wr_endStream_8 rfl ?_
    obtain ⟨z3, h⟩ := un_if h
    refine w_putZ (T := T_Wr) S hK hI o0 rfl hin_Wr ty_Wr tk_Wr nm_Wr 3 (index := 25) (by decide) lf_Wr_25 rfl z3 d_Wr_endStream_9 (fun H locs F1 e2 hI => ?_)
    replace h := un_lt h _ e2
    exact t_Wr_endStream_12 hC   hI (lv_sub hl [] rfl) h
end
theorem d_Fr_readSymbols_0 : decode cc_Fr_readSymbols 0 = .ok (.aload_n 0, 1) := by decide +kernel
theorem d_Fr_readSymbols_1 : decode cc_Fr_readSymbols 1 = .ok (.getfield 105, 3) := by decide +kernel
theorem d_Fr_readSymbols_4 : decode cc_Fr_readSymbols 4 = .ok (.ifCond .ne (11), 3) := by decide +kernel
theorem d_Fr_readSymbols_7 : decode cc_Fr_readSymbols 7 = .ok (.aload_n 0, 1) := by decide +kernel
theorem d_Fr_readSymbols_8 : decode cc_Fr_readSymbols 8 = .ok (.getfield 42, 3) := by decide +kernel
theorem d_Fr_readSymbols_11 : decode cc_Fr_readSymbols 11 = .ok (.invokevirtual 85, 3) := by decide +kernel
theorem d_Fr_readSymbols_14 : decode cc_Fr_readSymbols 14 = .ok (.return_, 1) := by decide +kernel
theorem d_Fr_readSymbols_15 : decode cc_Fr_readSymbols 15 = .ok (.aload_n 0, 1) := by decide +kernel
theorem d_Fr_readSymbols_16 : decode cc_Fr_readSymbols 16 = .ok (.getfield 42, 3) := by decide +kernel
theorem d_Fr_readSymbols_19 : decode cc_Fr_readSymbols 19 = .ok (.aload_n 0, 1) := by decide +kernel
theorem d_Fr_readSymbols_20 : decode cc_Fr_readSymbols 20 = .ok (.getfield 42, 3) := by decide +kernel
theorem d_Fr_readSymbols_23 : decode cc_Fr_readSymbols 23 = .ok (.invokevirtual 58, 3) := by decide +kernel
theorem d_Fr_readSymbols_26 : decode cc_Fr_readSymbols 26 = .ok (.invokevirtual 170, 3) := by decide +kernel
theorem d_Fr_readSymbols_29 : decode cc_Fr_readSymbols 29 = .ok (.iconst 0, 1) := by decide +kernel
theorem d_Fr_readSymbols_30 : decode cc_Fr_readSymbols 30 = .ok (.istore_n 2, 1) := by decide +kernel
theorem d_Fr_readSymbols_31 : decode cc_Fr_readSymbols 31 = .ok (.iload_n 2, 1) := by decide +kernel
theorem d_Fr_readSymbols_32 : decode cc_Fr_readSymbols 32 = .ok (.iload_n 1, 1) := by decide +kernel
theorem d_Fr_readSymbols_33 : decode cc_Fr_readSymbols 33 = .ok (.if_icmp .ge (73), 3) := by decide +kernel
theorem d_Fr_readSymbols_36 : decode cc_Fr_readSymbols 36 = .ok (.aload_n 0, 1) := by decide +kernel
theorem d_Fr_readSymbols_37 : decode cc_Fr_readSymbols 37 = .ok (.getfield 42, 3) := by decide +kernel
theorem d_Fr_readSymbols_40 : decode cc_Fr_readSymbols 40 = .ok (.getfield 72, 3) := by decide +kernel
theorem d_Fr_readSymbols_43 : decode cc_Fr_readSymbols 43 = .ok (.ifCond .eq (63), 3) := by decide +kernel
theorem d_Fr_readSymbols_46 : decode cc_Fr_readSymbols 46 = .ok (.aload_n 0, 1) := by decide +kernel
theorem d_Fr_readSymbols_47 : decode cc_Fr_readSymbols 47 = .ok (.getfield 30, 3) := by decide +kernel
theorem d_Fr_readSymbols_50 : decode cc_Fr_readSymbols 50 = .ok (.getfield 173, 3) := by decide +kernel
theorem d_Fr_readSymbols_53 : decode cc_Fr_readSymbols 53 = .ok (.aload_n 0, 1) := by decide +kernel
theorem d_Fr_readSymbols_54 : decode cc_Fr_readSymbols 54 = .ok (.getfield 42, 3) := by decide +kernel
theorem d_Fr_readSymbols_57 : decode cc_Fr_readSymbols 57 = .ok (.aload_n 0, 1) := by decide +kernel
theorem d_Fr_readSymbols_58 : decode cc_Fr_readSymbols 58 = .ok (.getfield 30, 3) := by decide +kernel
theorem d_Fr_readSymbols_61 : decode cc_Fr_readSymbols 61 = .ok (.getfield 176, 3) := by decide +kernel
theorem d_Fr_readSymbols_64 : decode cc_Fr_readSymbols 64 = .ok (.invokevirtual 179, 3) := by decide +kernel
theorem d_Fr_readSymbols_67 : decode cc_Fr_readSymbols 67 = .ok (.iaload, 1) := by decide +kernel
theorem d_Fr_readSymbols_68 : decode cc_Fr_readSymbols 68 = .ok (.istore_n 3, 1) := by decide +kernel
theorem d_Fr_readSymbols_69 : decode cc_Fr_readSymbols 69 = .ok (.aload_n 0, 1) := by decide +kernel
theorem d_Fr_readSymbols_70 : decode cc_Fr_readSymbols 70 = .ok (.getfield 42, 3) := by decide +kernel
theorem d_Fr_readSymbols_73 : decode cc_Fr_readSymbols 73 = .ok (.aload_n 0, 1) := by decide +kernel
theorem d_Fr_readSymbols_74 : decode cc_Fr_readSymbols 74 = .ok (.getfield 30, 3) := by decide +kernel
theorem d_Fr_readSymbols_77 : decode cc_Fr_readSymbols 77 = .ok (.iload_n 3, 1) := by decide +kernel
theorem d_Fr_readSymbols_78 : decode cc_Fr_readSymbols 78 = .ok (.invokevirtual 182, 3) := by decide +kernel
theorem d_Fr_readSymbols_81 : decode cc_Fr_readSymbols 81 = .ok (.invokevirtual 185, 3) := by decide +kernel
theorem d_Fr_readSymbols_84 : decode cc_Fr_readSymbols 84 = .ok (.aload_n 0, 1) := by decide +kernel
theorem d_Fr_readSymbols_85 : decode cc_Fr_readSymbols 85 = .ok (.getfield 34, 3) := by decide +kernel
theorem d_Fr_readSymbols_88 : decode cc_Fr_readSymbols 88 = .ok (.aload_n 0, 1) := by decide +kernel
theorem d_Fr_readSymbols_89 : decode cc_Fr_readSymbols 89 = .ok (.getfield 30, 3) := by decide +kernel
theorem d_Fr_readSymbols_92 : decode cc_Fr_readSymbols 92 = .ok (.getfield 153, 3) := by decide +kernel
theorem d_Fr_readSymbols_95 : decode cc_Fr_readSymbols 95 = .ok (.iload_n 3, 1) := by decide +kernel
theorem d_Fr_readSymbols_96 : decode cc_Fr_readSymbols 96 = .ok (.iadd, 1) := by decide +kernel
theorem d_Fr_readSymbols_97 : decode cc_Fr_readSymbols 97 = .ok (.invokevirtual 119, 3) := by decide +kernel
theorem d_Fr_readSymbols_100 : decode cc_Fr_readSymbols 100 = .ok (.iinc 2 (1), 3) := by decide +kernel
theorem d_Fr_readSymbols_103 : decode cc_Fr_readSymbols 103 = .ok (.goto (-72), 3) := by decide +kernel
theorem d_Fr_readSymbols_106 : decode cc_Fr_readSymbols 106 = .ok (.aload_n 0, 1) := by decide +kernel
theorem d_Fr_readSymbols_107 : decode cc_Fr_readSymbols 107 = .ok (.getfield 42, 3) := by decide +kernel
theorem d_Fr_readSymbols_110 : decode cc_Fr_readSymbols 110 = .ok (.invokevirtual 188, 3) := by decide +kernel
theorem d_Fr_readSymbols_113 : decode cc_Fr_readSymbols 113 = .ok (.return_, 1) := by decide +kernel
section
variable {p : Program} {l : Launch} {e : Env} {s : State} {m : MethodId} {args : Array Value} {below : List Frame} {meth : Method} {c : Code} {X : Xs} {L : La}
def b_Fr_readSymbols_106 (L : La)  (i0 : Nat) (F : Mem) : Option Mem :=
  (f_Wr_endStream L (mRf L i0 1) F).bind fun F2 =>
  some F2
set_option maxHeartbeats 4000000 in
theorem t_Fr_readSymbols_106 (hC : Cx X L p s m args meth c cc_Fr_readSymbols 4 w_Fr_readSymbols R_Fr none)  {out : Mem}  {i0 : Nat} {F : Mem} {H : Heap} {locs : List Loc} {ls : Array Slot} (o0 : oO L 9 i0) (hI : Iv X L s H locs F) (hl : lv_has ls 4 [(0, .ref (mAd X i0))]) (h : b_Fr_readSymbols_106 L  i0 F = some out) : W p l e (headSpec w_Fr_readSymbols r_Fr_readSymbols).room s m args below meth c H locs 0 0 (MQ below (QV X L out) args s 0 0 (AA X L)) (F0 m 106 ls []) := by
  unfold b_Fr_readSymbols_106 at h
  obtain ⟨S, hK, hT, hW, hr, hlk⟩ := id hC
  have hx := S.1
  have hb := S.2.1
  refine lv_aload_n hx hb d_Fr_readSymbols_106 rfl (lv_at hl 0 rfl) ?_
  have p1 := wt_o hW o0 1 7 rfl (by decide) (by decide) (by decide)
  refine w_getR (T := T_Fr) S hK hI o0 rfl hin_Fr 1 (index := 42) (by decide) lf_Fr_42 d_Fr_readSymbols_107 ?_
  obtain ⟨F2, e3, h⟩ := un_bi h
  refine w_callVv (As := []) (rest := []) S hK hI hT (c_Wr_endStream l hW p1 e3) (cwV 0 S.2.2.2.2 (gd_V lc_Wr_endStream lm_Fr_188 li_Wr_endStream ls_Wr_endStream ln_Wr) rfl rfl rfl hd_Wr_endStream ⟨Nat.le_of_ble_eq_true rfl, Nat.le_of_ble_eq_true rfl⟩) p1 rfl (by decide) rfl rfl hl.1 (Nat.le_of_ble_eq_true rfl) d_Fr_readSymbols_110 ⟨Nat.zero_le _, Nat.zero_le _⟩ (fun H locs hI => ?_)
  exact w_vret S hK hr hlk hI d_Fr_readSymbols_113 h
def b_Fr_readSymbols_31 (L : La) (k31 : Nat → Int32 → Int32 → Mem → Option Mem) (i0 : Nat) (x1 : Int32) (x2 : Int32) (F : Mem) : Option Mem :=
  if x1 ≤ x2 then
    b_Fr_readSymbols_106 L  i0 F
  else
    if (F (mRf L i0 1) 3) = 0 then
      b_Fr_readSymbols_106 L  i0 F
    else
      (f_Wr_nextBits L (mRf L i0 1) (F (mRf L i0 4) 4) F).bind fun q6 =>
      if inb q6.1 (mGl L (mRf L (mRf L i0 4) 2)) then none else
      (f_Tr_bitsOf L (mRf L i0 4) (mGa L q6.2 (mRf L (mRf L i0 4) 2) q6.1.toNatClampNeg) q6.2).bind fun q11 =>
      (f_Wr_dropBits L (mRf L i0 1) q11.1 q11.2).bind fun F13 =>
      (f_Row_add L (mRf L i0 5) ((F13 (mRf L i0 4) 3) + (mGa L q6.2 (mRf L (mRf L i0 4) 2) q6.1.toNatClampNeg)) F13).bind fun F17 =>
      k31 i0 x1 (x2 + (1 : Int32)) F17
set_option maxHeartbeats 4000000 in
theorem t_Fr_readSymbols_31 (hC : Cx X L p s m args meth c cc_Fr_readSymbols 4 w_Fr_readSymbols R_Fr none) {k31 : Nat → Int32 → Int32 → Mem → Option Mem} {out : Mem} (hk31 : ∀ (i0 : Nat) (x1 : Int32) (x2 : Int32) (F : Mem) (H : Heap) (locs : List Loc) (ls : Array Slot), oO L 9 i0 → Iv X L s H locs F → lv_has ls 4 [(0, .ref (mAd X i0)), (1, .int x1), (2, .int x2)] → k31 i0 x1 x2 F = some out → W p l e (headSpec w_Fr_readSymbols r_Fr_readSymbols).room s m args below meth c H locs 0 0 (MQ below (QV X L out) args s 0 0 (AA X L)) (F0 m 31 ls [])) {i0 : Nat} {x1 : Int32} {x2 : Int32} {F : Mem} {H : Heap} {locs : List Loc} {ls : Array Slot} (o0 : oO L 9 i0) (hI : Iv X L s H locs F) (hl : lv_has ls 4 [(0, .ref (mAd X i0)), (1, .int x1), (2, .int x2)]) (h : b_Fr_readSymbols_31 L k31 i0 x1 x2 F = some out) : W p l e (headSpec w_Fr_readSymbols r_Fr_readSymbols).room s m args below meth c H locs 0 0 (MQ below (QV X L out) args s 0 0 (AA X L)) (F0 m 31 ls []) := by
  unfold b_Fr_readSymbols_31 at h
  obtain ⟨S, hK, hT, hW, hr, hlk⟩ := id hC
  have hx := S.1
  have hb := S.2.1
  refine lv_iload_n hx hb d_Fr_readSymbols_31 rfl (lv_at hl 2 rfl) ?_
  refine lv_iload_n hx hb d_Fr_readSymbols_32 rfl (lv_at hl 1 rfl) ?_
  refine lv_icmp_ge (tgt := 106) hx hb d_Fr_readSymbols_33 rfl (fun hc => ?_) (fun hc => ?_)
  · replace h := (if_pos hc).symm.trans h
    exact t_Fr_readSymbols_106 hC  o0 hI (lv_sub hl [0] rfl) h
  · replace h := (if_neg hc).symm.trans h
    refine lv_aload_n hx hb d_Fr_readSymbols_36 rfl (lv_at hl 0 rfl) ?_
    have p1 := wt_o hW o0 1 7 rfl (by decide) (by decide) (by decide)
    refine w_getR (T := T_Fr) S hK hI o0 rfl hin_Fr 1 (index := 42) (by decide) lf_Fr_42 d_Fr_readSymbols_37 ?_
    refine w_getI (T := T_Wr) S hK hI p1 rfl hin_Wr 3 (index := 72) (by decide) lf_Fr_72 d_Fr_readSymbols_40 ?_
    refine lv_if_eq (tgt := 106) hx hb d_Fr_readSymbols_43 rfl (fun hc => ?_) (fun hc => ?_)
    · replace h := (if_pos hc).symm.trans h
      exact t_Fr_readSymbols_106 hC  o0 hI (lv_sub hl [0] rfl) h
    · replace h := (if_neg hc).symm.trans h
      refine lv_aload_n hx hb d_Fr_readSymbols_46 rfl (lv_at hl 0 rfl) ?_
      have p2 := wt_o hW o0 4 3 rfl (by decide) (by decide) (by decide)
      refine w_getR (T := T_Fr) S hK hI o0 rfl hin_Fr 4 (index := 30) (by decide) lf_Fr_30 d_Fr_readSymbols_47 ?_
      have p3 := wt_a hW p2 2 rfl (by decide) (by decide)
      refine w_getR (T := T_Tr) S hK hI p2 rfl hin_Tr 2 (index := 173) (by decide) lf_Fr_173 d_Fr_readSymbols_50 ?_
      refine lv_aload_n hx hb d_Fr_readSymbols_53 rfl (lv_at hl 0 rfl) ?_
      have p4 := wt_o hW o0 1 7 rfl (by decide) (by decide) (by decide)
      refine w_getR (T := T_Fr) S hK hI o0 rfl hin_Fr 1 (index := 42) (by decide) lf_Fr_42 d_Fr_readSymbols_54 ?_
      refine lv_aload_n hx hb d_Fr_readSymbols_57 rfl (lv_at hl 0 rfl) ?_
      have p5 := wt_o hW o0 4 3 rfl (by decide) (by decide) (by decide)
      refine w_getR (T := T_Fr) S hK hI o0 rfl hin_Fr 4 (index := 30) (by decide) lf_Fr_30 d_Fr_readSymbols_58 ?_
      refine w_getI (T := T_Tr) S hK hI p5 rfl hin_Tr 4 (index := 176) (by decide) lf_Fr_176 d_Fr_readSymbols_61 ?_
      obtain ⟨q6, e7, h⟩ := un_bi h
      refine w_callVi (As := [.int (F (mRf L i0 4) 4)]) (rest := [.ref (mAd X (mRf L (mRf L i0 4) 2))]) S hK hI hT (c_Wr_nextBits l hW p4 e7) (cwV 1 S.2.2.2.2 (gd_V lc_Wr_nextBits lm_Fr_179 li_Wr_nextBits ls_Wr_nextBits ln_Wr) rfl rfl rfl hd_Wr_nextBits ⟨Nat.le_of_ble_eq_true rfl, Nat.le_of_ble_eq_true rfl⟩) p4 rfl (by decide) rfl rfl hl.1 (Nat.le_of_ble_eq_true rfl) d_Fr_readSymbols_64 ⟨Nat.zero_le _, Nat.zero_le _⟩ (fun H locs hI => ?_)
      obtain ⟨z8, h⟩ := un_if h
      refine w_iald S hK hI hT p3 z8 d_Fr_readSymbols_67 ?_
      refine lv_istore_n (lv' := [(3, .int (mGa L q6.2 (mRf L (mRf L i0 4) 2) q6.1.toNatClampNeg)), (0, .ref (mAd X i0)), (1, .int x1), (2, .int x2)]) hx hb d_Fr_readSymbols_68 rfl hl (by decide) rfl (fun ls hl => ?_)
      refine lv_aload_n hx hb d_Fr_readSymbols_69 rfl (lv_at hl 1 rfl) ?_
      have p9 := wt_o hW o0 1 7 rfl (by decide) (by decide) (by decide)
      refine w_getR (T := T_Fr) S hK hI o0 rfl hin_Fr 1 (index := 42) (by decide) lf_Fr_42 d_Fr_readSymbols_70 ?_
      refine lv_aload_n hx hb d_Fr_readSymbols_73 rfl (lv_at hl 1 rfl) ?_
      have p10 := wt_o hW o0 4 3 rfl (by decide) (by decide) (by decide)
      refine w_getR (T := T_Fr) S hK hI o0 rfl hin_Fr 4 (index := 30) (by decide) lf_Fr_30 d_Fr_readSymbols_74 ?_
      refine lv_iload_n hx hb d_Fr_readSymbols_77 rfl (lv_at hl 0 rfl) ?_
      obtain ⟨q11, e12, h⟩ := un_bi h
      refine w_callVi (As := [.int (mGa L q6.2 (mRf L (mRf L i0 4) 2) q6.1.toNatClampNeg)]) (rest := [.ref (mAd X (mRf L i0 1))]) S hK hI hT (c_Tr_bitsOf l hW p10 e12) (cwV 1 S.2.2.2.2 (gd_V lc_Tr_bitsOf lm_Fr_182 li_Tr_bitsOf ls_Tr_bitsOf ln_Tr) rfl rfl rfl hd_Tr_bitsOf ⟨Nat.le_of_ble_eq_true rfl, Nat.le_of_ble_eq_true rfl⟩) p10 rfl (by decide) rfl rfl hl.1 (Nat.le_of_ble_eq_true rfl) d_Fr_readSymbols_78 ⟨Nat.zero_le _, Nat.zero_le _⟩ (fun H locs hI => ?_)
      obtain ⟨F13, e14, h⟩ := un_bi h
      refine w_callVv (As := [.int q11.1]) (rest := []) S hK hI hT (c_Wr_dropBits l hW p9 e14) (cwV 1 S.2.2.2.2 (gd_V lc_Wr_dropBits lm_Fr_185 li_Wr_dropBits ls_Wr_dropBits ln_Wr) rfl rfl rfl hd_Wr_dropBits ⟨Nat.le_of_ble_eq_true rfl, Nat.le_of_ble_eq_true rfl⟩) p9 rfl (by decide) rfl rfl hl.1 (Nat.le_of_ble_eq_true rfl) d_Fr_readSymbols_81 ⟨Nat.zero_le _, Nat.zero_le _⟩ (fun H locs hI => ?_)
      refine lv_aload_n hx hb d_Fr_readSymbols_84 rfl (lv_at hl 1 rfl) ?_
      have p15 := wt_o hW o0 5 1 rfl (by decide) (by decide) (by decide)
      refine w_getR (T := T_Fr) S hK hI o0 rfl hin_Fr 5 (index := 34) (by decide) lf_Fr_34 d_Fr_readSymbols_85 ?_
      refine lv_aload_n hx hb d_Fr_readSymbols_88 rfl (lv_at hl 1 rfl) ?_
      have p16 := wt_o hW o0 4 3 rfl (by decide) (by decide) (by decide)
      refine w_getR (T := T_Fr) S hK hI o0 rfl hin_Fr 4 (index := 30) (by decide) lf_Fr_30 d_Fr_readSymbols_89 ?_
      refine w_getI (T := T_Tr) S hK hI p16 rfl hin_Tr 3 (index := 153) (by decide) lf_Fr_153 d_Fr_readSymbols_92 ?_
      refine lv_iload_n hx hb d_Fr_readSymbols_95 rfl (lv_at hl 0 rfl) ?_
      refine lv_iadd hx hb d_Fr_readSymbols_96 ?_
      obtain ⟨F17, e18, h⟩ := un_bi h
      refine w_callVv (As := [.int ((F13 (mRf L i0 4) 3) + (mGa L q6.2 (mRf L (mRf L i0 4) 2) q6.1.toNatClampNeg))]) (rest := []) S hK hI hT (c_Row_add l hW p15 e18) (cwV 1 S.2.2.2.2 (gd_V lc_Row_add lm_Fr_119 li_Row_add ls_Row_add ln_Row) rfl rfl rfl hd_Row_add ⟨Nat.le_of_ble_eq_true rfl, Nat.le_of_ble_eq_true rfl⟩) p15 rfl (by decide) rfl rfl hl.1 (Nat.le_of_ble_eq_true rfl) d_Fr_readSymbols_97 ⟨Nat.zero_le _, Nat.zero_le _⟩ (fun H locs hI => ?_)
      refine lv_iinc (k := 3) (v := x2 + (1 : Int32)) (lv' := [(2, .int (x2 + (1 : Int32))), (3, .int (mGa L q6.2 (mRf L (mRf L i0 4) 2) q6.1.toNatClampNeg)), (0, .ref (mAd X i0)), (1, .int x1)]) hx hb d_Fr_readSymbols_100 hl rfl rfl (by decide) rfl (fun ls hl => ?_)
      refine lv_goto (tgt := 31) hx hb d_Fr_readSymbols_103 rfl ?_
      exact hk31 _ _ _ _ _ _ _ o0 hI (lv_sub hl [2, 3, 0] rfl) h
def f_Fr_readSymbols_31 (L : La)  : Nat → Nat → Int32 → Int32 → Mem → Option Mem
  | 0 => fun _ _ _ _ => none
  | n + 1 => b_Fr_readSymbols_31 L (f_Fr_readSymbols_31 L  n)
theorem tf_Fr_readSymbols_31 (hC : Cx X L p s m args meth c cc_Fr_readSymbols 4 w_Fr_readSymbols R_Fr none)  {out : Mem}  (n : Nat) : ∀ (i0 : Nat) (x1 : Int32) (x2 : Int32) (F : Mem) (H : Heap) (locs : List Loc) (ls : Array Slot), oO L 9 i0 → Iv X L s H locs F → lv_has ls 4 [(0, .ref (mAd X i0)), (1, .int x1), (2, .int x2)] → f_Fr_readSymbols_31 L  n i0 x1 x2 F = some out → W p l e (headSpec w_Fr_readSymbols r_Fr_readSymbols).room s m args below meth c H locs 0 0 (MQ below (QV X L out) args s 0 0 (AA X L)) (F0 m 31 ls []) := by
  induction n with
  | zero => intro i0 x1 x2 F H locs ls o0 hI hl h; cases h
  | succ n ih => intro i0 x1 x2 F H locs ls o0 hI hl h; exact t_Fr_readSymbols_31 hC ih o0 hI hl h
def f_Fr_readSymbols (L : La) (i0 : Nat) (x1 : Int32) (F : Mem) : Option Mem :=
  if (F i0 6) = 0 then
    (f_Wr_refuse L (mRf L i0 1) F).bind fun F8 =>
    some F8
  else
    (f_Wr_takeByte L (mRf L i0 1) F).bind fun q3 =>
    (f_Wr_beginStream L (mRf L i0 1) q3.1 q3.2).bind fun F5 =>
    f_Fr_readSymbols_31 L  mFU i0 x1 (0 : Int32) F5
set_option maxHeartbeats 4000000 in
theorem c_Fr_readSymbols (l : Launch) {X : Xs} {L : La} (hW : WT L) {out : Mem} {i0 : Nat} {x1 : Int32} {F : Mem} (o0 : oO L 9 i0) (h : f_Fr_readSymbols L i0 x1 F = some out) : Met l y_Fr_readSymbols w_Fr_readSymbols r_Fr_readSymbols (va_Pc [.ref (mAd X i0), .int x1] (Pr X L F)) (QV X L out) 0 0 (AA X L) := by
  refine mk_met (by decide) rfl (Nat.le_of_ble_eq_true rfl) hW ?_
  intro p e s m args below meth c ls hC hI hl
  have hl : lv_has ls 4 [(0, .ref (mAd X i0)), (1, .int x1)] := hl
  generalize hHe : s.heap = H at hI ⊢
  generalize ([] : List Loc) = locs at hI ⊢
  unfold f_Fr_readSymbols at h
  obtain ⟨S, hK, hT, hW, hr, hlk⟩ := id hC
  have hx := S.1
  have hb := S.2.1
  refine lv_aload_n hx hb d_Fr_readSymbols_0 rfl (lv_at hl 0 rfl) ?_
  refine w_getI (T := T_Fr) S hK hI o0 rfl hin_Fr 6 (index := 105) (by decide) lf_Fr_105 d_Fr_readSymbols_1 ?_
  refine lv_if_ne (tgt := 15) hx hb d_Fr_readSymbols_4 rfl (fun hc => ?_) (fun hc => ?_)
  · replace h := (if_neg hc).symm.trans h
    refine lv_aload_n hx hb d_Fr_readSymbols_15 rfl (lv_at hl 0 rfl) ?_
    have p1 := wt_o hW o0 1 7 rfl (by decide) (by decide) (by decide)
    refine w_getR (T := T_Fr) S hK hI o0 rfl hin_Fr 1 (index := 42) (by decide) lf_Fr_42 d_Fr_readSymbols_16 ?_
    refine lv_aload_n hx hb d_Fr_readSymbols_19 rfl (lv_at hl 0 rfl) ?_
    have p2 := wt_o hW o0 1 7 rfl (by decide) (by decide) (by decide)
    refine w_getR (T := T_Fr) S hK hI o0 rfl hin_Fr 1 (index := 42) (by decide) lf_Fr_42 d_Fr_readSymbols_20 ?_
    obtain ⟨q3, e4, h⟩ := un_bi h
    refine w_callVi (As := []) (rest := [.ref (mAd X (mRf L i0 1))]) S hK hI hT (c_Wr_takeByte l hW p2 e4) (cwV 0 S.2.2.2.2 (gd_V lc_Wr_takeByte lm_Fr_58 li_Wr_takeByte ls_Wr_takeByte ln_Wr) rfl rfl rfl hd_Wr_takeByte ⟨Nat.le_of_ble_eq_true rfl, Nat.le_of_ble_eq_true rfl⟩) p2 rfl (by decide) rfl rfl hl.1 (Nat.le_of_ble_eq_true rfl) d_Fr_readSymbols_23 ⟨Nat.zero_le _, Nat.zero_le _⟩ (fun H locs hI => ?_)
    obtain ⟨F5, e6, h⟩ := un_bi h
    refine w_callVv (As := [.int q3.1]) (rest := []) S hK hI hT (c_Wr_beginStream l hW p1 e6) (cwV 1 S.2.2.2.2 (gd_V lc_Wr_beginStream lm_Fr_170 li_Wr_beginStream ls_Wr_beginStream ln_Wr) rfl rfl rfl hd_Wr_beginStream ⟨Nat.le_of_ble_eq_true rfl, Nat.le_of_ble_eq_true rfl⟩) p1 rfl (by decide) rfl rfl hl.1 (Nat.le_of_ble_eq_true rfl) d_Fr_readSymbols_26 ⟨Nat.zero_le _, Nat.zero_le _⟩ (fun H locs hI => ?_)
    refine lv_iconst (v := 0) hx hb d_Fr_readSymbols_29 rfl ?_
    refine lv_istore_n (lv' := [(2, .int (0 : Int32)), (0, .ref (mAd X i0)), (1, .int x1)]) hx hb d_Fr_readSymbols_30 rfl hl (by decide) rfl (fun ls hl => ?_)
    exact tf_Fr_readSymbols_31 hC  mFU _ _ _ _ _ _ _ o0 hI (lv_sub hl [1, 2, 0] rfl) h
  · replace h := (if_pos hc).symm.trans h
    refine lv_aload_n hx hb d_Fr_readSymbols_7 rfl (lv_at hl 0 rfl) ?_
    have p7 := wt_o hW o0 1 7 rfl (by decide) (by decide) (by decide)
    refine w_getR (T := T_Fr) S hK hI o0 rfl hin_Fr 1 (index := 42) (by decide) lf_Fr_42 d_Fr_readSymbols_8 ?_
    obtain ⟨F8, e9, h⟩ := un_bi h
    refine w_callVv (As := []) (rest := []) S hK hI hT (c_Wr_refuse l hW p7 e9) (cwV 0 S.2.2.2.2 (gd_V lc_Wr_refuse lm_Fr_85 li_Wr_refuse ls_Wr_refuse ln_Wr) rfl rfl rfl hd_Wr_refuse ⟨Nat.le_of_ble_eq_true rfl, Nat.le_of_ble_eq_true rfl⟩) p7 rfl (by decide) rfl rfl hl.1 (Nat.le_of_ble_eq_true rfl) d_Fr_readSymbols_11 ⟨Nat.zero_le _, Nat.zero_le _⟩ (fun H locs hI => ?_)
    exact w_vret S hK hr hlk hI d_Fr_readSymbols_14 h
end
theorem d_Fr_readLiterals_0 : decode cc_Fr_readLiterals 0 = .ok (.aload_n 0, 1) := by decide +kernel
theorem d_Fr_readLiterals_1 : decode cc_Fr_readLiterals 1 = .ok (.getfield 42, 3) := by decide +kernel
theorem d_Fr_readLiterals_4 : decode cc_Fr_readLiterals 4 = .ok (.invokevirtual 58, 3) := by decide +kernel
theorem d_Fr_readLiterals_7 : decode cc_Fr_readLiterals 7 = .ok (.istore_n 1, 1) := by decide +kernel
theorem d_Fr_readLiterals_8 : decode cc_Fr_readLiterals 8 = .ok (.iload_n 1, 1) := by decide +kernel
theorem d_Fr_readLiterals_9 : decode cc_Fr_readLiterals 9 = .ok (.iconst 2, 1) := by decide +kernel
theorem d_Fr_readLiterals_10 : decode cc_Fr_readLiterals 10 = .ok (.ishr, 1) := by decide +kernel
theorem d_Fr_readLiterals_11 : decode cc_Fr_readLiterals 11 = .ok (.istore_n 2, 1) := by decide +kernel
theorem d_Fr_readLiterals_12 : decode cc_Fr_readLiterals 12 = .ok (.aload_n 0, 1) := by decide +kernel
theorem d_Fr_readLiterals_13 : decode cc_Fr_readLiterals 13 = .ok (.getfield 34, 3) := by decide +kernel
theorem d_Fr_readLiterals_16 : decode cc_Fr_readLiterals 16 = .ok (.iconst 0, 1) := by decide +kernel
theorem d_Fr_readLiterals_17 : decode cc_Fr_readLiterals 17 = .ok (.putfield 88, 3) := by decide +kernel
theorem d_Fr_readLiterals_20 : decode cc_Fr_readLiterals 20 = .ok (.aload_n 0, 1) := by decide +kernel
theorem d_Fr_readLiterals_21 : decode cc_Fr_readLiterals 21 = .ok (.iconst 0, 1) := by decide +kernel
theorem d_Fr_readLiterals_22 : decode cc_Fr_readLiterals 22 = .ok (.putfield 138, 3) := by decide +kernel
theorem d_Fr_readLiterals_25 : decode cc_Fr_readLiterals 25 = .ok (.iload_n 1, 1) := by decide +kernel
theorem d_Fr_readLiterals_26 : decode cc_Fr_readLiterals 26 = .ok (.iconst 3, 1) := by decide +kernel
theorem d_Fr_readLiterals_27 : decode cc_Fr_readLiterals 27 = .ok (.iand, 1) := by decide +kernel
theorem d_Fr_readLiterals_28 : decode cc_Fr_readLiterals 28 = .ok (.tableswitch (88) (0) (2) #[28, 58, 76], 28) := by decide +kernel
theorem d_Fr_readLiterals_56 : decode cc_Fr_readLiterals 56 = .ok (.iconst 0, 1) := by decide +kernel
theorem d_Fr_readLiterals_57 : decode cc_Fr_readLiterals 57 = .ok (.istore_n 3, 1) := by decide +kernel
theorem d_Fr_readLiterals_58 : decode cc_Fr_readLiterals 58 = .ok (.iload_n 3, 1) := by decide +kernel
theorem d_Fr_readLiterals_59 : decode cc_Fr_readLiterals 59 = .ok (.iload_n 2, 1) := by decide +kernel
theorem d_Fr_readLiterals_60 : decode cc_Fr_readLiterals 60 = .ok (.if_icmp .ge (23), 3) := by decide +kernel
theorem d_Fr_readLiterals_63 : decode cc_Fr_readLiterals 63 = .ok (.aload_n 0, 1) := by decide +kernel
theorem d_Fr_readLiterals_64 : decode cc_Fr_readLiterals 64 = .ok (.getfield 34, 3) := by decide +kernel
theorem d_Fr_readLiterals_67 : decode cc_Fr_readLiterals 67 = .ok (.aload_n 0, 1) := by decide +kernel
theorem d_Fr_readLiterals_68 : decode cc_Fr_readLiterals 68 = .ok (.getfield 42, 3) := by decide +kernel
theorem d_Fr_readLiterals_71 : decode cc_Fr_readLiterals 71 = .ok (.invokevirtual 58, 3) := by decide +kernel
theorem d_Fr_readLiterals_74 : decode cc_Fr_readLiterals 74 = .ok (.invokevirtual 119, 3) := by decide +kernel
theorem d_Fr_readLiterals_77 : decode cc_Fr_readLiterals 77 = .ok (.iinc 3 (1), 3) := by decide +kernel
theorem d_Fr_readLiterals_80 : decode cc_Fr_readLiterals 80 = .ok (.goto (-22), 3) := by decide +kernel
theorem d_Fr_readLiterals_83 : decode cc_Fr_readLiterals 83 = .ok (.goto (38), 3) := by decide +kernel
theorem d_Fr_readLiterals_86 : decode cc_Fr_readLiterals 86 = .ok (.aload_n 0, 1) := by decide +kernel
theorem d_Fr_readLiterals_87 : decode cc_Fr_readLiterals 87 = .ok (.getfield 34, 3) := by decide +kernel
theorem d_Fr_readLiterals_90 : decode cc_Fr_readLiterals 90 = .ok (.aload_n 0, 1) := by decide +kernel
theorem d_Fr_readLiterals_91 : decode cc_Fr_readLiterals 91 = .ok (.getfield 42, 3) := by decide +kernel
theorem d_Fr_readLiterals_94 : decode cc_Fr_readLiterals 94 = .ok (.invokevirtual 58, 3) := by decide +kernel
theorem d_Fr_readLiterals_97 : decode cc_Fr_readLiterals 97 = .ok (.iload_n 2, 1) := by decide +kernel
theorem d_Fr_readLiterals_98 : decode cc_Fr_readLiterals 98 = .ok (.invokevirtual 122, 3) := by decide +kernel
theorem d_Fr_readLiterals_101 : decode cc_Fr_readLiterals 101 = .ok (.goto (20), 3) := by decide +kernel
theorem d_Fr_readLiterals_104 : decode cc_Fr_readLiterals 104 = .ok (.aload_n 0, 1) := by decide +kernel
theorem d_Fr_readLiterals_105 : decode cc_Fr_readLiterals 105 = .ok (.invokevirtual 147, 3) := by decide +kernel
theorem d_Fr_readLiterals_108 : decode cc_Fr_readLiterals 108 = .ok (.aload_n 0, 1) := by decide +kernel
theorem d_Fr_readLiterals_109 : decode cc_Fr_readLiterals 109 = .ok (.iload_n 2, 1) := by decide +kernel
theorem d_Fr_readLiterals_110 : decode cc_Fr_readLiterals 110 = .ok (.invokevirtual 150, 3) := by decide +kernel
theorem d_Fr_readLiterals_113 : decode cc_Fr_readLiterals 113 = .ok (.goto (8), 3) := by decide +kernel
theorem d_Fr_readLiterals_116 : decode cc_Fr_readLiterals 116 = .ok (.aload_n 0, 1) := by decide +kernel
theorem d_Fr_readLiterals_117 : decode cc_Fr_readLiterals 117 = .ok (.iload_n 2, 1) := by decide +kernel
theorem d_Fr_readLiterals_118 : decode cc_Fr_readLiterals 118 = .ok (.invokevirtual 150, 3) := by decide +kernel
theorem d_Fr_readLiterals_121 : decode cc_Fr_readLiterals 121 = .ok (.return_, 1) := by decide +kernel
section
variable {p : Program} {l : Launch} {e : Env} {s : State} {m : MethodId} {args : Array Value} {below : List Frame} {meth : Method} {c : Code} {X : Xs} {L : La}
def b_Fr_readLiterals_121 (L : La)   (F : Mem) : Option Mem :=
  some F
set_option maxHeartbeats 4000000 in
theorem t_Fr_readLiterals_121 (hC : Cx X L p s m args meth c cc_Fr_readLiterals 4 w_Fr_readLiterals R_Fr none)  {out : Mem}   {F : Mem} {H : Heap} {locs : List Loc} {ls : Array Slot}  (hI : Iv X L s H locs F) (hl : lv_has ls 4 []) (h : b_Fr_readLiterals_121 L   F = some out) : W p l e (headSpec w_Fr_readLiterals r_Fr_readLiterals).room s m args below meth c H locs 0 0 (MQ below (QV X L out) args s 0 0 (AA X L)) (F0 m 121 ls []) := by
  unfold b_Fr_readLiterals_121 at h
  obtain ⟨S, hK, hT, hW, hr, hlk⟩ := id hC
  have hx := S.1
  have hb := S.2.1
  exact w_vret S hK hr hlk hI d_Fr_readLiterals_121 h
def b_Fr_readLiterals_58 (L : La) (k58 : Nat → Int32 → Int32 → Mem → Option Mem) (i0 : Nat) (x2 : Int32) (x3 : Int32) (F : Mem) : Option Mem :=
  if x2 ≤ x3 then
    b_Fr_readLiterals_121 L   F
  else
    (f_Wr_takeByte L (mRf L i0 1) F).bind fun q3 =>
    (f_Row_add L (mRf L i0 5) q3.1 q3.2).bind fun F5 =>
    k58 i0 x2 (x3 + (1 : Int32)) F5
set_option maxHeartbeats 4000000 in
theorem t_Fr_readLiterals_58 (hC : Cx X L p s m args meth c cc_Fr_readLiterals 4 w_Fr_readLiterals R_Fr none) {k58 : Nat → Int32 → Int32 → Mem → Option Mem} {out : Mem} (hk58 : ∀ (i0 : Nat) (x2 : Int32) (x3 : Int32) (F : Mem) (H : Heap) (locs : List Loc) (ls : Array Slot), oO L 9 i0 → Iv X L s H locs F → lv_has ls 4 [(0, .ref (mAd X i0)), (2, .int x2), (3, .int x3)] → k58 i0 x2 x3 F = some out → W p l e (headSpec w_Fr_readLiterals r_Fr_readLiterals).room s m args below meth c H locs 0 0 (MQ below (QV X L out) args s 0 0 (AA X L)) (F0 m 58 ls [])) {i0 : Nat} {x2 : Int32} {x3 : Int32} {F : Mem} {H : Heap} {locs : List Loc} {ls : Array Slot} (o0 : oO L 9 i0) (hI : Iv X L s H locs F) (hl : lv_has ls 4 [(0, .ref (mAd X i0)), (2, .int x2), (3, .int x3)]) (h : b_Fr_readLiterals_58 L k58 i0 x2 x3 F = some out) : W p l e (headSpec w_Fr_readLiterals r_Fr_readLiterals).room s m args below meth c H locs 0 0 (MQ below (QV X L out) args s 0 0 (AA X L)) (F0 m 58 ls []) := by
  unfold b_Fr_readLiterals_58 at h
  obtain ⟨S, hK, hT, hW, hr, hlk⟩ := id hC
  have hx := S.1
  have hb := S.2.1
  refine lv_iload_n hx hb d_Fr_readLiterals_58 rfl (lv_at hl 2 rfl) ?_
  refine lv_iload_n hx hb d_Fr_readLiterals_59 rfl (lv_at hl 1 rfl) ?_
  refine lv_icmp_ge (tgt := 83) hx hb d_Fr_readLiterals_60 rfl (fun hc => ?_) (fun hc => ?_)
  · replace h := (if_pos hc).symm.trans h
    refine lv_goto (tgt := 121) hx hb d_Fr_readLiterals_83 rfl ?_
    exact t_Fr_readLiterals_121 hC   hI (lv_sub hl [] rfl) h
  · replace h := (if_neg hc).symm.trans h
    refine lv_aload_n hx hb d_Fr_readLiterals_63 rfl (lv_at hl 0 rfl) ?_
    have p1 := wt_o hW o0 5 1 rfl (by decide) (by decide) (by decide)
    refine w_getR (T := T_Fr) S hK hI o0 rfl hin_Fr 5 (index := 34) (by decide) lf_Fr_34 d_Fr_readLiterals_64 ?_
    refine lv_aload_n hx hb d_Fr_readLiterals_67 rfl (lv_at hl 0 rfl) ?_
    have p2 := wt_o hW o0 1 7 rfl (by decide) (by decide) (by decide)
    refine w_getR (T := T_Fr) S hK hI o0 rfl hin_Fr 1 (index := 42) (by decide) lf_Fr_42 d_Fr_readLiterals_68 ?_
    obtain ⟨q3, e4, h⟩ := un_bi h
    refine w_callVi (As := []) (rest := [.ref (mAd X (mRf L i0 5))]) S hK hI hT (c_Wr_takeByte l hW p2 e4) (cwV 0 S.2.2.2.2 (gd_V lc_Wr_takeByte lm_Fr_58 li_Wr_takeByte ls_Wr_takeByte ln_Wr) rfl rfl rfl hd_Wr_takeByte ⟨Nat.le_of_ble_eq_true rfl, Nat.le_of_ble_eq_true rfl⟩) p2 rfl (by decide) rfl rfl hl.1 (Nat.le_of_ble_eq_true rfl) d_Fr_readLiterals_71 ⟨Nat.zero_le _, Nat.zero_le _⟩ (fun H locs hI => ?_)
    obtain ⟨F5, e6, h⟩ := un_bi h
    refine w_callVv (As := [.int q3.1]) (rest := []) S hK hI hT (c_Row_add l hW p1 e6) (cwV 1 S.2.2.2.2 (gd_V lc_Row_add lm_Fr_119 li_Row_add ls_Row_add ln_Row) rfl rfl rfl hd_Row_add ⟨Nat.le_of_ble_eq_true rfl, Nat.le_of_ble_eq_true rfl⟩) p1 rfl (by decide) rfl rfl hl.1 (Nat.le_of_ble_eq_true rfl) d_Fr_readLiterals_74 ⟨Nat.zero_le _, Nat.zero_le _⟩ (fun H locs hI => ?_)
    refine lv_iinc (k := 2) (v := x3 + (1 : Int32)) (lv' := [(3, .int (x3 + (1 : Int32))), (0, .ref (mAd X i0)), (2, .int x2)]) hx hb d_Fr_readLiterals_77 hl rfl rfl (by decide) rfl (fun ls hl => ?_)
    refine lv_goto (tgt := 58) hx hb d_Fr_readLiterals_80 rfl ?_
    exact hk58 _ _ _ _ _ _ _ o0 hI (lv_sub hl [1, 2, 0] rfl) h
def f_Fr_readLiterals_58 (L : La)  : Nat → Nat → Int32 → Int32 → Mem → Option Mem
  | 0 => fun _ _ _ _ => none
  | n + 1 => b_Fr_readLiterals_58 L (f_Fr_readLiterals_58 L  n)
theorem tf_Fr_readLiterals_58 (hC : Cx X L p s m args meth c cc_Fr_readLiterals 4 w_Fr_readLiterals R_Fr none)  {out : Mem}  (n : Nat) : ∀ (i0 : Nat) (x2 : Int32) (x3 : Int32) (F : Mem) (H : Heap) (locs : List Loc) (ls : Array Slot), oO L 9 i0 → Iv X L s H locs F → lv_has ls 4 [(0, .ref (mAd X i0)), (2, .int x2), (3, .int x3)] → f_Fr_readLiterals_58 L  n i0 x2 x3 F = some out → W p l e (headSpec w_Fr_readLiterals r_Fr_readLiterals).room s m args below meth c H locs 0 0 (MQ below (QV X L out) args s 0 0 (AA X L)) (F0 m 58 ls []) := by
  induction n with
  | zero => intro i0 x2 x3 F H locs ls o0 hI hl h; cases h
  | succ n ih => intro i0 x2 x3 F H locs ls o0 hI hl h; exact t_Fr_readLiterals_58 hC ih o0 hI hl h
def f_Fr_readLiterals (L : La) (i0 : Nat) (F : Mem) : Option Mem :=
  (f_Wr_takeByte L (mRf L i0 1) F).bind fun q2 =>
  lt' (u2 q2.2 (mRf L i0 5) 1 (0 : Int32)) fun F5 =>
  lt' (u2 F5 i0 7 (0 : Int32)) fun F7 =>
  if (q2.1 &&& (3 : Int32)) = 0 then
    f_Fr_readLiterals_58 L  mFU i0 (jshr q2.1 (2 : Int32)) (0 : Int32) F7
  else
    if (q2.1 &&& (3 : Int32)) = 1 then
      (f_Wr_takeByte L (mRf L i0 1) F7).bind fun q12 =>
      (f_Row_addTimes L (mRf L i0 5) q12.1 (jshr q2.1 (2 : Int32)) q12.2).bind fun F14 =>
      b_Fr_readLiterals_121 L   F14
    else
      if (q2.1 &&& (3 : Int32)) = 2 then
        (f_Fr_readTree L i0 F7).bind fun F17 =>
        (f_Fr_readSymbols L i0 (jshr q2.1 (2 : Int32)) F17).bind fun F19 =>
        b_Fr_readLiterals_121 L   F19
      else
        (f_Fr_readSymbols L i0 (jshr q2.1 (2 : Int32)) F7).bind fun F22 =>
        b_Fr_readLiterals_121 L   F22
set_option maxHeartbeats 4000000 in
theorem c_Fr_readLiterals (l : Launch) {X : Xs} {L : La} (hW : WT L) {out : Mem} {i0 : Nat} {F : Mem} (o0 : oO L 9 i0) (h : f_Fr_readLiterals L i0 F = some out) : Met l y_Fr_readLiterals w_Fr_readLiterals r_Fr_readLiterals (va_Pc [.ref (mAd X i0)] (Pr X L F)) (QV X L out) 0 0 (AA X L) := by
  refine mk_met (by decide) rfl (Nat.le_of_ble_eq_true rfl) hW ?_
  intro p e s m args below meth c ls hC hI hl
  have hl : lv_has ls 4 [(0, .ref (mAd X i0))] := hl
  generalize hHe : s.heap = H at hI ⊢
  generalize ([] : List Loc) = locs at hI ⊢
  unfold f_Fr_readLiterals at h
  obtain ⟨S, hK, hT, hW, hr, hlk⟩ := id hC
  have hx := S.1
  have hb := S.2.1
  refine lv_aload_n hx hb d_Fr_readLiterals_0 rfl (lv_at hl 0 rfl) ?_
  have p1 := wt_o hW o0 1 7 rfl (by decide) (by decide) (by decide)
  refine w_getR (T := T_Fr) S hK hI o0 rfl hin_Fr 1 (index := 42) (by decide) lf_Fr_42 d_Fr_readLiterals_1 ?_
  obtain ⟨q2, e3, h⟩ := un_bi h
  refine w_callVi (As := []) (rest := []) S hK hI hT (c_Wr_takeByte l hW p1 e3) (cwV 0 S.2.2.2.2 (gd_V lc_Wr_takeByte lm_Fr_58 li_Wr_takeByte ls_Wr_takeByte ln_Wr) rfl rfl rfl hd_Wr_takeByte ⟨Nat.le_of_ble_eq_true rfl, Nat.le_of_ble_eq_true rfl⟩) p1 rfl (by decide) rfl rfl hl.1 (Nat.le_of_ble_eq_true rfl) d_Fr_readLiterals_4 ⟨Nat.zero_le _, Nat.zero_le _⟩ (fun H locs hI => ?_)
  refine lv_istore_n (lv' := [(1, .int q2.1), (0, .ref (mAd X i0))]) hx hb d_Fr_readLiterals_7 rfl hl (by decide) rfl (fun ls hl => ?_)
  refine lv_iload_n hx hb d_Fr_readLiterals_8 rfl (lv_at hl 0 rfl) ?_
  refine lv_iconst (v := 2) hx hb d_Fr_readLiterals_9 rfl ?_
  refine lv_ishr hx hb d_Fr_readLiterals_10 ?_
  refine lv_istore_n (lv' := [(2, .int (jshr q2.1 (2 : Int32))), (1, .int q2.1), (0, .ref (mAd X i0))]) hx hb d_Fr_readLiterals_11 rfl hl (by decide) rfl (fun ls hl => ?_)
  refine lv_aload_n hx hb d_Fr_readLiterals_12 rfl (lv_at hl 2 rfl) ?_
  have p4 := wt_o hW o0 5 1 rfl (by decide) (by decide) (by decide)
  refine w_getR (T := T_Fr) S hK hI o0 rfl hin_Fr 5 (index := 34) (by decide) lf_Fr_34 d_Fr_readLiterals_13 ?_
  refine lv_iconst (v := 0) hx hb d_Fr_readLiterals_16 rfl ?_
  refine w_putI (T := T_Row) S hK hI p4 rfl hin_Row ty_Row tk_Row nm_Row 1 (index := 88) (by decide) lf_Fr_88 rfl d_Fr_readLiterals_17 (fun H locs F5 e6 hI => ?_)
  replace h := un_lt h _ e6
  refine lv_aload_n hx hb d_Fr_readLiterals_20 rfl (lv_at hl 2 rfl) ?_
  refine lv_iconst (v := 0) hx hb d_Fr_readLiterals_21 rfl ?_
  refine w_putI (T := T_Fr) S hK hI o0 rfl hin_Fr ty_Fr tk_Fr nm_Fr 7 (index := 138) (by decide) lf_Fr_138 rfl d_Fr_readLiterals_22 (fun H locs F7 e8 hI => ?_)
  replace h := un_lt h _ e8
  refine lv_iload_n hx hb d_Fr_readLiterals_25 rfl (lv_at hl 1 rfl) ?_
  refine lv_iconst (v := 3) hx hb d_Fr_readLiterals_26 rfl ?_
  refine lv_iand hx hb d_Fr_readLiterals_27 ?_
  by_cases e9 : (q2.1 &&& (3 : Int32)) = 0
  · replace h := (if_pos e9).symm.trans h
    refine lv_tableIn (x := (q2.1 &&& (3 : Int32))) (off := 28) (tgt := 56) hx hb d_Fr_readLiterals_28 (by rw [e9]; decide) (by rw [e9]; decide) (by rw [e9]; rfl) rfl ?_
    refine lv_iconst (v := 0) hx hb d_Fr_readLiterals_56 rfl ?_
    refine lv_istore_n (lv' := [(3, .int (0 : Int32)), (2, .int (jshr q2.1 (2 : Int32))), (1, .int q2.1), (0, .ref (mAd X i0))]) hx hb d_Fr_readLiterals_57 rfl hl (by decide) rfl (fun ls hl => ?_)
    exact tf_Fr_readLiterals_58 hC  mFU _ _ _ _ _ _ _ o0 hI (lv_sub hl [3, 1, 0] rfl) h
  replace h := (if_neg e9).symm.trans h
  by_cases e16 : (q2.1 &&& (3 : Int32)) = 1
  · replace h := (if_pos e16).symm.trans h
    refine lv_tableIn (x := (q2.1 &&& (3 : Int32))) (off := 58) (tgt := 86) hx hb d_Fr_readLiterals_28 (by rw [e16]; decide) (by rw [e16]; decide) (by rw [e16]; rfl) rfl ?_
    refine lv_aload_n hx hb d_Fr_readLiterals_86 rfl (lv_at hl 2 rfl) ?_
    have p10 := wt_o hW o0 5 1 rfl (by decide) (by decide) (by decide)
    refine w_getR (T := T_Fr) S hK hI o0 rfl hin_Fr 5 (index := 34) (by decide) lf_Fr_34 d_Fr_readLiterals_87 ?_
    refine lv_aload_n hx hb d_Fr_readLiterals_90 rfl (lv_at hl 2 rfl) ?_
    have p11 := wt_o hW o0 1 7 rfl (by decide) (by decide) (by decide)
    refine w_getR (T := T_Fr) S hK hI o0 rfl hin_Fr 1 (index := 42) (by decide) lf_Fr_42 d_Fr_readLiterals_91 ?_
    obtain ⟨q12, e13, h⟩ := un_bi h
    refine w_callVi (As := []) (rest := [.ref (mAd X (mRf L i0 5))]) S hK hI hT (c_Wr_takeByte l hW p11 e13) (cwV 0 S.2.2.2.2 (gd_V lc_Wr_takeByte lm_Fr_58 li_Wr_takeByte ls_Wr_takeByte ln_Wr) rfl rfl rfl hd_Wr_takeByte ⟨Nat.le_of_ble_eq_true rfl, Nat.le_of_ble_eq_true rfl⟩) p11 rfl (by decide) rfl rfl hl.1 (Nat.le_of_ble_eq_true rfl) d_Fr_readLiterals_94 ⟨Nat.zero_le _, Nat.zero_le _⟩ (fun H locs hI => ?_)
    refine lv_iload_n hx hb d_Fr_readLiterals_97 rfl (lv_at hl 0 rfl) ?_
    obtain ⟨F14, e15, h⟩ := un_bi h
    refine w_callVv (As := [.int q12.1, .int (jshr q2.1 (2 : Int32))]) (rest := []) S hK hI hT (c_Row_addTimes l hW p10 e15) (cwV 2 S.2.2.2.2 (gd_V lc_Row_addTimes lm_Fr_122 li_Row_addTimes ls_Row_addTimes ln_Row) rfl rfl rfl hd_Row_addTimes ⟨Nat.le_of_ble_eq_true rfl, Nat.le_of_ble_eq_true rfl⟩) p10 rfl (by decide) rfl rfl hl.1 (Nat.le_of_ble_eq_true rfl) d_Fr_readLiterals_98 ⟨Nat.zero_le _, Nat.zero_le _⟩ (fun H locs hI => ?_)
    refine lv_goto (tgt := 121) hx hb d_Fr_readLiterals_101 rfl ?_
    exact t_Fr_readLiterals_121 hC   hI (lv_sub hl [] rfl) h
  replace h := (if_neg e16).symm.trans h
  by_cases e21 : (q2.1 &&& (3 : Int32)) = 2
  · replace h := (if_pos e21).symm.trans h
    refine lv_tableIn (x := (q2.1 &&& (3 : Int32))) (off := 76) (tgt := 104) hx hb d_Fr_readLiterals_28 (by rw [e21]; decide) (by rw [e21]; decide) (by rw [e21]; rfl) rfl ?_
    refine lv_aload_n hx hb d_Fr_readLiterals_104 rfl (lv_at hl 2 rfl) ?_
    obtain ⟨F17, e18, h⟩ := un_bi h
    refine w_callVv (As := []) (rest := []) S hK hI hT (c_Fr_readTree l hW o0 e18) (cwV 0 S.2.2.2.2 (gd_V lc_Fr_readTree lm_Fr_147 li_Fr_readTree ls_Fr_readTree ln_Fr) rfl rfl rfl hd_Fr_readTree ⟨Nat.le_of_ble_eq_true rfl, Nat.le_of_ble_eq_true rfl⟩) o0 rfl (by decide) rfl rfl hl.1 (Nat.le_of_ble_eq_true rfl) d_Fr_readLiterals_105 ⟨Nat.zero_le _, Nat.zero_le _⟩ (fun H locs hI => ?_)
    refine lv_aload_n hx hb d_Fr_readLiterals_108 rfl (lv_at hl 2 rfl) ?_
    refine lv_iload_n hx hb d_Fr_readLiterals_109 rfl (lv_at hl 0 rfl) ?_
    obtain ⟨F19, e20, h⟩ := un_bi h
    refine w_callVv (As := [.int (jshr q2.1 (2 : Int32))]) (rest := []) S hK hI hT (c_Fr_readSymbols l hW o0 e20) (cwV 1 S.2.2.2.2 (gd_V lc_Fr_readSymbols lm_Fr_150 li_Fr_readSymbols ls_Fr_readSymbols ln_Fr) rfl rfl rfl hd_Fr_readSymbols ⟨Nat.le_of_ble_eq_true rfl, Nat.le_of_ble_eq_true rfl⟩) o0 rfl (by decide) rfl rfl hl.1 (Nat.le_of_ble_eq_true rfl) d_Fr_readLiterals_110 ⟨Nat.zero_le _, Nat.zero_le _⟩ (fun H locs hI => ?_)
    refine lv_goto (tgt := 121) hx hb d_Fr_readLiterals_113 rfl ?_
    exact t_Fr_readLiterals_121 hC   hI (lv_sub hl [] rfl) h
  replace h := (if_neg e21).symm.trans h
  refine lv_tableOut (x := (q2.1 &&& (3 : Int32))) (tgt := 116) hx hb d_Fr_readLiterals_28 (by have ne9 := lv_neT (a := 0) e9 (by decide); have ne16 := lv_neT (a := 1) e16 (by decide); have ne21 := lv_neT (a := 2) e21 (by decide); omega) rfl ?_
  refine lv_aload_n hx hb d_Fr_readLiterals_116 rfl (lv_at hl 2 rfl) ?_
  refine lv_iload_n hx hb d_Fr_readLiterals_117 rfl (lv_at hl 0 rfl) ?_
  obtain ⟨F22, e23, h⟩ := un_bi h
  refine w_callVv (As := [.int (jshr q2.1 (2 : Int32))]) (rest := []) S hK hI hT (c_Fr_readSymbols l hW o0 e23) (cwV 1 S.2.2.2.2 (gd_V lc_Fr_readSymbols lm_Fr_150 li_Fr_readSymbols ls_Fr_readSymbols ln_Fr) rfl rfl rfl hd_Fr_readSymbols ⟨Nat.le_of_ble_eq_true rfl, Nat.le_of_ble_eq_true rfl⟩) o0 rfl (by decide) rfl rfl hl.1 (Nat.le_of_ble_eq_true rfl) d_Fr_readLiterals_118 ⟨Nat.zero_le _, Nat.zero_le _⟩ (fun H locs hI => ?_)
  exact t_Fr_readLiterals_121 hC   hI (lv_sub hl [] rfl) h
end
theorem d_ST_keepOne_0 : decode cc_ST_keepOne 0 = .ok (.aload_n 0, 1) := by decide +kernel
theorem d_ST_keepOne_1 : decode cc_ST_keepOne 1 = .ok (.iconst 0, 1) := by decide +kernel
theorem d_ST_keepOne_2 : decode cc_ST_keepOne 2 = .ok (.putfield 31, 3) := by decide +kernel
theorem d_ST_keepOne_5 : decode cc_ST_keepOne 5 = .ok (.aload_n 0, 1) := by decide +kernel
theorem d_ST_keepOne_6 : decode cc_ST_keepOne 6 = .ok (.getfield 9, 3) := by decide +kernel
theorem d_ST_keepOne_9 : decode cc_ST_keepOne 9 = .ok (.iconst 0, 1) := by decide +kernel
theorem d_ST_keepOne_10 : decode cc_ST_keepOne 10 = .ok (.iload_n 1, 1) := by decide +kernel
theorem d_ST_keepOne_11 : decode cc_ST_keepOne 11 = .ok (.iastore, 1) := by decide +kernel
theorem d_ST_keepOne_12 : decode cc_ST_keepOne 12 = .ok (.aload_n 0, 1) := by decide +kernel
theorem d_ST_keepOne_13 : decode cc_ST_keepOne 13 = .ok (.getfield 15, 3) := by decide +kernel
theorem d_ST_keepOne_16 : decode cc_ST_keepOne 16 = .ok (.iconst 0, 1) := by decide +kernel
theorem d_ST_keepOne_17 : decode cc_ST_keepOne 17 = .ok (.iconst 0, 1) := by decide +kernel
theorem d_ST_keepOne_18 : decode cc_ST_keepOne 18 = .ok (.iastore, 1) := by decide +kernel
theorem d_ST_keepOne_19 : decode cc_ST_keepOne 19 = .ok (.aload_n 0, 1) := by decide +kernel
theorem d_ST_keepOne_20 : decode cc_ST_keepOne 20 = .ok (.getfield 18, 3) := by decide +kernel
theorem d_ST_keepOne_23 : decode cc_ST_keepOne 23 = .ok (.iconst 0, 1) := by decide +kernel
theorem d_ST_keepOne_24 : decode cc_ST_keepOne 24 = .ok (.iconst 0, 1) := by decide +kernel
theorem d_ST_keepOne_25 : decode cc_ST_keepOne 25 = .ok (.iastore, 1) := by decide +kernel
theorem d_ST_keepOne_26 : decode cc_ST_keepOne 26 = .ok (.return_, 1) := by decide +kernel
section
variable {p : Program} {l : Launch} {e : Env} {s : State} {m : MethodId} {args : Array Value} {below : List Frame} {meth : Method} {c : Code} {X : Xs} {L : La}
def f_ST_keepOne (L : La) (i0 : Nat) (x1 : Int32) (F : Mem) : Option Mem :=
  lt' (u2 F i0 5 (0 : Int32)) fun F1 =>
  if inb (0 : Int32) (mLn L (mRf L i0 1)) ∨ ¬ (mRf L i0 1) < mNc L then none else
  lt' (u2 F1 (mRf L i0 1) (0 : Int32).toNatClampNeg x1) fun F5 =>
  if inb (0 : Int32) (mLn L (mRf L i0 2)) ∨ ¬ (mRf L i0 2) < mNc L then none else
  lt' (u2 F5 (mRf L i0 2) (0 : Int32).toNatClampNeg (0 : Int32)) fun F9 =>
  if inb (0 : Int32) (mLn L (mRf L i0 3)) ∨ ¬ (mRf L i0 3) < mNc L then none else
  lt' (u2 F9 (mRf L i0 3) (0 : Int32).toNatClampNeg (0 : Int32)) fun F13 =>
  some F13
set_option maxHeartbeats 4000000 in
theorem c_ST_keepOne (l : Launch) {X : Xs} {L : La} (hW : WT L) {out : Mem} {i0 : Nat} {x1 : Int32} {F : Mem} (o0 : oO L 2 i0) (h : f_ST_keepOne L i0 x1 F = some out) : Met l y_ST_keepOne w_ST_keepOne r_ST_keepOne (va_Pc [.ref (mAd X i0), .int x1] (Pr X L F)) (QV X L out) 0 0 (AA X L) := by
  refine mk_met (by decide) rfl (Nat.le_of_ble_eq_true rfl) hW ?_
  intro p e s m args below meth c ls hC hI hl
  have hl : lv_has ls 2 [(0, .ref (mAd X i0)), (1, .int x1)] := hl
  generalize hHe : s.heap = H at hI ⊢
  generalize ([] : List Loc) = locs at hI ⊢
  unfold f_ST_keepOne at h
  obtain ⟨S, hK, hT, hW, hr, hlk⟩ := id hC
  have hx := S.1
  have hb := S.2.1
  refine lv_aload_n hx hb d_ST_keepOne_0 rfl (lv_at hl 0 rfl) ?_
  refine lv_iconst (v := 0) hx hb d_ST_keepOne_1 rfl ?_
  refine w_putI (T := T_ST) S hK hI o0 rfl hin_ST ty_ST tk_ST nm_ST 5 (index := 31) (by decide) lf_ST_31 rfl d_ST_keepOne_2 (fun H locs F1 e2 hI => ?_)
  replace h := un_lt h _ e2
  refine lv_aload_n hx hb d_ST_keepOne_5 rfl (lv_at hl 0 rfl) ?_
  have p3 := wt_a hW o0 1 rfl (by decide) (by decide)
  refine w_getR (T := T_ST) S hK hI o0 rfl hin_ST 1 (index := 9) (by decide) lf_ST_9 d_ST_keepOne_6 ?_
  refine lv_iconst (v := 0) hx hb d_ST_keepOne_9 rfl ?_
  refine lv_iload_n hx hb d_ST_keepOne_10 rfl (lv_at hl 1 rfl) ?_
  obtain ⟨z4, h⟩ := un_if h
  refine w_iast S hK hI p3 z4 d_ST_keepOne_11 (fun H locs F5 e6 hI => ?_)
  replace h := un_lt h _ e6
  refine lv_aload_n hx hb d_ST_keepOne_12 rfl (lv_at hl 0 rfl) ?_
  have p7 := wt_a hW o0 2 rfl (by decide) (by decide)
  refine w_getR (T := T_ST) S hK hI o0 rfl hin_ST 2 (index := 15) (by decide) lf_ST_15 d_ST_keepOne_13 ?_
  refine lv_iconst (v := 0) hx hb d_ST_keepOne_16 rfl ?_
  refine lv_iconst (v := 0) hx hb d_ST_keepOne_17 rfl ?_
  obtain ⟨z8, h⟩ := un_if h
  refine w_iast S hK hI p7 z8 d_ST_keepOne_18 (fun H locs F9 e10 hI => ?_)
  replace h := un_lt h _ e10
  refine lv_aload_n hx hb d_ST_keepOne_19 rfl (lv_at hl 0 rfl) ?_
  have p11 := wt_a hW o0 3 rfl (by decide) (by decide)
  refine w_getR (T := T_ST) S hK hI o0 rfl hin_ST 3 (index := 18) (by decide) lf_ST_18 d_ST_keepOne_20 ?_
  refine lv_iconst (v := 0) hx hb d_ST_keepOne_23 rfl ?_
  refine lv_iconst (v := 0) hx hb d_ST_keepOne_24 rfl ?_
  obtain ⟨z12, h⟩ := un_if h
  refine w_iast S hK hI p11 z12 d_ST_keepOne_25 (fun H locs F13 e14 hI => ?_)
  replace h := un_lt h _ e14
  exact w_vret S hK hr hlk hI d_ST_keepOne_26 h
end
