theorem d_Sq_takeOneCode_0 : decode cc_Sq_takeOneCode 0 = .ok (.aload_n 0, 1) := by decide +kernel
theorem d_Sq_takeOneCode_1 : decode cc_Sq_takeOneCode 1 = .ok (.getfield 36, 3) := by decide +kernel
theorem d_Sq_takeOneCode_4 : decode cc_Sq_takeOneCode 4 = .ok (.invokevirtual 40, 3) := by decide +kernel
theorem d_Sq_takeOneCode_7 : decode cc_Sq_takeOneCode 7 = .ok (.istore_n 2, 1) := by decide +kernel
theorem d_Sq_takeOneCode_8 : decode cc_Sq_takeOneCode 8 = .ok (.iload_n 2, 1) := by decide +kernel
theorem d_Sq_takeOneCode_9 : decode cc_Sq_takeOneCode 9 = .ok (.aload_n 1, 1) := by decide +kernel
theorem d_Sq_takeOneCode_10 : decode cc_Sq_takeOneCode 10 = .ok (.getfield 57, 3) := by decide +kernel
theorem d_Sq_takeOneCode_13 : decode cc_Sq_takeOneCode 13 = .ok (.arraylength, 1) := by decide +kernel
theorem d_Sq_takeOneCode_14 : decode cc_Sq_takeOneCode 14 = .ok (.if_icmp .ge (11), 3) := by decide +kernel
theorem d_Sq_takeOneCode_17 : decode cc_Sq_takeOneCode 17 = .ok (.aload_n 1, 1) := by decide +kernel
theorem d_Sq_takeOneCode_18 : decode cc_Sq_takeOneCode 18 = .ok (.iload_n 2, 1) := by decide +kernel
theorem d_Sq_takeOneCode_19 : decode cc_Sq_takeOneCode 19 = .ok (.invokevirtual 71, 3) := by decide +kernel
theorem d_Sq_takeOneCode_22 : decode cc_Sq_takeOneCode 22 = .ok (.goto (10), 3) := by decide +kernel
theorem d_Sq_takeOneCode_25 : decode cc_Sq_takeOneCode 25 = .ok (.aload_n 0, 1) := by decide +kernel
theorem d_Sq_takeOneCode_26 : decode cc_Sq_takeOneCode 26 = .ok (.getfield 36, 3) := by decide +kernel
theorem d_Sq_takeOneCode_29 : decode cc_Sq_takeOneCode 29 = .ok (.invokevirtual 46, 3) := by decide +kernel
theorem d_Sq_takeOneCode_32 : decode cc_Sq_takeOneCode 32 = .ok (.return_, 1) := by decide +kernel
section
variable {p : Program} {l : Launch} {e : Env} {s : State} {m : MethodId} {args : Array Value} {below : List Frame} {meth : Method} {c : Code} {X : Xs} {L : La}
def b_Sq_takeOneCode_32 (L : La)   (F : Mem) : Option Mem :=
  some F
set_option maxHeartbeats 4000000 in
theorem t_Sq_takeOneCode_32 (hC : Cx X L p s m args meth c cc_Sq_takeOneCode 3 w_Sq_takeOneCode R_Sq none)  {out : Mem}   {F : Mem} {H : Heap} {locs : List Loc} {ls : Array Slot}  (hI : Iv X L s H locs F) (hl : lv_has ls 3 []) (h : b_Sq_takeOneCode_32 L   F = some out) : W p l e (headSpec w_Sq_takeOneCode r_Sq_takeOneCode).room s m args below meth c H locs 0 0 (MQ below (QV X L out) args s 0 0 (AA X L)) (F0 m 32 ls []) := by
  unfold b_Sq_takeOneCode_32 at h
  obtain ⟨S, hK, hT, hW, hr, hlk⟩ := id hC
  have hx := S.1
  have hb := S.2.1
  exact w_vret S hK hr hlk hI d_Sq_takeOneCode_32 h
def f_Sq_takeOneCode (L : La) (i0 : Nat) (i1 : Nat) (F : Mem) : Option Mem :=
  (f_Wr_takeByte L (mRf L i0 0) F).bind fun q2 =>
  if (nI (mGl L (mRf L i1 0))) ≤ q2.1 then
    (f_Wr_refuse L (mRf L i0 0) q2.2).bind fun F6 =>
    b_Sq_takeOneCode_32 L   F6
  else
    (f_ST_keepOne L i1 q2.1 q2.2).bind fun F8 =>
    b_Sq_takeOneCode_32 L   F8
set_option maxHeartbeats 4000000 in
theorem c_Sq_takeOneCode (l : Launch) {X : Xs} {L : La} (hW : WT L) {out : Mem} {i0 : Nat} {i1 : Nat} {F : Mem} (o0 : oO L 8 i0) (o1 : oO L 2 i1) (h : f_Sq_takeOneCode L i0 i1 F = some out) : Met l y_Sq_takeOneCode w_Sq_takeOneCode r_Sq_takeOneCode (va_Pc [.ref (mAd X i0), .ref (mAd X i1)] (Pr X L F)) (QV X L out) 0 0 (AA X L) := by
  refine mk_met (by decide) rfl (Nat.le_of_ble_eq_true rfl) hW ?_
  intro p e s m args below meth c ls hC hI hl
  have hl : lv_has ls 3 [(0, .ref (mAd X i0)), (1, .ref (mAd X i1))] := hl
  generalize hHe : s.heap = H at hI ⊢
  generalize ([] : List Loc) = locs at hI ⊢
  unfold f_Sq_takeOneCode at h
  obtain ⟨S, hK, hT, hW, hr, hlk⟩ := id hC
  have hx := S.1
  have hb := S.2.1
  refine lv_aload_n hx hb d_Sq_takeOneCode_0 rfl (lv_at hl 0 rfl) ?_
  have p1 := wt_o hW o0 0 7 rfl (by decide) (by decide) (by decide)
  refine w_getR (T := T_Sq) S hK hI o0 rfl hin_Sq 0 (index := 36) (by decide) lf_Sq_36 d_Sq_takeOneCode_1 ?_
  obtain ⟨q2, e3, h⟩ := un_bi h
  refine w_callVi (As := []) (rest := []) S hK hI hT (c_Wr_takeByte l hW p1 e3) (cwV 0 S.2.2.2.2 (gd_V lc_Wr_takeByte lm_Sq_40 li_Wr_takeByte ls_Wr_takeByte ln_Wr) rfl rfl rfl hd_Wr_takeByte ⟨Nat.le_of_ble_eq_true rfl, Nat.le_of_ble_eq_true rfl⟩) p1 rfl (by decide) rfl rfl hl.1 (Nat.le_of_ble_eq_true rfl) d_Sq_takeOneCode_4 ⟨Nat.zero_le _, Nat.zero_le _⟩ (fun H locs hI => ?_)
  refine lv_istore_n (lv' := [(2, .int q2.1), (0, .ref (mAd X i0)), (1, .ref (mAd X i1))]) hx hb d_Sq_takeOneCode_7 rfl hl (by decide) rfl (fun ls hl => ?_)
  refine lv_iload_n hx hb d_Sq_takeOneCode_8 rfl (lv_at hl 0 rfl) ?_
  refine lv_aload_n hx hb d_Sq_takeOneCode_9 rfl (lv_at hl 2 rfl) ?_
  have p4 := wt_a hW o1 0 rfl (by decide) (by decide)
  refine w_getR (T := T_ST) S hK hI o1 rfl hin_ST 0 (index := 57) (by decide) lf_Sq_57 d_Sq_takeOneCode_10 ?_
  refine w_alen S hK hI hT p4 d_Sq_takeOneCode_13 ?_
  refine lv_icmp_ge (tgt := 25) hx hb d_Sq_takeOneCode_14 rfl (fun hc => ?_) (fun hc => ?_)
  · replace h := (if_pos hc).symm.trans h
    refine lv_aload_n hx hb d_Sq_takeOneCode_25 rfl (lv_at hl 1 rfl) ?_
    have p5 := wt_o hW o0 0 7 rfl (by decide) (by decide) (by decide)
    refine w_getR (T := T_Sq) S hK hI o0 rfl hin_Sq 0 (index := 36) (by decide) lf_Sq_36 d_Sq_takeOneCode_26 ?_
    obtain ⟨F6, e7, h⟩ := un_bi h
    refine w_callVv (As := []) (rest := []) S hK hI hT (c_Wr_refuse l hW p5 e7) (cwV 0 S.2.2.2.2 (gd_V lc_Wr_refuse lm_Sq_46 li_Wr_refuse ls_Wr_refuse ln_Wr) rfl rfl rfl hd_Wr_refuse ⟨Nat.le_of_ble_eq_true rfl, Nat.le_of_ble_eq_true rfl⟩) p5 rfl (by decide) rfl rfl hl.1 (Nat.le_of_ble_eq_true rfl) d_Sq_takeOneCode_29 ⟨Nat.zero_le _, Nat.zero_le _⟩ (fun H locs hI => ?_)
    exact t_Sq_takeOneCode_32 hC   hI (lv_sub hl [] rfl) h
  · replace h := (if_neg hc).symm.trans h
    refine lv_aload_n hx hb d_Sq_takeOneCode_17 rfl (lv_at hl 2 rfl) ?_
    refine lv_iload_n hx hb d_Sq_takeOneCode_18 rfl (lv_at hl 0 rfl) ?_
    obtain ⟨F8, e9, h⟩ := un_bi h
    refine w_callVv (As := [.int q2.1]) (rest := []) S hK hI hT (c_ST_keepOne l hW o1 e9) (cwV 1 S.2.2.2.2 (gd_V lc_ST_keepOne lm_Sq_71 li_ST_keepOne ls_ST_keepOne ln_ST) rfl rfl rfl hd_ST_keepOne ⟨Nat.le_of_ble_eq_true rfl, Nat.le_of_ble_eq_true rfl⟩) o1 rfl (by decide) rfl rfl hl.1 (Nat.le_of_ble_eq_true rfl) d_Sq_takeOneCode_19 ⟨Nat.zero_le _, Nat.zero_le _⟩ (fun H locs hI => ?_)
    refine lv_goto (tgt := 32) hx hb d_Sq_takeOneCode_22 rfl ?_
    exact t_Sq_takeOneCode_32 hC   hI (lv_sub hl [] rfl) h
end
theorem d_Sq_takeCounts_0 : decode cc_Sq_takeCounts 0 = .ok (.aload_n 0, 1) := by decide +kernel
theorem d_Sq_takeCounts_1 : decode cc_Sq_takeCounts 1 = .ok (.getfield 36, 3) := by decide +kernel
theorem d_Sq_takeCounts_4 : decode cc_Sq_takeCounts 4 = .ok (.invokevirtual 40, 3) := by decide +kernel
theorem d_Sq_takeCounts_7 : decode cc_Sq_takeCounts 7 = .ok (.istore_n 2, 1) := by decide +kernel
theorem d_Sq_takeCounts_8 : decode cc_Sq_takeCounts 8 = .ok (.iload_n 2, 1) := by decide +kernel
theorem d_Sq_takeCounts_9 : decode cc_Sq_takeCounts 9 = .ok (.iconst 1, 1) := by decide +kernel
theorem d_Sq_takeCounts_10 : decode cc_Sq_takeCounts 10 = .ok (.if_icmp .lt (12), 3) := by decide +kernel
theorem d_Sq_takeCounts_13 : decode cc_Sq_takeCounts 13 = .ok (.iload_n 2, 1) := by decide +kernel
theorem d_Sq_takeCounts_14 : decode cc_Sq_takeCounts 14 = .ok (.aload_n 1, 1) := by decide +kernel
theorem d_Sq_takeCounts_15 : decode cc_Sq_takeCounts 15 = .ok (.getfield 57, 3) := by decide +kernel
theorem d_Sq_takeCounts_18 : decode cc_Sq_takeCounts 18 = .ok (.arraylength, 1) := by decide +kernel
theorem d_Sq_takeCounts_19 : decode cc_Sq_takeCounts 19 = .ok (.if_icmp .le (11), 3) := by decide +kernel
theorem d_Sq_takeCounts_22 : decode cc_Sq_takeCounts 22 = .ok (.aload_n 0, 1) := by decide +kernel
theorem d_Sq_takeCounts_23 : decode cc_Sq_takeCounts 23 = .ok (.getfield 36, 3) := by decide +kernel
theorem d_Sq_takeCounts_26 : decode cc_Sq_takeCounts 26 = .ok (.invokevirtual 46, 3) := by decide +kernel
theorem d_Sq_takeCounts_29 : decode cc_Sq_takeCounts 29 = .ok (.return_, 1) := by decide +kernel
theorem d_Sq_takeCounts_30 : decode cc_Sq_takeCounts 30 = .ok (.aload_n 0, 1) := by decide +kernel
theorem d_Sq_takeCounts_31 : decode cc_Sq_takeCounts 31 = .ok (.getfield 36, 3) := by decide +kernel
theorem d_Sq_takeCounts_34 : decode cc_Sq_takeCounts 34 = .ok (.aload_n 0, 1) := by decide +kernel
theorem d_Sq_takeCounts_35 : decode cc_Sq_takeCounts 35 = .ok (.getfield 33, 3) := by decide +kernel
theorem d_Sq_takeCounts_38 : decode cc_Sq_takeCounts 38 = .ok (.iload_n 2, 1) := by decide +kernel
theorem d_Sq_takeCounts_39 : decode cc_Sq_takeCounts 39 = .ok (.invokevirtual 75, 3) := by decide +kernel
theorem d_Sq_takeCounts_42 : decode cc_Sq_takeCounts 42 = .ok (.iconst 0, 1) := by decide +kernel
theorem d_Sq_takeCounts_43 : decode cc_Sq_takeCounts 43 = .ok (.istore_n 3, 1) := by decide +kernel
theorem d_Sq_takeCounts_44 : decode cc_Sq_takeCounts 44 = .ok (.iconst 0, 1) := by decide +kernel
theorem d_Sq_takeCounts_45 : decode cc_Sq_takeCounts 45 = .ok (.istore 4, 2) := by decide +kernel
theorem d_Sq_takeCounts_47 : decode cc_Sq_takeCounts 47 = .ok (.iload 4, 2) := by decide +kernel
theorem d_Sq_takeCounts_49 : decode cc_Sq_takeCounts 49 = .ok (.iload_n 2, 1) := by decide +kernel
theorem d_Sq_takeCounts_50 : decode cc_Sq_takeCounts 50 = .ok (.if_icmp .ge (19), 3) := by decide +kernel
theorem d_Sq_takeCounts_53 : decode cc_Sq_takeCounts 53 = .ok (.iload_n 3, 1) := by decide +kernel
theorem d_Sq_takeCounts_54 : decode cc_Sq_takeCounts 54 = .ok (.aload_n 0, 1) := by decide +kernel
theorem d_Sq_takeCounts_55 : decode cc_Sq_takeCounts 55 = .ok (.getfield 33, 3) := by decide +kernel
theorem d_Sq_takeCounts_58 : decode cc_Sq_takeCounts 58 = .ok (.iload 4, 2) := by decide +kernel
theorem d_Sq_takeCounts_60 : decode cc_Sq_takeCounts 60 = .ok (.iaload, 1) := by decide +kernel
theorem d_Sq_takeCounts_61 : decode cc_Sq_takeCounts 61 = .ok (.iadd, 1) := by decide +kernel
theorem d_Sq_takeCounts_62 : decode cc_Sq_takeCounts 62 = .ok (.istore_n 3, 1) := by decide +kernel
theorem d_Sq_takeCounts_63 : decode cc_Sq_takeCounts 63 = .ok (.iinc 4 (1), 3) := by decide +kernel
theorem d_Sq_takeCounts_66 : decode cc_Sq_takeCounts 66 = .ok (.goto (-19), 3) := by decide +kernel
theorem d_Sq_takeCounts_69 : decode cc_Sq_takeCounts 69 = .ok (.iload_n 3, 1) := by decide +kernel
theorem d_Sq_takeCounts_70 : decode cc_Sq_takeCounts 70 = .ok (.bipush (16), 2) := by decide +kernel
theorem d_Sq_takeCounts_72 : decode cc_Sq_takeCounts 72 = .ok (.if_icmp .ne (15), 3) := by decide +kernel
theorem d_Sq_takeCounts_75 : decode cc_Sq_takeCounts 75 = .ok (.aload_n 1, 1) := by decide +kernel
theorem d_Sq_takeCounts_76 : decode cc_Sq_takeCounts 76 = .ok (.aload_n 0, 1) := by decide +kernel
theorem d_Sq_takeCounts_77 : decode cc_Sq_takeCounts 77 = .ok (.getfield 33, 3) := by decide +kernel
theorem d_Sq_takeCounts_80 : decode cc_Sq_takeCounts 80 = .ok (.iload_n 2, 1) := by decide +kernel
theorem d_Sq_takeCounts_81 : decode cc_Sq_takeCounts 81 = .ok (.invokevirtual 60, 3) := by decide +kernel
theorem d_Sq_takeCounts_84 : decode cc_Sq_takeCounts 84 = .ok (.goto (10), 3) := by decide +kernel
theorem d_Sq_takeCounts_87 : decode cc_Sq_takeCounts 87 = .ok (.aload_n 0, 1) := by decide +kernel
theorem d_Sq_takeCounts_88 : decode cc_Sq_takeCounts 88 = .ok (.getfield 36, 3) := by decide +kernel
theorem d_Sq_takeCounts_91 : decode cc_Sq_takeCounts 91 = .ok (.invokevirtual 46, 3) := by decide +kernel
theorem d_Sq_takeCounts_94 : decode cc_Sq_takeCounts 94 = .ok (.return_, 1) := by decide +kernel
section
variable {p : Program} {l : Launch} {e : Env} {s : State} {m : MethodId} {args : Array Value} {below : List Frame} {meth : Method} {c : Code} {X : Xs} {L : La}
def b_Sq_takeCounts_22 (L : La)  (i0 : Nat) (F : Mem) : Option Mem :=
  (f_Wr_refuse L (mRf L i0 0) F).bind fun F2 =>
  some F2
set_option maxHeartbeats 4000000 in
theorem t_Sq_takeCounts_22 (hC : Cx X L p s m args meth c cc_Sq_takeCounts 5 w_Sq_takeCounts R_Sq none)  {out : Mem}  {i0 : Nat} {F : Mem} {H : Heap} {locs : List Loc} {ls : Array Slot} (o0 : oO L 8 i0) (hI : Iv X L s H locs F) (hl : lv_has ls 5 [(0, .ref (mAd X i0))]) (h : b_Sq_takeCounts_22 L  i0 F = some out) : W p l e (headSpec w_Sq_takeCounts r_Sq_takeCounts).room s m args below meth c H locs 0 0 (MQ below (QV X L out) args s 0 0 (AA X L)) (F0 m 22 ls []) := by
  unfold b_Sq_takeCounts_22 at h
  obtain ⟨S, hK, hT, hW, hr, hlk⟩ := id hC
  have hx := S.1
  have hb := S.2.1
  refine lv_aload_n hx hb d_Sq_takeCounts_22 rfl (lv_at hl 0 rfl) ?_
  have p1 := wt_o hW o0 0 7 rfl (by decide) (by decide) (by decide)
  refine w_getR (T := T_Sq) S hK hI o0 rfl hin_Sq 0 (index := 36) (by decide) lf_Sq_36 d_Sq_takeCounts_23 ?_
  obtain ⟨F2, e3, h⟩ := un_bi h
  refine w_callVv (As := []) (rest := []) S hK hI hT (c_Wr_refuse l hW p1 e3) (cwV 0 S.2.2.2.2 (gd_V lc_Wr_refuse lm_Sq_46 li_Wr_refuse ls_Wr_refuse ln_Wr) rfl rfl rfl hd_Wr_refuse ⟨Nat.le_of_ble_eq_true rfl, Nat.le_of_ble_eq_true rfl⟩) p1 rfl (by decide) rfl rfl hl.1 (Nat.le_of_ble_eq_true rfl) d_Sq_takeCounts_26 ⟨Nat.zero_le _, Nat.zero_le _⟩ (fun H locs hI => ?_)
  exact w_vret S hK hr hlk hI d_Sq_takeCounts_29 h
def b_Sq_takeCounts_94 (L : La)   (F : Mem) : Option Mem :=
  some F
set_option maxHeartbeats 4000000 in
theorem t_Sq_takeCounts_94 (hC : Cx X L p s m args meth c cc_Sq_takeCounts 5 w_Sq_takeCounts R_Sq none)  {out : Mem}   {F : Mem} {H : Heap} {locs : List Loc} {ls : Array Slot}  (hI : Iv X L s H locs F) (hl : lv_has ls 5 []) (h : b_Sq_takeCounts_94 L   F = some out) : W p l e (headSpec w_Sq_takeCounts r_Sq_takeCounts).room s m args below meth c H locs 0 0 (MQ below (QV X L out) args s 0 0 (AA X L)) (F0 m 94 ls []) := by
  unfold b_Sq_takeCounts_94 at h
  obtain ⟨S, hK, hT, hW, hr, hlk⟩ := id hC
  have hx := S.1
  have hb := S.2.1
  exact w_vret S hK hr hlk hI d_Sq_takeCounts_94 h
def b_Sq_takeCounts_47 (L : La) (k47 : Nat → Nat → Int32 → Int32 → Int32 → Mem → Option Mem) (i0 : Nat) (i1 : Nat) (x2 : Int32) (x3 : Int32) (x4 : Int32) (F : Mem) : Option Mem :=
  if x2 ≤ x4 then
    if x3 = (16 : Int32) then
      (f_ST_keepCounts L i1 (mRf L i0 4) x2 F).bind fun F5 =>
      b_Sq_takeCounts_94 L   F5
    else
      (f_Wr_refuse L (mRf L i0 0) F).bind fun F2 =>
      b_Sq_takeCounts_94 L   F2
  else
    if inb x4 (mGl L (mRf L i0 4)) then none else
    k47 i0 i1 x2 (x3 + (mGa L F (mRf L i0 4) x4.toNatClampNeg)) (x4 + (1 : Int32)) F
set_option maxHeartbeats 4000000 in
theorem t_Sq_takeCounts_47 (hC : Cx X L p s m args meth c cc_Sq_takeCounts 5 w_Sq_takeCounts R_Sq none) {k47 : Nat → Nat → Int32 → Int32 → Int32 → Mem → Option Mem} {out : Mem} (hk47 : ∀ (i0 : Nat) (i1 : Nat) (x2 : Int32) (x3 : Int32) (x4 : Int32) (F : Mem) (H : Heap) (locs : List Loc) (ls : Array Slot), oO L 8 i0 → oO L 2 i1 → Iv X L s H locs F → lv_has ls 5 [(0, .ref (mAd X i0)), (1, .ref (mAd X i1)), (2, .int x2), (3, .int x3), (4, .int x4)] → k47 i0 i1 x2 x3 x4 F = some out → W p l e (headSpec w_Sq_takeCounts r_Sq_takeCounts).room s m args below meth c H locs 0 0 (MQ below (QV X L out) args s 0 0 (AA X L)) (F0 m 47 ls [])) {i0 : Nat} {i1 : Nat} {x2 : Int32} {x3 : Int32} {x4 : Int32} {F : Mem} {H : Heap} {locs : List Loc} {ls : Array Slot} (o0 : oO L 8 i0) (o1 : oO L 2 i1) (hI : Iv X L s H locs F) (hl : lv_has ls 5 [(0, .ref (mAd X i0)), (1, .ref (mAd X i1)), (2, .int x2), (3, .int x3), (4, .int x4)]) (h : b_Sq_takeCounts_47 L k47 i0 i1 x2 x3 x4 F = some out) : W p l e (headSpec w_Sq_takeCounts r_Sq_takeCounts).room s m args below meth c H locs 0 0 (MQ below (QV X L out) args s 0 0 (AA X L)) (F0 m 47 ls []) := by
  unfold b_Sq_takeCounts_47 at h
  obtain ⟨S, hK, hT, hW, hr, hlk⟩ := id hC
  have hx := S.1
  have hb := S.2.1
  refine lv_iload hx hb d_Sq_takeCounts_47 (lv_at hl 4 rfl) ?_
  refine lv_iload_n hx hb d_Sq_takeCounts_49 rfl (lv_at hl 2 rfl) ?_
  refine lv_icmp_ge (tgt := 69) hx hb d_Sq_takeCounts_50 rfl (fun hc => ?_) (fun hc => ?_)
  · replace h := (if_pos hc).symm.trans h
    refine lv_iload_n hx hb d_Sq_takeCounts_69 rfl (lv_at hl 3 rfl) ?_
    refine lv_bipush (v := 16) hx hb d_Sq_takeCounts_70 (by decide) ?_
    refine lv_icmp_ne (tgt := 87) hx hb d_Sq_takeCounts_72 rfl (fun hc => ?_) (fun hc => ?_)
    · replace h := (if_neg hc).symm.trans h
      refine lv_aload_n hx hb d_Sq_takeCounts_87 rfl (lv_at hl 0 rfl) ?_
      have p1 := wt_o hW o0 0 7 rfl (by decide) (by decide) (by decide)
      refine w_getR (T := T_Sq) S hK hI o0 rfl hin_Sq 0 (index := 36) (by decide) lf_Sq_36 d_Sq_takeCounts_88 ?_
      obtain ⟨F2, e3, h⟩ := un_bi h
      refine w_callVv (As := []) (rest := []) S hK hI hT (c_Wr_refuse l hW p1 e3) (cwV 0 S.2.2.2.2 (gd_V lc_Wr_refuse lm_Sq_46 li_Wr_refuse ls_Wr_refuse ln_Wr) rfl rfl rfl hd_Wr_refuse ⟨Nat.le_of_ble_eq_true rfl, Nat.le_of_ble_eq_true rfl⟩) p1 rfl (by decide) rfl rfl hl.1 (Nat.le_of_ble_eq_true rfl) d_Sq_takeCounts_91 ⟨Nat.zero_le _, Nat.zero_le _⟩ (fun H locs hI => ?_)
      exact t_Sq_takeCounts_94 hC   hI (lv_sub hl [] rfl) h
    · replace h := (if_pos hc).symm.trans h
      refine lv_aload_n hx hb d_Sq_takeCounts_75 rfl (lv_at hl 1 rfl) ?_
      refine lv_aload_n hx hb d_Sq_takeCounts_76 rfl (lv_at hl 0 rfl) ?_
      have p4 := wt_a hW o0 4 rfl (by decide) (by decide)
      refine w_getR (T := T_Sq) S hK hI o0 rfl hin_Sq 4 (index := 33) (by decide) lf_Sq_33 d_Sq_takeCounts_77 ?_
      refine lv_iload_n hx hb d_Sq_takeCounts_80 rfl (lv_at hl 2 rfl) ?_
      obtain ⟨F5, e6, h⟩ := un_bi h
      refine w_callVv (As := [.ref (mAd X (mRf L i0 4)), .int x2]) (rest := []) S hK hI hT (c_ST_keepCounts l hW o1 p4 e6) (cwV 2 S.2.2.2.2 (gd_V lc_ST_keepCounts lm_Sq_60 li_ST_keepCounts ls_ST_keepCounts ln_ST) rfl rfl rfl hd_ST_keepCounts ⟨Nat.le_of_ble_eq_true rfl, Nat.le_of_ble_eq_true rfl⟩) o1 rfl (by decide) rfl rfl hl.1 (Nat.le_of_ble_eq_true rfl) d_Sq_takeCounts_81 ⟨Nat.zero_le _, Nat.zero_le _⟩ (fun H locs hI => ?_)
      refine lv_goto (tgt := 94) hx hb d_Sq_takeCounts_84 rfl ?_
      exact t_Sq_takeCounts_94 hC   hI (lv_sub hl [] rfl) h
  · replace h := (if_neg hc).symm.trans h
    refine lv_iload_n hx hb d_Sq_takeCounts_53 rfl (lv_at hl 3 rfl) ?_
    refine lv_aload_n hx hb d_Sq_takeCounts_54 rfl (lv_at hl 0 rfl) ?_
    have p7 := wt_a hW o0 4 rfl (by decide) (by decide)
    refine w_getR (T := T_Sq) S hK hI o0 rfl hin_Sq 4 (index := 33) (by decide) lf_Sq_33 d_Sq_takeCounts_55 ?_
    refine lv_iload hx hb d_Sq_takeCounts_58 (lv_at hl 4 rfl) ?_
    obtain ⟨z8, h⟩ := un_if h
    refine w_iald S hK hI hT p7 z8 d_Sq_takeCounts_60 ?_
    refine lv_iadd hx hb d_Sq_takeCounts_61 ?_
    refine lv_istore_n (lv' := [(3, .int (x3 + (mGa L F (mRf L i0 4) x4.toNatClampNeg))), (0, .ref (mAd X i0)), (1, .ref (mAd X i1)), (2, .int x2), (4, .int x4)]) hx hb d_Sq_takeCounts_62 rfl hl (by decide) rfl (fun ls hl => ?_)
    refine lv_iinc (k := 4) (v := x4 + (1 : Int32)) (lv' := [(4, .int (x4 + (1 : Int32))), (3, .int (x3 + (mGa L F (mRf L i0 4) x4.toNatClampNeg))), (0, .ref (mAd X i0)), (1, .ref (mAd X i1)), (2, .int x2)]) hx hb d_Sq_takeCounts_63 hl rfl rfl (by decide) rfl (fun ls hl => ?_)
    refine lv_goto (tgt := 47) hx hb d_Sq_takeCounts_66 rfl ?_
    exact hk47 _ _ _ _ _ _ _ _ _ o0 o1 hI (lv_sub hl [2, 3, 4, 1, 0] rfl) h
def f_Sq_takeCounts_47 (L : La)  : Nat → Nat → Nat → Int32 → Int32 → Int32 → Mem → Option Mem
  | 0 => fun _ _ _ _ _ _ => none
  | n + 1 => b_Sq_takeCounts_47 L (f_Sq_takeCounts_47 L  n)
theorem tf_Sq_takeCounts_47 (hC : Cx X L p s m args meth c cc_Sq_takeCounts 5 w_Sq_takeCounts R_Sq none)  {out : Mem}  (n : Nat) : ∀ (i0 : Nat) (i1 : Nat) (x2 : Int32) (x3 : Int32) (x4 : Int32) (F : Mem) (H : Heap) (locs : List Loc) (ls : Array Slot), oO L 8 i0 → oO L 2 i1 → Iv X L s H locs F → lv_has ls 5 [(0, .ref (mAd X i0)), (1, .ref (mAd X i1)), (2, .int x2), (3, .int x3), (4, .int x4)] → f_Sq_takeCounts_47 L  n i0 i1 x2 x3 x4 F = some out → W p l e (headSpec w_Sq_takeCounts r_Sq_takeCounts).room s m args below meth c H locs 0 0 (MQ below (QV X L out) args s 0 0 (AA X L)) (F0 m 47 ls []) := by
  induction n with
  | zero => intro i0 i1 x2 x3 x4 F H locs ls o0 o1 hI hl h; cases h
  | succ n ih => intro i0 i1 x2 x3 x4 F H locs ls o0 o1 hI hl h; exact t_Sq_takeCounts_47 hC ih o0 o1 hI hl h
def f_Sq_takeCounts (L : La) (i0 : Nat) (i1 : Nat) (F : Mem) : Option Mem :=
  (f_Wr_takeByte L (mRf L i0 0) F).bind fun q2 =>
  if q2.1 < (1 : Int32) then
    b_Sq_takeCounts_22 L  i0 q2.2
  else
    if q2.1 ≤ (nI (mGl L (mRf L i1 0))) then
      (f_Wr_takeHalves L (mRf L i0 0) (mRf L i0 4) q2.1 q2.2).bind fun F7 =>
      f_Sq_takeCounts_47 L  mFU i0 i1 q2.1 (0 : Int32) (0 : Int32) F7
    else
      b_Sq_takeCounts_22 L  i0 q2.2
set_option maxHeartbeats 4000000 in
theorem c_Sq_takeCounts (l : Launch) {X : Xs} {L : La} (hW : WT L) {out : Mem} {i0 : Nat} {i1 : Nat} {F : Mem} (o0 : oO L 8 i0) (o1 : oO L 2 i1) (h : f_Sq_takeCounts L i0 i1 F = some out) : Met l y_Sq_takeCounts w_Sq_takeCounts r_Sq_takeCounts (va_Pc [.ref (mAd X i0), .ref (mAd X i1)] (Pr X L F)) (QV X L out) 0 0 (AA X L) := by
  refine mk_met (by decide) rfl (Nat.le_of_ble_eq_true rfl) hW ?_
  intro p e s m args below meth c ls hC hI hl
  have hl : lv_has ls 5 [(0, .ref (mAd X i0)), (1, .ref (mAd X i1))] := hl
  generalize hHe : s.heap = H at hI ⊢
  generalize ([] : List Loc) = locs at hI ⊢
  unfold f_Sq_takeCounts at h
  obtain ⟨S, hK, hT, hW, hr, hlk⟩ := id hC
  have hx := S.1
  have hb := S.2.1
  refine lv_aload_n hx hb d_Sq_takeCounts_0 rfl (lv_at hl 0 rfl) ?_
  have p1 := wt_o hW o0 0 7 rfl (by decide) (by decide) (by decide)
  refine w_getR (T := T_Sq) S hK hI o0 rfl hin_Sq 0 (index := 36) (by decide) lf_Sq_36 d_Sq_takeCounts_1 ?_
  obtain ⟨q2, e3, h⟩ := un_bi h
  refine w_callVi (As := []) (rest := []) S hK hI hT (c_Wr_takeByte l hW p1 e3) (cwV 0 S.2.2.2.2 (gd_V lc_Wr_takeByte lm_Sq_40 li_Wr_takeByte ls_Wr_takeByte ln_Wr) rfl rfl rfl hd_Wr_takeByte ⟨Nat.le_of_ble_eq_true rfl, Nat.le_of_ble_eq_true rfl⟩) p1 rfl (by decide) rfl rfl hl.1 (Nat.le_of_ble_eq_true rfl) d_Sq_takeCounts_4 ⟨Nat.zero_le _, Nat.zero_le _⟩ (fun H locs hI => ?_)
  refine lv_istore_n (lv' := [(2, .int q2.1), (0, .ref (mAd X i0)), (1, .ref (mAd X i1))]) hx hb d_Sq_takeCounts_7 rfl hl (by decide) rfl (fun ls hl => ?_)
  refine lv_iload_n hx hb d_Sq_takeCounts_8 rfl (lv_at hl 0 rfl) ?_
  refine lv_iconst (v := 1) hx hb d_Sq_takeCounts_9 rfl ?_
  refine lv_icmp_lt (tgt := 22) hx hb d_Sq_takeCounts_10 rfl (fun hc => ?_) (fun hc => ?_)
  · replace h := (if_pos hc).symm.trans h
    exact t_Sq_takeCounts_22 hC  o0 hI (lv_sub hl [1] rfl) h
  · replace h := (if_neg hc).symm.trans h
    refine lv_iload_n hx hb d_Sq_takeCounts_13 rfl (lv_at hl 0 rfl) ?_
    refine lv_aload_n hx hb d_Sq_takeCounts_14 rfl (lv_at hl 2 rfl) ?_
    have p4 := wt_a hW o1 0 rfl (by decide) (by decide)
    refine w_getR (T := T_ST) S hK hI o1 rfl hin_ST 0 (index := 57) (by decide) lf_Sq_57 d_Sq_takeCounts_15 ?_
    refine w_alen S hK hI hT p4 d_Sq_takeCounts_18 ?_
    refine lv_icmp_le (tgt := 30) hx hb d_Sq_takeCounts_19 rfl (fun hc => ?_) (fun hc => ?_)
    · replace h := (if_pos hc).symm.trans h
      refine lv_aload_n hx hb d_Sq_takeCounts_30 rfl (lv_at hl 1 rfl) ?_
      have p5 := wt_o hW o0 0 7 rfl (by decide) (by decide) (by decide)
      refine w_getR (T := T_Sq) S hK hI o0 rfl hin_Sq 0 (index := 36) (by decide) lf_Sq_36 d_Sq_takeCounts_31 ?_
      refine lv_aload_n hx hb d_Sq_takeCounts_34 rfl (lv_at hl 1 rfl) ?_
      have p6 := wt_a hW o0 4 rfl (by decide) (by decide)
      refine w_getR (T := T_Sq) S hK hI o0 rfl hin_Sq 4 (index := 33) (by decide) lf_Sq_33 d_Sq_takeCounts_35 ?_
      refine lv_iload_n hx hb d_Sq_takeCounts_38 rfl (lv_at hl 0 rfl) ?_
      obtain ⟨F7, e8, h⟩ := un_bi h
      refine w_callVv (As := [.ref (mAd X (mRf L i0 4)), .int q2.1]) (rest := []) S hK hI hT (c_Wr_takeHalves l hW p5 p6 e8) (cwV 2 S.2.2.2.2 (gd_V lc_Wr_takeHalves lm_Sq_75 li_Wr_takeHalves ls_Wr_takeHalves ln_Wr) rfl rfl rfl hd_Wr_takeHalves ⟨Nat.le_of_ble_eq_true rfl, Nat.le_of_ble_eq_true rfl⟩) p5 rfl (by decide) rfl rfl hl.1 (Nat.le_of_ble_eq_true rfl) d_Sq_takeCounts_39 ⟨Nat.zero_le _, Nat.zero_le _⟩ (fun H locs hI => ?_)
      refine lv_iconst (v := 0) hx hb d_Sq_takeCounts_42 rfl ?_
      refine lv_istore_n (lv' := [(3, .int (0 : Int32)), (2, .int q2.1), (0, .ref (mAd X i0)), (1, .ref (mAd X i1))]) hx hb d_Sq_takeCounts_43 rfl hl (by decide) rfl (fun ls hl => ?_)
      refine lv_iconst (v := 0) hx hb d_Sq_takeCounts_44 rfl ?_
      refine lv_istore (lv' := [(4, .int (0 : Int32)), (3, .int (0 : Int32)), (2, .int q2.1), (0, .ref (mAd X i0)), (1, .ref (mAd X i1))]) hx hb d_Sq_takeCounts_45 hl (by decide) rfl (fun ls hl => ?_)
      exact tf_Sq_takeCounts_47 hC  mFU _ _ _ _ _ _ _ _ _ o0 o1 hI (lv_sub hl [3, 4, 2, 1, 0] rfl) h
    · replace h := (if_neg hc).symm.trans h
      exact t_Sq_takeCounts_22 hC  o0 hI (lv_sub hl [1] rfl) h
end
theorem d_Sq_takeTable_0 : decode cc_Sq_takeTable 0 = .ok (.iload_n 2, 1) := by decide +kernel
theorem d_Sq_takeTable_1 : decode cc_Sq_takeTable 1 = .ok (.tableswitch (59) (0) (2) #[27, 43, 51], 27) := by decide +kernel
theorem d_Sq_takeTable_28 : decode cc_Sq_takeTable 28 = .ok (.aload_n 1, 1) := by decide +kernel
theorem d_Sq_takeTable_29 : decode cc_Sq_takeTable 29 = .ok (.aload_n 1, 1) := by decide +kernel
theorem d_Sq_takeTable_30 : decode cc_Sq_takeTable 30 = .ok (.getfield 57, 3) := by decide +kernel
theorem d_Sq_takeTable_33 : decode cc_Sq_takeTable 33 = .ok (.aload_n 1, 1) := by decide +kernel
theorem d_Sq_takeTable_34 : decode cc_Sq_takeTable 34 = .ok (.getfield 57, 3) := by decide +kernel
theorem d_Sq_takeTable_37 : decode cc_Sq_takeTable 37 = .ok (.arraylength, 1) := by decide +kernel
theorem d_Sq_takeTable_38 : decode cc_Sq_takeTable 38 = .ok (.invokevirtual 60, 3) := by decide +kernel
theorem d_Sq_takeTable_41 : decode cc_Sq_takeTable 41 = .ok (.goto (33), 3) := by decide +kernel
theorem d_Sq_takeTable_44 : decode cc_Sq_takeTable 44 = .ok (.aload_n 0, 1) := by decide +kernel
theorem d_Sq_takeTable_45 : decode cc_Sq_takeTable 45 = .ok (.aload_n 1, 1) := by decide +kernel
theorem d_Sq_takeTable_46 : decode cc_Sq_takeTable 46 = .ok (.invokevirtual 64, 3) := by decide +kernel
theorem d_Sq_takeTable_49 : decode cc_Sq_takeTable 49 = .ok (.goto (25), 3) := by decide +kernel
theorem d_Sq_takeTable_52 : decode cc_Sq_takeTable 52 = .ok (.aload_n 0, 1) := by decide +kernel
theorem d_Sq_takeTable_53 : decode cc_Sq_takeTable 53 = .ok (.aload_n 1, 1) := by decide +kernel
theorem d_Sq_takeTable_54 : decode cc_Sq_takeTable 54 = .ok (.invokevirtual 68, 3) := by decide +kernel
theorem d_Sq_takeTable_57 : decode cc_Sq_takeTable 57 = .ok (.goto (17), 3) := by decide +kernel
theorem d_Sq_takeTable_60 : decode cc_Sq_takeTable 60 = .ok (.aload_n 0, 1) := by decide +kernel
theorem d_Sq_takeTable_61 : decode cc_Sq_takeTable 61 = .ok (.getfield 53, 3) := by decide +kernel
theorem d_Sq_takeTable_64 : decode cc_Sq_takeTable 64 = .ok (.ifCond .ne (10), 3) := by decide +kernel
theorem d_Sq_takeTable_67 : decode cc_Sq_takeTable 67 = .ok (.aload_n 0, 1) := by decide +kernel
theorem d_Sq_takeTable_68 : decode cc_Sq_takeTable 68 = .ok (.getfield 36, 3) := by decide +kernel
theorem d_Sq_takeTable_71 : decode cc_Sq_takeTable 71 = .ok (.invokevirtual 46, 3) := by decide +kernel
theorem d_Sq_takeTable_74 : decode cc_Sq_takeTable 74 = .ok (.return_, 1) := by decide +kernel
section
variable {p : Program} {l : Launch} {e : Env} {s : State} {m : MethodId} {args : Array Value} {below : List Frame} {meth : Method} {c : Code} {X : Xs} {L : La}
def b_Sq_takeTable_74 (L : La)   (F : Mem) : Option Mem :=
  some F
set_option maxHeartbeats 4000000 in
theorem t_Sq_takeTable_74 (hC : Cx X L p s m args meth c cc_Sq_takeTable 3 w_Sq_takeTable R_Sq none)  {out : Mem}   {F : Mem} {H : Heap} {locs : List Loc} {ls : Array Slot}  (hI : Iv X L s H locs F) (hl : lv_has ls 3 []) (h : b_Sq_takeTable_74 L   F = some out) : W p l e (headSpec w_Sq_takeTable r_Sq_takeTable).room s m args below meth c H locs 0 0 (MQ below (QV X L out) args s 0 0 (AA X L)) (F0 m 74 ls []) := by
  unfold b_Sq_takeTable_74 at h
  obtain ⟨S, hK, hT, hW, hr, hlk⟩ := id hC
  have hx := S.1
  have hb := S.2.1
  exact w_vret S hK hr hlk hI d_Sq_takeTable_74 h
def f_Sq_takeTable (L : La) (i0 : Nat) (i1 : Nat) (x2 : Int32) (F : Mem) : Option Mem :=
  if x2 = 0 then
    (f_ST_keepCounts L i1 (mRf L i1 0) (nI (mGl L (mRf L i1 0))) F).bind fun F3 =>
    b_Sq_takeTable_74 L   F3
  else
    if x2 = 1 then
      (f_Sq_takeOneCode L i0 i1 F).bind fun F6 =>
      b_Sq_takeTable_74 L   F6
    else
      if x2 = 2 then
        (f_Sq_takeCounts L i0 i1 F).bind fun F9 =>
        b_Sq_takeTable_74 L   F9
      else
        if (F i0 5) = 0 then
          (f_Wr_refuse L (mRf L i0 0) F).bind fun F13 =>
          b_Sq_takeTable_74 L   F13
        else
          b_Sq_takeTable_74 L   F
set_option maxHeartbeats 4000000 in
theorem c_Sq_takeTable (l : Launch) {X : Xs} {L : La} (hW : WT L) {out : Mem} {i0 : Nat} {i1 : Nat} {x2 : Int32} {F : Mem} (o0 : oO L 8 i0) (o1 : oO L 2 i1) (h : f_Sq_takeTable L i0 i1 x2 F = some out) : Met l y_Sq_takeTable w_Sq_takeTable r_Sq_takeTable (va_Pc [.ref (mAd X i0), .ref (mAd X i1), .int x2] (Pr X L F)) (QV X L out) 0 0 (AA X L) := by
  refine mk_met (by decide) rfl (Nat.le_of_ble_eq_true rfl) hW ?_
  intro p e s m args below meth c ls hC hI hl
  have hl : lv_has ls 3 [(0, .ref (mAd X i0)), (1, .ref (mAd X i1)), (2, .int x2)] := hl
  generalize hHe : s.heap = H at hI ⊢
  generalize ([] : List Loc) = locs at hI ⊢
  unfold f_Sq_takeTable at h
  obtain ⟨S, hK, hT, hW, hr, hlk⟩ := id hC
  have hx := S.1
  have hb := S.2.1
  refine lv_iload_n hx hb d_Sq_takeTable_0 rfl (lv_at hl 2 rfl) ?_
  by_cases e5 : x2 = 0
  · replace h := (if_pos e5).symm.trans h
    refine lv_tableIn (x := x2) (off := 27) (tgt := 28) hx hb d_Sq_takeTable_1 (by rw [e5]; decide) (by rw [e5]; decide) (by rw [e5]; rfl) rfl ?_
    refine lv_aload_n hx hb d_Sq_takeTable_28 rfl (lv_at hl 1 rfl) ?_
    refine lv_aload_n hx hb d_Sq_takeTable_29 rfl (lv_at hl 1 rfl) ?_
    have p1 := wt_a hW o1 0 rfl (by decide) (by decide)
    refine w_getR (T := T_ST) S hK hI o1 rfl hin_ST 0 (index := 57) (by decide) lf_Sq_57 d_Sq_takeTable_30 ?_
    refine lv_aload_n hx hb d_Sq_takeTable_33 rfl (lv_at hl 1 rfl) ?_
    have p2 := wt_a hW o1 0 rfl (by decide) (by decide)
    refine w_getR (T := T_ST) S hK hI o1 rfl hin_ST 0 (index := 57) (by decide) lf_Sq_57 d_Sq_takeTable_34 ?_
    refine w_alen S hK hI hT p2 d_Sq_takeTable_37 ?_
    obtain ⟨F3, e4, h⟩ := un_bi h
    refine w_callVv (As := [.ref (mAd X (mRf L i1 0)), .int (nI (mGl L (mRf L i1 0)))]) (rest := []) S hK hI hT (c_ST_keepCounts l hW o1 p1 e4) (cwV 2 S.2.2.2.2 (gd_V lc_ST_keepCounts lm_Sq_60 li_ST_keepCounts ls_ST_keepCounts ln_ST) rfl rfl rfl hd_ST_keepCounts ⟨Nat.le_of_ble_eq_true rfl, Nat.le_of_ble_eq_true rfl⟩) o1 rfl (by decide) rfl rfl hl.1 (Nat.le_of_ble_eq_true rfl) d_Sq_takeTable_38 ⟨Nat.zero_le _, Nat.zero_le _⟩ (fun H locs hI => ?_)
    refine lv_goto (tgt := 74) hx hb d_Sq_takeTable_41 rfl ?_
    exact t_Sq_takeTable_74 hC   hI (lv_sub hl [] rfl) h
  replace h := (if_neg e5).symm.trans h
  by_cases e8 : x2 = 1
  · replace h := (if_pos e8).symm.trans h
    refine lv_tableIn (x := x2) (off := 43) (tgt := 44) hx hb d_Sq_takeTable_1 (by rw [e8]; decide) (by rw [e8]; decide) (by rw [e8]; rfl) rfl ?_
    refine lv_aload_n hx hb d_Sq_takeTable_44 rfl (lv_at hl 0 rfl) ?_
    refine lv_aload_n hx hb d_Sq_takeTable_45 rfl (lv_at hl 1 rfl) ?_
    obtain ⟨F6, e7, h⟩ := un_bi h
    refine w_callVv (As := [.ref (mAd X i1)]) (rest := []) S hK hI hT (c_Sq_takeOneCode l hW o0 o1 e7) (cwV 1 S.2.2.2.2 (gd_V lc_Sq_takeOneCode lm_Sq_64 li_Sq_takeOneCode ls_Sq_takeOneCode ln_Sq) rfl rfl rfl hd_Sq_takeOneCode ⟨Nat.le_of_ble_eq_true rfl, Nat.le_of_ble_eq_true rfl⟩) o0 rfl (by decide) rfl rfl hl.1 (Nat.le_of_ble_eq_true rfl) d_Sq_takeTable_46 ⟨Nat.zero_le _, Nat.zero_le _⟩ (fun H locs hI => ?_)
    refine lv_goto (tgt := 74) hx hb d_Sq_takeTable_49 rfl ?_
    exact t_Sq_takeTable_74 hC   hI (lv_sub hl [] rfl) h
  replace h := (if_neg e8).symm.trans h
  by_cases e11 : x2 = 2
  · replace h := (if_pos e11).symm.trans h
    refine lv_tableIn (x := x2) (off := 51) (tgt := 52) hx hb d_Sq_takeTable_1 (by rw [e11]; decide) (by rw [e11]; decide) (by rw [e11]; rfl) rfl ?_
    refine lv_aload_n hx hb d_Sq_takeTable_52 rfl (lv_at hl 0 rfl) ?_
    refine lv_aload_n hx hb d_Sq_takeTable_53 rfl (lv_at hl 1 rfl) ?_
    obtain ⟨F9, e10, h⟩ := un_bi h
    refine w_callVv (As := [.ref (mAd X i1)]) (rest := []) S hK hI hT (c_Sq_takeCounts l hW o0 o1 e10) (cwV 1 S.2.2.2.2 (gd_V lc_Sq_takeCounts lm_Sq_68 li_Sq_takeCounts ls_Sq_takeCounts ln_Sq) rfl rfl rfl hd_Sq_takeCounts ⟨Nat.le_of_ble_eq_true rfl, Nat.le_of_ble_eq_true rfl⟩) o0 rfl (by decide) rfl rfl hl.1 (Nat.le_of_ble_eq_true rfl) d_Sq_takeTable_54 ⟨Nat.zero_le _, Nat.zero_le _⟩ (fun H locs hI => ?_)
    refine lv_goto (tgt := 74) hx hb d_Sq_takeTable_57 rfl ?_
    exact t_Sq_takeTable_74 hC   hI (lv_sub hl [] rfl) h
  replace h := (if_neg e11).symm.trans h
  refine lv_tableOut (x := x2) (tgt := 60) hx hb d_Sq_takeTable_1 (by have ne5 := lv_neT (a := 0) e5 (by decide); have ne8 := lv_neT (a := 1) e8 (by decide); have ne11 := lv_neT (a := 2) e11 (by decide); omega) rfl ?_
  refine lv_aload_n hx hb d_Sq_takeTable_60 rfl (lv_at hl 0 rfl) ?_
  refine w_getI (T := T_Sq) S hK hI o0 rfl hin_Sq 5 (index := 53) (by decide) lf_Sq_53 d_Sq_takeTable_61 ?_
  refine lv_if_ne (tgt := 74) hx hb d_Sq_takeTable_64 rfl (fun hc => ?_) (fun hc => ?_)
  · replace h := (if_neg hc).symm.trans h
    exact t_Sq_takeTable_74 hC   hI (lv_sub hl [] rfl) h
  · replace h := (if_pos hc).symm.trans h
    refine lv_aload_n hx hb d_Sq_takeTable_67 rfl (lv_at hl 0 rfl) ?_
    have p12 := wt_o hW o0 0 7 rfl (by decide) (by decide) (by decide)
    refine w_getR (T := T_Sq) S hK hI o0 rfl hin_Sq 0 (index := 36) (by decide) lf_Sq_36 d_Sq_takeTable_68 ?_
    obtain ⟨F13, e14, h⟩ := un_bi h
    refine w_callVv (As := []) (rest := []) S hK hI hT (c_Wr_refuse l hW p12 e14) (cwV 0 S.2.2.2.2 (gd_V lc_Wr_refuse lm_Sq_46 li_Wr_refuse ls_Wr_refuse ln_Wr) rfl rfl rfl hd_Wr_refuse ⟨Nat.le_of_ble_eq_true rfl, Nat.le_of_ble_eq_true rfl⟩) p12 rfl (by decide) rfl rfl hl.1 (Nat.le_of_ble_eq_true rfl) d_Sq_takeTable_71 ⟨Nat.zero_le _, Nat.zero_le _⟩ (fun H locs hI => ?_)
    exact t_Sq_takeTable_74 hC   hI (lv_sub hl [] rfl) h
end
theorem d_Sq_takeTables_0 : decode cc_Sq_takeTables 0 = .ok (.aload_n 0, 1) := by decide +kernel
theorem d_Sq_takeTables_1 : decode cc_Sq_takeTables 1 = .ok (.getfield 36, 3) := by decide +kernel
theorem d_Sq_takeTables_4 : decode cc_Sq_takeTables 4 = .ok (.invokevirtual 40, 3) := by decide +kernel
theorem d_Sq_takeTables_7 : decode cc_Sq_takeTables 7 = .ok (.istore_n 1, 1) := by decide +kernel
theorem d_Sq_takeTables_8 : decode cc_Sq_takeTables 8 = .ok (.iload_n 1, 1) := by decide +kernel
theorem d_Sq_takeTables_9 : decode cc_Sq_takeTables 9 = .ok (.iconst 3, 1) := by decide +kernel
theorem d_Sq_takeTables_10 : decode cc_Sq_takeTables 10 = .ok (.iand, 1) := by decide +kernel
theorem d_Sq_takeTables_11 : decode cc_Sq_takeTables 11 = .ok (.ifCond .eq (10), 3) := by decide +kernel
theorem d_Sq_takeTables_14 : decode cc_Sq_takeTables 14 = .ok (.aload_n 0, 1) := by decide +kernel
theorem d_Sq_takeTables_15 : decode cc_Sq_takeTables 15 = .ok (.getfield 36, 3) := by decide +kernel
theorem d_Sq_takeTables_18 : decode cc_Sq_takeTables 18 = .ok (.invokevirtual 46, 3) := by decide +kernel
theorem d_Sq_takeTables_21 : decode cc_Sq_takeTables 21 = .ok (.aload_n 0, 1) := by decide +kernel
theorem d_Sq_takeTables_22 : decode cc_Sq_takeTables 22 = .ok (.aload_n 0, 1) := by decide +kernel
theorem d_Sq_takeTables_23 : decode cc_Sq_takeTables 23 = .ok (.getfield 18, 3) := by decide +kernel
theorem d_Sq_takeTables_26 : decode cc_Sq_takeTables 26 = .ok (.iload_n 1, 1) := by decide +kernel
theorem d_Sq_takeTables_27 : decode cc_Sq_takeTables 27 = .ok (.bipush (6), 2) := by decide +kernel
theorem d_Sq_takeTables_29 : decode cc_Sq_takeTables 29 = .ok (.ishr, 1) := by decide +kernel
theorem d_Sq_takeTables_30 : decode cc_Sq_takeTables 30 = .ok (.invokevirtual 49, 3) := by decide +kernel
theorem d_Sq_takeTables_33 : decode cc_Sq_takeTables 33 = .ok (.aload_n 0, 1) := by decide +kernel
theorem d_Sq_takeTables_34 : decode cc_Sq_takeTables 34 = .ok (.aload_n 0, 1) := by decide +kernel
theorem d_Sq_takeTables_35 : decode cc_Sq_takeTables 35 = .ok (.getfield 27, 3) := by decide +kernel
theorem d_Sq_takeTables_38 : decode cc_Sq_takeTables 38 = .ok (.iload_n 1, 1) := by decide +kernel
theorem d_Sq_takeTables_39 : decode cc_Sq_takeTables 39 = .ok (.iconst 4, 1) := by decide +kernel
theorem d_Sq_takeTables_40 : decode cc_Sq_takeTables 40 = .ok (.ishr, 1) := by decide +kernel
theorem d_Sq_takeTables_41 : decode cc_Sq_takeTables 41 = .ok (.iconst 3, 1) := by decide +kernel
theorem d_Sq_takeTables_42 : decode cc_Sq_takeTables 42 = .ok (.iand, 1) := by decide +kernel
theorem d_Sq_takeTables_43 : decode cc_Sq_takeTables 43 = .ok (.invokevirtual 49, 3) := by decide +kernel
theorem d_Sq_takeTables_46 : decode cc_Sq_takeTables 46 = .ok (.aload_n 0, 1) := by decide +kernel
theorem d_Sq_takeTables_47 : decode cc_Sq_takeTables 47 = .ok (.aload_n 0, 1) := by decide +kernel
theorem d_Sq_takeTables_48 : decode cc_Sq_takeTables 48 = .ok (.getfield 30, 3) := by decide +kernel
theorem d_Sq_takeTables_51 : decode cc_Sq_takeTables 51 = .ok (.iload_n 1, 1) := by decide +kernel
theorem d_Sq_takeTables_52 : decode cc_Sq_takeTables 52 = .ok (.iconst 2, 1) := by decide +kernel
theorem d_Sq_takeTables_53 : decode cc_Sq_takeTables 53 = .ok (.ishr, 1) := by decide +kernel
theorem d_Sq_takeTables_54 : decode cc_Sq_takeTables 54 = .ok (.iconst 3, 1) := by decide +kernel
theorem d_Sq_takeTables_55 : decode cc_Sq_takeTables 55 = .ok (.iand, 1) := by decide +kernel
theorem d_Sq_takeTables_56 : decode cc_Sq_takeTables 56 = .ok (.invokevirtual 49, 3) := by decide +kernel
theorem d_Sq_takeTables_59 : decode cc_Sq_takeTables 59 = .ok (.aload_n 0, 1) := by decide +kernel
theorem d_Sq_takeTables_60 : decode cc_Sq_takeTables 60 = .ok (.iconst 1, 1) := by decide +kernel
theorem d_Sq_takeTables_61 : decode cc_Sq_takeTables 61 = .ok (.putfield 53, 3) := by decide +kernel
theorem d_Sq_takeTables_64 : decode cc_Sq_takeTables 64 = .ok (.return_, 1) := by decide +kernel
section
variable {p : Program} {l : Launch} {e : Env} {s : State} {m : MethodId} {args : Array Value} {below : List Frame} {meth : Method} {c : Code} {X : Xs} {L : La}
def b_Sq_takeTables_21 (L : La)  (i0 : Nat) (x1 : Int32) (F : Mem) : Option Mem :=
  (f_Sq_takeTable L i0 (mRf L i0 1) (jshr x1 (6 : Int32)) F).bind fun F2 =>
  (f_Sq_takeTable L i0 (mRf L i0 2) ((jshr x1 (4 : Int32)) &&& (3 : Int32)) F2).bind fun F5 =>
  (f_Sq_takeTable L i0 (mRf L i0 3) ((jshr x1 (2 : Int32)) &&& (3 : Int32)) F5).bind fun F8 =>
  if ¬ ((1 : Int32) = 0 ∨ (1 : Int32) = 1) then none else
  lt' (u2 F8 i0 5 (1 : Int32)) fun F10 =>
  some F10
set_option maxHeartbeats 4000000 in
theorem t_Sq_takeTables_21 (hC : Cx X L p s m args meth c cc_Sq_takeTables 2 w_Sq_takeTables R_Sq none)  {out : Mem}  {i0 : Nat} {x1 : Int32} {F : Mem} {H : Heap} {locs : List Loc} {ls : Array Slot} (o0 : oO L 8 i0) (hI : Iv X L s H locs F) (hl : lv_has ls 2 [(0, .ref (mAd X i0)), (1, .int x1)]) (h : b_Sq_takeTables_21 L  i0 x1 F = some out) : W p l e (headSpec w_Sq_takeTables r_Sq_takeTables).room s m args below meth c H locs 0 0 (MQ below (QV X L out) args s 0 0 (AA X L)) (F0 m 21 ls []) := by
  unfold b_Sq_takeTables_21 at h
  obtain ⟨S, hK, hT, hW, hr, hlk⟩ := id hC
  have hx := S.1
  have hb := S.2.1
  refine lv_aload_n hx hb d_Sq_takeTables_21 rfl (lv_at hl 0 rfl) ?_
  refine lv_aload_n hx hb d_Sq_takeTables_22 rfl (lv_at hl 0 rfl) ?_
  have p1 := wt_o hW o0 1 2 rfl (by decide) (by decide) (by decide)
  refine w_getR (T := T_Sq) S hK hI o0 rfl hin_Sq 1 (index := 18) (by decide) lf_Sq_18 d_Sq_takeTables_23 ?_
  refine lv_iload_n hx hb d_Sq_takeTables_26 rfl (lv_at hl 1 rfl) ?_
  refine lv_bipush (v := 6) hx hb d_Sq_takeTables_27 (by decide) ?_
  refine lv_ishr hx hb d_Sq_takeTables_29 ?_
  obtain ⟨F2, e3, h⟩ := un_bi h
  refine w_callVv (As := [.ref (mAd X (mRf L i0 1)), .int (jshr x1 (6 : Int32))]) (rest := []) S hK hI hT (c_Sq_takeTable l hW o0 p1 e3) (cwV 2 S.2.2.2.2 (gd_V lc_Sq_takeTable lm_Sq_49 li_Sq_takeTable ls_Sq_takeTable ln_Sq) rfl rfl rfl hd_Sq_takeTable ⟨Nat.le_of_ble_eq_true rfl, Nat.le_of_ble_eq_true rfl⟩) o0 rfl (by decide) rfl rfl hl.1 (Nat.le_of_ble_eq_true rfl) d_Sq_takeTables_30 ⟨Nat.zero_le _, Nat.zero_le _⟩ (fun H locs hI => ?_)
  refine lv_aload_n hx hb d_Sq_takeTables_33 rfl (lv_at hl 0 rfl) ?_
  refine lv_aload_n hx hb d_Sq_takeTables_34 rfl (lv_at hl 0 rfl) ?_
  have p4 := wt_o hW o0 2 2 rfl (by decide) (by decide) (by decide)
  refine w_getR (T := T_Sq) S hK hI o0 rfl hin_Sq 2 (index := 27) (by decide) lf_Sq_27 d_Sq_takeTables_35 ?_
  refine lv_iload_n hx hb d_Sq_takeTables_38 rfl (lv_at hl 1 rfl) ?_
  refine lv_iconst (v := 4) hx hb d_Sq_takeTables_39 rfl ?_
  refine lv_ishr hx hb d_Sq_takeTables_40 ?_
  refine lv_iconst (v := 3) hx hb d_Sq_takeTables_41 rfl ?_
  refine lv_iand hx hb d_Sq_takeTables_42 ?_
  obtain ⟨F5, e6, h⟩ := un_bi h
  refine w_callVv (As := [.ref (mAd X (mRf L i0 2)), .int ((jshr x1 (4 : Int32)) &&& (3 : Int32))]) (rest := []) S hK hI hT (c_Sq_takeTable l hW o0 p4 e6) (cwV 2 S.2.2.2.2 (gd_V lc_Sq_takeTable lm_Sq_49 li_Sq_takeTable ls_Sq_takeTable ln_Sq) rfl rfl rfl hd_Sq_takeTable ⟨Nat.le_of_ble_eq_true rfl, Nat.le_of_ble_eq_true rfl⟩) o0 rfl (by decide) rfl rfl hl.1 (Nat.le_of_ble_eq_true rfl) d_Sq_takeTables_43 ⟨Nat.zero_le _, Nat.zero_le _⟩ (fun H locs hI => ?_)
  refine lv_aload_n hx hb d_Sq_takeTables_46 rfl (lv_at hl 0 rfl) ?_
  refine lv_aload_n hx hb d_Sq_takeTables_47 rfl (lv_at hl 0 rfl) ?_
  have p7 := wt_o hW o0 3 2 rfl (by decide) (by decide) (by decide)
  refine w_getR (T := T_Sq) S hK hI o0 rfl hin_Sq 3 (index := 30) (by decide) lf_Sq_30 d_Sq_takeTables_48 ?_
  refine lv_iload_n hx hb d_Sq_takeTables_51 rfl (lv_at hl 1 rfl) ?_
  refine lv_iconst (v := 2) hx hb d_Sq_takeTables_52 rfl ?_
  refine lv_ishr hx hb d_Sq_takeTables_53 ?_
  refine lv_iconst (v := 3) hx hb d_Sq_takeTables_54 rfl ?_
  refine lv_iand hx hb d_Sq_takeTables_55 ?_
  obtain ⟨F8, e9, h⟩ := un_bi h
  refine w_callVv (As := [.ref (mAd X (mRf L i0 3)), .int ((jshr x1 (2 : Int32)) &&& (3 : Int32))]) (rest := []) S hK hI hT (c_Sq_takeTable l hW o0 p7 e9) (cwV 2 S.2.2.2.2 (gd_V lc_Sq_takeTable lm_Sq_49 li_Sq_takeTable ls_Sq_takeTable ln_Sq) rfl rfl rfl hd_Sq_takeTable ⟨Nat.le_of_ble_eq_true rfl, Nat.le_of_ble_eq_true rfl⟩) o0 rfl (by decide) rfl rfl hl.1 (Nat.le_of_ble_eq_true rfl) d_Sq_takeTables_56 ⟨Nat.zero_le _, Nat.zero_le _⟩ (fun H locs hI => ?_)
  refine lv_aload_n hx hb d_Sq_takeTables_59 rfl (lv_at hl 0 rfl) ?_
  refine lv_iconst (v := 1) hx hb d_Sq_takeTables_60 rfl ?_
  obtain ⟨z12, h⟩ := un_if h
  refine w_putZ (T := T_Sq) S hK hI o0 rfl hin_Sq ty_Sq tk_Sq nm_Sq 5 (index := 53) (by decide) lf_Sq_53 rfl z12 d_Sq_takeTables_61 (fun H locs F10 e11 hI => ?_)
  replace h := un_lt h _ e11
  exact w_vret S hK hr hlk hI d_Sq_takeTables_64 h
def f_Sq_takeTables (L : La) (i0 : Nat) (F : Mem) : Option Mem :=
  (f_Wr_takeByte L (mRf L i0 0) F).bind fun q2 =>
  if (q2.1 &&& (3 : Int32)) = 0 then
    b_Sq_takeTables_21 L  i0 q2.1 q2.2
  else
    (f_Wr_refuse L (mRf L i0 0) q2.2).bind fun F5 =>
    b_Sq_takeTables_21 L  i0 q2.1 F5
set_option maxHeartbeats 4000000 in
theorem c_Sq_takeTables (l : Launch) {X : Xs} {L : La} (hW : WT L) {out : Mem} {i0 : Nat} {F : Mem} (o0 : oO L 8 i0) (h : f_Sq_takeTables L i0 F = some out) : Met l y_Sq_takeTables w_Sq_takeTables r_Sq_takeTables (va_Pc [.ref (mAd X i0)] (Pr X L F)) (QV X L out) 0 0 (AA X L) := by
  refine mk_met (by decide) rfl (Nat.le_of_ble_eq_true rfl) hW ?_
  intro p e s m args below meth c ls hC hI hl
  have hl : lv_has ls 2 [(0, .ref (mAd X i0))] := hl
  generalize hHe : s.heap = H at hI ⊢
  generalize ([] : List Loc) = locs at hI ⊢
  unfold f_Sq_takeTables at h
  obtain ⟨S, hK, hT, hW, hr, hlk⟩ := id hC
  have hx := S.1
  have hb := S.2.1
  refine lv_aload_n hx hb d_Sq_takeTables_0 rfl (lv_at hl 0 rfl) ?_
  have p1 := wt_o hW o0 0 7 rfl (by decide) (by decide) (by decide)
  refine w_getR (T := T_Sq) S hK hI o0 rfl hin_Sq 0 (index := 36) (by decide) lf_Sq_36 d_Sq_takeTables_1 ?_
  obtain ⟨q2, e3, h⟩ := un_bi h
  refine w_callVi (As := []) (rest := []) S hK hI hT (c_Wr_takeByte l hW p1 e3) (cwV 0 S.2.2.2.2 (gd_V lc_Wr_takeByte lm_Sq_40 li_Wr_takeByte ls_Wr_takeByte ln_Wr) rfl rfl rfl hd_Wr_takeByte ⟨Nat.le_of_ble_eq_true rfl, Nat.le_of_ble_eq_true rfl⟩) p1 rfl (by decide) rfl rfl hl.1 (Nat.le_of_ble_eq_true rfl) d_Sq_takeTables_4 ⟨Nat.zero_le _, Nat.zero_le _⟩ (fun H locs hI => ?_)
  refine lv_istore_n (lv' := [(1, .int q2.1), (0, .ref (mAd X i0))]) hx hb d_Sq_takeTables_7 rfl hl (by decide) rfl (fun ls hl => ?_)
  refine lv_iload_n hx hb d_Sq_takeTables_8 rfl (lv_at hl 0 rfl) ?_
  refine lv_iconst (v := 3) hx hb d_Sq_takeTables_9 rfl ?_
  refine lv_iand hx hb d_Sq_takeTables_10 ?_
  refine lv_if_eq (tgt := 21) hx hb d_Sq_takeTables_11 rfl (fun hc => ?_) (fun hc => ?_)
  · replace h := (if_pos hc).symm.trans h
    exact t_Sq_takeTables_21 hC  o0 hI (lv_sub hl [1, 0] rfl) h
  · replace h := (if_neg hc).symm.trans h
    refine lv_aload_n hx hb d_Sq_takeTables_14 rfl (lv_at hl 1 rfl) ?_
    have p4 := wt_o hW o0 0 7 rfl (by decide) (by decide) (by decide)
    refine w_getR (T := T_Sq) S hK hI o0 rfl hin_Sq 0 (index := 36) (by decide) lf_Sq_36 d_Sq_takeTables_15 ?_
    obtain ⟨F5, e6, h⟩ := un_bi h
    refine w_callVv (As := []) (rest := []) S hK hI hT (c_Wr_refuse l hW p4 e6) (cwV 0 S.2.2.2.2 (gd_V lc_Wr_refuse lm_Sq_46 li_Wr_refuse ls_Wr_refuse ln_Wr) rfl rfl rfl hd_Wr_refuse ⟨Nat.le_of_ble_eq_true rfl, Nat.le_of_ble_eq_true rfl⟩) p4 rfl (by decide) rfl rfl hl.1 (Nat.le_of_ble_eq_true rfl) d_Sq_takeTables_18 ⟨Nat.zero_le _, Nat.zero_le _⟩ (fun H locs hI => ?_)
    exact t_Sq_takeTables_21 hC  o0 hI (lv_sub hl [1, 0] rfl) h
end
theorem d_Wr_takeBits_0 : decode cc_Wr_takeBits 0 = .ok (.aload_n 0, 1) := by decide +kernel
theorem d_Wr_takeBits_1 : decode cc_Wr_takeBits 1 = .ok (.iload_n 1, 1) := by decide +kernel
theorem d_Wr_takeBits_2 : decode cc_Wr_takeBits 2 = .ok (.invokevirtual 52, 3) := by decide +kernel
theorem d_Wr_takeBits_5 : decode cc_Wr_takeBits 5 = .ok (.istore_n 2, 1) := by decide +kernel
theorem d_Wr_takeBits_6 : decode cc_Wr_takeBits 6 = .ok (.aload_n 0, 1) := by decide +kernel
theorem d_Wr_takeBits_7 : decode cc_Wr_takeBits 7 = .ok (.iload_n 1, 1) := by decide +kernel
theorem d_Wr_takeBits_8 : decode cc_Wr_takeBits 8 = .ok (.invokevirtual 55, 3) := by decide +kernel
theorem d_Wr_takeBits_11 : decode cc_Wr_takeBits 11 = .ok (.iload_n 2, 1) := by decide +kernel
theorem d_Wr_takeBits_12 : decode cc_Wr_takeBits 12 = .ok (.ireturn, 1) := by decide +kernel
section
variable {p : Program} {l : Launch} {e : Env} {s : State} {m : MethodId} {args : Array Value} {below : List Frame} {meth : Method} {c : Code} {X : Xs} {L : La}
def f_Wr_takeBits (L : La) (i0 : Nat) (x1 : Int32) (F : Mem) : Option (Int32 × Mem) :=
  (f_Wr_nextBits L i0 x1 F).bind fun q1 =>
  (f_Wr_dropBits L i0 x1 q1.2).bind fun F3 =>
  some (q1.1, F3)
set_option maxHeartbeats 4000000 in
theorem c_Wr_takeBits (l : Launch) {X : Xs} {L : La} (hW : WT L) {out : (Int32 × Mem)} {i0 : Nat} {x1 : Int32} {F : Mem} (o0 : oO L 7 i0) (h : f_Wr_takeBits L i0 x1 F = some out) : Met l y_Wr_takeBits w_Wr_takeBits r_Wr_takeBits (va_Pc [.ref (mAd X i0), .int x1] (Pr X L F)) (QI X L out) 0 0 (AA X L) := by
  refine mk_met (by decide) rfl (Nat.le_of_ble_eq_true rfl) hW ?_
  intro p e s m args below meth c ls hC hI hl
  have hl : lv_has ls 3 [(0, .ref (mAd X i0)), (1, .int x1)] := hl
  generalize hHe : s.heap = H at hI ⊢
  generalize ([] : List Loc) = locs at hI ⊢
  unfold f_Wr_takeBits at h
  obtain ⟨S, hK, hT, hW, hr, hlk⟩ := id hC
  have hx := S.1
  have hb := S.2.1
  refine lv_aload_n hx hb d_Wr_takeBits_0 rfl (lv_at hl 0 rfl) ?_
  refine lv_iload_n hx hb d_Wr_takeBits_1 rfl (lv_at hl 1 rfl) ?_
  obtain ⟨q1, e2, h⟩ := un_bi h
  refine w_callVi (As := [.int x1]) (rest := []) S hK hI hT (c_Wr_nextBits l hW o0 e2) (cwV 1 S.2.2.2.2 (gd_V lc_Wr_nextBits lm_Wr_52 li_Wr_nextBits ls_Wr_nextBits ln_Wr) rfl rfl rfl hd_Wr_nextBits ⟨Nat.le_of_ble_eq_true rfl, Nat.le_of_ble_eq_true rfl⟩) o0 rfl (by decide) rfl rfl hl.1 (Nat.le_of_ble_eq_true rfl) d_Wr_takeBits_2 ⟨Nat.zero_le _, Nat.zero_le _⟩ (fun H locs hI => ?_)
  refine lv_istore_n (lv' := [(2, .int q1.1), (0, .ref (mAd X i0)), (1, .int x1)]) hx hb d_Wr_takeBits_5 rfl hl (by decide) rfl (fun ls hl => ?_)
  refine lv_aload_n hx hb d_Wr_takeBits_6 rfl (lv_at hl 1 rfl) ?_
  refine lv_iload_n hx hb d_Wr_takeBits_7 rfl (lv_at hl 2 rfl) ?_
  obtain ⟨F3, e4, h⟩ := un_bi h
  refine w_callVv (As := [.int x1]) (rest := []) S hK hI hT (c_Wr_dropBits l hW o0 e4) (cwV 1 S.2.2.2.2 (gd_V lc_Wr_dropBits lm_Wr_55 li_Wr_dropBits ls_Wr_dropBits ln_Wr) rfl rfl rfl hd_Wr_dropBits ⟨Nat.le_of_ble_eq_true rfl, Nat.le_of_ble_eq_true rfl⟩) o0 rfl (by decide) rfl rfl hl.1 (Nat.le_of_ble_eq_true rfl) d_Wr_takeBits_8 ⟨Nat.zero_le _, Nat.zero_le _⟩ (fun H locs hI => ?_)
  refine lv_iload_n hx hb d_Wr_takeBits_11 rfl (lv_at hl 0 rfl) ?_
  exact w_iret S hK hr hlk hI d_Wr_takeBits_12 h
end
theorem d_Sq_takeFirstStates_0 : decode cc_Sq_takeFirstStates 0 = .ok (.aload_n 0, 1) := by decide +kernel
theorem d_Sq_takeFirstStates_1 : decode cc_Sq_takeFirstStates 1 = .ok (.getfield 18, 3) := by decide +kernel
theorem d_Sq_takeFirstStates_4 : decode cc_Sq_takeFirstStates 4 = .ok (.aload_n 0, 1) := by decide +kernel
theorem d_Sq_takeFirstStates_5 : decode cc_Sq_takeFirstStates 5 = .ok (.getfield 36, 3) := by decide +kernel
theorem d_Sq_takeFirstStates_8 : decode cc_Sq_takeFirstStates 8 = .ok (.aload_n 0, 1) := by decide +kernel
theorem d_Sq_takeFirstStates_9 : decode cc_Sq_takeFirstStates 9 = .ok (.getfield 18, 3) := by decide +kernel
theorem d_Sq_takeFirstStates_12 : decode cc_Sq_takeFirstStates 12 = .ok (.getfield 78, 3) := by decide +kernel
theorem d_Sq_takeFirstStates_15 : decode cc_Sq_takeFirstStates 15 = .ok (.invokevirtual 82, 3) := by decide +kernel
theorem d_Sq_takeFirstStates_18 : decode cc_Sq_takeFirstStates 18 = .ok (.putfield 86, 3) := by decide +kernel
theorem d_Sq_takeFirstStates_21 : decode cc_Sq_takeFirstStates 21 = .ok (.aload_n 0, 1) := by decide +kernel
theorem d_Sq_takeFirstStates_22 : decode cc_Sq_takeFirstStates 22 = .ok (.getfield 27, 3) := by decide +kernel
theorem d_Sq_takeFirstStates_25 : decode cc_Sq_takeFirstStates 25 = .ok (.aload_n 0, 1) := by decide +kernel
theorem d_Sq_takeFirstStates_26 : decode cc_Sq_takeFirstStates 26 = .ok (.getfield 36, 3) := by decide +kernel
theorem d_Sq_takeFirstStates_29 : decode cc_Sq_takeFirstStates 29 = .ok (.aload_n 0, 1) := by decide +kernel
theorem d_Sq_takeFirstStates_30 : decode cc_Sq_takeFirstStates 30 = .ok (.getfield 27, 3) := by decide +kernel
theorem d_Sq_takeFirstStates_33 : decode cc_Sq_takeFirstStates 33 = .ok (.getfield 78, 3) := by decide +kernel
theorem d_Sq_takeFirstStates_36 : decode cc_Sq_takeFirstStates 36 = .ok (.invokevirtual 82, 3) := by decide +kernel
theorem d_Sq_takeFirstStates_39 : decode cc_Sq_takeFirstStates 39 = .ok (.putfield 86, 3) := by decide +kernel
theorem d_Sq_takeFirstStates_42 : decode cc_Sq_takeFirstStates 42 = .ok (.aload_n 0, 1) := by decide +kernel
theorem d_Sq_takeFirstStates_43 : decode cc_Sq_takeFirstStates 43 = .ok (.getfield 30, 3) := by decide +kernel
theorem d_Sq_takeFirstStates_46 : decode cc_Sq_takeFirstStates 46 = .ok (.aload_n 0, 1) := by decide +kernel
theorem d_Sq_takeFirstStates_47 : decode cc_Sq_takeFirstStates 47 = .ok (.getfield 36, 3) := by decide +kernel
theorem d_Sq_takeFirstStates_50 : decode cc_Sq_takeFirstStates 50 = .ok (.aload_n 0, 1) := by decide +kernel
theorem d_Sq_takeFirstStates_51 : decode cc_Sq_takeFirstStates 51 = .ok (.getfield 30, 3) := by decide +kernel
theorem d_Sq_takeFirstStates_54 : decode cc_Sq_takeFirstStates 54 = .ok (.getfield 78, 3) := by decide +kernel
theorem d_Sq_takeFirstStates_57 : decode cc_Sq_takeFirstStates 57 = .ok (.invokevirtual 82, 3) := by decide +kernel
theorem d_Sq_takeFirstStates_60 : decode cc_Sq_takeFirstStates 60 = .ok (.putfield 86, 3) := by decide +kernel
theorem d_Sq_takeFirstStates_63 : decode cc_Sq_takeFirstStates 63 = .ok (.return_, 1) := by decide +kernel
section
variable {p : Program} {l : Launch} {e : Env} {s : State} {m : MethodId} {args : Array Value} {below : List Frame} {meth : Method} {c : Code} {X : Xs} {L : La}
def f_Sq_takeFirstStates (L : La) (i0 : Nat) (F : Mem) : Option Mem :=
  (f_Wr_takeBits L (mRf L i0 0) (F (mRf L i0 1) 5) F).bind fun q4 =>
  lt' (u2 q4.2 (mRf L i0 1) 6 q4.1) fun F6 =>
  (f_Wr_takeBits L (mRf L i0 0) (F6 (mRf L i0 2) 5) F6).bind fun q11 =>
  lt' (u2 q11.2 (mRf L i0 2) 6 q11.1) fun F13 =>
  (f_Wr_takeBits L (mRf L i0 0) (F13 (mRf L i0 3) 5) F13).bind fun q18 =>
  lt' (u2 q18.2 (mRf L i0 3) 6 q18.1) fun F20 =>
  some F20
set_option maxHeartbeats 4000000 in
theorem c_Sq_takeFirstStates (l : Launch) {X : Xs} {L : La} (hW : WT L) {out : Mem} {i0 : Nat} {F : Mem} (o0 : oO L 8 i0) (h : f_Sq_takeFirstStates L i0 F = some out) : Met l y_Sq_takeFirstStates w_Sq_takeFirstStates r_Sq_takeFirstStates (va_Pc [.ref (mAd X i0)] (Pr X L F)) (QV X L out) 0 0 (AA X L) := by
  refine mk_met (by decide) rfl (Nat.le_of_ble_eq_true rfl) hW ?_
  intro p e s m args below meth c ls hC hI hl
  have hl : lv_has ls 1 [(0, .ref (mAd X i0))] := hl
  generalize hHe : s.heap = H at hI ⊢
  generalize ([] : List Loc) = locs at hI ⊢
  unfold f_Sq_takeFirstStates at h
  obtain ⟨S, hK, hT, hW, hr, hlk⟩ := id hC
  have hx := S.1
  have hb := S.2.1
  refine lv_aload_n hx hb d_Sq_takeFirstStates_0 rfl (lv_at hl 0 rfl) ?_
  have p1 := wt_o hW o0 1 2 rfl (by decide) (by decide) (by decide)
  refine w_getR (T := T_Sq) S hK hI o0 rfl hin_Sq 1 (index := 18) (by decide) lf_Sq_18 d_Sq_takeFirstStates_1 ?_
  refine lv_aload_n hx hb d_Sq_takeFirstStates_4 rfl (lv_at hl 0 rfl) ?_
  have p2 := wt_o hW o0 0 7 rfl (by decide) (by decide) (by decide)
  refine w_getR (T := T_Sq) S hK hI o0 rfl hin_Sq 0 (index := 36) (by decide) lf_Sq_36 d_Sq_takeFirstStates_5 ?_
  refine lv_aload_n hx hb d_Sq_takeFirstStates_8 rfl (lv_at hl 0 rfl) ?_
  have p3 := wt_o hW o0 1 2 rfl (by decide) (by decide) (by decide)
  refine w_getR (T := T_Sq) S hK hI o0 rfl hin_Sq 1 (index := 18) (by decide) lf_Sq_18 d_Sq_takeFirstStates_9 ?_
  refine w_getI (T := T_ST) S hK hI p3 rfl hin_ST 5 (index := 78) (by decide) lf_Sq_78 d_Sq_takeFirstStates_12 ?_
  obtain ⟨q4, e5, h⟩ := un_bi h
  refine w_callVi (As := [.int (F (mRf L i0 1) 5)]) (rest := [.ref (mAd X (mRf L i0 1))]) S hK hI hT (c_Wr_takeBits l hW p2 e5) (cwV 1 S.2.2.2.2 (gd_V lc_Wr_takeBits lm_Sq_82 li_Wr_takeBits ls_Wr_takeBits ln_Wr) rfl rfl rfl hd_Wr_takeBits ⟨Nat.le_of_ble_eq_true rfl, Nat.le_of_ble_eq_true rfl⟩) p2 rfl (by decide) rfl rfl hl.1 (Nat.le_of_ble_eq_true rfl) d_Sq_takeFirstStates_15 ⟨Nat.zero_le _, Nat.zero_le _⟩ (fun H locs hI => ?_)
  refine w_putI (T := T_ST) S hK hI p1 rfl hin_ST ty_ST tk_ST nm_ST 6 (index := 86) (by decide) lf_Sq_86 rfl d_Sq_takeFirstStates_18 (fun H locs F6 e7 hI => ?_)
  replace h := un_lt h _ e7
  refine lv_aload_n hx hb d_Sq_takeFirstStates_21 rfl (lv_at hl 0 rfl) ?_
  have p8 := wt_o hW o0 2 2 rfl (by decide) (by decide) (by decide)
  refine w_getR (T := T_Sq) S hK hI o0 rfl hin_Sq 2 (index := 27) (by decide) lf_Sq_27 d_Sq_takeFirstStates_22 ?_
  refine lv_aload_n hx hb d_Sq_takeFirstStates_25 rfl (lv_at hl 0 rfl) ?_
  have p9 := wt_o hW o0 0 7 rfl (by decide) (by decide) (by decide)
  refine w_getR (T := T_Sq) S hK hI o0 rfl hin_Sq 0 (index := 36) (by decide) lf_Sq_36 d_Sq_takeFirstStates_26 ?_
  refine lv_aload_n hx hb d_Sq_takeFirstStates_29 rfl (lv_at hl 0 rfl) ?_
  have p10 := wt_o hW o0 2 2 rfl (by decide) (by decide) (by decide)
  refine w_getR (T := T_Sq) S hK hI o0 rfl hin_Sq 2 (index := 27) (by decide) lf_Sq_27 d_Sq_takeFirstStates_30 ?_
  refine w_getI (T := T_ST) S hK hI p10 rfl hin_ST 5 (index := 78) (by decide) lf_Sq_78 d_Sq_takeFirstStates_33 ?_
  obtain ⟨q11, e12, h⟩ := un_bi h
  refine w_callVi (As := [.int (F6 (mRf L i0 2) 5)]) (rest := [.ref (mAd X (mRf L i0 2))]) S hK hI hT (c_Wr_takeBits l hW p9 e12) (cwV 1 S.2.2.2.2 (gd_V lc_Wr_takeBits lm_Sq_82 li_Wr_takeBits ls_Wr_takeBits ln_Wr) rfl rfl rfl hd_Wr_takeBits ⟨Nat.le_of_ble_eq_true rfl, Nat.le_of_ble_eq_true rfl⟩) p9 rfl (by decide) rfl rfl hl.1 (Nat.le_of_ble_eq_true rfl) d_Sq_takeFirstStates_36 ⟨Nat.zero_le _, Nat.zero_le _⟩ (fun H locs hI => ?_)
  refine w_putI (T := T_ST) S hK hI p8 rfl hin_ST ty_ST tk_ST nm_ST 6 (index := 86) (by decide) lf_Sq_86 rfl d_Sq_takeFirstStates_39 (fun H locs F13 e14 hI => ?_)
  replace h := un_lt h _ e14
  refine lv_aload_n hx hb d_Sq_takeFirstStates_42 rfl (lv_at hl 0 rfl) ?_
  have p15 := wt_o hW o0 3 2 rfl (by decide) (by decide) (by decide)
  refine w_getR (T := T_Sq) S hK hI o0 rfl hin_Sq 3 (index := 30) (by decide) lf_Sq_30 d_Sq_takeFirstStates_43 ?_
  refine lv_aload_n hx hb d_Sq_takeFirstStates_46 rfl (lv_at hl 0 rfl) ?_
  have p16 := wt_o hW o0 0 7 rfl (by decide) (by decide) (by decide)
  refine w_getR (T := T_Sq) S hK hI o0 rfl hin_Sq 0 (index := 36) (by decide) lf_Sq_36 d_Sq_takeFirstStates_47 ?_
  refine lv_aload_n hx hb d_Sq_takeFirstStates_50 rfl (lv_at hl 0 rfl) ?_
  have p17 := wt_o hW o0 3 2 rfl (by decide) (by decide) (by decide)
  refine w_getR (T := T_Sq) S hK hI o0 rfl hin_Sq 3 (index := 30) (by decide) lf_Sq_30 d_Sq_takeFirstStates_51 ?_
  refine w_getI (T := T_ST) S hK hI p17 rfl hin_ST 5 (index := 78) (by decide) lf_Sq_78 d_Sq_takeFirstStates_54 ?_
  obtain ⟨q18, e19, h⟩ := un_bi h
  refine w_callVi (As := [.int (F13 (mRf L i0 3) 5)]) (rest := [.ref (mAd X (mRf L i0 3))]) S hK hI hT (c_Wr_takeBits l hW p16 e19) (cwV 1 S.2.2.2.2 (gd_V lc_Wr_takeBits lm_Sq_82 li_Wr_takeBits ls_Wr_takeBits ln_Wr) rfl rfl rfl hd_Wr_takeBits ⟨Nat.le_of_ble_eq_true rfl, Nat.le_of_ble_eq_true rfl⟩) p16 rfl (by decide) rfl rfl hl.1 (Nat.le_of_ble_eq_true rfl) d_Sq_takeFirstStates_57 ⟨Nat.zero_le _, Nat.zero_le _⟩ (fun H locs hI => ?_)
  refine w_putI (T := T_ST) S hK hI p15 rfl hin_ST ty_ST tk_ST nm_ST 6 (index := 86) (by decide) lf_Sq_86 rfl d_Sq_takeFirstStates_60 (fun H locs F20 e21 hI => ?_)
  replace h := un_lt h _ e21
  exact w_vret S hK hr hlk hI d_Sq_takeFirstStates_63 h
end
theorem d_ST_width_0 : decode cc_ST_width 0 = .ok (.aload_n 0, 1) := by decide +kernel
theorem d_ST_width_1 : decode cc_ST_width 1 = .ok (.getfield 15, 3) := by decide +kernel
theorem d_ST_width_4 : decode cc_ST_width 4 = .ok (.aload_n 0, 1) := by decide +kernel
theorem d_ST_width_5 : decode cc_ST_width 5 = .ok (.getfield 35, 3) := by decide +kernel
theorem d_ST_width_8 : decode cc_ST_width 8 = .ok (.iaload, 1) := by decide +kernel
theorem d_ST_width_9 : decode cc_ST_width 9 = .ok (.ireturn, 1) := by decide +kernel
section
variable {p : Program} {l : Launch} {e : Env} {s : State} {m : MethodId} {args : Array Value} {below : List Frame} {meth : Method} {c : Code} {X : Xs} {L : La}
def f_ST_width (L : La) (i0 : Nat) (F : Mem) : Option (Int32 × Mem) :=
  if inb (F i0 6) (mGl L (mRf L i0 2)) then none else
  some (mGa L F (mRf L i0 2) (F i0 6).toNatClampNeg, F)
set_option maxHeartbeats 4000000 in
theorem c_ST_width (l : Launch) {X : Xs} {L : La} (hW : WT L) {out : (Int32 × Mem)} {i0 : Nat} {F : Mem} (o0 : oO L 2 i0) (h : f_ST_width L i0 F = some out) : Met l y_ST_width w_ST_width r_ST_width (va_Pc [.ref (mAd X i0)] (Pr X L F)) (QI X L out) 0 0 (AA X L) := by
  refine mk_met (by decide) rfl (Nat.le_of_ble_eq_true rfl) hW ?_
  intro p e s m args below meth c ls hC hI hl
  have hl : lv_has ls 1 [(0, .ref (mAd X i0))] := hl
  generalize hHe : s.heap = H at hI ⊢
  generalize ([] : List Loc) = locs at hI ⊢
  unfold f_ST_width at h
  obtain ⟨S, hK, hT, hW, hr, hlk⟩ := id hC
  have hx := S.1
  have hb := S.2.1
  refine lv_aload_n hx hb d_ST_width_0 rfl (lv_at hl 0 rfl) ?_
  have p1 := wt_a hW o0 2 rfl (by decide) (by decide)
  refine w_getR (T := T_ST) S hK hI o0 rfl hin_ST 2 (index := 15) (by decide) lf_ST_15 d_ST_width_1 ?_
  refine lv_aload_n hx hb d_ST_width_4 rfl (lv_at hl 0 rfl) ?_
  refine w_getI (T := T_ST) S hK hI o0 rfl hin_ST 6 (index := 35) (by decide) lf_ST_35 d_ST_width_5 ?_
  obtain ⟨z2, h⟩ := un_if h
  refine w_iald S hK hI hT p1 z2 d_ST_width_8 ?_
  exact w_iret S hK hr hlk hI d_ST_width_9 h
end
theorem d_ST_goOn_0 : decode cc_ST_goOn 0 = .ok (.aload_n 0, 1) := by decide +kernel
theorem d_ST_goOn_1 : decode cc_ST_goOn 1 = .ok (.aload_n 0, 1) := by decide +kernel
theorem d_ST_goOn_2 : decode cc_ST_goOn 2 = .ok (.getfield 18, 3) := by decide +kernel
theorem d_ST_goOn_5 : decode cc_ST_goOn 5 = .ok (.aload_n 0, 1) := by decide +kernel
theorem d_ST_goOn_6 : decode cc_ST_goOn 6 = .ok (.getfield 35, 3) := by decide +kernel
theorem d_ST_goOn_9 : decode cc_ST_goOn 9 = .ok (.iaload, 1) := by decide +kernel
theorem d_ST_goOn_10 : decode cc_ST_goOn 10 = .ok (.iload_n 1, 1) := by decide +kernel
theorem d_ST_goOn_11 : decode cc_ST_goOn 11 = .ok (.iadd, 1) := by decide +kernel
theorem d_ST_goOn_12 : decode cc_ST_goOn 12 = .ok (.bipush (15), 2) := by decide +kernel
theorem d_ST_goOn_14 : decode cc_ST_goOn 14 = .ok (.iand, 1) := by decide +kernel
theorem d_ST_goOn_15 : decode cc_ST_goOn 15 = .ok (.putfield 35, 3) := by decide +kernel
theorem d_ST_goOn_18 : decode cc_ST_goOn 18 = .ok (.return_, 1) := by decide +kernel
section
variable {p : Program} {l : Launch} {e : Env} {s : State} {m : MethodId} {args : Array Value} {below : List Frame} {meth : Method} {c : Code} {X : Xs} {L : La}
def f_ST_goOn (L : La) (i0 : Nat) (x1 : Int32) (F : Mem) : Option Mem :=
  if inb (F i0 6) (mGl L (mRf L i0 3)) then none else
  lt' (u2 F i0 6 (((mGa L F (mRf L i0 3) (F i0 6).toNatClampNeg) + x1) &&& (15 : Int32))) fun F3 =>
  some F3
set_option maxHeartbeats 4000000 in
theorem c_ST_goOn (l : Launch) {X : Xs} {L : La} (hW : WT L) {out : Mem} {i0 : Nat} {x1 : Int32} {F : Mem} (o0 : oO L 2 i0) (h : f_ST_goOn L i0 x1 F = some out) : Met l y_ST_goOn w_ST_goOn r_ST_goOn (va_Pc [.ref (mAd X i0), .int x1] (Pr X L F)) (QV X L out) 0 0 (AA X L) := by
  refine mk_met (by decide) rfl (Nat.le_of_ble_eq_true rfl) hW ?_
  intro p e s m args below meth c ls hC hI hl
  have hl : lv_has ls 2 [(0, .ref (mAd X i0)), (1, .int x1)] := hl
  generalize hHe : s.heap = H at hI ⊢
  generalize ([] : List Loc) = locs at hI ⊢
  unfold f_ST_goOn at h
  obtain ⟨S, hK, hT, hW, hr, hlk⟩ := id hC
  have hx := S.1
  have hb := S.2.1
  refine lv_aload_n hx hb d_ST_goOn_0 rfl (lv_at hl 0 rfl) ?_
  refine lv_aload_n hx hb d_ST_goOn_1 rfl (lv_at hl 0 rfl) ?_
  have p1 := wt_a hW o0 3 rfl (by decide) (by decide)
  refine w_getR (T := T_ST) S hK hI o0 rfl hin_ST 3 (index := 18) (by decide) lf_ST_18 d_ST_goOn_2 ?_
  refine lv_aload_n hx hb d_ST_goOn_5 rfl (lv_at hl 0 rfl) ?_
  refine w_getI (T := T_ST) S hK hI o0 rfl hin_ST 6 (index := 35) (by decide) lf_ST_35 d_ST_goOn_6 ?_
  obtain ⟨z2, h⟩ := un_if h
  refine w_iald S hK hI hT p1 z2 d_ST_goOn_9 ?_
  refine lv_iload_n hx hb d_ST_goOn_10 rfl (lv_at hl 1 rfl) ?_
  refine lv_iadd hx hb d_ST_goOn_11 ?_
  refine lv_bipush (v := 15) hx hb d_ST_goOn_12 (by decide) ?_
  refine lv_iand hx hb d_ST_goOn_14 ?_
  refine w_putI (T := T_ST) S hK hI o0 rfl hin_ST ty_ST tk_ST nm_ST 6 (index := 35) (by decide) lf_ST_35 rfl d_ST_goOn_15 (fun H locs F3 e4 hI => ?_)
  replace h := un_lt h _ e4
  exact w_vret S hK hr hlk hI d_ST_goOn_18 h
end
theorem d_Sq_takeNextStates_0 : decode cc_Sq_takeNextStates 0 = .ok (.aload_n 0, 1) := by decide +kernel
theorem d_Sq_takeNextStates_1 : decode cc_Sq_takeNextStates 1 = .ok (.getfield 18, 3) := by decide +kernel
theorem d_Sq_takeNextStates_4 : decode cc_Sq_takeNextStates 4 = .ok (.aload_n 0, 1) := by decide +kernel
theorem d_Sq_takeNextStates_5 : decode cc_Sq_takeNextStates 5 = .ok (.getfield 36, 3) := by decide +kernel
theorem d_Sq_takeNextStates_8 : decode cc_Sq_takeNextStates 8 = .ok (.aload_n 0, 1) := by decide +kernel
theorem d_Sq_takeNextStates_9 : decode cc_Sq_takeNextStates 9 = .ok (.getfield 18, 3) := by decide +kernel
theorem d_Sq_takeNextStates_12 : decode cc_Sq_takeNextStates 12 = .ok (.invokevirtual 89, 3) := by decide +kernel
theorem d_Sq_takeNextStates_15 : decode cc_Sq_takeNextStates 15 = .ok (.invokevirtual 82, 3) := by decide +kernel
theorem d_Sq_takeNextStates_18 : decode cc_Sq_takeNextStates 18 = .ok (.invokevirtual 92, 3) := by decide +kernel
theorem d_Sq_takeNextStates_21 : decode cc_Sq_takeNextStates 21 = .ok (.aload_n 0, 1) := by decide +kernel
theorem d_Sq_takeNextStates_22 : decode cc_Sq_takeNextStates 22 = .ok (.getfield 30, 3) := by decide +kernel
theorem d_Sq_takeNextStates_25 : decode cc_Sq_takeNextStates 25 = .ok (.aload_n 0, 1) := by decide +kernel
theorem d_Sq_takeNextStates_26 : decode cc_Sq_takeNextStates 26 = .ok (.getfield 36, 3) := by decide +kernel
theorem d_Sq_takeNextStates_29 : decode cc_Sq_takeNextStates 29 = .ok (.aload_n 0, 1) := by decide +kernel
theorem d_Sq_takeNextStates_30 : decode cc_Sq_takeNextStates 30 = .ok (.getfield 30, 3) := by decide +kernel
theorem d_Sq_takeNextStates_33 : decode cc_Sq_takeNextStates 33 = .ok (.invokevirtual 89, 3) := by decide +kernel
theorem d_Sq_takeNextStates_36 : decode cc_Sq_takeNextStates 36 = .ok (.invokevirtual 82, 3) := by decide +kernel
theorem d_Sq_takeNextStates_39 : decode cc_Sq_takeNextStates 39 = .ok (.invokevirtual 92, 3) := by decide +kernel
theorem d_Sq_takeNextStates_42 : decode cc_Sq_takeNextStates 42 = .ok (.aload_n 0, 1) := by decide +kernel
theorem d_Sq_takeNextStates_43 : decode cc_Sq_takeNextStates 43 = .ok (.getfield 27, 3) := by decide +kernel
theorem d_Sq_takeNextStates_46 : decode cc_Sq_takeNextStates 46 = .ok (.aload_n 0, 1) := by decide +kernel
theorem d_Sq_takeNextStates_47 : decode cc_Sq_takeNextStates 47 = .ok (.getfield 36, 3) := by decide +kernel
theorem d_Sq_takeNextStates_50 : decode cc_Sq_takeNextStates 50 = .ok (.aload_n 0, 1) := by decide +kernel
theorem d_Sq_takeNextStates_51 : decode cc_Sq_takeNextStates 51 = .ok (.getfield 27, 3) := by decide +kernel
theorem d_Sq_takeNextStates_54 : decode cc_Sq_takeNextStates 54 = .ok (.invokevirtual 89, 3) := by decide +kernel
theorem d_Sq_takeNextStates_57 : decode cc_Sq_takeNextStates 57 = .ok (.invokevirtual 82, 3) := by decide +kernel
theorem d_Sq_takeNextStates_60 : decode cc_Sq_takeNextStates 60 = .ok (.invokevirtual 92, 3) := by decide +kernel
theorem d_Sq_takeNextStates_63 : decode cc_Sq_takeNextStates 63 = .ok (.return_, 1) := by decide +kernel
section
variable {p : Program} {l : Launch} {e : Env} {s : State} {m : MethodId} {args : Array Value} {below : List Frame} {meth : Method} {c : Code} {X : Xs} {L : La}
def f_Sq_takeNextStates (L : La) (i0 : Nat) (F : Mem) : Option Mem :=
  (f_ST_width L (mRf L i0 1) F).bind fun q4 =>
  (f_Wr_takeBits L (mRf L i0 0) q4.1 q4.2).bind fun q6 =>
  (f_ST_goOn L (mRf L i0 1) q6.1 q6.2).bind fun F8 =>
  (f_ST_width L (mRf L i0 3) F8).bind fun q13 =>
  (f_Wr_takeBits L (mRf L i0 0) q13.1 q13.2).bind fun q15 =>
  (f_ST_goOn L (mRf L i0 3) q15.1 q15.2).bind fun F17 =>
  (f_ST_width L (mRf L i0 2) F17).bind fun q22 =>
  (f_Wr_takeBits L (mRf L i0 0) q22.1 q22.2).bind fun q24 =>
  (f_ST_goOn L (mRf L i0 2) q24.1 q24.2).bind fun F26 =>
  some F26
set_option maxHeartbeats 4000000 in
theorem c_Sq_takeNextStates (l : Launch) {X : Xs} {L : La} (hW : WT L) {out : Mem} {i0 : Nat} {F : Mem} (o0 : oO L 8 i0) (h : f_Sq_takeNextStates L i0 F = some out) : Met l y_Sq_takeNextStates w_Sq_takeNextStates r_Sq_takeNextStates (va_Pc [.ref (mAd X i0)] (Pr X L F)) (QV X L out) 0 0 (AA X L) := by
  refine mk_met (by decide) rfl (Nat.le_of_ble_eq_true rfl) hW ?_
  intro p e s m args below meth c ls hC hI hl
  have hl : lv_has ls 1 [(0, .ref (mAd X i0))] := hl
  generalize hHe : s.heap = H at hI ⊢
  generalize ([] : List Loc) = locs at hI ⊢
  unfold f_Sq_takeNextStates at h
  obtain ⟨S, hK, hT, hW, hr, hlk⟩ := id hC
  have hx := S.1
  have hb := S.2.1
  refine lv_aload_n hx hb d_Sq_takeNextStates_0 rfl (lv_at hl 0 rfl) ?_
  have p1 := wt_o hW o0 1 2 rfl (by decide) (by decide) (by decide)
  refine w_getR (T := T_Sq) S hK hI o0 rfl hin_Sq 1 (index := 18) (by decide) lf_Sq_18 d_Sq_takeNextStates_1 ?_
  refine lv_aload_n hx hb d_Sq_takeNextStates_4 rfl (lv_at hl 0 rfl) ?_
  have p2 := wt_o hW o0 0 7 rfl (by decide) (by decide) (by decide)
  refine w_getR (T := T_Sq) S hK hI o0 rfl hin_Sq 0 (index := 36) (by decide) lf_Sq_36 d_Sq_takeNextStates_5 ?_
  refine lv_aload_n hx hb d_Sq_takeNextStates_8 rfl (lv_at hl 0 rfl) ?_
  have p3 := wt_o hW o0 1 2 rfl (by decide) (by decide) (by decide)
  refine w_getR (T := T_Sq) S hK hI o0 rfl hin_Sq 1 (index := 18) (by decide) lf_Sq_18 d_Sq_takeNextStates_9 ?_
  obtain ⟨q4, e5, h⟩ := un_bi h
  refine w_callVi (As := []) (rest := [.ref (mAd X (mRf L i0 0)), .ref (mAd X (mRf L i0 1))]) S hK hI hT (c_ST_width l hW p3 e5) (cwV 0 S.2.2.2.2 (gd_V lc_ST_width lm_Sq_89 li_ST_width ls_ST_width ln_ST) rfl rfl rfl hd_ST_width ⟨Nat.le_of_ble_eq_true rfl, Nat.le_of_ble_eq_true rfl⟩) p3 rfl (by decide) rfl rfl hl.1 (Nat.le_of_ble_eq_true rfl) d_Sq_takeNextStates_12 ⟨Nat.zero_le _, Nat.zero_le _⟩ (fun H locs hI => ?_)
  obtain ⟨q6, e7, h⟩ := un_bi h
  refine w_callVi (As := [.int q4.1]) (rest := [.ref (mAd X (mRf L i0 1))]) S hK hI hT (c_Wr_takeBits l hW p2 e7) (cwV 1 S.2.2.2.2 (gd_V lc_Wr_takeBits lm_Sq_82 li_Wr_takeBits ls_Wr_takeBits ln_Wr) rfl rfl rfl hd_Wr_takeBits ⟨Nat.le_of_ble_eq_true rfl, Nat.le_of_ble_eq_true rfl⟩) p2 rfl (by decide) rfl rfl hl.1 (Nat.le_of_ble_eq_true rfl) d_Sq_takeNextStates_15 ⟨Nat.zero_le _, Nat.zero_le _⟩ (fun H locs hI => ?_)
  obtain ⟨F8, e9, h⟩ := un_bi h
  refine w_callVv (As := [.int q6.1]) (rest := []) S hK hI hT (c_ST_goOn l hW p1 e9) (cwV 1 S.2.2.2.2 (gd_V lc_ST_goOn lm_Sq_92 li_ST_goOn ls_ST_goOn ln_ST) rfl rfl rfl hd_ST_goOn ⟨Nat.le_of_ble_eq_true rfl, Nat.le_of_ble_eq_true rfl⟩) p1 rfl (by decide) rfl rfl hl.1 (Nat.le_of_ble_eq_true rfl) d_Sq_takeNextStates_18 ⟨Nat.zero_le _, Nat.zero_le _⟩ (fun H locs hI => ?_)
  refine lv_aload_n hx hb d_Sq_takeNextStates_21 rfl (lv_at hl 0 rfl) ?_
  have p10 := wt_o hW o0 3 2 rfl (by decide) (by decide) (by decide)
  refine w_getR (T := T_Sq) S hK hI o0 rfl hin_Sq 3 (index := 30) (by decide) lf_Sq_30 d_Sq_takeNextStates_22 ?_
  refine lv_aload_n hx hb d_Sq_takeNextStates_25 rfl (lv_at hl 0 rfl) ?_
  have p11 := wt_o hW o0 0 7 rfl (by decide) (by decide) (by decide)
  refine w_getR (T := T_Sq) S hK hI o0 rfl hin_Sq 0 (index := 36) (by decide) lf_Sq_36 d_Sq_takeNextStates_26 ?_
  refine lv_aload_n hx hb d_Sq_takeNextStates_29 rfl (lv_at hl 0 rfl) ?_
  have p12 := wt_o hW o0 3 2 rfl (by decide) (by decide) (by decide)
  refine w_getR (T := T_Sq) S hK hI o0 rfl hin_Sq 3 (index := 30) (by decide) lf_Sq_30 d_Sq_takeNextStates_30 ?_
  obtain ⟨q13, e14, h⟩ := un_bi h
  refine w_callVi (As := []) (rest := [.ref (mAd X (mRf L i0 0)), .ref (mAd X (mRf L i0 3))]) S hK hI hT (c_ST_width l hW p12 e14) (cwV 0 S.2.2.2.2 (gd_V lc_ST_width lm_Sq_89 li_ST_width ls_ST_width ln_ST) rfl rfl rfl hd_ST_width ⟨Nat.le_of_ble_eq_true rfl, Nat.le_of_ble_eq_true rfl⟩) p12 rfl (by decide) rfl rfl hl.1 (Nat.le_of_ble_eq_true rfl) d_Sq_takeNextStates_33 ⟨Nat.zero_le _, Nat.zero_le _⟩ (fun H locs hI => ?_)
  obtain ⟨q15, e16, h⟩ := un_bi h
  refine w_callVi (As := [.int q13.1]) (rest := [.ref (mAd X (mRf L i0 3))]) S hK hI hT (c_Wr_takeBits l hW p11 e16) (cwV 1 S.2.2.2.2 (gd_V lc_Wr_takeBits lm_Sq_82 li_Wr_takeBits ls_Wr_takeBits ln_Wr) rfl rfl rfl hd_Wr_takeBits ⟨Nat.le_of_ble_eq_true rfl, Nat.le_of_ble_eq_true rfl⟩) p11 rfl (by decide) rfl rfl hl.1 (Nat.le_of_ble_eq_true rfl) d_Sq_takeNextStates_36 ⟨Nat.zero_le _, Nat.zero_le _⟩ (fun H locs hI => ?_)
  obtain ⟨F17, e18, h⟩ := un_bi h
  refine w_callVv (As := [.int q15.1]) (rest := []) S hK hI hT (c_ST_goOn l hW p10 e18) (cwV 1 S.2.2.2.2 (gd_V lc_ST_goOn lm_Sq_92 li_ST_goOn ls_ST_goOn ln_ST) rfl rfl rfl hd_ST_goOn ⟨Nat.le_of_ble_eq_true rfl, Nat.le_of_ble_eq_true rfl⟩) p10 rfl (by decide) rfl rfl hl.1 (Nat.le_of_ble_eq_true rfl) d_Sq_takeNextStates_39 ⟨Nat.zero_le _, Nat.zero_le _⟩ (fun H locs hI => ?_)
  refine lv_aload_n hx hb d_Sq_takeNextStates_42 rfl (lv_at hl 0 rfl) ?_
  have p19 := wt_o hW o0 2 2 rfl (by decide) (by decide) (by decide)
  refine w_getR (T := T_Sq) S hK hI o0 rfl hin_Sq 2 (index := 27) (by decide) lf_Sq_27 d_Sq_takeNextStates_43 ?_
  refine lv_aload_n hx hb d_Sq_takeNextStates_46 rfl (lv_at hl 0 rfl) ?_
  have p20 := wt_o hW o0 0 7 rfl (by decide) (by decide) (by decide)
  refine w_getR (T := T_Sq) S hK hI o0 rfl hin_Sq 0 (index := 36) (by decide) lf_Sq_36 d_Sq_takeNextStates_47 ?_
  refine lv_aload_n hx hb d_Sq_takeNextStates_50 rfl (lv_at hl 0 rfl) ?_
  have p21 := wt_o hW o0 2 2 rfl (by decide) (by decide) (by decide)
  refine w_getR (T := T_Sq) S hK hI o0 rfl hin_Sq 2 (index := 27) (by decide) lf_Sq_27 d_Sq_takeNextStates_51 ?_
  obtain ⟨q22, e23, h⟩ := un_bi h
  refine w_callVi (As := []) (rest := [.ref (mAd X (mRf L i0 0)), .ref (mAd X (mRf L i0 2))]) S hK hI hT (c_ST_width l hW p21 e23) (cwV 0 S.2.2.2.2 (gd_V lc_ST_width lm_Sq_89 li_ST_width ls_ST_width ln_ST) rfl rfl rfl hd_ST_width ⟨Nat.le_of_ble_eq_true rfl, Nat.le_of_ble_eq_true rfl⟩) p21 rfl (by decide) rfl rfl hl.1 (Nat.le_of_ble_eq_true rfl) d_Sq_takeNextStates_54 ⟨Nat.zero_le _, Nat.zero_le _⟩ (fun H locs hI => ?_)
  obtain ⟨q24, e25, h⟩ := un_bi h
  refine w_callVi (As := [.int q22.1]) (rest := [.ref (mAd X (mRf L i0 2))]) S hK hI hT (c_Wr_takeBits l hW p20 e25) (cwV 1 S.2.2.2.2 (gd_V lc_Wr_takeBits lm_Sq_82 li_Wr_takeBits ls_Wr_takeBits ln_Wr) rfl rfl rfl hd_Wr_takeBits ⟨Nat.le_of_ble_eq_true rfl, Nat.le_of_ble_eq_true rfl⟩) p20 rfl (by decide) rfl rfl hl.1 (Nat.le_of_ble_eq_true rfl) d_Sq_takeNextStates_57 ⟨Nat.zero_le _, Nat.zero_le _⟩ (fun H locs hI => ?_)
  obtain ⟨F26, e27, h⟩ := un_bi h
  refine w_callVv (As := [.int q24.1]) (rest := []) S hK hI hT (c_ST_goOn l hW p19 e27) (cwV 1 S.2.2.2.2 (gd_V lc_ST_goOn lm_Sq_92 li_ST_goOn ls_ST_goOn ln_ST) rfl rfl rfl hd_ST_goOn ⟨Nat.le_of_ble_eq_true rfl, Nat.le_of_ble_eq_true rfl⟩) p19 rfl (by decide) rfl rfl hl.1 (Nat.le_of_ble_eq_true rfl) d_Sq_takeNextStates_60 ⟨Nat.zero_le _, Nat.zero_le _⟩ (fun H locs hI => ?_)
  exact w_vret S hK hr hlk hI d_Sq_takeNextStates_63 h
end
theorem d_ST_code_0 : decode cc_ST_code 0 = .ok (.aload_n 0, 1) := by decide +kernel
theorem d_ST_code_1 : decode cc_ST_code 1 = .ok (.getfield 9, 3) := by decide +kernel
theorem d_ST_code_4 : decode cc_ST_code 4 = .ok (.aload_n 0, 1) := by decide +kernel
theorem d_ST_code_5 : decode cc_ST_code 5 = .ok (.getfield 35, 3) := by decide +kernel
theorem d_ST_code_8 : decode cc_ST_code 8 = .ok (.iaload, 1) := by decide +kernel
theorem d_ST_code_9 : decode cc_ST_code 9 = .ok (.ireturn, 1) := by decide +kernel
section
variable {p : Program} {l : Launch} {e : Env} {s : State} {m : MethodId} {args : Array Value} {below : List Frame} {meth : Method} {c : Code} {X : Xs} {L : La}
def f_ST_code (L : La) (i0 : Nat) (F : Mem) : Option (Int32 × Mem) :=
  if inb (F i0 6) (mGl L (mRf L i0 1)) then none else
  some (mGa L F (mRf L i0 1) (F i0 6).toNatClampNeg, F)
set_option maxHeartbeats 4000000 in
theorem c_ST_code (l : Launch) {X : Xs} {L : La} (hW : WT L) {out : (Int32 × Mem)} {i0 : Nat} {F : Mem} (o0 : oO L 2 i0) (h : f_ST_code L i0 F = some out) : Met l y_ST_code w_ST_code r_ST_code (va_Pc [.ref (mAd X i0)] (Pr X L F)) (QI X L out) 0 0 (AA X L) := by
  refine mk_met (by decide) rfl (Nat.le_of_ble_eq_true rfl) hW ?_
  intro p e s m args below meth c ls hC hI hl
  have hl : lv_has ls 1 [(0, .ref (mAd X i0))] := hl
  generalize hHe : s.heap = H at hI ⊢
  generalize ([] : List Loc) = locs at hI ⊢
  unfold f_ST_code at h
  obtain ⟨S, hK, hT, hW, hr, hlk⟩ := id hC
  have hx := S.1
  have hb := S.2.1
  refine lv_aload_n hx hb d_ST_code_0 rfl (lv_at hl 0 rfl) ?_
  have p1 := wt_a hW o0 1 rfl (by decide) (by decide)
  refine w_getR (T := T_ST) S hK hI o0 rfl hin_ST 1 (index := 9) (by decide) lf_ST_9 d_ST_code_1 ?_
  refine lv_aload_n hx hb d_ST_code_4 rfl (lv_at hl 0 rfl) ?_
  refine w_getI (T := T_ST) S hK hI o0 rfl hin_ST 6 (index := 35) (by decide) lf_ST_35 d_ST_code_5 ?_
  obtain ⟨z2, h⟩ := un_if h
  refine w_iald S hK hI hT p1 z2 d_ST_code_8 ?_
  exact w_iret S hK hr hlk hI d_ST_code_9 h
end
theorem d_Sq_takeSequence_0 : decode cc_Sq_takeSequence 0 = .ok (.aload_n 0, 1) := by decide +kernel
theorem d_Sq_takeSequence_1 : decode cc_Sq_takeSequence 1 = .ok (.getfield 27, 3) := by decide +kernel
theorem d_Sq_takeSequence_4 : decode cc_Sq_takeSequence 4 = .ok (.invokevirtual 95, 3) := by decide +kernel
theorem d_Sq_takeSequence_7 : decode cc_Sq_takeSequence 7 = .ok (.istore_n 1, 1) := by decide +kernel
theorem d_Sq_takeSequence_8 : decode cc_Sq_takeSequence 8 = .ok (.aload_n 0, 1) := by decide +kernel
theorem d_Sq_takeSequence_9 : decode cc_Sq_takeSequence 9 = .ok (.iconst 1, 1) := by decide +kernel
theorem d_Sq_takeSequence_10 : decode cc_Sq_takeSequence 10 = .ok (.iload_n 1, 1) := by decide +kernel
theorem d_Sq_takeSequence_11 : decode cc_Sq_takeSequence 11 = .ok (.ishl, 1) := by decide +kernel
theorem d_Sq_takeSequence_12 : decode cc_Sq_takeSequence 12 = .ok (.aload_n 0, 1) := by decide +kernel
theorem d_Sq_takeSequence_13 : decode cc_Sq_takeSequence 13 = .ok (.getfield 36, 3) := by decide +kernel
theorem d_Sq_takeSequence_16 : decode cc_Sq_takeSequence 16 = .ok (.iload_n 1, 1) := by decide +kernel
theorem d_Sq_takeSequence_17 : decode cc_Sq_takeSequence 17 = .ok (.invokevirtual 82, 3) := by decide +kernel
theorem d_Sq_takeSequence_20 : decode cc_Sq_takeSequence 20 = .ok (.iadd, 1) := by decide +kernel
theorem d_Sq_takeSequence_21 : decode cc_Sq_takeSequence 21 = .ok (.putfield 98, 3) := by decide +kernel
theorem d_Sq_takeSequence_24 : decode cc_Sq_takeSequence 24 = .ok (.aload_n 0, 1) := by decide +kernel
theorem d_Sq_takeSequence_25 : decode cc_Sq_takeSequence 25 = .ok (.getfield 30, 3) := by decide +kernel
theorem d_Sq_takeSequence_28 : decode cc_Sq_takeSequence 28 = .ok (.invokevirtual 95, 3) := by decide +kernel
theorem d_Sq_takeSequence_31 : decode cc_Sq_takeSequence 31 = .ok (.istore_n 2, 1) := by decide +kernel
theorem d_Sq_takeSequence_32 : decode cc_Sq_takeSequence 32 = .ok (.aload_n 0, 1) := by decide +kernel
theorem d_Sq_takeSequence_33 : decode cc_Sq_takeSequence 33 = .ok (.getstatic 101, 3) := by decide +kernel
theorem d_Sq_takeSequence_36 : decode cc_Sq_takeSequence 36 = .ok (.iload_n 2, 1) := by decide +kernel
theorem d_Sq_takeSequence_37 : decode cc_Sq_takeSequence 37 = .ok (.iaload, 1) := by decide +kernel
theorem d_Sq_takeSequence_38 : decode cc_Sq_takeSequence 38 = .ok (.aload_n 0, 1) := by decide +kernel
theorem d_Sq_takeSequence_39 : decode cc_Sq_takeSequence 39 = .ok (.getfield 36, 3) := by decide +kernel
theorem d_Sq_takeSequence_42 : decode cc_Sq_takeSequence 42 = .ok (.getstatic 104, 3) := by decide +kernel
theorem d_Sq_takeSequence_45 : decode cc_Sq_takeSequence 45 = .ok (.iload_n 2, 1) := by decide +kernel
theorem d_Sq_takeSequence_46 : decode cc_Sq_takeSequence 46 = .ok (.iaload, 1) := by decide +kernel
theorem d_Sq_takeSequence_47 : decode cc_Sq_takeSequence 47 = .ok (.invokevirtual 82, 3) := by decide +kernel
theorem d_Sq_takeSequence_50 : decode cc_Sq_takeSequence 50 = .ok (.iadd, 1) := by decide +kernel
theorem d_Sq_takeSequence_51 : decode cc_Sq_takeSequence 51 = .ok (.putfield 107, 3) := by decide +kernel
theorem d_Sq_takeSequence_54 : decode cc_Sq_takeSequence 54 = .ok (.aload_n 0, 1) := by decide +kernel
theorem d_Sq_takeSequence_55 : decode cc_Sq_takeSequence 55 = .ok (.getfield 18, 3) := by decide +kernel
theorem d_Sq_takeSequence_58 : decode cc_Sq_takeSequence 58 = .ok (.invokevirtual 95, 3) := by decide +kernel
theorem d_Sq_takeSequence_61 : decode cc_Sq_takeSequence 61 = .ok (.istore_n 3, 1) := by decide +kernel
theorem d_Sq_takeSequence_62 : decode cc_Sq_takeSequence 62 = .ok (.aload_n 0, 1) := by decide +kernel
theorem d_Sq_takeSequence_63 : decode cc_Sq_takeSequence 63 = .ok (.getstatic 110, 3) := by decide +kernel
theorem d_Sq_takeSequence_66 : decode cc_Sq_takeSequence 66 = .ok (.iload_n 3, 1) := by decide +kernel
theorem d_Sq_takeSequence_67 : decode cc_Sq_takeSequence 67 = .ok (.iaload, 1) := by decide +kernel
theorem d_Sq_takeSequence_68 : decode cc_Sq_takeSequence 68 = .ok (.aload_n 0, 1) := by decide +kernel
theorem d_Sq_takeSequence_69 : decode cc_Sq_takeSequence 69 = .ok (.getfield 36, 3) := by decide +kernel
theorem d_Sq_takeSequence_72 : decode cc_Sq_takeSequence 72 = .ok (.getstatic 113, 3) := by decide +kernel
theorem d_Sq_takeSequence_75 : decode cc_Sq_takeSequence 75 = .ok (.iload_n 3, 1) := by decide +kernel
theorem d_Sq_takeSequence_76 : decode cc_Sq_takeSequence 76 = .ok (.iaload, 1) := by decide +kernel
theorem d_Sq_takeSequence_77 : decode cc_Sq_takeSequence 77 = .ok (.invokevirtual 82, 3) := by decide +kernel
theorem d_Sq_takeSequence_80 : decode cc_Sq_takeSequence 80 = .ok (.iadd, 1) := by decide +kernel
theorem d_Sq_takeSequence_81 : decode cc_Sq_takeSequence 81 = .ok (.putfield 116, 3) := by decide +kernel
theorem d_Sq_takeSequence_84 : decode cc_Sq_takeSequence 84 = .ok (.return_, 1) := by decide +kernel
section
variable {p : Program} {l : Launch} {e : Env} {s : State} {m : MethodId} {args : Array Value} {below : List Frame} {meth : Method} {c : Code} {X : Xs} {L : La}
def f_Sq_takeSequence (L : La) (i0 : Nat) (F : Mem) : Option Mem :=
  (f_ST_code L (mRf L i0 2) F).bind fun q2 =>
  (f_Wr_takeBits L (mRf L i0 0) q2.1 q2.2).bind fun q5 =>
  lt' (u2 q5.2 i0 7 ((jshl (1 : Int32) q2.1) + q5.1)) fun F7 =>
  (f_ST_code L (mRf L i0 3) F7).bind fun q10 =>
  if inb q10.1 (mGl L (mNc L + 4)) then none else
  if inb q10.1 (mGl L (mNc L + 5)) then none else
  (f_Wr_takeBits L (mRf L i0 0) (mGa L q10.2 (mNc L + 5) q10.1.toNatClampNeg) q10.2).bind fun q17 =>
  lt' (u2 q17.2 i0 8 ((mGa L q10.2 (mNc L + 4) q10.1.toNatClampNeg) + q17.1)) fun F19 =>
  (f_ST_code L (mRf L i0 1) F19).bind fun q22 =>
  if inb q22.1 (mGl L (mNc L + 2)) then none else
  if inb q22.1 (mGl L (mNc L + 3)) then none else
  (f_Wr_takeBits L (mRf L i0 0) (mGa L q22.2 (mNc L + 3) q22.1.toNatClampNeg) q22.2).bind fun q29 =>
  lt' (u2 q29.2 i0 6 ((mGa L q22.2 (mNc L + 2) q22.1.toNatClampNeg) + q29.1)) fun F31 =>
  some F31
set_option maxHeartbeats 4000000 in
theorem c_Sq_takeSequence (l : Launch) {X : Xs} {L : La} (hW : WT L) {out : Mem} {i0 : Nat} {F : Mem} (o0 : oO L 8 i0) (h : f_Sq_takeSequence L i0 F = some out) : Met l y_Sq_takeSequence w_Sq_takeSequence r_Sq_takeSequence (va_Pc [.ref (mAd X i0)] (Pr X L F)) (QV X L out) 0 0 (AA X L) := by
  refine mk_met (by decide) rfl (Nat.le_of_ble_eq_true rfl) hW ?_
  intro p e s m args below meth c ls hC hI hl
  have hl : lv_has ls 4 [(0, .ref (mAd X i0))] := hl
  generalize hHe : s.heap = H at hI ⊢
  generalize ([] : List Loc) = locs at hI ⊢
  unfold f_Sq_takeSequence at h
  obtain ⟨S, hK, hT, hW, hr, hlk⟩ := id hC
  have hx := S.1
  have hb := S.2.1
  refine lv_aload_n hx hb d_Sq_takeSequence_0 rfl (lv_at hl 0 rfl) ?_
  have p1 := wt_o hW o0 2 2 rfl (by decide) (by decide) (by decide)
  refine w_getR (T := T_Sq) S hK hI o0 rfl hin_Sq 2 (index := 27) (by decide) lf_Sq_27 d_Sq_takeSequence_1 ?_
  obtain ⟨q2, e3, h⟩ := un_bi h
  refine w_callVi (As := []) (rest := []) S hK hI hT (c_ST_code l hW p1 e3) (cwV 0 S.2.2.2.2 (gd_V lc_ST_code lm_Sq_95 li_ST_code ls_ST_code ln_ST) rfl rfl rfl hd_ST_code ⟨Nat.le_of_ble_eq_true rfl, Nat.le_of_ble_eq_true rfl⟩) p1 rfl (by decide) rfl rfl hl.1 (Nat.le_of_ble_eq_true rfl) d_Sq_takeSequence_4 ⟨Nat.zero_le _, Nat.zero_le _⟩ (fun H locs hI => ?_)
  refine lv_istore_n (lv' := [(1, .int q2.1), (0, .ref (mAd X i0))]) hx hb d_Sq_takeSequence_7 rfl hl (by decide) rfl (fun ls hl => ?_)
  refine lv_aload_n hx hb d_Sq_takeSequence_8 rfl (lv_at hl 1 rfl) ?_
  refine lv_iconst (v := 1) hx hb d_Sq_takeSequence_9 rfl ?_
  refine lv_iload_n hx hb d_Sq_takeSequence_10 rfl (lv_at hl 0 rfl) ?_
  refine lv_ishl hx hb d_Sq_takeSequence_11 ?_
  refine lv_aload_n hx hb d_Sq_takeSequence_12 rfl (lv_at hl 1 rfl) ?_
  have p4 := wt_o hW o0 0 7 rfl (by decide) (by decide) (by decide)
  refine w_getR (T := T_Sq) S hK hI o0 rfl hin_Sq 0 (index := 36) (by decide) lf_Sq_36 d_Sq_takeSequence_13 ?_
  refine lv_iload_n hx hb d_Sq_takeSequence_16 rfl (lv_at hl 0 rfl) ?_
  obtain ⟨q5, e6, h⟩ := un_bi h
  refine w_callVi (As := [.int q2.1]) (rest := [.int (jshl (1 : Int32) q2.1), .ref (mAd X i0)]) S hK hI hT (c_Wr_takeBits l hW p4 e6) (cwV 1 S.2.2.2.2 (gd_V lc_Wr_takeBits lm_Sq_82 li_Wr_takeBits ls_Wr_takeBits ln_Wr) rfl rfl rfl hd_Wr_takeBits ⟨Nat.le_of_ble_eq_true rfl, Nat.le_of_ble_eq_true rfl⟩) p4 rfl (by decide) rfl rfl hl.1 (Nat.le_of_ble_eq_true rfl) d_Sq_takeSequence_17 ⟨Nat.zero_le _, Nat.zero_le _⟩ (fun H locs hI => ?_)
  refine lv_iadd hx hb d_Sq_takeSequence_20 ?_
  refine w_putI (T := T_Sq) S hK hI o0 rfl hin_Sq ty_Sq tk_Sq nm_Sq 7 (index := 98) (by decide) lf_Sq_98 rfl d_Sq_takeSequence_21 (fun H locs F7 e8 hI => ?_)
  replace h := un_lt h _ e8
  refine lv_aload_n hx hb d_Sq_takeSequence_24 rfl (lv_at hl 1 rfl) ?_
  have p9 := wt_o hW o0 3 2 rfl (by decide) (by decide) (by decide)
  refine w_getR (T := T_Sq) S hK hI o0 rfl hin_Sq 3 (index := 30) (by decide) lf_Sq_30 d_Sq_takeSequence_25 ?_
  obtain ⟨q10, e11, h⟩ := un_bi h
  refine w_callVi (As := []) (rest := []) S hK hI hT (c_ST_code l hW p9 e11) (cwV 0 S.2.2.2.2 (gd_V lc_ST_code lm_Sq_95 li_ST_code ls_ST_code ln_ST) rfl rfl rfl hd_ST_code ⟨Nat.le_of_ble_eq_true rfl, Nat.le_of_ble_eq_true rfl⟩) p9 rfl (by decide) rfl rfl hl.1 (Nat.le_of_ble_eq_true rfl) d_Sq_takeSequence_28 ⟨Nat.zero_le _, Nat.zero_le _⟩ (fun H locs hI => ?_)
  refine lv_istore_n (lv' := [(2, .int q10.1), (1, .int q2.1), (0, .ref (mAd X i0))]) hx hb d_Sq_takeSequence_31 rfl hl (by decide) rfl (fun ls hl => ?_)
  refine lv_aload_n hx hb d_Sq_takeSequence_32 rfl (lv_at hl 2 rfl) ?_
  have p12 : oA L (mNc L + 4) := oA_t (by decide)
  refine w_getsN (j := 4) S hI hT (by decide) (va_Nw.use rfl (hT.2 ("PackFrames$SequenceReader", 101, "PackFrames", "MATCH_BASES", "[I", "PackFrames") (by decide))) d_Sq_takeSequence_33 ?_
  refine lv_iload_n hx hb d_Sq_takeSequence_36 rfl (lv_at hl 0 rfl) ?_
  obtain ⟨z13, h⟩ := un_if h
  refine w_iald S hK hI hT p12 z13 d_Sq_takeSequence_37 ?_
  refine lv_aload_n hx hb d_Sq_takeSequence_38 rfl (lv_at hl 2 rfl) ?_
  have p14 := wt_o hW o0 0 7 rfl (by decide) (by decide) (by decide)
  refine w_getR (T := T_Sq) S hK hI o0 rfl hin_Sq 0 (index := 36) (by decide) lf_Sq_36 d_Sq_takeSequence_39 ?_
  have p15 : oA L (mNc L + 5) := oA_t (by decide)
  refine w_getsN (j := 5) S hI hT (by decide) (va_Nw.use rfl (hT.2 ("PackFrames$SequenceReader", 104, "PackFrames", "MATCH_BITS", "[I", "PackFrames") (by decide))) d_Sq_takeSequence_42 ?_
  refine lv_iload_n hx hb d_Sq_takeSequence_45 rfl (lv_at hl 0 rfl) ?_
  obtain ⟨z16, h⟩ := un_if h
  refine w_iald S hK hI hT p15 z16 d_Sq_takeSequence_46 ?_
  obtain ⟨q17, e18, h⟩ := un_bi h
  refine w_callVi (As := [.int (mGa L q10.2 (mNc L + 5) q10.1.toNatClampNeg)]) (rest := [.int (mGa L q10.2 (mNc L + 4) q10.1.toNatClampNeg), .ref (mAd X i0)]) S hK hI hT (c_Wr_takeBits l hW p14 e18) (cwV 1 S.2.2.2.2 (gd_V lc_Wr_takeBits lm_Sq_82 li_Wr_takeBits ls_Wr_takeBits ln_Wr) rfl rfl rfl hd_Wr_takeBits ⟨Nat.le_of_ble_eq_true rfl, Nat.le_of_ble_eq_true rfl⟩) p14 rfl (by decide) rfl rfl hl.1 (Nat.le_of_ble_eq_true rfl) d_Sq_takeSequence_47 ⟨Nat.zero_le _, Nat.zero_le _⟩ (fun H locs hI => ?_)
  refine lv_iadd hx hb d_Sq_takeSequence_50 ?_
  refine w_putI (T := T_Sq) S hK hI o0 rfl hin_Sq ty_Sq tk_Sq nm_Sq 8 (index := 107) (by decide) lf_Sq_107 rfl d_Sq_takeSequence_51 (fun H locs F19 e20 hI => ?_)
  replace h := un_lt h _ e20
  refine lv_aload_n hx hb d_Sq_takeSequence_54 rfl (lv_at hl 2 rfl) ?_
  have p21 := wt_o hW o0 1 2 rfl (by decide) (by decide) (by decide)
  refine w_getR (T := T_Sq) S hK hI o0 rfl hin_Sq 1 (index := 18) (by decide) lf_Sq_18 d_Sq_takeSequence_55 ?_
  obtain ⟨q22, e23, h⟩ := un_bi h
  refine w_callVi (As := []) (rest := []) S hK hI hT (c_ST_code l hW p21 e23) (cwV 0 S.2.2.2.2 (gd_V lc_ST_code lm_Sq_95 li_ST_code ls_ST_code ln_ST) rfl rfl rfl hd_ST_code ⟨Nat.le_of_ble_eq_true rfl, Nat.le_of_ble_eq_true rfl⟩) p21 rfl (by decide) rfl rfl hl.1 (Nat.le_of_ble_eq_true rfl) d_Sq_takeSequence_58 ⟨Nat.zero_le _, Nat.zero_le _⟩ (fun H locs hI => ?_)
  refine lv_istore_n (lv' := [(3, .int q22.1), (2, .int q10.1), (1, .int q2.1), (0, .ref (mAd X i0))]) hx hb d_Sq_takeSequence_61 rfl hl (by decide) rfl (fun ls hl => ?_)
  refine lv_aload_n hx hb d_Sq_takeSequence_62 rfl (lv_at hl 3 rfl) ?_
  have p24 : oA L (mNc L + 2) := oA_t (by decide)
  refine w_getsN (j := 2) S hI hT (by decide) (va_Nw.use rfl (hT.2 ("PackFrames$SequenceReader", 110, "PackFrames", "LITERAL_BASES", "[I", "PackFrames") (by decide))) d_Sq_takeSequence_63 ?_
  refine lv_iload_n hx hb d_Sq_takeSequence_66 rfl (lv_at hl 0 rfl) ?_
  obtain ⟨z25, h⟩ := un_if h
  refine w_iald S hK hI hT p24 z25 d_Sq_takeSequence_67 ?_
  refine lv_aload_n hx hb d_Sq_takeSequence_68 rfl (lv_at hl 3 rfl) ?_
  have p26 := wt_o hW o0 0 7 rfl (by decide) (by decide) (by decide)
  refine w_getR (T := T_Sq) S hK hI o0 rfl hin_Sq 0 (index := 36) (by decide) lf_Sq_36 d_Sq_takeSequence_69 ?_
  have p27 : oA L (mNc L + 3) := oA_t (by decide)
  refine w_getsN (j := 3) S hI hT (by decide) (va_Nw.use rfl (hT.2 ("PackFrames$SequenceReader", 113, "PackFrames", "LITERAL_BITS", "[I", "PackFrames") (by decide))) d_Sq_takeSequence_72 ?_
  refine lv_iload_n hx hb d_Sq_takeSequence_75 rfl (lv_at hl 0 rfl) ?_
  obtain ⟨z28, h⟩ := un_if h
  refine w_iald S hK hI hT p27 z28 d_Sq_takeSequence_76 ?_
  obtain ⟨q29, e30, h⟩ := un_bi h
  refine w_callVi (As := [.int (mGa L q22.2 (mNc L + 3) q22.1.toNatClampNeg)]) (rest := [.int (mGa L q22.2 (mNc L + 2) q22.1.toNatClampNeg), .ref (mAd X i0)]) S hK hI hT (c_Wr_takeBits l hW p26 e30) (cwV 1 S.2.2.2.2 (gd_V lc_Wr_takeBits lm_Sq_82 li_Wr_takeBits ls_Wr_takeBits ln_Wr) rfl rfl rfl hd_Wr_takeBits ⟨Nat.le_of_ble_eq_true rfl, Nat.le_of_ble_eq_true rfl⟩) p26 rfl (by decide) rfl rfl hl.1 (Nat.le_of_ble_eq_true rfl) d_Sq_takeSequence_77 ⟨Nat.zero_le _, Nat.zero_le _⟩ (fun H locs hI => ?_)
  refine lv_iadd hx hb d_Sq_takeSequence_80 ?_
  refine w_putI (T := T_Sq) S hK hI o0 rfl hin_Sq ty_Sq tk_Sq nm_Sq 6 (index := 116) (by decide) lf_Sq_116 rfl d_Sq_takeSequence_81 (fun H locs F31 e32 hI => ?_)
  replace h := un_lt h _ e32
  exact w_vret S hK hr hlk hI d_Sq_takeSequence_84 h
end
theorem d_Fr_putLiterals_0 : decode cc_Fr_putLiterals 0 = .ok (.iload_n 1, 1) := by decide +kernel
theorem d_Fr_putLiterals_1 : decode cc_Fr_putLiterals 1 = .ok (.aload_n 0, 1) := by decide +kernel
theorem d_Fr_putLiterals_2 : decode cc_Fr_putLiterals 2 = .ok (.getfield 34, 3) := by decide +kernel
theorem d_Fr_putLiterals_5 : decode cc_Fr_putLiterals 5 = .ok (.getfield 88, 3) := by decide +kernel
theorem d_Fr_putLiterals_8 : decode cc_Fr_putLiterals 8 = .ok (.aload_n 0, 1) := by decide +kernel
theorem d_Fr_putLiterals_9 : decode cc_Fr_putLiterals 9 = .ok (.getfield 138, 3) := by decide +kernel
theorem d_Fr_putLiterals_12 : decode cc_Fr_putLiterals 12 = .ok (.isub, 1) := by decide +kernel
theorem d_Fr_putLiterals_13 : decode cc_Fr_putLiterals 13 = .ok (.if_icmp .gt (11), 3) := by decide +kernel
theorem d_Fr_putLiterals_16 : decode cc_Fr_putLiterals 16 = .ok (.aload_n 0, 1) := by decide +kernel
theorem d_Fr_putLiterals_17 : decode cc_Fr_putLiterals 17 = .ok (.iload_n 1, 1) := by decide +kernel
theorem d_Fr_putLiterals_18 : decode cc_Fr_putLiterals 18 = .ok (.invokevirtual 116, 3) := by decide +kernel
theorem d_Fr_putLiterals_21 : decode cc_Fr_putLiterals 21 = .ok (.ifCond .ne (11), 3) := by decide +kernel
theorem d_Fr_putLiterals_24 : decode cc_Fr_putLiterals 24 = .ok (.aload_n 0, 1) := by decide +kernel
theorem d_Fr_putLiterals_25 : decode cc_Fr_putLiterals 25 = .ok (.getfield 42, 3) := by decide +kernel
theorem d_Fr_putLiterals_28 : decode cc_Fr_putLiterals 28 = .ok (.invokevirtual 85, 3) := by decide +kernel
theorem d_Fr_putLiterals_31 : decode cc_Fr_putLiterals 31 = .ok (.return_, 1) := by decide +kernel
theorem d_Fr_putLiterals_32 : decode cc_Fr_putLiterals 32 = .ok (.iconst 0, 1) := by decide +kernel
theorem d_Fr_putLiterals_33 : decode cc_Fr_putLiterals 33 = .ok (.istore_n 2, 1) := by decide +kernel
theorem d_Fr_putLiterals_34 : decode cc_Fr_putLiterals 34 = .ok (.iload_n 2, 1) := by decide +kernel
theorem d_Fr_putLiterals_35 : decode cc_Fr_putLiterals 35 = .ok (.iload_n 1, 1) := by decide +kernel
theorem d_Fr_putLiterals_36 : decode cc_Fr_putLiterals 36 = .ok (.if_icmp .ge (30), 3) := by decide +kernel
theorem d_Fr_putLiterals_39 : decode cc_Fr_putLiterals 39 = .ok (.aload_n 0, 1) := by decide +kernel
theorem d_Fr_putLiterals_40 : decode cc_Fr_putLiterals 40 = .ok (.getfield 14, 3) := by decide +kernel
theorem d_Fr_putLiterals_43 : decode cc_Fr_putLiterals 43 = .ok (.aload_n 0, 1) := by decide +kernel
theorem d_Fr_putLiterals_44 : decode cc_Fr_putLiterals 44 = .ok (.getfield 34, 3) := by decide +kernel
theorem d_Fr_putLiterals_47 : decode cc_Fr_putLiterals 47 = .ok (.getfield 205, 3) := by decide +kernel
theorem d_Fr_putLiterals_50 : decode cc_Fr_putLiterals 50 = .ok (.aload_n 0, 1) := by decide +kernel
theorem d_Fr_putLiterals_51 : decode cc_Fr_putLiterals 51 = .ok (.getfield 138, 3) := by decide +kernel
theorem d_Fr_putLiterals_54 : decode cc_Fr_putLiterals 54 = .ok (.iload_n 2, 1) := by decide +kernel
theorem d_Fr_putLiterals_55 : decode cc_Fr_putLiterals 55 = .ok (.iadd, 1) := by decide +kernel
theorem d_Fr_putLiterals_56 : decode cc_Fr_putLiterals 56 = .ok (.iaload, 1) := by decide +kernel
theorem d_Fr_putLiterals_57 : decode cc_Fr_putLiterals 57 = .ok (.invokevirtual 119, 3) := by decide +kernel
theorem d_Fr_putLiterals_60 : decode cc_Fr_putLiterals 60 = .ok (.iinc 2 (1), 3) := by decide +kernel
theorem d_Fr_putLiterals_63 : decode cc_Fr_putLiterals 63 = .ok (.goto (-29), 3) := by decide +kernel
theorem d_Fr_putLiterals_66 : decode cc_Fr_putLiterals 66 = .ok (.aload_n 0, 1) := by decide +kernel
theorem d_Fr_putLiterals_67 : decode cc_Fr_putLiterals 67 = .ok (.dup, 1) := by decide +kernel
theorem d_Fr_putLiterals_68 : decode cc_Fr_putLiterals 68 = .ok (.getfield 138, 3) := by decide +kernel
theorem d_Fr_putLiterals_71 : decode cc_Fr_putLiterals 71 = .ok (.iload_n 1, 1) := by decide +kernel
theorem d_Fr_putLiterals_72 : decode cc_Fr_putLiterals 72 = .ok (.iadd, 1) := by decide +kernel
theorem d_Fr_putLiterals_73 : decode cc_Fr_putLiterals 73 = .ok (.putfield 138, 3) := by decide +kernel
theorem d_Fr_putLiterals_76 : decode cc_Fr_putLiterals 76 = .ok (.return_, 1) := by decide +kernel
section
variable {p : Program} {l : Launch} {e : Env} {s : State} {m : MethodId} {args : Array Value} {below : List Frame} {meth : Method} {c : Code} {X : Xs} {L : La}
def b_Fr_putLiterals_24 (L : La)  (i0 : Nat) (F : Mem) : Option Mem :=
  (f_Wr_refuse L (mRf L i0 1) F).bind fun F2 =>
  some F2
set_option maxHeartbeats 4000000 in
theorem t_Fr_putLiterals_24 (hC : Cx X L p s m args meth c cc_Fr_putLiterals 3 w_Fr_putLiterals R_Fr none)  {out : Mem}  {i0 : Nat} {F : Mem} {H : Heap} {locs : List Loc} {ls : Array Slot} (o0 : oO L 9 i0) (hI : Iv X L s H locs F) (hl : lv_has ls 3 [(0, .ref (mAd X i0))]) (h : b_Fr_putLiterals_24 L  i0 F = some out) : W p l e (headSpec w_Fr_putLiterals r_Fr_putLiterals).room s m args below meth c H locs 0 0 (MQ below (QV X L out) args s 0 0 (AA X L)) (F0 m 24 ls []) := by
  unfold b_Fr_putLiterals_24 at h
  obtain ⟨S, hK, hT, hW, hr, hlk⟩ := id hC
  have hx := S.1
  have hb := S.2.1
  refine lv_aload_n hx hb d_Fr_putLiterals_24 rfl (lv_at hl 0 rfl) ?_
  have p1 := wt_o hW o0 1 7 rfl (by decide) (by decide) (by decide)
  refine w_getR (T := T_Fr) S hK hI o0 rfl hin_Fr 1 (index := 42) (by decide) lf_Fr_42 d_Fr_putLiterals_25 ?_
  obtain ⟨F2, e3, h⟩ := un_bi h
  refine w_callVv (As := []) (rest := []) S hK hI hT (c_Wr_refuse l hW p1 e3) (cwV 0 S.2.2.2.2 (gd_V lc_Wr_refuse lm_Fr_85 li_Wr_refuse ls_Wr_refuse ln_Wr) rfl rfl rfl hd_Wr_refuse ⟨Nat.le_of_ble_eq_true rfl, Nat.le_of_ble_eq_true rfl⟩) p1 rfl (by decide) rfl rfl hl.1 (Nat.le_of_ble_eq_true rfl) d_Fr_putLiterals_28 ⟨Nat.zero_le _, Nat.zero_le _⟩ (fun H locs hI => ?_)
  exact w_vret S hK hr hlk hI d_Fr_putLiterals_31 h
def b_Fr_putLiterals_34 (L : La) (k34 : Nat → Int32 → Int32 → Mem → Option Mem) (i0 : Nat) (x1 : Int32) (x2 : Int32) (F : Mem) : Option Mem :=
  if x1 ≤ x2 then
    lt' (u2 F i0 7 ((F i0 7) + x1)) fun F1 =>
    some F1
  else
    if inb ((F i0 7) + x2) (mGl L (mRf L (mRf L i0 5) 0)) then none else
    (f_Row_add L (mRf L i0 0) (mGa L F (mRf L (mRf L i0 5) 0) ((F i0 7) + x2).toNatClampNeg) F).bind fun F7 =>
    k34 i0 x1 (x2 + (1 : Int32)) F7
set_option maxHeartbeats 4000000 in
theorem t_Fr_putLiterals_34 (hC : Cx X L p s m args meth c cc_Fr_putLiterals 3 w_Fr_putLiterals R_Fr none) {k34 : Nat → Int32 → Int32 → Mem → Option Mem} {out : Mem} (hk34 : ∀ (i0 : Nat) (x1 : Int32) (x2 : Int32) (F : Mem) (H : Heap) (locs : List Loc) (ls : Array Slot), oO L 9 i0 → Iv X L s H locs F → lv_has ls 3 [(0, .ref (mAd X i0)), (1, .int x1), (2, .int x2)] → k34 i0 x1 x2 F = some out → W p l e (headSpec w_Fr_putLiterals r_Fr_putLiterals).room s m args below meth c H locs 0 0 (MQ below (QV X L out) args s 0 0 (AA X L)) (F0 m 34 ls [])) {i0 : Nat} {x1 : Int32} {x2 : Int32} {F : Mem} {H : Heap} {locs : List Loc} {ls : Array Slot} (o0 : oO L 9 i0) (hI : Iv X L s H locs F) (hl : lv_has ls 3 [(0, .ref (mAd X i0)), (1, .int x1), (2, .int x2)]) (h : b_Fr_putLiterals_34 L k34 i0 x1 x2 F = some out) : W p l e (headSpec w_Fr_putLiterals r_Fr_putLiterals).room s m args below meth c H locs 0 0 (MQ below (QV X L out) args s 0 0 (AA X L)) (F0 m 34 ls []) := by
  unfold b_Fr_putLiterals_34 at h
  obtain ⟨S, hK, hT, hW, hr, hlk⟩ := id hC
  have hx := S.1
  have hb := S.2.1
  refine lv_iload_n hx hb d_Fr_putLiterals_34 rfl (lv_at hl 2 rfl) ?_
  refine lv_iload_n hx hb d_Fr_putLiterals_35 rfl (lv_at hl 1 rfl) ?_
  refine lv_icmp_ge (tgt := 66) hx hb d_Fr_putLiterals_36 rfl (fun hc => ?_) (fun hc => ?_)
  · replace h := (if_pos hc).symm.trans h
    refine lv_aload_n hx hb d_Fr_putLiterals_66 rfl (lv_at hl 0 rfl) ?_
    refine lv_dup hx hb d_Fr_putLiterals_67 rfl ?_
    refine w_getI (T := T_Fr) S hK hI o0 rfl hin_Fr 7 (index := 138) (by decide) lf_Fr_138 d_Fr_putLiterals_68 ?_
    refine lv_iload_n hx hb d_Fr_putLiterals_71 rfl (lv_at hl 1 rfl) ?_
    refine lv_iadd hx hb d_Fr_putLiterals_72 ?_
    refine w_putI (T := T_Fr) S hK hI o0 rfl hin_Fr ty_Fr tk_Fr nm_Fr 7 (index := 138) (by decide) lf_Fr_138 rfl d_Fr_putLiterals_73 (fun H locs F1 e2 hI => ?_)
    replace h := un_lt h _ e2
    exact w_vret S hK hr hlk hI d_Fr_putLiterals_76 h
  · replace h := (if_neg hc).symm.trans h
    refine lv_aload_n hx hb d_Fr_putLiterals_39 rfl (lv_at hl 0 rfl) ?_
    have p3 := wt_o hW o0 0 1 rfl (by decide) (by decide) (by decide)
    refine w_getR (T := T_Fr) S hK hI o0 rfl hin_Fr 0 (index := 14) (by decide) lf_Fr_14 d_Fr_putLiterals_40 ?_
    refine lv_aload_n hx hb d_Fr_putLiterals_43 rfl (lv_at hl 0 rfl) ?_
    have p4 := wt_o hW o0 5 1 rfl (by decide) (by decide) (by decide)
    refine w_getR (T := T_Fr) S hK hI o0 rfl hin_Fr 5 (index := 34) (by decide) lf_Fr_34 d_Fr_putLiterals_44 ?_
    have p5 := wt_a hW p4 0 rfl (by decide) (by decide)
    refine w_getR (T := T_Row) S hK hI p4 rfl hin_Row 0 (index := 205) (by decide) lf_Fr_205 d_Fr_putLiterals_47 ?_
    refine lv_aload_n hx hb d_Fr_putLiterals_50 rfl (lv_at hl 0 rfl) ?_
    refine w_getI (T := T_Fr) S hK hI o0 rfl hin_Fr 7 (index := 138) (by decide) lf_Fr_138 d_Fr_putLiterals_51 ?_
    refine lv_iload_n hx hb d_Fr_putLiterals_54 rfl (lv_at hl 2 rfl) ?_
    refine lv_iadd hx hb d_Fr_putLiterals_55 ?_
    obtain ⟨z6, h⟩ := un_if h
    refine w_iald S hK hI hT p5 z6 d_Fr_putLiterals_56 ?_
    obtain ⟨F7, e8, h⟩ := un_bi h
    refine w_callVv (As := [.int (mGa L F (mRf L (mRf L i0 5) 0) ((F i0 7) + x2).toNatClampNeg)]) (rest := []) S hK hI hT (c_Row_add l hW p3 e8) (cwV 1 S.2.2.2.2 (gd_V lc_Row_add lm_Fr_119 li_Row_add ls_Row_add ln_Row) rfl rfl rfl hd_Row_add ⟨Nat.le_of_ble_eq_true rfl, Nat.le_of_ble_eq_true rfl⟩) p3 rfl (by decide) rfl rfl hl.1 (Nat.le_of_ble_eq_true rfl) d_Fr_putLiterals_57 ⟨Nat.zero_le _, Nat.zero_le _⟩ (fun H locs hI => ?_)
    refine lv_iinc (k := 2) (v := x2 + (1 : Int32)) (lv' := [(2, .int (x2 + (1 : Int32))), (0, .ref (mAd X i0)), (1, .int x1)]) hx hb d_Fr_putLiterals_60 hl rfl rfl (by decide) rfl (fun ls hl => ?_)
    refine lv_goto (tgt := 34) hx hb d_Fr_putLiterals_63 rfl ?_
    exact hk34 _ _ _ _ _ _ _ o0 hI (lv_sub hl [1, 2, 0] rfl) h
def f_Fr_putLiterals_34 (L : La)  : Nat → Nat → Int32 → Int32 → Mem → Option Mem
  | 0 => fun _ _ _ _ => none
  | n + 1 => b_Fr_putLiterals_34 L (f_Fr_putLiterals_34 L  n)
theorem tf_Fr_putLiterals_34 (hC : Cx X L p s m args meth c cc_Fr_putLiterals 3 w_Fr_putLiterals R_Fr none)  {out : Mem}  (n : Nat) : ∀ (i0 : Nat) (x1 : Int32) (x2 : Int32) (F : Mem) (H : Heap) (locs : List Loc) (ls : Array Slot), oO L 9 i0 → Iv X L s H locs F → lv_has ls 3 [(0, .ref (mAd X i0)), (1, .int x1), (2, .int x2)] → f_Fr_putLiterals_34 L  n i0 x1 x2 F = some out → W p l e (headSpec w_Fr_putLiterals r_Fr_putLiterals).room s m args below meth c H locs 0 0 (MQ below (QV X L out) args s 0 0 (AA X L)) (F0 m 34 ls []) := by
  induction n with
  | zero => intro i0 x1 x2 F H locs ls o0 hI hl h; cases h
  | succ n ih => intro i0 x1 x2 F H locs ls o0 hI hl h; exact t_Fr_putLiterals_34 hC ih o0 hI hl h
def f_Fr_putLiterals (L : La) (i0 : Nat) (x1 : Int32) (F : Mem) : Option Mem :=
  if ((F (mRf L i0 5) 1) - (F i0 7)) < x1 then
    b_Fr_putLiterals_24 L  i0 F
  else
    (f_Fr_fits L i0 x1 F).bind fun q2 =>
    if q2.1 = 0 then
      b_Fr_putLiterals_24 L  i0 q2.2
    else
      f_Fr_putLiterals_34 L  mFU i0 x1 (0 : Int32) q2.2
set_option maxHeartbeats 4000000 in
theorem c_Fr_putLiterals (l : Launch) {X : Xs} {L : La} (hW : WT L) {out : Mem} {i0 : Nat} {x1 : Int32} {F : Mem} (o0 : oO L 9 i0) (h : f_Fr_putLiterals L i0 x1 F = some out) : Met l y_Fr_putLiterals w_Fr_putLiterals r_Fr_putLiterals (va_Pc [.ref (mAd X i0), .int x1] (Pr X L F)) (QV X L out) 0 0 (AA X L) := by
  refine mk_met (by decide) rfl (Nat.le_of_ble_eq_true rfl) hW ?_
  intro p e s m args below meth c ls hC hI hl
  have hl : lv_has ls 3 [(0, .ref (mAd X i0)), (1, .int x1)] := hl
  generalize hHe : s.heap = H at hI ⊢
  generalize ([] : List Loc) = locs at hI ⊢
  unfold f_Fr_putLiterals at h
  obtain ⟨S, hK, hT, hW, hr, hlk⟩ := id hC
  have hx := S.1
  have hb := S.2.1
  refine lv_iload_n hx hb d_Fr_putLiterals_0 rfl (lv_at hl 1 rfl) ?_
  refine lv_aload_n hx hb d_Fr_putLiterals_1 rfl (lv_at hl 0 rfl) ?_
  have p1 := wt_o hW o0 5 1 rfl (by decide) (by decide) (by decide)
  refine w_getR (T := T_Fr) S hK hI o0 rfl hin_Fr 5 (index := 34) (by decide) lf_Fr_34 d_Fr_putLiterals_2 ?_
  refine w_getI (T := T_Row) S hK hI p1 rfl hin_Row 1 (index := 88) (by decide) lf_Fr_88 d_Fr_putLiterals_5 ?_
  refine lv_aload_n hx hb d_Fr_putLiterals_8 rfl (lv_at hl 0 rfl) ?_
  refine w_getI (T := T_Fr) S hK hI o0 rfl hin_Fr 7 (index := 138) (by decide) lf_Fr_138 d_Fr_putLiterals_9 ?_
  refine lv_isub hx hb d_Fr_putLiterals_12 ?_
  refine lv_icmp_gt (tgt := 24) hx hb d_Fr_putLiterals_13 rfl (fun hc => ?_) (fun hc => ?_)
  · replace h := (if_pos hc).symm.trans h
    exact t_Fr_putLiterals_24 hC  o0 hI (lv_sub hl [0] rfl) h
  · replace h := (if_neg hc).symm.trans h
    refine lv_aload_n hx hb d_Fr_putLiterals_16 rfl (lv_at hl 0 rfl) ?_
    refine lv_iload_n hx hb d_Fr_putLiterals_17 rfl (lv_at hl 1 rfl) ?_
    obtain ⟨q2, e3, h⟩ := un_bi h
    refine w_callVi (As := [.int x1]) (rest := []) S hK hI hT (c_Fr_fits l hW o0 e3) (cwV 1 S.2.2.2.2 (gd_V lc_Fr_fits lm_Fr_116 li_Fr_fits ls_Fr_fits ln_Fr) rfl rfl rfl hd_Fr_fits ⟨Nat.le_of_ble_eq_true rfl, Nat.le_of_ble_eq_true rfl⟩) o0 rfl (by decide) rfl rfl hl.1 (Nat.le_of_ble_eq_true rfl) d_Fr_putLiterals_18 ⟨Nat.zero_le _, Nat.zero_le _⟩ (fun H locs hI => ?_)
    refine lv_if_ne (tgt := 32) hx hb d_Fr_putLiterals_21 rfl (fun hc => ?_) (fun hc => ?_)
    · replace h := (if_neg hc).symm.trans h
      refine lv_iconst (v := 0) hx hb d_Fr_putLiterals_32 rfl ?_
      refine lv_istore_n (lv' := [(2, .int (0 : Int32)), (0, .ref (mAd X i0)), (1, .int x1)]) hx hb d_Fr_putLiterals_33 rfl hl (by decide) rfl (fun ls hl => ?_)
      exact tf_Fr_putLiterals_34 hC  mFU _ _ _ _ _ _ _ o0 hI (lv_sub hl [1, 2, 0] rfl) h
    · replace h := (if_pos hc).symm.trans h
      exact t_Fr_putLiterals_24 hC  o0 hI (lv_sub hl [0] rfl) h
end
theorem d_Fr_putMatch_0 : decode cc_Fr_putMatch 0 = .ok (.aload_n 0, 1) := by decide +kernel
theorem d_Fr_putMatch_1 : decode cc_Fr_putMatch 1 = .ok (.getfield 23, 3) := by decide +kernel
theorem d_Fr_putMatch_4 : decode cc_Fr_putMatch 4 = .ok (.aload_n 0, 1) := by decide +kernel
theorem d_Fr_putMatch_5 : decode cc_Fr_putMatch 5 = .ok (.getfield 51, 3) := by decide +kernel
theorem d_Fr_putMatch_8 : decode cc_Fr_putMatch 8 = .ok (.getfield 208, 3) := by decide +kernel
theorem d_Fr_putMatch_11 : decode cc_Fr_putMatch 11 = .ok (.aload_n 0, 1) := by decide +kernel
theorem d_Fr_putMatch_12 : decode cc_Fr_putMatch 12 = .ok (.getfield 51, 3) := by decide +kernel
theorem d_Fr_putMatch_15 : decode cc_Fr_putMatch 15 = .ok (.getfield 200, 3) := by decide +kernel
theorem d_Fr_putMatch_18 : decode cc_Fr_putMatch 18 = .ok (.invokevirtual 211, 3) := by decide +kernel
theorem d_Fr_putMatch_21 : decode cc_Fr_putMatch 21 = .ok (.istore_n 1, 1) := by decide +kernel
theorem d_Fr_putMatch_22 : decode cc_Fr_putMatch 22 = .ok (.iload_n 1, 1) := by decide +kernel
theorem d_Fr_putMatch_23 : decode cc_Fr_putMatch 23 = .ok (.iconst 1, 1) := by decide +kernel
theorem d_Fr_putMatch_24 : decode cc_Fr_putMatch 24 = .ok (.if_icmp .lt (33), 3) := by decide +kernel
theorem d_Fr_putMatch_27 : decode cc_Fr_putMatch 27 = .ok (.iload_n 1, 1) := by decide +kernel
theorem d_Fr_putMatch_28 : decode cc_Fr_putMatch 28 = .ok (.aload_n 0, 1) := by decide +kernel
theorem d_Fr_putMatch_29 : decode cc_Fr_putMatch 29 = .ok (.getfield 14, 3) := by decide +kernel
theorem d_Fr_putMatch_32 : decode cc_Fr_putMatch 32 = .ok (.getfield 88, 3) := by decide +kernel
theorem d_Fr_putMatch_35 : decode cc_Fr_putMatch 35 = .ok (.aload_n 0, 1) := by decide +kernel
theorem d_Fr_putMatch_36 : decode cc_Fr_putMatch 36 = .ok (.getfield 95, 3) := by decide +kernel
theorem d_Fr_putMatch_39 : decode cc_Fr_putMatch 39 = .ok (.isub, 1) := by decide +kernel
theorem d_Fr_putMatch_40 : decode cc_Fr_putMatch 40 = .ok (.if_icmp .gt (17), 3) := by decide +kernel
theorem d_Fr_putMatch_43 : decode cc_Fr_putMatch 43 = .ok (.aload_n 0, 1) := by decide +kernel
theorem d_Fr_putMatch_44 : decode cc_Fr_putMatch 44 = .ok (.aload_n 0, 1) := by decide +kernel
theorem d_Fr_putMatch_45 : decode cc_Fr_putMatch 45 = .ok (.getfield 51, 3) := by decide +kernel
theorem d_Fr_putMatch_48 : decode cc_Fr_putMatch 48 = .ok (.getfield 215, 3) := by decide +kernel
theorem d_Fr_putMatch_51 : decode cc_Fr_putMatch 51 = .ok (.invokevirtual 116, 3) := by decide +kernel
theorem d_Fr_putMatch_54 : decode cc_Fr_putMatch 54 = .ok (.ifCond .ne (11), 3) := by decide +kernel
theorem d_Fr_putMatch_57 : decode cc_Fr_putMatch 57 = .ok (.aload_n 0, 1) := by decide +kernel
theorem d_Fr_putMatch_58 : decode cc_Fr_putMatch 58 = .ok (.getfield 42, 3) := by decide +kernel
theorem d_Fr_putMatch_61 : decode cc_Fr_putMatch 61 = .ok (.invokevirtual 85, 3) := by decide +kernel
theorem d_Fr_putMatch_64 : decode cc_Fr_putMatch 64 = .ok (.return_, 1) := by decide +kernel
theorem d_Fr_putMatch_65 : decode cc_Fr_putMatch 65 = .ok (.aload_n 0, 1) := by decide +kernel
theorem d_Fr_putMatch_66 : decode cc_Fr_putMatch 66 = .ok (.getfield 23, 3) := by decide +kernel
theorem d_Fr_putMatch_69 : decode cc_Fr_putMatch 69 = .ok (.aload_n 0, 1) := by decide +kernel
theorem d_Fr_putMatch_70 : decode cc_Fr_putMatch 70 = .ok (.getfield 51, 3) := by decide +kernel
theorem d_Fr_putMatch_73 : decode cc_Fr_putMatch 73 = .ok (.getfield 208, 3) := by decide +kernel
theorem d_Fr_putMatch_76 : decode cc_Fr_putMatch 76 = .ok (.aload_n 0, 1) := by decide +kernel
theorem d_Fr_putMatch_77 : decode cc_Fr_putMatch 77 = .ok (.getfield 51, 3) := by decide +kernel
theorem d_Fr_putMatch_80 : decode cc_Fr_putMatch 80 = .ok (.getfield 200, 3) := by decide +kernel
theorem d_Fr_putMatch_83 : decode cc_Fr_putMatch 83 = .ok (.invokevirtual 218, 3) := by decide +kernel
theorem d_Fr_putMatch_86 : decode cc_Fr_putMatch 86 = .ok (.iconst 0, 1) := by decide +kernel
theorem d_Fr_putMatch_87 : decode cc_Fr_putMatch 87 = .ok (.istore_n 2, 1) := by decide +kernel
theorem d_Fr_putMatch_88 : decode cc_Fr_putMatch 88 = .ok (.iload_n 2, 1) := by decide +kernel
theorem d_Fr_putMatch_89 : decode cc_Fr_putMatch 89 = .ok (.aload_n 0, 1) := by decide +kernel
theorem d_Fr_putMatch_90 : decode cc_Fr_putMatch 90 = .ok (.getfield 51, 3) := by decide +kernel
theorem d_Fr_putMatch_93 : decode cc_Fr_putMatch 93 = .ok (.getfield 215, 3) := by decide +kernel
theorem d_Fr_putMatch_96 : decode cc_Fr_putMatch 96 = .ok (.if_icmp .ge (33), 3) := by decide +kernel
theorem d_Fr_putMatch_99 : decode cc_Fr_putMatch 99 = .ok (.aload_n 0, 1) := by decide +kernel
theorem d_Fr_putMatch_100 : decode cc_Fr_putMatch 100 = .ok (.getfield 14, 3) := by decide +kernel
theorem d_Fr_putMatch_103 : decode cc_Fr_putMatch 103 = .ok (.aload_n 0, 1) := by decide +kernel
theorem d_Fr_putMatch_104 : decode cc_Fr_putMatch 104 = .ok (.getfield 14, 3) := by decide +kernel
theorem d_Fr_putMatch_107 : decode cc_Fr_putMatch 107 = .ok (.getfield 205, 3) := by decide +kernel
theorem d_Fr_putMatch_110 : decode cc_Fr_putMatch 110 = .ok (.aload_n 0, 1) := by decide +kernel
theorem d_Fr_putMatch_111 : decode cc_Fr_putMatch 111 = .ok (.getfield 14, 3) := by decide +kernel
theorem d_Fr_putMatch_114 : decode cc_Fr_putMatch 114 = .ok (.getfield 88, 3) := by decide +kernel
theorem d_Fr_putMatch_117 : decode cc_Fr_putMatch 117 = .ok (.iload_n 1, 1) := by decide +kernel
theorem d_Fr_putMatch_118 : decode cc_Fr_putMatch 118 = .ok (.isub, 1) := by decide +kernel
theorem d_Fr_putMatch_119 : decode cc_Fr_putMatch 119 = .ok (.iaload, 1) := by decide +kernel
theorem d_Fr_putMatch_120 : decode cc_Fr_putMatch 120 = .ok (.invokevirtual 119, 3) := by decide +kernel
theorem d_Fr_putMatch_123 : decode cc_Fr_putMatch 123 = .ok (.iinc 2 (1), 3) := by decide +kernel
theorem d_Fr_putMatch_126 : decode cc_Fr_putMatch 126 = .ok (.goto (-38), 3) := by decide +kernel
theorem d_Fr_putMatch_129 : decode cc_Fr_putMatch 129 = .ok (.return_, 1) := by decide +kernel
section
variable {p : Program} {l : Launch} {e : Env} {s : State} {m : MethodId} {args : Array Value} {below : List Frame} {meth : Method} {c : Code} {X : Xs} {L : La}
def b_Fr_putMatch_57 (L : La)  (i0 : Nat) (F : Mem) : Option Mem :=
  (f_Wr_refuse L (mRf L i0 1) F).bind fun F2 =>
  some F2
set_option maxHeartbeats 4000000 in
theorem t_Fr_putMatch_57 (hC : Cx X L p s m args meth c cc_Fr_putMatch 3 w_Fr_putMatch R_Fr none)  {out : Mem}  {i0 : Nat} {F : Mem} {H : Heap} {locs : List Loc} {ls : Array Slot} (o0 : oO L 9 i0) (hI : Iv X L s H locs F) (hl : lv_has ls 3 [(0, .ref (mAd X i0))]) (h : b_Fr_putMatch_57 L  i0 F = some out) : W p l e (headSpec w_Fr_putMatch r_Fr_putMatch).room s m args below meth c H locs 0 0 (MQ below (QV X L out) args s 0 0 (AA X L)) (F0 m 57 ls []) := by
  unfold b_Fr_putMatch_57 at h
  obtain ⟨S, hK, hT, hW, hr, hlk⟩ := id hC
  have hx := S.1
  have hb := S.2.1
  refine lv_aload_n hx hb d_Fr_putMatch_57 rfl (lv_at hl 0 rfl) ?_
  have p1 := wt_o hW o0 1 7 rfl (by decide) (by decide) (by decide)
  refine w_getR (T := T_Fr) S hK hI o0 rfl hin_Fr 1 (index := 42) (by decide) lf_Fr_42 d_Fr_putMatch_58 ?_
  obtain ⟨F2, e3, h⟩ := un_bi h
  refine w_callVv (As := []) (rest := []) S hK hI hT (c_Wr_refuse l hW p1 e3) (cwV 0 S.2.2.2.2 (gd_V lc_Wr_refuse lm_Fr_85 li_Wr_refuse ls_Wr_refuse ln_Wr) rfl rfl rfl hd_Wr_refuse ⟨Nat.le_of_ble_eq_true rfl, Nat.le_of_ble_eq_true rfl⟩) p1 rfl (by decide) rfl rfl hl.1 (Nat.le_of_ble_eq_true rfl) d_Fr_putMatch_61 ⟨Nat.zero_le _, Nat.zero_le _⟩ (fun H locs hI => ?_)
  exact w_vret S hK hr hlk hI d_Fr_putMatch_64 h
def b_Fr_putMatch_88 (L : La) (k88 : Nat → Int32 → Int32 → Mem → Option Mem) (i0 : Nat) (x1 : Int32) (x2 : Int32) (F : Mem) : Option Mem :=
  if (F (mRf L i0 2) 8) ≤ x2 then
    some F
  else
    if inb ((F (mRf L i0 0) 1) - x1) (mGl L (mRf L (mRf L i0 0) 0)) then none else
    (f_Row_add L (mRf L i0 0) (mGa L F (mRf L (mRf L i0 0) 0) ((F (mRf L i0 0) 1) - x1).toNatClampNeg) F).bind fun F7 =>
    k88 i0 x1 (x2 + (1 : Int32)) F7
set_option maxHeartbeats 4000000 in
theorem t_Fr_putMatch_88 (hC : Cx X L p s m args meth c cc_Fr_putMatch 3 w_Fr_putMatch R_Fr none) {k88 : Nat → Int32 → Int32 → Mem → Option Mem} {out : Mem} (hk88 : ∀ (i0 : Nat) (x1 : Int32) (x2 : Int32) (F : Mem) (H : Heap) (locs : List Loc) (ls : Array Slot), oO L 9 i0 → Iv X L s H locs F → lv_has ls 3 [(0, .ref (mAd X i0)), (1, .int x1), (2, .int x2)] → k88 i0 x1 x2 F = some out → W p l e (headSpec w_Fr_putMatch r_Fr_putMatch).room s m args below meth c H locs 0 0 (MQ below (QV X L out) args s 0 0 (AA X L)) (F0 m 88 ls [])) {i0 : Nat} {x1 : Int32} {x2 : Int32} {F : Mem} {H : Heap} {locs : List Loc} {ls : Array Slot} (o0 : oO L 9 i0) (hI : Iv X L s H locs F) (hl : lv_has ls 3 [(0, .ref (mAd X i0)), (1, .int x1), (2, .int x2)]) (h : b_Fr_putMatch_88 L k88 i0 x1 x2 F = some out) : W p l e (headSpec w_Fr_putMatch r_Fr_putMatch).room s m args below meth c H locs 0 0 (MQ below (QV X L out) args s 0 0 (AA X L)) (F0 m 88 ls []) := by
  unfold b_Fr_putMatch_88 at h
  obtain ⟨S, hK, hT, hW, hr, hlk⟩ := id hC
  have hx := S.1
  have hb := S.2.1
  refine lv_iload_n hx hb d_Fr_putMatch_88 rfl (lv_at hl 2 rfl) ?_
  refine lv_aload_n hx hb d_Fr_putMatch_89 rfl (lv_at hl 0 rfl) ?_
  have p1 := wt_o hW o0 2 8 rfl (by decide) (by decide) (by decide)
  refine w_getR (T := T_Fr) S hK hI o0 rfl hin_Fr 2 (index := 51) (by decide) lf_Fr_51 d_Fr_putMatch_90 ?_
  refine w_getI (T := T_Sq) S hK hI p1 rfl hin_Sq 8 (index := 215) (by decide) lf_Fr_215 d_Fr_putMatch_93 ?_
  refine lv_icmp_ge (tgt := 129) hx hb d_Fr_putMatch_96 rfl (fun hc => ?_) (fun hc => ?_)
  · replace h := (if_pos hc).symm.trans h
    exact w_vret S hK hr hlk hI d_Fr_putMatch_129 h
  · replace h := (if_neg hc).symm.trans h
    refine lv_aload_n hx hb d_Fr_putMatch_99 rfl (lv_at hl 0 rfl) ?_
    have p2 := wt_o hW o0 0 1 rfl (by decide) (by decide) (by decide)
    refine w_getR (T := T_Fr) S hK hI o0 rfl hin_Fr 0 (index := 14) (by decide) lf_Fr_14 d_Fr_putMatch_100 ?_
    refine lv_aload_n hx hb d_Fr_putMatch_103 rfl (lv_at hl 0 rfl) ?_
    have p3 := wt_o hW o0 0 1 rfl (by decide) (by decide) (by decide)
    refine w_getR (T := T_Fr) S hK hI o0 rfl hin_Fr 0 (index := 14) (by decide) lf_Fr_14 d_Fr_putMatch_104 ?_
    have p4 := wt_a hW p3 0 rfl (by decide) (by decide)
    refine w_getR (T := T_Row) S hK hI p3 rfl hin_Row 0 (index := 205) (by decide) lf_Fr_205 d_Fr_putMatch_107 ?_
    refine lv_aload_n hx hb d_Fr_putMatch_110 rfl (lv_at hl 0 rfl) ?_
    have p5 := wt_o hW o0 0 1 rfl (by decide) (by decide) (by decide)
    refine w_getR (T := T_Fr) S hK hI o0 rfl hin_Fr 0 (index := 14) (by decide) lf_Fr_14 d_Fr_putMatch_111 ?_
    refine w_getI (T := T_Row) S hK hI p5 rfl hin_Row 1 (index := 88) (by decide) lf_Fr_88 d_Fr_putMatch_114 ?_
    refine lv_iload_n hx hb d_Fr_putMatch_117 rfl (lv_at hl 1 rfl) ?_
    refine lv_isub hx hb d_Fr_putMatch_118 ?_
    obtain ⟨z6, h⟩ := un_if h
    refine w_iald S hK hI hT p4 z6 d_Fr_putMatch_119 ?_
    obtain ⟨F7, e8, h⟩ := un_bi h
    refine w_callVv (As := [.int (mGa L F (mRf L (mRf L i0 0) 0) ((F (mRf L i0 0) 1) - x1).toNatClampNeg)]) (rest := []) S hK hI hT (c_Row_add l hW p2 e8) (cwV 1 S.2.2.2.2 (gd_V lc_Row_add lm_Fr_119 li_Row_add ls_Row_add ln_Row) rfl rfl rfl hd_Row_add ⟨Nat.le_of_ble_eq_true rfl, Nat.le_of_ble_eq_true rfl⟩) p2 rfl (by decide) rfl rfl hl.1 (Nat.le_of_ble_eq_true rfl) d_Fr_putMatch_120 ⟨Nat.zero_le _, Nat.zero_le _⟩ (fun H locs hI => ?_)
    refine lv_iinc (k := 2) (v := x2 + (1 : Int32)) (lv' := [(2, .int (x2 + (1 : Int32))), (0, .ref (mAd X i0)), (1, .int x1)]) hx hb d_Fr_putMatch_123 hl rfl rfl (by decide) rfl (fun ls hl => ?_)
    refine lv_goto (tgt := 88) hx hb d_Fr_putMatch_126 rfl ?_
    exact hk88 _ _ _ _ _ _ _ o0 hI (lv_sub hl [1, 2, 0] rfl) h
def f_Fr_putMatch_88 (L : La)  : Nat → Nat → Int32 → Int32 → Mem → Option Mem
  | 0 => fun _ _ _ _ => none
  | n + 1 => b_Fr_putMatch_88 L (f_Fr_putMatch_88 L  n)
theorem tf_Fr_putMatch_88 (hC : Cx X L p s m args meth c cc_Fr_putMatch 3 w_Fr_putMatch R_Fr none)  {out : Mem}  (n : Nat) : ∀ (i0 : Nat) (x1 : Int32) (x2 : Int32) (F : Mem) (H : Heap) (locs : List Loc) (ls : Array Slot), oO L 9 i0 → Iv X L s H locs F → lv_has ls 3 [(0, .ref (mAd X i0)), (1, .int x1), (2, .int x2)] → f_Fr_putMatch_88 L  n i0 x1 x2 F = some out → W p l e (headSpec w_Fr_putMatch r_Fr_putMatch).room s m args below meth c H locs 0 0 (MQ below (QV X L out) args s 0 0 (AA X L)) (F0 m 88 ls []) := by
  induction n with
  | zero => intro i0 x1 x2 F H locs ls o0 hI hl h; cases h
  | succ n ih => intro i0 x1 x2 F H locs ls o0 hI hl h; exact t_Fr_putMatch_88 hC ih o0 hI hl h
def f_Fr_putMatch (L : La) (i0 : Nat) (F : Mem) : Option Mem :=
  (f_Rp_wayFor L (mRf L i0 3) (F (mRf L i0 2) 7) (F (mRf L i0 2) 6) F).bind fun q4 =>
  if q4.1 < (1 : Int32) then
    b_Fr_putMatch_57 L  i0 q4.2
  else
    if ((q4.2 (mRf L i0 0) 1) - (q4.2 i0 8)) < q4.1 then
      b_Fr_putMatch_57 L  i0 q4.2
    else
      (f_Fr_fits L i0 (q4.2 (mRf L i0 2) 8) q4.2).bind fun q8 =>
      if q8.1 = 0 then
        b_Fr_putMatch_57 L  i0 q8.2
      else
        (f_Rp_keepWay L (mRf L i0 3) (q8.2 (mRf L i0 2) 7) (q8.2 (mRf L i0 2) 6) q8.2).bind fun F13 =>
        f_Fr_putMatch_88 L  mFU i0 q4.1 (0 : Int32) F13
set_option maxHeartbeats 4000000 in
theorem c_Fr_putMatch (l : Launch) {X : Xs} {L : La} (hW : WT L) {out : Mem} {i0 : Nat} {F : Mem} (o0 : oO L 9 i0) (h : f_Fr_putMatch L i0 F = some out) : Met l y_Fr_putMatch w_Fr_putMatch r_Fr_putMatch (va_Pc [.ref (mAd X i0)] (Pr X L F)) (QV X L out) 0 0 (AA X L) := by
  refine mk_met (by decide) rfl (Nat.le_of_ble_eq_true rfl) hW ?_
  intro p e s m args below meth c ls hC hI hl
  have hl : lv_has ls 3 [(0, .ref (mAd X i0))] := hl
  generalize hHe : s.heap = H at hI ⊢
  generalize ([] : List Loc) = locs at hI ⊢
  unfold f_Fr_putMatch at h
  obtain ⟨S, hK, hT, hW, hr, hlk⟩ := id hC
  have hx := S.1
  have hb := S.2.1
  refine lv_aload_n hx hb d_Fr_putMatch_0 rfl (lv_at hl 0 rfl) ?_
  have p1 := wt_o hW o0 3 6 rfl (by decide) (by decide) (by decide)
  refine w_getR (T := T_Fr) S hK hI o0 rfl hin_Fr 3 (index := 23) (by decide) lf_Fr_23 d_Fr_putMatch_1 ?_
  refine lv_aload_n hx hb d_Fr_putMatch_4 rfl (lv_at hl 0 rfl) ?_
  have p2 := wt_o hW o0 2 8 rfl (by decide) (by decide) (by decide)
  refine w_getR (T := T_Fr) S hK hI o0 rfl hin_Fr 2 (index := 51) (by decide) lf_Fr_51 d_Fr_putMatch_5 ?_
  refine w_getI (T := T_Sq) S hK hI p2 rfl hin_Sq 7 (index := 208) (by decide) lf_Fr_208 d_Fr_putMatch_8 ?_
  refine lv_aload_n hx hb d_Fr_putMatch_11 rfl (lv_at hl 0 rfl) ?_
  have p3 := wt_o hW o0 2 8 rfl (by decide) (by decide) (by decide)
  refine w_getR (T := T_Fr) S hK hI o0 rfl hin_Fr 2 (index := 51) (by decide) lf_Fr_51 d_Fr_putMatch_12 ?_
  refine w_getI (T := T_Sq) S hK hI p3 rfl hin_Sq 6 (index := 200) (by decide) lf_Fr_200 d_Fr_putMatch_15 ?_
  obtain ⟨q4, e5, h⟩ := un_bi h
  refine w_callVi (As := [.int (F (mRf L i0 2) 7), .int (F (mRf L i0 2) 6)]) (rest := []) S hK hI hT (c_Rp_wayFor l hW p1 e5) (cwV 2 S.2.2.2.2 (gd_V lc_Rp_wayFor lm_Fr_211 li_Rp_wayFor ls_Rp_wayFor ln_Rp) rfl rfl rfl hd_Rp_wayFor ⟨Nat.le_of_ble_eq_true rfl, Nat.le_of_ble_eq_true rfl⟩) p1 rfl (by decide) rfl rfl hl.1 (Nat.le_of_ble_eq_true rfl) d_Fr_putMatch_18 ⟨Nat.zero_le _, Nat.zero_le _⟩ (fun H locs hI => ?_)
  refine lv_istore_n (lv' := [(1, .int q4.1), (0, .ref (mAd X i0))]) hx hb d_Fr_putMatch_21 rfl hl (by decide) rfl (fun ls hl => ?_)
  refine lv_iload_n hx hb d_Fr_putMatch_22 rfl (lv_at hl 0 rfl) ?_
  refine lv_iconst (v := 1) hx hb d_Fr_putMatch_23 rfl ?_
  refine lv_icmp_lt (tgt := 57) hx hb d_Fr_putMatch_24 rfl (fun hc => ?_) (fun hc => ?_)
  · replace h := (if_pos hc).symm.trans h
    exact t_Fr_putMatch_57 hC  o0 hI (lv_sub hl [1] rfl) h
  · replace h := (if_neg hc).symm.trans h
    refine lv_iload_n hx hb d_Fr_putMatch_27 rfl (lv_at hl 0 rfl) ?_
    refine lv_aload_n hx hb d_Fr_putMatch_28 rfl (lv_at hl 1 rfl) ?_
    have p6 := wt_o hW o0 0 1 rfl (by decide) (by decide) (by decide)
    refine w_getR (T := T_Fr) S hK hI o0 rfl hin_Fr 0 (index := 14) (by decide) lf_Fr_14 d_Fr_putMatch_29 ?_
    refine w_getI (T := T_Row) S hK hI p6 rfl hin_Row 1 (index := 88) (by decide) lf_Fr_88 d_Fr_putMatch_32 ?_
    refine lv_aload_n hx hb d_Fr_putMatch_35 rfl (lv_at hl 1 rfl) ?_
    refine w_getI (T := T_Fr) S hK hI o0 rfl hin_Fr 8 (index := 95) (by decide) lf_Fr_95 d_Fr_putMatch_36 ?_
    refine lv_isub hx hb d_Fr_putMatch_39 ?_
    refine lv_icmp_gt (tgt := 57) hx hb d_Fr_putMatch_40 rfl (fun hc => ?_) (fun hc => ?_)
    · replace h := (if_pos hc).symm.trans h
      exact t_Fr_putMatch_57 hC  o0 hI (lv_sub hl [1] rfl) h
    · replace h := (if_neg hc).symm.trans h
      refine lv_aload_n hx hb d_Fr_putMatch_43 rfl (lv_at hl 1 rfl) ?_
      refine lv_aload_n hx hb d_Fr_putMatch_44 rfl (lv_at hl 1 rfl) ?_
      have p7 := wt_o hW o0 2 8 rfl (by decide) (by decide) (by decide)
      refine w_getR (T := T_Fr) S hK hI o0 rfl hin_Fr 2 (index := 51) (by decide) lf_Fr_51 d_Fr_putMatch_45 ?_
      refine w_getI (T := T_Sq) S hK hI p7 rfl hin_Sq 8 (index := 215) (by decide) lf_Fr_215 d_Fr_putMatch_48 ?_
      obtain ⟨q8, e9, h⟩ := un_bi h
      refine w_callVi (As := [.int (q4.2 (mRf L i0 2) 8)]) (rest := []) S hK hI hT (c_Fr_fits l hW o0 e9) (cwV 1 S.2.2.2.2 (gd_V lc_Fr_fits lm_Fr_116 li_Fr_fits ls_Fr_fits ln_Fr) rfl rfl rfl hd_Fr_fits ⟨Nat.le_of_ble_eq_true rfl, Nat.le_of_ble_eq_true rfl⟩) o0 rfl (by decide) rfl rfl hl.1 (Nat.le_of_ble_eq_true rfl) d_Fr_putMatch_51 ⟨Nat.zero_le _, Nat.zero_le _⟩ (fun H locs hI => ?_)
      refine lv_if_ne (tgt := 65) hx hb d_Fr_putMatch_54 rfl (fun hc => ?_) (fun hc => ?_)
      · replace h := (if_neg hc).symm.trans h
        refine lv_aload_n hx hb d_Fr_putMatch_65 rfl (lv_at hl 1 rfl) ?_
        have p10 := wt_o hW o0 3 6 rfl (by decide) (by decide) (by decide)
        refine w_getR (T := T_Fr) S hK hI o0 rfl hin_Fr 3 (index := 23) (by decide) lf_Fr_23 d_Fr_putMatch_66 ?_
        refine lv_aload_n hx hb d_Fr_putMatch_69 rfl (lv_at hl 1 rfl) ?_
        have p11 := wt_o hW o0 2 8 rfl (by decide) (by decide) (by decide)
        refine w_getR (T := T_Fr) S hK hI o0 rfl hin_Fr 2 (index := 51) (by decide) lf_Fr_51 d_Fr_putMatch_70 ?_
        refine w_getI (T := T_Sq) S hK hI p11 rfl hin_Sq 7 (index := 208) (by decide) lf_Fr_208 d_Fr_putMatch_73 ?_
        refine lv_aload_n hx hb d_Fr_putMatch_76 rfl (lv_at hl 1 rfl) ?_
        have p12 := wt_o hW o0 2 8 rfl (by decide) (by decide) (by decide)
        refine w_getR (T := T_Fr) S hK hI o0 rfl hin_Fr 2 (index := 51) (by decide) lf_Fr_51 d_Fr_putMatch_77 ?_
        refine w_getI (T := T_Sq) S hK hI p12 rfl hin_Sq 6 (index := 200) (by decide) lf_Fr_200 d_Fr_putMatch_80 ?_
        obtain ⟨F13, e14, h⟩ := un_bi h
        refine w_callVv (As := [.int (q8.2 (mRf L i0 2) 7), .int (q8.2 (mRf L i0 2) 6)]) (rest := []) S hK hI hT (c_Rp_keepWay l hW p10 e14) (cwV 2 S.2.2.2.2 (gd_V lc_Rp_keepWay lm_Fr_218 li_Rp_keepWay ls_Rp_keepWay ln_Rp) rfl rfl rfl hd_Rp_keepWay ⟨Nat.le_of_ble_eq_true rfl, Nat.le_of_ble_eq_true rfl⟩) p10 rfl (by decide) rfl rfl hl.1 (Nat.le_of_ble_eq_true rfl) d_Fr_putMatch_83 ⟨Nat.zero_le _, Nat.zero_le _⟩ (fun H locs hI => ?_)
        refine lv_iconst (v := 0) hx hb d_Fr_putMatch_86 rfl ?_
        refine lv_istore_n (lv' := [(2, .int (0 : Int32)), (1, .int q4.1), (0, .ref (mAd X i0))]) hx hb d_Fr_putMatch_87 rfl hl (by decide) rfl (fun ls hl => ?_)
        exact tf_Fr_putMatch_88 hC  mFU _ _ _ _ _ _ _ o0 hI (lv_sub hl [2, 1, 0] rfl) h
      · replace h := (if_pos hc).symm.trans h
        exact t_Fr_putMatch_57 hC  o0 hI (lv_sub hl [1] rfl) h
end
theorem d_Fr_readSequences_0 : decode cc_Fr_readSequences 0 = .ok (.aload_n 0, 1) := by decide +kernel
theorem d_Fr_readSequences_1 : decode cc_Fr_readSequences 1 = .ok (.getfield 42, 3) := by decide +kernel
theorem d_Fr_readSequences_4 : decode cc_Fr_readSequences 4 = .ok (.aload_n 0, 1) := by decide +kernel
theorem d_Fr_readSequences_5 : decode cc_Fr_readSequences 5 = .ok (.getfield 42, 3) := by decide +kernel
theorem d_Fr_readSequences_8 : decode cc_Fr_readSequences 8 = .ok (.invokevirtual 113, 3) := by decide +kernel
theorem d_Fr_readSequences_11 : decode cc_Fr_readSequences 11 = .ok (.invokevirtual 170, 3) := by decide +kernel
theorem d_Fr_readSequences_14 : decode cc_Fr_readSequences 14 = .ok (.aload_n 0, 1) := by decide +kernel
theorem d_Fr_readSequences_15 : decode cc_Fr_readSequences 15 = .ok (.getfield 51, 3) := by decide +kernel
theorem d_Fr_readSequences_18 : decode cc_Fr_readSequences 18 = .ok (.invokevirtual 191, 3) := by decide +kernel
theorem d_Fr_readSequences_21 : decode cc_Fr_readSequences 21 = .ok (.iconst 0, 1) := by decide +kernel
theorem d_Fr_readSequences_22 : decode cc_Fr_readSequences 22 = .ok (.istore_n 2, 1) := by decide +kernel
theorem d_Fr_readSequences_23 : decode cc_Fr_readSequences 23 = .ok (.iload_n 2, 1) := by decide +kernel
theorem d_Fr_readSequences_24 : decode cc_Fr_readSequences 24 = .ok (.iload_n 1, 1) := by decide +kernel
theorem d_Fr_readSequences_25 : decode cc_Fr_readSequences 25 = .ok (.if_icmp .ge (52), 3) := by decide +kernel
theorem d_Fr_readSequences_28 : decode cc_Fr_readSequences 28 = .ok (.aload_n 0, 1) := by decide +kernel
theorem d_Fr_readSequences_29 : decode cc_Fr_readSequences 29 = .ok (.getfield 42, 3) := by decide +kernel
theorem d_Fr_readSequences_32 : decode cc_Fr_readSequences 32 = .ok (.getfield 72, 3) := by decide +kernel
theorem d_Fr_readSequences_35 : decode cc_Fr_readSequences 35 = .ok (.ifCond .eq (42), 3) := by decide +kernel
theorem d_Fr_readSequences_38 : decode cc_Fr_readSequences 38 = .ok (.iload_n 2, 1) := by decide +kernel
theorem d_Fr_readSequences_39 : decode cc_Fr_readSequences 39 = .ok (.ifCond .le (10), 3) := by decide +kernel
theorem d_Fr_readSequences_42 : decode cc_Fr_readSequences 42 = .ok (.aload_n 0, 1) := by decide +kernel
theorem d_Fr_readSequences_43 : decode cc_Fr_readSequences 43 = .ok (.getfield 51, 3) := by decide +kernel
theorem d_Fr_readSequences_46 : decode cc_Fr_readSequences 46 = .ok (.invokevirtual 194, 3) := by decide +kernel
theorem d_Fr_readSequences_49 : decode cc_Fr_readSequences 49 = .ok (.aload_n 0, 1) := by decide +kernel
theorem d_Fr_readSequences_50 : decode cc_Fr_readSequences 50 = .ok (.getfield 51, 3) := by decide +kernel
theorem d_Fr_readSequences_53 : decode cc_Fr_readSequences 53 = .ok (.invokevirtual 197, 3) := by decide +kernel
theorem d_Fr_readSequences_56 : decode cc_Fr_readSequences 56 = .ok (.aload_n 0, 1) := by decide +kernel
theorem d_Fr_readSequences_57 : decode cc_Fr_readSequences 57 = .ok (.aload_n 0, 1) := by decide +kernel
theorem d_Fr_readSequences_58 : decode cc_Fr_readSequences 58 = .ok (.getfield 51, 3) := by decide +kernel
theorem d_Fr_readSequences_61 : decode cc_Fr_readSequences 61 = .ok (.getfield 200, 3) := by decide +kernel
theorem d_Fr_readSequences_64 : decode cc_Fr_readSequences 64 = .ok (.invokevirtual 141, 3) := by decide +kernel
theorem d_Fr_readSequences_67 : decode cc_Fr_readSequences 67 = .ok (.aload_n 0, 1) := by decide +kernel
theorem d_Fr_readSequences_68 : decode cc_Fr_readSequences 68 = .ok (.invokevirtual 202, 3) := by decide +kernel
theorem d_Fr_readSequences_71 : decode cc_Fr_readSequences 71 = .ok (.iinc 2 (1), 3) := by decide +kernel
theorem d_Fr_readSequences_74 : decode cc_Fr_readSequences 74 = .ok (.goto (-51), 3) := by decide +kernel
theorem d_Fr_readSequences_77 : decode cc_Fr_readSequences 77 = .ok (.aload_n 0, 1) := by decide +kernel
theorem d_Fr_readSequences_78 : decode cc_Fr_readSequences 78 = .ok (.getfield 42, 3) := by decide +kernel
theorem d_Fr_readSequences_81 : decode cc_Fr_readSequences 81 = .ok (.invokevirtual 188, 3) := by decide +kernel
theorem d_Fr_readSequences_84 : decode cc_Fr_readSequences 84 = .ok (.return_, 1) := by decide +kernel
section
variable {p : Program} {l : Launch} {e : Env} {s : State} {m : MethodId} {args : Array Value} {below : List Frame} {meth : Method} {c : Code} {X : Xs} {L : La}
def b_Fr_readSequences_77 (L : La)  (i0 : Nat) (F : Mem) : Option Mem :=
  (f_Wr_endStream L (mRf L i0 1) F).bind fun F2 =>
  some F2
set_option maxHeartbeats 4000000 in
theorem t_Fr_readSequences_77 (hC : Cx X L p s m args meth c cc_Fr_readSequences 3 w_Fr_readSequences R_Fr none)  {out : Mem}  {i0 : Nat} {F : Mem} {H : Heap} {locs : List Loc} {ls : Array Slot} (o0 : oO L 9 i0) (hI : Iv X L s H locs F) (hl : lv_has ls 3 [(0, .ref (mAd X i0))]) (h : b_Fr_readSequences_77 L  i0 F = some out) : W p l e (headSpec w_Fr_readSequences r_Fr_readSequences).room s m args below meth c H locs 0 0 (MQ below (QV X L out) args s 0 0 (AA X L)) (F0 m 77 ls []) := by
  unfold b_Fr_readSequences_77 at h
  obtain ⟨S, hK, hT, hW, hr, hlk⟩ := id hC
  have hx := S.1
  have hb := S.2.1
  refine lv_aload_n hx hb d_Fr_readSequences_77 rfl (lv_at hl 0 rfl) ?_
  have p1 := wt_o hW o0 1 7 rfl (by decide) (by decide) (by decide)
  refine w_getR (T := T_Fr) S hK hI o0 rfl hin_Fr 1 (index := 42) (by decide) lf_Fr_42 d_Fr_readSequences_78 ?_
  obtain ⟨F2, e3, h⟩ := un_bi h
  refine w_callVv (As := []) (rest := []) S hK hI hT (c_Wr_endStream l hW p1 e3) (cwV 0 S.2.2.2.2 (gd_V lc_Wr_endStream lm_Fr_188 li_Wr_endStream ls_Wr_endStream ln_Wr) rfl rfl rfl hd_Wr_endStream ⟨Nat.le_of_ble_eq_true rfl, Nat.le_of_ble_eq_true rfl⟩) p1 rfl (by decide) rfl rfl hl.1 (Nat.le_of_ble_eq_true rfl) d_Fr_readSequences_81 ⟨Nat.zero_le _, Nat.zero_le _⟩ (fun H locs hI => ?_)
  exact w_vret S hK hr hlk hI d_Fr_readSequences_84 h
def b_Fr_readSequences_49 (L : La) (k23 : Nat → Int32 → Int32 → Mem → Option Mem) (i0 : Nat) (x1 : Int32) (x2 : Int32) (F : Mem) : Option Mem :=
  (f_Sq_takeSequence L (mRf L i0 2) F).bind fun F2 =>
  (f_Fr_putLiterals L i0 (F2 (mRf L i0 2) 6) F2).bind fun F5 =>
  (f_Fr_putMatch L i0 F5).bind fun F7 =>
  k23 i0 x1 (x2 + (1 : Int32)) F7
set_option maxHeartbeats 4000000 in
theorem t_Fr_readSequences_49 (hC : Cx X L p s m args meth c cc_Fr_readSequences 3 w_Fr_readSequences R_Fr none) {k23 : Nat → Int32 → Int32 → Mem → Option Mem} {out : Mem} (hk23 : ∀ (i0 : Nat) (x1 : Int32) (x2 : Int32) (F : Mem) (H : Heap) (locs : List Loc) (ls : Array Slot), oO L 9 i0 → Iv X L s H locs F → lv_has ls 3 [(0, .ref (mAd X i0)), (1, .int x1), (2, .int x2)] → k23 i0 x1 x2 F = some out → W p l e (headSpec w_Fr_readSequences r_Fr_readSequences).room s m args below meth c H locs 0 0 (MQ below (QV X L out) args s 0 0 (AA X L)) (F0 m 23 ls [])) {i0 : Nat} {x1 : Int32} {x2 : Int32} {F : Mem} {H : Heap} {locs : List Loc} {ls : Array Slot} (o0 : oO L 9 i0) (hI : Iv X L s H locs F) (hl : lv_has ls 3 [(0, .ref (mAd X i0)), (1, .int x1), (2, .int x2)]) (h : b_Fr_readSequences_49 L k23 i0 x1 x2 F = some out) : W p l e (headSpec w_Fr_readSequences r_Fr_readSequences).room s m args below meth c H locs 0 0 (MQ below (QV X L out) args s 0 0 (AA X L)) (F0 m 49 ls []) := by
  unfold b_Fr_readSequences_49 at h
  obtain ⟨S, hK, hT, hW, hr, hlk⟩ := id hC
  have hx := S.1
  have hb := S.2.1
  refine lv_aload_n hx hb d_Fr_readSequences_49 rfl (lv_at hl 0 rfl) ?_
  have p1 := wt_o hW o0 2 8 rfl (by decide) (by decide) (by decide)
  refine w_getR (T := T_Fr) S hK hI o0 rfl hin_Fr 2 (index := 51) (by decide) lf_Fr_51 d_Fr_readSequences_50 ?_
  obtain ⟨F2, e3, h⟩ := un_bi h
  refine w_callVv (As := []) (rest := []) S hK hI hT (c_Sq_takeSequence l hW p1 e3) (cwV 0 S.2.2.2.2 (gd_V lc_Sq_takeSequence lm_Fr_197 li_Sq_takeSequence ls_Sq_takeSequence ln_Sq) rfl rfl rfl hd_Sq_takeSequence ⟨Nat.le_of_ble_eq_true rfl, Nat.le_of_ble_eq_true rfl⟩) p1 rfl (by decide) rfl rfl hl.1 (Nat.le_of_ble_eq_true rfl) d_Fr_readSequences_53 ⟨Nat.zero_le _, Nat.zero_le _⟩ (fun H locs hI => ?_)
  refine lv_aload_n hx hb d_Fr_readSequences_56 rfl (lv_at hl 0 rfl) ?_
  refine lv_aload_n hx hb d_Fr_readSequences_57 rfl (lv_at hl 0 rfl) ?_
  have p4 := wt_o hW o0 2 8 rfl (by decide) (by decide) (by decide)
  refine w_getR (T := T_Fr) S hK hI o0 rfl hin_Fr 2 (index := 51) (by decide) lf_Fr_51 d_Fr_readSequences_58 ?_
  refine w_getI (T := T_Sq) S hK hI p4 rfl hin_Sq 6 (index := 200) (by decide) lf_Fr_200 d_Fr_readSequences_61 ?_
  obtain ⟨F5, e6, h⟩ := un_bi h
  refine w_callVv (As := [.int (F2 (mRf L i0 2) 6)]) (rest := []) S hK hI hT (c_Fr_putLiterals l hW o0 e6) (cwV 1 S.2.2.2.2 (gd_V lc_Fr_putLiterals lm_Fr_141 li_Fr_putLiterals ls_Fr_putLiterals ln_Fr) rfl rfl rfl hd_Fr_putLiterals ⟨Nat.le_of_ble_eq_true rfl, Nat.le_of_ble_eq_true rfl⟩) o0 rfl (by decide) rfl rfl hl.1 (Nat.le_of_ble_eq_true rfl) d_Fr_readSequences_64 ⟨Nat.zero_le _, Nat.zero_le _⟩ (fun H locs hI => ?_)
  refine lv_aload_n hx hb d_Fr_readSequences_67 rfl (lv_at hl 0 rfl) ?_
  obtain ⟨F7, e8, h⟩ := un_bi h
  refine w_callVv (As := []) (rest := []) S hK hI hT (c_Fr_putMatch l hW o0 e8) (cwV 0 S.2.2.2.2 (gd_V lc_Fr_putMatch lm_Fr_202 li_Fr_putMatch ls_Fr_putMatch ln_Fr) rfl rfl rfl hd_Fr_putMatch ⟨Nat.le_of_ble_eq_true rfl, Nat.le_of_ble_eq_true rfl⟩) o0 rfl (by decide) rfl rfl hl.1 (Nat.le_of_ble_eq_true rfl) d_Fr_readSequences_68 ⟨Nat.zero_le _, Nat.zero_le _⟩ (fun H locs hI => ?_)
  refine lv_iinc (k := 2) (v := x2 + (1 : Int32)) (lv' := [(2, .int (x2 + (1 : Int32))), (0, .ref (mAd X i0)), (1, .int x1)]) hx hb d_Fr_readSequences_71 hl rfl rfl (by decide) rfl (fun ls hl => ?_)
  refine lv_goto (tgt := 23) hx hb d_Fr_readSequences_74 rfl ?_
  exact hk23 _ _ _ _ _ _ _ o0 hI (lv_sub hl [1, 2, 0] rfl) h
def b_Fr_readSequences_23 (L : La) (k23 : Nat → Int32 → Int32 → Mem → Option Mem) (i0 : Nat) (x1 : Int32) (x2 : Int32) (F : Mem) : Option Mem :=
  if x1 ≤ x2 then
    b_Fr_readSequences_77 L  i0 F
  else
    if (F (mRf L i0 1) 3) = 0 then
      b_Fr_readSequences_77 L  i0 F
    else
      if x2 ≤ 0 then
        b_Fr_readSequences_49 L k23 i0 x1 x2 F
      else
        (f_Sq_takeNextStates L (mRf L i0 2) F).bind fun F3 =>
        b_Fr_readSequences_49 L k23 i0 x1 x2 F3
set_option maxHeartbeats 4000000 in
theorem t_Fr_readSequences_23 (hC : Cx X L p s m args meth c cc_Fr_readSequences 3 w_Fr_readSequences R_Fr none) {k23 : Nat → Int32 → Int32 → Mem → Option Mem} {out : Mem} (hk23 : ∀ (i0 : Nat) (x1 : Int32) (x2 : Int32) (F : Mem) (H : Heap) (locs : List Loc) (ls : Array Slot), oO L 9 i0 → Iv X L s H locs F → lv_has ls 3 [(0, .ref (mAd X i0)), (1, .int x1), (2, .int x2)] → k23 i0 x1 x2 F = some out → W p l e (headSpec w_Fr_readSequences r_Fr_readSequences).room s m args below meth c H locs 0 0 (MQ below (QV X L out) args s 0 0 (AA X L)) (F0 m 23 ls [])) {i0 : Nat} {x1 : Int32} {x2 : Int32} {F : Mem} {H : Heap} {locs : List Loc} {ls : Array Slot} (o0 : oO L 9 i0) (hI : Iv X L s H locs F) (hl : lv_has ls 3 [(0, .ref (mAd X i0)), (1, .int x1), (2, .int x2)]) (h : b_Fr_readSequences_23 L k23 i0 x1 x2 F = some out) : W p l e (headSpec w_Fr_readSequences r_Fr_readSequences).room s m args below meth c H locs 0 0 (MQ below (QV X L out) args s 0 0 (AA X L)) (F0 m 23 ls []) := by
  unfold b_Fr_readSequences_23 at h
  obtain ⟨S, hK, hT, hW, hr, hlk⟩ := id hC
  have hx := S.1
  have hb := S.2.1
  refine lv_iload_n hx hb d_Fr_readSequences_23 rfl (lv_at hl 2 rfl) ?_
  refine lv_iload_n hx hb d_Fr_readSequences_24 rfl (lv_at hl 1 rfl) ?_
  refine lv_icmp_ge (tgt := 77) hx hb d_Fr_readSequences_25 rfl (fun hc => ?_) (fun hc => ?_)
  · replace h := (if_pos hc).symm.trans h
    exact t_Fr_readSequences_77 hC  o0 hI (lv_sub hl [0] rfl) h
  · replace h := (if_neg hc).symm.trans h
    refine lv_aload_n hx hb d_Fr_readSequences_28 rfl (lv_at hl 0 rfl) ?_
    have p1 := wt_o hW o0 1 7 rfl (by decide) (by decide) (by decide)
    refine w_getR (T := T_Fr) S hK hI o0 rfl hin_Fr 1 (index := 42) (by decide) lf_Fr_42 d_Fr_readSequences_29 ?_
    refine w_getI (T := T_Wr) S hK hI p1 rfl hin_Wr 3 (index := 72) (by decide) lf_Fr_72 d_Fr_readSequences_32 ?_
    refine lv_if_eq (tgt := 77) hx hb d_Fr_readSequences_35 rfl (fun hc => ?_) (fun hc => ?_)
    · replace h := (if_pos hc).symm.trans h
      exact t_Fr_readSequences_77 hC  o0 hI (lv_sub hl [0] rfl) h
    · replace h := (if_neg hc).symm.trans h
      refine lv_iload_n hx hb d_Fr_readSequences_38 rfl (lv_at hl 2 rfl) ?_
      refine lv_if_le (tgt := 49) hx hb d_Fr_readSequences_39 rfl (fun hc => ?_) (fun hc => ?_)
      · replace h := (if_pos hc).symm.trans h
        exact t_Fr_readSequences_49 hC hk23 o0 hI hl h
      · replace h := (if_neg hc).symm.trans h
        refine lv_aload_n hx hb d_Fr_readSequences_42 rfl (lv_at hl 0 rfl) ?_
        have p2 := wt_o hW o0 2 8 rfl (by decide) (by decide) (by decide)
        refine w_getR (T := T_Fr) S hK hI o0 rfl hin_Fr 2 (index := 51) (by decide) lf_Fr_51 d_Fr_readSequences_43 ?_
        obtain ⟨F3, e4, h⟩ := un_bi h
        refine w_callVv (As := []) (rest := []) S hK hI hT (c_Sq_takeNextStates l hW p2 e4) (cwV 0 S.2.2.2.2 (gd_V lc_Sq_takeNextStates lm_Fr_194 li_Sq_takeNextStates ls_Sq_takeNextStates ln_Sq) rfl rfl rfl hd_Sq_takeNextStates ⟨Nat.le_of_ble_eq_true rfl, Nat.le_of_ble_eq_true rfl⟩) p2 rfl (by decide) rfl rfl hl.1 (Nat.le_of_ble_eq_true rfl) d_Fr_readSequences_46 ⟨Nat.zero_le _, Nat.zero_le _⟩ (fun H locs hI => ?_)
        exact t_Fr_readSequences_49 hC hk23 o0 hI hl h
def f_Fr_readSequences_23 (L : La)  : Nat → Nat → Int32 → Int32 → Mem → Option Mem
  | 0 => fun _ _ _ _ => none
  | n + 1 => b_Fr_readSequences_23 L (f_Fr_readSequences_23 L  n)
theorem tf_Fr_readSequences_23 (hC : Cx X L p s m args meth c cc_Fr_readSequences 3 w_Fr_readSequences R_Fr none)  {out : Mem}  (n : Nat) : ∀ (i0 : Nat) (x1 : Int32) (x2 : Int32) (F : Mem) (H : Heap) (locs : List Loc) (ls : Array Slot), oO L 9 i0 → Iv X L s H locs F → lv_has ls 3 [(0, .ref (mAd X i0)), (1, .int x1), (2, .int x2)] → f_Fr_readSequences_23 L  n i0 x1 x2 F = some out → W p l e (headSpec w_Fr_readSequences r_Fr_readSequences).room s m args below meth c H locs 0 0 (MQ below (QV X L out) args s 0 0 (AA X L)) (F0 m 23 ls []) := by
  induction n with
  | zero => intro i0 x1 x2 F H locs ls o0 hI hl h; cases h
  | succ n ih => intro i0 x1 x2 F H locs ls o0 hI hl h; exact t_Fr_readSequences_23 hC ih o0 hI hl h
def f_Fr_readSequences (L : La) (i0 : Nat) (x1 : Int32) (F : Mem) : Option Mem :=
  (f_Wr_bytesLeft L (mRf L i0 1) F).bind fun q3 =>
  (f_Wr_beginStream L (mRf L i0 1) q3.1 q3.2).bind fun F5 =>
  (f_Sq_takeFirstStates L (mRf L i0 2) F5).bind fun F8 =>
  f_Fr_readSequences_23 L  mFU i0 x1 (0 : Int32) F8
set_option maxHeartbeats 4000000 in
theorem c_Fr_readSequences (l : Launch) {X : Xs} {L : La} (hW : WT L) {out : Mem} {i0 : Nat} {x1 : Int32} {F : Mem} (o0 : oO L 9 i0) (h : f_Fr_readSequences L i0 x1 F = some out) : Met l y_Fr_readSequences w_Fr_readSequences r_Fr_readSequences (va_Pc [.ref (mAd X i0), .int x1] (Pr X L F)) (QV X L out) 0 0 (AA X L) := by
  refine mk_met (by decide) rfl (Nat.le_of_ble_eq_true rfl) hW ?_
  intro p e s m args below meth c ls hC hI hl
  have hl : lv_has ls 3 [(0, .ref (mAd X i0)), (1, .int x1)] := hl
  generalize hHe : s.heap = H at hI ⊢
  generalize ([] : List Loc) = locs at hI ⊢
  unfold f_Fr_readSequences at h
  obtain ⟨S, hK, hT, hW, hr, hlk⟩ := id hC
  have hx := S.1
  have hb := S.2.1
  refine lv_aload_n hx hb d_Fr_readSequences_0 rfl (lv_at hl 0 rfl) ?_
  have p1 := wt_o hW o0 1 7 rfl (by decide) (by decide) (by decide)
  refine w_getR (T := T_Fr) S hK hI o0 rfl hin_Fr 1 (index := 42) (by decide) lf_Fr_42 d_Fr_readSequences_1 ?_
  refine lv_aload_n hx hb d_Fr_readSequences_4 rfl (lv_at hl 0 rfl) ?_
  have p2 := wt_o hW o0 1 7 rfl (by decide) (by decide) (by decide)
  refine w_getR (T := T_Fr) S hK hI o0 rfl hin_Fr 1 (index := 42) (by decide) lf_Fr_42 d_Fr_readSequences_5 ?_
  obtain ⟨q3, e4, h⟩ := un_bi h
  refine w_callVi (As := []) (rest := [.ref (mAd X (mRf L i0 1))]) S hK hI hT (c_Wr_bytesLeft l hW p2 e4) (cwV 0 S.2.2.2.2 (gd_V lc_Wr_bytesLeft lm_Fr_113 li_Wr_bytesLeft ls_Wr_bytesLeft ln_Wr) rfl rfl rfl hd_Wr_bytesLeft ⟨Nat.le_of_ble_eq_true rfl, Nat.le_of_ble_eq_true rfl⟩) p2 rfl (by decide) rfl rfl hl.1 (Nat.le_of_ble_eq_true rfl) d_Fr_readSequences_8 ⟨Nat.zero_le _, Nat.zero_le _⟩ (fun H locs hI => ?_)
  obtain ⟨F5, e6, h⟩ := un_bi h
  refine w_callVv (As := [.int q3.1]) (rest := []) S hK hI hT (c_Wr_beginStream l hW p1 e6) (cwV 1 S.2.2.2.2 (gd_V lc_Wr_beginStream lm_Fr_170 li_Wr_beginStream ls_Wr_beginStream ln_Wr) rfl rfl rfl hd_Wr_beginStream ⟨Nat.le_of_ble_eq_true rfl, Nat.le_of_ble_eq_true rfl⟩) p1 rfl (by decide) rfl rfl hl.1 (Nat.le_of_ble_eq_true rfl) d_Fr_readSequences_11 ⟨Nat.zero_le _, Nat.zero_le _⟩ (fun H locs hI => ?_)
  refine lv_aload_n hx hb d_Fr_readSequences_14 rfl (lv_at hl 0 rfl) ?_
  have p7 := wt_o hW o0 2 8 rfl (by decide) (by decide) (by decide)
  refine w_getR (T := T_Fr) S hK hI o0 rfl hin_Fr 2 (index := 51) (by decide) lf_Fr_51 d_Fr_readSequences_15 ?_
  obtain ⟨F8, e9, h⟩ := un_bi h
  refine w_callVv (As := []) (rest := []) S hK hI hT (c_Sq_takeFirstStates l hW p7 e9) (cwV 0 S.2.2.2.2 (gd_V lc_Sq_takeFirstStates lm_Fr_191 li_Sq_takeFirstStates ls_Sq_takeFirstStates ln_Sq) rfl rfl rfl hd_Sq_takeFirstStates ⟨Nat.le_of_ble_eq_true rfl, Nat.le_of_ble_eq_true rfl⟩) p7 rfl (by decide) rfl rfl hl.1 (Nat.le_of_ble_eq_true rfl) d_Fr_readSequences_18 ⟨Nat.zero_le _, Nat.zero_le _⟩ (fun H locs hI => ?_)
  refine lv_iconst (v := 0) hx hb d_Fr_readSequences_21 rfl ?_
  refine lv_istore_n (lv' := [(2, .int (0 : Int32)), (0, .ref (mAd X i0)), (1, .int x1)]) hx hb d_Fr_readSequences_22 rfl hl (by decide) rfl (fun ls hl => ?_)
  exact tf_Fr_readSequences_23 hC  mFU _ _ _ _ _ _ _ o0 hI (lv_sub hl [1, 2, 0] rfl) h
end
theorem d_Fr_readPack_0 : decode cc_Fr_readPack 0 = .ok (.iload_n 1, 1) := by decide +kernel
theorem d_Fr_readPack_1 : decode cc_Fr_readPack 1 = .ok (.aload_n 0, 1) := by decide +kernel
theorem d_Fr_readPack_2 : decode cc_Fr_readPack 2 = .ok (.getfield 42, 3) := by decide +kernel
theorem d_Fr_readPack_5 : decode cc_Fr_readPack 5 = .ok (.invokevirtual 113, 3) := by decide +kernel
theorem d_Fr_readPack_8 : decode cc_Fr_readPack 8 = .ok (.if_icmp .le (11), 3) := by decide +kernel
theorem d_Fr_readPack_11 : decode cc_Fr_readPack 11 = .ok (.aload_n 0, 1) := by decide +kernel
theorem d_Fr_readPack_12 : decode cc_Fr_readPack 12 = .ok (.getfield 42, 3) := by decide +kernel
theorem d_Fr_readPack_15 : decode cc_Fr_readPack 15 = .ok (.invokevirtual 85, 3) := by decide +kernel
theorem d_Fr_readPack_18 : decode cc_Fr_readPack 18 = .ok (.return_, 1) := by decide +kernel
theorem d_Fr_readPack_19 : decode cc_Fr_readPack 19 = .ok (.aload_n 0, 1) := by decide +kernel
theorem d_Fr_readPack_20 : decode cc_Fr_readPack 20 = .ok (.getfield 42, 3) := by decide +kernel
theorem d_Fr_readPack_23 : decode cc_Fr_readPack 23 = .ok (.aload_n 0, 1) := by decide +kernel
theorem d_Fr_readPack_24 : decode cc_Fr_readPack 24 = .ok (.getfield 42, 3) := by decide +kernel
theorem d_Fr_readPack_27 : decode cc_Fr_readPack 27 = .ok (.getfield 102, 3) := by decide +kernel
theorem d_Fr_readPack_30 : decode cc_Fr_readPack 30 = .ok (.iload_n 1, 1) := by decide +kernel
theorem d_Fr_readPack_31 : decode cc_Fr_readPack 31 = .ok (.iadd, 1) := by decide +kernel
theorem d_Fr_readPack_32 : decode cc_Fr_readPack 32 = .ok (.putfield 126, 3) := by decide +kernel
theorem d_Fr_readPack_35 : decode cc_Fr_readPack 35 = .ok (.aload_n 0, 1) := by decide +kernel
theorem d_Fr_readPack_36 : decode cc_Fr_readPack 36 = .ok (.invokevirtual 129, 3) := by decide +kernel
theorem d_Fr_readPack_39 : decode cc_Fr_readPack 39 = .ok (.aload_n 0, 1) := by decide +kernel
theorem d_Fr_readPack_40 : decode cc_Fr_readPack 40 = .ok (.getfield 42, 3) := by decide +kernel
theorem d_Fr_readPack_43 : decode cc_Fr_readPack 43 = .ok (.invokevirtual 58, 3) := by decide +kernel
theorem d_Fr_readPack_46 : decode cc_Fr_readPack 46 = .ok (.istore_n 2, 1) := by decide +kernel
theorem d_Fr_readPack_47 : decode cc_Fr_readPack 47 = .ok (.iload_n 2, 1) := by decide +kernel
theorem d_Fr_readPack_48 : decode cc_Fr_readPack 48 = .ok (.ifCond .le (15), 3) := by decide +kernel
theorem d_Fr_readPack_51 : decode cc_Fr_readPack 51 = .ok (.aload_n 0, 1) := by decide +kernel
theorem d_Fr_readPack_52 : decode cc_Fr_readPack 52 = .ok (.getfield 51, 3) := by decide +kernel
theorem d_Fr_readPack_55 : decode cc_Fr_readPack 55 = .ok (.invokevirtual 132, 3) := by decide +kernel
theorem d_Fr_readPack_58 : decode cc_Fr_readPack 58 = .ok (.aload_n 0, 1) := by decide +kernel
theorem d_Fr_readPack_59 : decode cc_Fr_readPack 59 = .ok (.iload_n 2, 1) := by decide +kernel
theorem d_Fr_readPack_60 : decode cc_Fr_readPack 60 = .ok (.invokevirtual 135, 3) := by decide +kernel
theorem d_Fr_readPack_63 : decode cc_Fr_readPack 63 = .ok (.aload_n 0, 1) := by decide +kernel
theorem d_Fr_readPack_64 : decode cc_Fr_readPack 64 = .ok (.aload_n 0, 1) := by decide +kernel
theorem d_Fr_readPack_65 : decode cc_Fr_readPack 65 = .ok (.getfield 34, 3) := by decide +kernel
theorem d_Fr_readPack_68 : decode cc_Fr_readPack 68 = .ok (.getfield 88, 3) := by decide +kernel
theorem d_Fr_readPack_71 : decode cc_Fr_readPack 71 = .ok (.aload_n 0, 1) := by decide +kernel
theorem d_Fr_readPack_72 : decode cc_Fr_readPack 72 = .ok (.getfield 138, 3) := by decide +kernel
theorem d_Fr_readPack_75 : decode cc_Fr_readPack 75 = .ok (.isub, 1) := by decide +kernel
theorem d_Fr_readPack_76 : decode cc_Fr_readPack 76 = .ok (.invokevirtual 141, 3) := by decide +kernel
theorem d_Fr_readPack_79 : decode cc_Fr_readPack 79 = .ok (.aload_n 0, 1) := by decide +kernel
theorem d_Fr_readPack_80 : decode cc_Fr_readPack 80 = .ok (.getfield 42, 3) := by decide +kernel
theorem d_Fr_readPack_83 : decode cc_Fr_readPack 83 = .ok (.invokevirtual 113, 3) := by decide +kernel
theorem d_Fr_readPack_86 : decode cc_Fr_readPack 86 = .ok (.ifCond .eq (10), 3) := by decide +kernel
theorem d_Fr_readPack_89 : decode cc_Fr_readPack 89 = .ok (.aload_n 0, 1) := by decide +kernel
theorem d_Fr_readPack_90 : decode cc_Fr_readPack 90 = .ok (.getfield 42, 3) := by decide +kernel
theorem d_Fr_readPack_93 : decode cc_Fr_readPack 93 = .ok (.invokevirtual 85, 3) := by decide +kernel
theorem d_Fr_readPack_96 : decode cc_Fr_readPack 96 = .ok (.aload_n 0, 1) := by decide +kernel
theorem d_Fr_readPack_97 : decode cc_Fr_readPack 97 = .ok (.getfield 42, 3) := by decide +kernel
theorem d_Fr_readPack_100 : decode cc_Fr_readPack 100 = .ok (.aload_n 0, 1) := by decide +kernel
theorem d_Fr_readPack_101 : decode cc_Fr_readPack 101 = .ok (.getfield 42, 3) := by decide +kernel
theorem d_Fr_readPack_104 : decode cc_Fr_readPack 104 = .ok (.getfield 144, 3) := by decide +kernel
theorem d_Fr_readPack_107 : decode cc_Fr_readPack 107 = .ok (.getfield 88, 3) := by decide +kernel
theorem d_Fr_readPack_110 : decode cc_Fr_readPack 110 = .ok (.putfield 126, 3) := by decide +kernel
theorem d_Fr_readPack_113 : decode cc_Fr_readPack 113 = .ok (.return_, 1) := by decide +kernel
section
variable {p : Program} {l : Launch} {e : Env} {s : State} {m : MethodId} {args : Array Value} {below : List Frame} {meth : Method} {c : Code} {X : Xs} {L : La}
def b_Fr_readPack_96 (L : La)  (i0 : Nat) (F : Mem) : Option Mem :=
  lt' (u2 F (mRf L i0 1) 2 (F (mRf L (mRf L i0 1) 0) 1)) fun F4 =>
  some F4
set_option maxHeartbeats 4000000 in
theorem t_Fr_readPack_96 (hC : Cx X L p s m args meth c cc_Fr_readPack 3 w_Fr_readPack R_Fr none)  {out : Mem}  {i0 : Nat} {F : Mem} {H : Heap} {locs : List Loc} {ls : Array Slot} (o0 : oO L 9 i0) (hI : Iv X L s H locs F) (hl : lv_has ls 3 [(0, .ref (mAd X i0))]) (h : b_Fr_readPack_96 L  i0 F = some out) : W p l e (headSpec w_Fr_readPack r_Fr_readPack).room s m args below meth c H locs 0 0 (MQ below (QV X L out) args s 0 0 (AA X L)) (F0 m 96 ls []) := by
  unfold b_Fr_readPack_96 at h
  obtain ⟨S, hK, hT, hW, hr, hlk⟩ := id hC
  have hx := S.1
  have hb := S.2.1
  refine lv_aload_n hx hb d_Fr_readPack_96 rfl (lv_at hl 0 rfl) ?_
  have p1 := wt_o hW o0 1 7 rfl (by decide) (by decide) (by decide)
  refine w_getR (T := T_Fr) S hK hI o0 rfl hin_Fr 1 (index := 42) (by decide) lf_Fr_42 d_Fr_readPack_97 ?_
  refine lv_aload_n hx hb d_Fr_readPack_100 rfl (lv_at hl 0 rfl) ?_
  have p2 := wt_o hW o0 1 7 rfl (by decide) (by decide) (by decide)
  refine w_getR (T := T_Fr) S hK hI o0 rfl hin_Fr 1 (index := 42) (by decide) lf_Fr_42 d_Fr_readPack_101 ?_
  have p3 := wt_o hW p2 0 1 rfl (by decide) (by decide) (by decide)
  refine w_getR (T := T_Wr) S hK hI p2 rfl hin_Wr 0 (index := 144) (by decide) lf_Fr_144 d_Fr_readPack_104 ?_
  refine w_getI (T := T_Row) S hK hI p3 rfl hin_Row 1 (index := 88) (by decide) lf_Fr_88 d_Fr_readPack_107 ?_
  refine w_putI (T := T_Wr) S hK hI p1 rfl hin_Wr ty_Wr tk_Wr nm_Wr 2 (index := 126) (by decide) lf_Fr_126 rfl d_Fr_readPack_110 (fun H locs F4 e5 hI => ?_)
  replace h := un_lt h _ e5
  exact w_vret S hK hr hlk hI d_Fr_readPack_113 h
def b_Fr_readPack_63 (L : La)  (i0 : Nat) (F : Mem) : Option Mem :=
  (f_Fr_putLiterals L i0 ((F (mRf L i0 5) 1) - (F i0 7)) F).bind fun F2 =>
  (f_Wr_bytesLeft L (mRf L i0 1) F2).bind fun q5 =>
  if q5.1 = 0 then
    b_Fr_readPack_96 L  i0 q5.2
  else
    (f_Wr_refuse L (mRf L i0 1) q5.2).bind fun F8 =>
    b_Fr_readPack_96 L  i0 F8
set_option maxHeartbeats 4000000 in
theorem t_Fr_readPack_63 (hC : Cx X L p s m args meth c cc_Fr_readPack 3 w_Fr_readPack R_Fr none)  {out : Mem}  {i0 : Nat} {F : Mem} {H : Heap} {locs : List Loc} {ls : Array Slot} (o0 : oO L 9 i0) (hI : Iv X L s H locs F) (hl : lv_has ls 3 [(0, .ref (mAd X i0))]) (h : b_Fr_readPack_63 L  i0 F = some out) : W p l e (headSpec w_Fr_readPack r_Fr_readPack).room s m args below meth c H locs 0 0 (MQ below (QV X L out) args s 0 0 (AA X L)) (F0 m 63 ls []) := by
  unfold b_Fr_readPack_63 at h
  obtain ⟨S, hK, hT, hW, hr, hlk⟩ := id hC
  have hx := S.1
  have hb := S.2.1
  refine lv_aload_n hx hb d_Fr_readPack_63 rfl (lv_at hl 0 rfl) ?_
  refine lv_aload_n hx hb d_Fr_readPack_64 rfl (lv_at hl 0 rfl) ?_
  have p1 := wt_o hW o0 5 1 rfl (by decide) (by decide) (by decide)
  refine w_getR (T := T_Fr) S hK hI o0 rfl hin_Fr 5 (index := 34) (by decide) lf_Fr_34 d_Fr_readPack_65 ?_
  refine w_getI (T := T_Row) S hK hI p1 rfl hin_Row 1 (index := 88) (by decide) lf_Fr_88 d_Fr_readPack_68 ?_
  refine lv_aload_n hx hb d_Fr_readPack_71 rfl (lv_at hl 0 rfl) ?_
  refine w_getI (T := T_Fr) S hK hI o0 rfl hin_Fr 7 (index := 138) (by decide) lf_Fr_138 d_Fr_readPack_72 ?_
  refine lv_isub hx hb d_Fr_readPack_75 ?_
  obtain ⟨F2, e3, h⟩ := un_bi h
  refine w_callVv (As := [.int ((F (mRf L i0 5) 1) - (F i0 7))]) (rest := []) S hK hI hT (c_Fr_putLiterals l hW o0 e3) (cwV 1 S.2.2.2.2 (gd_V lc_Fr_putLiterals lm_Fr_141 li_Fr_putLiterals ls_Fr_putLiterals ln_Fr) rfl rfl rfl hd_Fr_putLiterals ⟨Nat.le_of_ble_eq_true rfl, Nat.le_of_ble_eq_true rfl⟩) o0 rfl (by decide) rfl rfl hl.1 (Nat.le_of_ble_eq_true rfl) d_Fr_readPack_76 ⟨Nat.zero_le _, Nat.zero_le _⟩ (fun H locs hI => ?_)
  refine lv_aload_n hx hb d_Fr_readPack_79 rfl (lv_at hl 0 rfl) ?_
  have p4 := wt_o hW o0 1 7 rfl (by decide) (by decide) (by decide)
  refine w_getR (T := T_Fr) S hK hI o0 rfl hin_Fr 1 (index := 42) (by decide) lf_Fr_42 d_Fr_readPack_80 ?_
  obtain ⟨q5, e6, h⟩ := un_bi h
  refine w_callVi (As := []) (rest := []) S hK hI hT (c_Wr_bytesLeft l hW p4 e6) (cwV 0 S.2.2.2.2 (gd_V lc_Wr_bytesLeft lm_Fr_113 li_Wr_bytesLeft ls_Wr_bytesLeft ln_Wr) rfl rfl rfl hd_Wr_bytesLeft ⟨Nat.le_of_ble_eq_true rfl, Nat.le_of_ble_eq_true rfl⟩) p4 rfl (by decide) rfl rfl hl.1 (Nat.le_of_ble_eq_true rfl) d_Fr_readPack_83 ⟨Nat.zero_le _, Nat.zero_le _⟩ (fun H locs hI => ?_)
  refine lv_if_eq (tgt := 96) hx hb d_Fr_readPack_86 rfl (fun hc => ?_) (fun hc => ?_)
  · replace h := (if_pos hc).symm.trans h
    exact t_Fr_readPack_96 hC  o0 hI hl h
  · replace h := (if_neg hc).symm.trans h
    refine lv_aload_n hx hb d_Fr_readPack_89 rfl (lv_at hl 0 rfl) ?_
    have p7 := wt_o hW o0 1 7 rfl (by decide) (by decide) (by decide)
    refine w_getR (T := T_Fr) S hK hI o0 rfl hin_Fr 1 (index := 42) (by decide) lf_Fr_42 d_Fr_readPack_90 ?_
    obtain ⟨F8, e9, h⟩ := un_bi h
    refine w_callVv (As := []) (rest := []) S hK hI hT (c_Wr_refuse l hW p7 e9) (cwV 0 S.2.2.2.2 (gd_V lc_Wr_refuse lm_Fr_85 li_Wr_refuse ls_Wr_refuse ln_Wr) rfl rfl rfl hd_Wr_refuse ⟨Nat.le_of_ble_eq_true rfl, Nat.le_of_ble_eq_true rfl⟩) p7 rfl (by decide) rfl rfl hl.1 (Nat.le_of_ble_eq_true rfl) d_Fr_readPack_93 ⟨Nat.zero_le _, Nat.zero_le _⟩ (fun H locs hI => ?_)
    exact t_Fr_readPack_96 hC  o0 hI hl h
def f_Fr_readPack (L : La) (i0 : Nat) (x1 : Int32) (F : Mem) : Option Mem :=
  (f_Wr_bytesLeft L (mRf L i0 1) F).bind fun q2 =>
  if x1 ≤ q2.1 then
    lt' (u2 q2.2 (mRf L i0 1) 2 ((q2.2 (mRf L i0 1) 1) + x1)) fun F6 =>
    (f_Fr_readLiterals L i0 F6).bind fun F8 =>
    (f_Wr_takeByte L (mRf L i0 1) F8).bind fun q11 =>
    if q11.1 ≤ 0 then
      b_Fr_readPack_63 L  i0 q11.2
    else
      (f_Sq_takeTables L (mRf L i0 2) q11.2).bind fun F14 =>
      (f_Fr_readSequences L i0 q11.1 F14).bind fun F16 =>
      b_Fr_readPack_63 L  i0 F16
  else
    (f_Wr_refuse L (mRf L i0 1) q2.2).bind fun F19 =>
    some F19
set_option maxHeartbeats 4000000 in
theorem c_Fr_readPack (l : Launch) {X : Xs} {L : La} (hW : WT L) {out : Mem} {i0 : Nat} {x1 : Int32} {F : Mem} (o0 : oO L 9 i0) (h : f_Fr_readPack L i0 x1 F = some out) : Met l y_Fr_readPack w_Fr_readPack r_Fr_readPack (va_Pc [.ref (mAd X i0), .int x1] (Pr X L F)) (QV X L out) 0 0 (AA X L) := by
  refine mk_met (by decide) rfl (Nat.le_of_ble_eq_true rfl) hW ?_
  intro p e s m args below meth c ls hC hI hl
  have hl : lv_has ls 3 [(0, .ref (mAd X i0)), (1, .int x1)] := hl
  generalize hHe : s.heap = H at hI ⊢
  generalize ([] : List Loc) = locs at hI ⊢
  unfold f_Fr_readPack at h
  obtain ⟨S, hK, hT, hW, hr, hlk⟩ := id hC
  have hx := S.1
  have hb := S.2.1
  refine lv_iload_n hx hb d_Fr_readPack_0 rfl (lv_at hl 1 rfl) ?_
  refine lv_aload_n hx hb d_Fr_readPack_1 rfl (lv_at hl 0 rfl) ?_
  have p1 := wt_o hW o0 1 7 rfl (by decide) (by decide) (by decide)
  refine w_getR (T := T_Fr) S hK hI o0 rfl hin_Fr 1 (index := 42) (by decide) lf_Fr_42 d_Fr_readPack_2 ?_
  obtain ⟨q2, e3, h⟩ := un_bi h
  refine w_callVi (As := []) (rest := [.int x1]) S hK hI hT (c_Wr_bytesLeft l hW p1 e3) (cwV 0 S.2.2.2.2 (gd_V lc_Wr_bytesLeft lm_Fr_113 li_Wr_bytesLeft ls_Wr_bytesLeft ln_Wr) rfl rfl rfl hd_Wr_bytesLeft ⟨Nat.le_of_ble_eq_true rfl, Nat.le_of_ble_eq_true rfl⟩) p1 rfl (by decide) rfl rfl hl.1 (Nat.le_of_ble_eq_true rfl) d_Fr_readPack_5 ⟨Nat.zero_le _, Nat.zero_le _⟩ (fun H locs hI => ?_)
  refine lv_icmp_le (tgt := 19) hx hb d_Fr_readPack_8 rfl (fun hc => ?_) (fun hc => ?_)
  · replace h := (if_pos hc).symm.trans h
    refine lv_aload_n hx hb d_Fr_readPack_19 rfl (lv_at hl 0 rfl) ?_
    have p4 := wt_o hW o0 1 7 rfl (by decide) (by decide) (by decide)
    refine w_getR (T := T_Fr) S hK hI o0 rfl hin_Fr 1 (index := 42) (by decide) lf_Fr_42 d_Fr_readPack_20 ?_
    refine lv_aload_n hx hb d_Fr_readPack_23 rfl (lv_at hl 0 rfl) ?_
    have p5 := wt_o hW o0 1 7 rfl (by decide) (by decide) (by decide)
    refine w_getR (T := T_Fr) S hK hI o0 rfl hin_Fr 1 (index := 42) (by decide) lf_Fr_42 d_Fr_readPack_24 ?_
    refine w_getI (T := T_Wr) S hK hI p5 rfl hin_Wr 1 (index := 102) (by decide) lf_Fr_102 d_Fr_readPack_27 ?_
    refine lv_iload_n hx hb d_Fr_readPack_30 rfl (lv_at hl 1 rfl) ?_
    refine lv_iadd hx hb d_Fr_readPack_31 ?_
    refine w_putI (T := T_Wr) S hK hI p4 rfl hin_Wr ty_Wr tk_Wr nm_Wr 2 (index := 126) (by decide) lf_Fr_126 rfl d_Fr_readPack_32 (fun H locs F6 e7 hI => ?_)
    replace h := un_lt h _ e7
    refine lv_aload_n hx hb d_Fr_readPack_35 rfl (lv_at hl 0 rfl) ?_
    obtain ⟨F8, e9, h⟩ := un_bi h
    refine w_callVv (As := []) (rest := []) S hK hI hT (c_Fr_readLiterals l hW o0 e9) (cwV 0 S.2.2.2.2 (gd_V lc_Fr_readLiterals lm_Fr_129 li_Fr_readLiterals ls_Fr_readLiterals ln_Fr) rfl rfl rfl hd_Fr_readLiterals ⟨Nat.le_of_ble_eq_true rfl, Nat.le_of_ble_eq_true rfl⟩) o0 rfl (by decide) rfl rfl hl.1 (Nat.le_of_ble_eq_true rfl) d_Fr_readPack_36 ⟨Nat.zero_le _, Nat.zero_le _⟩ (fun H locs hI => ?_)
    refine lv_aload_n hx hb d_Fr_readPack_39 rfl (lv_at hl 0 rfl) ?_
    have p10 := wt_o hW o0 1 7 rfl (by decide) (by decide) (by decide)
    refine w_getR (T := T_Fr) S hK hI o0 rfl hin_Fr 1 (index := 42) (by decide) lf_Fr_42 d_Fr_readPack_40 ?_
    obtain ⟨q11, e12, h⟩ := un_bi h
    refine w_callVi (As := []) (rest := []) S hK hI hT (c_Wr_takeByte l hW p10 e12) (cwV 0 S.2.2.2.2 (gd_V lc_Wr_takeByte lm_Fr_58 li_Wr_takeByte ls_Wr_takeByte ln_Wr) rfl rfl rfl hd_Wr_takeByte ⟨Nat.le_of_ble_eq_true rfl, Nat.le_of_ble_eq_true rfl⟩) p10 rfl (by decide) rfl rfl hl.1 (Nat.le_of_ble_eq_true rfl) d_Fr_readPack_43 ⟨Nat.zero_le _, Nat.zero_le _⟩ (fun H locs hI => ?_)
    refine lv_istore_n (lv' := [(2, .int q11.1), (0, .ref (mAd X i0)), (1, .int x1)]) hx hb d_Fr_readPack_46 rfl hl (by decide) rfl (fun ls hl => ?_)
    refine lv_iload_n hx hb d_Fr_readPack_47 rfl (lv_at hl 0 rfl) ?_
    refine lv_if_le (tgt := 63) hx hb d_Fr_readPack_48 rfl (fun hc => ?_) (fun hc => ?_)
    · replace h := (if_pos hc).symm.trans h
      exact t_Fr_readPack_63 hC  o0 hI (lv_sub hl [1] rfl) h
    · replace h := (if_neg hc).symm.trans h
      refine lv_aload_n hx hb d_Fr_readPack_51 rfl (lv_at hl 1 rfl) ?_
      have p13 := wt_o hW o0 2 8 rfl (by decide) (by decide) (by decide)
      refine w_getR (T := T_Fr) S hK hI o0 rfl hin_Fr 2 (index := 51) (by decide) lf_Fr_51 d_Fr_readPack_52 ?_
      obtain ⟨F14, e15, h⟩ := un_bi h
      refine w_callVv (As := []) (rest := []) S hK hI hT (c_Sq_takeTables l hW p13 e15) (cwV 0 S.2.2.2.2 (gd_V lc_Sq_takeTables lm_Fr_132 li_Sq_takeTables ls_Sq_takeTables ln_Sq) rfl rfl rfl hd_Sq_takeTables ⟨Nat.le_of_ble_eq_true rfl, Nat.le_of_ble_eq_true rfl⟩) p13 rfl (by decide) rfl rfl hl.1 (Nat.le_of_ble_eq_true rfl) d_Fr_readPack_55 ⟨Nat.zero_le _, Nat.zero_le _⟩ (fun H locs hI => ?_)
      refine lv_aload_n hx hb d_Fr_readPack_58 rfl (lv_at hl 1 rfl) ?_
      refine lv_iload_n hx hb d_Fr_readPack_59 rfl (lv_at hl 0 rfl) ?_
      obtain ⟨F16, e17, h⟩ := un_bi h
      refine w_callVv (As := [.int q11.1]) (rest := []) S hK hI hT (c_Fr_readSequences l hW o0 e17) (cwV 1 S.2.2.2.2 (gd_V lc_Fr_readSequences lm_Fr_135 li_Fr_readSequences ls_Fr_readSequences ln_Fr) rfl rfl rfl hd_Fr_readSequences ⟨Nat.le_of_ble_eq_true rfl, Nat.le_of_ble_eq_true rfl⟩) o0 rfl (by decide) rfl rfl hl.1 (Nat.le_of_ble_eq_true rfl) d_Fr_readPack_60 ⟨Nat.zero_le _, Nat.zero_le _⟩ (fun H locs hI => ?_)
      exact t_Fr_readPack_63 hC  o0 hI (lv_sub hl [1] rfl) h
  · replace h := (if_neg hc).symm.trans h
    refine lv_aload_n hx hb d_Fr_readPack_11 rfl (lv_at hl 0 rfl) ?_
    have p18 := wt_o hW o0 1 7 rfl (by decide) (by decide) (by decide)
    refine w_getR (T := T_Fr) S hK hI o0 rfl hin_Fr 1 (index := 42) (by decide) lf_Fr_42 d_Fr_readPack_12 ?_
    obtain ⟨F19, e20, h⟩ := un_bi h
    refine w_callVv (As := []) (rest := []) S hK hI hT (c_Wr_refuse l hW p18 e20) (cwV 0 S.2.2.2.2 (gd_V lc_Wr_refuse lm_Fr_85 li_Wr_refuse ls_Wr_refuse ln_Wr) rfl rfl rfl hd_Wr_refuse ⟨Nat.le_of_ble_eq_true rfl, Nat.le_of_ble_eq_true rfl⟩) p18 rfl (by decide) rfl rfl hl.1 (Nat.le_of_ble_eq_true rfl) d_Fr_readPack_15 ⟨Nat.zero_le _, Nat.zero_le _⟩ (fun H locs hI => ?_)
    exact w_vret S hK hr hlk hI d_Fr_readPack_18 h
end
