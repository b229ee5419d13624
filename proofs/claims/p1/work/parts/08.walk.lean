theorem d_Pk_addNextState_0 : decode cc_Pk_addNextState 0 = .ok (.aload_n 2, 1) := by decide +kernel
theorem d_Pk_addNextState_1 : decode cc_Pk_addNextState 1 = .ok (.iload_n 3, 1) := by decide +kernel
theorem d_Pk_addNextState_2 : decode cc_Pk_addNextState 2 = .ok (.iconst 1, 1) := by decide +kernel
theorem d_Pk_addNextState_3 : decode cc_Pk_addNextState 3 = .ok (.isub, 1) := by decide +kernel
theorem d_Pk_addNextState_4 : decode cc_Pk_addNextState 4 = .ok (.iaload, 1) := by decide +kernel
theorem d_Pk_addNextState_5 : decode cc_Pk_addNextState 5 = .ok (.istore 4, 2) := by decide +kernel
theorem d_Pk_addNextState_7 : decode cc_Pk_addNextState 7 = .ok (.aload_n 0, 1) := by decide +kernel
theorem d_Pk_addNextState_8 : decode cc_Pk_addNextState 8 = .ok (.getfield 23, 3) := by decide +kernel
theorem d_Pk_addNextState_11 : decode cc_Pk_addNextState 11 = .ok (.aload_n 2, 1) := by decide +kernel
theorem d_Pk_addNextState_12 : decode cc_Pk_addNextState 12 = .ok (.iload_n 3, 1) := by decide +kernel
theorem d_Pk_addNextState_13 : decode cc_Pk_addNextState 13 = .ok (.iaload, 1) := by decide +kernel
theorem d_Pk_addNextState_14 : decode cc_Pk_addNextState 14 = .ok (.aload_n 1, 1) := by decide +kernel
theorem d_Pk_addNextState_15 : decode cc_Pk_addNextState 15 = .ok (.getfield 213, 3) := by decide +kernel
theorem d_Pk_addNextState_18 : decode cc_Pk_addNextState 18 = .ok (.iload 4, 2) := by decide +kernel
theorem d_Pk_addNextState_20 : decode cc_Pk_addNextState 20 = .ok (.iaload, 1) := by decide +kernel
theorem d_Pk_addNextState_21 : decode cc_Pk_addNextState 21 = .ok (.isub, 1) := by decide +kernel
theorem d_Pk_addNextState_22 : decode cc_Pk_addNextState 22 = .ok (.aload_n 1, 1) := by decide +kernel
theorem d_Pk_addNextState_23 : decode cc_Pk_addNextState 23 = .ok (.getfield 216, 3) := by decide +kernel
theorem d_Pk_addNextState_26 : decode cc_Pk_addNextState 26 = .ok (.iload 4, 2) := by decide +kernel
theorem d_Pk_addNextState_28 : decode cc_Pk_addNextState 28 = .ok (.iaload, 1) := by decide +kernel
theorem d_Pk_addNextState_29 : decode cc_Pk_addNextState 29 = .ok (.invokevirtual 168, 3) := by decide +kernel
theorem d_Pk_addNextState_32 : decode cc_Pk_addNextState 32 = .ok (.return_, 1) := by decide +kernel
section
variable {p : Program} {l : Launch} {e : Env} {s : State} {m : MethodId} {args : Array Value} {below : List Frame} {meth : Method} {c : Code} {X : Xs} {L : La}
def f_Pk_addNextState (L : La) (i0 : Nat) (i1 : Nat) (i2 : Nat) (x3 : Int32) (F : Mem) : Option Mem :=
  if inb (x3 - (1 : Int32)) (mGl L i2) then none else
  if inb x3 (mGl L i2) then none else
  if inb (mGa L F i2 (x3 - (1 : Int32)).toNatClampNeg) (mGl L (mRf L i1 3)) then none else
  if inb (mGa L F i2 (x3 - (1 : Int32)).toNatClampNeg) (mGl L (mRf L i1 2)) then none else
  (f_Br_add L (mRf L i0 5) ((mGa L F i2 x3.toNatClampNeg) - (mGa L F (mRf L i1 3) (mGa L F i2 (x3 - (1 : Int32)).toNatClampNeg).toNatClampNeg)) (mGa L F (mRf L i1 2) (mGa L F i2 (x3 - (1 : Int32)).toNatClampNeg).toNatClampNeg) F).bind fun F8 =>
  some F8
set_option maxHeartbeats 4000000 in
theorem c_Pk_addNextState (l : Launch) {X : Xs} {L : La} (hW : WT L) {out : Mem} {i0 : Nat} {i1 : Nat} {i2 : Nat} {x3 : Int32} {F : Mem} (o0 : oO L 11 i0) (o1 : oO L 2 i1) (o2 : oA L i2) (h : f_Pk_addNextState L i0 i1 i2 x3 F = some out) : Met l y_Pk_addNextState w_Pk_addNextState r_Pk_addNextState (va_Pc [.ref (mAd X i0), .ref (mAd X i1), .ref (mAd X i2), .int x3] (Pr X L F)) (QV X L out) 0 0 (AA X L) := by
  refine mk_met (by decide) rfl (Nat.le_of_ble_eq_true rfl) hW ?_
  intro p e s m args below meth c ls hC hI hl
  have hl : lv_has ls 5 [(0, .ref (mAd X i0)), (1, .ref (mAd X i1)), (2, .ref (mAd X i2)), (3, .int x3)] := hl
  generalize hHe : s.heap = H at hI ⊢
  generalize ([] : List Loc) = locs at hI ⊢
  unfold f_Pk_addNextState at h
  obtain ⟨S, hK, hT, hW, hr, hlk⟩ := id hC
  have hx := S.1
  have hb := S.2.1
  refine lv_aload_n hx hb d_Pk_addNextState_0 rfl (lv_at hl 2 rfl) ?_
  refine lv_iload_n hx hb d_Pk_addNextState_1 rfl (lv_at hl 3 rfl) ?_
  refine lv_iconst (v := 1) hx hb d_Pk_addNextState_2 rfl ?_
  refine lv_isub hx hb d_Pk_addNextState_3 ?_
  obtain ⟨z1, h⟩ := un_if h
  refine w_iald S hK hI hT o2 z1 d_Pk_addNextState_4 ?_
  refine lv_istore (lv' := [(4, .int (mGa L F i2 (x3 - (1 : Int32)).toNatClampNeg)), (0, .ref (mAd X i0)), (1, .ref (mAd X i1)), (2, .ref (mAd X i2)), (3, .int x3)]) hx hb d_Pk_addNextState_5 hl (by decide) rfl (fun ls hl => ?_)
  refine lv_aload_n hx hb d_Pk_addNextState_7 rfl (lv_at hl 1 rfl) ?_
  have p2 := wt_o hW o0 5 5 rfl (by decide) (by decide) (by decide)
  refine w_getR (T := T_Pk) S hK hI o0 rfl hin_Pk 5 (index := 23) (by decide) lf_Pk_23 d_Pk_addNextState_8 ?_
  refine lv_aload_n hx hb d_Pk_addNextState_11 rfl (lv_at hl 3 rfl) ?_
  refine lv_iload_n hx hb d_Pk_addNextState_12 rfl (lv_at hl 4 rfl) ?_
  obtain ⟨z3, h⟩ := un_if h
  refine w_iald S hK hI hT o2 z3 d_Pk_addNextState_13 ?_
  refine lv_aload_n hx hb d_Pk_addNextState_14 rfl (lv_at hl 2 rfl) ?_
  have p4 := wt_a hW o1 3 rfl (by decide) (by decide)
  refine w_getR (T := T_ST) S hK hI o1 rfl hin_ST 3 (index := 213) (by decide) lf_Pk_213 d_Pk_addNextState_15 ?_
  refine lv_iload hx hb d_Pk_addNextState_18 (lv_at hl 0 rfl) ?_
  obtain ⟨z5, h⟩ := un_if h
  refine w_iald S hK hI hT p4 z5 d_Pk_addNextState_20 ?_
  refine lv_isub hx hb d_Pk_addNextState_21 ?_
  refine lv_aload_n hx hb d_Pk_addNextState_22 rfl (lv_at hl 2 rfl) ?_
  have p6 := wt_a hW o1 2 rfl (by decide) (by decide)
  refine w_getR (T := T_ST) S hK hI o1 rfl hin_ST 2 (index := 216) (by decide) lf_Pk_216 d_Pk_addNextState_23 ?_
  refine lv_iload hx hb d_Pk_addNextState_26 (lv_at hl 0 rfl) ?_
  obtain ⟨z7, h⟩ := un_if h
  refine w_iald S hK hI hT p6 z7 d_Pk_addNextState_28 ?_
  obtain ⟨F8, e9, h⟩ := un_bi h
  refine w_callVv (As := [.int ((mGa L F i2 x3.toNatClampNeg) - (mGa L F (mRf L i1 3) (mGa L F i2 (x3 - (1 : Int32)).toNatClampNeg).toNatClampNeg)), .int (mGa L F (mRf L i1 2) (mGa L F i2 (x3 - (1 : Int32)).toNatClampNeg).toNatClampNeg)]) (rest := []) S hK hI hT (c_Br_add l hW p2 e9) (cwV 2 S.2.2.2.2 (gd_V lc_Br_add lm_Pk_168 li_Br_add ls_Br_add ln_Br) rfl rfl rfl hd_Br_add ⟨Nat.le_of_ble_eq_true rfl, Nat.le_of_ble_eq_true rfl⟩) p2 rfl (by decide) rfl rfl hl.1 (Nat.le_of_ble_eq_true rfl) d_Pk_addNextState_29 ⟨Nat.zero_le _, Nat.zero_le _⟩ (fun H locs hI => ?_)
  exact w_vret S hK hr hlk hI d_Pk_addNextState_32 h
end
theorem d_Pk_addValues_0 : decode cc_Pk_addValues 0 = .ok (.aload_n 0, 1) := by decide +kernel
theorem d_Pk_addValues_1 : decode cc_Pk_addValues 1 = .ok (.getfield 66, 3) := by decide +kernel
theorem d_Pk_addValues_4 : decode cc_Pk_addValues 4 = .ok (.getfield 198, 3) := by decide +kernel
theorem d_Pk_addValues_7 : decode cc_Pk_addValues 7 = .ok (.iload_n 1, 1) := by decide +kernel
theorem d_Pk_addValues_8 : decode cc_Pk_addValues 8 = .ok (.iaload, 1) := by decide +kernel
theorem d_Pk_addValues_9 : decode cc_Pk_addValues 9 = .ok (.invokestatic 201, 3) := by decide +kernel
theorem d_Pk_addValues_12 : decode cc_Pk_addValues 12 = .ok (.istore_n 2, 1) := by decide +kernel
theorem d_Pk_addValues_13 : decode cc_Pk_addValues 13 = .ok (.aload_n 0, 1) := by decide +kernel
theorem d_Pk_addValues_14 : decode cc_Pk_addValues 14 = .ok (.getfield 23, 3) := by decide +kernel
theorem d_Pk_addValues_17 : decode cc_Pk_addValues 17 = .ok (.aload_n 0, 1) := by decide +kernel
theorem d_Pk_addValues_18 : decode cc_Pk_addValues 18 = .ok (.getfield 66, 3) := by decide +kernel
theorem d_Pk_addValues_21 : decode cc_Pk_addValues 21 = .ok (.getfield 198, 3) := by decide +kernel
theorem d_Pk_addValues_24 : decode cc_Pk_addValues 24 = .ok (.iload_n 1, 1) := by decide +kernel
theorem d_Pk_addValues_25 : decode cc_Pk_addValues 25 = .ok (.iaload, 1) := by decide +kernel
theorem d_Pk_addValues_26 : decode cc_Pk_addValues 26 = .ok (.iconst 1, 1) := by decide +kernel
theorem d_Pk_addValues_27 : decode cc_Pk_addValues 27 = .ok (.iload_n 2, 1) := by decide +kernel
theorem d_Pk_addValues_28 : decode cc_Pk_addValues 28 = .ok (.ishl, 1) := by decide +kernel
theorem d_Pk_addValues_29 : decode cc_Pk_addValues 29 = .ok (.isub, 1) := by decide +kernel
theorem d_Pk_addValues_30 : decode cc_Pk_addValues 30 = .ok (.iload_n 2, 1) := by decide +kernel
theorem d_Pk_addValues_31 : decode cc_Pk_addValues 31 = .ok (.invokevirtual 168, 3) := by decide +kernel
theorem d_Pk_addValues_34 : decode cc_Pk_addValues 34 = .ok (.getstatic 192, 3) := by decide +kernel
theorem d_Pk_addValues_37 : decode cc_Pk_addValues 37 = .ok (.aload_n 0, 1) := by decide +kernel
theorem d_Pk_addValues_38 : decode cc_Pk_addValues 38 = .ok (.getfield 66, 3) := by decide +kernel
theorem d_Pk_addValues_41 : decode cc_Pk_addValues 41 = .ok (.getfield 195, 3) := by decide +kernel
theorem d_Pk_addValues_44 : decode cc_Pk_addValues 44 = .ok (.iload_n 1, 1) := by decide +kernel
theorem d_Pk_addValues_45 : decode cc_Pk_addValues 45 = .ok (.iaload, 1) := by decide +kernel
theorem d_Pk_addValues_46 : decode cc_Pk_addValues 46 = .ok (.invokestatic 184, 3) := by decide +kernel
theorem d_Pk_addValues_49 : decode cc_Pk_addValues 49 = .ok (.istore_n 3, 1) := by decide +kernel
theorem d_Pk_addValues_50 : decode cc_Pk_addValues 50 = .ok (.aload_n 0, 1) := by decide +kernel
theorem d_Pk_addValues_51 : decode cc_Pk_addValues 51 = .ok (.getfield 23, 3) := by decide +kernel
theorem d_Pk_addValues_54 : decode cc_Pk_addValues 54 = .ok (.aload_n 0, 1) := by decide +kernel
theorem d_Pk_addValues_55 : decode cc_Pk_addValues 55 = .ok (.getfield 66, 3) := by decide +kernel
theorem d_Pk_addValues_58 : decode cc_Pk_addValues 58 = .ok (.getfield 195, 3) := by decide +kernel
theorem d_Pk_addValues_61 : decode cc_Pk_addValues 61 = .ok (.iload_n 1, 1) := by decide +kernel
theorem d_Pk_addValues_62 : decode cc_Pk_addValues 62 = .ok (.iaload, 1) := by decide +kernel
theorem d_Pk_addValues_63 : decode cc_Pk_addValues 63 = .ok (.getstatic 192, 3) := by decide +kernel
theorem d_Pk_addValues_66 : decode cc_Pk_addValues 66 = .ok (.iload_n 3, 1) := by decide +kernel
theorem d_Pk_addValues_67 : decode cc_Pk_addValues 67 = .ok (.iaload, 1) := by decide +kernel
theorem d_Pk_addValues_68 : decode cc_Pk_addValues 68 = .ok (.isub, 1) := by decide +kernel
theorem d_Pk_addValues_69 : decode cc_Pk_addValues 69 = .ok (.getstatic 219, 3) := by decide +kernel
theorem d_Pk_addValues_72 : decode cc_Pk_addValues 72 = .ok (.iload_n 3, 1) := by decide +kernel
theorem d_Pk_addValues_73 : decode cc_Pk_addValues 73 = .ok (.iaload, 1) := by decide +kernel
theorem d_Pk_addValues_74 : decode cc_Pk_addValues 74 = .ok (.invokevirtual 168, 3) := by decide +kernel
theorem d_Pk_addValues_77 : decode cc_Pk_addValues 77 = .ok (.getstatic 178, 3) := by decide +kernel
theorem d_Pk_addValues_80 : decode cc_Pk_addValues 80 = .ok (.aload_n 0, 1) := by decide +kernel
theorem d_Pk_addValues_81 : decode cc_Pk_addValues 81 = .ok (.getfield 66, 3) := by decide +kernel
theorem d_Pk_addValues_84 : decode cc_Pk_addValues 84 = .ok (.getfield 181, 3) := by decide +kernel
theorem d_Pk_addValues_87 : decode cc_Pk_addValues 87 = .ok (.iload_n 1, 1) := by decide +kernel
theorem d_Pk_addValues_88 : decode cc_Pk_addValues 88 = .ok (.iaload, 1) := by decide +kernel
theorem d_Pk_addValues_89 : decode cc_Pk_addValues 89 = .ok (.invokestatic 184, 3) := by decide +kernel
theorem d_Pk_addValues_92 : decode cc_Pk_addValues 92 = .ok (.istore 4, 2) := by decide +kernel
theorem d_Pk_addValues_94 : decode cc_Pk_addValues 94 = .ok (.aload_n 0, 1) := by decide +kernel
theorem d_Pk_addValues_95 : decode cc_Pk_addValues 95 = .ok (.getfield 23, 3) := by decide +kernel
theorem d_Pk_addValues_98 : decode cc_Pk_addValues 98 = .ok (.aload_n 0, 1) := by decide +kernel
theorem d_Pk_addValues_99 : decode cc_Pk_addValues 99 = .ok (.getfield 66, 3) := by decide +kernel
theorem d_Pk_addValues_102 : decode cc_Pk_addValues 102 = .ok (.getfield 181, 3) := by decide +kernel
theorem d_Pk_addValues_105 : decode cc_Pk_addValues 105 = .ok (.iload_n 1, 1) := by decide +kernel
theorem d_Pk_addValues_106 : decode cc_Pk_addValues 106 = .ok (.iaload, 1) := by decide +kernel
theorem d_Pk_addValues_107 : decode cc_Pk_addValues 107 = .ok (.getstatic 178, 3) := by decide +kernel
theorem d_Pk_addValues_110 : decode cc_Pk_addValues 110 = .ok (.iload 4, 2) := by decide +kernel
theorem d_Pk_addValues_112 : decode cc_Pk_addValues 112 = .ok (.iaload, 1) := by decide +kernel
theorem d_Pk_addValues_113 : decode cc_Pk_addValues 113 = .ok (.isub, 1) := by decide +kernel
theorem d_Pk_addValues_114 : decode cc_Pk_addValues 114 = .ok (.getstatic 222, 3) := by decide +kernel
theorem d_Pk_addValues_117 : decode cc_Pk_addValues 117 = .ok (.iload 4, 2) := by decide +kernel
theorem d_Pk_addValues_119 : decode cc_Pk_addValues 119 = .ok (.iaload, 1) := by decide +kernel
theorem d_Pk_addValues_120 : decode cc_Pk_addValues 120 = .ok (.invokevirtual 168, 3) := by decide +kernel
theorem d_Pk_addValues_123 : decode cc_Pk_addValues 123 = .ok (.return_, 1) := by decide +kernel
section
variable {p : Program} {l : Launch} {e : Env} {s : State} {m : MethodId} {args : Array Value} {below : List Frame} {meth : Method} {c : Code} {X : Xs} {L : La}
def f_Pk_addValues (L : La) (i0 : Nat) (x1 : Int32) (F : Mem) : Option Mem :=
  if inb x1 (mGl L (mRf L (mRf L i0 1) 3)) then none else
  (f_Pk_wayCodeOf L (mGa L F (mRf L (mRf L i0 1) 3) x1.toNatClampNeg) F).bind fun q4 =>
  if inb x1 (mGl L (mRf L (mRf L i0 1) 3)) then none else
  (f_Br_add L (mRf L i0 5) ((mGa L q4.2 (mRf L (mRf L i0 1) 3) x1.toNatClampNeg) - (jshl (1 : Int32) q4.1)) q4.1 q4.2).bind fun F10 =>
  if inb x1 (mGl L (mRf L (mRf L i0 1) 4)) then none else
  (f_Pk_codeOf L (mNc L + 4) (mGa L F10 (mRf L (mRf L i0 1) 4) x1.toNatClampNeg) F10).bind fun q16 =>
  if inb x1 (mGl L (mRf L (mRf L i0 1) 4)) then none else
  if inb q16.1 (mGl L (mNc L + 4)) then none else
  if inb q16.1 (mGl L (mNc L + 5)) then none else
  (f_Br_add L (mRf L i0 5) ((mGa L q16.2 (mRf L (mRf L i0 1) 4) x1.toNatClampNeg) - (mGa L q16.2 (mNc L + 4) q16.1.toNatClampNeg)) (mGa L q16.2 (mNc L + 5) q16.1.toNatClampNeg) q16.2).bind fun F26 =>
  if inb x1 (mGl L (mRf L (mRf L i0 1) 2)) then none else
  (f_Pk_codeOf L (mNc L + 2) (mGa L F26 (mRf L (mRf L i0 1) 2) x1.toNatClampNeg) F26).bind fun q32 =>
  if inb x1 (mGl L (mRf L (mRf L i0 1) 2)) then none else
  if inb q32.1 (mGl L (mNc L + 2)) then none else
  if inb q32.1 (mGl L (mNc L + 3)) then none else
  (f_Br_add L (mRf L i0 5) ((mGa L q32.2 (mRf L (mRf L i0 1) 2) x1.toNatClampNeg) - (mGa L q32.2 (mNc L + 2) q32.1.toNatClampNeg)) (mGa L q32.2 (mNc L + 3) q32.1.toNatClampNeg) q32.2).bind fun F42 =>
  some F42
set_option maxHeartbeats 4000000 in
theorem c_Pk_addValues (l : Launch) {X : Xs} {L : La} (hW : WT L) {out : Mem} {i0 : Nat} {x1 : Int32} {F : Mem} (o0 : oO L 11 i0) (h : f_Pk_addValues L i0 x1 F = some out) : Met l y_Pk_addValues w_Pk_addValues r_Pk_addValues (va_Pc [.ref (mAd X i0), .int x1] (Pr X L F)) (QV X L out) 0 0 (AA X L) := by
  refine mk_met (by decide) rfl (Nat.le_of_ble_eq_true rfl) hW ?_
  intro p e s m args below meth c ls hC hI hl
  have hl : lv_has ls 5 [(0, .ref (mAd X i0)), (1, .int x1)] := hl
  generalize hHe : s.heap = H at hI ⊢
  generalize ([] : List Loc) = locs at hI ⊢
  unfold f_Pk_addValues at h
  obtain ⟨S, hK, hT, hW, hr, hlk⟩ := id hC
  have hx := S.1
  have hb := S.2.1
  refine lv_aload_n hx hb d_Pk_addValues_0 rfl (lv_at hl 0 rfl) ?_
  have p1 := wt_o hW o0 1 10 rfl (by decide) (by decide) (by decide)
  refine w_getR (T := T_Pk) S hK hI o0 rfl hin_Pk 1 (index := 66) (by decide) lf_Pk_66 d_Pk_addValues_1 ?_
  have p2 := wt_a hW p1 3 rfl (by decide) (by decide)
  refine w_getR (T := T_Mf) S hK hI p1 rfl hin_Mf 3 (index := 198) (by decide) lf_Pk_198 d_Pk_addValues_4 ?_
  refine lv_iload_n hx hb d_Pk_addValues_7 rfl (lv_at hl 1 rfl) ?_
  obtain ⟨z3, h⟩ := un_if h
  refine w_iald S hK hI hT p2 z3 d_Pk_addValues_8 ?_
  obtain ⟨q4, e5, h⟩ := un_bi h
  refine w_callSi (As := [.int (mGa L F (mRf L (mRf L i0 1) 3) x1.toNatClampNeg)]) (rest := []) S hK hI hT (c_Pk_wayCodeOf l hW  e5) (va_cwS 1 S.2.2.2.2 (gd_S lc_Pk_wayCodeOf lm_Pk_201 lst_Pk_wayCodeOf ln_Pk) rfl rfl rfl hd_Pk_wayCodeOf.2 ⟨Nat.le_of_ble_eq_true rfl, Nat.le_of_ble_eq_true rfl⟩)  rfl rfl hl.1 (Nat.le_of_ble_eq_true rfl) d_Pk_addValues_9 ⟨Nat.zero_le _, Nat.zero_le _⟩ (fun H locs hI => ?_)
  refine lv_istore_n (lv' := [(2, .int q4.1), (0, .ref (mAd X i0)), (1, .int x1)]) hx hb d_Pk_addValues_12 rfl hl (by decide) rfl (fun ls hl => ?_)
  refine lv_aload_n hx hb d_Pk_addValues_13 rfl (lv_at hl 1 rfl) ?_
  have p6 := wt_o hW o0 5 5 rfl (by decide) (by decide) (by decide)
  refine w_getR (T := T_Pk) S hK hI o0 rfl hin_Pk 5 (index := 23) (by decide) lf_Pk_23 d_Pk_addValues_14 ?_
  refine lv_aload_n hx hb d_Pk_addValues_17 rfl (lv_at hl 1 rfl) ?_
  have p7 := wt_o hW o0 1 10 rfl (by decide) (by decide) (by decide)
  refine w_getR (T := T_Pk) S hK hI o0 rfl hin_Pk 1 (index := 66) (by decide) lf_Pk_66 d_Pk_addValues_18 ?_
  have p8 := wt_a hW p7 3 rfl (by decide) (by decide)
  refine w_getR (T := T_Mf) S hK hI p7 rfl hin_Mf 3 (index := 198) (by decide) lf_Pk_198 d_Pk_addValues_21 ?_
  refine lv_iload_n hx hb d_Pk_addValues_24 rfl (lv_at hl 2 rfl) ?_
  obtain ⟨z9, h⟩ := un_if h
  refine w_iald S hK hI hT p8 z9 d_Pk_addValues_25 ?_
  refine lv_iconst (v := 1) hx hb d_Pk_addValues_26 rfl ?_
  refine lv_iload_n hx hb d_Pk_addValues_27 rfl (lv_at hl 0 rfl) ?_
  refine lv_ishl hx hb d_Pk_addValues_28 ?_
  refine lv_isub hx hb d_Pk_addValues_29 ?_
  refine lv_iload_n hx hb d_Pk_addValues_30 rfl (lv_at hl 0 rfl) ?_
  obtain ⟨F10, e11, h⟩ := un_bi h
  refine w_callVv (As := [.int ((mGa L q4.2 (mRf L (mRf L i0 1) 3) x1.toNatClampNeg) - (jshl (1 : Int32) q4.1)), .int q4.1]) (rest := []) S hK hI hT (c_Br_add l hW p6 e11) (cwV 2 S.2.2.2.2 (gd_V lc_Br_add lm_Pk_168 li_Br_add ls_Br_add ln_Br) rfl rfl rfl hd_Br_add ⟨Nat.le_of_ble_eq_true rfl, Nat.le_of_ble_eq_true rfl⟩) p6 rfl (by decide) rfl rfl hl.1 (Nat.le_of_ble_eq_true rfl) d_Pk_addValues_31 ⟨Nat.zero_le _, Nat.zero_le _⟩ (fun H locs hI => ?_)
  have p12 : oA L (mNc L + 4) := oA_t (by decide)
  refine w_getsN (j := 4) S hI hT (by decide) (va_Nw.use rfl (hT.2 ("PackFrames$Packer", 192, "PackFrames", "MATCH_BASES", "[I", "PackFrames") (by decide))) d_Pk_addValues_34 ?_
  refine lv_aload_n hx hb d_Pk_addValues_37 rfl (lv_at hl 1 rfl) ?_
  have p13 := wt_o hW o0 1 10 rfl (by decide) (by decide) (by decide)
  refine w_getR (T := T_Pk) S hK hI o0 rfl hin_Pk 1 (index := 66) (by decide) lf_Pk_66 d_Pk_addValues_38 ?_
  have p14 := wt_a hW p13 4 rfl (by decide) (by decide)
  refine w_getR (T := T_Mf) S hK hI p13 rfl hin_Mf 4 (index := 195) (by decide) lf_Pk_195 d_Pk_addValues_41 ?_
  refine lv_iload_n hx hb d_Pk_addValues_44 rfl (lv_at hl 2 rfl) ?_
  obtain ⟨z15, h⟩ := un_if h
  refine w_iald S hK hI hT p14 z15 d_Pk_addValues_45 ?_
  obtain ⟨q16, e17, h⟩ := un_bi h
  refine w_callSi (As := [.ref (mAd X (mNc L + 4)), .int (mGa L F10 (mRf L (mRf L i0 1) 4) x1.toNatClampNeg)]) (rest := []) S hK hI hT (c_Pk_codeOf l hW p12 e17) (va_cwS 2 S.2.2.2.2 (gd_S lc_Pk_codeOf lm_Pk_184 lst_Pk_codeOf ln_Pk) rfl rfl rfl hd_Pk_codeOf.2 ⟨Nat.le_of_ble_eq_true rfl, Nat.le_of_ble_eq_true rfl⟩)  rfl rfl hl.1 (Nat.le_of_ble_eq_true rfl) d_Pk_addValues_46 ⟨Nat.zero_le _, Nat.zero_le _⟩ (fun H locs hI => ?_)
  refine lv_istore_n (lv' := [(3, .int q16.1), (2, .int q4.1), (0, .ref (mAd X i0)), (1, .int x1)]) hx hb d_Pk_addValues_49 rfl hl (by decide) rfl (fun ls hl => ?_)
  refine lv_aload_n hx hb d_Pk_addValues_50 rfl (lv_at hl 2 rfl) ?_
  have p18 := wt_o hW o0 5 5 rfl (by decide) (by decide) (by decide)
  refine w_getR (T := T_Pk) S hK hI o0 rfl hin_Pk 5 (index := 23) (by decide) lf_Pk_23 d_Pk_addValues_51 ?_
  refine lv_aload_n hx hb d_Pk_addValues_54 rfl (lv_at hl 2 rfl) ?_
  have p19 := wt_o hW o0 1 10 rfl (by decide) (by decide) (by decide)
  refine w_getR (T := T_Pk) S hK hI o0 rfl hin_Pk 1 (index := 66) (by decide) lf_Pk_66 d_Pk_addValues_55 ?_
  have p20 := wt_a hW p19 4 rfl (by decide) (by decide)
  refine w_getR (T := T_Mf) S hK hI p19 rfl hin_Mf 4 (index := 195) (by decide) lf_Pk_195 d_Pk_addValues_58 ?_
  refine lv_iload_n hx hb d_Pk_addValues_61 rfl (lv_at hl 3 rfl) ?_
  obtain ⟨z21, h⟩ := un_if h
  refine w_iald S hK hI hT p20 z21 d_Pk_addValues_62 ?_
  have p22 : oA L (mNc L + 4) := oA_t (by decide)
  refine w_getsN (j := 4) S hI hT (by decide) (va_Nw.use rfl (hT.2 ("PackFrames$Packer", 192, "PackFrames", "MATCH_BASES", "[I", "PackFrames") (by decide))) d_Pk_addValues_63 ?_
  refine lv_iload_n hx hb d_Pk_addValues_66 rfl (lv_at hl 0 rfl) ?_
  obtain ⟨z23, h⟩ := un_if h
  refine w_iald S hK hI hT p22 z23 d_Pk_addValues_67 ?_
  refine lv_isub hx hb d_Pk_addValues_68 ?_
  have p24 : oA L (mNc L + 5) := oA_t (by decide)
  refine w_getsN (j := 5) S hI hT (by decide) (va_Nw.use rfl (hT.2 ("PackFrames$Packer", 219, "PackFrames", "MATCH_BITS", "[I", "PackFrames") (by decide))) d_Pk_addValues_69 ?_
  refine lv_iload_n hx hb d_Pk_addValues_72 rfl (lv_at hl 0 rfl) ?_
  obtain ⟨z25, h⟩ := un_if h
  refine w_iald S hK hI hT p24 z25 d_Pk_addValues_73 ?_
  obtain ⟨F26, e27, h⟩ := un_bi h
  refine w_callVv (As := [.int ((mGa L q16.2 (mRf L (mRf L i0 1) 4) x1.toNatClampNeg) - (mGa L q16.2 (mNc L + 4) q16.1.toNatClampNeg)), .int (mGa L q16.2 (mNc L + 5) q16.1.toNatClampNeg)]) (rest := []) S hK hI hT (c_Br_add l hW p18 e27) (cwV 2 S.2.2.2.2 (gd_V lc_Br_add lm_Pk_168 li_Br_add ls_Br_add ln_Br) rfl rfl rfl hd_Br_add ⟨Nat.le_of_ble_eq_true rfl, Nat.le_of_ble_eq_true rfl⟩) p18 rfl (by decide) rfl rfl hl.1 (Nat.le_of_ble_eq_true rfl) d_Pk_addValues_74 ⟨Nat.zero_le _, Nat.zero_le _⟩ (fun H locs hI => ?_)
  have p28 : oA L (mNc L + 2) := oA_t (by decide)
  refine w_getsN (j := 2) S hI hT (by decide) (va_Nw.use rfl (hT.2 ("PackFrames$Packer", 178, "PackFrames", "LITERAL_BASES", "[I", "PackFrames") (by decide))) d_Pk_addValues_77 ?_
  refine lv_aload_n hx hb d_Pk_addValues_80 rfl (lv_at hl 2 rfl) ?_
  have p29 := wt_o hW o0 1 10 rfl (by decide) (by decide) (by decide)
  refine w_getR (T := T_Pk) S hK hI o0 rfl hin_Pk 1 (index := 66) (by decide) lf_Pk_66 d_Pk_addValues_81 ?_
  have p30 := wt_a hW p29 2 rfl (by decide) (by decide)
  refine w_getR (T := T_Mf) S hK hI p29 rfl hin_Mf 2 (index := 181) (by decide) lf_Pk_181 d_Pk_addValues_84 ?_
  refine lv_iload_n hx hb d_Pk_addValues_87 rfl (lv_at hl 3 rfl) ?_
  obtain ⟨z31, h⟩ := un_if h
  refine w_iald S hK hI hT p30 z31 d_Pk_addValues_88 ?_
  obtain ⟨q32, e33, h⟩ := un_bi h
  refine w_callSi (As := [.ref (mAd X (mNc L + 2)), .int (mGa L F26 (mRf L (mRf L i0 1) 2) x1.toNatClampNeg)]) (rest := []) S hK hI hT (c_Pk_codeOf l hW p28 e33) (va_cwS 2 S.2.2.2.2 (gd_S lc_Pk_codeOf lm_Pk_184 lst_Pk_codeOf ln_Pk) rfl rfl rfl hd_Pk_codeOf.2 ⟨Nat.le_of_ble_eq_true rfl, Nat.le_of_ble_eq_true rfl⟩)  rfl rfl hl.1 (Nat.le_of_ble_eq_true rfl) d_Pk_addValues_89 ⟨Nat.zero_le _, Nat.zero_le _⟩ (fun H locs hI => ?_)
  refine lv_istore (lv' := [(4, .int q32.1), (3, .int q16.1), (2, .int q4.1), (0, .ref (mAd X i0)), (1, .int x1)]) hx hb d_Pk_addValues_92 hl (by decide) rfl (fun ls hl => ?_)
  refine lv_aload_n hx hb d_Pk_addValues_94 rfl (lv_at hl 3 rfl) ?_
  have p34 := wt_o hW o0 5 5 rfl (by decide) (by decide) (by decide)
  refine w_getR (T := T_Pk) S hK hI o0 rfl hin_Pk 5 (index := 23) (by decide) lf_Pk_23 d_Pk_addValues_95 ?_
  refine lv_aload_n hx hb d_Pk_addValues_98 rfl (lv_at hl 3 rfl) ?_
  have p35 := wt_o hW o0 1 10 rfl (by decide) (by decide) (by decide)
  refine w_getR (T := T_Pk) S hK hI o0 rfl hin_Pk 1 (index := 66) (by decide) lf_Pk_66 d_Pk_addValues_99 ?_
  have p36 := wt_a hW p35 2 rfl (by decide) (by decide)
  refine w_getR (T := T_Mf) S hK hI p35 rfl hin_Mf 2 (index := 181) (by decide) lf_Pk_181 d_Pk_addValues_102 ?_
  refine lv_iload_n hx hb d_Pk_addValues_105 rfl (lv_at hl 4 rfl) ?_
  obtain ⟨z37, h⟩ := un_if h
  refine w_iald S hK hI hT p36 z37 d_Pk_addValues_106 ?_
  have p38 : oA L (mNc L + 2) := oA_t (by decide)
  refine w_getsN (j := 2) S hI hT (by decide) (va_Nw.use rfl (hT.2 ("PackFrames$Packer", 178, "PackFrames", "LITERAL_BASES", "[I", "PackFrames") (by decide))) d_Pk_addValues_107 ?_
  refine lv_iload hx hb d_Pk_addValues_110 (lv_at hl 0 rfl) ?_
  obtain ⟨z39, h⟩ := un_if h
  refine w_iald S hK hI hT p38 z39 d_Pk_addValues_112 ?_
  refine lv_isub hx hb d_Pk_addValues_113 ?_
  have p40 : oA L (mNc L + 3) := oA_t (by decide)
  refine w_getsN (j := 3) S hI hT (by decide) (va_Nw.use rfl (hT.2 ("PackFrames$Packer", 222, "PackFrames", "LITERAL_BITS", "[I", "PackFrames") (by decide))) d_Pk_addValues_114 ?_
  refine lv_iload hx hb d_Pk_addValues_117 (lv_at hl 0 rfl) ?_
  obtain ⟨z41, h⟩ := un_if h
  refine w_iald S hK hI hT p40 z41 d_Pk_addValues_119 ?_
  obtain ⟨F42, e43, h⟩ := un_bi h
  refine w_callVv (As := [.int ((mGa L q32.2 (mRf L (mRf L i0 1) 2) x1.toNatClampNeg) - (mGa L q32.2 (mNc L + 2) q32.1.toNatClampNeg)), .int (mGa L q32.2 (mNc L + 3) q32.1.toNatClampNeg)]) (rest := []) S hK hI hT (c_Br_add l hW p34 e43) (cwV 2 S.2.2.2.2 (gd_V lc_Br_add lm_Pk_168 li_Br_add ls_Br_add ln_Br) rfl rfl rfl hd_Br_add ⟨Nat.le_of_ble_eq_true rfl, Nat.le_of_ble_eq_true rfl⟩) p34 rfl (by decide) rfl rfl hl.1 (Nat.le_of_ble_eq_true rfl) d_Pk_addValues_120 ⟨Nat.zero_le _, Nat.zero_le _⟩ (fun H locs hI => ?_)
  exact w_vret S hK hr hlk hI d_Pk_addValues_123 h
end
theorem d_Pk_addSequences_0 : decode cc_Pk_addSequences 0 = .ok (.aload_n 0, 1) := by decide +kernel
theorem d_Pk_addSequences_1 : decode cc_Pk_addSequences 1 = .ok (.getfield 14, 3) := by decide +kernel
theorem d_Pk_addSequences_4 : decode cc_Pk_addSequences 4 = .ok (.aload_n 0, 1) := by decide +kernel
theorem d_Pk_addSequences_5 : decode cc_Pk_addSequences 5 = .ok (.getfield 66, 3) := by decide +kernel
theorem d_Pk_addSequences_8 : decode cc_Pk_addSequences 8 = .ok (.getfield 162, 3) := by decide +kernel
theorem d_Pk_addSequences_11 : decode cc_Pk_addSequences 11 = .ok (.invokevirtual 87, 3) := by decide +kernel
theorem d_Pk_addSequences_14 : decode cc_Pk_addSequences 14 = .ok (.aload_n 0, 1) := by decide +kernel
theorem d_Pk_addSequences_15 : decode cc_Pk_addSequences 15 = .ok (.getfield 66, 3) := by decide +kernel
theorem d_Pk_addSequences_18 : decode cc_Pk_addSequences 18 = .ok (.getfield 162, 3) := by decide +kernel
theorem d_Pk_addSequences_21 : decode cc_Pk_addSequences 21 = .ok (.ifCond .ne (4), 3) := by decide +kernel
theorem d_Pk_addSequences_24 : decode cc_Pk_addSequences 24 = .ok (.return_, 1) := by decide +kernel
theorem d_Pk_addSequences_25 : decode cc_Pk_addSequences 25 = .ok (.aload_n 0, 1) := by decide +kernel
theorem d_Pk_addSequences_26 : decode cc_Pk_addSequences 26 = .ok (.getfield 14, 3) := by decide +kernel
theorem d_Pk_addSequences_29 : decode cc_Pk_addSequences 29 = .ok (.iconst 0, 1) := by decide +kernel
theorem d_Pk_addSequences_30 : decode cc_Pk_addSequences 30 = .ok (.invokevirtual 87, 3) := by decide +kernel
theorem d_Pk_addSequences_33 : decode cc_Pk_addSequences 33 = .ok (.aload_n 0, 1) := by decide +kernel
theorem d_Pk_addSequences_34 : decode cc_Pk_addSequences 34 = .ok (.invokevirtual 165, 3) := by decide +kernel
theorem d_Pk_addSequences_37 : decode cc_Pk_addSequences 37 = .ok (.aload_n 0, 1) := by decide +kernel
theorem d_Pk_addSequences_38 : decode cc_Pk_addSequences 38 = .ok (.getfield 23, 3) := by decide +kernel
theorem d_Pk_addSequences_41 : decode cc_Pk_addSequences 41 = .ok (.iconst 0, 1) := by decide +kernel
theorem d_Pk_addSequences_42 : decode cc_Pk_addSequences 42 = .ok (.putfield 122, 3) := by decide +kernel
theorem d_Pk_addSequences_45 : decode cc_Pk_addSequences 45 = .ok (.aload_n 0, 1) := by decide +kernel
theorem d_Pk_addSequences_46 : decode cc_Pk_addSequences 46 = .ok (.getfield 23, 3) := by decide +kernel
theorem d_Pk_addSequences_49 : decode cc_Pk_addSequences 49 = .ok (.aload_n 0, 1) := by decide +kernel
theorem d_Pk_addSequences_50 : decode cc_Pk_addSequences 50 = .ok (.getfield 41, 3) := by decide +kernel
theorem d_Pk_addSequences_53 : decode cc_Pk_addSequences 53 = .ok (.iconst 0, 1) := by decide +kernel
theorem d_Pk_addSequences_54 : decode cc_Pk_addSequences 54 = .ok (.iaload, 1) := by decide +kernel
theorem d_Pk_addSequences_55 : decode cc_Pk_addSequences 55 = .ok (.iconst 4, 1) := by decide +kernel
theorem d_Pk_addSequences_56 : decode cc_Pk_addSequences 56 = .ok (.invokevirtual 168, 3) := by decide +kernel
theorem d_Pk_addSequences_59 : decode cc_Pk_addSequences 59 = .ok (.aload_n 0, 1) := by decide +kernel
theorem d_Pk_addSequences_60 : decode cc_Pk_addSequences 60 = .ok (.getfield 23, 3) := by decide +kernel
theorem d_Pk_addSequences_63 : decode cc_Pk_addSequences 63 = .ok (.aload_n 0, 1) := by decide +kernel
theorem d_Pk_addSequences_64 : decode cc_Pk_addSequences 64 = .ok (.getfield 45, 3) := by decide +kernel
theorem d_Pk_addSequences_67 : decode cc_Pk_addSequences 67 = .ok (.iconst 0, 1) := by decide +kernel
theorem d_Pk_addSequences_68 : decode cc_Pk_addSequences 68 = .ok (.iaload, 1) := by decide +kernel
theorem d_Pk_addSequences_69 : decode cc_Pk_addSequences 69 = .ok (.iconst 4, 1) := by decide +kernel
theorem d_Pk_addSequences_70 : decode cc_Pk_addSequences 70 = .ok (.invokevirtual 168, 3) := by decide +kernel
theorem d_Pk_addSequences_73 : decode cc_Pk_addSequences 73 = .ok (.aload_n 0, 1) := by decide +kernel
theorem d_Pk_addSequences_74 : decode cc_Pk_addSequences 74 = .ok (.getfield 23, 3) := by decide +kernel
theorem d_Pk_addSequences_77 : decode cc_Pk_addSequences 77 = .ok (.aload_n 0, 1) := by decide +kernel
theorem d_Pk_addSequences_78 : decode cc_Pk_addSequences 78 = .ok (.getfield 48, 3) := by decide +kernel
theorem d_Pk_addSequences_81 : decode cc_Pk_addSequences 81 = .ok (.iconst 0, 1) := by decide +kernel
theorem d_Pk_addSequences_82 : decode cc_Pk_addSequences 82 = .ok (.iaload, 1) := by decide +kernel
theorem d_Pk_addSequences_83 : decode cc_Pk_addSequences 83 = .ok (.iconst 4, 1) := by decide +kernel
theorem d_Pk_addSequences_84 : decode cc_Pk_addSequences 84 = .ok (.invokevirtual 168, 3) := by decide +kernel
theorem d_Pk_addSequences_87 : decode cc_Pk_addSequences 87 = .ok (.iconst 0, 1) := by decide +kernel
theorem d_Pk_addSequences_88 : decode cc_Pk_addSequences 88 = .ok (.istore_n 1, 1) := by decide +kernel
theorem d_Pk_addSequences_89 : decode cc_Pk_addSequences 89 = .ok (.iload_n 1, 1) := by decide +kernel
theorem d_Pk_addSequences_90 : decode cc_Pk_addSequences 90 = .ok (.aload_n 0, 1) := by decide +kernel
theorem d_Pk_addSequences_91 : decode cc_Pk_addSequences 91 = .ok (.getfield 66, 3) := by decide +kernel
theorem d_Pk_addSequences_94 : decode cc_Pk_addSequences 94 = .ok (.getfield 162, 3) := by decide +kernel
theorem d_Pk_addSequences_97 : decode cc_Pk_addSequences 97 = .ok (.if_icmp .ge (57), 3) := by decide +kernel
theorem d_Pk_addSequences_100 : decode cc_Pk_addSequences 100 = .ok (.iload_n 1, 1) := by decide +kernel
theorem d_Pk_addSequences_101 : decode cc_Pk_addSequences 101 = .ok (.ifCond .le (42), 3) := by decide +kernel
theorem d_Pk_addSequences_104 : decode cc_Pk_addSequences 104 = .ok (.aload_n 0, 1) := by decide +kernel
theorem d_Pk_addSequences_105 : decode cc_Pk_addSequences 105 = .ok (.aload_n 0, 1) := by decide +kernel
theorem d_Pk_addSequences_106 : decode cc_Pk_addSequences 106 = .ok (.getfield 54, 3) := by decide +kernel
theorem d_Pk_addSequences_109 : decode cc_Pk_addSequences 109 = .ok (.aload_n 0, 1) := by decide +kernel
theorem d_Pk_addSequences_110 : decode cc_Pk_addSequences 110 = .ok (.getfield 41, 3) := by decide +kernel
theorem d_Pk_addSequences_113 : decode cc_Pk_addSequences 113 = .ok (.iload_n 1, 1) := by decide +kernel
theorem d_Pk_addSequences_114 : decode cc_Pk_addSequences 114 = .ok (.invokevirtual 171, 3) := by decide +kernel
theorem d_Pk_addSequences_117 : decode cc_Pk_addSequences 117 = .ok (.aload_n 0, 1) := by decide +kernel
theorem d_Pk_addSequences_118 : decode cc_Pk_addSequences 118 = .ok (.aload_n 0, 1) := by decide +kernel
theorem d_Pk_addSequences_119 : decode cc_Pk_addSequences 119 = .ok (.getfield 54, 3) := by decide +kernel
theorem d_Pk_addSequences_122 : decode cc_Pk_addSequences 122 = .ok (.aload_n 0, 1) := by decide +kernel
theorem d_Pk_addSequences_123 : decode cc_Pk_addSequences 123 = .ok (.getfield 48, 3) := by decide +kernel
theorem d_Pk_addSequences_126 : decode cc_Pk_addSequences 126 = .ok (.iload_n 1, 1) := by decide +kernel
theorem d_Pk_addSequences_127 : decode cc_Pk_addSequences 127 = .ok (.invokevirtual 171, 3) := by decide +kernel
theorem d_Pk_addSequences_130 : decode cc_Pk_addSequences 130 = .ok (.aload_n 0, 1) := by decide +kernel
theorem d_Pk_addSequences_131 : decode cc_Pk_addSequences 131 = .ok (.aload_n 0, 1) := by decide +kernel
theorem d_Pk_addSequences_132 : decode cc_Pk_addSequences 132 = .ok (.getfield 58, 3) := by decide +kernel
theorem d_Pk_addSequences_135 : decode cc_Pk_addSequences 135 = .ok (.aload_n 0, 1) := by decide +kernel
theorem d_Pk_addSequences_136 : decode cc_Pk_addSequences 136 = .ok (.getfield 45, 3) := by decide +kernel
theorem d_Pk_addSequences_139 : decode cc_Pk_addSequences 139 = .ok (.iload_n 1, 1) := by decide +kernel
theorem d_Pk_addSequences_140 : decode cc_Pk_addSequences 140 = .ok (.invokevirtual 171, 3) := by decide +kernel
theorem d_Pk_addSequences_143 : decode cc_Pk_addSequences 143 = .ok (.aload_n 0, 1) := by decide +kernel
theorem d_Pk_addSequences_144 : decode cc_Pk_addSequences 144 = .ok (.iload_n 1, 1) := by decide +kernel
theorem d_Pk_addSequences_145 : decode cc_Pk_addSequences 145 = .ok (.invokevirtual 175, 3) := by decide +kernel
theorem d_Pk_addSequences_148 : decode cc_Pk_addSequences 148 = .ok (.iinc 1 (1), 3) := by decide +kernel
theorem d_Pk_addSequences_151 : decode cc_Pk_addSequences 151 = .ok (.goto (-62), 3) := by decide +kernel
theorem d_Pk_addSequences_154 : decode cc_Pk_addSequences 154 = .ok (.aload_n 0, 1) := by decide +kernel
theorem d_Pk_addSequences_155 : decode cc_Pk_addSequences 155 = .ok (.getfield 23, 3) := by decide +kernel
theorem d_Pk_addSequences_158 : decode cc_Pk_addSequences 158 = .ok (.aload_n 0, 1) := by decide +kernel
theorem d_Pk_addSequences_159 : decode cc_Pk_addSequences 159 = .ok (.getfield 14, 3) := by decide +kernel
theorem d_Pk_addSequences_162 : decode cc_Pk_addSequences 162 = .ok (.invokevirtual 134, 3) := by decide +kernel
theorem d_Pk_addSequences_165 : decode cc_Pk_addSequences 165 = .ok (.return_, 1) := by decide +kernel
section
variable {p : Program} {l : Launch} {e : Env} {s : State} {m : MethodId} {args : Array Value} {below : List Frame} {meth : Method} {c : Code} {X : Xs} {L : La}
def b_Pk_addSequences_143 (L : La) (k89 : Nat → Int32 → Mem → Option Mem) (i0 : Nat) (x1 : Int32) (F : Mem) : Option Mem :=
  (f_Pk_addValues L i0 x1 F).bind fun F1 =>
  k89 i0 (x1 + (1 : Int32)) F1
set_option maxHeartbeats 4000000 in
theorem t_Pk_addSequences_143 (hC : Cx X L p s m args meth c cc_Pk_addSequences 2 w_Pk_addSequences R_Pk none) {k89 : Nat → Int32 → Mem → Option Mem} {out : Mem} (hk89 : ∀ (i0 : Nat) (x1 : Int32) (F : Mem) (H : Heap) (locs : List Loc) (ls : Array Slot), oO L 11 i0 → Iv X L s H locs F → lv_has ls 2 [(0, .ref (mAd X i0)), (1, .int x1)] → k89 i0 x1 F = some out → W p l e (headSpec w_Pk_addSequences r_Pk_addSequences).room s m args below meth c H locs 0 0 (MQ below (QV X L out) args s 0 0 (AA X L)) (F0 m 89 ls [])) {i0 : Nat} {x1 : Int32} {F : Mem} {H : Heap} {locs : List Loc} {ls : Array Slot} (o0 : oO L 11 i0) (hI : Iv X L s H locs F) (hl : lv_has ls 2 [(0, .ref (mAd X i0)), (1, .int x1)]) (h : b_Pk_addSequences_143 L k89 i0 x1 F = some out) : W p l e (headSpec w_Pk_addSequences r_Pk_addSequences).room s m args below meth c H locs 0 0 (MQ below (QV X L out) args s 0 0 (AA X L)) (F0 m 143 ls []) := by
  unfold b_Pk_addSequences_143 at h
  obtain ⟨S, hK, hT, hW, hr, hlk⟩ := id hC
  have hx := S.1
  have hb := S.2.1
  refine lv_aload_n hx hb d_Pk_addSequences_143 rfl (lv_at hl 0 rfl) ?_
  refine lv_iload_n hx hb d_Pk_addSequences_144 rfl (lv_at hl 1 rfl) ?_
  obtain ⟨F1, e2, h⟩ := un_bi h
  refine w_callVv (As := [.int x1]) (rest := []) S hK hI hT (c_Pk_addValues l hW o0 e2) (cwV 1 S.2.2.2.2 (gd_V lc_Pk_addValues lm_Pk_175 li_Pk_addValues ls_Pk_addValues ln_Pk) rfl rfl rfl hd_Pk_addValues ⟨Nat.le_of_ble_eq_true rfl, Nat.le_of_ble_eq_true rfl⟩) o0 rfl (by decide) rfl rfl hl.1 (Nat.le_of_ble_eq_true rfl) d_Pk_addSequences_145 ⟨Nat.zero_le _, Nat.zero_le _⟩ (fun H locs hI => ?_)
  refine lv_iinc (k := 1) (v := x1 + (1 : Int32)) (lv' := [(1, .int (x1 + (1 : Int32))), (0, .ref (mAd X i0))]) hx hb d_Pk_addSequences_148 hl rfl rfl (by decide) rfl (fun ls hl => ?_)
  refine lv_goto (tgt := 89) hx hb d_Pk_addSequences_151 rfl ?_
  exact hk89 _ _ _ _ _ _ o0 hI (lv_sub hl [1, 0] rfl) h
def b_Pk_addSequences_89 (L : La) (k89 : Nat → Int32 → Mem → Option Mem) (i0 : Nat) (x1 : Int32) (F : Mem) : Option Mem :=
  if (F (mRf L i0 1) 6) ≤ x1 then
    (f_Br_addStreamTo L (mRf L i0 5) (mRf L i0 4) F).bind fun F4 =>
    some F4
  else
    if x1 ≤ 0 then
      b_Pk_addSequences_143 L k89 i0 x1 F
    else
      (f_Pk_addNextState L i0 (mRf L i0 2) (mRf L i0 8) x1 F).bind fun F8 =>
      (f_Pk_addNextState L i0 (mRf L i0 2) (mRf L i0 10) x1 F8).bind fun F12 =>
      (f_Pk_addNextState L i0 (mRf L i0 3) (mRf L i0 9) x1 F12).bind fun F16 =>
      b_Pk_addSequences_143 L k89 i0 x1 F16
set_option maxHeartbeats 4000000 in
theorem t_Pk_addSequences_89 (hC : Cx X L p s m args meth c cc_Pk_addSequences 2 w_Pk_addSequences R_Pk none) {k89 : Nat → Int32 → Mem → Option Mem} {out : Mem} (hk89 : ∀ (i0 : Nat) (x1 : Int32) (F : Mem) (H : Heap) (locs : List Loc) (ls : Array Slot), oO L 11 i0 → Iv X L s H locs F → lv_has ls 2 [(0, .ref (mAd X i0)), (1, .int x1)] → k89 i0 x1 F = some out → W p l e (headSpec w_Pk_addSequences r_Pk_addSequences).room s m args below meth c H locs 0 0 (MQ below (QV X L out) args s 0 0 (AA X L)) (F0 m 89 ls [])) {i0 : Nat} {x1 : Int32} {F : Mem} {H : Heap} {locs : List Loc} {ls : Array Slot} (o0 : oO L 11 i0) (hI : Iv X L s H locs F) (hl : lv_has ls 2 [(0, .ref (mAd X i0)), (1, .int x1)]) (h : b_Pk_addSequences_89 L k89 i0 x1 F = some out) : W p l e (headSpec w_Pk_addSequences r_Pk_addSequences).room s m args below meth c H locs 0 0 (MQ below (QV X L out) args s 0 0 (AA X L)) (F0 m 89 ls []) := by
  unfold b_Pk_addSequences_89 at h
  obtain ⟨S, hK, hT, hW, hr, hlk⟩ := id hC
  have hx := S.1
  have hb := S.2.1
  refine lv_iload_n hx hb d_Pk_addSequences_89 rfl (lv_at hl 1 rfl) ?_
  refine lv_aload_n hx hb d_Pk_addSequences_90 rfl (lv_at hl 0 rfl) ?_
  have p1 := wt_o hW o0 1 10 rfl (by decide) (by decide) (by decide)
  refine w_getR (T := T_Pk) S hK hI o0 rfl hin_Pk 1 (index := 66) (by decide) lf_Pk_66 d_Pk_addSequences_91 ?_
  refine w_getI (T := T_Mf) S hK hI p1 rfl hin_Mf 6 (index := 162) (by decide) lf_Pk_162 d_Pk_addSequences_94 ?_
  refine lv_icmp_ge (tgt := 154) hx hb d_Pk_addSequences_97 rfl (fun hc => ?_) (fun hc => ?_)
  · replace h := (if_pos hc).symm.trans h
    refine lv_aload_n hx hb d_Pk_addSequences_154 rfl (lv_at hl 0 rfl) ?_
    have p2 := wt_o hW o0 5 5 rfl (by decide) (by decide) (by decide)
    refine w_getR (T := T_Pk) S hK hI o0 rfl hin_Pk 5 (index := 23) (by decide) lf_Pk_23 d_Pk_addSequences_155 ?_
    refine lv_aload_n hx hb d_Pk_addSequences_158 rfl (lv_at hl 0 rfl) ?_
    have p3 := wt_o hW o0 4 1 rfl (by decide) (by decide) (by decide)
    refine w_getR (T := T_Pk) S hK hI o0 rfl hin_Pk 4 (index := 14) (by decide) lf_Pk_14 d_Pk_addSequences_159 ?_
    obtain ⟨F4, e5, h⟩ := un_bi h
    refine w_callVv (As := [.ref (mAd X (mRf L i0 4))]) (rest := []) S hK hI hT (c_Br_addStreamTo l hW p2 p3 e5) (cwV 1 S.2.2.2.2 (gd_V lc_Br_addStreamTo lm_Pk_134 li_Br_addStreamTo ls_Br_addStreamTo ln_Br) rfl rfl rfl hd_Br_addStreamTo ⟨Nat.le_of_ble_eq_true rfl, Nat.le_of_ble_eq_true rfl⟩) p2 rfl (by decide) rfl rfl hl.1 (Nat.le_of_ble_eq_true rfl) d_Pk_addSequences_162 ⟨Nat.zero_le _, Nat.zero_le _⟩ (fun H locs hI => ?_)
    exact w_vret S hK hr hlk hI d_Pk_addSequences_165 h
  · replace h := (if_neg hc).symm.trans h
    refine lv_iload_n hx hb d_Pk_addSequences_100 rfl (lv_at hl 1 rfl) ?_
    refine lv_if_le (tgt := 143) hx hb d_Pk_addSequences_101 rfl (fun hc => ?_) (fun hc => ?_)
    · replace h := (if_pos hc).symm.trans h
      exact t_Pk_addSequences_143 hC hk89 o0 hI hl h
    · replace h := (if_neg hc).symm.trans h
      refine lv_aload_n hx hb d_Pk_addSequences_104 rfl (lv_at hl 0 rfl) ?_
      refine lv_aload_n hx hb d_Pk_addSequences_105 rfl (lv_at hl 0 rfl) ?_
      have p6 := wt_o hW o0 2 2 rfl (by decide) (by decide) (by decide)
      refine w_getR (T := T_Pk) S hK hI o0 rfl hin_Pk 2 (index := 54) (by decide) lf_Pk_54 d_Pk_addSequences_106 ?_
      refine lv_aload_n hx hb d_Pk_addSequences_109 rfl (lv_at hl 0 rfl) ?_
      have p7 := wt_a hW o0 8 rfl (by decide) (by decide)
      refine w_getR (T := T_Pk) S hK hI o0 rfl hin_Pk 8 (index := 41) (by decide) lf_Pk_41 d_Pk_addSequences_110 ?_
      refine lv_iload_n hx hb d_Pk_addSequences_113 rfl (lv_at hl 1 rfl) ?_
      obtain ⟨F8, e9, h⟩ := un_bi h
      refine w_callVv (As := [.ref (mAd X (mRf L i0 2)), .ref (mAd X (mRf L i0 8)), .int x1]) (rest := []) S hK hI hT (c_Pk_addNextState l hW o0 p6 p7 e9) (cwV 3 S.2.2.2.2 (gd_V lc_Pk_addNextState lm_Pk_171 li_Pk_addNextState ls_Pk_addNextState ln_Pk) rfl rfl rfl hd_Pk_addNextState ⟨Nat.le_of_ble_eq_true rfl, Nat.le_of_ble_eq_true rfl⟩) o0 rfl (by decide) rfl rfl hl.1 (Nat.le_of_ble_eq_true rfl) d_Pk_addSequences_114 ⟨Nat.zero_le _, Nat.zero_le _⟩ (fun H locs hI => ?_)
      refine lv_aload_n hx hb d_Pk_addSequences_117 rfl (lv_at hl 0 rfl) ?_
      refine lv_aload_n hx hb d_Pk_addSequences_118 rfl (lv_at hl 0 rfl) ?_
      have p10 := wt_o hW o0 2 2 rfl (by decide) (by decide) (by decide)
      refine w_getR (T := T_Pk) S hK hI o0 rfl hin_Pk 2 (index := 54) (by decide) lf_Pk_54 d_Pk_addSequences_119 ?_
      refine lv_aload_n hx hb d_Pk_addSequences_122 rfl (lv_at hl 0 rfl) ?_
      have p11 := wt_a hW o0 10 rfl (by decide) (by decide)
      refine w_getR (T := T_Pk) S hK hI o0 rfl hin_Pk 10 (index := 48) (by decide) lf_Pk_48 d_Pk_addSequences_123 ?_
      refine lv_iload_n hx hb d_Pk_addSequences_126 rfl (lv_at hl 1 rfl) ?_
      obtain ⟨F12, e13, h⟩ := un_bi h
      refine w_callVv (As := [.ref (mAd X (mRf L i0 2)), .ref (mAd X (mRf L i0 10)), .int x1]) (rest := []) S hK hI hT (c_Pk_addNextState l hW o0 p10 p11 e13) (cwV 3 S.2.2.2.2 (gd_V lc_Pk_addNextState lm_Pk_171 li_Pk_addNextState ls_Pk_addNextState ln_Pk) rfl rfl rfl hd_Pk_addNextState ⟨Nat.le_of_ble_eq_true rfl, Nat.le_of_ble_eq_true rfl⟩) o0 rfl (by decide) rfl rfl hl.1 (Nat.le_of_ble_eq_true rfl) d_Pk_addSequences_127 ⟨Nat.zero_le _, Nat.zero_le _⟩ (fun H locs hI => ?_)
      refine lv_aload_n hx hb d_Pk_addSequences_130 rfl (lv_at hl 0 rfl) ?_
      refine lv_aload_n hx hb d_Pk_addSequences_131 rfl (lv_at hl 0 rfl) ?_
      have p14 := wt_o hW o0 3 2 rfl (by decide) (by decide) (by decide)
      refine w_getR (T := T_Pk) S hK hI o0 rfl hin_Pk 3 (index := 58) (by decide) lf_Pk_58 d_Pk_addSequences_132 ?_
      refine lv_aload_n hx hb d_Pk_addSequences_135 rfl (lv_at hl 0 rfl) ?_
      have p15 := wt_a hW o0 9 rfl (by decide) (by decide)
      refine w_getR (T := T_Pk) S hK hI o0 rfl hin_Pk 9 (index := 45) (by decide) lf_Pk_45 d_Pk_addSequences_136 ?_
      refine lv_iload_n hx hb d_Pk_addSequences_139 rfl (lv_at hl 1 rfl) ?_
      obtain ⟨F16, e17, h⟩ := un_bi h
      refine w_callVv (As := [.ref (mAd X (mRf L i0 3)), .ref (mAd X (mRf L i0 9)), .int x1]) (rest := []) S hK hI hT (c_Pk_addNextState l hW o0 p14 p15 e17) (cwV 3 S.2.2.2.2 (gd_V lc_Pk_addNextState lm_Pk_171 li_Pk_addNextState ls_Pk_addNextState ln_Pk) rfl rfl rfl hd_Pk_addNextState ⟨Nat.le_of_ble_eq_true rfl, Nat.le_of_ble_eq_true rfl⟩) o0 rfl (by decide) rfl rfl hl.1 (Nat.le_of_ble_eq_true rfl) d_Pk_addSequences_140 ⟨Nat.zero_le _, Nat.zero_le _⟩ (fun H locs hI => ?_)
      exact t_Pk_addSequences_143 hC hk89 o0 hI hl h
def f_Pk_addSequences_89 (L : La)  : Nat → Nat → Int32 → Mem → Option Mem
  | 0 => fun _ _ _ => none
  | n + 1 => b_Pk_addSequences_89 L (f_Pk_addSequences_89 L  n)
theorem tf_Pk_addSequences_89 (hC : Cx X L p s m args meth c cc_Pk_addSequences 2 w_Pk_addSequences R_Pk none)  {out : Mem}  (n : Nat) : ∀ (i0 : Nat) (x1 : Int32) (F : Mem) (H : Heap) (locs : List Loc) (ls : Array Slot), oO L 11 i0 → Iv X L s H locs F → lv_has ls 2 [(0, .ref (mAd X i0)), (1, .int x1)] → f_Pk_addSequences_89 L  n i0 x1 F = some out → W p l e (headSpec w_Pk_addSequences r_Pk_addSequences).room s m args below meth c H locs 0 0 (MQ below (QV X L out) args s 0 0 (AA X L)) (F0 m 89 ls []) := by
  induction n with
  | zero => intro i0 x1 F H locs ls o0 hI hl h; cases h
  | succ n ih => intro i0 x1 F H locs ls o0 hI hl h; exact t_Pk_addSequences_89 hC ih o0 hI hl h
def f_Pk_addSequences (L : La) (i0 : Nat) (F : Mem) : Option Mem :=
  (f_Row_add L (mRf L i0 4) (F (mRf L i0 1) 6) F).bind fun F3 =>
  if (F3 (mRf L i0 1) 6) = 0 then
    some F3
  else
    (f_Row_add L (mRf L i0 4) (0 : Int32) F3).bind fun F7 =>
    (f_Pk_chooseStates L i0 F7).bind fun F9 =>
    lt' (u2 F9 (mRf L i0 5) 1 (0 : Int32)) fun F12 =>
    if inb (0 : Int32) (mGl L (mRf L i0 8)) then none else
    (f_Br_add L (mRf L i0 5) (mGa L F12 (mRf L i0 8) (0 : Int32).toNatClampNeg) (4 : Int32) F12).bind fun F17 =>
    if inb (0 : Int32) (mGl L (mRf L i0 9)) then none else
    (f_Br_add L (mRf L i0 5) (mGa L F17 (mRf L i0 9) (0 : Int32).toNatClampNeg) (4 : Int32) F17).bind fun F22 =>
    if inb (0 : Int32) (mGl L (mRf L i0 10)) then none else
    (f_Br_add L (mRf L i0 5) (mGa L F22 (mRf L i0 10) (0 : Int32).toNatClampNeg) (4 : Int32) F22).bind fun F27 =>
    f_Pk_addSequences_89 L  mFU i0 (0 : Int32) F27
set_option maxHeartbeats 4000000 in
theorem c_Pk_addSequences (l : Launch) {X : Xs} {L : La} (hW : WT L) {out : Mem} {i0 : Nat} {F : Mem} (o0 : oO L 11 i0) (h : f_Pk_addSequences L i0 F = some out) : Met l y_Pk_addSequences w_Pk_addSequences r_Pk_addSequences (va_Pc [.ref (mAd X i0)] (Pr X L F)) (QV X L out) 0 0 (AA X L) := by
  refine mk_met (by decide) rfl (Nat.le_of_ble_eq_true rfl) hW ?_
  intro p e s m args below meth c ls hC hI hl
  have hl : lv_has ls 2 [(0, .ref (mAd X i0))] := hl
  generalize hHe : s.heap = H at hI ⊢
  generalize ([] : List Loc) = locs at hI ⊢
  unfold f_Pk_addSequences at h
  obtain ⟨S, hK, hT, hW, hr, hlk⟩ := id hC
  have hx := S.1
  have hb := S.2.1
  refine lv_aload_n hx hb d_Pk_addSequences_0 rfl (lv_at hl 0 rfl) ?_
  have p1 := wt_o hW o0 4 1 rfl (by decide) (by decide) (by decide)
  refine w_getR (T := T_Pk) S hK hI o0 rfl hin_Pk 4 (index := 14) (by decide) lf_Pk_14 d_Pk_addSequences_1 ?_
  refine lv_aload_n hx hb d_Pk_addSequences_4 rfl (lv_at hl 0 rfl) ?_
  have p2 := wt_o hW o0 1 10 rfl (by decide) (by decide) (by decide)
  refine w_getR (T := T_Pk) S hK hI o0 rfl hin_Pk 1 (index := 66) (by decide) lf_Pk_66 d_Pk_addSequences_5 ?_
  refine w_getI (T := T_Mf) S hK hI p2 rfl hin_Mf 6 (index := 162) (by decide) lf_Pk_162 d_Pk_addSequences_8 ?_
  obtain ⟨F3, e4, h⟩ := un_bi h
  refine w_callVv (As := [.int (F (mRf L i0 1) 6)]) (rest := []) S hK hI hT (c_Row_add l hW p1 e4) (cwV 1 S.2.2.2.2 (gd_V lc_Row_add lm_Pk_87 li_Row_add ls_Row_add ln_Row) rfl rfl rfl hd_Row_add ⟨Nat.le_of_ble_eq_true rfl, Nat.le_of_ble_eq_true rfl⟩) p1 rfl (by decide) rfl rfl hl.1 (Nat.le_of_ble_eq_true rfl) d_Pk_addSequences_11 ⟨Nat.zero_le _, Nat.zero_le _⟩ (fun H locs hI => ?_)
  refine lv_aload_n hx hb d_Pk_addSequences_14 rfl (lv_at hl 0 rfl) ?_
  have p5 := wt_o hW o0 1 10 rfl (by decide) (by decide) (by decide)
  refine w_getR (T := T_Pk) S hK hI o0 rfl hin_Pk 1 (index := 66) (by decide) lf_Pk_66 d_Pk_addSequences_15 ?_
  refine w_getI (T := T_Mf) S hK hI p5 rfl hin_Mf 6 (index := 162) (by decide) lf_Pk_162 d_Pk_addSequences_18 ?_
  refine lv_if_ne (tgt := 25) hx hb d_Pk_addSequences_21 rfl (fun hc => ?_) (fun hc => ?_)
  · replace h := (if_neg hc).symm.trans h
    refine lv_aload_n hx hb d_Pk_addSequences_25 rfl (lv_at hl 0 rfl) ?_
    have p6 := wt_o hW o0 4 1 rfl (by decide) (by decide) (by decide)
    refine w_getR (T := T_Pk) S hK hI o0 rfl hin_Pk 4 (index := 14) (by decide) lf_Pk_14 d_Pk_addSequences_26 ?_
    refine lv_iconst (v := 0) hx hb d_Pk_addSequences_29 rfl ?_
    obtain ⟨F7, e8, h⟩ := un_bi h
    refine w_callVv (As := [.int (0 : Int32)]) (rest := []) S hK hI hT (c_Row_add l hW p6 e8) (cwV 1 S.2.2.2.2 (gd_V lc_Row_add lm_Pk_87 li_Row_add ls_Row_add ln_Row) rfl rfl rfl hd_Row_add ⟨Nat.le_of_ble_eq_true rfl, Nat.le_of_ble_eq_true rfl⟩) p6 rfl (by decide) rfl rfl hl.1 (Nat.le_of_ble_eq_true rfl) d_Pk_addSequences_30 ⟨Nat.zero_le _, Nat.zero_le _⟩ (fun H locs hI => ?_)
    refine lv_aload_n hx hb d_Pk_addSequences_33 rfl (lv_at hl 0 rfl) ?_
    obtain ⟨F9, e10, h⟩ := un_bi h
    refine w_callVv (As := []) (rest := []) S hK hI hT (c_Pk_chooseStates l hW o0 e10) (cwV 0 S.2.2.2.2 (gd_V lc_Pk_chooseStates lm_Pk_165 li_Pk_chooseStates ls_Pk_chooseStates ln_Pk) rfl rfl rfl hd_Pk_chooseStates ⟨Nat.le_of_ble_eq_true rfl, Nat.le_of_ble_eq_true rfl⟩) o0 rfl (by decide) rfl rfl hl.1 (Nat.le_of_ble_eq_true rfl) d_Pk_addSequences_34 ⟨Nat.zero_le _, Nat.zero_le _⟩ (fun H locs hI => ?_)
    refine lv_aload_n hx hb d_Pk_addSequences_37 rfl (lv_at hl 0 rfl) ?_
    have p11 := wt_o hW o0 5 5 rfl (by decide) (by decide) (by decide)
    refine w_getR (T := T_Pk) S hK hI o0 rfl hin_Pk 5 (index := 23) (by decide) lf_Pk_23 d_Pk_addSequences_38 ?_
    refine lv_iconst (v := 0) hx hb d_Pk_addSequences_41 rfl ?_
    refine w_putI (T := T_Br) S hK hI p11 rfl hin_Br ty_Br tk_Br nm_Br 1 (index := 122) (by decide) lf_Pk_122 rfl d_Pk_addSequences_42 (fun H locs F12 e13 hI => ?_)
    replace h := un_lt h _ e13
    refine lv_aload_n hx hb d_Pk_addSequences_45 rfl (lv_at hl 0 rfl) ?_
    have p14 := wt_o hW o0 5 5 rfl (by decide) (by decide) (by decide)
    refine w_getR (T := T_Pk) S hK hI o0 rfl hin_Pk 5 (index := 23) (by decide) lf_Pk_23 d_Pk_addSequences_46 ?_
    refine lv_aload_n hx hb d_Pk_addSequences_49 rfl (lv_at hl 0 rfl) ?_
    have p15 := wt_a hW o0 8 rfl (by decide) (by decide)
    refine w_getR (T := T_Pk) S hK hI o0 rfl hin_Pk 8 (index := 41) (by decide) lf_Pk_41 d_Pk_addSequences_50 ?_
    refine lv_iconst (v := 0) hx hb d_Pk_addSequences_53 rfl ?_
    obtain ⟨z16, h⟩ := un_if h
    refine w_iald S hK hI hT p15 z16 d_Pk_addSequences_54 ?_
    refine lv_iconst (v := 4) hx hb d_Pk_addSequences_55 rfl ?_
    obtain ⟨F17, e18, h⟩ := un_bi h
    refine w_callVv (As := [.int (mGa L F12 (mRf L i0 8) (0 : Int32).toNatClampNeg), .int (4 : Int32)]) (rest := []) S hK hI hT (c_Br_add l hW p14 e18) (cwV 2 S.2.2.2.2 (gd_V lc_Br_add lm_Pk_168 li_Br_add ls_Br_add ln_Br) rfl rfl rfl hd_Br_add ⟨Nat.le_of_ble_eq_true rfl, Nat.le_of_ble_eq_true rfl⟩) p14 rfl (by decide) rfl rfl hl.1 (Nat.le_of_ble_eq_true rfl) d_Pk_addSequences_56 ⟨Nat.zero_le _, Nat.zero_le _⟩ (fun H locs hI => ?_)
    refine lv_aload_n hx hb d_Pk_addSequences_59 rfl (lv_at hl 0 rfl) ?_
    have p19 := wt_o hW o0 5 5 rfl (by decide) (by decide) (by decide)
    refine w_getR (T := T_Pk) S hK hI o0 rfl hin_Pk 5 (index := 23) (by decide) lf_Pk_23 d_Pk_addSequences_60 ?_
    refine lv_aload_n hx hb d_Pk_addSequences_63 rfl (lv_at hl 0 rfl) ?_
    have p20 := wt_a hW o0 9 rfl (by decide) (by decide)
    refine w_getR (T := T_Pk) S hK hI o0 rfl hin_Pk 9 (index := 45) (by decide) lf_Pk_45 d_Pk_addSequences_64 ?_
    refine lv_iconst (v := 0) hx hb d_Pk_addSequences_67 rfl ?_
    obtain ⟨z21, h⟩ := un_if h
    refine w_iald S hK hI hT p20 z21 d_Pk_addSequences_68 ?_
    refine lv_iconst (v := 4) hx hb d_Pk_addSequences_69 rfl ?_
    obtain ⟨F22, e23, h⟩ := un_bi h
    refine w_callVv (As := [.int (mGa L F17 (mRf L i0 9) (0 : Int32).toNatClampNeg), .int (4 : Int32)]) (rest := []) S hK hI hT (c_Br_add l hW p19 e23) (cwV 2 S.2.2.2.2 (gd_V lc_Br_add lm_Pk_168 li_Br_add ls_Br_add ln_Br) rfl rfl rfl hd_Br_add ⟨Nat.le_of_ble_eq_true rfl, Nat.le_of_ble_eq_true rfl⟩) p19 rfl (by decide) rfl rfl hl.1 (Nat.le_of_ble_eq_true rfl) d_Pk_addSequences_70 ⟨Nat.zero_le _, Nat.zero_le _⟩ (fun H locs hI => ?_)
    refine lv_aload_n hx hb d_Pk_addSequences_73 rfl (lv_at hl 0 rfl) ?_
    have p24 := wt_o hW o0 5 5 rfl (by decide) (by decide) (by decide)
    refine w_getR (T := T_Pk) S hK hI o0 rfl hin_Pk 5 (index := 23) (by decide) lf_Pk_23 d_Pk_addSequences_74 ?_
    refine lv_aload_n hx hb d_Pk_addSequences_77 rfl (lv_at hl 0 rfl) ?_
    have p25 := wt_a hW o0 10 rfl (by decide) (by decide)
    refine w_getR (T := T_Pk) S hK hI o0 rfl hin_Pk 10 (index := 48) (by decide) lf_Pk_48 d_Pk_addSequences_78 ?_
    refine lv_iconst (v := 0) hx hb d_Pk_addSequences_81 rfl ?_
    obtain ⟨z26, h⟩ := un_if h
    refine w_iald S hK hI hT p25 z26 d_Pk_addSequences_82 ?_
    refine lv_iconst (v := 4) hx hb d_Pk_addSequences_83 rfl ?_
    obtain ⟨F27, e28, h⟩ := un_bi h
    refine w_callVv (As := [.int (mGa L F22 (mRf L i0 10) (0 : Int32).toNatClampNeg), .int (4 : Int32)]) (rest := []) S hK hI hT (c_Br_add l hW p24 e28) (cwV 2 S.2.2.2.2 (gd_V lc_Br_add lm_Pk_168 li_Br_add ls_Br_add ln_Br) rfl rfl rfl hd_Br_add ⟨Nat.le_of_ble_eq_true rfl, Nat.le_of_ble_eq_true rfl⟩) p24 rfl (by decide) rfl rfl hl.1 (Nat.le_of_ble_eq_true rfl) d_Pk_addSequences_84 ⟨Nat.zero_le _, Nat.zero_le _⟩ (fun H locs hI => ?_)
    refine lv_iconst (v := 0) hx hb d_Pk_addSequences_87 rfl ?_
    refine lv_istore_n (lv' := [(1, .int (0 : Int32)), (0, .ref (mAd X i0))]) hx hb d_Pk_addSequences_88 rfl hl (by decide) rfl (fun ls hl => ?_)
    exact tf_Pk_addSequences_89 hC  mFU _ _ _ _ _ _ o0 hI (lv_sub hl [1, 0] rfl) h
  · replace h := (if_pos hc).symm.trans h
    exact w_vret S hK hr hlk hI d_Pk_addSequences_24 h
end
theorem d_Pk_chooseBlock_0 : decode cc_Pk_chooseBlock 0 = .ok (.aload_n 0, 1) := by decide +kernel
theorem d_Pk_chooseBlock_1 : decode cc_Pk_chooseBlock 1 = .ok (.getfield 14, 3) := by decide +kernel
theorem d_Pk_chooseBlock_4 : decode cc_Pk_chooseBlock 4 = .ok (.iconst 0, 1) := by decide +kernel
theorem d_Pk_chooseBlock_5 : decode cc_Pk_chooseBlock 5 = .ok (.putfield 70, 3) := by decide +kernel
theorem d_Pk_chooseBlock_8 : decode cc_Pk_chooseBlock 8 = .ok (.aload_n 0, 1) := by decide +kernel
theorem d_Pk_chooseBlock_9 : decode cc_Pk_chooseBlock 9 = .ok (.aload_n 0, 1) := by decide +kernel
theorem d_Pk_chooseBlock_10 : decode cc_Pk_chooseBlock 10 = .ok (.getfield 51, 3) := by decide +kernel
theorem d_Pk_chooseBlock_13 : decode cc_Pk_chooseBlock 13 = .ok (.getfield 70, 3) := by decide +kernel
theorem d_Pk_chooseBlock_16 : decode cc_Pk_chooseBlock 16 = .ok (.putfield 74, 3) := by decide +kernel
theorem d_Pk_chooseBlock_19 : decode cc_Pk_chooseBlock 19 = .ok (.aload_n 0, 1) := by decide +kernel
theorem d_Pk_chooseBlock_20 : decode cc_Pk_chooseBlock 20 = .ok (.getfield 51, 3) := by decide +kernel
theorem d_Pk_chooseBlock_23 : decode cc_Pk_chooseBlock 23 = .ok (.invokevirtual 77, 3) := by decide +kernel
theorem d_Pk_chooseBlock_26 : decode cc_Pk_chooseBlock 26 = .ok (.ifCond .eq (25), 3) := by decide +kernel
theorem d_Pk_chooseBlock_29 : decode cc_Pk_chooseBlock 29 = .ok (.aload_n 0, 1) := by decide +kernel
theorem d_Pk_chooseBlock_30 : decode cc_Pk_chooseBlock 30 = .ok (.iconst 1, 1) := by decide +kernel
theorem d_Pk_chooseBlock_31 : decode cc_Pk_chooseBlock 31 = .ok (.putfield 81, 3) := by decide +kernel
theorem d_Pk_chooseBlock_34 : decode cc_Pk_chooseBlock 34 = .ok (.aload_n 0, 1) := by decide +kernel
theorem d_Pk_chooseBlock_35 : decode cc_Pk_chooseBlock 35 = .ok (.getfield 14, 3) := by decide +kernel
theorem d_Pk_chooseBlock_38 : decode cc_Pk_chooseBlock 38 = .ok (.aload_n 0, 1) := by decide +kernel
theorem d_Pk_chooseBlock_39 : decode cc_Pk_chooseBlock 39 = .ok (.getfield 51, 3) := by decide +kernel
theorem d_Pk_chooseBlock_42 : decode cc_Pk_chooseBlock 42 = .ok (.getfield 84, 3) := by decide +kernel
theorem d_Pk_chooseBlock_45 : decode cc_Pk_chooseBlock 45 = .ok (.iconst 0, 1) := by decide +kernel
theorem d_Pk_chooseBlock_46 : decode cc_Pk_chooseBlock 46 = .ok (.iaload, 1) := by decide +kernel
theorem d_Pk_chooseBlock_47 : decode cc_Pk_chooseBlock 47 = .ok (.invokevirtual 87, 3) := by decide +kernel
theorem d_Pk_chooseBlock_50 : decode cc_Pk_chooseBlock 50 = .ok (.return_, 1) := by decide +kernel
theorem d_Pk_chooseBlock_51 : decode cc_Pk_chooseBlock 51 = .ok (.aload_n 0, 1) := by decide +kernel
theorem d_Pk_chooseBlock_52 : decode cc_Pk_chooseBlock 52 = .ok (.getfield 66, 3) := by decide +kernel
theorem d_Pk_chooseBlock_55 : decode cc_Pk_chooseBlock 55 = .ok (.invokevirtual 90, 3) := by decide +kernel
theorem d_Pk_chooseBlock_58 : decode cc_Pk_chooseBlock 58 = .ok (.aload_n 0, 1) := by decide +kernel
theorem d_Pk_chooseBlock_59 : decode cc_Pk_chooseBlock 59 = .ok (.getfield 66, 3) := by decide +kernel
theorem d_Pk_chooseBlock_62 : decode cc_Pk_chooseBlock 62 = .ok (.getfield 93, 3) := by decide +kernel
theorem d_Pk_chooseBlock_65 : decode cc_Pk_chooseBlock 65 = .ok (.getfield 70, 3) := by decide +kernel
theorem d_Pk_chooseBlock_68 : decode cc_Pk_chooseBlock 68 = .ok (.bipush (63), 2) := by decide +kernel
theorem d_Pk_chooseBlock_70 : decode cc_Pk_chooseBlock 70 = .ok (.if_icmp .gt (45), 3) := by decide +kernel
theorem d_Pk_chooseBlock_73 : decode cc_Pk_chooseBlock 73 = .ok (.aload_n 0, 1) := by decide +kernel
theorem d_Pk_chooseBlock_74 : decode cc_Pk_chooseBlock 74 = .ok (.invokevirtual 96, 3) := by decide +kernel
theorem d_Pk_chooseBlock_77 : decode cc_Pk_chooseBlock 77 = .ok (.aload_n 0, 1) := by decide +kernel
theorem d_Pk_chooseBlock_78 : decode cc_Pk_chooseBlock 78 = .ok (.invokevirtual 99, 3) := by decide +kernel
theorem d_Pk_chooseBlock_81 : decode cc_Pk_chooseBlock 81 = .ok (.aload_n 0, 1) := by decide +kernel
theorem d_Pk_chooseBlock_82 : decode cc_Pk_chooseBlock 82 = .ok (.getfield 14, 3) := by decide +kernel
theorem d_Pk_chooseBlock_85 : decode cc_Pk_chooseBlock 85 = .ok (.getfield 70, 3) := by decide +kernel
theorem d_Pk_chooseBlock_88 : decode cc_Pk_chooseBlock 88 = .ok (.aload_n 0, 1) := by decide +kernel
theorem d_Pk_chooseBlock_89 : decode cc_Pk_chooseBlock 89 = .ok (.getfield 51, 3) := by decide +kernel
theorem d_Pk_chooseBlock_92 : decode cc_Pk_chooseBlock 92 = .ok (.getfield 70, 3) := by decide +kernel
theorem d_Pk_chooseBlock_95 : decode cc_Pk_chooseBlock 95 = .ok (.if_icmp .ge (20), 3) := by decide +kernel
theorem d_Pk_chooseBlock_98 : decode cc_Pk_chooseBlock 98 = .ok (.aload_n 0, 1) := by decide +kernel
theorem d_Pk_chooseBlock_99 : decode cc_Pk_chooseBlock 99 = .ok (.iconst 2, 1) := by decide +kernel
theorem d_Pk_chooseBlock_100 : decode cc_Pk_chooseBlock 100 = .ok (.putfield 81, 3) := by decide +kernel
theorem d_Pk_chooseBlock_103 : decode cc_Pk_chooseBlock 103 = .ok (.aload_n 0, 1) := by decide +kernel
theorem d_Pk_chooseBlock_104 : decode cc_Pk_chooseBlock 104 = .ok (.aload_n 0, 1) := by decide +kernel
theorem d_Pk_chooseBlock_105 : decode cc_Pk_chooseBlock 105 = .ok (.getfield 14, 3) := by decide +kernel
theorem d_Pk_chooseBlock_108 : decode cc_Pk_chooseBlock 108 = .ok (.getfield 70, 3) := by decide +kernel
theorem d_Pk_chooseBlock_111 : decode cc_Pk_chooseBlock 111 = .ok (.putfield 74, 3) := by decide +kernel
theorem d_Pk_chooseBlock_114 : decode cc_Pk_chooseBlock 114 = .ok (.return_, 1) := by decide +kernel
theorem d_Pk_chooseBlock_115 : decode cc_Pk_chooseBlock 115 = .ok (.aload_n 0, 1) := by decide +kernel
theorem d_Pk_chooseBlock_116 : decode cc_Pk_chooseBlock 116 = .ok (.iconst 0, 1) := by decide +kernel
theorem d_Pk_chooseBlock_117 : decode cc_Pk_chooseBlock 117 = .ok (.putfield 81, 3) := by decide +kernel
theorem d_Pk_chooseBlock_120 : decode cc_Pk_chooseBlock 120 = .ok (.aload_n 0, 1) := by decide +kernel
theorem d_Pk_chooseBlock_121 : decode cc_Pk_chooseBlock 121 = .ok (.getfield 14, 3) := by decide +kernel
theorem d_Pk_chooseBlock_124 : decode cc_Pk_chooseBlock 124 = .ok (.iconst 0, 1) := by decide +kernel
theorem d_Pk_chooseBlock_125 : decode cc_Pk_chooseBlock 125 = .ok (.putfield 70, 3) := by decide +kernel
theorem d_Pk_chooseBlock_128 : decode cc_Pk_chooseBlock 128 = .ok (.aload_n 0, 1) := by decide +kernel
theorem d_Pk_chooseBlock_129 : decode cc_Pk_chooseBlock 129 = .ok (.getfield 14, 3) := by decide +kernel
theorem d_Pk_chooseBlock_132 : decode cc_Pk_chooseBlock 132 = .ok (.aload_n 0, 1) := by decide +kernel
theorem d_Pk_chooseBlock_133 : decode cc_Pk_chooseBlock 133 = .ok (.getfield 51, 3) := by decide +kernel
theorem d_Pk_chooseBlock_136 : decode cc_Pk_chooseBlock 136 = .ok (.invokevirtual 102, 3) := by decide +kernel
theorem d_Pk_chooseBlock_139 : decode cc_Pk_chooseBlock 139 = .ok (.return_, 1) := by decide +kernel
section
variable {p : Program} {l : Launch} {e : Env} {s : State} {m : MethodId} {args : Array Value} {below : List Frame} {meth : Method} {c : Code} {X : Xs} {L : La}
def b_Pk_chooseBlock_115 (L : La)  (i0 : Nat) (F : Mem) : Option Mem :=
  lt' (u2 F i0 11 (0 : Int32)) fun F1 =>
  lt' (u2 F1 (mRf L i0 4) 1 (0 : Int32)) fun F4 =>
  (f_Row_addRow L (mRf L i0 4) (mRf L i0 0) F4).bind fun F8 =>
  some F8
set_option maxHeartbeats 4000000 in
theorem t_Pk_chooseBlock_115 (hC : Cx X L p s m args meth c cc_Pk_chooseBlock 1 w_Pk_chooseBlock R_Pk none)  {out : Mem}  {i0 : Nat} {F : Mem} {H : Heap} {locs : List Loc} {ls : Array Slot} (o0 : oO L 11 i0) (hI : Iv X L s H locs F) (hl : lv_has ls 1 [(0, .ref (mAd X i0))]) (h : b_Pk_chooseBlock_115 L  i0 F = some out) : W p l e (headSpec w_Pk_chooseBlock r_Pk_chooseBlock).room s m args below meth c H locs 0 0 (MQ below (QV X L out) args s 0 0 (AA X L)) (F0 m 115 ls []) := by
  unfold b_Pk_chooseBlock_115 at h
  obtain ⟨S, hK, hT, hW, hr, hlk⟩ := id hC
  have hx := S.1
  have hb := S.2.1
  refine lv_aload_n hx hb d_Pk_chooseBlock_115 rfl (lv_at hl 0 rfl) ?_
  refine lv_iconst (v := 0) hx hb d_Pk_chooseBlock_116 rfl ?_
  refine w_putI (T := T_Pk) S hK hI o0 rfl hin_Pk ty_Pk tk_Pk nm_Pk 11 (index := 81) (by decide) lf_Pk_81 rfl d_Pk_chooseBlock_117 (fun H locs F1 e2 hI => ?_)
  replace h := un_lt h _ e2
  refine lv_aload_n hx hb d_Pk_chooseBlock_120 rfl (lv_at hl 0 rfl) ?_
  have p3 := wt_o hW o0 4 1 rfl (by decide) (by decide) (by decide)
  refine w_getR (T := T_Pk) S hK hI o0 rfl hin_Pk 4 (index := 14) (by decide) lf_Pk_14 d_Pk_chooseBlock_121 ?_
  refine lv_iconst (v := 0) hx hb d_Pk_chooseBlock_124 rfl ?_
  refine w_putI (T := T_Row) S hK hI p3 rfl hin_Row ty_Row tk_Row nm_Row 1 (index := 70) (by decide) lf_Pk_70 rfl d_Pk_chooseBlock_125 (fun H locs F4 e5 hI => ?_)
  replace h := un_lt h _ e5
  refine lv_aload_n hx hb d_Pk_chooseBlock_128 rfl (lv_at hl 0 rfl) ?_
  have p6 := wt_o hW o0 4 1 rfl (by decide) (by decide) (by decide)
  refine w_getR (T := T_Pk) S hK hI o0 rfl hin_Pk 4 (index := 14) (by decide) lf_Pk_14 d_Pk_chooseBlock_129 ?_
  refine lv_aload_n hx hb d_Pk_chooseBlock_132 rfl (lv_at hl 0 rfl) ?_
  have p7 := wt_o hW o0 0 1 rfl (by decide) (by decide) (by decide)
  refine w_getR (T := T_Pk) S hK hI o0 rfl hin_Pk 0 (index := 51) (by decide) lf_Pk_51 d_Pk_chooseBlock_133 ?_
  obtain ⟨F8, e9, h⟩ := un_bi h
  refine w_callVv (As := [.ref (mAd X (mRf L i0 0))]) (rest := []) S hK hI hT (c_Row_addRow l hW p6 p7 e9) (cwV 1 S.2.2.2.2 (gd_V lc_Row_addRow lm_Pk_102 li_Row_addRow ls_Row_addRow ln_Row) rfl rfl rfl hd_Row_addRow ⟨Nat.le_of_ble_eq_true rfl, Nat.le_of_ble_eq_true rfl⟩) p6 rfl (by decide) rfl rfl hl.1 (Nat.le_of_ble_eq_true rfl) d_Pk_chooseBlock_136 ⟨Nat.zero_le _, Nat.zero_le _⟩ (fun H locs hI => ?_)
  exact w_vret S hK hr hlk hI d_Pk_chooseBlock_139 h
def f_Pk_chooseBlock (L : La) (i0 : Nat) (F : Mem) : Option Mem :=
  lt' (u2 F (mRf L i0 4) 1 (0 : Int32)) fun F2 =>
  lt' (u2 F2 i0 12 (F2 (mRf L i0 0) 1)) fun F5 =>
  (f_Row_isOneByteOnly L (mRf L i0 0) F5).bind fun q8 =>
  if q8.1 = 0 then
    (f_Mf_divide L (mRf L i0 1) q8.2).bind fun F11 =>
    if (63 : Int32) < (F11 (mRf L (mRf L i0 1) 1) 1) then
      b_Pk_chooseBlock_115 L  i0 F11
    else
      (f_Pk_addLiterals L i0 F11).bind fun F15 =>
      (f_Pk_addSequences L i0 F15).bind fun F17 =>
      if (F17 (mRf L i0 0) 1) ≤ (F17 (mRf L i0 4) 1) then
        b_Pk_chooseBlock_115 L  i0 F17
      else
        lt' (u2 F17 i0 11 (2 : Int32)) fun F21 =>
        lt' (u2 F21 i0 12 (F21 (mRf L i0 4) 1)) fun F24 =>
        some F24
  else
    lt' (u2 q8.2 i0 11 (1 : Int32)) fun F26 =>
    if inb (0 : Int32) (mGl L (mRf L (mRf L i0 0) 0)) then none else
    (f_Row_add L (mRf L i0 4) (mGa L F26 (mRf L (mRf L i0 0) 0) (0 : Int32).toNatClampNeg) F26).bind fun F32 =>
    some F32
set_option maxHeartbeats 4000000 in
theorem c_Pk_chooseBlock (l : Launch) {X : Xs} {L : La} (hW : WT L) {out : Mem} {i0 : Nat} {F : Mem} (o0 : oO L 11 i0) (h : f_Pk_chooseBlock L i0 F = some out) : Met l y_Pk_chooseBlock w_Pk_chooseBlock r_Pk_chooseBlock (va_Pc [.ref (mAd X i0)] (Pr X L F)) (QV X L out) 0 0 (AA X L) := by
  refine mk_met (by decide) rfl (Nat.le_of_ble_eq_true rfl) hW ?_
  intro p e s m args below meth c ls hC hI hl
  have hl : lv_has ls 1 [(0, .ref (mAd X i0))] := hl
  generalize hHe : s.heap = H at hI ⊢
  generalize ([] : List Loc) = locs at hI ⊢
  unfold f_Pk_chooseBlock at h
  obtain ⟨S, hK, hT, hW, hr, hlk⟩ := id hC
  have hx := S.1
  have hb := S.2.1
  refine lv_aload_n hx hb d_Pk_chooseBlock_0 rfl (lv_at hl 0 rfl) ?_
  have p1 := wt_o hW o0 4 1 rfl (by decide) (by decide) (by decide)
  refine w_getR (T := T_Pk) S hK hI o0 rfl hin_Pk 4 (index := 14) (by decide) lf_Pk_14 d_Pk_chooseBlock_1 ?_
  refine lv_iconst (v := 0) hx hb d_Pk_chooseBlock_4 rfl ?_
  refine w_putI (T := T_Row) S hK hI p1 rfl hin_Row ty_Row tk_Row nm_Row 1 (index := 70) (by decide) lf_Pk_70 rfl d_Pk_chooseBlock_5 (fun H locs F2 e3 hI => ?_)
  replace h := un_lt h _ e3
  refine lv_aload_n hx hb d_Pk_chooseBlock_8 rfl (lv_at hl 0 rfl) ?_
  refine lv_aload_n hx hb d_Pk_chooseBlock_9 rfl (lv_at hl 0 rfl) ?_
  have p4 := wt_o hW o0 0 1 rfl (by decide) (by decide) (by decide)
  refine w_getR (T := T_Pk) S hK hI o0 rfl hin_Pk 0 (index := 51) (by decide) lf_Pk_51 d_Pk_chooseBlock_10 ?_
  refine w_getI (T := T_Row) S hK hI p4 rfl hin_Row 1 (index := 70) (by decide) lf_Pk_70 d_Pk_chooseBlock_13 ?_
  refine w_putI (T := T_Pk) S hK hI o0 rfl hin_Pk ty_Pk tk_Pk nm_Pk 12 (index := 74) (by decide) lf_Pk_74 rfl d_Pk_chooseBlock_16 (fun H locs F5 e6 hI => ?_)
  replace h := un_lt h _ e6
  refine lv_aload_n hx hb d_Pk_chooseBlock_19 rfl (lv_at hl 0 rfl) ?_
  have p7 := wt_o hW o0 0 1 rfl (by decide) (by decide) (by decide)
  refine w_getR (T := T_Pk) S hK hI o0 rfl hin_Pk 0 (index := 51) (by decide) lf_Pk_51 d_Pk_chooseBlock_20 ?_
  obtain ⟨q8, e9, h⟩ := un_bi h
  refine w_callVi (As := []) (rest := []) S hK hI hT (c_Row_isOneByteOnly l hW p7 e9) (cwV 0 S.2.2.2.2 (gd_V lc_Row_isOneByteOnly lm_Pk_77 li_Row_isOneByteOnly ls_Row_isOneByteOnly ln_Row) rfl rfl rfl hd_Row_isOneByteOnly ⟨Nat.le_of_ble_eq_true rfl, Nat.le_of_ble_eq_true rfl⟩) p7 rfl (by decide) rfl rfl hl.1 (Nat.le_of_ble_eq_true rfl) d_Pk_chooseBlock_23 ⟨Nat.zero_le _, Nat.zero_le _⟩ (fun H locs hI => ?_)
  refine lv_if_eq (tgt := 51) hx hb d_Pk_chooseBlock_26 rfl (fun hc => ?_) (fun hc => ?_)
  · replace h := (if_pos hc).symm.trans h
    refine lv_aload_n hx hb d_Pk_chooseBlock_51 rfl (lv_at hl 0 rfl) ?_
    have p10 := wt_o hW o0 1 10 rfl (by decide) (by decide) (by decide)
    refine w_getR (T := T_Pk) S hK hI o0 rfl hin_Pk 1 (index := 66) (by decide) lf_Pk_66 d_Pk_chooseBlock_52 ?_
    obtain ⟨F11, e12, h⟩ := un_bi h
    refine w_callVv (As := []) (rest := []) S hK hI hT (c_Mf_divide l hW p10 e12) (cwV 0 S.2.2.2.2 (gd_V lc_Mf_divide lm_Pk_90 li_Mf_divide ls_Mf_divide ln_Mf) rfl rfl rfl hd_Mf_divide ⟨Nat.le_of_ble_eq_true rfl, Nat.le_of_ble_eq_true rfl⟩) p10 rfl (by decide) rfl rfl hl.1 (Nat.le_of_ble_eq_true rfl) d_Pk_chooseBlock_55 ⟨Nat.zero_le _, Nat.zero_le _⟩ (fun H locs hI => ?_)
    refine lv_aload_n hx hb d_Pk_chooseBlock_58 rfl (lv_at hl 0 rfl) ?_
    have p13 := wt_o hW o0 1 10 rfl (by decide) (by decide) (by decide)
    refine w_getR (T := T_Pk) S hK hI o0 rfl hin_Pk 1 (index := 66) (by decide) lf_Pk_66 d_Pk_chooseBlock_59 ?_
    have p14 := wt_o hW p13 1 1 rfl (by decide) (by decide) (by decide)
    refine w_getR (T := T_Mf) S hK hI p13 rfl hin_Mf 1 (index := 93) (by decide) lf_Pk_93 d_Pk_chooseBlock_62 ?_
    refine w_getI (T := T_Row) S hK hI p14 rfl hin_Row 1 (index := 70) (by decide) lf_Pk_70 d_Pk_chooseBlock_65 ?_
    refine lv_bipush (v := 63) hx hb d_Pk_chooseBlock_68 (by decide) ?_
    refine lv_icmp_gt (tgt := 115) hx hb d_Pk_chooseBlock_70 rfl (fun hc => ?_) (fun hc => ?_)
    · replace h := (if_pos hc).symm.trans h
      exact t_Pk_chooseBlock_115 hC  o0 hI hl h
    · replace h := (if_neg hc).symm.trans h
      refine lv_aload_n hx hb d_Pk_chooseBlock_73 rfl (lv_at hl 0 rfl) ?_
      obtain ⟨F15, e16, h⟩ := un_bi h
      refine w_callVv (As := []) (rest := []) S hK hI hT (c_Pk_addLiterals l hW o0 e16) (cwV 0 S.2.2.2.2 (gd_V lc_Pk_addLiterals lm_Pk_96 li_Pk_addLiterals ls_Pk_addLiterals ln_Pk) rfl rfl rfl hd_Pk_addLiterals ⟨Nat.le_of_ble_eq_true rfl, Nat.le_of_ble_eq_true rfl⟩) o0 rfl (by decide) rfl rfl hl.1 (Nat.le_of_ble_eq_true rfl) d_Pk_chooseBlock_74 ⟨Nat.zero_le _, Nat.zero_le _⟩ (fun H locs hI => ?_)
      refine lv_aload_n hx hb d_Pk_chooseBlock_77 rfl (lv_at hl 0 rfl) ?_
      obtain ⟨F17, e18, h⟩ := un_bi h
      refine w_callVv (As := []) (rest := []) S hK hI hT (c_Pk_addSequences l hW o0 e18) (cwV 0 S.2.2.2.2 (gd_V lc_Pk_addSequences lm_Pk_99 li_Pk_addSequences ls_Pk_addSequences ln_Pk) rfl rfl rfl hd_Pk_addSequences ⟨Nat.le_of_ble_eq_true rfl, Nat.le_of_ble_eq_true rfl⟩) o0 rfl (by decide) rfl rfl hl.1 (Nat.le_of_ble_eq_true rfl) d_Pk_chooseBlock_78 ⟨Nat.zero_le _, Nat.zero_le _⟩ (fun H locs hI => ?_)
      refine lv_aload_n hx hb d_Pk_chooseBlock_81 rfl (lv_at hl 0 rfl) ?_
      have p19 := wt_o hW o0 4 1 rfl (by decide) (by decide) (by decide)
      refine w_getR (T := T_Pk) S hK hI o0 rfl hin_Pk 4 (index := 14) (by decide) lf_Pk_14 d_Pk_chooseBlock_82 ?_
      refine w_getI (T := T_Row) S hK hI p19 rfl hin_Row 1 (index := 70) (by decide) lf_Pk_70 d_Pk_chooseBlock_85 ?_
      refine lv_aload_n hx hb d_Pk_chooseBlock_88 rfl (lv_at hl 0 rfl) ?_
      have p20 := wt_o hW o0 0 1 rfl (by decide) (by decide) (by decide)
      refine w_getR (T := T_Pk) S hK hI o0 rfl hin_Pk 0 (index := 51) (by decide) lf_Pk_51 d_Pk_chooseBlock_89 ?_
      refine w_getI (T := T_Row) S hK hI p20 rfl hin_Row 1 (index := 70) (by decide) lf_Pk_70 d_Pk_chooseBlock_92 ?_
      refine lv_icmp_ge (tgt := 115) hx hb d_Pk_chooseBlock_95 rfl (fun hc => ?_) (fun hc => ?_)
      · replace h := (if_pos hc).symm.trans h
        exact t_Pk_chooseBlock_115 hC  o0 hI hl h
      · replace h := (if_neg hc).symm.trans h
        refine lv_aload_n hx hb d_Pk_chooseBlock_98 rfl (lv_at hl 0 rfl) ?_
        refine lv_iconst (v := 2) hx hb d_Pk_chooseBlock_99 rfl ?_
        refine w_putI (T := T_Pk) S hK hI o0 rfl hin_Pk ty_Pk tk_Pk nm_Pk 11 (index := 81) (by decide) lf_Pk_81 rfl d_Pk_chooseBlock_100 (fun H locs F21 e22 hI => ?_)
        replace h := un_lt h _ e22
        refine lv_aload_n hx hb d_Pk_chooseBlock_103 rfl (lv_at hl 0 rfl) ?_
        refine lv_aload_n hx hb d_Pk_chooseBlock_104 rfl (lv_at hl 0 rfl) ?_
        have p23 := wt_o hW o0 4 1 rfl (by decide) (by decide) (by decide)
        refine w_getR (T := T_Pk) S hK hI o0 rfl hin_Pk 4 (index := 14) (by decide) lf_Pk_14 d_Pk_chooseBlock_105 ?_
        refine w_getI (T := T_Row) S hK hI p23 rfl hin_Row 1 (index := 70) (by decide) lf_Pk_70 d_Pk_chooseBlock_108 ?_
        refine w_putI (T := T_Pk) S hK hI o0 rfl hin_Pk ty_Pk tk_Pk nm_Pk 12 (index := 74) (by decide) lf_Pk_74 rfl d_Pk_chooseBlock_111 (fun H locs F24 e25 hI => ?_)
        replace h := un_lt h _ e25
        exact w_vret S hK hr hlk hI d_Pk_chooseBlock_114 h
  · replace h := (if_neg hc).symm.trans h
    refine lv_aload_n hx hb d_Pk_chooseBlock_29 rfl (lv_at hl 0 rfl) ?_
    refine lv_iconst (v := 1) hx hb d_Pk_chooseBlock_30 rfl ?_
    refine w_putI (T := T_Pk) S hK hI o0 rfl hin_Pk ty_Pk tk_Pk nm_Pk 11 (index := 81) (by decide) lf_Pk_81 rfl d_Pk_chooseBlock_31 (fun H locs F26 e27 hI => ?_)
    replace h := un_lt h _ e27
    refine lv_aload_n hx hb d_Pk_chooseBlock_34 rfl (lv_at hl 0 rfl) ?_
    have p28 := wt_o hW o0 4 1 rfl (by decide) (by decide) (by decide)
    refine w_getR (T := T_Pk) S hK hI o0 rfl hin_Pk 4 (index := 14) (by decide) lf_Pk_14 d_Pk_chooseBlock_35 ?_
    refine lv_aload_n hx hb d_Pk_chooseBlock_38 rfl (lv_at hl 0 rfl) ?_
    have p29 := wt_o hW o0 0 1 rfl (by decide) (by decide) (by decide)
    refine w_getR (T := T_Pk) S hK hI o0 rfl hin_Pk 0 (index := 51) (by decide) lf_Pk_51 d_Pk_chooseBlock_39 ?_
    have p30 := wt_a hW p29 0 rfl (by decide) (by decide)
    refine w_getR (T := T_Row) S hK hI p29 rfl hin_Row 0 (index := 84) (by decide) lf_Pk_84 d_Pk_chooseBlock_42 ?_
    refine lv_iconst (v := 0) hx hb d_Pk_chooseBlock_45 rfl ?_
    obtain ⟨z31, h⟩ := un_if h
    refine w_iald S hK hI hT p30 z31 d_Pk_chooseBlock_46 ?_
    obtain ⟨F32, e33, h⟩ := un_bi h
    refine w_callVv (As := [.int (mGa L F26 (mRf L (mRf L i0 0) 0) (0 : Int32).toNatClampNeg)]) (rest := []) S hK hI hT (c_Row_add l hW p28 e33) (cwV 1 S.2.2.2.2 (gd_V lc_Row_add lm_Pk_87 li_Row_add ls_Row_add ln_Row) rfl rfl rfl hd_Row_add ⟨Nat.le_of_ble_eq_true rfl, Nat.le_of_ble_eq_true rfl⟩) p28 rfl (by decide) rfl rfl hl.1 (Nat.le_of_ble_eq_true rfl) d_Pk_chooseBlock_47 ⟨Nat.zero_le _, Nat.zero_le _⟩ (fun H locs hI => ?_)
    exact w_vret S hK hr hlk hI d_Pk_chooseBlock_50 h
end
theorem d_Row_addPair_0 : decode cc_Row_addPair 0 = .ok (.aload_n 0, 1) := by decide +kernel
theorem d_Row_addPair_1 : decode cc_Row_addPair 1 = .ok (.iload_n 1, 1) := by decide +kernel
theorem d_Row_addPair_2 : decode cc_Row_addPair 2 = .ok (.invokevirtual 19, 3) := by decide +kernel
theorem d_Row_addPair_5 : decode cc_Row_addPair 5 = .ok (.aload_n 0, 1) := by decide +kernel
theorem d_Row_addPair_6 : decode cc_Row_addPair 6 = .ok (.iload_n 1, 1) := by decide +kernel
theorem d_Row_addPair_7 : decode cc_Row_addPair 7 = .ok (.bipush (8), 2) := by decide +kernel
theorem d_Row_addPair_9 : decode cc_Row_addPair 9 = .ok (.ishr, 1) := by decide +kernel
theorem d_Row_addPair_10 : decode cc_Row_addPair 10 = .ok (.invokevirtual 19, 3) := by decide +kernel
theorem d_Row_addPair_13 : decode cc_Row_addPair 13 = .ok (.return_, 1) := by decide +kernel
section
variable {p : Program} {l : Launch} {e : Env} {s : State} {m : MethodId} {args : Array Value} {below : List Frame} {meth : Method} {c : Code} {X : Xs} {L : La}
def f_Row_addPair (L : La) (i0 : Nat) (x1 : Int32) (F : Mem) : Option Mem :=
  (f_Row_add L i0 x1 F).bind fun F1 =>
  (f_Row_add L i0 (jshr x1 (8 : Int32)) F1).bind fun F3 =>
  some F3
set_option maxHeartbeats 4000000 in
theorem c_Row_addPair (l : Launch) {X : Xs} {L : La} (hW : WT L) {out : Mem} {i0 : Nat} {x1 : Int32} {F : Mem} (o0 : oO L 1 i0) (h : f_Row_addPair L i0 x1 F = some out) : Met l y_Row_addPair w_Row_addPair r_Row_addPair (va_Pc [.ref (mAd X i0), .int x1] (Pr X L F)) (QV X L out) 0 0 (AA X L) := by
  refine mk_met (by decide) rfl (Nat.le_of_ble_eq_true rfl) hW ?_
  intro p e s m args below meth c ls hC hI hl
  have hl : lv_has ls 2 [(0, .ref (mAd X i0)), (1, .int x1)] := hl
  generalize hHe : s.heap = H at hI ⊢
  generalize ([] : List Loc) = locs at hI ⊢
  unfold f_Row_addPair at h
  obtain ⟨S, hK, hT, hW, hr, hlk⟩ := id hC
  have hx := S.1
  have hb := S.2.1
  refine lv_aload_n hx hb d_Row_addPair_0 rfl (lv_at hl 0 rfl) ?_
  refine lv_iload_n hx hb d_Row_addPair_1 rfl (lv_at hl 1 rfl) ?_
  obtain ⟨F1, e2, h⟩ := un_bi h
  refine w_callVv (As := [.int x1]) (rest := []) S hK hI hT (c_Row_add l hW o0 e2) (cwV 1 S.2.2.2.2 (gd_V lc_Row_add lm_Row_19 li_Row_add ls_Row_add ln_Row) rfl rfl rfl hd_Row_add ⟨Nat.le_of_ble_eq_true rfl, Nat.le_of_ble_eq_true rfl⟩) o0 rfl (by decide) rfl rfl hl.1 (Nat.le_of_ble_eq_true rfl) d_Row_addPair_2 ⟨Nat.zero_le _, Nat.zero_le _⟩ (fun H locs hI => ?_)
  refine lv_aload_n hx hb d_Row_addPair_5 rfl (lv_at hl 0 rfl) ?_
  refine lv_iload_n hx hb d_Row_addPair_6 rfl (lv_at hl 1 rfl) ?_
  refine lv_bipush (v := 8) hx hb d_Row_addPair_7 (by decide) ?_
  refine lv_ishr hx hb d_Row_addPair_9 ?_
  obtain ⟨F3, e4, h⟩ := un_bi h
  refine w_callVv (As := [.int (jshr x1 (8 : Int32))]) (rest := []) S hK hI hT (c_Row_add l hW o0 e4) (cwV 1 S.2.2.2.2 (gd_V lc_Row_add lm_Row_19 li_Row_add ls_Row_add ln_Row) rfl rfl rfl hd_Row_add ⟨Nat.le_of_ble_eq_true rfl, Nat.le_of_ble_eq_true rfl⟩) o0 rfl (by decide) rfl rfl hl.1 (Nat.le_of_ble_eq_true rfl) d_Row_addPair_10 ⟨Nat.zero_le _, Nat.zero_le _⟩ (fun H locs hI => ?_)
  exact w_vret S hK hr hlk hI d_Row_addPair_13 h
end
theorem d_Row_markFrom_0 : decode cc_Row_markFrom 0 = .ok (.aload_n 0, 1) := by decide +kernel
theorem d_Row_markFrom_1 : decode cc_Row_markFrom 1 = .ok (.getfield 15, 3) := by decide +kernel
theorem d_Row_markFrom_4 : decode cc_Row_markFrom 4 = .ok (.iload_n 1, 1) := by decide +kernel
theorem d_Row_markFrom_5 : decode cc_Row_markFrom 5 = .ok (.isub, 1) := by decide +kernel
theorem d_Row_markFrom_6 : decode cc_Row_markFrom 6 = .ok (.istore_n 2, 1) := by decide +kernel
theorem d_Row_markFrom_7 : decode cc_Row_markFrom 7 = .ok (.iload_n 1, 1) := by decide +kernel
theorem d_Row_markFrom_8 : decode cc_Row_markFrom 8 = .ok (.istore_n 3, 1) := by decide +kernel
theorem d_Row_markFrom_9 : decode cc_Row_markFrom 9 = .ok (.iload_n 3, 1) := by decide +kernel
theorem d_Row_markFrom_10 : decode cc_Row_markFrom 10 = .ok (.aload_n 0, 1) := by decide +kernel
theorem d_Row_markFrom_11 : decode cc_Row_markFrom 11 = .ok (.getfield 15, 3) := by decide +kernel
theorem d_Row_markFrom_14 : decode cc_Row_markFrom 14 = .ok (.if_icmp .ge (21), 3) := by decide +kernel
theorem d_Row_markFrom_17 : decode cc_Row_markFrom 17 = .ok (.iload_n 2, 1) := by decide +kernel
theorem d_Row_markFrom_18 : decode cc_Row_markFrom 18 = .ok (.aload_n 0, 1) := by decide +kernel
theorem d_Row_markFrom_19 : decode cc_Row_markFrom 19 = .ok (.getfield 9, 3) := by decide +kernel
theorem d_Row_markFrom_22 : decode cc_Row_markFrom 22 = .ok (.iload_n 3, 1) := by decide +kernel
theorem d_Row_markFrom_23 : decode cc_Row_markFrom 23 = .ok (.iaload, 1) := by decide +kernel
theorem d_Row_markFrom_24 : decode cc_Row_markFrom 24 = .ok (.ixor, 1) := by decide +kernel
theorem d_Row_markFrom_25 : decode cc_Row_markFrom 25 = .ok (.ldc 27, 2) := by decide +kernel
theorem d_Row_markFrom_27 : decode cc_Row_markFrom 27 = .ok (.imul, 1) := by decide +kernel
theorem d_Row_markFrom_28 : decode cc_Row_markFrom 28 = .ok (.istore_n 2, 1) := by decide +kernel
theorem d_Row_markFrom_29 : decode cc_Row_markFrom 29 = .ok (.iinc 3 (1), 3) := by decide +kernel
theorem d_Row_markFrom_32 : decode cc_Row_markFrom 32 = .ok (.goto (-23), 3) := by decide +kernel
theorem d_Row_markFrom_35 : decode cc_Row_markFrom 35 = .ok (.iload_n 2, 1) := by decide +kernel
theorem d_Row_markFrom_36 : decode cc_Row_markFrom 36 = .ok (.iload_n 2, 1) := by decide +kernel
theorem d_Row_markFrom_37 : decode cc_Row_markFrom 37 = .ok (.bipush (16), 2) := by decide +kernel
theorem d_Row_markFrom_39 : decode cc_Row_markFrom 39 = .ok (.iushr, 1) := by decide +kernel
theorem d_Row_markFrom_40 : decode cc_Row_markFrom 40 = .ok (.ixor, 1) := by decide +kernel
theorem d_Row_markFrom_41 : decode cc_Row_markFrom 41 = .ok (.ldc 28, 2) := by decide +kernel
theorem d_Row_markFrom_43 : decode cc_Row_markFrom 43 = .ok (.iand, 1) := by decide +kernel
theorem d_Row_markFrom_44 : decode cc_Row_markFrom 44 = .ok (.ireturn, 1) := by decide +kernel
section
variable {p : Program} {l : Launch} {e : Env} {s : State} {m : MethodId} {args : Array Value} {below : List Frame} {meth : Method} {c : Code} {X : Xs} {L : La}
def b_Row_markFrom_9 (L : La) (k9 : Nat → Int32 → Int32 → Mem → Option (Int32 × Mem)) (i0 : Nat) (x2 : Int32) (x3 : Int32) (F : Mem) : Option (Int32 × Mem) :=
  if (F i0 1) ≤ x3 then
    some ((x2 ^^^ (jushr x2 (16 : Int32))) &&& (65535 : Int32), F)
  else
    if inb x3 (mGl L (mRf L i0 0)) then none else
    k9 i0 ((x2 ^^^ (mGa L F (mRf L i0 0) x3.toNatClampNeg)) * (16777619 : Int32)) (x3 + (1 : Int32)) F
set_option maxHeartbeats 4000000 in
theorem t_Row_markFrom_9 (hC : Cx X L p s m args meth c cc_Row_markFrom 4 w_Row_markFrom R_Row (some .int)) {k9 : Nat → Int32 → Int32 → Mem → Option (Int32 × Mem)} {out : (Int32 × Mem)} (hk9 : ∀ (i0 : Nat) (x2 : Int32) (x3 : Int32) (F : Mem) (H : Heap) (locs : List Loc) (ls : Array Slot), oO L 1 i0 → Iv X L s H locs F → lv_has ls 4 [(0, .ref (mAd X i0)), (2, .int x2), (3, .int x3)] → k9 i0 x2 x3 F = some out → W p l e (headSpec w_Row_markFrom r_Row_markFrom).room s m args below meth c H locs 0 0 (MQ below (QI X L out) args s 0 0 (AA X L)) (F0 m 9 ls [])) {i0 : Nat} {x2 : Int32} {x3 : Int32} {F : Mem} {H : Heap} {locs : List Loc} {ls : Array Slot} (o0 : oO L 1 i0) (hI : Iv X L s H locs F) (hl : lv_has ls 4 [(0, .ref (mAd X i0)), (2, .int x2), (3, .int x3)]) (h : b_Row_markFrom_9 L k9 i0 x2 x3 F = some out) : W p l e (headSpec w_Row_markFrom r_Row_markFrom).room s m args below meth c H locs 0 0 (MQ below (QI X L out) args s 0 0 (AA X L)) (F0 m 9 ls []) := by
  unfold b_Row_markFrom_9 at h
  obtain ⟨S, hK, hT, hW, hr, hlk⟩ := id hC
  have hx := S.1
  have hb := S.2.1
  refine lv_iload_n hx hb d_Row_markFrom_9 rfl (lv_at hl 2 rfl) ?_
  refine lv_aload_n hx hb d_Row_markFrom_10 rfl (lv_at hl 0 rfl) ?_
  refine w_getI (T := T_Row) S hK hI o0 rfl hin_Row 1 (index := 15) (by decide) lf_Row_15 d_Row_markFrom_11 ?_
  refine lv_icmp_ge (tgt := 35) hx hb d_Row_markFrom_14 rfl (fun hc => ?_) (fun hc => ?_)
  · replace h := (if_pos hc).symm.trans h
    refine lv_iload_n hx hb d_Row_markFrom_35 rfl (lv_at hl 1 rfl) ?_
    refine lv_iload_n hx hb d_Row_markFrom_36 rfl (lv_at hl 1 rfl) ?_
    refine lv_bipush (v := 16) hx hb d_Row_markFrom_37 (by decide) ?_
    refine lv_iushr hx hb d_Row_markFrom_39 rfl ?_
    refine lv_ixor hx hb d_Row_markFrom_40 ?_
    refine lv_ldc (own := R_Row) (index := 28) (v := 65535) hx hb S.2.2.2.1 (S.2.2.2.2 _ (List.mem_cons_of_mem _ lk_Row_28)) d_Row_markFrom_41 ?_
    refine lv_iand hx hb d_Row_markFrom_43 ?_
    exact w_iret S hK hr hlk hI d_Row_markFrom_44 h
  · replace h := (if_neg hc).symm.trans h
    refine lv_iload_n hx hb d_Row_markFrom_17 rfl (lv_at hl 1 rfl) ?_
    refine lv_aload_n hx hb d_Row_markFrom_18 rfl (lv_at hl 0 rfl) ?_
    have p1 := wt_a hW o0 0 rfl (by decide) (by decide)
    refine w_getR (T := T_Row) S hK hI o0 rfl hin_Row 0 (index := 9) (by decide) lf_Row_9 d_Row_markFrom_19 ?_
    refine lv_iload_n hx hb d_Row_markFrom_22 rfl (lv_at hl 2 rfl) ?_
    obtain ⟨z2, h⟩ := un_if h
    refine w_iald S hK hI hT p1 z2 d_Row_markFrom_23 ?_
    refine lv_ixor hx hb d_Row_markFrom_24 ?_
    refine lv_ldc (own := R_Row) (index := 27) (v := 16777619) hx hb S.2.2.2.1 (S.2.2.2.2 _ (List.mem_cons_of_mem _ lk_Row_27)) d_Row_markFrom_25 ?_
    refine lv_imul hx hb d_Row_markFrom_27 ?_
    refine lv_istore_n (lv' := [(2, .int ((x2 ^^^ (mGa L F (mRf L i0 0) x3.toNatClampNeg)) * (16777619 : Int32))), (0, .ref (mAd X i0)), (3, .int x3)]) hx hb d_Row_markFrom_28 rfl hl (by decide) rfl (fun ls hl => ?_)
    refine lv_iinc (k := 2) (v := x3 + (1 : Int32)) (lv' := [(3, .int (x3 + (1 : Int32))), (2, .int ((x2 ^^^ (mGa L F (mRf L i0 0) x3.toNatClampNeg)) * (16777619 : Int32))), (0, .ref (mAd X i0))]) hx hb d_Row_markFrom_29 hl rfl rfl (by decide) rfl (fun ls hl => ?_)
    refine lv_goto (tgt := 9) hx hb d_Row_markFrom_32 rfl ?_
    exact hk9 _ _ _ _ _ _ _ o0 hI (lv_sub hl [2, 1, 0] rfl) h
def f_Row_markFrom_9 (L : La)  : Nat → Nat → Int32 → Int32 → Mem → Option (Int32 × Mem)
  | 0 => fun _ _ _ _ => none
  | n + 1 => b_Row_markFrom_9 L (f_Row_markFrom_9 L  n)
theorem tf_Row_markFrom_9 (hC : Cx X L p s m args meth c cc_Row_markFrom 4 w_Row_markFrom R_Row (some .int))  {out : (Int32 × Mem)}  (n : Nat) : ∀ (i0 : Nat) (x2 : Int32) (x3 : Int32) (F : Mem) (H : Heap) (locs : List Loc) (ls : Array Slot), oO L 1 i0 → Iv X L s H locs F → lv_has ls 4 [(0, .ref (mAd X i0)), (2, .int x2), (3, .int x3)] → f_Row_markFrom_9 L  n i0 x2 x3 F = some out → W p l e (headSpec w_Row_markFrom r_Row_markFrom).room s m args below meth c H locs 0 0 (MQ below (QI X L out) args s 0 0 (AA X L)) (F0 m 9 ls []) := by
  induction n with
  | zero => intro i0 x2 x3 F H locs ls o0 hI hl h; cases h
  | succ n ih => intro i0 x2 x3 F H locs ls o0 hI hl h; exact t_Row_markFrom_9 hC ih o0 hI hl h
def f_Row_markFrom (L : La) (i0 : Nat) (x1 : Int32) (F : Mem) : Option (Int32 × Mem) :=
  f_Row_markFrom_9 L  mFU i0 ((F i0 1) - x1) x1 F
set_option maxHeartbeats 4000000 in
theorem c_Row_markFrom (l : Launch) {X : Xs} {L : La} (hW : WT L) {out : (Int32 × Mem)} {i0 : Nat} {x1 : Int32} {F : Mem} (o0 : oO L 1 i0) (h : f_Row_markFrom L i0 x1 F = some out) : Met l y_Row_markFrom w_Row_markFrom r_Row_markFrom (va_Pc [.ref (mAd X i0), .int x1] (Pr X L F)) (QI X L out) 0 0 (AA X L) := by
  refine mk_met (by decide) rfl (Nat.le_of_ble_eq_true rfl) hW ?_
  intro p e s m args below meth c ls hC hI hl
  have hl : lv_has ls 4 [(0, .ref (mAd X i0)), (1, .int x1)] := hl
  generalize hHe : s.heap = H at hI ⊢
  generalize ([] : List Loc) = locs at hI ⊢
  unfold f_Row_markFrom at h
  obtain ⟨S, hK, hT, hW, hr, hlk⟩ := id hC
  have hx := S.1
  have hb := S.2.1
  refine lv_aload_n hx hb d_Row_markFrom_0 rfl (lv_at hl 0 rfl) ?_
  refine w_getI (T := T_Row) S hK hI o0 rfl hin_Row 1 (index := 15) (by decide) lf_Row_15 d_Row_markFrom_1 ?_
  refine lv_iload_n hx hb d_Row_markFrom_4 rfl (lv_at hl 1 rfl) ?_
  refine lv_isub hx hb d_Row_markFrom_5 ?_
  refine lv_istore_n (lv' := [(2, .int ((F i0 1) - x1)), (0, .ref (mAd X i0)), (1, .int x1)]) hx hb d_Row_markFrom_6 rfl hl (by decide) rfl (fun ls hl => ?_)
  refine lv_iload_n hx hb d_Row_markFrom_7 rfl (lv_at hl 2 rfl) ?_
  refine lv_istore_n (lv' := [(3, .int x1), (2, .int ((F i0 1) - x1)), (0, .ref (mAd X i0)), (1, .int x1)]) hx hb d_Row_markFrom_8 rfl hl (by decide) rfl (fun ls hl => ?_)
  exact tf_Row_markFrom_9 hC  mFU _ _ _ _ _ _ _ o0 hI (lv_sub hl [2, 1, 0] rfl) h
end
theorem d_PF_pack_0 : decode cc_PF_pack 0 = .ok (.aload_n 0, 1) := by decide +kernel
theorem d_PF_pack_1 : decode cc_PF_pack 1 = .ok (.getfield 54, 3) := by decide +kernel
theorem d_PF_pack_4 : decode cc_PF_pack 4 = .ok (.invokevirtual 73, 3) := by decide +kernel
theorem d_PF_pack_7 : decode cc_PF_pack 7 = .ok (.bipush (6), 2) := by decide +kernel
theorem d_PF_pack_9 : decode cc_PF_pack 9 = .ok (.aload_n 0, 1) := by decide +kernel
theorem d_PF_pack_10 : decode cc_PF_pack 10 = .ok (.getfield 54, 3) := by decide +kernel
theorem d_PF_pack_13 : decode cc_PF_pack 13 = .ok (.getfield 76, 3) := by decide +kernel
theorem d_PF_pack_16 : decode cc_PF_pack 16 = .ok (.getfield 62, 3) := by decide +kernel
theorem d_PF_pack_19 : decode cc_PF_pack 19 = .ok (.iadd, 1) := by decide +kernel
theorem d_PF_pack_20 : decode cc_PF_pack 20 = .ok (.iload_n 1, 1) := by decide +kernel
theorem d_PF_pack_21 : decode cc_PF_pack 21 = .ok (.ifCond .eq (7), 3) := by decide +kernel
theorem d_PF_pack_24 : decode cc_PF_pack 24 = .ok (.iconst 2, 1) := by decide +kernel
theorem d_PF_pack_25 : decode cc_PF_pack 25 = .ok (.goto (4), 3) := by decide +kernel
theorem d_PF_pack_28 : decode cc_PF_pack 28 = .ok (.iconst 0, 1) := by decide +kernel
theorem d_PF_pack_29 : decode cc_PF_pack 29 = .ok (.iadd, 1) := by decide +kernel
theorem d_PF_pack_30 : decode cc_PF_pack 30 = .ok (.istore_n 2, 1) := by decide +kernel
theorem d_PF_pack_31 : decode cc_PF_pack 31 = .ok (.aload_n 0, 1) := by decide +kernel
theorem d_PF_pack_32 : decode cc_PF_pack 32 = .ok (.getfield 18, 3) := by decide +kernel
theorem d_PF_pack_35 : decode cc_PF_pack 35 = .ok (.iload_n 2, 1) := by decide +kernel
theorem d_PF_pack_36 : decode cc_PF_pack 36 = .ok (.invokevirtual 79, 3) := by decide +kernel
theorem d_PF_pack_39 : decode cc_PF_pack 39 = .ok (.ifCond .ne (6), 3) := by decide +kernel
theorem d_PF_pack_42 : decode cc_PF_pack 42 = .ok (.bipush (-2), 2) := by decide +kernel
theorem d_PF_pack_44 : decode cc_PF_pack 44 = .ok (.ireturn, 1) := by decide +kernel
theorem d_PF_pack_45 : decode cc_PF_pack 45 = .ok (.aload_n 0, 1) := by decide +kernel
theorem d_PF_pack_46 : decode cc_PF_pack 46 = .ok (.getfield 18, 3) := by decide +kernel
theorem d_PF_pack_49 : decode cc_PF_pack 49 = .ok (.bipush (90), 2) := by decide +kernel
theorem d_PF_pack_51 : decode cc_PF_pack 51 = .ok (.invokevirtual 83, 3) := by decide +kernel
theorem d_PF_pack_54 : decode cc_PF_pack 54 = .ok (.aload_n 0, 1) := by decide +kernel
theorem d_PF_pack_55 : decode cc_PF_pack 55 = .ok (.getfield 18, 3) := by decide +kernel
theorem d_PF_pack_58 : decode cc_PF_pack 58 = .ok (.iload_n 1, 1) := by decide +kernel
theorem d_PF_pack_59 : decode cc_PF_pack 59 = .ok (.ifCond .eq (7), 3) := by decide +kernel
theorem d_PF_pack_62 : decode cc_PF_pack 62 = .ok (.iconst 1, 1) := by decide +kernel
theorem d_PF_pack_63 : decode cc_PF_pack 63 = .ok (.goto (4), 3) := by decide +kernel
theorem d_PF_pack_66 : decode cc_PF_pack 66 = .ok (.iconst 0, 1) := by decide +kernel
theorem d_PF_pack_67 : decode cc_PF_pack 67 = .ok (.invokevirtual 83, 3) := by decide +kernel
theorem d_PF_pack_70 : decode cc_PF_pack 70 = .ok (.aload_n 0, 1) := by decide +kernel
theorem d_PF_pack_71 : decode cc_PF_pack 71 = .ok (.getfield 18, 3) := by decide +kernel
theorem d_PF_pack_74 : decode cc_PF_pack 74 = .ok (.aload_n 0, 1) := by decide +kernel
theorem d_PF_pack_75 : decode cc_PF_pack 75 = .ok (.getfield 14, 3) := by decide +kernel
theorem d_PF_pack_78 : decode cc_PF_pack 78 = .ok (.getfield 62, 3) := by decide +kernel
theorem d_PF_pack_81 : decode cc_PF_pack 81 = .ok (.invokevirtual 86, 3) := by decide +kernel
theorem d_PF_pack_84 : decode cc_PF_pack 84 = .ok (.aload_n 0, 1) := by decide +kernel
theorem d_PF_pack_85 : decode cc_PF_pack 85 = .ok (.getfield 18, 3) := by decide +kernel
theorem d_PF_pack_88 : decode cc_PF_pack 88 = .ok (.aload_n 0, 1) := by decide +kernel
theorem d_PF_pack_89 : decode cc_PF_pack 89 = .ok (.getfield 54, 3) := by decide +kernel
theorem d_PF_pack_92 : decode cc_PF_pack 92 = .ok (.getfield 89, 3) := by decide +kernel
theorem d_PF_pack_95 : decode cc_PF_pack 95 = .ok (.bipush (31), 2) := by decide +kernel
theorem d_PF_pack_97 : decode cc_PF_pack 97 = .ok (.iand, 1) := by decide +kernel
theorem d_PF_pack_98 : decode cc_PF_pack 98 = .ok (.iconst 3, 1) := by decide +kernel
theorem d_PF_pack_99 : decode cc_PF_pack 99 = .ok (.ishl, 1) := by decide +kernel
theorem d_PF_pack_100 : decode cc_PF_pack 100 = .ok (.aload_n 0, 1) := by decide +kernel
theorem d_PF_pack_101 : decode cc_PF_pack 101 = .ok (.getfield 54, 3) := by decide +kernel
theorem d_PF_pack_104 : decode cc_PF_pack 104 = .ok (.getfield 92, 3) := by decide +kernel
theorem d_PF_pack_107 : decode cc_PF_pack 107 = .ok (.iconst 1, 1) := by decide +kernel
theorem d_PF_pack_108 : decode cc_PF_pack 108 = .ok (.ishl, 1) := by decide +kernel
theorem d_PF_pack_109 : decode cc_PF_pack 109 = .ok (.ior, 1) := by decide +kernel
theorem d_PF_pack_110 : decode cc_PF_pack 110 = .ok (.iconst 1, 1) := by decide +kernel
theorem d_PF_pack_111 : decode cc_PF_pack 111 = .ok (.ior, 1) := by decide +kernel
theorem d_PF_pack_112 : decode cc_PF_pack 112 = .ok (.invokevirtual 83, 3) := by decide +kernel
theorem d_PF_pack_115 : decode cc_PF_pack 115 = .ok (.aload_n 0, 1) := by decide +kernel
theorem d_PF_pack_116 : decode cc_PF_pack 116 = .ok (.getfield 18, 3) := by decide +kernel
theorem d_PF_pack_119 : decode cc_PF_pack 119 = .ok (.aload_n 0, 1) := by decide +kernel
theorem d_PF_pack_120 : decode cc_PF_pack 120 = .ok (.getfield 54, 3) := by decide +kernel
theorem d_PF_pack_123 : decode cc_PF_pack 123 = .ok (.getfield 89, 3) := by decide +kernel
theorem d_PF_pack_126 : decode cc_PF_pack 126 = .ok (.iconst 5, 1) := by decide +kernel
theorem d_PF_pack_127 : decode cc_PF_pack 127 = .ok (.ishr, 1) := by decide +kernel
theorem d_PF_pack_128 : decode cc_PF_pack 128 = .ok (.invokevirtual 83, 3) := by decide +kernel
theorem d_PF_pack_131 : decode cc_PF_pack 131 = .ok (.aload_n 0, 1) := by decide +kernel
theorem d_PF_pack_132 : decode cc_PF_pack 132 = .ok (.getfield 18, 3) := by decide +kernel
theorem d_PF_pack_135 : decode cc_PF_pack 135 = .ok (.aload_n 0, 1) := by decide +kernel
theorem d_PF_pack_136 : decode cc_PF_pack 136 = .ok (.getfield 54, 3) := by decide +kernel
theorem d_PF_pack_139 : decode cc_PF_pack 139 = .ok (.getfield 76, 3) := by decide +kernel
theorem d_PF_pack_142 : decode cc_PF_pack 142 = .ok (.invokevirtual 95, 3) := by decide +kernel
theorem d_PF_pack_145 : decode cc_PF_pack 145 = .ok (.iload_n 1, 1) := by decide +kernel
theorem d_PF_pack_146 : decode cc_PF_pack 146 = .ok (.ifCond .eq (18), 3) := by decide +kernel
theorem d_PF_pack_149 : decode cc_PF_pack 149 = .ok (.aload_n 0, 1) := by decide +kernel
theorem d_PF_pack_150 : decode cc_PF_pack 150 = .ok (.getfield 18, 3) := by decide +kernel
theorem d_PF_pack_153 : decode cc_PF_pack 153 = .ok (.aload_n 0, 1) := by decide +kernel
theorem d_PF_pack_154 : decode cc_PF_pack 154 = .ok (.getfield 14, 3) := by decide +kernel
theorem d_PF_pack_157 : decode cc_PF_pack 157 = .ok (.iconst 0, 1) := by decide +kernel
theorem d_PF_pack_158 : decode cc_PF_pack 158 = .ok (.invokevirtual 98, 3) := by decide +kernel
theorem d_PF_pack_161 : decode cc_PF_pack 161 = .ok (.invokevirtual 86, 3) := by decide +kernel
theorem d_PF_pack_164 : decode cc_PF_pack 164 = .ok (.iload_n 2, 1) := by decide +kernel
theorem d_PF_pack_165 : decode cc_PF_pack 165 = .ok (.ireturn, 1) := by decide +kernel
section
variable {p : Program} {l : Launch} {e : Env} {s : State} {m : MethodId} {args : Array Value} {below : List Frame} {meth : Method} {c : Code} {X : Xs} {L : La}
def b_PF_pack_164 (L : La)  (x2 : Int32) (F : Mem) : Option (Int32 × Mem) :=
  some (x2, F)
set_option maxHeartbeats 4000000 in
theorem t_PF_pack_164 (hC : Cx X L p s m args meth c cc_PF_pack 3 w_PF_pack R_PF (some .int))  {out : (Int32 × Mem)}  {x2 : Int32} {F : Mem} {H : Heap} {locs : List Loc} {ls : Array Slot}  (hI : Iv X L s H locs F) (hl : lv_has ls 3 [(2, .int x2)]) (h : b_PF_pack_164 L  x2 F = some out) : W p l e (headSpec w_PF_pack r_PF_pack).room s m args below meth c H locs 0 0 (MQ below (QI X L out) args s 0 0 (AA X L)) (F0 m 164 ls []) := by
  unfold b_PF_pack_164 at h
  obtain ⟨S, hK, hT, hW, hr, hlk⟩ := id hC
  have hx := S.1
  have hb := S.2.1
  refine lv_iload_n hx hb d_PF_pack_164 rfl (lv_at hl 0 rfl) ?_
  exact w_iret S hK hr hlk hI d_PF_pack_165 h
def b_PF_pack_67 (L : La)  (i0 : Nat) (x1 : Int32) (x2 : Int32) (j0 : Nat) (y1 : Int32) (F : Mem) : Option (Int32 × Mem) :=
  (f_Row_add L j0 y1 F).bind fun F1 =>
  (f_Row_addPair L (mRf L i0 1) (F1 (mRf L i0 0) 1) F1).bind fun F5 =>
  (f_Row_add L (mRf L i0 1) (((jshl ((F5 (mRf L i0 5) 12) &&& (31 : Int32)) (3 : Int32)) ||| (jshl (F5 (mRf L i0 5) 11) (1 : Int32))) ||| (1 : Int32)) F5).bind fun F10 =>
  (f_Row_add L (mRf L i0 1) (jshr (F10 (mRf L i0 5) 12) (5 : Int32)) F10).bind fun F14 =>
  (f_Row_addRow L (mRf L i0 1) (mRf L (mRf L i0 5) 4) F14).bind fun F19 =>
  if x1 = 0 then
    b_PF_pack_164 L  x2 F19
  else
    (f_Row_markFrom L (mRf L i0 0) (0 : Int32) F19).bind fun q23 =>
    (f_Row_addPair L (mRf L i0 1) q23.1 q23.2).bind fun F25 =>
    b_PF_pack_164 L  x2 F25
set_option maxHeartbeats 4000000 in
theorem t_PF_pack_67 (hC : Cx X L p s m args meth c cc_PF_pack 3 w_PF_pack R_PF (some .int))  {out : (Int32 × Mem)}  {i0 : Nat} {x1 : Int32} {x2 : Int32} {j0 : Nat} {y1 : Int32} {F : Mem} {H : Heap} {locs : List Loc} {ls : Array Slot} (o0 : oO L 0 i0) (oy0 : oO L 1 j0) (hI : Iv X L s H locs F) (hl : lv_has ls 3 [(0, .ref (mAd X i0)), (1, .int x1), (2, .int x2)]) (h : b_PF_pack_67 L  i0 x1 x2 j0 y1 F = some out) : W p l e (headSpec w_PF_pack r_PF_pack).room s m args below meth c H locs 0 0 (MQ below (QI X L out) args s 0 0 (AA X L)) (F0 m 67 ls [.int y1, .ref (mAd X j0)]) := by
  unfold b_PF_pack_67 at h
  obtain ⟨S, hK, hT, hW, hr, hlk⟩ := id hC
  have hx := S.1
  have hb := S.2.1
  obtain ⟨F1, e2, h⟩ := un_bi h
  refine w_callVv (As := [.int y1]) (rest := []) S hK hI hT (c_Row_add l hW oy0 e2) (cwV 1 S.2.2.2.2 (gd_V lc_Row_add lm_PF_83 li_Row_add ls_Row_add ln_Row) rfl rfl rfl hd_Row_add ⟨Nat.le_of_ble_eq_true rfl, Nat.le_of_ble_eq_true rfl⟩) oy0 rfl (by decide) rfl rfl hl.1 (Nat.le_of_ble_eq_true rfl) d_PF_pack_67 ⟨Nat.zero_le _, Nat.zero_le _⟩ (fun H locs hI => ?_)
  refine lv_aload_n hx hb d_PF_pack_70 rfl (lv_at hl 0 rfl) ?_
  have p3 := wt_o hW o0 1 1 rfl (by decide) (by decide) (by decide)
  refine w_getR (T := T_PF) S hK hI o0 rfl hin_PF 1 (index := 18) (by decide) lf_PF_18 d_PF_pack_71 ?_
  refine lv_aload_n hx hb d_PF_pack_74 rfl (lv_at hl 0 rfl) ?_
  have p4 := wt_o hW o0 0 1 rfl (by decide) (by decide) (by decide)
  refine w_getR (T := T_PF) S hK hI o0 rfl hin_PF 0 (index := 14) (by decide) lf_PF_14 d_PF_pack_75 ?_
  refine w_getI (T := T_Row) S hK hI p4 rfl hin_Row 1 (index := 62) (by decide) lf_PF_62 d_PF_pack_78 ?_
  obtain ⟨F5, e6, h⟩ := un_bi h
  refine w_callVv (As := [.int (F1 (mRf L i0 0) 1)]) (rest := []) S hK hI hT (c_Row_addPair l hW p3 e6) (cwV 1 S.2.2.2.2 (gd_V lc_Row_addPair lm_PF_86 li_Row_addPair ls_Row_addPair ln_Row) rfl rfl rfl hd_Row_addPair ⟨Nat.le_of_ble_eq_true rfl, Nat.le_of_ble_eq_true rfl⟩) p3 rfl (by decide) rfl rfl hl.1 (Nat.le_of_ble_eq_true rfl) d_PF_pack_81 ⟨Nat.zero_le _, Nat.zero_le _⟩ (fun H locs hI => ?_)
  refine lv_aload_n hx hb d_PF_pack_84 rfl (lv_at hl 0 rfl) ?_
  have p7 := wt_o hW o0 1 1 rfl (by decide) (by decide) (by decide)
  refine w_getR (T := T_PF) S hK hI o0 rfl hin_PF 1 (index := 18) (by decide) lf_PF_18 d_PF_pack_85 ?_
  refine lv_aload_n hx hb d_PF_pack_88 rfl (lv_at hl 0 rfl) ?_
  have p8 := wt_o hW o0 5 11 rfl (by decide) (by decide) (by decide)
  refine w_getR (T := T_PF) S hK hI o0 rfl hin_PF 5 (index := 54) (by decide) lf_PF_54 d_PF_pack_89 ?_
  refine w_getI (T := T_Pk) S hK hI p8 rfl hin_Pk 12 (index := 89) (by decide) lf_PF_89 d_PF_pack_92 ?_
  refine lv_bipush (v := 31) hx hb d_PF_pack_95 (by decide) ?_
  refine lv_iand hx hb d_PF_pack_97 ?_
  refine lv_iconst (v := 3) hx hb d_PF_pack_98 rfl ?_
  refine lv_ishl hx hb d_PF_pack_99 ?_
  refine lv_aload_n hx hb d_PF_pack_100 rfl (lv_at hl 0 rfl) ?_
  have p9 := wt_o hW o0 5 11 rfl (by decide) (by decide) (by decide)
  refine w_getR (T := T_PF) S hK hI o0 rfl hin_PF 5 (index := 54) (by decide) lf_PF_54 d_PF_pack_101 ?_
  refine w_getI (T := T_Pk) S hK hI p9 rfl hin_Pk 11 (index := 92) (by decide) lf_PF_92 d_PF_pack_104 ?_
  refine lv_iconst (v := 1) hx hb d_PF_pack_107 rfl ?_
  refine lv_ishl hx hb d_PF_pack_108 ?_
  refine lv_ior hx hb d_PF_pack_109 ?_
  refine lv_iconst (v := 1) hx hb d_PF_pack_110 rfl ?_
  refine lv_ior hx hb d_PF_pack_111 ?_
  obtain ⟨F10, e11, h⟩ := un_bi h
  refine w_callVv (As := [.int (((jshl ((F5 (mRf L i0 5) 12) &&& (31 : Int32)) (3 : Int32)) ||| (jshl (F5 (mRf L i0 5) 11) (1 : Int32))) ||| (1 : Int32))]) (rest := []) S hK hI hT (c_Row_add l hW p7 e11) (cwV 1 S.2.2.2.2 (gd_V lc_Row_add lm_PF_83 li_Row_add ls_Row_add ln_Row) rfl rfl rfl hd_Row_add ⟨Nat.le_of_ble_eq_true rfl, Nat.le_of_ble_eq_true rfl⟩) p7 rfl (by decide) rfl rfl hl.1 (Nat.le_of_ble_eq_true rfl) d_PF_pack_112 ⟨Nat.zero_le _, Nat.zero_le _⟩ (fun H locs hI => ?_)
  refine lv_aload_n hx hb d_PF_pack_115 rfl (lv_at hl 0 rfl) ?_
  have p12 := wt_o hW o0 1 1 rfl (by decide) (by decide) (by decide)
  refine w_getR (T := T_PF) S hK hI o0 rfl hin_PF 1 (index := 18) (by decide) lf_PF_18 d_PF_pack_116 ?_
  refine lv_aload_n hx hb d_PF_pack_119 rfl (lv_at hl 0 rfl) ?_
  have p13 := wt_o hW o0 5 11 rfl (by decide) (by decide) (by decide)
  refine w_getR (T := T_PF) S hK hI o0 rfl hin_PF 5 (index := 54) (by decide) lf_PF_54 d_PF_pack_120 ?_
  refine w_getI (T := T_Pk) S hK hI p13 rfl hin_Pk 12 (index := 89) (by decide) lf_PF_89 d_PF_pack_123 ?_
  refine lv_iconst (v := 5) hx hb d_PF_pack_126 rfl ?_
  refine lv_ishr hx hb d_PF_pack_127 ?_
  obtain ⟨F14, e15, h⟩ := un_bi h
  refine w_callVv (As := [.int (jshr (F10 (mRf L i0 5) 12) (5 : Int32))]) (rest := []) S hK hI hT (c_Row_add l hW p12 e15) (cwV 1 S.2.2.2.2 (gd_V lc_Row_add lm_PF_83 li_Row_add ls_Row_add ln_Row) rfl rfl rfl hd_Row_add ⟨Nat.le_of_ble_eq_true rfl, Nat.le_of_ble_eq_true rfl⟩) p12 rfl (by decide) rfl rfl hl.1 (Nat.le_of_ble_eq_true rfl) d_PF_pack_128 ⟨Nat.zero_le _, Nat.zero_le _⟩ (fun H locs hI => ?_)
  refine lv_aload_n hx hb d_PF_pack_131 rfl (lv_at hl 0 rfl) ?_
  have p16 := wt_o hW o0 1 1 rfl (by decide) (by decide) (by decide)
  refine w_getR (T := T_PF) S hK hI o0 rfl hin_PF 1 (index := 18) (by decide) lf_PF_18 d_PF_pack_132 ?_
  refine lv_aload_n hx hb d_PF_pack_135 rfl (lv_at hl 0 rfl) ?_
  have p17 := wt_o hW o0 5 11 rfl (by decide) (by decide) (by decide)
  refine w_getR (T := T_PF) S hK hI o0 rfl hin_PF 5 (index := 54) (by decide) lf_PF_54 d_PF_pack_136 ?_
  have p18 := wt_o hW p17 4 1 rfl (by decide) (by decide) (by decide)
  refine w_getR (T := T_Pk) S hK hI p17 rfl hin_Pk 4 (index := 76) (by decide) lf_PF_76 d_PF_pack_139 ?_
  obtain ⟨F19, e20, h⟩ := un_bi h
  refine w_callVv (As := [.ref (mAd X (mRf L (mRf L i0 5) 4))]) (rest := []) S hK hI hT (c_Row_addRow l hW p16 p18 e20) (cwV 1 S.2.2.2.2 (gd_V lc_Row_addRow lm_PF_95 li_Row_addRow ls_Row_addRow ln_Row) rfl rfl rfl hd_Row_addRow ⟨Nat.le_of_ble_eq_true rfl, Nat.le_of_ble_eq_true rfl⟩) p16 rfl (by decide) rfl rfl hl.1 (Nat.le_of_ble_eq_true rfl) d_PF_pack_142 ⟨Nat.zero_le _, Nat.zero_le _⟩ (fun H locs hI => ?_)
  refine lv_iload_n hx hb d_PF_pack_145 rfl (lv_at hl 1 rfl) ?_
  refine lv_if_eq (tgt := 164) hx hb d_PF_pack_146 rfl (fun hc => ?_) (fun hc => ?_)
  · replace h := (if_pos hc).symm.trans h
    exact t_PF_pack_164 hC   hI (lv_sub hl [2] rfl) h
  · replace h := (if_neg hc).symm.trans h
    refine lv_aload_n hx hb d_PF_pack_149 rfl (lv_at hl 0 rfl) ?_
    have p21 := wt_o hW o0 1 1 rfl (by decide) (by decide) (by decide)
    refine w_getR (T := T_PF) S hK hI o0 rfl hin_PF 1 (index := 18) (by decide) lf_PF_18 d_PF_pack_150 ?_
    refine lv_aload_n hx hb d_PF_pack_153 rfl (lv_at hl 0 rfl) ?_
    have p22 := wt_o hW o0 0 1 rfl (by decide) (by decide) (by decide)
    refine w_getR (T := T_PF) S hK hI o0 rfl hin_PF 0 (index := 14) (by decide) lf_PF_14 d_PF_pack_154 ?_
    refine lv_iconst (v := 0) hx hb d_PF_pack_157 rfl ?_
    obtain ⟨q23, e24, h⟩ := un_bi h
    refine w_callVi (As := [.int (0 : Int32)]) (rest := [.ref (mAd X (mRf L i0 1))]) S hK hI hT (c_Row_markFrom l hW p22 e24) (cwV 1 S.2.2.2.2 (gd_V lc_Row_markFrom lm_PF_98 li_Row_markFrom ls_Row_markFrom ln_Row) rfl rfl rfl hd_Row_markFrom ⟨Nat.le_of_ble_eq_true rfl, Nat.le_of_ble_eq_true rfl⟩) p22 rfl (by decide) rfl rfl hl.1 (Nat.le_of_ble_eq_true rfl) d_PF_pack_158 ⟨Nat.zero_le _, Nat.zero_le _⟩ (fun H locs hI => ?_)
    obtain ⟨F25, e26, h⟩ := un_bi h
    refine w_callVv (As := [.int q23.1]) (rest := []) S hK hI hT (c_Row_addPair l hW p21 e26) (cwV 1 S.2.2.2.2 (gd_V lc_Row_addPair lm_PF_86 li_Row_addPair ls_Row_addPair ln_Row) rfl rfl rfl hd_Row_addPair ⟨Nat.le_of_ble_eq_true rfl, Nat.le_of_ble_eq_true rfl⟩) p21 rfl (by decide) rfl rfl hl.1 (Nat.le_of_ble_eq_true rfl) d_PF_pack_161 ⟨Nat.zero_le _, Nat.zero_le _⟩ (fun H locs hI => ?_)
    exact t_PF_pack_164 hC   hI (lv_sub hl [2] rfl) h
def b_PF_pack_29 (L : La)  (i0 : Nat) (x1 : Int32) (y0 : Int32) (y1 : Int32) (F : Mem) : Option (Int32 × Mem) :=
  (f_Row_hasRoom L (mRf L i0 1) (y0 + y1) F).bind fun q2 =>
  if q2.1 = 0 then
    some ((-2 : Int32), q2.2)
  else
    (f_Row_add L (mRf L i0 1) (90 : Int32) q2.2).bind fun F5 =>
    if x1 = 0 then
      b_PF_pack_67 L  i0 x1 (y0 + y1) (mRf L i0 1) (0 : Int32) F5
    else
      b_PF_pack_67 L  i0 x1 (y0 + y1) (mRf L i0 1) (1 : Int32) F5
set_option maxHeartbeats 4000000 in
theorem t_PF_pack_29 (hC : Cx X L p s m args meth c cc_PF_pack 3 w_PF_pack R_PF (some .int))  {out : (Int32 × Mem)}  {i0 : Nat} {x1 : Int32} {y0 : Int32} {y1 : Int32} {F : Mem} {H : Heap} {locs : List Loc} {ls : Array Slot} (o0 : oO L 0 i0) (hI : Iv X L s H locs F) (hl : lv_has ls 3 [(0, .ref (mAd X i0)), (1, .int x1)]) (h : b_PF_pack_29 L  i0 x1 y0 y1 F = some out) : W p l e (headSpec w_PF_pack r_PF_pack).room s m args below meth c H locs 0 0 (MQ below (QI X L out) args s 0 0 (AA X L)) (F0 m 29 ls [.int y1, .int y0]) := by
  unfold b_PF_pack_29 at h
  obtain ⟨S, hK, hT, hW, hr, hlk⟩ := id hC
  have hx := S.1
  have hb := S.2.1
  refine lv_iadd hx hb d_PF_pack_29 ?_
  refine lv_istore_n (lv' := [(2, .int (y0 + y1)), (0, .ref (mAd X i0)), (1, .int x1)]) hx hb d_PF_pack_30 rfl hl (by decide) rfl (fun ls hl => ?_)
  refine lv_aload_n hx hb d_PF_pack_31 rfl (lv_at hl 1 rfl) ?_
  have p1 := wt_o hW o0 1 1 rfl (by decide) (by decide) (by decide)
  refine w_getR (T := T_PF) S hK hI o0 rfl hin_PF 1 (index := 18) (by decide) lf_PF_18 d_PF_pack_32 ?_
  refine lv_iload_n hx hb d_PF_pack_35 rfl (lv_at hl 0 rfl) ?_
  obtain ⟨q2, e3, h⟩ := un_bi h
  refine w_callVi (As := [.int (y0 + y1)]) (rest := []) S hK hI hT (c_Row_hasRoom l hW p1 e3) (cwV 1 S.2.2.2.2 (gd_V lc_Row_hasRoom lm_PF_79 li_Row_hasRoom ls_Row_hasRoom ln_Row) rfl rfl rfl hd_Row_hasRoom ⟨Nat.le_of_ble_eq_true rfl, Nat.le_of_ble_eq_true rfl⟩) p1 rfl (by decide) rfl rfl hl.1 (Nat.le_of_ble_eq_true rfl) d_PF_pack_36 ⟨Nat.zero_le _, Nat.zero_le _⟩ (fun H locs hI => ?_)
  refine lv_if_ne (tgt := 45) hx hb d_PF_pack_39 rfl (fun hc => ?_) (fun hc => ?_)
  · replace h := (if_neg hc).symm.trans h
    refine lv_aload_n hx hb d_PF_pack_45 rfl (lv_at hl 1 rfl) ?_
    have p4 := wt_o hW o0 1 1 rfl (by decide) (by decide) (by decide)
    refine w_getR (T := T_PF) S hK hI o0 rfl hin_PF 1 (index := 18) (by decide) lf_PF_18 d_PF_pack_46 ?_
    refine lv_bipush (v := 90) hx hb d_PF_pack_49 (by decide) ?_
    obtain ⟨F5, e6, h⟩ := un_bi h
    refine w_callVv (As := [.int (90 : Int32)]) (rest := []) S hK hI hT (c_Row_add l hW p4 e6) (cwV 1 S.2.2.2.2 (gd_V lc_Row_add lm_PF_83 li_Row_add ls_Row_add ln_Row) rfl rfl rfl hd_Row_add ⟨Nat.le_of_ble_eq_true rfl, Nat.le_of_ble_eq_true rfl⟩) p4 rfl (by decide) rfl rfl hl.1 (Nat.le_of_ble_eq_true rfl) d_PF_pack_51 ⟨Nat.zero_le _, Nat.zero_le _⟩ (fun H locs hI => ?_)
    refine lv_aload_n hx hb d_PF_pack_54 rfl (lv_at hl 1 rfl) ?_
    have p7 := wt_o hW o0 1 1 rfl (by decide) (by decide) (by decide)
    refine w_getR (T := T_PF) S hK hI o0 rfl hin_PF 1 (index := 18) (by decide) lf_PF_18 d_PF_pack_55 ?_
    refine lv_iload_n hx hb d_PF_pack_58 rfl (lv_at hl 2 rfl) ?_
    refine lv_if_eq (tgt := 66) hx hb d_PF_pack_59 rfl (fun hc => ?_) (fun hc => ?_)
    · replace h := (if_pos hc).symm.trans h
      refine lv_iconst (v := 0) hx hb d_PF_pack_66 rfl ?_
      exact t_PF_pack_67 hC  o0 p7 hI (lv_sub hl [1, 2, 0] rfl) h
    · replace h := (if_neg hc).symm.trans h
      refine lv_iconst (v := 1) hx hb d_PF_pack_62 rfl ?_
      refine lv_goto (tgt := 67) hx hb d_PF_pack_63 rfl ?_
      exact t_PF_pack_67 hC  o0 p7 hI (lv_sub hl [1, 2, 0] rfl) h
  · replace h := (if_pos hc).symm.trans h
    refine lv_bipush (v := -2) hx hb d_PF_pack_42 (by decide) ?_
    exact w_iret S hK hr hlk hI d_PF_pack_44 h
def f_PF_pack (L : La) (i0 : Nat) (x1 : Int32) (F : Mem) : Option (Int32 × Mem) :=
  (f_Pk_chooseBlock L (mRf L i0 5) F).bind fun F2 =>
  if x1 = 0 then
    b_PF_pack_29 L  i0 x1 ((6 : Int32) + (F2 (mRf L (mRf L i0 5) 4) 1)) (0 : Int32) F2
  else
    b_PF_pack_29 L  i0 x1 ((6 : Int32) + (F2 (mRf L (mRf L i0 5) 4) 1)) (2 : Int32) F2
set_option maxHeartbeats 4000000 in
theorem c_PF_pack (l : Launch) {X : Xs} {L : La} (hW : WT L) {out : (Int32 × Mem)} {i0 : Nat} {x1 : Int32} {F : Mem} (o0 : oO L 0 i0) (h : f_PF_pack L i0 x1 F = some out) : Met l y_PF_pack w_PF_pack r_PF_pack (va_Pc [.ref (mAd X i0), .int x1] (Pr X L F)) (QI X L out) 0 0 (AA X L) := by
  refine mk_met (by decide) rfl (Nat.le_of_ble_eq_true rfl) hW ?_
  intro p e s m args below meth c ls hC hI hl
  have hl : lv_has ls 3 [(0, .ref (mAd X i0)), (1, .int x1)] := hl
  generalize hHe : s.heap = H at hI ⊢
  generalize ([] : List Loc) = locs at hI ⊢
  unfold f_PF_pack at h
  obtain ⟨S, hK, hT, hW, hr, hlk⟩ := id hC
  have hx := S.1
  have hb := S.2.1
  refine lv_aload_n hx hb d_PF_pack_0 rfl (lv_at hl 0 rfl) ?_
  have p1 := wt_o hW o0 5 11 rfl (by decide) (by decide) (by decide)
  refine w_getR (T := T_PF) S hK hI o0 rfl hin_PF 5 (index := 54) (by decide) lf_PF_54 d_PF_pack_1 ?_
  obtain ⟨F2, e3, h⟩ := un_bi h
  refine w_callVv (As := []) (rest := []) S hK hI hT (c_Pk_chooseBlock l hW p1 e3) (cwV 0 S.2.2.2.2 (gd_V lc_Pk_chooseBlock lm_PF_73 li_Pk_chooseBlock ls_Pk_chooseBlock ln_Pk) rfl rfl rfl hd_Pk_chooseBlock ⟨Nat.le_of_ble_eq_true rfl, Nat.le_of_ble_eq_true rfl⟩) p1 rfl (by decide) rfl rfl hl.1 (Nat.le_of_ble_eq_true rfl) d_PF_pack_4 ⟨Nat.zero_le _, Nat.zero_le _⟩ (fun H locs hI => ?_)
  refine lv_bipush (v := 6) hx hb d_PF_pack_7 (by decide) ?_
  refine lv_aload_n hx hb d_PF_pack_9 rfl (lv_at hl 0 rfl) ?_
  have p4 := wt_o hW o0 5 11 rfl (by decide) (by decide) (by decide)
  refine w_getR (T := T_PF) S hK hI o0 rfl hin_PF 5 (index := 54) (by decide) lf_PF_54 d_PF_pack_10 ?_
  have p5 := wt_o hW p4 4 1 rfl (by decide) (by decide) (by decide)
  refine w_getR (T := T_Pk) S hK hI p4 rfl hin_Pk 4 (index := 76) (by decide) lf_PF_76 d_PF_pack_13 ?_
  refine w_getI (T := T_Row) S hK hI p5 rfl hin_Row 1 (index := 62) (by decide) lf_PF_62 d_PF_pack_16 ?_
  refine lv_iadd hx hb d_PF_pack_19 ?_
  refine lv_iload_n hx hb d_PF_pack_20 rfl (lv_at hl 1 rfl) ?_
  refine lv_if_eq (tgt := 28) hx hb d_PF_pack_21 rfl (fun hc => ?_) (fun hc => ?_)
  · replace h := (if_pos hc).symm.trans h
    refine lv_iconst (v := 0) hx hb d_PF_pack_28 rfl ?_
    exact t_PF_pack_29 hC  o0 hI hl h
  · replace h := (if_neg hc).symm.trans h
    refine lv_iconst (v := 2) hx hb d_PF_pack_24 rfl ?_
    refine lv_goto (tgt := 29) hx hb d_PF_pack_25 rfl ?_
    exact t_PF_pack_29 hC  o0 hI hl h
end
theorem d_Row_addTimes_0 : decode cc_Row_addTimes 0 = .ok (.iconst 0, 1) := by decide +kernel
theorem d_Row_addTimes_1 : decode cc_Row_addTimes 1 = .ok (.istore_n 3, 1) := by decide +kernel
theorem d_Row_addTimes_2 : decode cc_Row_addTimes 2 = .ok (.iload_n 3, 1) := by decide +kernel
theorem d_Row_addTimes_3 : decode cc_Row_addTimes 3 = .ok (.iload_n 2, 1) := by decide +kernel
theorem d_Row_addTimes_4 : decode cc_Row_addTimes 4 = .ok (.if_icmp .ge (14), 3) := by decide +kernel
theorem d_Row_addTimes_7 : decode cc_Row_addTimes 7 = .ok (.aload_n 0, 1) := by decide +kernel
theorem d_Row_addTimes_8 : decode cc_Row_addTimes 8 = .ok (.iload_n 1, 1) := by decide +kernel
theorem d_Row_addTimes_9 : decode cc_Row_addTimes 9 = .ok (.invokevirtual 19, 3) := by decide +kernel
theorem d_Row_addTimes_12 : decode cc_Row_addTimes 12 = .ok (.iinc 3 (1), 3) := by decide +kernel
theorem d_Row_addTimes_15 : decode cc_Row_addTimes 15 = .ok (.goto (-13), 3) := by decide +kernel
theorem d_Row_addTimes_18 : decode cc_Row_addTimes 18 = .ok (.return_, 1) := by decide +kernel
section
variable {p : Program} {l : Launch} {e : Env} {s : State} {m : MethodId} {args : Array Value} {below : List Frame} {meth : Method} {c : Code} {X : Xs} {L : La}
def b_Row_addTimes_2 (L : La) (k2 : Nat → Int32 → Int32 → Int32 → Mem → Option Mem) (i0 : Nat) (x1 : Int32) (x2 : Int32) (x3 : Int32) (F : Mem) : Option Mem :=
  if x2 ≤ x3 then
    some F
  else
    (f_Row_add L i0 x1 F).bind fun F1 =>
    k2 i0 x1 x2 (x3 + (1 : Int32)) F1
set_option maxHeartbeats 4000000 in
theorem t_Row_addTimes_2 (hC : Cx X L p s m args meth c cc_Row_addTimes 4 w_Row_addTimes R_Row none) {k2 : Nat → Int32 → Int32 → Int32 → Mem → Option Mem} {out : Mem} (hk2 : ∀ (i0 : Nat) (x1 : Int32) (x2 : Int32) (x3 : Int32) (F : Mem) (H : Heap) (locs : List Loc) (ls : Array Slot), oO L 1 i0 → Iv X L s H locs F → lv_has ls 4 [(0, .ref (mAd X i0)), (1, .int x1), (2, .int x2), (3, .int x3)] → k2 i0 x1 x2 x3 F = some out → W p l e (headSpec w_Row_addTimes r_Row_addTimes).room s m args below meth c H locs 0 0 (MQ below (QV X L out) args s 0 0 (AA X L)) (F0 m 2 ls [])) {i0 : Nat} {x1 : Int32} {x2 : Int32} {x3 : Int32} {F : Mem} {H : Heap} {locs : List Loc} {ls : Array Slot} (o0 : oO L 1 i0) (hI : Iv X L s H locs F) (hl : lv_has ls 4 [(0, .ref (mAd X i0)), (1, .int x1), (2, .int x2), (3, .int x3)]) (h : b_Row_addTimes_2 L k2 i0 x1 x2 x3 F = some out) : W p l e (headSpec w_Row_addTimes r_Row_addTimes).room s m args below meth c H locs 0 0 (MQ below (QV X L out) args s 0 0 (AA X L)) (F0 m 2 ls []) := by
  unfold b_Row_addTimes_2 at h
  obtain ⟨S, hK, hT, hW, hr, hlk⟩ := id hC
  have hx := S.1
  have hb := S.2.1
  refine lv_iload_n hx hb d_Row_addTimes_2 rfl (lv_at hl 3 rfl) ?_
  refine lv_iload_n hx hb d_Row_addTimes_3 rfl (lv_at hl 2 rfl) ?_
  refine lv_icmp_ge (tgt := 18) hx hb d_Row_addTimes_4 rfl (fun hc => ?_) (fun hc => ?_)
  · replace h := (if_pos hc).symm.trans h
    exact w_vret S hK hr hlk hI d_Row_addTimes_18 h
  · replace h := (if_neg hc).symm.trans h
    refine lv_aload_n hx hb d_Row_addTimes_7 rfl (lv_at hl 0 rfl) ?_
    refine lv_iload_n hx hb d_Row_addTimes_8 rfl (lv_at hl 1 rfl) ?_
    obtain ⟨F1, e2, h⟩ := un_bi h
    refine w_callVv (As := [.int x1]) (rest := []) S hK hI hT (c_Row_add l hW o0 e2) (cwV 1 S.2.2.2.2 (gd_V lc_Row_add lm_Row_19 li_Row_add ls_Row_add ln_Row) rfl rfl rfl hd_Row_add ⟨Nat.le_of_ble_eq_true rfl, Nat.le_of_ble_eq_true rfl⟩) o0 rfl (by decide) rfl rfl hl.1 (Nat.le_of_ble_eq_true rfl) d_Row_addTimes_9 ⟨Nat.zero_le _, Nat.zero_le _⟩ (fun H locs hI => ?_)
    refine lv_iinc (k := 3) (v := x3 + (1 : Int32)) (lv' := [(3, .int (x3 + (1 : Int32))), (0, .ref (mAd X i0)), (1, .int x1), (2, .int x2)]) hx hb d_Row_addTimes_12 hl rfl rfl (by decide) rfl (fun ls hl => ?_)
    refine lv_goto (tgt := 2) hx hb d_Row_addTimes_15 rfl ?_
    exact hk2 _ _ _ _ _ _ _ _ o0 hI (lv_sub hl [1, 2, 3, 0] rfl) h
def f_Row_addTimes_2 (L : La)  : Nat → Nat → Int32 → Int32 → Int32 → Mem → Option Mem
  | 0 => fun _ _ _ _ _ => none
  | n + 1 => b_Row_addTimes_2 L (f_Row_addTimes_2 L  n)
theorem tf_Row_addTimes_2 (hC : Cx X L p s m args meth c cc_Row_addTimes 4 w_Row_addTimes R_Row none)  {out : Mem}  (n : Nat) : ∀ (i0 : Nat) (x1 : Int32) (x2 : Int32) (x3 : Int32) (F : Mem) (H : Heap) (locs : List Loc) (ls : Array Slot), oO L 1 i0 → Iv X L s H locs F → lv_has ls 4 [(0, .ref (mAd X i0)), (1, .int x1), (2, .int x2), (3, .int x3)] → f_Row_addTimes_2 L  n i0 x1 x2 x3 F = some out → W p l e (headSpec w_Row_addTimes r_Row_addTimes).room s m args below meth c H locs 0 0 (MQ below (QV X L out) args s 0 0 (AA X L)) (F0 m 2 ls []) := by
  induction n with
  | zero => intro i0 x1 x2 x3 F H locs ls o0 hI hl h; cases h
  | succ n ih => intro i0 x1 x2 x3 F H locs ls o0 hI hl h; exact t_Row_addTimes_2 hC ih o0 hI hl h
def f_Row_addTimes (L : La) (i0 : Nat) (x1 : Int32) (x2 : Int32) (F : Mem) : Option Mem :=
  f_Row_addTimes_2 L  mFU i0 x1 x2 (0 : Int32) F
set_option maxHeartbeats 4000000 in
theorem c_Row_addTimes (l : Launch) {X : Xs} {L : La} (hW : WT L) {out : Mem} {i0 : Nat} {x1 : Int32} {x2 : Int32} {F : Mem} (o0 : oO L 1 i0) (h : f_Row_addTimes L i0 x1 x2 F = some out) : Met l y_Row_addTimes w_Row_addTimes r_Row_addTimes (va_Pc [.ref (mAd X i0), .int x1, .int x2] (Pr X L F)) (QV X L out) 0 0 (AA X L) := by
  refine mk_met (by decide) rfl (Nat.le_of_ble_eq_true rfl) hW ?_
  intro p e s m args below meth c ls hC hI hl
  have hl : lv_has ls 4 [(0, .ref (mAd X i0)), (1, .int x1), (2, .int x2)] := hl
  generalize hHe : s.heap = H at hI ⊢
  generalize ([] : List Loc) = locs at hI ⊢
  unfold f_Row_addTimes at h
  obtain ⟨S, hK, hT, hW, hr, hlk⟩ := id hC
  have hx := S.1
  have hb := S.2.1
  refine lv_iconst (v := 0) hx hb d_Row_addTimes_0 rfl ?_
  refine lv_istore_n (lv' := [(3, .int (0 : Int32)), (0, .ref (mAd X i0)), (1, .int x1), (2, .int x2)]) hx hb d_Row_addTimes_1 rfl hl (by decide) rfl (fun ls hl => ?_)
  exact tf_Row_addTimes_2 hC  mFU _ _ _ _ _ _ _ _ o0 hI (lv_sub hl [1, 2, 3, 0] rfl) h
end
theorem d_PF_skip_0 : decode cc_PF_skip 0 = .ok (.iload_n 1, 1) := by decide +kernel
theorem d_PF_skip_1 : decode cc_PF_skip 1 = .ok (.ifCond .lt (22), 3) := by decide +kernel
theorem d_PF_skip_4 : decode cc_PF_skip 4 = .ok (.iload_n 1, 1) := by decide +kernel
theorem d_PF_skip_5 : decode cc_PF_skip 5 = .ok (.bipush (20), 2) := by decide +kernel
theorem d_PF_skip_7 : decode cc_PF_skip 7 = .ok (.if_icmp .gt (16), 3) := by decide +kernel
theorem d_PF_skip_10 : decode cc_PF_skip 10 = .ok (.aload_n 0, 1) := by decide +kernel
theorem d_PF_skip_11 : decode cc_PF_skip 11 = .ok (.getfield 18, 3) := by decide +kernel
theorem d_PF_skip_14 : decode cc_PF_skip 14 = .ok (.iload_n 1, 1) := by decide +kernel
theorem d_PF_skip_15 : decode cc_PF_skip 15 = .ok (.iconst 2, 1) := by decide +kernel
theorem d_PF_skip_16 : decode cc_PF_skip 16 = .ok (.iadd, 1) := by decide +kernel
theorem d_PF_skip_17 : decode cc_PF_skip 17 = .ok (.invokevirtual 79, 3) := by decide +kernel
theorem d_PF_skip_20 : decode cc_PF_skip 20 = .ok (.ifCond .ne (5), 3) := by decide +kernel
theorem d_PF_skip_23 : decode cc_PF_skip 23 = .ok (.iconst 0, 1) := by decide +kernel
theorem d_PF_skip_24 : decode cc_PF_skip 24 = .ok (.ireturn, 1) := by decide +kernel
theorem d_PF_skip_25 : decode cc_PF_skip 25 = .ok (.aload_n 0, 1) := by decide +kernel
theorem d_PF_skip_26 : decode cc_PF_skip 26 = .ok (.getfield 18, 3) := by decide +kernel
theorem d_PF_skip_29 : decode cc_PF_skip 29 = .ok (.bipush (83), 2) := by decide +kernel
theorem d_PF_skip_31 : decode cc_PF_skip 31 = .ok (.invokevirtual 83, 3) := by decide +kernel
theorem d_PF_skip_34 : decode cc_PF_skip 34 = .ok (.aload_n 0, 1) := by decide +kernel
theorem d_PF_skip_35 : decode cc_PF_skip 35 = .ok (.getfield 18, 3) := by decide +kernel
theorem d_PF_skip_38 : decode cc_PF_skip 38 = .ok (.iload_n 1, 1) := by decide +kernel
theorem d_PF_skip_39 : decode cc_PF_skip 39 = .ok (.invokevirtual 83, 3) := by decide +kernel
theorem d_PF_skip_42 : decode cc_PF_skip 42 = .ok (.aload_n 0, 1) := by decide +kernel
theorem d_PF_skip_43 : decode cc_PF_skip 43 = .ok (.getfield 18, 3) := by decide +kernel
theorem d_PF_skip_46 : decode cc_PF_skip 46 = .ok (.iconst 0, 1) := by decide +kernel
theorem d_PF_skip_47 : decode cc_PF_skip 47 = .ok (.iload_n 1, 1) := by decide +kernel
theorem d_PF_skip_48 : decode cc_PF_skip 48 = .ok (.invokevirtual 101, 3) := by decide +kernel
theorem d_PF_skip_51 : decode cc_PF_skip 51 = .ok (.iconst 1, 1) := by decide +kernel
theorem d_PF_skip_52 : decode cc_PF_skip 52 = .ok (.ireturn, 1) := by decide +kernel
section
variable {p : Program} {l : Launch} {e : Env} {s : State} {m : MethodId} {args : Array Value} {below : List Frame} {meth : Method} {c : Code} {X : Xs} {L : La}
def b_PF_skip_23 (L : La)   (F : Mem) : Option (Int32 × Mem) :=
  if (0 : Int32) = 0 ∨ (0 : Int32) = 1 then some ((0 : Int32), F) else none
set_option maxHeartbeats 4000000 in
theorem t_PF_skip_23 (hC : Cx X L p s m args meth c cc_PF_skip 2 w_PF_skip R_PF (some .boolean))  {out : (Int32 × Mem)}   {F : Mem} {H : Heap} {locs : List Loc} {ls : Array Slot}  (hI : Iv X L s H locs F) (hl : lv_has ls 2 []) (h : b_PF_skip_23 L   F = some out) : W p l e (headSpec w_PF_skip r_PF_skip).room s m args below meth c H locs 0 0 (MQ below (QI X L out) args s 0 0 (AA X L)) (F0 m 23 ls []) := by
  unfold b_PF_skip_23 at h
  obtain ⟨S, hK, hT, hW, hr, hlk⟩ := id hC
  have hx := S.1
  have hb := S.2.1
  refine lv_iconst (v := 0) hx hb d_PF_skip_23 rfl ?_
  exact w_zret S hK hr hlk hI d_PF_skip_24 h
def f_PF_skip (L : La) (i0 : Nat) (x1 : Int32) (F : Mem) : Option (Int32 × Mem) :=
  if x1 < 0 then
    b_PF_skip_23 L   F
  else
    if (20 : Int32) < x1 then
      b_PF_skip_23 L   F
    else
      (f_Row_hasRoom L (mRf L i0 1) (x1 + (2 : Int32)) F).bind fun q2 =>
      if q2.1 = 0 then
        b_PF_skip_23 L   q2.2
      else
        (f_Row_add L (mRf L i0 1) (83 : Int32) q2.2).bind fun F5 =>
        (f_Row_add L (mRf L i0 1) x1 F5).bind fun F8 =>
        (f_Row_addTimes L (mRf L i0 1) (0 : Int32) x1 F8).bind fun F11 =>
        if (1 : Int32) = 0 ∨ (1 : Int32) = 1 then some ((1 : Int32), F11) else none
set_option maxHeartbeats 4000000 in
theorem c_PF_skip (l : Launch) {X : Xs} {L : La} (hW : WT L) {out : (Int32 × Mem)} {i0 : Nat} {x1 : Int32} {F : Mem} (o0 : oO L 0 i0) (h : f_PF_skip L i0 x1 F = some out) : Met l y_PF_skip w_PF_skip r_PF_skip (va_Pc [.ref (mAd X i0), .int x1] (Pr X L F)) (QI X L out) 0 0 (AA X L) := by
  refine mk_met (by decide) rfl (Nat.le_of_ble_eq_true rfl) hW ?_
  intro p e s m args below meth c ls hC hI hl
  have hl : lv_has ls 2 [(0, .ref (mAd X i0)), (1, .int x1)] := hl
  generalize hHe : s.heap = H at hI ⊢
  generalize ([] : List Loc) = locs at hI ⊢
  unfold f_PF_skip at h
  obtain ⟨S, hK, hT, hW, hr, hlk⟩ := id hC
  have hx := S.1
  have hb := S.2.1
  refine lv_iload_n hx hb d_PF_skip_0 rfl (lv_at hl 1 rfl) ?_
  refine lv_if_lt (tgt := 23) hx hb d_PF_skip_1 rfl (fun hc => ?_) (fun hc => ?_)
  · replace h := (if_pos hc).symm.trans h
    exact t_PF_skip_23 hC   hI (lv_sub hl [] rfl) h
  · replace h := (if_neg hc).symm.trans h
    refine lv_iload_n hx hb d_PF_skip_4 rfl (lv_at hl 1 rfl) ?_
    refine lv_bipush (v := 20) hx hb d_PF_skip_5 (by decide) ?_
    refine lv_icmp_gt (tgt := 23) hx hb d_PF_skip_7 rfl (fun hc => ?_) (fun hc => ?_)
    · replace h := (if_pos hc).symm.trans h
      exact t_PF_skip_23 hC   hI (lv_sub hl [] rfl) h
    · replace h := (if_neg hc).symm.trans h
      refine lv_aload_n hx hb d_PF_skip_10 rfl (lv_at hl 0 rfl) ?_
      have p1 := wt_o hW o0 1 1 rfl (by decide) (by decide) (by decide)
      refine w_getR (T := T_PF) S hK hI o0 rfl hin_PF 1 (index := 18) (by decide) lf_PF_18 d_PF_skip_11 ?_
      refine lv_iload_n hx hb d_PF_skip_14 rfl (lv_at hl 1 rfl) ?_
      refine lv_iconst (v := 2) hx hb d_PF_skip_15 rfl ?_
      refine lv_iadd hx hb d_PF_skip_16 ?_
      obtain ⟨q2, e3, h⟩ := un_bi h
      refine w_callVi (As := [.int (x1 + (2 : Int32))]) (rest := []) S hK hI hT (c_Row_hasRoom l hW p1 e3) (cwV 1 S.2.2.2.2 (gd_V lc_Row_hasRoom lm_PF_79 li_Row_hasRoom ls_Row_hasRoom ln_Row) rfl rfl rfl hd_Row_hasRoom ⟨Nat.le_of_ble_eq_true rfl, Nat.le_of_ble_eq_true rfl⟩) p1 rfl (by decide) rfl rfl hl.1 (Nat.le_of_ble_eq_true rfl) d_PF_skip_17 ⟨Nat.zero_le _, Nat.zero_le _⟩ (fun H locs hI => ?_)
      refine lv_if_ne (tgt := 25) hx hb d_PF_skip_20 rfl (fun hc => ?_) (fun hc => ?_)
      · replace h := (if_neg hc).symm.trans h
        refine lv_aload_n hx hb d_PF_skip_25 rfl (lv_at hl 0 rfl) ?_
        have p4 := wt_o hW o0 1 1 rfl (by decide) (by decide) (by decide)
        refine w_getR (T := T_PF) S hK hI o0 rfl hin_PF 1 (index := 18) (by decide) lf_PF_18 d_PF_skip_26 ?_
        refine lv_bipush (v := 83) hx hb d_PF_skip_29 (by decide) ?_
        obtain ⟨F5, e6, h⟩ := un_bi h
        refine w_callVv (As := [.int (83 : Int32)]) (rest := []) S hK hI hT (c_Row_add l hW p4 e6) (cwV 1 S.2.2.2.2 (gd_V lc_Row_add lm_PF_83 li_Row_add ls_Row_add ln_Row) rfl rfl rfl hd_Row_add ⟨Nat.le_of_ble_eq_true rfl, Nat.le_of_ble_eq_true rfl⟩) p4 rfl (by decide) rfl rfl hl.1 (Nat.le_of_ble_eq_true rfl) d_PF_skip_31 ⟨Nat.zero_le _, Nat.zero_le _⟩ (fun H locs hI => ?_)
        refine lv_aload_n hx hb d_PF_skip_34 rfl (lv_at hl 0 rfl) ?_
        have p7 := wt_o hW o0 1 1 rfl (by decide) (by decide) (by decide)
        refine w_getR (T := T_PF) S hK hI o0 rfl hin_PF 1 (index := 18) (by decide) lf_PF_18 d_PF_skip_35 ?_
        refine lv_iload_n hx hb d_PF_skip_38 rfl (lv_at hl 1 rfl) ?_
        obtain ⟨F8, e9, h⟩ := un_bi h
        refine w_callVv (As := [.int x1]) (rest := []) S hK hI hT (c_Row_add l hW p7 e9) (cwV 1 S.2.2.2.2 (gd_V lc_Row_add lm_PF_83 li_Row_add ls_Row_add ln_Row) rfl rfl rfl hd_Row_add ⟨Nat.le_of_ble_eq_true rfl, Nat.le_of_ble_eq_true rfl⟩) p7 rfl (by decide) rfl rfl hl.1 (Nat.le_of_ble_eq_true rfl) d_PF_skip_39 ⟨Nat.zero_le _, Nat.zero_le _⟩ (fun H locs hI => ?_)
        refine lv_aload_n hx hb d_PF_skip_42 rfl (lv_at hl 0 rfl) ?_
        have p10 := wt_o hW o0 1 1 rfl (by decide) (by decide) (by decide)
        refine w_getR (T := T_PF) S hK hI o0 rfl hin_PF 1 (index := 18) (by decide) lf_PF_18 d_PF_skip_43 ?_
        refine lv_iconst (v := 0) hx hb d_PF_skip_46 rfl ?_
        refine lv_iload_n hx hb d_PF_skip_47 rfl (lv_at hl 1 rfl) ?_
        obtain ⟨F11, e12, h⟩ := un_bi h
        refine w_callVv (As := [.int (0 : Int32), .int x1]) (rest := []) S hK hI hT (c_Row_addTimes l hW p10 e12) (cwV 2 S.2.2.2.2 (gd_V lc_Row_addTimes lm_PF_101 li_Row_addTimes ls_Row_addTimes ln_Row) rfl rfl rfl hd_Row_addTimes ⟨Nat.le_of_ble_eq_true rfl, Nat.le_of_ble_eq_true rfl⟩) p10 rfl (by decide) rfl rfl hl.1 (Nat.le_of_ble_eq_true rfl) d_PF_skip_48 ⟨Nat.zero_le _, Nat.zero_le _⟩ (fun H locs hI => ?_)
        refine lv_iconst (v := 1) hx hb d_PF_skip_51 rfl ?_
        exact w_zret S hK hr hlk hI d_PF_skip_52 h
      · replace h := (if_pos hc).symm.trans h
        exact t_PF_skip_23 hC   hI (lv_sub hl [] rfl) h
end
theorem d_Wr_begin_0 : decode cc_Wr_begin 0 = .ok (.aload_n 0, 1) := by decide +kernel
theorem d_Wr_begin_1 : decode cc_Wr_begin 1 = .ok (.iload_n 1, 1) := by decide +kernel
theorem d_Wr_begin_2 : decode cc_Wr_begin 2 = .ok (.putfield 13, 3) := by decide +kernel
theorem d_Wr_begin_5 : decode cc_Wr_begin 5 = .ok (.aload_n 0, 1) := by decide +kernel
theorem d_Wr_begin_6 : decode cc_Wr_begin 6 = .ok (.aload_n 0, 1) := by decide +kernel
theorem d_Wr_begin_7 : decode cc_Wr_begin 7 = .ok (.getfield 7, 3) := by decide +kernel
theorem d_Wr_begin_10 : decode cc_Wr_begin 10 = .ok (.getfield 17, 3) := by decide +kernel
theorem d_Wr_begin_13 : decode cc_Wr_begin 13 = .ok (.putfield 22, 3) := by decide +kernel
theorem d_Wr_begin_16 : decode cc_Wr_begin 16 = .ok (.aload_n 0, 1) := by decide +kernel
theorem d_Wr_begin_17 : decode cc_Wr_begin 17 = .ok (.iconst 1, 1) := by decide +kernel
theorem d_Wr_begin_18 : decode cc_Wr_begin 18 = .ok (.putfield 25, 3) := by decide +kernel
theorem d_Wr_begin_21 : decode cc_Wr_begin 21 = .ok (.aload_n 0, 1) := by decide +kernel
theorem d_Wr_begin_22 : decode cc_Wr_begin 22 = .ok (.iconst 0, 1) := by decide +kernel
theorem d_Wr_begin_23 : decode cc_Wr_begin 23 = .ok (.putfield 29, 3) := by decide +kernel
theorem d_Wr_begin_26 : decode cc_Wr_begin 26 = .ok (.return_, 1) := by decide +kernel
section
variable {p : Program} {l : Launch} {e : Env} {s : State} {m : MethodId} {args : Array Value} {below : List Frame} {meth : Method} {c : Code} {X : Xs} {L : La}
def f_Wr_begin (L : La) (i0 : Nat) (x1 : Int32) (F : Mem) : Option Mem :=
  lt' (u2 F i0 1 x1) fun F1 =>
  lt' (u2 F1 i0 2 (F1 (mRf L i0 0) 1)) fun F4 =>
  if ¬ ((1 : Int32) = 0 ∨ (1 : Int32) = 1) then none else
  lt' (u2 F4 i0 3 (1 : Int32)) fun F6 =>
  lt' (u2 F6 i0 5 (0 : Int32)) fun F9 =>
  some F9
set_option maxHeartbeats 4000000 in
theorem c_Wr_begin (l : Launch) {X : Xs} {L : La} (hW : WT L) {out : Mem} {i0 : Nat} {x1 : Int32} {F : Mem} (o0 : oO L 7 i0) (h : f_Wr_begin L i0 x1 F = some out) : Met l y_Wr_begin w_Wr_begin r_Wr_begin (va_Pc [.ref (mAd X i0), .int x1] (Pr X L F)) (QV X L out) 0 0 (AA X L) := by
  refine mk_met (by decide) rfl (Nat.le_of_ble_eq_true rfl) hW ?_
  intro p e s m args below meth c ls hC hI hl
  have hl : lv_has ls 2 [(0, .ref (mAd X i0)), (1, .int x1)] := hl
  generalize hHe : s.heap = H at hI ⊢
  generalize ([] : List Loc) = locs at hI ⊢
  unfold f_Wr_begin at h
  obtain ⟨S, hK, hT, hW, hr, hlk⟩ := id hC
  have hx := S.1
  have hb := S.2.1
  refine lv_aload_n hx hb d_Wr_begin_0 rfl (lv_at hl 0 rfl) ?_
  refine lv_iload_n hx hb d_Wr_begin_1 rfl (lv_at hl 1 rfl) ?_
  refine w_putI (T := T_Wr) S hK hI o0 rfl hin_Wr ty_Wr tk_Wr nm_Wr 1 (index := 13) (by decide) lf_Wr_13 rfl d_Wr_begin_2 (fun H locs F1 e2 hI => ?_)
  replace h := un_lt h _ e2
  refine lv_aload_n hx hb d_Wr_begin_5 rfl (lv_at hl 0 rfl) ?_
  refine lv_aload_n hx hb d_Wr_begin_6 rfl (lv_at hl 0 rfl) ?_
  have p3 := wt_o hW o0 0 1 rfl (by decide) (by decide) (by decide)
  refine w_getR (T := T_Wr) S hK hI o0 rfl hin_Wr 0 (index := 7) (by decide) lf_Wr_7 d_Wr_begin_7 ?_
  refine w_getI (T := T_Row) S hK hI p3 rfl hin_Row 1 (index := 17) (by decide) lf_Wr_17 d_Wr_begin_10 ?_
  refine w_putI (T := T_Wr) S hK hI o0 rfl hin_Wr ty_Wr tk_Wr nm_Wr 2 (index := 22) (by decide) lf_Wr_22 rfl d_Wr_begin_13 (fun H locs F4 e5 hI => ?_)
  replace h := un_lt h _ e5
  refine lv_aload_n hx hb d_Wr_begin_16 rfl (lv_at hl 0 rfl) ?_
  refine lv_iconst (v := 1) hx hb d_Wr_begin_17 rfl ?_
  obtain ⟨z8, h⟩ := un_if h
  refine w_putZ (T := T_Wr) S hK hI o0 rfl hin_Wr ty_Wr tk_Wr nm_Wr 3 (index := 25) (by decide) lf_Wr_25 rfl z8 d_Wr_begin_18 (fun H locs F6 e7 hI => ?_)
  replace h := un_lt h _ e7
  refine lv_aload_n hx hb d_Wr_begin_21 rfl (lv_at hl 0 rfl) ?_
  refine lv_iconst (v := 0) hx hb d_Wr_begin_22 rfl ?_
  refine w_putI (T := T_Wr) S hK hI o0 rfl hin_Wr ty_Wr tk_Wr nm_Wr 5 (index := 29) (by decide) lf_Wr_29 rfl d_Wr_begin_23 (fun H locs F9 e10 hI => ?_)
  replace h := un_lt h _ e10
  exact w_vret S hK hr hlk hI d_Wr_begin_26 h
end
theorem d_Wr_takeByte_0 : decode cc_Wr_takeByte 0 = .ok (.aload_n 0, 1) := by decide +kernel
theorem d_Wr_takeByte_1 : decode cc_Wr_takeByte 1 = .ok (.getfield 13, 3) := by decide +kernel
theorem d_Wr_takeByte_4 : decode cc_Wr_takeByte 4 = .ok (.aload_n 0, 1) := by decide +kernel
theorem d_Wr_takeByte_5 : decode cc_Wr_takeByte 5 = .ok (.getfield 22, 3) := by decide +kernel
theorem d_Wr_takeByte_8 : decode cc_Wr_takeByte 8 = .ok (.if_icmp .lt (10), 3) := by decide +kernel
theorem d_Wr_takeByte_11 : decode cc_Wr_takeByte 11 = .ok (.aload_n 0, 1) := by decide +kernel
theorem d_Wr_takeByte_12 : decode cc_Wr_takeByte 12 = .ok (.iconst 0, 1) := by decide +kernel
theorem d_Wr_takeByte_13 : decode cc_Wr_takeByte 13 = .ok (.putfield 25, 3) := by decide +kernel
theorem d_Wr_takeByte_16 : decode cc_Wr_takeByte 16 = .ok (.iconst 0, 1) := by decide +kernel
theorem d_Wr_takeByte_17 : decode cc_Wr_takeByte 17 = .ok (.ireturn, 1) := by decide +kernel
theorem d_Wr_takeByte_18 : decode cc_Wr_takeByte 18 = .ok (.aload_n 0, 1) := by decide +kernel
theorem d_Wr_takeByte_19 : decode cc_Wr_takeByte 19 = .ok (.dup, 1) := by decide +kernel
theorem d_Wr_takeByte_20 : decode cc_Wr_takeByte 20 = .ok (.getfield 13, 3) := by decide +kernel
theorem d_Wr_takeByte_23 : decode cc_Wr_takeByte 23 = .ok (.iconst 1, 1) := by decide +kernel
theorem d_Wr_takeByte_24 : decode cc_Wr_takeByte 24 = .ok (.iadd, 1) := by decide +kernel
theorem d_Wr_takeByte_25 : decode cc_Wr_takeByte 25 = .ok (.putfield 13, 3) := by decide +kernel
theorem d_Wr_takeByte_28 : decode cc_Wr_takeByte 28 = .ok (.aload_n 0, 1) := by decide +kernel
theorem d_Wr_takeByte_29 : decode cc_Wr_takeByte 29 = .ok (.getfield 7, 3) := by decide +kernel
theorem d_Wr_takeByte_32 : decode cc_Wr_takeByte 32 = .ok (.getfield 32, 3) := by decide +kernel
theorem d_Wr_takeByte_35 : decode cc_Wr_takeByte 35 = .ok (.aload_n 0, 1) := by decide +kernel
theorem d_Wr_takeByte_36 : decode cc_Wr_takeByte 36 = .ok (.getfield 13, 3) := by decide +kernel
theorem d_Wr_takeByte_39 : decode cc_Wr_takeByte 39 = .ok (.iconst 1, 1) := by decide +kernel
theorem d_Wr_takeByte_40 : decode cc_Wr_takeByte 40 = .ok (.isub, 1) := by decide +kernel
theorem d_Wr_takeByte_41 : decode cc_Wr_takeByte 41 = .ok (.iaload, 1) := by decide +kernel
theorem d_Wr_takeByte_42 : decode cc_Wr_takeByte 42 = .ok (.ireturn, 1) := by decide +kernel
section
variable {p : Program} {l : Launch} {e : Env} {s : State} {m : MethodId} {args : Array Value} {below : List Frame} {meth : Method} {c : Code} {X : Xs} {L : La}
def f_Wr_takeByte (L : La) (i0 : Nat) (F : Mem) : Option (Int32 × Mem) :=
  if (F i0 1) < (F i0 2) then
    lt' (u2 F i0 1 ((F i0 1) + (1 : Int32))) fun F1 =>
    if inb ((F1 i0 1) - (1 : Int32)) (mGl L (mRf L (mRf L i0 0) 0)) then none else
    some (mGa L F1 (mRf L (mRf L i0 0) 0) ((F1 i0 1) - (1 : Int32)).toNatClampNeg, F1)
  else
    if ¬ ((0 : Int32) = 0 ∨ (0 : Int32) = 1) then none else
    lt' (u2 F i0 3 (0 : Int32)) fun F6 =>
    some ((0 : Int32), F6)
set_option maxHeartbeats 4000000 in
theorem c_Wr_takeByte (l : Launch) {X : Xs} {L : La} (hW : WT L) {out : (Int32 × Mem)} {i0 : Nat} {F : Mem} (o0 : oO L 7 i0) (h : f_Wr_takeByte L i0 F = some out) : Met l y_Wr_takeByte w_Wr_takeByte r_Wr_takeByte (va_Pc [.ref (mAd X i0)] (Pr X L F)) (QI X L out) 0 0 (AA X L) := by
  refine mk_met (by decide) rfl (Nat.le_of_ble_eq_true rfl) hW ?_
  intro p e s m args below meth c ls hC hI hl
  have hl : lv_has ls 1 [(0, .ref (mAd X i0))] := hl
  generalize hHe : s.heap = H at hI ⊢
  generalize ([] : List Loc) = locs at hI ⊢
  unfold f_Wr_takeByte at h
  obtain ⟨S, hK, hT, hW, hr, hlk⟩ := id hC
  have hx := S.1
  have hb := S.2.1
  refine lv_aload_n hx hb d_Wr_takeByte_0 rfl (lv_at hl 0 rfl) ?_
  refine w_getI (T := T_Wr) S hK hI o0 rfl hin_Wr 1 (index := 13) (by decide) lf_Wr_13 d_Wr_takeByte_1 ?_
  refine lv_aload_n hx hb d_Wr_takeByte_4 rfl (lv_at hl 0 rfl) ?_
  refine w_getI (T := T_Wr) S hK hI o0 rfl hin_Wr 2 (index := 22) (by decide) lf_Wr_22 d_Wr_takeByte_5 ?_
  refine lv_icmp_lt (tgt := 18) hx hb d_Wr_takeByte_8 rfl (fun hc => ?_) (fun hc => ?_)
  · replace h := (if_pos hc).symm.trans h
    refine lv_aload_n hx hb d_Wr_takeByte_18 rfl (lv_at hl 0 rfl) ?_
    refine lv_dup hx hb d_Wr_takeByte_19 rfl ?_
    refine w_getI (T := T_Wr) S hK hI o0 rfl hin_Wr 1 (index := 13) (by decide) lf_Wr_13 d_Wr_takeByte_20 ?_
    refine lv_iconst (v := 1) hx hb d_Wr_takeByte_23 rfl ?_
    refine lv_iadd hx hb d_Wr_takeByte_24 ?_
    refine w_putI (T := T_Wr) S hK hI o0 rfl hin_Wr ty_Wr tk_Wr nm_Wr 1 (index := 13) (by decide) lf_Wr_13 rfl d_Wr_takeByte_25 (fun H locs F1 e2 hI => ?_)
    replace h := un_lt h _ e2
    refine lv_aload_n hx hb d_Wr_takeByte_28 rfl (lv_at hl 0 rfl) ?_
    have p3 := wt_o hW o0 0 1 rfl (by decide) (by decide) (by decide)
    refine w_getR (T := T_Wr) S hK hI o0 rfl hin_Wr 0 (index := 7) (by decide) lf_Wr_7 d_Wr_takeByte_29 ?_
    have p4 := wt_a hW p3 0 rfl (by decide) (by decide)
    refine w_getR (T := T_Row) S hK hI p3 rfl hin_Row 0 (index := 32) (by decide) lf_Wr_32 d_Wr_takeByte_32 ?_
    refine lv_aload_n hx hb d_Wr_takeByte_35 rfl (lv_at hl 0 rfl) ?_
    refine w_getI (T := T_Wr) S hK hI o0 rfl hin_Wr 1 (index := 13) (by decide) lf_Wr_13 d_Wr_takeByte_36 ?_
    refine lv_iconst (v := 1) hx hb d_Wr_takeByte_39 rfl ?_
    refine lv_isub hx hb d_Wr_takeByte_40 ?_
    obtain ⟨z5, h⟩ := un_if h
    refine w_iald S hK hI hT p4 z5 d_Wr_takeByte_41 ?_
    exact w_iret S hK hr hlk hI d_Wr_takeByte_42 h
  · replace h := (if_neg hc).symm.trans h
    refine lv_aload_n hx hb d_Wr_takeByte_11 rfl (lv_at hl 0 rfl) ?_
    refine lv_iconst (v := 0) hx hb d_Wr_takeByte_12 rfl ?_
    obtain ⟨z8, h⟩ := un_if h
    refine w_putZ (T := T_Wr) S hK hI o0 rfl hin_Wr ty_Wr tk_Wr nm_Wr 3 (index := 25) (by decide) lf_Wr_25 rfl z8 d_Wr_takeByte_13 (fun H locs F6 e7 hI => ?_)
    replace h := un_lt h _ e7
    refine lv_iconst (v := 0) hx hb d_Wr_takeByte_16 rfl ?_
    exact w_iret S hK hr hlk hI d_Wr_takeByte_17 h
end
theorem d_Wr_takePair_0 : decode cc_Wr_takePair 0 = .ok (.aload_n 0, 1) := by decide +kernel
theorem d_Wr_takePair_1 : decode cc_Wr_takePair 1 = .ok (.invokevirtual 36, 3) := by decide +kernel
theorem d_Wr_takePair_4 : decode cc_Wr_takePair 4 = .ok (.istore_n 1, 1) := by decide +kernel
theorem d_Wr_takePair_5 : decode cc_Wr_takePair 5 = .ok (.iload_n 1, 1) := by decide +kernel
theorem d_Wr_takePair_6 : decode cc_Wr_takePair 6 = .ok (.sipush (256), 3) := by decide +kernel
theorem d_Wr_takePair_9 : decode cc_Wr_takePair 9 = .ok (.aload_n 0, 1) := by decide +kernel
theorem d_Wr_takePair_10 : decode cc_Wr_takePair 10 = .ok (.invokevirtual 36, 3) := by decide +kernel
theorem d_Wr_takePair_13 : decode cc_Wr_takePair 13 = .ok (.imul, 1) := by decide +kernel
theorem d_Wr_takePair_14 : decode cc_Wr_takePair 14 = .ok (.iadd, 1) := by decide +kernel
theorem d_Wr_takePair_15 : decode cc_Wr_takePair 15 = .ok (.ireturn, 1) := by decide +kernel
section
variable {p : Program} {l : Launch} {e : Env} {s : State} {m : MethodId} {args : Array Value} {below : List Frame} {meth : Method} {c : Code} {X : Xs} {L : La}
def f_Wr_takePair (L : La) (i0 : Nat) (F : Mem) : Option (Int32 × Mem) :=
  (f_Wr_takeByte L i0 F).bind fun q1 =>
  (f_Wr_takeByte L i0 q1.2).bind fun q3 =>
  some (q1.1 + ((256 : Int32) * q3.1), q3.2)
set_option maxHeartbeats 4000000 in
theorem c_Wr_takePair (l : Launch) {X : Xs} {L : La} (hW : WT L) {out : (Int32 × Mem)} {i0 : Nat} {F : Mem} (o0 : oO L 7 i0) (h : f_Wr_takePair L i0 F = some out) : Met l y_Wr_takePair w_Wr_takePair r_Wr_takePair (va_Pc [.ref (mAd X i0)] (Pr X L F)) (QI X L out) 0 0 (AA X L) := by
  refine mk_met (by decide) rfl (Nat.le_of_ble_eq_true rfl) hW ?_
  intro p e s m args below meth c ls hC hI hl
  have hl : lv_has ls 2 [(0, .ref (mAd X i0))] := hl
  generalize hHe : s.heap = H at hI ⊢
  generalize ([] : List Loc) = locs at hI ⊢
  unfold f_Wr_takePair at h
  obtain ⟨S, hK, hT, hW, hr, hlk⟩ := id hC
  have hx := S.1
  have hb := S.2.1
  refine lv_aload_n hx hb d_Wr_takePair_0 rfl (lv_at hl 0 rfl) ?_
  obtain ⟨q1, e2, h⟩ := un_bi h
  refine w_callVi (As := []) (rest := []) S hK hI hT (c_Wr_takeByte l hW o0 e2) (cwV 0 S.2.2.2.2 (gd_V lc_Wr_takeByte lm_Wr_36 li_Wr_takeByte ls_Wr_takeByte ln_Wr) rfl rfl rfl hd_Wr_takeByte ⟨Nat.le_of_ble_eq_true rfl, Nat.le_of_ble_eq_true rfl⟩) o0 rfl (by decide) rfl rfl hl.1 (Nat.le_of_ble_eq_true rfl) d_Wr_takePair_1 ⟨Nat.zero_le _, Nat.zero_le _⟩ (fun H locs hI => ?_)
  refine lv_istore_n (lv' := [(1, .int q1.1), (0, .ref (mAd X i0))]) hx hb d_Wr_takePair_4 rfl hl (by decide) rfl (fun ls hl => ?_)
  refine lv_iload_n hx hb d_Wr_takePair_5 rfl (lv_at hl 0 rfl) ?_
  refine lv_sipush (v := 256) hx hb d_Wr_takePair_6 (by decide) ?_
  refine lv_aload_n hx hb d_Wr_takePair_9 rfl (lv_at hl 1 rfl) ?_
  obtain ⟨q3, e4, h⟩ := un_bi h
  refine w_callVi (As := []) (rest := [.int (256 : Int32), .int q1.1]) S hK hI hT (c_Wr_takeByte l hW o0 e4) (cwV 0 S.2.2.2.2 (gd_V lc_Wr_takeByte lm_Wr_36 li_Wr_takeByte ls_Wr_takeByte ln_Wr) rfl rfl rfl hd_Wr_takeByte ⟨Nat.le_of_ble_eq_true rfl, Nat.le_of_ble_eq_true rfl⟩) o0 rfl (by decide) rfl rfl hl.1 (Nat.le_of_ble_eq_true rfl) d_Wr_takePair_10 ⟨Nat.zero_le _, Nat.zero_le _⟩ (fun H locs hI => ?_)
  refine lv_imul hx hb d_Wr_takePair_13 ?_
  refine lv_iadd hx hb d_Wr_takePair_14 ?_
  exact w_iret S hK hr hlk hI d_Wr_takePair_15 h
end
