theorem d_Arr_fill_0 : decode cc_Arr_fill 0 = .ok (.iconst 0, 1) := by decide +kernel
theorem d_Arr_fill_1 : decode cc_Arr_fill 1 = .ok (.istore_n 2, 1) := by decide +kernel
theorem d_Arr_fill_2 : decode cc_Arr_fill 2 = .ok (.aload_n 0, 1) := by decide +kernel
theorem d_Arr_fill_3 : decode cc_Arr_fill 3 = .ok (.arraylength, 1) := by decide +kernel
theorem d_Arr_fill_4 : decode cc_Arr_fill 4 = .ok (.istore_n 3, 1) := by decide +kernel
theorem d_Arr_fill_5 : decode cc_Arr_fill 5 = .ok (.iload_n 2, 1) := by decide +kernel
theorem d_Arr_fill_6 : decode cc_Arr_fill 6 = .ok (.iload_n 3, 1) := by decide +kernel
theorem d_Arr_fill_7 : decode cc_Arr_fill 7 = .ok (.if_icmp .ge (13), 3) := by decide +kernel
theorem d_Arr_fill_10 : decode cc_Arr_fill 10 = .ok (.aload_n 0, 1) := by decide +kernel
theorem d_Arr_fill_11 : decode cc_Arr_fill 11 = .ok (.iload_n 2, 1) := by decide +kernel
theorem d_Arr_fill_12 : decode cc_Arr_fill 12 = .ok (.iload_n 1, 1) := by decide +kernel
theorem d_Arr_fill_13 : decode cc_Arr_fill 13 = .ok (.iastore, 1) := by decide +kernel
theorem d_Arr_fill_14 : decode cc_Arr_fill 14 = .ok (.iinc 2 (1), 3) := by decide +kernel
theorem d_Arr_fill_17 : decode cc_Arr_fill 17 = .ok (.goto (-12), 3) := by decide +kernel
theorem d_Arr_fill_20 : decode cc_Arr_fill 20 = .ok (.return_, 1) := by decide +kernel
section
variable {p : Program} {l : Launch} {e : Env} {s : State} {m : MethodId} {args : Array Value} {below : List Frame} {meth : Method} {c : Code} {X : Xs} {L : La}
def b_Arr_fill_5 (L : La) (k5 : Nat → Int32 → Int32 → Int32 → Mem → Option Mem) (i0 : Nat) (x1 : Int32) (x2 : Int32) (x3 : Int32) (F : Mem) : Option Mem :=
  if x3 ≤ x2 then
    some F
  else
    if inb x2 (mLn L i0) ∨ ¬ i0 < mNc L then none else
    lt' (u2 F i0 x2.toNatClampNeg x1) fun F2 =>
    k5 i0 x1 (x2 + (1 : Int32)) x3 F2
set_option maxHeartbeats 4000000 in
theorem t_Arr_fill_5 (hC : Cx X L p s m args meth c cc_Arr_fill 4 w_Arr_fill R_Arr none) {k5 : Nat → Int32 → Int32 → Int32 → Mem → Option Mem} {out : Mem} (hk5 : ∀ (i0 : Nat) (x1 : Int32) (x2 : Int32) (x3 : Int32) (F : Mem) (H : Heap) (locs : List Loc) (ls : Array Slot), oA L i0 → Iv X L s H locs F → lv_has ls 4 [(0, .ref (mAd X i0)), (1, .int x1), (2, .int x2), (3, .int x3)] → k5 i0 x1 x2 x3 F = some out → W p l e (headSpec w_Arr_fill r_Arr_fill).room s m args below meth c H locs 0 0 (MQ below (QV X L out) args s 0 0 (AA X L)) (F0 m 5 ls [])) {i0 : Nat} {x1 : Int32} {x2 : Int32} {x3 : Int32} {F : Mem} {H : Heap} {locs : List Loc} {ls : Array Slot} (o0 : oA L i0) (hI : Iv X L s H locs F) (hl : lv_has ls 4 [(0, .ref (mAd X i0)), (1, .int x1), (2, .int x2), (3, .int x3)]) (h : b_Arr_fill_5 L k5 i0 x1 x2 x3 F = some out) : W p l e (headSpec w_Arr_fill r_Arr_fill).room s m args below meth c H locs 0 0 (MQ below (QV X L out) args s 0 0 (AA X L)) (F0 m 5 ls []) := by
  unfold b_Arr_fill_5 at h
  obtain ⟨S, hK, hT, hW, hr, hlk⟩ := id hC
  have hx := S.1
  have hb := S.2.1
  refine lv_iload_n hx hb d_Arr_fill_5 rfl (lv_at hl 2 rfl) ?_
  refine lv_iload_n hx hb d_Arr_fill_6 rfl (lv_at hl 3 rfl) ?_
  refine lv_icmp_ge (tgt := 20) hx hb d_Arr_fill_7 rfl (fun hc => ?_) (fun hc => ?_)
  · replace h := (if_pos hc).symm.trans h
    exact w_vret S hK hr hlk hI d_Arr_fill_20 h
  · replace h := (if_neg hc).symm.trans h
    refine lv_aload_n hx hb d_Arr_fill_10 rfl (lv_at hl 0 rfl) ?_
    refine lv_iload_n hx hb d_Arr_fill_11 rfl (lv_at hl 2 rfl) ?_
    refine lv_iload_n hx hb d_Arr_fill_12 rfl (lv_at hl 1 rfl) ?_
    obtain ⟨z1, h⟩ := un_if h
    refine w_iast S hK hI o0 z1 d_Arr_fill_13 (fun H locs F2 e3 hI => ?_)
    replace h := un_lt h _ e3
    refine lv_iinc (k := 2) (v := x2 + (1 : Int32)) (lv' := [(2, .int (x2 + (1 : Int32))), (0, .ref (mAd X i0)), (1, .int x1), (3, .int x3)]) hx hb d_Arr_fill_14 hl rfl rfl (by decide) rfl (fun ls hl => ?_)
    refine lv_goto (tgt := 5) hx hb d_Arr_fill_17 rfl ?_
    exact hk5 _ _ _ _ _ _ _ _ o0 hI (lv_sub hl [1, 2, 0, 3] rfl) h
def f_Arr_fill_5 (L : La)  : Nat → Nat → Int32 → Int32 → Int32 → Mem → Option Mem
  | 0 => fun _ _ _ _ _ => none
  | n + 1 => b_Arr_fill_5 L (f_Arr_fill_5 L  n)
theorem tf_Arr_fill_5 (hC : Cx X L p s m args meth c cc_Arr_fill 4 w_Arr_fill R_Arr none)  {out : Mem}  (n : Nat) : ∀ (i0 : Nat) (x1 : Int32) (x2 : Int32) (x3 : Int32) (F : Mem) (H : Heap) (locs : List Loc) (ls : Array Slot), oA L i0 → Iv X L s H locs F → lv_has ls 4 [(0, .ref (mAd X i0)), (1, .int x1), (2, .int x2), (3, .int x3)] → f_Arr_fill_5 L  n i0 x1 x2 x3 F = some out → W p l e (headSpec w_Arr_fill r_Arr_fill).room s m args below meth c H locs 0 0 (MQ below (QV X L out) args s 0 0 (AA X L)) (F0 m 5 ls []) := by
  induction n with
  | zero => intro i0 x1 x2 x3 F H locs ls o0 hI hl h; cases h
  | succ n ih => intro i0 x1 x2 x3 F H locs ls o0 hI hl h; exact t_Arr_fill_5 hC ih o0 hI hl h
def f_Arr_fill (L : La) (i0 : Nat) (x1 : Int32) (F : Mem) : Option Mem :=
  f_Arr_fill_5 L  mFU i0 x1 (0 : Int32) (nI (mGl L i0)) F
set_option maxHeartbeats 4000000 in
theorem c_Arr_fill (l : Launch) {X : Xs} {L : La} (hW : WT L) {out : Mem} {i0 : Nat} {x1 : Int32} {F : Mem} (o0 : oA L i0) (h : f_Arr_fill L i0 x1 F = some out) : Met l y_Arr_fill w_Arr_fill r_Arr_fill (va_Pc [.ref (mAd X i0), .int x1] (Pr X L F)) (QV X L out) 0 0 (AA X L) := by
  refine mk_met (by decide) rfl (Nat.le_of_ble_eq_true rfl) hW ?_
  intro p e s m args below meth c ls hC hI hl
  have hl : lv_has ls 4 [(0, .ref (mAd X i0)), (1, .int x1)] := hl
  generalize hHe : s.heap = H at hI ⊢
  generalize ([] : List Loc) = locs at hI ⊢
  unfold f_Arr_fill at h
  obtain ⟨S, hK, hT, hW, hr, hlk⟩ := id hC
  have hx := S.1
  have hb := S.2.1
  refine lv_iconst (v := 0) hx hb d_Arr_fill_0 rfl ?_
  refine lv_istore_n (lv' := [(2, .int (0 : Int32)), (0, .ref (mAd X i0)), (1, .int x1)]) hx hb d_Arr_fill_1 rfl hl (by decide) rfl (fun ls hl => ?_)
  refine lv_aload_n hx hb d_Arr_fill_2 rfl (lv_at hl 1 rfl) ?_
  refine w_alen S hK hI hT o0 d_Arr_fill_3 ?_
  refine lv_istore_n (lv' := [(3, .int (nI (mGl L i0))), (2, .int (0 : Int32)), (0, .ref (mAd X i0)), (1, .int x1)]) hx hb d_Arr_fill_4 rfl hl (by decide) rfl (fun ls hl => ?_)
  exact tf_Arr_fill_5 hC  mFU _ _ _ _ _ _ _ _ o0 hI (lv_sub hl [2, 3, 1, 0] rfl) h
end
theorem d_Jo_countBytes_0 : decode cc_Jo_countBytes 0 = .ok (.aload_n 0, 1) := by decide +kernel
theorem d_Jo_countBytes_1 : decode cc_Jo_countBytes 1 = .ok (.getfield 11, 3) := by decide +kernel
theorem d_Jo_countBytes_4 : decode cc_Jo_countBytes 4 = .ok (.iconst 0, 1) := by decide +kernel
theorem d_Jo_countBytes_5 : decode cc_Jo_countBytes 5 = .ok (.invokestatic 21, 3) := by decide +kernel
theorem d_Jo_countBytes_8 : decode cc_Jo_countBytes 8 = .ok (.iconst 0, 1) := by decide +kernel
theorem d_Jo_countBytes_9 : decode cc_Jo_countBytes 9 = .ok (.istore_n 3, 1) := by decide +kernel
theorem d_Jo_countBytes_10 : decode cc_Jo_countBytes 10 = .ok (.iload_n 3, 1) := by decide +kernel
theorem d_Jo_countBytes_11 : decode cc_Jo_countBytes 11 = .ok (.aload_n 1, 1) := by decide +kernel
theorem d_Jo_countBytes_12 : decode cc_Jo_countBytes 12 = .ok (.getfield 27, 3) := by decide +kernel
theorem d_Jo_countBytes_15 : decode cc_Jo_countBytes 15 = .ok (.if_icmp .ge (42), 3) := by decide +kernel
theorem d_Jo_countBytes_18 : decode cc_Jo_countBytes 18 = .ok (.aload_n 1, 1) := by decide +kernel
theorem d_Jo_countBytes_19 : decode cc_Jo_countBytes 19 = .ok (.getfield 33, 3) := by decide +kernel
theorem d_Jo_countBytes_22 : decode cc_Jo_countBytes 22 = .ok (.iload_n 3, 1) := by decide +kernel
theorem d_Jo_countBytes_23 : decode cc_Jo_countBytes 23 = .ok (.iaload, 1) := by decide +kernel
theorem d_Jo_countBytes_24 : decode cc_Jo_countBytes 24 = .ok (.iload_n 2, 1) := by decide +kernel
theorem d_Jo_countBytes_25 : decode cc_Jo_countBytes 25 = .ok (.isub, 1) := by decide +kernel
theorem d_Jo_countBytes_26 : decode cc_Jo_countBytes 26 = .ok (.istore 4, 2) := by decide +kernel
theorem d_Jo_countBytes_28 : decode cc_Jo_countBytes 28 = .ok (.iload 4, 2) := by decide +kernel
theorem d_Jo_countBytes_30 : decode cc_Jo_countBytes 30 = .ok (.ifCond .lt (21), 3) := by decide +kernel
theorem d_Jo_countBytes_33 : decode cc_Jo_countBytes 33 = .ok (.iload 4, 2) := by decide +kernel
theorem d_Jo_countBytes_35 : decode cc_Jo_countBytes 35 = .ok (.bipush (17), 2) := by decide +kernel
theorem d_Jo_countBytes_37 : decode cc_Jo_countBytes 37 = .ok (.if_icmp .ge (14), 3) := by decide +kernel
theorem d_Jo_countBytes_40 : decode cc_Jo_countBytes 40 = .ok (.aload_n 0, 1) := by decide +kernel
theorem d_Jo_countBytes_41 : decode cc_Jo_countBytes 41 = .ok (.getfield 11, 3) := by decide +kernel
theorem d_Jo_countBytes_44 : decode cc_Jo_countBytes 44 = .ok (.iload 4, 2) := by decide +kernel
theorem d_Jo_countBytes_46 : decode cc_Jo_countBytes 46 = .ok (.dup2, 1) := by decide +kernel
theorem d_Jo_countBytes_47 : decode cc_Jo_countBytes 47 = .ok (.iaload, 1) := by decide +kernel
theorem d_Jo_countBytes_48 : decode cc_Jo_countBytes 48 = .ok (.iconst 1, 1) := by decide +kernel
theorem d_Jo_countBytes_49 : decode cc_Jo_countBytes 49 = .ok (.iadd, 1) := by decide +kernel
theorem d_Jo_countBytes_50 : decode cc_Jo_countBytes 50 = .ok (.iastore, 1) := by decide +kernel
theorem d_Jo_countBytes_51 : decode cc_Jo_countBytes 51 = .ok (.iinc 3 (1), 3) := by decide +kernel
theorem d_Jo_countBytes_54 : decode cc_Jo_countBytes 54 = .ok (.goto (-44), 3) := by decide +kernel
theorem d_Jo_countBytes_57 : decode cc_Jo_countBytes 57 = .ok (.return_, 1) := by decide +kernel
section
variable {p : Program} {l : Launch} {e : Env} {s : State} {m : MethodId} {args : Array Value} {below : List Frame} {meth : Method} {c : Code} {X : Xs} {L : La}
def b_Jo_countBytes_51 (L : La) (k10 : Nat → Nat → Int32 → Int32 → Mem → Option Mem) (i0 : Nat) (i1 : Nat) (x2 : Int32) (x3 : Int32) (F : Mem) : Option Mem :=
  k10 i0 i1 x2 (x3 + (1 : Int32)) F
set_option maxHeartbeats 4000000 in
theorem t_Jo_countBytes_51 (hC : Cx X L p s m args meth c cc_Jo_countBytes 5 w_Jo_countBytes R_Jo none) {k10 : Nat → Nat → Int32 → Int32 → Mem → Option Mem} {out : Mem} (hk10 : ∀ (i0 : Nat) (i1 : Nat) (x2 : Int32) (x3 : Int32) (F : Mem) (H : Heap) (locs : List Loc) (ls : Array Slot), oO L 4 i0 → oO L 1 i1 → Iv X L s H locs F → lv_has ls 5 [(0, .ref (mAd X i0)), (1, .ref (mAd X i1)), (2, .int x2), (3, .int x3)] → k10 i0 i1 x2 x3 F = some out → W p l e (headSpec w_Jo_countBytes r_Jo_countBytes).room s m args below meth c H locs 0 0 (MQ below (QV X L out) args s 0 0 (AA X L)) (F0 m 10 ls [])) {i0 : Nat} {i1 : Nat} {x2 : Int32} {x3 : Int32} {F : Mem} {H : Heap} {locs : List Loc} {ls : Array Slot} (o0 : oO L 4 i0) (o1 : oO L 1 i1) (hI : Iv X L s H locs F) (hl : lv_has ls 5 [(0, .ref (mAd X i0)), (1, .ref (mAd X i1)), (2, .int x2), (3, .int x3)]) (h : b_Jo_countBytes_51 L k10 i0 i1 x2 x3 F = some out) : W p l e (headSpec w_Jo_countBytes r_Jo_countBytes).room s m args below meth c H locs 0 0 (MQ below (QV X L out) args s 0 0 (AA X L)) (F0 m 51 ls []) := by
  unfold b_Jo_countBytes_51 at h
  obtain ⟨S, hK, hT, hW, hr, hlk⟩ := id hC
  have hx := S.1
  have hb := S.2.1
  refine lv_iinc (k := 3) (v := x3 + (1 : Int32)) (lv' := [(3, .int (x3 + (1 : Int32))), (0, .ref (mAd X i0)), (1, .ref (mAd X i1)), (2, .int x2)]) hx hb d_Jo_countBytes_51 hl rfl rfl (by decide) rfl (fun ls hl => ?_)
  refine lv_goto (tgt := 10) hx hb d_Jo_countBytes_54 rfl ?_
  exact hk10 _ _ _ _ _ _ _ _ o0 o1 hI (lv_sub hl [1, 2, 3, 0] rfl) h
def b_Jo_countBytes_10 (L : La) (k10 : Nat → Nat → Int32 → Int32 → Mem → Option Mem) (i0 : Nat) (i1 : Nat) (x2 : Int32) (x3 : Int32) (F : Mem) : Option Mem :=
  if (F i1 1) ≤ x3 then
    some F
  else
    if inb x3 (mGl L (mRf L i1 0)) then none else
    if ((mGa L F (mRf L i1 0) x3.toNatClampNeg) - x2) < 0 then
      b_Jo_countBytes_51 L k10 i0 i1 x2 x3 F
    else
      if (17 : Int32) ≤ ((mGa L F (mRf L i1 0) x3.toNatClampNeg) - x2) then
        b_Jo_countBytes_51 L k10 i0 i1 x2 x3 F
      else
        if inb ((mGa L F (mRf L i1 0) x3.toNatClampNeg) - x2) (mGl L (mRf L i0 0)) then none else
        if inb ((mGa L F (mRf L i1 0) x3.toNatClampNeg) - x2) (mLn L (mRf L i0 0)) ∨ ¬ (mRf L i0 0) < mNc L then none else
        lt' (u2 F (mRf L i0 0) ((mGa L F (mRf L i1 0) x3.toNatClampNeg) - x2).toNatClampNeg ((mGa L F (mRf L i0 0) ((mGa L F (mRf L i1 0) x3.toNatClampNeg) - x2).toNatClampNeg) + (1 : Int32))) fun F6 =>
        b_Jo_countBytes_51 L k10 i0 i1 x2 x3 F6
set_option maxHeartbeats 4000000 in
theorem t_Jo_countBytes_10 (hC : Cx X L p s m args meth c cc_Jo_countBytes 5 w_Jo_countBytes R_Jo none) {k10 : Nat → Nat → Int32 → Int32 → Mem → Option Mem} {out : Mem} (hk10 : ∀ (i0 : Nat) (i1 : Nat) (x2 : Int32) (x3 : Int32) (F : Mem) (H : Heap) (locs : List Loc) (ls : Array Slot), oO L 4 i0 → oO L 1 i1 → Iv X L s H locs F → lv_has ls 5 [(0, .ref (mAd X i0)), (1, .ref (mAd X i1)), (2, .int x2), (3, .int x3)] → k10 i0 i1 x2 x3 F = some out → W p l e (headSpec w_Jo_countBytes r_Jo_countBytes).room s m args below meth c H locs 0 0 (MQ below (QV X L out) args s 0 0 (AA X L)) (F0 m 10 ls [])) {i0 : Nat} {i1 : Nat} {x2 : Int32} {x3 : Int32} {F : Mem} {H : Heap} {locs : List Loc} {ls : Array Slot} (o0 : oO L 4 i0) (o1 : oO L 1 i1) (hI : Iv X L s H locs F) (hl : lv_has ls 5 [(0, .ref (mAd X i0)), (1, .ref (mAd X i1)), (2, .int x2), (3, .int x3)]) (h : b_Jo_countBytes_10 L k10 i0 i1 x2 x3 F = some out) : W p l e (headSpec w_Jo_countBytes r_Jo_countBytes).room s m args below meth c H locs 0 0 (MQ below (QV X L out) args s 0 0 (AA X L)) (F0 m 10 ls []) := by
  unfold b_Jo_countBytes_10 at h
  obtain ⟨S, hK, hT, hW, hr, hlk⟩ := id hC
  have hx := S.1
  have hb := S.2.1
  refine lv_iload_n hx hb d_Jo_countBytes_10 rfl (lv_at hl 3 rfl) ?_
  refine lv_aload_n hx hb d_Jo_countBytes_11 rfl (lv_at hl 1 rfl) ?_
  refine w_getI (T := T_Row) S hK hI o1 rfl hin_Row 1 (index := 27) (by decide) lf_Jo_27 d_Jo_countBytes_12 ?_
  refine lv_icmp_ge (tgt := 57) hx hb d_Jo_countBytes_15 rfl (fun hc => ?_) (fun hc => ?_)
  · replace h := (if_pos hc).symm.trans h
    exact w_vret S hK hr hlk hI d_Jo_countBytes_57 h
  · replace h := (if_neg hc).symm.trans h
    refine lv_aload_n hx hb d_Jo_countBytes_18 rfl (lv_at hl 1 rfl) ?_
    have p1 := wt_a hW o1 0 rfl (by decide) (by decide)
    refine w_getR (T := T_Row) S hK hI o1 rfl hin_Row 0 (index := 33) (by decide) lf_Jo_33 d_Jo_countBytes_19 ?_
    refine lv_iload_n hx hb d_Jo_countBytes_22 rfl (lv_at hl 3 rfl) ?_
    obtain ⟨z2, h⟩ := un_if h
    refine w_iald S hK hI hT p1 z2 d_Jo_countBytes_23 ?_
    refine lv_iload_n hx hb d_Jo_countBytes_24 rfl (lv_at hl 2 rfl) ?_
    refine lv_isub hx hb d_Jo_countBytes_25 ?_
    refine lv_istore (lv' := [(4, .int ((mGa L F (mRf L i1 0) x3.toNatClampNeg) - x2)), (0, .ref (mAd X i0)), (1, .ref (mAd X i1)), (2, .int x2), (3, .int x3)]) hx hb d_Jo_countBytes_26 hl (by decide) rfl (fun ls hl => ?_)
    refine lv_iload hx hb d_Jo_countBytes_28 (lv_at hl 0 rfl) ?_
    refine lv_if_lt (tgt := 51) hx hb d_Jo_countBytes_30 rfl (fun hc => ?_) (fun hc => ?_)
    · replace h := (if_pos hc).symm.trans h
      exact t_Jo_countBytes_51 hC hk10 o0 o1 hI (lv_sub hl [1, 2, 3, 4] rfl) h
    · replace h := (if_neg hc).symm.trans h
      refine lv_iload hx hb d_Jo_countBytes_33 (lv_at hl 0 rfl) ?_
      refine lv_bipush (v := 17) hx hb d_Jo_countBytes_35 (by decide) ?_
      refine lv_icmp_ge (tgt := 51) hx hb d_Jo_countBytes_37 rfl (fun hc => ?_) (fun hc => ?_)
      · replace h := (if_pos hc).symm.trans h
        exact t_Jo_countBytes_51 hC hk10 o0 o1 hI (lv_sub hl [1, 2, 3, 4] rfl) h
      · replace h := (if_neg hc).symm.trans h
        refine lv_aload_n hx hb d_Jo_countBytes_40 rfl (lv_at hl 1 rfl) ?_
        have p3 := wt_a hW o0 0 rfl (by decide) (by decide)
        refine w_getR (T := T_Jo) S hK hI o0 rfl hin_Jo 0 (index := 11) (by decide) lf_Jo_11 d_Jo_countBytes_41 ?_
        refine lv_iload hx hb d_Jo_countBytes_44 (lv_at hl 0 rfl) ?_
        refine lv_dup2_11 hx hb d_Jo_countBytes_46 rfl rfl ?_
        obtain ⟨z4, h⟩ := un_if h
        refine w_iald S hK hI hT p3 z4 d_Jo_countBytes_47 ?_
        refine lv_iconst (v := 1) hx hb d_Jo_countBytes_48 rfl ?_
        refine lv_iadd hx hb d_Jo_countBytes_49 ?_
        obtain ⟨z5, h⟩ := un_if h
        refine w_iast S hK hI p3 z5 d_Jo_countBytes_50 (fun H locs F6 e7 hI => ?_)
        replace h := un_lt h _ e7
        exact t_Jo_countBytes_51 hC hk10 o0 o1 hI (lv_sub hl [1, 2, 3, 4] rfl) h
def f_Jo_countBytes_10 (L : La)  : Nat → Nat → Nat → Int32 → Int32 → Mem → Option Mem
  | 0 => fun _ _ _ _ _ => none
  | n + 1 => b_Jo_countBytes_10 L (f_Jo_countBytes_10 L  n)
theorem tf_Jo_countBytes_10 (hC : Cx X L p s m args meth c cc_Jo_countBytes 5 w_Jo_countBytes R_Jo none)  {out : Mem}  (n : Nat) : ∀ (i0 : Nat) (i1 : Nat) (x2 : Int32) (x3 : Int32) (F : Mem) (H : Heap) (locs : List Loc) (ls : Array Slot), oO L 4 i0 → oO L 1 i1 → Iv X L s H locs F → lv_has ls 5 [(0, .ref (mAd X i0)), (1, .ref (mAd X i1)), (2, .int x2), (3, .int x3)] → f_Jo_countBytes_10 L  n i0 i1 x2 x3 F = some out → W p l e (headSpec w_Jo_countBytes r_Jo_countBytes).room s m args below meth c H locs 0 0 (MQ below (QV X L out) args s 0 0 (AA X L)) (F0 m 10 ls []) := by
  induction n with
  | zero => intro i0 i1 x2 x3 F H locs ls o0 o1 hI hl h; cases h
  | succ n ih => intro i0 i1 x2 x3 F H locs ls o0 o1 hI hl h; exact t_Jo_countBytes_10 hC ih o0 o1 hI hl h
def f_Jo_countBytes (L : La) (i0 : Nat) (i1 : Nat) (x2 : Int32) (F : Mem) : Option Mem :=
  (f_Arr_fill L (mRf L i0 0) (0 : Int32) F).bind fun F2 =>
  f_Jo_countBytes_10 L  mFU i0 i1 x2 (0 : Int32) F2
set_option maxHeartbeats 4000000 in
theorem c_Jo_countBytes (l : Launch) {X : Xs} {L : La} (hW : WT L) {out : Mem} {i0 : Nat} {i1 : Nat} {x2 : Int32} {F : Mem} (o0 : oO L 4 i0) (o1 : oO L 1 i1) (h : f_Jo_countBytes L i0 i1 x2 F = some out) : Met l y_Jo_countBytes w_Jo_countBytes r_Jo_countBytes (va_Pc [.ref (mAd X i0), .ref (mAd X i1), .int x2] (Pr X L F)) (QV X L out) 0 0 (AA X L) := by
  refine mk_met (by decide) rfl (Nat.le_of_ble_eq_true rfl) hW ?_
  intro p e s m args below meth c ls hC hI hl
  have hl : lv_has ls 5 [(0, .ref (mAd X i0)), (1, .ref (mAd X i1)), (2, .int x2)] := hl
  generalize hHe : s.heap = H at hI ⊢
  generalize ([] : List Loc) = locs at hI ⊢
  unfold f_Jo_countBytes at h
  obtain ⟨S, hK, hT, hW, hr, hlk⟩ := id hC
  have hx := S.1
  have hb := S.2.1
  refine lv_aload_n hx hb d_Jo_countBytes_0 rfl (lv_at hl 0 rfl) ?_
  have p1 := wt_a hW o0 0 rfl (by decide) (by decide)
  refine w_getR (T := T_Jo) S hK hI o0 rfl hin_Jo 0 (index := 11) (by decide) lf_Jo_11 d_Jo_countBytes_1 ?_
  refine lv_iconst (v := 0) hx hb d_Jo_countBytes_4 rfl ?_
  obtain ⟨F2, e3, h⟩ := un_bi h
  refine w_callSv (As := [.ref (mAd X (mRf L i0 0)), .int (0 : Int32)]) (rest := []) S hK hI hT (c_Arr_fill l hW p1 e3) (va_cwS 2 S.2.2.2.2 (gd_S lc_Arr_fill lm_Jo_21 lst_Arr_fill ln_Arr) rfl rfl rfl hd_Arr_fill.2 ⟨Nat.le_of_ble_eq_true rfl, Nat.le_of_ble_eq_true rfl⟩)  rfl rfl hl.1 (Nat.le_of_ble_eq_true rfl) d_Jo_countBytes_5 ⟨Nat.zero_le _, Nat.zero_le _⟩ (fun H locs hI => ?_)
  refine lv_iconst (v := 0) hx hb d_Jo_countBytes_8 rfl ?_
  refine lv_istore_n (lv' := [(3, .int (0 : Int32)), (0, .ref (mAd X i0)), (1, .ref (mAd X i1)), (2, .int x2)]) hx hb d_Jo_countBytes_9 rfl hl (by decide) rfl (fun ls hl => ?_)
  exact tf_Jo_countBytes_10 hC  mFU _ _ _ _ _ _ _ _ o0 o1 hI (lv_sub hl [1, 2, 3, 0] rfl) h
end
theorem d_Jo_countThere_0 : decode cc_Jo_countThere 0 = .ok (.iconst 0, 1) := by decide +kernel
theorem d_Jo_countThere_1 : decode cc_Jo_countThere 1 = .ok (.istore_n 1, 1) := by decide +kernel
theorem d_Jo_countThere_2 : decode cc_Jo_countThere 2 = .ok (.iconst 0, 1) := by decide +kernel
theorem d_Jo_countThere_3 : decode cc_Jo_countThere 3 = .ok (.istore_n 2, 1) := by decide +kernel
theorem d_Jo_countThere_4 : decode cc_Jo_countThere 4 = .ok (.iload_n 2, 1) := by decide +kernel
theorem d_Jo_countThere_5 : decode cc_Jo_countThere 5 = .ok (.bipush (17), 2) := by decide +kernel
theorem d_Jo_countThere_7 : decode cc_Jo_countThere 7 = .ok (.if_icmp .ge (21), 3) := by decide +kernel
theorem d_Jo_countThere_10 : decode cc_Jo_countThere 10 = .ok (.aload_n 0, 1) := by decide +kernel
theorem d_Jo_countThere_11 : decode cc_Jo_countThere 11 = .ok (.getfield 11, 3) := by decide +kernel
theorem d_Jo_countThere_14 : decode cc_Jo_countThere 14 = .ok (.iload_n 2, 1) := by decide +kernel
theorem d_Jo_countThere_15 : decode cc_Jo_countThere 15 = .ok (.iaload, 1) := by decide +kernel
theorem d_Jo_countThere_16 : decode cc_Jo_countThere 16 = .ok (.ifCond .le (6), 3) := by decide +kernel
theorem d_Jo_countThere_19 : decode cc_Jo_countThere 19 = .ok (.iinc 1 (1), 3) := by decide +kernel
theorem d_Jo_countThere_22 : decode cc_Jo_countThere 22 = .ok (.iinc 2 (1), 3) := by decide +kernel
theorem d_Jo_countThere_25 : decode cc_Jo_countThere 25 = .ok (.goto (-21), 3) := by decide +kernel
theorem d_Jo_countThere_28 : decode cc_Jo_countThere 28 = .ok (.iload_n 1, 1) := by decide +kernel
theorem d_Jo_countThere_29 : decode cc_Jo_countThere 29 = .ok (.ireturn, 1) := by decide +kernel
section
variable {p : Program} {l : Launch} {e : Env} {s : State} {m : MethodId} {args : Array Value} {below : List Frame} {meth : Method} {c : Code} {X : Xs} {L : La}
def b_Jo_countThere_22 (L : La) (k4 : Nat → Int32 → Int32 → Mem → Option (Int32 × Mem)) (i0 : Nat) (x1 : Int32) (x2 : Int32) (F : Mem) : Option (Int32 × Mem) :=
  k4 i0 x1 (x2 + (1 : Int32)) F
set_option maxHeartbeats 4000000 in
theorem t_Jo_countThere_22 (hC : Cx X L p s m args meth c cc_Jo_countThere 3 w_Jo_countThere R_Jo (some .int)) {k4 : Nat → Int32 → Int32 → Mem → Option (Int32 × Mem)} {out : (Int32 × Mem)} (hk4 : ∀ (i0 : Nat) (x1 : Int32) (x2 : Int32) (F : Mem) (H : Heap) (locs : List Loc) (ls : Array Slot), oO L 4 i0 → Iv X L s H locs F → lv_has ls 3 [(0, .ref (mAd X i0)), (1, .int x1), (2, .int x2)] → k4 i0 x1 x2 F = some out → W p l e (headSpec w_Jo_countThere r_Jo_countThere).room s m args below meth c H locs 0 0 (MQ below (QI X L out) args s 0 0 (AA X L)) (F0 m 4 ls [])) {i0 : Nat} {x1 : Int32} {x2 : Int32} {F : Mem} {H : Heap} {locs : List Loc} {ls : Array Slot} (o0 : oO L 4 i0) (hI : Iv X L s H locs F) (hl : lv_has ls 3 [(0, .ref (mAd X i0)), (1, .int x1), (2, .int x2)]) (h : b_Jo_countThere_22 L k4 i0 x1 x2 F = some out) : W p l e (headSpec w_Jo_countThere r_Jo_countThere).room s m args below meth c H locs 0 0 (MQ below (QI X L out) args s 0 0 (AA X L)) (F0 m 22 ls []) := by
  unfold b_Jo_countThere_22 at h
  obtain ⟨S, hK, hT, hW, hr, hlk⟩ := id hC
  have hx := S.1
  have hb := S.2.1
  refine lv_iinc (k := 2) (v := x2 + (1 : Int32)) (lv' := [(2, .int (x2 + (1 : Int32))), (0, .ref (mAd X i0)), (1, .int x1)]) hx hb d_Jo_countThere_22 hl rfl rfl (by decide) rfl (fun ls hl => ?_)
  refine lv_goto (tgt := 4) hx hb d_Jo_countThere_25 rfl ?_
  exact hk4 _ _ _ _ _ _ _ o0 hI (lv_sub hl [1, 2, 0] rfl) h
def b_Jo_countThere_4 (L : La) (k4 : Nat → Int32 → Int32 → Mem → Option (Int32 × Mem)) (i0 : Nat) (x1 : Int32) (x2 : Int32) (F : Mem) : Option (Int32 × Mem) :=
  if (17 : Int32) ≤ x2 then
    some (x1, F)
  else
    if inb x2 (mGl L (mRf L i0 0)) then none else
    if (mGa L F (mRf L i0 0) x2.toNatClampNeg) ≤ 0 then
      b_Jo_countThere_22 L k4 i0 x1 x2 F
    else
      b_Jo_countThere_22 L k4 i0 (x1 + (1 : Int32)) x2 F
set_option maxHeartbeats 4000000 in
theorem t_Jo_countThere_4 (hC : Cx X L p s m args meth c cc_Jo_countThere 3 w_Jo_countThere R_Jo (some .int)) {k4 : Nat → Int32 → Int32 → Mem → Option (Int32 × Mem)} {out : (Int32 × Mem)} (hk4 : ∀ (i0 : Nat) (x1 : Int32) (x2 : Int32) (F : Mem) (H : Heap) (locs : List Loc) (ls : Array Slot), oO L 4 i0 → Iv X L s H locs F → lv_has ls 3 [(0, .ref (mAd X i0)), (1, .int x1), (2, .int x2)] → k4 i0 x1 x2 F = some out → W p l e (headSpec w_Jo_countThere r_Jo_countThere).room s m args below meth c H locs 0 0 (MQ below (QI X L out) args s 0 0 (AA X L)) (F0 m 4 ls [])) {i0 : Nat} {x1 : Int32} {x2 : Int32} {F : Mem} {H : Heap} {locs : List Loc} {ls : Array Slot} (o0 : oO L 4 i0) (hI : Iv X L s H locs F) (hl : lv_has ls 3 [(0, .ref (mAd X i0)), (1, .int x1), (2, .int x2)]) (h : b_Jo_countThere_4 L k4 i0 x1 x2 F = some out) : W p l e (headSpec w_Jo_countThere r_Jo_countThere).room s m args below meth c H locs 0 0 (MQ below (QI X L out) args s 0 0 (AA X L)) (F0 m 4 ls []) := by
  unfold b_Jo_countThere_4 at h
  obtain ⟨S, hK, hT, hW, hr, hlk⟩ := id hC
  have hx := S.1
  have hb := S.2.1
  refine lv_iload_n hx hb d_Jo_countThere_4 rfl (lv_at hl 2 rfl) ?_
  refine lv_bipush (v := 17) hx hb d_Jo_countThere_5 (by decide) ?_
  refine lv_icmp_ge (tgt := 28) hx hb d_Jo_countThere_7 rfl (fun hc => ?_) (fun hc => ?_)
  · replace h := (if_pos hc).symm.trans h
    refine lv_iload_n hx hb d_Jo_countThere_28 rfl (lv_at hl 1 rfl) ?_
    exact w_iret S hK hr hlk hI d_Jo_countThere_29 h
  · replace h := (if_neg hc).symm.trans h
    refine lv_aload_n hx hb d_Jo_countThere_10 rfl (lv_at hl 0 rfl) ?_
    have p1 := wt_a hW o0 0 rfl (by decide) (by decide)
    refine w_getR (T := T_Jo) S hK hI o0 rfl hin_Jo 0 (index := 11) (by decide) lf_Jo_11 d_Jo_countThere_11 ?_
    refine lv_iload_n hx hb d_Jo_countThere_14 rfl (lv_at hl 2 rfl) ?_
    obtain ⟨z2, h⟩ := un_if h
    refine w_iald S hK hI hT p1 z2 d_Jo_countThere_15 ?_
    refine lv_if_le (tgt := 22) hx hb d_Jo_countThere_16 rfl (fun hc => ?_) (fun hc => ?_)
    · replace h := (if_pos hc).symm.trans h
      exact t_Jo_countThere_22 hC hk4 o0 hI hl h
    · replace h := (if_neg hc).symm.trans h
      refine lv_iinc (k := 1) (v := x1 + (1 : Int32)) (lv' := [(1, .int (x1 + (1 : Int32))), (0, .ref (mAd X i0)), (2, .int x2)]) hx hb d_Jo_countThere_19 hl rfl rfl (by decide) rfl (fun ls hl => ?_)
      exact t_Jo_countThere_22 hC hk4 o0 hI (lv_sub hl [1, 0, 2] rfl) h
def f_Jo_countThere_4 (L : La)  : Nat → Nat → Int32 → Int32 → Mem → Option (Int32 × Mem)
  | 0 => fun _ _ _ _ => none
  | n + 1 => b_Jo_countThere_4 L (f_Jo_countThere_4 L  n)
theorem tf_Jo_countThere_4 (hC : Cx X L p s m args meth c cc_Jo_countThere 3 w_Jo_countThere R_Jo (some .int))  {out : (Int32 × Mem)}  (n : Nat) : ∀ (i0 : Nat) (x1 : Int32) (x2 : Int32) (F : Mem) (H : Heap) (locs : List Loc) (ls : Array Slot), oO L 4 i0 → Iv X L s H locs F → lv_has ls 3 [(0, .ref (mAd X i0)), (1, .int x1), (2, .int x2)] → f_Jo_countThere_4 L  n i0 x1 x2 F = some out → W p l e (headSpec w_Jo_countThere r_Jo_countThere).room s m args below meth c H locs 0 0 (MQ below (QI X L out) args s 0 0 (AA X L)) (F0 m 4 ls []) := by
  induction n with
  | zero => intro i0 x1 x2 F H locs ls o0 hI hl h; cases h
  | succ n ih => intro i0 x1 x2 F H locs ls o0 hI hl h; exact t_Jo_countThere_4 hC ih o0 hI hl h
def f_Jo_countThere (L : La) (i0 : Nat) (F : Mem) : Option (Int32 × Mem) :=
  f_Jo_countThere_4 L  mFU i0 (0 : Int32) (0 : Int32) F
set_option maxHeartbeats 4000000 in
theorem c_Jo_countThere (l : Launch) {X : Xs} {L : La} (hW : WT L) {out : (Int32 × Mem)} {i0 : Nat} {F : Mem} (o0 : oO L 4 i0) (h : f_Jo_countThere L i0 F = some out) : Met l y_Jo_countThere w_Jo_countThere r_Jo_countThere (va_Pc [.ref (mAd X i0)] (Pr X L F)) (QI X L out) 0 0 (AA X L) := by
  refine mk_met (by decide) rfl (Nat.le_of_ble_eq_true rfl) hW ?_
  intro p e s m args below meth c ls hC hI hl
  have hl : lv_has ls 3 [(0, .ref (mAd X i0))] := hl
  generalize hHe : s.heap = H at hI ⊢
  generalize ([] : List Loc) = locs at hI ⊢
  unfold f_Jo_countThere at h
  obtain ⟨S, hK, hT, hW, hr, hlk⟩ := id hC
  have hx := S.1
  have hb := S.2.1
  refine lv_iconst (v := 0) hx hb d_Jo_countThere_0 rfl ?_
  refine lv_istore_n (lv' := [(1, .int (0 : Int32)), (0, .ref (mAd X i0))]) hx hb d_Jo_countThere_1 rfl hl (by decide) rfl (fun ls hl => ?_)
  refine lv_iconst (v := 0) hx hb d_Jo_countThere_2 rfl ?_
  refine lv_istore_n (lv' := [(2, .int (0 : Int32)), (1, .int (0 : Int32)), (0, .ref (mAd X i0))]) hx hb d_Jo_countThere_3 rfl hl (by decide) rfl (fun ls hl => ?_)
  exact tf_Jo_countThere_4 hC  mFU _ _ _ _ _ _ _ o0 hI (lv_sub hl [2, 1, 0] rfl) h
end
theorem d_Jo_giveAway_0 : decode cc_Jo_giveAway 0 = .ok (.iconst 0, 1) := by decide +kernel
theorem d_Jo_giveAway_1 : decode cc_Jo_giveAway 1 = .ok (.istore_n 2, 1) := by decide +kernel
theorem d_Jo_giveAway_2 : decode cc_Jo_giveAway 2 = .ok (.iconst 1, 1) := by decide +kernel
theorem d_Jo_giveAway_3 : decode cc_Jo_giveAway 3 = .ok (.istore_n 3, 1) := by decide +kernel
theorem d_Jo_giveAway_4 : decode cc_Jo_giveAway 4 = .ok (.iload_n 3, 1) := by decide +kernel
theorem d_Jo_giveAway_5 : decode cc_Jo_giveAway 5 = .ok (.iload_n 1, 1) := by decide +kernel
theorem d_Jo_giveAway_6 : decode cc_Jo_giveAway 6 = .ok (.if_icmp .ge (44), 3) := by decide +kernel
theorem d_Jo_giveAway_9 : decode cc_Jo_giveAway 9 = .ok (.aload_n 0, 1) := by decide +kernel
theorem d_Jo_giveAway_10 : decode cc_Jo_giveAway 10 = .ok (.getfield 11, 3) := by decide +kernel
theorem d_Jo_giveAway_13 : decode cc_Jo_giveAway 13 = .ok (.iload_n 3, 1) := by decide +kernel
theorem d_Jo_giveAway_14 : decode cc_Jo_giveAway 14 = .ok (.iaload, 1) := by decide +kernel
theorem d_Jo_giveAway_15 : decode cc_Jo_giveAway 15 = .ok (.ifCond .le (29), 3) := by decide +kernel
theorem d_Jo_giveAway_18 : decode cc_Jo_giveAway 18 = .ok (.aload_n 0, 1) := by decide +kernel
theorem d_Jo_giveAway_19 : decode cc_Jo_giveAway 19 = .ok (.getfield 11, 3) := by decide +kernel
theorem d_Jo_giveAway_22 : decode cc_Jo_giveAway 22 = .ok (.iload_n 2, 1) := by decide +kernel
theorem d_Jo_giveAway_23 : decode cc_Jo_giveAway 23 = .ok (.iaload, 1) := by decide +kernel
theorem d_Jo_giveAway_24 : decode cc_Jo_giveAway 24 = .ok (.ifCond .eq (18), 3) := by decide +kernel
theorem d_Jo_giveAway_27 : decode cc_Jo_giveAway 27 = .ok (.aload_n 0, 1) := by decide +kernel
theorem d_Jo_giveAway_28 : decode cc_Jo_giveAway 28 = .ok (.getfield 11, 3) := by decide +kernel
theorem d_Jo_giveAway_31 : decode cc_Jo_giveAway 31 = .ok (.iload_n 3, 1) := by decide +kernel
theorem d_Jo_giveAway_32 : decode cc_Jo_giveAway 32 = .ok (.iaload, 1) := by decide +kernel
theorem d_Jo_giveAway_33 : decode cc_Jo_giveAway 33 = .ok (.aload_n 0, 1) := by decide +kernel
theorem d_Jo_giveAway_34 : decode cc_Jo_giveAway 34 = .ok (.getfield 11, 3) := by decide +kernel
theorem d_Jo_giveAway_37 : decode cc_Jo_giveAway 37 = .ok (.iload_n 2, 1) := by decide +kernel
theorem d_Jo_giveAway_38 : decode cc_Jo_giveAway 38 = .ok (.iaload, 1) := by decide +kernel
theorem d_Jo_giveAway_39 : decode cc_Jo_giveAway 39 = .ok (.if_icmp .ge (5), 3) := by decide +kernel
theorem d_Jo_giveAway_42 : decode cc_Jo_giveAway 42 = .ok (.iload_n 3, 1) := by decide +kernel
theorem d_Jo_giveAway_43 : decode cc_Jo_giveAway 43 = .ok (.istore_n 2, 1) := by decide +kernel
theorem d_Jo_giveAway_44 : decode cc_Jo_giveAway 44 = .ok (.iinc 3 (1), 3) := by decide +kernel
theorem d_Jo_giveAway_47 : decode cc_Jo_giveAway 47 = .ok (.goto (-43), 3) := by decide +kernel
theorem d_Jo_giveAway_50 : decode cc_Jo_giveAway 50 = .ok (.aload_n 0, 1) := by decide +kernel
theorem d_Jo_giveAway_51 : decode cc_Jo_giveAway 51 = .ok (.getfield 11, 3) := by decide +kernel
theorem d_Jo_giveAway_54 : decode cc_Jo_giveAway 54 = .ok (.iload_n 2, 1) := by decide +kernel
theorem d_Jo_giveAway_55 : decode cc_Jo_giveAway 55 = .ok (.iaload, 1) := by decide +kernel
theorem d_Jo_giveAway_56 : decode cc_Jo_giveAway 56 = .ok (.istore_n 3, 1) := by decide +kernel
theorem d_Jo_giveAway_57 : decode cc_Jo_giveAway 57 = .ok (.aload_n 0, 1) := by decide +kernel
theorem d_Jo_giveAway_58 : decode cc_Jo_giveAway 58 = .ok (.getfield 11, 3) := by decide +kernel
theorem d_Jo_giveAway_61 : decode cc_Jo_giveAway 61 = .ok (.iload_n 2, 1) := by decide +kernel
theorem d_Jo_giveAway_62 : decode cc_Jo_giveAway 62 = .ok (.iconst 0, 1) := by decide +kernel
theorem d_Jo_giveAway_63 : decode cc_Jo_giveAway 63 = .ok (.iastore, 1) := by decide +kernel
theorem d_Jo_giveAway_64 : decode cc_Jo_giveAway 64 = .ok (.aload_n 0, 1) := by decide +kernel
theorem d_Jo_giveAway_65 : decode cc_Jo_giveAway 65 = .ok (.getfield 15, 3) := by decide +kernel
theorem d_Jo_giveAway_68 : decode cc_Jo_giveAway 68 = .ok (.iload_n 2, 1) := by decide +kernel
theorem d_Jo_giveAway_69 : decode cc_Jo_giveAway 69 = .ok (.iload_n 1, 1) := by decide +kernel
theorem d_Jo_giveAway_70 : decode cc_Jo_giveAway 70 = .ok (.iastore, 1) := by decide +kernel
theorem d_Jo_giveAway_71 : decode cc_Jo_giveAway 71 = .ok (.iload_n 3, 1) := by decide +kernel
theorem d_Jo_giveAway_72 : decode cc_Jo_giveAway 72 = .ok (.ireturn, 1) := by decide +kernel
section
variable {p : Program} {l : Launch} {e : Env} {s : State} {m : MethodId} {args : Array Value} {below : List Frame} {meth : Method} {c : Code} {X : Xs} {L : La}
def b_Jo_giveAway_44 (L : La) (k4 : Nat → Int32 → Int32 → Int32 → Mem → Option (Int32 × Mem)) (i0 : Nat) (x1 : Int32) (x2 : Int32) (x3 : Int32) (F : Mem) : Option (Int32 × Mem) :=
  k4 i0 x1 x2 (x3 + (1 : Int32)) F
set_option maxHeartbeats 4000000 in
theorem t_Jo_giveAway_44 (hC : Cx X L p s m args meth c cc_Jo_giveAway 4 w_Jo_giveAway R_Jo (some .int)) {k4 : Nat → Int32 → Int32 → Int32 → Mem → Option (Int32 × Mem)} {out : (Int32 × Mem)} (hk4 : ∀ (i0 : Nat) (x1 : Int32) (x2 : Int32) (x3 : Int32) (F : Mem) (H : Heap) (locs : List Loc) (ls : Array Slot), oO L 4 i0 → Iv X L s H locs F → lv_has ls 4 [(0, .ref (mAd X i0)), (1, .int x1), (2, .int x2), (3, .int x3)] → k4 i0 x1 x2 x3 F = some out → W p l e (headSpec w_Jo_giveAway r_Jo_giveAway).room s m args below meth c H locs 0 0 (MQ below (QI X L out) args s 0 0 (AA X L)) (F0 m 4 ls [])) {i0 : Nat} {x1 : Int32} {x2 : Int32} {x3 : Int32} {F : Mem} {H : Heap} {locs : List Loc} {ls : Array Slot} (o0 : oO L 4 i0) (hI : Iv X L s H locs F) (hl : lv_has ls 4 [(0, .ref (mAd X i0)), (1, .int x1), (2, .int x2), (3, .int x3)]) (h : b_Jo_giveAway_44 L k4 i0 x1 x2 x3 F = some out) : W p l e (headSpec w_Jo_giveAway r_Jo_giveAway).room s m args below meth c H locs 0 0 (MQ below (QI X L out) args s 0 0 (AA X L)) (F0 m 44 ls []) := by
  unfold b_Jo_giveAway_44 at h
  obtain ⟨S, hK, hT, hW, hr, hlk⟩ := id hC
  have hx := S.1
  have hb := S.2.1
  refine lv_iinc (k := 3) (v := x3 + (1 : Int32)) (lv' := [(3, .int (x3 + (1 : Int32))), (0, .ref (mAd X i0)), (1, .int x1), (2, .int x2)]) hx hb d_Jo_giveAway_44 hl rfl rfl (by decide) rfl (fun ls hl => ?_)
  refine lv_goto (tgt := 4) hx hb d_Jo_giveAway_47 rfl ?_
  exact hk4 _ _ _ _ _ _ _ _ o0 hI (lv_sub hl [1, 2, 3, 0] rfl) h
def b_Jo_giveAway_42 (L : La) (k4 : Nat → Int32 → Int32 → Int32 → Mem → Option (Int32 × Mem)) (i0 : Nat) (x1 : Int32) (x3 : Int32) (F : Mem) : Option (Int32 × Mem) :=
  b_Jo_giveAway_44 L k4 i0 x1 x3 x3 F
set_option maxHeartbeats 4000000 in
theorem t_Jo_giveAway_42 (hC : Cx X L p s m args meth c cc_Jo_giveAway 4 w_Jo_giveAway R_Jo (some .int)) {k4 : Nat → Int32 → Int32 → Int32 → Mem → Option (Int32 × Mem)} {out : (Int32 × Mem)} (hk4 : ∀ (i0 : Nat) (x1 : Int32) (x2 : Int32) (x3 : Int32) (F : Mem) (H : Heap) (locs : List Loc) (ls : Array Slot), oO L 4 i0 → Iv X L s H locs F → lv_has ls 4 [(0, .ref (mAd X i0)), (1, .int x1), (2, .int x2), (3, .int x3)] → k4 i0 x1 x2 x3 F = some out → W p l e (headSpec w_Jo_giveAway r_Jo_giveAway).room s m args below meth c H locs 0 0 (MQ below (QI X L out) args s 0 0 (AA X L)) (F0 m 4 ls [])) {i0 : Nat} {x1 : Int32} {x3 : Int32} {F : Mem} {H : Heap} {locs : List Loc} {ls : Array Slot} (o0 : oO L 4 i0) (hI : Iv X L s H locs F) (hl : lv_has ls 4 [(0, .ref (mAd X i0)), (1, .int x1), (3, .int x3)]) (h : b_Jo_giveAway_42 L k4 i0 x1 x3 F = some out) : W p l e (headSpec w_Jo_giveAway r_Jo_giveAway).room s m args below meth c H locs 0 0 (MQ below (QI X L out) args s 0 0 (AA X L)) (F0 m 42 ls []) := by
  unfold b_Jo_giveAway_42 at h
  obtain ⟨S, hK, hT, hW, hr, hlk⟩ := id hC
  have hx := S.1
  have hb := S.2.1
  refine lv_iload_n hx hb d_Jo_giveAway_42 rfl (lv_at hl 2 rfl) ?_
  refine lv_istore_n (lv' := [(2, .int x3), (0, .ref (mAd X i0)), (1, .int x1), (3, .int x3)]) hx hb d_Jo_giveAway_43 rfl hl (by decide) rfl (fun ls hl => ?_)
  exact t_Jo_giveAway_44 hC hk4 o0 hI (lv_sub hl [1, 2, 0, 3] rfl) h
def b_Jo_giveAway_4 (L : La) (k4 : Nat → Int32 → Int32 → Int32 → Mem → Option (Int32 × Mem)) (i0 : Nat) (x1 : Int32) (x2 : Int32) (x3 : Int32) (F : Mem) : Option (Int32 × Mem) :=
  if x1 ≤ x3 then
    if inb x2 (mGl L (mRf L i0 0)) then none else
    if inb x2 (mLn L (mRf L i0 0)) ∨ ¬ (mRf L i0 0) < mNc L then none else
    lt' (u2 F (mRf L i0 0) x2.toNatClampNeg (0 : Int32)) fun F5 =>
    if inb x2 (mLn L (mRf L i0 1)) ∨ ¬ (mRf L i0 1) < mNc L then none else
    lt' (u2 F5 (mRf L i0 1) x2.toNatClampNeg x1) fun F9 =>
    some (mGa L F (mRf L i0 0) x2.toNatClampNeg, F9)
  else
    if inb x3 (mGl L (mRf L i0 0)) then none else
    if (mGa L F (mRf L i0 0) x3.toNatClampNeg) ≤ 0 then
      b_Jo_giveAway_44 L k4 i0 x1 x2 x3 F
    else
      if inb x2 (mGl L (mRf L i0 0)) then none else
      if (mGa L F (mRf L i0 0) x2.toNatClampNeg) = 0 then
        b_Jo_giveAway_42 L k4 i0 x1 x3 F
      else
        if inb x3 (mGl L (mRf L i0 0)) then none else
        if inb x2 (mGl L (mRf L i0 0)) then none else
        if (mGa L F (mRf L i0 0) x2.toNatClampNeg) ≤ (mGa L F (mRf L i0 0) x3.toNatClampNeg) then
          b_Jo_giveAway_44 L k4 i0 x1 x2 x3 F
        else
          b_Jo_giveAway_42 L k4 i0 x1 x3 F
set_option maxHeartbeats 4000000 in
theorem t_Jo_giveAway_4 (hC : Cx X L p s m args meth c cc_Jo_giveAway 4 w_Jo_giveAway R_Jo (some .int)) {k4 : Nat → Int32 → Int32 → Int32 → Mem → Option (Int32 × Mem)} {out : (Int32 × Mem)} (hk4 : ∀ (i0 : Nat) (x1 : Int32) (x2 : Int32) (x3 : Int32) (F : Mem) (H : Heap) (locs : List Loc) (ls : Array Slot), oO L 4 i0 → Iv X L s H locs F → lv_has ls 4 [(0, .ref (mAd X i0)), (1, .int x1), (2, .int x2), (3, .int x3)] → k4 i0 x1 x2 x3 F = some out → W p l e (headSpec w_Jo_giveAway r_Jo_giveAway).room s m args below meth c H locs 0 0 (MQ below (QI X L out) args s 0 0 (AA X L)) (F0 m 4 ls [])) {i0 : Nat} {x1 : Int32} {x2 : Int32} {x3 : Int32} {F : Mem} {H : Heap} {locs : List Loc} {ls : Array Slot} (o0 : oO L 4 i0) (hI : Iv X L s H locs F) (hl : lv_has ls 4 [(0, .ref (mAd X i0)), (1, .int x1), (2, .int x2), (3, .int x3)]) (h : b_Jo_giveAway_4 L k4 i0 x1 x2 x3 F = some out) : W p l e (headSpec w_Jo_giveAway r_Jo_giveAway).room s m args below meth c H locs 0 0 (MQ below (QI X L out) args s 0 0 (AA X L)) (F0 m 4 ls []) := by
  unfold b_Jo_giveAway_4 at h
  obtain ⟨S, hK, hT, hW, hr, hlk⟩ := id hC
  have hx := S.1
  have hb := S.2.1
  refine lv_iload_n hx hb d_Jo_giveAway_4 rfl (lv_at hl 3 rfl) ?_
  refine lv_iload_n hx hb d_Jo_giveAway_5 rfl (lv_at hl 1 rfl) ?_
  refine lv_icmp_ge (tgt := 50) hx hb d_Jo_giveAway_6 rfl (fun hc => ?_) (fun hc => ?_)
  · replace h := (if_pos hc).symm.trans h
    refine lv_aload_n hx hb d_Jo_giveAway_50 rfl (lv_at hl 0 rfl) ?_
    have p1 := wt_a hW o0 0 rfl (by decide) (by decide)
    refine w_getR (T := T_Jo) S hK hI o0 rfl hin_Jo 0 (index := 11) (by decide) lf_Jo_11 d_Jo_giveAway_51 ?_
    refine lv_iload_n hx hb d_Jo_giveAway_54 rfl (lv_at hl 2 rfl) ?_
    obtain ⟨z2, h⟩ := un_if h
    refine w_iald S hK hI hT p1 z2 d_Jo_giveAway_55 ?_
    refine lv_istore_n (lv' := [(3, .int (mGa L F (mRf L i0 0) x2.toNatClampNeg)), (0, .ref (mAd X i0)), (1, .int x1), (2, .int x2)]) hx hb d_Jo_giveAway_56 rfl hl (by decide) rfl (fun ls hl => ?_)
    refine lv_aload_n hx hb d_Jo_giveAway_57 rfl (lv_at hl 1 rfl) ?_
    have p3 := wt_a hW o0 0 rfl (by decide) (by decide)
    refine w_getR (T := T_Jo) S hK hI o0 rfl hin_Jo 0 (index := 11) (by decide) lf_Jo_11 d_Jo_giveAway_58 ?_
    refine lv_iload_n hx hb d_Jo_giveAway_61 rfl (lv_at hl 3 rfl) ?_
    refine lv_iconst (v := 0) hx hb d_Jo_giveAway_62 rfl ?_
    obtain ⟨z4, h⟩ := un_if h
    refine w_iast S hK hI p3 z4 d_Jo_giveAway_63 (fun H locs F5 e6 hI => ?_)
    replace h := un_lt h _ e6
    refine lv_aload_n hx hb d_Jo_giveAway_64 rfl (lv_at hl 1 rfl) ?_
    have p7 := wt_a hW o0 1 rfl (by decide) (by decide)
    refine w_getR (T := T_Jo) S hK hI o0 rfl hin_Jo 1 (index := 15) (by decide) lf_Jo_15 d_Jo_giveAway_65 ?_
    refine lv_iload_n hx hb d_Jo_giveAway_68 rfl (lv_at hl 3 rfl) ?_
    refine lv_iload_n hx hb d_Jo_giveAway_69 rfl (lv_at hl 2 rfl) ?_
    obtain ⟨z8, h⟩ := un_if h
    refine w_iast S hK hI p7 z8 d_Jo_giveAway_70 (fun H locs F9 e10 hI => ?_)
    replace h := un_lt h _ e10
    refine lv_iload_n hx hb d_Jo_giveAway_71 rfl (lv_at hl 0 rfl) ?_
    exact w_iret S hK hr hlk hI d_Jo_giveAway_72 h
  · replace h := (if_neg hc).symm.trans h
    refine lv_aload_n hx hb d_Jo_giveAway_9 rfl (lv_at hl 0 rfl) ?_
    have p11 := wt_a hW o0 0 rfl (by decide) (by decide)
    refine w_getR (T := T_Jo) S hK hI o0 rfl hin_Jo 0 (index := 11) (by decide) lf_Jo_11 d_Jo_giveAway_10 ?_
    refine lv_iload_n hx hb d_Jo_giveAway_13 rfl (lv_at hl 3 rfl) ?_
    obtain ⟨z12, h⟩ := un_if h
    refine w_iald S hK hI hT p11 z12 d_Jo_giveAway_14 ?_
    refine lv_if_le (tgt := 44) hx hb d_Jo_giveAway_15 rfl (fun hc => ?_) (fun hc => ?_)
    · replace h := (if_pos hc).symm.trans h
      exact t_Jo_giveAway_44 hC hk4 o0 hI hl h
    · replace h := (if_neg hc).symm.trans h
      refine lv_aload_n hx hb d_Jo_giveAway_18 rfl (lv_at hl 0 rfl) ?_
      have p13 := wt_a hW o0 0 rfl (by decide) (by decide)
      refine w_getR (T := T_Jo) S hK hI o0 rfl hin_Jo 0 (index := 11) (by decide) lf_Jo_11 d_Jo_giveAway_19 ?_
      refine lv_iload_n hx hb d_Jo_giveAway_22 rfl (lv_at hl 2 rfl) ?_
      obtain ⟨z14, h⟩ := un_if h
      refine w_iald S hK hI hT p13 z14 d_Jo_giveAway_23 ?_
      refine lv_if_eq (tgt := 42) hx hb d_Jo_giveAway_24 rfl (fun hc => ?_) (fun hc => ?_)
      · replace h := (if_pos hc).symm.trans h
        exact t_Jo_giveAway_42 hC hk4 o0 hI (lv_sub hl [0, 1, 3] rfl) h
      · replace h := (if_neg hc).symm.trans h
        refine lv_aload_n hx hb d_Jo_giveAway_27 rfl (lv_at hl 0 rfl) ?_
        have p15 := wt_a hW o0 0 rfl (by decide) (by decide)
        refine w_getR (T := T_Jo) S hK hI o0 rfl hin_Jo 0 (index := 11) (by decide) lf_Jo_11 d_Jo_giveAway_28 ?_
        refine lv_iload_n hx hb d_Jo_giveAway_31 rfl (lv_at hl 3 rfl) ?_
        obtain ⟨z16, h⟩ := un_if h
        refine w_iald S hK hI hT p15 z16 d_Jo_giveAway_32 ?_
        refine lv_aload_n hx hb d_Jo_giveAway_33 rfl (lv_at hl 0 rfl) ?_
        have p17 := wt_a hW o0 0 rfl (by decide) (by decide)
        refine w_getR (T := T_Jo) S hK hI o0 rfl hin_Jo 0 (index := 11) (by decide) lf_Jo_11 d_Jo_giveAway_34 ?_
        refine lv_iload_n hx hb d_Jo_giveAway_37 rfl (lv_at hl 2 rfl) ?_
        obtain ⟨z18, h⟩ := un_if h
        refine w_iald S hK hI hT p17 z18 d_Jo_giveAway_38 ?_
        refine lv_icmp_ge (tgt := 44) hx hb d_Jo_giveAway_39 rfl (fun hc => ?_) (fun hc => ?_)
        · replace h := (if_pos hc).symm.trans h
          exact t_Jo_giveAway_44 hC hk4 o0 hI hl h
        · replace h := (if_neg hc).symm.trans h
          exact t_Jo_giveAway_42 hC hk4 o0 hI (lv_sub hl [0, 1, 3] rfl) h
def f_Jo_giveAway_4 (L : La)  : Nat → Nat → Int32 → Int32 → Int32 → Mem → Option (Int32 × Mem)
  | 0 => fun _ _ _ _ _ => none
  | n + 1 => b_Jo_giveAway_4 L (f_Jo_giveAway_4 L  n)
theorem tf_Jo_giveAway_4 (hC : Cx X L p s m args meth c cc_Jo_giveAway 4 w_Jo_giveAway R_Jo (some .int))  {out : (Int32 × Mem)}  (n : Nat) : ∀ (i0 : Nat) (x1 : Int32) (x2 : Int32) (x3 : Int32) (F : Mem) (H : Heap) (locs : List Loc) (ls : Array Slot), oO L 4 i0 → Iv X L s H locs F → lv_has ls 4 [(0, .ref (mAd X i0)), (1, .int x1), (2, .int x2), (3, .int x3)] → f_Jo_giveAway_4 L  n i0 x1 x2 x3 F = some out → W p l e (headSpec w_Jo_giveAway r_Jo_giveAway).room s m args below meth c H locs 0 0 (MQ below (QI X L out) args s 0 0 (AA X L)) (F0 m 4 ls []) := by
  induction n with
  | zero => intro i0 x1 x2 x3 F H locs ls o0 hI hl h; cases h
  | succ n ih => intro i0 x1 x2 x3 F H locs ls o0 hI hl h; exact t_Jo_giveAway_4 hC ih o0 hI hl h
def f_Jo_giveAway (L : La) (i0 : Nat) (x1 : Int32) (F : Mem) : Option (Int32 × Mem) :=
  f_Jo_giveAway_4 L  mFU i0 x1 (0 : Int32) (1 : Int32) F
set_option maxHeartbeats 4000000 in
theorem c_Jo_giveAway (l : Launch) {X : Xs} {L : La} (hW : WT L) {out : (Int32 × Mem)} {i0 : Nat} {x1 : Int32} {F : Mem} (o0 : oO L 4 i0) (h : f_Jo_giveAway L i0 x1 F = some out) : Met l y_Jo_giveAway w_Jo_giveAway r_Jo_giveAway (va_Pc [.ref (mAd X i0), .int x1] (Pr X L F)) (QI X L out) 0 0 (AA X L) := by
  refine mk_met (by decide) rfl (Nat.le_of_ble_eq_true rfl) hW ?_
  intro p e s m args below meth c ls hC hI hl
  have hl : lv_has ls 4 [(0, .ref (mAd X i0)), (1, .int x1)] := hl
  generalize hHe : s.heap = H at hI ⊢
  generalize ([] : List Loc) = locs at hI ⊢
  unfold f_Jo_giveAway at h
  obtain ⟨S, hK, hT, hW, hr, hlk⟩ := id hC
  have hx := S.1
  have hb := S.2.1
  refine lv_iconst (v := 0) hx hb d_Jo_giveAway_0 rfl ?_
  refine lv_istore_n (lv' := [(2, .int (0 : Int32)), (0, .ref (mAd X i0)), (1, .int x1)]) hx hb d_Jo_giveAway_1 rfl hl (by decide) rfl (fun ls hl => ?_)
  refine lv_iconst (v := 1) hx hb d_Jo_giveAway_2 rfl ?_
  refine lv_istore_n (lv' := [(3, .int (1 : Int32)), (2, .int (0 : Int32)), (0, .ref (mAd X i0)), (1, .int x1)]) hx hb d_Jo_giveAway_3 rfl hl (by decide) rfl (fun ls hl => ?_)
  exact tf_Jo_giveAway_4 hC  mFU _ _ _ _ _ _ _ _ o0 hI (lv_sub hl [2, 3, 1, 0] rfl) h
end
theorem d_Jo_findLengths_0 : decode cc_Jo_findLengths 0 = .ok (.aload_n 0, 1) := by decide +kernel
theorem d_Jo_findLengths_1 : decode cc_Jo_findLengths 1 = .ok (.getfield 15, 3) := by decide +kernel
theorem d_Jo_findLengths_4 : decode cc_Jo_findLengths 4 = .ok (.iconst 0, 1) := by decide +kernel
theorem d_Jo_findLengths_5 : decode cc_Jo_findLengths 5 = .ok (.invokestatic 21, 3) := by decide +kernel
theorem d_Jo_findLengths_8 : decode cc_Jo_findLengths 8 = .ok (.aload_n 0, 1) := by decide +kernel
theorem d_Jo_findLengths_9 : decode cc_Jo_findLengths 9 = .ok (.getfield 18, 3) := by decide +kernel
theorem d_Jo_findLengths_12 : decode cc_Jo_findLengths 12 = .ok (.iconst 0, 1) := by decide +kernel
theorem d_Jo_findLengths_13 : decode cc_Jo_findLengths 13 = .ok (.invokestatic 21, 3) := by decide +kernel
theorem d_Jo_findLengths_16 : decode cc_Jo_findLengths 16 = .ok (.bipush (17), 2) := by decide +kernel
theorem d_Jo_findLengths_18 : decode cc_Jo_findLengths 18 = .ok (.istore_n 1, 1) := by decide +kernel
theorem d_Jo_findLengths_19 : decode cc_Jo_findLengths 19 = .ok (.bipush (17), 2) := by decide +kernel
theorem d_Jo_findLengths_21 : decode cc_Jo_findLengths 21 = .ok (.aload_n 0, 1) := by decide +kernel
theorem d_Jo_findLengths_22 : decode cc_Jo_findLengths 22 = .ok (.invokevirtual 36, 3) := by decide +kernel
theorem d_Jo_findLengths_25 : decode cc_Jo_findLengths 25 = .ok (.iadd, 1) := by decide +kernel
theorem d_Jo_findLengths_26 : decode cc_Jo_findLengths 26 = .ok (.iconst 1, 1) := by decide +kernel
theorem d_Jo_findLengths_27 : decode cc_Jo_findLengths 27 = .ok (.isub, 1) := by decide +kernel
theorem d_Jo_findLengths_28 : decode cc_Jo_findLengths 28 = .ok (.istore_n 2, 1) := by decide +kernel
theorem d_Jo_findLengths_29 : decode cc_Jo_findLengths 29 = .ok (.iload_n 1, 1) := by decide +kernel
theorem d_Jo_findLengths_30 : decode cc_Jo_findLengths 30 = .ok (.iload_n 2, 1) := by decide +kernel
theorem d_Jo_findLengths_31 : decode cc_Jo_findLengths 31 = .ok (.if_icmp .ge (32), 3) := by decide +kernel
theorem d_Jo_findLengths_34 : decode cc_Jo_findLengths 34 = .ok (.iload_n 1, 1) := by decide +kernel
theorem d_Jo_findLengths_35 : decode cc_Jo_findLengths 35 = .ok (.bipush (34), 2) := by decide +kernel
theorem d_Jo_findLengths_37 : decode cc_Jo_findLengths 37 = .ok (.if_icmp .ge (26), 3) := by decide +kernel
theorem d_Jo_findLengths_40 : decode cc_Jo_findLengths 40 = .ok (.aload_n 0, 1) := by decide +kernel
theorem d_Jo_findLengths_41 : decode cc_Jo_findLengths 41 = .ok (.getfield 11, 3) := by decide +kernel
theorem d_Jo_findLengths_44 : decode cc_Jo_findLengths 44 = .ok (.iload_n 1, 1) := by decide +kernel
theorem d_Jo_findLengths_45 : decode cc_Jo_findLengths 45 = .ok (.aload_n 0, 1) := by decide +kernel
theorem d_Jo_findLengths_46 : decode cc_Jo_findLengths 46 = .ok (.iload_n 1, 1) := by decide +kernel
theorem d_Jo_findLengths_47 : decode cc_Jo_findLengths 47 = .ok (.invokevirtual 40, 3) := by decide +kernel
theorem d_Jo_findLengths_50 : decode cc_Jo_findLengths 50 = .ok (.aload_n 0, 1) := by decide +kernel
theorem d_Jo_findLengths_51 : decode cc_Jo_findLengths 51 = .ok (.iload_n 1, 1) := by decide +kernel
theorem d_Jo_findLengths_52 : decode cc_Jo_findLengths 52 = .ok (.invokevirtual 40, 3) := by decide +kernel
theorem d_Jo_findLengths_55 : decode cc_Jo_findLengths 55 = .ok (.iadd, 1) := by decide +kernel
theorem d_Jo_findLengths_56 : decode cc_Jo_findLengths 56 = .ok (.iastore, 1) := by decide +kernel
theorem d_Jo_findLengths_57 : decode cc_Jo_findLengths 57 = .ok (.iinc 1 (1), 3) := by decide +kernel
theorem d_Jo_findLengths_60 : decode cc_Jo_findLengths 60 = .ok (.goto (-31), 3) := by decide +kernel
theorem d_Jo_findLengths_63 : decode cc_Jo_findLengths 63 = .ok (.aload_n 0, 1) := by decide +kernel
theorem d_Jo_findLengths_64 : decode cc_Jo_findLengths 64 = .ok (.iconst 0, 1) := by decide +kernel
theorem d_Jo_findLengths_65 : decode cc_Jo_findLengths 65 = .ok (.putfield 44, 3) := by decide +kernel
theorem d_Jo_findLengths_68 : decode cc_Jo_findLengths 68 = .ok (.iload_n 1, 1) := by decide +kernel
theorem d_Jo_findLengths_69 : decode cc_Jo_findLengths 69 = .ok (.iconst 2, 1) := by decide +kernel
theorem d_Jo_findLengths_70 : decode cc_Jo_findLengths 70 = .ok (.isub, 1) := by decide +kernel
theorem d_Jo_findLengths_71 : decode cc_Jo_findLengths 71 = .ok (.istore_n 3, 1) := by decide +kernel
theorem d_Jo_findLengths_72 : decode cc_Jo_findLengths 72 = .ok (.iload_n 3, 1) := by decide +kernel
theorem d_Jo_findLengths_73 : decode cc_Jo_findLengths 73 = .ok (.ifCond .lt (54), 3) := by decide +kernel
theorem d_Jo_findLengths_76 : decode cc_Jo_findLengths 76 = .ok (.aload_n 0, 1) := by decide +kernel
theorem d_Jo_findLengths_77 : decode cc_Jo_findLengths 77 = .ok (.getfield 15, 3) := by decide +kernel
theorem d_Jo_findLengths_80 : decode cc_Jo_findLengths 80 = .ok (.iload_n 3, 1) := by decide +kernel
theorem d_Jo_findLengths_81 : decode cc_Jo_findLengths 81 = .ok (.iaload, 1) := by decide +kernel
theorem d_Jo_findLengths_82 : decode cc_Jo_findLengths 82 = .ok (.ifCond .le (39), 3) := by decide +kernel
theorem d_Jo_findLengths_85 : decode cc_Jo_findLengths 85 = .ok (.aload_n 0, 1) := by decide +kernel
theorem d_Jo_findLengths_86 : decode cc_Jo_findLengths 86 = .ok (.getfield 18, 3) := by decide +kernel
theorem d_Jo_findLengths_89 : decode cc_Jo_findLengths 89 = .ok (.iload_n 3, 1) := by decide +kernel
theorem d_Jo_findLengths_90 : decode cc_Jo_findLengths 90 = .ok (.aload_n 0, 1) := by decide +kernel
theorem d_Jo_findLengths_91 : decode cc_Jo_findLengths 91 = .ok (.getfield 18, 3) := by decide +kernel
theorem d_Jo_findLengths_94 : decode cc_Jo_findLengths 94 = .ok (.aload_n 0, 1) := by decide +kernel
theorem d_Jo_findLengths_95 : decode cc_Jo_findLengths 95 = .ok (.getfield 15, 3) := by decide +kernel
theorem d_Jo_findLengths_98 : decode cc_Jo_findLengths 98 = .ok (.iload_n 3, 1) := by decide +kernel
theorem d_Jo_findLengths_99 : decode cc_Jo_findLengths 99 = .ok (.iaload, 1) := by decide +kernel
theorem d_Jo_findLengths_100 : decode cc_Jo_findLengths 100 = .ok (.iaload, 1) := by decide +kernel
theorem d_Jo_findLengths_101 : decode cc_Jo_findLengths 101 = .ok (.iconst 1, 1) := by decide +kernel
theorem d_Jo_findLengths_102 : decode cc_Jo_findLengths 102 = .ok (.iadd, 1) := by decide +kernel
theorem d_Jo_findLengths_103 : decode cc_Jo_findLengths 103 = .ok (.iastore, 1) := by decide +kernel
theorem d_Jo_findLengths_104 : decode cc_Jo_findLengths 104 = .ok (.aload_n 0, 1) := by decide +kernel
theorem d_Jo_findLengths_105 : decode cc_Jo_findLengths 105 = .ok (.aload_n 0, 1) := by decide +kernel
theorem d_Jo_findLengths_106 : decode cc_Jo_findLengths 106 = .ok (.getfield 44, 3) := by decide +kernel
theorem d_Jo_findLengths_109 : decode cc_Jo_findLengths 109 = .ok (.aload_n 0, 1) := by decide +kernel
theorem d_Jo_findLengths_110 : decode cc_Jo_findLengths 110 = .ok (.getfield 18, 3) := by decide +kernel
theorem d_Jo_findLengths_113 : decode cc_Jo_findLengths 113 = .ok (.iload_n 3, 1) := by decide +kernel
theorem d_Jo_findLengths_114 : decode cc_Jo_findLengths 114 = .ok (.iaload, 1) := by decide +kernel
theorem d_Jo_findLengths_115 : decode cc_Jo_findLengths 115 = .ok (.invokestatic 47, 3) := by decide +kernel
theorem d_Jo_findLengths_118 : decode cc_Jo_findLengths 118 = .ok (.putfield 44, 3) := by decide +kernel
theorem d_Jo_findLengths_121 : decode cc_Jo_findLengths 121 = .ok (.iinc 3 (-1), 3) := by decide +kernel
theorem d_Jo_findLengths_124 : decode cc_Jo_findLengths 124 = .ok (.goto (-52), 3) := by decide +kernel
theorem d_Jo_findLengths_127 : decode cc_Jo_findLengths 127 = .ok (.return_, 1) := by decide +kernel
section
variable {p : Program} {l : Launch} {e : Env} {s : State} {m : MethodId} {args : Array Value} {below : List Frame} {meth : Method} {c : Code} {X : Xs} {L : La}
def b_Jo_findLengths_121 (L : La) (k72 : Nat → Int32 → Mem → Option Mem) (i0 : Nat) (x3 : Int32) (F : Mem) : Option Mem :=
  k72 i0 (x3 + (-1 : Int32)) F
set_option maxHeartbeats 4000000 in
theorem t_Jo_findLengths_121 (hC : Cx X L p s m args meth c cc_Jo_findLengths 4 w_Jo_findLengths R_Jo none) {k72 : Nat → Int32 → Mem → Option Mem} {out : Mem} (hk72 : ∀ (i0 : Nat) (x3 : Int32) (F : Mem) (H : Heap) (locs : List Loc) (ls : Array Slot), oO L 4 i0 → Iv X L s H locs F → lv_has ls 4 [(0, .ref (mAd X i0)), (3, .int x3)] → k72 i0 x3 F = some out → W p l e (headSpec w_Jo_findLengths r_Jo_findLengths).room s m args below meth c H locs 0 0 (MQ below (QV X L out) args s 0 0 (AA X L)) (F0 m 72 ls [])) {i0 : Nat} {x3 : Int32} {F : Mem} {H : Heap} {locs : List Loc} {ls : Array Slot} (o0 : oO L 4 i0) (hI : Iv X L s H locs F) (hl : lv_has ls 4 [(0, .ref (mAd X i0)), (3, .int x3)]) (h : b_Jo_findLengths_121 L k72 i0 x3 F = some out) : W p l e (headSpec w_Jo_findLengths r_Jo_findLengths).room s m args below meth c H locs 0 0 (MQ below (QV X L out) args s 0 0 (AA X L)) (F0 m 121 ls []) := by
  unfold b_Jo_findLengths_121 at h
  obtain ⟨S, hK, hT, hW, hr, hlk⟩ := id hC
  have hx := S.1
  have hb := S.2.1
  refine lv_iinc (k := 1) (v := x3 + (-1 : Int32)) (lv' := [(3, .int (x3 + (-1 : Int32))), (0, .ref (mAd X i0))]) hx hb d_Jo_findLengths_121 hl rfl rfl (by decide) rfl (fun ls hl => ?_)
  refine lv_goto (tgt := 72) hx hb d_Jo_findLengths_124 rfl ?_
  exact hk72 _ _ _ _ _ _ o0 hI (lv_sub hl [1, 0] rfl) h
def b_Jo_findLengths_72 (L : La) (k72 : Nat → Int32 → Mem → Option Mem) (i0 : Nat) (x3 : Int32) (F : Mem) : Option Mem :=
  if x3 < 0 then
    some F
  else
    if inb x3 (mGl L (mRf L i0 1)) then none else
    if (mGa L F (mRf L i0 1) x3.toNatClampNeg) ≤ 0 then
      b_Jo_findLengths_121 L k72 i0 x3 F
    else
      if inb x3 (mGl L (mRf L i0 1)) then none else
      if inb (mGa L F (mRf L i0 1) x3.toNatClampNeg) (mGl L (mRf L i0 2)) then none else
      if inb x3 (mLn L (mRf L i0 2)) ∨ ¬ (mRf L i0 2) < mNc L then none else
      lt' (u2 F (mRf L i0 2) x3.toNatClampNeg ((mGa L F (mRf L i0 2) (mGa L F (mRf L i0 1) x3.toNatClampNeg).toNatClampNeg) + (1 : Int32))) fun F9 =>
      if inb x3 (mGl L (mRf L i0 2)) then none else
      lt' (u2 F9 i0 3 (if (F9 i0 3) < (mGa L F9 (mRf L i0 2) x3.toNatClampNeg) then (mGa L F9 (mRf L i0 2) x3.toNatClampNeg) else (F9 i0 3))) fun F13 =>
      b_Jo_findLengths_121 L k72 i0 x3 F13
set_option maxHeartbeats 4000000 in
theorem t_Jo_findLengths_72 (hC : Cx X L p s m args meth c cc_Jo_findLengths 4 w_Jo_findLengths R_Jo none) {k72 : Nat → Int32 → Mem → Option Mem} {out : Mem} (hk72 : ∀ (i0 : Nat) (x3 : Int32) (F : Mem) (H : Heap) (locs : List Loc) (ls : Array Slot), oO L 4 i0 → Iv X L s H locs F → lv_has ls 4 [(0, .ref (mAd X i0)), (3, .int x3)] → k72 i0 x3 F = some out → W p l e (headSpec w_Jo_findLengths r_Jo_findLengths).room s m args below meth c H locs 0 0 (MQ below (QV X L out) args s 0 0 (AA X L)) (F0 m 72 ls [])) {i0 : Nat} {x3 : Int32} {F : Mem} {H : Heap} {locs : List Loc} {ls : Array Slot} (o0 : oO L 4 i0) (hI : Iv X L s H locs F) (hl : lv_has ls 4 [(0, .ref (mAd X i0)), (3, .int x3)]) (h : b_Jo_findLengths_72 L k72 i0 x3 F = some out) : W p l e (headSpec w_Jo_findLengths r_Jo_findLengths).room s m args below meth c H locs 0 0 (MQ below (QV X L out) args s 0 0 (AA X L)) (F0 m 72 ls []) := by
  unfold b_Jo_findLengths_72 at h
  obtain ⟨S, hK, hT, hW, hr, hlk⟩ := id hC
  have hx := S.1
  have hb := S.2.1
  refine lv_iload_n hx hb d_Jo_findLengths_72 rfl (lv_at hl 1 rfl) ?_
  refine lv_if_lt (tgt := 127) hx hb d_Jo_findLengths_73 rfl (fun hc => ?_) (fun hc => ?_)
  · replace h := (if_pos hc).symm.trans h
    exact w_vret S hK hr hlk hI d_Jo_findLengths_127 h
  · replace h := (if_neg hc).symm.trans h
    refine lv_aload_n hx hb d_Jo_findLengths_76 rfl (lv_at hl 0 rfl) ?_
    have p1 := wt_a hW o0 1 rfl (by decide) (by decide)
    refine w_getR (T := T_Jo) S hK hI o0 rfl hin_Jo 1 (index := 15) (by decide) lf_Jo_15 d_Jo_findLengths_77 ?_
    refine lv_iload_n hx hb d_Jo_findLengths_80 rfl (lv_at hl 1 rfl) ?_
    obtain ⟨z2, h⟩ := un_if h
    refine w_iald S hK hI hT p1 z2 d_Jo_findLengths_81 ?_
    refine lv_if_le (tgt := 121) hx hb d_Jo_findLengths_82 rfl (fun hc => ?_) (fun hc => ?_)
    · replace h := (if_pos hc).symm.trans h
      exact t_Jo_findLengths_121 hC hk72 o0 hI hl h
    · replace h := (if_neg hc).symm.trans h
      refine lv_aload_n hx hb d_Jo_findLengths_85 rfl (lv_at hl 0 rfl) ?_
      have p3 := wt_a hW o0 2 rfl (by decide) (by decide)
      refine w_getR (T := T_Jo) S hK hI o0 rfl hin_Jo 2 (index := 18) (by decide) lf_Jo_18 d_Jo_findLengths_86 ?_
      refine lv_iload_n hx hb d_Jo_findLengths_89 rfl (lv_at hl 1 rfl) ?_
      refine lv_aload_n hx hb d_Jo_findLengths_90 rfl (lv_at hl 0 rfl) ?_
      have p4 := wt_a hW o0 2 rfl (by decide) (by decide)
      refine w_getR (T := T_Jo) S hK hI o0 rfl hin_Jo 2 (index := 18) (by decide) lf_Jo_18 d_Jo_findLengths_91 ?_
      refine lv_aload_n hx hb d_Jo_findLengths_94 rfl (lv_at hl 0 rfl) ?_
      have p5 := wt_a hW o0 1 rfl (by decide) (by decide)
      refine w_getR (T := T_Jo) S hK hI o0 rfl hin_Jo 1 (index := 15) (by decide) lf_Jo_15 d_Jo_findLengths_95 ?_
      refine lv_iload_n hx hb d_Jo_findLengths_98 rfl (lv_at hl 1 rfl) ?_
      obtain ⟨z6, h⟩ := un_if h
      refine w_iald S hK hI hT p5 z6 d_Jo_findLengths_99 ?_
      obtain ⟨z7, h⟩ := un_if h
      refine w_iald S hK hI hT p4 z7 d_Jo_findLengths_100 ?_
      refine lv_iconst (v := 1) hx hb d_Jo_findLengths_101 rfl ?_
      refine lv_iadd hx hb d_Jo_findLengths_102 ?_
      obtain ⟨z8, h⟩ := un_if h
      refine w_iast S hK hI p3 z8 d_Jo_findLengths_103 (fun H locs F9 e10 hI => ?_)
      replace h := un_lt h _ e10
      refine lv_aload_n hx hb d_Jo_findLengths_104 rfl (lv_at hl 0 rfl) ?_
      refine lv_aload_n hx hb d_Jo_findLengths_105 rfl (lv_at hl 0 rfl) ?_
      refine w_getI (T := T_Jo) S hK hI o0 rfl hin_Jo 3 (index := 44) (by decide) lf_Jo_44 d_Jo_findLengths_106 ?_
      refine lv_aload_n hx hb d_Jo_findLengths_109 rfl (lv_at hl 0 rfl) ?_
      have p11 := wt_a hW o0 2 rfl (by decide) (by decide)
      refine w_getR (T := T_Jo) S hK hI o0 rfl hin_Jo 2 (index := 18) (by decide) lf_Jo_18 d_Jo_findLengths_110 ?_
      refine lv_iload_n hx hb d_Jo_findLengths_113 rfl (lv_at hl 1 rfl) ?_
      obtain ⟨z12, h⟩ := un_if h
      refine w_iald S hK hI hT p11 z12 d_Jo_findLengths_114 ?_
      refine va_mmax (rest := [.ref (mAd X i0)]) (x := (F9 i0 3)) (y := (mGa L F9 (mRf L i0 2) x3.toNatClampNeg)) hx hb (S.2.2.1.trans hl.1.symm) S.2.2.2.1 (S.2.2.2.2 _ (List.mem_cons_of_mem _ lm_Jo_47)) (S.2.2.2.2 _ (List.mem_cons_of_mem _ lst_Mth_max)) (S.2.2.2.2 _ (List.mem_cons_of_mem _ ln_Mth)) (S.2.2.2.2 _ (List.mem_cons_of_mem _ lc_Mth_max)) (Nat.le_of_ble_eq_true rfl) (Nat.le_of_ble_eq_true rfl) (Nat.zero_le _) (Nat.zero_le _) d_Jo_findLengths_115 ?_
      refine w_putI (T := T_Jo) S hK hI o0 rfl hin_Jo ty_Jo tk_Jo nm_Jo 3 (index := 44) (by decide) lf_Jo_44 rfl d_Jo_findLengths_118 (fun H locs F13 e14 hI => ?_)
      replace h := un_lt h _ e14
      exact t_Jo_findLengths_121 hC hk72 o0 hI hl h
def f_Jo_findLengths_72 (L : La)  : Nat → Nat → Int32 → Mem → Option Mem
  | 0 => fun _ _ _ => none
  | n + 1 => b_Jo_findLengths_72 L (f_Jo_findLengths_72 L  n)
theorem tf_Jo_findLengths_72 (hC : Cx X L p s m args meth c cc_Jo_findLengths 4 w_Jo_findLengths R_Jo none)  {out : Mem}  (n : Nat) : ∀ (i0 : Nat) (x3 : Int32) (F : Mem) (H : Heap) (locs : List Loc) (ls : Array Slot), oO L 4 i0 → Iv X L s H locs F → lv_has ls 4 [(0, .ref (mAd X i0)), (3, .int x3)] → f_Jo_findLengths_72 L  n i0 x3 F = some out → W p l e (headSpec w_Jo_findLengths r_Jo_findLengths).room s m args below meth c H locs 0 0 (MQ below (QV X L out) args s 0 0 (AA X L)) (F0 m 72 ls []) := by
  induction n with
  | zero => intro i0 x3 F H locs ls o0 hI hl h; cases h
  | succ n ih => intro i0 x3 F H locs ls o0 hI hl h; exact t_Jo_findLengths_72 hC ih o0 hI hl h
def b_Jo_findLengths_63 (L : La)  (i0 : Nat) (x1 : Int32) (F : Mem) : Option Mem :=
  lt' (u2 F i0 3 (0 : Int32)) fun F1 =>
  f_Jo_findLengths_72 L  mFU i0 (x1 - (2 : Int32)) F1
set_option maxHeartbeats 4000000 in
theorem t_Jo_findLengths_63 (hC : Cx X L p s m args meth c cc_Jo_findLengths 4 w_Jo_findLengths R_Jo none)  {out : Mem}  {i0 : Nat} {x1 : Int32} {F : Mem} {H : Heap} {locs : List Loc} {ls : Array Slot} (o0 : oO L 4 i0) (hI : Iv X L s H locs F) (hl : lv_has ls 4 [(0, .ref (mAd X i0)), (1, .int x1)]) (h : b_Jo_findLengths_63 L  i0 x1 F = some out) : W p l e (headSpec w_Jo_findLengths r_Jo_findLengths).room s m args below meth c H locs 0 0 (MQ below (QV X L out) args s 0 0 (AA X L)) (F0 m 63 ls []) := by
  unfold b_Jo_findLengths_63 at h
  obtain ⟨S, hK, hT, hW, hr, hlk⟩ := id hC
  have hx := S.1
  have hb := S.2.1
  refine lv_aload_n hx hb d_Jo_findLengths_63 rfl (lv_at hl 0 rfl) ?_
  refine lv_iconst (v := 0) hx hb d_Jo_findLengths_64 rfl ?_
  refine w_putI (T := T_Jo) S hK hI o0 rfl hin_Jo ty_Jo tk_Jo nm_Jo 3 (index := 44) (by decide) lf_Jo_44 rfl d_Jo_findLengths_65 (fun H locs F1 e2 hI => ?_)
  replace h := un_lt h _ e2
  refine lv_iload_n hx hb d_Jo_findLengths_68 rfl (lv_at hl 1 rfl) ?_
  refine lv_iconst (v := 2) hx hb d_Jo_findLengths_69 rfl ?_
  refine lv_isub hx hb d_Jo_findLengths_70 ?_
  refine lv_istore_n (lv' := [(3, .int (x1 - (2 : Int32))), (0, .ref (mAd X i0)), (1, .int x1)]) hx hb d_Jo_findLengths_71 rfl hl (by decide) rfl (fun ls hl => ?_)
  exact tf_Jo_findLengths_72 hC  mFU _ _ _ _ _ _ o0 hI (lv_sub hl [1, 0] rfl) h
def b_Jo_findLengths_29 (L : La) (k29 : Nat → Int32 → Int32 → Mem → Option Mem) (i0 : Nat) (x1 : Int32) (x2 : Int32) (F : Mem) : Option Mem :=
  if x2 ≤ x1 then
    b_Jo_findLengths_63 L  i0 x1 F
  else
    if (34 : Int32) ≤ x1 then
      b_Jo_findLengths_63 L  i0 x1 F
    else
      (f_Jo_giveAway L i0 x1 F).bind fun q2 =>
      (f_Jo_giveAway L i0 x1 q2.2).bind fun q4 =>
      if inb x1 (mLn L (mRf L i0 0)) ∨ ¬ (mRf L i0 0) < mNc L then none else
      lt' (u2 q4.2 (mRf L i0 0) x1.toNatClampNeg (q2.1 + q4.1)) fun F7 =>
      k29 i0 (x1 + (1 : Int32)) x2 F7
set_option maxHeartbeats 4000000 in
theorem t_Jo_findLengths_29 (hC : Cx X L p s m args meth c cc_Jo_findLengths 4 w_Jo_findLengths R_Jo none) {k29 : Nat → Int32 → Int32 → Mem → Option Mem} {out : Mem} (hk29 : ∀ (i0 : Nat) (x1 : Int32) (x2 : Int32) (F : Mem) (H : Heap) (locs : List Loc) (ls : Array Slot), oO L 4 i0 → Iv X L s H locs F → lv_has ls 4 [(0, .ref (mAd X i0)), (1, .int x1), (2, .int x2)] → k29 i0 x1 x2 F = some out → W p l e (headSpec w_Jo_findLengths r_Jo_findLengths).room s m args below meth c H locs 0 0 (MQ below (QV X L out) args s 0 0 (AA X L)) (F0 m 29 ls [])) {i0 : Nat} {x1 : Int32} {x2 : Int32} {F : Mem} {H : Heap} {locs : List Loc} {ls : Array Slot} (o0 : oO L 4 i0) (hI : Iv X L s H locs F) (hl : lv_has ls 4 [(0, .ref (mAd X i0)), (1, .int x1), (2, .int x2)]) (h : b_Jo_findLengths_29 L k29 i0 x1 x2 F = some out) : W p l e (headSpec w_Jo_findLengths r_Jo_findLengths).room s m args below meth c H locs 0 0 (MQ below (QV X L out) args s 0 0 (AA X L)) (F0 m 29 ls []) := by
  unfold b_Jo_findLengths_29 at h
  obtain ⟨S, hK, hT, hW, hr, hlk⟩ := id hC
  have hx := S.1
  have hb := S.2.1
  refine lv_iload_n hx hb d_Jo_findLengths_29 rfl (lv_at hl 1 rfl) ?_
  refine lv_iload_n hx hb d_Jo_findLengths_30 rfl (lv_at hl 2 rfl) ?_
  refine lv_icmp_ge (tgt := 63) hx hb d_Jo_findLengths_31 rfl (fun hc => ?_) (fun hc => ?_)
  · replace h := (if_pos hc).symm.trans h
    exact t_Jo_findLengths_63 hC  o0 hI (lv_sub hl [0, 1] rfl) h
  · replace h := (if_neg hc).symm.trans h
    refine lv_iload_n hx hb d_Jo_findLengths_34 rfl (lv_at hl 1 rfl) ?_
    refine lv_bipush (v := 34) hx hb d_Jo_findLengths_35 (by decide) ?_
    refine lv_icmp_ge (tgt := 63) hx hb d_Jo_findLengths_37 rfl (fun hc => ?_) (fun hc => ?_)
    · replace h := (if_pos hc).symm.trans h
      exact t_Jo_findLengths_63 hC  o0 hI (lv_sub hl [0, 1] rfl) h
    · replace h := (if_neg hc).symm.trans h
      refine lv_aload_n hx hb d_Jo_findLengths_40 rfl (lv_at hl 0 rfl) ?_
      have p1 := wt_a hW o0 0 rfl (by decide) (by decide)
      refine w_getR (T := T_Jo) S hK hI o0 rfl hin_Jo 0 (index := 11) (by decide) lf_Jo_11 d_Jo_findLengths_41 ?_
      refine lv_iload_n hx hb d_Jo_findLengths_44 rfl (lv_at hl 1 rfl) ?_
      refine lv_aload_n hx hb d_Jo_findLengths_45 rfl (lv_at hl 0 rfl) ?_
      refine lv_iload_n hx hb d_Jo_findLengths_46 rfl (lv_at hl 1 rfl) ?_
      obtain ⟨q2, e3, h⟩ := un_bi h
      refine w_callVi (As := [.int x1]) (rest := [.int x1, .ref (mAd X (mRf L i0 0))]) S hK hI hT (c_Jo_giveAway l hW o0 e3) (cwV 1 S.2.2.2.2 (gd_V lc_Jo_giveAway lm_Jo_40 li_Jo_giveAway ls_Jo_giveAway ln_Jo) rfl rfl rfl hd_Jo_giveAway ⟨Nat.le_of_ble_eq_true rfl, Nat.le_of_ble_eq_true rfl⟩) o0 rfl (by decide) rfl rfl hl.1 (Nat.le_of_ble_eq_true rfl) d_Jo_findLengths_47 ⟨Nat.zero_le _, Nat.zero_le _⟩ (fun H locs hI => ?_)
      refine lv_aload_n hx hb d_Jo_findLengths_50 rfl (lv_at hl 0 rfl) ?_
      refine lv_iload_n hx hb d_Jo_findLengths_51 rfl (lv_at hl 1 rfl) ?_
      obtain ⟨q4, e5, h⟩ := un_bi h
      refine w_callVi (As := [.int x1]) (rest := [.int q2.1, .int x1, .ref (mAd X (mRf L i0 0))]) S hK hI hT (c_Jo_giveAway l hW o0 e5) (cwV 1 S.2.2.2.2 (gd_V lc_Jo_giveAway lm_Jo_40 li_Jo_giveAway ls_Jo_giveAway ln_Jo) rfl rfl rfl hd_Jo_giveAway ⟨Nat.le_of_ble_eq_true rfl, Nat.le_of_ble_eq_true rfl⟩) o0 rfl (by decide) rfl rfl hl.1 (Nat.le_of_ble_eq_true rfl) d_Jo_findLengths_52 ⟨Nat.zero_le _, Nat.zero_le _⟩ (fun H locs hI => ?_)
      refine lv_iadd hx hb d_Jo_findLengths_55 ?_
      obtain ⟨z6, h⟩ := un_if h
      refine w_iast S hK hI p1 z6 d_Jo_findLengths_56 (fun H locs F7 e8 hI => ?_)
      replace h := un_lt h _ e8
      refine lv_iinc (k := 1) (v := x1 + (1 : Int32)) (lv' := [(1, .int (x1 + (1 : Int32))), (0, .ref (mAd X i0)), (2, .int x2)]) hx hb d_Jo_findLengths_57 hl rfl rfl (by decide) rfl (fun ls hl => ?_)
      refine lv_goto (tgt := 29) hx hb d_Jo_findLengths_60 rfl ?_
      exact hk29 _ _ _ _ _ _ _ o0 hI (lv_sub hl [1, 0, 2] rfl) h
def f_Jo_findLengths_29 (L : La)  : Nat → Nat → Int32 → Int32 → Mem → Option Mem
  | 0 => fun _ _ _ _ => none
  | n + 1 => b_Jo_findLengths_29 L (f_Jo_findLengths_29 L  n)
theorem tf_Jo_findLengths_29 (hC : Cx X L p s m args meth c cc_Jo_findLengths 4 w_Jo_findLengths R_Jo none)  {out : Mem}  (n : Nat) : ∀ (i0 : Nat) (x1 : Int32) (x2 : Int32) (F : Mem) (H : Heap) (locs : List Loc) (ls : Array Slot), oO L 4 i0 → Iv X L s H locs F → lv_has ls 4 [(0, .ref (mAd X i0)), (1, .int x1), (2, .int x2)] → f_Jo_findLengths_29 L  n i0 x1 x2 F = some out → W p l e (headSpec w_Jo_findLengths r_Jo_findLengths).room s m args below meth c H locs 0 0 (MQ below (QV X L out) args s 0 0 (AA X L)) (F0 m 29 ls []) := by
  induction n with
  | zero => intro i0 x1 x2 F H locs ls o0 hI hl h; cases h
  | succ n ih => intro i0 x1 x2 F H locs ls o0 hI hl h; exact t_Jo_findLengths_29 hC ih o0 hI hl h
def f_Jo_findLengths (L : La) (i0 : Nat) (F : Mem) : Option Mem :=
  (f_Arr_fill L (mRf L i0 1) (0 : Int32) F).bind fun F2 =>
  (f_Arr_fill L (mRf L i0 2) (0 : Int32) F2).bind fun F5 =>
  (f_Jo_countThere L i0 F5).bind fun q7 =>
  f_Jo_findLengths_29 L  mFU i0 (17 : Int32) (((17 : Int32) + q7.1) - (1 : Int32)) q7.2
set_option maxHeartbeats 4000000 in
theorem c_Jo_findLengths (l : Launch) {X : Xs} {L : La} (hW : WT L) {out : Mem} {i0 : Nat} {F : Mem} (o0 : oO L 4 i0) (h : f_Jo_findLengths L i0 F = some out) : Met l y_Jo_findLengths w_Jo_findLengths r_Jo_findLengths (va_Pc [.ref (mAd X i0)] (Pr X L F)) (QV X L out) 0 0 (AA X L) := by
  refine mk_met (by decide) rfl (Nat.le_of_ble_eq_true rfl) hW ?_
  intro p e s m args below meth c ls hC hI hl
  have hl : lv_has ls 4 [(0, .ref (mAd X i0))] := hl
  generalize hHe : s.heap = H at hI ⊢
  generalize ([] : List Loc) = locs at hI ⊢
  unfold f_Jo_findLengths at h
  obtain ⟨S, hK, hT, hW, hr, hlk⟩ := id hC
  have hx := S.1
  have hb := S.2.1
  refine lv_aload_n hx hb d_Jo_findLengths_0 rfl (lv_at hl 0 rfl) ?_
  have p1 := wt_a hW o0 1 rfl (by decide) (by decide)
  refine w_getR (T := T_Jo) S hK hI o0 rfl hin_Jo 1 (index := 15) (by decide) lf_Jo_15 d_Jo_findLengths_1 ?_
  refine lv_iconst (v := 0) hx hb d_Jo_findLengths_4 rfl ?_
  obtain ⟨F2, e3, h⟩ := un_bi h
  refine w_callSv (As := [.ref (mAd X (mRf L i0 1)), .int (0 : Int32)]) (rest := []) S hK hI hT (c_Arr_fill l hW p1 e3) (va_cwS 2 S.2.2.2.2 (gd_S lc_Arr_fill lm_Jo_21 lst_Arr_fill ln_Arr) rfl rfl rfl hd_Arr_fill.2 ⟨Nat.le_of_ble_eq_true rfl, Nat.le_of_ble_eq_true rfl⟩)  rfl rfl hl.1 (Nat.le_of_ble_eq_true rfl) d_Jo_findLengths_5 ⟨Nat.zero_le _, Nat.zero_le _⟩ (fun H locs hI => ?_)
  refine lv_aload_n hx hb d_Jo_findLengths_8 rfl (lv_at hl 0 rfl) ?_
  have p4 := wt_a hW o0 2 rfl (by decide) (by decide)
  refine w_getR (T := T_Jo) S hK hI o0 rfl hin_Jo 2 (index := 18) (by decide) lf_Jo_18 d_Jo_findLengths_9 ?_
  refine lv_iconst (v := 0) hx hb d_Jo_findLengths_12 rfl ?_
  obtain ⟨F5, e6, h⟩ := un_bi h
  refine w_callSv (As := [.ref (mAd X (mRf L i0 2)), .int (0 : Int32)]) (rest := []) S hK hI hT (c_Arr_fill l hW p4 e6) (va_cwS 2 S.2.2.2.2 (gd_S lc_Arr_fill lm_Jo_21 lst_Arr_fill ln_Arr) rfl rfl rfl hd_Arr_fill.2 ⟨Nat.le_of_ble_eq_true rfl, Nat.le_of_ble_eq_true rfl⟩)  rfl rfl hl.1 (Nat.le_of_ble_eq_true rfl) d_Jo_findLengths_13 ⟨Nat.zero_le _, Nat.zero_le _⟩ (fun H locs hI => ?_)
  refine lv_bipush (v := 17) hx hb d_Jo_findLengths_16 (by decide) ?_
  refine lv_istore_n (lv' := [(1, .int (17 : Int32)), (0, .ref (mAd X i0))]) hx hb d_Jo_findLengths_18 rfl hl (by decide) rfl (fun ls hl => ?_)
  refine lv_bipush (v := 17) hx hb d_Jo_findLengths_19 (by decide) ?_
  refine lv_aload_n hx hb d_Jo_findLengths_21 rfl (lv_at hl 1 rfl) ?_
  obtain ⟨q7, e8, h⟩ := un_bi h
  refine w_callVi (As := []) (rest := [.int (17 : Int32)]) S hK hI hT (c_Jo_countThere l hW o0 e8) (cwV 0 S.2.2.2.2 (gd_V lc_Jo_countThere lm_Jo_36 li_Jo_countThere ls_Jo_countThere ln_Jo) rfl rfl rfl hd_Jo_countThere ⟨Nat.le_of_ble_eq_true rfl, Nat.le_of_ble_eq_true rfl⟩) o0 rfl (by decide) rfl rfl hl.1 (Nat.le_of_ble_eq_true rfl) d_Jo_findLengths_22 ⟨Nat.zero_le _, Nat.zero_le _⟩ (fun H locs hI => ?_)
  refine lv_iadd hx hb d_Jo_findLengths_25 ?_
  refine lv_iconst (v := 1) hx hb d_Jo_findLengths_26 rfl ?_
  refine lv_isub hx hb d_Jo_findLengths_27 ?_
  refine lv_istore_n (lv' := [(2, .int (((17 : Int32) + q7.1) - (1 : Int32))), (1, .int (17 : Int32)), (0, .ref (mAd X i0))]) hx hb d_Jo_findLengths_28 rfl hl (by decide) rfl (fun ls hl => ?_)
  exact tf_Jo_findLengths_29 hC  mFU _ _ _ _ _ _ _ o0 hI (lv_sub hl [2, 1, 0] rfl) h
end
theorem d_Tr_cellsOf_0 : decode cc_Tr_cellsOf 0 = .ok (.aload_n 0, 1) := by decide +kernel
theorem d_Tr_cellsOf_1 : decode cc_Tr_cellsOf 1 = .ok (.getfield 9, 3) := by decide +kernel
theorem d_Tr_cellsOf_4 : decode cc_Tr_cellsOf 4 = .ok (.iload_n 1, 1) := by decide +kernel
theorem d_Tr_cellsOf_5 : decode cc_Tr_cellsOf 5 = .ok (.iaload, 1) := by decide +kernel
theorem d_Tr_cellsOf_6 : decode cc_Tr_cellsOf 6 = .ok (.ifCond .ne (7), 3) := by decide +kernel
theorem d_Tr_cellsOf_9 : decode cc_Tr_cellsOf 9 = .ok (.iconst 0, 1) := by decide +kernel
theorem d_Tr_cellsOf_10 : decode cc_Tr_cellsOf 10 = .ok (.goto (13), 3) := by decide +kernel
theorem d_Tr_cellsOf_13 : decode cc_Tr_cellsOf 13 = .ok (.iconst 1, 1) := by decide +kernel
theorem d_Tr_cellsOf_14 : decode cc_Tr_cellsOf 14 = .ok (.aload_n 0, 1) := by decide +kernel
theorem d_Tr_cellsOf_15 : decode cc_Tr_cellsOf 15 = .ok (.getfield 9, 3) := by decide +kernel
theorem d_Tr_cellsOf_18 : decode cc_Tr_cellsOf 18 = .ok (.iload_n 1, 1) := by decide +kernel
theorem d_Tr_cellsOf_19 : decode cc_Tr_cellsOf 19 = .ok (.iaload, 1) := by decide +kernel
theorem d_Tr_cellsOf_20 : decode cc_Tr_cellsOf 20 = .ok (.iconst 1, 1) := by decide +kernel
theorem d_Tr_cellsOf_21 : decode cc_Tr_cellsOf 21 = .ok (.isub, 1) := by decide +kernel
theorem d_Tr_cellsOf_22 : decode cc_Tr_cellsOf 22 = .ok (.ishl, 1) := by decide +kernel
theorem d_Tr_cellsOf_23 : decode cc_Tr_cellsOf 23 = .ok (.ireturn, 1) := by decide +kernel
section
variable {p : Program} {l : Launch} {e : Env} {s : State} {m : MethodId} {args : Array Value} {below : List Frame} {meth : Method} {c : Code} {X : Xs} {L : La}
def b_Tr_cellsOf_23 (L : La)  (y0 : Int32) (F : Mem) : Option (Int32 × Mem) :=
  some (y0, F)
set_option maxHeartbeats 4000000 in
theorem t_Tr_cellsOf_23 (hC : Cx X L p s m args meth c cc_Tr_cellsOf 2 w_Tr_cellsOf R_Tr (some .int))  {out : (Int32 × Mem)}  {y0 : Int32} {F : Mem} {H : Heap} {locs : List Loc} {ls : Array Slot}  (hI : Iv X L s H locs F) (hl : lv_has ls 2 []) (h : b_Tr_cellsOf_23 L  y0 F = some out) : W p l e (headSpec w_Tr_cellsOf r_Tr_cellsOf).room s m args below meth c H locs 0 0 (MQ below (QI X L out) args s 0 0 (AA X L)) (F0 m 23 ls [.int y0]) := by
  unfold b_Tr_cellsOf_23 at h
  obtain ⟨S, hK, hT, hW, hr, hlk⟩ := id hC
  have hx := S.1
  have hb := S.2.1
  exact w_iret S hK hr hlk hI d_Tr_cellsOf_23 h
def f_Tr_cellsOf (L : La) (i0 : Nat) (x1 : Int32) (F : Mem) : Option (Int32 × Mem) :=
  if inb x1 (mGl L (mRf L i0 0)) then none else
  if (mGa L F (mRf L i0 0) x1.toNatClampNeg) = 0 then
    b_Tr_cellsOf_23 L  (0 : Int32) F
  else
    if inb x1 (mGl L (mRf L i0 0)) then none else
    b_Tr_cellsOf_23 L  (jshl (1 : Int32) ((mGa L F (mRf L i0 0) x1.toNatClampNeg) - (1 : Int32))) F
set_option maxHeartbeats 4000000 in
theorem c_Tr_cellsOf (l : Launch) {X : Xs} {L : La} (hW : WT L) {out : (Int32 × Mem)} {i0 : Nat} {x1 : Int32} {F : Mem} (o0 : oO L 3 i0) (h : f_Tr_cellsOf L i0 x1 F = some out) : Met l y_Tr_cellsOf w_Tr_cellsOf r_Tr_cellsOf (va_Pc [.ref (mAd X i0), .int x1] (Pr X L F)) (QI X L out) 0 0 (AA X L) := by
  refine mk_met (by decide) rfl (Nat.le_of_ble_eq_true rfl) hW ?_
  intro p e s m args below meth c ls hC hI hl
  have hl : lv_has ls 2 [(0, .ref (mAd X i0)), (1, .int x1)] := hl
  generalize hHe : s.heap = H at hI ⊢
  generalize ([] : List Loc) = locs at hI ⊢
  unfold f_Tr_cellsOf at h
  obtain ⟨S, hK, hT, hW, hr, hlk⟩ := id hC
  have hx := S.1
  have hb := S.2.1
  refine lv_aload_n hx hb d_Tr_cellsOf_0 rfl (lv_at hl 0 rfl) ?_
  have p1 := wt_a hW o0 0 rfl (by decide) (by decide)
  refine w_getR (T := T_Tr) S hK hI o0 rfl hin_Tr 0 (index := 9) (by decide) lf_Tr_9 d_Tr_cellsOf_1 ?_
  refine lv_iload_n hx hb d_Tr_cellsOf_4 rfl (lv_at hl 1 rfl) ?_
  obtain ⟨z2, h⟩ := un_if h
  refine w_iald S hK hI hT p1 z2 d_Tr_cellsOf_5 ?_
  refine lv_if_ne (tgt := 13) hx hb d_Tr_cellsOf_6 rfl (fun hc => ?_) (fun hc => ?_)
  · replace h := (if_neg hc).symm.trans h
    refine lv_iconst (v := 1) hx hb d_Tr_cellsOf_13 rfl ?_
    refine lv_aload_n hx hb d_Tr_cellsOf_14 rfl (lv_at hl 0 rfl) ?_
    have p3 := wt_a hW o0 0 rfl (by decide) (by decide)
    refine w_getR (T := T_Tr) S hK hI o0 rfl hin_Tr 0 (index := 9) (by decide) lf_Tr_9 d_Tr_cellsOf_15 ?_
    refine lv_iload_n hx hb d_Tr_cellsOf_18 rfl (lv_at hl 1 rfl) ?_
    obtain ⟨z4, h⟩ := un_if h
    refine w_iald S hK hI hT p3 z4 d_Tr_cellsOf_19 ?_
    refine lv_iconst (v := 1) hx hb d_Tr_cellsOf_20 rfl ?_
    refine lv_isub hx hb d_Tr_cellsOf_21 ?_
    refine lv_ishl hx hb d_Tr_cellsOf_22 ?_
    exact t_Tr_cellsOf_23 hC   hI (lv_sub hl [] rfl) h
  · replace h := (if_pos hc).symm.trans h
    refine lv_iconst (v := 0) hx hb d_Tr_cellsOf_9 rfl ?_
    refine lv_goto (tgt := 23) hx hb d_Tr_cellsOf_10 rfl ?_
    exact t_Tr_cellsOf_23 hC   hI (lv_sub hl [] rfl) h
end
theorem d_Int_numberOfLeadingZeros_0 : decode cc_Int_numberOfLeadingZeros 0 = .ok (.iload_n 0, 1) := by decide +kernel
theorem d_Int_numberOfLeadingZeros_1 : decode cc_Int_numberOfLeadingZeros 1 = .ok (.ifCond .gt (14), 3) := by decide +kernel
theorem d_Int_numberOfLeadingZeros_4 : decode cc_Int_numberOfLeadingZeros 4 = .ok (.iload_n 0, 1) := by decide +kernel
theorem d_Int_numberOfLeadingZeros_5 : decode cc_Int_numberOfLeadingZeros 5 = .ok (.ifCond .ne (8), 3) := by decide +kernel
theorem d_Int_numberOfLeadingZeros_8 : decode cc_Int_numberOfLeadingZeros 8 = .ok (.bipush (32), 2) := by decide +kernel
theorem d_Int_numberOfLeadingZeros_10 : decode cc_Int_numberOfLeadingZeros 10 = .ok (.goto (4), 3) := by decide +kernel
theorem d_Int_numberOfLeadingZeros_13 : decode cc_Int_numberOfLeadingZeros 13 = .ok (.iconst 0, 1) := by decide +kernel
theorem d_Int_numberOfLeadingZeros_14 : decode cc_Int_numberOfLeadingZeros 14 = .ok (.ireturn, 1) := by decide +kernel
theorem d_Int_numberOfLeadingZeros_15 : decode cc_Int_numberOfLeadingZeros 15 = .ok (.bipush (31), 2) := by decide +kernel
theorem d_Int_numberOfLeadingZeros_17 : decode cc_Int_numberOfLeadingZeros 17 = .ok (.istore_n 1, 1) := by decide +kernel
theorem d_Int_numberOfLeadingZeros_18 : decode cc_Int_numberOfLeadingZeros 18 = .ok (.iload_n 0, 1) := by decide +kernel
theorem d_Int_numberOfLeadingZeros_19 : decode cc_Int_numberOfLeadingZeros 19 = .ok (.ldc_w 264, 3) := by decide +kernel
theorem d_Int_numberOfLeadingZeros_22 : decode cc_Int_numberOfLeadingZeros 22 = .ok (.if_icmp .lt (11), 3) := by decide +kernel
theorem d_Int_numberOfLeadingZeros_25 : decode cc_Int_numberOfLeadingZeros 25 = .ok (.iinc 1 (-16), 3) := by decide +kernel
theorem d_Int_numberOfLeadingZeros_28 : decode cc_Int_numberOfLeadingZeros 28 = .ok (.iload_n 0, 1) := by decide +kernel
theorem d_Int_numberOfLeadingZeros_29 : decode cc_Int_numberOfLeadingZeros 29 = .ok (.bipush (16), 2) := by decide +kernel
theorem d_Int_numberOfLeadingZeros_31 : decode cc_Int_numberOfLeadingZeros 31 = .ok (.iushr, 1) := by decide +kernel
theorem d_Int_numberOfLeadingZeros_32 : decode cc_Int_numberOfLeadingZeros 32 = .ok (.istore_n 0, 1) := by decide +kernel
theorem d_Int_numberOfLeadingZeros_33 : decode cc_Int_numberOfLeadingZeros 33 = .ok (.iload_n 0, 1) := by decide +kernel
theorem d_Int_numberOfLeadingZeros_34 : decode cc_Int_numberOfLeadingZeros 34 = .ok (.sipush (256), 3) := by decide +kernel
theorem d_Int_numberOfLeadingZeros_37 : decode cc_Int_numberOfLeadingZeros 37 = .ok (.if_icmp .lt (11), 3) := by decide +kernel
theorem d_Int_numberOfLeadingZeros_40 : decode cc_Int_numberOfLeadingZeros 40 = .ok (.iinc 1 (-8), 3) := by decide +kernel
theorem d_Int_numberOfLeadingZeros_43 : decode cc_Int_numberOfLeadingZeros 43 = .ok (.iload_n 0, 1) := by decide +kernel
theorem d_Int_numberOfLeadingZeros_44 : decode cc_Int_numberOfLeadingZeros 44 = .ok (.bipush (8), 2) := by decide +kernel
theorem d_Int_numberOfLeadingZeros_46 : decode cc_Int_numberOfLeadingZeros 46 = .ok (.iushr, 1) := by decide +kernel
theorem d_Int_numberOfLeadingZeros_47 : decode cc_Int_numberOfLeadingZeros 47 = .ok (.istore_n 0, 1) := by decide +kernel
theorem d_Int_numberOfLeadingZeros_48 : decode cc_Int_numberOfLeadingZeros 48 = .ok (.iload_n 0, 1) := by decide +kernel
theorem d_Int_numberOfLeadingZeros_49 : decode cc_Int_numberOfLeadingZeros 49 = .ok (.bipush (16), 2) := by decide +kernel
theorem d_Int_numberOfLeadingZeros_51 : decode cc_Int_numberOfLeadingZeros 51 = .ok (.if_icmp .lt (10), 3) := by decide +kernel
theorem d_Int_numberOfLeadingZeros_54 : decode cc_Int_numberOfLeadingZeros 54 = .ok (.iinc 1 (-4), 3) := by decide +kernel
theorem d_Int_numberOfLeadingZeros_57 : decode cc_Int_numberOfLeadingZeros 57 = .ok (.iload_n 0, 1) := by decide +kernel
theorem d_Int_numberOfLeadingZeros_58 : decode cc_Int_numberOfLeadingZeros 58 = .ok (.iconst 4, 1) := by decide +kernel
theorem d_Int_numberOfLeadingZeros_59 : decode cc_Int_numberOfLeadingZeros 59 = .ok (.iushr, 1) := by decide +kernel
theorem d_Int_numberOfLeadingZeros_60 : decode cc_Int_numberOfLeadingZeros 60 = .ok (.istore_n 0, 1) := by decide +kernel
theorem d_Int_numberOfLeadingZeros_61 : decode cc_Int_numberOfLeadingZeros 61 = .ok (.iload_n 0, 1) := by decide +kernel
theorem d_Int_numberOfLeadingZeros_62 : decode cc_Int_numberOfLeadingZeros 62 = .ok (.iconst 4, 1) := by decide +kernel
theorem d_Int_numberOfLeadingZeros_63 : decode cc_Int_numberOfLeadingZeros 63 = .ok (.if_icmp .lt (10), 3) := by decide +kernel
theorem d_Int_numberOfLeadingZeros_66 : decode cc_Int_numberOfLeadingZeros 66 = .ok (.iinc 1 (-2), 3) := by decide +kernel
theorem d_Int_numberOfLeadingZeros_69 : decode cc_Int_numberOfLeadingZeros 69 = .ok (.iload_n 0, 1) := by decide +kernel
theorem d_Int_numberOfLeadingZeros_70 : decode cc_Int_numberOfLeadingZeros 70 = .ok (.iconst 2, 1) := by decide +kernel
theorem d_Int_numberOfLeadingZeros_71 : decode cc_Int_numberOfLeadingZeros 71 = .ok (.iushr, 1) := by decide +kernel
theorem d_Int_numberOfLeadingZeros_72 : decode cc_Int_numberOfLeadingZeros 72 = .ok (.istore_n 0, 1) := by decide +kernel
theorem d_Int_numberOfLeadingZeros_73 : decode cc_Int_numberOfLeadingZeros 73 = .ok (.iload_n 1, 1) := by decide +kernel
theorem d_Int_numberOfLeadingZeros_74 : decode cc_Int_numberOfLeadingZeros 74 = .ok (.iload_n 0, 1) := by decide +kernel
theorem d_Int_numberOfLeadingZeros_75 : decode cc_Int_numberOfLeadingZeros 75 = .ok (.iconst 1, 1) := by decide +kernel
theorem d_Int_numberOfLeadingZeros_76 : decode cc_Int_numberOfLeadingZeros 76 = .ok (.iushr, 1) := by decide +kernel
theorem d_Int_numberOfLeadingZeros_77 : decode cc_Int_numberOfLeadingZeros 77 = .ok (.isub, 1) := by decide +kernel
theorem d_Int_numberOfLeadingZeros_78 : decode cc_Int_numberOfLeadingZeros 78 = .ok (.ireturn, 1) := by decide +kernel
section
variable {p : Program} {l : Launch} {e : Env} {s : State} {m : MethodId} {args : Array Value} {below : List Frame} {meth : Method} {c : Code} {X : Xs} {L : La}
def b_Int_numberOfLeadingZeros_73 (L : La)  (x0 : Int32) (x1 : Int32) (F : Mem) : Option (Int32 × Mem) :=
  some (x1 - (jushr x0 (1 : Int32)), F)
set_option maxHeartbeats 4000000 in
theorem t_Int_numberOfLeadingZeros_73 (hC : Cx X L p s m args meth c cc_Int_numberOfLeadingZeros 2 w_Int_numberOfLeadingZeros R_Int (some .int))  {out : (Int32 × Mem)}  {x0 : Int32} {x1 : Int32} {F : Mem} {H : Heap} {locs : List Loc} {ls : Array Slot}  (hI : Iv X L s H locs F) (hl : lv_has ls 2 [(0, .int x0), (1, .int x1)]) (h : b_Int_numberOfLeadingZeros_73 L  x0 x1 F = some out) : W p l e (headSpec w_Int_numberOfLeadingZeros r_Int_numberOfLeadingZeros).room s m args below meth c H locs 0 0 (MQ below (QI X L out) args s 0 0 (AA X L)) (F0 m 73 ls []) := by
  unfold b_Int_numberOfLeadingZeros_73 at h
  obtain ⟨S, hK, hT, hW, hr, hlk⟩ := id hC
  have hx := S.1
  have hb := S.2.1
  refine lv_iload_n hx hb d_Int_numberOfLeadingZeros_73 rfl (lv_at hl 1 rfl) ?_
  refine lv_iload_n hx hb d_Int_numberOfLeadingZeros_74 rfl (lv_at hl 0 rfl) ?_
  refine lv_iconst (v := 1) hx hb d_Int_numberOfLeadingZeros_75 rfl ?_
  refine lv_iushr hx hb d_Int_numberOfLeadingZeros_76 rfl ?_
  refine lv_isub hx hb d_Int_numberOfLeadingZeros_77 ?_
  exact w_iret S hK hr hlk hI d_Int_numberOfLeadingZeros_78 h
def b_Int_numberOfLeadingZeros_61 (L : La)  (x0 : Int32) (x1 : Int32) (F : Mem) : Option (Int32 × Mem) :=
  if x0 < (4 : Int32) then
    b_Int_numberOfLeadingZeros_73 L  x0 x1 F
  else
    b_Int_numberOfLeadingZeros_73 L  (jushr x0 (2 : Int32)) (x1 + (-2 : Int32)) F
set_option maxHeartbeats 4000000 in
theorem t_Int_numberOfLeadingZeros_61 (hC : Cx X L p s m args meth c cc_Int_numberOfLeadingZeros 2 w_Int_numberOfLeadingZeros R_Int (some .int))  {out : (Int32 × Mem)}  {x0 : Int32} {x1 : Int32} {F : Mem} {H : Heap} {locs : List Loc} {ls : Array Slot}  (hI : Iv X L s H locs F) (hl : lv_has ls 2 [(0, .int x0), (1, .int x1)]) (h : b_Int_numberOfLeadingZeros_61 L  x0 x1 F = some out) : W p l e (headSpec w_Int_numberOfLeadingZeros r_Int_numberOfLeadingZeros).room s m args below meth c H locs 0 0 (MQ below (QI X L out) args s 0 0 (AA X L)) (F0 m 61 ls []) := by
  unfold b_Int_numberOfLeadingZeros_61 at h
  obtain ⟨S, hK, hT, hW, hr, hlk⟩ := id hC
  have hx := S.1
  have hb := S.2.1
  refine lv_iload_n hx hb d_Int_numberOfLeadingZeros_61 rfl (lv_at hl 0 rfl) ?_
  refine lv_iconst (v := 4) hx hb d_Int_numberOfLeadingZeros_62 rfl ?_
  refine lv_icmp_lt (tgt := 73) hx hb d_Int_numberOfLeadingZeros_63 rfl (fun hc => ?_) (fun hc => ?_)
  · replace h := (if_pos hc).symm.trans h
    exact t_Int_numberOfLeadingZeros_73 hC   hI hl h
  · replace h := (if_neg hc).symm.trans h
    refine lv_iinc (k := 1) (v := x1 + (-2 : Int32)) (lv' := [(1, .int (x1 + (-2 : Int32))), (0, .int x0)]) hx hb d_Int_numberOfLeadingZeros_66 hl rfl rfl (by decide) rfl (fun ls hl => ?_)
    refine lv_iload_n hx hb d_Int_numberOfLeadingZeros_69 rfl (lv_at hl 1 rfl) ?_
    refine lv_iconst (v := 2) hx hb d_Int_numberOfLeadingZeros_70 rfl ?_
    refine lv_iushr hx hb d_Int_numberOfLeadingZeros_71 rfl ?_
    refine lv_istore_n (lv' := [(0, .int (jushr x0 (2 : Int32))), (1, .int (x1 + (-2 : Int32)))]) hx hb d_Int_numberOfLeadingZeros_72 rfl hl (by decide) rfl (fun ls hl => ?_)
    exact t_Int_numberOfLeadingZeros_73 hC   hI hl h
def b_Int_numberOfLeadingZeros_48 (L : La)  (x0 : Int32) (x1 : Int32) (F : Mem) : Option (Int32 × Mem) :=
  if x0 < (16 : Int32) then
    b_Int_numberOfLeadingZeros_61 L  x0 x1 F
  else
    b_Int_numberOfLeadingZeros_61 L  (jushr x0 (4 : Int32)) (x1 + (-4 : Int32)) F
set_option maxHeartbeats 4000000 in
theorem t_Int_numberOfLeadingZeros_48 (hC : Cx X L p s m args meth c cc_Int_numberOfLeadingZeros 2 w_Int_numberOfLeadingZeros R_Int (some .int))  {out : (Int32 × Mem)}  {x0 : Int32} {x1 : Int32} {F : Mem} {H : Heap} {locs : List Loc} {ls : Array Slot}  (hI : Iv X L s H locs F) (hl : lv_has ls 2 [(0, .int x0), (1, .int x1)]) (h : b_Int_numberOfLeadingZeros_48 L  x0 x1 F = some out) : W p l e (headSpec w_Int_numberOfLeadingZeros r_Int_numberOfLeadingZeros).room s m args below meth c H locs 0 0 (MQ below (QI X L out) args s 0 0 (AA X L)) (F0 m 48 ls []) := by
  unfold b_Int_numberOfLeadingZeros_48 at h
  obtain ⟨S, hK, hT, hW, hr, hlk⟩ := id hC
  have hx := S.1
  have hb := S.2.1
  refine lv_iload_n hx hb d_Int_numberOfLeadingZeros_48 rfl (lv_at hl 0 rfl) ?_
  refine lv_bipush (v := 16) hx hb d_Int_numberOfLeadingZeros_49 (by decide) ?_
  refine lv_icmp_lt (tgt := 61) hx hb d_Int_numberOfLeadingZeros_51 rfl (fun hc => ?_) (fun hc => ?_)
  · replace h := (if_pos hc).symm.trans h
    exact t_Int_numberOfLeadingZeros_61 hC   hI hl h
  · replace h := (if_neg hc).symm.trans h
    refine lv_iinc (k := 1) (v := x1 + (-4 : Int32)) (lv' := [(1, .int (x1 + (-4 : Int32))), (0, .int x0)]) hx hb d_Int_numberOfLeadingZeros_54 hl rfl rfl (by decide) rfl (fun ls hl => ?_)
    refine lv_iload_n hx hb d_Int_numberOfLeadingZeros_57 rfl (lv_at hl 1 rfl) ?_
    refine lv_iconst (v := 4) hx hb d_Int_numberOfLeadingZeros_58 rfl ?_
    refine lv_iushr hx hb d_Int_numberOfLeadingZeros_59 rfl ?_
    refine lv_istore_n (lv' := [(0, .int (jushr x0 (4 : Int32))), (1, .int (x1 + (-4 : Int32)))]) hx hb d_Int_numberOfLeadingZeros_60 rfl hl (by decide) rfl (fun ls hl => ?_)
    exact t_Int_numberOfLeadingZeros_61 hC   hI hl h
def b_Int_numberOfLeadingZeros_33 (L : La)  (x0 : Int32) (x1 : Int32) (F : Mem) : Option (Int32 × Mem) :=
  if x0 < (256 : Int32) then
    b_Int_numberOfLeadingZeros_48 L  x0 x1 F
  else
    b_Int_numberOfLeadingZeros_48 L  (jushr x0 (8 : Int32)) (x1 + (-8 : Int32)) F
set_option maxHeartbeats 4000000 in
theorem t_Int_numberOfLeadingZeros_33 (hC : Cx X L p s m args meth c cc_Int_numberOfLeadingZeros 2 w_Int_numberOfLeadingZeros R_Int (some .int))  {out : (Int32 × Mem)}  {x0 : Int32} {x1 : Int32} {F : Mem} {H : Heap} {locs : List Loc} {ls : Array Slot}  (hI : Iv X L s H locs F) (hl : lv_has ls 2 [(0, .int x0), (1, .int x1)]) (h : b_Int_numberOfLeadingZeros_33 L  x0 x1 F = some out) : W p l e (headSpec w_Int_numberOfLeadingZeros r_Int_numberOfLeadingZeros).room s m args below meth c H locs 0 0 (MQ below (QI X L out) args s 0 0 (AA X L)) (F0 m 33 ls []) := by
  unfold b_Int_numberOfLeadingZeros_33 at h
  obtain ⟨S, hK, hT, hW, hr, hlk⟩ := id hC
  have hx := S.1
  have hb := S.2.1
  refine lv_iload_n hx hb d_Int_numberOfLeadingZeros_33 rfl (lv_at hl 0 rfl) ?_
  refine lv_sipush (v := 256) hx hb d_Int_numberOfLeadingZeros_34 (by decide) ?_
  refine lv_icmp_lt (tgt := 48) hx hb d_Int_numberOfLeadingZeros_37 rfl (fun hc => ?_) (fun hc => ?_)
  · replace h := (if_pos hc).symm.trans h
    exact t_Int_numberOfLeadingZeros_48 hC   hI hl h
  · replace h := (if_neg hc).symm.trans h
    refine lv_iinc (k := 1) (v := x1 + (-8 : Int32)) (lv' := [(1, .int (x1 + (-8 : Int32))), (0, .int x0)]) hx hb d_Int_numberOfLeadingZeros_40 hl rfl rfl (by decide) rfl (fun ls hl => ?_)
    refine lv_iload_n hx hb d_Int_numberOfLeadingZeros_43 rfl (lv_at hl 1 rfl) ?_
    refine lv_bipush (v := 8) hx hb d_Int_numberOfLeadingZeros_44 (by decide) ?_
    refine lv_iushr hx hb d_Int_numberOfLeadingZeros_46 rfl ?_
    refine lv_istore_n (lv' := [(0, .int (jushr x0 (8 : Int32))), (1, .int (x1 + (-8 : Int32)))]) hx hb d_Int_numberOfLeadingZeros_47 rfl hl (by decide) rfl (fun ls hl => ?_)
    exact t_Int_numberOfLeadingZeros_48 hC   hI hl h
def b_Int_numberOfLeadingZeros_14 (L : La)  (y0 : Int32) (F : Mem) : Option (Int32 × Mem) :=
  some (y0, F)
set_option maxHeartbeats 4000000 in
theorem t_Int_numberOfLeadingZeros_14 (hC : Cx X L p s m args meth c cc_Int_numberOfLeadingZeros 2 w_Int_numberOfLeadingZeros R_Int (some .int))  {out : (Int32 × Mem)}  {y0 : Int32} {F : Mem} {H : Heap} {locs : List Loc} {ls : Array Slot}  (hI : Iv X L s H locs F) (hl : lv_has ls 2 []) (h : b_Int_numberOfLeadingZeros_14 L  y0 F = some out) : W p l e (headSpec w_Int_numberOfLeadingZeros r_Int_numberOfLeadingZeros).room s m args below meth c H locs 0 0 (MQ below (QI X L out) args s 0 0 (AA X L)) (F0 m 14 ls [.int y0]) := by
  unfold b_Int_numberOfLeadingZeros_14 at h
  obtain ⟨S, hK, hT, hW, hr, hlk⟩ := id hC
  have hx := S.1
  have hb := S.2.1
  exact w_iret S hK hr hlk hI d_Int_numberOfLeadingZeros_14 h
def f_Int_numberOfLeadingZeros (L : La) (x0 : Int32) (F : Mem) : Option (Int32 × Mem) :=
  if 0 < x0 then
    if x0 < (65536 : Int32) then
      b_Int_numberOfLeadingZeros_33 L  x0 (31 : Int32) F
    else
      b_Int_numberOfLeadingZeros_33 L  (jushr x0 (16 : Int32)) ((31 : Int32) + (-16 : Int32)) F
  else
    if x0 = 0 then
      b_Int_numberOfLeadingZeros_14 L  (32 : Int32) F
    else
      b_Int_numberOfLeadingZeros_14 L  (0 : Int32) F
set_option maxHeartbeats 4000000 in
theorem c_Int_numberOfLeadingZeros (l : Launch) {X : Xs} {L : La} (hW : WT L) {out : (Int32 × Mem)} {x0 : Int32} {F : Mem}  (h : f_Int_numberOfLeadingZeros L x0 F = some out) : Met l y_Int_numberOfLeadingZeros w_Int_numberOfLeadingZeros r_Int_numberOfLeadingZeros (va_Pc [.int x0] (Pr X L F)) (QI X L out) 0 0 (AA X L) := by
  refine mk_met (by decide) rfl (Nat.le_of_ble_eq_true rfl) hW ?_
  intro p e s m args below meth c ls hC hI hl
  have hl : lv_has ls 2 [(0, .int x0)] := hl
  generalize hHe : s.heap = H at hI ⊢
  generalize ([] : List Loc) = locs at hI ⊢
  unfold f_Int_numberOfLeadingZeros at h
  obtain ⟨S, hK, hT, hW, hr, hlk⟩ := id hC
  have hx := S.1
  have hb := S.2.1
  refine lv_iload_n hx hb d_Int_numberOfLeadingZeros_0 rfl (lv_at hl 0 rfl) ?_
  refine lv_if_gt (tgt := 15) hx hb d_Int_numberOfLeadingZeros_1 rfl (fun hc => ?_) (fun hc => ?_)
  · replace h := (if_pos hc).symm.trans h
    refine lv_bipush (v := 31) hx hb d_Int_numberOfLeadingZeros_15 (by decide) ?_
    refine lv_istore_n (lv' := [(1, .int (31 : Int32)), (0, .int x0)]) hx hb d_Int_numberOfLeadingZeros_17 rfl hl (by decide) rfl (fun ls hl => ?_)
    refine lv_iload_n hx hb d_Int_numberOfLeadingZeros_18 rfl (lv_at hl 1 rfl) ?_
    refine lv_ldcw (own := R_Int) (index := 264) (v := 65536) hx hb S.2.2.2.1 (S.2.2.2.2 _ (List.mem_cons_of_mem _ lk_Int_264)) d_Int_numberOfLeadingZeros_19 ?_
    refine lv_icmp_lt (tgt := 33) hx hb d_Int_numberOfLeadingZeros_22 rfl (fun hc => ?_) (fun hc => ?_)
    · replace h := (if_pos hc).symm.trans h
      exact t_Int_numberOfLeadingZeros_33 hC   hI (lv_sub hl [1, 0] rfl) h
    · replace h := (if_neg hc).symm.trans h
      refine lv_iinc (k := 0) (v := (31 : Int32) + (-16 : Int32)) (lv' := [(1, .int ((31 : Int32) + (-16 : Int32))), (0, .int x0)]) hx hb d_Int_numberOfLeadingZeros_25 hl rfl rfl (by decide) rfl (fun ls hl => ?_)
      refine lv_iload_n hx hb d_Int_numberOfLeadingZeros_28 rfl (lv_at hl 1 rfl) ?_
      refine lv_bipush (v := 16) hx hb d_Int_numberOfLeadingZeros_29 (by decide) ?_
      refine lv_iushr hx hb d_Int_numberOfLeadingZeros_31 rfl ?_
      refine lv_istore_n (lv' := [(0, .int (jushr x0 (16 : Int32))), (1, .int ((31 : Int32) + (-16 : Int32)))]) hx hb d_Int_numberOfLeadingZeros_32 rfl hl (by decide) rfl (fun ls hl => ?_)
      exact t_Int_numberOfLeadingZeros_33 hC   hI hl h
  · replace h := (if_neg hc).symm.trans h
    refine lv_iload_n hx hb d_Int_numberOfLeadingZeros_4 rfl (lv_at hl 0 rfl) ?_
    refine lv_if_ne (tgt := 13) hx hb d_Int_numberOfLeadingZeros_5 rfl (fun hc => ?_) (fun hc => ?_)
    · replace h := (if_neg hc).symm.trans h
      refine lv_iconst (v := 0) hx hb d_Int_numberOfLeadingZeros_13 rfl ?_
      exact t_Int_numberOfLeadingZeros_14 hC   hI (lv_sub hl [] rfl) h
    · replace h := (if_pos hc).symm.trans h
      refine lv_bipush (v := 32) hx hb d_Int_numberOfLeadingZeros_8 (by decide) ?_
      refine lv_goto (tgt := 14) hx hb d_Int_numberOfLeadingZeros_10 rfl ?_
      exact t_Int_numberOfLeadingZeros_14 hC   hI (lv_sub hl [] rfl) h
end
theorem d_Int_bitCount_0 : decode cc_Int_bitCount 0 = .ok (.iload_n 0, 1) := by decide +kernel
theorem d_Int_bitCount_1 : decode cc_Int_bitCount 1 = .ok (.iload_n 0, 1) := by decide +kernel
theorem d_Int_bitCount_2 : decode cc_Int_bitCount 2 = .ok (.iconst 1, 1) := by decide +kernel
theorem d_Int_bitCount_3 : decode cc_Int_bitCount 3 = .ok (.iushr, 1) := by decide +kernel
theorem d_Int_bitCount_4 : decode cc_Int_bitCount 4 = .ok (.ldc_w 265, 3) := by decide +kernel
theorem d_Int_bitCount_7 : decode cc_Int_bitCount 7 = .ok (.iand, 1) := by decide +kernel
theorem d_Int_bitCount_8 : decode cc_Int_bitCount 8 = .ok (.isub, 1) := by decide +kernel
theorem d_Int_bitCount_9 : decode cc_Int_bitCount 9 = .ok (.istore_n 0, 1) := by decide +kernel
theorem d_Int_bitCount_10 : decode cc_Int_bitCount 10 = .ok (.iload_n 0, 1) := by decide +kernel
theorem d_Int_bitCount_11 : decode cc_Int_bitCount 11 = .ok (.ldc_w 266, 3) := by decide +kernel
theorem d_Int_bitCount_14 : decode cc_Int_bitCount 14 = .ok (.iand, 1) := by decide +kernel
theorem d_Int_bitCount_15 : decode cc_Int_bitCount 15 = .ok (.iload_n 0, 1) := by decide +kernel
theorem d_Int_bitCount_16 : decode cc_Int_bitCount 16 = .ok (.iconst 2, 1) := by decide +kernel
theorem d_Int_bitCount_17 : decode cc_Int_bitCount 17 = .ok (.iushr, 1) := by decide +kernel
theorem d_Int_bitCount_18 : decode cc_Int_bitCount 18 = .ok (.ldc_w 266, 3) := by decide +kernel
theorem d_Int_bitCount_21 : decode cc_Int_bitCount 21 = .ok (.iand, 1) := by decide +kernel
theorem d_Int_bitCount_22 : decode cc_Int_bitCount 22 = .ok (.iadd, 1) := by decide +kernel
theorem d_Int_bitCount_23 : decode cc_Int_bitCount 23 = .ok (.istore_n 0, 1) := by decide +kernel
theorem d_Int_bitCount_24 : decode cc_Int_bitCount 24 = .ok (.iload_n 0, 1) := by decide +kernel
theorem d_Int_bitCount_25 : decode cc_Int_bitCount 25 = .ok (.iload_n 0, 1) := by decide +kernel
theorem d_Int_bitCount_26 : decode cc_Int_bitCount 26 = .ok (.iconst 4, 1) := by decide +kernel
theorem d_Int_bitCount_27 : decode cc_Int_bitCount 27 = .ok (.iushr, 1) := by decide +kernel
theorem d_Int_bitCount_28 : decode cc_Int_bitCount 28 = .ok (.iadd, 1) := by decide +kernel
theorem d_Int_bitCount_29 : decode cc_Int_bitCount 29 = .ok (.ldc_w 267, 3) := by decide +kernel
theorem d_Int_bitCount_32 : decode cc_Int_bitCount 32 = .ok (.iand, 1) := by decide +kernel
theorem d_Int_bitCount_33 : decode cc_Int_bitCount 33 = .ok (.istore_n 0, 1) := by decide +kernel
theorem d_Int_bitCount_34 : decode cc_Int_bitCount 34 = .ok (.iload_n 0, 1) := by decide +kernel
theorem d_Int_bitCount_35 : decode cc_Int_bitCount 35 = .ok (.iload_n 0, 1) := by decide +kernel
theorem d_Int_bitCount_36 : decode cc_Int_bitCount 36 = .ok (.bipush (8), 2) := by decide +kernel
theorem d_Int_bitCount_38 : decode cc_Int_bitCount 38 = .ok (.iushr, 1) := by decide +kernel
theorem d_Int_bitCount_39 : decode cc_Int_bitCount 39 = .ok (.iadd, 1) := by decide +kernel
theorem d_Int_bitCount_40 : decode cc_Int_bitCount 40 = .ok (.istore_n 0, 1) := by decide +kernel
theorem d_Int_bitCount_41 : decode cc_Int_bitCount 41 = .ok (.iload_n 0, 1) := by decide +kernel
theorem d_Int_bitCount_42 : decode cc_Int_bitCount 42 = .ok (.iload_n 0, 1) := by decide +kernel
theorem d_Int_bitCount_43 : decode cc_Int_bitCount 43 = .ok (.bipush (16), 2) := by decide +kernel
theorem d_Int_bitCount_45 : decode cc_Int_bitCount 45 = .ok (.iushr, 1) := by decide +kernel
theorem d_Int_bitCount_46 : decode cc_Int_bitCount 46 = .ok (.iadd, 1) := by decide +kernel
theorem d_Int_bitCount_47 : decode cc_Int_bitCount 47 = .ok (.istore_n 0, 1) := by decide +kernel
theorem d_Int_bitCount_48 : decode cc_Int_bitCount 48 = .ok (.iload_n 0, 1) := by decide +kernel
theorem d_Int_bitCount_49 : decode cc_Int_bitCount 49 = .ok (.bipush (63), 2) := by decide +kernel
theorem d_Int_bitCount_51 : decode cc_Int_bitCount 51 = .ok (.iand, 1) := by decide +kernel
theorem d_Int_bitCount_52 : decode cc_Int_bitCount 52 = .ok (.ireturn, 1) := by decide +kernel
section
variable {p : Program} {l : Launch} {e : Env} {s : State} {m : MethodId} {args : Array Value} {below : List Frame} {meth : Method} {c : Code} {X : Xs} {L : La}
def f_Int_bitCount (L : La) (x0 : Int32) (F : Mem) : Option (Int32 × Mem) :=
  some ((((((((x0 - ((jushr x0 (1 : Int32)) &&& (1431655765 : Int32))) &&& (858993459 : Int32)) + ((jushr (x0 - ((jushr x0 (1 : Int32)) &&& (1431655765 : Int32))) (2 : Int32)) &&& (858993459 : Int32))) + (jushr (((x0 - ((jushr x0 (1 : Int32)) &&& (1431655765 : Int32))) &&& (858993459 : Int32)) + ((jushr (x0 - ((jushr x0 (1 : Int32)) &&& (1431655765 : Int32))) (2 : Int32)) &&& (858993459 : Int32))) (4 : Int32))) &&& (252645135 : Int32)) + (jushr (((((x0 - ((jushr x0 (1 : Int32)) &&& (1431655765 : Int32))) &&& (858993459 : Int32)) + ((jushr (x0 - ((jushr x0 (1 : Int32)) &&& (1431655765 : Int32))) (2 : Int32)) &&& (858993459 : Int32))) + (jushr (((x0 - ((jushr x0 (1 : Int32)) &&& (1431655765 : Int32))) &&& (858993459 : Int32)) + ((jushr (x0 - ((jushr x0 (1 : Int32)) &&& (1431655765 : Int32))) (2 : Int32)) &&& (858993459 : Int32))) (4 : Int32))) &&& (252645135 : Int32)) (8 : Int32))) + (jushr ((((((x0 - ((jushr x0 (1 : Int32)) &&& (1431655765 : Int32))) &&& (858993459 : Int32)) + ((jushr (x0 - ((jushr x0 (1 : Int32)) &&& (1431655765 : Int32))) (2 : Int32)) &&& (858993459 : Int32))) + (jushr (((x0 - ((jushr x0 (1 : Int32)) &&& (1431655765 : Int32))) &&& (858993459 : Int32)) + ((jushr (x0 - ((jushr x0 (1 : Int32)) &&& (1431655765 : Int32))) (2 : Int32)) &&& (858993459 : Int32))) (4 : Int32))) &&& (252645135 : Int32)) + (jushr (((((x0 - ((jushr x0 (1 : Int32)) &&& (1431655765 : Int32))) &&& (858993459 : Int32)) + ((jushr (x0 - ((jushr x0 (1 : Int32)) &&& (1431655765 : Int32))) (2 : Int32)) &&& (858993459 : Int32))) + (jushr (((x0 - ((jushr x0 (1 : Int32)) &&& (1431655765 : Int32))) &&& (858993459 : Int32)) + ((jushr (x0 - ((jushr x0 (1 : Int32)) &&& (1431655765 : Int32))) (2 : Int32)) &&& (858993459 : Int32))) (4 : Int32))) &&& (252645135 : Int32)) (8 : Int32))) (16 : Int32))) &&& (63 : Int32), F)
set_option maxHeartbeats 4000000 in
theorem c_Int_bitCount (l : Launch) {X : Xs} {L : La} (hW : WT L) {out : (Int32 × Mem)} {x0 : Int32} {F : Mem}  (h : f_Int_bitCount L x0 F = some out) : Met l y_Int_bitCount w_Int_bitCount r_Int_bitCount (va_Pc [.int x0] (Pr X L F)) (QI X L out) 0 0 (AA X L) := by
  refine mk_met (by decide) rfl (Nat.le_of_ble_eq_true rfl) hW ?_
  intro p e s m args below meth c ls hC hI hl
  have hl : lv_has ls 1 [(0, .int x0)] := hl
  generalize hHe : s.heap = H at hI ⊢
  generalize ([] : List Loc) = locs at hI ⊢
  unfold f_Int_bitCount at h
  obtain ⟨S, hK, hT, hW, hr, hlk⟩ := id hC
  have hx := S.1
  have hb := S.2.1
  refine lv_iload_n hx hb d_Int_bitCount_0 rfl (lv_at hl 0 rfl) ?_
  refine lv_iload_n hx hb d_Int_bitCount_1 rfl (lv_at hl 0 rfl) ?_
  refine lv_iconst (v := 1) hx hb d_Int_bitCount_2 rfl ?_
  refine lv_iushr hx hb d_Int_bitCount_3 rfl ?_
  refine lv_ldcw (own := R_Int) (index := 265) (v := 1431655765) hx hb S.2.2.2.1 (S.2.2.2.2 _ (List.mem_cons_of_mem _ lk_Int_265)) d_Int_bitCount_4 ?_
  refine lv_iand hx hb d_Int_bitCount_7 ?_
  refine lv_isub hx hb d_Int_bitCount_8 ?_
  refine lv_istore_n (lv' := [(0, .int (x0 - ((jushr x0 (1 : Int32)) &&& (1431655765 : Int32))))]) hx hb d_Int_bitCount_9 rfl hl (by decide) rfl (fun ls hl => ?_)
  refine lv_iload_n hx hb d_Int_bitCount_10 rfl (lv_at hl 0 rfl) ?_
  refine lv_ldcw (own := R_Int) (index := 266) (v := 858993459) hx hb S.2.2.2.1 (S.2.2.2.2 _ (List.mem_cons_of_mem _ lk_Int_266)) d_Int_bitCount_11 ?_
  refine lv_iand hx hb d_Int_bitCount_14 ?_
  refine lv_iload_n hx hb d_Int_bitCount_15 rfl (lv_at hl 0 rfl) ?_
  refine lv_iconst (v := 2) hx hb d_Int_bitCount_16 rfl ?_
  refine lv_iushr hx hb d_Int_bitCount_17 rfl ?_
  refine lv_ldcw (own := R_Int) (index := 266) (v := 858993459) hx hb S.2.2.2.1 (S.2.2.2.2 _ (List.mem_cons_of_mem _ lk_Int_266)) d_Int_bitCount_18 ?_
  refine lv_iand hx hb d_Int_bitCount_21 ?_
  refine lv_iadd hx hb d_Int_bitCount_22 ?_
  refine lv_istore_n (lv' := [(0, .int (((x0 - ((jushr x0 (1 : Int32)) &&& (1431655765 : Int32))) &&& (858993459 : Int32)) + ((jushr (x0 - ((jushr x0 (1 : Int32)) &&& (1431655765 : Int32))) (2 : Int32)) &&& (858993459 : Int32))))]) hx hb d_Int_bitCount_23 rfl hl (by decide) rfl (fun ls hl => ?_)
  refine lv_iload_n hx hb d_Int_bitCount_24 rfl (lv_at hl 0 rfl) ?_
  refine lv_iload_n hx hb d_Int_bitCount_25 rfl (lv_at hl 0 rfl) ?_
  refine lv_iconst (v := 4) hx hb d_Int_bitCount_26 rfl ?_
  refine lv_iushr hx hb d_Int_bitCount_27 rfl ?_
  refine lv_iadd hx hb d_Int_bitCount_28 ?_
  refine lv_ldcw (own := R_Int) (index := 267) (v := 252645135) hx hb S.2.2.2.1 (S.2.2.2.2 _ (List.mem_cons_of_mem _ lk_Int_267)) d_Int_bitCount_29 ?_
  refine lv_iand hx hb d_Int_bitCount_32 ?_
  refine lv_istore_n (lv' := [(0, .int (((((x0 - ((jushr x0 (1 : Int32)) &&& (1431655765 : Int32))) &&& (858993459 : Int32)) + ((jushr (x0 - ((jushr x0 (1 : Int32)) &&& (1431655765 : Int32))) (2 : Int32)) &&& (858993459 : Int32))) + (jushr (((x0 - ((jushr x0 (1 : Int32)) &&& (1431655765 : Int32))) &&& (858993459 : Int32)) + ((jushr (x0 - ((jushr x0 (1 : Int32)) &&& (1431655765 : Int32))) (2 : Int32)) &&& (858993459 : Int32))) (4 : Int32))) &&& (252645135 : Int32)))]) hx hb d_Int_bitCount_33 rfl hl (by decide) rfl (fun ls hl => ?_)
  refine lv_iload_n hx hb d_Int_bitCount_34 rfl (lv_at hl 0 rfl) ?_
  refine lv_iload_n hx hb d_Int_bitCount_35 rfl (lv_at hl 0 rfl) ?_
  refine lv_bipush (v := 8) hx hb d_Int_bitCount_36 (by decide) ?_
  refine lv_iushr hx hb d_Int_bitCount_38 rfl ?_
  refine lv_iadd hx hb d_Int_bitCount_39 ?_
  refine lv_istore_n (lv' := [(0, .int ((((((x0 - ((jushr x0 (1 : Int32)) &&& (1431655765 : Int32))) &&& (858993459 : Int32)) + ((jushr (x0 - ((jushr x0 (1 : Int32)) &&& (1431655765 : Int32))) (2 : Int32)) &&& (858993459 : Int32))) + (jushr (((x0 - ((jushr x0 (1 : Int32)) &&& (1431655765 : Int32))) &&& (858993459 : Int32)) + ((jushr (x0 - ((jushr x0 (1 : Int32)) &&& (1431655765 : Int32))) (2 : Int32)) &&& (858993459 : Int32))) (4 : Int32))) &&& (252645135 : Int32)) + (jushr (((((x0 - ((jushr x0 (1 : Int32)) &&& (1431655765 : Int32))) &&& (858993459 : Int32)) + ((jushr (x0 - ((jushr x0 (1 : Int32)) &&& (1431655765 : Int32))) (2 : Int32)) &&& (858993459 : Int32))) + (jushr (((x0 - ((jushr x0 (1 : Int32)) &&& (1431655765 : Int32))) &&& (858993459 : Int32)) + ((jushr (x0 - ((jushr x0 (1 : Int32)) &&& (1431655765 : Int32))) (2 : Int32)) &&& (858993459 : Int32))) (4 : Int32))) &&& (252645135 : Int32)) (8 : Int32))))]) hx hb d_Int_bitCount_40 rfl hl (by decide) rfl (fun ls hl => ?_)
  refine lv_iload_n hx hb d_Int_bitCount_41 rfl (lv_at hl 0 rfl) ?_
  refine lv_iload_n hx hb d_Int_bitCount_42 rfl (lv_at hl 0 rfl) ?_
  refine lv_bipush (v := 16) hx hb d_Int_bitCount_43 (by decide) ?_
  refine lv_iushr hx hb d_Int_bitCount_45 rfl ?_
  refine lv_iadd hx hb d_Int_bitCount_46 ?_
  refine lv_istore_n (lv' := [(0, .int (((((((x0 - ((jushr x0 (1 : Int32)) &&& (1431655765 : Int32))) &&& (858993459 : Int32)) + ((jushr (x0 - ((jushr x0 (1 : Int32)) &&& (1431655765 : Int32))) (2 : Int32)) &&& (858993459 : Int32))) + (jushr (((x0 - ((jushr x0 (1 : Int32)) &&& (1431655765 : Int32))) &&& (858993459 : Int32)) + ((jushr (x0 - ((jushr x0 (1 : Int32)) &&& (1431655765 : Int32))) (2 : Int32)) &&& (858993459 : Int32))) (4 : Int32))) &&& (252645135 : Int32)) + (jushr (((((x0 - ((jushr x0 (1 : Int32)) &&& (1431655765 : Int32))) &&& (858993459 : Int32)) + ((jushr (x0 - ((jushr x0 (1 : Int32)) &&& (1431655765 : Int32))) (2 : Int32)) &&& (858993459 : Int32))) + (jushr (((x0 - ((jushr x0 (1 : Int32)) &&& (1431655765 : Int32))) &&& (858993459 : Int32)) + ((jushr (x0 - ((jushr x0 (1 : Int32)) &&& (1431655765 : Int32))) (2 : Int32)) &&& (858993459 : Int32))) (4 : Int32))) &&& (252645135 : Int32)) (8 : Int32))) + (jushr ((((((x0 - ((jushr x0 (1 : Int32)) &&& (1431655765 : Int32))) &&& (858993459 : Int32)) + ((jushr (x0 - ((jushr x0 (1 : Int32)) &&& (1431655765 : Int32))) (2 : Int32)) &&& (858993459 : Int32))) + (jushr (((x0 - ((jushr x0 (1 : Int32)) &&& (1431655765 : Int32))) &&& (858993459 : Int32)) + ((jushr (x0 - ((jushr x0 (1 : Int32)) &&& (1431655765 : Int32))) (2 : Int32)) &&& (858993459 : Int32))) (4 : Int32))) &&& (252645135 : Int32)) + (jushr (((((x0 - ((jushr x0 (1 : Int32)) &&& (1431655765 : Int32))) &&& (858993459 : Int32)) + ((jushr (x0 - ((jushr x0 (1 : Int32)) &&& (1431655765 : Int32))) (2 : Int32)) &&& (858993459 : Int32))) + (jushr (((x0 - ((jushr x0 (1 : Int32)) &&& (1431655765 : Int32))) &&& (858993459 : Int32)) + ((jushr (x0 - ((jushr x0 (1 : Int32)) &&& (1431655765 : Int32))) (2 : Int32)) &&& (858993459 : Int32))) (4 : Int32))) &&& (252645135 : Int32)) (8 : Int32))) (16 : Int32))))]) hx hb d_Int_bitCount_47 rfl hl (by decide) rfl (fun ls hl => ?_)
  refine lv_iload_n hx hb d_Int_bitCount_48 rfl (lv_at hl 0 rfl) ?_
  refine lv_bipush (v := 63) hx hb d_Int_bitCount_49 (by decide) ?_
  refine lv_iand hx hb d_Int_bitCount_51 ?_
  exact w_iret S hK hr hlk hI d_Int_bitCount_52 h
end
theorem d_Tr_complete_0 : decode cc_Tr_complete 0 = .ok (.iconst 0, 1) := by decide +kernel
theorem d_Tr_complete_1 : decode cc_Tr_complete 1 = .ok (.istore_n 2, 1) := by decide +kernel
theorem d_Tr_complete_2 : decode cc_Tr_complete 2 = .ok (.iconst 0, 1) := by decide +kernel
theorem d_Tr_complete_3 : decode cc_Tr_complete 3 = .ok (.istore_n 3, 1) := by decide +kernel
theorem d_Tr_complete_4 : decode cc_Tr_complete 4 = .ok (.iload_n 3, 1) := by decide +kernel
theorem d_Tr_complete_5 : decode cc_Tr_complete 5 = .ok (.iload_n 1, 1) := by decide +kernel
theorem d_Tr_complete_6 : decode cc_Tr_complete 6 = .ok (.if_icmp .ge (30), 3) := by decide +kernel
theorem d_Tr_complete_9 : decode cc_Tr_complete 9 = .ok (.aload_n 0, 1) := by decide +kernel
theorem d_Tr_complete_10 : decode cc_Tr_complete 10 = .ok (.getfield 9, 3) := by decide +kernel
theorem d_Tr_complete_13 : decode cc_Tr_complete 13 = .ok (.iload_n 3, 1) := by decide +kernel
theorem d_Tr_complete_14 : decode cc_Tr_complete 14 = .ok (.iaload, 1) := by decide +kernel
theorem d_Tr_complete_15 : decode cc_Tr_complete 15 = .ok (.bipush (7), 2) := by decide +kernel
theorem d_Tr_complete_17 : decode cc_Tr_complete 17 = .ok (.if_icmp .le (5), 3) := by decide +kernel
theorem d_Tr_complete_20 : decode cc_Tr_complete 20 = .ok (.iconst 0, 1) := by decide +kernel
theorem d_Tr_complete_21 : decode cc_Tr_complete 21 = .ok (.ireturn, 1) := by decide +kernel
theorem d_Tr_complete_22 : decode cc_Tr_complete 22 = .ok (.iload_n 2, 1) := by decide +kernel
theorem d_Tr_complete_23 : decode cc_Tr_complete 23 = .ok (.aload_n 0, 1) := by decide +kernel
theorem d_Tr_complete_24 : decode cc_Tr_complete 24 = .ok (.iload_n 3, 1) := by decide +kernel
theorem d_Tr_complete_25 : decode cc_Tr_complete 25 = .ok (.invokevirtual 21, 3) := by decide +kernel
theorem d_Tr_complete_28 : decode cc_Tr_complete 28 = .ok (.iadd, 1) := by decide +kernel
theorem d_Tr_complete_29 : decode cc_Tr_complete 29 = .ok (.istore_n 2, 1) := by decide +kernel
theorem d_Tr_complete_30 : decode cc_Tr_complete 30 = .ok (.iinc 3 (1), 3) := by decide +kernel
theorem d_Tr_complete_33 : decode cc_Tr_complete 33 = .ok (.goto (-29), 3) := by decide +kernel
theorem d_Tr_complete_36 : decode cc_Tr_complete 36 = .ok (.iload_n 2, 1) := by decide +kernel
theorem d_Tr_complete_37 : decode cc_Tr_complete 37 = .ok (.ifCond .eq (10), 3) := by decide +kernel
theorem d_Tr_complete_40 : decode cc_Tr_complete 40 = .ok (.iload_n 2, 1) := by decide +kernel
theorem d_Tr_complete_41 : decode cc_Tr_complete 41 = .ok (.sipush (128), 3) := by decide +kernel
theorem d_Tr_complete_44 : decode cc_Tr_complete 44 = .ok (.if_icmp .lt (5), 3) := by decide +kernel
theorem d_Tr_complete_47 : decode cc_Tr_complete 47 = .ok (.iconst 0, 1) := by decide +kernel
theorem d_Tr_complete_48 : decode cc_Tr_complete 48 = .ok (.ireturn, 1) := by decide +kernel
theorem d_Tr_complete_49 : decode cc_Tr_complete 49 = .ok (.aload_n 0, 1) := by decide +kernel
theorem d_Tr_complete_50 : decode cc_Tr_complete 50 = .ok (.bipush (32), 2) := by decide +kernel
theorem d_Tr_complete_52 : decode cc_Tr_complete 52 = .ok (.iload_n 2, 1) := by decide +kernel
theorem d_Tr_complete_53 : decode cc_Tr_complete 53 = .ok (.invokestatic 25, 3) := by decide +kernel
theorem d_Tr_complete_56 : decode cc_Tr_complete 56 = .ok (.isub, 1) := by decide +kernel
theorem d_Tr_complete_57 : decode cc_Tr_complete 57 = .ok (.putfield 30, 3) := by decide +kernel
theorem d_Tr_complete_60 : decode cc_Tr_complete 60 = .ok (.iconst 1, 1) := by decide +kernel
theorem d_Tr_complete_61 : decode cc_Tr_complete 61 = .ok (.aload_n 0, 1) := by decide +kernel
theorem d_Tr_complete_62 : decode cc_Tr_complete 62 = .ok (.getfield 30, 3) := by decide +kernel
theorem d_Tr_complete_65 : decode cc_Tr_complete 65 = .ok (.ishl, 1) := by decide +kernel
theorem d_Tr_complete_66 : decode cc_Tr_complete 66 = .ok (.iload_n 2, 1) := by decide +kernel
theorem d_Tr_complete_67 : decode cc_Tr_complete 67 = .ok (.isub, 1) := by decide +kernel
theorem d_Tr_complete_68 : decode cc_Tr_complete 68 = .ok (.istore_n 3, 1) := by decide +kernel
theorem d_Tr_complete_69 : decode cc_Tr_complete 69 = .ok (.iload_n 3, 1) := by decide +kernel
theorem d_Tr_complete_70 : decode cc_Tr_complete 70 = .ok (.invokestatic 34, 3) := by decide +kernel
theorem d_Tr_complete_73 : decode cc_Tr_complete 73 = .ok (.iconst 1, 1) := by decide +kernel
theorem d_Tr_complete_74 : decode cc_Tr_complete 74 = .ok (.if_icmp .eq (5), 3) := by decide +kernel
theorem d_Tr_complete_77 : decode cc_Tr_complete 77 = .ok (.iconst 0, 1) := by decide +kernel
theorem d_Tr_complete_78 : decode cc_Tr_complete 78 = .ok (.ireturn, 1) := by decide +kernel
theorem d_Tr_complete_79 : decode cc_Tr_complete 79 = .ok (.aload_n 0, 1) := by decide +kernel
theorem d_Tr_complete_80 : decode cc_Tr_complete 80 = .ok (.getfield 9, 3) := by decide +kernel
theorem d_Tr_complete_83 : decode cc_Tr_complete 83 = .ok (.iload_n 1, 1) := by decide +kernel
theorem d_Tr_complete_84 : decode cc_Tr_complete 84 = .ok (.bipush (32), 2) := by decide +kernel
theorem d_Tr_complete_86 : decode cc_Tr_complete 86 = .ok (.iload_n 3, 1) := by decide +kernel
theorem d_Tr_complete_87 : decode cc_Tr_complete 87 = .ok (.invokestatic 25, 3) := by decide +kernel
theorem d_Tr_complete_90 : decode cc_Tr_complete 90 = .ok (.isub, 1) := by decide +kernel
theorem d_Tr_complete_91 : decode cc_Tr_complete 91 = .ok (.iastore, 1) := by decide +kernel
theorem d_Tr_complete_92 : decode cc_Tr_complete 92 = .ok (.iconst 1, 1) := by decide +kernel
theorem d_Tr_complete_93 : decode cc_Tr_complete 93 = .ok (.ireturn, 1) := by decide +kernel
section
variable {p : Program} {l : Launch} {e : Env} {s : State} {m : MethodId} {args : Array Value} {below : List Frame} {meth : Method} {c : Code} {X : Xs} {L : La}
def b_Tr_complete_47 (L : La)   (F : Mem) : Option (Int32 × Mem) :=
  if (0 : Int32) = 0 ∨ (0 : Int32) = 1 then some ((0 : Int32), F) else none
set_option maxHeartbeats 4000000 in
theorem t_Tr_complete_47 (hC : Cx X L p s m args meth c cc_Tr_complete 4 w_Tr_complete R_Tr (some .boolean))  {out : (Int32 × Mem)}   {F : Mem} {H : Heap} {locs : List Loc} {ls : Array Slot}  (hI : Iv X L s H locs F) (hl : lv_has ls 4 []) (h : b_Tr_complete_47 L   F = some out) : W p l e (headSpec w_Tr_complete r_Tr_complete).room s m args below meth c H locs 0 0 (MQ below (QI X L out) args s 0 0 (AA X L)) (F0 m 47 ls []) := by
  unfold b_Tr_complete_47 at h
  obtain ⟨S, hK, hT, hW, hr, hlk⟩ := id hC
  have hx := S.1
  have hb := S.2.1
  refine lv_iconst (v := 0) hx hb d_Tr_complete_47 rfl ?_
  exact w_zret S hK hr hlk hI d_Tr_complete_48 h
def b_Tr_complete_4 (L : La) (k4 : Nat → Int32 → Int32 → Int32 → Mem → Option (Int32 × Mem)) (i0 : Nat) (x1 : Int32) (x2 : Int32) (x3 : Int32) (F : Mem) : Option (Int32 × Mem) :=
  if x1 ≤ x3 then
    if x2 = 0 then
      b_Tr_complete_47 L   F
    else
      if x2 < (128 : Int32) then
        (f_Int_numberOfLeadingZeros L x2 F).bind fun q1 =>
        lt' (u2 q1.2 i0 4 ((32 : Int32) - q1.1)) fun F3 =>
        (f_Int_bitCount L ((jshl (1 : Int32) (F3 i0 4)) - x2) F3).bind fun q5 =>
        if q5.1 = (1 : Int32) then
          (f_Int_numberOfLeadingZeros L ((jshl (1 : Int32) (F3 i0 4)) - x2) q5.2).bind fun q8 =>
          if inb x1 (mLn L (mRf L i0 0)) ∨ ¬ (mRf L i0 0) < mNc L then none else
          lt' (u2 q8.2 (mRf L i0 0) x1.toNatClampNeg ((32 : Int32) - q8.1)) fun F11 =>
          if (1 : Int32) = 0 ∨ (1 : Int32) = 1 then some ((1 : Int32), F11) else none
        else
          if (0 : Int32) = 0 ∨ (0 : Int32) = 1 then some ((0 : Int32), q5.2) else none
      else
        b_Tr_complete_47 L   F
  else
    if inb x3 (mGl L (mRf L i0 0)) then none else
    if (mGa L F (mRf L i0 0) x3.toNatClampNeg) ≤ (7 : Int32) then
      (f_Tr_cellsOf L i0 x3 F).bind fun q15 =>
      k4 i0 x1 (x2 + q15.1) (x3 + (1 : Int32)) q15.2
    else
      if (0 : Int32) = 0 ∨ (0 : Int32) = 1 then some ((0 : Int32), F) else none
set_option maxHeartbeats 4000000 in
theorem t_Tr_complete_4 (hC : Cx X L p s m args meth c cc_Tr_complete 4 w_Tr_complete R_Tr (some .boolean)) {k4 : Nat → Int32 → Int32 → Int32 → Mem → Option (Int32 × Mem)} {out : (Int32 × Mem)} (hk4 : ∀ (i0 : Nat) (x1 : Int32) (x2 : Int32) (x3 : Int32) (F : Mem) (H : Heap) (locs : List Loc) (ls : Array Slot), oO L 3 i0 → Iv X L s H locs F → lv_has ls 4 [(0, .ref (mAd X i0)), (1, .int x1), (2, .int x2), (3, .int x3)] → k4 i0 x1 x2 x3 F = some out → W p l e (headSpec w_Tr_complete r_Tr_complete).room s m args below meth c H locs 0 0 (MQ below (QI X L out) args s 0 0 (AA X L)) (F0 m 4 ls [])) {i0 : Nat} {x1 : Int32} {x2 : Int32} {x3 : Int32} {F : Mem} {H : Heap} {locs : List Loc} {ls : Array Slot} (o0 : oO L 3 i0) (hI : Iv X L s H locs F) (hl : lv_has ls 4 [(0, .ref (mAd X i0)), (1, .int x1), (2, .int x2), (3, .int x3)]) (h : b_Tr_complete_4 L k4 i0 x1 x2 x3 F = some out) : W p l e (headSpec w_Tr_complete r_Tr_complete).room s m args below meth c H locs 0 0 (MQ below (QI X L out) args s 0 0 (AA X L)) (F0 m 4 ls []) := by
  unfold b_Tr_complete_4 at h
  obtain ⟨S, hK, hT, hW, hr, hlk⟩ := id hC
  have hx := S.1
  have hb := S.2.1
  refine lv_iload_n hx hb d_Tr_complete_4 rfl (lv_at hl 3 rfl) ?_
  refine lv_iload_n hx hb d_Tr_complete_5 rfl (lv_at hl 1 rfl) ?_
  refine lv_icmp_ge (tgt := 36) hx hb d_Tr_complete_6 rfl (fun hc => ?_) (fun hc => ?_)
  · replace h := (if_pos hc).symm.trans h
    refine lv_iload_n hx hb d_Tr_complete_36 rfl (lv_at hl 2 rfl) ?_
    refine lv_if_eq (tgt := 47) hx hb d_Tr_complete_37 rfl (fun hc => ?_) (fun hc => ?_)
    · replace h := (if_pos hc).symm.trans h
      exact t_Tr_complete_47 hC   hI (lv_sub hl [] rfl) h
    · replace h := (if_neg hc).symm.trans h
      refine lv_iload_n hx hb d_Tr_complete_40 rfl (lv_at hl 2 rfl) ?_
      refine lv_sipush (v := 128) hx hb d_Tr_complete_41 (by decide) ?_
      refine lv_icmp_lt (tgt := 49) hx hb d_Tr_complete_44 rfl (fun hc => ?_) (fun hc => ?_)
      · replace h := (if_pos hc).symm.trans h
        refine lv_aload_n hx hb d_Tr_complete_49 rfl (lv_at hl 0 rfl) ?_
        refine lv_bipush (v := 32) hx hb d_Tr_complete_50 (by decide) ?_
        refine lv_iload_n hx hb d_Tr_complete_52 rfl (lv_at hl 2 rfl) ?_
        obtain ⟨q1, e2, h⟩ := un_bi h
        refine w_callSi (As := [.int x2]) (rest := [.int (32 : Int32), .ref (mAd X i0)]) S hK hI hT (c_Int_numberOfLeadingZeros l hW  e2) (va_cwS 1 S.2.2.2.2 (gd_S lc_Int_numberOfLeadingZeros lm_Tr_25 lst_Int_numberOfLeadingZeros ln_Int) rfl rfl rfl hd_Int_numberOfLeadingZeros.2 ⟨Nat.le_of_ble_eq_true rfl, Nat.le_of_ble_eq_true rfl⟩)  rfl rfl hl.1 (Nat.le_of_ble_eq_true rfl) d_Tr_complete_53 ⟨Nat.zero_le _, Nat.zero_le _⟩ (fun H locs hI => ?_)
        refine lv_isub hx hb d_Tr_complete_56 ?_
        refine w_putI (T := T_Tr) S hK hI o0 rfl hin_Tr ty_Tr tk_Tr nm_Tr 4 (index := 30) (by decide) lf_Tr_30 rfl d_Tr_complete_57 (fun H locs F3 e4 hI => ?_)
        replace h := un_lt h _ e4
        refine lv_iconst (v := 1) hx hb d_Tr_complete_60 rfl ?_
        refine lv_aload_n hx hb d_Tr_complete_61 rfl (lv_at hl 0 rfl) ?_
        refine w_getI (T := T_Tr) S hK hI o0 rfl hin_Tr 4 (index := 30) (by decide) lf_Tr_30 d_Tr_complete_62 ?_
        refine lv_ishl hx hb d_Tr_complete_65 ?_
        refine lv_iload_n hx hb d_Tr_complete_66 rfl (lv_at hl 2 rfl) ?_
        refine lv_isub hx hb d_Tr_complete_67 ?_
        refine lv_istore_n (lv' := [(3, .int ((jshl (1 : Int32) (F3 i0 4)) - x2)), (0, .ref (mAd X i0)), (1, .int x1), (2, .int x2)]) hx hb d_Tr_complete_68 rfl hl (by decide) rfl (fun ls hl => ?_)
        refine lv_iload_n hx hb d_Tr_complete_69 rfl (lv_at hl 0 rfl) ?_
        obtain ⟨q5, e6, h⟩ := un_bi h
        refine w_callSi (As := [.int ((jshl (1 : Int32) (F3 i0 4)) - x2)]) (rest := []) S hK hI hT (c_Int_bitCount l hW  e6) (va_cwS 1 S.2.2.2.2 (gd_S lc_Int_bitCount lm_Tr_34 lst_Int_bitCount ln_Int) rfl rfl rfl hd_Int_bitCount.2 ⟨Nat.le_of_ble_eq_true rfl, Nat.le_of_ble_eq_true rfl⟩)  rfl rfl hl.1 (Nat.le_of_ble_eq_true rfl) d_Tr_complete_70 ⟨Nat.zero_le _, Nat.zero_le _⟩ (fun H locs hI => ?_)
        refine lv_iconst (v := 1) hx hb d_Tr_complete_73 rfl ?_
        refine lv_icmp_eq (tgt := 79) hx hb d_Tr_complete_74 rfl (fun hc => ?_) (fun hc => ?_)
        · replace h := (if_pos hc).symm.trans h
          refine lv_aload_n hx hb d_Tr_complete_79 rfl (lv_at hl 1 rfl) ?_
          have p7 := wt_a hW o0 0 rfl (by decide) (by decide)
          refine w_getR (T := T_Tr) S hK hI o0 rfl hin_Tr 0 (index := 9) (by decide) lf_Tr_9 d_Tr_complete_80 ?_
          refine lv_iload_n hx hb d_Tr_complete_83 rfl (lv_at hl 2 rfl) ?_
          refine lv_bipush (v := 32) hx hb d_Tr_complete_84 (by decide) ?_
          refine lv_iload_n hx hb d_Tr_complete_86 rfl (lv_at hl 0 rfl) ?_
          obtain ⟨q8, e9, h⟩ := un_bi h
          refine w_callSi (As := [.int ((jshl (1 : Int32) (F3 i0 4)) - x2)]) (rest := [.int (32 : Int32), .int x1, .ref (mAd X (mRf L i0 0))]) S hK hI hT (c_Int_numberOfLeadingZeros l hW  e9) (va_cwS 1 S.2.2.2.2 (gd_S lc_Int_numberOfLeadingZeros lm_Tr_25 lst_Int_numberOfLeadingZeros ln_Int) rfl rfl rfl hd_Int_numberOfLeadingZeros.2 ⟨Nat.le_of_ble_eq_true rfl, Nat.le_of_ble_eq_true rfl⟩)  rfl rfl hl.1 (Nat.le_of_ble_eq_true rfl) d_Tr_complete_87 ⟨Nat.zero_le _, Nat.zero_le _⟩ (fun H locs hI => ?_)
          refine lv_isub hx hb d_Tr_complete_90 ?_
          obtain ⟨z10, h⟩ := un_if h
          refine w_iast S hK hI p7 z10 d_Tr_complete_91 (fun H locs F11 e12 hI => ?_)
          replace h := un_lt h _ e12
          refine lv_iconst (v := 1) hx hb d_Tr_complete_92 rfl ?_
          exact w_zret S hK hr hlk hI d_Tr_complete_93 h
        · replace h := (if_neg hc).symm.trans h
          refine lv_iconst (v := 0) hx hb d_Tr_complete_77 rfl ?_
          exact w_zret S hK hr hlk hI d_Tr_complete_78 h
      · replace h := (if_neg hc).symm.trans h
        exact t_Tr_complete_47 hC   hI (lv_sub hl [] rfl) h
  · replace h := (if_neg hc).symm.trans h
    refine lv_aload_n hx hb d_Tr_complete_9 rfl (lv_at hl 0 rfl) ?_
    have p13 := wt_a hW o0 0 rfl (by decide) (by decide)
    refine w_getR (T := T_Tr) S hK hI o0 rfl hin_Tr 0 (index := 9) (by decide) lf_Tr_9 d_Tr_complete_10 ?_
    refine lv_iload_n hx hb d_Tr_complete_13 rfl (lv_at hl 3 rfl) ?_
    obtain ⟨z14, h⟩ := un_if h
    refine w_iald S hK hI hT p13 z14 d_Tr_complete_14 ?_
    refine lv_bipush (v := 7) hx hb d_Tr_complete_15 (by decide) ?_
    refine lv_icmp_le (tgt := 22) hx hb d_Tr_complete_17 rfl (fun hc => ?_) (fun hc => ?_)
    · replace h := (if_pos hc).symm.trans h
      refine lv_iload_n hx hb d_Tr_complete_22 rfl (lv_at hl 2 rfl) ?_
      refine lv_aload_n hx hb d_Tr_complete_23 rfl (lv_at hl 0 rfl) ?_
      refine lv_iload_n hx hb d_Tr_complete_24 rfl (lv_at hl 3 rfl) ?_
      obtain ⟨q15, e16, h⟩ := un_bi h
      refine w_callVi (As := [.int x3]) (rest := [.int x2]) S hK hI hT (c_Tr_cellsOf l hW o0 e16) (cwV 1 S.2.2.2.2 (gd_V lc_Tr_cellsOf lm_Tr_21 li_Tr_cellsOf ls_Tr_cellsOf ln_Tr) rfl rfl rfl hd_Tr_cellsOf ⟨Nat.le_of_ble_eq_true rfl, Nat.le_of_ble_eq_true rfl⟩) o0 rfl (by decide) rfl rfl hl.1 (Nat.le_of_ble_eq_true rfl) d_Tr_complete_25 ⟨Nat.zero_le _, Nat.zero_le _⟩ (fun H locs hI => ?_)
      refine lv_iadd hx hb d_Tr_complete_28 ?_
      refine lv_istore_n (lv' := [(2, .int (x2 + q15.1)), (0, .ref (mAd X i0)), (1, .int x1), (3, .int x3)]) hx hb d_Tr_complete_29 rfl hl (by decide) rfl (fun ls hl => ?_)
      refine lv_iinc (k := 3) (v := x3 + (1 : Int32)) (lv' := [(3, .int (x3 + (1 : Int32))), (2, .int (x2 + q15.1)), (0, .ref (mAd X i0)), (1, .int x1)]) hx hb d_Tr_complete_30 hl rfl rfl (by decide) rfl (fun ls hl => ?_)
      refine lv_goto (tgt := 4) hx hb d_Tr_complete_33 rfl ?_
      exact hk4 _ _ _ _ _ _ _ _ o0 hI (lv_sub hl [2, 3, 1, 0] rfl) h
    · replace h := (if_neg hc).symm.trans h
      refine lv_iconst (v := 0) hx hb d_Tr_complete_20 rfl ?_
      exact w_zret S hK hr hlk hI d_Tr_complete_21 h
def f_Tr_complete_4 (L : La)  : Nat → Nat → Int32 → Int32 → Int32 → Mem → Option (Int32 × Mem)
  | 0 => fun _ _ _ _ _ => none
  | n + 1 => b_Tr_complete_4 L (f_Tr_complete_4 L  n)
theorem tf_Tr_complete_4 (hC : Cx X L p s m args meth c cc_Tr_complete 4 w_Tr_complete R_Tr (some .boolean))  {out : (Int32 × Mem)}  (n : Nat) : ∀ (i0 : Nat) (x1 : Int32) (x2 : Int32) (x3 : Int32) (F : Mem) (H : Heap) (locs : List Loc) (ls : Array Slot), oO L 3 i0 → Iv X L s H locs F → lv_has ls 4 [(0, .ref (mAd X i0)), (1, .int x1), (2, .int x2), (3, .int x3)] → f_Tr_complete_4 L  n i0 x1 x2 x3 F = some out → W p l e (headSpec w_Tr_complete r_Tr_complete).room s m args below meth c H locs 0 0 (MQ below (QI X L out) args s 0 0 (AA X L)) (F0 m 4 ls []) := by
  induction n with
  | zero => intro i0 x1 x2 x3 F H locs ls o0 hI hl h; cases h
  | succ n ih => intro i0 x1 x2 x3 F H locs ls o0 hI hl h; exact t_Tr_complete_4 hC ih o0 hI hl h
def f_Tr_complete (L : La) (i0 : Nat) (x1 : Int32) (F : Mem) : Option (Int32 × Mem) :=
  f_Tr_complete_4 L  mFU i0 x1 (0 : Int32) (0 : Int32) F
set_option maxHeartbeats 4000000 in
theorem c_Tr_complete (l : Launch) {X : Xs} {L : La} (hW : WT L) {out : (Int32 × Mem)} {i0 : Nat} {x1 : Int32} {F : Mem} (o0 : oO L 3 i0) (h : f_Tr_complete L i0 x1 F = some out) : Met l y_Tr_complete w_Tr_complete r_Tr_complete (va_Pc [.ref (mAd X i0), .int x1] (Pr X L F)) (QI X L out) 0 0 (AA X L) := by
  refine mk_met (by decide) rfl (Nat.le_of_ble_eq_true rfl) hW ?_
  intro p e s m args below meth c ls hC hI hl
  have hl : lv_has ls 4 [(0, .ref (mAd X i0)), (1, .int x1)] := hl
  generalize hHe : s.heap = H at hI ⊢
  generalize ([] : List Loc) = locs at hI ⊢
  unfold f_Tr_complete at h
  obtain ⟨S, hK, hT, hW, hr, hlk⟩ := id hC
  have hx := S.1
  have hb := S.2.1
  refine lv_iconst (v := 0) hx hb d_Tr_complete_0 rfl ?_
  refine lv_istore_n (lv' := [(2, .int (0 : Int32)), (0, .ref (mAd X i0)), (1, .int x1)]) hx hb d_Tr_complete_1 rfl hl (by decide) rfl (fun ls hl => ?_)
  refine lv_iconst (v := 0) hx hb d_Tr_complete_2 rfl ?_
  refine lv_istore_n (lv' := [(3, .int (0 : Int32)), (2, .int (0 : Int32)), (0, .ref (mAd X i0)), (1, .int x1)]) hx hb d_Tr_complete_3 rfl hl (by decide) rfl (fun ls hl => ?_)
  exact tf_Tr_complete_4 hC  mFU _ _ _ _ _ _ _ _ o0 hI (lv_sub hl [2, 3, 1, 0] rfl) h
end
theorem d_Tr_dealCells_0 : decode cc_Tr_dealCells 0 = .ok (.iconst 0, 1) := by decide +kernel
theorem d_Tr_dealCells_1 : decode cc_Tr_dealCells 1 = .ok (.istore_n 2, 1) := by decide +kernel
theorem d_Tr_dealCells_2 : decode cc_Tr_dealCells 2 = .ok (.iconst 1, 1) := by decide +kernel
theorem d_Tr_dealCells_3 : decode cc_Tr_dealCells 3 = .ok (.istore_n 3, 1) := by decide +kernel
theorem d_Tr_dealCells_4 : decode cc_Tr_dealCells 4 = .ok (.iload_n 3, 1) := by decide +kernel
theorem d_Tr_dealCells_5 : decode cc_Tr_dealCells 5 = .ok (.bipush (7), 2) := by decide +kernel
theorem d_Tr_dealCells_7 : decode cc_Tr_dealCells 7 = .ok (.if_icmp .gt (82), 3) := by decide +kernel
theorem d_Tr_dealCells_10 : decode cc_Tr_dealCells 10 = .ok (.iconst 0, 1) := by decide +kernel
theorem d_Tr_dealCells_11 : decode cc_Tr_dealCells 11 = .ok (.istore 4, 2) := by decide +kernel
theorem d_Tr_dealCells_13 : decode cc_Tr_dealCells 13 = .ok (.iload 4, 2) := by decide +kernel
theorem d_Tr_dealCells_15 : decode cc_Tr_dealCells 15 = .ok (.iload_n 1, 1) := by decide +kernel
theorem d_Tr_dealCells_16 : decode cc_Tr_dealCells 16 = .ok (.if_icmp .gt (67), 3) := by decide +kernel
theorem d_Tr_dealCells_19 : decode cc_Tr_dealCells 19 = .ok (.aload_n 0, 1) := by decide +kernel
theorem d_Tr_dealCells_20 : decode cc_Tr_dealCells 20 = .ok (.getfield 9, 3) := by decide +kernel
theorem d_Tr_dealCells_23 : decode cc_Tr_dealCells 23 = .ok (.iload 4, 2) := by decide +kernel
theorem d_Tr_dealCells_25 : decode cc_Tr_dealCells 25 = .ok (.iaload, 1) := by decide +kernel
theorem d_Tr_dealCells_26 : decode cc_Tr_dealCells 26 = .ok (.iload_n 3, 1) := by decide +kernel
theorem d_Tr_dealCells_27 : decode cc_Tr_dealCells 27 = .ok (.if_icmp .ne (50), 3) := by decide +kernel
theorem d_Tr_dealCells_30 : decode cc_Tr_dealCells 30 = .ok (.aload_n 0, 1) := by decide +kernel
theorem d_Tr_dealCells_31 : decode cc_Tr_dealCells 31 = .ok (.getfield 15, 3) := by decide +kernel
theorem d_Tr_dealCells_34 : decode cc_Tr_dealCells 34 = .ok (.iload 4, 2) := by decide +kernel
theorem d_Tr_dealCells_36 : decode cc_Tr_dealCells 36 = .ok (.iload_n 2, 1) := by decide +kernel
theorem d_Tr_dealCells_37 : decode cc_Tr_dealCells 37 = .ok (.iastore, 1) := by decide +kernel
theorem d_Tr_dealCells_38 : decode cc_Tr_dealCells 38 = .ok (.iload_n 2, 1) := by decide +kernel
theorem d_Tr_dealCells_39 : decode cc_Tr_dealCells 39 = .ok (.aload_n 0, 1) := by decide +kernel
theorem d_Tr_dealCells_40 : decode cc_Tr_dealCells 40 = .ok (.iload 4, 2) := by decide +kernel
theorem d_Tr_dealCells_42 : decode cc_Tr_dealCells 42 = .ok (.invokevirtual 21, 3) := by decide +kernel
theorem d_Tr_dealCells_45 : decode cc_Tr_dealCells 45 = .ok (.iadd, 1) := by decide +kernel
theorem d_Tr_dealCells_46 : decode cc_Tr_dealCells 46 = .ok (.istore 5, 2) := by decide +kernel
theorem d_Tr_dealCells_48 : decode cc_Tr_dealCells 48 = .ok (.iload_n 2, 1) := by decide +kernel
theorem d_Tr_dealCells_49 : decode cc_Tr_dealCells 49 = .ok (.iload 5, 2) := by decide +kernel
theorem d_Tr_dealCells_51 : decode cc_Tr_dealCells 51 = .ok (.if_icmp .ge (26), 3) := by decide +kernel
theorem d_Tr_dealCells_54 : decode cc_Tr_dealCells 54 = .ok (.iload_n 2, 1) := by decide +kernel
theorem d_Tr_dealCells_55 : decode cc_Tr_dealCells 55 = .ok (.aload_n 0, 1) := by decide +kernel
theorem d_Tr_dealCells_56 : decode cc_Tr_dealCells 56 = .ok (.getfield 18, 3) := by decide +kernel
theorem d_Tr_dealCells_59 : decode cc_Tr_dealCells 59 = .ok (.arraylength, 1) := by decide +kernel
theorem d_Tr_dealCells_60 : decode cc_Tr_dealCells 60 = .ok (.if_icmp .ge (17), 3) := by decide +kernel
theorem d_Tr_dealCells_63 : decode cc_Tr_dealCells 63 = .ok (.aload_n 0, 1) := by decide +kernel
theorem d_Tr_dealCells_64 : decode cc_Tr_dealCells 64 = .ok (.getfield 18, 3) := by decide +kernel
theorem d_Tr_dealCells_67 : decode cc_Tr_dealCells 67 = .ok (.iload_n 2, 1) := by decide +kernel
theorem d_Tr_dealCells_68 : decode cc_Tr_dealCells 68 = .ok (.iload 4, 2) := by decide +kernel
theorem d_Tr_dealCells_70 : decode cc_Tr_dealCells 70 = .ok (.iastore, 1) := by decide +kernel
theorem d_Tr_dealCells_71 : decode cc_Tr_dealCells 71 = .ok (.iinc 2 (1), 3) := by decide +kernel
theorem d_Tr_dealCells_74 : decode cc_Tr_dealCells 74 = .ok (.goto (-26), 3) := by decide +kernel
theorem d_Tr_dealCells_77 : decode cc_Tr_dealCells 77 = .ok (.iinc 4 (1), 3) := by decide +kernel
theorem d_Tr_dealCells_80 : decode cc_Tr_dealCells 80 = .ok (.goto (-67), 3) := by decide +kernel
theorem d_Tr_dealCells_83 : decode cc_Tr_dealCells 83 = .ok (.iinc 3 (1), 3) := by decide +kernel
theorem d_Tr_dealCells_86 : decode cc_Tr_dealCells 86 = .ok (.goto (-82), 3) := by decide +kernel
theorem d_Tr_dealCells_89 : decode cc_Tr_dealCells 89 = .ok (.return_, 1) := by decide +kernel
section
variable {p : Program} {l : Launch} {e : Env} {s : State} {m : MethodId} {args : Array Value} {below : List Frame} {meth : Method} {c : Code} {X : Xs} {L : La}
def b_Tr_dealCells_77 (L : La) (k4 : Nat → Int32 → Int32 → Int32 → Mem → Option Mem) (k13 : Nat → Int32 → Int32 → Int32 → Int32 → Mem → Option Mem) (i0 : Nat) (x1 : Int32) (x2 : Int32) (x3 : Int32) (x4 : Int32) (F : Mem) : Option Mem :=
  k13 i0 x1 x2 x3 (x4 + (1 : Int32)) F
set_option maxHeartbeats 4000000 in
theorem t_Tr_dealCells_77 (hC : Cx X L p s m args meth c cc_Tr_dealCells 6 w_Tr_dealCells R_Tr none) {k4 : Nat → Int32 → Int32 → Int32 → Mem → Option Mem} {k13 : Nat → Int32 → Int32 → Int32 → Int32 → Mem → Option Mem} {out : Mem} (hk4 : ∀ (i0 : Nat) (x1 : Int32) (x2 : Int32) (x3 : Int32) (F : Mem) (H : Heap) (locs : List Loc) (ls : Array Slot), oO L 3 i0 → Iv X L s H locs F → lv_has ls 6 [(0, .ref (mAd X i0)), (1, .int x1), (2, .int x2), (3, .int x3)] → k4 i0 x1 x2 x3 F = some out → W p l e (headSpec w_Tr_dealCells r_Tr_dealCells).room s m args below meth c H locs 0 0 (MQ below (QV X L out) args s 0 0 (AA X L)) (F0 m 4 ls [])) (hk13 : ∀ (i0 : Nat) (x1 : Int32) (x2 : Int32) (x3 : Int32) (x4 : Int32) (F : Mem) (H : Heap) (locs : List Loc) (ls : Array Slot), oO L 3 i0 → Iv X L s H locs F → lv_has ls 6 [(0, .ref (mAd X i0)), (1, .int x1), (2, .int x2), (3, .int x3), (4, .int x4)] → k13 i0 x1 x2 x3 x4 F = some out → W p l e (headSpec w_Tr_dealCells r_Tr_dealCells).room s m args below meth c H locs 0 0 (MQ below (QV X L out) args s 0 0 (AA X L)) (F0 m 13 ls [])) {i0 : Nat} {x1 : Int32} {x2 : Int32} {x3 : Int32} {x4 : Int32} {F : Mem} {H : Heap} {locs : List Loc} {ls : Array Slot} (o0 : oO L 3 i0) (hI : Iv X L s H locs F) (hl : lv_has ls 6 [(0, .ref (mAd X i0)), (1, .int x1), (2, .int x2), (3, .int x3), (4, .int x4)]) (h : b_Tr_dealCells_77 L k4 k13 i0 x1 x2 x3 x4 F = some out) : W p l e (headSpec w_Tr_dealCells r_Tr_dealCells).room s m args below meth c H locs 0 0 (MQ below (QV X L out) args s 0 0 (AA X L)) (F0 m 77 ls []) := by
  unfold b_Tr_dealCells_77 at h
  obtain ⟨S, hK, hT, hW, hr, hlk⟩ := id hC
  have hx := S.1
  have hb := S.2.1
  refine lv_iinc (k := 4) (v := x4 + (1 : Int32)) (lv' := [(4, .int (x4 + (1 : Int32))), (0, .ref (mAd X i0)), (1, .int x1), (2, .int x2), (3, .int x3)]) hx hb d_Tr_dealCells_77 hl rfl rfl (by decide) rfl (fun ls hl => ?_)
  refine lv_goto (tgt := 13) hx hb d_Tr_dealCells_80 rfl ?_
  exact hk13 _ _ _ _ _ _ _ _ _ o0 hI (lv_sub hl [1, 2, 3, 4, 0] rfl) h
def b_Tr_dealCells_48 (L : La) (k4 : Nat → Int32 → Int32 → Int32 → Mem → Option Mem) (k13 : Nat → Int32 → Int32 → Int32 → Int32 → Mem → Option Mem) (k48 : Nat → Int32 → Int32 → Int32 → Int32 → Int32 → Mem → Option Mem) (i0 : Nat) (x1 : Int32) (x2 : Int32) (x3 : Int32) (x4 : Int32) (x5 : Int32) (F : Mem) : Option Mem :=
  if x5 ≤ x2 then
    b_Tr_dealCells_77 L k4 k13 i0 x1 x2 x3 x4 F
  else
    if (nI (mGl L (mRf L i0 2))) ≤ x2 then
      b_Tr_dealCells_77 L k4 k13 i0 x1 x2 x3 x4 F
    else
      if inb x2 (mLn L (mRf L i0 2)) ∨ ¬ (mRf L i0 2) < mNc L then none else
      lt' (u2 F (mRf L i0 2) x2.toNatClampNeg x4) fun F4 =>
      k48 i0 x1 (x2 + (1 : Int32)) x3 x4 x5 F4
set_option maxHeartbeats 4000000 in
theorem t_Tr_dealCells_48 (hC : Cx X L p s m args meth c cc_Tr_dealCells 6 w_Tr_dealCells R_Tr none) {k4 : Nat → Int32 → Int32 → Int32 → Mem → Option Mem} {k13 : Nat → Int32 → Int32 → Int32 → Int32 → Mem → Option Mem} {k48 : Nat → Int32 → Int32 → Int32 → Int32 → Int32 → Mem → Option Mem} {out : Mem} (hk4 : ∀ (i0 : Nat) (x1 : Int32) (x2 : Int32) (x3 : Int32) (F : Mem) (H : Heap) (locs : List Loc) (ls : Array Slot), oO L 3 i0 → Iv X L s H locs F → lv_has ls 6 [(0, .ref (mAd X i0)), (1, .int x1), (2, .int x2), (3, .int x3)] → k4 i0 x1 x2 x3 F = some out → W p l e (headSpec w_Tr_dealCells r_Tr_dealCells).room s m args below meth c H locs 0 0 (MQ below (QV X L out) args s 0 0 (AA X L)) (F0 m 4 ls [])) (hk13 : ∀ (i0 : Nat) (x1 : Int32) (x2 : Int32) (x3 : Int32) (x4 : Int32) (F : Mem) (H : Heap) (locs : List Loc) (ls : Array Slot), oO L 3 i0 → Iv X L s H locs F → lv_has ls 6 [(0, .ref (mAd X i0)), (1, .int x1), (2, .int x2), (3, .int x3), (4, .int x4)] → k13 i0 x1 x2 x3 x4 F = some out → W p l e (headSpec w_Tr_dealCells r_Tr_dealCells).room s m args below meth c H locs 0 0 (MQ below (QV X L out) args s 0 0 (AA X L)) (F0 m 13 ls [])) (hk48 : ∀ (i0 : Nat) (x1 : Int32) (x2 : Int32) (x3 : Int32) (x4 : Int32) (x5 : Int32) (F : Mem) (H : Heap) (locs : List Loc) (ls : Array Slot), oO L 3 i0 → Iv X L s H locs F → lv_has ls 6 [(0, .ref (mAd X i0)), (1, .int x1), (2, .int x2), (3, .int x3), (4, .int x4), (5, .int x5)] → k48 i0 x1 x2 x3 x4 x5 F = some out → W p l e (headSpec w_Tr_dealCells r_Tr_dealCells).room s m args below meth c H locs 0 0 (MQ below (QV X L out) args s 0 0 (AA X L)) (F0 m 48 ls [])) {i0 : Nat} {x1 : Int32} {x2 : Int32} {x3 : Int32} {x4 : Int32} {x5 : Int32} {F : Mem} {H : Heap} {locs : List Loc} {ls : Array Slot} (o0 : oO L 3 i0) (hI : Iv X L s H locs F) (hl : lv_has ls 6 [(0, .ref (mAd X i0)), (1, .int x1), (2, .int x2), (3, .int x3), (4, .int x4), (5, .int x5)]) (h : b_Tr_dealCells_48 L k4 k13 k48 i0 x1 x2 x3 x4 x5 F = some out) : W p l e (headSpec w_Tr_dealCells r_Tr_dealCells).room s m args below meth c H locs 0 0 (MQ below (QV X L out) args s 0 0 (AA X L)) (F0 m 48 ls []) := by
  unfold b_Tr_dealCells_48 at h
  obtain ⟨S, hK, hT, hW, hr, hlk⟩ := id hC
  have hx := S.1
  have hb := S.2.1
  refine lv_iload_n hx hb d_Tr_dealCells_48 rfl (lv_at hl 2 rfl) ?_
  refine lv_iload hx hb d_Tr_dealCells_49 (lv_at hl 5 rfl) ?_
  refine lv_icmp_ge (tgt := 77) hx hb d_Tr_dealCells_51 rfl (fun hc => ?_) (fun hc => ?_)
  · replace h := (if_pos hc).symm.trans h
    exact t_Tr_dealCells_77 hC hk4 hk13 o0 hI (lv_sub hl [0, 1, 2, 3, 4] rfl) h
  · replace h := (if_neg hc).symm.trans h
    refine lv_iload_n hx hb d_Tr_dealCells_54 rfl (lv_at hl 2 rfl) ?_
    refine lv_aload_n hx hb d_Tr_dealCells_55 rfl (lv_at hl 0 rfl) ?_
    have p1 := wt_a hW o0 2 rfl (by decide) (by decide)
    refine w_getR (T := T_Tr) S hK hI o0 rfl hin_Tr 2 (index := 18) (by decide) lf_Tr_18 d_Tr_dealCells_56 ?_
    refine w_alen S hK hI hT p1 d_Tr_dealCells_59 ?_
    refine lv_icmp_ge (tgt := 77) hx hb d_Tr_dealCells_60 rfl (fun hc => ?_) (fun hc => ?_)
    · replace h := (if_pos hc).symm.trans h
      exact t_Tr_dealCells_77 hC hk4 hk13 o0 hI (lv_sub hl [0, 1, 2, 3, 4] rfl) h
    · replace h := (if_neg hc).symm.trans h
      refine lv_aload_n hx hb d_Tr_dealCells_63 rfl (lv_at hl 0 rfl) ?_
      have p2 := wt_a hW o0 2 rfl (by decide) (by decide)
      refine w_getR (T := T_Tr) S hK hI o0 rfl hin_Tr 2 (index := 18) (by decide) lf_Tr_18 d_Tr_dealCells_64 ?_
      refine lv_iload_n hx hb d_Tr_dealCells_67 rfl (lv_at hl 2 rfl) ?_
      refine lv_iload hx hb d_Tr_dealCells_68 (lv_at hl 4 rfl) ?_
      obtain ⟨z3, h⟩ := un_if h
      refine w_iast S hK hI p2 z3 d_Tr_dealCells_70 (fun H locs F4 e5 hI => ?_)
      replace h := un_lt h _ e5
      refine lv_iinc (k := 2) (v := x2 + (1 : Int32)) (lv' := [(2, .int (x2 + (1 : Int32))), (0, .ref (mAd X i0)), (1, .int x1), (3, .int x3), (4, .int x4), (5, .int x5)]) hx hb d_Tr_dealCells_71 hl rfl rfl (by decide) rfl (fun ls hl => ?_)
      refine lv_goto (tgt := 48) hx hb d_Tr_dealCells_74 rfl ?_
      exact hk48 _ _ _ _ _ _ _ _ _ _ o0 hI (lv_sub hl [1, 2, 0, 3, 4, 5] rfl) h
def f_Tr_dealCells_48 (L : La) (k4 : Nat → Int32 → Int32 → Int32 → Mem → Option Mem) (k13 : Nat → Int32 → Int32 → Int32 → Int32 → Mem → Option Mem) : Nat → Nat → Int32 → Int32 → Int32 → Int32 → Int32 → Mem → Option Mem
  | 0 => fun _ _ _ _ _ _ _ => none
  | n + 1 => b_Tr_dealCells_48 L k4 k13 (f_Tr_dealCells_48 L k4 k13 n)
theorem tf_Tr_dealCells_48 (hC : Cx X L p s m args meth c cc_Tr_dealCells 6 w_Tr_dealCells R_Tr none) {k4 : Nat → Int32 → Int32 → Int32 → Mem → Option Mem} {k13 : Nat → Int32 → Int32 → Int32 → Int32 → Mem → Option Mem} {out : Mem} (hk4 : ∀ (i0 : Nat) (x1 : Int32) (x2 : Int32) (x3 : Int32) (F : Mem) (H : Heap) (locs : List Loc) (ls : Array Slot), oO L 3 i0 → Iv X L s H locs F → lv_has ls 6 [(0, .ref (mAd X i0)), (1, .int x1), (2, .int x2), (3, .int x3)] → k4 i0 x1 x2 x3 F = some out → W p l e (headSpec w_Tr_dealCells r_Tr_dealCells).room s m args below meth c H locs 0 0 (MQ below (QV X L out) args s 0 0 (AA X L)) (F0 m 4 ls [])) (hk13 : ∀ (i0 : Nat) (x1 : Int32) (x2 : Int32) (x3 : Int32) (x4 : Int32) (F : Mem) (H : Heap) (locs : List Loc) (ls : Array Slot), oO L 3 i0 → Iv X L s H locs F → lv_has ls 6 [(0, .ref (mAd X i0)), (1, .int x1), (2, .int x2), (3, .int x3), (4, .int x4)] → k13 i0 x1 x2 x3 x4 F = some out → W p l e (headSpec w_Tr_dealCells r_Tr_dealCells).room s m args below meth c H locs 0 0 (MQ below (QV X L out) args s 0 0 (AA X L)) (F0 m 13 ls [])) (n : Nat) : ∀ (i0 : Nat) (x1 : Int32) (x2 : Int32) (x3 : Int32) (x4 : Int32) (x5 : Int32) (F : Mem) (H : Heap) (locs : List Loc) (ls : Array Slot), oO L 3 i0 → Iv X L s H locs F → lv_has ls 6 [(0, .ref (mAd X i0)), (1, .int x1), (2, .int x2), (3, .int x3), (4, .int x4), (5, .int x5)] → f_Tr_dealCells_48 L k4 k13 n i0 x1 x2 x3 x4 x5 F = some out → W p l e (headSpec w_Tr_dealCells r_Tr_dealCells).room s m args below meth c H locs 0 0 (MQ below (QV X L out) args s 0 0 (AA X L)) (F0 m 48 ls []) := by
  induction n with
  | zero => intro i0 x1 x2 x3 x4 x5 F H locs ls o0 hI hl h; cases h
  | succ n ih => intro i0 x1 x2 x3 x4 x5 F H locs ls o0 hI hl h; exact t_Tr_dealCells_48 hC hk4 hk13 ih o0 hI hl h
def b_Tr_dealCells_13 (L : La) (k4 : Nat → Int32 → Int32 → Int32 → Mem → Option Mem) (k13 : Nat → Int32 → Int32 → Int32 → Int32 → Mem → Option Mem) (i0 : Nat) (x1 : Int32) (x2 : Int32) (x3 : Int32) (x4 : Int32) (F : Mem) : Option Mem :=
  if x1 < x4 then
    k4 i0 x1 x2 (x3 + (1 : Int32)) F
  else
    if inb x4 (mGl L (mRf L i0 0)) then none else
    if (mGa L F (mRf L i0 0) x4.toNatClampNeg) = x3 then
      if inb x4 (mLn L (mRf L i0 1)) ∨ ¬ (mRf L i0 1) < mNc L then none else
      lt' (u2 F (mRf L i0 1) x4.toNatClampNeg x2) fun F5 =>
      (f_Tr_cellsOf L i0 x4 F5).bind fun q7 =>
      f_Tr_dealCells_48 L k4 k13 mFU i0 x1 x2 x3 x4 (x2 + q7.1) q7.2
    else
      b_Tr_dealCells_77 L k4 k13 i0 x1 x2 x3 x4 F
set_option maxHeartbeats 4000000 in
theorem t_Tr_dealCells_13 (hC : Cx X L p s m args meth c cc_Tr_dealCells 6 w_Tr_dealCells R_Tr none) {k4 : Nat → Int32 → Int32 → Int32 → Mem → Option Mem} {k13 : Nat → Int32 → Int32 → Int32 → Int32 → Mem → Option Mem} {out : Mem} (hk4 : ∀ (i0 : Nat) (x1 : Int32) (x2 : Int32) (x3 : Int32) (F : Mem) (H : Heap) (locs : List Loc) (ls : Array Slot), oO L 3 i0 → Iv X L s H locs F → lv_has ls 6 [(0, .ref (mAd X i0)), (1, .int x1), (2, .int x2), (3, .int x3)] → k4 i0 x1 x2 x3 F = some out → W p l e (headSpec w_Tr_dealCells r_Tr_dealCells).room s m args below meth c H locs 0 0 (MQ below (QV X L out) args s 0 0 (AA X L)) (F0 m 4 ls [])) (hk13 : ∀ (i0 : Nat) (x1 : Int32) (x2 : Int32) (x3 : Int32) (x4 : Int32) (F : Mem) (H : Heap) (locs : List Loc) (ls : Array Slot), oO L 3 i0 → Iv X L s H locs F → lv_has ls 6 [(0, .ref (mAd X i0)), (1, .int x1), (2, .int x2), (3, .int x3), (4, .int x4)] → k13 i0 x1 x2 x3 x4 F = some out → W p l e (headSpec w_Tr_dealCells r_Tr_dealCells).room s m args below meth c H locs 0 0 (MQ below (QV X L out) args s 0 0 (AA X L)) (F0 m 13 ls [])) {i0 : Nat} {x1 : Int32} {x2 : Int32} {x3 : Int32} {x4 : Int32} {F : Mem} {H : Heap} {locs : List Loc} {ls : Array Slot} (o0 : oO L 3 i0) (hI : Iv X L s H locs F) (hl : lv_has ls 6 [(0, .ref (mAd X i0)), (1, .int x1), (2, .int x2), (3, .int x3), (4, .int x4)]) (h : b_Tr_dealCells_13 L k4 k13 i0 x1 x2 x3 x4 F = some out) : W p l e (headSpec w_Tr_dealCells r_Tr_dealCells).room s m args below meth c H locs 0 0 (MQ below (QV X L out) args s 0 0 (AA X L)) (F0 m 13 ls []) := by
  unfold b_Tr_dealCells_13 at h
  obtain ⟨S, hK, hT, hW, hr, hlk⟩ := id hC
  have hx := S.1
  have hb := S.2.1
  refine lv_iload hx hb d_Tr_dealCells_13 (lv_at hl 4 rfl) ?_
  refine lv_iload_n hx hb d_Tr_dealCells_15 rfl (lv_at hl 1 rfl) ?_
  refine lv_icmp_gt (tgt := 83) hx hb d_Tr_dealCells_16 rfl (fun hc => ?_) (fun hc => ?_)
  · replace h := (if_pos hc).symm.trans h
    refine lv_iinc (k := 3) (v := x3 + (1 : Int32)) (lv' := [(3, .int (x3 + (1 : Int32))), (0, .ref (mAd X i0)), (1, .int x1), (2, .int x2), (4, .int x4)]) hx hb d_Tr_dealCells_83 hl rfl rfl (by decide) rfl (fun ls hl => ?_)
    refine lv_goto (tgt := 4) hx hb d_Tr_dealCells_86 rfl ?_
    exact hk4 _ _ _ _ _ _ _ _ o0 hI (lv_sub hl [1, 2, 3, 0] rfl) h
  · replace h := (if_neg hc).symm.trans h
    refine lv_aload_n hx hb d_Tr_dealCells_19 rfl (lv_at hl 0 rfl) ?_
    have p1 := wt_a hW o0 0 rfl (by decide) (by decide)
    refine w_getR (T := T_Tr) S hK hI o0 rfl hin_Tr 0 (index := 9) (by decide) lf_Tr_9 d_Tr_dealCells_20 ?_
    refine lv_iload hx hb d_Tr_dealCells_23 (lv_at hl 4 rfl) ?_
    obtain ⟨z2, h⟩ := un_if h
    refine w_iald S hK hI hT p1 z2 d_Tr_dealCells_25 ?_
    refine lv_iload_n hx hb d_Tr_dealCells_26 rfl (lv_at hl 3 rfl) ?_
    refine lv_icmp_ne (tgt := 77) hx hb d_Tr_dealCells_27 rfl (fun hc => ?_) (fun hc => ?_)
    · replace h := (if_neg hc).symm.trans h
      exact t_Tr_dealCells_77 hC hk4 hk13 o0 hI hl h
    · replace h := (if_pos hc).symm.trans h
      refine lv_aload_n hx hb d_Tr_dealCells_30 rfl (lv_at hl 0 rfl) ?_
      have p3 := wt_a hW o0 1 rfl (by decide) (by decide)
      refine w_getR (T := T_Tr) S hK hI o0 rfl hin_Tr 1 (index := 15) (by decide) lf_Tr_15 d_Tr_dealCells_31 ?_
      refine lv_iload hx hb d_Tr_dealCells_34 (lv_at hl 4 rfl) ?_
      refine lv_iload_n hx hb d_Tr_dealCells_36 rfl (lv_at hl 2 rfl) ?_
      obtain ⟨z4, h⟩ := un_if h
      refine w_iast S hK hI p3 z4 d_Tr_dealCells_37 (fun H locs F5 e6 hI => ?_)
      replace h := un_lt h _ e6
      refine lv_iload_n hx hb d_Tr_dealCells_38 rfl (lv_at hl 2 rfl) ?_
      refine lv_aload_n hx hb d_Tr_dealCells_39 rfl (lv_at hl 0 rfl) ?_
      refine lv_iload hx hb d_Tr_dealCells_40 (lv_at hl 4 rfl) ?_
      obtain ⟨q7, e8, h⟩ := un_bi h
      refine w_callVi (As := [.int x4]) (rest := [.int x2]) S hK hI hT (c_Tr_cellsOf l hW o0 e8) (cwV 1 S.2.2.2.2 (gd_V lc_Tr_cellsOf lm_Tr_21 li_Tr_cellsOf ls_Tr_cellsOf ln_Tr) rfl rfl rfl hd_Tr_cellsOf ⟨Nat.le_of_ble_eq_true rfl, Nat.le_of_ble_eq_true rfl⟩) o0 rfl (by decide) rfl rfl hl.1 (Nat.le_of_ble_eq_true rfl) d_Tr_dealCells_42 ⟨Nat.zero_le _, Nat.zero_le _⟩ (fun H locs hI => ?_)
      refine lv_iadd hx hb d_Tr_dealCells_45 ?_
      refine lv_istore (lv' := [(5, .int (x2 + q7.1)), (0, .ref (mAd X i0)), (1, .int x1), (2, .int x2), (3, .int x3), (4, .int x4)]) hx hb d_Tr_dealCells_46 hl (by decide) rfl (fun ls hl => ?_)
      exact tf_Tr_dealCells_48 hC hk4 hk13 mFU _ _ _ _ _ _ _ _ _ _ o0 hI (lv_sub hl [1, 2, 3, 4, 5, 0] rfl) h
def f_Tr_dealCells_13 (L : La) (k4 : Nat → Int32 → Int32 → Int32 → Mem → Option Mem) : Nat → Nat → Int32 → Int32 → Int32 → Int32 → Mem → Option Mem
  | 0 => fun _ _ _ _ _ _ => none
  | n + 1 => b_Tr_dealCells_13 L k4 (f_Tr_dealCells_13 L k4 n)
theorem tf_Tr_dealCells_13 (hC : Cx X L p s m args meth c cc_Tr_dealCells 6 w_Tr_dealCells R_Tr none) {k4 : Nat → Int32 → Int32 → Int32 → Mem → Option Mem} {out : Mem} (hk4 : ∀ (i0 : Nat) (x1 : Int32) (x2 : Int32) (x3 : Int32) (F : Mem) (H : Heap) (locs : List Loc) (ls : Array Slot), oO L 3 i0 → Iv X L s H locs F → lv_has ls 6 [(0, .ref (mAd X i0)), (1, .int x1), (2, .int x2), (3, .int x3)] → k4 i0 x1 x2 x3 F = some out → W p l e (headSpec w_Tr_dealCells r_Tr_dealCells).room s m args below meth c H locs 0 0 (MQ below (QV X L out) args s 0 0 (AA X L)) (F0 m 4 ls [])) (n : Nat) : ∀ (i0 : Nat) (x1 : Int32) (x2 : Int32) (x3 : Int32) (x4 : Int32) (F : Mem) (H : Heap) (locs : List Loc) (ls : Array Slot), oO L 3 i0 → Iv X L s H locs F → lv_has ls 6 [(0, .ref (mAd X i0)), (1, .int x1), (2, .int x2), (3, .int x3), (4, .int x4)] → f_Tr_dealCells_13 L k4 n i0 x1 x2 x3 x4 F = some out → W p l e (headSpec w_Tr_dealCells r_Tr_dealCells).room s m args below meth c H locs 0 0 (MQ below (QV X L out) args s 0 0 (AA X L)) (F0 m 13 ls []) := by
  induction n with
  | zero => intro i0 x1 x2 x3 x4 F H locs ls o0 hI hl h; cases h
  | succ n ih => intro i0 x1 x2 x3 x4 F H locs ls o0 hI hl h; exact t_Tr_dealCells_13 hC hk4 ih o0 hI hl h
def b_Tr_dealCells_4 (L : La) (k4 : Nat → Int32 → Int32 → Int32 → Mem → Option Mem) (i0 : Nat) (x1 : Int32) (x2 : Int32) (x3 : Int32) (F : Mem) : Option Mem :=
  if (7 : Int32) < x3 then
    some F
  else
    f_Tr_dealCells_13 L k4 mFU i0 x1 x2 x3 (0 : Int32) F
set_option maxHeartbeats 4000000 in
theorem t_Tr_dealCells_4 (hC : Cx X L p s m args meth c cc_Tr_dealCells 6 w_Tr_dealCells R_Tr none) {k4 : Nat → Int32 → Int32 → Int32 → Mem → Option Mem} {out : Mem} (hk4 : ∀ (i0 : Nat) (x1 : Int32) (x2 : Int32) (x3 : Int32) (F : Mem) (H : Heap) (locs : List Loc) (ls : Array Slot), oO L 3 i0 → Iv X L s H locs F → lv_has ls 6 [(0, .ref (mAd X i0)), (1, .int x1), (2, .int x2), (3, .int x3)] → k4 i0 x1 x2 x3 F = some out → W p l e (headSpec w_Tr_dealCells r_Tr_dealCells).room s m args below meth c H locs 0 0 (MQ below (QV X L out) args s 0 0 (AA X L)) (F0 m 4 ls [])) {i0 : Nat} {x1 : Int32} {x2 : Int32} {x3 : Int32} {F : Mem} {H : Heap} {locs : List Loc} {ls : Array Slot} (o0 : oO L 3 i0) (hI : Iv X L s H locs F) (hl : lv_has ls 6 [(0, .ref (mAd X i0)), (1, .int x1), (2, .int x2), (3, .int x3)]) (h : b_Tr_dealCells_4 L k4 i0 x1 x2 x3 F = some out) : W p l e (headSpec w_Tr_dealCells r_Tr_dealCells).room s m args below meth c H locs 0 0 (MQ below (QV X L out) args s 0 0 (AA X L)) (F0 m 4 ls []) := by
  unfold b_Tr_dealCells_4 at h
  obtain ⟨S, hK, hT, hW, hr, hlk⟩ := id hC
  have hx := S.1
  have hb := S.2.1
  refine lv_iload_n hx hb d_Tr_dealCells_4 rfl (lv_at hl 3 rfl) ?_
  refine lv_bipush (v := 7) hx hb d_Tr_dealCells_5 (by decide) ?_
  refine lv_icmp_gt (tgt := 89) hx hb d_Tr_dealCells_7 rfl (fun hc => ?_) (fun hc => ?_)
  · replace h := (if_pos hc).symm.trans h
    exact w_vret S hK hr hlk hI d_Tr_dealCells_89 h
  · replace h := (if_neg hc).symm.trans h
    refine lv_iconst (v := 0) hx hb d_Tr_dealCells_10 rfl ?_
    refine lv_istore (lv' := [(4, .int (0 : Int32)), (0, .ref (mAd X i0)), (1, .int x1), (2, .int x2), (3, .int x3)]) hx hb d_Tr_dealCells_11 hl (by decide) rfl (fun ls hl => ?_)
    exact tf_Tr_dealCells_13 hC hk4 mFU _ _ _ _ _ _ _ _ _ o0 hI (lv_sub hl [1, 2, 3, 4, 0] rfl) h
def f_Tr_dealCells_4 (L : La)  : Nat → Nat → Int32 → Int32 → Int32 → Mem → Option Mem
  | 0 => fun _ _ _ _ _ => none
  | n + 1 => b_Tr_dealCells_4 L (f_Tr_dealCells_4 L  n)
theorem tf_Tr_dealCells_4 (hC : Cx X L p s m args meth c cc_Tr_dealCells 6 w_Tr_dealCells R_Tr none)  {out : Mem}  (n : Nat) : ∀ (i0 : Nat) (x1 : Int32) (x2 : Int32) (x3 : Int32) (F : Mem) (H : Heap) (locs : List Loc) (ls : Array Slot), oO L 3 i0 → Iv X L s H locs F → lv_has ls 6 [(0, .ref (mAd X i0)), (1, .int x1), (2, .int x2), (3, .int x3)] → f_Tr_dealCells_4 L  n i0 x1 x2 x3 F = some out → W p l e (headSpec w_Tr_dealCells r_Tr_dealCells).room s m args below meth c H locs 0 0 (MQ below (QV X L out) args s 0 0 (AA X L)) (F0 m 4 ls []) := by
  induction n with
  | zero => intro i0 x1 x2 x3 F H locs ls o0 hI hl h; cases h
  | succ n ih => intro i0 x1 x2 x3 F H locs ls o0 hI hl h; exact t_Tr_dealCells_4 hC ih o0 hI hl h
def f_Tr_dealCells (L : La) (i0 : Nat) (x1 : Int32) (F : Mem) : Option Mem :=
  f_Tr_dealCells_4 L  mFU i0 x1 (0 : Int32) (1 : Int32) F
set_option maxHeartbeats 4000000 in
theorem c_Tr_dealCells (l : Launch) {X : Xs} {L : La} (hW : WT L) {out : Mem} {i0 : Nat} {x1 : Int32} {F : Mem} (o0 : oO L 3 i0) (h : f_Tr_dealCells L i0 x1 F = some out) : Met l y_Tr_dealCells w_Tr_dealCells r_Tr_dealCells (va_Pc [.ref (mAd X i0), .int x1] (Pr X L F)) (QV X L out) 0 0 (AA X L) := by
  refine mk_met (by decide) rfl (Nat.le_of_ble_eq_true rfl) hW ?_
  intro p e s m args below meth c ls hC hI hl
  have hl : lv_has ls 6 [(0, .ref (mAd X i0)), (1, .int x1)] := hl
  generalize hHe : s.heap = H at hI ⊢
  generalize ([] : List Loc) = locs at hI ⊢
  unfold f_Tr_dealCells at h
  obtain ⟨S, hK, hT, hW, hr, hlk⟩ := id hC
  have hx := S.1
  have hb := S.2.1
  refine lv_iconst (v := 0) hx hb d_Tr_dealCells_0 rfl ?_
  refine lv_istore_n (lv' := [(2, .int (0 : Int32)), (0, .ref (mAd X i0)), (1, .int x1)]) hx hb d_Tr_dealCells_1 rfl hl (by decide) rfl (fun ls hl => ?_)
  refine lv_iconst (v := 1) hx hb d_Tr_dealCells_2 rfl ?_
  refine lv_istore_n (lv' := [(3, .int (1 : Int32)), (2, .int (0 : Int32)), (0, .ref (mAd X i0)), (1, .int x1)]) hx hb d_Tr_dealCells_3 rfl hl (by decide) rfl (fun ls hl => ?_)
  exact tf_Tr_dealCells_4 hC  mFU _ _ _ _ _ _ _ _ o0 hI (lv_sub hl [2, 3, 1, 0] rfl) h
end
theorem d_Pk_growTree_0 : decode cc_Pk_growTree 0 = .ok (.aload_n 0, 1) := by decide +kernel
theorem d_Pk_growTree_1 : decode cc_Pk_growTree 1 = .ok (.getfield 30, 3) := by decide +kernel
theorem d_Pk_growTree_4 : decode cc_Pk_growTree 4 = .ok (.aload_n 1, 1) := by decide +kernel
theorem d_Pk_growTree_5 : decode cc_Pk_growTree 5 = .ok (.iload_n 2, 1) := by decide +kernel
theorem d_Pk_growTree_6 : decode cc_Pk_growTree 6 = .ok (.invokevirtual 137, 3) := by decide +kernel
theorem d_Pk_growTree_9 : decode cc_Pk_growTree 9 = .ok (.aload_n 0, 1) := by decide +kernel
theorem d_Pk_growTree_10 : decode cc_Pk_growTree 10 = .ok (.getfield 30, 3) := by decide +kernel
theorem d_Pk_growTree_13 : decode cc_Pk_growTree 13 = .ok (.invokevirtual 141, 3) := by decide +kernel
theorem d_Pk_growTree_16 : decode cc_Pk_growTree 16 = .ok (.aload_n 0, 1) := by decide +kernel
theorem d_Pk_growTree_17 : decode cc_Pk_growTree 17 = .ok (.getfield 30, 3) := by decide +kernel
theorem d_Pk_growTree_20 : decode cc_Pk_growTree 20 = .ok (.getfield 144, 3) := by decide +kernel
theorem d_Pk_growTree_23 : decode cc_Pk_growTree 23 = .ok (.bipush (7), 2) := by decide +kernel
theorem d_Pk_growTree_25 : decode cc_Pk_growTree 25 = .ok (.if_icmp .le (5), 3) := by decide +kernel
theorem d_Pk_growTree_28 : decode cc_Pk_growTree 28 = .ok (.iconst 0, 1) := by decide +kernel
theorem d_Pk_growTree_29 : decode cc_Pk_growTree 29 = .ok (.ireturn, 1) := by decide +kernel
theorem d_Pk_growTree_30 : decode cc_Pk_growTree 30 = .ok (.aload_n 0, 1) := by decide +kernel
theorem d_Pk_growTree_31 : decode cc_Pk_growTree 31 = .ok (.getfield 37, 3) := by decide +kernel
theorem d_Pk_growTree_34 : decode cc_Pk_growTree 34 = .ok (.iload_n 2, 1) := by decide +kernel
theorem d_Pk_growTree_35 : decode cc_Pk_growTree 35 = .ok (.putfield 147, 3) := by decide +kernel
theorem d_Pk_growTree_38 : decode cc_Pk_growTree 38 = .ok (.iconst 0, 1) := by decide +kernel
theorem d_Pk_growTree_39 : decode cc_Pk_growTree 39 = .ok (.istore 4, 2) := by decide +kernel
theorem d_Pk_growTree_41 : decode cc_Pk_growTree 41 = .ok (.iload 4, 2) := by decide +kernel
theorem d_Pk_growTree_43 : decode cc_Pk_growTree 43 = .ok (.iload_n 3, 1) := by decide +kernel
theorem d_Pk_growTree_44 : decode cc_Pk_growTree 44 = .ok (.if_icmp .gt (52), 3) := by decide +kernel
theorem d_Pk_growTree_47 : decode cc_Pk_growTree 47 = .ok (.aload_n 0, 1) := by decide +kernel
theorem d_Pk_growTree_48 : decode cc_Pk_growTree 48 = .ok (.getfield 30, 3) := by decide +kernel
theorem d_Pk_growTree_51 : decode cc_Pk_growTree 51 = .ok (.getfield 150, 3) := by decide +kernel
theorem d_Pk_growTree_54 : decode cc_Pk_growTree 54 = .ok (.iload 4, 2) := by decide +kernel
theorem d_Pk_growTree_56 : decode cc_Pk_growTree 56 = .ok (.iaload, 1) := by decide +kernel
theorem d_Pk_growTree_57 : decode cc_Pk_growTree 57 = .ok (.istore 5, 2) := by decide +kernel
theorem d_Pk_growTree_59 : decode cc_Pk_growTree 59 = .ok (.aload_n 0, 1) := by decide +kernel
theorem d_Pk_growTree_60 : decode cc_Pk_growTree 60 = .ok (.getfield 37, 3) := by decide +kernel
theorem d_Pk_growTree_63 : decode cc_Pk_growTree 63 = .ok (.getfield 152, 3) := by decide +kernel
theorem d_Pk_growTree_66 : decode cc_Pk_growTree 66 = .ok (.iload 4, 2) := by decide +kernel
theorem d_Pk_growTree_68 : decode cc_Pk_growTree 68 = .ok (.iload 5, 2) := by decide +kernel
theorem d_Pk_growTree_70 : decode cc_Pk_growTree 70 = .ok (.ifCond .ne (7), 3) := by decide +kernel
theorem d_Pk_growTree_73 : decode cc_Pk_growTree 73 = .ok (.iconst 0, 1) := by decide +kernel
theorem d_Pk_growTree_74 : decode cc_Pk_growTree 74 = .ok (.goto (15), 3) := by decide +kernel
theorem d_Pk_growTree_77 : decode cc_Pk_growTree 77 = .ok (.aload_n 0, 1) := by decide +kernel
theorem d_Pk_growTree_78 : decode cc_Pk_growTree 78 = .ok (.getfield 30, 3) := by decide +kernel
theorem d_Pk_growTree_81 : decode cc_Pk_growTree 81 = .ok (.getfield 144, 3) := by decide +kernel
theorem d_Pk_growTree_84 : decode cc_Pk_growTree 84 = .ok (.iconst 1, 1) := by decide +kernel
theorem d_Pk_growTree_85 : decode cc_Pk_growTree 85 = .ok (.iadd, 1) := by decide +kernel
theorem d_Pk_growTree_86 : decode cc_Pk_growTree 86 = .ok (.iload 5, 2) := by decide +kernel
theorem d_Pk_growTree_88 : decode cc_Pk_growTree 88 = .ok (.isub, 1) := by decide +kernel
theorem d_Pk_growTree_89 : decode cc_Pk_growTree 89 = .ok (.iastore, 1) := by decide +kernel
theorem d_Pk_growTree_90 : decode cc_Pk_growTree 90 = .ok (.iinc 4 (1), 3) := by decide +kernel
theorem d_Pk_growTree_93 : decode cc_Pk_growTree 93 = .ok (.goto (-52), 3) := by decide +kernel
theorem d_Pk_growTree_96 : decode cc_Pk_growTree 96 = .ok (.aload_n 0, 1) := by decide +kernel
theorem d_Pk_growTree_97 : decode cc_Pk_growTree 97 = .ok (.getfield 37, 3) := by decide +kernel
theorem d_Pk_growTree_100 : decode cc_Pk_growTree 100 = .ok (.iload_n 3, 1) := by decide +kernel
theorem d_Pk_growTree_101 : decode cc_Pk_growTree 101 = .ok (.invokevirtual 155, 3) := by decide +kernel
theorem d_Pk_growTree_104 : decode cc_Pk_growTree 104 = .ok (.ifCond .ne (5), 3) := by decide +kernel
theorem d_Pk_growTree_107 : decode cc_Pk_growTree 107 = .ok (.iconst 0, 1) := by decide +kernel
theorem d_Pk_growTree_108 : decode cc_Pk_growTree 108 = .ok (.ireturn, 1) := by decide +kernel
theorem d_Pk_growTree_109 : decode cc_Pk_growTree 109 = .ok (.aload_n 0, 1) := by decide +kernel
theorem d_Pk_growTree_110 : decode cc_Pk_growTree 110 = .ok (.getfield 37, 3) := by decide +kernel
theorem d_Pk_growTree_113 : decode cc_Pk_growTree 113 = .ok (.iload_n 3, 1) := by decide +kernel
theorem d_Pk_growTree_114 : decode cc_Pk_growTree 114 = .ok (.invokevirtual 159, 3) := by decide +kernel
theorem d_Pk_growTree_117 : decode cc_Pk_growTree 117 = .ok (.iconst 1, 1) := by decide +kernel
theorem d_Pk_growTree_118 : decode cc_Pk_growTree 118 = .ok (.ireturn, 1) := by decide +kernel
section
variable {p : Program} {l : Launch} {e : Env} {s : State} {m : MethodId} {args : Array Value} {below : List Frame} {meth : Method} {c : Code} {X : Xs} {L : La}
def b_Pk_growTree_89 (L : La) (k41 : Nat → Int32 → Int32 → Mem → Option (Int32 × Mem)) (i0 : Nat) (x3 : Int32) (x4 : Int32) (j0 : Nat) (y1 : Int32) (y2 : Int32) (F : Mem) : Option (Int32 × Mem) :=
  if inb y1 (mLn L j0) ∨ ¬ j0 < mNc L then none else
  lt' (u2 F j0 y1.toNatClampNeg y2) fun F2 =>
  k41 i0 x3 (x4 + (1 : Int32)) F2
set_option maxHeartbeats 4000000 in
theorem t_Pk_growTree_89 (hC : Cx X L p s m args meth c cc_Pk_growTree 6 w_Pk_growTree R_Pk (some .boolean)) {k41 : Nat → Int32 → Int32 → Mem → Option (Int32 × Mem)} {out : (Int32 × Mem)} (hk41 : ∀ (i0 : Nat) (x3 : Int32) (x4 : Int32) (F : Mem) (H : Heap) (locs : List Loc) (ls : Array Slot), oO L 11 i0 → Iv X L s H locs F → lv_has ls 6 [(0, .ref (mAd X i0)), (3, .int x3), (4, .int x4)] → k41 i0 x3 x4 F = some out → W p l e (headSpec w_Pk_growTree r_Pk_growTree).room s m args below meth c H locs 0 0 (MQ below (QI X L out) args s 0 0 (AA X L)) (F0 m 41 ls [])) {i0 : Nat} {x3 : Int32} {x4 : Int32} {j0 : Nat} {y1 : Int32} {y2 : Int32} {F : Mem} {H : Heap} {locs : List Loc} {ls : Array Slot} (o0 : oO L 11 i0) (oy0 : oA L j0) (hI : Iv X L s H locs F) (hl : lv_has ls 6 [(0, .ref (mAd X i0)), (3, .int x3), (4, .int x4)]) (h : b_Pk_growTree_89 L k41 i0 x3 x4 j0 y1 y2 F = some out) : W p l e (headSpec w_Pk_growTree r_Pk_growTree).room s m args below meth c H locs 0 0 (MQ below (QI X L out) args s 0 0 (AA X L)) (F0 m 89 ls [.int y2, .int y1, .ref (mAd X j0)]) := by
  unfold b_Pk_growTree_89 at h
  obtain ⟨S, hK, hT, hW, hr, hlk⟩ := id hC
  have hx := S.1
  have hb := S.2.1
  obtain ⟨z1, h⟩ := un_if h
  refine w_iast S hK hI oy0 z1 d_Pk_growTree_89 (fun H locs F2 e3 hI => ?_)
  replace h := un_lt h _ e3
  refine lv_iinc (k := 2) (v := x4 + (1 : Int32)) (lv' := [(4, .int (x4 + (1 : Int32))), (0, .ref (mAd X i0)), (3, .int x3)]) hx hb d_Pk_growTree_90 hl rfl rfl (by decide) rfl (fun ls hl => ?_)
  refine lv_goto (tgt := 41) hx hb d_Pk_growTree_93 rfl ?_
  exact hk41 _ _ _ _ _ _ _ o0 hI (lv_sub hl [1, 2, 0] rfl) h
def b_Pk_growTree_41 (L : La) (k41 : Nat → Int32 → Int32 → Mem → Option (Int32 × Mem)) (i0 : Nat) (x3 : Int32) (x4 : Int32) (F : Mem) : Option (Int32 × Mem) :=
  if x3 < x4 then
    (f_Tr_complete L (mRf L i0 7) x3 F).bind fun q2 =>
    if q2.1 = 0 then
      if (0 : Int32) = 0 ∨ (0 : Int32) = 1 then some ((0 : Int32), q2.2) else none
    else
      (f_Tr_dealCells L (mRf L i0 7) x3 q2.2).bind fun F5 =>
      if (1 : Int32) = 0 ∨ (1 : Int32) = 1 then some ((1 : Int32), F5) else none
  else
    if inb x4 (mGl L (mRf L (mRf L i0 6) 2)) then none else
    if (mGa L F (mRf L (mRf L i0 6) 2) x4.toNatClampNeg) = 0 then
      b_Pk_growTree_89 L k41 i0 x3 x4 (mRf L (mRf L i0 7) 0) x4 (0 : Int32) F
    else
      b_Pk_growTree_89 L k41 i0 x3 x4 (mRf L (mRf L i0 7) 0) x4 (((F (mRf L i0 6) 3) + (1 : Int32)) - (mGa L F (mRf L (mRf L i0 6) 2) x4.toNatClampNeg)) F
set_option maxHeartbeats 4000000 in
theorem t_Pk_growTree_41 (hC : Cx X L p s m args meth c cc_Pk_growTree 6 w_Pk_growTree R_Pk (some .boolean)) {k41 : Nat → Int32 → Int32 → Mem → Option (Int32 × Mem)} {out : (Int32 × Mem)} (hk41 : ∀ (i0 : Nat) (x3 : Int32) (x4 : Int32) (F : Mem) (H : Heap) (locs : List Loc) (ls : Array Slot), oO L 11 i0 → Iv X L s H locs F → lv_has ls 6 [(0, .ref (mAd X i0)), (3, .int x3), (4, .int x4)] → k41 i0 x3 x4 F = some out → W p l e (headSpec w_Pk_growTree r_Pk_growTree).room s m args below meth c H locs 0 0 (MQ below (QI X L out) args s 0 0 (AA X L)) (F0 m 41 ls [])) {i0 : Nat} {x3 : Int32} {x4 : Int32} {F : Mem} {H : Heap} {locs : List Loc} {ls : Array Slot} (o0 : oO L 11 i0) (hI : Iv X L s H locs F) (hl : lv_has ls 6 [(0, .ref (mAd X i0)), (3, .int x3), (4, .int x4)]) (h : b_Pk_growTree_41 L k41 i0 x3 x4 F = some out) : W p l e (headSpec w_Pk_growTree r_Pk_growTree).room s m args below meth c H locs 0 0 (MQ below (QI X L out) args s 0 0 (AA X L)) (F0 m 41 ls []) := by
  unfold b_Pk_growTree_41 at h
  obtain ⟨S, hK, hT, hW, hr, hlk⟩ := id hC
  have hx := S.1
  have hb := S.2.1
  refine lv_iload hx hb d_Pk_growTree_41 (lv_at hl 2 rfl) ?_
  refine lv_iload_n hx hb d_Pk_growTree_43 rfl (lv_at hl 1 rfl) ?_
  refine lv_icmp_gt (tgt := 96) hx hb d_Pk_growTree_44 rfl (fun hc => ?_) (fun hc => ?_)
  · replace h := (if_pos hc).symm.trans h
    refine lv_aload_n hx hb d_Pk_growTree_96 rfl (lv_at hl 0 rfl) ?_
    have p1 := wt_o hW o0 7 3 rfl (by decide) (by decide) (by decide)
    refine w_getR (T := T_Pk) S hK hI o0 rfl hin_Pk 7 (index := 37) (by decide) lf_Pk_37 d_Pk_growTree_97 ?_
    refine lv_iload_n hx hb d_Pk_growTree_100 rfl (lv_at hl 1 rfl) ?_
    obtain ⟨q2, e3, h⟩ := un_bi h
    refine w_callVi (As := [.int x3]) (rest := []) S hK hI hT (c_Tr_complete l hW p1 e3) (cwV 1 S.2.2.2.2 (gd_V lc_Tr_complete lm_Pk_155 li_Tr_complete ls_Tr_complete ln_Tr) rfl rfl rfl hd_Tr_complete ⟨Nat.le_of_ble_eq_true rfl, Nat.le_of_ble_eq_true rfl⟩) p1 rfl (by decide) rfl rfl hl.1 (Nat.le_of_ble_eq_true rfl) d_Pk_growTree_101 ⟨Nat.zero_le _, Nat.zero_le _⟩ (fun H locs hI => ?_)
    refine lv_if_ne (tgt := 109) hx hb d_Pk_growTree_104 rfl (fun hc => ?_) (fun hc => ?_)
    · replace h := (if_neg hc).symm.trans h
      refine lv_aload_n hx hb d_Pk_growTree_109 rfl (lv_at hl 0 rfl) ?_
      have p4 := wt_o hW o0 7 3 rfl (by decide) (by decide) (by decide)
      refine w_getR (T := T_Pk) S hK hI o0 rfl hin_Pk 7 (index := 37) (by decide) lf_Pk_37 d_Pk_growTree_110 ?_
      refine lv_iload_n hx hb d_Pk_growTree_113 rfl (lv_at hl 1 rfl) ?_
      obtain ⟨F5, e6, h⟩ := un_bi h
      refine w_callVv (As := [.int x3]) (rest := []) S hK hI hT (c_Tr_dealCells l hW p4 e6) (cwV 1 S.2.2.2.2 (gd_V lc_Tr_dealCells lm_Pk_159 li_Tr_dealCells ls_Tr_dealCells ln_Tr) rfl rfl rfl hd_Tr_dealCells ⟨Nat.le_of_ble_eq_true rfl, Nat.le_of_ble_eq_true rfl⟩) p4 rfl (by decide) rfl rfl hl.1 (Nat.le_of_ble_eq_true rfl) d_Pk_growTree_114 ⟨Nat.zero_le _, Nat.zero_le _⟩ (fun H locs hI => ?_)
      refine lv_iconst (v := 1) hx hb d_Pk_growTree_117 rfl ?_
      exact w_zret S hK hr hlk hI d_Pk_growTree_118 h
    · replace h := (if_pos hc).symm.trans h
      refine lv_iconst (v := 0) hx hb d_Pk_growTree_107 rfl ?_
      exact w_zret S hK hr hlk hI d_Pk_growTree_108 h
  · replace h := (if_neg hc).symm.trans h
    refine lv_aload_n hx hb d_Pk_growTree_47 rfl (lv_at hl 0 rfl) ?_
    have p7 := wt_o hW o0 6 4 rfl (by decide) (by decide) (by decide)
    refine w_getR (T := T_Pk) S hK hI o0 rfl hin_Pk 6 (index := 30) (by decide) lf_Pk_30 d_Pk_growTree_48 ?_
    have p8 := wt_a hW p7 2 rfl (by decide) (by decide)
    refine w_getR (T := T_Jo) S hK hI p7 rfl hin_Jo 2 (index := 150) (by decide) lf_Pk_150 d_Pk_growTree_51 ?_
    refine lv_iload hx hb d_Pk_growTree_54 (lv_at hl 2 rfl) ?_
    obtain ⟨z9, h⟩ := un_if h
    refine w_iald S hK hI hT p8 z9 d_Pk_growTree_56 ?_
    refine lv_istore (lv' := [(5, .int (mGa L F (mRf L (mRf L i0 6) 2) x4.toNatClampNeg)), (0, .ref (mAd X i0)), (3, .int x3), (4, .int x4)]) hx hb d_Pk_growTree_57 hl (by decide) rfl (fun ls hl => ?_)
    refine lv_aload_n hx hb d_Pk_growTree_59 rfl (lv_at hl 1 rfl) ?_
    have p10 := wt_o hW o0 7 3 rfl (by decide) (by decide) (by decide)
    refine w_getR (T := T_Pk) S hK hI o0 rfl hin_Pk 7 (index := 37) (by decide) lf_Pk_37 d_Pk_growTree_60 ?_
    have p11 := wt_a hW p10 0 rfl (by decide) (by decide)
    refine w_getR (T := T_Tr) S hK hI p10 rfl hin_Tr 0 (index := 152) (by decide) lf_Pk_152 d_Pk_growTree_63 ?_
    refine lv_iload hx hb d_Pk_growTree_66 (lv_at hl 3 rfl) ?_
    refine lv_iload hx hb d_Pk_growTree_68 (lv_at hl 0 rfl) ?_
    refine lv_if_ne (tgt := 77) hx hb d_Pk_growTree_70 rfl (fun hc => ?_) (fun hc => ?_)
    · replace h := (if_neg hc).symm.trans h
      refine lv_aload_n hx hb d_Pk_growTree_77 rfl (lv_at hl 1 rfl) ?_
      have p12 := wt_o hW o0 6 4 rfl (by decide) (by decide) (by decide)
      refine w_getR (T := T_Pk) S hK hI o0 rfl hin_Pk 6 (index := 30) (by decide) lf_Pk_30 d_Pk_growTree_78 ?_
      refine w_getI (T := T_Jo) S hK hI p12 rfl hin_Jo 3 (index := 144) (by decide) lf_Pk_144 d_Pk_growTree_81 ?_
      refine lv_iconst (v := 1) hx hb d_Pk_growTree_84 rfl ?_
      refine lv_iadd hx hb d_Pk_growTree_85 ?_
      refine lv_iload hx hb d_Pk_growTree_86 (lv_at hl 0 rfl) ?_
      refine lv_isub hx hb d_Pk_growTree_88 ?_
      exact t_Pk_growTree_89 hC hk41 o0 p11 hI (lv_sub hl [1, 2, 3] rfl) h
    · replace h := (if_pos hc).symm.trans h
      refine lv_iconst (v := 0) hx hb d_Pk_growTree_73 rfl ?_
      refine lv_goto (tgt := 89) hx hb d_Pk_growTree_74 rfl ?_
      exact t_Pk_growTree_89 hC hk41 o0 p11 hI (lv_sub hl [1, 2, 3] rfl) h
def f_Pk_growTree_41 (L : La)  : Nat → Nat → Int32 → Int32 → Mem → Option (Int32 × Mem)
  | 0 => fun _ _ _ _ => none
  | n + 1 => b_Pk_growTree_41 L (f_Pk_growTree_41 L  n)
theorem tf_Pk_growTree_41 (hC : Cx X L p s m args meth c cc_Pk_growTree 6 w_Pk_growTree R_Pk (some .boolean))  {out : (Int32 × Mem)}  (n : Nat) : ∀ (i0 : Nat) (x3 : Int32) (x4 : Int32) (F : Mem) (H : Heap) (locs : List Loc) (ls : Array Slot), oO L 11 i0 → Iv X L s H locs F → lv_has ls 6 [(0, .ref (mAd X i0)), (3, .int x3), (4, .int x4)] → f_Pk_growTree_41 L  n i0 x3 x4 F = some out → W p l e (headSpec w_Pk_growTree r_Pk_growTree).room s m args below meth c H locs 0 0 (MQ below (QI X L out) args s 0 0 (AA X L)) (F0 m 41 ls []) := by
  induction n with
  | zero => intro i0 x3 x4 F H locs ls o0 hI hl h; cases h
  | succ n ih => intro i0 x3 x4 F H locs ls o0 hI hl h; exact t_Pk_growTree_41 hC ih o0 hI hl h
def f_Pk_growTree (L : La) (i0 : Nat) (i1 : Nat) (x2 : Int32) (x3 : Int32) (F : Mem) : Option (Int32 × Mem) :=
  (f_Jo_countBytes L (mRf L i0 6) i1 x2 F).bind fun F2 =>
  (f_Jo_findLengths L (mRf L i0 6) F2).bind fun F5 =>
  if (F5 (mRf L i0 6) 3) ≤ (7 : Int32) then
    lt' (u2 F5 (mRf L i0 7) 3 x2) fun F9 =>
    f_Pk_growTree_41 L  mFU i0 x3 (0 : Int32) F9
  else
    if (0 : Int32) = 0 ∨ (0 : Int32) = 1 then some ((0 : Int32), F5) else none
set_option maxHeartbeats 4000000 in
theorem c_Pk_growTree (l : Launch) {X : Xs} {L : La} (hW : WT L) {out : (Int32 × Mem)} {i0 : Nat} {i1 : Nat} {x2 : Int32} {x3 : Int32} {F : Mem} (o0 : oO L 11 i0) (o1 : oO L 1 i1) (h : f_Pk_growTree L i0 i1 x2 x3 F = some out) : Met l y_Pk_growTree w_Pk_growTree r_Pk_growTree (va_Pc [.ref (mAd X i0), .ref (mAd X i1), .int x2, .int x3] (Pr X L F)) (QI X L out) 0 0 (AA X L) := by
  refine mk_met (by decide) rfl (Nat.le_of_ble_eq_true rfl) hW ?_
  intro p e s m args below meth c ls hC hI hl
  have hl : lv_has ls 6 [(0, .ref (mAd X i0)), (1, .ref (mAd X i1)), (2, .int x2), (3, .int x3)] := hl
  generalize hHe : s.heap = H at hI ⊢
  generalize ([] : List Loc) = locs at hI ⊢
  unfold f_Pk_growTree at h
  obtain ⟨S, hK, hT, hW, hr, hlk⟩ := id hC
  have hx := S.1
  have hb := S.2.1
  refine lv_aload_n hx hb d_Pk_growTree_0 rfl (lv_at hl 0 rfl) ?_
  have p1 := wt_o hW o0 6 4 rfl (by decide) (by decide) (by decide)
  refine w_getR (T := T_Pk) S hK hI o0 rfl hin_Pk 6 (index := 30) (by decide) lf_Pk_30 d_Pk_growTree_1 ?_
  refine lv_aload_n hx hb d_Pk_growTree_4 rfl (lv_at hl 1 rfl) ?_
  refine lv_iload_n hx hb d_Pk_growTree_5 rfl (lv_at hl 2 rfl) ?_
  obtain ⟨F2, e3, h⟩ := un_bi h
  refine w_callVv (As := [.ref (mAd X i1), .int x2]) (rest := []) S hK hI hT (c_Jo_countBytes l hW p1 o1 e3) (cwV 2 S.2.2.2.2 (gd_V lc_Jo_countBytes lm_Pk_137 li_Jo_countBytes ls_Jo_countBytes ln_Jo) rfl rfl rfl hd_Jo_countBytes ⟨Nat.le_of_ble_eq_true rfl, Nat.le_of_ble_eq_true rfl⟩) p1 rfl (by decide) rfl rfl hl.1 (Nat.le_of_ble_eq_true rfl) d_Pk_growTree_6 ⟨Nat.zero_le _, Nat.zero_le _⟩ (fun H locs hI => ?_)
  refine lv_aload_n hx hb d_Pk_growTree_9 rfl (lv_at hl 0 rfl) ?_
  have p4 := wt_o hW o0 6 4 rfl (by decide) (by decide) (by decide)
  refine w_getR (T := T_Pk) S hK hI o0 rfl hin_Pk 6 (index := 30) (by decide) lf_Pk_30 d_Pk_growTree_10 ?_
  obtain ⟨F5, e6, h⟩ := un_bi h
  refine w_callVv (As := []) (rest := []) S hK hI hT (c_Jo_findLengths l hW p4 e6) (cwV 0 S.2.2.2.2 (gd_V lc_Jo_findLengths lm_Pk_141 li_Jo_findLengths ls_Jo_findLengths ln_Jo) rfl rfl rfl hd_Jo_findLengths ⟨Nat.le_of_ble_eq_true rfl, Nat.le_of_ble_eq_true rfl⟩) p4 rfl (by decide) rfl rfl hl.1 (Nat.le_of_ble_eq_true rfl) d_Pk_growTree_13 ⟨Nat.zero_le _, Nat.zero_le _⟩ (fun H locs hI => ?_)
  refine lv_aload_n hx hb d_Pk_growTree_16 rfl (lv_at hl 0 rfl) ?_
  have p7 := wt_o hW o0 6 4 rfl (by decide) (by decide) (by decide)
  refine w_getR (T := T_Pk) S hK hI o0 rfl hin_Pk 6 (index := 30) (by decide) lf_Pk_30 d_Pk_growTree_17 ?_
  refine w_getI (T := T_Jo) S hK hI p7 rfl hin_Jo 3 (index := 144) (by decide) lf_Pk_144 d_Pk_growTree_20 ?_
  refine lv_bipush (v := 7) hx hb d_Pk_growTree_23 (by decide) ?_
  refine lv_icmp_le (tgt := 30) hx hb d_Pk_growTree_25 rfl (fun hc => ?_) (fun hc => ?_)
  · replace h := (if_pos hc).symm.trans h
    refine lv_aload_n hx hb d_Pk_growTree_30 rfl (lv_at hl 0 rfl) ?_
    have p8 := wt_o hW o0 7 3 rfl (by decide) (by decide) (by decide)
    refine w_getR (T := T_Pk) S hK hI o0 rfl hin_Pk 7 (index := 37) (by decide) lf_Pk_37 d_Pk_growTree_31 ?_
    refine lv_iload_n hx hb d_Pk_growTree_34 rfl (lv_at hl 2 rfl) ?_
    refine w_putI (T := T_Tr) S hK hI p8 rfl hin_Tr ty_Tr tk_Tr nm_Tr 3 (index := 147) (by decide) lf_Pk_147 rfl d_Pk_growTree_35 (fun H locs F9 e10 hI => ?_)
    replace h := un_lt h _ e10
    refine lv_iconst (v := 0) hx hb d_Pk_growTree_38 rfl ?_
    refine lv_istore (lv' := [(4, .int (0 : Int32)), (0, .ref (mAd X i0)), (1, .ref (mAd X i1)), (2, .int x2), (3, .int x3)]) hx hb d_Pk_growTree_39 hl (by decide) rfl (fun ls hl => ?_)
    exact tf_Pk_growTree_41 hC  mFU _ _ _ _ _ _ _ o0 hI (lv_sub hl [1, 4, 0] rfl) h
  · replace h := (if_neg hc).symm.trans h
    refine lv_iconst (v := 0) hx hb d_Pk_growTree_28 rfl ?_
    exact w_zret S hK hr hlk hI d_Pk_growTree_29 h
end
