theorem d_Tr_bitsOf_0 : decode cc_Tr_bitsOf 0 = .ok (.aload_n 0, 1) := by decide +kernel
theorem d_Tr_bitsOf_1 : decode cc_Tr_bitsOf 1 = .ok (.getfield 30, 3) := by decide +kernel
theorem d_Tr_bitsOf_4 : decode cc_Tr_bitsOf 4 = .ok (.iconst 1, 1) := by decide +kernel
theorem d_Tr_bitsOf_5 : decode cc_Tr_bitsOf 5 = .ok (.iadd, 1) := by decide +kernel
theorem d_Tr_bitsOf_6 : decode cc_Tr_bitsOf 6 = .ok (.aload_n 0, 1) := by decide +kernel
theorem d_Tr_bitsOf_7 : decode cc_Tr_bitsOf 7 = .ok (.getfield 9, 3) := by decide +kernel
theorem d_Tr_bitsOf_10 : decode cc_Tr_bitsOf 10 = .ok (.iload_n 1, 1) := by decide +kernel
theorem d_Tr_bitsOf_11 : decode cc_Tr_bitsOf 11 = .ok (.iaload, 1) := by decide +kernel
theorem d_Tr_bitsOf_12 : decode cc_Tr_bitsOf 12 = .ok (.isub, 1) := by decide +kernel
theorem d_Tr_bitsOf_13 : decode cc_Tr_bitsOf 13 = .ok (.ireturn, 1) := by decide +kernel
section
variable {p : Program} {l : Launch} {e : Env} {s : State} {m : MethodId} {args : Array Value} {below : List Frame} {meth : Method} {c : Code} {X : Xs} {L : La}
def f_Tr_bitsOf (L : La) (i0 : Nat) (x1 : Int32) (F : Mem) : Option (Int32 × Mem) :=
  if inb x1 (mGl L (mRf L i0 0)) then none else
  some (((F i0 4) + (1 : Int32)) - (mGa L F (mRf L i0 0) x1.toNatClampNeg), F)
set_option maxHeartbeats 4000000 in
theorem c_Tr_bitsOf (l : Launch) {X : Xs} {L : La} (hW : WT L) {out : (Int32 × Mem)} {i0 : Nat} {x1 : Int32} {F : Mem} (o0 : oO L 3 i0) (h : f_Tr_bitsOf L i0 x1 F = some out) : Met l y_Tr_bitsOf w_Tr_bitsOf r_Tr_bitsOf (va_Pc [.ref (mAd X i0), .int x1] (Pr X L F)) (QI X L out) 0 0 (AA X L) := by
  refine mk_met (by decide) rfl (Nat.le_of_ble_eq_true rfl) hW ?_
  intro p e s m args below meth c ls hC hI hl
  have hl : lv_has ls 2 [(0, .ref (mAd X i0)), (1, .int x1)] := hl
  generalize hHe : s.heap = H at hI ⊢
  generalize ([] : List Loc) = locs at hI ⊢
  unfold f_Tr_bitsOf at h
  obtain ⟨S, hK, hT, hW, hr, hlk⟩ := id hC
  have hx := S.1
  have hb := S.2.1
  refine lv_aload_n hx hb d_Tr_bitsOf_0 rfl (lv_at hl 0 rfl) ?_
  refine w_getI (T := T_Tr) S hK hI o0 rfl hin_Tr 4 (index := 30) (by decide) lf_Tr_30 d_Tr_bitsOf_1 ?_
  refine lv_iconst (v := 1) hx hb d_Tr_bitsOf_4 rfl ?_
  refine lv_iadd hx hb d_Tr_bitsOf_5 ?_
  refine lv_aload_n hx hb d_Tr_bitsOf_6 rfl (lv_at hl 0 rfl) ?_
  have p1 := wt_a hW o0 0 rfl (by decide) (by decide)
  refine w_getR (T := T_Tr) S hK hI o0 rfl hin_Tr 0 (index := 9) (by decide) lf_Tr_9 d_Tr_bitsOf_7 ?_
  refine lv_iload_n hx hb d_Tr_bitsOf_10 rfl (lv_at hl 1 rfl) ?_
  obtain ⟨z2, h⟩ := un_if h
  refine w_iald S hK hI hT p1 z2 d_Tr_bitsOf_11 ?_
  refine lv_isub hx hb d_Tr_bitsOf_12 ?_
  exact w_iret S hK hr hlk hI d_Tr_bitsOf_13 h
end
theorem d_Br_add_0 : decode cc_Br_add 0 = .ok (.iload_n 2, 1) := by decide +kernel
theorem d_Br_add_1 : decode cc_Br_add 1 = .ok (.iconst 1, 1) := by decide +kernel
theorem d_Br_add_2 : decode cc_Br_add 2 = .ok (.isub, 1) := by decide +kernel
theorem d_Br_add_3 : decode cc_Br_add 3 = .ok (.istore_n 3, 1) := by decide +kernel
theorem d_Br_add_4 : decode cc_Br_add 4 = .ok (.iload_n 3, 1) := by decide +kernel
theorem d_Br_add_5 : decode cc_Br_add 5 = .ok (.ifCond .lt (45), 3) := by decide +kernel
theorem d_Br_add_8 : decode cc_Br_add 8 = .ok (.aload_n 0, 1) := by decide +kernel
theorem d_Br_add_9 : decode cc_Br_add 9 = .ok (.getfield 15, 3) := by decide +kernel
theorem d_Br_add_12 : decode cc_Br_add 12 = .ok (.aload_n 0, 1) := by decide +kernel
theorem d_Br_add_13 : decode cc_Br_add 13 = .ok (.getfield 9, 3) := by decide +kernel
theorem d_Br_add_16 : decode cc_Br_add 16 = .ok (.arraylength, 1) := by decide +kernel
theorem d_Br_add_17 : decode cc_Br_add 17 = .ok (.if_icmp .ge (27), 3) := by decide +kernel
theorem d_Br_add_20 : decode cc_Br_add 20 = .ok (.aload_n 0, 1) := by decide +kernel
theorem d_Br_add_21 : decode cc_Br_add 21 = .ok (.getfield 9, 3) := by decide +kernel
theorem d_Br_add_24 : decode cc_Br_add 24 = .ok (.aload_n 0, 1) := by decide +kernel
theorem d_Br_add_25 : decode cc_Br_add 25 = .ok (.getfield 15, 3) := by decide +kernel
theorem d_Br_add_28 : decode cc_Br_add 28 = .ok (.iload_n 1, 1) := by decide +kernel
theorem d_Br_add_29 : decode cc_Br_add 29 = .ok (.iload_n 3, 1) := by decide +kernel
theorem d_Br_add_30 : decode cc_Br_add 30 = .ok (.ishr, 1) := by decide +kernel
theorem d_Br_add_31 : decode cc_Br_add 31 = .ok (.iconst 1, 1) := by decide +kernel
theorem d_Br_add_32 : decode cc_Br_add 32 = .ok (.iand, 1) := by decide +kernel
theorem d_Br_add_33 : decode cc_Br_add 33 = .ok (.iastore, 1) := by decide +kernel
theorem d_Br_add_34 : decode cc_Br_add 34 = .ok (.aload_n 0, 1) := by decide +kernel
theorem d_Br_add_35 : decode cc_Br_add 35 = .ok (.dup, 1) := by decide +kernel
theorem d_Br_add_36 : decode cc_Br_add 36 = .ok (.getfield 15, 3) := by decide +kernel
theorem d_Br_add_39 : decode cc_Br_add 39 = .ok (.iconst 1, 1) := by decide +kernel
theorem d_Br_add_40 : decode cc_Br_add 40 = .ok (.iadd, 1) := by decide +kernel
theorem d_Br_add_41 : decode cc_Br_add 41 = .ok (.putfield 15, 3) := by decide +kernel
theorem d_Br_add_44 : decode cc_Br_add 44 = .ok (.iinc 3 (-1), 3) := by decide +kernel
theorem d_Br_add_47 : decode cc_Br_add 47 = .ok (.goto (-43), 3) := by decide +kernel
theorem d_Br_add_50 : decode cc_Br_add 50 = .ok (.return_, 1) := by decide +kernel
section
variable {p : Program} {l : Launch} {e : Env} {s : State} {m : MethodId} {args : Array Value} {below : List Frame} {meth : Method} {c : Code} {X : Xs} {L : La}
def b_Br_add_44 (L : La) (k4 : Nat → Int32 → Int32 → Mem → Option Mem) (i0 : Nat) (x1 : Int32) (x3 : Int32) (F : Mem) : Option Mem :=
  k4 i0 x1 (x3 + (-1 : Int32)) F
set_option maxHeartbeats 4000000 in
theorem t_Br_add_44 (hC : Cx X L p s m args meth c cc_Br_add 4 w_Br_add R_Br none) {k4 : Nat → Int32 → Int32 → Mem → Option Mem} {out : Mem} (hk4 : ∀ (i0 : Nat) (x1 : Int32) (x3 : Int32) (F : Mem) (H : Heap) (locs : List Loc) (ls : Array Slot), oO L 5 i0 → Iv X L s H locs F → lv_has ls 4 [(0, .ref (mAd X i0)), (1, .int x1), (3, .int x3)] → k4 i0 x1 x3 F = some out → W p l e (headSpec w_Br_add r_Br_add).room s m args below meth c H locs 0 0 (MQ below (QV X L out) args s 0 0 (AA X L)) (F0 m 4 ls [])) {i0 : Nat} {x1 : Int32} {x3 : Int32} {F : Mem} {H : Heap} {locs : List Loc} {ls : Array Slot} (o0 : oO L 5 i0) (hI : Iv X L s H locs F) (hl : lv_has ls 4 [(0, .ref (mAd X i0)), (1, .int x1), (3, .int x3)]) (h : b_Br_add_44 L k4 i0 x1 x3 F = some out) : W p l e (headSpec w_Br_add r_Br_add).room s m args below meth c H locs 0 0 (MQ below (QV X L out) args s 0 0 (AA X L)) (F0 m 44 ls []) := by
  unfold b_Br_add_44 at h
  obtain ⟨S, hK, hT, hW, hr, hlk⟩ := id hC
  have hx := S.1
  have hb := S.2.1
  refine lv_iinc (k := 2) (v := x3 + (-1 : Int32)) (lv' := [(3, .int (x3 + (-1 : Int32))), (0, .ref (mAd X i0)), (1, .int x1)]) hx hb d_Br_add_44 hl rfl rfl (by decide) rfl (fun ls hl => ?_)
  refine lv_goto (tgt := 4) hx hb d_Br_add_47 rfl ?_
  exact hk4 _ _ _ _ _ _ _ o0 hI (lv_sub hl [1, 2, 0] rfl) h
def b_Br_add_4 (L : La) (k4 : Nat → Int32 → Int32 → Mem → Option Mem) (i0 : Nat) (x1 : Int32) (x3 : Int32) (F : Mem) : Option Mem :=
  if x3 < 0 then
    some F
  else
    if (nI (mGl L (mRf L i0 0))) ≤ (F i0 1) then
      b_Br_add_44 L k4 i0 x1 x3 F
    else
      if inb (F i0 1) (mLn L (mRf L i0 0)) ∨ ¬ (mRf L i0 0) < mNc L then none else
      lt' (u2 F (mRf L i0 0) (F i0 1).toNatClampNeg ((jshr x1 x3) &&& (1 : Int32))) fun F4 =>
      lt' (u2 F4 i0 1 ((F4 i0 1) + (1 : Int32))) fun F6 =>
      b_Br_add_44 L k4 i0 x1 x3 F6
set_option maxHeartbeats 4000000 in
theorem t_Br_add_4 (hC : Cx X L p s m args meth c cc_Br_add 4 w_Br_add R_Br none) {k4 : Nat → Int32 → Int32 → Mem → Option Mem} {out : Mem} (hk4 : ∀ (i0 : Nat) (x1 : Int32) (x3 : Int32) (F : Mem) (H : Heap) (locs : List Loc) (ls : Array Slot), oO L 5 i0 → Iv X L s H locs F → lv_has ls 4 [(0, .ref (mAd X i0)), (1, .int x1), (3, .int x3)] → k4 i0 x1 x3 F = some out → W p l e (headSpec w_Br_add r_Br_add).room s m args below meth c H locs 0 0 (MQ below (QV X L out) args s 0 0 (AA X L)) (F0 m 4 ls [])) {i0 : Nat} {x1 : Int32} {x3 : Int32} {F : Mem} {H : Heap} {locs : List Loc} {ls : Array Slot} (o0 : oO L 5 i0) (hI : Iv X L s H locs F) (hl : lv_has ls 4 [(0, .ref (mAd X i0)), (1, .int x1), (3, .int x3)]) (h : b_Br_add_4 L k4 i0 x1 x3 F = some out) : W p l e (headSpec w_Br_add r_Br_add).room s m args below meth c H locs 0 0 (MQ below (QV X L out) args s 0 0 (AA X L)) (F0 m 4 ls []) := by
  unfold b_Br_add_4 at h
  obtain ⟨S, hK, hT, hW, hr, hlk⟩ := id hC
  have hx := S.1
  have hb := S.2.1
  refine lv_iload_n hx hb d_Br_add_4 rfl (lv_at hl 2 rfl) ?_
  refine lv_if_lt (tgt := 50) hx hb d_Br_add_5 rfl (fun hc => ?_) (fun hc => ?_)
  · replace h := (if_pos hc).symm.trans h
    exact w_vret S hK hr hlk hI d_Br_add_50 h
  · replace h := (if_neg hc).symm.trans h
    refine lv_aload_n hx hb d_Br_add_8 rfl (lv_at hl 0 rfl) ?_
    refine w_getI (T := T_Br) S hK hI o0 rfl hin_Br 1 (index := 15) (by decide) lf_Br_15 d_Br_add_9 ?_
    refine lv_aload_n hx hb d_Br_add_12 rfl (lv_at hl 0 rfl) ?_
    have p1 := wt_a hW o0 0 rfl (by decide) (by decide)
    refine w_getR (T := T_Br) S hK hI o0 rfl hin_Br 0 (index := 9) (by decide) lf_Br_9 d_Br_add_13 ?_
    refine w_alen S hK hI hT p1 d_Br_add_16 ?_
    refine lv_icmp_ge (tgt := 44) hx hb d_Br_add_17 rfl (fun hc => ?_) (fun hc => ?_)
    · replace h := (if_pos hc).symm.trans h
      exact t_Br_add_44 hC hk4 o0 hI hl h
    · replace h := (if_neg hc).symm.trans h
      refine lv_aload_n hx hb d_Br_add_20 rfl (lv_at hl 0 rfl) ?_
      have p2 := wt_a hW o0 0 rfl (by decide) (by decide)
      refine w_getR (T := T_Br) S hK hI o0 rfl hin_Br 0 (index := 9) (by decide) lf_Br_9 d_Br_add_21 ?_
      refine lv_aload_n hx hb d_Br_add_24 rfl (lv_at hl 0 rfl) ?_
      refine w_getI (T := T_Br) S hK hI o0 rfl hin_Br 1 (index := 15) (by decide) lf_Br_15 d_Br_add_25 ?_
      refine lv_iload_n hx hb d_Br_add_28 rfl (lv_at hl 1 rfl) ?_
      refine lv_iload_n hx hb d_Br_add_29 rfl (lv_at hl 2 rfl) ?_
      refine lv_ishr hx hb d_Br_add_30 ?_
      refine lv_iconst (v := 1) hx hb d_Br_add_31 rfl ?_
      refine lv_iand hx hb d_Br_add_32 ?_
      obtain ⟨z3, h⟩ := un_if h
      refine w_iast S hK hI p2 z3 d_Br_add_33 (fun H locs F4 e5 hI => ?_)
      replace h := un_lt h _ e5
      refine lv_aload_n hx hb d_Br_add_34 rfl (lv_at hl 0 rfl) ?_
      refine lv_dup hx hb d_Br_add_35 rfl ?_
      refine w_getI (T := T_Br) S hK hI o0 rfl hin_Br 1 (index := 15) (by decide) lf_Br_15 d_Br_add_36 ?_
      refine lv_iconst (v := 1) hx hb d_Br_add_39 rfl ?_
      refine lv_iadd hx hb d_Br_add_40 ?_
      refine w_putI (T := T_Br) S hK hI o0 rfl hin_Br ty_Br tk_Br nm_Br 1 (index := 15) (by decide) lf_Br_15 rfl d_Br_add_41 (fun H locs F6 e7 hI => ?_)
      replace h := un_lt h _ e7
      exact t_Br_add_44 hC hk4 o0 hI hl h
def f_Br_add_4 (L : La)  : Nat → Nat → Int32 → Int32 → Mem → Option Mem
  | 0 => fun _ _ _ _ => none
  | n + 1 => b_Br_add_4 L (f_Br_add_4 L  n)
theorem tf_Br_add_4 (hC : Cx X L p s m args meth c cc_Br_add 4 w_Br_add R_Br none)  {out : Mem}  (n : Nat) : ∀ (i0 : Nat) (x1 : Int32) (x3 : Int32) (F : Mem) (H : Heap) (locs : List Loc) (ls : Array Slot), oO L 5 i0 → Iv X L s H locs F → lv_has ls 4 [(0, .ref (mAd X i0)), (1, .int x1), (3, .int x3)] → f_Br_add_4 L  n i0 x1 x3 F = some out → W p l e (headSpec w_Br_add r_Br_add).room s m args below meth c H locs 0 0 (MQ below (QV X L out) args s 0 0 (AA X L)) (F0 m 4 ls []) := by
  induction n with
  | zero => intro i0 x1 x3 F H locs ls o0 hI hl h; cases h
  | succ n ih => intro i0 x1 x3 F H locs ls o0 hI hl h; exact t_Br_add_4 hC ih o0 hI hl h
def f_Br_add (L : La) (i0 : Nat) (x1 : Int32) (x2 : Int32) (F : Mem) : Option Mem :=
  f_Br_add_4 L  mFU i0 x1 (x2 - (1 : Int32)) F
set_option maxHeartbeats 4000000 in
theorem c_Br_add (l : Launch) {X : Xs} {L : La} (hW : WT L) {out : Mem} {i0 : Nat} {x1 : Int32} {x2 : Int32} {F : Mem} (o0 : oO L 5 i0) (h : f_Br_add L i0 x1 x2 F = some out) : Met l y_Br_add w_Br_add r_Br_add (va_Pc [.ref (mAd X i0), .int x1, .int x2] (Pr X L F)) (QV X L out) 0 0 (AA X L) := by
  refine mk_met (by decide) rfl (Nat.le_of_ble_eq_true rfl) hW ?_
  intro p e s m args below meth c ls hC hI hl
  have hl : lv_has ls 4 [(0, .ref (mAd X i0)), (1, .int x1), (2, .int x2)] := hl
  generalize hHe : s.heap = H at hI ⊢
  generalize ([] : List Loc) = locs at hI ⊢
  unfold f_Br_add at h
  obtain ⟨S, hK, hT, hW, hr, hlk⟩ := id hC
  have hx := S.1
  have hb := S.2.1
  refine lv_iload_n hx hb d_Br_add_0 rfl (lv_at hl 2 rfl) ?_
  refine lv_iconst (v := 1) hx hb d_Br_add_1 rfl ?_
  refine lv_isub hx hb d_Br_add_2 ?_
  refine lv_istore_n (lv' := [(3, .int (x2 - (1 : Int32))), (0, .ref (mAd X i0)), (1, .int x1), (2, .int x2)]) hx hb d_Br_add_3 rfl hl (by decide) rfl (fun ls hl => ?_)
  exact tf_Br_add_4 hC  mFU _ _ _ _ _ _ _ o0 hI (lv_sub hl [1, 2, 0] rfl) h
end
theorem d_Tr_addSymbol_0 : decode cc_Tr_addSymbol 0 = .ok (.aload_n 2, 1) := by decide +kernel
theorem d_Tr_addSymbol_1 : decode cc_Tr_addSymbol 1 = .ok (.aload_n 0, 1) := by decide +kernel
theorem d_Tr_addSymbol_2 : decode cc_Tr_addSymbol 2 = .ok (.getfield 15, 3) := by decide +kernel
theorem d_Tr_addSymbol_5 : decode cc_Tr_addSymbol 5 = .ok (.iload_n 1, 1) := by decide +kernel
theorem d_Tr_addSymbol_6 : decode cc_Tr_addSymbol 6 = .ok (.iaload, 1) := by decide +kernel
theorem d_Tr_addSymbol_7 : decode cc_Tr_addSymbol 7 = .ok (.aload_n 0, 1) := by decide +kernel
theorem d_Tr_addSymbol_8 : decode cc_Tr_addSymbol 8 = .ok (.getfield 9, 3) := by decide +kernel
theorem d_Tr_addSymbol_11 : decode cc_Tr_addSymbol 11 = .ok (.iload_n 1, 1) := by decide +kernel
theorem d_Tr_addSymbol_12 : decode cc_Tr_addSymbol 12 = .ok (.iaload, 1) := by decide +kernel
theorem d_Tr_addSymbol_13 : decode cc_Tr_addSymbol 13 = .ok (.iconst 1, 1) := by decide +kernel
theorem d_Tr_addSymbol_14 : decode cc_Tr_addSymbol 14 = .ok (.isub, 1) := by decide +kernel
theorem d_Tr_addSymbol_15 : decode cc_Tr_addSymbol 15 = .ok (.ishr, 1) := by decide +kernel
theorem d_Tr_addSymbol_16 : decode cc_Tr_addSymbol 16 = .ok (.aload_n 0, 1) := by decide +kernel
theorem d_Tr_addSymbol_17 : decode cc_Tr_addSymbol 17 = .ok (.iload_n 1, 1) := by decide +kernel
theorem d_Tr_addSymbol_18 : decode cc_Tr_addSymbol 18 = .ok (.invokevirtual 37, 3) := by decide +kernel
theorem d_Tr_addSymbol_21 : decode cc_Tr_addSymbol 21 = .ok (.invokevirtual 40, 3) := by decide +kernel
theorem d_Tr_addSymbol_24 : decode cc_Tr_addSymbol 24 = .ok (.return_, 1) := by decide +kernel
section
variable {p : Program} {l : Launch} {e : Env} {s : State} {m : MethodId} {args : Array Value} {below : List Frame} {meth : Method} {c : Code} {X : Xs} {L : La}
def f_Tr_addSymbol (L : La) (i0 : Nat) (x1 : Int32) (i2 : Nat) (F : Mem) : Option Mem :=
  if inb x1 (mGl L (mRf L i0 1)) then none else
  if inb x1 (mGl L (mRf L i0 0)) then none else
  (f_Tr_bitsOf L i0 x1 F).bind fun q5 =>
  (f_Br_add L i2 (jshr (mGa L F (mRf L i0 1) x1.toNatClampNeg) ((mGa L F (mRf L i0 0) x1.toNatClampNeg) - (1 : Int32))) q5.1 q5.2).bind fun F7 =>
  some F7
set_option maxHeartbeats 4000000 in
theorem c_Tr_addSymbol (l : Launch) {X : Xs} {L : La} (hW : WT L) {out : Mem} {i0 : Nat} {x1 : Int32} {i2 : Nat} {F : Mem} (o0 : oO L 3 i0) (o2 : oO L 5 i2) (h : f_Tr_addSymbol L i0 x1 i2 F = some out) : Met l y_Tr_addSymbol w_Tr_addSymbol r_Tr_addSymbol (va_Pc [.ref (mAd X i0), .int x1, .ref (mAd X i2)] (Pr X L F)) (QV X L out) 0 0 (AA X L) := by
  refine mk_met (by decide) rfl (Nat.le_of_ble_eq_true rfl) hW ?_
  intro p e s m args below meth c ls hC hI hl
  have hl : lv_has ls 3 [(0, .ref (mAd X i0)), (1, .int x1), (2, .ref (mAd X i2))] := hl
  generalize hHe : s.heap = H at hI ⊢
  generalize ([] : List Loc) = locs at hI ⊢
  unfold f_Tr_addSymbol at h
  obtain ⟨S, hK, hT, hW, hr, hlk⟩ := id hC
  have hx := S.1
  have hb := S.2.1
  refine lv_aload_n hx hb d_Tr_addSymbol_0 rfl (lv_at hl 2 rfl) ?_
  refine lv_aload_n hx hb d_Tr_addSymbol_1 rfl (lv_at hl 0 rfl) ?_
  have p1 := wt_a hW o0 1 rfl (by decide) (by decide)
  refine w_getR (T := T_Tr) S hK hI o0 rfl hin_Tr 1 (index := 15) (by decide) lf_Tr_15 d_Tr_addSymbol_2 ?_
  refine lv_iload_n hx hb d_Tr_addSymbol_5 rfl (lv_at hl 1 rfl) ?_
  obtain ⟨z2, h⟩ := un_if h
  refine w_iald S hK hI hT p1 z2 d_Tr_addSymbol_6 ?_
  refine lv_aload_n hx hb d_Tr_addSymbol_7 rfl (lv_at hl 0 rfl) ?_
  have p3 := wt_a hW o0 0 rfl (by decide) (by decide)
  refine w_getR (T := T_Tr) S hK hI o0 rfl hin_Tr 0 (index := 9) (by decide) lf_Tr_9 d_Tr_addSymbol_8 ?_
  refine lv_iload_n hx hb d_Tr_addSymbol_11 rfl (lv_at hl 1 rfl) ?_
  obtain ⟨z4, h⟩ := un_if h
  refine w_iald S hK hI hT p3 z4 d_Tr_addSymbol_12 ?_
  refine lv_iconst (v := 1) hx hb d_Tr_addSymbol_13 rfl ?_
  refine lv_isub hx hb d_Tr_addSymbol_14 ?_
  refine lv_ishr hx hb d_Tr_addSymbol_15 ?_
  refine lv_aload_n hx hb d_Tr_addSymbol_16 rfl (lv_at hl 0 rfl) ?_
  refine lv_iload_n hx hb d_Tr_addSymbol_17 rfl (lv_at hl 1 rfl) ?_
  obtain ⟨q5, e6, h⟩ := un_bi h
  refine w_callVi (As := [.int x1]) (rest := [.int (jshr (mGa L F (mRf L i0 1) x1.toNatClampNeg) ((mGa L F (mRf L i0 0) x1.toNatClampNeg) - (1 : Int32))), .ref (mAd X i2)]) S hK hI hT (c_Tr_bitsOf l hW o0 e6) (cwV 1 S.2.2.2.2 (gd_V lc_Tr_bitsOf lm_Tr_37 li_Tr_bitsOf ls_Tr_bitsOf ln_Tr) rfl rfl rfl hd_Tr_bitsOf ⟨Nat.le_of_ble_eq_true rfl, Nat.le_of_ble_eq_true rfl⟩) o0 rfl (by decide) rfl rfl hl.1 (Nat.le_of_ble_eq_true rfl) d_Tr_addSymbol_18 ⟨Nat.zero_le _, Nat.zero_le _⟩ (fun H locs hI => ?_)
  obtain ⟨F7, e8, h⟩ := un_bi h
  refine w_callVv (As := [.int (jshr (mGa L F (mRf L i0 1) x1.toNatClampNeg) ((mGa L F (mRf L i0 0) x1.toNatClampNeg) - (1 : Int32))), .int q5.1]) (rest := []) S hK hI hT (c_Br_add l hW o2 e8) (cwV 2 S.2.2.2.2 (gd_V lc_Br_add lm_Tr_40 li_Br_add ls_Br_add ln_Br) rfl rfl rfl hd_Br_add ⟨Nat.le_of_ble_eq_true rfl, Nat.le_of_ble_eq_true rfl⟩) o2 rfl (by decide) rfl rfl hl.1 (Nat.le_of_ble_eq_true rfl) d_Tr_addSymbol_21 ⟨Nat.zero_le _, Nat.zero_le _⟩ (fun H locs hI => ?_)
  exact w_vret S hK hr hlk hI d_Tr_addSymbol_24 h
end
theorem d_Br_bytesNeeded_0 : decode cc_Br_bytesNeeded 0 = .ok (.aload_n 0, 1) := by decide +kernel
theorem d_Br_bytesNeeded_1 : decode cc_Br_bytesNeeded 1 = .ok (.getfield 15, 3) := by decide +kernel
theorem d_Br_bytesNeeded_4 : decode cc_Br_bytesNeeded 4 = .ok (.bipush (8), 2) := by decide +kernel
theorem d_Br_bytesNeeded_6 : decode cc_Br_bytesNeeded 6 = .ok (.idiv, 1) := by decide +kernel
theorem d_Br_bytesNeeded_7 : decode cc_Br_bytesNeeded 7 = .ok (.iconst 1, 1) := by decide +kernel
theorem d_Br_bytesNeeded_8 : decode cc_Br_bytesNeeded 8 = .ok (.iadd, 1) := by decide +kernel
theorem d_Br_bytesNeeded_9 : decode cc_Br_bytesNeeded 9 = .ok (.ireturn, 1) := by decide +kernel
section
variable {p : Program} {l : Launch} {e : Env} {s : State} {m : MethodId} {args : Array Value} {below : List Frame} {meth : Method} {c : Code} {X : Xs} {L : La}
def f_Br_bytesNeeded (L : La) (i0 : Nat) (F : Mem) : Option (Int32 × Mem) :=
  some (((F i0 1) / (8 : Int32)) + (1 : Int32), F)
set_option maxHeartbeats 4000000 in
theorem c_Br_bytesNeeded (l : Launch) {X : Xs} {L : La} (hW : WT L) {out : (Int32 × Mem)} {i0 : Nat} {F : Mem} (o0 : oO L 5 i0) (h : f_Br_bytesNeeded L i0 F = some out) : Met l y_Br_bytesNeeded w_Br_bytesNeeded r_Br_bytesNeeded (va_Pc [.ref (mAd X i0)] (Pr X L F)) (QI X L out) 0 0 (AA X L) := by
  refine mk_met (by decide) rfl (Nat.le_of_ble_eq_true rfl) hW ?_
  intro p e s m args below meth c ls hC hI hl
  have hl : lv_has ls 1 [(0, .ref (mAd X i0))] := hl
  generalize hHe : s.heap = H at hI ⊢
  generalize ([] : List Loc) = locs at hI ⊢
  unfold f_Br_bytesNeeded at h
  obtain ⟨S, hK, hT, hW, hr, hlk⟩ := id hC
  have hx := S.1
  have hb := S.2.1
  refine lv_aload_n hx hb d_Br_bytesNeeded_0 rfl (lv_at hl 0 rfl) ?_
  refine w_getI (T := T_Br) S hK hI o0 rfl hin_Br 1 (index := 15) (by decide) lf_Br_15 d_Br_bytesNeeded_1 ?_
  refine lv_bipush (v := 8) hx hb d_Br_bytesNeeded_4 (by decide) ?_
  refine lv_idiv hx hb d_Br_bytesNeeded_6 (by decide) ?_
  refine lv_iconst (v := 1) hx hb d_Br_bytesNeeded_7 rfl ?_
  refine lv_iadd hx hb d_Br_bytesNeeded_8 ?_
  exact w_iret S hK hr hlk hI d_Br_bytesNeeded_9 h
end
theorem d_Pk_addTree_0 : decode cc_Pk_addTree 0 = .ok (.aload_n 0, 1) := by decide +kernel
theorem d_Pk_addTree_1 : decode cc_Pk_addTree 1 = .ok (.getfield 14, 3) := by decide +kernel
theorem d_Pk_addTree_4 : decode cc_Pk_addTree 4 = .ok (.aload_n 0, 1) := by decide +kernel
theorem d_Pk_addTree_5 : decode cc_Pk_addTree 5 = .ok (.getfield 37, 3) := by decide +kernel
theorem d_Pk_addTree_8 : decode cc_Pk_addTree 8 = .ok (.getfield 147, 3) := by decide +kernel
theorem d_Pk_addTree_11 : decode cc_Pk_addTree 11 = .ok (.invokevirtual 87, 3) := by decide +kernel
theorem d_Pk_addTree_14 : decode cc_Pk_addTree 14 = .ok (.aload_n 0, 1) := by decide +kernel
theorem d_Pk_addTree_15 : decode cc_Pk_addTree 15 = .ok (.getfield 14, 3) := by decide +kernel
theorem d_Pk_addTree_18 : decode cc_Pk_addTree 18 = .ok (.iload_n 1, 1) := by decide +kernel
theorem d_Pk_addTree_19 : decode cc_Pk_addTree 19 = .ok (.invokevirtual 87, 3) := by decide +kernel
theorem d_Pk_addTree_22 : decode cc_Pk_addTree 22 = .ok (.iconst 0, 1) := by decide +kernel
theorem d_Pk_addTree_23 : decode cc_Pk_addTree 23 = .ok (.istore_n 2, 1) := by decide +kernel
theorem d_Pk_addTree_24 : decode cc_Pk_addTree 24 = .ok (.iload_n 2, 1) := by decide +kernel
theorem d_Pk_addTree_25 : decode cc_Pk_addTree 25 = .ok (.iload_n 1, 1) := by decide +kernel
theorem d_Pk_addTree_26 : decode cc_Pk_addTree 26 = .ok (.if_icmp .ge (52), 3) := by decide +kernel
theorem d_Pk_addTree_29 : decode cc_Pk_addTree 29 = .ok (.iload_n 2, 1) := by decide +kernel
theorem d_Pk_addTree_30 : decode cc_Pk_addTree 30 = .ok (.iconst 1, 1) := by decide +kernel
theorem d_Pk_addTree_31 : decode cc_Pk_addTree 31 = .ok (.iadd, 1) := by decide +kernel
theorem d_Pk_addTree_32 : decode cc_Pk_addTree 32 = .ok (.iload_n 1, 1) := by decide +kernel
theorem d_Pk_addTree_33 : decode cc_Pk_addTree 33 = .ok (.if_icmp .ge (17), 3) := by decide +kernel
theorem d_Pk_addTree_36 : decode cc_Pk_addTree 36 = .ok (.aload_n 0, 1) := by decide +kernel
theorem d_Pk_addTree_37 : decode cc_Pk_addTree 37 = .ok (.getfield 37, 3) := by decide +kernel
theorem d_Pk_addTree_40 : decode cc_Pk_addTree 40 = .ok (.getfield 152, 3) := by decide +kernel
theorem d_Pk_addTree_43 : decode cc_Pk_addTree 43 = .ok (.iload_n 2, 1) := by decide +kernel
theorem d_Pk_addTree_44 : decode cc_Pk_addTree 44 = .ok (.iconst 1, 1) := by decide +kernel
theorem d_Pk_addTree_45 : decode cc_Pk_addTree 45 = .ok (.iadd, 1) := by decide +kernel
theorem d_Pk_addTree_46 : decode cc_Pk_addTree 46 = .ok (.iaload, 1) := by decide +kernel
theorem d_Pk_addTree_47 : decode cc_Pk_addTree 47 = .ok (.goto (4), 3) := by decide +kernel
theorem d_Pk_addTree_50 : decode cc_Pk_addTree 50 = .ok (.iconst 0, 1) := by decide +kernel
theorem d_Pk_addTree_51 : decode cc_Pk_addTree 51 = .ok (.istore_n 3, 1) := by decide +kernel
theorem d_Pk_addTree_52 : decode cc_Pk_addTree 52 = .ok (.aload_n 0, 1) := by decide +kernel
theorem d_Pk_addTree_53 : decode cc_Pk_addTree 53 = .ok (.getfield 14, 3) := by decide +kernel
theorem d_Pk_addTree_56 : decode cc_Pk_addTree 56 = .ok (.aload_n 0, 1) := by decide +kernel
theorem d_Pk_addTree_57 : decode cc_Pk_addTree 57 = .ok (.getfield 37, 3) := by decide +kernel
theorem d_Pk_addTree_60 : decode cc_Pk_addTree 60 = .ok (.getfield 152, 3) := by decide +kernel
theorem d_Pk_addTree_63 : decode cc_Pk_addTree 63 = .ok (.iload_n 2, 1) := by decide +kernel
theorem d_Pk_addTree_64 : decode cc_Pk_addTree 64 = .ok (.iaload, 1) := by decide +kernel
theorem d_Pk_addTree_65 : decode cc_Pk_addTree 65 = .ok (.iconst 4, 1) := by decide +kernel
theorem d_Pk_addTree_66 : decode cc_Pk_addTree 66 = .ok (.ishl, 1) := by decide +kernel
theorem d_Pk_addTree_67 : decode cc_Pk_addTree 67 = .ok (.iload_n 3, 1) := by decide +kernel
theorem d_Pk_addTree_68 : decode cc_Pk_addTree 68 = .ok (.ior, 1) := by decide +kernel
theorem d_Pk_addTree_69 : decode cc_Pk_addTree 69 = .ok (.invokevirtual 87, 3) := by decide +kernel
theorem d_Pk_addTree_72 : decode cc_Pk_addTree 72 = .ok (.iinc 2 (2), 3) := by decide +kernel
theorem d_Pk_addTree_75 : decode cc_Pk_addTree 75 = .ok (.goto (-51), 3) := by decide +kernel
theorem d_Pk_addTree_78 : decode cc_Pk_addTree 78 = .ok (.return_, 1) := by decide +kernel
section
variable {p : Program} {l : Launch} {e : Env} {s : State} {m : MethodId} {args : Array Value} {below : List Frame} {meth : Method} {c : Code} {X : Xs} {L : La}
def b_Pk_addTree_51 (L : La) (k24 : Nat → Int32 → Int32 → Mem → Option Mem) (i0 : Nat) (x1 : Int32) (x2 : Int32) (y0 : Int32) (F : Mem) : Option Mem :=
  if inb x2 (mGl L (mRf L (mRf L i0 7) 0)) then none else
  (f_Row_add L (mRf L i0 4) ((jshl (mGa L F (mRf L (mRf L i0 7) 0) x2.toNatClampNeg) (4 : Int32)) ||| y0) F).bind fun F5 =>
  k24 i0 x1 (x2 + (2 : Int32)) F5
set_option maxHeartbeats 4000000 in
theorem t_Pk_addTree_51 (hC : Cx X L p s m args meth c cc_Pk_addTree 4 w_Pk_addTree R_Pk none) {k24 : Nat → Int32 → Int32 → Mem → Option Mem} {out : Mem} (hk24 : ∀ (i0 : Nat) (x1 : Int32) (x2 : Int32) (F : Mem) (H : Heap) (locs : List Loc) (ls : Array Slot), oO L 11 i0 → Iv X L s H locs F → lv_has ls 4 [(0, .ref (mAd X i0)), (1, .int x1), (2, .int x2)] → k24 i0 x1 x2 F = some out → W p l e (headSpec w_Pk_addTree r_Pk_addTree).room s m args below meth c H locs 0 0 (MQ below (QV X L out) args s 0 0 (AA X L)) (F0 m 24 ls [])) {i0 : Nat} {x1 : Int32} {x2 : Int32} {y0 : Int32} {F : Mem} {H : Heap} {locs : List Loc} {ls : Array Slot} (o0 : oO L 11 i0) (hI : Iv X L s H locs F) (hl : lv_has ls 4 [(0, .ref (mAd X i0)), (1, .int x1), (2, .int x2)]) (h : b_Pk_addTree_51 L k24 i0 x1 x2 y0 F = some out) : W p l e (headSpec w_Pk_addTree r_Pk_addTree).room s m args below meth c H locs 0 0 (MQ below (QV X L out) args s 0 0 (AA X L)) (F0 m 51 ls [.int y0]) := by
  unfold b_Pk_addTree_51 at h
  obtain ⟨S, hK, hT, hW, hr, hlk⟩ := id hC
  have hx := S.1
  have hb := S.2.1
  refine lv_istore_n (lv' := [(3, .int y0), (0, .ref (mAd X i0)), (1, .int x1), (2, .int x2)]) hx hb d_Pk_addTree_51 rfl hl (by decide) rfl (fun ls hl => ?_)
  refine lv_aload_n hx hb d_Pk_addTree_52 rfl (lv_at hl 1 rfl) ?_
  have p1 := wt_o hW o0 4 1 rfl (by decide) (by decide) (by decide)
  refine w_getR (T := T_Pk) S hK hI o0 rfl hin_Pk 4 (index := 14) (by decide) lf_Pk_14 d_Pk_addTree_53 ?_
  refine lv_aload_n hx hb d_Pk_addTree_56 rfl (lv_at hl 1 rfl) ?_
  have p2 := wt_o hW o0 7 3 rfl (by decide) (by decide) (by decide)
  refine w_getR (T := T_Pk) S hK hI o0 rfl hin_Pk 7 (index := 37) (by decide) lf_Pk_37 d_Pk_addTree_57 ?_
  have p3 := wt_a hW p2 0 rfl (by decide) (by decide)
  refine w_getR (T := T_Tr) S hK hI p2 rfl hin_Tr 0 (index := 152) (by decide) lf_Pk_152 d_Pk_addTree_60 ?_
  refine lv_iload_n hx hb d_Pk_addTree_63 rfl (lv_at hl 3 rfl) ?_
  obtain ⟨z4, h⟩ := un_if h
  refine w_iald S hK hI hT p3 z4 d_Pk_addTree_64 ?_
  refine lv_iconst (v := 4) hx hb d_Pk_addTree_65 rfl ?_
  refine lv_ishl hx hb d_Pk_addTree_66 ?_
  refine lv_iload_n hx hb d_Pk_addTree_67 rfl (lv_at hl 0 rfl) ?_
  refine lv_ior hx hb d_Pk_addTree_68 ?_
  obtain ⟨F5, e6, h⟩ := un_bi h
  refine w_callVv (As := [.int ((jshl (mGa L F (mRf L (mRf L i0 7) 0) x2.toNatClampNeg) (4 : Int32)) ||| y0)]) (rest := []) S hK hI hT (c_Row_add l hW p1 e6) (cwV 1 S.2.2.2.2 (gd_V lc_Row_add lm_Pk_87 li_Row_add ls_Row_add ln_Row) rfl rfl rfl hd_Row_add ⟨Nat.le_of_ble_eq_true rfl, Nat.le_of_ble_eq_true rfl⟩) p1 rfl (by decide) rfl rfl hl.1 (Nat.le_of_ble_eq_true rfl) d_Pk_addTree_69 ⟨Nat.zero_le _, Nat.zero_le _⟩ (fun H locs hI => ?_)
  refine lv_iinc (k := 3) (v := x2 + (2 : Int32)) (lv' := [(2, .int (x2 + (2 : Int32))), (3, .int y0), (0, .ref (mAd X i0)), (1, .int x1)]) hx hb d_Pk_addTree_72 hl rfl rfl (by decide) rfl (fun ls hl => ?_)
  refine lv_goto (tgt := 24) hx hb d_Pk_addTree_75 rfl ?_
  exact hk24 _ _ _ _ _ _ _ o0 hI (lv_sub hl [2, 3, 0] rfl) h
def b_Pk_addTree_24 (L : La) (k24 : Nat → Int32 → Int32 → Mem → Option Mem) (i0 : Nat) (x1 : Int32) (x2 : Int32) (F : Mem) : Option Mem :=
  if x1 ≤ x2 then
    some F
  else
    if x1 ≤ (x2 + (1 : Int32)) then
      b_Pk_addTree_51 L k24 i0 x1 x2 (0 : Int32) F
    else
      if inb (x2 + (1 : Int32)) (mGl L (mRf L (mRf L i0 7) 0)) then none else
      b_Pk_addTree_51 L k24 i0 x1 x2 (mGa L F (mRf L (mRf L i0 7) 0) (x2 + (1 : Int32)).toNatClampNeg) F
set_option maxHeartbeats 4000000 in
theorem t_Pk_addTree_24 (hC : Cx X L p s m args meth c cc_Pk_addTree 4 w_Pk_addTree R_Pk none) {k24 : Nat → Int32 → Int32 → Mem → Option Mem} {out : Mem} (hk24 : ∀ (i0 : Nat) (x1 : Int32) (x2 : Int32) (F : Mem) (H : Heap) (locs : List Loc) (ls : Array Slot), oO L 11 i0 → Iv X L s H locs F → lv_has ls 4 [(0, .ref (mAd X i0)), (1, .int x1), (2, .int x2)] → k24 i0 x1 x2 F = some out → W p l e (headSpec w_Pk_addTree r_Pk_addTree).room s m args below meth c H locs 0 0 (MQ below (QV X L out) args s 0 0 (AA X L)) (F0 m 24 ls [])) {i0 : Nat} {x1 : Int32} {x2 : Int32} {F : Mem} {H : Heap} {locs : List Loc} {ls : Array Slot} (o0 : oO L 11 i0) (hI : Iv X L s H locs F) (hl : lv_has ls 4 [(0, .ref (mAd X i0)), (1, .int x1), (2, .int x2)]) (h : b_Pk_addTree_24 L k24 i0 x1 x2 F = some out) : W p l e (headSpec w_Pk_addTree r_Pk_addTree).room s m args below meth c H locs 0 0 (MQ below (QV X L out) args s 0 0 (AA X L)) (F0 m 24 ls []) := by
  unfold b_Pk_addTree_24 at h
  obtain ⟨S, hK, hT, hW, hr, hlk⟩ := id hC
  have hx := S.1
  have hb := S.2.1
  refine lv_iload_n hx hb d_Pk_addTree_24 rfl (lv_at hl 2 rfl) ?_
  refine lv_iload_n hx hb d_Pk_addTree_25 rfl (lv_at hl 1 rfl) ?_
  refine lv_icmp_ge (tgt := 78) hx hb d_Pk_addTree_26 rfl (fun hc => ?_) (fun hc => ?_)
  · replace h := (if_pos hc).symm.trans h
    exact w_vret S hK hr hlk hI d_Pk_addTree_78 h
  · replace h := (if_neg hc).symm.trans h
    refine lv_iload_n hx hb d_Pk_addTree_29 rfl (lv_at hl 2 rfl) ?_
    refine lv_iconst (v := 1) hx hb d_Pk_addTree_30 rfl ?_
    refine lv_iadd hx hb d_Pk_addTree_31 ?_
    refine lv_iload_n hx hb d_Pk_addTree_32 rfl (lv_at hl 1 rfl) ?_
    refine lv_icmp_ge (tgt := 50) hx hb d_Pk_addTree_33 rfl (fun hc => ?_) (fun hc => ?_)
    · replace h := (if_pos hc).symm.trans h
      refine lv_iconst (v := 0) hx hb d_Pk_addTree_50 rfl ?_
      exact t_Pk_addTree_51 hC hk24 o0 hI hl h
    · replace h := (if_neg hc).symm.trans h
      refine lv_aload_n hx hb d_Pk_addTree_36 rfl (lv_at hl 0 rfl) ?_
      have p1 := wt_o hW o0 7 3 rfl (by decide) (by decide) (by decide)
      refine w_getR (T := T_Pk) S hK hI o0 rfl hin_Pk 7 (index := 37) (by decide) lf_Pk_37 d_Pk_addTree_37 ?_
      have p2 := wt_a hW p1 0 rfl (by decide) (by decide)
      refine w_getR (T := T_Tr) S hK hI p1 rfl hin_Tr 0 (index := 152) (by decide) lf_Pk_152 d_Pk_addTree_40 ?_
      refine lv_iload_n hx hb d_Pk_addTree_43 rfl (lv_at hl 2 rfl) ?_
      refine lv_iconst (v := 1) hx hb d_Pk_addTree_44 rfl ?_
      refine lv_iadd hx hb d_Pk_addTree_45 ?_
      obtain ⟨z3, h⟩ := un_if h
      refine w_iald S hK hI hT p2 z3 d_Pk_addTree_46 ?_
      refine lv_goto (tgt := 51) hx hb d_Pk_addTree_47 rfl ?_
      exact t_Pk_addTree_51 hC hk24 o0 hI hl h
def f_Pk_addTree_24 (L : La)  : Nat → Nat → Int32 → Int32 → Mem → Option Mem
  | 0 => fun _ _ _ _ => none
  | n + 1 => b_Pk_addTree_24 L (f_Pk_addTree_24 L  n)
theorem tf_Pk_addTree_24 (hC : Cx X L p s m args meth c cc_Pk_addTree 4 w_Pk_addTree R_Pk none)  {out : Mem}  (n : Nat) : ∀ (i0 : Nat) (x1 : Int32) (x2 : Int32) (F : Mem) (H : Heap) (locs : List Loc) (ls : Array Slot), oO L 11 i0 → Iv X L s H locs F → lv_has ls 4 [(0, .ref (mAd X i0)), (1, .int x1), (2, .int x2)] → f_Pk_addTree_24 L  n i0 x1 x2 F = some out → W p l e (headSpec w_Pk_addTree r_Pk_addTree).room s m args below meth c H locs 0 0 (MQ below (QV X L out) args s 0 0 (AA X L)) (F0 m 24 ls []) := by
  induction n with
  | zero => intro i0 x1 x2 F H locs ls o0 hI hl h; cases h
  | succ n ih => intro i0 x1 x2 F H locs ls o0 hI hl h; exact t_Pk_addTree_24 hC ih o0 hI hl h
def f_Pk_addTree (L : La) (i0 : Nat) (x1 : Int32) (F : Mem) : Option Mem :=
  (f_Row_add L (mRf L i0 4) (F (mRf L i0 7) 3) F).bind fun F3 =>
  (f_Row_add L (mRf L i0 4) x1 F3).bind fun F6 =>
  f_Pk_addTree_24 L  mFU i0 x1 (0 : Int32) F6
set_option maxHeartbeats 4000000 in
theorem c_Pk_addTree (l : Launch) {X : Xs} {L : La} (hW : WT L) {out : Mem} {i0 : Nat} {x1 : Int32} {F : Mem} (o0 : oO L 11 i0) (h : f_Pk_addTree L i0 x1 F = some out) : Met l y_Pk_addTree w_Pk_addTree r_Pk_addTree (va_Pc [.ref (mAd X i0), .int x1] (Pr X L F)) (QV X L out) 0 0 (AA X L) := by
  refine mk_met (by decide) rfl (Nat.le_of_ble_eq_true rfl) hW ?_
  intro p e s m args below meth c ls hC hI hl
  have hl : lv_has ls 4 [(0, .ref (mAd X i0)), (1, .int x1)] := hl
  generalize hHe : s.heap = H at hI ⊢
  generalize ([] : List Loc) = locs at hI ⊢
  unfold f_Pk_addTree at h
  obtain ⟨S, hK, hT, hW, hr, hlk⟩ := id hC
  have hx := S.1
  have hb := S.2.1
  refine lv_aload_n hx hb d_Pk_addTree_0 rfl (lv_at hl 0 rfl) ?_
  have p1 := wt_o hW o0 4 1 rfl (by decide) (by decide) (by decide)
  refine w_getR (T := T_Pk) S hK hI o0 rfl hin_Pk 4 (index := 14) (by decide) lf_Pk_14 d_Pk_addTree_1 ?_
  refine lv_aload_n hx hb d_Pk_addTree_4 rfl (lv_at hl 0 rfl) ?_
  have p2 := wt_o hW o0 7 3 rfl (by decide) (by decide) (by decide)
  refine w_getR (T := T_Pk) S hK hI o0 rfl hin_Pk 7 (index := 37) (by decide) lf_Pk_37 d_Pk_addTree_5 ?_
  refine w_getI (T := T_Tr) S hK hI p2 rfl hin_Tr 3 (index := 147) (by decide) lf_Pk_147 d_Pk_addTree_8 ?_
  obtain ⟨F3, e4, h⟩ := un_bi h
  refine w_callVv (As := [.int (F (mRf L i0 7) 3)]) (rest := []) S hK hI hT (c_Row_add l hW p1 e4) (cwV 1 S.2.2.2.2 (gd_V lc_Row_add lm_Pk_87 li_Row_add ls_Row_add ln_Row) rfl rfl rfl hd_Row_add ⟨Nat.le_of_ble_eq_true rfl, Nat.le_of_ble_eq_true rfl⟩) p1 rfl (by decide) rfl rfl hl.1 (Nat.le_of_ble_eq_true rfl) d_Pk_addTree_11 ⟨Nat.zero_le _, Nat.zero_le _⟩ (fun H locs hI => ?_)
  refine lv_aload_n hx hb d_Pk_addTree_14 rfl (lv_at hl 0 rfl) ?_
  have p5 := wt_o hW o0 4 1 rfl (by decide) (by decide) (by decide)
  refine w_getR (T := T_Pk) S hK hI o0 rfl hin_Pk 4 (index := 14) (by decide) lf_Pk_14 d_Pk_addTree_15 ?_
  refine lv_iload_n hx hb d_Pk_addTree_18 rfl (lv_at hl 1 rfl) ?_
  obtain ⟨F6, e7, h⟩ := un_bi h
  refine w_callVv (As := [.int x1]) (rest := []) S hK hI hT (c_Row_add l hW p5 e7) (cwV 1 S.2.2.2.2 (gd_V lc_Row_add lm_Pk_87 li_Row_add ls_Row_add ln_Row) rfl rfl rfl hd_Row_add ⟨Nat.le_of_ble_eq_true rfl, Nat.le_of_ble_eq_true rfl⟩) p5 rfl (by decide) rfl rfl hl.1 (Nat.le_of_ble_eq_true rfl) d_Pk_addTree_19 ⟨Nat.zero_le _, Nat.zero_le _⟩ (fun H locs hI => ?_)
  refine lv_iconst (v := 0) hx hb d_Pk_addTree_22 rfl ?_
  refine lv_istore_n (lv' := [(2, .int (0 : Int32)), (0, .ref (mAd X i0)), (1, .int x1)]) hx hb d_Pk_addTree_23 rfl hl (by decide) rfl (fun ls hl => ?_)
  exact tf_Pk_addTree_24 hC  mFU _ _ _ _ _ _ _ o0 hI (lv_sub hl [1, 2, 0] rfl) h
end
theorem d_Br_bitOver_0 : decode cc_Br_bitOver 0 = .ok (.iload_n 1, 1) := by decide +kernel
theorem d_Br_bitOver_1 : decode cc_Br_bitOver 1 = .ok (.aload_n 0, 1) := by decide +kernel
theorem d_Br_bitOver_2 : decode cc_Br_bitOver 2 = .ok (.getfield 15, 3) := by decide +kernel
theorem d_Br_bitOver_5 : decode cc_Br_bitOver 5 = .ok (.if_icmp .lt (17), 3) := by decide +kernel
theorem d_Br_bitOver_8 : decode cc_Br_bitOver 8 = .ok (.iload_n 1, 1) := by decide +kernel
theorem d_Br_bitOver_9 : decode cc_Br_bitOver 9 = .ok (.aload_n 0, 1) := by decide +kernel
theorem d_Br_bitOver_10 : decode cc_Br_bitOver 10 = .ok (.getfield 15, 3) := by decide +kernel
theorem d_Br_bitOver_13 : decode cc_Br_bitOver 13 = .ok (.if_icmp .ne (7), 3) := by decide +kernel
theorem d_Br_bitOver_16 : decode cc_Br_bitOver 16 = .ok (.iconst 1, 1) := by decide +kernel
theorem d_Br_bitOver_17 : decode cc_Br_bitOver 17 = .ok (.goto (4), 3) := by decide +kernel
theorem d_Br_bitOver_20 : decode cc_Br_bitOver 20 = .ok (.iconst 0, 1) := by decide +kernel
theorem d_Br_bitOver_21 : decode cc_Br_bitOver 21 = .ok (.ireturn, 1) := by decide +kernel
theorem d_Br_bitOver_22 : decode cc_Br_bitOver 22 = .ok (.aload_n 0, 1) := by decide +kernel
theorem d_Br_bitOver_23 : decode cc_Br_bitOver 23 = .ok (.getfield 9, 3) := by decide +kernel
theorem d_Br_bitOver_26 : decode cc_Br_bitOver 26 = .ok (.aload_n 0, 1) := by decide +kernel
theorem d_Br_bitOver_27 : decode cc_Br_bitOver 27 = .ok (.getfield 15, 3) := by decide +kernel
theorem d_Br_bitOver_30 : decode cc_Br_bitOver 30 = .ok (.iconst 1, 1) := by decide +kernel
theorem d_Br_bitOver_31 : decode cc_Br_bitOver 31 = .ok (.isub, 1) := by decide +kernel
theorem d_Br_bitOver_32 : decode cc_Br_bitOver 32 = .ok (.iload_n 1, 1) := by decide +kernel
theorem d_Br_bitOver_33 : decode cc_Br_bitOver 33 = .ok (.isub, 1) := by decide +kernel
theorem d_Br_bitOver_34 : decode cc_Br_bitOver 34 = .ok (.iaload, 1) := by decide +kernel
theorem d_Br_bitOver_35 : decode cc_Br_bitOver 35 = .ok (.ireturn, 1) := by decide +kernel
section
variable {p : Program} {l : Launch} {e : Env} {s : State} {m : MethodId} {args : Array Value} {below : List Frame} {meth : Method} {c : Code} {X : Xs} {L : La}
def b_Br_bitOver_21 (L : La)  (y0 : Int32) (F : Mem) : Option (Int32 × Mem) :=
  some (y0, F)
set_option maxHeartbeats 4000000 in
theorem t_Br_bitOver_21 (hC : Cx X L p s m args meth c cc_Br_bitOver 2 w_Br_bitOver R_Br (some .int))  {out : (Int32 × Mem)}  {y0 : Int32} {F : Mem} {H : Heap} {locs : List Loc} {ls : Array Slot}  (hI : Iv X L s H locs F) (hl : lv_has ls 2 []) (h : b_Br_bitOver_21 L  y0 F = some out) : W p l e (headSpec w_Br_bitOver r_Br_bitOver).room s m args below meth c H locs 0 0 (MQ below (QI X L out) args s 0 0 (AA X L)) (F0 m 21 ls [.int y0]) := by
  unfold b_Br_bitOver_21 at h
  obtain ⟨S, hK, hT, hW, hr, hlk⟩ := id hC
  have hx := S.1
  have hb := S.2.1
  exact w_iret S hK hr hlk hI d_Br_bitOver_21 h
def f_Br_bitOver (L : La) (i0 : Nat) (x1 : Int32) (F : Mem) : Option (Int32 × Mem) :=
  if x1 < (F i0 1) then
    if inb (((F i0 1) - (1 : Int32)) - x1) (mGl L (mRf L i0 0)) then none else
    some (mGa L F (mRf L i0 0) (((F i0 1) - (1 : Int32)) - x1).toNatClampNeg, F)
  else
    if x1 = (F i0 1) then
      b_Br_bitOver_21 L  (1 : Int32) F
    else
      b_Br_bitOver_21 L  (0 : Int32) F
set_option maxHeartbeats 4000000 in
theorem c_Br_bitOver (l : Launch) {X : Xs} {L : La} (hW : WT L) {out : (Int32 × Mem)} {i0 : Nat} {x1 : Int32} {F : Mem} (o0 : oO L 5 i0) (h : f_Br_bitOver L i0 x1 F = some out) : Met l y_Br_bitOver w_Br_bitOver r_Br_bitOver (va_Pc [.ref (mAd X i0), .int x1] (Pr X L F)) (QI X L out) 0 0 (AA X L) := by
  refine mk_met (by decide) rfl (Nat.le_of_ble_eq_true rfl) hW ?_
  intro p e s m args below meth c ls hC hI hl
  have hl : lv_has ls 2 [(0, .ref (mAd X i0)), (1, .int x1)] := hl
  generalize hHe : s.heap = H at hI ⊢
  generalize ([] : List Loc) = locs at hI ⊢
  unfold f_Br_bitOver at h
  obtain ⟨S, hK, hT, hW, hr, hlk⟩ := id hC
  have hx := S.1
  have hb := S.2.1
  refine lv_iload_n hx hb d_Br_bitOver_0 rfl (lv_at hl 1 rfl) ?_
  refine lv_aload_n hx hb d_Br_bitOver_1 rfl (lv_at hl 0 rfl) ?_
  refine w_getI (T := T_Br) S hK hI o0 rfl hin_Br 1 (index := 15) (by decide) lf_Br_15 d_Br_bitOver_2 ?_
  refine lv_icmp_lt (tgt := 22) hx hb d_Br_bitOver_5 rfl (fun hc => ?_) (fun hc => ?_)
  · replace h := (if_pos hc).symm.trans h
    refine lv_aload_n hx hb d_Br_bitOver_22 rfl (lv_at hl 0 rfl) ?_
    have p1 := wt_a hW o0 0 rfl (by decide) (by decide)
    refine w_getR (T := T_Br) S hK hI o0 rfl hin_Br 0 (index := 9) (by decide) lf_Br_9 d_Br_bitOver_23 ?_
    refine lv_aload_n hx hb d_Br_bitOver_26 rfl (lv_at hl 0 rfl) ?_
    refine w_getI (T := T_Br) S hK hI o0 rfl hin_Br 1 (index := 15) (by decide) lf_Br_15 d_Br_bitOver_27 ?_
    refine lv_iconst (v := 1) hx hb d_Br_bitOver_30 rfl ?_
    refine lv_isub hx hb d_Br_bitOver_31 ?_
    refine lv_iload_n hx hb d_Br_bitOver_32 rfl (lv_at hl 1 rfl) ?_
    refine lv_isub hx hb d_Br_bitOver_33 ?_
    obtain ⟨z2, h⟩ := un_if h
    refine w_iald S hK hI hT p1 z2 d_Br_bitOver_34 ?_
    exact w_iret S hK hr hlk hI d_Br_bitOver_35 h
  · replace h := (if_neg hc).symm.trans h
    refine lv_iload_n hx hb d_Br_bitOver_8 rfl (lv_at hl 1 rfl) ?_
    refine lv_aload_n hx hb d_Br_bitOver_9 rfl (lv_at hl 0 rfl) ?_
    refine w_getI (T := T_Br) S hK hI o0 rfl hin_Br 1 (index := 15) (by decide) lf_Br_15 d_Br_bitOver_10 ?_
    refine lv_icmp_ne (tgt := 20) hx hb d_Br_bitOver_13 rfl (fun hc => ?_) (fun hc => ?_)
    · replace h := (if_neg hc).symm.trans h
      refine lv_iconst (v := 0) hx hb d_Br_bitOver_20 rfl ?_
      exact t_Br_bitOver_21 hC   hI (lv_sub hl [] rfl) h
    · replace h := (if_pos hc).symm.trans h
      refine lv_iconst (v := 1) hx hb d_Br_bitOver_16 rfl ?_
      refine lv_goto (tgt := 21) hx hb d_Br_bitOver_17 rfl ?_
      exact t_Br_bitOver_21 hC   hI (lv_sub hl [] rfl) h
end
theorem d_Br_addStreamTo_0 : decode cc_Br_addStreamTo 0 = .ok (.iconst 0, 1) := by decide +kernel
theorem d_Br_addStreamTo_1 : decode cc_Br_addStreamTo 1 = .ok (.istore_n 2, 1) := by decide +kernel
theorem d_Br_addStreamTo_2 : decode cc_Br_addStreamTo 2 = .ok (.iload_n 2, 1) := by decide +kernel
theorem d_Br_addStreamTo_3 : decode cc_Br_addStreamTo 3 = .ok (.aload_n 0, 1) := by decide +kernel
theorem d_Br_addStreamTo_4 : decode cc_Br_addStreamTo 4 = .ok (.invokevirtual 19, 3) := by decide +kernel
theorem d_Br_addStreamTo_7 : decode cc_Br_addStreamTo 7 = .ok (.if_icmp .ge (47), 3) := by decide +kernel
theorem d_Br_addStreamTo_10 : decode cc_Br_addStreamTo 10 = .ok (.iconst 0, 1) := by decide +kernel
theorem d_Br_addStreamTo_11 : decode cc_Br_addStreamTo 11 = .ok (.istore_n 3, 1) := by decide +kernel
theorem d_Br_addStreamTo_12 : decode cc_Br_addStreamTo 12 = .ok (.bipush (7), 2) := by decide +kernel
theorem d_Br_addStreamTo_14 : decode cc_Br_addStreamTo 14 = .ok (.istore 4, 2) := by decide +kernel
theorem d_Br_addStreamTo_16 : decode cc_Br_addStreamTo 16 = .ok (.iload 4, 2) := by decide +kernel
theorem d_Br_addStreamTo_18 : decode cc_Br_addStreamTo 18 = .ok (.ifCond .lt (25), 3) := by decide +kernel
theorem d_Br_addStreamTo_21 : decode cc_Br_addStreamTo 21 = .ok (.iload_n 3, 1) := by decide +kernel
theorem d_Br_addStreamTo_22 : decode cc_Br_addStreamTo 22 = .ok (.iconst 1, 1) := by decide +kernel
theorem d_Br_addStreamTo_23 : decode cc_Br_addStreamTo 23 = .ok (.ishl, 1) := by decide +kernel
theorem d_Br_addStreamTo_24 : decode cc_Br_addStreamTo 24 = .ok (.aload_n 0, 1) := by decide +kernel
theorem d_Br_addStreamTo_25 : decode cc_Br_addStreamTo 25 = .ok (.bipush (8), 2) := by decide +kernel
theorem d_Br_addStreamTo_27 : decode cc_Br_addStreamTo 27 = .ok (.iload_n 2, 1) := by decide +kernel
theorem d_Br_addStreamTo_28 : decode cc_Br_addStreamTo 28 = .ok (.imul, 1) := by decide +kernel
theorem d_Br_addStreamTo_29 : decode cc_Br_addStreamTo 29 = .ok (.iload 4, 2) := by decide +kernel
theorem d_Br_addStreamTo_31 : decode cc_Br_addStreamTo 31 = .ok (.iadd, 1) := by decide +kernel
theorem d_Br_addStreamTo_32 : decode cc_Br_addStreamTo 32 = .ok (.invokevirtual 23, 3) := by decide +kernel
theorem d_Br_addStreamTo_35 : decode cc_Br_addStreamTo 35 = .ok (.ior, 1) := by decide +kernel
theorem d_Br_addStreamTo_36 : decode cc_Br_addStreamTo 36 = .ok (.istore_n 3, 1) := by decide +kernel
theorem d_Br_addStreamTo_37 : decode cc_Br_addStreamTo 37 = .ok (.iinc 4 (-1), 3) := by decide +kernel
theorem d_Br_addStreamTo_40 : decode cc_Br_addStreamTo 40 = .ok (.goto (-24), 3) := by decide +kernel
theorem d_Br_addStreamTo_43 : decode cc_Br_addStreamTo 43 = .ok (.aload_n 1, 1) := by decide +kernel
theorem d_Br_addStreamTo_44 : decode cc_Br_addStreamTo 44 = .ok (.iload_n 3, 1) := by decide +kernel
theorem d_Br_addStreamTo_45 : decode cc_Br_addStreamTo 45 = .ok (.invokevirtual 27, 3) := by decide +kernel
theorem d_Br_addStreamTo_48 : decode cc_Br_addStreamTo 48 = .ok (.iinc 2 (1), 3) := by decide +kernel
theorem d_Br_addStreamTo_51 : decode cc_Br_addStreamTo 51 = .ok (.goto (-49), 3) := by decide +kernel
theorem d_Br_addStreamTo_54 : decode cc_Br_addStreamTo 54 = .ok (.return_, 1) := by decide +kernel
section
variable {p : Program} {l : Launch} {e : Env} {s : State} {m : MethodId} {args : Array Value} {below : List Frame} {meth : Method} {c : Code} {X : Xs} {L : La}
def b_Br_addStreamTo_16 (L : La) (k2 : Nat → Nat → Int32 → Mem → Option Mem) (k16 : Nat → Nat → Int32 → Int32 → Int32 → Mem → Option Mem) (i0 : Nat) (i1 : Nat) (x2 : Int32) (x3 : Int32) (x4 : Int32) (F : Mem) : Option Mem :=
  if x4 < 0 then
    (f_Row_add L i1 x3 F).bind fun F1 =>
    k2 i0 i1 (x2 + (1 : Int32)) F1
  else
    (f_Br_bitOver L i0 (((8 : Int32) * x2) + x4) F).bind fun q3 =>
    k16 i0 i1 x2 ((jshl x3 (1 : Int32)) ||| q3.1) (x4 + (-1 : Int32)) q3.2
set_option maxHeartbeats 4000000 in
theorem t_Br_addStreamTo_16 (hC : Cx X L p s m args meth c cc_Br_addStreamTo 5 w_Br_addStreamTo R_Br none) {k2 : Nat → Nat → Int32 → Mem → Option Mem} {k16 : Nat → Nat → Int32 → Int32 → Int32 → Mem → Option Mem} {out : Mem} (hk2 : ∀ (i0 : Nat) (i1 : Nat) (x2 : Int32) (F : Mem) (H : Heap) (locs : List Loc) (ls : Array Slot), oO L 5 i0 → oO L 1 i1 → Iv X L s H locs F → lv_has ls 5 [(0, .ref (mAd X i0)), (1, .ref (mAd X i1)), (2, .int x2)] → k2 i0 i1 x2 F = some out → W p l e (headSpec w_Br_addStreamTo r_Br_addStreamTo).room s m args below meth c H locs 0 0 (MQ below (QV X L out) args s 0 0 (AA X L)) (F0 m 2 ls [])) (hk16 : ∀ (i0 : Nat) (i1 : Nat) (x2 : Int32) (x3 : Int32) (x4 : Int32) (F : Mem) (H : Heap) (locs : List Loc) (ls : Array Slot), oO L 5 i0 → oO L 1 i1 → Iv X L s H locs F → lv_has ls 5 [(0, .ref (mAd X i0)), (1, .ref (mAd X i1)), (2, .int x2), (3, .int x3), (4, .int x4)] → k16 i0 i1 x2 x3 x4 F = some out → W p l e (headSpec w_Br_addStreamTo r_Br_addStreamTo).room s m args below meth c H locs 0 0 (MQ below (QV X L out) args s 0 0 (AA X L)) (F0 m 16 ls [])) {i0 : Nat} {i1 : Nat} {x2 : Int32} {x3 : Int32} {x4 : Int32} {F : Mem} {H : Heap} {locs : List Loc} {ls : Array Slot} (o0 : oO L 5 i0) (o1 : oO L 1 i1) (hI : Iv X L s H locs F) (hl : lv_has ls 5 [(0, .ref (mAd X i0)), (1, .ref (mAd X i1)), (2, .int x2), (3, .int x3), (4, .int x4)]) (h : b_Br_addStreamTo_16 L k2 k16 i0 i1 x2 x3 x4 F = some out) : W p l e (headSpec w_Br_addStreamTo r_Br_addStreamTo).room s m args below meth c H locs 0 0 (MQ below (QV X L out) args s 0 0 (AA X L)) (F0 m 16 ls []) := by
  unfold b_Br_addStreamTo_16 at h
  obtain ⟨S, hK, hT, hW, hr, hlk⟩ := id hC
  have hx := S.1
  have hb := S.2.1
  refine lv_iload hx hb d_Br_addStreamTo_16 (lv_at hl 4 rfl) ?_
  refine lv_if_lt (tgt := 43) hx hb d_Br_addStreamTo_18 rfl (fun hc => ?_) (fun hc => ?_)
  · replace h := (if_pos hc).symm.trans h
    refine lv_aload_n hx hb d_Br_addStreamTo_43 rfl (lv_at hl 1 rfl) ?_
    refine lv_iload_n hx hb d_Br_addStreamTo_44 rfl (lv_at hl 3 rfl) ?_
    obtain ⟨F1, e2, h⟩ := un_bi h
    refine w_callVv (As := [.int x3]) (rest := []) S hK hI hT (c_Row_add l hW o1 e2) (cwV 1 S.2.2.2.2 (gd_V lc_Row_add lm_Br_27 li_Row_add ls_Row_add ln_Row) rfl rfl rfl hd_Row_add ⟨Nat.le_of_ble_eq_true rfl, Nat.le_of_ble_eq_true rfl⟩) o1 rfl (by decide) rfl rfl hl.1 (Nat.le_of_ble_eq_true rfl) d_Br_addStreamTo_45 ⟨Nat.zero_le _, Nat.zero_le _⟩ (fun H locs hI => ?_)
    refine lv_iinc (k := 2) (v := x2 + (1 : Int32)) (lv' := [(2, .int (x2 + (1 : Int32))), (0, .ref (mAd X i0)), (1, .ref (mAd X i1)), (3, .int x3), (4, .int x4)]) hx hb d_Br_addStreamTo_48 hl rfl rfl (by decide) rfl (fun ls hl => ?_)
    refine lv_goto (tgt := 2) hx hb d_Br_addStreamTo_51 rfl ?_
    exact hk2 _ _ _ _ _ _ _ o0 o1 hI (lv_sub hl [1, 2, 0] rfl) h
  · replace h := (if_neg hc).symm.trans h
    refine lv_iload_n hx hb d_Br_addStreamTo_21 rfl (lv_at hl 3 rfl) ?_
    refine lv_iconst (v := 1) hx hb d_Br_addStreamTo_22 rfl ?_
    refine lv_ishl hx hb d_Br_addStreamTo_23 ?_
    refine lv_aload_n hx hb d_Br_addStreamTo_24 rfl (lv_at hl 0 rfl) ?_
    refine lv_bipush (v := 8) hx hb d_Br_addStreamTo_25 (by decide) ?_
    refine lv_iload_n hx hb d_Br_addStreamTo_27 rfl (lv_at hl 2 rfl) ?_
    refine lv_imul hx hb d_Br_addStreamTo_28 ?_
    refine lv_iload hx hb d_Br_addStreamTo_29 (lv_at hl 4 rfl) ?_
    refine lv_iadd hx hb d_Br_addStreamTo_31 ?_
    obtain ⟨q3, e4, h⟩ := un_bi h
    refine w_callVi (As := [.int (((8 : Int32) * x2) + x4)]) (rest := [.int (jshl x3 (1 : Int32))]) S hK hI hT (c_Br_bitOver l hW o0 e4) (cwV 1 S.2.2.2.2 (gd_V lc_Br_bitOver lm_Br_23 li_Br_bitOver ls_Br_bitOver ln_Br) rfl rfl rfl hd_Br_bitOver ⟨Nat.le_of_ble_eq_true rfl, Nat.le_of_ble_eq_true rfl⟩) o0 rfl (by decide) rfl rfl hl.1 (Nat.le_of_ble_eq_true rfl) d_Br_addStreamTo_32 ⟨Nat.zero_le _, Nat.zero_le _⟩ (fun H locs hI => ?_)
    refine lv_ior hx hb d_Br_addStreamTo_35 ?_
    refine lv_istore_n (lv' := [(3, .int ((jshl x3 (1 : Int32)) ||| q3.1)), (0, .ref (mAd X i0)), (1, .ref (mAd X i1)), (2, .int x2), (4, .int x4)]) hx hb d_Br_addStreamTo_36 rfl hl (by decide) rfl (fun ls hl => ?_)
    refine lv_iinc (k := 4) (v := x4 + (-1 : Int32)) (lv' := [(4, .int (x4 + (-1 : Int32))), (3, .int ((jshl x3 (1 : Int32)) ||| q3.1)), (0, .ref (mAd X i0)), (1, .ref (mAd X i1)), (2, .int x2)]) hx hb d_Br_addStreamTo_37 hl rfl rfl (by decide) rfl (fun ls hl => ?_)
    refine lv_goto (tgt := 16) hx hb d_Br_addStreamTo_40 rfl ?_
    exact hk16 _ _ _ _ _ _ _ _ _ o0 o1 hI (lv_sub hl [2, 3, 4, 1, 0] rfl) h
def f_Br_addStreamTo_16 (L : La) (k2 : Nat → Nat → Int32 → Mem → Option Mem) : Nat → Nat → Nat → Int32 → Int32 → Int32 → Mem → Option Mem
  | 0 => fun _ _ _ _ _ _ => none
  | n + 1 => b_Br_addStreamTo_16 L k2 (f_Br_addStreamTo_16 L k2 n)
theorem tf_Br_addStreamTo_16 (hC : Cx X L p s m args meth c cc_Br_addStreamTo 5 w_Br_addStreamTo R_Br none) {k2 : Nat → Nat → Int32 → Mem → Option Mem} {out : Mem} (hk2 : ∀ (i0 : Nat) (i1 : Nat) (x2 : Int32) (F : Mem) (H : Heap) (locs : List Loc) (ls : Array Slot), oO L 5 i0 → oO L 1 i1 → Iv X L s H locs F → lv_has ls 5 [(0, .ref (mAd X i0)), (1, .ref (mAd X i1)), (2, .int x2)] → k2 i0 i1 x2 F = some out → W p l e (headSpec w_Br_addStreamTo r_Br_addStreamTo).room s m args below meth c H locs 0 0 (MQ below (QV X L out) args s 0 0 (AA X L)) (F0 m 2 ls [])) (n : Nat) : ∀ (i0 : Nat) (i1 : Nat) (x2 : Int32) (x3 : Int32) (x4 : Int32) (F : Mem) (H : Heap) (locs : List Loc) (ls : Array Slot), oO L 5 i0 → oO L 1 i1 → Iv X L s H locs F → lv_has ls 5 [(0, .ref (mAd X i0)), (1, .ref (mAd X i1)), (2, .int x2), (3, .int x3), (4, .int x4)] → f_Br_addStreamTo_16 L k2 n i0 i1 x2 x3 x4 F = some out → W p l e (headSpec w_Br_addStreamTo r_Br_addStreamTo).room s m args below meth c H locs 0 0 (MQ below (QV X L out) args s 0 0 (AA X L)) (F0 m 16 ls []) := by
  induction n with
  | zero => intro i0 i1 x2 x3 x4 F H locs ls o0 o1 hI hl h; cases h
  | succ n ih => intro i0 i1 x2 x3 x4 F H locs ls o0 o1 hI hl h; exact t_Br_addStreamTo_16 hC hk2 ih o0 o1 hI hl h
def b_Br_addStreamTo_2 (L : La) (k2 : Nat → Nat → Int32 → Mem → Option Mem) (i0 : Nat) (i1 : Nat) (x2 : Int32) (F : Mem) : Option Mem :=
  (f_Br_bytesNeeded L i0 F).bind fun q1 =>
  if q1.1 ≤ x2 then
    some q1.2
  else
    f_Br_addStreamTo_16 L k2 mFU i0 i1 x2 (0 : Int32) (7 : Int32) q1.2
set_option maxHeartbeats 4000000 in
theorem t_Br_addStreamTo_2 (hC : Cx X L p s m args meth c cc_Br_addStreamTo 5 w_Br_addStreamTo R_Br none) {k2 : Nat → Nat → Int32 → Mem → Option Mem} {out : Mem} (hk2 : ∀ (i0 : Nat) (i1 : Nat) (x2 : Int32) (F : Mem) (H : Heap) (locs : List Loc) (ls : Array Slot), oO L 5 i0 → oO L 1 i1 → Iv X L s H locs F → lv_has ls 5 [(0, .ref (mAd X i0)), (1, .ref (mAd X i1)), (2, .int x2)] → k2 i0 i1 x2 F = some out → W p l e (headSpec w_Br_addStreamTo r_Br_addStreamTo).room s m args below meth c H locs 0 0 (MQ below (QV X L out) args s 0 0 (AA X L)) (F0 m 2 ls [])) {i0 : Nat} {i1 : Nat} {x2 : Int32} {F : Mem} {H : Heap} {locs : List Loc} {ls : Array Slot} (o0 : oO L 5 i0) (o1 : oO L 1 i1) (hI : Iv X L s H locs F) (hl : lv_has ls 5 [(0, .ref (mAd X i0)), (1, .ref (mAd X i1)), (2, .int x2)]) (h : b_Br_addStreamTo_2 L k2 i0 i1 x2 F = some out) : W p l e (headSpec w_Br_addStreamTo r_Br_addStreamTo).room s m args below meth c H locs 0 0 (MQ below (QV X L out) args s 0 0 (AA X L)) (F0 m 2 ls []) := by
  unfold b_Br_addStreamTo_2 at h
  obtain ⟨S, hK, hT, hW, hr, hlk⟩ := id hC
  have hx := S.1
  have hb := S.2.1
  refine lv_iload_n hx hb d_Br_addStreamTo_2 rfl (lv_at hl 2 rfl) ?_
  refine lv_aload_n hx hb d_Br_addStreamTo_3 rfl (lv_at hl 0 rfl) ?_
  obtain ⟨q1, e2, h⟩ := un_bi h
  refine w_callVi (As := []) (rest := [.int x2]) S hK hI hT (c_Br_bytesNeeded l hW o0 e2) (cwV 0 S.2.2.2.2 (gd_V lc_Br_bytesNeeded lm_Br_19 li_Br_bytesNeeded ls_Br_bytesNeeded ln_Br) rfl rfl rfl hd_Br_bytesNeeded ⟨Nat.le_of_ble_eq_true rfl, Nat.le_of_ble_eq_true rfl⟩) o0 rfl (by decide) rfl rfl hl.1 (Nat.le_of_ble_eq_true rfl) d_Br_addStreamTo_4 ⟨Nat.zero_le _, Nat.zero_le _⟩ (fun H locs hI => ?_)
  refine lv_icmp_ge (tgt := 54) hx hb d_Br_addStreamTo_7 rfl (fun hc => ?_) (fun hc => ?_)
  · replace h := (if_pos hc).symm.trans h
    exact w_vret S hK hr hlk hI d_Br_addStreamTo_54 h
  · replace h := (if_neg hc).symm.trans h
    refine lv_iconst (v := 0) hx hb d_Br_addStreamTo_10 rfl ?_
    refine lv_istore_n (lv' := [(3, .int (0 : Int32)), (0, .ref (mAd X i0)), (1, .ref (mAd X i1)), (2, .int x2)]) hx hb d_Br_addStreamTo_11 rfl hl (by decide) rfl (fun ls hl => ?_)
    refine lv_bipush (v := 7) hx hb d_Br_addStreamTo_12 (by decide) ?_
    refine lv_istore (lv' := [(4, .int (7 : Int32)), (3, .int (0 : Int32)), (0, .ref (mAd X i0)), (1, .ref (mAd X i1)), (2, .int x2)]) hx hb d_Br_addStreamTo_14 hl (by decide) rfl (fun ls hl => ?_)
    exact tf_Br_addStreamTo_16 hC hk2 mFU _ _ _ _ _ _ _ _ _ o0 o1 hI (lv_sub hl [2, 3, 4, 1, 0] rfl) h
def f_Br_addStreamTo_2 (L : La)  : Nat → Nat → Nat → Int32 → Mem → Option Mem
  | 0 => fun _ _ _ _ => none
  | n + 1 => b_Br_addStreamTo_2 L (f_Br_addStreamTo_2 L  n)
theorem tf_Br_addStreamTo_2 (hC : Cx X L p s m args meth c cc_Br_addStreamTo 5 w_Br_addStreamTo R_Br none)  {out : Mem}  (n : Nat) : ∀ (i0 : Nat) (i1 : Nat) (x2 : Int32) (F : Mem) (H : Heap) (locs : List Loc) (ls : Array Slot), oO L 5 i0 → oO L 1 i1 → Iv X L s H locs F → lv_has ls 5 [(0, .ref (mAd X i0)), (1, .ref (mAd X i1)), (2, .int x2)] → f_Br_addStreamTo_2 L  n i0 i1 x2 F = some out → W p l e (headSpec w_Br_addStreamTo r_Br_addStreamTo).room s m args below meth c H locs 0 0 (MQ below (QV X L out) args s 0 0 (AA X L)) (F0 m 2 ls []) := by
  induction n with
  | zero => intro i0 i1 x2 F H locs ls o0 o1 hI hl h; cases h
  | succ n ih => intro i0 i1 x2 F H locs ls o0 o1 hI hl h; exact t_Br_addStreamTo_2 hC ih o0 o1 hI hl h
def f_Br_addStreamTo (L : La) (i0 : Nat) (i1 : Nat) (F : Mem) : Option Mem :=
  f_Br_addStreamTo_2 L  mFU i0 i1 (0 : Int32) F
set_option maxHeartbeats 4000000 in
theorem c_Br_addStreamTo (l : Launch) {X : Xs} {L : La} (hW : WT L) {out : Mem} {i0 : Nat} {i1 : Nat} {F : Mem} (o0 : oO L 5 i0) (o1 : oO L 1 i1) (h : f_Br_addStreamTo L i0 i1 F = some out) : Met l y_Br_addStreamTo w_Br_addStreamTo r_Br_addStreamTo (va_Pc [.ref (mAd X i0), .ref (mAd X i1)] (Pr X L F)) (QV X L out) 0 0 (AA X L) := by
  refine mk_met (by decide) rfl (Nat.le_of_ble_eq_true rfl) hW ?_
  intro p e s m args below meth c ls hC hI hl
  have hl : lv_has ls 5 [(0, .ref (mAd X i0)), (1, .ref (mAd X i1))] := hl
  generalize hHe : s.heap = H at hI ⊢
  generalize ([] : List Loc) = locs at hI ⊢
  unfold f_Br_addStreamTo at h
  obtain ⟨S, hK, hT, hW, hr, hlk⟩ := id hC
  have hx := S.1
  have hb := S.2.1
  refine lv_iconst (v := 0) hx hb d_Br_addStreamTo_0 rfl ?_
  refine lv_istore_n (lv' := [(2, .int (0 : Int32)), (0, .ref (mAd X i0)), (1, .ref (mAd X i1))]) hx hb d_Br_addStreamTo_1 rfl hl (by decide) rfl (fun ls hl => ?_)
  exact tf_Br_addStreamTo_2 hC  mFU _ _ _ _ _ _ _ o0 o1 hI (lv_sub hl [1, 2, 0] rfl) h
end
theorem d_Pk_addedWithTree_0 : decode cc_Pk_addedWithTree 0 = .ok (.aload_n 1, 1) := by decide +kernel
theorem d_Pk_addedWithTree_1 : decode cc_Pk_addedWithTree 1 = .ok (.getfield 84, 3) := by decide +kernel
theorem d_Pk_addedWithTree_4 : decode cc_Pk_addedWithTree 4 = .ok (.iconst 0, 1) := by decide +kernel
theorem d_Pk_addedWithTree_5 : decode cc_Pk_addedWithTree 5 = .ok (.iaload, 1) := by decide +kernel
theorem d_Pk_addedWithTree_6 : decode cc_Pk_addedWithTree 6 = .ok (.istore_n 2, 1) := by decide +kernel
theorem d_Pk_addedWithTree_7 : decode cc_Pk_addedWithTree 7 = .ok (.iload_n 2, 1) := by decide +kernel
theorem d_Pk_addedWithTree_8 : decode cc_Pk_addedWithTree 8 = .ok (.istore_n 3, 1) := by decide +kernel
theorem d_Pk_addedWithTree_9 : decode cc_Pk_addedWithTree 9 = .ok (.iconst 1, 1) := by decide +kernel
theorem d_Pk_addedWithTree_10 : decode cc_Pk_addedWithTree 10 = .ok (.istore 4, 2) := by decide +kernel
theorem d_Pk_addedWithTree_12 : decode cc_Pk_addedWithTree 12 = .ok (.iload 4, 2) := by decide +kernel
theorem d_Pk_addedWithTree_14 : decode cc_Pk_addedWithTree 14 = .ok (.aload_n 1, 1) := by decide +kernel
theorem d_Pk_addedWithTree_15 : decode cc_Pk_addedWithTree 15 = .ok (.getfield 70, 3) := by decide +kernel
theorem d_Pk_addedWithTree_18 : decode cc_Pk_addedWithTree 18 = .ok (.if_icmp .ge (33), 3) := by decide +kernel
theorem d_Pk_addedWithTree_21 : decode cc_Pk_addedWithTree 21 = .ok (.iload_n 2, 1) := by decide +kernel
theorem d_Pk_addedWithTree_22 : decode cc_Pk_addedWithTree 22 = .ok (.aload_n 1, 1) := by decide +kernel
theorem d_Pk_addedWithTree_23 : decode cc_Pk_addedWithTree 23 = .ok (.getfield 84, 3) := by decide +kernel
theorem d_Pk_addedWithTree_26 : decode cc_Pk_addedWithTree 26 = .ok (.iload 4, 2) := by decide +kernel
theorem d_Pk_addedWithTree_28 : decode cc_Pk_addedWithTree 28 = .ok (.iaload, 1) := by decide +kernel
theorem d_Pk_addedWithTree_29 : decode cc_Pk_addedWithTree 29 = .ok (.invokestatic 109, 3) := by decide +kernel
theorem d_Pk_addedWithTree_32 : decode cc_Pk_addedWithTree 32 = .ok (.istore_n 2, 1) := by decide +kernel
theorem d_Pk_addedWithTree_33 : decode cc_Pk_addedWithTree 33 = .ok (.iload_n 3, 1) := by decide +kernel
theorem d_Pk_addedWithTree_34 : decode cc_Pk_addedWithTree 34 = .ok (.aload_n 1, 1) := by decide +kernel
theorem d_Pk_addedWithTree_35 : decode cc_Pk_addedWithTree 35 = .ok (.getfield 84, 3) := by decide +kernel
theorem d_Pk_addedWithTree_38 : decode cc_Pk_addedWithTree 38 = .ok (.iload 4, 2) := by decide +kernel
theorem d_Pk_addedWithTree_40 : decode cc_Pk_addedWithTree 40 = .ok (.iaload, 1) := by decide +kernel
theorem d_Pk_addedWithTree_41 : decode cc_Pk_addedWithTree 41 = .ok (.invokestatic 115, 3) := by decide +kernel
theorem d_Pk_addedWithTree_44 : decode cc_Pk_addedWithTree 44 = .ok (.istore_n 3, 1) := by decide +kernel
theorem d_Pk_addedWithTree_45 : decode cc_Pk_addedWithTree 45 = .ok (.iinc 4 (1), 3) := by decide +kernel
theorem d_Pk_addedWithTree_48 : decode cc_Pk_addedWithTree 48 = .ok (.goto (-36), 3) := by decide +kernel
theorem d_Pk_addedWithTree_51 : decode cc_Pk_addedWithTree 51 = .ok (.iload_n 3, 1) := by decide +kernel
theorem d_Pk_addedWithTree_52 : decode cc_Pk_addedWithTree 52 = .ok (.iload_n 2, 1) := by decide +kernel
theorem d_Pk_addedWithTree_53 : decode cc_Pk_addedWithTree 53 = .ok (.isub, 1) := by decide +kernel
theorem d_Pk_addedWithTree_54 : decode cc_Pk_addedWithTree 54 = .ok (.istore 4, 2) := by decide +kernel
theorem d_Pk_addedWithTree_56 : decode cc_Pk_addedWithTree 56 = .ok (.iload 4, 2) := by decide +kernel
theorem d_Pk_addedWithTree_58 : decode cc_Pk_addedWithTree 58 = .ok (.bipush (17), 2) := by decide +kernel
theorem d_Pk_addedWithTree_60 : decode cc_Pk_addedWithTree 60 = .ok (.if_icmp .ge (14), 3) := by decide +kernel
theorem d_Pk_addedWithTree_63 : decode cc_Pk_addedWithTree 63 = .ok (.aload_n 0, 1) := by decide +kernel
theorem d_Pk_addedWithTree_64 : decode cc_Pk_addedWithTree 64 = .ok (.aload_n 1, 1) := by decide +kernel
theorem d_Pk_addedWithTree_65 : decode cc_Pk_addedWithTree 65 = .ok (.iload_n 2, 1) := by decide +kernel
theorem d_Pk_addedWithTree_66 : decode cc_Pk_addedWithTree 66 = .ok (.iload 4, 2) := by decide +kernel
theorem d_Pk_addedWithTree_68 : decode cc_Pk_addedWithTree 68 = .ok (.invokevirtual 118, 3) := by decide +kernel
theorem d_Pk_addedWithTree_71 : decode cc_Pk_addedWithTree 71 = .ok (.ifCond .ne (5), 3) := by decide +kernel
theorem d_Pk_addedWithTree_74 : decode cc_Pk_addedWithTree 74 = .ok (.iconst 0, 1) := by decide +kernel
theorem d_Pk_addedWithTree_75 : decode cc_Pk_addedWithTree 75 = .ok (.ireturn, 1) := by decide +kernel
theorem d_Pk_addedWithTree_76 : decode cc_Pk_addedWithTree 76 = .ok (.aload_n 0, 1) := by decide +kernel
theorem d_Pk_addedWithTree_77 : decode cc_Pk_addedWithTree 77 = .ok (.getfield 23, 3) := by decide +kernel
theorem d_Pk_addedWithTree_80 : decode cc_Pk_addedWithTree 80 = .ok (.iconst 0, 1) := by decide +kernel
theorem d_Pk_addedWithTree_81 : decode cc_Pk_addedWithTree 81 = .ok (.putfield 122, 3) := by decide +kernel
theorem d_Pk_addedWithTree_84 : decode cc_Pk_addedWithTree 84 = .ok (.iconst 0, 1) := by decide +kernel
theorem d_Pk_addedWithTree_85 : decode cc_Pk_addedWithTree 85 = .ok (.istore 5, 2) := by decide +kernel
theorem d_Pk_addedWithTree_87 : decode cc_Pk_addedWithTree 87 = .ok (.iload 5, 2) := by decide +kernel
theorem d_Pk_addedWithTree_89 : decode cc_Pk_addedWithTree 89 = .ok (.aload_n 1, 1) := by decide +kernel
theorem d_Pk_addedWithTree_90 : decode cc_Pk_addedWithTree 90 = .ok (.getfield 70, 3) := by decide +kernel
theorem d_Pk_addedWithTree_93 : decode cc_Pk_addedWithTree 93 = .ok (.if_icmp .ge (29), 3) := by decide +kernel
theorem d_Pk_addedWithTree_96 : decode cc_Pk_addedWithTree 96 = .ok (.aload_n 0, 1) := by decide +kernel
theorem d_Pk_addedWithTree_97 : decode cc_Pk_addedWithTree 97 = .ok (.getfield 37, 3) := by decide +kernel
theorem d_Pk_addedWithTree_100 : decode cc_Pk_addedWithTree 100 = .ok (.aload_n 1, 1) := by decide +kernel
theorem d_Pk_addedWithTree_101 : decode cc_Pk_addedWithTree 101 = .ok (.getfield 84, 3) := by decide +kernel
theorem d_Pk_addedWithTree_104 : decode cc_Pk_addedWithTree 104 = .ok (.iload 5, 2) := by decide +kernel
theorem d_Pk_addedWithTree_106 : decode cc_Pk_addedWithTree 106 = .ok (.iaload, 1) := by decide +kernel
theorem d_Pk_addedWithTree_107 : decode cc_Pk_addedWithTree 107 = .ok (.iload_n 2, 1) := by decide +kernel
theorem d_Pk_addedWithTree_108 : decode cc_Pk_addedWithTree 108 = .ok (.isub, 1) := by decide +kernel
theorem d_Pk_addedWithTree_109 : decode cc_Pk_addedWithTree 109 = .ok (.aload_n 0, 1) := by decide +kernel
theorem d_Pk_addedWithTree_110 : decode cc_Pk_addedWithTree 110 = .ok (.getfield 23, 3) := by decide +kernel
theorem d_Pk_addedWithTree_113 : decode cc_Pk_addedWithTree 113 = .ok (.invokevirtual 123, 3) := by decide +kernel
theorem d_Pk_addedWithTree_116 : decode cc_Pk_addedWithTree 116 = .ok (.iinc 5 (1), 3) := by decide +kernel
theorem d_Pk_addedWithTree_119 : decode cc_Pk_addedWithTree 119 = .ok (.goto (-32), 3) := by decide +kernel
theorem d_Pk_addedWithTree_122 : decode cc_Pk_addedWithTree 122 = .ok (.iconst 2, 1) := by decide +kernel
theorem d_Pk_addedWithTree_123 : decode cc_Pk_addedWithTree 123 = .ok (.iload 4, 2) := by decide +kernel
theorem d_Pk_addedWithTree_125 : decode cc_Pk_addedWithTree 125 = .ok (.iconst 1, 1) := by decide +kernel
theorem d_Pk_addedWithTree_126 : decode cc_Pk_addedWithTree 126 = .ok (.iadd, 1) := by decide +kernel
theorem d_Pk_addedWithTree_127 : decode cc_Pk_addedWithTree 127 = .ok (.iconst 2, 1) := by decide +kernel
theorem d_Pk_addedWithTree_128 : decode cc_Pk_addedWithTree 128 = .ok (.idiv, 1) := by decide +kernel
theorem d_Pk_addedWithTree_129 : decode cc_Pk_addedWithTree 129 = .ok (.iadd, 1) := by decide +kernel
theorem d_Pk_addedWithTree_130 : decode cc_Pk_addedWithTree 130 = .ok (.iconst 1, 1) := by decide +kernel
theorem d_Pk_addedWithTree_131 : decode cc_Pk_addedWithTree 131 = .ok (.iadd, 1) := by decide +kernel
theorem d_Pk_addedWithTree_132 : decode cc_Pk_addedWithTree 132 = .ok (.aload_n 0, 1) := by decide +kernel
theorem d_Pk_addedWithTree_133 : decode cc_Pk_addedWithTree 133 = .ok (.getfield 23, 3) := by decide +kernel
theorem d_Pk_addedWithTree_136 : decode cc_Pk_addedWithTree 136 = .ok (.invokevirtual 127, 3) := by decide +kernel
theorem d_Pk_addedWithTree_139 : decode cc_Pk_addedWithTree 139 = .ok (.iadd, 1) := by decide +kernel
theorem d_Pk_addedWithTree_140 : decode cc_Pk_addedWithTree 140 = .ok (.aload_n 1, 1) := by decide +kernel
theorem d_Pk_addedWithTree_141 : decode cc_Pk_addedWithTree 141 = .ok (.getfield 70, 3) := by decide +kernel
theorem d_Pk_addedWithTree_144 : decode cc_Pk_addedWithTree 144 = .ok (.if_icmp .lt (5), 3) := by decide +kernel
theorem d_Pk_addedWithTree_147 : decode cc_Pk_addedWithTree 147 = .ok (.iconst 0, 1) := by decide +kernel
theorem d_Pk_addedWithTree_148 : decode cc_Pk_addedWithTree 148 = .ok (.ireturn, 1) := by decide +kernel
theorem d_Pk_addedWithTree_149 : decode cc_Pk_addedWithTree 149 = .ok (.aload_n 0, 1) := by decide +kernel
theorem d_Pk_addedWithTree_150 : decode cc_Pk_addedWithTree 150 = .ok (.getfield 14, 3) := by decide +kernel
theorem d_Pk_addedWithTree_153 : decode cc_Pk_addedWithTree 153 = .ok (.aload_n 1, 1) := by decide +kernel
theorem d_Pk_addedWithTree_154 : decode cc_Pk_addedWithTree 154 = .ok (.getfield 70, 3) := by decide +kernel
theorem d_Pk_addedWithTree_157 : decode cc_Pk_addedWithTree 157 = .ok (.iconst 2, 1) := by decide +kernel
theorem d_Pk_addedWithTree_158 : decode cc_Pk_addedWithTree 158 = .ok (.ishl, 1) := by decide +kernel
theorem d_Pk_addedWithTree_159 : decode cc_Pk_addedWithTree 159 = .ok (.iconst 2, 1) := by decide +kernel
theorem d_Pk_addedWithTree_160 : decode cc_Pk_addedWithTree 160 = .ok (.ior, 1) := by decide +kernel
theorem d_Pk_addedWithTree_161 : decode cc_Pk_addedWithTree 161 = .ok (.invokevirtual 87, 3) := by decide +kernel
theorem d_Pk_addedWithTree_164 : decode cc_Pk_addedWithTree 164 = .ok (.aload_n 0, 1) := by decide +kernel
theorem d_Pk_addedWithTree_165 : decode cc_Pk_addedWithTree 165 = .ok (.iload 4, 2) := by decide +kernel
theorem d_Pk_addedWithTree_167 : decode cc_Pk_addedWithTree 167 = .ok (.invokevirtual 131, 3) := by decide +kernel
theorem d_Pk_addedWithTree_170 : decode cc_Pk_addedWithTree 170 = .ok (.aload_n 0, 1) := by decide +kernel
theorem d_Pk_addedWithTree_171 : decode cc_Pk_addedWithTree 171 = .ok (.getfield 14, 3) := by decide +kernel
theorem d_Pk_addedWithTree_174 : decode cc_Pk_addedWithTree 174 = .ok (.aload_n 0, 1) := by decide +kernel
theorem d_Pk_addedWithTree_175 : decode cc_Pk_addedWithTree 175 = .ok (.getfield 23, 3) := by decide +kernel
theorem d_Pk_addedWithTree_178 : decode cc_Pk_addedWithTree 178 = .ok (.invokevirtual 127, 3) := by decide +kernel
theorem d_Pk_addedWithTree_181 : decode cc_Pk_addedWithTree 181 = .ok (.invokevirtual 87, 3) := by decide +kernel
theorem d_Pk_addedWithTree_184 : decode cc_Pk_addedWithTree 184 = .ok (.aload_n 0, 1) := by decide +kernel
theorem d_Pk_addedWithTree_185 : decode cc_Pk_addedWithTree 185 = .ok (.getfield 23, 3) := by decide +kernel
theorem d_Pk_addedWithTree_188 : decode cc_Pk_addedWithTree 188 = .ok (.aload_n 0, 1) := by decide +kernel
theorem d_Pk_addedWithTree_189 : decode cc_Pk_addedWithTree 189 = .ok (.getfield 14, 3) := by decide +kernel
theorem d_Pk_addedWithTree_192 : decode cc_Pk_addedWithTree 192 = .ok (.invokevirtual 134, 3) := by decide +kernel
theorem d_Pk_addedWithTree_195 : decode cc_Pk_addedWithTree 195 = .ok (.iconst 1, 1) := by decide +kernel
theorem d_Pk_addedWithTree_196 : decode cc_Pk_addedWithTree 196 = .ok (.ireturn, 1) := by decide +kernel
section
variable {p : Program} {l : Launch} {e : Env} {s : State} {m : MethodId} {args : Array Value} {below : List Frame} {meth : Method} {c : Code} {X : Xs} {L : La}
def b_Pk_addedWithTree_74 (L : La)   (F : Mem) : Option (Int32 × Mem) :=
  if (0 : Int32) = 0 ∨ (0 : Int32) = 1 then some ((0 : Int32), F) else none
set_option maxHeartbeats 4000000 in
theorem t_Pk_addedWithTree_74 (hC : Cx X L p s m args meth c cc_Pk_addedWithTree 6 w_Pk_addedWithTree R_Pk (some .boolean))  {out : (Int32 × Mem)}   {F : Mem} {H : Heap} {locs : List Loc} {ls : Array Slot}  (hI : Iv X L s H locs F) (hl : lv_has ls 6 []) (h : b_Pk_addedWithTree_74 L   F = some out) : W p l e (headSpec w_Pk_addedWithTree r_Pk_addedWithTree).room s m args below meth c H locs 0 0 (MQ below (QI X L out) args s 0 0 (AA X L)) (F0 m 74 ls []) := by
  unfold b_Pk_addedWithTree_74 at h
  obtain ⟨S, hK, hT, hW, hr, hlk⟩ := id hC
  have hx := S.1
  have hb := S.2.1
  refine lv_iconst (v := 0) hx hb d_Pk_addedWithTree_74 rfl ?_
  exact w_zret S hK hr hlk hI d_Pk_addedWithTree_75 h
def b_Pk_addedWithTree_87 (L : La) (k87 : Nat → Nat → Int32 → Int32 → Int32 → Mem → Option (Int32 × Mem)) (i0 : Nat) (i1 : Nat) (x2 : Int32) (x4 : Int32) (x5 : Int32) (F : Mem) : Option (Int32 × Mem) :=
  if (F i1 1) ≤ x5 then
    (f_Br_bytesNeeded L (mRf L i0 5) F).bind fun q2 =>
    if ((((2 : Int32) + ((x4 + (1 : Int32)) / (2 : Int32))) + (1 : Int32)) + q2.1) < (q2.2 i1 1) then
      (f_Row_add L (mRf L i0 4) ((jshl (q2.2 i1 1) (2 : Int32)) ||| (2 : Int32)) q2.2).bind fun F5 =>
      (f_Pk_addTree L i0 x4 F5).bind fun F7 =>
      (f_Br_bytesNeeded L (mRf L i0 5) F7).bind fun q11 =>
      (f_Row_add L (mRf L i0 4) q11.1 q11.2).bind fun F13 =>
      (f_Br_addStreamTo L (mRf L i0 5) (mRf L i0 4) F13).bind fun F17 =>
      if (1 : Int32) = 0 ∨ (1 : Int32) = 1 then some ((1 : Int32), F17) else none
    else
      if (0 : Int32) = 0 ∨ (0 : Int32) = 1 then some ((0 : Int32), q2.2) else none
  else
    if inb x5 (mGl L (mRf L i1 0)) then none else
    (f_Tr_addSymbol L (mRf L i0 7) ((mGa L F (mRf L i1 0) x5.toNatClampNeg) - x2) (mRf L i0 5) F).bind fun F23 =>
    k87 i0 i1 x2 x4 (x5 + (1 : Int32)) F23
set_option maxHeartbeats 4000000 in
theorem t_Pk_addedWithTree_87 (hC : Cx X L p s m args meth c cc_Pk_addedWithTree 6 w_Pk_addedWithTree R_Pk (some .boolean)) {k87 : Nat → Nat → Int32 → Int32 → Int32 → Mem → Option (Int32 × Mem)} {out : (Int32 × Mem)} (hk87 : ∀ (i0 : Nat) (i1 : Nat) (x2 : Int32) (x4 : Int32) (x5 : Int32) (F : Mem) (H : Heap) (locs : List Loc) (ls : Array Slot), oO L 11 i0 → oO L 1 i1 → Iv X L s H locs F → lv_has ls 6 [(0, .ref (mAd X i0)), (1, .ref (mAd X i1)), (2, .int x2), (4, .int x4), (5, .int x5)] → k87 i0 i1 x2 x4 x5 F = some out → W p l e (headSpec w_Pk_addedWithTree r_Pk_addedWithTree).room s m args below meth c H locs 0 0 (MQ below (QI X L out) args s 0 0 (AA X L)) (F0 m 87 ls [])) {i0 : Nat} {i1 : Nat} {x2 : Int32} {x4 : Int32} {x5 : Int32} {F : Mem} {H : Heap} {locs : List Loc} {ls : Array Slot} (o0 : oO L 11 i0) (o1 : oO L 1 i1) (hI : Iv X L s H locs F) (hl : lv_has ls 6 [(0, .ref (mAd X i0)), (1, .ref (mAd X i1)), (2, .int x2), (4, .int x4), (5, .int x5)]) (h : b_Pk_addedWithTree_87 L k87 i0 i1 x2 x4 x5 F = some out) : W p l e (headSpec w_Pk_addedWithTree r_Pk_addedWithTree).room s m args below meth c H locs 0 0 (MQ below (QI X L out) args s 0 0 (AA X L)) (F0 m 87 ls []) := by
  unfold b_Pk_addedWithTree_87 at h
  obtain ⟨S, hK, hT, hW, hr, hlk⟩ := id hC
  have hx := S.1
  have hb := S.2.1
  refine lv_iload hx hb d_Pk_addedWithTree_87 (lv_at hl 4 rfl) ?_
  refine lv_aload_n hx hb d_Pk_addedWithTree_89 rfl (lv_at hl 1 rfl) ?_
  refine w_getI (T := T_Row) S hK hI o1 rfl hin_Row 1 (index := 70) (by decide) lf_Pk_70 d_Pk_addedWithTree_90 ?_
  refine lv_icmp_ge (tgt := 122) hx hb d_Pk_addedWithTree_93 rfl (fun hc => ?_) (fun hc => ?_)
  · replace h := (if_pos hc).symm.trans h
    refine lv_iconst (v := 2) hx hb d_Pk_addedWithTree_122 rfl ?_
    refine lv_iload hx hb d_Pk_addedWithTree_123 (lv_at hl 3 rfl) ?_
    refine lv_iconst (v := 1) hx hb d_Pk_addedWithTree_125 rfl ?_
    refine lv_iadd hx hb d_Pk_addedWithTree_126 ?_
    refine lv_iconst (v := 2) hx hb d_Pk_addedWithTree_127 rfl ?_
    refine lv_idiv hx hb d_Pk_addedWithTree_128 (by decide) ?_
    refine lv_iadd hx hb d_Pk_addedWithTree_129 ?_
    refine lv_iconst (v := 1) hx hb d_Pk_addedWithTree_130 rfl ?_
    refine lv_iadd hx hb d_Pk_addedWithTree_131 ?_
    refine lv_aload_n hx hb d_Pk_addedWithTree_132 rfl (lv_at hl 0 rfl) ?_
    have p1 := wt_o hW o0 5 5 rfl (by decide) (by decide) (by decide)
    refine w_getR (T := T_Pk) S hK hI o0 rfl hin_Pk 5 (index := 23) (by decide) lf_Pk_23 d_Pk_addedWithTree_133 ?_
    obtain ⟨q2, e3, h⟩ := un_bi h
    refine w_callVi (As := []) (rest := [.int (((2 : Int32) + ((x4 + (1 : Int32)) / (2 : Int32))) + (1 : Int32))]) S hK hI hT (c_Br_bytesNeeded l hW p1 e3) (cwV 0 S.2.2.2.2 (gd_V lc_Br_bytesNeeded lm_Pk_127 li_Br_bytesNeeded ls_Br_bytesNeeded ln_Br) rfl rfl rfl hd_Br_bytesNeeded ⟨Nat.le_of_ble_eq_true rfl, Nat.le_of_ble_eq_true rfl⟩) p1 rfl (by decide) rfl rfl hl.1 (Nat.le_of_ble_eq_true rfl) d_Pk_addedWithTree_136 ⟨Nat.zero_le _, Nat.zero_le _⟩ (fun H locs hI => ?_)
    refine lv_iadd hx hb d_Pk_addedWithTree_139 ?_
    refine lv_aload_n hx hb d_Pk_addedWithTree_140 rfl (lv_at hl 1 rfl) ?_
    refine w_getI (T := T_Row) S hK hI o1 rfl hin_Row 1 (index := 70) (by decide) lf_Pk_70 d_Pk_addedWithTree_141 ?_
    refine lv_icmp_lt (tgt := 149) hx hb d_Pk_addedWithTree_144 rfl (fun hc => ?_) (fun hc => ?_)
    · replace h := (if_pos hc).symm.trans h
      refine lv_aload_n hx hb d_Pk_addedWithTree_149 rfl (lv_at hl 0 rfl) ?_
      have p4 := wt_o hW o0 4 1 rfl (by decide) (by decide) (by decide)
      refine w_getR (T := T_Pk) S hK hI o0 rfl hin_Pk 4 (index := 14) (by decide) lf_Pk_14 d_Pk_addedWithTree_150 ?_
      refine lv_aload_n hx hb d_Pk_addedWithTree_153 rfl (lv_at hl 1 rfl) ?_
      refine w_getI (T := T_Row) S hK hI o1 rfl hin_Row 1 (index := 70) (by decide) lf_Pk_70 d_Pk_addedWithTree_154 ?_
      refine lv_iconst (v := 2) hx hb d_Pk_addedWithTree_157 rfl ?_
      refine lv_ishl hx hb d_Pk_addedWithTree_158 ?_
      refine lv_iconst (v := 2) hx hb d_Pk_addedWithTree_159 rfl ?_
      refine lv_ior hx hb d_Pk_addedWithTree_160 ?_
      obtain ⟨F5, e6, h⟩ := un_bi h
      refine w_callVv (As := [.int ((jshl (q2.2 i1 1) (2 : Int32)) ||| (2 : Int32))]) (rest := []) S hK hI hT (c_Row_add l hW p4 e6) (cwV 1 S.2.2.2.2 (gd_V lc_Row_add lm_Pk_87 li_Row_add ls_Row_add ln_Row) rfl rfl rfl hd_Row_add ⟨Nat.le_of_ble_eq_true rfl, Nat.le_of_ble_eq_true rfl⟩) p4 rfl (by decide) rfl rfl hl.1 (Nat.le_of_ble_eq_true rfl) d_Pk_addedWithTree_161 ⟨Nat.zero_le _, Nat.zero_le _⟩ (fun H locs hI => ?_)
      refine lv_aload_n hx hb d_Pk_addedWithTree_164 rfl (lv_at hl 0 rfl) ?_
      refine lv_iload hx hb d_Pk_addedWithTree_165 (lv_at hl 3 rfl) ?_
      obtain ⟨F7, e8, h⟩ := un_bi h
      refine w_callVv (As := [.int x4]) (rest := []) S hK hI hT (c_Pk_addTree l hW o0 e8) (cwV 1 S.2.2.2.2 (gd_V lc_Pk_addTree lm_Pk_131 li_Pk_addTree ls_Pk_addTree ln_Pk) rfl rfl rfl hd_Pk_addTree ⟨Nat.le_of_ble_eq_true rfl, Nat.le_of_ble_eq_true rfl⟩) o0 rfl (by decide) rfl rfl hl.1 (Nat.le_of_ble_eq_true rfl) d_Pk_addedWithTree_167 ⟨Nat.zero_le _, Nat.zero_le _⟩ (fun H locs hI => ?_)
      refine lv_aload_n hx hb d_Pk_addedWithTree_170 rfl (lv_at hl 0 rfl) ?_
      have p9 := wt_o hW o0 4 1 rfl (by decide) (by decide) (by decide)
      refine w_getR (T := T_Pk) S hK hI o0 rfl hin_Pk 4 (index := 14) (by decide) lf_Pk_14 d_Pk_addedWithTree_171 ?_
      refine lv_aload_n hx hb d_Pk_addedWithTree_174 rfl (lv_at hl 0 rfl) ?_
      have p10 := wt_o hW o0 5 5 rfl (by decide) (by decide) (by decide)
      refine w_getR (T := T_Pk) S hK hI o0 rfl hin_Pk 5 (index := 23) (by decide) lf_Pk_23 d_Pk_addedWithTree_175 ?_
      obtain ⟨q11, e12, h⟩ := un_bi h
      refine w_callVi (As := []) (rest := [.ref (mAd X (mRf L i0 4))]) S hK hI hT (c_Br_bytesNeeded l hW p10 e12) (cwV 0 S.2.2.2.2 (gd_V lc_Br_bytesNeeded lm_Pk_127 li_Br_bytesNeeded ls_Br_bytesNeeded ln_Br) rfl rfl rfl hd_Br_bytesNeeded ⟨Nat.le_of_ble_eq_true rfl, Nat.le_of_ble_eq_true rfl⟩) p10 rfl (by decide) rfl rfl hl.1 (Nat.le_of_ble_eq_true rfl) d_Pk_addedWithTree_178 ⟨Nat.zero_le _, Nat.zero_le _⟩ (fun H locs hI => ?_)
      obtain ⟨F13, e14, h⟩ := un_bi h
      refine w_callVv (As := [.int q11.1]) (rest := []) S hK hI hT (c_Row_add l hW p9 e14) (cwV 1 S.2.2.2.2 (gd_V lc_Row_add lm_Pk_87 li_Row_add ls_Row_add ln_Row) rfl rfl rfl hd_Row_add ⟨Nat.le_of_ble_eq_true rfl, Nat.le_of_ble_eq_true rfl⟩) p9 rfl (by decide) rfl rfl hl.1 (Nat.le_of_ble_eq_true rfl) d_Pk_addedWithTree_181 ⟨Nat.zero_le _, Nat.zero_le _⟩ (fun H locs hI => ?_)
      refine lv_aload_n hx hb d_Pk_addedWithTree_184 rfl (lv_at hl 0 rfl) ?_
      have p15 := wt_o hW o0 5 5 rfl (by decide) (by decide) (by decide)
      refine w_getR (T := T_Pk) S hK hI o0 rfl hin_Pk 5 (index := 23) (by decide) lf_Pk_23 d_Pk_addedWithTree_185 ?_
      refine lv_aload_n hx hb d_Pk_addedWithTree_188 rfl (lv_at hl 0 rfl) ?_
      have p16 := wt_o hW o0 4 1 rfl (by decide) (by decide) (by decide)
      refine w_getR (T := T_Pk) S hK hI o0 rfl hin_Pk 4 (index := 14) (by decide) lf_Pk_14 d_Pk_addedWithTree_189 ?_
      obtain ⟨F17, e18, h⟩ := un_bi h
      refine w_callVv (As := [.ref (mAd X (mRf L i0 4))]) (rest := []) S hK hI hT (c_Br_addStreamTo l hW p15 p16 e18) (cwV 1 S.2.2.2.2 (gd_V lc_Br_addStreamTo lm_Pk_134 li_Br_addStreamTo ls_Br_addStreamTo ln_Br) rfl rfl rfl hd_Br_addStreamTo ⟨Nat.le_of_ble_eq_true rfl, Nat.le_of_ble_eq_true rfl⟩) p15 rfl (by decide) rfl rfl hl.1 (Nat.le_of_ble_eq_true rfl) d_Pk_addedWithTree_192 ⟨Nat.zero_le _, Nat.zero_le _⟩ (fun H locs hI => ?_)
      refine lv_iconst (v := 1) hx hb d_Pk_addedWithTree_195 rfl ?_
      exact w_zret S hK hr hlk hI d_Pk_addedWithTree_196 h
    · replace h := (if_neg hc).symm.trans h
      refine lv_iconst (v := 0) hx hb d_Pk_addedWithTree_147 rfl ?_
      exact w_zret S hK hr hlk hI d_Pk_addedWithTree_148 h
  · replace h := (if_neg hc).symm.trans h
    refine lv_aload_n hx hb d_Pk_addedWithTree_96 rfl (lv_at hl 0 rfl) ?_
    have p19 := wt_o hW o0 7 3 rfl (by decide) (by decide) (by decide)
    refine w_getR (T := T_Pk) S hK hI o0 rfl hin_Pk 7 (index := 37) (by decide) lf_Pk_37 d_Pk_addedWithTree_97 ?_
    refine lv_aload_n hx hb d_Pk_addedWithTree_100 rfl (lv_at hl 1 rfl) ?_
    have p20 := wt_a hW o1 0 rfl (by decide) (by decide)
    refine w_getR (T := T_Row) S hK hI o1 rfl hin_Row 0 (index := 84) (by decide) lf_Pk_84 d_Pk_addedWithTree_101 ?_
    refine lv_iload hx hb d_Pk_addedWithTree_104 (lv_at hl 4 rfl) ?_
    obtain ⟨z21, h⟩ := un_if h
    refine w_iald S hK hI hT p20 z21 d_Pk_addedWithTree_106 ?_
    refine lv_iload_n hx hb d_Pk_addedWithTree_107 rfl (lv_at hl 2 rfl) ?_
    refine lv_isub hx hb d_Pk_addedWithTree_108 ?_
    refine lv_aload_n hx hb d_Pk_addedWithTree_109 rfl (lv_at hl 0 rfl) ?_
    have p22 := wt_o hW o0 5 5 rfl (by decide) (by decide) (by decide)
    refine w_getR (T := T_Pk) S hK hI o0 rfl hin_Pk 5 (index := 23) (by decide) lf_Pk_23 d_Pk_addedWithTree_110 ?_
    obtain ⟨F23, e24, h⟩ := un_bi h
    refine w_callVv (As := [.int ((mGa L F (mRf L i1 0) x5.toNatClampNeg) - x2), .ref (mAd X (mRf L i0 5))]) (rest := []) S hK hI hT (c_Tr_addSymbol l hW p19 p22 e24) (cwV 2 S.2.2.2.2 (gd_V lc_Tr_addSymbol lm_Pk_123 li_Tr_addSymbol ls_Tr_addSymbol ln_Tr) rfl rfl rfl hd_Tr_addSymbol ⟨Nat.le_of_ble_eq_true rfl, Nat.le_of_ble_eq_true rfl⟩) p19 rfl (by decide) rfl rfl hl.1 (Nat.le_of_ble_eq_true rfl) d_Pk_addedWithTree_113 ⟨Nat.zero_le _, Nat.zero_le _⟩ (fun H locs hI => ?_)
    refine lv_iinc (k := 4) (v := x5 + (1 : Int32)) (lv' := [(5, .int (x5 + (1 : Int32))), (0, .ref (mAd X i0)), (1, .ref (mAd X i1)), (2, .int x2), (4, .int x4)]) hx hb d_Pk_addedWithTree_116 hl rfl rfl (by decide) rfl (fun ls hl => ?_)
    refine lv_goto (tgt := 87) hx hb d_Pk_addedWithTree_119 rfl ?_
    exact hk87 _ _ _ _ _ _ _ _ _ o0 o1 hI (lv_sub hl [1, 2, 3, 4, 0] rfl) h
def f_Pk_addedWithTree_87 (L : La)  : Nat → Nat → Nat → Int32 → Int32 → Int32 → Mem → Option (Int32 × Mem)
  | 0 => fun _ _ _ _ _ _ => none
  | n + 1 => b_Pk_addedWithTree_87 L (f_Pk_addedWithTree_87 L  n)
theorem tf_Pk_addedWithTree_87 (hC : Cx X L p s m args meth c cc_Pk_addedWithTree 6 w_Pk_addedWithTree R_Pk (some .boolean))  {out : (Int32 × Mem)}  (n : Nat) : ∀ (i0 : Nat) (i1 : Nat) (x2 : Int32) (x4 : Int32) (x5 : Int32) (F : Mem) (H : Heap) (locs : List Loc) (ls : Array Slot), oO L 11 i0 → oO L 1 i1 → Iv X L s H locs F → lv_has ls 6 [(0, .ref (mAd X i0)), (1, .ref (mAd X i1)), (2, .int x2), (4, .int x4), (5, .int x5)] → f_Pk_addedWithTree_87 L  n i0 i1 x2 x4 x5 F = some out → W p l e (headSpec w_Pk_addedWithTree r_Pk_addedWithTree).room s m args below meth c H locs 0 0 (MQ below (QI X L out) args s 0 0 (AA X L)) (F0 m 87 ls []) := by
  induction n with
  | zero => intro i0 i1 x2 x4 x5 F H locs ls o0 o1 hI hl h; cases h
  | succ n ih => intro i0 i1 x2 x4 x5 F H locs ls o0 o1 hI hl h; exact t_Pk_addedWithTree_87 hC ih o0 o1 hI hl h
def b_Pk_addedWithTree_12 (L : La) (k12 : Nat → Nat → Int32 → Int32 → Int32 → Mem → Option (Int32 × Mem)) (i0 : Nat) (i1 : Nat) (x2 : Int32) (x3 : Int32) (x4 : Int32) (F : Mem) : Option (Int32 × Mem) :=
  if (F i1 1) ≤ x4 then
    if (17 : Int32) ≤ (x3 - x2) then
      b_Pk_addedWithTree_74 L   F
    else
      (f_Pk_growTree L i0 i1 x2 (x3 - x2) F).bind fun q1 =>
      if q1.1 = 0 then
        b_Pk_addedWithTree_74 L   q1.2
      else
        lt' (u2 q1.2 (mRf L i0 5) 1 (0 : Int32)) fun F4 =>
        f_Pk_addedWithTree_87 L  mFU i0 i1 x2 (x3 - x2) (0 : Int32) F4
  else
    if inb x4 (mGl L (mRf L i1 0)) then none else
    if inb x4 (mGl L (mRf L i1 0)) then none else
    k12 i0 i1 (if (mGa L F (mRf L i1 0) x4.toNatClampNeg) < x2 then (mGa L F (mRf L i1 0) x4.toNatClampNeg) else x2) (if x3 < (mGa L F (mRf L i1 0) x4.toNatClampNeg) then (mGa L F (mRf L i1 0) x4.toNatClampNeg) else x3) (x4 + (1 : Int32)) F
set_option maxHeartbeats 4000000 in
theorem t_Pk_addedWithTree_12 (hC : Cx X L p s m args meth c cc_Pk_addedWithTree 6 w_Pk_addedWithTree R_Pk (some .boolean)) {k12 : Nat → Nat → Int32 → Int32 → Int32 → Mem → Option (Int32 × Mem)} {out : (Int32 × Mem)} (hk12 : ∀ (i0 : Nat) (i1 : Nat) (x2 : Int32) (x3 : Int32) (x4 : Int32) (F : Mem) (H : Heap) (locs : List Loc) (ls : Array Slot), oO L 11 i0 → oO L 1 i1 → Iv X L s H locs F → lv_has ls 6 [(0, .ref (mAd X i0)), (1, .ref (mAd X i1)), (2, .int x2), (3, .int x3), (4, .int x4)] → k12 i0 i1 x2 x3 x4 F = some out → W p l e (headSpec w_Pk_addedWithTree r_Pk_addedWithTree).room s m args below meth c H locs 0 0 (MQ below (QI X L out) args s 0 0 (AA X L)) (F0 m 12 ls [])) {i0 : Nat} {i1 : Nat} {x2 : Int32} {x3 : Int32} {x4 : Int32} {F : Mem} {H : Heap} {locs : List Loc} {ls : Array Slot} (o0 : oO L 11 i0) (o1 : oO L 1 i1) (hI : Iv X L s H locs F) (hl : lv_has ls 6 [(0, .ref (mAd X i0)), (1, .ref (mAd X i1)), (2, .int x2), (3, .int x3), (4, .int x4)]) (h : b_Pk_addedWithTree_12 L k12 i0 i1 x2 x3 x4 F = some out) : W p l e (headSpec w_Pk_addedWithTree r_Pk_addedWithTree).room s m args below meth c H locs 0 0 (MQ below (QI X L out) args s 0 0 (AA X L)) (F0 m 12 ls []) := by
  unfold b_Pk_addedWithTree_12 at h
  obtain ⟨S, hK, hT, hW, hr, hlk⟩ := id hC
  have hx := S.1
  have hb := S.2.1
  refine lv_iload hx hb d_Pk_addedWithTree_12 (lv_at hl 4 rfl) ?_
  refine lv_aload_n hx hb d_Pk_addedWithTree_14 rfl (lv_at hl 1 rfl) ?_
  refine w_getI (T := T_Row) S hK hI o1 rfl hin_Row 1 (index := 70) (by decide) lf_Pk_70 d_Pk_addedWithTree_15 ?_
  refine lv_icmp_ge (tgt := 51) hx hb d_Pk_addedWithTree_18 rfl (fun hc => ?_) (fun hc => ?_)
  · replace h := (if_pos hc).symm.trans h
    refine lv_iload_n hx hb d_Pk_addedWithTree_51 rfl (lv_at hl 3 rfl) ?_
    refine lv_iload_n hx hb d_Pk_addedWithTree_52 rfl (lv_at hl 2 rfl) ?_
    refine lv_isub hx hb d_Pk_addedWithTree_53 ?_
    refine lv_istore (lv' := [(4, .int (x3 - x2)), (0, .ref (mAd X i0)), (1, .ref (mAd X i1)), (2, .int x2), (3, .int x3)]) hx hb d_Pk_addedWithTree_54 hl (by decide) rfl (fun ls hl => ?_)
    refine lv_iload hx hb d_Pk_addedWithTree_56 (lv_at hl 0 rfl) ?_
    refine lv_bipush (v := 17) hx hb d_Pk_addedWithTree_58 (by decide) ?_
    refine lv_icmp_ge (tgt := 74) hx hb d_Pk_addedWithTree_60 rfl (fun hc => ?_) (fun hc => ?_)
    · replace h := (if_pos hc).symm.trans h
      exact t_Pk_addedWithTree_74 hC   hI (lv_sub hl [] rfl) h
    · replace h := (if_neg hc).symm.trans h
      refine lv_aload_n hx hb d_Pk_addedWithTree_63 rfl (lv_at hl 1 rfl) ?_
      refine lv_aload_n hx hb d_Pk_addedWithTree_64 rfl (lv_at hl 2 rfl) ?_
      refine lv_iload_n hx hb d_Pk_addedWithTree_65 rfl (lv_at hl 3 rfl) ?_
      refine lv_iload hx hb d_Pk_addedWithTree_66 (lv_at hl 0 rfl) ?_
      obtain ⟨q1, e2, h⟩ := un_bi h
      refine w_callVi (As := [.ref (mAd X i1), .int x2, .int (x3 - x2)]) (rest := []) S hK hI hT (c_Pk_growTree l hW o0 o1 e2) (cwV 3 S.2.2.2.2 (gd_V lc_Pk_growTree lm_Pk_118 li_Pk_growTree ls_Pk_growTree ln_Pk) rfl rfl rfl hd_Pk_growTree ⟨Nat.le_of_ble_eq_true rfl, Nat.le_of_ble_eq_true rfl⟩) o0 rfl (by decide) rfl rfl hl.1 (Nat.le_of_ble_eq_true rfl) d_Pk_addedWithTree_68 ⟨Nat.zero_le _, Nat.zero_le _⟩ (fun H locs hI => ?_)
      refine lv_if_ne (tgt := 76) hx hb d_Pk_addedWithTree_71 rfl (fun hc => ?_) (fun hc => ?_)
      · replace h := (if_neg hc).symm.trans h
        refine lv_aload_n hx hb d_Pk_addedWithTree_76 rfl (lv_at hl 1 rfl) ?_
        have p3 := wt_o hW o0 5 5 rfl (by decide) (by decide) (by decide)
        refine w_getR (T := T_Pk) S hK hI o0 rfl hin_Pk 5 (index := 23) (by decide) lf_Pk_23 d_Pk_addedWithTree_77 ?_
        refine lv_iconst (v := 0) hx hb d_Pk_addedWithTree_80 rfl ?_
        refine w_putI (T := T_Br) S hK hI p3 rfl hin_Br ty_Br tk_Br nm_Br 1 (index := 122) (by decide) lf_Pk_122 rfl d_Pk_addedWithTree_81 (fun H locs F4 e5 hI => ?_)
        replace h := un_lt h _ e5
        refine lv_iconst (v := 0) hx hb d_Pk_addedWithTree_84 rfl ?_
        refine lv_istore (lv' := [(5, .int (0 : Int32)), (4, .int (x3 - x2)), (0, .ref (mAd X i0)), (1, .ref (mAd X i1)), (2, .int x2), (3, .int x3)]) hx hb d_Pk_addedWithTree_85 hl (by decide) rfl (fun ls hl => ?_)
        exact tf_Pk_addedWithTree_87 hC  mFU _ _ _ _ _ _ _ _ _ o0 o1 hI (lv_sub hl [2, 3, 4, 1, 0] rfl) h
      · replace h := (if_pos hc).symm.trans h
        exact t_Pk_addedWithTree_74 hC   hI (lv_sub hl [] rfl) h
  · replace h := (if_neg hc).symm.trans h
    refine lv_iload_n hx hb d_Pk_addedWithTree_21 rfl (lv_at hl 2 rfl) ?_
    refine lv_aload_n hx hb d_Pk_addedWithTree_22 rfl (lv_at hl 1 rfl) ?_
    have p6 := wt_a hW o1 0 rfl (by decide) (by decide)
    refine w_getR (T := T_Row) S hK hI o1 rfl hin_Row 0 (index := 84) (by decide) lf_Pk_84 d_Pk_addedWithTree_23 ?_
    refine lv_iload hx hb d_Pk_addedWithTree_26 (lv_at hl 4 rfl) ?_
    obtain ⟨z7, h⟩ := un_if h
    refine w_iald S hK hI hT p6 z7 d_Pk_addedWithTree_28 ?_
    refine va_mmin (rest := []) (x := x2) (y := (mGa L F (mRf L i1 0) x4.toNatClampNeg)) hx hb (S.2.2.1.trans hl.1.symm) S.2.2.2.1 (S.2.2.2.2 _ (List.mem_cons_of_mem _ lm_Pk_109)) (S.2.2.2.2 _ (List.mem_cons_of_mem _ lst_Mth_min)) (S.2.2.2.2 _ (List.mem_cons_of_mem _ ln_Mth)) (S.2.2.2.2 _ (List.mem_cons_of_mem _ lc_Mth_min)) (Nat.le_of_ble_eq_true rfl) (Nat.le_of_ble_eq_true rfl) (Nat.zero_le _) (Nat.zero_le _) d_Pk_addedWithTree_29 ?_
    refine lv_istore_n (lv' := [(2, .int (if (mGa L F (mRf L i1 0) x4.toNatClampNeg) < x2 then (mGa L F (mRf L i1 0) x4.toNatClampNeg) else x2)), (0, .ref (mAd X i0)), (1, .ref (mAd X i1)), (3, .int x3), (4, .int x4)]) hx hb d_Pk_addedWithTree_32 rfl hl (by decide) rfl (fun ls hl => ?_)
    refine lv_iload_n hx hb d_Pk_addedWithTree_33 rfl (lv_at hl 3 rfl) ?_
    refine lv_aload_n hx hb d_Pk_addedWithTree_34 rfl (lv_at hl 2 rfl) ?_
    have p8 := wt_a hW o1 0 rfl (by decide) (by decide)
    refine w_getR (T := T_Row) S hK hI o1 rfl hin_Row 0 (index := 84) (by decide) lf_Pk_84 d_Pk_addedWithTree_35 ?_
    refine lv_iload hx hb d_Pk_addedWithTree_38 (lv_at hl 4 rfl) ?_
    obtain ⟨z9, h⟩ := un_if h
    refine w_iald S hK hI hT p8 z9 d_Pk_addedWithTree_40 ?_
    refine va_mmax (rest := []) (x := x3) (y := (mGa L F (mRf L i1 0) x4.toNatClampNeg)) hx hb (S.2.2.1.trans hl.1.symm) S.2.2.2.1 (S.2.2.2.2 _ (List.mem_cons_of_mem _ lm_Pk_115)) (S.2.2.2.2 _ (List.mem_cons_of_mem _ lst_Mth_max)) (S.2.2.2.2 _ (List.mem_cons_of_mem _ ln_Mth)) (S.2.2.2.2 _ (List.mem_cons_of_mem _ lc_Mth_max)) (Nat.le_of_ble_eq_true rfl) (Nat.le_of_ble_eq_true rfl) (Nat.zero_le _) (Nat.zero_le _) d_Pk_addedWithTree_41 ?_
    refine lv_istore_n (lv' := [(3, .int (if x3 < (mGa L F (mRf L i1 0) x4.toNatClampNeg) then (mGa L F (mRf L i1 0) x4.toNatClampNeg) else x3)), (2, .int (if (mGa L F (mRf L i1 0) x4.toNatClampNeg) < x2 then (mGa L F (mRf L i1 0) x4.toNatClampNeg) else x2)), (0, .ref (mAd X i0)), (1, .ref (mAd X i1)), (4, .int x4)]) hx hb d_Pk_addedWithTree_44 rfl hl (by decide) rfl (fun ls hl => ?_)
    refine lv_iinc (k := 4) (v := x4 + (1 : Int32)) (lv' := [(4, .int (x4 + (1 : Int32))), (3, .int (if x3 < (mGa L F (mRf L i1 0) x4.toNatClampNeg) then (mGa L F (mRf L i1 0) x4.toNatClampNeg) else x3)), (2, .int (if (mGa L F (mRf L i1 0) x4.toNatClampNeg) < x2 then (mGa L F (mRf L i1 0) x4.toNatClampNeg) else x2)), (0, .ref (mAd X i0)), (1, .ref (mAd X i1))]) hx hb d_Pk_addedWithTree_45 hl rfl rfl (by decide) rfl (fun ls hl => ?_)
    refine lv_goto (tgt := 12) hx hb d_Pk_addedWithTree_48 rfl ?_
    exact hk12 _ _ _ _ _ _ _ _ _ o0 o1 hI (lv_sub hl [3, 4, 2, 1, 0] rfl) h
def f_Pk_addedWithTree_12 (L : La)  : Nat → Nat → Nat → Int32 → Int32 → Int32 → Mem → Option (Int32 × Mem)
  | 0 => fun _ _ _ _ _ _ => none
  | n + 1 => b_Pk_addedWithTree_12 L (f_Pk_addedWithTree_12 L  n)
theorem tf_Pk_addedWithTree_12 (hC : Cx X L p s m args meth c cc_Pk_addedWithTree 6 w_Pk_addedWithTree R_Pk (some .boolean))  {out : (Int32 × Mem)}  (n : Nat) : ∀ (i0 : Nat) (i1 : Nat) (x2 : Int32) (x3 : Int32) (x4 : Int32) (F : Mem) (H : Heap) (locs : List Loc) (ls : Array Slot), oO L 11 i0 → oO L 1 i1 → Iv X L s H locs F → lv_has ls 6 [(0, .ref (mAd X i0)), (1, .ref (mAd X i1)), (2, .int x2), (3, .int x3), (4, .int x4)] → f_Pk_addedWithTree_12 L  n i0 i1 x2 x3 x4 F = some out → W p l e (headSpec w_Pk_addedWithTree r_Pk_addedWithTree).room s m args below meth c H locs 0 0 (MQ below (QI X L out) args s 0 0 (AA X L)) (F0 m 12 ls []) := by
  induction n with
  | zero => intro i0 i1 x2 x3 x4 F H locs ls o0 o1 hI hl h; cases h
  | succ n ih => intro i0 i1 x2 x3 x4 F H locs ls o0 o1 hI hl h; exact t_Pk_addedWithTree_12 hC ih o0 o1 hI hl h
def f_Pk_addedWithTree (L : La) (i0 : Nat) (i1 : Nat) (F : Mem) : Option (Int32 × Mem) :=
  if inb (0 : Int32) (mGl L (mRf L i1 0)) then none else
  f_Pk_addedWithTree_12 L  mFU i0 i1 (mGa L F (mRf L i1 0) (0 : Int32).toNatClampNeg) (mGa L F (mRf L i1 0) (0 : Int32).toNatClampNeg) (1 : Int32) F
set_option maxHeartbeats 4000000 in
theorem c_Pk_addedWithTree (l : Launch) {X : Xs} {L : La} (hW : WT L) {out : (Int32 × Mem)} {i0 : Nat} {i1 : Nat} {F : Mem} (o0 : oO L 11 i0) (o1 : oO L 1 i1) (h : f_Pk_addedWithTree L i0 i1 F = some out) : Met l y_Pk_addedWithTree w_Pk_addedWithTree r_Pk_addedWithTree (va_Pc [.ref (mAd X i0), .ref (mAd X i1)] (Pr X L F)) (QI X L out) 0 0 (AA X L) := by
  refine mk_met (by decide) rfl (Nat.le_of_ble_eq_true rfl) hW ?_
  intro p e s m args below meth c ls hC hI hl
  have hl : lv_has ls 6 [(0, .ref (mAd X i0)), (1, .ref (mAd X i1))] := hl
  generalize hHe : s.heap = H at hI ⊢
  generalize ([] : List Loc) = locs at hI ⊢
  unfold f_Pk_addedWithTree at h
  obtain ⟨S, hK, hT, hW, hr, hlk⟩ := id hC
  have hx := S.1
  have hb := S.2.1
  refine lv_aload_n hx hb d_Pk_addedWithTree_0 rfl (lv_at hl 1 rfl) ?_
  have p1 := wt_a hW o1 0 rfl (by decide) (by decide)
  refine w_getR (T := T_Row) S hK hI o1 rfl hin_Row 0 (index := 84) (by decide) lf_Pk_84 d_Pk_addedWithTree_1 ?_
  refine lv_iconst (v := 0) hx hb d_Pk_addedWithTree_4 rfl ?_
  obtain ⟨z2, h⟩ := un_if h
  refine w_iald S hK hI hT p1 z2 d_Pk_addedWithTree_5 ?_
  refine lv_istore_n (lv' := [(2, .int (mGa L F (mRf L i1 0) (0 : Int32).toNatClampNeg)), (0, .ref (mAd X i0)), (1, .ref (mAd X i1))]) hx hb d_Pk_addedWithTree_6 rfl hl (by decide) rfl (fun ls hl => ?_)
  refine lv_iload_n hx hb d_Pk_addedWithTree_7 rfl (lv_at hl 0 rfl) ?_
  refine lv_istore_n (lv' := [(3, .int (mGa L F (mRf L i1 0) (0 : Int32).toNatClampNeg)), (2, .int (mGa L F (mRf L i1 0) (0 : Int32).toNatClampNeg)), (0, .ref (mAd X i0)), (1, .ref (mAd X i1))]) hx hb d_Pk_addedWithTree_8 rfl hl (by decide) rfl (fun ls hl => ?_)
  refine lv_iconst (v := 1) hx hb d_Pk_addedWithTree_9 rfl ?_
  refine lv_istore (lv' := [(4, .int (1 : Int32)), (3, .int (mGa L F (mRf L i1 0) (0 : Int32).toNatClampNeg)), (2, .int (mGa L F (mRf L i1 0) (0 : Int32).toNatClampNeg)), (0, .ref (mAd X i0)), (1, .ref (mAd X i1))]) hx hb d_Pk_addedWithTree_10 hl (by decide) rfl (fun ls hl => ?_)
  exact tf_Pk_addedWithTree_12 hC  mFU _ _ _ _ _ _ _ _ _ o0 o1 hI (lv_sub hl [3, 4, 2, 1, 0] rfl) h
end
theorem d_Row_addRow_0 : decode cc_Row_addRow 0 = .ok (.iconst 0, 1) := by decide +kernel
theorem d_Row_addRow_1 : decode cc_Row_addRow 1 = .ok (.istore_n 2, 1) := by decide +kernel
theorem d_Row_addRow_2 : decode cc_Row_addRow 2 = .ok (.iload_n 2, 1) := by decide +kernel
theorem d_Row_addRow_3 : decode cc_Row_addRow 3 = .ok (.aload_n 1, 1) := by decide +kernel
theorem d_Row_addRow_4 : decode cc_Row_addRow 4 = .ok (.getfield 15, 3) := by decide +kernel
theorem d_Row_addRow_7 : decode cc_Row_addRow 7 = .ok (.if_icmp .ge (19), 3) := by decide +kernel
theorem d_Row_addRow_10 : decode cc_Row_addRow 10 = .ok (.aload_n 0, 1) := by decide +kernel
theorem d_Row_addRow_11 : decode cc_Row_addRow 11 = .ok (.aload_n 1, 1) := by decide +kernel
theorem d_Row_addRow_12 : decode cc_Row_addRow 12 = .ok (.getfield 9, 3) := by decide +kernel
theorem d_Row_addRow_15 : decode cc_Row_addRow 15 = .ok (.iload_n 2, 1) := by decide +kernel
theorem d_Row_addRow_16 : decode cc_Row_addRow 16 = .ok (.iaload, 1) := by decide +kernel
theorem d_Row_addRow_17 : decode cc_Row_addRow 17 = .ok (.invokevirtual 19, 3) := by decide +kernel
theorem d_Row_addRow_20 : decode cc_Row_addRow 20 = .ok (.iinc 2 (1), 3) := by decide +kernel
theorem d_Row_addRow_23 : decode cc_Row_addRow 23 = .ok (.goto (-21), 3) := by decide +kernel
theorem d_Row_addRow_26 : decode cc_Row_addRow 26 = .ok (.return_, 1) := by decide +kernel
section
variable {p : Program} {l : Launch} {e : Env} {s : State} {m : MethodId} {args : Array Value} {below : List Frame} {meth : Method} {c : Code} {X : Xs} {L : La}
def b_Row_addRow_2 (L : La) (k2 : Nat → Nat → Int32 → Mem → Option Mem) (i0 : Nat) (i1 : Nat) (x2 : Int32) (F : Mem) : Option Mem :=
  if (F i1 1) ≤ x2 then
    some F
  else
    if inb x2 (mGl L (mRf L i1 0)) then none else
    (f_Row_add L i0 (mGa L F (mRf L i1 0) x2.toNatClampNeg) F).bind fun F3 =>
    k2 i0 i1 (x2 + (1 : Int32)) F3
set_option maxHeartbeats 4000000 in
theorem t_Row_addRow_2 (hC : Cx X L p s m args meth c cc_Row_addRow 3 w_Row_addRow R_Row none) {k2 : Nat → Nat → Int32 → Mem → Option Mem} {out : Mem} (hk2 : ∀ (i0 : Nat) (i1 : Nat) (x2 : Int32) (F : Mem) (H : Heap) (locs : List Loc) (ls : Array Slot), oO L 1 i0 → oO L 1 i1 → Iv X L s H locs F → lv_has ls 3 [(0, .ref (mAd X i0)), (1, .ref (mAd X i1)), (2, .int x2)] → k2 i0 i1 x2 F = some out → W p l e (headSpec w_Row_addRow r_Row_addRow).room s m args below meth c H locs 0 0 (MQ below (QV X L out) args s 0 0 (AA X L)) (F0 m 2 ls [])) {i0 : Nat} {i1 : Nat} {x2 : Int32} {F : Mem} {H : Heap} {locs : List Loc} {ls : Array Slot} (o0 : oO L 1 i0) (o1 : oO L 1 i1) (hI : Iv X L s H locs F) (hl : lv_has ls 3 [(0, .ref (mAd X i0)), (1, .ref (mAd X i1)), (2, .int x2)]) (h : b_Row_addRow_2 L k2 i0 i1 x2 F = some out) : W p l e (headSpec w_Row_addRow r_Row_addRow).room s m args below meth c H locs 0 0 (MQ below (QV X L out) args s 0 0 (AA X L)) (F0 m 2 ls []) := by
  unfold b_Row_addRow_2 at h
  obtain ⟨S, hK, hT, hW, hr, hlk⟩ := id hC
  have hx := S.1
  have hb := S.2.1
  refine lv_iload_n hx hb d_Row_addRow_2 rfl (lv_at hl 2 rfl) ?_
  refine lv_aload_n hx hb d_Row_addRow_3 rfl (lv_at hl 1 rfl) ?_
  refine w_getI (T := T_Row) S hK hI o1 rfl hin_Row 1 (index := 15) (by decide) lf_Row_15 d_Row_addRow_4 ?_
  refine lv_icmp_ge (tgt := 26) hx hb d_Row_addRow_7 rfl (fun hc => ?_) (fun hc => ?_)
  · replace h := (if_pos hc).symm.trans h
    exact w_vret S hK hr hlk hI d_Row_addRow_26 h
  · replace h := (if_neg hc).symm.trans h
    refine lv_aload_n hx hb d_Row_addRow_10 rfl (lv_at hl 0 rfl) ?_
    refine lv_aload_n hx hb d_Row_addRow_11 rfl (lv_at hl 1 rfl) ?_
    have p1 := wt_a hW o1 0 rfl (by decide) (by decide)
    refine w_getR (T := T_Row) S hK hI o1 rfl hin_Row 0 (index := 9) (by decide) lf_Row_9 d_Row_addRow_12 ?_
    refine lv_iload_n hx hb d_Row_addRow_15 rfl (lv_at hl 2 rfl) ?_
    obtain ⟨z2, h⟩ := un_if h
    refine w_iald S hK hI hT p1 z2 d_Row_addRow_16 ?_
    obtain ⟨F3, e4, h⟩ := un_bi h
    refine w_callVv (As := [.int (mGa L F (mRf L i1 0) x2.toNatClampNeg)]) (rest := []) S hK hI hT (c_Row_add l hW o0 e4) (cwV 1 S.2.2.2.2 (gd_V lc_Row_add lm_Row_19 li_Row_add ls_Row_add ln_Row) rfl rfl rfl hd_Row_add ⟨Nat.le_of_ble_eq_true rfl, Nat.le_of_ble_eq_true rfl⟩) o0 rfl (by decide) rfl rfl hl.1 (Nat.le_of_ble_eq_true rfl) d_Row_addRow_17 ⟨Nat.zero_le _, Nat.zero_le _⟩ (fun H locs hI => ?_)
    refine lv_iinc (k := 2) (v := x2 + (1 : Int32)) (lv' := [(2, .int (x2 + (1 : Int32))), (0, .ref (mAd X i0)), (1, .ref (mAd X i1))]) hx hb d_Row_addRow_20 hl rfl rfl (by decide) rfl (fun ls hl => ?_)
    refine lv_goto (tgt := 2) hx hb d_Row_addRow_23 rfl ?_
    exact hk2 _ _ _ _ _ _ _ o0 o1 hI (lv_sub hl [1, 2, 0] rfl) h
def f_Row_addRow_2 (L : La)  : Nat → Nat → Nat → Int32 → Mem → Option Mem
  | 0 => fun _ _ _ _ => none
  | n + 1 => b_Row_addRow_2 L (f_Row_addRow_2 L  n)
theorem tf_Row_addRow_2 (hC : Cx X L p s m args meth c cc_Row_addRow 3 w_Row_addRow R_Row none)  {out : Mem}  (n : Nat) : ∀ (i0 : Nat) (i1 : Nat) (x2 : Int32) (F : Mem) (H : Heap) (locs : List Loc) (ls : Array Slot), oO L 1 i0 → oO L 1 i1 → Iv X L s H locs F → lv_has ls 3 [(0, .ref (mAd X i0)), (1, .ref (mAd X i1)), (2, .int x2)] → f_Row_addRow_2 L  n i0 i1 x2 F = some out → W p l e (headSpec w_Row_addRow r_Row_addRow).room s m args below meth c H locs 0 0 (MQ below (QV X L out) args s 0 0 (AA X L)) (F0 m 2 ls []) := by
  induction n with
  | zero => intro i0 i1 x2 F H locs ls o0 o1 hI hl h; cases h
  | succ n ih => intro i0 i1 x2 F H locs ls o0 o1 hI hl h; exact t_Row_addRow_2 hC ih o0 o1 hI hl h
def f_Row_addRow (L : La) (i0 : Nat) (i1 : Nat) (F : Mem) : Option Mem :=
  f_Row_addRow_2 L  mFU i0 i1 (0 : Int32) F
set_option maxHeartbeats 4000000 in
theorem c_Row_addRow (l : Launch) {X : Xs} {L : La} (hW : WT L) {out : Mem} {i0 : Nat} {i1 : Nat} {F : Mem} (o0 : oO L 1 i0) (o1 : oO L 1 i1) (h : f_Row_addRow L i0 i1 F = some out) : Met l y_Row_addRow w_Row_addRow r_Row_addRow (va_Pc [.ref (mAd X i0), .ref (mAd X i1)] (Pr X L F)) (QV X L out) 0 0 (AA X L) := by
  refine mk_met (by decide) rfl (Nat.le_of_ble_eq_true rfl) hW ?_
  intro p e s m args below meth c ls hC hI hl
  have hl : lv_has ls 3 [(0, .ref (mAd X i0)), (1, .ref (mAd X i1))] := hl
  generalize hHe : s.heap = H at hI ⊢
  generalize ([] : List Loc) = locs at hI ⊢
  unfold f_Row_addRow at h
  obtain ⟨S, hK, hT, hW, hr, hlk⟩ := id hC
  have hx := S.1
  have hb := S.2.1
  refine lv_iconst (v := 0) hx hb d_Row_addRow_0 rfl ?_
  refine lv_istore_n (lv' := [(2, .int (0 : Int32)), (0, .ref (mAd X i0)), (1, .ref (mAd X i1))]) hx hb d_Row_addRow_1 rfl hl (by decide) rfl (fun ls hl => ?_)
  exact tf_Row_addRow_2 hC  mFU _ _ _ _ _ _ _ o0 o1 hI (lv_sub hl [1, 2, 0] rfl) h
end
theorem d_Pk_addLiterals_0 : decode cc_Pk_addLiterals 0 = .ok (.aload_n 0, 1) := by decide +kernel
theorem d_Pk_addLiterals_1 : decode cc_Pk_addLiterals 1 = .ok (.getfield 66, 3) := by decide +kernel
theorem d_Pk_addLiterals_4 : decode cc_Pk_addLiterals 4 = .ok (.getfield 93, 3) := by decide +kernel
theorem d_Pk_addLiterals_7 : decode cc_Pk_addLiterals 7 = .ok (.astore_n 1, 1) := by decide +kernel
theorem d_Pk_addLiterals_8 : decode cc_Pk_addLiterals 8 = .ok (.aload_n 1, 1) := by decide +kernel
theorem d_Pk_addLiterals_9 : decode cc_Pk_addLiterals 9 = .ok (.getfield 70, 3) := by decide +kernel
theorem d_Pk_addLiterals_12 : decode cc_Pk_addLiterals 12 = .ok (.iconst 1, 1) := by decide +kernel
theorem d_Pk_addLiterals_13 : decode cc_Pk_addLiterals 13 = .ok (.if_icmp .le (41), 3) := by decide +kernel
theorem d_Pk_addLiterals_16 : decode cc_Pk_addLiterals 16 = .ok (.aload_n 1, 1) := by decide +kernel
theorem d_Pk_addLiterals_17 : decode cc_Pk_addLiterals 17 = .ok (.invokevirtual 77, 3) := by decide +kernel
theorem d_Pk_addLiterals_20 : decode cc_Pk_addLiterals 20 = .ok (.ifCond .eq (34), 3) := by decide +kernel
theorem d_Pk_addLiterals_23 : decode cc_Pk_addLiterals 23 = .ok (.aload_n 0, 1) := by decide +kernel
theorem d_Pk_addLiterals_24 : decode cc_Pk_addLiterals 24 = .ok (.getfield 14, 3) := by decide +kernel
theorem d_Pk_addLiterals_27 : decode cc_Pk_addLiterals 27 = .ok (.aload_n 1, 1) := by decide +kernel
theorem d_Pk_addLiterals_28 : decode cc_Pk_addLiterals 28 = .ok (.getfield 70, 3) := by decide +kernel
theorem d_Pk_addLiterals_31 : decode cc_Pk_addLiterals 31 = .ok (.iconst 2, 1) := by decide +kernel
theorem d_Pk_addLiterals_32 : decode cc_Pk_addLiterals 32 = .ok (.ishl, 1) := by decide +kernel
theorem d_Pk_addLiterals_33 : decode cc_Pk_addLiterals 33 = .ok (.iconst 1, 1) := by decide +kernel
theorem d_Pk_addLiterals_34 : decode cc_Pk_addLiterals 34 = .ok (.ior, 1) := by decide +kernel
theorem d_Pk_addLiterals_35 : decode cc_Pk_addLiterals 35 = .ok (.invokevirtual 87, 3) := by decide +kernel
theorem d_Pk_addLiterals_38 : decode cc_Pk_addLiterals 38 = .ok (.aload_n 0, 1) := by decide +kernel
theorem d_Pk_addLiterals_39 : decode cc_Pk_addLiterals 39 = .ok (.getfield 14, 3) := by decide +kernel
theorem d_Pk_addLiterals_42 : decode cc_Pk_addLiterals 42 = .ok (.aload_n 1, 1) := by decide +kernel
theorem d_Pk_addLiterals_43 : decode cc_Pk_addLiterals 43 = .ok (.getfield 84, 3) := by decide +kernel
theorem d_Pk_addLiterals_46 : decode cc_Pk_addLiterals 46 = .ok (.iconst 0, 1) := by decide +kernel
theorem d_Pk_addLiterals_47 : decode cc_Pk_addLiterals 47 = .ok (.iaload, 1) := by decide +kernel
theorem d_Pk_addLiterals_48 : decode cc_Pk_addLiterals 48 = .ok (.invokevirtual 87, 3) := by decide +kernel
theorem d_Pk_addLiterals_51 : decode cc_Pk_addLiterals 51 = .ok (.goto (42), 3) := by decide +kernel
theorem d_Pk_addLiterals_54 : decode cc_Pk_addLiterals 54 = .ok (.aload_n 1, 1) := by decide +kernel
theorem d_Pk_addLiterals_55 : decode cc_Pk_addLiterals 55 = .ok (.getfield 70, 3) := by decide +kernel
theorem d_Pk_addLiterals_58 : decode cc_Pk_addLiterals 58 = .ok (.iconst 2, 1) := by decide +kernel
theorem d_Pk_addLiterals_59 : decode cc_Pk_addLiterals 59 = .ok (.if_icmp .lt (11), 3) := by decide +kernel
theorem d_Pk_addLiterals_62 : decode cc_Pk_addLiterals 62 = .ok (.aload_n 0, 1) := by decide +kernel
theorem d_Pk_addLiterals_63 : decode cc_Pk_addLiterals 63 = .ok (.aload_n 1, 1) := by decide +kernel
theorem d_Pk_addLiterals_64 : decode cc_Pk_addLiterals 64 = .ok (.invokevirtual 105, 3) := by decide +kernel
theorem d_Pk_addLiterals_67 : decode cc_Pk_addLiterals 67 = .ok (.ifCond .ne (26), 3) := by decide +kernel
theorem d_Pk_addLiterals_70 : decode cc_Pk_addLiterals 70 = .ok (.aload_n 0, 1) := by decide +kernel
theorem d_Pk_addLiterals_71 : decode cc_Pk_addLiterals 71 = .ok (.getfield 14, 3) := by decide +kernel
theorem d_Pk_addLiterals_74 : decode cc_Pk_addLiterals 74 = .ok (.aload_n 1, 1) := by decide +kernel
theorem d_Pk_addLiterals_75 : decode cc_Pk_addLiterals 75 = .ok (.getfield 70, 3) := by decide +kernel
theorem d_Pk_addLiterals_78 : decode cc_Pk_addLiterals 78 = .ok (.iconst 2, 1) := by decide +kernel
theorem d_Pk_addLiterals_79 : decode cc_Pk_addLiterals 79 = .ok (.ishl, 1) := by decide +kernel
theorem d_Pk_addLiterals_80 : decode cc_Pk_addLiterals 80 = .ok (.iconst 0, 1) := by decide +kernel
theorem d_Pk_addLiterals_81 : decode cc_Pk_addLiterals 81 = .ok (.ior, 1) := by decide +kernel
theorem d_Pk_addLiterals_82 : decode cc_Pk_addLiterals 82 = .ok (.invokevirtual 87, 3) := by decide +kernel
theorem d_Pk_addLiterals_85 : decode cc_Pk_addLiterals 85 = .ok (.aload_n 0, 1) := by decide +kernel
theorem d_Pk_addLiterals_86 : decode cc_Pk_addLiterals 86 = .ok (.getfield 14, 3) := by decide +kernel
theorem d_Pk_addLiterals_89 : decode cc_Pk_addLiterals 89 = .ok (.aload_n 1, 1) := by decide +kernel
theorem d_Pk_addLiterals_90 : decode cc_Pk_addLiterals 90 = .ok (.invokevirtual 102, 3) := by decide +kernel
theorem d_Pk_addLiterals_93 : decode cc_Pk_addLiterals 93 = .ok (.return_, 1) := by decide +kernel
section
variable {p : Program} {l : Launch} {e : Env} {s : State} {m : MethodId} {args : Array Value} {below : List Frame} {meth : Method} {c : Code} {X : Xs} {L : La}
def b_Pk_addLiterals_93 (L : La)   (F : Mem) : Option Mem :=
  some F
set_option maxHeartbeats 4000000 in
theorem t_Pk_addLiterals_93 (hC : Cx X L p s m args meth c cc_Pk_addLiterals 2 w_Pk_addLiterals R_Pk none)  {out : Mem}   {F : Mem} {H : Heap} {locs : List Loc} {ls : Array Slot}  (hI : Iv X L s H locs F) (hl : lv_has ls 2 []) (h : b_Pk_addLiterals_93 L   F = some out) : W p l e (headSpec w_Pk_addLiterals r_Pk_addLiterals).room s m args below meth c H locs 0 0 (MQ below (QV X L out) args s 0 0 (AA X L)) (F0 m 93 ls []) := by
  unfold b_Pk_addLiterals_93 at h
  obtain ⟨S, hK, hT, hW, hr, hlk⟩ := id hC
  have hx := S.1
  have hb := S.2.1
  exact w_vret S hK hr hlk hI d_Pk_addLiterals_93 h
def b_Pk_addLiterals_70 (L : La)  (i0 : Nat) (i1 : Nat) (F : Mem) : Option Mem :=
  (f_Row_add L (mRf L i0 4) ((jshl (F i1 1) (2 : Int32)) ||| (0 : Int32)) F).bind fun F2 =>
  (f_Row_addRow L (mRf L i0 4) i1 F2).bind fun F5 =>
  b_Pk_addLiterals_93 L   F5
set_option maxHeartbeats 4000000 in
theorem t_Pk_addLiterals_70 (hC : Cx X L p s m args meth c cc_Pk_addLiterals 2 w_Pk_addLiterals R_Pk none)  {out : Mem}  {i0 : Nat} {i1 : Nat} {F : Mem} {H : Heap} {locs : List Loc} {ls : Array Slot} (o0 : oO L 11 i0) (o1 : oO L 1 i1) (hI : Iv X L s H locs F) (hl : lv_has ls 2 [(0, .ref (mAd X i0)), (1, .ref (mAd X i1))]) (h : b_Pk_addLiterals_70 L  i0 i1 F = some out) : W p l e (headSpec w_Pk_addLiterals r_Pk_addLiterals).room s m args below meth c H locs 0 0 (MQ below (QV X L out) args s 0 0 (AA X L)) (F0 m 70 ls []) := by
  unfold b_Pk_addLiterals_70 at h
  obtain ⟨S, hK, hT, hW, hr, hlk⟩ := id hC
  have hx := S.1
  have hb := S.2.1
  refine lv_aload_n hx hb d_Pk_addLiterals_70 rfl (lv_at hl 0 rfl) ?_
  have p1 := wt_o hW o0 4 1 rfl (by decide) (by decide) (by decide)
  refine w_getR (T := T_Pk) S hK hI o0 rfl hin_Pk 4 (index := 14) (by decide) lf_Pk_14 d_Pk_addLiterals_71 ?_
  refine lv_aload_n hx hb d_Pk_addLiterals_74 rfl (lv_at hl 1 rfl) ?_
  refine w_getI (T := T_Row) S hK hI o1 rfl hin_Row 1 (index := 70) (by decide) lf_Pk_70 d_Pk_addLiterals_75 ?_
  refine lv_iconst (v := 2) hx hb d_Pk_addLiterals_78 rfl ?_
  refine lv_ishl hx hb d_Pk_addLiterals_79 ?_
  refine lv_iconst (v := 0) hx hb d_Pk_addLiterals_80 rfl ?_
  refine lv_ior hx hb d_Pk_addLiterals_81 ?_
  obtain ⟨F2, e3, h⟩ := un_bi h
  refine w_callVv (As := [.int ((jshl (F i1 1) (2 : Int32)) ||| (0 : Int32))]) (rest := []) S hK hI hT (c_Row_add l hW p1 e3) (cwV 1 S.2.2.2.2 (gd_V lc_Row_add lm_Pk_87 li_Row_add ls_Row_add ln_Row) rfl rfl rfl hd_Row_add ⟨Nat.le_of_ble_eq_true rfl, Nat.le_of_ble_eq_true rfl⟩) p1 rfl (by decide) rfl rfl hl.1 (Nat.le_of_ble_eq_true rfl) d_Pk_addLiterals_82 ⟨Nat.zero_le _, Nat.zero_le _⟩ (fun H locs hI => ?_)
  refine lv_aload_n hx hb d_Pk_addLiterals_85 rfl (lv_at hl 0 rfl) ?_
  have p4 := wt_o hW o0 4 1 rfl (by decide) (by decide) (by decide)
  refine w_getR (T := T_Pk) S hK hI o0 rfl hin_Pk 4 (index := 14) (by decide) lf_Pk_14 d_Pk_addLiterals_86 ?_
  refine lv_aload_n hx hb d_Pk_addLiterals_89 rfl (lv_at hl 1 rfl) ?_
  obtain ⟨F5, e6, h⟩ := un_bi h
  refine w_callVv (As := [.ref (mAd X i1)]) (rest := []) S hK hI hT (c_Row_addRow l hW p4 o1 e6) (cwV 1 S.2.2.2.2 (gd_V lc_Row_addRow lm_Pk_102 li_Row_addRow ls_Row_addRow ln_Row) rfl rfl rfl hd_Row_addRow ⟨Nat.le_of_ble_eq_true rfl, Nat.le_of_ble_eq_true rfl⟩) p4 rfl (by decide) rfl rfl hl.1 (Nat.le_of_ble_eq_true rfl) d_Pk_addLiterals_90 ⟨Nat.zero_le _, Nat.zero_le _⟩ (fun H locs hI => ?_)
  exact t_Pk_addLiterals_93 hC   hI (lv_sub hl [] rfl) h
def b_Pk_addLiterals_54 (L : La)  (i0 : Nat) (i1 : Nat) (F : Mem) : Option Mem :=
  if (F i1 1) < (2 : Int32) then
    b_Pk_addLiterals_70 L  i0 i1 F
  else
    (f_Pk_addedWithTree L i0 i1 F).bind fun q1 =>
    if q1.1 = 0 then
      b_Pk_addLiterals_70 L  i0 i1 q1.2
    else
      b_Pk_addLiterals_93 L   q1.2
set_option maxHeartbeats 4000000 in
theorem t_Pk_addLiterals_54 (hC : Cx X L p s m args meth c cc_Pk_addLiterals 2 w_Pk_addLiterals R_Pk none)  {out : Mem}  {i0 : Nat} {i1 : Nat} {F : Mem} {H : Heap} {locs : List Loc} {ls : Array Slot} (o0 : oO L 11 i0) (o1 : oO L 1 i1) (hI : Iv X L s H locs F) (hl : lv_has ls 2 [(0, .ref (mAd X i0)), (1, .ref (mAd X i1))]) (h : b_Pk_addLiterals_54 L  i0 i1 F = some out) : W p l e (headSpec w_Pk_addLiterals r_Pk_addLiterals).room s m args below meth c H locs 0 0 (MQ below (QV X L out) args s 0 0 (AA X L)) (F0 m 54 ls []) := by
  unfold b_Pk_addLiterals_54 at h
  obtain ⟨S, hK, hT, hW, hr, hlk⟩ := id hC
  have hx := S.1
  have hb := S.2.1
  refine lv_aload_n hx hb d_Pk_addLiterals_54 rfl (lv_at hl 1 rfl) ?_
  refine w_getI (T := T_Row) S hK hI o1 rfl hin_Row 1 (index := 70) (by decide) lf_Pk_70 d_Pk_addLiterals_55 ?_
  refine lv_iconst (v := 2) hx hb d_Pk_addLiterals_58 rfl ?_
  refine lv_icmp_lt (tgt := 70) hx hb d_Pk_addLiterals_59 rfl (fun hc => ?_) (fun hc => ?_)
  · replace h := (if_pos hc).symm.trans h
    exact t_Pk_addLiterals_70 hC  o0 o1 hI hl h
  · replace h := (if_neg hc).symm.trans h
    refine lv_aload_n hx hb d_Pk_addLiterals_62 rfl (lv_at hl 0 rfl) ?_
    refine lv_aload_n hx hb d_Pk_addLiterals_63 rfl (lv_at hl 1 rfl) ?_
    obtain ⟨q1, e2, h⟩ := un_bi h
    refine w_callVi (As := [.ref (mAd X i1)]) (rest := []) S hK hI hT (c_Pk_addedWithTree l hW o0 o1 e2) (cwV 1 S.2.2.2.2 (gd_V lc_Pk_addedWithTree lm_Pk_105 li_Pk_addedWithTree ls_Pk_addedWithTree ln_Pk) rfl rfl rfl hd_Pk_addedWithTree ⟨Nat.le_of_ble_eq_true rfl, Nat.le_of_ble_eq_true rfl⟩) o0 rfl (by decide) rfl rfl hl.1 (Nat.le_of_ble_eq_true rfl) d_Pk_addLiterals_64 ⟨Nat.zero_le _, Nat.zero_le _⟩ (fun H locs hI => ?_)
    refine lv_if_ne (tgt := 93) hx hb d_Pk_addLiterals_67 rfl (fun hc => ?_) (fun hc => ?_)
    · replace h := (if_neg hc).symm.trans h
      exact t_Pk_addLiterals_93 hC   hI (lv_sub hl [] rfl) h
    · replace h := (if_pos hc).symm.trans h
      exact t_Pk_addLiterals_70 hC  o0 o1 hI hl h
def f_Pk_addLiterals (L : La) (i0 : Nat) (F : Mem) : Option Mem :=
  if (F (mRf L (mRf L i0 1) 1) 1) ≤ (1 : Int32) then
    b_Pk_addLiterals_54 L  i0 (mRf L (mRf L i0 1) 1) F
  else
    (f_Row_isOneByteOnly L (mRf L (mRf L i0 1) 1) F).bind fun q3 =>
    if q3.1 = 0 then
      b_Pk_addLiterals_54 L  i0 (mRf L (mRf L i0 1) 1) q3.2
    else
      (f_Row_add L (mRf L i0 4) ((jshl (q3.2 (mRf L (mRf L i0 1) 1) 1) (2 : Int32)) ||| (1 : Int32)) q3.2).bind fun F6 =>
      if inb (0 : Int32) (mGl L (mRf L (mRf L (mRf L i0 1) 1) 0)) then none else
      (f_Row_add L (mRf L i0 4) (mGa L F6 (mRf L (mRf L (mRf L i0 1) 1) 0) (0 : Int32).toNatClampNeg) F6).bind fun F11 =>
      b_Pk_addLiterals_93 L   F11
set_option maxHeartbeats 4000000 in
theorem c_Pk_addLiterals (l : Launch) {X : Xs} {L : La} (hW : WT L) {out : Mem} {i0 : Nat} {F : Mem} (o0 : oO L 11 i0) (h : f_Pk_addLiterals L i0 F = some out) : Met l y_Pk_addLiterals w_Pk_addLiterals r_Pk_addLiterals (va_Pc [.ref (mAd X i0)] (Pr X L F)) (QV X L out) 0 0 (AA X L) := by
  refine mk_met (by decide) rfl (Nat.le_of_ble_eq_true rfl) hW ?_
  intro p e s m args below meth c ls hC hI hl
  have hl : lv_has ls 2 [(0, .ref (mAd X i0))] := hl
  generalize hHe : s.heap = H at hI ⊢
  generalize ([] : List Loc) = locs at hI ⊢
  unfold f_Pk_addLiterals at h
  obtain ⟨S, hK, hT, hW, hr, hlk⟩ := id hC
  have hx := S.1
  have hb := S.2.1
  refine lv_aload_n hx hb d_Pk_addLiterals_0 rfl (lv_at hl 0 rfl) ?_
  have p1 := wt_o hW o0 1 10 rfl (by decide) (by decide) (by decide)
  refine w_getR (T := T_Pk) S hK hI o0 rfl hin_Pk 1 (index := 66) (by decide) lf_Pk_66 d_Pk_addLiterals_1 ?_
  have p2 := wt_o hW p1 1 1 rfl (by decide) (by decide) (by decide)
  refine w_getR (T := T_Mf) S hK hI p1 rfl hin_Mf 1 (index := 93) (by decide) lf_Pk_93 d_Pk_addLiterals_4 ?_
  refine lv_astore_n (lv' := [(1, .ref (mAd X (mRf L (mRf L i0 1) 1))), (0, .ref (mAd X i0))]) hx hb d_Pk_addLiterals_7 rfl hl (by decide) rfl (fun ls hl => ?_)
  refine lv_aload_n hx hb d_Pk_addLiterals_8 rfl (lv_at hl 0 rfl) ?_
  refine w_getI (T := T_Row) S hK hI p2 rfl hin_Row 1 (index := 70) (by decide) lf_Pk_70 d_Pk_addLiterals_9 ?_
  refine lv_iconst (v := 1) hx hb d_Pk_addLiterals_12 rfl ?_
  refine lv_icmp_le (tgt := 54) hx hb d_Pk_addLiterals_13 rfl (fun hc => ?_) (fun hc => ?_)
  · replace h := (if_pos hc).symm.trans h
    exact t_Pk_addLiterals_54 hC  o0 p2 hI (lv_sub hl [1, 0] rfl) h
  · replace h := (if_neg hc).symm.trans h
    refine lv_aload_n hx hb d_Pk_addLiterals_16 rfl (lv_at hl 0 rfl) ?_
    obtain ⟨q3, e4, h⟩ := un_bi h
    refine w_callVi (As := []) (rest := []) S hK hI hT (c_Row_isOneByteOnly l hW p2 e4) (cwV 0 S.2.2.2.2 (gd_V lc_Row_isOneByteOnly lm_Pk_77 li_Row_isOneByteOnly ls_Row_isOneByteOnly ln_Row) rfl rfl rfl hd_Row_isOneByteOnly ⟨Nat.le_of_ble_eq_true rfl, Nat.le_of_ble_eq_true rfl⟩) p2 rfl (by decide) rfl rfl hl.1 (Nat.le_of_ble_eq_true rfl) d_Pk_addLiterals_17 ⟨Nat.zero_le _, Nat.zero_le _⟩ (fun H locs hI => ?_)
    refine lv_if_eq (tgt := 54) hx hb d_Pk_addLiterals_20 rfl (fun hc => ?_) (fun hc => ?_)
    · replace h := (if_pos hc).symm.trans h
      exact t_Pk_addLiterals_54 hC  o0 p2 hI (lv_sub hl [1, 0] rfl) h
    · replace h := (if_neg hc).symm.trans h
      refine lv_aload_n hx hb d_Pk_addLiterals_23 rfl (lv_at hl 1 rfl) ?_
      have p5 := wt_o hW o0 4 1 rfl (by decide) (by decide) (by decide)
      refine w_getR (T := T_Pk) S hK hI o0 rfl hin_Pk 4 (index := 14) (by decide) lf_Pk_14 d_Pk_addLiterals_24 ?_
      refine lv_aload_n hx hb d_Pk_addLiterals_27 rfl (lv_at hl 0 rfl) ?_
      refine w_getI (T := T_Row) S hK hI p2 rfl hin_Row 1 (index := 70) (by decide) lf_Pk_70 d_Pk_addLiterals_28 ?_
      refine lv_iconst (v := 2) hx hb d_Pk_addLiterals_31 rfl ?_
      refine lv_ishl hx hb d_Pk_addLiterals_32 ?_
      refine lv_iconst (v := 1) hx hb d_Pk_addLiterals_33 rfl ?_
      refine lv_ior hx hb d_Pk_addLiterals_34 ?_
      obtain ⟨F6, e7, h⟩ := un_bi h
      refine w_callVv (As := [.int ((jshl (q3.2 (mRf L (mRf L i0 1) 1) 1) (2 : Int32)) ||| (1 : Int32))]) (rest := []) S hK hI hT (c_Row_add l hW p5 e7) (cwV 1 S.2.2.2.2 (gd_V lc_Row_add lm_Pk_87 li_Row_add ls_Row_add ln_Row) rfl rfl rfl hd_Row_add ⟨Nat.le_of_ble_eq_true rfl, Nat.le_of_ble_eq_true rfl⟩) p5 rfl (by decide) rfl rfl hl.1 (Nat.le_of_ble_eq_true rfl) d_Pk_addLiterals_35 ⟨Nat.zero_le _, Nat.zero_le _⟩ (fun H locs hI => ?_)
      refine lv_aload_n hx hb d_Pk_addLiterals_38 rfl (lv_at hl 1 rfl) ?_
      have p8 := wt_o hW o0 4 1 rfl (by decide) (by decide) (by decide)
      refine w_getR (T := T_Pk) S hK hI o0 rfl hin_Pk 4 (index := 14) (by decide) lf_Pk_14 d_Pk_addLiterals_39 ?_
      refine lv_aload_n hx hb d_Pk_addLiterals_42 rfl (lv_at hl 0 rfl) ?_
      have p9 := wt_a hW p2 0 rfl (by decide) (by decide)
      refine w_getR (T := T_Row) S hK hI p2 rfl hin_Row 0 (index := 84) (by decide) lf_Pk_84 d_Pk_addLiterals_43 ?_
      refine lv_iconst (v := 0) hx hb d_Pk_addLiterals_46 rfl ?_
      obtain ⟨z10, h⟩ := un_if h
      refine w_iald S hK hI hT p9 z10 d_Pk_addLiterals_47 ?_
      obtain ⟨F11, e12, h⟩ := un_bi h
      refine w_callVv (As := [.int (mGa L F6 (mRf L (mRf L (mRf L i0 1) 1) 0) (0 : Int32).toNatClampNeg)]) (rest := []) S hK hI hT (c_Row_add l hW p8 e12) (cwV 1 S.2.2.2.2 (gd_V lc_Row_add lm_Pk_87 li_Row_add ls_Row_add ln_Row) rfl rfl rfl hd_Row_add ⟨Nat.le_of_ble_eq_true rfl, Nat.le_of_ble_eq_true rfl⟩) p8 rfl (by decide) rfl rfl hl.1 (Nat.le_of_ble_eq_true rfl) d_Pk_addLiterals_48 ⟨Nat.zero_le _, Nat.zero_le _⟩ (fun H locs hI => ?_)
      refine lv_goto (tgt := 93) hx hb d_Pk_addLiterals_51 rfl ?_
      exact t_Pk_addLiterals_93 hC   hI (lv_sub hl [] rfl) h
end
theorem d_Pk_codeOf_0 : decode cc_Pk_codeOf 0 = .ok (.iconst 0, 1) := by decide +kernel
theorem d_Pk_codeOf_1 : decode cc_Pk_codeOf 1 = .ok (.istore_n 2, 1) := by decide +kernel
theorem d_Pk_codeOf_2 : decode cc_Pk_codeOf 2 = .ok (.iconst 1, 1) := by decide +kernel
theorem d_Pk_codeOf_3 : decode cc_Pk_codeOf 3 = .ok (.istore_n 3, 1) := by decide +kernel
theorem d_Pk_codeOf_4 : decode cc_Pk_codeOf 4 = .ok (.iload_n 3, 1) := by decide +kernel
theorem d_Pk_codeOf_5 : decode cc_Pk_codeOf 5 = .ok (.aload_n 0, 1) := by decide +kernel
theorem d_Pk_codeOf_6 : decode cc_Pk_codeOf 6 = .ok (.arraylength, 1) := by decide +kernel
theorem d_Pk_codeOf_7 : decode cc_Pk_codeOf 7 = .ok (.if_icmp .ge (18), 3) := by decide +kernel
theorem d_Pk_codeOf_10 : decode cc_Pk_codeOf 10 = .ok (.aload_n 0, 1) := by decide +kernel
theorem d_Pk_codeOf_11 : decode cc_Pk_codeOf 11 = .ok (.iload_n 3, 1) := by decide +kernel
theorem d_Pk_codeOf_12 : decode cc_Pk_codeOf 12 = .ok (.iaload, 1) := by decide +kernel
theorem d_Pk_codeOf_13 : decode cc_Pk_codeOf 13 = .ok (.iload_n 1, 1) := by decide +kernel
theorem d_Pk_codeOf_14 : decode cc_Pk_codeOf 14 = .ok (.if_icmp .gt (5), 3) := by decide +kernel
theorem d_Pk_codeOf_17 : decode cc_Pk_codeOf 17 = .ok (.iload_n 3, 1) := by decide +kernel
theorem d_Pk_codeOf_18 : decode cc_Pk_codeOf 18 = .ok (.istore_n 2, 1) := by decide +kernel
theorem d_Pk_codeOf_19 : decode cc_Pk_codeOf 19 = .ok (.iinc 3 (1), 3) := by decide +kernel
theorem d_Pk_codeOf_22 : decode cc_Pk_codeOf 22 = .ok (.goto (-18), 3) := by decide +kernel
theorem d_Pk_codeOf_25 : decode cc_Pk_codeOf 25 = .ok (.iload_n 2, 1) := by decide +kernel
theorem d_Pk_codeOf_26 : decode cc_Pk_codeOf 26 = .ok (.ireturn, 1) := by decide +kernel
section
variable {p : Program} {l : Launch} {e : Env} {s : State} {m : MethodId} {args : Array Value} {below : List Frame} {meth : Method} {c : Code} {X : Xs} {L : La}
def b_Pk_codeOf_19 (L : La) (k4 : Nat → Int32 → Int32 → Int32 → Mem → Option (Int32 × Mem)) (i0 : Nat) (x1 : Int32) (x2 : Int32) (x3 : Int32) (F : Mem) : Option (Int32 × Mem) :=
  k4 i0 x1 x2 (x3 + (1 : Int32)) F
set_option maxHeartbeats 4000000 in
theorem t_Pk_codeOf_19 (hC : Cx X L p s m args meth c cc_Pk_codeOf 4 w_Pk_codeOf R_Pk (some .int)) {k4 : Nat → Int32 → Int32 → Int32 → Mem → Option (Int32 × Mem)} {out : (Int32 × Mem)} (hk4 : ∀ (i0 : Nat) (x1 : Int32) (x2 : Int32) (x3 : Int32) (F : Mem) (H : Heap) (locs : List Loc) (ls : Array Slot), oA L i0 → Iv X L s H locs F → lv_has ls 4 [(0, .ref (mAd X i0)), (1, .int x1), (2, .int x2), (3, .int x3)] → k4 i0 x1 x2 x3 F = some out → W p l e (headSpec w_Pk_codeOf r_Pk_codeOf).room s m args below meth c H locs 0 0 (MQ below (QI X L out) args s 0 0 (AA X L)) (F0 m 4 ls [])) {i0 : Nat} {x1 : Int32} {x2 : Int32} {x3 : Int32} {F : Mem} {H : Heap} {locs : List Loc} {ls : Array Slot} (o0 : oA L i0) (hI : Iv X L s H locs F) (hl : lv_has ls 4 [(0, .ref (mAd X i0)), (1, .int x1), (2, .int x2), (3, .int x3)]) (h : b_Pk_codeOf_19 L k4 i0 x1 x2 x3 F = some out) : W p l e (headSpec w_Pk_codeOf r_Pk_codeOf).room s m args below meth c H locs 0 0 (MQ below (QI X L out) args s 0 0 (AA X L)) (F0 m 19 ls []) := by
  unfold b_Pk_codeOf_19 at h
  obtain ⟨S, hK, hT, hW, hr, hlk⟩ := id hC
  have hx := S.1
  have hb := S.2.1
  refine lv_iinc (k := 3) (v := x3 + (1 : Int32)) (lv' := [(3, .int (x3 + (1 : Int32))), (0, .ref (mAd X i0)), (1, .int x1), (2, .int x2)]) hx hb d_Pk_codeOf_19 hl rfl rfl (by decide) rfl (fun ls hl => ?_)
  refine lv_goto (tgt := 4) hx hb d_Pk_codeOf_22 rfl ?_
  exact hk4 _ _ _ _ _ _ _ _ o0 hI (lv_sub hl [1, 2, 3, 0] rfl) h
def b_Pk_codeOf_4 (L : La) (k4 : Nat → Int32 → Int32 → Int32 → Mem → Option (Int32 × Mem)) (i0 : Nat) (x1 : Int32) (x2 : Int32) (x3 : Int32) (F : Mem) : Option (Int32 × Mem) :=
  if (nI (mGl L i0)) ≤ x3 then
    some (x2, F)
  else
    if inb x3 (mGl L i0) then none else
    if x1 < (mGa L F i0 x3.toNatClampNeg) then
      b_Pk_codeOf_19 L k4 i0 x1 x2 x3 F
    else
      b_Pk_codeOf_19 L k4 i0 x1 x3 x3 F
set_option maxHeartbeats 4000000 in
theorem t_Pk_codeOf_4 (hC : Cx X L p s m args meth c cc_Pk_codeOf 4 w_Pk_codeOf R_Pk (some .int)) {k4 : Nat → Int32 → Int32 → Int32 → Mem → Option (Int32 × Mem)} {out : (Int32 × Mem)} (hk4 : ∀ (i0 : Nat) (x1 : Int32) (x2 : Int32) (x3 : Int32) (F : Mem) (H : Heap) (locs : List Loc) (ls : Array Slot), oA L i0 → Iv X L s H locs F → lv_has ls 4 [(0, .ref (mAd X i0)), (1, .int x1), (2, .int x2), (3, .int x3)] → k4 i0 x1 x2 x3 F = some out → W p l e (headSpec w_Pk_codeOf r_Pk_codeOf).room s m args below meth c H locs 0 0 (MQ below (QI X L out) args s 0 0 (AA X L)) (F0 m 4 ls [])) {i0 : Nat} {x1 : Int32} {x2 : Int32} {x3 : Int32} {F : Mem} {H : Heap} {locs : List Loc} {ls : Array Slot} (o0 : oA L i0) (hI : Iv X L s H locs F) (hl : lv_has ls 4 [(0, .ref (mAd X i0)), (1, .int x1), (2, .int x2), (3, .int x3)]) (h : b_Pk_codeOf_4 L k4 i0 x1 x2 x3 F = some out) : W p l e (headSpec w_Pk_codeOf r_Pk_codeOf).room s m args below meth c H locs 0 0 (MQ below (QI X L out) args s 0 0 (AA X L)) (F0 m 4 ls []) := by
  unfold b_Pk_codeOf_4 at h
  obtain ⟨S, hK, hT, hW, hr, hlk⟩ := id hC
  have hx := S.1
  have hb := S.2.1
  refine lv_iload_n hx hb d_Pk_codeOf_4 rfl (lv_at hl 3 rfl) ?_
  refine lv_aload_n hx hb d_Pk_codeOf_5 rfl (lv_at hl 0 rfl) ?_
  refine w_alen S hK hI hT o0 d_Pk_codeOf_6 ?_
  refine lv_icmp_ge (tgt := 25) hx hb d_Pk_codeOf_7 rfl (fun hc => ?_) (fun hc => ?_)
  · replace h := (if_pos hc).symm.trans h
    refine lv_iload_n hx hb d_Pk_codeOf_25 rfl (lv_at hl 2 rfl) ?_
    exact w_iret S hK hr hlk hI d_Pk_codeOf_26 h
  · replace h := (if_neg hc).symm.trans h
    refine lv_aload_n hx hb d_Pk_codeOf_10 rfl (lv_at hl 0 rfl) ?_
    refine lv_iload_n hx hb d_Pk_codeOf_11 rfl (lv_at hl 3 rfl) ?_
    obtain ⟨z1, h⟩ := un_if h
    refine w_iald S hK hI hT o0 z1 d_Pk_codeOf_12 ?_
    refine lv_iload_n hx hb d_Pk_codeOf_13 rfl (lv_at hl 1 rfl) ?_
    refine lv_icmp_gt (tgt := 19) hx hb d_Pk_codeOf_14 rfl (fun hc => ?_) (fun hc => ?_)
    · replace h := (if_pos hc).symm.trans h
      exact t_Pk_codeOf_19 hC hk4 o0 hI hl h
    · replace h := (if_neg hc).symm.trans h
      refine lv_iload_n hx hb d_Pk_codeOf_17 rfl (lv_at hl 3 rfl) ?_
      refine lv_istore_n (lv' := [(2, .int x3), (0, .ref (mAd X i0)), (1, .int x1), (3, .int x3)]) hx hb d_Pk_codeOf_18 rfl hl (by decide) rfl (fun ls hl => ?_)
      exact t_Pk_codeOf_19 hC hk4 o0 hI (lv_sub hl [1, 2, 0, 3] rfl) h
def f_Pk_codeOf_4 (L : La)  : Nat → Nat → Int32 → Int32 → Int32 → Mem → Option (Int32 × Mem)
  | 0 => fun _ _ _ _ _ => none
  | n + 1 => b_Pk_codeOf_4 L (f_Pk_codeOf_4 L  n)
theorem tf_Pk_codeOf_4 (hC : Cx X L p s m args meth c cc_Pk_codeOf 4 w_Pk_codeOf R_Pk (some .int))  {out : (Int32 × Mem)}  (n : Nat) : ∀ (i0 : Nat) (x1 : Int32) (x2 : Int32) (x3 : Int32) (F : Mem) (H : Heap) (locs : List Loc) (ls : Array Slot), oA L i0 → Iv X L s H locs F → lv_has ls 4 [(0, .ref (mAd X i0)), (1, .int x1), (2, .int x2), (3, .int x3)] → f_Pk_codeOf_4 L  n i0 x1 x2 x3 F = some out → W p l e (headSpec w_Pk_codeOf r_Pk_codeOf).room s m args below meth c H locs 0 0 (MQ below (QI X L out) args s 0 0 (AA X L)) (F0 m 4 ls []) := by
  induction n with
  | zero => intro i0 x1 x2 x3 F H locs ls o0 hI hl h; cases h
  | succ n ih => intro i0 x1 x2 x3 F H locs ls o0 hI hl h; exact t_Pk_codeOf_4 hC ih o0 hI hl h
def f_Pk_codeOf (L : La) (i0 : Nat) (x1 : Int32) (F : Mem) : Option (Int32 × Mem) :=
  f_Pk_codeOf_4 L  mFU i0 x1 (0 : Int32) (1 : Int32) F
set_option maxHeartbeats 4000000 in
theorem c_Pk_codeOf (l : Launch) {X : Xs} {L : La} (hW : WT L) {out : (Int32 × Mem)} {i0 : Nat} {x1 : Int32} {F : Mem} (o0 : oA L i0) (h : f_Pk_codeOf L i0 x1 F = some out) : Met l y_Pk_codeOf w_Pk_codeOf r_Pk_codeOf (va_Pc [.ref (mAd X i0), .int x1] (Pr X L F)) (QI X L out) 0 0 (AA X L) := by
  refine mk_met (by decide) rfl (Nat.le_of_ble_eq_true rfl) hW ?_
  intro p e s m args below meth c ls hC hI hl
  have hl : lv_has ls 4 [(0, .ref (mAd X i0)), (1, .int x1)] := hl
  generalize hHe : s.heap = H at hI ⊢
  generalize ([] : List Loc) = locs at hI ⊢
  unfold f_Pk_codeOf at h
  obtain ⟨S, hK, hT, hW, hr, hlk⟩ := id hC
  have hx := S.1
  have hb := S.2.1
  refine lv_iconst (v := 0) hx hb d_Pk_codeOf_0 rfl ?_
  refine lv_istore_n (lv' := [(2, .int (0 : Int32)), (0, .ref (mAd X i0)), (1, .int x1)]) hx hb d_Pk_codeOf_1 rfl hl (by decide) rfl (fun ls hl => ?_)
  refine lv_iconst (v := 1) hx hb d_Pk_codeOf_2 rfl ?_
  refine lv_istore_n (lv' := [(3, .int (1 : Int32)), (2, .int (0 : Int32)), (0, .ref (mAd X i0)), (1, .int x1)]) hx hb d_Pk_codeOf_3 rfl hl (by decide) rfl (fun ls hl => ?_)
  exact tf_Pk_codeOf_4 hC  mFU _ _ _ _ _ _ _ _ o0 hI (lv_sub hl [2, 3, 1, 0] rfl) h
end
theorem d_ST_leastStateOf_0 : decode cc_ST_leastStateOf 0 = .ok (.iconst 0, 1) := by decide +kernel
theorem d_ST_leastStateOf_1 : decode cc_ST_leastStateOf 1 = .ok (.istore_n 2, 1) := by decide +kernel
theorem d_ST_leastStateOf_2 : decode cc_ST_leastStateOf 2 = .ok (.iload_n 2, 1) := by decide +kernel
theorem d_ST_leastStateOf_3 : decode cc_ST_leastStateOf 3 = .ok (.bipush (16), 2) := by decide +kernel
theorem d_ST_leastStateOf_5 : decode cc_ST_leastStateOf 5 = .ok (.if_icmp .ge (21), 3) := by decide +kernel
theorem d_ST_leastStateOf_8 : decode cc_ST_leastStateOf 8 = .ok (.aload_n 0, 1) := by decide +kernel
theorem d_ST_leastStateOf_9 : decode cc_ST_leastStateOf 9 = .ok (.getfield 9, 3) := by decide +kernel
theorem d_ST_leastStateOf_12 : decode cc_ST_leastStateOf 12 = .ok (.iload_n 2, 1) := by decide +kernel
theorem d_ST_leastStateOf_13 : decode cc_ST_leastStateOf 13 = .ok (.iaload, 1) := by decide +kernel
theorem d_ST_leastStateOf_14 : decode cc_ST_leastStateOf 14 = .ok (.iload_n 1, 1) := by decide +kernel
theorem d_ST_leastStateOf_15 : decode cc_ST_leastStateOf 15 = .ok (.if_icmp .ne (5), 3) := by decide +kernel
theorem d_ST_leastStateOf_18 : decode cc_ST_leastStateOf 18 = .ok (.iload_n 2, 1) := by decide +kernel
theorem d_ST_leastStateOf_19 : decode cc_ST_leastStateOf 19 = .ok (.ireturn, 1) := by decide +kernel
theorem d_ST_leastStateOf_20 : decode cc_ST_leastStateOf 20 = .ok (.iinc 2 (1), 3) := by decide +kernel
theorem d_ST_leastStateOf_23 : decode cc_ST_leastStateOf 23 = .ok (.goto (-21), 3) := by decide +kernel
theorem d_ST_leastStateOf_26 : decode cc_ST_leastStateOf 26 = .ok (.iconst 0, 1) := by decide +kernel
theorem d_ST_leastStateOf_27 : decode cc_ST_leastStateOf 27 = .ok (.ireturn, 1) := by decide +kernel
section
variable {p : Program} {l : Launch} {e : Env} {s : State} {m : MethodId} {args : Array Value} {below : List Frame} {meth : Method} {c : Code} {X : Xs} {L : La}
def b_ST_leastStateOf_2 (L : La) (k2 : Nat → Int32 → Int32 → Mem → Option (Int32 × Mem)) (i0 : Nat) (x1 : Int32) (x2 : Int32) (F : Mem) : Option (Int32 × Mem) :=
  if (16 : Int32) ≤ x2 then
    some ((0 : Int32), F)
  else
    if inb x2 (mGl L (mRf L i0 1)) then none else
    if (mGa L F (mRf L i0 1) x2.toNatClampNeg) = x1 then
      some (x2, F)
    else
      k2 i0 x1 (x2 + (1 : Int32)) F
set_option maxHeartbeats 4000000 in
theorem t_ST_leastStateOf_2 (hC : Cx X L p s m args meth c cc_ST_leastStateOf 3 w_ST_leastStateOf R_ST (some .int)) {k2 : Nat → Int32 → Int32 → Mem → Option (Int32 × Mem)} {out : (Int32 × Mem)} (hk2 : ∀ (i0 : Nat) (x1 : Int32) (x2 : Int32) (F : Mem) (H : Heap) (locs : List Loc) (ls : Array Slot), oO L 2 i0 → Iv X L s H locs F → lv_has ls 3 [(0, .ref (mAd X i0)), (1, .int x1), (2, .int x2)] → k2 i0 x1 x2 F = some out → W p l e (headSpec w_ST_leastStateOf r_ST_leastStateOf).room s m args below meth c H locs 0 0 (MQ below (QI X L out) args s 0 0 (AA X L)) (F0 m 2 ls [])) {i0 : Nat} {x1 : Int32} {x2 : Int32} {F : Mem} {H : Heap} {locs : List Loc} {ls : Array Slot} (o0 : oO L 2 i0) (hI : Iv X L s H locs F) (hl : lv_has ls 3 [(0, .ref (mAd X i0)), (1, .int x1), (2, .int x2)]) (h : b_ST_leastStateOf_2 L k2 i0 x1 x2 F = some out) : W p l e (headSpec w_ST_leastStateOf r_ST_leastStateOf).room s m args below meth c H locs 0 0 (MQ below (QI X L out) args s 0 0 (AA X L)) (F0 m 2 ls []) := by
  unfold b_ST_leastStateOf_2 at h
  obtain ⟨S, hK, hT, hW, hr, hlk⟩ := id hC
  have hx := S.1
  have hb := S.2.1
  refine lv_iload_n hx hb d_ST_leastStateOf_2 rfl (lv_at hl 2 rfl) ?_
  refine lv_bipush (v := 16) hx hb d_ST_leastStateOf_3 (by decide) ?_
  refine lv_icmp_ge (tgt := 26) hx hb d_ST_leastStateOf_5 rfl (fun hc => ?_) (fun hc => ?_)
  · replace h := (if_pos hc).symm.trans h
    refine lv_iconst (v := 0) hx hb d_ST_leastStateOf_26 rfl ?_
    exact w_iret S hK hr hlk hI d_ST_leastStateOf_27 h
  · replace h := (if_neg hc).symm.trans h
    refine lv_aload_n hx hb d_ST_leastStateOf_8 rfl (lv_at hl 0 rfl) ?_
    have p1 := wt_a hW o0 1 rfl (by decide) (by decide)
    refine w_getR (T := T_ST) S hK hI o0 rfl hin_ST 1 (index := 9) (by decide) lf_ST_9 d_ST_leastStateOf_9 ?_
    refine lv_iload_n hx hb d_ST_leastStateOf_12 rfl (lv_at hl 2 rfl) ?_
    obtain ⟨z2, h⟩ := un_if h
    refine w_iald S hK hI hT p1 z2 d_ST_leastStateOf_13 ?_
    refine lv_iload_n hx hb d_ST_leastStateOf_14 rfl (lv_at hl 1 rfl) ?_
    refine lv_icmp_ne (tgt := 20) hx hb d_ST_leastStateOf_15 rfl (fun hc => ?_) (fun hc => ?_)
    · replace h := (if_neg hc).symm.trans h
      refine lv_iinc (k := 2) (v := x2 + (1 : Int32)) (lv' := [(2, .int (x2 + (1 : Int32))), (0, .ref (mAd X i0)), (1, .int x1)]) hx hb d_ST_leastStateOf_20 hl rfl rfl (by decide) rfl (fun ls hl => ?_)
      refine lv_goto (tgt := 2) hx hb d_ST_leastStateOf_23 rfl ?_
      exact hk2 _ _ _ _ _ _ _ o0 hI (lv_sub hl [1, 2, 0] rfl) h
    · replace h := (if_pos hc).symm.trans h
      refine lv_iload_n hx hb d_ST_leastStateOf_18 rfl (lv_at hl 2 rfl) ?_
      exact w_iret S hK hr hlk hI d_ST_leastStateOf_19 h
def f_ST_leastStateOf_2 (L : La)  : Nat → Nat → Int32 → Int32 → Mem → Option (Int32 × Mem)
  | 0 => fun _ _ _ _ => none
  | n + 1 => b_ST_leastStateOf_2 L (f_ST_leastStateOf_2 L  n)
theorem tf_ST_leastStateOf_2 (hC : Cx X L p s m args meth c cc_ST_leastStateOf 3 w_ST_leastStateOf R_ST (some .int))  {out : (Int32 × Mem)}  (n : Nat) : ∀ (i0 : Nat) (x1 : Int32) (x2 : Int32) (F : Mem) (H : Heap) (locs : List Loc) (ls : Array Slot), oO L 2 i0 → Iv X L s H locs F → lv_has ls 3 [(0, .ref (mAd X i0)), (1, .int x1), (2, .int x2)] → f_ST_leastStateOf_2 L  n i0 x1 x2 F = some out → W p l e (headSpec w_ST_leastStateOf r_ST_leastStateOf).room s m args below meth c H locs 0 0 (MQ below (QI X L out) args s 0 0 (AA X L)) (F0 m 2 ls []) := by
  induction n with
  | zero => intro i0 x1 x2 F H locs ls o0 hI hl h; cases h
  | succ n ih => intro i0 x1 x2 F H locs ls o0 hI hl h; exact t_ST_leastStateOf_2 hC ih o0 hI hl h
def f_ST_leastStateOf (L : La) (i0 : Nat) (x1 : Int32) (F : Mem) : Option (Int32 × Mem) :=
  f_ST_leastStateOf_2 L  mFU i0 x1 (0 : Int32) F
set_option maxHeartbeats 4000000 in
theorem c_ST_leastStateOf (l : Launch) {X : Xs} {L : La} (hW : WT L) {out : (Int32 × Mem)} {i0 : Nat} {x1 : Int32} {F : Mem} (o0 : oO L 2 i0) (h : f_ST_leastStateOf L i0 x1 F = some out) : Met l y_ST_leastStateOf w_ST_leastStateOf r_ST_leastStateOf (va_Pc [.ref (mAd X i0), .int x1] (Pr X L F)) (QI X L out) 0 0 (AA X L) := by
  refine mk_met (by decide) rfl (Nat.le_of_ble_eq_true rfl) hW ?_
  intro p e s m args below meth c ls hC hI hl
  have hl : lv_has ls 3 [(0, .ref (mAd X i0)), (1, .int x1)] := hl
  generalize hHe : s.heap = H at hI ⊢
  generalize ([] : List Loc) = locs at hI ⊢
  unfold f_ST_leastStateOf at h
  obtain ⟨S, hK, hT, hW, hr, hlk⟩ := id hC
  have hx := S.1
  have hb := S.2.1
  refine lv_iconst (v := 0) hx hb d_ST_leastStateOf_0 rfl ?_
  refine lv_istore_n (lv' := [(2, .int (0 : Int32)), (0, .ref (mAd X i0)), (1, .int x1)]) hx hb d_ST_leastStateOf_1 rfl hl (by decide) rfl (fun ls hl => ?_)
  exact tf_ST_leastStateOf_2 hC  mFU _ _ _ _ _ _ _ o0 hI (lv_sub hl [1, 2, 0] rfl) h
end
theorem d_ST_stateBefore_0 : decode cc_ST_stateBefore 0 = .ok (.iconst 0, 1) := by decide +kernel
theorem d_ST_stateBefore_1 : decode cc_ST_stateBefore 1 = .ok (.istore_n 3, 1) := by decide +kernel
theorem d_ST_stateBefore_2 : decode cc_ST_stateBefore 2 = .ok (.iload_n 3, 1) := by decide +kernel
theorem d_ST_stateBefore_3 : decode cc_ST_stateBefore 3 = .ok (.bipush (16), 2) := by decide +kernel
theorem d_ST_stateBefore_5 : decode cc_ST_stateBefore 5 = .ok (.if_icmp .ge (50), 3) := by decide +kernel
theorem d_ST_stateBefore_8 : decode cc_ST_stateBefore 8 = .ok (.aload_n 0, 1) := by decide +kernel
theorem d_ST_stateBefore_9 : decode cc_ST_stateBefore 9 = .ok (.getfield 9, 3) := by decide +kernel
theorem d_ST_stateBefore_12 : decode cc_ST_stateBefore 12 = .ok (.iload_n 3, 1) := by decide +kernel
theorem d_ST_stateBefore_13 : decode cc_ST_stateBefore 13 = .ok (.iaload, 1) := by decide +kernel
theorem d_ST_stateBefore_14 : decode cc_ST_stateBefore 14 = .ok (.iload_n 1, 1) := by decide +kernel
theorem d_ST_stateBefore_15 : decode cc_ST_stateBefore 15 = .ok (.if_icmp .ne (34), 3) := by decide +kernel
theorem d_ST_stateBefore_18 : decode cc_ST_stateBefore 18 = .ok (.iload_n 2, 1) := by decide +kernel
theorem d_ST_stateBefore_19 : decode cc_ST_stateBefore 19 = .ok (.aload_n 0, 1) := by decide +kernel
theorem d_ST_stateBefore_20 : decode cc_ST_stateBefore 20 = .ok (.getfield 18, 3) := by decide +kernel
theorem d_ST_stateBefore_23 : decode cc_ST_stateBefore 23 = .ok (.iload_n 3, 1) := by decide +kernel
theorem d_ST_stateBefore_24 : decode cc_ST_stateBefore 24 = .ok (.iaload, 1) := by decide +kernel
theorem d_ST_stateBefore_25 : decode cc_ST_stateBefore 25 = .ok (.if_icmp .lt (24), 3) := by decide +kernel
theorem d_ST_stateBefore_28 : decode cc_ST_stateBefore 28 = .ok (.iload_n 2, 1) := by decide +kernel
theorem d_ST_stateBefore_29 : decode cc_ST_stateBefore 29 = .ok (.aload_n 0, 1) := by decide +kernel
theorem d_ST_stateBefore_30 : decode cc_ST_stateBefore 30 = .ok (.getfield 18, 3) := by decide +kernel
theorem d_ST_stateBefore_33 : decode cc_ST_stateBefore 33 = .ok (.iload_n 3, 1) := by decide +kernel
theorem d_ST_stateBefore_34 : decode cc_ST_stateBefore 34 = .ok (.iaload, 1) := by decide +kernel
theorem d_ST_stateBefore_35 : decode cc_ST_stateBefore 35 = .ok (.iconst 1, 1) := by decide +kernel
theorem d_ST_stateBefore_36 : decode cc_ST_stateBefore 36 = .ok (.aload_n 0, 1) := by decide +kernel
theorem d_ST_stateBefore_37 : decode cc_ST_stateBefore 37 = .ok (.getfield 15, 3) := by decide +kernel
theorem d_ST_stateBefore_40 : decode cc_ST_stateBefore 40 = .ok (.iload_n 3, 1) := by decide +kernel
theorem d_ST_stateBefore_41 : decode cc_ST_stateBefore 41 = .ok (.iaload, 1) := by decide +kernel
theorem d_ST_stateBefore_42 : decode cc_ST_stateBefore 42 = .ok (.ishl, 1) := by decide +kernel
theorem d_ST_stateBefore_43 : decode cc_ST_stateBefore 43 = .ok (.iadd, 1) := by decide +kernel
theorem d_ST_stateBefore_44 : decode cc_ST_stateBefore 44 = .ok (.if_icmp .ge (5), 3) := by decide +kernel
theorem d_ST_stateBefore_47 : decode cc_ST_stateBefore 47 = .ok (.iload_n 3, 1) := by decide +kernel
theorem d_ST_stateBefore_48 : decode cc_ST_stateBefore 48 = .ok (.ireturn, 1) := by decide +kernel
theorem d_ST_stateBefore_49 : decode cc_ST_stateBefore 49 = .ok (.iinc 3 (1), 3) := by decide +kernel
theorem d_ST_stateBefore_52 : decode cc_ST_stateBefore 52 = .ok (.goto (-50), 3) := by decide +kernel
theorem d_ST_stateBefore_55 : decode cc_ST_stateBefore 55 = .ok (.iconst 0, 1) := by decide +kernel
theorem d_ST_stateBefore_56 : decode cc_ST_stateBefore 56 = .ok (.ireturn, 1) := by decide +kernel
section
variable {p : Program} {l : Launch} {e : Env} {s : State} {m : MethodId} {args : Array Value} {below : List Frame} {meth : Method} {c : Code} {X : Xs} {L : La}
def b_ST_stateBefore_49 (L : La) (k2 : Nat → Int32 → Int32 → Int32 → Mem → Option (Int32 × Mem)) (i0 : Nat) (x1 : Int32) (x2 : Int32) (x3 : Int32) (F : Mem) : Option (Int32 × Mem) :=
  k2 i0 x1 x2 (x3 + (1 : Int32)) F
set_option maxHeartbeats 4000000 in
theorem t_ST_stateBefore_49 (hC : Cx X L p s m args meth c cc_ST_stateBefore 4 w_ST_stateBefore R_ST (some .int)) {k2 : Nat → Int32 → Int32 → Int32 → Mem → Option (Int32 × Mem)} {out : (Int32 × Mem)} (hk2 : ∀ (i0 : Nat) (x1 : Int32) (x2 : Int32) (x3 : Int32) (F : Mem) (H : Heap) (locs : List Loc) (ls : Array Slot), oO L 2 i0 → Iv X L s H locs F → lv_has ls 4 [(0, .ref (mAd X i0)), (1, .int x1), (2, .int x2), (3, .int x3)] → k2 i0 x1 x2 x3 F = some out → W p l e (headSpec w_ST_stateBefore r_ST_stateBefore).room s m args below meth c H locs 0 0 (MQ below (QI X L out) args s 0 0 (AA X L)) (F0 m 2 ls [])) {i0 : Nat} {x1 : Int32} {x2 : Int32} {x3 : Int32} {F : Mem} {H : Heap} {locs : List Loc} {ls : Array Slot} (o0 : oO L 2 i0) (hI : Iv X L s H locs F) (hl : lv_has ls 4 [(0, .ref (mAd X i0)), (1, .int x1), (2, .int x2), (3, .int x3)]) (h : b_ST_stateBefore_49 L k2 i0 x1 x2 x3 F = some out) : W p l e (headSpec w_ST_stateBefore r_ST_stateBefore).room s m args below meth c H locs 0 0 (MQ below (QI X L out) args s 0 0 (AA X L)) (F0 m 49 ls []) := by
  unfold b_ST_stateBefore_49 at h
  obtain ⟨S, hK, hT, hW, hr, hlk⟩ := id hC
  have hx := S.1
  have hb := S.2.1
  refine lv_iinc (k := 3) (v := x3 + (1 : Int32)) (lv' := [(3, .int (x3 + (1 : Int32))), (0, .ref (mAd X i0)), (1, .int x1), (2, .int x2)]) hx hb d_ST_stateBefore_49 hl rfl rfl (by decide) rfl (fun ls hl => ?_)
  refine lv_goto (tgt := 2) hx hb d_ST_stateBefore_52 rfl ?_
  exact hk2 _ _ _ _ _ _ _ _ o0 hI (lv_sub hl [1, 2, 3, 0] rfl) h
def b_ST_stateBefore_2 (L : La) (k2 : Nat → Int32 → Int32 → Int32 → Mem → Option (Int32 × Mem)) (i0 : Nat) (x1 : Int32) (x2 : Int32) (x3 : Int32) (F : Mem) : Option (Int32 × Mem) :=
  if (16 : Int32) ≤ x3 then
    some ((0 : Int32), F)
  else
    if inb x3 (mGl L (mRf L i0 1)) then none else
    if (mGa L F (mRf L i0 1) x3.toNatClampNeg) = x1 then
      if inb x3 (mGl L (mRf L i0 3)) then none else
      if x2 < (mGa L F (mRf L i0 3) x3.toNatClampNeg) then
        b_ST_stateBefore_49 L k2 i0 x1 x2 x3 F
      else
        if inb x3 (mGl L (mRf L i0 3)) then none else
        if inb x3 (mGl L (mRf L i0 2)) then none else
        if ((mGa L F (mRf L i0 3) x3.toNatClampNeg) + (jshl (1 : Int32) (mGa L F (mRf L i0 2) x3.toNatClampNeg))) ≤ x2 then
          b_ST_stateBefore_49 L k2 i0 x1 x2 x3 F
        else
          some (x3, F)
    else
      b_ST_stateBefore_49 L k2 i0 x1 x2 x3 F
set_option maxHeartbeats 4000000 in
theorem t_ST_stateBefore_2 (hC : Cx X L p s m args meth c cc_ST_stateBefore 4 w_ST_stateBefore R_ST (some .int)) {k2 : Nat → Int32 → Int32 → Int32 → Mem → Option (Int32 × Mem)} {out : (Int32 × Mem)} (hk2 : ∀ (i0 : Nat) (x1 : Int32) (x2 : Int32) (x3 : Int32) (F : Mem) (H : Heap) (locs : List Loc) (ls : Array Slot), oO L 2 i0 → Iv X L s H locs F → lv_has ls 4 [(0, .ref (mAd X i0)), (1, .int x1), (2, .int x2), (3, .int x3)] → k2 i0 x1 x2 x3 F = some out → W p l e (headSpec w_ST_stateBefore r_ST_stateBefore).room s m args below meth c H locs 0 0 (MQ below (QI X L out) args s 0 0 (AA X L)) (F0 m 2 ls [])) {i0 : Nat} {x1 : Int32} {x2 : Int32} {x3 : Int32} {F : Mem} {H : Heap} {locs : List Loc} {ls : Array Slot} (o0 : oO L 2 i0) (hI : Iv X L s H locs F) (hl : lv_has ls 4 [(0, .ref (mAd X i0)), (1, .int x1), (2, .int x2), (3, .int x3)]) (h : b_ST_stateBefore_2 L k2 i0 x1 x2 x3 F = some out) : W p l e (headSpec w_ST_stateBefore r_ST_stateBefore).room s m args below meth c H locs 0 0 (MQ below (QI X L out) args s 0 0 (AA X L)) (F0 m 2 ls []) := by
  unfold b_ST_stateBefore_2 at h
  obtain ⟨S, hK, hT, hW, hr, hlk⟩ := id hC
  have hx := S.1
  have hb := S.2.1
  refine lv_iload_n hx hb d_ST_stateBefore_2 rfl (lv_at hl 3 rfl) ?_
  refine lv_bipush (v := 16) hx hb d_ST_stateBefore_3 (by decide) ?_
  refine lv_icmp_ge (tgt := 55) hx hb d_ST_stateBefore_5 rfl (fun hc => ?_) (fun hc => ?_)
  · replace h := (if_pos hc).symm.trans h
    refine lv_iconst (v := 0) hx hb d_ST_stateBefore_55 rfl ?_
    exact w_iret S hK hr hlk hI d_ST_stateBefore_56 h
  · replace h := (if_neg hc).symm.trans h
    refine lv_aload_n hx hb d_ST_stateBefore_8 rfl (lv_at hl 0 rfl) ?_
    have p1 := wt_a hW o0 1 rfl (by decide) (by decide)
    refine w_getR (T := T_ST) S hK hI o0 rfl hin_ST 1 (index := 9) (by decide) lf_ST_9 d_ST_stateBefore_9 ?_
    refine lv_iload_n hx hb d_ST_stateBefore_12 rfl (lv_at hl 3 rfl) ?_
    obtain ⟨z2, h⟩ := un_if h
    refine w_iald S hK hI hT p1 z2 d_ST_stateBefore_13 ?_
    refine lv_iload_n hx hb d_ST_stateBefore_14 rfl (lv_at hl 1 rfl) ?_
    refine lv_icmp_ne (tgt := 49) hx hb d_ST_stateBefore_15 rfl (fun hc => ?_) (fun hc => ?_)
    · replace h := (if_neg hc).symm.trans h
      exact t_ST_stateBefore_49 hC hk2 o0 hI hl h
    · replace h := (if_pos hc).symm.trans h
      refine lv_iload_n hx hb d_ST_stateBefore_18 rfl (lv_at hl 2 rfl) ?_
      refine lv_aload_n hx hb d_ST_stateBefore_19 rfl (lv_at hl 0 rfl) ?_
      have p3 := wt_a hW o0 3 rfl (by decide) (by decide)
      refine w_getR (T := T_ST) S hK hI o0 rfl hin_ST 3 (index := 18) (by decide) lf_ST_18 d_ST_stateBefore_20 ?_
      refine lv_iload_n hx hb d_ST_stateBefore_23 rfl (lv_at hl 3 rfl) ?_
      obtain ⟨z4, h⟩ := un_if h
      refine w_iald S hK hI hT p3 z4 d_ST_stateBefore_24 ?_
      refine lv_icmp_lt (tgt := 49) hx hb d_ST_stateBefore_25 rfl (fun hc => ?_) (fun hc => ?_)
      · replace h := (if_pos hc).symm.trans h
        exact t_ST_stateBefore_49 hC hk2 o0 hI hl h
      · replace h := (if_neg hc).symm.trans h
        refine lv_iload_n hx hb d_ST_stateBefore_28 rfl (lv_at hl 2 rfl) ?_
        refine lv_aload_n hx hb d_ST_stateBefore_29 rfl (lv_at hl 0 rfl) ?_
        have p5 := wt_a hW o0 3 rfl (by decide) (by decide)
        refine w_getR (T := T_ST) S hK hI o0 rfl hin_ST 3 (index := 18) (by decide) lf_ST_18 d_ST_stateBefore_30 ?_
        refine lv_iload_n hx hb d_ST_stateBefore_33 rfl (lv_at hl 3 rfl) ?_
        obtain ⟨z6, h⟩ := un_if h
        refine w_iald S hK hI hT p5 z6 d_ST_stateBefore_34 ?_
        refine lv_iconst (v := 1) hx hb d_ST_stateBefore_35 rfl ?_
        refine lv_aload_n hx hb d_ST_stateBefore_36 rfl (lv_at hl 0 rfl) ?_
        have p7 := wt_a hW o0 2 rfl (by decide) (by decide)
        refine w_getR (T := T_ST) S hK hI o0 rfl hin_ST 2 (index := 15) (by decide) lf_ST_15 d_ST_stateBefore_37 ?_
        refine lv_iload_n hx hb d_ST_stateBefore_40 rfl (lv_at hl 3 rfl) ?_
        obtain ⟨z8, h⟩ := un_if h
        refine w_iald S hK hI hT p7 z8 d_ST_stateBefore_41 ?_
        refine lv_ishl hx hb d_ST_stateBefore_42 ?_
        refine lv_iadd hx hb d_ST_stateBefore_43 ?_
        refine lv_icmp_ge (tgt := 49) hx hb d_ST_stateBefore_44 rfl (fun hc => ?_) (fun hc => ?_)
        · replace h := (if_pos hc).symm.trans h
          exact t_ST_stateBefore_49 hC hk2 o0 hI hl h
        · replace h := (if_neg hc).symm.trans h
          refine lv_iload_n hx hb d_ST_stateBefore_47 rfl (lv_at hl 3 rfl) ?_
          exact w_iret S hK hr hlk hI d_ST_stateBefore_48 h
def f_ST_stateBefore_2 (L : La)  : Nat → Nat → Int32 → Int32 → Int32 → Mem → Option (Int32 × Mem)
  | 0 => fun _ _ _ _ _ => none
  | n + 1 => b_ST_stateBefore_2 L (f_ST_stateBefore_2 L  n)
theorem tf_ST_stateBefore_2 (hC : Cx X L p s m args meth c cc_ST_stateBefore 4 w_ST_stateBefore R_ST (some .int))  {out : (Int32 × Mem)}  (n : Nat) : ∀ (i0 : Nat) (x1 : Int32) (x2 : Int32) (x3 : Int32) (F : Mem) (H : Heap) (locs : List Loc) (ls : Array Slot), oO L 2 i0 → Iv X L s H locs F → lv_has ls 4 [(0, .ref (mAd X i0)), (1, .int x1), (2, .int x2), (3, .int x3)] → f_ST_stateBefore_2 L  n i0 x1 x2 x3 F = some out → W p l e (headSpec w_ST_stateBefore r_ST_stateBefore).room s m args below meth c H locs 0 0 (MQ below (QI X L out) args s 0 0 (AA X L)) (F0 m 2 ls []) := by
  induction n with
  | zero => intro i0 x1 x2 x3 F H locs ls o0 hI hl h; cases h
  | succ n ih => intro i0 x1 x2 x3 F H locs ls o0 hI hl h; exact t_ST_stateBefore_2 hC ih o0 hI hl h
def f_ST_stateBefore (L : La) (i0 : Nat) (x1 : Int32) (x2 : Int32) (F : Mem) : Option (Int32 × Mem) :=
  f_ST_stateBefore_2 L  mFU i0 x1 x2 (0 : Int32) F
set_option maxHeartbeats 4000000 in
theorem c_ST_stateBefore (l : Launch) {X : Xs} {L : La} (hW : WT L) {out : (Int32 × Mem)} {i0 : Nat} {x1 : Int32} {x2 : Int32} {F : Mem} (o0 : oO L 2 i0) (h : f_ST_stateBefore L i0 x1 x2 F = some out) : Met l y_ST_stateBefore w_ST_stateBefore r_ST_stateBefore (va_Pc [.ref (mAd X i0), .int x1, .int x2] (Pr X L F)) (QI X L out) 0 0 (AA X L) := by
  refine mk_met (by decide) rfl (Nat.le_of_ble_eq_true rfl) hW ?_
  intro p e s m args below meth c ls hC hI hl
  have hl : lv_has ls 4 [(0, .ref (mAd X i0)), (1, .int x1), (2, .int x2)] := hl
  generalize hHe : s.heap = H at hI ⊢
  generalize ([] : List Loc) = locs at hI ⊢
  unfold f_ST_stateBefore at h
  obtain ⟨S, hK, hT, hW, hr, hlk⟩ := id hC
  have hx := S.1
  have hb := S.2.1
  refine lv_iconst (v := 0) hx hb d_ST_stateBefore_0 rfl ?_
  refine lv_istore_n (lv' := [(3, .int (0 : Int32)), (0, .ref (mAd X i0)), (1, .int x1), (2, .int x2)]) hx hb d_ST_stateBefore_1 rfl hl (by decide) rfl (fun ls hl => ?_)
  exact tf_ST_stateBefore_2 hC  mFU _ _ _ _ _ _ _ _ o0 hI (lv_sub hl [1, 2, 3, 0] rfl) h
end
theorem d_Pk_chooseState_0 : decode cc_Pk_chooseState 0 = .ok (.iload 4, 2) := by decide +kernel
theorem d_Pk_chooseState_2 : decode cc_Pk_chooseState 2 = .ok (.aload_n 0, 1) := by decide +kernel
theorem d_Pk_chooseState_3 : decode cc_Pk_chooseState 3 = .ok (.getfield 66, 3) := by decide +kernel
theorem d_Pk_chooseState_6 : decode cc_Pk_chooseState 6 = .ok (.getfield 162, 3) := by decide +kernel
theorem d_Pk_chooseState_9 : decode cc_Pk_chooseState 9 = .ok (.iconst 1, 1) := by decide +kernel
theorem d_Pk_chooseState_10 : decode cc_Pk_chooseState 10 = .ok (.isub, 1) := by decide +kernel
theorem d_Pk_chooseState_11 : decode cc_Pk_chooseState 11 = .ok (.if_icmp .ne (15), 3) := by decide +kernel
theorem d_Pk_chooseState_14 : decode cc_Pk_chooseState 14 = .ok (.aload_n 3, 1) := by decide +kernel
theorem d_Pk_chooseState_15 : decode cc_Pk_chooseState 15 = .ok (.iload 4, 2) := by decide +kernel
theorem d_Pk_chooseState_17 : decode cc_Pk_chooseState 17 = .ok (.aload_n 1, 1) := by decide +kernel
theorem d_Pk_chooseState_18 : decode cc_Pk_chooseState 18 = .ok (.iload_n 2, 1) := by decide +kernel
theorem d_Pk_chooseState_19 : decode cc_Pk_chooseState 19 = .ok (.invokevirtual 205, 3) := by decide +kernel
theorem d_Pk_chooseState_22 : decode cc_Pk_chooseState 22 = .ok (.iastore, 1) := by decide +kernel
theorem d_Pk_chooseState_23 : decode cc_Pk_chooseState 23 = .ok (.goto (18), 3) := by decide +kernel
theorem d_Pk_chooseState_26 : decode cc_Pk_chooseState 26 = .ok (.aload_n 3, 1) := by decide +kernel
theorem d_Pk_chooseState_27 : decode cc_Pk_chooseState 27 = .ok (.iload 4, 2) := by decide +kernel
theorem d_Pk_chooseState_29 : decode cc_Pk_chooseState 29 = .ok (.aload_n 1, 1) := by decide +kernel
theorem d_Pk_chooseState_30 : decode cc_Pk_chooseState 30 = .ok (.iload_n 2, 1) := by decide +kernel
theorem d_Pk_chooseState_31 : decode cc_Pk_chooseState 31 = .ok (.aload_n 3, 1) := by decide +kernel
theorem d_Pk_chooseState_32 : decode cc_Pk_chooseState 32 = .ok (.iload 4, 2) := by decide +kernel
theorem d_Pk_chooseState_34 : decode cc_Pk_chooseState 34 = .ok (.iconst 1, 1) := by decide +kernel
theorem d_Pk_chooseState_35 : decode cc_Pk_chooseState 35 = .ok (.iadd, 1) := by decide +kernel
theorem d_Pk_chooseState_36 : decode cc_Pk_chooseState 36 = .ok (.iaload, 1) := by decide +kernel
theorem d_Pk_chooseState_37 : decode cc_Pk_chooseState 37 = .ok (.invokevirtual 210, 3) := by decide +kernel
theorem d_Pk_chooseState_40 : decode cc_Pk_chooseState 40 = .ok (.iastore, 1) := by decide +kernel
theorem d_Pk_chooseState_41 : decode cc_Pk_chooseState 41 = .ok (.return_, 1) := by decide +kernel
section
variable {p : Program} {l : Launch} {e : Env} {s : State} {m : MethodId} {args : Array Value} {below : List Frame} {meth : Method} {c : Code} {X : Xs} {L : La}
def b_Pk_chooseState_41 (L : La)   (F : Mem) : Option Mem :=
  some F
set_option maxHeartbeats 4000000 in
theorem t_Pk_chooseState_41 (hC : Cx X L p s m args meth c cc_Pk_chooseState 5 w_Pk_chooseState R_Pk none)  {out : Mem}   {F : Mem} {H : Heap} {locs : List Loc} {ls : Array Slot}  (hI : Iv X L s H locs F) (hl : lv_has ls 5 []) (h : b_Pk_chooseState_41 L   F = some out) : W p l e (headSpec w_Pk_chooseState r_Pk_chooseState).room s m args below meth c H locs 0 0 (MQ below (QV X L out) args s 0 0 (AA X L)) (F0 m 41 ls []) := by
  unfold b_Pk_chooseState_41 at h
  obtain ⟨S, hK, hT, hW, hr, hlk⟩ := id hC
  have hx := S.1
  have hb := S.2.1
  exact w_vret S hK hr hlk hI d_Pk_chooseState_41 h
def f_Pk_chooseState (L : La) (i0 : Nat) (i1 : Nat) (x2 : Int32) (i3 : Nat) (x4 : Int32) (F : Mem) : Option Mem :=
  if x4 = ((F (mRf L i0 1) 6) - (1 : Int32)) then
    (f_ST_leastStateOf L i1 x2 F).bind fun q8 =>
    if inb x4 (mLn L i3) ∨ ¬ i3 < mNc L then none else
    lt' (u2 q8.2 i3 x4.toNatClampNeg q8.1) fun F11 =>
    b_Pk_chooseState_41 L   F11
  else
    if inb (x4 + (1 : Int32)) (mGl L i3) then none else
    (f_ST_stateBefore L i1 x2 (mGa L F i3 (x4 + (1 : Int32)).toNatClampNeg) F).bind fun q3 =>
    if inb x4 (mLn L i3) ∨ ¬ i3 < mNc L then none else
    lt' (u2 q3.2 i3 x4.toNatClampNeg q3.1) fun F6 =>
    b_Pk_chooseState_41 L   F6
set_option maxHeartbeats 4000000 in
theorem c_Pk_chooseState (l : Launch) {X : Xs} {L : La} (hW : WT L) {out : Mem} {i0 : Nat} {i1 : Nat} {x2 : Int32} {i3 : Nat} {x4 : Int32} {F : Mem} (o0 : oO L 11 i0) (o1 : oO L 2 i1) (o3 : oA L i3) (h : f_Pk_chooseState L i0 i1 x2 i3 x4 F = some out) : Met l y_Pk_chooseState w_Pk_chooseState r_Pk_chooseState (va_Pc [.ref (mAd X i0), .ref (mAd X i1), .int x2, .ref (mAd X i3), .int x4] (Pr X L F)) (QV X L out) 0 0 (AA X L) := by
  refine mk_met (by decide) rfl (Nat.le_of_ble_eq_true rfl) hW ?_
  intro p e s m args below meth c ls hC hI hl
  have hl : lv_has ls 5 [(0, .ref (mAd X i0)), (1, .ref (mAd X i1)), (2, .int x2), (3, .ref (mAd X i3)), (4, .int x4)] := hl
  generalize hHe : s.heap = H at hI ⊢
  generalize ([] : List Loc) = locs at hI ⊢
  unfold f_Pk_chooseState at h
  obtain ⟨S, hK, hT, hW, hr, hlk⟩ := id hC
  have hx := S.1
  have hb := S.2.1
  refine lv_iload hx hb d_Pk_chooseState_0 (lv_at hl 4 rfl) ?_
  refine lv_aload_n hx hb d_Pk_chooseState_2 rfl (lv_at hl 0 rfl) ?_
  have p1 := wt_o hW o0 1 10 rfl (by decide) (by decide) (by decide)
  refine w_getR (T := T_Pk) S hK hI o0 rfl hin_Pk 1 (index := 66) (by decide) lf_Pk_66 d_Pk_chooseState_3 ?_
  refine w_getI (T := T_Mf) S hK hI p1 rfl hin_Mf 6 (index := 162) (by decide) lf_Pk_162 d_Pk_chooseState_6 ?_
  refine lv_iconst (v := 1) hx hb d_Pk_chooseState_9 rfl ?_
  refine lv_isub hx hb d_Pk_chooseState_10 ?_
  refine lv_icmp_ne (tgt := 26) hx hb d_Pk_chooseState_11 rfl (fun hc => ?_) (fun hc => ?_)
  · replace h := (if_neg hc).symm.trans h
    refine lv_aload_n hx hb d_Pk_chooseState_26 rfl (lv_at hl 3 rfl) ?_
    refine lv_iload hx hb d_Pk_chooseState_27 (lv_at hl 4 rfl) ?_
    refine lv_aload_n hx hb d_Pk_chooseState_29 rfl (lv_at hl 1 rfl) ?_
    refine lv_iload_n hx hb d_Pk_chooseState_30 rfl (lv_at hl 2 rfl) ?_
    refine lv_aload_n hx hb d_Pk_chooseState_31 rfl (lv_at hl 3 rfl) ?_
    refine lv_iload hx hb d_Pk_chooseState_32 (lv_at hl 4 rfl) ?_
    refine lv_iconst (v := 1) hx hb d_Pk_chooseState_34 rfl ?_
    refine lv_iadd hx hb d_Pk_chooseState_35 ?_
    obtain ⟨z2, h⟩ := un_if h
    refine w_iald S hK hI hT o3 z2 d_Pk_chooseState_36 ?_
    obtain ⟨q3, e4, h⟩ := un_bi h
    refine w_callVi (As := [.int x2, .int (mGa L F i3 (x4 + (1 : Int32)).toNatClampNeg)]) (rest := [.int x4, .ref (mAd X i3)]) S hK hI hT (c_ST_stateBefore l hW o1 e4) (cwV 2 S.2.2.2.2 (gd_V lc_ST_stateBefore lm_Pk_210 li_ST_stateBefore ls_ST_stateBefore ln_ST) rfl rfl rfl hd_ST_stateBefore ⟨Nat.le_of_ble_eq_true rfl, Nat.le_of_ble_eq_true rfl⟩) o1 rfl (by decide) rfl rfl hl.1 (Nat.le_of_ble_eq_true rfl) d_Pk_chooseState_37 ⟨Nat.zero_le _, Nat.zero_le _⟩ (fun H locs hI => ?_)
    obtain ⟨z5, h⟩ := un_if h
    refine w_iast S hK hI o3 z5 d_Pk_chooseState_40 (fun H locs F6 e7 hI => ?_)
    replace h := un_lt h _ e7
    exact t_Pk_chooseState_41 hC   hI (lv_sub hl [] rfl) h
  · replace h := (if_pos hc).symm.trans h
    refine lv_aload_n hx hb d_Pk_chooseState_14 rfl (lv_at hl 3 rfl) ?_
    refine lv_iload hx hb d_Pk_chooseState_15 (lv_at hl 4 rfl) ?_
    refine lv_aload_n hx hb d_Pk_chooseState_17 rfl (lv_at hl 1 rfl) ?_
    refine lv_iload_n hx hb d_Pk_chooseState_18 rfl (lv_at hl 2 rfl) ?_
    obtain ⟨q8, e9, h⟩ := un_bi h
    refine w_callVi (As := [.int x2]) (rest := [.int x4, .ref (mAd X i3)]) S hK hI hT (c_ST_leastStateOf l hW o1 e9) (cwV 1 S.2.2.2.2 (gd_V lc_ST_leastStateOf lm_Pk_205 li_ST_leastStateOf ls_ST_leastStateOf ln_ST) rfl rfl rfl hd_ST_leastStateOf ⟨Nat.le_of_ble_eq_true rfl, Nat.le_of_ble_eq_true rfl⟩) o1 rfl (by decide) rfl rfl hl.1 (Nat.le_of_ble_eq_true rfl) d_Pk_chooseState_19 ⟨Nat.zero_le _, Nat.zero_le _⟩ (fun H locs hI => ?_)
    obtain ⟨z10, h⟩ := un_if h
    refine w_iast S hK hI o3 z10 d_Pk_chooseState_22 (fun H locs F11 e12 hI => ?_)
    replace h := un_lt h _ e12
    refine lv_goto (tgt := 41) hx hb d_Pk_chooseState_23 rfl ?_
    exact t_Pk_chooseState_41 hC   hI (lv_sub hl [] rfl) h
end
theorem d_Pk_wayCodeOf_0 : decode cc_Pk_wayCodeOf 0 = .ok (.bipush (31), 2) := by decide +kernel
theorem d_Pk_wayCodeOf_2 : decode cc_Pk_wayCodeOf 2 = .ok (.iload_n 0, 1) := by decide +kernel
theorem d_Pk_wayCodeOf_3 : decode cc_Pk_wayCodeOf 3 = .ok (.invokestatic 225, 3) := by decide +kernel
theorem d_Pk_wayCodeOf_6 : decode cc_Pk_wayCodeOf 6 = .ok (.isub, 1) := by decide +kernel
theorem d_Pk_wayCodeOf_7 : decode cc_Pk_wayCodeOf 7 = .ok (.ireturn, 1) := by decide +kernel
section
variable {p : Program} {l : Launch} {e : Env} {s : State} {m : MethodId} {args : Array Value} {below : List Frame} {meth : Method} {c : Code} {X : Xs} {L : La}
def f_Pk_wayCodeOf (L : La) (x0 : Int32) (F : Mem) : Option (Int32 × Mem) :=
  (f_Int_numberOfLeadingZeros L x0 F).bind fun q1 =>
  some ((31 : Int32) - q1.1, q1.2)
set_option maxHeartbeats 4000000 in
theorem c_Pk_wayCodeOf (l : Launch) {X : Xs} {L : La} (hW : WT L) {out : (Int32 × Mem)} {x0 : Int32} {F : Mem}  (h : f_Pk_wayCodeOf L x0 F = some out) : Met l y_Pk_wayCodeOf w_Pk_wayCodeOf r_Pk_wayCodeOf (va_Pc [.int x0] (Pr X L F)) (QI X L out) 0 0 (AA X L) := by
  refine mk_met (by decide) rfl (Nat.le_of_ble_eq_true rfl) hW ?_
  intro p e s m args below meth c ls hC hI hl
  have hl : lv_has ls 1 [(0, .int x0)] := hl
  generalize hHe : s.heap = H at hI ⊢
  generalize ([] : List Loc) = locs at hI ⊢
  unfold f_Pk_wayCodeOf at h
  obtain ⟨S, hK, hT, hW, hr, hlk⟩ := id hC
  have hx := S.1
  have hb := S.2.1
  refine lv_bipush (v := 31) hx hb d_Pk_wayCodeOf_0 (by decide) ?_
  refine lv_iload_n hx hb d_Pk_wayCodeOf_2 rfl (lv_at hl 0 rfl) ?_
  obtain ⟨q1, e2, h⟩ := un_bi h
  refine w_callSi (As := [.int x0]) (rest := [.int (31 : Int32)]) S hK hI hT (c_Int_numberOfLeadingZeros l hW  e2) (va_cwS 1 S.2.2.2.2 (gd_S lc_Int_numberOfLeadingZeros lm_Pk_225 lst_Int_numberOfLeadingZeros ln_Int) rfl rfl rfl hd_Int_numberOfLeadingZeros.2 ⟨Nat.le_of_ble_eq_true rfl, Nat.le_of_ble_eq_true rfl⟩)  rfl rfl hl.1 (Nat.le_of_ble_eq_true rfl) d_Pk_wayCodeOf_3 ⟨Nat.zero_le _, Nat.zero_le _⟩ (fun H locs hI => ?_)
  refine lv_isub hx hb d_Pk_wayCodeOf_6 ?_
  exact w_iret S hK hr hlk hI d_Pk_wayCodeOf_7 h
end
theorem d_Pk_chooseStates_0 : decode cc_Pk_chooseStates 0 = .ok (.aload_n 0, 1) := by decide +kernel
theorem d_Pk_chooseStates_1 : decode cc_Pk_chooseStates 1 = .ok (.getfield 66, 3) := by decide +kernel
theorem d_Pk_chooseStates_4 : decode cc_Pk_chooseStates 4 = .ok (.getfield 162, 3) := by decide +kernel
theorem d_Pk_chooseStates_7 : decode cc_Pk_chooseStates 7 = .ok (.iconst 1, 1) := by decide +kernel
theorem d_Pk_chooseStates_8 : decode cc_Pk_chooseStates 8 = .ok (.isub, 1) := by decide +kernel
theorem d_Pk_chooseStates_9 : decode cc_Pk_chooseStates 9 = .ok (.istore_n 1, 1) := by decide +kernel
theorem d_Pk_chooseStates_10 : decode cc_Pk_chooseStates 10 = .ok (.iload_n 1, 1) := by decide +kernel
theorem d_Pk_chooseStates_11 : decode cc_Pk_chooseStates 11 = .ok (.ifCond .lt (90), 3) := by decide +kernel
theorem d_Pk_chooseStates_14 : decode cc_Pk_chooseStates 14 = .ok (.aload_n 0, 1) := by decide +kernel
theorem d_Pk_chooseStates_15 : decode cc_Pk_chooseStates 15 = .ok (.aload_n 0, 1) := by decide +kernel
theorem d_Pk_chooseStates_16 : decode cc_Pk_chooseStates 16 = .ok (.getfield 54, 3) := by decide +kernel
theorem d_Pk_chooseStates_19 : decode cc_Pk_chooseStates 19 = .ok (.getstatic 178, 3) := by decide +kernel
theorem d_Pk_chooseStates_22 : decode cc_Pk_chooseStates 22 = .ok (.aload_n 0, 1) := by decide +kernel
theorem d_Pk_chooseStates_23 : decode cc_Pk_chooseStates 23 = .ok (.getfield 66, 3) := by decide +kernel
theorem d_Pk_chooseStates_26 : decode cc_Pk_chooseStates 26 = .ok (.getfield 181, 3) := by decide +kernel
theorem d_Pk_chooseStates_29 : decode cc_Pk_chooseStates 29 = .ok (.iload_n 1, 1) := by decide +kernel
theorem d_Pk_chooseStates_30 : decode cc_Pk_chooseStates 30 = .ok (.iaload, 1) := by decide +kernel
theorem d_Pk_chooseStates_31 : decode cc_Pk_chooseStates 31 = .ok (.invokestatic 184, 3) := by decide +kernel
theorem d_Pk_chooseStates_34 : decode cc_Pk_chooseStates 34 = .ok (.aload_n 0, 1) := by decide +kernel
theorem d_Pk_chooseStates_35 : decode cc_Pk_chooseStates 35 = .ok (.getfield 41, 3) := by decide +kernel
theorem d_Pk_chooseStates_38 : decode cc_Pk_chooseStates 38 = .ok (.iload_n 1, 1) := by decide +kernel
theorem d_Pk_chooseStates_39 : decode cc_Pk_chooseStates 39 = .ok (.invokevirtual 188, 3) := by decide +kernel
theorem d_Pk_chooseStates_42 : decode cc_Pk_chooseStates 42 = .ok (.aload_n 0, 1) := by decide +kernel
theorem d_Pk_chooseStates_43 : decode cc_Pk_chooseStates 43 = .ok (.aload_n 0, 1) := by decide +kernel
theorem d_Pk_chooseStates_44 : decode cc_Pk_chooseStates 44 = .ok (.getfield 54, 3) := by decide +kernel
theorem d_Pk_chooseStates_47 : decode cc_Pk_chooseStates 47 = .ok (.getstatic 192, 3) := by decide +kernel
theorem d_Pk_chooseStates_50 : decode cc_Pk_chooseStates 50 = .ok (.aload_n 0, 1) := by decide +kernel
theorem d_Pk_chooseStates_51 : decode cc_Pk_chooseStates 51 = .ok (.getfield 66, 3) := by decide +kernel
theorem d_Pk_chooseStates_54 : decode cc_Pk_chooseStates 54 = .ok (.getfield 195, 3) := by decide +kernel
theorem d_Pk_chooseStates_57 : decode cc_Pk_chooseStates 57 = .ok (.iload_n 1, 1) := by decide +kernel
theorem d_Pk_chooseStates_58 : decode cc_Pk_chooseStates 58 = .ok (.iaload, 1) := by decide +kernel
theorem d_Pk_chooseStates_59 : decode cc_Pk_chooseStates 59 = .ok (.invokestatic 184, 3) := by decide +kernel
theorem d_Pk_chooseStates_62 : decode cc_Pk_chooseStates 62 = .ok (.aload_n 0, 1) := by decide +kernel
theorem d_Pk_chooseStates_63 : decode cc_Pk_chooseStates 63 = .ok (.getfield 48, 3) := by decide +kernel
theorem d_Pk_chooseStates_66 : decode cc_Pk_chooseStates 66 = .ok (.iload_n 1, 1) := by decide +kernel
theorem d_Pk_chooseStates_67 : decode cc_Pk_chooseStates 67 = .ok (.invokevirtual 188, 3) := by decide +kernel
theorem d_Pk_chooseStates_70 : decode cc_Pk_chooseStates 70 = .ok (.aload_n 0, 1) := by decide +kernel
theorem d_Pk_chooseStates_71 : decode cc_Pk_chooseStates 71 = .ok (.aload_n 0, 1) := by decide +kernel
theorem d_Pk_chooseStates_72 : decode cc_Pk_chooseStates 72 = .ok (.getfield 58, 3) := by decide +kernel
theorem d_Pk_chooseStates_75 : decode cc_Pk_chooseStates 75 = .ok (.aload_n 0, 1) := by decide +kernel
theorem d_Pk_chooseStates_76 : decode cc_Pk_chooseStates 76 = .ok (.getfield 66, 3) := by decide +kernel
theorem d_Pk_chooseStates_79 : decode cc_Pk_chooseStates 79 = .ok (.getfield 198, 3) := by decide +kernel
theorem d_Pk_chooseStates_82 : decode cc_Pk_chooseStates 82 = .ok (.iload_n 1, 1) := by decide +kernel
theorem d_Pk_chooseStates_83 : decode cc_Pk_chooseStates 83 = .ok (.iaload, 1) := by decide +kernel
theorem d_Pk_chooseStates_84 : decode cc_Pk_chooseStates 84 = .ok (.invokestatic 201, 3) := by decide +kernel
theorem d_Pk_chooseStates_87 : decode cc_Pk_chooseStates 87 = .ok (.aload_n 0, 1) := by decide +kernel
theorem d_Pk_chooseStates_88 : decode cc_Pk_chooseStates 88 = .ok (.getfield 45, 3) := by decide +kernel
theorem d_Pk_chooseStates_91 : decode cc_Pk_chooseStates 91 = .ok (.iload_n 1, 1) := by decide +kernel
theorem d_Pk_chooseStates_92 : decode cc_Pk_chooseStates 92 = .ok (.invokevirtual 188, 3) := by decide +kernel
theorem d_Pk_chooseStates_95 : decode cc_Pk_chooseStates 95 = .ok (.iinc 1 (-1), 3) := by decide +kernel
theorem d_Pk_chooseStates_98 : decode cc_Pk_chooseStates 98 = .ok (.goto (-88), 3) := by decide +kernel
theorem d_Pk_chooseStates_101 : decode cc_Pk_chooseStates 101 = .ok (.return_, 1) := by decide +kernel
section
variable {p : Program} {l : Launch} {e : Env} {s : State} {m : MethodId} {args : Array Value} {below : List Frame} {meth : Method} {c : Code} {X : Xs} {L : La}
def b_Pk_chooseStates_10 (L : La) (k10 : Nat → Int32 → Mem → Option Mem) (i0 : Nat) (x1 : Int32) (F : Mem) : Option Mem :=
  if x1 < 0 then
    some F
  else
    if inb x1 (mGl L (mRf L (mRf L i0 1) 2)) then none else
    (f_Pk_codeOf L (mNc L + 2) (mGa L F (mRf L (mRf L i0 1) 2) x1.toNatClampNeg) F).bind fun q6 =>
    (f_Pk_chooseState L i0 (mRf L i0 2) q6.1 (mRf L i0 8) x1 q6.2).bind fun F9 =>
    if inb x1 (mGl L (mRf L (mRf L i0 1) 4)) then none else
    (f_Pk_codeOf L (mNc L + 4) (mGa L F9 (mRf L (mRf L i0 1) 4) x1.toNatClampNeg) F9).bind fun q16 =>
    (f_Pk_chooseState L i0 (mRf L i0 2) q16.1 (mRf L i0 10) x1 q16.2).bind fun F19 =>
    if inb x1 (mGl L (mRf L (mRf L i0 1) 3)) then none else
    (f_Pk_wayCodeOf L (mGa L F19 (mRf L (mRf L i0 1) 3) x1.toNatClampNeg) F19).bind fun q25 =>
    (f_Pk_chooseState L i0 (mRf L i0 3) q25.1 (mRf L i0 9) x1 q25.2).bind fun F28 =>
    k10 i0 (x1 + (-1 : Int32)) F28
set_option maxHeartbeats 4000000 in
theorem t_Pk_chooseStates_10 (hC : Cx X L p s m args meth c cc_Pk_chooseStates 2 w_Pk_chooseStates R_Pk none) {k10 : Nat → Int32 → Mem → Option Mem} {out : Mem} (hk10 : ∀ (i0 : Nat) (x1 : Int32) (F : Mem) (H : Heap) (locs : List Loc) (ls : Array Slot), oO L 11 i0 → Iv X L s H locs F → lv_has ls 2 [(0, .ref (mAd X i0)), (1, .int x1)] → k10 i0 x1 F = some out → W p l e (headSpec w_Pk_chooseStates r_Pk_chooseStates).room s m args below meth c H locs 0 0 (MQ below (QV X L out) args s 0 0 (AA X L)) (F0 m 10 ls [])) {i0 : Nat} {x1 : Int32} {F : Mem} {H : Heap} {locs : List Loc} {ls : Array Slot} (o0 : oO L 11 i0) (hI : Iv X L s H locs F) (hl : lv_has ls 2 [(0, .ref (mAd X i0)), (1, .int x1)]) (h : b_Pk_chooseStates_10 L k10 i0 x1 F = some out) : W p l e (headSpec w_Pk_chooseStates r_Pk_chooseStates).room s m args below meth c H locs 0 0 (MQ below (QV X L out) args s 0 0 (AA X L)) (F0 m 10 ls []) := by
  unfold b_Pk_chooseStates_10 at h
  obtain ⟨S, hK, hT, hW, hr, hlk⟩ := id hC
  have hx := S.1
  have hb := S.2.1
  refine lv_iload_n hx hb d_Pk_chooseStates_10 rfl (lv_at hl 1 rfl) ?_
  refine lv_if_lt (tgt := 101) hx hb d_Pk_chooseStates_11 rfl (fun hc => ?_) (fun hc => ?_)
  · replace h := (if_pos hc).symm.trans h
    exact w_vret S hK hr hlk hI d_Pk_chooseStates_101 h
  · replace h := (if_neg hc).symm.trans h
    refine lv_aload_n hx hb d_Pk_chooseStates_14 rfl (lv_at hl 0 rfl) ?_
    refine lv_aload_n hx hb d_Pk_chooseStates_15 rfl (lv_at hl 0 rfl) ?_
    have p1 := wt_o hW o0 2 2 rfl (by decide) (by decide) (by decide)
    refine w_getR (T := T_Pk) S hK hI o0 rfl hin_Pk 2 (index := 54) (by decide) lf_Pk_54 d_Pk_chooseStates_16 ?_
    have p2 : oA L (mNc L + 2) := oA_t (by decide)
    refine w_getsN (j := 2) S hI hT (by decide) (va_Nw.use rfl (hT.2 ("PackFrames$Packer", 178, "PackFrames", "LITERAL_BASES", "[I", "PackFrames") (by decide))) d_Pk_chooseStates_19 ?_
    refine lv_aload_n hx hb d_Pk_chooseStates_22 rfl (lv_at hl 0 rfl) ?_
    have p3 := wt_o hW o0 1 10 rfl (by decide) (by decide) (by decide)
    refine w_getR (T := T_Pk) S hK hI o0 rfl hin_Pk 1 (index := 66) (by decide) lf_Pk_66 d_Pk_chooseStates_23 ?_
    have p4 := wt_a hW p3 2 rfl (by decide) (by decide)
    refine w_getR (T := T_Mf) S hK hI p3 rfl hin_Mf 2 (index := 181) (by decide) lf_Pk_181 d_Pk_chooseStates_26 ?_
    refine lv_iload_n hx hb d_Pk_chooseStates_29 rfl (lv_at hl 1 rfl) ?_
    obtain ⟨z5, h⟩ := un_if h
    refine w_iald S hK hI hT p4 z5 d_Pk_chooseStates_30 ?_
    obtain ⟨q6, e7, h⟩ := un_bi h
    refine w_callSi (As := [.ref (mAd X (mNc L + 2)), .int (mGa L F (mRf L (mRf L i0 1) 2) x1.toNatClampNeg)]) (rest := [.ref (mAd X (mRf L i0 2)), .ref (mAd X i0)]) S hK hI hT (c_Pk_codeOf l hW p2 e7) (va_cwS 2 S.2.2.2.2 (gd_S lc_Pk_codeOf lm_Pk_184 lst_Pk_codeOf ln_Pk) rfl rfl rfl hd_Pk_codeOf.2 ⟨Nat.le_of_ble_eq_true rfl, Nat.le_of_ble_eq_true rfl⟩)  rfl rfl hl.1 (Nat.le_of_ble_eq_true rfl) d_Pk_chooseStates_31 ⟨Nat.zero_le _, Nat.zero_le _⟩ (fun H locs hI => ?_)
    refine lv_aload_n hx hb d_Pk_chooseStates_34 rfl (lv_at hl 0 rfl) ?_
    have p8 := wt_a hW o0 8 rfl (by decide) (by decide)
    refine w_getR (T := T_Pk) S hK hI o0 rfl hin_Pk 8 (index := 41) (by decide) lf_Pk_41 d_Pk_chooseStates_35 ?_
    refine lv_iload_n hx hb d_Pk_chooseStates_38 rfl (lv_at hl 1 rfl) ?_
    obtain ⟨F9, e10, h⟩ := un_bi h
    refine w_callVv (As := [.ref (mAd X (mRf L i0 2)), .int q6.1, .ref (mAd X (mRf L i0 8)), .int x1]) (rest := []) S hK hI hT (c_Pk_chooseState l hW o0 p1 p8 e10) (cwV 4 S.2.2.2.2 (gd_V lc_Pk_chooseState lm_Pk_188 li_Pk_chooseState ls_Pk_chooseState ln_Pk) rfl rfl rfl hd_Pk_chooseState ⟨Nat.le_of_ble_eq_true rfl, Nat.le_of_ble_eq_true rfl⟩) o0 rfl (by decide) rfl rfl hl.1 (Nat.le_of_ble_eq_true rfl) d_Pk_chooseStates_39 ⟨Nat.zero_le _, Nat.zero_le _⟩ (fun H locs hI => ?_)
    refine lv_aload_n hx hb d_Pk_chooseStates_42 rfl (lv_at hl 0 rfl) ?_
    refine lv_aload_n hx hb d_Pk_chooseStates_43 rfl (lv_at hl 0 rfl) ?_
    have p11 := wt_o hW o0 2 2 rfl (by decide) (by decide) (by decide)
    refine w_getR (T := T_Pk) S hK hI o0 rfl hin_Pk 2 (index := 54) (by decide) lf_Pk_54 d_Pk_chooseStates_44 ?_
    have p12 : oA L (mNc L + 4) := oA_t (by decide)
    refine w_getsN (j := 4) S hI hT (by decide) (va_Nw.use rfl (hT.2 ("PackFrames$Packer", 192, "PackFrames", "MATCH_BASES", "[I", "PackFrames") (by decide))) d_Pk_chooseStates_47 ?_
    refine lv_aload_n hx hb d_Pk_chooseStates_50 rfl (lv_at hl 0 rfl) ?_
    have p13 := wt_o hW o0 1 10 rfl (by decide) (by decide) (by decide)
    refine w_getR (T := T_Pk) S hK hI o0 rfl hin_Pk 1 (index := 66) (by decide) lf_Pk_66 d_Pk_chooseStates_51 ?_
    have p14 := wt_a hW p13 4 rfl (by decide) (by decide)
    refine w_getR (T := T_Mf) S hK hI p13 rfl hin_Mf 4 (index := 195) (by decide) lf_Pk_195 d_Pk_chooseStates_54 ?_
    refine lv_iload_n hx hb d_Pk_chooseStates_57 rfl (lv_at hl 1 rfl) ?_
    obtain ⟨z15, h⟩ := un_if h
    refine w_iald S hK hI hT p14 z15 d_Pk_chooseStates_58 ?_
    obtain ⟨q16, e17, h⟩ := un_bi h
    refine w_callSi (As := [.ref (mAd X (mNc L + 4)), .int (mGa L F9 (mRf L (mRf L i0 1) 4) x1.toNatClampNeg)]) (rest := [.ref (mAd X (mRf L i0 2)), .ref (mAd X i0)]) S hK hI hT (c_Pk_codeOf l hW p12 e17) (va_cwS 2 S.2.2.2.2 (gd_S lc_Pk_codeOf lm_Pk_184 lst_Pk_codeOf ln_Pk) rfl rfl rfl hd_Pk_codeOf.2 ⟨Nat.le_of_ble_eq_true rfl, Nat.le_of_ble_eq_true rfl⟩)  rfl rfl hl.1 (Nat.le_of_ble_eq_true rfl) d_Pk_chooseStates_59 ⟨Nat.zero_le _, Nat.zero_le _⟩ (fun H locs hI => ?_)
    refine lv_aload_n hx hb d_Pk_chooseStates_62 rfl (lv_at hl 0 rfl) ?_
    have p18 := wt_a hW o0 10 rfl (by decide) (by decide)
    refine w_getR (T := T_Pk) S hK hI o0 rfl hin_Pk 10 (index := 48) (by decide) lf_Pk_48 d_Pk_chooseStates_63 ?_
    refine lv_iload_n hx hb d_Pk_chooseStates_66 rfl (lv_at hl 1 rfl) ?_
    obtain ⟨F19, e20, h⟩ := un_bi h
    refine w_callVv (As := [.ref (mAd X (mRf L i0 2)), .int q16.1, .ref (mAd X (mRf L i0 10)), .int x1]) (rest := []) S hK hI hT (c_Pk_chooseState l hW o0 p11 p18 e20) (cwV 4 S.2.2.2.2 (gd_V lc_Pk_chooseState lm_Pk_188 li_Pk_chooseState ls_Pk_chooseState ln_Pk) rfl rfl rfl hd_Pk_chooseState ⟨Nat.le_of_ble_eq_true rfl, Nat.le_of_ble_eq_true rfl⟩) o0 rfl (by decide) rfl rfl hl.1 (Nat.le_of_ble_eq_true rfl) d_Pk_chooseStates_67 ⟨Nat.zero_le _, Nat.zero_le _⟩ (fun H locs hI => ?_)
    refine lv_aload_n hx hb d_Pk_chooseStates_70 rfl (lv_at hl 0 rfl) ?_
    refine lv_aload_n hx hb d_Pk_chooseStates_71 rfl (lv_at hl 0 rfl) ?_
    have p21 := wt_o hW o0 3 2 rfl (by decide) (by decide) (by decide)
    refine w_getR (T := T_Pk) S hK hI o0 rfl hin_Pk 3 (index := 58) (by decide) lf_Pk_58 d_Pk_chooseStates_72 ?_
    refine lv_aload_n hx hb d_Pk_chooseStates_75 rfl (lv_at hl 0 rfl) ?_
    have p22 := wt_o hW o0 1 10 rfl (by decide) (by decide) (by decide)
    refine w_getR (T := T_Pk) S hK hI o0 rfl hin_Pk 1 (index := 66) (by decide) lf_Pk_66 d_Pk_chooseStates_76 ?_
    have p23 := wt_a hW p22 3 rfl (by decide) (by decide)
    refine w_getR (T := T_Mf) S hK hI p22 rfl hin_Mf 3 (index := 198) (by decide) lf_Pk_198 d_Pk_chooseStates_79 ?_
    refine lv_iload_n hx hb d_Pk_chooseStates_82 rfl (lv_at hl 1 rfl) ?_
    obtain ⟨z24, h⟩ := un_if h
    refine w_iald S hK hI hT p23 z24 d_Pk_chooseStates_83 ?_
    obtain ⟨q25, e26, h⟩ := un_bi h
    refine w_callSi (As := [.int (mGa L F19 (mRf L (mRf L i0 1) 3) x1.toNatClampNeg)]) (rest := [.ref (mAd X (mRf L i0 3)), .ref (mAd X i0)]) S hK hI hT (c_Pk_wayCodeOf l hW  e26) (va_cwS 1 S.2.2.2.2 (gd_S lc_Pk_wayCodeOf lm_Pk_201 lst_Pk_wayCodeOf ln_Pk) rfl rfl rfl hd_Pk_wayCodeOf.2 ⟨Nat.le_of_ble_eq_true rfl, Nat.le_of_ble_eq_true rfl⟩)  rfl rfl hl.1 (Nat.le_of_ble_eq_true rfl) d_Pk_chooseStates_84 ⟨Nat.zero_le _, Nat.zero_le _⟩ (fun H locs hI => ?_)
    refine lv_aload_n hx hb d_Pk_chooseStates_87 rfl (lv_at hl 0 rfl) ?_
    have p27 := wt_a hW o0 9 rfl (by decide) (by decide)
    refine w_getR (T := T_Pk) S hK hI o0 rfl hin_Pk 9 (index := 45) (by decide) lf_Pk_45 d_Pk_chooseStates_88 ?_
    refine lv_iload_n hx hb d_Pk_chooseStates_91 rfl (lv_at hl 1 rfl) ?_
    obtain ⟨F28, e29, h⟩ := un_bi h
    refine w_callVv (As := [.ref (mAd X (mRf L i0 3)), .int q25.1, .ref (mAd X (mRf L i0 9)), .int x1]) (rest := []) S hK hI hT (c_Pk_chooseState l hW o0 p21 p27 e29) (cwV 4 S.2.2.2.2 (gd_V lc_Pk_chooseState lm_Pk_188 li_Pk_chooseState ls_Pk_chooseState ln_Pk) rfl rfl rfl hd_Pk_chooseState ⟨Nat.le_of_ble_eq_true rfl, Nat.le_of_ble_eq_true rfl⟩) o0 rfl (by decide) rfl rfl hl.1 (Nat.le_of_ble_eq_true rfl) d_Pk_chooseStates_92 ⟨Nat.zero_le _, Nat.zero_le _⟩ (fun H locs hI => ?_)
    refine lv_iinc (k := 1) (v := x1 + (-1 : Int32)) (lv' := [(1, .int (x1 + (-1 : Int32))), (0, .ref (mAd X i0))]) hx hb d_Pk_chooseStates_95 hl rfl rfl (by decide) rfl (fun ls hl => ?_)
    refine lv_goto (tgt := 10) hx hb d_Pk_chooseStates_98 rfl ?_
    exact hk10 _ _ _ _ _ _ o0 hI (lv_sub hl [1, 0] rfl) h
def f_Pk_chooseStates_10 (L : La)  : Nat → Nat → Int32 → Mem → Option Mem
  | 0 => fun _ _ _ => none
  | n + 1 => b_Pk_chooseStates_10 L (f_Pk_chooseStates_10 L  n)
theorem tf_Pk_chooseStates_10 (hC : Cx X L p s m args meth c cc_Pk_chooseStates 2 w_Pk_chooseStates R_Pk none)  {out : Mem}  (n : Nat) : ∀ (i0 : Nat) (x1 : Int32) (F : Mem) (H : Heap) (locs : List Loc) (ls : Array Slot), oO L 11 i0 → Iv X L s H locs F → lv_has ls 2 [(0, .ref (mAd X i0)), (1, .int x1)] → f_Pk_chooseStates_10 L  n i0 x1 F = some out → W p l e (headSpec w_Pk_chooseStates r_Pk_chooseStates).room s m args below meth c H locs 0 0 (MQ below (QV X L out) args s 0 0 (AA X L)) (F0 m 10 ls []) := by
  induction n with
  | zero => intro i0 x1 F H locs ls o0 hI hl h; cases h
  | succ n ih => intro i0 x1 F H locs ls o0 hI hl h; exact t_Pk_chooseStates_10 hC ih o0 hI hl h
def f_Pk_chooseStates (L : La) (i0 : Nat) (F : Mem) : Option Mem :=
  f_Pk_chooseStates_10 L  mFU i0 ((F (mRf L i0 1) 6) - (1 : Int32)) F
set_option maxHeartbeats 4000000 in
theorem c_Pk_chooseStates (l : Launch) {X : Xs} {L : La} (hW : WT L) {out : Mem} {i0 : Nat} {F : Mem} (o0 : oO L 11 i0) (h : f_Pk_chooseStates L i0 F = some out) : Met l y_Pk_chooseStates w_Pk_chooseStates r_Pk_chooseStates (va_Pc [.ref (mAd X i0)] (Pr X L F)) (QV X L out) 0 0 (AA X L) := by
  refine mk_met (by decide) rfl (Nat.le_of_ble_eq_true rfl) hW ?_
  intro p e s m args below meth c ls hC hI hl
  have hl : lv_has ls 2 [(0, .ref (mAd X i0))] := hl
  generalize hHe : s.heap = H at hI ⊢
  generalize ([] : List Loc) = locs at hI ⊢
  unfold f_Pk_chooseStates at h
  obtain ⟨S, hK, hT, hW, hr, hlk⟩ := id hC
  have hx := S.1
  have hb := S.2.1
  refine lv_aload_n hx hb d_Pk_chooseStates_0 rfl (lv_at hl 0 rfl) ?_
  have p1 := wt_o hW o0 1 10 rfl (by decide) (by decide) (by decide)
  refine w_getR (T := T_Pk) S hK hI o0 rfl hin_Pk 1 (index := 66) (by decide) lf_Pk_66 d_Pk_chooseStates_1 ?_
  refine w_getI (T := T_Mf) S hK hI p1 rfl hin_Mf 6 (index := 162) (by decide) lf_Pk_162 d_Pk_chooseStates_4 ?_
  refine lv_iconst (v := 1) hx hb d_Pk_chooseStates_7 rfl ?_
  refine lv_isub hx hb d_Pk_chooseStates_8 ?_
  refine lv_istore_n (lv' := [(1, .int ((F (mRf L i0 1) 6) - (1 : Int32))), (0, .ref (mAd X i0))]) hx hb d_Pk_chooseStates_9 rfl hl (by decide) rfl (fun ls hl => ?_)
  exact tf_Pk_chooseStates_10 hC  mFU _ _ _ _ _ _ o0 hI (lv_sub hl [1, 0] rfl) h
end
