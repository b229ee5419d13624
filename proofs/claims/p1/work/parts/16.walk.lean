theorem d_Md_add_0 : decode cc_Md_add 0 = .ok (.aload_n 0, 1) := by decide +kernel
theorem d_Md_add_1 : decode cc_Md_add 1 = .ok (.getfield 68, 3) := by decide +kernel
theorem d_Md_add_4 : decode cc_Md_add 4 = .ok (.aload_n 0, 1) := by decide +kernel
theorem d_Md_add_5 : decode cc_Md_add 5 = .ok (.getfield 209, 3) := by decide +kernel
theorem d_Md_add_8 : decode cc_Md_add 8 = .ok (.iload_n 1, 1) := by decide +kernel
theorem d_Md_add_9 : decode cc_Md_add 9 = .ok (.iastore, 1) := by decide +kernel
theorem d_Md_add_10 : decode cc_Md_add 10 = .ok (.aload_n 0, 1) := by decide +kernel
theorem d_Md_add_11 : decode cc_Md_add 11 = .ok (.dup, 1) := by decide +kernel
theorem d_Md_add_12 : decode cc_Md_add 12 = .ok (.getfield 209, 3) := by decide +kernel
theorem d_Md_add_15 : decode cc_Md_add 15 = .ok (.iconst 1, 1) := by decide +kernel
theorem d_Md_add_16 : decode cc_Md_add 16 = .ok (.iadd, 1) := by decide +kernel
theorem d_Md_add_17 : decode cc_Md_add 17 = .ok (.putfield 209, 3) := by decide +kernel
theorem d_Md_add_20 : decode cc_Md_add 20 = .ok (.return_, 1) := by decide +kernel
section
variable {p : Program} {l : Launch} {e : Env} {s : State} {m : MethodId} {args : Array Value} {below : List Frame} {meth : Method} {c : Code} {X : Xs} {L : La}
def f_Md_add (L : La) (i0 : Nat) (x1 : Int32) (F : Mem) : Option Mem :=
  if inb (F i0 34) (mLn L (mRf L i0 35)) ∨ ¬ (mRf L i0 35) < mNc L then none else
  lt' (u2 F (mRf L i0 35) (F i0 34).toNatClampNeg x1) fun F3 =>
  lt' (u2 F3 i0 34 ((F3 i0 34) + (1 : Int32))) fun F5 =>
  some F5
set_option maxHeartbeats 4000000 in
theorem c_Md_add (l : Launch) {X : Xs} {L : La} (hW : WT L) {out : Mem} {i0 : Nat} {x1 : Int32} {F : Mem} (o0 : oO L 12 i0) (h : f_Md_add L i0 x1 F = some out) : Met l y_Md_add w_Md_add r_Md_add (va_Pc [.ref (mAd X i0), .int x1] (Pr X L F)) (QV X L out) 0 0 (AA X L) := by
  refine mk_met (by decide) rfl (Nat.le_of_ble_eq_true rfl) hW ?_
  intro p e s m args below meth c ls hC hI hl
  have hl : lv_has ls 2 [(0, .ref (mAd X i0)), (1, .int x1)] := hl
  generalize hHe : s.heap = H at hI ⊢
  generalize ([] : List Loc) = locs at hI ⊢
  unfold f_Md_add at h
  obtain ⟨S, hK, hT, hW, hr, hlk⟩ := id hC
  have hx := S.1
  have hb := S.2.1
  refine lv_aload_n hx hb d_Md_add_0 rfl (lv_at hl 0 rfl) ?_
  have p1 := wt_a hW o0 35 rfl (by decide) (by decide)
  refine w_getR (T := T_Md) S hK hI o0 rfl hin_Md 35 (index := 68) (by decide) lf_Md_68 d_Md_add_1 ?_
  refine lv_aload_n hx hb d_Md_add_4 rfl (lv_at hl 0 rfl) ?_
  refine w_getI (T := T_Md) S hK hI o0 rfl hin_Md 34 (index := 209) (by decide) lf_Md_209 d_Md_add_5 ?_
  refine lv_iload_n hx hb d_Md_add_8 rfl (lv_at hl 1 rfl) ?_
  obtain ⟨z2, h⟩ := un_if h
  refine w_iast S hK hI p1 z2 d_Md_add_9 (fun H locs F3 e4 hI => ?_)
  replace h := un_lt h _ e4
  refine lv_aload_n hx hb d_Md_add_10 rfl (lv_at hl 0 rfl) ?_
  refine lv_dup hx hb d_Md_add_11 rfl ?_
  refine w_getI (T := T_Md) S hK hI o0 rfl hin_Md 34 (index := 209) (by decide) lf_Md_209 d_Md_add_12 ?_
  refine lv_iconst (v := 1) hx hb d_Md_add_15 rfl ?_
  refine lv_iadd hx hb d_Md_add_16 ?_
  refine w_putI (T := T_Md) S hK hI o0 rfl hin_Md ty_Md tk_Md nm_Md 34 (index := 209) (by decide) lf_Md_209 rfl d_Md_add_17 (fun H locs F5 e6 hI => ?_)
  replace h := un_lt h _ e6
  exact w_vret S hK hr hlk hI d_Md_add_20 h
end
theorem d_Md_countOf_0 : decode cc_Md_countOf 0 = .ok (.iconst 0, 1) := by decide +kernel
theorem d_Md_countOf_1 : decode cc_Md_countOf 1 = .ok (.istore_n 2, 1) := by decide +kernel
theorem d_Md_countOf_2 : decode cc_Md_countOf 2 = .ok (.iconst 0, 1) := by decide +kernel
theorem d_Md_countOf_3 : decode cc_Md_countOf 3 = .ok (.istore_n 3, 1) := by decide +kernel
theorem d_Md_countOf_4 : decode cc_Md_countOf 4 = .ok (.iload_n 3, 1) := by decide +kernel
theorem d_Md_countOf_5 : decode cc_Md_countOf 5 = .ok (.aload_n 0, 1) := by decide +kernel
theorem d_Md_countOf_6 : decode cc_Md_countOf 6 = .ok (.getfield 172, 3) := by decide +kernel
theorem d_Md_countOf_9 : decode cc_Md_countOf 9 = .ok (.if_icmp .gt (32), 3) := by decide +kernel
theorem d_Md_countOf_12 : decode cc_Md_countOf 12 = .ok (.iload_n 2, 1) := by decide +kernel
theorem d_Md_countOf_13 : decode cc_Md_countOf 13 = .ok (.aload_n 0, 1) := by decide +kernel
theorem d_Md_countOf_14 : decode cc_Md_countOf 14 = .ok (.getfield 77, 3) := by decide +kernel
theorem d_Md_countOf_17 : decode cc_Md_countOf 17 = .ok (.iload_n 3, 1) := by decide +kernel
theorem d_Md_countOf_18 : decode cc_Md_countOf 18 = .ok (.iaload, 1) := by decide +kernel
theorem d_Md_countOf_19 : decode cc_Md_countOf 19 = .ok (.iload_n 1, 1) := by decide +kernel
theorem d_Md_countOf_20 : decode cc_Md_countOf 20 = .ok (.if_icmp .ne (12), 3) := by decide +kernel
theorem d_Md_countOf_23 : decode cc_Md_countOf 23 = .ok (.aload_n 0, 1) := by decide +kernel
theorem d_Md_countOf_24 : decode cc_Md_countOf 24 = .ok (.getfield 74, 3) := by decide +kernel
theorem d_Md_countOf_27 : decode cc_Md_countOf 27 = .ok (.iload_n 3, 1) := by decide +kernel
theorem d_Md_countOf_28 : decode cc_Md_countOf 28 = .ok (.iaload, 1) := by decide +kernel
theorem d_Md_countOf_29 : decode cc_Md_countOf 29 = .ok (.goto (4), 3) := by decide +kernel
theorem d_Md_countOf_32 : decode cc_Md_countOf 32 = .ok (.iconst 0, 1) := by decide +kernel
theorem d_Md_countOf_33 : decode cc_Md_countOf 33 = .ok (.iadd, 1) := by decide +kernel
theorem d_Md_countOf_34 : decode cc_Md_countOf 34 = .ok (.istore_n 2, 1) := by decide +kernel
theorem d_Md_countOf_35 : decode cc_Md_countOf 35 = .ok (.iinc 3 (1), 3) := by decide +kernel
theorem d_Md_countOf_38 : decode cc_Md_countOf 38 = .ok (.goto (-34), 3) := by decide +kernel
theorem d_Md_countOf_41 : decode cc_Md_countOf 41 = .ok (.iload_n 2, 1) := by decide +kernel
theorem d_Md_countOf_42 : decode cc_Md_countOf 42 = .ok (.ireturn, 1) := by decide +kernel
section
variable {p : Program} {l : Launch} {e : Env} {s : State} {m : MethodId} {args : Array Value} {below : List Frame} {meth : Method} {c : Code} {X : Xs} {L : La}
def b_Md_countOf_33 (L : La) (k4 : Nat → Int32 → Int32 → Int32 → Mem → Option (Int32 × Mem)) (i0 : Nat) (x1 : Int32) (x3 : Int32) (y0 : Int32) (y1 : Int32) (F : Mem) : Option (Int32 × Mem) :=
  k4 i0 x1 (y0 + y1) (x3 + (1 : Int32)) F
set_option maxHeartbeats 4000000 in
theorem t_Md_countOf_33 (hC : Cx X L p s m args meth c cc_Md_countOf 4 w_Md_countOf R_Md (some .int)) {k4 : Nat → Int32 → Int32 → Int32 → Mem → Option (Int32 × Mem)} {out : (Int32 × Mem)} (hk4 : ∀ (i0 : Nat) (x1 : Int32) (x2 : Int32) (x3 : Int32) (F : Mem) (H : Heap) (locs : List Loc) (ls : Array Slot), oO L 12 i0 → Iv X L s H locs F → lv_has ls 4 [(0, .ref (mAd X i0)), (1, .int x1), (2, .int x2), (3, .int x3)] → k4 i0 x1 x2 x3 F = some out → W p l e (headSpec w_Md_countOf r_Md_countOf).room s m args below meth c H locs 0 0 (MQ below (QI X L out) args s 0 0 (AA X L)) (F0 m 4 ls [])) {i0 : Nat} {x1 : Int32} {x3 : Int32} {y0 : Int32} {y1 : Int32} {F : Mem} {H : Heap} {locs : List Loc} {ls : Array Slot} (o0 : oO L 12 i0) (hI : Iv X L s H locs F) (hl : lv_has ls 4 [(0, .ref (mAd X i0)), (1, .int x1), (3, .int x3)]) (h : b_Md_countOf_33 L k4 i0 x1 x3 y0 y1 F = some out) : W p l e (headSpec w_Md_countOf r_Md_countOf).room s m args below meth c H locs 0 0 (MQ below (QI X L out) args s 0 0 (AA X L)) (F0 m 33 ls [.int y1, .int y0]) := by
  unfold b_Md_countOf_33 at h
  obtain ⟨S, hK, hT, hW, hr, hlk⟩ := id hC
  have hx := S.1
  have hb := S.2.1
  refine lv_iadd hx hb d_Md_countOf_33 ?_
  refine lv_istore_n (lv' := [(2, .int (y0 + y1)), (0, .ref (mAd X i0)), (1, .int x1), (3, .int x3)]) hx hb d_Md_countOf_34 rfl hl (by decide) rfl (fun ls hl => ?_)
  refine lv_iinc (k := 3) (v := x3 + (1 : Int32)) (lv' := [(3, .int (x3 + (1 : Int32))), (2, .int (y0 + y1)), (0, .ref (mAd X i0)), (1, .int x1)]) hx hb d_Md_countOf_35 hl rfl rfl (by decide) rfl (fun ls hl => ?_)
  refine lv_goto (tgt := 4) hx hb d_Md_countOf_38 rfl ?_
  exact hk4 _ _ _ _ _ _ _ _ o0 hI (lv_sub hl [2, 3, 1, 0] rfl) h
def b_Md_countOf_4 (L : La) (k4 : Nat → Int32 → Int32 → Int32 → Mem → Option (Int32 × Mem)) (i0 : Nat) (x1 : Int32) (x2 : Int32) (x3 : Int32) (F : Mem) : Option (Int32 × Mem) :=
  if (F i0 17) < x3 then
    some (x2, F)
  else
    if inb x3 (mGl L (mRf L i0 39)) then none else
    if (mGa L F (mRf L i0 39) x3.toNatClampNeg) = x1 then
      if inb x3 (mGl L (mRf L i0 38)) then none else
      b_Md_countOf_33 L k4 i0 x1 x3 x2 (mGa L F (mRf L i0 38) x3.toNatClampNeg) F
    else
      b_Md_countOf_33 L k4 i0 x1 x3 x2 (0 : Int32) F
set_option maxHeartbeats 4000000 in
theorem t_Md_countOf_4 (hC : Cx X L p s m args meth c cc_Md_countOf 4 w_Md_countOf R_Md (some .int)) {k4 : Nat → Int32 → Int32 → Int32 → Mem → Option (Int32 × Mem)} {out : (Int32 × Mem)} (hk4 : ∀ (i0 : Nat) (x1 : Int32) (x2 : Int32) (x3 : Int32) (F : Mem) (H : Heap) (locs : List Loc) (ls : Array Slot), oO L 12 i0 → Iv X L s H locs F → lv_has ls 4 [(0, .ref (mAd X i0)), (1, .int x1), (2, .int x2), (3, .int x3)] → k4 i0 x1 x2 x3 F = some out → W p l e (headSpec w_Md_countOf r_Md_countOf).room s m args below meth c H locs 0 0 (MQ below (QI X L out) args s 0 0 (AA X L)) (F0 m 4 ls [])) {i0 : Nat} {x1 : Int32} {x2 : Int32} {x3 : Int32} {F : Mem} {H : Heap} {locs : List Loc} {ls : Array Slot} (o0 : oO L 12 i0) (hI : Iv X L s H locs F) (hl : lv_has ls 4 [(0, .ref (mAd X i0)), (1, .int x1), (2, .int x2), (3, .int x3)]) (h : b_Md_countOf_4 L k4 i0 x1 x2 x3 F = some out) : W p l e (headSpec w_Md_countOf r_Md_countOf).room s m args below meth c H locs 0 0 (MQ below (QI X L out) args s 0 0 (AA X L)) (F0 m 4 ls []) := by
  unfold b_Md_countOf_4 at h
  obtain ⟨S, hK, hT, hW, hr, hlk⟩ := id hC
  have hx := S.1
  have hb := S.2.1
  refine lv_iload_n hx hb d_Md_countOf_4 rfl (lv_at hl 3 rfl) ?_
  refine lv_aload_n hx hb d_Md_countOf_5 rfl (lv_at hl 0 rfl) ?_
  refine w_getI (T := T_Md) S hK hI o0 rfl hin_Md 17 (index := 172) (by decide) lf_Md_172 d_Md_countOf_6 ?_
  refine lv_icmp_gt (tgt := 41) hx hb d_Md_countOf_9 rfl (fun hc => ?_) (fun hc => ?_)
  · replace h := (if_pos hc).symm.trans h
    refine lv_iload_n hx hb d_Md_countOf_41 rfl (lv_at hl 2 rfl) ?_
    exact w_iret S hK hr hlk hI d_Md_countOf_42 h
  · replace h := (if_neg hc).symm.trans h
    refine lv_iload_n hx hb d_Md_countOf_12 rfl (lv_at hl 2 rfl) ?_
    refine lv_aload_n hx hb d_Md_countOf_13 rfl (lv_at hl 0 rfl) ?_
    have p1 := wt_a hW o0 39 rfl (by decide) (by decide)
    refine w_getR (T := T_Md) S hK hI o0 rfl hin_Md 39 (index := 77) (by decide) lf_Md_77 d_Md_countOf_14 ?_
    refine lv_iload_n hx hb d_Md_countOf_17 rfl (lv_at hl 3 rfl) ?_
    obtain ⟨z2, h⟩ := un_if h
    refine w_iald S hK hI hT p1 z2 d_Md_countOf_18 ?_
    refine lv_iload_n hx hb d_Md_countOf_19 rfl (lv_at hl 1 rfl) ?_
    refine lv_icmp_ne (tgt := 32) hx hb d_Md_countOf_20 rfl (fun hc => ?_) (fun hc => ?_)
    · replace h := (if_neg hc).symm.trans h
      refine lv_iconst (v := 0) hx hb d_Md_countOf_32 rfl ?_
      exact t_Md_countOf_33 hC hk4 o0 hI (lv_sub hl [0, 1, 3] rfl) h
    · replace h := (if_pos hc).symm.trans h
      refine lv_aload_n hx hb d_Md_countOf_23 rfl (lv_at hl 0 rfl) ?_
      have p3 := wt_a hW o0 38 rfl (by decide) (by decide)
      refine w_getR (T := T_Md) S hK hI o0 rfl hin_Md 38 (index := 74) (by decide) lf_Md_74 d_Md_countOf_24 ?_
      refine lv_iload_n hx hb d_Md_countOf_27 rfl (lv_at hl 3 rfl) ?_
      obtain ⟨z4, h⟩ := un_if h
      refine w_iald S hK hI hT p3 z4 d_Md_countOf_28 ?_
      refine lv_goto (tgt := 33) hx hb d_Md_countOf_29 rfl ?_
      exact t_Md_countOf_33 hC hk4 o0 hI (lv_sub hl [0, 1, 3] rfl) h
def f_Md_countOf_4 (L : La)  : Nat → Nat → Int32 → Int32 → Int32 → Mem → Option (Int32 × Mem)
  | 0 => fun _ _ _ _ _ => none
  | n + 1 => b_Md_countOf_4 L (f_Md_countOf_4 L  n)
theorem tf_Md_countOf_4 (hC : Cx X L p s m args meth c cc_Md_countOf 4 w_Md_countOf R_Md (some .int))  {out : (Int32 × Mem)}  (n : Nat) : ∀ (i0 : Nat) (x1 : Int32) (x2 : Int32) (x3 : Int32) (F : Mem) (H : Heap) (locs : List Loc) (ls : Array Slot), oO L 12 i0 → Iv X L s H locs F → lv_has ls 4 [(0, .ref (mAd X i0)), (1, .int x1), (2, .int x2), (3, .int x3)] → f_Md_countOf_4 L  n i0 x1 x2 x3 F = some out → W p l e (headSpec w_Md_countOf r_Md_countOf).room s m args below meth c H locs 0 0 (MQ below (QI X L out) args s 0 0 (AA X L)) (F0 m 4 ls []) := by
  induction n with
  | zero => intro i0 x1 x2 x3 F H locs ls o0 hI hl h; cases h
  | succ n ih => intro i0 x1 x2 x3 F H locs ls o0 hI hl h; exact t_Md_countOf_4 hC ih o0 hI hl h
def f_Md_countOf (L : La) (i0 : Nat) (x1 : Int32) (F : Mem) : Option (Int32 × Mem) :=
  f_Md_countOf_4 L  mFU i0 x1 (0 : Int32) (0 : Int32) F
set_option maxHeartbeats 4000000 in
theorem c_Md_countOf (l : Launch) {X : Xs} {L : La} (hW : WT L) {out : (Int32 × Mem)} {i0 : Nat} {x1 : Int32} {F : Mem} (o0 : oO L 12 i0) (h : f_Md_countOf L i0 x1 F = some out) : Met l y_Md_countOf w_Md_countOf r_Md_countOf (va_Pc [.ref (mAd X i0), .int x1] (Pr X L F)) (QI X L out) 0 0 (AA X L) := by
  refine mk_met (by decide) rfl (Nat.le_of_ble_eq_true rfl) hW ?_
  intro p e s m args below meth c ls hC hI hl
  have hl : lv_has ls 4 [(0, .ref (mAd X i0)), (1, .int x1)] := hl
  generalize hHe : s.heap = H at hI ⊢
  generalize ([] : List Loc) = locs at hI ⊢
  unfold f_Md_countOf at h
  obtain ⟨S, hK, hT, hW, hr, hlk⟩ := id hC
  have hx := S.1
  have hb := S.2.1
  refine lv_iconst (v := 0) hx hb d_Md_countOf_0 rfl ?_
  refine lv_istore_n (lv' := [(2, .int (0 : Int32)), (0, .ref (mAd X i0)), (1, .int x1)]) hx hb d_Md_countOf_1 rfl hl (by decide) rfl (fun ls hl => ?_)
  refine lv_iconst (v := 0) hx hb d_Md_countOf_2 rfl ?_
  refine lv_istore_n (lv' := [(3, .int (0 : Int32)), (2, .int (0 : Int32)), (0, .ref (mAd X i0)), (1, .int x1)]) hx hb d_Md_countOf_3 rfl hl (by decide) rfl (fun ls hl => ?_)
  exact tf_Md_countOf_4 hC  mFU _ _ _ _ _ _ _ _ o0 hI (lv_sub hl [2, 3, 1, 0] rfl) h
end
theorem d_Md_leastGroup_0 : decode cc_Md_leastGroup 0 = .ok (.iconst (-1), 1) := by decide +kernel
theorem d_Md_leastGroup_1 : decode cc_Md_leastGroup 1 = .ok (.istore_n 2, 1) := by decide +kernel
theorem d_Md_leastGroup_2 : decode cc_Md_leastGroup 2 = .ok (.iconst 0, 1) := by decide +kernel
theorem d_Md_leastGroup_3 : decode cc_Md_leastGroup 3 = .ok (.istore_n 3, 1) := by decide +kernel
theorem d_Md_leastGroup_4 : decode cc_Md_leastGroup 4 = .ok (.iload_n 3, 1) := by decide +kernel
theorem d_Md_leastGroup_5 : decode cc_Md_leastGroup 5 = .ok (.aload_n 0, 1) := by decide +kernel
theorem d_Md_leastGroup_6 : decode cc_Md_leastGroup 6 = .ok (.getfield 172, 3) := by decide +kernel
theorem d_Md_leastGroup_9 : decode cc_Md_leastGroup 9 = .ok (.if_icmp .gt (96), 3) := by decide +kernel
theorem d_Md_leastGroup_12 : decode cc_Md_leastGroup 12 = .ok (.aload_n 0, 1) := by decide +kernel
theorem d_Md_leastGroup_13 : decode cc_Md_leastGroup 13 = .ok (.iload_n 3, 1) := by decide +kernel
theorem d_Md_leastGroup_14 : decode cc_Md_leastGroup 14 = .ok (.invokevirtual 249, 3) := by decide +kernel
theorem d_Md_leastGroup_17 : decode cc_Md_leastGroup 17 = .ok (.istore 4, 2) := by decide +kernel
theorem d_Md_leastGroup_19 : decode cc_Md_leastGroup 19 = .ok (.iload_n 3, 1) := by decide +kernel
theorem d_Md_leastGroup_20 : decode cc_Md_leastGroup 20 = .ok (.iload_n 1, 1) := by decide +kernel
theorem d_Md_leastGroup_21 : decode cc_Md_leastGroup 21 = .ok (.if_icmp .eq (12), 3) := by decide +kernel
theorem d_Md_leastGroup_24 : decode cc_Md_leastGroup 24 = .ok (.iload 4, 2) := by decide +kernel
theorem d_Md_leastGroup_26 : decode cc_Md_leastGroup 26 = .ok (.ifCond .le (7), 3) := by decide +kernel
theorem d_Md_leastGroup_29 : decode cc_Md_leastGroup 29 = .ok (.iconst 1, 1) := by decide +kernel
theorem d_Md_leastGroup_30 : decode cc_Md_leastGroup 30 = .ok (.goto (4), 3) := by decide +kernel
theorem d_Md_leastGroup_33 : decode cc_Md_leastGroup 33 = .ok (.iconst 0, 1) := by decide +kernel
theorem d_Md_leastGroup_34 : decode cc_Md_leastGroup 34 = .ok (.istore 5, 2) := by decide +kernel
theorem d_Md_leastGroup_36 : decode cc_Md_leastGroup 36 = .ok (.iload 5, 2) := by decide +kernel
theorem d_Md_leastGroup_38 : decode cc_Md_leastGroup 38 = .ok (.ifCond .eq (50), 3) := by decide +kernel
theorem d_Md_leastGroup_41 : decode cc_Md_leastGroup 41 = .ok (.iload_n 2, 1) := by decide +kernel
theorem d_Md_leastGroup_42 : decode cc_Md_leastGroup 42 = .ok (.ifCond .lt (46), 3) := by decide +kernel
theorem d_Md_leastGroup_45 : decode cc_Md_leastGroup 45 = .ok (.aload_n 0, 1) := by decide +kernel
theorem d_Md_leastGroup_46 : decode cc_Md_leastGroup 46 = .ok (.iload_n 2, 1) := by decide +kernel
theorem d_Md_leastGroup_47 : decode cc_Md_leastGroup 47 = .ok (.invokevirtual 249, 3) := by decide +kernel
theorem d_Md_leastGroup_50 : decode cc_Md_leastGroup 50 = .ok (.istore 6, 2) := by decide +kernel
theorem d_Md_leastGroup_52 : decode cc_Md_leastGroup 52 = .ok (.iload 4, 2) := by decide +kernel
theorem d_Md_leastGroup_54 : decode cc_Md_leastGroup 54 = .ok (.iload 6, 2) := by decide +kernel
theorem d_Md_leastGroup_56 : decode cc_Md_leastGroup 56 = .ok (.if_icmp .lt (25), 3) := by decide +kernel
theorem d_Md_leastGroup_59 : decode cc_Md_leastGroup 59 = .ok (.iload 4, 2) := by decide +kernel
theorem d_Md_leastGroup_61 : decode cc_Md_leastGroup 61 = .ok (.iload 6, 2) := by decide +kernel
theorem d_Md_leastGroup_63 : decode cc_Md_leastGroup 63 = .ok (.if_icmp .ne (22), 3) := by decide +kernel
theorem d_Md_leastGroup_66 : decode cc_Md_leastGroup 66 = .ok (.aload_n 0, 1) := by decide +kernel
theorem d_Md_leastGroup_67 : decode cc_Md_leastGroup 67 = .ok (.getfield 80, 3) := by decide +kernel
theorem d_Md_leastGroup_70 : decode cc_Md_leastGroup 70 = .ok (.iload_n 3, 1) := by decide +kernel
theorem d_Md_leastGroup_71 : decode cc_Md_leastGroup 71 = .ok (.iaload, 1) := by decide +kernel
theorem d_Md_leastGroup_72 : decode cc_Md_leastGroup 72 = .ok (.aload_n 0, 1) := by decide +kernel
theorem d_Md_leastGroup_73 : decode cc_Md_leastGroup 73 = .ok (.getfield 80, 3) := by decide +kernel
theorem d_Md_leastGroup_76 : decode cc_Md_leastGroup 76 = .ok (.iload_n 2, 1) := by decide +kernel
theorem d_Md_leastGroup_77 : decode cc_Md_leastGroup 77 = .ok (.iaload, 1) := by decide +kernel
theorem d_Md_leastGroup_78 : decode cc_Md_leastGroup 78 = .ok (.if_icmp .ge (7), 3) := by decide +kernel
theorem d_Md_leastGroup_81 : decode cc_Md_leastGroup 81 = .ok (.iconst 1, 1) := by decide +kernel
theorem d_Md_leastGroup_82 : decode cc_Md_leastGroup 82 = .ok (.goto (4), 3) := by decide +kernel
theorem d_Md_leastGroup_85 : decode cc_Md_leastGroup 85 = .ok (.iconst 0, 1) := by decide +kernel
theorem d_Md_leastGroup_86 : decode cc_Md_leastGroup 86 = .ok (.istore 5, 2) := by decide +kernel
theorem d_Md_leastGroup_88 : decode cc_Md_leastGroup 88 = .ok (.iload 5, 2) := by decide +kernel
theorem d_Md_leastGroup_90 : decode cc_Md_leastGroup 90 = .ok (.ifCond .eq (7), 3) := by decide +kernel
theorem d_Md_leastGroup_93 : decode cc_Md_leastGroup 93 = .ok (.iload_n 3, 1) := by decide +kernel
theorem d_Md_leastGroup_94 : decode cc_Md_leastGroup 94 = .ok (.goto (4), 3) := by decide +kernel
theorem d_Md_leastGroup_97 : decode cc_Md_leastGroup 97 = .ok (.iload_n 2, 1) := by decide +kernel
theorem d_Md_leastGroup_98 : decode cc_Md_leastGroup 98 = .ok (.istore_n 2, 1) := by decide +kernel
theorem d_Md_leastGroup_99 : decode cc_Md_leastGroup 99 = .ok (.iinc 3 (1), 3) := by decide +kernel
theorem d_Md_leastGroup_102 : decode cc_Md_leastGroup 102 = .ok (.goto (-98), 3) := by decide +kernel
theorem d_Md_leastGroup_105 : decode cc_Md_leastGroup 105 = .ok (.iload_n 2, 1) := by decide +kernel
theorem d_Md_leastGroup_106 : decode cc_Md_leastGroup 106 = .ok (.ireturn, 1) := by decide +kernel
section
variable {p : Program} {l : Launch} {e : Env} {s : State} {m : MethodId} {args : Array Value} {below : List Frame} {meth : Method} {c : Code} {X : Xs} {L : La}
def b_Md_leastGroup_98 (L : La) (k4 : Nat → Int32 → Int32 → Int32 → Mem → Option (Int32 × Mem)) (i0 : Nat) (x1 : Int32) (x3 : Int32) (y0 : Int32) (F : Mem) : Option (Int32 × Mem) :=
  k4 i0 x1 y0 (x3 + (1 : Int32)) F
set_option maxHeartbeats 4000000 in
theorem t_Md_leastGroup_98 (hC : Cx X L p s m args meth c cc_Md_leastGroup 7 w_Md_leastGroup R_Md (some .int)) {k4 : Nat → Int32 → Int32 → Int32 → Mem → Option (Int32 × Mem)} {out : (Int32 × Mem)} (hk4 : ∀ (i0 : Nat) (x1 : Int32) (x2 : Int32) (x3 : Int32) (F : Mem) (H : Heap) (locs : List Loc) (ls : Array Slot), oO L 12 i0 → Iv X L s H locs F → lv_has ls 7 [(0, .ref (mAd X i0)), (1, .int x1), (2, .int x2), (3, .int x3)] → k4 i0 x1 x2 x3 F = some out → W p l e (headSpec w_Md_leastGroup r_Md_leastGroup).room s m args below meth c H locs 0 0 (MQ below (QI X L out) args s 0 0 (AA X L)) (F0 m 4 ls [])) {i0 : Nat} {x1 : Int32} {x3 : Int32} {y0 : Int32} {F : Mem} {H : Heap} {locs : List Loc} {ls : Array Slot} (o0 : oO L 12 i0) (hI : Iv X L s H locs F) (hl : lv_has ls 7 [(0, .ref (mAd X i0)), (1, .int x1), (3, .int x3)]) (h : b_Md_leastGroup_98 L k4 i0 x1 x3 y0 F = some out) : W p l e (headSpec w_Md_leastGroup r_Md_leastGroup).room s m args below meth c H locs 0 0 (MQ below (QI X L out) args s 0 0 (AA X L)) (F0 m 98 ls [.int y0]) := by
  unfold b_Md_leastGroup_98 at h
  obtain ⟨S, hK, hT, hW, hr, hlk⟩ := id hC
  have hx := S.1
  have hb := S.2.1
  refine lv_istore_n (lv' := [(2, .int y0), (0, .ref (mAd X i0)), (1, .int x1), (3, .int x3)]) hx hb d_Md_leastGroup_98 rfl hl (by decide) rfl (fun ls hl => ?_)
  refine lv_iinc (k := 3) (v := x3 + (1 : Int32)) (lv' := [(3, .int (x3 + (1 : Int32))), (2, .int y0), (0, .ref (mAd X i0)), (1, .int x1)]) hx hb d_Md_leastGroup_99 hl rfl rfl (by decide) rfl (fun ls hl => ?_)
  refine lv_goto (tgt := 4) hx hb d_Md_leastGroup_102 rfl ?_
  exact hk4 _ _ _ _ _ _ _ _ o0 hI (lv_sub hl [2, 3, 1, 0] rfl) h
def b_Md_leastGroup_88 (L : La) (k4 : Nat → Int32 → Int32 → Int32 → Mem → Option (Int32 × Mem)) (i0 : Nat) (x1 : Int32) (x2 : Int32) (x3 : Int32) (x5 : Int32) (F : Mem) : Option (Int32 × Mem) :=
  if x5 = 0 then
    b_Md_leastGroup_98 L k4 i0 x1 x3 x2 F
  else
    b_Md_leastGroup_98 L k4 i0 x1 x3 x3 F
set_option maxHeartbeats 4000000 in
theorem t_Md_leastGroup_88 (hC : Cx X L p s m args meth c cc_Md_leastGroup 7 w_Md_leastGroup R_Md (some .int)) {k4 : Nat → Int32 → Int32 → Int32 → Mem → Option (Int32 × Mem)} {out : (Int32 × Mem)} (hk4 : ∀ (i0 : Nat) (x1 : Int32) (x2 : Int32) (x3 : Int32) (F : Mem) (H : Heap) (locs : List Loc) (ls : Array Slot), oO L 12 i0 → Iv X L s H locs F → lv_has ls 7 [(0, .ref (mAd X i0)), (1, .int x1), (2, .int x2), (3, .int x3)] → k4 i0 x1 x2 x3 F = some out → W p l e (headSpec w_Md_leastGroup r_Md_leastGroup).room s m args below meth c H locs 0 0 (MQ below (QI X L out) args s 0 0 (AA X L)) (F0 m 4 ls [])) {i0 : Nat} {x1 : Int32} {x2 : Int32} {x3 : Int32} {x5 : Int32} {F : Mem} {H : Heap} {locs : List Loc} {ls : Array Slot} (o0 : oO L 12 i0) (hI : Iv X L s H locs F) (hl : lv_has ls 7 [(0, .ref (mAd X i0)), (1, .int x1), (2, .int x2), (3, .int x3), (5, .int x5)]) (h : b_Md_leastGroup_88 L k4 i0 x1 x2 x3 x5 F = some out) : W p l e (headSpec w_Md_leastGroup r_Md_leastGroup).room s m args below meth c H locs 0 0 (MQ below (QI X L out) args s 0 0 (AA X L)) (F0 m 88 ls []) := by
  unfold b_Md_leastGroup_88 at h
  obtain ⟨S, hK, hT, hW, hr, hlk⟩ := id hC
  have hx := S.1
  have hb := S.2.1
  refine lv_iload hx hb d_Md_leastGroup_88 (lv_at hl 4 rfl) ?_
  refine lv_if_eq (tgt := 97) hx hb d_Md_leastGroup_90 rfl (fun hc => ?_) (fun hc => ?_)
  · replace h := (if_pos hc).symm.trans h
    refine lv_iload_n hx hb d_Md_leastGroup_97 rfl (lv_at hl 2 rfl) ?_
    exact t_Md_leastGroup_98 hC hk4 o0 hI (lv_sub hl [0, 1, 3] rfl) h
  · replace h := (if_neg hc).symm.trans h
    refine lv_iload_n hx hb d_Md_leastGroup_93 rfl (lv_at hl 3 rfl) ?_
    refine lv_goto (tgt := 98) hx hb d_Md_leastGroup_94 rfl ?_
    exact t_Md_leastGroup_98 hC hk4 o0 hI (lv_sub hl [0, 1, 3] rfl) h
def b_Md_leastGroup_86 (L : La) (k4 : Nat → Int32 → Int32 → Int32 → Mem → Option (Int32 × Mem)) (i0 : Nat) (x1 : Int32) (x2 : Int32) (x3 : Int32) (y0 : Int32) (F : Mem) : Option (Int32 × Mem) :=
  b_Md_leastGroup_88 L k4 i0 x1 x2 x3 y0 F
set_option maxHeartbeats 4000000 in
theorem t_Md_leastGroup_86 (hC : Cx X L p s m args meth c cc_Md_leastGroup 7 w_Md_leastGroup R_Md (some .int)) {k4 : Nat → Int32 → Int32 → Int32 → Mem → Option (Int32 × Mem)} {out : (Int32 × Mem)} (hk4 : ∀ (i0 : Nat) (x1 : Int32) (x2 : Int32) (x3 : Int32) (F : Mem) (H : Heap) (locs : List Loc) (ls : Array Slot), oO L 12 i0 → Iv X L s H locs F → lv_has ls 7 [(0, .ref (mAd X i0)), (1, .int x1), (2, .int x2), (3, .int x3)] → k4 i0 x1 x2 x3 F = some out → W p l e (headSpec w_Md_leastGroup r_Md_leastGroup).room s m args below meth c H locs 0 0 (MQ below (QI X L out) args s 0 0 (AA X L)) (F0 m 4 ls [])) {i0 : Nat} {x1 : Int32} {x2 : Int32} {x3 : Int32} {y0 : Int32} {F : Mem} {H : Heap} {locs : List Loc} {ls : Array Slot} (o0 : oO L 12 i0) (hI : Iv X L s H locs F) (hl : lv_has ls 7 [(0, .ref (mAd X i0)), (1, .int x1), (2, .int x2), (3, .int x3)]) (h : b_Md_leastGroup_86 L k4 i0 x1 x2 x3 y0 F = some out) : W p l e (headSpec w_Md_leastGroup r_Md_leastGroup).room s m args below meth c H locs 0 0 (MQ below (QI X L out) args s 0 0 (AA X L)) (F0 m 86 ls [.int y0]) := by
  unfold b_Md_leastGroup_86 at h
  obtain ⟨S, hK, hT, hW, hr, hlk⟩ := id hC
  have hx := S.1
  have hb := S.2.1
  refine lv_istore (lv' := [(5, .int y0), (0, .ref (mAd X i0)), (1, .int x1), (2, .int x2), (3, .int x3)]) hx hb d_Md_leastGroup_86 hl (by decide) rfl (fun ls hl => ?_)
  exact t_Md_leastGroup_88 hC hk4 o0 hI (lv_sub hl [1, 2, 3, 4, 0] rfl) h
def b_Md_leastGroup_81 (L : La) (k4 : Nat → Int32 → Int32 → Int32 → Mem → Option (Int32 × Mem)) (i0 : Nat) (x1 : Int32) (x2 : Int32) (x3 : Int32) (F : Mem) : Option (Int32 × Mem) :=
  b_Md_leastGroup_86 L k4 i0 x1 x2 x3 (1 : Int32) F
set_option maxHeartbeats 4000000 in
theorem t_Md_leastGroup_81 (hC : Cx X L p s m args meth c cc_Md_leastGroup 7 w_Md_leastGroup R_Md (some .int)) {k4 : Nat → Int32 → Int32 → Int32 → Mem → Option (Int32 × Mem)} {out : (Int32 × Mem)} (hk4 : ∀ (i0 : Nat) (x1 : Int32) (x2 : Int32) (x3 : Int32) (F : Mem) (H : Heap) (locs : List Loc) (ls : Array Slot), oO L 12 i0 → Iv X L s H locs F → lv_has ls 7 [(0, .ref (mAd X i0)), (1, .int x1), (2, .int x2), (3, .int x3)] → k4 i0 x1 x2 x3 F = some out → W p l e (headSpec w_Md_leastGroup r_Md_leastGroup).room s m args below meth c H locs 0 0 (MQ below (QI X L out) args s 0 0 (AA X L)) (F0 m 4 ls [])) {i0 : Nat} {x1 : Int32} {x2 : Int32} {x3 : Int32} {F : Mem} {H : Heap} {locs : List Loc} {ls : Array Slot} (o0 : oO L 12 i0) (hI : Iv X L s H locs F) (hl : lv_has ls 7 [(0, .ref (mAd X i0)), (1, .int x1), (2, .int x2), (3, .int x3)]) (h : b_Md_leastGroup_81 L k4 i0 x1 x2 x3 F = some out) : W p l e (headSpec w_Md_leastGroup r_Md_leastGroup).room s m args below meth c H locs 0 0 (MQ below (QI X L out) args s 0 0 (AA X L)) (F0 m 81 ls []) := by
  unfold b_Md_leastGroup_81 at h
  obtain ⟨S, hK, hT, hW, hr, hlk⟩ := id hC
  have hx := S.1
  have hb := S.2.1
  refine lv_iconst (v := 1) hx hb d_Md_leastGroup_81 rfl ?_
  refine lv_goto (tgt := 86) hx hb d_Md_leastGroup_82 rfl ?_
  exact t_Md_leastGroup_86 hC hk4 o0 hI hl h
def b_Md_leastGroup_85 (L : La) (k4 : Nat → Int32 → Int32 → Int32 → Mem → Option (Int32 × Mem)) (i0 : Nat) (x1 : Int32) (x2 : Int32) (x3 : Int32) (F : Mem) : Option (Int32 × Mem) :=
  b_Md_leastGroup_86 L k4 i0 x1 x2 x3 (0 : Int32) F
set_option maxHeartbeats 4000000 in
theorem t_Md_leastGroup_85 (hC : Cx X L p s m args meth c cc_Md_leastGroup 7 w_Md_leastGroup R_Md (some .int)) {k4 : Nat → Int32 → Int32 → Int32 → Mem → Option (Int32 × Mem)} {out : (Int32 × Mem)} (hk4 : ∀ (i0 : Nat) (x1 : Int32) (x2 : Int32) (x3 : Int32) (F : Mem) (H : Heap) (locs : List Loc) (ls : Array Slot), oO L 12 i0 → Iv X L s H locs F → lv_has ls 7 [(0, .ref (mAd X i0)), (1, .int x1), (2, .int x2), (3, .int x3)] → k4 i0 x1 x2 x3 F = some out → W p l e (headSpec w_Md_leastGroup r_Md_leastGroup).room s m args below meth c H locs 0 0 (MQ below (QI X L out) args s 0 0 (AA X L)) (F0 m 4 ls [])) {i0 : Nat} {x1 : Int32} {x2 : Int32} {x3 : Int32} {F : Mem} {H : Heap} {locs : List Loc} {ls : Array Slot} (o0 : oO L 12 i0) (hI : Iv X L s H locs F) (hl : lv_has ls 7 [(0, .ref (mAd X i0)), (1, .int x1), (2, .int x2), (3, .int x3)]) (h : b_Md_leastGroup_85 L k4 i0 x1 x2 x3 F = some out) : W p l e (headSpec w_Md_leastGroup r_Md_leastGroup).room s m args below meth c H locs 0 0 (MQ below (QI X L out) args s 0 0 (AA X L)) (F0 m 85 ls []) := by
  unfold b_Md_leastGroup_85 at h
  obtain ⟨S, hK, hT, hW, hr, hlk⟩ := id hC
  have hx := S.1
  have hb := S.2.1
  refine lv_iconst (v := 0) hx hb d_Md_leastGroup_85 rfl ?_
  exact t_Md_leastGroup_86 hC hk4 o0 hI hl h
def b_Md_leastGroup_34 (L : La) (k4 : Nat → Int32 → Int32 → Int32 → Mem → Option (Int32 × Mem)) (i0 : Nat) (x1 : Int32) (x2 : Int32) (x3 : Int32) (x4 : Int32) (y0 : Int32) (F : Mem) : Option (Int32 × Mem) :=
  if y0 = 0 then
    b_Md_leastGroup_88 L k4 i0 x1 x2 x3 y0 F
  else
    if x2 < 0 then
      b_Md_leastGroup_88 L k4 i0 x1 x2 x3 y0 F
    else
      (f_Md_countOf L i0 x2 F).bind fun q1 =>
      if x4 < q1.1 then
        b_Md_leastGroup_81 L k4 i0 x1 x2 x3 q1.2
      else
        if x4 = q1.1 then
          if inb x3 (mGl L (mRf L i0 40)) then none else
          if inb x2 (mGl L (mRf L i0 40)) then none else
          if (mGa L q1.2 (mRf L i0 40) x2.toNatClampNeg) ≤ (mGa L q1.2 (mRf L i0 40) x3.toNatClampNeg) then
            b_Md_leastGroup_85 L k4 i0 x1 x2 x3 q1.2
          else
            b_Md_leastGroup_81 L k4 i0 x1 x2 x3 q1.2
        else
          b_Md_leastGroup_85 L k4 i0 x1 x2 x3 q1.2
set_option maxHeartbeats 4000000 in
theorem t_Md_leastGroup_34 (hC : Cx X L p s m args meth c cc_Md_leastGroup 7 w_Md_leastGroup R_Md (some .int)) {k4 : Nat → Int32 → Int32 → Int32 → Mem → Option (Int32 × Mem)} {out : (Int32 × Mem)} (hk4 : ∀ (i0 : Nat) (x1 : Int32) (x2 : Int32) (x3 : Int32) (F : Mem) (H : Heap) (locs : List Loc) (ls : Array Slot), oO L 12 i0 → Iv X L s H locs F → lv_has ls 7 [(0, .ref (mAd X i0)), (1, .int x1), (2, .int x2), (3, .int x3)] → k4 i0 x1 x2 x3 F = some out → W p l e (headSpec w_Md_leastGroup r_Md_leastGroup).room s m args below meth c H locs 0 0 (MQ below (QI X L out) args s 0 0 (AA X L)) (F0 m 4 ls [])) {i0 : Nat} {x1 : Int32} {x2 : Int32} {x3 : Int32} {x4 : Int32} {y0 : Int32} {F : Mem} {H : Heap} {locs : List Loc} {ls : Array Slot} (o0 : oO L 12 i0) (hI : Iv X L s H locs F) (hl : lv_has ls 7 [(0, .ref (mAd X i0)), (1, .int x1), (2, .int x2), (3, .int x3), (4, .int x4)]) (h : b_Md_leastGroup_34 L k4 i0 x1 x2 x3 x4 y0 F = some out) : W p l e (headSpec w_Md_leastGroup r_Md_leastGroup).room s m args below meth c H locs 0 0 (MQ below (QI X L out) args s 0 0 (AA X L)) (F0 m 34 ls [.int y0]) := by
  unfold b_Md_leastGroup_34 at h
  obtain ⟨S, hK, hT, hW, hr, hlk⟩ := id hC
  have hx := S.1
  have hb := S.2.1
  refine lv_istore (lv' := [(5, .int y0), (0, .ref (mAd X i0)), (1, .int x1), (2, .int x2), (3, .int x3), (4, .int x4)]) hx hb d_Md_leastGroup_34 hl (by decide) rfl (fun ls hl => ?_)
  refine lv_iload hx hb d_Md_leastGroup_36 (lv_at hl 0 rfl) ?_
  refine lv_if_eq (tgt := 88) hx hb d_Md_leastGroup_38 rfl (fun hc => ?_) (fun hc => ?_)
  · replace h := (if_pos hc).symm.trans h
    exact t_Md_leastGroup_88 hC hk4 o0 hI (lv_sub hl [1, 2, 3, 4, 0] rfl) h
  · replace h := (if_neg hc).symm.trans h
    refine lv_iload_n hx hb d_Md_leastGroup_41 rfl (lv_at hl 3 rfl) ?_
    refine lv_if_lt (tgt := 88) hx hb d_Md_leastGroup_42 rfl (fun hc => ?_) (fun hc => ?_)
    · replace h := (if_pos hc).symm.trans h
      exact t_Md_leastGroup_88 hC hk4 o0 hI (lv_sub hl [1, 2, 3, 4, 0] rfl) h
    · replace h := (if_neg hc).symm.trans h
      refine lv_aload_n hx hb d_Md_leastGroup_45 rfl (lv_at hl 1 rfl) ?_
      refine lv_iload_n hx hb d_Md_leastGroup_46 rfl (lv_at hl 3 rfl) ?_
      obtain ⟨q1, e2, h⟩ := un_bi h
      refine w_callVi (As := [.int x2]) (rest := []) S hK hI hT (c_Md_countOf l hW o0 e2) (cwV 1 S.2.2.2.2 (gd_V lc_Md_countOf lm_Md_249 li_Md_countOf ls_Md_countOf ln_Md) rfl rfl rfl hd_Md_countOf ⟨Nat.le_of_ble_eq_true rfl, Nat.le_of_ble_eq_true rfl⟩) o0 rfl (by decide) rfl rfl hl.1 (Nat.le_of_ble_eq_true rfl) d_Md_leastGroup_47 ⟨Nat.zero_le _, Nat.zero_le _⟩ (fun H locs hI => ?_)
      refine lv_istore (lv' := [(6, .int q1.1), (5, .int y0), (0, .ref (mAd X i0)), (1, .int x1), (2, .int x2), (3, .int x3), (4, .int x4)]) hx hb d_Md_leastGroup_50 hl (by decide) rfl (fun ls hl => ?_)
      refine lv_iload hx hb d_Md_leastGroup_52 (lv_at hl 6 rfl) ?_
      refine lv_iload hx hb d_Md_leastGroup_54 (lv_at hl 0 rfl) ?_
      refine lv_icmp_lt (tgt := 81) hx hb d_Md_leastGroup_56 rfl (fun hc => ?_) (fun hc => ?_)
      · replace h := (if_pos hc).symm.trans h
        exact t_Md_leastGroup_81 hC hk4 o0 hI (lv_sub hl [2, 3, 4, 5] rfl) h
      · replace h := (if_neg hc).symm.trans h
        refine lv_iload hx hb d_Md_leastGroup_59 (lv_at hl 6 rfl) ?_
        refine lv_iload hx hb d_Md_leastGroup_61 (lv_at hl 0 rfl) ?_
        refine lv_icmp_ne (tgt := 85) hx hb d_Md_leastGroup_63 rfl (fun hc => ?_) (fun hc => ?_)
        · replace h := (if_neg hc).symm.trans h
          exact t_Md_leastGroup_85 hC hk4 o0 hI (lv_sub hl [2, 3, 4, 5] rfl) h
        · replace h := (if_pos hc).symm.trans h
          refine lv_aload_n hx hb d_Md_leastGroup_66 rfl (lv_at hl 2 rfl) ?_
          have p3 := wt_a hW o0 40 rfl (by decide) (by decide)
          refine w_getR (T := T_Md) S hK hI o0 rfl hin_Md 40 (index := 80) (by decide) lf_Md_80 d_Md_leastGroup_67 ?_
          refine lv_iload_n hx hb d_Md_leastGroup_70 rfl (lv_at hl 5 rfl) ?_
          obtain ⟨z4, h⟩ := un_if h
          refine w_iald S hK hI hT p3 z4 d_Md_leastGroup_71 ?_
          refine lv_aload_n hx hb d_Md_leastGroup_72 rfl (lv_at hl 2 rfl) ?_
          have p5 := wt_a hW o0 40 rfl (by decide) (by decide)
          refine w_getR (T := T_Md) S hK hI o0 rfl hin_Md 40 (index := 80) (by decide) lf_Md_80 d_Md_leastGroup_73 ?_
          refine lv_iload_n hx hb d_Md_leastGroup_76 rfl (lv_at hl 4 rfl) ?_
          obtain ⟨z6, h⟩ := un_if h
          refine w_iald S hK hI hT p5 z6 d_Md_leastGroup_77 ?_
          refine lv_icmp_ge (tgt := 85) hx hb d_Md_leastGroup_78 rfl (fun hc => ?_) (fun hc => ?_)
          · replace h := (if_pos hc).symm.trans h
            exact t_Md_leastGroup_85 hC hk4 o0 hI (lv_sub hl [2, 3, 4, 5] rfl) h
          · replace h := (if_neg hc).symm.trans h
            exact t_Md_leastGroup_81 hC hk4 o0 hI (lv_sub hl [2, 3, 4, 5] rfl) h
def b_Md_leastGroup_33 (L : La) (k4 : Nat → Int32 → Int32 → Int32 → Mem → Option (Int32 × Mem)) (i0 : Nat) (x1 : Int32) (x2 : Int32) (x3 : Int32) (x4 : Int32) (F : Mem) : Option (Int32 × Mem) :=
  b_Md_leastGroup_34 L k4 i0 x1 x2 x3 x4 (0 : Int32) F
set_option maxHeartbeats 4000000 in
theorem t_Md_leastGroup_33 (hC : Cx X L p s m args meth c cc_Md_leastGroup 7 w_Md_leastGroup R_Md (some .int)) {k4 : Nat → Int32 → Int32 → Int32 → Mem → Option (Int32 × Mem)} {out : (Int32 × Mem)} (hk4 : ∀ (i0 : Nat) (x1 : Int32) (x2 : Int32) (x3 : Int32) (F : Mem) (H : Heap) (locs : List Loc) (ls : Array Slot), oO L 12 i0 → Iv X L s H locs F → lv_has ls 7 [(0, .ref (mAd X i0)), (1, .int x1), (2, .int x2), (3, .int x3)] → k4 i0 x1 x2 x3 F = some out → W p l e (headSpec w_Md_leastGroup r_Md_leastGroup).room s m args below meth c H locs 0 0 (MQ below (QI X L out) args s 0 0 (AA X L)) (F0 m 4 ls [])) {i0 : Nat} {x1 : Int32} {x2 : Int32} {x3 : Int32} {x4 : Int32} {F : Mem} {H : Heap} {locs : List Loc} {ls : Array Slot} (o0 : oO L 12 i0) (hI : Iv X L s H locs F) (hl : lv_has ls 7 [(0, .ref (mAd X i0)), (1, .int x1), (2, .int x2), (3, .int x3), (4, .int x4)]) (h : b_Md_leastGroup_33 L k4 i0 x1 x2 x3 x4 F = some out) : W p l e (headSpec w_Md_leastGroup r_Md_leastGroup).room s m args below meth c H locs 0 0 (MQ below (QI X L out) args s 0 0 (AA X L)) (F0 m 33 ls []) := by
  unfold b_Md_leastGroup_33 at h
  obtain ⟨S, hK, hT, hW, hr, hlk⟩ := id hC
  have hx := S.1
  have hb := S.2.1
  refine lv_iconst (v := 0) hx hb d_Md_leastGroup_33 rfl ?_
  exact t_Md_leastGroup_34 hC hk4 o0 hI hl h
def b_Md_leastGroup_4 (L : La) (k4 : Nat → Int32 → Int32 → Int32 → Mem → Option (Int32 × Mem)) (i0 : Nat) (x1 : Int32) (x2 : Int32) (x3 : Int32) (F : Mem) : Option (Int32 × Mem) :=
  if (F i0 17) < x3 then
    some (x2, F)
  else
    (f_Md_countOf L i0 x3 F).bind fun q1 =>
    if x3 = x1 then
      b_Md_leastGroup_33 L k4 i0 x1 x2 x3 q1.1 q1.2
    else
      if q1.1 ≤ 0 then
        b_Md_leastGroup_33 L k4 i0 x1 x2 x3 q1.1 q1.2
      else
        b_Md_leastGroup_34 L k4 i0 x1 x2 x3 q1.1 (1 : Int32) q1.2
set_option maxHeartbeats 4000000 in
theorem t_Md_leastGroup_4 (hC : Cx X L p s m args meth c cc_Md_leastGroup 7 w_Md_leastGroup R_Md (some .int)) {k4 : Nat → Int32 → Int32 → Int32 → Mem → Option (Int32 × Mem)} {out : (Int32 × Mem)} (hk4 : ∀ (i0 : Nat) (x1 : Int32) (x2 : Int32) (x3 : Int32) (F : Mem) (H : Heap) (locs : List Loc) (ls : Array Slot), oO L 12 i0 → Iv X L s H locs F → lv_has ls 7 [(0, .ref (mAd X i0)), (1, .int x1), (2, .int x2), (3, .int x3)] → k4 i0 x1 x2 x3 F = some out → W p l e (headSpec w_Md_leastGroup r_Md_leastGroup).room s m args below meth c H locs 0 0 (MQ below (QI X L out) args s 0 0 (AA X L)) (F0 m 4 ls [])) {i0 : Nat} {x1 : Int32} {x2 : Int32} {x3 : Int32} {F : Mem} {H : Heap} {locs : List Loc} {ls : Array Slot} (o0 : oO L 12 i0) (hI : Iv X L s H locs F) (hl : lv_has ls 7 [(0, .ref (mAd X i0)), (1, .int x1), (2, .int x2), (3, .int x3)]) (h : b_Md_leastGroup_4 L k4 i0 x1 x2 x3 F = some out) : W p l e (headSpec w_Md_leastGroup r_Md_leastGroup).room s m args below meth c H locs 0 0 (MQ below (QI X L out) args s 0 0 (AA X L)) (F0 m 4 ls []) := by
  unfold b_Md_leastGroup_4 at h
  obtain ⟨S, hK, hT, hW, hr, hlk⟩ := id hC
  have hx := S.1
  have hb := S.2.1
  refine lv_iload_n hx hb d_Md_leastGroup_4 rfl (lv_at hl 3 rfl) ?_
  refine lv_aload_n hx hb d_Md_leastGroup_5 rfl (lv_at hl 0 rfl) ?_
  refine w_getI (T := T_Md) S hK hI o0 rfl hin_Md 17 (index := 172) (by decide) lf_Md_172 d_Md_leastGroup_6 ?_
  refine lv_icmp_gt (tgt := 105) hx hb d_Md_leastGroup_9 rfl (fun hc => ?_) (fun hc => ?_)
  · replace h := (if_pos hc).symm.trans h
    refine lv_iload_n hx hb d_Md_leastGroup_105 rfl (lv_at hl 2 rfl) ?_
    exact w_iret S hK hr hlk hI d_Md_leastGroup_106 h
  · replace h := (if_neg hc).symm.trans h
    refine lv_aload_n hx hb d_Md_leastGroup_12 rfl (lv_at hl 0 rfl) ?_
    refine lv_iload_n hx hb d_Md_leastGroup_13 rfl (lv_at hl 3 rfl) ?_
    obtain ⟨q1, e2, h⟩ := un_bi h
    refine w_callVi (As := [.int x3]) (rest := []) S hK hI hT (c_Md_countOf l hW o0 e2) (cwV 1 S.2.2.2.2 (gd_V lc_Md_countOf lm_Md_249 li_Md_countOf ls_Md_countOf ln_Md) rfl rfl rfl hd_Md_countOf ⟨Nat.le_of_ble_eq_true rfl, Nat.le_of_ble_eq_true rfl⟩) o0 rfl (by decide) rfl rfl hl.1 (Nat.le_of_ble_eq_true rfl) d_Md_leastGroup_14 ⟨Nat.zero_le _, Nat.zero_le _⟩ (fun H locs hI => ?_)
    refine lv_istore (lv' := [(4, .int q1.1), (0, .ref (mAd X i0)), (1, .int x1), (2, .int x2), (3, .int x3)]) hx hb d_Md_leastGroup_17 hl (by decide) rfl (fun ls hl => ?_)
    refine lv_iload_n hx hb d_Md_leastGroup_19 rfl (lv_at hl 4 rfl) ?_
    refine lv_iload_n hx hb d_Md_leastGroup_20 rfl (lv_at hl 2 rfl) ?_
    refine lv_icmp_eq (tgt := 33) hx hb d_Md_leastGroup_21 rfl (fun hc => ?_) (fun hc => ?_)
    · replace h := (if_pos hc).symm.trans h
      exact t_Md_leastGroup_33 hC hk4 o0 hI (lv_sub hl [1, 2, 3, 4, 0] rfl) h
    · replace h := (if_neg hc).symm.trans h
      refine lv_iload hx hb d_Md_leastGroup_24 (lv_at hl 0 rfl) ?_
      refine lv_if_le (tgt := 33) hx hb d_Md_leastGroup_26 rfl (fun hc => ?_) (fun hc => ?_)
      · replace h := (if_pos hc).symm.trans h
        exact t_Md_leastGroup_33 hC hk4 o0 hI (lv_sub hl [1, 2, 3, 4, 0] rfl) h
      · replace h := (if_neg hc).symm.trans h
        refine lv_iconst (v := 1) hx hb d_Md_leastGroup_29 rfl ?_
        refine lv_goto (tgt := 34) hx hb d_Md_leastGroup_30 rfl ?_
        exact t_Md_leastGroup_34 hC hk4 o0 hI (lv_sub hl [1, 2, 3, 4, 0] rfl) h
def f_Md_leastGroup_4 (L : La)  : Nat → Nat → Int32 → Int32 → Int32 → Mem → Option (Int32 × Mem)
  | 0 => fun _ _ _ _ _ => none
  | n + 1 => b_Md_leastGroup_4 L (f_Md_leastGroup_4 L  n)
theorem tf_Md_leastGroup_4 (hC : Cx X L p s m args meth c cc_Md_leastGroup 7 w_Md_leastGroup R_Md (some .int))  {out : (Int32 × Mem)}  (n : Nat) : ∀ (i0 : Nat) (x1 : Int32) (x2 : Int32) (x3 : Int32) (F : Mem) (H : Heap) (locs : List Loc) (ls : Array Slot), oO L 12 i0 → Iv X L s H locs F → lv_has ls 7 [(0, .ref (mAd X i0)), (1, .int x1), (2, .int x2), (3, .int x3)] → f_Md_leastGroup_4 L  n i0 x1 x2 x3 F = some out → W p l e (headSpec w_Md_leastGroup r_Md_leastGroup).room s m args below meth c H locs 0 0 (MQ below (QI X L out) args s 0 0 (AA X L)) (F0 m 4 ls []) := by
  induction n with
  | zero => intro i0 x1 x2 x3 F H locs ls o0 hI hl h; cases h
  | succ n ih => intro i0 x1 x2 x3 F H locs ls o0 hI hl h; exact t_Md_leastGroup_4 hC ih o0 hI hl h
def f_Md_leastGroup (L : La) (i0 : Nat) (x1 : Int32) (F : Mem) : Option (Int32 × Mem) :=
  f_Md_leastGroup_4 L  mFU i0 x1 (-1 : Int32) (0 : Int32) F
set_option maxHeartbeats 4000000 in
theorem c_Md_leastGroup (l : Launch) {X : Xs} {L : La} (hW : WT L) {out : (Int32 × Mem)} {i0 : Nat} {x1 : Int32} {F : Mem} (o0 : oO L 12 i0) (h : f_Md_leastGroup L i0 x1 F = some out) : Met l y_Md_leastGroup w_Md_leastGroup r_Md_leastGroup (va_Pc [.ref (mAd X i0), .int x1] (Pr X L F)) (QI X L out) 0 0 (AA X L) := by
  refine mk_met (by decide) rfl (Nat.le_of_ble_eq_true rfl) hW ?_
  intro p e s m args below meth c ls hC hI hl
  have hl : lv_has ls 7 [(0, .ref (mAd X i0)), (1, .int x1)] := hl
  generalize hHe : s.heap = H at hI ⊢
  generalize ([] : List Loc) = locs at hI ⊢
  unfold f_Md_leastGroup at h
  obtain ⟨S, hK, hT, hW, hr, hlk⟩ := id hC
  have hx := S.1
  have hb := S.2.1
  refine lv_iconst (v := -1) hx hb d_Md_leastGroup_0 rfl ?_
  refine lv_istore_n (lv' := [(2, .int (-1 : Int32)), (0, .ref (mAd X i0)), (1, .int x1)]) hx hb d_Md_leastGroup_1 rfl hl (by decide) rfl (fun ls hl => ?_)
  refine lv_iconst (v := 0) hx hb d_Md_leastGroup_2 rfl ?_
  refine lv_istore_n (lv' := [(3, .int (0 : Int32)), (2, .int (-1 : Int32)), (0, .ref (mAd X i0)), (1, .int x1)]) hx hb d_Md_leastGroup_3 rfl hl (by decide) rfl (fun ls hl => ?_)
  exact tf_Md_leastGroup_4 hC  mFU _ _ _ _ _ _ _ _ o0 hI (lv_sub hl [2, 3, 1, 0] rfl) h
end
theorem d_Md_join_0 : decode cc_Md_join 0 = .ok (.iload_n 1, 1) := by decide +kernel
theorem d_Md_join_1 : decode cc_Md_join 1 = .ok (.iload_n 2, 1) := by decide +kernel
theorem d_Md_join_2 : decode cc_Md_join 2 = .ok (.if_icmp .ge (7), 3) := by decide +kernel
theorem d_Md_join_5 : decode cc_Md_join 5 = .ok (.iload_n 1, 1) := by decide +kernel
theorem d_Md_join_6 : decode cc_Md_join 6 = .ok (.goto (4), 3) := by decide +kernel
theorem d_Md_join_9 : decode cc_Md_join 9 = .ok (.iload_n 2, 1) := by decide +kernel
theorem d_Md_join_10 : decode cc_Md_join 10 = .ok (.istore 4, 2) := by decide +kernel
theorem d_Md_join_12 : decode cc_Md_join 12 = .ok (.iconst 0, 1) := by decide +kernel
theorem d_Md_join_13 : decode cc_Md_join 13 = .ok (.istore 5, 2) := by decide +kernel
theorem d_Md_join_15 : decode cc_Md_join 15 = .ok (.iload 5, 2) := by decide +kernel
theorem d_Md_join_17 : decode cc_Md_join 17 = .ok (.aload_n 0, 1) := by decide +kernel
theorem d_Md_join_18 : decode cc_Md_join 18 = .ok (.getfield 172, 3) := by decide +kernel
theorem d_Md_join_21 : decode cc_Md_join 21 = .ok (.if_icmp .gt (61), 3) := by decide +kernel
theorem d_Md_join_24 : decode cc_Md_join 24 = .ok (.aload_n 0, 1) := by decide +kernel
theorem d_Md_join_25 : decode cc_Md_join 25 = .ok (.getfield 74, 3) := by decide +kernel
theorem d_Md_join_28 : decode cc_Md_join 28 = .ok (.iload 5, 2) := by decide +kernel
theorem d_Md_join_30 : decode cc_Md_join 30 = .ok (.iaload, 1) := by decide +kernel
theorem d_Md_join_31 : decode cc_Md_join 31 = .ok (.ifCond .le (45), 3) := by decide +kernel
theorem d_Md_join_34 : decode cc_Md_join 34 = .ok (.aload_n 0, 1) := by decide +kernel
theorem d_Md_join_35 : decode cc_Md_join 35 = .ok (.getfield 77, 3) := by decide +kernel
theorem d_Md_join_38 : decode cc_Md_join 38 = .ok (.iload 5, 2) := by decide +kernel
theorem d_Md_join_40 : decode cc_Md_join 40 = .ok (.iaload, 1) := by decide +kernel
theorem d_Md_join_41 : decode cc_Md_join 41 = .ok (.iload_n 1, 1) := by decide +kernel
theorem d_Md_join_42 : decode cc_Md_join 42 = .ok (.if_icmp .eq (14), 3) := by decide +kernel
theorem d_Md_join_45 : decode cc_Md_join 45 = .ok (.aload_n 0, 1) := by decide +kernel
theorem d_Md_join_46 : decode cc_Md_join 46 = .ok (.getfield 77, 3) := by decide +kernel
theorem d_Md_join_49 : decode cc_Md_join 49 = .ok (.iload 5, 2) := by decide +kernel
theorem d_Md_join_51 : decode cc_Md_join 51 = .ok (.iaload, 1) := by decide +kernel
theorem d_Md_join_52 : decode cc_Md_join 52 = .ok (.iload_n 2, 1) := by decide +kernel
theorem d_Md_join_53 : decode cc_Md_join 53 = .ok (.if_icmp .ne (23), 3) := by decide +kernel
theorem d_Md_join_56 : decode cc_Md_join 56 = .ok (.aload_n 0, 1) := by decide +kernel
theorem d_Md_join_57 : decode cc_Md_join 57 = .ok (.getfield 77, 3) := by decide +kernel
theorem d_Md_join_60 : decode cc_Md_join 60 = .ok (.iload 5, 2) := by decide +kernel
theorem d_Md_join_62 : decode cc_Md_join 62 = .ok (.iload 4, 2) := by decide +kernel
theorem d_Md_join_64 : decode cc_Md_join 64 = .ok (.iastore, 1) := by decide +kernel
theorem d_Md_join_65 : decode cc_Md_join 65 = .ok (.aload_n 0, 1) := by decide +kernel
theorem d_Md_join_66 : decode cc_Md_join 66 = .ok (.getfield 83, 3) := by decide +kernel
theorem d_Md_join_69 : decode cc_Md_join 69 = .ok (.iload 5, 2) := by decide +kernel
theorem d_Md_join_71 : decode cc_Md_join 71 = .ok (.dup2, 1) := by decide +kernel
theorem d_Md_join_72 : decode cc_Md_join 72 = .ok (.iaload, 1) := by decide +kernel
theorem d_Md_join_73 : decode cc_Md_join 73 = .ok (.iconst 1, 1) := by decide +kernel
theorem d_Md_join_74 : decode cc_Md_join 74 = .ok (.iadd, 1) := by decide +kernel
theorem d_Md_join_75 : decode cc_Md_join 75 = .ok (.iastore, 1) := by decide +kernel
theorem d_Md_join_76 : decode cc_Md_join 76 = .ok (.iinc 5 (1), 3) := by decide +kernel
theorem d_Md_join_79 : decode cc_Md_join 79 = .ok (.goto (-64), 3) := by decide +kernel
theorem d_Md_join_82 : decode cc_Md_join 82 = .ok (.aload_n 0, 1) := by decide +kernel
theorem d_Md_join_83 : decode cc_Md_join 83 = .ok (.getfield 80, 3) := by decide +kernel
theorem d_Md_join_86 : decode cc_Md_join 86 = .ok (.iload 4, 2) := by decide +kernel
theorem d_Md_join_88 : decode cc_Md_join 88 = .ok (.iload_n 3, 1) := by decide +kernel
theorem d_Md_join_89 : decode cc_Md_join 89 = .ok (.iastore, 1) := by decide +kernel
theorem d_Md_join_90 : decode cc_Md_join 90 = .ok (.return_, 1) := by decide +kernel
section
variable {p : Program} {l : Launch} {e : Env} {s : State} {m : MethodId} {args : Array Value} {below : List Frame} {meth : Method} {c : Code} {X : Xs} {L : La}
def b_Md_join_76 (L : La) (k15 : Nat → Int32 → Int32 → Int32 → Int32 → Int32 → Mem → Option Mem) (i0 : Nat) (x1 : Int32) (x2 : Int32) (x3 : Int32) (x4 : Int32) (x5 : Int32) (F : Mem) : Option Mem :=
  k15 i0 x1 x2 x3 x4 (x5 + (1 : Int32)) F
set_option maxHeartbeats 4000000 in
theorem t_Md_join_76 (hC : Cx X L p s m args meth c cc_Md_join 6 w_Md_join R_Md none) {k15 : Nat → Int32 → Int32 → Int32 → Int32 → Int32 → Mem → Option Mem} {out : Mem} (hk15 : ∀ (i0 : Nat) (x1 : Int32) (x2 : Int32) (x3 : Int32) (x4 : Int32) (x5 : Int32) (F : Mem) (H : Heap) (locs : List Loc) (ls : Array Slot), oO L 12 i0 → Iv X L s H locs F → lv_has ls 6 [(0, .ref (mAd X i0)), (1, .int x1), (2, .int x2), (3, .int x3), (4, .int x4), (5, .int x5)] → k15 i0 x1 x2 x3 x4 x5 F = some out → W p l e (headSpec w_Md_join r_Md_join).room s m args below meth c H locs 0 0 (MQ below (QV X L out) args s 0 0 (AA X L)) (F0 m 15 ls [])) {i0 : Nat} {x1 : Int32} {x2 : Int32} {x3 : Int32} {x4 : Int32} {x5 : Int32} {F : Mem} {H : Heap} {locs : List Loc} {ls : Array Slot} (o0 : oO L 12 i0) (hI : Iv X L s H locs F) (hl : lv_has ls 6 [(0, .ref (mAd X i0)), (1, .int x1), (2, .int x2), (3, .int x3), (4, .int x4), (5, .int x5)]) (h : b_Md_join_76 L k15 i0 x1 x2 x3 x4 x5 F = some out) : W p l e (headSpec w_Md_join r_Md_join).room s m args below meth c H locs 0 0 (MQ below (QV X L out) args s 0 0 (AA X L)) (F0 m 76 ls []) := by
  unfold b_Md_join_76 at h
  obtain ⟨S, hK, hT, hW, hr, hlk⟩ := id hC
  have hx := S.1
  have hb := S.2.1
  refine lv_iinc (k := 5) (v := x5 + (1 : Int32)) (lv' := [(5, .int (x5 + (1 : Int32))), (0, .ref (mAd X i0)), (1, .int x1), (2, .int x2), (3, .int x3), (4, .int x4)]) hx hb d_Md_join_76 hl rfl rfl (by decide) rfl (fun ls hl => ?_)
  refine lv_goto (tgt := 15) hx hb d_Md_join_79 rfl ?_
  exact hk15 _ _ _ _ _ _ _ _ _ _ o0 hI (lv_sub hl [1, 2, 3, 4, 5, 0] rfl) h
def b_Md_join_56 (L : La) (k15 : Nat → Int32 → Int32 → Int32 → Int32 → Int32 → Mem → Option Mem) (i0 : Nat) (x1 : Int32) (x2 : Int32) (x3 : Int32) (x4 : Int32) (x5 : Int32) (F : Mem) : Option Mem :=
  if inb x5 (mLn L (mRf L i0 39)) ∨ ¬ (mRf L i0 39) < mNc L then none else
  lt' (u2 F (mRf L i0 39) x5.toNatClampNeg x4) fun F3 =>
  if inb x5 (mGl L (mRf L i0 41)) then none else
  if inb x5 (mLn L (mRf L i0 41)) ∨ ¬ (mRf L i0 41) < mNc L then none else
  lt' (u2 F3 (mRf L i0 41) x5.toNatClampNeg ((mGa L F3 (mRf L i0 41) x5.toNatClampNeg) + (1 : Int32))) fun F8 =>
  b_Md_join_76 L k15 i0 x1 x2 x3 x4 x5 F8
set_option maxHeartbeats 4000000 in
theorem t_Md_join_56 (hC : Cx X L p s m args meth c cc_Md_join 6 w_Md_join R_Md none) {k15 : Nat → Int32 → Int32 → Int32 → Int32 → Int32 → Mem → Option Mem} {out : Mem} (hk15 : ∀ (i0 : Nat) (x1 : Int32) (x2 : Int32) (x3 : Int32) (x4 : Int32) (x5 : Int32) (F : Mem) (H : Heap) (locs : List Loc) (ls : Array Slot), oO L 12 i0 → Iv X L s H locs F → lv_has ls 6 [(0, .ref (mAd X i0)), (1, .int x1), (2, .int x2), (3, .int x3), (4, .int x4), (5, .int x5)] → k15 i0 x1 x2 x3 x4 x5 F = some out → W p l e (headSpec w_Md_join r_Md_join).room s m args below meth c H locs 0 0 (MQ below (QV X L out) args s 0 0 (AA X L)) (F0 m 15 ls [])) {i0 : Nat} {x1 : Int32} {x2 : Int32} {x3 : Int32} {x4 : Int32} {x5 : Int32} {F : Mem} {H : Heap} {locs : List Loc} {ls : Array Slot} (o0 : oO L 12 i0) (hI : Iv X L s H locs F) (hl : lv_has ls 6 [(0, .ref (mAd X i0)), (1, .int x1), (2, .int x2), (3, .int x3), (4, .int x4), (5, .int x5)]) (h : b_Md_join_56 L k15 i0 x1 x2 x3 x4 x5 F = some out) : W p l e (headSpec w_Md_join r_Md_join).room s m args below meth c H locs 0 0 (MQ below (QV X L out) args s 0 0 (AA X L)) (F0 m 56 ls []) := by
  unfold b_Md_join_56 at h
  obtain ⟨S, hK, hT, hW, hr, hlk⟩ := id hC
  have hx := S.1
  have hb := S.2.1
  refine lv_aload_n hx hb d_Md_join_56 rfl (lv_at hl 0 rfl) ?_
  have p1 := wt_a hW o0 39 rfl (by decide) (by decide)
  refine w_getR (T := T_Md) S hK hI o0 rfl hin_Md 39 (index := 77) (by decide) lf_Md_77 d_Md_join_57 ?_
  refine lv_iload hx hb d_Md_join_60 (lv_at hl 5 rfl) ?_
  refine lv_iload hx hb d_Md_join_62 (lv_at hl 4 rfl) ?_
  obtain ⟨z2, h⟩ := un_if h
  refine w_iast S hK hI p1 z2 d_Md_join_64 (fun H locs F3 e4 hI => ?_)
  replace h := un_lt h _ e4
  refine lv_aload_n hx hb d_Md_join_65 rfl (lv_at hl 0 rfl) ?_
  have p5 := wt_a hW o0 41 rfl (by decide) (by decide)
  refine w_getR (T := T_Md) S hK hI o0 rfl hin_Md 41 (index := 83) (by decide) lf_Md_83 d_Md_join_66 ?_
  refine lv_iload hx hb d_Md_join_69 (lv_at hl 5 rfl) ?_
  refine lv_dup2_11 hx hb d_Md_join_71 rfl rfl ?_
  obtain ⟨z6, h⟩ := un_if h
  refine w_iald S hK hI hT p5 z6 d_Md_join_72 ?_
  refine lv_iconst (v := 1) hx hb d_Md_join_73 rfl ?_
  refine lv_iadd hx hb d_Md_join_74 ?_
  obtain ⟨z7, h⟩ := un_if h
  refine w_iast S hK hI p5 z7 d_Md_join_75 (fun H locs F8 e9 hI => ?_)
  replace h := un_lt h _ e9
  exact t_Md_join_76 hC hk15 o0 hI hl h
def b_Md_join_15 (L : La) (k15 : Nat → Int32 → Int32 → Int32 → Int32 → Int32 → Mem → Option Mem) (i0 : Nat) (x1 : Int32) (x2 : Int32) (x3 : Int32) (x4 : Int32) (x5 : Int32) (F : Mem) : Option Mem :=
  if (F i0 17) < x5 then
    if inb x4 (mLn L (mRf L i0 40)) ∨ ¬ (mRf L i0 40) < mNc L then none else
    lt' (u2 F (mRf L i0 40) x4.toNatClampNeg x3) fun F3 =>
    some F3
  else
    if inb x5 (mGl L (mRf L i0 38)) then none else
    if (mGa L F (mRf L i0 38) x5.toNatClampNeg) ≤ 0 then
      b_Md_join_76 L k15 i0 x1 x2 x3 x4 x5 F
    else
      if inb x5 (mGl L (mRf L i0 39)) then none else
      if (mGa L F (mRf L i0 39) x5.toNatClampNeg) = x1 then
        b_Md_join_56 L k15 i0 x1 x2 x3 x4 x5 F
      else
        if inb x5 (mGl L (mRf L i0 39)) then none else
        if (mGa L F (mRf L i0 39) x5.toNatClampNeg) = x2 then
          b_Md_join_56 L k15 i0 x1 x2 x3 x4 x5 F
        else
          b_Md_join_76 L k15 i0 x1 x2 x3 x4 x5 F
set_option maxHeartbeats 4000000 in
theorem t_Md_join_15 (hC : Cx X L p s m args meth c cc_Md_join 6 w_Md_join R_Md none) {k15 : Nat → Int32 → Int32 → Int32 → Int32 → Int32 → Mem → Option Mem} {out : Mem} (hk15 : ∀ (i0 : Nat) (x1 : Int32) (x2 : Int32) (x3 : Int32) (x4 : Int32) (x5 : Int32) (F : Mem) (H : Heap) (locs : List Loc) (ls : Array Slot), oO L 12 i0 → Iv X L s H locs F → lv_has ls 6 [(0, .ref (mAd X i0)), (1, .int x1), (2, .int x2), (3, .int x3), (4, .int x4), (5, .int x5)] → k15 i0 x1 x2 x3 x4 x5 F = some out → W p l e (headSpec w_Md_join r_Md_join).room s m args below meth c H locs 0 0 (MQ below (QV X L out) args s 0 0 (AA X L)) (F0 m 15 ls [])) {i0 : Nat} {x1 : Int32} {x2 : Int32} {x3 : Int32} {x4 : Int32} {x5 : Int32} {F : Mem} {H : Heap} {locs : List Loc} {ls : Array Slot} (o0 : oO L 12 i0) (hI : Iv X L s H locs F) (hl : lv_has ls 6 [(0, .ref (mAd X i0)), (1, .int x1), (2, .int x2), (3, .int x3), (4, .int x4), (5, .int x5)]) (h : b_Md_join_15 L k15 i0 x1 x2 x3 x4 x5 F = some out) : W p l e (headSpec w_Md_join r_Md_join).room s m args below meth c H locs 0 0 (MQ below (QV X L out) args s 0 0 (AA X L)) (F0 m 15 ls []) := by
  unfold b_Md_join_15 at h
  obtain ⟨S, hK, hT, hW, hr, hlk⟩ := id hC
  have hx := S.1
  have hb := S.2.1
  refine lv_iload hx hb d_Md_join_15 (lv_at hl 5 rfl) ?_
  refine lv_aload_n hx hb d_Md_join_17 rfl (lv_at hl 0 rfl) ?_
  refine w_getI (T := T_Md) S hK hI o0 rfl hin_Md 17 (index := 172) (by decide) lf_Md_172 d_Md_join_18 ?_
  refine lv_icmp_gt (tgt := 82) hx hb d_Md_join_21 rfl (fun hc => ?_) (fun hc => ?_)
  · replace h := (if_pos hc).symm.trans h
    refine lv_aload_n hx hb d_Md_join_82 rfl (lv_at hl 0 rfl) ?_
    have p1 := wt_a hW o0 40 rfl (by decide) (by decide)
    refine w_getR (T := T_Md) S hK hI o0 rfl hin_Md 40 (index := 80) (by decide) lf_Md_80 d_Md_join_83 ?_
    refine lv_iload hx hb d_Md_join_86 (lv_at hl 4 rfl) ?_
    refine lv_iload_n hx hb d_Md_join_88 rfl (lv_at hl 3 rfl) ?_
    obtain ⟨z2, h⟩ := un_if h
    refine w_iast S hK hI p1 z2 d_Md_join_89 (fun H locs F3 e4 hI => ?_)
    replace h := un_lt h _ e4
    exact w_vret S hK hr hlk hI d_Md_join_90 h
  · replace h := (if_neg hc).symm.trans h
    refine lv_aload_n hx hb d_Md_join_24 rfl (lv_at hl 0 rfl) ?_
    have p5 := wt_a hW o0 38 rfl (by decide) (by decide)
    refine w_getR (T := T_Md) S hK hI o0 rfl hin_Md 38 (index := 74) (by decide) lf_Md_74 d_Md_join_25 ?_
    refine lv_iload hx hb d_Md_join_28 (lv_at hl 5 rfl) ?_
    obtain ⟨z6, h⟩ := un_if h
    refine w_iald S hK hI hT p5 z6 d_Md_join_30 ?_
    refine lv_if_le (tgt := 76) hx hb d_Md_join_31 rfl (fun hc => ?_) (fun hc => ?_)
    · replace h := (if_pos hc).symm.trans h
      exact t_Md_join_76 hC hk15 o0 hI hl h
    · replace h := (if_neg hc).symm.trans h
      refine lv_aload_n hx hb d_Md_join_34 rfl (lv_at hl 0 rfl) ?_
      have p7 := wt_a hW o0 39 rfl (by decide) (by decide)
      refine w_getR (T := T_Md) S hK hI o0 rfl hin_Md 39 (index := 77) (by decide) lf_Md_77 d_Md_join_35 ?_
      refine lv_iload hx hb d_Md_join_38 (lv_at hl 5 rfl) ?_
      obtain ⟨z8, h⟩ := un_if h
      refine w_iald S hK hI hT p7 z8 d_Md_join_40 ?_
      refine lv_iload_n hx hb d_Md_join_41 rfl (lv_at hl 1 rfl) ?_
      refine lv_icmp_eq (tgt := 56) hx hb d_Md_join_42 rfl (fun hc => ?_) (fun hc => ?_)
      · replace h := (if_pos hc).symm.trans h
        exact t_Md_join_56 hC hk15 o0 hI hl h
      · replace h := (if_neg hc).symm.trans h
        refine lv_aload_n hx hb d_Md_join_45 rfl (lv_at hl 0 rfl) ?_
        have p9 := wt_a hW o0 39 rfl (by decide) (by decide)
        refine w_getR (T := T_Md) S hK hI o0 rfl hin_Md 39 (index := 77) (by decide) lf_Md_77 d_Md_join_46 ?_
        refine lv_iload hx hb d_Md_join_49 (lv_at hl 5 rfl) ?_
        obtain ⟨z10, h⟩ := un_if h
        refine w_iald S hK hI hT p9 z10 d_Md_join_51 ?_
        refine lv_iload_n hx hb d_Md_join_52 rfl (lv_at hl 2 rfl) ?_
        refine lv_icmp_ne (tgt := 76) hx hb d_Md_join_53 rfl (fun hc => ?_) (fun hc => ?_)
        · replace h := (if_neg hc).symm.trans h
          exact t_Md_join_76 hC hk15 o0 hI hl h
        · replace h := (if_pos hc).symm.trans h
          exact t_Md_join_56 hC hk15 o0 hI hl h
def f_Md_join_15 (L : La)  : Nat → Nat → Int32 → Int32 → Int32 → Int32 → Int32 → Mem → Option Mem
  | 0 => fun _ _ _ _ _ _ _ => none
  | n + 1 => b_Md_join_15 L (f_Md_join_15 L  n)
theorem tf_Md_join_15 (hC : Cx X L p s m args meth c cc_Md_join 6 w_Md_join R_Md none)  {out : Mem}  (n : Nat) : ∀ (i0 : Nat) (x1 : Int32) (x2 : Int32) (x3 : Int32) (x4 : Int32) (x5 : Int32) (F : Mem) (H : Heap) (locs : List Loc) (ls : Array Slot), oO L 12 i0 → Iv X L s H locs F → lv_has ls 6 [(0, .ref (mAd X i0)), (1, .int x1), (2, .int x2), (3, .int x3), (4, .int x4), (5, .int x5)] → f_Md_join_15 L  n i0 x1 x2 x3 x4 x5 F = some out → W p l e (headSpec w_Md_join r_Md_join).room s m args below meth c H locs 0 0 (MQ below (QV X L out) args s 0 0 (AA X L)) (F0 m 15 ls []) := by
  induction n with
  | zero => intro i0 x1 x2 x3 x4 x5 F H locs ls o0 hI hl h; cases h
  | succ n ih => intro i0 x1 x2 x3 x4 x5 F H locs ls o0 hI hl h; exact t_Md_join_15 hC ih o0 hI hl h
def b_Md_join_10 (L : La)  (i0 : Nat) (x1 : Int32) (x2 : Int32) (x3 : Int32) (y0 : Int32) (F : Mem) : Option Mem :=
  f_Md_join_15 L  mFU i0 x1 x2 x3 y0 (0 : Int32) F
set_option maxHeartbeats 4000000 in
theorem t_Md_join_10 (hC : Cx X L p s m args meth c cc_Md_join 6 w_Md_join R_Md none)  {out : Mem}  {i0 : Nat} {x1 : Int32} {x2 : Int32} {x3 : Int32} {y0 : Int32} {F : Mem} {H : Heap} {locs : List Loc} {ls : Array Slot} (o0 : oO L 12 i0) (hI : Iv X L s H locs F) (hl : lv_has ls 6 [(0, .ref (mAd X i0)), (1, .int x1), (2, .int x2), (3, .int x3)]) (h : b_Md_join_10 L  i0 x1 x2 x3 y0 F = some out) : W p l e (headSpec w_Md_join r_Md_join).room s m args below meth c H locs 0 0 (MQ below (QV X L out) args s 0 0 (AA X L)) (F0 m 10 ls [.int y0]) := by
  unfold b_Md_join_10 at h
  obtain ⟨S, hK, hT, hW, hr, hlk⟩ := id hC
  have hx := S.1
  have hb := S.2.1
  refine lv_istore (lv' := [(4, .int y0), (0, .ref (mAd X i0)), (1, .int x1), (2, .int x2), (3, .int x3)]) hx hb d_Md_join_10 hl (by decide) rfl (fun ls hl => ?_)
  refine lv_iconst (v := 0) hx hb d_Md_join_12 rfl ?_
  refine lv_istore (lv' := [(5, .int (0 : Int32)), (4, .int y0), (0, .ref (mAd X i0)), (1, .int x1), (2, .int x2), (3, .int x3)]) hx hb d_Md_join_13 hl (by decide) rfl (fun ls hl => ?_)
  exact tf_Md_join_15 hC  mFU _ _ _ _ _ _ _ _ _ _ o0 hI (lv_sub hl [2, 3, 4, 5, 1, 0] rfl) h
def f_Md_join (L : La) (i0 : Nat) (x1 : Int32) (x2 : Int32) (x3 : Int32) (F : Mem) : Option Mem :=
  if x2 ≤ x1 then
    b_Md_join_10 L  i0 x1 x2 x3 x2 F
  else
    b_Md_join_10 L  i0 x1 x2 x3 x1 F
set_option maxHeartbeats 4000000 in
theorem c_Md_join (l : Launch) {X : Xs} {L : La} (hW : WT L) {out : Mem} {i0 : Nat} {x1 : Int32} {x2 : Int32} {x3 : Int32} {F : Mem} (o0 : oO L 12 i0) (h : f_Md_join L i0 x1 x2 x3 F = some out) : Met l y_Md_join w_Md_join r_Md_join (va_Pc [.ref (mAd X i0), .int x1, .int x2, .int x3] (Pr X L F)) (QV X L out) 0 0 (AA X L) := by
  refine mk_met (by decide) rfl (Nat.le_of_ble_eq_true rfl) hW ?_
  intro p e s m args below meth c ls hC hI hl
  have hl : lv_has ls 6 [(0, .ref (mAd X i0)), (1, .int x1), (2, .int x2), (3, .int x3)] := hl
  generalize hHe : s.heap = H at hI ⊢
  generalize ([] : List Loc) = locs at hI ⊢
  unfold f_Md_join at h
  obtain ⟨S, hK, hT, hW, hr, hlk⟩ := id hC
  have hx := S.1
  have hb := S.2.1
  refine lv_iload_n hx hb d_Md_join_0 rfl (lv_at hl 1 rfl) ?_
  refine lv_iload_n hx hb d_Md_join_1 rfl (lv_at hl 2 rfl) ?_
  refine lv_icmp_ge (tgt := 9) hx hb d_Md_join_2 rfl (fun hc => ?_) (fun hc => ?_)
  · replace h := (if_pos hc).symm.trans h
    refine lv_iload_n hx hb d_Md_join_9 rfl (lv_at hl 2 rfl) ?_
    exact t_Md_join_10 hC  o0 hI hl h
  · replace h := (if_neg hc).symm.trans h
    refine lv_iload_n hx hb d_Md_join_5 rfl (lv_at hl 1 rfl) ?_
    refine lv_goto (tgt := 10) hx hb d_Md_join_6 rfl ?_
    exact t_Md_join_10 hC  o0 hI hl h
end
theorem d_Md_grow_0 : decode cc_Md_grow 0 = .ok (.iconst 0, 1) := by decide +kernel
theorem d_Md_grow_1 : decode cc_Md_grow 1 = .ok (.istore_n 1, 1) := by decide +kernel
theorem d_Md_grow_2 : decode cc_Md_grow 2 = .ok (.iconst 0, 1) := by decide +kernel
theorem d_Md_grow_3 : decode cc_Md_grow 3 = .ok (.istore_n 2, 1) := by decide +kernel
theorem d_Md_grow_4 : decode cc_Md_grow 4 = .ok (.iload_n 2, 1) := by decide +kernel
theorem d_Md_grow_5 : decode cc_Md_grow 5 = .ok (.aload_n 0, 1) := by decide +kernel
theorem d_Md_grow_6 : decode cc_Md_grow 6 = .ok (.getfield 172, 3) := by decide +kernel
theorem d_Md_grow_9 : decode cc_Md_grow 9 = .ok (.if_icmp .gt (99), 3) := by decide +kernel
theorem d_Md_grow_12 : decode cc_Md_grow 12 = .ok (.aload_n 0, 1) := by decide +kernel
theorem d_Md_grow_13 : decode cc_Md_grow 13 = .ok (.getfield 74, 3) := by decide +kernel
theorem d_Md_grow_16 : decode cc_Md_grow 16 = .ok (.iload_n 2, 1) := by decide +kernel
theorem d_Md_grow_17 : decode cc_Md_grow 17 = .ok (.iconst 0, 1) := by decide +kernel
theorem d_Md_grow_18 : decode cc_Md_grow 18 = .ok (.iastore, 1) := by decide +kernel
theorem d_Md_grow_19 : decode cc_Md_grow 19 = .ok (.aload_n 0, 1) := by decide +kernel
theorem d_Md_grow_20 : decode cc_Md_grow 20 = .ok (.getfield 83, 3) := by decide +kernel
theorem d_Md_grow_23 : decode cc_Md_grow 23 = .ok (.iload_n 2, 1) := by decide +kernel
theorem d_Md_grow_24 : decode cc_Md_grow 24 = .ok (.iconst 0, 1) := by decide +kernel
theorem d_Md_grow_25 : decode cc_Md_grow 25 = .ok (.iastore, 1) := by decide +kernel
theorem d_Md_grow_26 : decode cc_Md_grow 26 = .ok (.aload_n 0, 1) := by decide +kernel
theorem d_Md_grow_27 : decode cc_Md_grow 27 = .ok (.getfield 80, 3) := by decide +kernel
theorem d_Md_grow_30 : decode cc_Md_grow 30 = .ok (.iload_n 2, 1) := by decide +kernel
theorem d_Md_grow_31 : decode cc_Md_grow 31 = .ok (.iconst 0, 1) := by decide +kernel
theorem d_Md_grow_32 : decode cc_Md_grow 32 = .ok (.iastore, 1) := by decide +kernel
theorem d_Md_grow_33 : decode cc_Md_grow 33 = .ok (.aload_n 0, 1) := by decide +kernel
theorem d_Md_grow_34 : decode cc_Md_grow 34 = .ok (.getfield 77, 3) := by decide +kernel
theorem d_Md_grow_37 : decode cc_Md_grow 37 = .ok (.iload_n 2, 1) := by decide +kernel
theorem d_Md_grow_38 : decode cc_Md_grow 38 = .ok (.iload_n 2, 1) := by decide +kernel
theorem d_Md_grow_39 : decode cc_Md_grow 39 = .ok (.iastore, 1) := by decide +kernel
theorem d_Md_grow_40 : decode cc_Md_grow 40 = .ok (.iconst 0, 1) := by decide +kernel
theorem d_Md_grow_41 : decode cc_Md_grow 41 = .ok (.istore_n 3, 1) := by decide +kernel
theorem d_Md_grow_42 : decode cc_Md_grow 42 = .ok (.iload_n 3, 1) := by decide +kernel
theorem d_Md_grow_43 : decode cc_Md_grow 43 = .ok (.aload_n 0, 1) := by decide +kernel
theorem d_Md_grow_44 : decode cc_Md_grow 44 = .ok (.getfield 150, 3) := by decide +kernel
theorem d_Md_grow_47 : decode cc_Md_grow 47 = .ok (.if_icmp .ge (38), 3) := by decide +kernel
theorem d_Md_grow_50 : decode cc_Md_grow 50 = .ok (.aload_n 0, 1) := by decide +kernel
theorem d_Md_grow_51 : decode cc_Md_grow 51 = .ok (.getfield 74, 3) := by decide +kernel
theorem d_Md_grow_54 : decode cc_Md_grow 54 = .ok (.iload_n 2, 1) := by decide +kernel
theorem d_Md_grow_55 : decode cc_Md_grow 55 = .ok (.dup2, 1) := by decide +kernel
theorem d_Md_grow_56 : decode cc_Md_grow 56 = .ok (.iaload, 1) := by decide +kernel
theorem d_Md_grow_57 : decode cc_Md_grow 57 = .ok (.aload_n 0, 1) := by decide +kernel
theorem d_Md_grow_58 : decode cc_Md_grow 58 = .ok (.getfield 22, 3) := by decide +kernel
theorem d_Md_grow_61 : decode cc_Md_grow 61 = .ok (.iload_n 3, 1) := by decide +kernel
theorem d_Md_grow_62 : decode cc_Md_grow 62 = .ok (.iaload, 1) := by decide +kernel
theorem d_Md_grow_63 : decode cc_Md_grow 63 = .ok (.aload_n 0, 1) := by decide +kernel
theorem d_Md_grow_64 : decode cc_Md_grow 64 = .ok (.getfield 166, 3) := by decide +kernel
theorem d_Md_grow_67 : decode cc_Md_grow 67 = .ok (.iload_n 2, 1) := by decide +kernel
theorem d_Md_grow_68 : decode cc_Md_grow 68 = .ok (.iadd, 1) := by decide +kernel
theorem d_Md_grow_69 : decode cc_Md_grow 69 = .ok (.if_icmp .ne (7), 3) := by decide +kernel
theorem d_Md_grow_72 : decode cc_Md_grow 72 = .ok (.iconst 1, 1) := by decide +kernel
theorem d_Md_grow_73 : decode cc_Md_grow 73 = .ok (.goto (4), 3) := by decide +kernel
theorem d_Md_grow_76 : decode cc_Md_grow 76 = .ok (.iconst 0, 1) := by decide +kernel
theorem d_Md_grow_77 : decode cc_Md_grow 77 = .ok (.iadd, 1) := by decide +kernel
theorem d_Md_grow_78 : decode cc_Md_grow 78 = .ok (.iastore, 1) := by decide +kernel
theorem d_Md_grow_79 : decode cc_Md_grow 79 = .ok (.iinc 3 (1), 3) := by decide +kernel
theorem d_Md_grow_82 : decode cc_Md_grow 82 = .ok (.goto (-40), 3) := by decide +kernel
theorem d_Md_grow_85 : decode cc_Md_grow 85 = .ok (.iload_n 1, 1) := by decide +kernel
theorem d_Md_grow_86 : decode cc_Md_grow 86 = .ok (.aload_n 0, 1) := by decide +kernel
theorem d_Md_grow_87 : decode cc_Md_grow 87 = .ok (.getfield 74, 3) := by decide +kernel
theorem d_Md_grow_90 : decode cc_Md_grow 90 = .ok (.iload_n 2, 1) := by decide +kernel
theorem d_Md_grow_91 : decode cc_Md_grow 91 = .ok (.iaload, 1) := by decide +kernel
theorem d_Md_grow_92 : decode cc_Md_grow 92 = .ok (.ifCond .le (7), 3) := by decide +kernel
theorem d_Md_grow_95 : decode cc_Md_grow 95 = .ok (.iconst 1, 1) := by decide +kernel
theorem d_Md_grow_96 : decode cc_Md_grow 96 = .ok (.goto (4), 3) := by decide +kernel
theorem d_Md_grow_99 : decode cc_Md_grow 99 = .ok (.iconst 0, 1) := by decide +kernel
theorem d_Md_grow_100 : decode cc_Md_grow 100 = .ok (.iadd, 1) := by decide +kernel
theorem d_Md_grow_101 : decode cc_Md_grow 101 = .ok (.istore_n 1, 1) := by decide +kernel
theorem d_Md_grow_102 : decode cc_Md_grow 102 = .ok (.iinc 2 (1), 3) := by decide +kernel
theorem d_Md_grow_105 : decode cc_Md_grow 105 = .ok (.goto (-101), 3) := by decide +kernel
theorem d_Md_grow_108 : decode cc_Md_grow 108 = .ok (.iconst 1, 1) := by decide +kernel
theorem d_Md_grow_109 : decode cc_Md_grow 109 = .ok (.istore_n 2, 1) := by decide +kernel
theorem d_Md_grow_110 : decode cc_Md_grow 110 = .ok (.iload_n 1, 1) := by decide +kernel
theorem d_Md_grow_111 : decode cc_Md_grow 111 = .ok (.iconst 1, 1) := by decide +kernel
theorem d_Md_grow_112 : decode cc_Md_grow 112 = .ok (.if_icmp .le (33), 3) := by decide +kernel
theorem d_Md_grow_115 : decode cc_Md_grow 115 = .ok (.aload_n 0, 1) := by decide +kernel
theorem d_Md_grow_116 : decode cc_Md_grow 116 = .ok (.iconst (-1), 1) := by decide +kernel
theorem d_Md_grow_117 : decode cc_Md_grow 117 = .ok (.invokevirtual 243, 3) := by decide +kernel
theorem d_Md_grow_120 : decode cc_Md_grow 120 = .ok (.istore_n 3, 1) := by decide +kernel
theorem d_Md_grow_121 : decode cc_Md_grow 121 = .ok (.aload_n 0, 1) := by decide +kernel
theorem d_Md_grow_122 : decode cc_Md_grow 122 = .ok (.iload_n 3, 1) := by decide +kernel
theorem d_Md_grow_123 : decode cc_Md_grow 123 = .ok (.invokevirtual 243, 3) := by decide +kernel
theorem d_Md_grow_126 : decode cc_Md_grow 126 = .ok (.istore 4, 2) := by decide +kernel
theorem d_Md_grow_128 : decode cc_Md_grow 128 = .ok (.aload_n 0, 1) := by decide +kernel
theorem d_Md_grow_129 : decode cc_Md_grow 129 = .ok (.iload_n 3, 1) := by decide +kernel
theorem d_Md_grow_130 : decode cc_Md_grow 130 = .ok (.iload 4, 2) := by decide +kernel
theorem d_Md_grow_132 : decode cc_Md_grow 132 = .ok (.iload_n 2, 1) := by decide +kernel
theorem d_Md_grow_133 : decode cc_Md_grow 133 = .ok (.invokevirtual 246, 3) := by decide +kernel
theorem d_Md_grow_136 : decode cc_Md_grow 136 = .ok (.iinc 1 (-1), 3) := by decide +kernel
theorem d_Md_grow_139 : decode cc_Md_grow 139 = .ok (.iinc 2 (1), 3) := by decide +kernel
theorem d_Md_grow_142 : decode cc_Md_grow 142 = .ok (.goto (-32), 3) := by decide +kernel
theorem d_Md_grow_145 : decode cc_Md_grow 145 = .ok (.iconst 0, 1) := by decide +kernel
theorem d_Md_grow_146 : decode cc_Md_grow 146 = .ok (.istore_n 2, 1) := by decide +kernel
theorem d_Md_grow_147 : decode cc_Md_grow 147 = .ok (.iconst 0, 1) := by decide +kernel
theorem d_Md_grow_148 : decode cc_Md_grow 148 = .ok (.istore_n 3, 1) := by decide +kernel
theorem d_Md_grow_149 : decode cc_Md_grow 149 = .ok (.iload_n 3, 1) := by decide +kernel
theorem d_Md_grow_150 : decode cc_Md_grow 150 = .ok (.aload_n 0, 1) := by decide +kernel
theorem d_Md_grow_151 : decode cc_Md_grow 151 = .ok (.getfield 172, 3) := by decide +kernel
theorem d_Md_grow_154 : decode cc_Md_grow 154 = .ok (.if_icmp .gt (30), 3) := by decide +kernel
theorem d_Md_grow_157 : decode cc_Md_grow 157 = .ok (.aload_n 0, 1) := by decide +kernel
theorem d_Md_grow_158 : decode cc_Md_grow 158 = .ok (.getfield 83, 3) := by decide +kernel
theorem d_Md_grow_161 : decode cc_Md_grow 161 = .ok (.iload_n 3, 1) := by decide +kernel
theorem d_Md_grow_162 : decode cc_Md_grow 162 = .ok (.iaload, 1) := by decide +kernel
theorem d_Md_grow_163 : decode cc_Md_grow 163 = .ok (.iload_n 2, 1) := by decide +kernel
theorem d_Md_grow_164 : decode cc_Md_grow 164 = .ok (.if_icmp .le (12), 3) := by decide +kernel
theorem d_Md_grow_167 : decode cc_Md_grow 167 = .ok (.aload_n 0, 1) := by decide +kernel
theorem d_Md_grow_168 : decode cc_Md_grow 168 = .ok (.getfield 83, 3) := by decide +kernel
theorem d_Md_grow_171 : decode cc_Md_grow 171 = .ok (.iload_n 3, 1) := by decide +kernel
theorem d_Md_grow_172 : decode cc_Md_grow 172 = .ok (.iaload, 1) := by decide +kernel
theorem d_Md_grow_173 : decode cc_Md_grow 173 = .ok (.goto (4), 3) := by decide +kernel
theorem d_Md_grow_176 : decode cc_Md_grow 176 = .ok (.iload_n 2, 1) := by decide +kernel
theorem d_Md_grow_177 : decode cc_Md_grow 177 = .ok (.istore_n 2, 1) := by decide +kernel
theorem d_Md_grow_178 : decode cc_Md_grow 178 = .ok (.iinc 3 (1), 3) := by decide +kernel
theorem d_Md_grow_181 : decode cc_Md_grow 181 = .ok (.goto (-32), 3) := by decide +kernel
theorem d_Md_grow_184 : decode cc_Md_grow 184 = .ok (.iload_n 2, 1) := by decide +kernel
theorem d_Md_grow_185 : decode cc_Md_grow 185 = .ok (.ireturn, 1) := by decide +kernel
section
variable {p : Program} {l : Launch} {e : Env} {s : State} {m : MethodId} {args : Array Value} {below : List Frame} {meth : Method} {c : Code} {X : Xs} {L : La}
def b_Md_grow_177 (L : La) (k149 : Nat → Int32 → Int32 → Mem → Option (Int32 × Mem)) (i0 : Nat) (x3 : Int32) (y0 : Int32) (F : Mem) : Option (Int32 × Mem) :=
  k149 i0 y0 (x3 + (1 : Int32)) F
set_option maxHeartbeats 4000000 in
theorem t_Md_grow_177 (hC : Cx X L p s m args meth c cc_Md_grow 5 w_Md_grow R_Md (some .int)) {k149 : Nat → Int32 → Int32 → Mem → Option (Int32 × Mem)} {out : (Int32 × Mem)} (hk149 : ∀ (i0 : Nat) (x2 : Int32) (x3 : Int32) (F : Mem) (H : Heap) (locs : List Loc) (ls : Array Slot), oO L 12 i0 → Iv X L s H locs F → lv_has ls 5 [(0, .ref (mAd X i0)), (2, .int x2), (3, .int x3)] → k149 i0 x2 x3 F = some out → W p l e (headSpec w_Md_grow r_Md_grow).room s m args below meth c H locs 0 0 (MQ below (QI X L out) args s 0 0 (AA X L)) (F0 m 149 ls [])) {i0 : Nat} {x3 : Int32} {y0 : Int32} {F : Mem} {H : Heap} {locs : List Loc} {ls : Array Slot} (o0 : oO L 12 i0) (hI : Iv X L s H locs F) (hl : lv_has ls 5 [(0, .ref (mAd X i0)), (3, .int x3)]) (h : b_Md_grow_177 L k149 i0 x3 y0 F = some out) : W p l e (headSpec w_Md_grow r_Md_grow).room s m args below meth c H locs 0 0 (MQ below (QI X L out) args s 0 0 (AA X L)) (F0 m 177 ls [.int y0]) := by
  unfold b_Md_grow_177 at h
  obtain ⟨S, hK, hT, hW, hr, hlk⟩ := id hC
  have hx := S.1
  have hb := S.2.1
  refine lv_istore_n (lv' := [(2, .int y0), (0, .ref (mAd X i0)), (3, .int x3)]) hx hb d_Md_grow_177 rfl hl (by decide) rfl (fun ls hl => ?_)
  refine lv_iinc (k := 2) (v := x3 + (1 : Int32)) (lv' := [(3, .int (x3 + (1 : Int32))), (2, .int y0), (0, .ref (mAd X i0))]) hx hb d_Md_grow_178 hl rfl rfl (by decide) rfl (fun ls hl => ?_)
  refine lv_goto (tgt := 149) hx hb d_Md_grow_181 rfl ?_
  exact hk149 _ _ _ _ _ _ _ o0 hI (lv_sub hl [2, 1, 0] rfl) h
def b_Md_grow_149 (L : La) (k149 : Nat → Int32 → Int32 → Mem → Option (Int32 × Mem)) (i0 : Nat) (x2 : Int32) (x3 : Int32) (F : Mem) : Option (Int32 × Mem) :=
  if (F i0 17) < x3 then
    some (x2, F)
  else
    if inb x3 (mGl L (mRf L i0 41)) then none else
    if (mGa L F (mRf L i0 41) x3.toNatClampNeg) ≤ x2 then
      b_Md_grow_177 L k149 i0 x3 x2 F
    else
      if inb x3 (mGl L (mRf L i0 41)) then none else
      b_Md_grow_177 L k149 i0 x3 (mGa L F (mRf L i0 41) x3.toNatClampNeg) F
set_option maxHeartbeats 4000000 in
theorem t_Md_grow_149 (hC : Cx X L p s m args meth c cc_Md_grow 5 w_Md_grow R_Md (some .int)) {k149 : Nat → Int32 → Int32 → Mem → Option (Int32 × Mem)} {out : (Int32 × Mem)} (hk149 : ∀ (i0 : Nat) (x2 : Int32) (x3 : Int32) (F : Mem) (H : Heap) (locs : List Loc) (ls : Array Slot), oO L 12 i0 → Iv X L s H locs F → lv_has ls 5 [(0, .ref (mAd X i0)), (2, .int x2), (3, .int x3)] → k149 i0 x2 x3 F = some out → W p l e (headSpec w_Md_grow r_Md_grow).room s m args below meth c H locs 0 0 (MQ below (QI X L out) args s 0 0 (AA X L)) (F0 m 149 ls [])) {i0 : Nat} {x2 : Int32} {x3 : Int32} {F : Mem} {H : Heap} {locs : List Loc} {ls : Array Slot} (o0 : oO L 12 i0) (hI : Iv X L s H locs F) (hl : lv_has ls 5 [(0, .ref (mAd X i0)), (2, .int x2), (3, .int x3)]) (h : b_Md_grow_149 L k149 i0 x2 x3 F = some out) : W p l e (headSpec w_Md_grow r_Md_grow).room s m args below meth c H locs 0 0 (MQ below (QI X L out) args s 0 0 (AA X L)) (F0 m 149 ls []) := by
  unfold b_Md_grow_149 at h
  obtain ⟨S, hK, hT, hW, hr, hlk⟩ := id hC
  have hx := S.1
  have hb := S.2.1
  refine lv_iload_n hx hb d_Md_grow_149 rfl (lv_at hl 2 rfl) ?_
  refine lv_aload_n hx hb d_Md_grow_150 rfl (lv_at hl 0 rfl) ?_
  refine w_getI (T := T_Md) S hK hI o0 rfl hin_Md 17 (index := 172) (by decide) lf_Md_172 d_Md_grow_151 ?_
  refine lv_icmp_gt (tgt := 184) hx hb d_Md_grow_154 rfl (fun hc => ?_) (fun hc => ?_)
  · replace h := (if_pos hc).symm.trans h
    refine lv_iload_n hx hb d_Md_grow_184 rfl (lv_at hl 1 rfl) ?_
    exact w_iret S hK hr hlk hI d_Md_grow_185 h
  · replace h := (if_neg hc).symm.trans h
    refine lv_aload_n hx hb d_Md_grow_157 rfl (lv_at hl 0 rfl) ?_
    have p1 := wt_a hW o0 41 rfl (by decide) (by decide)
    refine w_getR (T := T_Md) S hK hI o0 rfl hin_Md 41 (index := 83) (by decide) lf_Md_83 d_Md_grow_158 ?_
    refine lv_iload_n hx hb d_Md_grow_161 rfl (lv_at hl 2 rfl) ?_
    obtain ⟨z2, h⟩ := un_if h
    refine w_iald S hK hI hT p1 z2 d_Md_grow_162 ?_
    refine lv_iload_n hx hb d_Md_grow_163 rfl (lv_at hl 1 rfl) ?_
    refine lv_icmp_le (tgt := 176) hx hb d_Md_grow_164 rfl (fun hc => ?_) (fun hc => ?_)
    · replace h := (if_pos hc).symm.trans h
      refine lv_iload_n hx hb d_Md_grow_176 rfl (lv_at hl 1 rfl) ?_
      exact t_Md_grow_177 hC hk149 o0 hI (lv_sub hl [0, 2] rfl) h
    · replace h := (if_neg hc).symm.trans h
      refine lv_aload_n hx hb d_Md_grow_167 rfl (lv_at hl 0 rfl) ?_
      have p3 := wt_a hW o0 41 rfl (by decide) (by decide)
      refine w_getR (T := T_Md) S hK hI o0 rfl hin_Md 41 (index := 83) (by decide) lf_Md_83 d_Md_grow_168 ?_
      refine lv_iload_n hx hb d_Md_grow_171 rfl (lv_at hl 2 rfl) ?_
      obtain ⟨z4, h⟩ := un_if h
      refine w_iald S hK hI hT p3 z4 d_Md_grow_172 ?_
      refine lv_goto (tgt := 177) hx hb d_Md_grow_173 rfl ?_
      exact t_Md_grow_177 hC hk149 o0 hI (lv_sub hl [0, 2] rfl) h
def f_Md_grow_149 (L : La)  : Nat → Nat → Int32 → Int32 → Mem → Option (Int32 × Mem)
  | 0 => fun _ _ _ _ => none
  | n + 1 => b_Md_grow_149 L (f_Md_grow_149 L  n)
theorem tf_Md_grow_149 (hC : Cx X L p s m args meth c cc_Md_grow 5 w_Md_grow R_Md (some .int))  {out : (Int32 × Mem)}  (n : Nat) : ∀ (i0 : Nat) (x2 : Int32) (x3 : Int32) (F : Mem) (H : Heap) (locs : List Loc) (ls : Array Slot), oO L 12 i0 → Iv X L s H locs F → lv_has ls 5 [(0, .ref (mAd X i0)), (2, .int x2), (3, .int x3)] → f_Md_grow_149 L  n i0 x2 x3 F = some out → W p l e (headSpec w_Md_grow r_Md_grow).room s m args below meth c H locs 0 0 (MQ below (QI X L out) args s 0 0 (AA X L)) (F0 m 149 ls []) := by
  induction n with
  | zero => intro i0 x2 x3 F H locs ls o0 hI hl h; cases h
  | succ n ih => intro i0 x2 x3 F H locs ls o0 hI hl h; exact t_Md_grow_149 hC ih o0 hI hl h
def b_Md_grow_110 (L : La) (k110 : Nat → Int32 → Int32 → Mem → Option (Int32 × Mem)) (i0 : Nat) (x1 : Int32) (x2 : Int32) (F : Mem) : Option (Int32 × Mem) :=
  if x1 ≤ (1 : Int32) then
    f_Md_grow_149 L  mFU i0 (0 : Int32) (0 : Int32) F
  else
    (f_Md_leastGroup L i0 (-1 : Int32) F).bind fun q1 =>
    (f_Md_leastGroup L i0 q1.1 q1.2).bind fun q3 =>
    (f_Md_join L i0 q1.1 q3.1 x2 q3.2).bind fun F5 =>
    k110 i0 (x1 + (-1 : Int32)) (x2 + (1 : Int32)) F5
set_option maxHeartbeats 4000000 in
theorem t_Md_grow_110 (hC : Cx X L p s m args meth c cc_Md_grow 5 w_Md_grow R_Md (some .int)) {k110 : Nat → Int32 → Int32 → Mem → Option (Int32 × Mem)} {out : (Int32 × Mem)} (hk110 : ∀ (i0 : Nat) (x1 : Int32) (x2 : Int32) (F : Mem) (H : Heap) (locs : List Loc) (ls : Array Slot), oO L 12 i0 → Iv X L s H locs F → lv_has ls 5 [(0, .ref (mAd X i0)), (1, .int x1), (2, .int x2)] → k110 i0 x1 x2 F = some out → W p l e (headSpec w_Md_grow r_Md_grow).room s m args below meth c H locs 0 0 (MQ below (QI X L out) args s 0 0 (AA X L)) (F0 m 110 ls [])) {i0 : Nat} {x1 : Int32} {x2 : Int32} {F : Mem} {H : Heap} {locs : List Loc} {ls : Array Slot} (o0 : oO L 12 i0) (hI : Iv X L s H locs F) (hl : lv_has ls 5 [(0, .ref (mAd X i0)), (1, .int x1), (2, .int x2)]) (h : b_Md_grow_110 L k110 i0 x1 x2 F = some out) : W p l e (headSpec w_Md_grow r_Md_grow).room s m args below meth c H locs 0 0 (MQ below (QI X L out) args s 0 0 (AA X L)) (F0 m 110 ls []) := by
  unfold b_Md_grow_110 at h
  obtain ⟨S, hK, hT, hW, hr, hlk⟩ := id hC
  have hx := S.1
  have hb := S.2.1
  refine lv_iload_n hx hb d_Md_grow_110 rfl (lv_at hl 1 rfl) ?_
  refine lv_iconst (v := 1) hx hb d_Md_grow_111 rfl ?_
  refine lv_icmp_le (tgt := 145) hx hb d_Md_grow_112 rfl (fun hc => ?_) (fun hc => ?_)
  · replace h := (if_pos hc).symm.trans h
    refine lv_iconst (v := 0) hx hb d_Md_grow_145 rfl ?_
    refine lv_istore_n (lv' := [(2, .int (0 : Int32)), (0, .ref (mAd X i0)), (1, .int x1)]) hx hb d_Md_grow_146 rfl hl (by decide) rfl (fun ls hl => ?_)
    refine lv_iconst (v := 0) hx hb d_Md_grow_147 rfl ?_
    refine lv_istore_n (lv' := [(3, .int (0 : Int32)), (2, .int (0 : Int32)), (0, .ref (mAd X i0)), (1, .int x1)]) hx hb d_Md_grow_148 rfl hl (by decide) rfl (fun ls hl => ?_)
    exact tf_Md_grow_149 hC  mFU _ _ _ _ _ _ _ o0 hI (lv_sub hl [2, 1, 0] rfl) h
  · replace h := (if_neg hc).symm.trans h
    refine lv_aload_n hx hb d_Md_grow_115 rfl (lv_at hl 0 rfl) ?_
    refine lv_iconst (v := -1) hx hb d_Md_grow_116 rfl ?_
    obtain ⟨q1, e2, h⟩ := un_bi h
    refine w_callVi (As := [.int (-1 : Int32)]) (rest := []) S hK hI hT (c_Md_leastGroup l hW o0 e2) (cwV 1 S.2.2.2.2 (gd_V lc_Md_leastGroup lm_Md_243 li_Md_leastGroup ls_Md_leastGroup ln_Md) rfl rfl rfl hd_Md_leastGroup ⟨Nat.le_of_ble_eq_true rfl, Nat.le_of_ble_eq_true rfl⟩) o0 rfl (by decide) rfl rfl hl.1 (Nat.le_of_ble_eq_true rfl) d_Md_grow_117 ⟨Nat.zero_le _, Nat.zero_le _⟩ (fun H locs hI => ?_)
    refine lv_istore_n (lv' := [(3, .int q1.1), (0, .ref (mAd X i0)), (1, .int x1), (2, .int x2)]) hx hb d_Md_grow_120 rfl hl (by decide) rfl (fun ls hl => ?_)
    refine lv_aload_n hx hb d_Md_grow_121 rfl (lv_at hl 1 rfl) ?_
    refine lv_iload_n hx hb d_Md_grow_122 rfl (lv_at hl 0 rfl) ?_
    obtain ⟨q3, e4, h⟩ := un_bi h
    refine w_callVi (As := [.int q1.1]) (rest := []) S hK hI hT (c_Md_leastGroup l hW o0 e4) (cwV 1 S.2.2.2.2 (gd_V lc_Md_leastGroup lm_Md_243 li_Md_leastGroup ls_Md_leastGroup ln_Md) rfl rfl rfl hd_Md_leastGroup ⟨Nat.le_of_ble_eq_true rfl, Nat.le_of_ble_eq_true rfl⟩) o0 rfl (by decide) rfl rfl hl.1 (Nat.le_of_ble_eq_true rfl) d_Md_grow_123 ⟨Nat.zero_le _, Nat.zero_le _⟩ (fun H locs hI => ?_)
    refine lv_istore (lv' := [(4, .int q3.1), (3, .int q1.1), (0, .ref (mAd X i0)), (1, .int x1), (2, .int x2)]) hx hb d_Md_grow_126 hl (by decide) rfl (fun ls hl => ?_)
    refine lv_aload_n hx hb d_Md_grow_128 rfl (lv_at hl 2 rfl) ?_
    refine lv_iload_n hx hb d_Md_grow_129 rfl (lv_at hl 1 rfl) ?_
    refine lv_iload hx hb d_Md_grow_130 (lv_at hl 0 rfl) ?_
    refine lv_iload_n hx hb d_Md_grow_132 rfl (lv_at hl 4 rfl) ?_
    obtain ⟨F5, e6, h⟩ := un_bi h
    refine w_callVv (As := [.int q1.1, .int q3.1, .int x2]) (rest := []) S hK hI hT (c_Md_join l hW o0 e6) (cwV 3 S.2.2.2.2 (gd_V lc_Md_join lm_Md_246 li_Md_join ls_Md_join ln_Md) rfl rfl rfl hd_Md_join ⟨Nat.le_of_ble_eq_true rfl, Nat.le_of_ble_eq_true rfl⟩) o0 rfl (by decide) rfl rfl hl.1 (Nat.le_of_ble_eq_true rfl) d_Md_grow_133 ⟨Nat.zero_le _, Nat.zero_le _⟩ (fun H locs hI => ?_)
    refine lv_iinc (k := 3) (v := x1 + (-1 : Int32)) (lv' := [(1, .int (x1 + (-1 : Int32))), (4, .int q3.1), (3, .int q1.1), (0, .ref (mAd X i0)), (2, .int x2)]) hx hb d_Md_grow_136 hl rfl rfl (by decide) rfl (fun ls hl => ?_)
    refine lv_iinc (k := 4) (v := x2 + (1 : Int32)) (lv' := [(2, .int (x2 + (1 : Int32))), (1, .int (x1 + (-1 : Int32))), (4, .int q3.1), (3, .int q1.1), (0, .ref (mAd X i0))]) hx hb d_Md_grow_139 hl rfl rfl (by decide) rfl (fun ls hl => ?_)
    refine lv_goto (tgt := 110) hx hb d_Md_grow_142 rfl ?_
    exact hk110 _ _ _ _ _ _ _ o0 hI (lv_sub hl [4, 1, 0] rfl) h
def f_Md_grow_110 (L : La)  : Nat → Nat → Int32 → Int32 → Mem → Option (Int32 × Mem)
  | 0 => fun _ _ _ _ => none
  | n + 1 => b_Md_grow_110 L (f_Md_grow_110 L  n)
theorem tf_Md_grow_110 (hC : Cx X L p s m args meth c cc_Md_grow 5 w_Md_grow R_Md (some .int))  {out : (Int32 × Mem)}  (n : Nat) : ∀ (i0 : Nat) (x1 : Int32) (x2 : Int32) (F : Mem) (H : Heap) (locs : List Loc) (ls : Array Slot), oO L 12 i0 → Iv X L s H locs F → lv_has ls 5 [(0, .ref (mAd X i0)), (1, .int x1), (2, .int x2)] → f_Md_grow_110 L  n i0 x1 x2 F = some out → W p l e (headSpec w_Md_grow r_Md_grow).room s m args below meth c H locs 0 0 (MQ below (QI X L out) args s 0 0 (AA X L)) (F0 m 110 ls []) := by
  induction n with
  | zero => intro i0 x1 x2 F H locs ls o0 hI hl h; cases h
  | succ n ih => intro i0 x1 x2 F H locs ls o0 hI hl h; exact t_Md_grow_110 hC ih o0 hI hl h
def b_Md_grow_100 (L : La) (k4 : Nat → Int32 → Int32 → Mem → Option (Int32 × Mem)) (i0 : Nat) (x2 : Int32) (y0 : Int32) (y1 : Int32) (F : Mem) : Option (Int32 × Mem) :=
  k4 i0 (y0 + y1) (x2 + (1 : Int32)) F
set_option maxHeartbeats 4000000 in
theorem t_Md_grow_100 (hC : Cx X L p s m args meth c cc_Md_grow 5 w_Md_grow R_Md (some .int)) {k4 : Nat → Int32 → Int32 → Mem → Option (Int32 × Mem)} {out : (Int32 × Mem)} (hk4 : ∀ (i0 : Nat) (x1 : Int32) (x2 : Int32) (F : Mem) (H : Heap) (locs : List Loc) (ls : Array Slot), oO L 12 i0 → Iv X L s H locs F → lv_has ls 5 [(0, .ref (mAd X i0)), (1, .int x1), (2, .int x2)] → k4 i0 x1 x2 F = some out → W p l e (headSpec w_Md_grow r_Md_grow).room s m args below meth c H locs 0 0 (MQ below (QI X L out) args s 0 0 (AA X L)) (F0 m 4 ls [])) {i0 : Nat} {x2 : Int32} {y0 : Int32} {y1 : Int32} {F : Mem} {H : Heap} {locs : List Loc} {ls : Array Slot} (o0 : oO L 12 i0) (hI : Iv X L s H locs F) (hl : lv_has ls 5 [(0, .ref (mAd X i0)), (2, .int x2)]) (h : b_Md_grow_100 L k4 i0 x2 y0 y1 F = some out) : W p l e (headSpec w_Md_grow r_Md_grow).room s m args below meth c H locs 0 0 (MQ below (QI X L out) args s 0 0 (AA X L)) (F0 m 100 ls [.int y1, .int y0]) := by
  unfold b_Md_grow_100 at h
  obtain ⟨S, hK, hT, hW, hr, hlk⟩ := id hC
  have hx := S.1
  have hb := S.2.1
  refine lv_iadd hx hb d_Md_grow_100 ?_
  refine lv_istore_n (lv' := [(1, .int (y0 + y1)), (0, .ref (mAd X i0)), (2, .int x2)]) hx hb d_Md_grow_101 rfl hl (by decide) rfl (fun ls hl => ?_)
  refine lv_iinc (k := 2) (v := x2 + (1 : Int32)) (lv' := [(2, .int (x2 + (1 : Int32))), (1, .int (y0 + y1)), (0, .ref (mAd X i0))]) hx hb d_Md_grow_102 hl rfl rfl (by decide) rfl (fun ls hl => ?_)
  refine lv_goto (tgt := 4) hx hb d_Md_grow_105 rfl ?_
  exact hk4 _ _ _ _ _ _ _ o0 hI (lv_sub hl [2, 1, 0] rfl) h
def b_Md_grow_77 (L : La) (k4 : Nat → Int32 → Int32 → Mem → Option (Int32 × Mem)) (k42 : Nat → Int32 → Int32 → Int32 → Mem → Option (Int32 × Mem)) (i0 : Nat) (x1 : Int32) (x2 : Int32) (x3 : Int32) (j0 : Nat) (y1 : Int32) (y2 : Int32) (y3 : Int32) (F : Mem) : Option (Int32 × Mem) :=
  if inb y1 (mLn L j0) ∨ ¬ j0 < mNc L then none else
  lt' (u2 F j0 y1.toNatClampNeg (y2 + y3)) fun F2 =>
  k42 i0 x1 x2 (x3 + (1 : Int32)) F2
set_option maxHeartbeats 4000000 in
theorem t_Md_grow_77 (hC : Cx X L p s m args meth c cc_Md_grow 5 w_Md_grow R_Md (some .int)) {k4 : Nat → Int32 → Int32 → Mem → Option (Int32 × Mem)} {k42 : Nat → Int32 → Int32 → Int32 → Mem → Option (Int32 × Mem)} {out : (Int32 × Mem)} (hk4 : ∀ (i0 : Nat) (x1 : Int32) (x2 : Int32) (F : Mem) (H : Heap) (locs : List Loc) (ls : Array Slot), oO L 12 i0 → Iv X L s H locs F → lv_has ls 5 [(0, .ref (mAd X i0)), (1, .int x1), (2, .int x2)] → k4 i0 x1 x2 F = some out → W p l e (headSpec w_Md_grow r_Md_grow).room s m args below meth c H locs 0 0 (MQ below (QI X L out) args s 0 0 (AA X L)) (F0 m 4 ls [])) (hk42 : ∀ (i0 : Nat) (x1 : Int32) (x2 : Int32) (x3 : Int32) (F : Mem) (H : Heap) (locs : List Loc) (ls : Array Slot), oO L 12 i0 → Iv X L s H locs F → lv_has ls 5 [(0, .ref (mAd X i0)), (1, .int x1), (2, .int x2), (3, .int x3)] → k42 i0 x1 x2 x3 F = some out → W p l e (headSpec w_Md_grow r_Md_grow).room s m args below meth c H locs 0 0 (MQ below (QI X L out) args s 0 0 (AA X L)) (F0 m 42 ls [])) {i0 : Nat} {x1 : Int32} {x2 : Int32} {x3 : Int32} {j0 : Nat} {y1 : Int32} {y2 : Int32} {y3 : Int32} {F : Mem} {H : Heap} {locs : List Loc} {ls : Array Slot} (o0 : oO L 12 i0) (oy0 : oA L j0) (hI : Iv X L s H locs F) (hl : lv_has ls 5 [(0, .ref (mAd X i0)), (1, .int x1), (2, .int x2), (3, .int x3)]) (h : b_Md_grow_77 L k4 k42 i0 x1 x2 x3 j0 y1 y2 y3 F = some out) : W p l e (headSpec w_Md_grow r_Md_grow).room s m args below meth c H locs 0 0 (MQ below (QI X L out) args s 0 0 (AA X L)) (F0 m 77 ls [.int y3, .int y2, .int y1, .ref (mAd X j0)]) := by
  unfold b_Md_grow_77 at h
  obtain ⟨S, hK, hT, hW, hr, hlk⟩ := id hC
  have hx := S.1
  have hb := S.2.1
  refine lv_iadd hx hb d_Md_grow_77 ?_
  obtain ⟨z1, h⟩ := un_if h
  refine w_iast S hK hI oy0 z1 d_Md_grow_78 (fun H locs F2 e3 hI => ?_)
  replace h := un_lt h _ e3
  refine lv_iinc (k := 3) (v := x3 + (1 : Int32)) (lv' := [(3, .int (x3 + (1 : Int32))), (0, .ref (mAd X i0)), (1, .int x1), (2, .int x2)]) hx hb d_Md_grow_79 hl rfl rfl (by decide) rfl (fun ls hl => ?_)
  refine lv_goto (tgt := 42) hx hb d_Md_grow_82 rfl ?_
  exact hk42 _ _ _ _ _ _ _ _ o0 hI (lv_sub hl [1, 2, 3, 0] rfl) h
def b_Md_grow_42 (L : La) (k4 : Nat → Int32 → Int32 → Mem → Option (Int32 × Mem)) (k42 : Nat → Int32 → Int32 → Int32 → Mem → Option (Int32 × Mem)) (i0 : Nat) (x1 : Int32) (x2 : Int32) (x3 : Int32) (F : Mem) : Option (Int32 × Mem) :=
  if (F i0 13) ≤ x3 then
    if inb x2 (mGl L (mRf L i0 38)) then none else
    if (mGa L F (mRf L i0 38) x2.toNatClampNeg) ≤ 0 then
      b_Md_grow_100 L k4 i0 x2 x1 (0 : Int32) F
    else
      b_Md_grow_100 L k4 i0 x2 x1 (1 : Int32) F
  else
    if inb x2 (mGl L (mRf L i0 38)) then none else
    if inb x3 (mGl L (mRf L i0 14)) then none else
    if (mGa L F (mRf L i0 14) x3.toNatClampNeg) = ((F i0 16) + x2) then
      b_Md_grow_77 L k4 k42 i0 x1 x2 x3 (mRf L i0 38) x2 (mGa L F (mRf L i0 38) x2.toNatClampNeg) (1 : Int32) F
    else
      b_Md_grow_77 L k4 k42 i0 x1 x2 x3 (mRf L i0 38) x2 (mGa L F (mRf L i0 38) x2.toNatClampNeg) (0 : Int32) F
set_option maxHeartbeats 4000000 in
theorem t_Md_grow_42 (hC : Cx X L p s m args meth c cc_Md_grow 5 w_Md_grow R_Md (some .int)) {k4 : Nat → Int32 → Int32 → Mem → Option (Int32 × Mem)} {k42 : Nat → Int32 → Int32 → Int32 → Mem → Option (Int32 × Mem)} {out : (Int32 × Mem)} (hk4 : ∀ (i0 : Nat) (x1 : Int32) (x2 : Int32) (F : Mem) (H : Heap) (locs : List Loc) (ls : Array Slot), oO L 12 i0 → Iv X L s H locs F → lv_has ls 5 [(0, .ref (mAd X i0)), (1, .int x1), (2, .int x2)] → k4 i0 x1 x2 F = some out → W p l e (headSpec w_Md_grow r_Md_grow).room s m args below meth c H locs 0 0 (MQ below (QI X L out) args s 0 0 (AA X L)) (F0 m 4 ls [])) (hk42 : ∀ (i0 : Nat) (x1 : Int32) (x2 : Int32) (x3 : Int32) (F : Mem) (H : Heap) (locs : List Loc) (ls : Array Slot), oO L 12 i0 → Iv X L s H locs F → lv_has ls 5 [(0, .ref (mAd X i0)), (1, .int x1), (2, .int x2), (3, .int x3)] → k42 i0 x1 x2 x3 F = some out → W p l e (headSpec w_Md_grow r_Md_grow).room s m args below meth c H locs 0 0 (MQ below (QI X L out) args s 0 0 (AA X L)) (F0 m 42 ls [])) {i0 : Nat} {x1 : Int32} {x2 : Int32} {x3 : Int32} {F : Mem} {H : Heap} {locs : List Loc} {ls : Array Slot} (o0 : oO L 12 i0) (hI : Iv X L s H locs F) (hl : lv_has ls 5 [(0, .ref (mAd X i0)), (1, .int x1), (2, .int x2), (3, .int x3)]) (h : b_Md_grow_42 L k4 k42 i0 x1 x2 x3 F = some out) : W p l e (headSpec w_Md_grow r_Md_grow).room s m args below meth c H locs 0 0 (MQ below (QI X L out) args s 0 0 (AA X L)) (F0 m 42 ls []) := by
  unfold b_Md_grow_42 at h
  obtain ⟨S, hK, hT, hW, hr, hlk⟩ := id hC
  have hx := S.1
  have hb := S.2.1
  refine lv_iload_n hx hb d_Md_grow_42 rfl (lv_at hl 3 rfl) ?_
  refine lv_aload_n hx hb d_Md_grow_43 rfl (lv_at hl 0 rfl) ?_
  refine w_getI (T := T_Md) S hK hI o0 rfl hin_Md 13 (index := 150) (by decide) lf_Md_150 d_Md_grow_44 ?_
  refine lv_icmp_ge (tgt := 85) hx hb d_Md_grow_47 rfl (fun hc => ?_) (fun hc => ?_)
  · replace h := (if_pos hc).symm.trans h
    refine lv_iload_n hx hb d_Md_grow_85 rfl (lv_at hl 1 rfl) ?_
    refine lv_aload_n hx hb d_Md_grow_86 rfl (lv_at hl 0 rfl) ?_
    have p1 := wt_a hW o0 38 rfl (by decide) (by decide)
    refine w_getR (T := T_Md) S hK hI o0 rfl hin_Md 38 (index := 74) (by decide) lf_Md_74 d_Md_grow_87 ?_
    refine lv_iload_n hx hb d_Md_grow_90 rfl (lv_at hl 2 rfl) ?_
    obtain ⟨z2, h⟩ := un_if h
    refine w_iald S hK hI hT p1 z2 d_Md_grow_91 ?_
    refine lv_if_le (tgt := 99) hx hb d_Md_grow_92 rfl (fun hc => ?_) (fun hc => ?_)
    · replace h := (if_pos hc).symm.trans h
      refine lv_iconst (v := 0) hx hb d_Md_grow_99 rfl ?_
      exact t_Md_grow_100 hC hk4 o0 hI (lv_sub hl [0, 2] rfl) h
    · replace h := (if_neg hc).symm.trans h
      refine lv_iconst (v := 1) hx hb d_Md_grow_95 rfl ?_
      refine lv_goto (tgt := 100) hx hb d_Md_grow_96 rfl ?_
      exact t_Md_grow_100 hC hk4 o0 hI (lv_sub hl [0, 2] rfl) h
  · replace h := (if_neg hc).symm.trans h
    refine lv_aload_n hx hb d_Md_grow_50 rfl (lv_at hl 0 rfl) ?_
    have p3 := wt_a hW o0 38 rfl (by decide) (by decide)
    refine w_getR (T := T_Md) S hK hI o0 rfl hin_Md 38 (index := 74) (by decide) lf_Md_74 d_Md_grow_51 ?_
    refine lv_iload_n hx hb d_Md_grow_54 rfl (lv_at hl 2 rfl) ?_
    refine lv_dup2_11 hx hb d_Md_grow_55 rfl rfl ?_
    obtain ⟨z4, h⟩ := un_if h
    refine w_iald S hK hI hT p3 z4 d_Md_grow_56 ?_
    refine lv_aload_n hx hb d_Md_grow_57 rfl (lv_at hl 0 rfl) ?_
    have p5 := wt_a hW o0 14 rfl (by decide) (by decide)
    refine w_getR (T := T_Md) S hK hI o0 rfl hin_Md 14 (index := 22) (by decide) lf_Md_22 d_Md_grow_58 ?_
    refine lv_iload_n hx hb d_Md_grow_61 rfl (lv_at hl 3 rfl) ?_
    obtain ⟨z6, h⟩ := un_if h
    refine w_iald S hK hI hT p5 z6 d_Md_grow_62 ?_
    refine lv_aload_n hx hb d_Md_grow_63 rfl (lv_at hl 0 rfl) ?_
    refine w_getI (T := T_Md) S hK hI o0 rfl hin_Md 16 (index := 166) (by decide) lf_Md_166 d_Md_grow_64 ?_
    refine lv_iload_n hx hb d_Md_grow_67 rfl (lv_at hl 2 rfl) ?_
    refine lv_iadd hx hb d_Md_grow_68 ?_
    refine lv_icmp_ne (tgt := 76) hx hb d_Md_grow_69 rfl (fun hc => ?_) (fun hc => ?_)
    · replace h := (if_neg hc).symm.trans h
      refine lv_iconst (v := 0) hx hb d_Md_grow_76 rfl ?_
      exact t_Md_grow_77 hC hk4 hk42 o0 p3 hI hl h
    · replace h := (if_pos hc).symm.trans h
      refine lv_iconst (v := 1) hx hb d_Md_grow_72 rfl ?_
      refine lv_goto (tgt := 77) hx hb d_Md_grow_73 rfl ?_
      exact t_Md_grow_77 hC hk4 hk42 o0 p3 hI hl h
def f_Md_grow_42 (L : La) (k4 : Nat → Int32 → Int32 → Mem → Option (Int32 × Mem)) : Nat → Nat → Int32 → Int32 → Int32 → Mem → Option (Int32 × Mem)
  | 0 => fun _ _ _ _ _ => none
  | n + 1 => b_Md_grow_42 L k4 (f_Md_grow_42 L k4 n)
theorem tf_Md_grow_42 (hC : Cx X L p s m args meth c cc_Md_grow 5 w_Md_grow R_Md (some .int)) {k4 : Nat → Int32 → Int32 → Mem → Option (Int32 × Mem)} {out : (Int32 × Mem)} (hk4 : ∀ (i0 : Nat) (x1 : Int32) (x2 : Int32) (F : Mem) (H : Heap) (locs : List Loc) (ls : Array Slot), oO L 12 i0 → Iv X L s H locs F → lv_has ls 5 [(0, .ref (mAd X i0)), (1, .int x1), (2, .int x2)] → k4 i0 x1 x2 F = some out → W p l e (headSpec w_Md_grow r_Md_grow).room s m args below meth c H locs 0 0 (MQ below (QI X L out) args s 0 0 (AA X L)) (F0 m 4 ls [])) (n : Nat) : ∀ (i0 : Nat) (x1 : Int32) (x2 : Int32) (x3 : Int32) (F : Mem) (H : Heap) (locs : List Loc) (ls : Array Slot), oO L 12 i0 → Iv X L s H locs F → lv_has ls 5 [(0, .ref (mAd X i0)), (1, .int x1), (2, .int x2), (3, .int x3)] → f_Md_grow_42 L k4 n i0 x1 x2 x3 F = some out → W p l e (headSpec w_Md_grow r_Md_grow).room s m args below meth c H locs 0 0 (MQ below (QI X L out) args s 0 0 (AA X L)) (F0 m 42 ls []) := by
  induction n with
  | zero => intro i0 x1 x2 x3 F H locs ls o0 hI hl h; cases h
  | succ n ih => intro i0 x1 x2 x3 F H locs ls o0 hI hl h; exact t_Md_grow_42 hC hk4 ih o0 hI hl h
def b_Md_grow_4 (L : La) (k4 : Nat → Int32 → Int32 → Mem → Option (Int32 × Mem)) (i0 : Nat) (x1 : Int32) (x2 : Int32) (F : Mem) : Option (Int32 × Mem) :=
  if (F i0 17) < x2 then
    f_Md_grow_110 L  mFU i0 x1 (1 : Int32) F
  else
    if inb x2 (mLn L (mRf L i0 38)) ∨ ¬ (mRf L i0 38) < mNc L then none else
    lt' (u2 F (mRf L i0 38) x2.toNatClampNeg (0 : Int32)) fun F3 =>
    if inb x2 (mLn L (mRf L i0 41)) ∨ ¬ (mRf L i0 41) < mNc L then none else
    lt' (u2 F3 (mRf L i0 41) x2.toNatClampNeg (0 : Int32)) fun F7 =>
    if inb x2 (mLn L (mRf L i0 40)) ∨ ¬ (mRf L i0 40) < mNc L then none else
    lt' (u2 F7 (mRf L i0 40) x2.toNatClampNeg (0 : Int32)) fun F11 =>
    if inb x2 (mLn L (mRf L i0 39)) ∨ ¬ (mRf L i0 39) < mNc L then none else
    lt' (u2 F11 (mRf L i0 39) x2.toNatClampNeg x2) fun F15 =>
    f_Md_grow_42 L k4 mFU i0 x1 x2 (0 : Int32) F15
set_option maxHeartbeats 4000000 in
theorem t_Md_grow_4 (hC : Cx X L p s m args meth c cc_Md_grow 5 w_Md_grow R_Md (some .int)) {k4 : Nat → Int32 → Int32 → Mem → Option (Int32 × Mem)} {out : (Int32 × Mem)} (hk4 : ∀ (i0 : Nat) (x1 : Int32) (x2 : Int32) (F : Mem) (H : Heap) (locs : List Loc) (ls : Array Slot), oO L 12 i0 → Iv X L s H locs F → lv_has ls 5 [(0, .ref (mAd X i0)), (1, .int x1), (2, .int x2)] → k4 i0 x1 x2 F = some out → W p l e (headSpec w_Md_grow r_Md_grow).room s m args below meth c H locs 0 0 (MQ below (QI X L out) args s 0 0 (AA X L)) (F0 m 4 ls [])) {i0 : Nat} {x1 : Int32} {x2 : Int32} {F : Mem} {H : Heap} {locs : List Loc} {ls : Array Slot} (o0 : oO L 12 i0) (hI : Iv X L s H locs F) (hl : lv_has ls 5 [(0, .ref (mAd X i0)), (1, .int x1), (2, .int x2)]) (h : b_Md_grow_4 L k4 i0 x1 x2 F = some out) : W p l e (headSpec w_Md_grow r_Md_grow).room s m args below meth c H locs 0 0 (MQ below (QI X L out) args s 0 0 (AA X L)) (F0 m 4 ls []) := by
  unfold b_Md_grow_4 at h
  obtain ⟨S, hK, hT, hW, hr, hlk⟩ := id hC
  have hx := S.1
  have hb := S.2.1
  refine lv_iload_n hx hb d_Md_grow_4 rfl (lv_at hl 2 rfl) ?_
  refine lv_aload_n hx hb d_Md_grow_5 rfl (lv_at hl 0 rfl) ?_
  refine w_getI (T := T_Md) S hK hI o0 rfl hin_Md 17 (index := 172) (by decide) lf_Md_172 d_Md_grow_6 ?_
  refine lv_icmp_gt (tgt := 108) hx hb d_Md_grow_9 rfl (fun hc => ?_) (fun hc => ?_)
  · replace h := (if_pos hc).symm.trans h
    refine lv_iconst (v := 1) hx hb d_Md_grow_108 rfl ?_
    refine lv_istore_n (lv' := [(2, .int (1 : Int32)), (0, .ref (mAd X i0)), (1, .int x1)]) hx hb d_Md_grow_109 rfl hl (by decide) rfl (fun ls hl => ?_)
    exact tf_Md_grow_110 hC  mFU _ _ _ _ _ _ _ o0 hI (lv_sub hl [1, 2, 0] rfl) h
  · replace h := (if_neg hc).symm.trans h
    refine lv_aload_n hx hb d_Md_grow_12 rfl (lv_at hl 0 rfl) ?_
    have p1 := wt_a hW o0 38 rfl (by decide) (by decide)
    refine w_getR (T := T_Md) S hK hI o0 rfl hin_Md 38 (index := 74) (by decide) lf_Md_74 d_Md_grow_13 ?_
    refine lv_iload_n hx hb d_Md_grow_16 rfl (lv_at hl 2 rfl) ?_
    refine lv_iconst (v := 0) hx hb d_Md_grow_17 rfl ?_
    obtain ⟨z2, h⟩ := un_if h
    refine w_iast S hK hI p1 z2 d_Md_grow_18 (fun H locs F3 e4 hI => ?_)
    replace h := un_lt h _ e4
    refine lv_aload_n hx hb d_Md_grow_19 rfl (lv_at hl 0 rfl) ?_
    have p5 := wt_a hW o0 41 rfl (by decide) (by decide)
    refine w_getR (T := T_Md) S hK hI o0 rfl hin_Md 41 (index := 83) (by decide) lf_Md_83 d_Md_grow_20 ?_
    refine lv_iload_n hx hb d_Md_grow_23 rfl (lv_at hl 2 rfl) ?_
    refine lv_iconst (v := 0) hx hb d_Md_grow_24 rfl ?_
    obtain ⟨z6, h⟩ := un_if h
    refine w_iast S hK hI p5 z6 d_Md_grow_25 (fun H locs F7 e8 hI => ?_)
    replace h := un_lt h _ e8
    refine lv_aload_n hx hb d_Md_grow_26 rfl (lv_at hl 0 rfl) ?_
    have p9 := wt_a hW o0 40 rfl (by decide) (by decide)
    refine w_getR (T := T_Md) S hK hI o0 rfl hin_Md 40 (index := 80) (by decide) lf_Md_80 d_Md_grow_27 ?_
    refine lv_iload_n hx hb d_Md_grow_30 rfl (lv_at hl 2 rfl) ?_
    refine lv_iconst (v := 0) hx hb d_Md_grow_31 rfl ?_
    obtain ⟨z10, h⟩ := un_if h
    refine w_iast S hK hI p9 z10 d_Md_grow_32 (fun H locs F11 e12 hI => ?_)
    replace h := un_lt h _ e12
    refine lv_aload_n hx hb d_Md_grow_33 rfl (lv_at hl 0 rfl) ?_
    have p13 := wt_a hW o0 39 rfl (by decide) (by decide)
    refine w_getR (T := T_Md) S hK hI o0 rfl hin_Md 39 (index := 77) (by decide) lf_Md_77 d_Md_grow_34 ?_
    refine lv_iload_n hx hb d_Md_grow_37 rfl (lv_at hl 2 rfl) ?_
    refine lv_iload_n hx hb d_Md_grow_38 rfl (lv_at hl 2 rfl) ?_
    obtain ⟨z14, h⟩ := un_if h
    refine w_iast S hK hI p13 z14 d_Md_grow_39 (fun H locs F15 e16 hI => ?_)
    replace h := un_lt h _ e16
    refine lv_iconst (v := 0) hx hb d_Md_grow_40 rfl ?_
    refine lv_istore_n (lv' := [(3, .int (0 : Int32)), (0, .ref (mAd X i0)), (1, .int x1), (2, .int x2)]) hx hb d_Md_grow_41 rfl hl (by decide) rfl (fun ls hl => ?_)
    exact tf_Md_grow_42 hC hk4 mFU _ _ _ _ _ _ _ _ o0 hI (lv_sub hl [1, 2, 3, 0] rfl) h
def f_Md_grow_4 (L : La)  : Nat → Nat → Int32 → Int32 → Mem → Option (Int32 × Mem)
  | 0 => fun _ _ _ _ => none
  | n + 1 => b_Md_grow_4 L (f_Md_grow_4 L  n)
theorem tf_Md_grow_4 (hC : Cx X L p s m args meth c cc_Md_grow 5 w_Md_grow R_Md (some .int))  {out : (Int32 × Mem)}  (n : Nat) : ∀ (i0 : Nat) (x1 : Int32) (x2 : Int32) (F : Mem) (H : Heap) (locs : List Loc) (ls : Array Slot), oO L 12 i0 → Iv X L s H locs F → lv_has ls 5 [(0, .ref (mAd X i0)), (1, .int x1), (2, .int x2)] → f_Md_grow_4 L  n i0 x1 x2 F = some out → W p l e (headSpec w_Md_grow r_Md_grow).room s m args below meth c H locs 0 0 (MQ below (QI X L out) args s 0 0 (AA X L)) (F0 m 4 ls []) := by
  induction n with
  | zero => intro i0 x1 x2 F H locs ls o0 hI hl h; cases h
  | succ n ih => intro i0 x1 x2 F H locs ls o0 hI hl h; exact t_Md_grow_4 hC ih o0 hI hl h
def f_Md_grow (L : La) (i0 : Nat) (F : Mem) : Option (Int32 × Mem) :=
  f_Md_grow_4 L  mFU i0 (0 : Int32) (0 : Int32) F
set_option maxHeartbeats 4000000 in
theorem c_Md_grow (l : Launch) {X : Xs} {L : La} (hW : WT L) {out : (Int32 × Mem)} {i0 : Nat} {F : Mem} (o0 : oO L 12 i0) (h : f_Md_grow L i0 F = some out) : Met l y_Md_grow w_Md_grow r_Md_grow (va_Pc [.ref (mAd X i0)] (Pr X L F)) (QI X L out) 0 0 (AA X L) := by
  refine mk_met (by decide) rfl (Nat.le_of_ble_eq_true rfl) hW ?_
  intro p e s m args below meth c ls hC hI hl
  have hl : lv_has ls 5 [(0, .ref (mAd X i0))] := hl
  generalize hHe : s.heap = H at hI ⊢
  generalize ([] : List Loc) = locs at hI ⊢
  unfold f_Md_grow at h
  obtain ⟨S, hK, hT, hW, hr, hlk⟩ := id hC
  have hx := S.1
  have hb := S.2.1
  refine lv_iconst (v := 0) hx hb d_Md_grow_0 rfl ?_
  refine lv_istore_n (lv' := [(1, .int (0 : Int32)), (0, .ref (mAd X i0))]) hx hb d_Md_grow_1 rfl hl (by decide) rfl (fun ls hl => ?_)
  refine lv_iconst (v := 0) hx hb d_Md_grow_2 rfl ?_
  refine lv_istore_n (lv' := [(2, .int (0 : Int32)), (1, .int (0 : Int32)), (0, .ref (mAd X i0))]) hx hb d_Md_grow_3 rfl hl (by decide) rfl (fun ls hl => ?_)
  exact tf_Md_grow_4 hC  mFU _ _ _ _ _ _ _ o0 hI (lv_sub hl [2, 1, 0] rfl) h
end
theorem d_Md_placeOf_0 : decode cc_Md_placeOf 0 = .ok (.iconst 0, 1) := by decide +kernel
theorem d_Md_placeOf_1 : decode cc_Md_placeOf 1 = .ok (.istore_n 2, 1) := by decide +kernel
theorem d_Md_placeOf_2 : decode cc_Md_placeOf 2 = .ok (.iload_n 2, 1) := by decide +kernel
theorem d_Md_placeOf_3 : decode cc_Md_placeOf 3 = .ok (.bipush (127), 2) := by decide +kernel
theorem d_Md_placeOf_5 : decode cc_Md_placeOf 5 = .ok (.if_icmp .ge (19), 3) := by decide +kernel
theorem d_Md_placeOf_8 : decode cc_Md_placeOf 8 = .ok (.aload_n 0, 1) := by decide +kernel
theorem d_Md_placeOf_9 : decode cc_Md_placeOf 9 = .ok (.getfield 28, 3) := by decide +kernel
theorem d_Md_placeOf_12 : decode cc_Md_placeOf 12 = .ok (.iload_n 2, 1) := by decide +kernel
theorem d_Md_placeOf_13 : decode cc_Md_placeOf 13 = .ok (.iaload, 1) := by decide +kernel
theorem d_Md_placeOf_14 : decode cc_Md_placeOf 14 = .ok (.iload_n 1, 1) := by decide +kernel
theorem d_Md_placeOf_15 : decode cc_Md_placeOf 15 = .ok (.if_icmp .eq (9), 3) := by decide +kernel
theorem d_Md_placeOf_18 : decode cc_Md_placeOf 18 = .ok (.iinc 2 (1), 3) := by decide +kernel
theorem d_Md_placeOf_21 : decode cc_Md_placeOf 21 = .ok (.goto (-19), 3) := by decide +kernel
theorem d_Md_placeOf_24 : decode cc_Md_placeOf 24 = .ok (.iload_n 2, 1) := by decide +kernel
theorem d_Md_placeOf_25 : decode cc_Md_placeOf 25 = .ok (.ireturn, 1) := by decide +kernel
section
variable {p : Program} {l : Launch} {e : Env} {s : State} {m : MethodId} {args : Array Value} {below : List Frame} {meth : Method} {c : Code} {X : Xs} {L : La}
def b_Md_placeOf_24 (L : La)  (x2 : Int32) (F : Mem) : Option (Int32 × Mem) :=
  some (x2, F)
set_option maxHeartbeats 4000000 in
theorem t_Md_placeOf_24 (hC : Cx X L p s m args meth c cc_Md_placeOf 3 w_Md_placeOf R_Md (some .int))  {out : (Int32 × Mem)}  {x2 : Int32} {F : Mem} {H : Heap} {locs : List Loc} {ls : Array Slot}  (hI : Iv X L s H locs F) (hl : lv_has ls 3 [(2, .int x2)]) (h : b_Md_placeOf_24 L  x2 F = some out) : W p l e (headSpec w_Md_placeOf r_Md_placeOf).room s m args below meth c H locs 0 0 (MQ below (QI X L out) args s 0 0 (AA X L)) (F0 m 24 ls []) := by
  unfold b_Md_placeOf_24 at h
  obtain ⟨S, hK, hT, hW, hr, hlk⟩ := id hC
  have hx := S.1
  have hb := S.2.1
  refine lv_iload_n hx hb d_Md_placeOf_24 rfl (lv_at hl 0 rfl) ?_
  exact w_iret S hK hr hlk hI d_Md_placeOf_25 h
def b_Md_placeOf_2 (L : La) (k2 : Nat → Int32 → Int32 → Mem → Option (Int32 × Mem)) (i0 : Nat) (x1 : Int32) (x2 : Int32) (F : Mem) : Option (Int32 × Mem) :=
  if (127 : Int32) ≤ x2 then
    b_Md_placeOf_24 L  x2 F
  else
    if inb x2 (mGl L (mRf L i0 20)) then none else
    if (mGa L F (mRf L i0 20) x2.toNatClampNeg) = x1 then
      b_Md_placeOf_24 L  x2 F
    else
      k2 i0 x1 (x2 + (1 : Int32)) F
set_option maxHeartbeats 4000000 in
theorem t_Md_placeOf_2 (hC : Cx X L p s m args meth c cc_Md_placeOf 3 w_Md_placeOf R_Md (some .int)) {k2 : Nat → Int32 → Int32 → Mem → Option (Int32 × Mem)} {out : (Int32 × Mem)} (hk2 : ∀ (i0 : Nat) (x1 : Int32) (x2 : Int32) (F : Mem) (H : Heap) (locs : List Loc) (ls : Array Slot), oO L 12 i0 → Iv X L s H locs F → lv_has ls 3 [(0, .ref (mAd X i0)), (1, .int x1), (2, .int x2)] → k2 i0 x1 x2 F = some out → W p l e (headSpec w_Md_placeOf r_Md_placeOf).room s m args below meth c H locs 0 0 (MQ below (QI X L out) args s 0 0 (AA X L)) (F0 m 2 ls [])) {i0 : Nat} {x1 : Int32} {x2 : Int32} {F : Mem} {H : Heap} {locs : List Loc} {ls : Array Slot} (o0 : oO L 12 i0) (hI : Iv X L s H locs F) (hl : lv_has ls 3 [(0, .ref (mAd X i0)), (1, .int x1), (2, .int x2)]) (h : b_Md_placeOf_2 L k2 i0 x1 x2 F = some out) : W p l e (headSpec w_Md_placeOf r_Md_placeOf).room s m args below meth c H locs 0 0 (MQ below (QI X L out) args s 0 0 (AA X L)) (F0 m 2 ls []) := by
  unfold b_Md_placeOf_2 at h
  obtain ⟨S, hK, hT, hW, hr, hlk⟩ := id hC
  have hx := S.1
  have hb := S.2.1
  refine lv_iload_n hx hb d_Md_placeOf_2 rfl (lv_at hl 2 rfl) ?_
  refine lv_bipush (v := 127) hx hb d_Md_placeOf_3 (by decide) ?_
  refine lv_icmp_ge (tgt := 24) hx hb d_Md_placeOf_5 rfl (fun hc => ?_) (fun hc => ?_)
  · replace h := (if_pos hc).symm.trans h
    exact t_Md_placeOf_24 hC   hI (lv_sub hl [2] rfl) h
  · replace h := (if_neg hc).symm.trans h
    refine lv_aload_n hx hb d_Md_placeOf_8 rfl (lv_at hl 0 rfl) ?_
    have p1 := wt_a hW o0 20 rfl (by decide) (by decide)
    refine w_getR (T := T_Md) S hK hI o0 rfl hin_Md 20 (index := 28) (by decide) lf_Md_28 d_Md_placeOf_9 ?_
    refine lv_iload_n hx hb d_Md_placeOf_12 rfl (lv_at hl 2 rfl) ?_
    obtain ⟨z2, h⟩ := un_if h
    refine w_iald S hK hI hT p1 z2 d_Md_placeOf_13 ?_
    refine lv_iload_n hx hb d_Md_placeOf_14 rfl (lv_at hl 1 rfl) ?_
    refine lv_icmp_eq (tgt := 24) hx hb d_Md_placeOf_15 rfl (fun hc => ?_) (fun hc => ?_)
    · replace h := (if_pos hc).symm.trans h
      exact t_Md_placeOf_24 hC   hI (lv_sub hl [2] rfl) h
    · replace h := (if_neg hc).symm.trans h
      refine lv_iinc (k := 2) (v := x2 + (1 : Int32)) (lv' := [(2, .int (x2 + (1 : Int32))), (0, .ref (mAd X i0)), (1, .int x1)]) hx hb d_Md_placeOf_18 hl rfl rfl (by decide) rfl (fun ls hl => ?_)
      refine lv_goto (tgt := 2) hx hb d_Md_placeOf_21 rfl ?_
      exact hk2 _ _ _ _ _ _ _ o0 hI (lv_sub hl [1, 2, 0] rfl) h
def f_Md_placeOf_2 (L : La)  : Nat → Nat → Int32 → Int32 → Mem → Option (Int32 × Mem)
  | 0 => fun _ _ _ _ => none
  | n + 1 => b_Md_placeOf_2 L (f_Md_placeOf_2 L  n)
theorem tf_Md_placeOf_2 (hC : Cx X L p s m args meth c cc_Md_placeOf 3 w_Md_placeOf R_Md (some .int))  {out : (Int32 × Mem)}  (n : Nat) : ∀ (i0 : Nat) (x1 : Int32) (x2 : Int32) (F : Mem) (H : Heap) (locs : List Loc) (ls : Array Slot), oO L 12 i0 → Iv X L s H locs F → lv_has ls 3 [(0, .ref (mAd X i0)), (1, .int x1), (2, .int x2)] → f_Md_placeOf_2 L  n i0 x1 x2 F = some out → W p l e (headSpec w_Md_placeOf r_Md_placeOf).room s m args below meth c H locs 0 0 (MQ below (QI X L out) args s 0 0 (AA X L)) (F0 m 2 ls []) := by
  induction n with
  | zero => intro i0 x1 x2 F H locs ls o0 hI hl h; cases h
  | succ n ih => intro i0 x1 x2 F H locs ls o0 hI hl h; exact t_Md_placeOf_2 hC ih o0 hI hl h
def f_Md_placeOf (L : La) (i0 : Nat) (x1 : Int32) (F : Mem) : Option (Int32 × Mem) :=
  f_Md_placeOf_2 L  mFU i0 x1 (0 : Int32) F
set_option maxHeartbeats 4000000 in
theorem c_Md_placeOf (l : Launch) {X : Xs} {L : La} (hW : WT L) {out : (Int32 × Mem)} {i0 : Nat} {x1 : Int32} {F : Mem} (o0 : oO L 12 i0) (h : f_Md_placeOf L i0 x1 F = some out) : Met l y_Md_placeOf w_Md_placeOf r_Md_placeOf (va_Pc [.ref (mAd X i0), .int x1] (Pr X L F)) (QI X L out) 0 0 (AA X L) := by
  refine mk_met (by decide) rfl (Nat.le_of_ble_eq_true rfl) hW ?_
  intro p e s m args below meth c ls hC hI hl
  have hl : lv_has ls 3 [(0, .ref (mAd X i0)), (1, .int x1)] := hl
  generalize hHe : s.heap = H at hI ⊢
  generalize ([] : List Loc) = locs at hI ⊢
  unfold f_Md_placeOf at h
  obtain ⟨S, hK, hT, hW, hr, hlk⟩ := id hC
  have hx := S.1
  have hb := S.2.1
  refine lv_iconst (v := 0) hx hb d_Md_placeOf_0 rfl ?_
  refine lv_istore_n (lv' := [(2, .int (0 : Int32)), (0, .ref (mAd X i0)), (1, .int x1)]) hx hb d_Md_placeOf_1 rfl hl (by decide) rfl (fun ls hl => ?_)
  exact tf_Md_placeOf_2 hC  mFU _ _ _ _ _ _ _ o0 hI (lv_sub hl [1, 2, 0] rfl) h
end
theorem d_Md_push_0 : decode cc_Md_push 0 = .ok (.iload_n 2, 1) := by decide +kernel
theorem d_Md_push_1 : decode cc_Md_push 1 = .ok (.iconst 1, 1) := by decide +kernel
theorem d_Md_push_2 : decode cc_Md_push 2 = .ok (.isub, 1) := by decide +kernel
theorem d_Md_push_3 : decode cc_Md_push 3 = .ok (.istore_n 3, 1) := by decide +kernel
theorem d_Md_push_4 : decode cc_Md_push 4 = .ok (.iload_n 3, 1) := by decide +kernel
theorem d_Md_push_5 : decode cc_Md_push 5 = .ok (.ifCond .lt (33), 3) := by decide +kernel
theorem d_Md_push_8 : decode cc_Md_push 8 = .ok (.aload_n 0, 1) := by decide +kernel
theorem d_Md_push_9 : decode cc_Md_push 9 = .ok (.getfield 71, 3) := by decide +kernel
theorem d_Md_push_12 : decode cc_Md_push 12 = .ok (.aload_n 0, 1) := by decide +kernel
theorem d_Md_push_13 : decode cc_Md_push 13 = .ok (.getfield 212, 3) := by decide +kernel
theorem d_Md_push_16 : decode cc_Md_push 16 = .ok (.iload_n 1, 1) := by decide +kernel
theorem d_Md_push_17 : decode cc_Md_push 17 = .ok (.iload_n 3, 1) := by decide +kernel
theorem d_Md_push_18 : decode cc_Md_push 18 = .ok (.ishr, 1) := by decide +kernel
theorem d_Md_push_19 : decode cc_Md_push 19 = .ok (.iconst 1, 1) := by decide +kernel
theorem d_Md_push_20 : decode cc_Md_push 20 = .ok (.iand, 1) := by decide +kernel
theorem d_Md_push_21 : decode cc_Md_push 21 = .ok (.iastore, 1) := by decide +kernel
theorem d_Md_push_22 : decode cc_Md_push 22 = .ok (.aload_n 0, 1) := by decide +kernel
theorem d_Md_push_23 : decode cc_Md_push 23 = .ok (.dup, 1) := by decide +kernel
theorem d_Md_push_24 : decode cc_Md_push 24 = .ok (.getfield 212, 3) := by decide +kernel
theorem d_Md_push_27 : decode cc_Md_push 27 = .ok (.iconst 1, 1) := by decide +kernel
theorem d_Md_push_28 : decode cc_Md_push 28 = .ok (.iadd, 1) := by decide +kernel
theorem d_Md_push_29 : decode cc_Md_push 29 = .ok (.putfield 212, 3) := by decide +kernel
theorem d_Md_push_32 : decode cc_Md_push 32 = .ok (.iinc 3 (-1), 3) := by decide +kernel
theorem d_Md_push_35 : decode cc_Md_push 35 = .ok (.goto (-31), 3) := by decide +kernel
theorem d_Md_push_38 : decode cc_Md_push 38 = .ok (.return_, 1) := by decide +kernel
section
variable {p : Program} {l : Launch} {e : Env} {s : State} {m : MethodId} {args : Array Value} {below : List Frame} {meth : Method} {c : Code} {X : Xs} {L : La}
def b_Md_push_4 (L : La) (k4 : Nat → Int32 → Int32 → Mem → Option Mem) (i0 : Nat) (x1 : Int32) (x3 : Int32) (F : Mem) : Option Mem :=
  if x3 < 0 then
    some F
  else
    if inb (F i0 36) (mLn L (mRf L i0 37)) ∨ ¬ (mRf L i0 37) < mNc L then none else
    lt' (u2 F (mRf L i0 37) (F i0 36).toNatClampNeg ((jshr x1 x3) &&& (1 : Int32))) fun F3 =>
    lt' (u2 F3 i0 36 ((F3 i0 36) + (1 : Int32))) fun F5 =>
    k4 i0 x1 (x3 + (-1 : Int32)) F5
set_option maxHeartbeats 4000000 in
theorem t_Md_push_4 (hC : Cx X L p s m args meth c cc_Md_push 4 w_Md_push R_Md none) {k4 : Nat → Int32 → Int32 → Mem → Option Mem} {out : Mem} (hk4 : ∀ (i0 : Nat) (x1 : Int32) (x3 : Int32) (F : Mem) (H : Heap) (locs : List Loc) (ls : Array Slot), oO L 12 i0 → Iv X L s H locs F → lv_has ls 4 [(0, .ref (mAd X i0)), (1, .int x1), (3, .int x3)] → k4 i0 x1 x3 F = some out → W p l e (headSpec w_Md_push r_Md_push).room s m args below meth c H locs 0 0 (MQ below (QV X L out) args s 0 0 (AA X L)) (F0 m 4 ls [])) {i0 : Nat} {x1 : Int32} {x3 : Int32} {F : Mem} {H : Heap} {locs : List Loc} {ls : Array Slot} (o0 : oO L 12 i0) (hI : Iv X L s H locs F) (hl : lv_has ls 4 [(0, .ref (mAd X i0)), (1, .int x1), (3, .int x3)]) (h : b_Md_push_4 L k4 i0 x1 x3 F = some out) : W p l e (headSpec w_Md_push r_Md_push).room s m args below meth c H locs 0 0 (MQ below (QV X L out) args s 0 0 (AA X L)) (F0 m 4 ls []) := by
  unfold b_Md_push_4 at h
  obtain ⟨S, hK, hT, hW, hr, hlk⟩ := id hC
  have hx := S.1
  have hb := S.2.1
  refine lv_iload_n hx hb d_Md_push_4 rfl (lv_at hl 2 rfl) ?_
  refine lv_if_lt (tgt := 38) hx hb d_Md_push_5 rfl (fun hc => ?_) (fun hc => ?_)
  · replace h := (if_pos hc).symm.trans h
    exact w_vret S hK hr hlk hI d_Md_push_38 h
  · replace h := (if_neg hc).symm.trans h
    refine lv_aload_n hx hb d_Md_push_8 rfl (lv_at hl 0 rfl) ?_
    have p1 := wt_a hW o0 37 rfl (by decide) (by decide)
    refine w_getR (T := T_Md) S hK hI o0 rfl hin_Md 37 (index := 71) (by decide) lf_Md_71 d_Md_push_9 ?_
    refine lv_aload_n hx hb d_Md_push_12 rfl (lv_at hl 0 rfl) ?_
    refine w_getI (T := T_Md) S hK hI o0 rfl hin_Md 36 (index := 212) (by decide) lf_Md_212 d_Md_push_13 ?_
    refine lv_iload_n hx hb d_Md_push_16 rfl (lv_at hl 1 rfl) ?_
    refine lv_iload_n hx hb d_Md_push_17 rfl (lv_at hl 2 rfl) ?_
    refine lv_ishr hx hb d_Md_push_18 ?_
    refine lv_iconst (v := 1) hx hb d_Md_push_19 rfl ?_
    refine lv_iand hx hb d_Md_push_20 ?_
    obtain ⟨z2, h⟩ := un_if h
    refine w_iast S hK hI p1 z2 d_Md_push_21 (fun H locs F3 e4 hI => ?_)
    replace h := un_lt h _ e4
    refine lv_aload_n hx hb d_Md_push_22 rfl (lv_at hl 0 rfl) ?_
    refine lv_dup hx hb d_Md_push_23 rfl ?_
    refine w_getI (T := T_Md) S hK hI o0 rfl hin_Md 36 (index := 212) (by decide) lf_Md_212 d_Md_push_24 ?_
    refine lv_iconst (v := 1) hx hb d_Md_push_27 rfl ?_
    refine lv_iadd hx hb d_Md_push_28 ?_
    refine w_putI (T := T_Md) S hK hI o0 rfl hin_Md ty_Md tk_Md nm_Md 36 (index := 212) (by decide) lf_Md_212 rfl d_Md_push_29 (fun H locs F5 e6 hI => ?_)
    replace h := un_lt h _ e6
    refine lv_iinc (k := 2) (v := x3 + (-1 : Int32)) (lv' := [(3, .int (x3 + (-1 : Int32))), (0, .ref (mAd X i0)), (1, .int x1)]) hx hb d_Md_push_32 hl rfl rfl (by decide) rfl (fun ls hl => ?_)
    refine lv_goto (tgt := 4) hx hb d_Md_push_35 rfl ?_
    exact hk4 _ _ _ _ _ _ _ o0 hI (lv_sub hl [1, 2, 0] rfl) h
def f_Md_push_4 (L : La)  : Nat → Nat → Int32 → Int32 → Mem → Option Mem
  | 0 => fun _ _ _ _ => none
  | n + 1 => b_Md_push_4 L (f_Md_push_4 L  n)
theorem tf_Md_push_4 (hC : Cx X L p s m args meth c cc_Md_push 4 w_Md_push R_Md none)  {out : Mem}  (n : Nat) : ∀ (i0 : Nat) (x1 : Int32) (x3 : Int32) (F : Mem) (H : Heap) (locs : List Loc) (ls : Array Slot), oO L 12 i0 → Iv X L s H locs F → lv_has ls 4 [(0, .ref (mAd X i0)), (1, .int x1), (3, .int x3)] → f_Md_push_4 L  n i0 x1 x3 F = some out → W p l e (headSpec w_Md_push r_Md_push).room s m args below meth c H locs 0 0 (MQ below (QV X L out) args s 0 0 (AA X L)) (F0 m 4 ls []) := by
  induction n with
  | zero => intro i0 x1 x3 F H locs ls o0 hI hl h; cases h
  | succ n ih => intro i0 x1 x3 F H locs ls o0 hI hl h; exact t_Md_push_4 hC ih o0 hI hl h
def f_Md_push (L : La) (i0 : Nat) (x1 : Int32) (x2 : Int32) (F : Mem) : Option Mem :=
  f_Md_push_4 L  mFU i0 x1 (x2 - (1 : Int32)) F
set_option maxHeartbeats 4000000 in
theorem c_Md_push (l : Launch) {X : Xs} {L : La} (hW : WT L) {out : Mem} {i0 : Nat} {x1 : Int32} {x2 : Int32} {F : Mem} (o0 : oO L 12 i0) (h : f_Md_push L i0 x1 x2 F = some out) : Met l y_Md_push w_Md_push r_Md_push (va_Pc [.ref (mAd X i0), .int x1, .int x2] (Pr X L F)) (QV X L out) 0 0 (AA X L) := by
  refine mk_met (by decide) rfl (Nat.le_of_ble_eq_true rfl) hW ?_
  intro p e s m args below meth c ls hC hI hl
  have hl : lv_has ls 4 [(0, .ref (mAd X i0)), (1, .int x1), (2, .int x2)] := hl
  generalize hHe : s.heap = H at hI ⊢
  generalize ([] : List Loc) = locs at hI ⊢
  unfold f_Md_push at h
  obtain ⟨S, hK, hT, hW, hr, hlk⟩ := id hC
  have hx := S.1
  have hb := S.2.1
  refine lv_iload_n hx hb d_Md_push_0 rfl (lv_at hl 2 rfl) ?_
  refine lv_iconst (v := 1) hx hb d_Md_push_1 rfl ?_
  refine lv_isub hx hb d_Md_push_2 ?_
  refine lv_istore_n (lv' := [(3, .int (x2 - (1 : Int32))), (0, .ref (mAd X i0)), (1, .int x1), (2, .int x2)]) hx hb d_Md_push_3 rfl hl (by decide) rfl (fun ls hl => ?_)
  exact tf_Md_push_4 hC  mFU _ _ _ _ _ _ _ o0 hI (lv_sub hl [1, 2, 0] rfl) h
end
theorem d_Md_addStream_0 : decode cc_Md_addStream 0 = .ok (.iconst 0, 1) := by decide +kernel
theorem d_Md_addStream_1 : decode cc_Md_addStream 1 = .ok (.istore_n 1, 1) := by decide +kernel
theorem d_Md_addStream_2 : decode cc_Md_addStream 2 = .ok (.iload_n 1, 1) := by decide +kernel
theorem d_Md_addStream_3 : decode cc_Md_addStream 3 = .ok (.aload_n 0, 1) := by decide +kernel
theorem d_Md_addStream_4 : decode cc_Md_addStream 4 = .ok (.getfield 212, 3) := by decide +kernel
theorem d_Md_addStream_7 : decode cc_Md_addStream 7 = .ok (.bipush (8), 2) := by decide +kernel
theorem d_Md_addStream_9 : decode cc_Md_addStream 9 = .ok (.idiv, 1) := by decide +kernel
theorem d_Md_addStream_10 : decode cc_Md_addStream 10 = .ok (.if_icmp .gt (82), 3) := by decide +kernel
theorem d_Md_addStream_13 : decode cc_Md_addStream 13 = .ok (.iconst 0, 1) := by decide +kernel
theorem d_Md_addStream_14 : decode cc_Md_addStream 14 = .ok (.istore_n 2, 1) := by decide +kernel
theorem d_Md_addStream_15 : decode cc_Md_addStream 15 = .ok (.bipush (7), 2) := by decide +kernel
theorem d_Md_addStream_17 : decode cc_Md_addStream 17 = .ok (.istore_n 3, 1) := by decide +kernel
theorem d_Md_addStream_18 : decode cc_Md_addStream 18 = .ok (.iload_n 3, 1) := by decide +kernel
theorem d_Md_addStream_19 : decode cc_Md_addStream 19 = .ok (.ifCond .lt (62), 3) := by decide +kernel
theorem d_Md_addStream_22 : decode cc_Md_addStream 22 = .ok (.bipush (8), 2) := by decide +kernel
theorem d_Md_addStream_24 : decode cc_Md_addStream 24 = .ok (.iload_n 1, 1) := by decide +kernel
theorem d_Md_addStream_25 : decode cc_Md_addStream 25 = .ok (.imul, 1) := by decide +kernel
theorem d_Md_addStream_26 : decode cc_Md_addStream 26 = .ok (.iload_n 3, 1) := by decide +kernel
theorem d_Md_addStream_27 : decode cc_Md_addStream 27 = .ok (.iadd, 1) := by decide +kernel
theorem d_Md_addStream_28 : decode cc_Md_addStream 28 = .ok (.istore 4, 2) := by decide +kernel
theorem d_Md_addStream_30 : decode cc_Md_addStream 30 = .ok (.iconst 2, 1) := by decide +kernel
theorem d_Md_addStream_31 : decode cc_Md_addStream 31 = .ok (.iload_n 2, 1) := by decide +kernel
theorem d_Md_addStream_32 : decode cc_Md_addStream 32 = .ok (.imul, 1) := by decide +kernel
theorem d_Md_addStream_33 : decode cc_Md_addStream 33 = .ok (.iload 4, 2) := by decide +kernel
theorem d_Md_addStream_35 : decode cc_Md_addStream 35 = .ok (.aload_n 0, 1) := by decide +kernel
theorem d_Md_addStream_36 : decode cc_Md_addStream 36 = .ok (.getfield 212, 3) := by decide +kernel
theorem d_Md_addStream_39 : decode cc_Md_addStream 39 = .ok (.if_icmp .ne (7), 3) := by decide +kernel
theorem d_Md_addStream_42 : decode cc_Md_addStream 42 = .ok (.iconst 1, 1) := by decide +kernel
theorem d_Md_addStream_43 : decode cc_Md_addStream 43 = .ok (.goto (30), 3) := by decide +kernel
theorem d_Md_addStream_46 : decode cc_Md_addStream 46 = .ok (.iload 4, 2) := by decide +kernel
theorem d_Md_addStream_48 : decode cc_Md_addStream 48 = .ok (.aload_n 0, 1) := by decide +kernel
theorem d_Md_addStream_49 : decode cc_Md_addStream 49 = .ok (.getfield 212, 3) := by decide +kernel
theorem d_Md_addStream_52 : decode cc_Md_addStream 52 = .ok (.if_icmp .ge (20), 3) := by decide +kernel
theorem d_Md_addStream_55 : decode cc_Md_addStream 55 = .ok (.aload_n 0, 1) := by decide +kernel
theorem d_Md_addStream_56 : decode cc_Md_addStream 56 = .ok (.getfield 71, 3) := by decide +kernel
theorem d_Md_addStream_59 : decode cc_Md_addStream 59 = .ok (.aload_n 0, 1) := by decide +kernel
theorem d_Md_addStream_60 : decode cc_Md_addStream 60 = .ok (.getfield 212, 3) := by decide +kernel
theorem d_Md_addStream_63 : decode cc_Md_addStream 63 = .ok (.iconst 1, 1) := by decide +kernel
theorem d_Md_addStream_64 : decode cc_Md_addStream 64 = .ok (.isub, 1) := by decide +kernel
theorem d_Md_addStream_65 : decode cc_Md_addStream 65 = .ok (.iload 4, 2) := by decide +kernel
theorem d_Md_addStream_67 : decode cc_Md_addStream 67 = .ok (.isub, 1) := by decide +kernel
theorem d_Md_addStream_68 : decode cc_Md_addStream 68 = .ok (.iaload, 1) := by decide +kernel
theorem d_Md_addStream_69 : decode cc_Md_addStream 69 = .ok (.goto (4), 3) := by decide +kernel
theorem d_Md_addStream_72 : decode cc_Md_addStream 72 = .ok (.iconst 0, 1) := by decide +kernel
theorem d_Md_addStream_73 : decode cc_Md_addStream 73 = .ok (.iadd, 1) := by decide +kernel
theorem d_Md_addStream_74 : decode cc_Md_addStream 74 = .ok (.istore_n 2, 1) := by decide +kernel
theorem d_Md_addStream_75 : decode cc_Md_addStream 75 = .ok (.iinc 3 (-1), 3) := by decide +kernel
theorem d_Md_addStream_78 : decode cc_Md_addStream 78 = .ok (.goto (-60), 3) := by decide +kernel
theorem d_Md_addStream_81 : decode cc_Md_addStream 81 = .ok (.aload_n 0, 1) := by decide +kernel
theorem d_Md_addStream_82 : decode cc_Md_addStream 82 = .ok (.iload_n 2, 1) := by decide +kernel
theorem d_Md_addStream_83 : decode cc_Md_addStream 83 = .ok (.invokevirtual 215, 3) := by decide +kernel
theorem d_Md_addStream_86 : decode cc_Md_addStream 86 = .ok (.iinc 1 (1), 3) := by decide +kernel
theorem d_Md_addStream_89 : decode cc_Md_addStream 89 = .ok (.goto (-87), 3) := by decide +kernel
theorem d_Md_addStream_92 : decode cc_Md_addStream 92 = .ok (.return_, 1) := by decide +kernel
section
variable {p : Program} {l : Launch} {e : Env} {s : State} {m : MethodId} {args : Array Value} {below : List Frame} {meth : Method} {c : Code} {X : Xs} {L : La}
def b_Md_addStream_73 (L : La) (k2 : Nat → Int32 → Mem → Option Mem) (k18 : Nat → Int32 → Int32 → Int32 → Mem → Option Mem) (i0 : Nat) (x1 : Int32) (x3 : Int32) (y0 : Int32) (y1 : Int32) (F : Mem) : Option Mem :=
  k18 i0 x1 (y0 + y1) (x3 + (-1 : Int32)) F
set_option maxHeartbeats 4000000 in
theorem t_Md_addStream_73 (hC : Cx X L p s m args meth c cc_Md_addStream 5 w_Md_addStream R_Md none) {k2 : Nat → Int32 → Mem → Option Mem} {k18 : Nat → Int32 → Int32 → Int32 → Mem → Option Mem} {out : Mem} (hk2 : ∀ (i0 : Nat) (x1 : Int32) (F : Mem) (H : Heap) (locs : List Loc) (ls : Array Slot), oO L 12 i0 → Iv X L s H locs F → lv_has ls 5 [(0, .ref (mAd X i0)), (1, .int x1)] → k2 i0 x1 F = some out → W p l e (headSpec w_Md_addStream r_Md_addStream).room s m args below meth c H locs 0 0 (MQ below (QV X L out) args s 0 0 (AA X L)) (F0 m 2 ls [])) (hk18 : ∀ (i0 : Nat) (x1 : Int32) (x2 : Int32) (x3 : Int32) (F : Mem) (H : Heap) (locs : List Loc) (ls : Array Slot), oO L 12 i0 → Iv X L s H locs F → lv_has ls 5 [(0, .ref (mAd X i0)), (1, .int x1), (2, .int x2), (3, .int x3)] → k18 i0 x1 x2 x3 F = some out → W p l e (headSpec w_Md_addStream r_Md_addStream).room s m args below meth c H locs 0 0 (MQ below (QV X L out) args s 0 0 (AA X L)) (F0 m 18 ls [])) {i0 : Nat} {x1 : Int32} {x3 : Int32} {y0 : Int32} {y1 : Int32} {F : Mem} {H : Heap} {locs : List Loc} {ls : Array Slot} (o0 : oO L 12 i0) (hI : Iv X L s H locs F) (hl : lv_has ls 5 [(0, .ref (mAd X i0)), (1, .int x1), (3, .int x3)]) (h : b_Md_addStream_73 L k2 k18 i0 x1 x3 y0 y1 F = some out) : W p l e (headSpec w_Md_addStream r_Md_addStream).room s m args below meth c H locs 0 0 (MQ below (QV X L out) args s 0 0 (AA X L)) (F0 m 73 ls [.int y1, .int y0]) := by
  unfold b_Md_addStream_73 at h
  obtain ⟨S, hK, hT, hW, hr, hlk⟩ := id hC
  have hx := S.1
  have hb := S.2.1
  refine lv_iadd hx hb d_Md_addStream_73 ?_
  refine lv_istore_n (lv' := [(2, .int (y0 + y1)), (0, .ref (mAd X i0)), (1, .int x1), (3, .int x3)]) hx hb d_Md_addStream_74 rfl hl (by decide) rfl (fun ls hl => ?_)
  refine lv_iinc (k := 3) (v := x3 + (-1 : Int32)) (lv' := [(3, .int (x3 + (-1 : Int32))), (2, .int (y0 + y1)), (0, .ref (mAd X i0)), (1, .int x1)]) hx hb d_Md_addStream_75 hl rfl rfl (by decide) rfl (fun ls hl => ?_)
  refine lv_goto (tgt := 18) hx hb d_Md_addStream_78 rfl ?_
  exact hk18 _ _ _ _ _ _ _ _ o0 hI (lv_sub hl [2, 3, 1, 0] rfl) h
def b_Md_addStream_18 (L : La) (k2 : Nat → Int32 → Mem → Option Mem) (k18 : Nat → Int32 → Int32 → Int32 → Mem → Option Mem) (i0 : Nat) (x1 : Int32) (x2 : Int32) (x3 : Int32) (F : Mem) : Option Mem :=
  if x3 < 0 then
    (f_Md_add L i0 x2 F).bind fun F1 =>
    k2 i0 (x1 + (1 : Int32)) F1
  else
    if (((8 : Int32) * x1) + x3) = (F i0 36) then
      b_Md_addStream_73 L k2 k18 i0 x1 x3 ((2 : Int32) * x2) (1 : Int32) F
    else
      if (F i0 36) ≤ (((8 : Int32) * x1) + x3) then
        b_Md_addStream_73 L k2 k18 i0 x1 x3 ((2 : Int32) * x2) (0 : Int32) F
      else
        if inb (((F i0 36) - (1 : Int32)) - (((8 : Int32) * x1) + x3)) (mGl L (mRf L i0 37)) then none else
        b_Md_addStream_73 L k2 k18 i0 x1 x3 ((2 : Int32) * x2) (mGa L F (mRf L i0 37) (((F i0 36) - (1 : Int32)) - (((8 : Int32) * x1) + x3)).toNatClampNeg) F
set_option maxHeartbeats 4000000 in
theorem t_Md_addStream_18 (hC : Cx X L p s m args meth c cc_Md_addStream 5 w_Md_addStream R_Md none) {k2 : Nat → Int32 → Mem → Option Mem} {k18 : Nat → Int32 → Int32 → Int32 → Mem → Option Mem} {out : Mem} (hk2 : ∀ (i0 : Nat) (x1 : Int32) (F : Mem) (H : Heap) (locs : List Loc) (ls : Array Slot), oO L 12 i0 → Iv X L s H locs F → lv_has ls 5 [(0, .ref (mAd X i0)), (1, .int x1)] → k2 i0 x1 F = some out → W p l e (headSpec w_Md_addStream r_Md_addStream).room s m args below meth c H locs 0 0 (MQ below (QV X L out) args s 0 0 (AA X L)) (F0 m 2 ls [])) (hk18 : ∀ (i0 : Nat) (x1 : Int32) (x2 : Int32) (x3 : Int32) (F : Mem) (H : Heap) (locs : List Loc) (ls : Array Slot), oO L 12 i0 → Iv X L s H locs F → lv_has ls 5 [(0, .ref (mAd X i0)), (1, .int x1), (2, .int x2), (3, .int x3)] → k18 i0 x1 x2 x3 F = some out → W p l e (headSpec w_Md_addStream r_Md_addStream).room s m args below meth c H locs 0 0 (MQ below (QV X L out) args s 0 0 (AA X L)) (F0 m 18 ls [])) {i0 : Nat} {x1 : Int32} {x2 : Int32} {x3 : Int32} {F : Mem} {H : Heap} {locs : List Loc} {ls : Array Slot} (o0 : oO L 12 i0) (hI : Iv X L s H locs F) (hl : lv_has ls 5 [(0, .ref (mAd X i0)), (1, .int x1), (2, .int x2), (3, .int x3)]) (h : b_Md_addStream_18 L k2 k18 i0 x1 x2 x3 F = some out) : W p l e (headSpec w_Md_addStream r_Md_addStream).room s m args below meth c H locs 0 0 (MQ below (QV X L out) args s 0 0 (AA X L)) (F0 m 18 ls []) := by
  unfold b_Md_addStream_18 at h
  obtain ⟨S, hK, hT, hW, hr, hlk⟩ := id hC
  have hx := S.1
  have hb := S.2.1
  refine lv_iload_n hx hb d_Md_addStream_18 rfl (lv_at hl 3 rfl) ?_
  refine lv_if_lt (tgt := 81) hx hb d_Md_addStream_19 rfl (fun hc => ?_) (fun hc => ?_)
  · replace h := (if_pos hc).symm.trans h
    refine lv_aload_n hx hb d_Md_addStream_81 rfl (lv_at hl 0 rfl) ?_
    refine lv_iload_n hx hb d_Md_addStream_82 rfl (lv_at hl 2 rfl) ?_
    obtain ⟨F1, e2, h⟩ := un_bi h
    refine w_callVv (As := [.int x2]) (rest := []) S hK hI hT (c_Md_add l hW o0 e2) (cwV 1 S.2.2.2.2 (gd_V lc_Md_add lm_Md_215 li_Md_add ls_Md_add ln_Md) rfl rfl rfl hd_Md_add ⟨Nat.le_of_ble_eq_true rfl, Nat.le_of_ble_eq_true rfl⟩) o0 rfl (by decide) rfl rfl hl.1 (Nat.le_of_ble_eq_true rfl) d_Md_addStream_83 ⟨Nat.zero_le _, Nat.zero_le _⟩ (fun H locs hI => ?_)
    refine lv_iinc (k := 1) (v := x1 + (1 : Int32)) (lv' := [(1, .int (x1 + (1 : Int32))), (0, .ref (mAd X i0)), (2, .int x2), (3, .int x3)]) hx hb d_Md_addStream_86 hl rfl rfl (by decide) rfl (fun ls hl => ?_)
    refine lv_goto (tgt := 2) hx hb d_Md_addStream_89 rfl ?_
    exact hk2 _ _ _ _ _ _ o0 hI (lv_sub hl [1, 0] rfl) h
  · replace h := (if_neg hc).symm.trans h
    refine lv_bipush (v := 8) hx hb d_Md_addStream_22 (by decide) ?_
    refine lv_iload_n hx hb d_Md_addStream_24 rfl (lv_at hl 1 rfl) ?_
    refine lv_imul hx hb d_Md_addStream_25 ?_
    refine lv_iload_n hx hb d_Md_addStream_26 rfl (lv_at hl 3 rfl) ?_
    refine lv_iadd hx hb d_Md_addStream_27 ?_
    refine lv_istore (lv' := [(4, .int (((8 : Int32) * x1) + x3)), (0, .ref (mAd X i0)), (1, .int x1), (2, .int x2), (3, .int x3)]) hx hb d_Md_addStream_28 hl (by decide) rfl (fun ls hl => ?_)
    refine lv_iconst (v := 2) hx hb d_Md_addStream_30 rfl ?_
    refine lv_iload_n hx hb d_Md_addStream_31 rfl (lv_at hl 3 rfl) ?_
    refine lv_imul hx hb d_Md_addStream_32 ?_
    refine lv_iload hx hb d_Md_addStream_33 (lv_at hl 0 rfl) ?_
    refine lv_aload_n hx hb d_Md_addStream_35 rfl (lv_at hl 1 rfl) ?_
    refine w_getI (T := T_Md) S hK hI o0 rfl hin_Md 36 (index := 212) (by decide) lf_Md_212 d_Md_addStream_36 ?_
    refine lv_icmp_ne (tgt := 46) hx hb d_Md_addStream_39 rfl (fun hc => ?_) (fun hc => ?_)
    · replace h := (if_neg hc).symm.trans h
      refine lv_iload hx hb d_Md_addStream_46 (lv_at hl 0 rfl) ?_
      refine lv_aload_n hx hb d_Md_addStream_48 rfl (lv_at hl 1 rfl) ?_
      refine w_getI (T := T_Md) S hK hI o0 rfl hin_Md 36 (index := 212) (by decide) lf_Md_212 d_Md_addStream_49 ?_
      refine lv_icmp_ge (tgt := 72) hx hb d_Md_addStream_52 rfl (fun hc => ?_) (fun hc => ?_)
      · replace h := (if_pos hc).symm.trans h
        refine lv_iconst (v := 0) hx hb d_Md_addStream_72 rfl ?_
        exact t_Md_addStream_73 hC hk2 hk18 o0 hI (lv_sub hl [1, 2, 4] rfl) h
      · replace h := (if_neg hc).symm.trans h
        refine lv_aload_n hx hb d_Md_addStream_55 rfl (lv_at hl 1 rfl) ?_
        have p3 := wt_a hW o0 37 rfl (by decide) (by decide)
        refine w_getR (T := T_Md) S hK hI o0 rfl hin_Md 37 (index := 71) (by decide) lf_Md_71 d_Md_addStream_56 ?_
        refine lv_aload_n hx hb d_Md_addStream_59 rfl (lv_at hl 1 rfl) ?_
        refine w_getI (T := T_Md) S hK hI o0 rfl hin_Md 36 (index := 212) (by decide) lf_Md_212 d_Md_addStream_60 ?_
        refine lv_iconst (v := 1) hx hb d_Md_addStream_63 rfl ?_
        refine lv_isub hx hb d_Md_addStream_64 ?_
        refine lv_iload hx hb d_Md_addStream_65 (lv_at hl 0 rfl) ?_
        refine lv_isub hx hb d_Md_addStream_67 ?_
        obtain ⟨z4, h⟩ := un_if h
        refine w_iald S hK hI hT p3 z4 d_Md_addStream_68 ?_
        refine lv_goto (tgt := 73) hx hb d_Md_addStream_69 rfl ?_
        exact t_Md_addStream_73 hC hk2 hk18 o0 hI (lv_sub hl [1, 2, 4] rfl) h
    · replace h := (if_pos hc).symm.trans h
      refine lv_iconst (v := 1) hx hb d_Md_addStream_42 rfl ?_
      refine lv_goto (tgt := 73) hx hb d_Md_addStream_43 rfl ?_
      exact t_Md_addStream_73 hC hk2 hk18 o0 hI (lv_sub hl [1, 2, 4] rfl) h
def f_Md_addStream_18 (L : La) (k2 : Nat → Int32 → Mem → Option Mem) : Nat → Nat → Int32 → Int32 → Int32 → Mem → Option Mem
  | 0 => fun _ _ _ _ _ => none
  | n + 1 => b_Md_addStream_18 L k2 (f_Md_addStream_18 L k2 n)
theorem tf_Md_addStream_18 (hC : Cx X L p s m args meth c cc_Md_addStream 5 w_Md_addStream R_Md none) {k2 : Nat → Int32 → Mem → Option Mem} {out : Mem} (hk2 : ∀ (i0 : Nat) (x1 : Int32) (F : Mem) (H : Heap) (locs : List Loc) (ls : Array Slot), oO L 12 i0 → Iv X L s H locs F → lv_has ls 5 [(0, .ref (mAd X i0)), (1, .int x1)] → k2 i0 x1 F = some out → W p l e (headSpec w_Md_addStream r_Md_addStream).room s m args below meth c H locs 0 0 (MQ below (QV X L out) args s 0 0 (AA X L)) (F0 m 2 ls [])) (n : Nat) : ∀ (i0 : Nat) (x1 : Int32) (x2 : Int32) (x3 : Int32) (F : Mem) (H : Heap) (locs : List Loc) (ls : Array Slot), oO L 12 i0 → Iv X L s H locs F → lv_has ls 5 [(0, .ref (mAd X i0)), (1, .int x1), (2, .int x2), (3, .int x3)] → f_Md_addStream_18 L k2 n i0 x1 x2 x3 F = some out → W p l e (headSpec w_Md_addStream r_Md_addStream).room s m args below meth c H locs 0 0 (MQ below (QV X L out) args s 0 0 (AA X L)) (F0 m 18 ls []) := by
  induction n with
  | zero => intro i0 x1 x2 x3 F H locs ls o0 hI hl h; cases h
  | succ n ih => intro i0 x1 x2 x3 F H locs ls o0 hI hl h; exact t_Md_addStream_18 hC hk2 ih o0 hI hl h
def b_Md_addStream_2 (L : La) (k2 : Nat → Int32 → Mem → Option Mem) (i0 : Nat) (x1 : Int32) (F : Mem) : Option Mem :=
  if ((F i0 36) / (8 : Int32)) < x1 then
    some F
  else
    f_Md_addStream_18 L k2 mFU i0 x1 (0 : Int32) (7 : Int32) F
set_option maxHeartbeats 4000000 in
theorem t_Md_addStream_2 (hC : Cx X L p s m args meth c cc_Md_addStream 5 w_Md_addStream R_Md none) {k2 : Nat → Int32 → Mem → Option Mem} {out : Mem} (hk2 : ∀ (i0 : Nat) (x1 : Int32) (F : Mem) (H : Heap) (locs : List Loc) (ls : Array Slot), oO L 12 i0 → Iv X L s H locs F → lv_has ls 5 [(0, .ref (mAd X i0)), (1, .int x1)] → k2 i0 x1 F = some out → W p l e (headSpec w_Md_addStream r_Md_addStream).room s m args below meth c H locs 0 0 (MQ below (QV X L out) args s 0 0 (AA X L)) (F0 m 2 ls [])) {i0 : Nat} {x1 : Int32} {F : Mem} {H : Heap} {locs : List Loc} {ls : Array Slot} (o0 : oO L 12 i0) (hI : Iv X L s H locs F) (hl : lv_has ls 5 [(0, .ref (mAd X i0)), (1, .int x1)]) (h : b_Md_addStream_2 L k2 i0 x1 F = some out) : W p l e (headSpec w_Md_addStream r_Md_addStream).room s m args below meth c H locs 0 0 (MQ below (QV X L out) args s 0 0 (AA X L)) (F0 m 2 ls []) := by
  unfold b_Md_addStream_2 at h
  obtain ⟨S, hK, hT, hW, hr, hlk⟩ := id hC
  have hx := S.1
  have hb := S.2.1
  refine lv_iload_n hx hb d_Md_addStream_2 rfl (lv_at hl 1 rfl) ?_
  refine lv_aload_n hx hb d_Md_addStream_3 rfl (lv_at hl 0 rfl) ?_
  refine w_getI (T := T_Md) S hK hI o0 rfl hin_Md 36 (index := 212) (by decide) lf_Md_212 d_Md_addStream_4 ?_
  refine lv_bipush (v := 8) hx hb d_Md_addStream_7 (by decide) ?_
  refine lv_idiv hx hb d_Md_addStream_9 (by decide) ?_
  refine lv_icmp_gt (tgt := 92) hx hb d_Md_addStream_10 rfl (fun hc => ?_) (fun hc => ?_)
  · replace h := (if_pos hc).symm.trans h
    exact w_vret S hK hr hlk hI d_Md_addStream_92 h
  · replace h := (if_neg hc).symm.trans h
    refine lv_iconst (v := 0) hx hb d_Md_addStream_13 rfl ?_
    refine lv_istore_n (lv' := [(2, .int (0 : Int32)), (0, .ref (mAd X i0)), (1, .int x1)]) hx hb d_Md_addStream_14 rfl hl (by decide) rfl (fun ls hl => ?_)
    refine lv_bipush (v := 7) hx hb d_Md_addStream_15 (by decide) ?_
    refine lv_istore_n (lv' := [(3, .int (7 : Int32)), (2, .int (0 : Int32)), (0, .ref (mAd X i0)), (1, .int x1)]) hx hb d_Md_addStream_17 rfl hl (by decide) rfl (fun ls hl => ?_)
    exact tf_Md_addStream_18 hC hk2 mFU _ _ _ _ _ _ _ _ o0 hI (lv_sub hl [2, 3, 1, 0] rfl) h
def f_Md_addStream_2 (L : La)  : Nat → Nat → Int32 → Mem → Option Mem
  | 0 => fun _ _ _ => none
  | n + 1 => b_Md_addStream_2 L (f_Md_addStream_2 L  n)
theorem tf_Md_addStream_2 (hC : Cx X L p s m args meth c cc_Md_addStream 5 w_Md_addStream R_Md none)  {out : Mem}  (n : Nat) : ∀ (i0 : Nat) (x1 : Int32) (F : Mem) (H : Heap) (locs : List Loc) (ls : Array Slot), oO L 12 i0 → Iv X L s H locs F → lv_has ls 5 [(0, .ref (mAd X i0)), (1, .int x1)] → f_Md_addStream_2 L  n i0 x1 F = some out → W p l e (headSpec w_Md_addStream r_Md_addStream).room s m args below meth c H locs 0 0 (MQ below (QV X L out) args s 0 0 (AA X L)) (F0 m 2 ls []) := by
  induction n with
  | zero => intro i0 x1 F H locs ls o0 hI hl h; cases h
  | succ n ih => intro i0 x1 F H locs ls o0 hI hl h; exact t_Md_addStream_2 hC ih o0 hI hl h
def f_Md_addStream (L : La) (i0 : Nat) (F : Mem) : Option Mem :=
  f_Md_addStream_2 L  mFU i0 (0 : Int32) F
set_option maxHeartbeats 4000000 in
theorem c_Md_addStream (l : Launch) {X : Xs} {L : La} (hW : WT L) {out : Mem} {i0 : Nat} {F : Mem} (o0 : oO L 12 i0) (h : f_Md_addStream L i0 F = some out) : Met l y_Md_addStream w_Md_addStream r_Md_addStream (va_Pc [.ref (mAd X i0)] (Pr X L F)) (QV X L out) 0 0 (AA X L) := by
  refine mk_met (by decide) rfl (Nat.le_of_ble_eq_true rfl) hW ?_
  intro p e s m args below meth c ls hC hI hl
  have hl : lv_has ls 5 [(0, .ref (mAd X i0))] := hl
  generalize hHe : s.heap = H at hI ⊢
  generalize ([] : List Loc) = locs at hI ⊢
  unfold f_Md_addStream at h
  obtain ⟨S, hK, hT, hW, hr, hlk⟩ := id hC
  have hx := S.1
  have hb := S.2.1
  refine lv_iconst (v := 0) hx hb d_Md_addStream_0 rfl ?_
  refine lv_istore_n (lv' := [(1, .int (0 : Int32)), (0, .ref (mAd X i0))]) hx hb d_Md_addStream_1 rfl hl (by decide) rfl (fun ls hl => ?_)
  exact tf_Md_addStream_2 hC  mFU _ _ _ _ _ _ o0 hI (lv_sub hl [1, 0] rfl) h
end
theorem d_Md_addTree_0 : decode cc_Md_addTree 0 = .ok (.sipush (255), 3) := by decide +kernel
theorem d_Md_addTree_3 : decode cc_Md_addTree 3 = .ok (.istore_n 1, 1) := by decide +kernel
theorem d_Md_addTree_4 : decode cc_Md_addTree 4 = .ok (.iconst 0, 1) := by decide +kernel
theorem d_Md_addTree_5 : decode cc_Md_addTree 5 = .ok (.istore_n 2, 1) := by decide +kernel
theorem d_Md_addTree_6 : decode cc_Md_addTree 6 = .ok (.iconst 0, 1) := by decide +kernel
theorem d_Md_addTree_7 : decode cc_Md_addTree 7 = .ok (.istore_n 3, 1) := by decide +kernel
theorem d_Md_addTree_8 : decode cc_Md_addTree 8 = .ok (.iload_n 3, 1) := by decide +kernel
theorem d_Md_addTree_9 : decode cc_Md_addTree 9 = .ok (.aload_n 0, 1) := by decide +kernel
theorem d_Md_addTree_10 : decode cc_Md_addTree 10 = .ok (.getfield 150, 3) := by decide +kernel
theorem d_Md_addTree_13 : decode cc_Md_addTree 13 = .ok (.if_icmp .ge (51), 3) := by decide +kernel
theorem d_Md_addTree_16 : decode cc_Md_addTree 16 = .ok (.aload_n 0, 1) := by decide +kernel
theorem d_Md_addTree_17 : decode cc_Md_addTree 17 = .ok (.getfield 22, 3) := by decide +kernel
theorem d_Md_addTree_20 : decode cc_Md_addTree 20 = .ok (.iload_n 3, 1) := by decide +kernel
theorem d_Md_addTree_21 : decode cc_Md_addTree 21 = .ok (.iaload, 1) := by decide +kernel
theorem d_Md_addTree_22 : decode cc_Md_addTree 22 = .ok (.iload_n 1, 1) := by decide +kernel
theorem d_Md_addTree_23 : decode cc_Md_addTree 23 = .ok (.if_icmp .ge (12), 3) := by decide +kernel
theorem d_Md_addTree_26 : decode cc_Md_addTree 26 = .ok (.aload_n 0, 1) := by decide +kernel
theorem d_Md_addTree_27 : decode cc_Md_addTree 27 = .ok (.getfield 22, 3) := by decide +kernel
theorem d_Md_addTree_30 : decode cc_Md_addTree 30 = .ok (.iload_n 3, 1) := by decide +kernel
theorem d_Md_addTree_31 : decode cc_Md_addTree 31 = .ok (.iaload, 1) := by decide +kernel
theorem d_Md_addTree_32 : decode cc_Md_addTree 32 = .ok (.goto (4), 3) := by decide +kernel
theorem d_Md_addTree_35 : decode cc_Md_addTree 35 = .ok (.iload_n 1, 1) := by decide +kernel
theorem d_Md_addTree_36 : decode cc_Md_addTree 36 = .ok (.istore_n 1, 1) := by decide +kernel
theorem d_Md_addTree_37 : decode cc_Md_addTree 37 = .ok (.aload_n 0, 1) := by decide +kernel
theorem d_Md_addTree_38 : decode cc_Md_addTree 38 = .ok (.getfield 22, 3) := by decide +kernel
theorem d_Md_addTree_41 : decode cc_Md_addTree 41 = .ok (.iload_n 3, 1) := by decide +kernel
theorem d_Md_addTree_42 : decode cc_Md_addTree 42 = .ok (.iaload, 1) := by decide +kernel
theorem d_Md_addTree_43 : decode cc_Md_addTree 43 = .ok (.iload_n 2, 1) := by decide +kernel
theorem d_Md_addTree_44 : decode cc_Md_addTree 44 = .ok (.if_icmp .le (12), 3) := by decide +kernel
theorem d_Md_addTree_47 : decode cc_Md_addTree 47 = .ok (.aload_n 0, 1) := by decide +kernel
theorem d_Md_addTree_48 : decode cc_Md_addTree 48 = .ok (.getfield 22, 3) := by decide +kernel
theorem d_Md_addTree_51 : decode cc_Md_addTree 51 = .ok (.iload_n 3, 1) := by decide +kernel
theorem d_Md_addTree_52 : decode cc_Md_addTree 52 = .ok (.iaload, 1) := by decide +kernel
theorem d_Md_addTree_53 : decode cc_Md_addTree 53 = .ok (.goto (4), 3) := by decide +kernel
theorem d_Md_addTree_56 : decode cc_Md_addTree 56 = .ok (.iload_n 2, 1) := by decide +kernel
theorem d_Md_addTree_57 : decode cc_Md_addTree 57 = .ok (.istore_n 2, 1) := by decide +kernel
theorem d_Md_addTree_58 : decode cc_Md_addTree 58 = .ok (.iinc 3 (1), 3) := by decide +kernel
theorem d_Md_addTree_61 : decode cc_Md_addTree 61 = .ok (.goto (-53), 3) := by decide +kernel
theorem d_Md_addTree_64 : decode cc_Md_addTree 64 = .ok (.aload_n 0, 1) := by decide +kernel
theorem d_Md_addTree_65 : decode cc_Md_addTree 65 = .ok (.getfield 150, 3) := by decide +kernel
theorem d_Md_addTree_68 : decode cc_Md_addTree 68 = .ok (.iconst 2, 1) := by decide +kernel
theorem d_Md_addTree_69 : decode cc_Md_addTree 69 = .ok (.if_icmp .lt (16), 3) := by decide +kernel
theorem d_Md_addTree_72 : decode cc_Md_addTree 72 = .ok (.iload_n 2, 1) := by decide +kernel
theorem d_Md_addTree_73 : decode cc_Md_addTree 73 = .ok (.iload_n 1, 1) := by decide +kernel
theorem d_Md_addTree_74 : decode cc_Md_addTree 74 = .ok (.isub, 1) := by decide +kernel
theorem d_Md_addTree_75 : decode cc_Md_addTree 75 = .ok (.bipush (16), 2) := by decide +kernel
theorem d_Md_addTree_77 : decode cc_Md_addTree 77 = .ok (.if_icmp .gt (8), 3) := by decide +kernel
theorem d_Md_addTree_80 : decode cc_Md_addTree 80 = .ok (.iload_n 2, 1) := by decide +kernel
theorem d_Md_addTree_81 : decode cc_Md_addTree 81 = .ok (.iload_n 1, 1) := by decide +kernel
theorem d_Md_addTree_82 : decode cc_Md_addTree 82 = .ok (.if_icmp .ne (5), 3) := by decide +kernel
theorem d_Md_addTree_85 : decode cc_Md_addTree 85 = .ok (.iconst 0, 1) := by decide +kernel
theorem d_Md_addTree_86 : decode cc_Md_addTree 86 = .ok (.ireturn, 1) := by decide +kernel
theorem d_Md_addTree_87 : decode cc_Md_addTree 87 = .ok (.aload_n 0, 1) := by decide +kernel
theorem d_Md_addTree_88 : decode cc_Md_addTree 88 = .ok (.iload_n 1, 1) := by decide +kernel
theorem d_Md_addTree_89 : decode cc_Md_addTree 89 = .ok (.putfield 166, 3) := by decide +kernel
theorem d_Md_addTree_92 : decode cc_Md_addTree 92 = .ok (.aload_n 0, 1) := by decide +kernel
theorem d_Md_addTree_93 : decode cc_Md_addTree 93 = .ok (.iload_n 2, 1) := by decide +kernel
theorem d_Md_addTree_94 : decode cc_Md_addTree 94 = .ok (.iload_n 1, 1) := by decide +kernel
theorem d_Md_addTree_95 : decode cc_Md_addTree 95 = .ok (.isub, 1) := by decide +kernel
theorem d_Md_addTree_96 : decode cc_Md_addTree 96 = .ok (.putfield 172, 3) := by decide +kernel
theorem d_Md_addTree_99 : decode cc_Md_addTree 99 = .ok (.aload_n 0, 1) := by decide +kernel
theorem d_Md_addTree_100 : decode cc_Md_addTree 100 = .ok (.invokevirtual 236, 3) := by decide +kernel
theorem d_Md_addTree_103 : decode cc_Md_addTree 103 = .ok (.istore_n 3, 1) := by decide +kernel
theorem d_Md_addTree_104 : decode cc_Md_addTree 104 = .ok (.iload_n 3, 1) := by decide +kernel
theorem d_Md_addTree_105 : decode cc_Md_addTree 105 = .ok (.bipush (7), 2) := by decide +kernel
theorem d_Md_addTree_107 : decode cc_Md_addTree 107 = .ok (.if_icmp .le (5), 3) := by decide +kernel
theorem d_Md_addTree_110 : decode cc_Md_addTree 110 = .ok (.iconst 0, 1) := by decide +kernel
theorem d_Md_addTree_111 : decode cc_Md_addTree 111 = .ok (.ireturn, 1) := by decide +kernel
theorem d_Md_addTree_112 : decode cc_Md_addTree 112 = .ok (.aload_n 0, 1) := by decide +kernel
theorem d_Md_addTree_113 : decode cc_Md_addTree 113 = .ok (.iload_n 3, 1) := by decide +kernel
theorem d_Md_addTree_114 : decode cc_Md_addTree 114 = .ok (.putfield 163, 3) := by decide +kernel
theorem d_Md_addTree_117 : decode cc_Md_addTree 117 = .ok (.iconst 0, 1) := by decide +kernel
theorem d_Md_addTree_118 : decode cc_Md_addTree 118 = .ok (.istore 4, 2) := by decide +kernel
theorem d_Md_addTree_120 : decode cc_Md_addTree 120 = .ok (.iload 4, 2) := by decide +kernel
theorem d_Md_addTree_122 : decode cc_Md_addTree 122 = .ok (.aload_n 0, 1) := by decide +kernel
theorem d_Md_addTree_123 : decode cc_Md_addTree 123 = .ok (.getfield 172, 3) := by decide +kernel
theorem d_Md_addTree_126 : decode cc_Md_addTree 126 = .ok (.if_icmp .gt (41), 3) := by decide +kernel
theorem d_Md_addTree_129 : decode cc_Md_addTree 129 = .ok (.aload_n 0, 1) := by decide +kernel
theorem d_Md_addTree_130 : decode cc_Md_addTree 130 = .ok (.getfield 25, 3) := by decide +kernel
theorem d_Md_addTree_133 : decode cc_Md_addTree 133 = .ok (.iload 4, 2) := by decide +kernel
theorem d_Md_addTree_135 : decode cc_Md_addTree 135 = .ok (.aload_n 0, 1) := by decide +kernel
theorem d_Md_addTree_136 : decode cc_Md_addTree 136 = .ok (.getfield 74, 3) := by decide +kernel
theorem d_Md_addTree_139 : decode cc_Md_addTree 139 = .ok (.iload 4, 2) := by decide +kernel
theorem d_Md_addTree_141 : decode cc_Md_addTree 141 = .ok (.iaload, 1) := by decide +kernel
theorem d_Md_addTree_142 : decode cc_Md_addTree 142 = .ok (.ifCond .ne (7), 3) := by decide +kernel
theorem d_Md_addTree_145 : decode cc_Md_addTree 145 = .ok (.iconst 0, 1) := by decide +kernel
theorem d_Md_addTree_146 : decode cc_Md_addTree 146 = .ok (.goto (14), 3) := by decide +kernel
theorem d_Md_addTree_149 : decode cc_Md_addTree 149 = .ok (.iload_n 3, 1) := by decide +kernel
theorem d_Md_addTree_150 : decode cc_Md_addTree 150 = .ok (.iconst 1, 1) := by decide +kernel
theorem d_Md_addTree_151 : decode cc_Md_addTree 151 = .ok (.iadd, 1) := by decide +kernel
theorem d_Md_addTree_152 : decode cc_Md_addTree 152 = .ok (.aload_n 0, 1) := by decide +kernel
theorem d_Md_addTree_153 : decode cc_Md_addTree 153 = .ok (.getfield 83, 3) := by decide +kernel
theorem d_Md_addTree_156 : decode cc_Md_addTree 156 = .ok (.iload 4, 2) := by decide +kernel
theorem d_Md_addTree_158 : decode cc_Md_addTree 158 = .ok (.iaload, 1) := by decide +kernel
theorem d_Md_addTree_159 : decode cc_Md_addTree 159 = .ok (.isub, 1) := by decide +kernel
theorem d_Md_addTree_160 : decode cc_Md_addTree 160 = .ok (.iastore, 1) := by decide +kernel
theorem d_Md_addTree_161 : decode cc_Md_addTree 161 = .ok (.iinc 4 (1), 3) := by decide +kernel
theorem d_Md_addTree_164 : decode cc_Md_addTree 164 = .ok (.goto (-44), 3) := by decide +kernel
theorem d_Md_addTree_167 : decode cc_Md_addTree 167 = .ok (.aload_n 0, 1) := by decide +kernel
theorem d_Md_addTree_168 : decode cc_Md_addTree 168 = .ok (.invokevirtual 175, 3) := by decide +kernel
theorem d_Md_addTree_171 : decode cc_Md_addTree 171 = .ok (.aload_n 0, 1) := by decide +kernel
theorem d_Md_addTree_172 : decode cc_Md_addTree 172 = .ok (.iconst 0, 1) := by decide +kernel
theorem d_Md_addTree_173 : decode cc_Md_addTree 173 = .ok (.putfield 212, 3) := by decide +kernel
theorem d_Md_addTree_176 : decode cc_Md_addTree 176 = .ok (.iconst 0, 1) := by decide +kernel
theorem d_Md_addTree_177 : decode cc_Md_addTree 177 = .ok (.istore 4, 2) := by decide +kernel
theorem d_Md_addTree_179 : decode cc_Md_addTree 179 = .ok (.iload 4, 2) := by decide +kernel
theorem d_Md_addTree_181 : decode cc_Md_addTree 181 = .ok (.aload_n 0, 1) := by decide +kernel
theorem d_Md_addTree_182 : decode cc_Md_addTree 182 = .ok (.getfield 150, 3) := by decide +kernel
theorem d_Md_addTree_185 : decode cc_Md_addTree 185 = .ok (.if_icmp .ge (57), 3) := by decide +kernel
theorem d_Md_addTree_188 : decode cc_Md_addTree 188 = .ok (.aload_n 0, 1) := by decide +kernel
theorem d_Md_addTree_189 : decode cc_Md_addTree 189 = .ok (.getfield 22, 3) := by decide +kernel
theorem d_Md_addTree_192 : decode cc_Md_addTree 192 = .ok (.iload 4, 2) := by decide +kernel
theorem d_Md_addTree_194 : decode cc_Md_addTree 194 = .ok (.iaload, 1) := by decide +kernel
theorem d_Md_addTree_195 : decode cc_Md_addTree 195 = .ok (.aload_n 0, 1) := by decide +kernel
theorem d_Md_addTree_196 : decode cc_Md_addTree 196 = .ok (.getfield 166, 3) := by decide +kernel
theorem d_Md_addTree_199 : decode cc_Md_addTree 199 = .ok (.isub, 1) := by decide +kernel
theorem d_Md_addTree_200 : decode cc_Md_addTree 200 = .ok (.istore 5, 2) := by decide +kernel
theorem d_Md_addTree_202 : decode cc_Md_addTree 202 = .ok (.aload_n 0, 1) := by decide +kernel
theorem d_Md_addTree_203 : decode cc_Md_addTree 203 = .ok (.aload_n 0, 1) := by decide +kernel
theorem d_Md_addTree_204 : decode cc_Md_addTree 204 = .ok (.iload 5, 2) := by decide +kernel
theorem d_Md_addTree_206 : decode cc_Md_addTree 206 = .ok (.invokevirtual 240, 3) := by decide +kernel
theorem d_Md_addTree_209 : decode cc_Md_addTree 209 = .ok (.aload_n 0, 1) := by decide +kernel
theorem d_Md_addTree_210 : decode cc_Md_addTree 210 = .ok (.getfield 25, 3) := by decide +kernel
theorem d_Md_addTree_213 : decode cc_Md_addTree 213 = .ok (.iload 5, 2) := by decide +kernel
theorem d_Md_addTree_215 : decode cc_Md_addTree 215 = .ok (.iaload, 1) := by decide +kernel
theorem d_Md_addTree_216 : decode cc_Md_addTree 216 = .ok (.iconst 1, 1) := by decide +kernel
theorem d_Md_addTree_217 : decode cc_Md_addTree 217 = .ok (.isub, 1) := by decide +kernel
theorem d_Md_addTree_218 : decode cc_Md_addTree 218 = .ok (.ishr, 1) := by decide +kernel
theorem d_Md_addTree_219 : decode cc_Md_addTree 219 = .ok (.aload_n 0, 1) := by decide +kernel
theorem d_Md_addTree_220 : decode cc_Md_addTree 220 = .ok (.getfield 163, 3) := by decide +kernel
theorem d_Md_addTree_223 : decode cc_Md_addTree 223 = .ok (.iconst 1, 1) := by decide +kernel
theorem d_Md_addTree_224 : decode cc_Md_addTree 224 = .ok (.iadd, 1) := by decide +kernel
theorem d_Md_addTree_225 : decode cc_Md_addTree 225 = .ok (.aload_n 0, 1) := by decide +kernel
theorem d_Md_addTree_226 : decode cc_Md_addTree 226 = .ok (.getfield 25, 3) := by decide +kernel
theorem d_Md_addTree_229 : decode cc_Md_addTree 229 = .ok (.iload 5, 2) := by decide +kernel
theorem d_Md_addTree_231 : decode cc_Md_addTree 231 = .ok (.iaload, 1) := by decide +kernel
theorem d_Md_addTree_232 : decode cc_Md_addTree 232 = .ok (.isub, 1) := by decide +kernel
theorem d_Md_addTree_233 : decode cc_Md_addTree 233 = .ok (.invokevirtual 227, 3) := by decide +kernel
theorem d_Md_addTree_236 : decode cc_Md_addTree 236 = .ok (.iinc 4 (1), 3) := by decide +kernel
theorem d_Md_addTree_239 : decode cc_Md_addTree 239 = .ok (.goto (-60), 3) := by decide +kernel
theorem d_Md_addTree_242 : decode cc_Md_addTree 242 = .ok (.iconst 2, 1) := by decide +kernel
theorem d_Md_addTree_243 : decode cc_Md_addTree 243 = .ok (.aload_n 0, 1) := by decide +kernel
theorem d_Md_addTree_244 : decode cc_Md_addTree 244 = .ok (.getfield 172, 3) := by decide +kernel
theorem d_Md_addTree_247 : decode cc_Md_addTree 247 = .ok (.iconst 1, 1) := by decide +kernel
theorem d_Md_addTree_248 : decode cc_Md_addTree 248 = .ok (.iadd, 1) := by decide +kernel
theorem d_Md_addTree_249 : decode cc_Md_addTree 249 = .ok (.iconst 2, 1) := by decide +kernel
theorem d_Md_addTree_250 : decode cc_Md_addTree 250 = .ok (.idiv, 1) := by decide +kernel
theorem d_Md_addTree_251 : decode cc_Md_addTree 251 = .ok (.iadd, 1) := by decide +kernel
theorem d_Md_addTree_252 : decode cc_Md_addTree 252 = .ok (.iconst 1, 1) := by decide +kernel
theorem d_Md_addTree_253 : decode cc_Md_addTree 253 = .ok (.iadd, 1) := by decide +kernel
theorem d_Md_addTree_254 : decode cc_Md_addTree 254 = .ok (.aload_n 0, 1) := by decide +kernel
theorem d_Md_addTree_255 : decode cc_Md_addTree 255 = .ok (.getfield 212, 3) := by decide +kernel
theorem d_Md_addTree_258 : decode cc_Md_addTree 258 = .ok (.bipush (8), 2) := by decide +kernel
theorem d_Md_addTree_260 : decode cc_Md_addTree 260 = .ok (.idiv, 1) := by decide +kernel
theorem d_Md_addTree_261 : decode cc_Md_addTree 261 = .ok (.iadd, 1) := by decide +kernel
theorem d_Md_addTree_262 : decode cc_Md_addTree 262 = .ok (.iconst 1, 1) := by decide +kernel
theorem d_Md_addTree_263 : decode cc_Md_addTree 263 = .ok (.iadd, 1) := by decide +kernel
theorem d_Md_addTree_264 : decode cc_Md_addTree 264 = .ok (.aload_n 0, 1) := by decide +kernel
theorem d_Md_addTree_265 : decode cc_Md_addTree 265 = .ok (.getfield 150, 3) := by decide +kernel
theorem d_Md_addTree_268 : decode cc_Md_addTree 268 = .ok (.if_icmp .lt (5), 3) := by decide +kernel
theorem d_Md_addTree_271 : decode cc_Md_addTree 271 = .ok (.iconst 0, 1) := by decide +kernel
theorem d_Md_addTree_272 : decode cc_Md_addTree 272 = .ok (.ireturn, 1) := by decide +kernel
theorem d_Md_addTree_273 : decode cc_Md_addTree 273 = .ok (.aload_n 0, 1) := by decide +kernel
theorem d_Md_addTree_274 : decode cc_Md_addTree 274 = .ok (.iconst 4, 1) := by decide +kernel
theorem d_Md_addTree_275 : decode cc_Md_addTree 275 = .ok (.aload_n 0, 1) := by decide +kernel
theorem d_Md_addTree_276 : decode cc_Md_addTree 276 = .ok (.getfield 150, 3) := by decide +kernel
theorem d_Md_addTree_279 : decode cc_Md_addTree 279 = .ok (.imul, 1) := by decide +kernel
theorem d_Md_addTree_280 : decode cc_Md_addTree 280 = .ok (.iconst 2, 1) := by decide +kernel
theorem d_Md_addTree_281 : decode cc_Md_addTree 281 = .ok (.iadd, 1) := by decide +kernel
theorem d_Md_addTree_282 : decode cc_Md_addTree 282 = .ok (.invokevirtual 215, 3) := by decide +kernel
theorem d_Md_addTree_285 : decode cc_Md_addTree 285 = .ok (.aload_n 0, 1) := by decide +kernel
theorem d_Md_addTree_286 : decode cc_Md_addTree 286 = .ok (.aload_n 0, 1) := by decide +kernel
theorem d_Md_addTree_287 : decode cc_Md_addTree 287 = .ok (.getfield 166, 3) := by decide +kernel
theorem d_Md_addTree_290 : decode cc_Md_addTree 290 = .ok (.invokevirtual 215, 3) := by decide +kernel
theorem d_Md_addTree_293 : decode cc_Md_addTree 293 = .ok (.aload_n 0, 1) := by decide +kernel
theorem d_Md_addTree_294 : decode cc_Md_addTree 294 = .ok (.aload_n 0, 1) := by decide +kernel
theorem d_Md_addTree_295 : decode cc_Md_addTree 295 = .ok (.getfield 172, 3) := by decide +kernel
theorem d_Md_addTree_298 : decode cc_Md_addTree 298 = .ok (.invokevirtual 215, 3) := by decide +kernel
theorem d_Md_addTree_301 : decode cc_Md_addTree 301 = .ok (.iconst 0, 1) := by decide +kernel
theorem d_Md_addTree_302 : decode cc_Md_addTree 302 = .ok (.istore 4, 2) := by decide +kernel
theorem d_Md_addTree_304 : decode cc_Md_addTree 304 = .ok (.iload 4, 2) := by decide +kernel
theorem d_Md_addTree_306 : decode cc_Md_addTree 306 = .ok (.aload_n 0, 1) := by decide +kernel
theorem d_Md_addTree_307 : decode cc_Md_addTree 307 = .ok (.getfield 172, 3) := by decide +kernel
theorem d_Md_addTree_310 : decode cc_Md_addTree 310 = .ok (.if_icmp .ge (48), 3) := by decide +kernel
theorem d_Md_addTree_313 : decode cc_Md_addTree 313 = .ok (.aload_n 0, 1) := by decide +kernel
theorem d_Md_addTree_314 : decode cc_Md_addTree 314 = .ok (.bipush (16), 2) := by decide +kernel
theorem d_Md_addTree_316 : decode cc_Md_addTree 316 = .ok (.aload_n 0, 1) := by decide +kernel
theorem d_Md_addTree_317 : decode cc_Md_addTree 317 = .ok (.getfield 25, 3) := by decide +kernel
theorem d_Md_addTree_320 : decode cc_Md_addTree 320 = .ok (.iload 4, 2) := by decide +kernel
theorem d_Md_addTree_322 : decode cc_Md_addTree 322 = .ok (.iaload, 1) := by decide +kernel
theorem d_Md_addTree_323 : decode cc_Md_addTree 323 = .ok (.imul, 1) := by decide +kernel
theorem d_Md_addTree_324 : decode cc_Md_addTree 324 = .ok (.iload 4, 2) := by decide +kernel
theorem d_Md_addTree_326 : decode cc_Md_addTree 326 = .ok (.iconst 1, 1) := by decide +kernel
theorem d_Md_addTree_327 : decode cc_Md_addTree 327 = .ok (.iadd, 1) := by decide +kernel
theorem d_Md_addTree_328 : decode cc_Md_addTree 328 = .ok (.aload_n 0, 1) := by decide +kernel
theorem d_Md_addTree_329 : decode cc_Md_addTree 329 = .ok (.getfield 172, 3) := by decide +kernel
theorem d_Md_addTree_332 : decode cc_Md_addTree 332 = .ok (.if_icmp .ge (15), 3) := by decide +kernel
theorem d_Md_addTree_335 : decode cc_Md_addTree 335 = .ok (.aload_n 0, 1) := by decide +kernel
theorem d_Md_addTree_336 : decode cc_Md_addTree 336 = .ok (.getfield 25, 3) := by decide +kernel
theorem d_Md_addTree_339 : decode cc_Md_addTree 339 = .ok (.iload 4, 2) := by decide +kernel
theorem d_Md_addTree_341 : decode cc_Md_addTree 341 = .ok (.iconst 1, 1) := by decide +kernel
theorem d_Md_addTree_342 : decode cc_Md_addTree 342 = .ok (.iadd, 1) := by decide +kernel
theorem d_Md_addTree_343 : decode cc_Md_addTree 343 = .ok (.iaload, 1) := by decide +kernel
theorem d_Md_addTree_344 : decode cc_Md_addTree 344 = .ok (.goto (4), 3) := by decide +kernel
theorem d_Md_addTree_347 : decode cc_Md_addTree 347 = .ok (.iconst 0, 1) := by decide +kernel
theorem d_Md_addTree_348 : decode cc_Md_addTree 348 = .ok (.iadd, 1) := by decide +kernel
theorem d_Md_addTree_349 : decode cc_Md_addTree 349 = .ok (.invokevirtual 215, 3) := by decide +kernel
theorem d_Md_addTree_352 : decode cc_Md_addTree 352 = .ok (.iinc 4 (2), 3) := by decide +kernel
theorem d_Md_addTree_355 : decode cc_Md_addTree 355 = .ok (.goto (-51), 3) := by decide +kernel
theorem d_Md_addTree_358 : decode cc_Md_addTree 358 = .ok (.aload_n 0, 1) := by decide +kernel
theorem d_Md_addTree_359 : decode cc_Md_addTree 359 = .ok (.aload_n 0, 1) := by decide +kernel
theorem d_Md_addTree_360 : decode cc_Md_addTree 360 = .ok (.getfield 212, 3) := by decide +kernel
theorem d_Md_addTree_363 : decode cc_Md_addTree 363 = .ok (.bipush (8), 2) := by decide +kernel
theorem d_Md_addTree_365 : decode cc_Md_addTree 365 = .ok (.idiv, 1) := by decide +kernel
theorem d_Md_addTree_366 : decode cc_Md_addTree 366 = .ok (.iconst 1, 1) := by decide +kernel
theorem d_Md_addTree_367 : decode cc_Md_addTree 367 = .ok (.iadd, 1) := by decide +kernel
theorem d_Md_addTree_368 : decode cc_Md_addTree 368 = .ok (.invokevirtual 215, 3) := by decide +kernel
theorem d_Md_addTree_371 : decode cc_Md_addTree 371 = .ok (.aload_n 0, 1) := by decide +kernel
theorem d_Md_addTree_372 : decode cc_Md_addTree 372 = .ok (.invokevirtual 233, 3) := by decide +kernel
theorem d_Md_addTree_375 : decode cc_Md_addTree 375 = .ok (.iconst 1, 1) := by decide +kernel
theorem d_Md_addTree_376 : decode cc_Md_addTree 376 = .ok (.ireturn, 1) := by decide +kernel
section
variable {p : Program} {l : Launch} {e : Env} {s : State} {m : MethodId} {args : Array Value} {below : List Frame} {meth : Method} {c : Code} {X : Xs} {L : La}
def b_Md_addTree_85 (L : La)   (F : Mem) : Option (Int32 × Mem) :=
  if (0 : Int32) = 0 ∨ (0 : Int32) = 1 then some ((0 : Int32), F) else none
set_option maxHeartbeats 4000000 in
theorem t_Md_addTree_85 (hC : Cx X L p s m args meth c cc_Md_addTree 6 w_Md_addTree R_Md (some .boolean))  {out : (Int32 × Mem)}   {F : Mem} {H : Heap} {locs : List Loc} {ls : Array Slot}  (hI : Iv X L s H locs F) (hl : lv_has ls 6 []) (h : b_Md_addTree_85 L   F = some out) : W p l e (headSpec w_Md_addTree r_Md_addTree).room s m args below meth c H locs 0 0 (MQ below (QI X L out) args s 0 0 (AA X L)) (F0 m 85 ls []) := by
  unfold b_Md_addTree_85 at h
  obtain ⟨S, hK, hT, hW, hr, hlk⟩ := id hC
  have hx := S.1
  have hb := S.2.1
  refine lv_iconst (v := 0) hx hb d_Md_addTree_85 rfl ?_
  exact w_zret S hK hr hlk hI d_Md_addTree_86 h
def b_Md_addTree_348 (L : La) (k304 : Nat → Int32 → Mem → Option (Int32 × Mem)) (i0 : Nat) (x4 : Int32) (j0 : Nat) (y1 : Int32) (y2 : Int32) (F : Mem) : Option (Int32 × Mem) :=
  (f_Md_add L j0 (y1 + y2) F).bind fun F1 =>
  k304 i0 (x4 + (2 : Int32)) F1
set_option maxHeartbeats 4000000 in
theorem t_Md_addTree_348 (hC : Cx X L p s m args meth c cc_Md_addTree 6 w_Md_addTree R_Md (some .boolean)) {k304 : Nat → Int32 → Mem → Option (Int32 × Mem)} {out : (Int32 × Mem)} (hk304 : ∀ (i0 : Nat) (x4 : Int32) (F : Mem) (H : Heap) (locs : List Loc) (ls : Array Slot), oO L 12 i0 → Iv X L s H locs F → lv_has ls 6 [(0, .ref (mAd X i0)), (4, .int x4)] → k304 i0 x4 F = some out → W p l e (headSpec w_Md_addTree r_Md_addTree).room s m args below meth c H locs 0 0 (MQ below (QI X L out) args s 0 0 (AA X L)) (F0 m 304 ls [])) {i0 : Nat} {x4 : Int32} {j0 : Nat} {y1 : Int32} {y2 : Int32} {F : Mem} {H : Heap} {locs : List Loc} {ls : Array Slot} (o0 : oO L 12 i0) (oy0 : oO L 12 j0) (hI : Iv X L s H locs F) (hl : lv_has ls 6 [(0, .ref (mAd X i0)), (4, .int x4)]) (h : b_Md_addTree_348 L k304 i0 x4 j0 y1 y2 F = some out) : W p l e (headSpec w_Md_addTree r_Md_addTree).room s m args below meth c H locs 0 0 (MQ below (QI X L out) args s 0 0 (AA X L)) (F0 m 348 ls [.int y2, .int y1, .ref (mAd X j0)]) := by
  unfold b_Md_addTree_348 at h
  obtain ⟨S, hK, hT, hW, hr, hlk⟩ := id hC
  have hx := S.1
  have hb := S.2.1
  refine lv_iadd hx hb d_Md_addTree_348 ?_
  obtain ⟨F1, e2, h⟩ := un_bi h
  refine w_callVv (As := [.int (y1 + y2)]) (rest := []) S hK hI hT (c_Md_add l hW oy0 e2) (cwV 1 S.2.2.2.2 (gd_V lc_Md_add lm_Md_215 li_Md_add ls_Md_add ln_Md) rfl rfl rfl hd_Md_add ⟨Nat.le_of_ble_eq_true rfl, Nat.le_of_ble_eq_true rfl⟩) oy0 rfl (by decide) rfl rfl hl.1 (Nat.le_of_ble_eq_true rfl) d_Md_addTree_349 ⟨Nat.zero_le _, Nat.zero_le _⟩ (fun H locs hI => ?_)
  refine lv_iinc (k := 1) (v := x4 + (2 : Int32)) (lv' := [(4, .int (x4 + (2 : Int32))), (0, .ref (mAd X i0))]) hx hb d_Md_addTree_352 hl rfl rfl (by decide) rfl (fun ls hl => ?_)
  refine lv_goto (tgt := 304) hx hb d_Md_addTree_355 rfl ?_
  exact hk304 _ _ _ _ _ _ o0 hI (lv_sub hl [1, 0] rfl) h
def b_Md_addTree_304 (L : La) (k304 : Nat → Int32 → Mem → Option (Int32 × Mem)) (i0 : Nat) (x4 : Int32) (F : Mem) : Option (Int32 × Mem) :=
  if (F i0 17) ≤ x4 then
    (f_Md_add L i0 (((F i0 36) / (8 : Int32)) + (1 : Int32)) F).bind fun F1 =>
    (f_Md_addStream L i0 F1).bind fun F3 =>
    if (1 : Int32) = 0 ∨ (1 : Int32) = 1 then some ((1 : Int32), F3) else none
  else
    if inb x4 (mGl L (mRf L i0 19)) then none else
    if (F i0 17) ≤ (x4 + (1 : Int32)) then
      b_Md_addTree_348 L k304 i0 x4 i0 ((16 : Int32) * (mGa L F (mRf L i0 19) x4.toNatClampNeg)) (0 : Int32) F
    else
      if inb (x4 + (1 : Int32)) (mGl L (mRf L i0 19)) then none else
      b_Md_addTree_348 L k304 i0 x4 i0 ((16 : Int32) * (mGa L F (mRf L i0 19) x4.toNatClampNeg)) (mGa L F (mRf L i0 19) (x4 + (1 : Int32)).toNatClampNeg) F
set_option maxHeartbeats 4000000 in
theorem t_Md_addTree_304 (hC : Cx X L p s m args meth c cc_Md_addTree 6 w_Md_addTree R_Md (some .boolean)) {k304 : Nat → Int32 → Mem → Option (Int32 × Mem)} {out : (Int32 × Mem)} (hk304 : ∀ (i0 : Nat) (x4 : Int32) (F : Mem) (H : Heap) (locs : List Loc) (ls : Array Slot), oO L 12 i0 → Iv X L s H locs F → lv_has ls 6 [(0, .ref (mAd X i0)), (4, .int x4)] → k304 i0 x4 F = some out → W p l e (headSpec w_Md_addTree r_Md_addTree).room s m args below meth c H locs 0 0 (MQ below (QI X L out) args s 0 0 (AA X L)) (F0 m 304 ls [])) {i0 : Nat} {x4 : Int32} {F : Mem} {H : Heap} {locs : List Loc} {ls : Array Slot} (o0 : oO L 12 i0) (hI : Iv X L s H locs F) (hl : lv_has ls 6 [(0, .ref (mAd X i0)), (4, .int x4)]) (h : b_Md_addTree_304 L k304 i0 x4 F = some out) : W p l e (headSpec w_Md_addTree r_Md_addTree).room s m args below meth c H locs 0 0 (MQ below (QI X L out) args s 0 0 (AA X L)) (F0 m 304 ls []) := by
  unfold b_Md_addTree_304 at h
  obtain ⟨S, hK, hT, hW, hr, hlk⟩ := id hC
  have hx := S.1
  have hb := S.2.1
  refine lv_iload hx hb d_Md_addTree_304 (lv_at hl 1 rfl) ?_
  refine lv_aload_n hx hb d_Md_addTree_306 rfl (lv_at hl 0 rfl) ?_
  refine w_getI (T := T_Md) S hK hI o0 rfl hin_Md 17 (index := 172) (by decide) lf_Md_172 d_Md_addTree_307 ?_
  refine lv_icmp_ge (tgt := 358) hx hb d_Md_addTree_310 rfl (fun hc => ?_) (fun hc => ?_)
  · replace h := (if_pos hc).symm.trans h
    refine lv_aload_n hx hb d_Md_addTree_358 rfl (lv_at hl 0 rfl) ?_
    refine lv_aload_n hx hb d_Md_addTree_359 rfl (lv_at hl 0 rfl) ?_
    refine w_getI (T := T_Md) S hK hI o0 rfl hin_Md 36 (index := 212) (by decide) lf_Md_212 d_Md_addTree_360 ?_
    refine lv_bipush (v := 8) hx hb d_Md_addTree_363 (by decide) ?_
    refine lv_idiv hx hb d_Md_addTree_365 (by decide) ?_
    refine lv_iconst (v := 1) hx hb d_Md_addTree_366 rfl ?_
    refine lv_iadd hx hb d_Md_addTree_367 ?_
    obtain ⟨F1, e2, h⟩ := un_bi h
    refine w_callVv (As := [.int (((F i0 36) / (8 : Int32)) + (1 : Int32))]) (rest := []) S hK hI hT (c_Md_add l hW o0 e2) (cwV 1 S.2.2.2.2 (gd_V lc_Md_add lm_Md_215 li_Md_add ls_Md_add ln_Md) rfl rfl rfl hd_Md_add ⟨Nat.le_of_ble_eq_true rfl, Nat.le_of_ble_eq_true rfl⟩) o0 rfl (by decide) rfl rfl hl.1 (Nat.le_of_ble_eq_true rfl) d_Md_addTree_368 ⟨Nat.zero_le _, Nat.zero_le _⟩ (fun H locs hI => ?_)
    refine lv_aload_n hx hb d_Md_addTree_371 rfl (lv_at hl 0 rfl) ?_
    obtain ⟨F3, e4, h⟩ := un_bi h
    refine w_callVv (As := []) (rest := []) S hK hI hT (c_Md_addStream l hW o0 e4) (cwV 0 S.2.2.2.2 (gd_V lc_Md_addStream lm_Md_233 li_Md_addStream ls_Md_addStream ln_Md) rfl rfl rfl hd_Md_addStream ⟨Nat.le_of_ble_eq_true rfl, Nat.le_of_ble_eq_true rfl⟩) o0 rfl (by decide) rfl rfl hl.1 (Nat.le_of_ble_eq_true rfl) d_Md_addTree_372 ⟨Nat.zero_le _, Nat.zero_le _⟩ (fun H locs hI => ?_)
    refine lv_iconst (v := 1) hx hb d_Md_addTree_375 rfl ?_
    exact w_zret S hK hr hlk hI d_Md_addTree_376 h
  · replace h := (if_neg hc).symm.trans h
    refine lv_aload_n hx hb d_Md_addTree_313 rfl (lv_at hl 0 rfl) ?_
    refine lv_bipush (v := 16) hx hb d_Md_addTree_314 (by decide) ?_
    refine lv_aload_n hx hb d_Md_addTree_316 rfl (lv_at hl 0 rfl) ?_
    have p5 := wt_a hW o0 19 rfl (by decide) (by decide)
    refine w_getR (T := T_Md) S hK hI o0 rfl hin_Md 19 (index := 25) (by decide) lf_Md_25 d_Md_addTree_317 ?_
    refine lv_iload hx hb d_Md_addTree_320 (lv_at hl 1 rfl) ?_
    obtain ⟨z6, h⟩ := un_if h
    refine w_iald S hK hI hT p5 z6 d_Md_addTree_322 ?_
    refine lv_imul hx hb d_Md_addTree_323 ?_
    refine lv_iload hx hb d_Md_addTree_324 (lv_at hl 1 rfl) ?_
    refine lv_iconst (v := 1) hx hb d_Md_addTree_326 rfl ?_
    refine lv_iadd hx hb d_Md_addTree_327 ?_
    refine lv_aload_n hx hb d_Md_addTree_328 rfl (lv_at hl 0 rfl) ?_
    refine w_getI (T := T_Md) S hK hI o0 rfl hin_Md 17 (index := 172) (by decide) lf_Md_172 d_Md_addTree_329 ?_
    refine lv_icmp_ge (tgt := 347) hx hb d_Md_addTree_332 rfl (fun hc => ?_) (fun hc => ?_)
    · replace h := (if_pos hc).symm.trans h
      refine lv_iconst (v := 0) hx hb d_Md_addTree_347 rfl ?_
      exact t_Md_addTree_348 hC hk304 o0 o0 hI hl h
    · replace h := (if_neg hc).symm.trans h
      refine lv_aload_n hx hb d_Md_addTree_335 rfl (lv_at hl 0 rfl) ?_
      have p7 := wt_a hW o0 19 rfl (by decide) (by decide)
      refine w_getR (T := T_Md) S hK hI o0 rfl hin_Md 19 (index := 25) (by decide) lf_Md_25 d_Md_addTree_336 ?_
      refine lv_iload hx hb d_Md_addTree_339 (lv_at hl 1 rfl) ?_
      refine lv_iconst (v := 1) hx hb d_Md_addTree_341 rfl ?_
      refine lv_iadd hx hb d_Md_addTree_342 ?_
      obtain ⟨z8, h⟩ := un_if h
      refine w_iald S hK hI hT p7 z8 d_Md_addTree_343 ?_
      refine lv_goto (tgt := 348) hx hb d_Md_addTree_344 rfl ?_
      exact t_Md_addTree_348 hC hk304 o0 o0 hI hl h
def f_Md_addTree_304 (L : La)  : Nat → Nat → Int32 → Mem → Option (Int32 × Mem)
  | 0 => fun _ _ _ => none
  | n + 1 => b_Md_addTree_304 L (f_Md_addTree_304 L  n)
theorem tf_Md_addTree_304 (hC : Cx X L p s m args meth c cc_Md_addTree 6 w_Md_addTree R_Md (some .boolean))  {out : (Int32 × Mem)}  (n : Nat) : ∀ (i0 : Nat) (x4 : Int32) (F : Mem) (H : Heap) (locs : List Loc) (ls : Array Slot), oO L 12 i0 → Iv X L s H locs F → lv_has ls 6 [(0, .ref (mAd X i0)), (4, .int x4)] → f_Md_addTree_304 L  n i0 x4 F = some out → W p l e (headSpec w_Md_addTree r_Md_addTree).room s m args below meth c H locs 0 0 (MQ below (QI X L out) args s 0 0 (AA X L)) (F0 m 304 ls []) := by
  induction n with
  | zero => intro i0 x4 F H locs ls o0 hI hl h; cases h
  | succ n ih => intro i0 x4 F H locs ls o0 hI hl h; exact t_Md_addTree_304 hC ih o0 hI hl h
def b_Md_addTree_179 (L : La) (k179 : Nat → Int32 → Mem → Option (Int32 × Mem)) (i0 : Nat) (x4 : Int32) (F : Mem) : Option (Int32 × Mem) :=
  if (F i0 13) ≤ x4 then
    if (((((2 : Int32) + (((F i0 17) + (1 : Int32)) / (2 : Int32))) + (1 : Int32)) + ((F i0 36) / (8 : Int32))) + (1 : Int32)) < (F i0 13) then
      (f_Md_add L i0 (((4 : Int32) * (F i0 13)) + (2 : Int32)) F).bind fun F1 =>
      (f_Md_add L i0 (F1 i0 16) F1).bind fun F3 =>
      (f_Md_add L i0 (F3 i0 17) F3).bind fun F5 =>
      f_Md_addTree_304 L  mFU i0 (0 : Int32) F5
    else
      if (0 : Int32) = 0 ∨ (0 : Int32) = 1 then some ((0 : Int32), F) else none
  else
    if inb x4 (mGl L (mRf L i0 14)) then none else
    (f_Md_placeOf L i0 ((mGa L F (mRf L i0 14) x4.toNatClampNeg) - (F i0 16)) F).bind fun q9 =>
    if inb ((mGa L F (mRf L i0 14) x4.toNatClampNeg) - (F i0 16)) (mGl L (mRf L i0 19)) then none else
    if inb ((mGa L F (mRf L i0 14) x4.toNatClampNeg) - (F i0 16)) (mGl L (mRf L i0 19)) then none else
    (f_Md_push L i0 (jshr q9.1 ((mGa L q9.2 (mRf L i0 19) ((mGa L F (mRf L i0 14) x4.toNatClampNeg) - (F i0 16)).toNatClampNeg) - (1 : Int32))) (((q9.2 i0 18) + (1 : Int32)) - (mGa L q9.2 (mRf L i0 19) ((mGa L F (mRf L i0 14) x4.toNatClampNeg) - (F i0 16)).toNatClampNeg)) q9.2).bind fun F15 =>
    k179 i0 (x4 + (1 : Int32)) F15
set_option maxHeartbeats 4000000 in
theorem t_Md_addTree_179 (hC : Cx X L p s m args meth c cc_Md_addTree 6 w_Md_addTree R_Md (some .boolean)) {k179 : Nat → Int32 → Mem → Option (Int32 × Mem)} {out : (Int32 × Mem)} (hk179 : ∀ (i0 : Nat) (x4 : Int32) (F : Mem) (H : Heap) (locs : List Loc) (ls : Array Slot), oO L 12 i0 → Iv X L s H locs F → lv_has ls 6 [(0, .ref (mAd X i0)), (4, .int x4)] → k179 i0 x4 F = some out → W p l e (headSpec w_Md_addTree r_Md_addTree).room s m args below meth c H locs 0 0 (MQ below (QI X L out) args s 0 0 (AA X L)) (F0 m 179 ls [])) {i0 : Nat} {x4 : Int32} {F : Mem} {H : Heap} {locs : List Loc} {ls : Array Slot} (o0 : oO L 12 i0) (hI : Iv X L s H locs F) (hl : lv_has ls 6 [(0, .ref (mAd X i0)), (4, .int x4)]) (h : b_Md_addTree_179 L k179 i0 x4 F = some out) : W p l e (headSpec w_Md_addTree r_Md_addTree).room s m args below meth c H locs 0 0 (MQ below (QI X L out) args s 0 0 (AA X L)) (F0 m 179 ls []) := by
  unfold b_Md_addTree_179 at h
  obtain ⟨S, hK, hT, hW, hr, hlk⟩ := id hC
  have hx := S.1
  have hb := S.2.1
  refine lv_iload hx hb d_Md_addTree_179 (lv_at hl 1 rfl) ?_
  refine lv_aload_n hx hb d_Md_addTree_181 rfl (lv_at hl 0 rfl) ?_
  refine w_getI (T := T_Md) S hK hI o0 rfl hin_Md 13 (index := 150) (by decide) lf_Md_150 d_Md_addTree_182 ?_
  refine lv_icmp_ge (tgt := 242) hx hb d_Md_addTree_185 rfl (fun hc => ?_) (fun hc => ?_)
  · replace h := (if_pos hc).symm.trans h
    refine lv_iconst (v := 2) hx hb d_Md_addTree_242 rfl ?_
    refine lv_aload_n hx hb d_Md_addTree_243 rfl (lv_at hl 0 rfl) ?_
    refine w_getI (T := T_Md) S hK hI o0 rfl hin_Md 17 (index := 172) (by decide) lf_Md_172 d_Md_addTree_244 ?_
    refine lv_iconst (v := 1) hx hb d_Md_addTree_247 rfl ?_
    refine lv_iadd hx hb d_Md_addTree_248 ?_
    refine lv_iconst (v := 2) hx hb d_Md_addTree_249 rfl ?_
    refine lv_idiv hx hb d_Md_addTree_250 (by decide) ?_
    refine lv_iadd hx hb d_Md_addTree_251 ?_
    refine lv_iconst (v := 1) hx hb d_Md_addTree_252 rfl ?_
    refine lv_iadd hx hb d_Md_addTree_253 ?_
    refine lv_aload_n hx hb d_Md_addTree_254 rfl (lv_at hl 0 rfl) ?_
    refine w_getI (T := T_Md) S hK hI o0 rfl hin_Md 36 (index := 212) (by decide) lf_Md_212 d_Md_addTree_255 ?_
    refine lv_bipush (v := 8) hx hb d_Md_addTree_258 (by decide) ?_
    refine lv_idiv hx hb d_Md_addTree_260 (by decide) ?_
    refine lv_iadd hx hb d_Md_addTree_261 ?_
    refine lv_iconst (v := 1) hx hb d_Md_addTree_262 rfl ?_
    refine lv_iadd hx hb d_Md_addTree_263 ?_
    refine lv_aload_n hx hb d_Md_addTree_264 rfl (lv_at hl 0 rfl) ?_
    refine w_getI (T := T_Md) S hK hI o0 rfl hin_Md 13 (index := 150) (by decide) lf_Md_150 d_Md_addTree_265 ?_
    refine lv_icmp_lt (tgt := 273) hx hb d_Md_addTree_268 rfl (fun hc => ?_) (fun hc => ?_)
    · replace h := (if_pos hc).symm.trans h
      refine lv_aload_n hx hb d_Md_addTree_273 rfl (lv_at hl 0 rfl) ?_
      refine lv_iconst (v := 4) hx hb d_Md_addTree_274 rfl ?_
      refine lv_aload_n hx hb d_Md_addTree_275 rfl (lv_at hl 0 rfl) ?_
      refine w_getI (T := T_Md) S hK hI o0 rfl hin_Md 13 (index := 150) (by decide) lf_Md_150 d_Md_addTree_276 ?_
      refine lv_imul hx hb d_Md_addTree_279 ?_
      refine lv_iconst (v := 2) hx hb d_Md_addTree_280 rfl ?_
      refine lv_iadd hx hb d_Md_addTree_281 ?_
      obtain ⟨F1, e2, h⟩ := un_bi h
      refine w_callVv (As := [.int (((4 : Int32) * (F i0 13)) + (2 : Int32))]) (rest := []) S hK hI hT (c_Md_add l hW o0 e2) (cwV 1 S.2.2.2.2 (gd_V lc_Md_add lm_Md_215 li_Md_add ls_Md_add ln_Md) rfl rfl rfl hd_Md_add ⟨Nat.le_of_ble_eq_true rfl, Nat.le_of_ble_eq_true rfl⟩) o0 rfl (by decide) rfl rfl hl.1 (Nat.le_of_ble_eq_true rfl) d_Md_addTree_282 ⟨Nat.zero_le _, Nat.zero_le _⟩ (fun H locs hI => ?_)
      refine lv_aload_n hx hb d_Md_addTree_285 rfl (lv_at hl 0 rfl) ?_
      refine lv_aload_n hx hb d_Md_addTree_286 rfl (lv_at hl 0 rfl) ?_
      refine w_getI (T := T_Md) S hK hI o0 rfl hin_Md 16 (index := 166) (by decide) lf_Md_166 d_Md_addTree_287 ?_
      obtain ⟨F3, e4, h⟩ := un_bi h
      refine w_callVv (As := [.int (F1 i0 16)]) (rest := []) S hK hI hT (c_Md_add l hW o0 e4) (cwV 1 S.2.2.2.2 (gd_V lc_Md_add lm_Md_215 li_Md_add ls_Md_add ln_Md) rfl rfl rfl hd_Md_add ⟨Nat.le_of_ble_eq_true rfl, Nat.le_of_ble_eq_true rfl⟩) o0 rfl (by decide) rfl rfl hl.1 (Nat.le_of_ble_eq_true rfl) d_Md_addTree_290 ⟨Nat.zero_le _, Nat.zero_le _⟩ (fun H locs hI => ?_)
      refine lv_aload_n hx hb d_Md_addTree_293 rfl (lv_at hl 0 rfl) ?_
      refine lv_aload_n hx hb d_Md_addTree_294 rfl (lv_at hl 0 rfl) ?_
      refine w_getI (T := T_Md) S hK hI o0 rfl hin_Md 17 (index := 172) (by decide) lf_Md_172 d_Md_addTree_295 ?_
      obtain ⟨F5, e6, h⟩ := un_bi h
      refine w_callVv (As := [.int (F3 i0 17)]) (rest := []) S hK hI hT (c_Md_add l hW o0 e6) (cwV 1 S.2.2.2.2 (gd_V lc_Md_add lm_Md_215 li_Md_add ls_Md_add ln_Md) rfl rfl rfl hd_Md_add ⟨Nat.le_of_ble_eq_true rfl, Nat.le_of_ble_eq_true rfl⟩) o0 rfl (by decide) rfl rfl hl.1 (Nat.le_of_ble_eq_true rfl) d_Md_addTree_298 ⟨Nat.zero_le _, Nat.zero_le _⟩ (fun H locs hI => ?_)
      refine lv_iconst (v := 0) hx hb d_Md_addTree_301 rfl ?_
      refine lv_istore (lv' := [(4, .int (0 : Int32)), (0, .ref (mAd X i0))]) hx hb d_Md_addTree_302 hl (by decide) rfl (fun ls hl => ?_)
      exact tf_Md_addTree_304 hC  mFU _ _ _ _ _ _ o0 hI (lv_sub hl [1, 0] rfl) h
    · replace h := (if_neg hc).symm.trans h
      refine lv_iconst (v := 0) hx hb d_Md_addTree_271 rfl ?_
      exact w_zret S hK hr hlk hI d_Md_addTree_272 h
  · replace h := (if_neg hc).symm.trans h
    refine lv_aload_n hx hb d_Md_addTree_188 rfl (lv_at hl 0 rfl) ?_
    have p7 := wt_a hW o0 14 rfl (by decide) (by decide)
    refine w_getR (T := T_Md) S hK hI o0 rfl hin_Md 14 (index := 22) (by decide) lf_Md_22 d_Md_addTree_189 ?_
    refine lv_iload hx hb d_Md_addTree_192 (lv_at hl 1 rfl) ?_
    obtain ⟨z8, h⟩ := un_if h
    refine w_iald S hK hI hT p7 z8 d_Md_addTree_194 ?_
    refine lv_aload_n hx hb d_Md_addTree_195 rfl (lv_at hl 0 rfl) ?_
    refine w_getI (T := T_Md) S hK hI o0 rfl hin_Md 16 (index := 166) (by decide) lf_Md_166 d_Md_addTree_196 ?_
    refine lv_isub hx hb d_Md_addTree_199 ?_
    refine lv_istore (lv' := [(5, .int ((mGa L F (mRf L i0 14) x4.toNatClampNeg) - (F i0 16))), (0, .ref (mAd X i0)), (4, .int x4)]) hx hb d_Md_addTree_200 hl (by decide) rfl (fun ls hl => ?_)
    refine lv_aload_n hx hb d_Md_addTree_202 rfl (lv_at hl 1 rfl) ?_
    refine lv_aload_n hx hb d_Md_addTree_203 rfl (lv_at hl 1 rfl) ?_
    refine lv_iload hx hb d_Md_addTree_204 (lv_at hl 0 rfl) ?_
    obtain ⟨q9, e10, h⟩ := un_bi h
    refine w_callVi (As := [.int ((mGa L F (mRf L i0 14) x4.toNatClampNeg) - (F i0 16))]) (rest := [.ref (mAd X i0)]) S hK hI hT (c_Md_placeOf l hW o0 e10) (cwV 1 S.2.2.2.2 (gd_V lc_Md_placeOf lm_Md_240 li_Md_placeOf ls_Md_placeOf ln_Md) rfl rfl rfl hd_Md_placeOf ⟨Nat.le_of_ble_eq_true rfl, Nat.le_of_ble_eq_true rfl⟩) o0 rfl (by decide) rfl rfl hl.1 (Nat.le_of_ble_eq_true rfl) d_Md_addTree_206 ⟨Nat.zero_le _, Nat.zero_le _⟩ (fun H locs hI => ?_)
    refine lv_aload_n hx hb d_Md_addTree_209 rfl (lv_at hl 1 rfl) ?_
    have p11 := wt_a hW o0 19 rfl (by decide) (by decide)
    refine w_getR (T := T_Md) S hK hI o0 rfl hin_Md 19 (index := 25) (by decide) lf_Md_25 d_Md_addTree_210 ?_
    refine lv_iload hx hb d_Md_addTree_213 (lv_at hl 0 rfl) ?_
    obtain ⟨z12, h⟩ := un_if h
    refine w_iald S hK hI hT p11 z12 d_Md_addTree_215 ?_
    refine lv_iconst (v := 1) hx hb d_Md_addTree_216 rfl ?_
    refine lv_isub hx hb d_Md_addTree_217 ?_
    refine lv_ishr hx hb d_Md_addTree_218 ?_
    refine lv_aload_n hx hb d_Md_addTree_219 rfl (lv_at hl 1 rfl) ?_
    refine w_getI (T := T_Md) S hK hI o0 rfl hin_Md 18 (index := 163) (by decide) lf_Md_163 d_Md_addTree_220 ?_
    refine lv_iconst (v := 1) hx hb d_Md_addTree_223 rfl ?_
    refine lv_iadd hx hb d_Md_addTree_224 ?_
    refine lv_aload_n hx hb d_Md_addTree_225 rfl (lv_at hl 1 rfl) ?_
    have p13 := wt_a hW o0 19 rfl (by decide) (by decide)
    refine w_getR (T := T_Md) S hK hI o0 rfl hin_Md 19 (index := 25) (by decide) lf_Md_25 d_Md_addTree_226 ?_
    refine lv_iload hx hb d_Md_addTree_229 (lv_at hl 0 rfl) ?_
    obtain ⟨z14, h⟩ := un_if h
    refine w_iald S hK hI hT p13 z14 d_Md_addTree_231 ?_
    refine lv_isub hx hb d_Md_addTree_232 ?_
    obtain ⟨F15, e16, h⟩ := un_bi h
    refine w_callVv (As := [.int (jshr q9.1 ((mGa L q9.2 (mRf L i0 19) ((mGa L F (mRf L i0 14) x4.toNatClampNeg) - (F i0 16)).toNatClampNeg) - (1 : Int32))), .int (((q9.2 i0 18) + (1 : Int32)) - (mGa L q9.2 (mRf L i0 19) ((mGa L F (mRf L i0 14) x4.toNatClampNeg) - (F i0 16)).toNatClampNeg))]) (rest := []) S hK hI hT (c_Md_push l hW o0 e16) (cwV 2 S.2.2.2.2 (gd_V lc_Md_push lm_Md_227 li_Md_push ls_Md_push ln_Md) rfl rfl rfl hd_Md_push ⟨Nat.le_of_ble_eq_true rfl, Nat.le_of_ble_eq_true rfl⟩) o0 rfl (by decide) rfl rfl hl.1 (Nat.le_of_ble_eq_true rfl) d_Md_addTree_233 ⟨Nat.zero_le _, Nat.zero_le _⟩ (fun H locs hI => ?_)
    refine lv_iinc (k := 2) (v := x4 + (1 : Int32)) (lv' := [(4, .int (x4 + (1 : Int32))), (5, .int ((mGa L F (mRf L i0 14) x4.toNatClampNeg) - (F i0 16))), (0, .ref (mAd X i0))]) hx hb d_Md_addTree_236 hl rfl rfl (by decide) rfl (fun ls hl => ?_)
    refine lv_goto (tgt := 179) hx hb d_Md_addTree_239 rfl ?_
    exact hk179 _ _ _ _ _ _ o0 hI (lv_sub hl [2, 0] rfl) h
def f_Md_addTree_179 (L : La)  : Nat → Nat → Int32 → Mem → Option (Int32 × Mem)
  | 0 => fun _ _ _ => none
  | n + 1 => b_Md_addTree_179 L (f_Md_addTree_179 L  n)
theorem tf_Md_addTree_179 (hC : Cx X L p s m args meth c cc_Md_addTree 6 w_Md_addTree R_Md (some .boolean))  {out : (Int32 × Mem)}  (n : Nat) : ∀ (i0 : Nat) (x4 : Int32) (F : Mem) (H : Heap) (locs : List Loc) (ls : Array Slot), oO L 12 i0 → Iv X L s H locs F → lv_has ls 6 [(0, .ref (mAd X i0)), (4, .int x4)] → f_Md_addTree_179 L  n i0 x4 F = some out → W p l e (headSpec w_Md_addTree r_Md_addTree).room s m args below meth c H locs 0 0 (MQ below (QI X L out) args s 0 0 (AA X L)) (F0 m 179 ls []) := by
  induction n with
  | zero => intro i0 x4 F H locs ls o0 hI hl h; cases h
  | succ n ih => intro i0 x4 F H locs ls o0 hI hl h; exact t_Md_addTree_179 hC ih o0 hI hl h
def b_Md_addTree_160 (L : La) (k120 : Nat → Int32 → Int32 → Mem → Option (Int32 × Mem)) (i0 : Nat) (x3 : Int32) (x4 : Int32) (j0 : Nat) (y1 : Int32) (y2 : Int32) (F : Mem) : Option (Int32 × Mem) :=
  if inb y1 (mLn L j0) ∨ ¬ j0 < mNc L then none else
  lt' (u2 F j0 y1.toNatClampNeg y2) fun F2 =>
  k120 i0 x3 (x4 + (1 : Int32)) F2
set_option maxHeartbeats 4000000 in
theorem t_Md_addTree_160 (hC : Cx X L p s m args meth c cc_Md_addTree 6 w_Md_addTree R_Md (some .boolean)) {k120 : Nat → Int32 → Int32 → Mem → Option (Int32 × Mem)} {out : (Int32 × Mem)} (hk120 : ∀ (i0 : Nat) (x3 : Int32) (x4 : Int32) (F : Mem) (H : Heap) (locs : List Loc) (ls : Array Slot), oO L 12 i0 → Iv X L s H locs F → lv_has ls 6 [(0, .ref (mAd X i0)), (3, .int x3), (4, .int x4)] → k120 i0 x3 x4 F = some out → W p l e (headSpec w_Md_addTree r_Md_addTree).room s m args below meth c H locs 0 0 (MQ below (QI X L out) args s 0 0 (AA X L)) (F0 m 120 ls [])) {i0 : Nat} {x3 : Int32} {x4 : Int32} {j0 : Nat} {y1 : Int32} {y2 : Int32} {F : Mem} {H : Heap} {locs : List Loc} {ls : Array Slot} (o0 : oO L 12 i0) (oy0 : oA L j0) (hI : Iv X L s H locs F) (hl : lv_has ls 6 [(0, .ref (mAd X i0)), (3, .int x3), (4, .int x4)]) (h : b_Md_addTree_160 L k120 i0 x3 x4 j0 y1 y2 F = some out) : W p l e (headSpec w_Md_addTree r_Md_addTree).room s m args below meth c H locs 0 0 (MQ below (QI X L out) args s 0 0 (AA X L)) (F0 m 160 ls [.int y2, .int y1, .ref (mAd X j0)]) := by
  unfold b_Md_addTree_160 at h
  obtain ⟨S, hK, hT, hW, hr, hlk⟩ := id hC
  have hx := S.1
  have hb := S.2.1
  obtain ⟨z1, h⟩ := un_if h
  refine w_iast S hK hI oy0 z1 d_Md_addTree_160 (fun H locs F2 e3 hI => ?_)
  replace h := un_lt h _ e3
  refine lv_iinc (k := 2) (v := x4 + (1 : Int32)) (lv' := [(4, .int (x4 + (1 : Int32))), (0, .ref (mAd X i0)), (3, .int x3)]) hx hb d_Md_addTree_161 hl rfl rfl (by decide) rfl (fun ls hl => ?_)
  refine lv_goto (tgt := 120) hx hb d_Md_addTree_164 rfl ?_
  exact hk120 _ _ _ _ _ _ _ o0 hI (lv_sub hl [1, 2, 0] rfl) h
def b_Md_addTree_120 (L : La) (k120 : Nat → Int32 → Int32 → Mem → Option (Int32 × Mem)) (i0 : Nat) (x3 : Int32) (x4 : Int32) (F : Mem) : Option (Int32 × Mem) :=
  if (F i0 17) < x4 then
    (f_Md_plant L i0 F).bind fun F1 =>
    lt' (u2 F1 i0 36 (0 : Int32)) fun F3 =>
    f_Md_addTree_179 L  mFU i0 (0 : Int32) F3
  else
    if inb x4 (mGl L (mRf L i0 38)) then none else
    if (mGa L F (mRf L i0 38) x4.toNatClampNeg) = 0 then
      b_Md_addTree_160 L k120 i0 x3 x4 (mRf L i0 19) x4 (0 : Int32) F
    else
      if inb x4 (mGl L (mRf L i0 41)) then none else
      b_Md_addTree_160 L k120 i0 x3 x4 (mRf L i0 19) x4 ((x3 + (1 : Int32)) - (mGa L F (mRf L i0 41) x4.toNatClampNeg)) F
set_option maxHeartbeats 4000000 in
theorem t_Md_addTree_120 (hC : Cx X L p s m args meth c cc_Md_addTree 6 w_Md_addTree R_Md (some .boolean)) {k120 : Nat → Int32 → Int32 → Mem → Option (Int32 × Mem)} {out : (Int32 × Mem)} (hk120 : ∀ (i0 : Nat) (x3 : Int32) (x4 : Int32) (F : Mem) (H : Heap) (locs : List Loc) (ls : Array Slot), oO L 12 i0 → Iv X L s H locs F → lv_has ls 6 [(0, .ref (mAd X i0)), (3, .int x3), (4, .int x4)] → k120 i0 x3 x4 F = some out → W p l e (headSpec w_Md_addTree r_Md_addTree).room s m args below meth c H locs 0 0 (MQ below (QI X L out) args s 0 0 (AA X L)) (F0 m 120 ls [])) {i0 : Nat} {x3 : Int32} {x4 : Int32} {F : Mem} {H : Heap} {locs : List Loc} {ls : Array Slot} (o0 : oO L 12 i0) (hI : Iv X L s H locs F) (hl : lv_has ls 6 [(0, .ref (mAd X i0)), (3, .int x3), (4, .int x4)]) (h : b_Md_addTree_120 L k120 i0 x3 x4 F = some out) : W p l e (headSpec w_Md_addTree r_Md_addTree).room s m args below meth c H locs 0 0 (MQ below (QI X L out) args s 0 0 (AA X L)) (F0 m 120 ls []) := by
  unfold b_Md_addTree_120 at h
  obtain ⟨S, hK, hT, hW, hr, hlk⟩ := id hC
  have hx := S.1
  have hb := S.2.1
  refine lv_iload hx hb d_Md_addTree_120 (lv_at hl 2 rfl) ?_
  refine lv_aload_n hx hb d_Md_addTree_122 rfl (lv_at hl 0 rfl) ?_
  refine w_getI (T := T_Md) S hK hI o0 rfl hin_Md 17 (index := 172) (by decide) lf_Md_172 d_Md_addTree_123 ?_
  refine lv_icmp_gt (tgt := 167) hx hb d_Md_addTree_126 rfl (fun hc => ?_) (fun hc => ?_)
  · replace h := (if_pos hc).symm.trans h
    refine lv_aload_n hx hb d_Md_addTree_167 rfl (lv_at hl 0 rfl) ?_
    obtain ⟨F1, e2, h⟩ := un_bi h
    refine w_callVv (As := []) (rest := []) S hK hI hT (c_Md_plant l hW o0 e2) (cwV 0 S.2.2.2.2 (gd_V lc_Md_plant lm_Md_175 li_Md_plant ls_Md_plant ln_Md) rfl rfl rfl hd_Md_plant ⟨Nat.le_of_ble_eq_true rfl, Nat.le_of_ble_eq_true rfl⟩) o0 rfl (by decide) rfl rfl hl.1 (Nat.le_of_ble_eq_true rfl) d_Md_addTree_168 ⟨Nat.zero_le _, Nat.zero_le _⟩ (fun H locs hI => ?_)
    refine lv_aload_n hx hb d_Md_addTree_171 rfl (lv_at hl 0 rfl) ?_
    refine lv_iconst (v := 0) hx hb d_Md_addTree_172 rfl ?_
    refine w_putI (T := T_Md) S hK hI o0 rfl hin_Md ty_Md tk_Md nm_Md 36 (index := 212) (by decide) lf_Md_212 rfl d_Md_addTree_173 (fun H locs F3 e4 hI => ?_)
    replace h := un_lt h _ e4
    refine lv_iconst (v := 0) hx hb d_Md_addTree_176 rfl ?_
    refine lv_istore (lv' := [(4, .int (0 : Int32)), (0, .ref (mAd X i0)), (3, .int x3)]) hx hb d_Md_addTree_177 hl (by decide) rfl (fun ls hl => ?_)
    exact tf_Md_addTree_179 hC  mFU _ _ _ _ _ _ o0 hI (lv_sub hl [1, 0] rfl) h
  · replace h := (if_neg hc).symm.trans h
    refine lv_aload_n hx hb d_Md_addTree_129 rfl (lv_at hl 0 rfl) ?_
    have p5 := wt_a hW o0 19 rfl (by decide) (by decide)
    refine w_getR (T := T_Md) S hK hI o0 rfl hin_Md 19 (index := 25) (by decide) lf_Md_25 d_Md_addTree_130 ?_
    refine lv_iload hx hb d_Md_addTree_133 (lv_at hl 2 rfl) ?_
    refine lv_aload_n hx hb d_Md_addTree_135 rfl (lv_at hl 0 rfl) ?_
    have p6 := wt_a hW o0 38 rfl (by decide) (by decide)
    refine w_getR (T := T_Md) S hK hI o0 rfl hin_Md 38 (index := 74) (by decide) lf_Md_74 d_Md_addTree_136 ?_
    refine lv_iload hx hb d_Md_addTree_139 (lv_at hl 2 rfl) ?_
    obtain ⟨z7, h⟩ := un_if h
    refine w_iald S hK hI hT p6 z7 d_Md_addTree_141 ?_
    refine lv_if_ne (tgt := 149) hx hb d_Md_addTree_142 rfl (fun hc => ?_) (fun hc => ?_)
    · replace h := (if_neg hc).symm.trans h
      refine lv_iload_n hx hb d_Md_addTree_149 rfl (lv_at hl 1 rfl) ?_
      refine lv_iconst (v := 1) hx hb d_Md_addTree_150 rfl ?_
      refine lv_iadd hx hb d_Md_addTree_151 ?_
      refine lv_aload_n hx hb d_Md_addTree_152 rfl (lv_at hl 0 rfl) ?_
      have p8 := wt_a hW o0 41 rfl (by decide) (by decide)
      refine w_getR (T := T_Md) S hK hI o0 rfl hin_Md 41 (index := 83) (by decide) lf_Md_83 d_Md_addTree_153 ?_
      refine lv_iload hx hb d_Md_addTree_156 (lv_at hl 2 rfl) ?_
      obtain ⟨z9, h⟩ := un_if h
      refine w_iald S hK hI hT p8 z9 d_Md_addTree_158 ?_
      refine lv_isub hx hb d_Md_addTree_159 ?_
      exact t_Md_addTree_160 hC hk120 o0 p5 hI hl h
    · replace h := (if_pos hc).symm.trans h
      refine lv_iconst (v := 0) hx hb d_Md_addTree_145 rfl ?_
      refine lv_goto (tgt := 160) hx hb d_Md_addTree_146 rfl ?_
      exact t_Md_addTree_160 hC hk120 o0 p5 hI hl h
def f_Md_addTree_120 (L : La)  : Nat → Nat → Int32 → Int32 → Mem → Option (Int32 × Mem)
  | 0 => fun _ _ _ _ => none
  | n + 1 => b_Md_addTree_120 L (f_Md_addTree_120 L  n)
theorem tf_Md_addTree_120 (hC : Cx X L p s m args meth c cc_Md_addTree 6 w_Md_addTree R_Md (some .boolean))  {out : (Int32 × Mem)}  (n : Nat) : ∀ (i0 : Nat) (x3 : Int32) (x4 : Int32) (F : Mem) (H : Heap) (locs : List Loc) (ls : Array Slot), oO L 12 i0 → Iv X L s H locs F → lv_has ls 6 [(0, .ref (mAd X i0)), (3, .int x3), (4, .int x4)] → f_Md_addTree_120 L  n i0 x3 x4 F = some out → W p l e (headSpec w_Md_addTree r_Md_addTree).room s m args below meth c H locs 0 0 (MQ below (QI X L out) args s 0 0 (AA X L)) (F0 m 120 ls []) := by
  induction n with
  | zero => intro i0 x3 x4 F H locs ls o0 hI hl h; cases h
  | succ n ih => intro i0 x3 x4 F H locs ls o0 hI hl h; exact t_Md_addTree_120 hC ih o0 hI hl h
def b_Md_addTree_57 (L : La) (k8 : Nat → Int32 → Int32 → Int32 → Mem → Option (Int32 × Mem)) (i0 : Nat) (x1 : Int32) (x3 : Int32) (y0 : Int32) (F : Mem) : Option (Int32 × Mem) :=
  k8 i0 x1 y0 (x3 + (1 : Int32)) F
set_option maxHeartbeats 4000000 in
theorem t_Md_addTree_57 (hC : Cx X L p s m args meth c cc_Md_addTree 6 w_Md_addTree R_Md (some .boolean)) {k8 : Nat → Int32 → Int32 → Int32 → Mem → Option (Int32 × Mem)} {out : (Int32 × Mem)} (hk8 : ∀ (i0 : Nat) (x1 : Int32) (x2 : Int32) (x3 : Int32) (F : Mem) (H : Heap) (locs : List Loc) (ls : Array Slot), oO L 12 i0 → Iv X L s H locs F → lv_has ls 6 [(0, .ref (mAd X i0)), (1, .int x1), (2, .int x2), (3, .int x3)] → k8 i0 x1 x2 x3 F = some out → W p l e (headSpec w_Md_addTree r_Md_addTree).room s m args below meth c H locs 0 0 (MQ below (QI X L out) args s 0 0 (AA X L)) (F0 m 8 ls [])) {i0 : Nat} {x1 : Int32} {x3 : Int32} {y0 : Int32} {F : Mem} {H : Heap} {locs : List Loc} {ls : Array Slot} (o0 : oO L 12 i0) (hI : Iv X L s H locs F) (hl : lv_has ls 6 [(0, .ref (mAd X i0)), (1, .int x1), (3, .int x3)]) (h : b_Md_addTree_57 L k8 i0 x1 x3 y0 F = some out) : W p l e (headSpec w_Md_addTree r_Md_addTree).room s m args below meth c H locs 0 0 (MQ below (QI X L out) args s 0 0 (AA X L)) (F0 m 57 ls [.int y0]) := by
  unfold b_Md_addTree_57 at h
  obtain ⟨S, hK, hT, hW, hr, hlk⟩ := id hC
  have hx := S.1
  have hb := S.2.1
  refine lv_istore_n (lv' := [(2, .int y0), (0, .ref (mAd X i0)), (1, .int x1), (3, .int x3)]) hx hb d_Md_addTree_57 rfl hl (by decide) rfl (fun ls hl => ?_)
  refine lv_iinc (k := 3) (v := x3 + (1 : Int32)) (lv' := [(3, .int (x3 + (1 : Int32))), (2, .int y0), (0, .ref (mAd X i0)), (1, .int x1)]) hx hb d_Md_addTree_58 hl rfl rfl (by decide) rfl (fun ls hl => ?_)
  refine lv_goto (tgt := 8) hx hb d_Md_addTree_61 rfl ?_
  exact hk8 _ _ _ _ _ _ _ _ o0 hI (lv_sub hl [2, 3, 1, 0] rfl) h
def b_Md_addTree_36 (L : La) (k8 : Nat → Int32 → Int32 → Int32 → Mem → Option (Int32 × Mem)) (i0 : Nat) (x2 : Int32) (x3 : Int32) (y0 : Int32) (F : Mem) : Option (Int32 × Mem) :=
  if inb x3 (mGl L (mRf L i0 14)) then none else
  if (mGa L F (mRf L i0 14) x3.toNatClampNeg) ≤ x2 then
    b_Md_addTree_57 L k8 i0 y0 x3 x2 F
  else
    if inb x3 (mGl L (mRf L i0 14)) then none else
    b_Md_addTree_57 L k8 i0 y0 x3 (mGa L F (mRf L i0 14) x3.toNatClampNeg) F
set_option maxHeartbeats 4000000 in
theorem t_Md_addTree_36 (hC : Cx X L p s m args meth c cc_Md_addTree 6 w_Md_addTree R_Md (some .boolean)) {k8 : Nat → Int32 → Int32 → Int32 → Mem → Option (Int32 × Mem)} {out : (Int32 × Mem)} (hk8 : ∀ (i0 : Nat) (x1 : Int32) (x2 : Int32) (x3 : Int32) (F : Mem) (H : Heap) (locs : List Loc) (ls : Array Slot), oO L 12 i0 → Iv X L s H locs F → lv_has ls 6 [(0, .ref (mAd X i0)), (1, .int x1), (2, .int x2), (3, .int x3)] → k8 i0 x1 x2 x3 F = some out → W p l e (headSpec w_Md_addTree r_Md_addTree).room s m args below meth c H locs 0 0 (MQ below (QI X L out) args s 0 0 (AA X L)) (F0 m 8 ls [])) {i0 : Nat} {x2 : Int32} {x3 : Int32} {y0 : Int32} {F : Mem} {H : Heap} {locs : List Loc} {ls : Array Slot} (o0 : oO L 12 i0) (hI : Iv X L s H locs F) (hl : lv_has ls 6 [(0, .ref (mAd X i0)), (2, .int x2), (3, .int x3)]) (h : b_Md_addTree_36 L k8 i0 x2 x3 y0 F = some out) : W p l e (headSpec w_Md_addTree r_Md_addTree).room s m args below meth c H locs 0 0 (MQ below (QI X L out) args s 0 0 (AA X L)) (F0 m 36 ls [.int y0]) := by
  unfold b_Md_addTree_36 at h
  obtain ⟨S, hK, hT, hW, hr, hlk⟩ := id hC
  have hx := S.1
  have hb := S.2.1
  refine lv_istore_n (lv' := [(1, .int y0), (0, .ref (mAd X i0)), (2, .int x2), (3, .int x3)]) hx hb d_Md_addTree_36 rfl hl (by decide) rfl (fun ls hl => ?_)
  refine lv_aload_n hx hb d_Md_addTree_37 rfl (lv_at hl 1 rfl) ?_
  have p1 := wt_a hW o0 14 rfl (by decide) (by decide)
  refine w_getR (T := T_Md) S hK hI o0 rfl hin_Md 14 (index := 22) (by decide) lf_Md_22 d_Md_addTree_38 ?_
  refine lv_iload_n hx hb d_Md_addTree_41 rfl (lv_at hl 3 rfl) ?_
  obtain ⟨z2, h⟩ := un_if h
  refine w_iald S hK hI hT p1 z2 d_Md_addTree_42 ?_
  refine lv_iload_n hx hb d_Md_addTree_43 rfl (lv_at hl 2 rfl) ?_
  refine lv_icmp_le (tgt := 56) hx hb d_Md_addTree_44 rfl (fun hc => ?_) (fun hc => ?_)
  · replace h := (if_pos hc).symm.trans h
    refine lv_iload_n hx hb d_Md_addTree_56 rfl (lv_at hl 2 rfl) ?_
    exact t_Md_addTree_57 hC hk8 o0 hI (lv_sub hl [1, 0, 3] rfl) h
  · replace h := (if_neg hc).symm.trans h
    refine lv_aload_n hx hb d_Md_addTree_47 rfl (lv_at hl 1 rfl) ?_
    have p3 := wt_a hW o0 14 rfl (by decide) (by decide)
    refine w_getR (T := T_Md) S hK hI o0 rfl hin_Md 14 (index := 22) (by decide) lf_Md_22 d_Md_addTree_48 ?_
    refine lv_iload_n hx hb d_Md_addTree_51 rfl (lv_at hl 3 rfl) ?_
    obtain ⟨z4, h⟩ := un_if h
    refine w_iald S hK hI hT p3 z4 d_Md_addTree_52 ?_
    refine lv_goto (tgt := 57) hx hb d_Md_addTree_53 rfl ?_
    exact t_Md_addTree_57 hC hk8 o0 hI (lv_sub hl [1, 0, 3] rfl) h
def b_Md_addTree_8 (L : La) (k8 : Nat → Int32 → Int32 → Int32 → Mem → Option (Int32 × Mem)) (i0 : Nat) (x1 : Int32) (x2 : Int32) (x3 : Int32) (F : Mem) : Option (Int32 × Mem) :=
  if (F i0 13) ≤ x3 then
    if (F i0 13) < (2 : Int32) then
      b_Md_addTree_85 L   F
    else
      if (16 : Int32) < (x2 - x1) then
        b_Md_addTree_85 L   F
      else
        if x2 = x1 then
          b_Md_addTree_85 L   F
        else
          lt' (u2 F i0 16 x1) fun F1 =>
          lt' (u2 F1 i0 17 (x2 - x1)) fun F3 =>
          (f_Md_grow L i0 F3).bind fun q5 =>
          if q5.1 ≤ (7 : Int32) then
            lt' (u2 q5.2 i0 18 q5.1) fun F7 =>
            f_Md_addTree_120 L  mFU i0 q5.1 (0 : Int32) F7
          else
            if (0 : Int32) = 0 ∨ (0 : Int32) = 1 then some ((0 : Int32), q5.2) else none
  else
    if inb x3 (mGl L (mRf L i0 14)) then none else
    if x1 ≤ (mGa L F (mRf L i0 14) x3.toNatClampNeg) then
      b_Md_addTree_36 L k8 i0 x2 x3 x1 F
    else
      if inb x3 (mGl L (mRf L i0 14)) then none else
      b_Md_addTree_36 L k8 i0 x2 x3 (mGa L F (mRf L i0 14) x3.toNatClampNeg) F
set_option maxHeartbeats 4000000 in
theorem t_Md_addTree_8 (hC : Cx X L p s m args meth c cc_Md_addTree 6 w_Md_addTree R_Md (some .boolean)) {k8 : Nat → Int32 → Int32 → Int32 → Mem → Option (Int32 × Mem)} {out : (Int32 × Mem)} (hk8 : ∀ (i0 : Nat) (x1 : Int32) (x2 : Int32) (x3 : Int32) (F : Mem) (H : Heap) (locs : List Loc) (ls : Array Slot), oO L 12 i0 → Iv X L s H locs F → lv_has ls 6 [(0, .ref (mAd X i0)), (1, .int x1), (2, .int x2), (3, .int x3)] → k8 i0 x1 x2 x3 F = some out → W p l e (headSpec w_Md_addTree r_Md_addTree).room s m args below meth c H locs 0 0 (MQ below (QI X L out) args s 0 0 (AA X L)) (F0 m 8 ls [])) {i0 : Nat} {x1 : Int32} {x2 : Int32} {x3 : Int32} {F : Mem} {H : Heap} {locs : List Loc} {ls : Array Slot} (o0 : oO L 12 i0) (hI : Iv X L s H locs F) (hl : lv_has ls 6 [(0, .ref (mAd X i0)), (1, .int x1), (2, .int x2), (3, .int x3)]) (h : b_Md_addTree_8 L k8 i0 x1 x2 x3 F = some out) : W p l e (headSpec w_Md_addTree r_Md_addTree).room s m args below meth c H locs 0 0 (MQ below (QI X L out) args s 0 0 (AA X L)) (F0 m 8 ls []) := by
  unfold b_Md_addTree_8 at h
  obtain ⟨S, hK, hT, hW, hr, hlk⟩ := id hC
  have hx := S.1
  have hb := S.2.1
  refine lv_iload_n hx hb d_Md_addTree_8 rfl (lv_at hl 3 rfl) ?_
  refine lv_aload_n hx hb d_Md_addTree_9 rfl (lv_at hl 0 rfl) ?_
  refine w_getI (T := T_Md) S hK hI o0 rfl hin_Md 13 (index := 150) (by decide) lf_Md_150 d_Md_addTree_10 ?_
  refine lv_icmp_ge (tgt := 64) hx hb d_Md_addTree_13 rfl (fun hc => ?_) (fun hc => ?_)
  · replace h := (if_pos hc).symm.trans h
    refine lv_aload_n hx hb d_Md_addTree_64 rfl (lv_at hl 0 rfl) ?_
    refine w_getI (T := T_Md) S hK hI o0 rfl hin_Md 13 (index := 150) (by decide) lf_Md_150 d_Md_addTree_65 ?_
    refine lv_iconst (v := 2) hx hb d_Md_addTree_68 rfl ?_
    refine lv_icmp_lt (tgt := 85) hx hb d_Md_addTree_69 rfl (fun hc => ?_) (fun hc => ?_)
    · replace h := (if_pos hc).symm.trans h
      exact t_Md_addTree_85 hC   hI (lv_sub hl [] rfl) h
    · replace h := (if_neg hc).symm.trans h
      refine lv_iload_n hx hb d_Md_addTree_72 rfl (lv_at hl 2 rfl) ?_
      refine lv_iload_n hx hb d_Md_addTree_73 rfl (lv_at hl 1 rfl) ?_
      refine lv_isub hx hb d_Md_addTree_74 ?_
      refine lv_bipush (v := 16) hx hb d_Md_addTree_75 (by decide) ?_
      refine lv_icmp_gt (tgt := 85) hx hb d_Md_addTree_77 rfl (fun hc => ?_) (fun hc => ?_)
      · replace h := (if_pos hc).symm.trans h
        exact t_Md_addTree_85 hC   hI (lv_sub hl [] rfl) h
      · replace h := (if_neg hc).symm.trans h
        refine lv_iload_n hx hb d_Md_addTree_80 rfl (lv_at hl 2 rfl) ?_
        refine lv_iload_n hx hb d_Md_addTree_81 rfl (lv_at hl 1 rfl) ?_
        refine lv_icmp_ne (tgt := 87) hx hb d_Md_addTree_82 rfl (fun hc => ?_) (fun hc => ?_)
        · replace h := (if_neg hc).symm.trans h
          refine lv_aload_n hx hb d_Md_addTree_87 rfl (lv_at hl 0 rfl) ?_
          refine lv_iload_n hx hb d_Md_addTree_88 rfl (lv_at hl 1 rfl) ?_
          refine w_putI (T := T_Md) S hK hI o0 rfl hin_Md ty_Md tk_Md nm_Md 16 (index := 166) (by decide) lf_Md_166 rfl d_Md_addTree_89 (fun H locs F1 e2 hI => ?_)
          replace h := un_lt h _ e2
          refine lv_aload_n hx hb d_Md_addTree_92 rfl (lv_at hl 0 rfl) ?_
          refine lv_iload_n hx hb d_Md_addTree_93 rfl (lv_at hl 2 rfl) ?_
          refine lv_iload_n hx hb d_Md_addTree_94 rfl (lv_at hl 1 rfl) ?_
          refine lv_isub hx hb d_Md_addTree_95 ?_
          refine w_putI (T := T_Md) S hK hI o0 rfl hin_Md ty_Md tk_Md nm_Md 17 (index := 172) (by decide) lf_Md_172 rfl d_Md_addTree_96 (fun H locs F3 e4 hI => ?_)
          replace h := un_lt h _ e4
          refine lv_aload_n hx hb d_Md_addTree_99 rfl (lv_at hl 0 rfl) ?_
          obtain ⟨q5, e6, h⟩ := un_bi h
          refine w_callVi (As := []) (rest := []) S hK hI hT (c_Md_grow l hW o0 e6) (cwV 0 S.2.2.2.2 (gd_V lc_Md_grow lm_Md_236 li_Md_grow ls_Md_grow ln_Md) rfl rfl rfl hd_Md_grow ⟨Nat.le_of_ble_eq_true rfl, Nat.le_of_ble_eq_true rfl⟩) o0 rfl (by decide) rfl rfl hl.1 (Nat.le_of_ble_eq_true rfl) d_Md_addTree_100 ⟨Nat.zero_le _, Nat.zero_le _⟩ (fun H locs hI => ?_)
          refine lv_istore_n (lv' := [(3, .int q5.1), (0, .ref (mAd X i0)), (1, .int x1), (2, .int x2)]) hx hb d_Md_addTree_103 rfl hl (by decide) rfl (fun ls hl => ?_)
          refine lv_iload_n hx hb d_Md_addTree_104 rfl (lv_at hl 0 rfl) ?_
          refine lv_bipush (v := 7) hx hb d_Md_addTree_105 (by decide) ?_
          refine lv_icmp_le (tgt := 112) hx hb d_Md_addTree_107 rfl (fun hc => ?_) (fun hc => ?_)
          · replace h := (if_pos hc).symm.trans h
            refine lv_aload_n hx hb d_Md_addTree_112 rfl (lv_at hl 1 rfl) ?_
            refine lv_iload_n hx hb d_Md_addTree_113 rfl (lv_at hl 0 rfl) ?_
            refine w_putI (T := T_Md) S hK hI o0 rfl hin_Md ty_Md tk_Md nm_Md 18 (index := 163) (by decide) lf_Md_163 rfl d_Md_addTree_114 (fun H locs F7 e8 hI => ?_)
            replace h := un_lt h _ e8
            refine lv_iconst (v := 0) hx hb d_Md_addTree_117 rfl ?_
            refine lv_istore (lv' := [(4, .int (0 : Int32)), (3, .int q5.1), (0, .ref (mAd X i0)), (1, .int x1), (2, .int x2)]) hx hb d_Md_addTree_118 hl (by decide) rfl (fun ls hl => ?_)
            exact tf_Md_addTree_120 hC  mFU _ _ _ _ _ _ _ o0 hI (lv_sub hl [2, 1, 0] rfl) h
          · replace h := (if_neg hc).symm.trans h
            refine lv_iconst (v := 0) hx hb d_Md_addTree_110 rfl ?_
            exact w_zret S hK hr hlk hI d_Md_addTree_111 h
        · replace h := (if_pos hc).symm.trans h
          exact t_Md_addTree_85 hC   hI (lv_sub hl [] rfl) h
  · replace h := (if_neg hc).symm.trans h
    refine lv_aload_n hx hb d_Md_addTree_16 rfl (lv_at hl 0 rfl) ?_
    have p9 := wt_a hW o0 14 rfl (by decide) (by decide)
    refine w_getR (T := T_Md) S hK hI o0 rfl hin_Md 14 (index := 22) (by decide) lf_Md_22 d_Md_addTree_17 ?_
    refine lv_iload_n hx hb d_Md_addTree_20 rfl (lv_at hl 3 rfl) ?_
    obtain ⟨z10, h⟩ := un_if h
    refine w_iald S hK hI hT p9 z10 d_Md_addTree_21 ?_
    refine lv_iload_n hx hb d_Md_addTree_22 rfl (lv_at hl 1 rfl) ?_
    refine lv_icmp_ge (tgt := 35) hx hb d_Md_addTree_23 rfl (fun hc => ?_) (fun hc => ?_)
    · replace h := (if_pos hc).symm.trans h
      refine lv_iload_n hx hb d_Md_addTree_35 rfl (lv_at hl 1 rfl) ?_
      exact t_Md_addTree_36 hC hk8 o0 hI (lv_sub hl [0, 2, 3] rfl) h
    · replace h := (if_neg hc).symm.trans h
      refine lv_aload_n hx hb d_Md_addTree_26 rfl (lv_at hl 0 rfl) ?_
      have p11 := wt_a hW o0 14 rfl (by decide) (by decide)
      refine w_getR (T := T_Md) S hK hI o0 rfl hin_Md 14 (index := 22) (by decide) lf_Md_22 d_Md_addTree_27 ?_
      refine lv_iload_n hx hb d_Md_addTree_30 rfl (lv_at hl 3 rfl) ?_
      obtain ⟨z12, h⟩ := un_if h
      refine w_iald S hK hI hT p11 z12 d_Md_addTree_31 ?_
      refine lv_goto (tgt := 36) hx hb d_Md_addTree_32 rfl ?_
      exact t_Md_addTree_36 hC hk8 o0 hI (lv_sub hl [0, 2, 3] rfl) h
def f_Md_addTree_8 (L : La)  : Nat → Nat → Int32 → Int32 → Int32 → Mem → Option (Int32 × Mem)
  | 0 => fun _ _ _ _ _ => none
  | n + 1 => b_Md_addTree_8 L (f_Md_addTree_8 L  n)
theorem tf_Md_addTree_8 (hC : Cx X L p s m args meth c cc_Md_addTree 6 w_Md_addTree R_Md (some .boolean))  {out : (Int32 × Mem)}  (n : Nat) : ∀ (i0 : Nat) (x1 : Int32) (x2 : Int32) (x3 : Int32) (F : Mem) (H : Heap) (locs : List Loc) (ls : Array Slot), oO L 12 i0 → Iv X L s H locs F → lv_has ls 6 [(0, .ref (mAd X i0)), (1, .int x1), (2, .int x2), (3, .int x3)] → f_Md_addTree_8 L  n i0 x1 x2 x3 F = some out → W p l e (headSpec w_Md_addTree r_Md_addTree).room s m args below meth c H locs 0 0 (MQ below (QI X L out) args s 0 0 (AA X L)) (F0 m 8 ls []) := by
  induction n with
  | zero => intro i0 x1 x2 x3 F H locs ls o0 hI hl h; cases h
  | succ n ih => intro i0 x1 x2 x3 F H locs ls o0 hI hl h; exact t_Md_addTree_8 hC ih o0 hI hl h
def f_Md_addTree (L : La) (i0 : Nat) (F : Mem) : Option (Int32 × Mem) :=
  f_Md_addTree_8 L  mFU i0 (255 : Int32) (0 : Int32) (0 : Int32) F
set_option maxHeartbeats 4000000 in
theorem c_Md_addTree (l : Launch) {X : Xs} {L : La} (hW : WT L) {out : (Int32 × Mem)} {i0 : Nat} {F : Mem} (o0 : oO L 12 i0) (h : f_Md_addTree L i0 F = some out) : Met l y_Md_addTree w_Md_addTree r_Md_addTree (va_Pc [.ref (mAd X i0)] (Pr X L F)) (QI X L out) 0 0 (AA X L) := by
  refine mk_met (by decide) rfl (Nat.le_of_ble_eq_true rfl) hW ?_
  intro p e s m args below meth c ls hC hI hl
  have hl : lv_has ls 6 [(0, .ref (mAd X i0))] := hl
  generalize hHe : s.heap = H at hI ⊢
  generalize ([] : List Loc) = locs at hI ⊢
  unfold f_Md_addTree at h
  obtain ⟨S, hK, hT, hW, hr, hlk⟩ := id hC
  have hx := S.1
  have hb := S.2.1
  refine lv_sipush (v := 255) hx hb d_Md_addTree_0 (by decide) ?_
  refine lv_istore_n (lv' := [(1, .int (255 : Int32)), (0, .ref (mAd X i0))]) hx hb d_Md_addTree_3 rfl hl (by decide) rfl (fun ls hl => ?_)
  refine lv_iconst (v := 0) hx hb d_Md_addTree_4 rfl ?_
  refine lv_istore_n (lv' := [(2, .int (0 : Int32)), (1, .int (255 : Int32)), (0, .ref (mAd X i0))]) hx hb d_Md_addTree_5 rfl hl (by decide) rfl (fun ls hl => ?_)
  refine lv_iconst (v := 0) hx hb d_Md_addTree_6 rfl ?_
  refine lv_istore_n (lv' := [(3, .int (0 : Int32)), (2, .int (0 : Int32)), (1, .int (255 : Int32)), (0, .ref (mAd X i0))]) hx hb d_Md_addTree_7 rfl hl (by decide) rfl (fun ls hl => ?_)
  exact tf_Md_addTree_8 hC  mFU _ _ _ _ _ _ _ _ o0 hI (lv_sub hl [3, 2, 1, 0] rfl) h
end
