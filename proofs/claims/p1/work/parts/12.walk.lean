theorem d_Md_next_0 : decode cc_Md_next 0 = .ok (.aload_n 0, 1) := by decide +kernel
theorem d_Md_next_1 : decode cc_Md_next 1 = .ok (.getfield 99, 3) := by decide +kernel
theorem d_Md_next_4 : decode cc_Md_next 4 = .ok (.iload_n 1, 1) := by decide +kernel
theorem d_Md_next_5 : decode cc_Md_next 5 = .ok (.if_icmp .lt (10), 3) := by decide +kernel
theorem d_Md_next_8 : decode cc_Md_next 8 = .ok (.aload_n 0, 1) := by decide +kernel
theorem d_Md_next_9 : decode cc_Md_next 9 = .ok (.iconst 1, 1) := by decide +kernel
theorem d_Md_next_10 : decode cc_Md_next 10 = .ok (.putfield 102, 3) := by decide +kernel
theorem d_Md_next_13 : decode cc_Md_next 13 = .ok (.iconst 0, 1) := by decide +kernel
theorem d_Md_next_14 : decode cc_Md_next 14 = .ok (.ireturn, 1) := by decide +kernel
theorem d_Md_next_15 : decode cc_Md_next 15 = .ok (.aload_n 0, 1) := by decide +kernel
theorem d_Md_next_16 : decode cc_Md_next 16 = .ok (.dup, 1) := by decide +kernel
theorem d_Md_next_17 : decode cc_Md_next 17 = .ok (.getfield 99, 3) := by decide +kernel
theorem d_Md_next_20 : decode cc_Md_next 20 = .ok (.iconst 1, 1) := by decide +kernel
theorem d_Md_next_21 : decode cc_Md_next 21 = .ok (.iadd, 1) := by decide +kernel
theorem d_Md_next_22 : decode cc_Md_next 22 = .ok (.putfield 99, 3) := by decide +kernel
theorem d_Md_next_25 : decode cc_Md_next 25 = .ok (.aload_n 0, 1) := by decide +kernel
theorem d_Md_next_26 : decode cc_Md_next 26 = .ok (.getfield 13, 3) := by decide +kernel
theorem d_Md_next_29 : decode cc_Md_next 29 = .ok (.aload_n 0, 1) := by decide +kernel
theorem d_Md_next_30 : decode cc_Md_next 30 = .ok (.getfield 99, 3) := by decide +kernel
theorem d_Md_next_33 : decode cc_Md_next 33 = .ok (.iconst 1, 1) := by decide +kernel
theorem d_Md_next_34 : decode cc_Md_next 34 = .ok (.isub, 1) := by decide +kernel
theorem d_Md_next_35 : decode cc_Md_next 35 = .ok (.iaload, 1) := by decide +kernel
theorem d_Md_next_36 : decode cc_Md_next 36 = .ok (.ireturn, 1) := by decide +kernel
section
variable {p : Program} {l : Launch} {e : Env} {s : State} {m : MethodId} {args : Array Value} {below : List Frame} {meth : Method} {c : Code} {X : Xs} {L : La}
def f_Md_next (L : La) (i0 : Nat) (x1 : Int32) (F : Mem) : Option (Int32 × Mem) :=
  if (F i0 4) < x1 then
    lt' (u2 F i0 4 ((F i0 4) + (1 : Int32))) fun F1 =>
    if inb ((F1 i0 4) - (1 : Int32)) (mGl L (mRf L i0 2)) then none else
    some (mGa L F1 (mRf L i0 2) ((F1 i0 4) - (1 : Int32)).toNatClampNeg, F1)
  else
    if ¬ ((1 : Int32) = 0 ∨ (1 : Int32) = 1) then none else
    lt' (u2 F i0 5 (1 : Int32)) fun F5 =>
    some ((0 : Int32), F5)
set_option maxHeartbeats 4000000 in
theorem c_Md_next (l : Launch) {X : Xs} {L : La} (hW : WT L) {out : (Int32 × Mem)} {i0 : Nat} {x1 : Int32} {F : Mem} (o0 : oO L 12 i0) (h : f_Md_next L i0 x1 F = some out) : Met l y_Md_next w_Md_next r_Md_next (va_Pc [.ref (mAd X i0), .int x1] (Pr X L F)) (QI X L out) 0 0 (AA X L) := by
  refine mk_met (by decide) rfl (Nat.le_of_ble_eq_true rfl) hW ?_
  intro p e s m args below meth c ls hC hI hl
  have hl : lv_has ls 2 [(0, .ref (mAd X i0)), (1, .int x1)] := hl
  generalize hHe : s.heap = H at hI ⊢
  generalize ([] : List Loc) = locs at hI ⊢
  unfold f_Md_next at h
  obtain ⟨S, hK, hT, hW, hr, hlk⟩ := id hC
  have hx := S.1
  have hb := S.2.1
  refine lv_aload_n hx hb d_Md_next_0 rfl (lv_at hl 0 rfl) ?_
  refine w_getI (T := T_Md) S hK hI o0 rfl hin_Md 4 (index := 99) (by decide) lf_Md_99 d_Md_next_1 ?_
  refine lv_iload_n hx hb d_Md_next_4 rfl (lv_at hl 1 rfl) ?_
  refine lv_icmp_lt (tgt := 15) hx hb d_Md_next_5 rfl (fun hc => ?_) (fun hc => ?_)
  · replace h := (if_pos hc).symm.trans h
    refine lv_aload_n hx hb d_Md_next_15 rfl (lv_at hl 0 rfl) ?_
    refine lv_dup hx hb d_Md_next_16 rfl ?_
    refine w_getI (T := T_Md) S hK hI o0 rfl hin_Md 4 (index := 99) (by decide) lf_Md_99 d_Md_next_17 ?_
    refine lv_iconst (v := 1) hx hb d_Md_next_20 rfl ?_
    refine lv_iadd hx hb d_Md_next_21 ?_
    refine w_putI (T := T_Md) S hK hI o0 rfl hin_Md ty_Md tk_Md nm_Md 4 (index := 99) (by decide) lf_Md_99 rfl d_Md_next_22 (fun H locs F1 e2 hI => ?_)
    replace h := un_lt h _ e2
    refine lv_aload_n hx hb d_Md_next_25 rfl (lv_at hl 0 rfl) ?_
    have p3 := wt_a hW o0 2 rfl (by decide) (by decide)
    refine w_getR (T := T_Md) S hK hI o0 rfl hin_Md 2 (index := 13) (by decide) lf_Md_13 d_Md_next_26 ?_
    refine lv_aload_n hx hb d_Md_next_29 rfl (lv_at hl 0 rfl) ?_
    refine w_getI (T := T_Md) S hK hI o0 rfl hin_Md 4 (index := 99) (by decide) lf_Md_99 d_Md_next_30 ?_
    refine lv_iconst (v := 1) hx hb d_Md_next_33 rfl ?_
    refine lv_isub hx hb d_Md_next_34 ?_
    obtain ⟨z4, h⟩ := un_if h
    refine w_iald S hK hI hT p3 z4 d_Md_next_35 ?_
    exact w_iret S hK hr hlk hI d_Md_next_36 h
  · replace h := (if_neg hc).symm.trans h
    refine lv_aload_n hx hb d_Md_next_8 rfl (lv_at hl 0 rfl) ?_
    refine lv_iconst (v := 1) hx hb d_Md_next_9 rfl ?_
    obtain ⟨z7, h⟩ := un_if h
    refine w_putZ (T := T_Md) S hK hI o0 rfl hin_Md ty_Md tk_Md nm_Md 5 (index := 102) (by decide) lf_Md_102 rfl z7 d_Md_next_10 (fun H locs F5 e6 hI => ?_)
    replace h := un_lt h _ e6
    refine lv_iconst (v := 0) hx hb d_Md_next_13 rfl ?_
    exact w_iret S hK hr hlk hI d_Md_next_14 h
end
theorem d_Md_emit_0 : decode cc_Md_emit 0 = .ok (.aload_n 0, 1) := by decide +kernel
theorem d_Md_emit_1 : decode cc_Md_emit 1 = .ok (.getfield 106, 3) := by decide +kernel
theorem d_Md_emit_4 : decode cc_Md_emit 4 = .ok (.bipush (120), 2) := by decide +kernel
theorem d_Md_emit_6 : decode cc_Md_emit 6 = .ok (.if_icmp .ge (19), 3) := by decide +kernel
theorem d_Md_emit_9 : decode cc_Md_emit 9 = .ok (.aload_n 0, 1) := by decide +kernel
theorem d_Md_emit_10 : decode cc_Md_emit 10 = .ok (.getfield 106, 3) := by decide +kernel
theorem d_Md_emit_13 : decode cc_Md_emit 13 = .ok (.aload_n 0, 1) := by decide +kernel
theorem d_Md_emit_14 : decode cc_Md_emit 14 = .ok (.getfield 109, 3) := by decide +kernel
theorem d_Md_emit_17 : decode cc_Md_emit 17 = .ok (.isub, 1) := by decide +kernel
theorem d_Md_emit_18 : decode cc_Md_emit 18 = .ok (.aload_n 0, 1) := by decide +kernel
theorem d_Md_emit_19 : decode cc_Md_emit 19 = .ok (.getfield 112, 3) := by decide +kernel
theorem d_Md_emit_22 : decode cc_Md_emit 22 = .ok (.if_icmp .lt (11), 3) := by decide +kernel
theorem d_Md_emit_25 : decode cc_Md_emit 25 = .ok (.aload_n 0, 1) := by decide +kernel
theorem d_Md_emit_26 : decode cc_Md_emit 26 = .ok (.iconst 1, 1) := by decide +kernel
theorem d_Md_emit_27 : decode cc_Md_emit 27 = .ok (.putfield 102, 3) := by decide +kernel
theorem d_Md_emit_30 : decode cc_Md_emit 30 = .ok (.goto (23), 3) := by decide +kernel
theorem d_Md_emit_33 : decode cc_Md_emit 33 = .ok (.aload_n 0, 1) := by decide +kernel
theorem d_Md_emit_34 : decode cc_Md_emit 34 = .ok (.getfield 16, 3) := by decide +kernel
theorem d_Md_emit_37 : decode cc_Md_emit 37 = .ok (.aload_n 0, 1) := by decide +kernel
theorem d_Md_emit_38 : decode cc_Md_emit 38 = .ok (.getfield 106, 3) := by decide +kernel
theorem d_Md_emit_41 : decode cc_Md_emit 41 = .ok (.iload_n 1, 1) := by decide +kernel
theorem d_Md_emit_42 : decode cc_Md_emit 42 = .ok (.iastore, 1) := by decide +kernel
theorem d_Md_emit_43 : decode cc_Md_emit 43 = .ok (.aload_n 0, 1) := by decide +kernel
theorem d_Md_emit_44 : decode cc_Md_emit 44 = .ok (.dup, 1) := by decide +kernel
theorem d_Md_emit_45 : decode cc_Md_emit 45 = .ok (.getfield 106, 3) := by decide +kernel
theorem d_Md_emit_48 : decode cc_Md_emit 48 = .ok (.iconst 1, 1) := by decide +kernel
theorem d_Md_emit_49 : decode cc_Md_emit 49 = .ok (.iadd, 1) := by decide +kernel
theorem d_Md_emit_50 : decode cc_Md_emit 50 = .ok (.putfield 106, 3) := by decide +kernel
theorem d_Md_emit_53 : decode cc_Md_emit 53 = .ok (.return_, 1) := by decide +kernel
section
variable {p : Program} {l : Launch} {e : Env} {s : State} {m : MethodId} {args : Array Value} {below : List Frame} {meth : Method} {c : Code} {X : Xs} {L : La}
def b_Md_emit_53 (L : La)   (F : Mem) : Option Mem :=
  some F
set_option maxHeartbeats 4000000 in
theorem t_Md_emit_53 (hC : Cx X L p s m args meth c cc_Md_emit 2 w_Md_emit R_Md none)  {out : Mem}   {F : Mem} {H : Heap} {locs : List Loc} {ls : Array Slot}  (hI : Iv X L s H locs F) (hl : lv_has ls 2 []) (h : b_Md_emit_53 L   F = some out) : W p l e (headSpec w_Md_emit r_Md_emit).room s m args below meth c H locs 0 0 (MQ below (QV X L out) args s 0 0 (AA X L)) (F0 m 53 ls []) := by
  unfold b_Md_emit_53 at h
  obtain ⟨S, hK, hT, hW, hr, hlk⟩ := id hC
  have hx := S.1
  have hb := S.2.1
  exact w_vret S hK hr hlk hI d_Md_emit_53 h
def b_Md_emit_25 (L : La)  (i0 : Nat) (F : Mem) : Option Mem :=
  if ¬ ((1 : Int32) = 0 ∨ (1 : Int32) = 1) then none else
  lt' (u2 F i0 5 (1 : Int32)) fun F1 =>
  b_Md_emit_53 L   F1
set_option maxHeartbeats 4000000 in
theorem t_Md_emit_25 (hC : Cx X L p s m args meth c cc_Md_emit 2 w_Md_emit R_Md none)  {out : Mem}  {i0 : Nat} {F : Mem} {H : Heap} {locs : List Loc} {ls : Array Slot} (o0 : oO L 12 i0) (hI : Iv X L s H locs F) (hl : lv_has ls 2 [(0, .ref (mAd X i0))]) (h : b_Md_emit_25 L  i0 F = some out) : W p l e (headSpec w_Md_emit r_Md_emit).room s m args below meth c H locs 0 0 (MQ below (QV X L out) args s 0 0 (AA X L)) (F0 m 25 ls []) := by
  unfold b_Md_emit_25 at h
  obtain ⟨S, hK, hT, hW, hr, hlk⟩ := id hC
  have hx := S.1
  have hb := S.2.1
  refine lv_aload_n hx hb d_Md_emit_25 rfl (lv_at hl 0 rfl) ?_
  refine lv_iconst (v := 1) hx hb d_Md_emit_26 rfl ?_
  obtain ⟨z3, h⟩ := un_if h
  refine w_putZ (T := T_Md) S hK hI o0 rfl hin_Md ty_Md tk_Md nm_Md 5 (index := 102) (by decide) lf_Md_102 rfl z3 d_Md_emit_27 (fun H locs F1 e2 hI => ?_)
  replace h := un_lt h _ e2
  refine lv_goto (tgt := 53) hx hb d_Md_emit_30 rfl ?_
  exact t_Md_emit_53 hC   hI (lv_sub hl [] rfl) h
def f_Md_emit (L : La) (i0 : Nat) (x1 : Int32) (F : Mem) : Option Mem :=
  if (120 : Int32) ≤ (F i0 6) then
    b_Md_emit_25 L  i0 F
  else
    if ((F i0 6) - (F i0 8)) < (F i0 9) then
      if inb (F i0 6) (mLn L (mRf L i0 7)) ∨ ¬ (mRf L i0 7) < mNc L then none else
      lt' (u2 F (mRf L i0 7) (F i0 6).toNatClampNeg x1) fun F3 =>
      lt' (u2 F3 i0 6 ((F3 i0 6) + (1 : Int32))) fun F5 =>
      b_Md_emit_53 L   F5
    else
      b_Md_emit_25 L  i0 F
set_option maxHeartbeats 4000000 in
theorem c_Md_emit (l : Launch) {X : Xs} {L : La} (hW : WT L) {out : Mem} {i0 : Nat} {x1 : Int32} {F : Mem} (o0 : oO L 12 i0) (h : f_Md_emit L i0 x1 F = some out) : Met l y_Md_emit w_Md_emit r_Md_emit (va_Pc [.ref (mAd X i0), .int x1] (Pr X L F)) (QV X L out) 0 0 (AA X L) := by
  refine mk_met (by decide) rfl (Nat.le_of_ble_eq_true rfl) hW ?_
  intro p e s m args below meth c ls hC hI hl
  have hl : lv_has ls 2 [(0, .ref (mAd X i0)), (1, .int x1)] := hl
  generalize hHe : s.heap = H at hI ⊢
  generalize ([] : List Loc) = locs at hI ⊢
  unfold f_Md_emit at h
  obtain ⟨S, hK, hT, hW, hr, hlk⟩ := id hC
  have hx := S.1
  have hb := S.2.1
  refine lv_aload_n hx hb d_Md_emit_0 rfl (lv_at hl 0 rfl) ?_
  refine w_getI (T := T_Md) S hK hI o0 rfl hin_Md 6 (index := 106) (by decide) lf_Md_106 d_Md_emit_1 ?_
  refine lv_bipush (v := 120) hx hb d_Md_emit_4 (by decide) ?_
  refine lv_icmp_ge (tgt := 25) hx hb d_Md_emit_6 rfl (fun hc => ?_) (fun hc => ?_)
  · replace h := (if_pos hc).symm.trans h
    exact t_Md_emit_25 hC  o0 hI (lv_sub hl [0] rfl) h
  · replace h := (if_neg hc).symm.trans h
    refine lv_aload_n hx hb d_Md_emit_9 rfl (lv_at hl 0 rfl) ?_
    refine w_getI (T := T_Md) S hK hI o0 rfl hin_Md 6 (index := 106) (by decide) lf_Md_106 d_Md_emit_10 ?_
    refine lv_aload_n hx hb d_Md_emit_13 rfl (lv_at hl 0 rfl) ?_
    refine w_getI (T := T_Md) S hK hI o0 rfl hin_Md 8 (index := 109) (by decide) lf_Md_109 d_Md_emit_14 ?_
    refine lv_isub hx hb d_Md_emit_17 ?_
    refine lv_aload_n hx hb d_Md_emit_18 rfl (lv_at hl 0 rfl) ?_
    refine w_getI (T := T_Md) S hK hI o0 rfl hin_Md 9 (index := 112) (by decide) lf_Md_112 d_Md_emit_19 ?_
    refine lv_icmp_lt (tgt := 33) hx hb d_Md_emit_22 rfl (fun hc => ?_) (fun hc => ?_)
    · replace h := (if_pos hc).symm.trans h
      refine lv_aload_n hx hb d_Md_emit_33 rfl (lv_at hl 0 rfl) ?_
      have p1 := wt_a hW o0 7 rfl (by decide) (by decide)
      refine w_getR (T := T_Md) S hK hI o0 rfl hin_Md 7 (index := 16) (by decide) lf_Md_16 d_Md_emit_34 ?_
      refine lv_aload_n hx hb d_Md_emit_37 rfl (lv_at hl 0 rfl) ?_
      refine w_getI (T := T_Md) S hK hI o0 rfl hin_Md 6 (index := 106) (by decide) lf_Md_106 d_Md_emit_38 ?_
      refine lv_iload_n hx hb d_Md_emit_41 rfl (lv_at hl 1 rfl) ?_
      obtain ⟨z2, h⟩ := un_if h
      refine w_iast S hK hI p1 z2 d_Md_emit_42 (fun H locs F3 e4 hI => ?_)
      replace h := un_lt h _ e4
      refine lv_aload_n hx hb d_Md_emit_43 rfl (lv_at hl 0 rfl) ?_
      refine lv_dup hx hb d_Md_emit_44 rfl ?_
      refine w_getI (T := T_Md) S hK hI o0 rfl hin_Md 6 (index := 106) (by decide) lf_Md_106 d_Md_emit_45 ?_
      refine lv_iconst (v := 1) hx hb d_Md_emit_48 rfl ?_
      refine lv_iadd hx hb d_Md_emit_49 ?_
      refine w_putI (T := T_Md) S hK hI o0 rfl hin_Md ty_Md tk_Md nm_Md 6 (index := 106) (by decide) lf_Md_106 rfl d_Md_emit_50 (fun H locs F5 e6 hI => ?_)
      replace h := un_lt h _ e6
      exact t_Md_emit_53 hC   hI (lv_sub hl [] rfl) h
    · replace h := (if_neg hc).symm.trans h
      exact t_Md_emit_25 hC  o0 hI (lv_sub hl [0] rfl) h
end
theorem d_Md_plant_0 : decode cc_Md_plant 0 = .ok (.aload_n 0, 1) := by decide +kernel
theorem d_Md_plant_1 : decode cc_Md_plant 1 = .ok (.iconst 1, 1) := by decide +kernel
theorem d_Md_plant_2 : decode cc_Md_plant 2 = .ok (.putfield 131, 3) := by decide +kernel
theorem d_Md_plant_5 : decode cc_Md_plant 5 = .ok (.iconst 0, 1) := by decide +kernel
theorem d_Md_plant_6 : decode cc_Md_plant 6 = .ok (.istore_n 1, 1) := by decide +kernel
theorem d_Md_plant_7 : decode cc_Md_plant 7 = .ok (.iconst 1, 1) := by decide +kernel
theorem d_Md_plant_8 : decode cc_Md_plant 8 = .ok (.istore_n 2, 1) := by decide +kernel
theorem d_Md_plant_9 : decode cc_Md_plant 9 = .ok (.iload_n 2, 1) := by decide +kernel
theorem d_Md_plant_10 : decode cc_Md_plant 10 = .ok (.bipush (8), 2) := by decide +kernel
theorem d_Md_plant_12 : decode cc_Md_plant 12 = .ok (.if_icmp .ge (64), 3) := by decide +kernel
theorem d_Md_plant_15 : decode cc_Md_plant 15 = .ok (.iconst 0, 1) := by decide +kernel
theorem d_Md_plant_16 : decode cc_Md_plant 16 = .ok (.istore_n 3, 1) := by decide +kernel
theorem d_Md_plant_17 : decode cc_Md_plant 17 = .ok (.iload_n 3, 1) := by decide +kernel
theorem d_Md_plant_18 : decode cc_Md_plant 18 = .ok (.aload_n 0, 1) := by decide +kernel
theorem d_Md_plant_19 : decode cc_Md_plant 19 = .ok (.getfield 172, 3) := by decide +kernel
theorem d_Md_plant_22 : decode cc_Md_plant 22 = .ok (.if_icmp .gt (48), 3) := by decide +kernel
theorem d_Md_plant_25 : decode cc_Md_plant 25 = .ok (.iconst 0, 1) := by decide +kernel
theorem d_Md_plant_26 : decode cc_Md_plant 26 = .ok (.istore 4, 2) := by decide +kernel
theorem d_Md_plant_28 : decode cc_Md_plant 28 = .ok (.iload 4, 2) := by decide +kernel
theorem d_Md_plant_30 : decode cc_Md_plant 30 = .ok (.iconst 1, 1) := by decide +kernel
theorem d_Md_plant_31 : decode cc_Md_plant 31 = .ok (.iload_n 2, 1) := by decide +kernel
theorem d_Md_plant_32 : decode cc_Md_plant 32 = .ok (.iconst 1, 1) := by decide +kernel
theorem d_Md_plant_33 : decode cc_Md_plant 33 = .ok (.isub, 1) := by decide +kernel
theorem d_Md_plant_34 : decode cc_Md_plant 34 = .ok (.ishl, 1) := by decide +kernel
theorem d_Md_plant_35 : decode cc_Md_plant 35 = .ok (.if_icmp .ge (29), 3) := by decide +kernel
theorem d_Md_plant_38 : decode cc_Md_plant 38 = .ok (.aload_n 0, 1) := by decide +kernel
theorem d_Md_plant_39 : decode cc_Md_plant 39 = .ok (.getfield 25, 3) := by decide +kernel
theorem d_Md_plant_42 : decode cc_Md_plant 42 = .ok (.iload_n 3, 1) := by decide +kernel
theorem d_Md_plant_43 : decode cc_Md_plant 43 = .ok (.iaload, 1) := by decide +kernel
theorem d_Md_plant_44 : decode cc_Md_plant 44 = .ok (.iload_n 2, 1) := by decide +kernel
theorem d_Md_plant_45 : decode cc_Md_plant 45 = .ok (.if_icmp .ne (19), 3) := by decide +kernel
theorem d_Md_plant_48 : decode cc_Md_plant 48 = .ok (.aload_n 0, 1) := by decide +kernel
theorem d_Md_plant_49 : decode cc_Md_plant 49 = .ok (.getfield 28, 3) := by decide +kernel
theorem d_Md_plant_52 : decode cc_Md_plant 52 = .ok (.iload_n 1, 1) := by decide +kernel
theorem d_Md_plant_53 : decode cc_Md_plant 53 = .ok (.iload_n 3, 1) := by decide +kernel
theorem d_Md_plant_54 : decode cc_Md_plant 54 = .ok (.iastore, 1) := by decide +kernel
theorem d_Md_plant_55 : decode cc_Md_plant 55 = .ok (.iinc 1 (1), 3) := by decide +kernel
theorem d_Md_plant_58 : decode cc_Md_plant 58 = .ok (.iinc 4 (1), 3) := by decide +kernel
theorem d_Md_plant_61 : decode cc_Md_plant 61 = .ok (.goto (-33), 3) := by decide +kernel
theorem d_Md_plant_64 : decode cc_Md_plant 64 = .ok (.iinc 3 (1), 3) := by decide +kernel
theorem d_Md_plant_67 : decode cc_Md_plant 67 = .ok (.goto (-50), 3) := by decide +kernel
theorem d_Md_plant_70 : decode cc_Md_plant 70 = .ok (.iinc 2 (1), 3) := by decide +kernel
theorem d_Md_plant_73 : decode cc_Md_plant 73 = .ok (.goto (-64), 3) := by decide +kernel
theorem d_Md_plant_76 : decode cc_Md_plant 76 = .ok (.return_, 1) := by decide +kernel
section
variable {p : Program} {l : Launch} {e : Env} {s : State} {m : MethodId} {args : Array Value} {below : List Frame} {meth : Method} {c : Code} {X : Xs} {L : La}
def b_Md_plant_64 (L : La) (k9 : Nat → Int32 → Int32 → Mem → Option Mem) (k17 : Nat → Int32 → Int32 → Int32 → Mem → Option Mem) (i0 : Nat) (x1 : Int32) (x2 : Int32) (x3 : Int32) (F : Mem) : Option Mem :=
  k17 i0 x1 x2 (x3 + (1 : Int32)) F
set_option maxHeartbeats 4000000 in
theorem t_Md_plant_64 (hC : Cx X L p s m args meth c cc_Md_plant 5 w_Md_plant R_Md none) {k9 : Nat → Int32 → Int32 → Mem → Option Mem} {k17 : Nat → Int32 → Int32 → Int32 → Mem → Option Mem} {out : Mem} (hk9 : ∀ (i0 : Nat) (x1 : Int32) (x2 : Int32) (F : Mem) (H : Heap) (locs : List Loc) (ls : Array Slot), oO L 12 i0 → Iv X L s H locs F → lv_has ls 5 [(0, .ref (mAd X i0)), (1, .int x1), (2, .int x2)] → k9 i0 x1 x2 F = some out → W p l e (headSpec w_Md_plant r_Md_plant).room s m args below meth c H locs 0 0 (MQ below (QV X L out) args s 0 0 (AA X L)) (F0 m 9 ls [])) (hk17 : ∀ (i0 : Nat) (x1 : Int32) (x2 : Int32) (x3 : Int32) (F : Mem) (H : Heap) (locs : List Loc) (ls : Array Slot), oO L 12 i0 → Iv X L s H locs F → lv_has ls 5 [(0, .ref (mAd X i0)), (1, .int x1), (2, .int x2), (3, .int x3)] → k17 i0 x1 x2 x3 F = some out → W p l e (headSpec w_Md_plant r_Md_plant).room s m args below meth c H locs 0 0 (MQ below (QV X L out) args s 0 0 (AA X L)) (F0 m 17 ls [])) {i0 : Nat} {x1 : Int32} {x2 : Int32} {x3 : Int32} {F : Mem} {H : Heap} {locs : List Loc} {ls : Array Slot} (o0 : oO L 12 i0) (hI : Iv X L s H locs F) (hl : lv_has ls 5 [(0, .ref (mAd X i0)), (1, .int x1), (2, .int x2), (3, .int x3)]) (h : b_Md_plant_64 L k9 k17 i0 x1 x2 x3 F = some out) : W p l e (headSpec w_Md_plant r_Md_plant).room s m args below meth c H locs 0 0 (MQ below (QV X L out) args s 0 0 (AA X L)) (F0 m 64 ls []) := by
  unfold b_Md_plant_64 at h
  obtain ⟨S, hK, hT, hW, hr, hlk⟩ := id hC
  have hx := S.1
  have hb := S.2.1
  refine lv_iinc (k := 3) (v := x3 + (1 : Int32)) (lv' := [(3, .int (x3 + (1 : Int32))), (0, .ref (mAd X i0)), (1, .int x1), (2, .int x2)]) hx hb d_Md_plant_64 hl rfl rfl (by decide) rfl (fun ls hl => ?_)
  refine lv_goto (tgt := 17) hx hb d_Md_plant_67 rfl ?_
  exact hk17 _ _ _ _ _ _ _ _ o0 hI (lv_sub hl [1, 2, 3, 0] rfl) h
def b_Md_plant_28 (L : La) (k9 : Nat → Int32 → Int32 → Mem → Option Mem) (k17 : Nat → Int32 → Int32 → Int32 → Mem → Option Mem) (k28 : Nat → Int32 → Int32 → Int32 → Int32 → Mem → Option Mem) (i0 : Nat) (x1 : Int32) (x2 : Int32) (x3 : Int32) (x4 : Int32) (F : Mem) : Option Mem :=
  if (jshl (1 : Int32) (x2 - (1 : Int32))) ≤ x4 then
    b_Md_plant_64 L k9 k17 i0 x1 x2 x3 F
  else
    if inb x3 (mGl L (mRf L i0 19)) then none else
    if (mGa L F (mRf L i0 19) x3.toNatClampNeg) = x2 then
      if inb x1 (mLn L (mRf L i0 20)) ∨ ¬ (mRf L i0 20) < mNc L then none else
      lt' (u2 F (mRf L i0 20) x1.toNatClampNeg x3) fun F5 =>
      k28 i0 (x1 + (1 : Int32)) x2 x3 (x4 + (1 : Int32)) F5
    else
      b_Md_plant_64 L k9 k17 i0 x1 x2 x3 F
set_option maxHeartbeats 4000000 in
theorem t_Md_plant_28 (hC : Cx X L p s m args meth c cc_Md_plant 5 w_Md_plant R_Md none) {k9 : Nat → Int32 → Int32 → Mem → Option Mem} {k17 : Nat → Int32 → Int32 → Int32 → Mem → Option Mem} {k28 : Nat → Int32 → Int32 → Int32 → Int32 → Mem → Option Mem} {out : Mem} (hk9 : ∀ (i0 : Nat) (x1 : Int32) (x2 : Int32) (F : Mem) (H : Heap) (locs : List Loc) (ls : Array Slot), oO L 12 i0 → Iv X L s H locs F → lv_has ls 5 [(0, .ref (mAd X i0)), (1, .int x1), (2, .int x2)] → k9 i0 x1 x2 F = some out → W p l e (headSpec w_Md_plant r_Md_plant).room s m args below meth c H locs 0 0 (MQ below (QV X L out) args s 0 0 (AA X L)) (F0 m 9 ls [])) (hk17 : ∀ (i0 : Nat) (x1 : Int32) (x2 : Int32) (x3 : Int32) (F : Mem) (H : Heap) (locs : List Loc) (ls : Array Slot), oO L 12 i0 → Iv X L s H locs F → lv_has ls 5 [(0, .ref (mAd X i0)), (1, .int x1), (2, .int x2), (3, .int x3)] → k17 i0 x1 x2 x3 F = some out → W p l e (headSpec w_Md_plant r_Md_plant).room s m args below meth c H locs 0 0 (MQ below (QV X L out) args s 0 0 (AA X L)) (F0 m 17 ls [])) (hk28 : ∀ (i0 : Nat) (x1 : Int32) (x2 : Int32) (x3 : Int32) (x4 : Int32) (F : Mem) (H : Heap) (locs : List Loc) (ls : Array Slot), oO L 12 i0 → Iv X L s H locs F → lv_has ls 5 [(0, .ref (mAd X i0)), (1, .int x1), (2, .int x2), (3, .int x3), (4, .int x4)] → k28 i0 x1 x2 x3 x4 F = some out → W p l e (headSpec w_Md_plant r_Md_plant).room s m args below meth c H locs 0 0 (MQ below (QV X L out) args s 0 0 (AA X L)) (F0 m 28 ls [])) {i0 : Nat} {x1 : Int32} {x2 : Int32} {x3 : Int32} {x4 : Int32} {F : Mem} {H : Heap} {locs : List Loc} {ls : Array Slot} (o0 : oO L 12 i0) (hI : Iv X L s H locs F) (hl : lv_has ls 5 [(0, .ref (mAd X i0)), (1, .int x1), (2, .int x2), (3, .int x3), (4, .int x4)]) (h : b_Md_plant_28 L k9 k17 k28 i0 x1 x2 x3 x4 F = some out) : W p l e (headSpec w_Md_plant r_Md_plant).room s m args below meth c H locs 0 0 (MQ below (QV X L out) args s 0 0 (AA X L)) (F0 m 28 ls []) := by
  unfold b_Md_plant_28 at h
  obtain ⟨S, hK, hT, hW, hr, hlk⟩ := id hC
  have hx := S.1
  have hb := S.2.1
  refine lv_iload hx hb d_Md_plant_28 (lv_at hl 4 rfl) ?_
  refine lv_iconst (v := 1) hx hb d_Md_plant_30 rfl ?_
  refine lv_iload_n hx hb d_Md_plant_31 rfl (lv_at hl 2 rfl) ?_
  refine lv_iconst (v := 1) hx hb d_Md_plant_32 rfl ?_
  refine lv_isub hx hb d_Md_plant_33 ?_
  refine lv_ishl hx hb d_Md_plant_34 ?_
  refine lv_icmp_ge (tgt := 64) hx hb d_Md_plant_35 rfl (fun hc => ?_) (fun hc => ?_)
  · replace h := (if_pos hc).symm.trans h
    exact t_Md_plant_64 hC hk9 hk17 o0 hI (lv_sub hl [0, 1, 2, 3] rfl) h
  · replace h := (if_neg hc).symm.trans h
    refine lv_aload_n hx hb d_Md_plant_38 rfl (lv_at hl 0 rfl) ?_
    have p1 := wt_a hW o0 19 rfl (by decide) (by decide)
    refine w_getR (T := T_Md) S hK hI o0 rfl hin_Md 19 (index := 25) (by decide) lf_Md_25 d_Md_plant_39 ?_
    refine lv_iload_n hx hb d_Md_plant_42 rfl (lv_at hl 3 rfl) ?_
    obtain ⟨z2, h⟩ := un_if h
    refine w_iald S hK hI hT p1 z2 d_Md_plant_43 ?_
    refine lv_iload_n hx hb d_Md_plant_44 rfl (lv_at hl 2 rfl) ?_
    refine lv_icmp_ne (tgt := 64) hx hb d_Md_plant_45 rfl (fun hc => ?_) (fun hc => ?_)
    · replace h := (if_neg hc).symm.trans h
      exact t_Md_plant_64 hC hk9 hk17 o0 hI (lv_sub hl [0, 1, 2, 3] rfl) h
    · replace h := (if_pos hc).symm.trans h
      refine lv_aload_n hx hb d_Md_plant_48 rfl (lv_at hl 0 rfl) ?_
      have p3 := wt_a hW o0 20 rfl (by decide) (by decide)
      refine w_getR (T := T_Md) S hK hI o0 rfl hin_Md 20 (index := 28) (by decide) lf_Md_28 d_Md_plant_49 ?_
      refine lv_iload_n hx hb d_Md_plant_52 rfl (lv_at hl 1 rfl) ?_
      refine lv_iload_n hx hb d_Md_plant_53 rfl (lv_at hl 3 rfl) ?_
      obtain ⟨z4, h⟩ := un_if h
      refine w_iast S hK hI p3 z4 d_Md_plant_54 (fun H locs F5 e6 hI => ?_)
      replace h := un_lt h _ e6
      refine lv_iinc (k := 1) (v := x1 + (1 : Int32)) (lv' := [(1, .int (x1 + (1 : Int32))), (0, .ref (mAd X i0)), (2, .int x2), (3, .int x3), (4, .int x4)]) hx hb d_Md_plant_55 hl rfl rfl (by decide) rfl (fun ls hl => ?_)
      refine lv_iinc (k := 4) (v := x4 + (1 : Int32)) (lv' := [(4, .int (x4 + (1 : Int32))), (1, .int (x1 + (1 : Int32))), (0, .ref (mAd X i0)), (2, .int x2), (3, .int x3)]) hx hb d_Md_plant_58 hl rfl rfl (by decide) rfl (fun ls hl => ?_)
      refine lv_goto (tgt := 28) hx hb d_Md_plant_61 rfl ?_
      exact hk28 _ _ _ _ _ _ _ _ _ o0 hI (lv_sub hl [2, 1, 3, 4, 0] rfl) h
def f_Md_plant_28 (L : La) (k9 : Nat → Int32 → Int32 → Mem → Option Mem) (k17 : Nat → Int32 → Int32 → Int32 → Mem → Option Mem) : Nat → Nat → Int32 → Int32 → Int32 → Int32 → Mem → Option Mem
  | 0 => fun _ _ _ _ _ _ => none
  | n + 1 => b_Md_plant_28 L k9 k17 (f_Md_plant_28 L k9 k17 n)
theorem tf_Md_plant_28 (hC : Cx X L p s m args meth c cc_Md_plant 5 w_Md_plant R_Md none) {k9 : Nat → Int32 → Int32 → Mem → Option Mem} {k17 : Nat → Int32 → Int32 → Int32 → Mem → Option Mem} {out : Mem} (hk9 : ∀ (i0 : Nat) (x1 : Int32) (x2 : Int32) (F : Mem) (H : Heap) (locs : List Loc) (ls : Array Slot), oO L 12 i0 → Iv X L s H locs F → lv_has ls 5 [(0, .ref (mAd X i0)), (1, .int x1), (2, .int x2)] → k9 i0 x1 x2 F = some out → W p l e (headSpec w_Md_plant r_Md_plant).room s m args below meth c H locs 0 0 (MQ below (QV X L out) args s 0 0 (AA X L)) (F0 m 9 ls [])) (hk17 : ∀ (i0 : Nat) (x1 : Int32) (x2 : Int32) (x3 : Int32) (F : Mem) (H : Heap) (locs : List Loc) (ls : Array Slot), oO L 12 i0 → Iv X L s H locs F → lv_has ls 5 [(0, .ref (mAd X i0)), (1, .int x1), (2, .int x2), (3, .int x3)] → k17 i0 x1 x2 x3 F = some out → W p l e (headSpec w_Md_plant r_Md_plant).room s m args below meth c H locs 0 0 (MQ below (QV X L out) args s 0 0 (AA X L)) (F0 m 17 ls [])) (n : Nat) : ∀ (i0 : Nat) (x1 : Int32) (x2 : Int32) (x3 : Int32) (x4 : Int32) (F : Mem) (H : Heap) (locs : List Loc) (ls : Array Slot), oO L 12 i0 → Iv X L s H locs F → lv_has ls 5 [(0, .ref (mAd X i0)), (1, .int x1), (2, .int x2), (3, .int x3), (4, .int x4)] → f_Md_plant_28 L k9 k17 n i0 x1 x2 x3 x4 F = some out → W p l e (headSpec w_Md_plant r_Md_plant).room s m args below meth c H locs 0 0 (MQ below (QV X L out) args s 0 0 (AA X L)) (F0 m 28 ls []) := by
  induction n with
  | zero => intro i0 x1 x2 x3 x4 F H locs ls o0 hI hl h; cases h
  | succ n ih => intro i0 x1 x2 x3 x4 F H locs ls o0 hI hl h; exact t_Md_plant_28 hC hk9 hk17 ih o0 hI hl h
def b_Md_plant_17 (L : La) (k9 : Nat → Int32 → Int32 → Mem → Option Mem) (k17 : Nat → Int32 → Int32 → Int32 → Mem → Option Mem) (i0 : Nat) (x1 : Int32) (x2 : Int32) (x3 : Int32) (F : Mem) : Option Mem :=
  if (F i0 17) < x3 then
    k9 i0 x1 (x2 + (1 : Int32)) F
  else
    f_Md_plant_28 L k9 k17 mFU i0 x1 x2 x3 (0 : Int32) F
set_option maxHeartbeats 4000000 in
theorem t_Md_plant_17 (hC : Cx X L p s m args meth c cc_Md_plant 5 w_Md_plant R_Md none) {k9 : Nat → Int32 → Int32 → Mem → Option Mem} {k17 : Nat → Int32 → Int32 → Int32 → Mem → Option Mem} {out : Mem} (hk9 : ∀ (i0 : Nat) (x1 : Int32) (x2 : Int32) (F : Mem) (H : Heap) (locs : List Loc) (ls : Array Slot), oO L 12 i0 → Iv X L s H locs F → lv_has ls 5 [(0, .ref (mAd X i0)), (1, .int x1), (2, .int x2)] → k9 i0 x1 x2 F = some out → W p l e (headSpec w_Md_plant r_Md_plant).room s m args below meth c H locs 0 0 (MQ below (QV X L out) args s 0 0 (AA X L)) (F0 m 9 ls [])) (hk17 : ∀ (i0 : Nat) (x1 : Int32) (x2 : Int32) (x3 : Int32) (F : Mem) (H : Heap) (locs : List Loc) (ls : Array Slot), oO L 12 i0 → Iv X L s H locs F → lv_has ls 5 [(0, .ref (mAd X i0)), (1, .int x1), (2, .int x2), (3, .int x3)] → k17 i0 x1 x2 x3 F = some out → W p l e (headSpec w_Md_plant r_Md_plant).room s m args below meth c H locs 0 0 (MQ below (QV X L out) args s 0 0 (AA X L)) (F0 m 17 ls [])) {i0 : Nat} {x1 : Int32} {x2 : Int32} {x3 : Int32} {F : Mem} {H : Heap} {locs : List Loc} {ls : Array Slot} (o0 : oO L 12 i0) (hI : Iv X L s H locs F) (hl : lv_has ls 5 [(0, .ref (mAd X i0)), (1, .int x1), (2, .int x2), (3, .int x3)]) (h : b_Md_plant_17 L k9 k17 i0 x1 x2 x3 F = some out) : W p l e (headSpec w_Md_plant r_Md_plant).room s m args below meth c H locs 0 0 (MQ below (QV X L out) args s 0 0 (AA X L)) (F0 m 17 ls []) := by
  unfold b_Md_plant_17 at h
  obtain ⟨S, hK, hT, hW, hr, hlk⟩ := id hC
  have hx := S.1
  have hb := S.2.1
  refine lv_iload_n hx hb d_Md_plant_17 rfl (lv_at hl 3 rfl) ?_
  refine lv_aload_n hx hb d_Md_plant_18 rfl (lv_at hl 0 rfl) ?_
  refine w_getI (T := T_Md) S hK hI o0 rfl hin_Md 17 (index := 172) (by decide) lf_Md_172 d_Md_plant_19 ?_
  refine lv_icmp_gt (tgt := 70) hx hb d_Md_plant_22 rfl (fun hc => ?_) (fun hc => ?_)
  · replace h := (if_pos hc).symm.trans h
    refine lv_iinc (k := 2) (v := x2 + (1 : Int32)) (lv' := [(2, .int (x2 + (1 : Int32))), (0, .ref (mAd X i0)), (1, .int x1), (3, .int x3)]) hx hb d_Md_plant_70 hl rfl rfl (by decide) rfl (fun ls hl => ?_)
    refine lv_goto (tgt := 9) hx hb d_Md_plant_73 rfl ?_
    exact hk9 _ _ _ _ _ _ _ o0 hI (lv_sub hl [1, 2, 0] rfl) h
  · replace h := (if_neg hc).symm.trans h
    refine lv_iconst (v := 0) hx hb d_Md_plant_25 rfl ?_
    refine lv_istore (lv' := [(4, .int (0 : Int32)), (0, .ref (mAd X i0)), (1, .int x1), (2, .int x2), (3, .int x3)]) hx hb d_Md_plant_26 hl (by decide) rfl (fun ls hl => ?_)
    exact tf_Md_plant_28 hC hk9 hk17 mFU _ _ _ _ _ _ _ _ _ o0 hI (lv_sub hl [1, 2, 3, 4, 0] rfl) h
def f_Md_plant_17 (L : La) (k9 : Nat → Int32 → Int32 → Mem → Option Mem) : Nat → Nat → Int32 → Int32 → Int32 → Mem → Option Mem
  | 0 => fun _ _ _ _ _ => none
  | n + 1 => b_Md_plant_17 L k9 (f_Md_plant_17 L k9 n)
theorem tf_Md_plant_17 (hC : Cx X L p s m args meth c cc_Md_plant 5 w_Md_plant R_Md none) {k9 : Nat → Int32 → Int32 → Mem → Option Mem} {out : Mem} (hk9 : ∀ (i0 : Nat) (x1 : Int32) (x2 : Int32) (F : Mem) (H : Heap) (locs : List Loc) (ls : Array Slot), oO L 12 i0 → Iv X L s H locs F → lv_has ls 5 [(0, .ref (mAd X i0)), (1, .int x1), (2, .int x2)] → k9 i0 x1 x2 F = some out → W p l e (headSpec w_Md_plant r_Md_plant).room s m args below meth c H locs 0 0 (MQ below (QV X L out) args s 0 0 (AA X L)) (F0 m 9 ls [])) (n : Nat) : ∀ (i0 : Nat) (x1 : Int32) (x2 : Int32) (x3 : Int32) (F : Mem) (H : Heap) (locs : List Loc) (ls : Array Slot), oO L 12 i0 → Iv X L s H locs F → lv_has ls 5 [(0, .ref (mAd X i0)), (1, .int x1), (2, .int x2), (3, .int x3)] → f_Md_plant_17 L k9 n i0 x1 x2 x3 F = some out → W p l e (headSpec w_Md_plant r_Md_plant).room s m args below meth c H locs 0 0 (MQ below (QV X L out) args s 0 0 (AA X L)) (F0 m 17 ls []) := by
  induction n with
  | zero => intro i0 x1 x2 x3 F H locs ls o0 hI hl h; cases h
  | succ n ih => intro i0 x1 x2 x3 F H locs ls o0 hI hl h; exact t_Md_plant_17 hC hk9 ih o0 hI hl h
def b_Md_plant_9 (L : La) (k9 : Nat → Int32 → Int32 → Mem → Option Mem) (i0 : Nat) (x1 : Int32) (x2 : Int32) (F : Mem) : Option Mem :=
  if (8 : Int32) ≤ x2 then
    some F
  else
    f_Md_plant_17 L k9 mFU i0 x1 x2 (0 : Int32) F
set_option maxHeartbeats 4000000 in
theorem t_Md_plant_9 (hC : Cx X L p s m args meth c cc_Md_plant 5 w_Md_plant R_Md none) {k9 : Nat → Int32 → Int32 → Mem → Option Mem} {out : Mem} (hk9 : ∀ (i0 : Nat) (x1 : Int32) (x2 : Int32) (F : Mem) (H : Heap) (locs : List Loc) (ls : Array Slot), oO L 12 i0 → Iv X L s H locs F → lv_has ls 5 [(0, .ref (mAd X i0)), (1, .int x1), (2, .int x2)] → k9 i0 x1 x2 F = some out → W p l e (headSpec w_Md_plant r_Md_plant).room s m args below meth c H locs 0 0 (MQ below (QV X L out) args s 0 0 (AA X L)) (F0 m 9 ls [])) {i0 : Nat} {x1 : Int32} {x2 : Int32} {F : Mem} {H : Heap} {locs : List Loc} {ls : Array Slot} (o0 : oO L 12 i0) (hI : Iv X L s H locs F) (hl : lv_has ls 5 [(0, .ref (mAd X i0)), (1, .int x1), (2, .int x2)]) (h : b_Md_plant_9 L k9 i0 x1 x2 F = some out) : W p l e (headSpec w_Md_plant r_Md_plant).room s m args below meth c H locs 0 0 (MQ below (QV X L out) args s 0 0 (AA X L)) (F0 m 9 ls []) := by
  unfold b_Md_plant_9 at h
  obtain ⟨S, hK, hT, hW, hr, hlk⟩ := id hC
  have hx := S.1
  have hb := S.2.1
  refine lv_iload_n hx hb d_Md_plant_9 rfl (lv_at hl 2 rfl) ?_
  refine lv_bipush (v := 8) hx hb d_Md_plant_10 (by decide) ?_
  refine lv_icmp_ge (tgt := 76) hx hb d_Md_plant_12 rfl (fun hc => ?_) (fun hc => ?_)
  · replace h := (if_pos hc).symm.trans h
    exact w_vret S hK hr hlk hI d_Md_plant_76 h
  · replace h := (if_neg hc).symm.trans h
    refine lv_iconst (v := 0) hx hb d_Md_plant_15 rfl ?_
    refine lv_istore_n (lv' := [(3, .int (0 : Int32)), (0, .ref (mAd X i0)), (1, .int x1), (2, .int x2)]) hx hb d_Md_plant_16 rfl hl (by decide) rfl (fun ls hl => ?_)
    exact tf_Md_plant_17 hC hk9 mFU _ _ _ _ _ _ _ _ o0 hI (lv_sub hl [1, 2, 3, 0] rfl) h
def f_Md_plant_9 (L : La)  : Nat → Nat → Int32 → Int32 → Mem → Option Mem
  | 0 => fun _ _ _ _ => none
  | n + 1 => b_Md_plant_9 L (f_Md_plant_9 L  n)
theorem tf_Md_plant_9 (hC : Cx X L p s m args meth c cc_Md_plant 5 w_Md_plant R_Md none)  {out : Mem}  (n : Nat) : ∀ (i0 : Nat) (x1 : Int32) (x2 : Int32) (F : Mem) (H : Heap) (locs : List Loc) (ls : Array Slot), oO L 12 i0 → Iv X L s H locs F → lv_has ls 5 [(0, .ref (mAd X i0)), (1, .int x1), (2, .int x2)] → f_Md_plant_9 L  n i0 x1 x2 F = some out → W p l e (headSpec w_Md_plant r_Md_plant).room s m args below meth c H locs 0 0 (MQ below (QV X L out) args s 0 0 (AA X L)) (F0 m 9 ls []) := by
  induction n with
  | zero => intro i0 x1 x2 F H locs ls o0 hI hl h; cases h
  | succ n ih => intro i0 x1 x2 F H locs ls o0 hI hl h; exact t_Md_plant_9 hC ih o0 hI hl h
def f_Md_plant (L : La) (i0 : Nat) (F : Mem) : Option Mem :=
  if ¬ ((1 : Int32) = 0 ∨ (1 : Int32) = 1) then none else
  lt' (u2 F i0 15 (1 : Int32)) fun F1 =>
  f_Md_plant_9 L  mFU i0 (0 : Int32) (1 : Int32) F1
set_option maxHeartbeats 4000000 in
theorem c_Md_plant (l : Launch) {X : Xs} {L : La} (hW : WT L) {out : Mem} {i0 : Nat} {F : Mem} (o0 : oO L 12 i0) (h : f_Md_plant L i0 F = some out) : Met l y_Md_plant w_Md_plant r_Md_plant (va_Pc [.ref (mAd X i0)] (Pr X L F)) (QV X L out) 0 0 (AA X L) := by
  refine mk_met (by decide) rfl (Nat.le_of_ble_eq_true rfl) hW ?_
  intro p e s m args below meth c ls hC hI hl
  have hl : lv_has ls 5 [(0, .ref (mAd X i0))] := hl
  generalize hHe : s.heap = H at hI ⊢
  generalize ([] : List Loc) = locs at hI ⊢
  unfold f_Md_plant at h
  obtain ⟨S, hK, hT, hW, hr, hlk⟩ := id hC
  have hx := S.1
  have hb := S.2.1
  refine lv_aload_n hx hb d_Md_plant_0 rfl (lv_at hl 0 rfl) ?_
  refine lv_iconst (v := 1) hx hb d_Md_plant_1 rfl ?_
  obtain ⟨z3, h⟩ := un_if h
  refine w_putZ (T := T_Md) S hK hI o0 rfl hin_Md ty_Md tk_Md nm_Md 15 (index := 131) (by decide) lf_Md_131 rfl z3 d_Md_plant_2 (fun H locs F1 e2 hI => ?_)
  replace h := un_lt h _ e2
  refine lv_iconst (v := 0) hx hb d_Md_plant_5 rfl ?_
  refine lv_istore_n (lv' := [(1, .int (0 : Int32)), (0, .ref (mAd X i0))]) hx hb d_Md_plant_6 rfl hl (by decide) rfl (fun ls hl => ?_)
  refine lv_iconst (v := 1) hx hb d_Md_plant_7 rfl ?_
  refine lv_istore_n (lv' := [(2, .int (1 : Int32)), (1, .int (0 : Int32)), (0, .ref (mAd X i0))]) hx hb d_Md_plant_8 rfl hl (by decide) rfl (fun ls hl => ?_)
  exact tf_Md_plant_9 hC  mFU _ _ _ _ _ _ _ o0 hI (lv_sub hl [2, 1, 0] rfl) h
end
theorem d_Md_readTree_0 : decode cc_Md_readTree 0 = .ok (.aload_n 0, 1) := by decide +kernel
theorem d_Md_readTree_1 : decode cc_Md_readTree 1 = .ok (.aload_n 0, 1) := by decide +kernel
theorem d_Md_readTree_2 : decode cc_Md_readTree 2 = .ok (.iload_n 1, 1) := by decide +kernel
theorem d_Md_readTree_3 : decode cc_Md_readTree 3 = .ok (.invokevirtual 125, 3) := by decide +kernel
theorem d_Md_readTree_6 : decode cc_Md_readTree 6 = .ok (.putfield 166, 3) := by decide +kernel
theorem d_Md_readTree_9 : decode cc_Md_readTree 9 = .ok (.aload_n 0, 1) := by decide +kernel
theorem d_Md_readTree_10 : decode cc_Md_readTree 10 = .ok (.aload_n 0, 1) := by decide +kernel
theorem d_Md_readTree_11 : decode cc_Md_readTree 11 = .ok (.iload_n 1, 1) := by decide +kernel
theorem d_Md_readTree_12 : decode cc_Md_readTree 12 = .ok (.invokevirtual 125, 3) := by decide +kernel
theorem d_Md_readTree_15 : decode cc_Md_readTree 15 = .ok (.putfield 172, 3) := by decide +kernel
theorem d_Md_readTree_18 : decode cc_Md_readTree 18 = .ok (.aload_n 0, 1) := by decide +kernel
theorem d_Md_readTree_19 : decode cc_Md_readTree 19 = .ok (.getfield 102, 3) := by decide +kernel
theorem d_Md_readTree_22 : decode cc_Md_readTree 22 = .ok (.ifCond .ne (35), 3) := by decide +kernel
theorem d_Md_readTree_25 : decode cc_Md_readTree 25 = .ok (.aload_n 0, 1) := by decide +kernel
theorem d_Md_readTree_26 : decode cc_Md_readTree 26 = .ok (.getfield 172, 3) := by decide +kernel
theorem d_Md_readTree_29 : decode cc_Md_readTree 29 = .ok (.iconst 1, 1) := by decide +kernel
theorem d_Md_readTree_30 : decode cc_Md_readTree 30 = .ok (.if_icmp .lt (27), 3) := by decide +kernel
theorem d_Md_readTree_33 : decode cc_Md_readTree 33 = .ok (.aload_n 0, 1) := by decide +kernel
theorem d_Md_readTree_34 : decode cc_Md_readTree 34 = .ok (.getfield 172, 3) := by decide +kernel
theorem d_Md_readTree_37 : decode cc_Md_readTree 37 = .ok (.bipush (16), 2) := by decide +kernel
theorem d_Md_readTree_39 : decode cc_Md_readTree 39 = .ok (.if_icmp .gt (18), 3) := by decide +kernel
theorem d_Md_readTree_42 : decode cc_Md_readTree 42 = .ok (.aload_n 0, 1) := by decide +kernel
theorem d_Md_readTree_43 : decode cc_Md_readTree 43 = .ok (.getfield 166, 3) := by decide +kernel
theorem d_Md_readTree_46 : decode cc_Md_readTree 46 = .ok (.aload_n 0, 1) := by decide +kernel
theorem d_Md_readTree_47 : decode cc_Md_readTree 47 = .ok (.getfield 172, 3) := by decide +kernel
theorem d_Md_readTree_50 : decode cc_Md_readTree 50 = .ok (.iadd, 1) := by decide +kernel
theorem d_Md_readTree_51 : decode cc_Md_readTree 51 = .ok (.sipush (255), 3) := by decide +kernel
theorem d_Md_readTree_54 : decode cc_Md_readTree 54 = .ok (.if_icmp .le (9), 3) := by decide +kernel
theorem d_Md_readTree_57 : decode cc_Md_readTree 57 = .ok (.aload_n 0, 1) := by decide +kernel
theorem d_Md_readTree_58 : decode cc_Md_readTree 58 = .ok (.iconst 1, 1) := by decide +kernel
theorem d_Md_readTree_59 : decode cc_Md_readTree 59 = .ok (.putfield 102, 3) := by decide +kernel
theorem d_Md_readTree_62 : decode cc_Md_readTree 62 = .ok (.return_, 1) := by decide +kernel
theorem d_Md_readTree_63 : decode cc_Md_readTree 63 = .ok (.iconst 0, 1) := by decide +kernel
theorem d_Md_readTree_64 : decode cc_Md_readTree 64 = .ok (.istore_n 2, 1) := by decide +kernel
theorem d_Md_readTree_65 : decode cc_Md_readTree 65 = .ok (.iconst 0, 1) := by decide +kernel
theorem d_Md_readTree_66 : decode cc_Md_readTree 66 = .ok (.istore_n 3, 1) := by decide +kernel
theorem d_Md_readTree_67 : decode cc_Md_readTree 67 = .ok (.iconst 0, 1) := by decide +kernel
theorem d_Md_readTree_68 : decode cc_Md_readTree 68 = .ok (.istore 4, 2) := by decide +kernel
theorem d_Md_readTree_70 : decode cc_Md_readTree 70 = .ok (.iload 4, 2) := by decide +kernel
theorem d_Md_readTree_72 : decode cc_Md_readTree 72 = .ok (.aload_n 0, 1) := by decide +kernel
theorem d_Md_readTree_73 : decode cc_Md_readTree 73 = .ok (.getfield 172, 3) := by decide +kernel
theorem d_Md_readTree_76 : decode cc_Md_readTree 76 = .ok (.if_icmp .ge (108), 3) := by decide +kernel
theorem d_Md_readTree_79 : decode cc_Md_readTree 79 = .ok (.iload 4, 2) := by decide +kernel
theorem d_Md_readTree_81 : decode cc_Md_readTree 81 = .ok (.iconst 2, 1) := by decide +kernel
theorem d_Md_readTree_82 : decode cc_Md_readTree 82 = .ok (.irem, 1) := by decide +kernel
theorem d_Md_readTree_83 : decode cc_Md_readTree 83 = .ok (.ifCond .ne (11), 3) := by decide +kernel
theorem d_Md_readTree_86 : decode cc_Md_readTree 86 = .ok (.aload_n 0, 1) := by decide +kernel
theorem d_Md_readTree_87 : decode cc_Md_readTree 87 = .ok (.iload_n 1, 1) := by decide +kernel
theorem d_Md_readTree_88 : decode cc_Md_readTree 88 = .ok (.invokevirtual 125, 3) := by decide +kernel
theorem d_Md_readTree_91 : decode cc_Md_readTree 91 = .ok (.goto (4), 3) := by decide +kernel
theorem d_Md_readTree_94 : decode cc_Md_readTree 94 = .ok (.iload_n 3, 1) := by decide +kernel
theorem d_Md_readTree_95 : decode cc_Md_readTree 95 = .ok (.istore_n 3, 1) := by decide +kernel
theorem d_Md_readTree_96 : decode cc_Md_readTree 96 = .ok (.iload 4, 2) := by decide +kernel
theorem d_Md_readTree_98 : decode cc_Md_readTree 98 = .ok (.iconst 2, 1) := by decide +kernel
theorem d_Md_readTree_99 : decode cc_Md_readTree 99 = .ok (.irem, 1) := by decide +kernel
theorem d_Md_readTree_100 : decode cc_Md_readTree 100 = .ok (.ifCond .ne (9), 3) := by decide +kernel
theorem d_Md_readTree_103 : decode cc_Md_readTree 103 = .ok (.iload_n 3, 1) := by decide +kernel
theorem d_Md_readTree_104 : decode cc_Md_readTree 104 = .ok (.iconst 4, 1) := by decide +kernel
theorem d_Md_readTree_105 : decode cc_Md_readTree 105 = .ok (.ishr, 1) := by decide +kernel
theorem d_Md_readTree_106 : decode cc_Md_readTree 106 = .ok (.goto (7), 3) := by decide +kernel
theorem d_Md_readTree_109 : decode cc_Md_readTree 109 = .ok (.iload_n 3, 1) := by decide +kernel
theorem d_Md_readTree_110 : decode cc_Md_readTree 110 = .ok (.bipush (15), 2) := by decide +kernel
theorem d_Md_readTree_112 : decode cc_Md_readTree 112 = .ok (.iand, 1) := by decide +kernel
theorem d_Md_readTree_113 : decode cc_Md_readTree 113 = .ok (.istore 5, 2) := by decide +kernel
theorem d_Md_readTree_115 : decode cc_Md_readTree 115 = .ok (.aload_n 0, 1) := by decide +kernel
theorem d_Md_readTree_116 : decode cc_Md_readTree 116 = .ok (.aload_n 0, 1) := by decide +kernel
theorem d_Md_readTree_117 : decode cc_Md_readTree 117 = .ok (.getfield 102, 3) := by decide +kernel
theorem d_Md_readTree_120 : decode cc_Md_readTree 120 = .ok (.ifCond .ne (10), 3) := by decide +kernel
theorem d_Md_readTree_123 : decode cc_Md_readTree 123 = .ok (.iload 5, 2) := by decide +kernel
theorem d_Md_readTree_125 : decode cc_Md_readTree 125 = .ok (.bipush (7), 2) := by decide +kernel
theorem d_Md_readTree_127 : decode cc_Md_readTree 127 = .ok (.if_icmp .le (7), 3) := by decide +kernel
theorem d_Md_readTree_130 : decode cc_Md_readTree 130 = .ok (.iconst 1, 1) := by decide +kernel
theorem d_Md_readTree_131 : decode cc_Md_readTree 131 = .ok (.goto (4), 3) := by decide +kernel
theorem d_Md_readTree_134 : decode cc_Md_readTree 134 = .ok (.iconst 0, 1) := by decide +kernel
theorem d_Md_readTree_135 : decode cc_Md_readTree 135 = .ok (.putfield 102, 3) := by decide +kernel
theorem d_Md_readTree_138 : decode cc_Md_readTree 138 = .ok (.aload_n 0, 1) := by decide +kernel
theorem d_Md_readTree_139 : decode cc_Md_readTree 139 = .ok (.getfield 25, 3) := by decide +kernel
theorem d_Md_readTree_142 : decode cc_Md_readTree 142 = .ok (.iload 4, 2) := by decide +kernel
theorem d_Md_readTree_144 : decode cc_Md_readTree 144 = .ok (.iload 5, 2) := by decide +kernel
theorem d_Md_readTree_146 : decode cc_Md_readTree 146 = .ok (.bipush (7), 2) := by decide +kernel
theorem d_Md_readTree_148 : decode cc_Md_readTree 148 = .ok (.iand, 1) := by decide +kernel
theorem d_Md_readTree_149 : decode cc_Md_readTree 149 = .ok (.iastore, 1) := by decide +kernel
theorem d_Md_readTree_150 : decode cc_Md_readTree 150 = .ok (.iload_n 2, 1) := by decide +kernel
theorem d_Md_readTree_151 : decode cc_Md_readTree 151 = .ok (.aload_n 0, 1) := by decide +kernel
theorem d_Md_readTree_152 : decode cc_Md_readTree 152 = .ok (.getfield 25, 3) := by decide +kernel
theorem d_Md_readTree_155 : decode cc_Md_readTree 155 = .ok (.iload 4, 2) := by decide +kernel
theorem d_Md_readTree_157 : decode cc_Md_readTree 157 = .ok (.iaload, 1) := by decide +kernel
theorem d_Md_readTree_158 : decode cc_Md_readTree 158 = .ok (.ifCond .ne (7), 3) := by decide +kernel
theorem d_Md_readTree_161 : decode cc_Md_readTree 161 = .ok (.iconst 0, 1) := by decide +kernel
theorem d_Md_readTree_162 : decode cc_Md_readTree 162 = .ok (.goto (14), 3) := by decide +kernel
theorem d_Md_readTree_165 : decode cc_Md_readTree 165 = .ok (.iconst 1, 1) := by decide +kernel
theorem d_Md_readTree_166 : decode cc_Md_readTree 166 = .ok (.aload_n 0, 1) := by decide +kernel
theorem d_Md_readTree_167 : decode cc_Md_readTree 167 = .ok (.getfield 25, 3) := by decide +kernel
theorem d_Md_readTree_170 : decode cc_Md_readTree 170 = .ok (.iload 4, 2) := by decide +kernel
theorem d_Md_readTree_172 : decode cc_Md_readTree 172 = .ok (.iaload, 1) := by decide +kernel
theorem d_Md_readTree_173 : decode cc_Md_readTree 173 = .ok (.iconst 1, 1) := by decide +kernel
theorem d_Md_readTree_174 : decode cc_Md_readTree 174 = .ok (.isub, 1) := by decide +kernel
theorem d_Md_readTree_175 : decode cc_Md_readTree 175 = .ok (.ishl, 1) := by decide +kernel
theorem d_Md_readTree_176 : decode cc_Md_readTree 176 = .ok (.iadd, 1) := by decide +kernel
theorem d_Md_readTree_177 : decode cc_Md_readTree 177 = .ok (.istore_n 2, 1) := by decide +kernel
theorem d_Md_readTree_178 : decode cc_Md_readTree 178 = .ok (.iinc 4 (1), 3) := by decide +kernel
theorem d_Md_readTree_181 : decode cc_Md_readTree 181 = .ok (.goto (-111), 3) := by decide +kernel
theorem d_Md_readTree_184 : decode cc_Md_readTree 184 = .ok (.aload_n 0, 1) := by decide +kernel
theorem d_Md_readTree_185 : decode cc_Md_readTree 185 = .ok (.aload_n 0, 1) := by decide +kernel
theorem d_Md_readTree_186 : decode cc_Md_readTree 186 = .ok (.getfield 102, 3) := by decide +kernel
theorem d_Md_readTree_189 : decode cc_Md_readTree 189 = .ok (.ifCond .ne (24), 3) := by decide +kernel
theorem d_Md_readTree_192 : decode cc_Md_readTree 192 = .ok (.iload_n 2, 1) := by decide +kernel
theorem d_Md_readTree_193 : decode cc_Md_readTree 193 = .ok (.ifCond .eq (20), 3) := by decide +kernel
theorem d_Md_readTree_196 : decode cc_Md_readTree 196 = .ok (.aload_n 0, 1) := by decide +kernel
theorem d_Md_readTree_197 : decode cc_Md_readTree 197 = .ok (.getfield 172, 3) := by decide +kernel
theorem d_Md_readTree_200 : decode cc_Md_readTree 200 = .ok (.iconst 2, 1) := by decide +kernel
theorem d_Md_readTree_201 : decode cc_Md_readTree 201 = .ok (.irem, 1) := by decide +kernel
theorem d_Md_readTree_202 : decode cc_Md_readTree 202 = .ok (.iconst 1, 1) := by decide +kernel
theorem d_Md_readTree_203 : decode cc_Md_readTree 203 = .ok (.if_icmp .ne (14), 3) := by decide +kernel
theorem d_Md_readTree_206 : decode cc_Md_readTree 206 = .ok (.iload_n 3, 1) := by decide +kernel
theorem d_Md_readTree_207 : decode cc_Md_readTree 207 = .ok (.bipush (15), 2) := by decide +kernel
theorem d_Md_readTree_209 : decode cc_Md_readTree 209 = .ok (.iand, 1) := by decide +kernel
theorem d_Md_readTree_210 : decode cc_Md_readTree 210 = .ok (.ifCond .eq (7), 3) := by decide +kernel
theorem d_Md_readTree_213 : decode cc_Md_readTree 213 = .ok (.iconst 1, 1) := by decide +kernel
theorem d_Md_readTree_214 : decode cc_Md_readTree 214 = .ok (.goto (4), 3) := by decide +kernel
theorem d_Md_readTree_217 : decode cc_Md_readTree 217 = .ok (.iconst 0, 1) := by decide +kernel
theorem d_Md_readTree_218 : decode cc_Md_readTree 218 = .ok (.putfield 102, 3) := by decide +kernel
theorem d_Md_readTree_221 : decode cc_Md_readTree 221 = .ok (.aload_n 0, 1) := by decide +kernel
theorem d_Md_readTree_222 : decode cc_Md_readTree 222 = .ok (.iconst 0, 1) := by decide +kernel
theorem d_Md_readTree_223 : decode cc_Md_readTree 223 = .ok (.putfield 163, 3) := by decide +kernel
theorem d_Md_readTree_226 : decode cc_Md_readTree 226 = .ok (.iconst 1, 1) := by decide +kernel
theorem d_Md_readTree_227 : decode cc_Md_readTree 227 = .ok (.aload_n 0, 1) := by decide +kernel
theorem d_Md_readTree_228 : decode cc_Md_readTree 228 = .ok (.getfield 163, 3) := by decide +kernel
theorem d_Md_readTree_231 : decode cc_Md_readTree 231 = .ok (.ishl, 1) := by decide +kernel
theorem d_Md_readTree_232 : decode cc_Md_readTree 232 = .ok (.iload_n 2, 1) := by decide +kernel
theorem d_Md_readTree_233 : decode cc_Md_readTree 233 = .ok (.if_icmp .gt (16), 3) := by decide +kernel
theorem d_Md_readTree_236 : decode cc_Md_readTree 236 = .ok (.aload_n 0, 1) := by decide +kernel
theorem d_Md_readTree_237 : decode cc_Md_readTree 237 = .ok (.dup, 1) := by decide +kernel
theorem d_Md_readTree_238 : decode cc_Md_readTree 238 = .ok (.getfield 163, 3) := by decide +kernel
theorem d_Md_readTree_241 : decode cc_Md_readTree 241 = .ok (.iconst 1, 1) := by decide +kernel
theorem d_Md_readTree_242 : decode cc_Md_readTree 242 = .ok (.iadd, 1) := by decide +kernel
theorem d_Md_readTree_243 : decode cc_Md_readTree 243 = .ok (.putfield 163, 3) := by decide +kernel
theorem d_Md_readTree_246 : decode cc_Md_readTree 246 = .ok (.goto (-20), 3) := by decide +kernel
theorem d_Md_readTree_249 : decode cc_Md_readTree 249 = .ok (.iconst 1, 1) := by decide +kernel
theorem d_Md_readTree_250 : decode cc_Md_readTree 250 = .ok (.aload_n 0, 1) := by decide +kernel
theorem d_Md_readTree_251 : decode cc_Md_readTree 251 = .ok (.getfield 163, 3) := by decide +kernel
theorem d_Md_readTree_254 : decode cc_Md_readTree 254 = .ok (.ishl, 1) := by decide +kernel
theorem d_Md_readTree_255 : decode cc_Md_readTree 255 = .ok (.iload_n 2, 1) := by decide +kernel
theorem d_Md_readTree_256 : decode cc_Md_readTree 256 = .ok (.isub, 1) := by decide +kernel
theorem d_Md_readTree_257 : decode cc_Md_readTree 257 = .ok (.istore 4, 2) := by decide +kernel
theorem d_Md_readTree_259 : decode cc_Md_readTree 259 = .ok (.iconst 1, 1) := by decide +kernel
theorem d_Md_readTree_260 : decode cc_Md_readTree 260 = .ok (.istore 5, 2) := by decide +kernel
theorem d_Md_readTree_262 : decode cc_Md_readTree 262 = .ok (.iconst 1, 1) := by decide +kernel
theorem d_Md_readTree_263 : decode cc_Md_readTree 263 = .ok (.iload 5, 2) := by decide +kernel
theorem d_Md_readTree_265 : decode cc_Md_readTree 265 = .ok (.iconst 1, 1) := by decide +kernel
theorem d_Md_readTree_266 : decode cc_Md_readTree 266 = .ok (.isub, 1) := by decide +kernel
theorem d_Md_readTree_267 : decode cc_Md_readTree 267 = .ok (.ishl, 1) := by decide +kernel
theorem d_Md_readTree_268 : decode cc_Md_readTree 268 = .ok (.iload 4, 2) := by decide +kernel
theorem d_Md_readTree_270 : decode cc_Md_readTree 270 = .ok (.if_icmp .ge (9), 3) := by decide +kernel
theorem d_Md_readTree_273 : decode cc_Md_readTree 273 = .ok (.iinc 5 (1), 3) := by decide +kernel
theorem d_Md_readTree_276 : decode cc_Md_readTree 276 = .ok (.goto (-14), 3) := by decide +kernel
theorem d_Md_readTree_279 : decode cc_Md_readTree 279 = .ok (.aload_n 0, 1) := by decide +kernel
theorem d_Md_readTree_280 : decode cc_Md_readTree 280 = .ok (.aload_n 0, 1) := by decide +kernel
theorem d_Md_readTree_281 : decode cc_Md_readTree 281 = .ok (.getfield 102, 3) := by decide +kernel
theorem d_Md_readTree_284 : decode cc_Md_readTree 284 = .ok (.ifCond .ne (23), 3) := by decide +kernel
theorem d_Md_readTree_287 : decode cc_Md_readTree 287 = .ok (.aload_n 0, 1) := by decide +kernel
theorem d_Md_readTree_288 : decode cc_Md_readTree 288 = .ok (.getfield 163, 3) := by decide +kernel
theorem d_Md_readTree_291 : decode cc_Md_readTree 291 = .ok (.bipush (7), 2) := by decide +kernel
theorem d_Md_readTree_293 : decode cc_Md_readTree 293 = .ok (.if_icmp .gt (14), 3) := by decide +kernel
theorem d_Md_readTree_296 : decode cc_Md_readTree 296 = .ok (.iconst 1, 1) := by decide +kernel
theorem d_Md_readTree_297 : decode cc_Md_readTree 297 = .ok (.iload 5, 2) := by decide +kernel
theorem d_Md_readTree_299 : decode cc_Md_readTree 299 = .ok (.iconst 1, 1) := by decide +kernel
theorem d_Md_readTree_300 : decode cc_Md_readTree 300 = .ok (.isub, 1) := by decide +kernel
theorem d_Md_readTree_301 : decode cc_Md_readTree 301 = .ok (.ishl, 1) := by decide +kernel
theorem d_Md_readTree_302 : decode cc_Md_readTree 302 = .ok (.iload 4, 2) := by decide +kernel
theorem d_Md_readTree_304 : decode cc_Md_readTree 304 = .ok (.if_icmp .eq (7), 3) := by decide +kernel
theorem d_Md_readTree_307 : decode cc_Md_readTree 307 = .ok (.iconst 1, 1) := by decide +kernel
theorem d_Md_readTree_308 : decode cc_Md_readTree 308 = .ok (.goto (4), 3) := by decide +kernel
theorem d_Md_readTree_311 : decode cc_Md_readTree 311 = .ok (.iconst 0, 1) := by decide +kernel
theorem d_Md_readTree_312 : decode cc_Md_readTree 312 = .ok (.putfield 102, 3) := by decide +kernel
theorem d_Md_readTree_315 : decode cc_Md_readTree 315 = .ok (.aload_n 0, 1) := by decide +kernel
theorem d_Md_readTree_316 : decode cc_Md_readTree 316 = .ok (.getfield 25, 3) := by decide +kernel
theorem d_Md_readTree_319 : decode cc_Md_readTree 319 = .ok (.aload_n 0, 1) := by decide +kernel
theorem d_Md_readTree_320 : decode cc_Md_readTree 320 = .ok (.getfield 172, 3) := by decide +kernel
theorem d_Md_readTree_323 : decode cc_Md_readTree 323 = .ok (.iload 5, 2) := by decide +kernel
theorem d_Md_readTree_325 : decode cc_Md_readTree 325 = .ok (.iastore, 1) := by decide +kernel
theorem d_Md_readTree_326 : decode cc_Md_readTree 326 = .ok (.aload_n 0, 1) := by decide +kernel
theorem d_Md_readTree_327 : decode cc_Md_readTree 327 = .ok (.getfield 102, 3) := by decide +kernel
theorem d_Md_readTree_330 : decode cc_Md_readTree 330 = .ok (.ifCond .ne (7), 3) := by decide +kernel
theorem d_Md_readTree_333 : decode cc_Md_readTree 333 = .ok (.aload_n 0, 1) := by decide +kernel
theorem d_Md_readTree_334 : decode cc_Md_readTree 334 = .ok (.invokevirtual 175, 3) := by decide +kernel
theorem d_Md_readTree_337 : decode cc_Md_readTree 337 = .ok (.return_, 1) := by decide +kernel
section
variable {p : Program} {l : Launch} {e : Env} {s : State} {m : MethodId} {args : Array Value} {below : List Frame} {meth : Method} {c : Code} {X : Xs} {L : La}
def b_Md_readTree_57 (L : La)  (i0 : Nat) (F : Mem) : Option Mem :=
  if ¬ ((1 : Int32) = 0 ∨ (1 : Int32) = 1) then none else
  lt' (u2 F i0 5 (1 : Int32)) fun F1 =>
  some F1
set_option maxHeartbeats 4000000 in
theorem t_Md_readTree_57 (hC : Cx X L p s m args meth c cc_Md_readTree 6 w_Md_readTree R_Md none)  {out : Mem}  {i0 : Nat} {F : Mem} {H : Heap} {locs : List Loc} {ls : Array Slot} (o0 : oO L 12 i0) (hI : Iv X L s H locs F) (hl : lv_has ls 6 [(0, .ref (mAd X i0))]) (h : b_Md_readTree_57 L  i0 F = some out) : W p l e (headSpec w_Md_readTree r_Md_readTree).room s m args below meth c H locs 0 0 (MQ below (QV X L out) args s 0 0 (AA X L)) (F0 m 57 ls []) := by
  unfold b_Md_readTree_57 at h
  obtain ⟨S, hK, hT, hW, hr, hlk⟩ := id hC
  have hx := S.1
  have hb := S.2.1
  refine lv_aload_n hx hb d_Md_readTree_57 rfl (lv_at hl 0 rfl) ?_
  refine lv_iconst (v := 1) hx hb d_Md_readTree_58 rfl ?_
  obtain ⟨z3, h⟩ := un_if h
  refine w_putZ (T := T_Md) S hK hI o0 rfl hin_Md ty_Md tk_Md nm_Md 5 (index := 102) (by decide) lf_Md_102 rfl z3 d_Md_readTree_59 (fun H locs F1 e2 hI => ?_)
  replace h := un_lt h _ e2
  exact w_vret S hK hr hlk hI d_Md_readTree_62 h
def b_Md_readTree_337 (L : La)   (F : Mem) : Option Mem :=
  some F
set_option maxHeartbeats 4000000 in
theorem t_Md_readTree_337 (hC : Cx X L p s m args meth c cc_Md_readTree 6 w_Md_readTree R_Md none)  {out : Mem}   {F : Mem} {H : Heap} {locs : List Loc} {ls : Array Slot}  (hI : Iv X L s H locs F) (hl : lv_has ls 6 []) (h : b_Md_readTree_337 L   F = some out) : W p l e (headSpec w_Md_readTree r_Md_readTree).room s m args below meth c H locs 0 0 (MQ below (QV X L out) args s 0 0 (AA X L)) (F0 m 337 ls []) := by
  unfold b_Md_readTree_337 at h
  obtain ⟨S, hK, hT, hW, hr, hlk⟩ := id hC
  have hx := S.1
  have hb := S.2.1
  exact w_vret S hK hr hlk hI d_Md_readTree_337 h
def b_Md_readTree_312 (L : La)  (i0 : Nat) (x5 : Int32) (j0 : Nat) (y1 : Int32) (F : Mem) : Option Mem :=
  if ¬ (y1 = 0 ∨ y1 = 1) then none else
  lt' (u2 F j0 5 y1) fun F1 =>
  if inb (F1 i0 17) (mLn L (mRf L i0 19)) ∨ ¬ (mRf L i0 19) < mNc L then none else
  lt' (u2 F1 (mRf L i0 19) (F1 i0 17).toNatClampNeg x5) fun F6 =>
  if (F6 i0 5) = 0 then
    (f_Md_plant L i0 F6).bind fun F8 =>
    b_Md_readTree_337 L   F8
  else
    b_Md_readTree_337 L   F6
set_option maxHeartbeats 4000000 in
theorem t_Md_readTree_312 (hC : Cx X L p s m args meth c cc_Md_readTree 6 w_Md_readTree R_Md none)  {out : Mem}  {i0 : Nat} {x5 : Int32} {j0 : Nat} {y1 : Int32} {F : Mem} {H : Heap} {locs : List Loc} {ls : Array Slot} (o0 : oO L 12 i0) (oy0 : oO L 12 j0) (hI : Iv X L s H locs F) (hl : lv_has ls 6 [(0, .ref (mAd X i0)), (5, .int x5)]) (h : b_Md_readTree_312 L  i0 x5 j0 y1 F = some out) : W p l e (headSpec w_Md_readTree r_Md_readTree).room s m args below meth c H locs 0 0 (MQ below (QV X L out) args s 0 0 (AA X L)) (F0 m 312 ls [.int y1, .ref (mAd X j0)]) := by
  unfold b_Md_readTree_312 at h
  obtain ⟨S, hK, hT, hW, hr, hlk⟩ := id hC
  have hx := S.1
  have hb := S.2.1
  obtain ⟨z3, h⟩ := un_if h
  refine w_putZ (T := T_Md) S hK hI oy0 rfl hin_Md ty_Md tk_Md nm_Md 5 (index := 102) (by decide) lf_Md_102 rfl z3 d_Md_readTree_312 (fun H locs F1 e2 hI => ?_)
  replace h := un_lt h _ e2
  refine lv_aload_n hx hb d_Md_readTree_315 rfl (lv_at hl 0 rfl) ?_
  have p4 := wt_a hW o0 19 rfl (by decide) (by decide)
  refine w_getR (T := T_Md) S hK hI o0 rfl hin_Md 19 (index := 25) (by decide) lf_Md_25 d_Md_readTree_316 ?_
  refine lv_aload_n hx hb d_Md_readTree_319 rfl (lv_at hl 0 rfl) ?_
  refine w_getI (T := T_Md) S hK hI o0 rfl hin_Md 17 (index := 172) (by decide) lf_Md_172 d_Md_readTree_320 ?_
  refine lv_iload hx hb d_Md_readTree_323 (lv_at hl 1 rfl) ?_
  obtain ⟨z5, h⟩ := un_if h
  refine w_iast S hK hI p4 z5 d_Md_readTree_325 (fun H locs F6 e7 hI => ?_)
  replace h := un_lt h _ e7
  refine lv_aload_n hx hb d_Md_readTree_326 rfl (lv_at hl 0 rfl) ?_
  refine w_getI (T := T_Md) S hK hI o0 rfl hin_Md 5 (index := 102) (by decide) lf_Md_102 d_Md_readTree_327 ?_
  refine lv_if_ne (tgt := 337) hx hb d_Md_readTree_330 rfl (fun hc => ?_) (fun hc => ?_)
  · replace h := (if_neg hc).symm.trans h
    exact t_Md_readTree_337 hC   hI (lv_sub hl [] rfl) h
  · replace h := (if_pos hc).symm.trans h
    refine lv_aload_n hx hb d_Md_readTree_333 rfl (lv_at hl 0 rfl) ?_
    obtain ⟨F8, e9, h⟩ := un_bi h
    refine w_callVv (As := []) (rest := []) S hK hI hT (c_Md_plant l hW o0 e9) (cwV 0 S.2.2.2.2 (gd_V lc_Md_plant lm_Md_175 li_Md_plant ls_Md_plant ln_Md) rfl rfl rfl hd_Md_plant ⟨Nat.le_of_ble_eq_true rfl, Nat.le_of_ble_eq_true rfl⟩) o0 rfl (by decide) rfl rfl hl.1 (Nat.le_of_ble_eq_true rfl) d_Md_readTree_334 ⟨Nat.zero_le _, Nat.zero_le _⟩ (fun H locs hI => ?_)
    exact t_Md_readTree_337 hC   hI (lv_sub hl [] rfl) h
def b_Md_readTree_307 (L : La)  (i0 : Nat) (x5 : Int32) (j0 : Nat) (F : Mem) : Option Mem :=
  b_Md_readTree_312 L  i0 x5 j0 (1 : Int32) F
set_option maxHeartbeats 4000000 in
theorem t_Md_readTree_307 (hC : Cx X L p s m args meth c cc_Md_readTree 6 w_Md_readTree R_Md none)  {out : Mem}  {i0 : Nat} {x5 : Int32} {j0 : Nat} {F : Mem} {H : Heap} {locs : List Loc} {ls : Array Slot} (o0 : oO L 12 i0) (oy0 : oO L 12 j0) (hI : Iv X L s H locs F) (hl : lv_has ls 6 [(0, .ref (mAd X i0)), (5, .int x5)]) (h : b_Md_readTree_307 L  i0 x5 j0 F = some out) : W p l e (headSpec w_Md_readTree r_Md_readTree).room s m args below meth c H locs 0 0 (MQ below (QV X L out) args s 0 0 (AA X L)) (F0 m 307 ls [.ref (mAd X j0)]) := by
  unfold b_Md_readTree_307 at h
  obtain ⟨S, hK, hT, hW, hr, hlk⟩ := id hC
  have hx := S.1
  have hb := S.2.1
  refine lv_iconst (v := 1) hx hb d_Md_readTree_307 rfl ?_
  refine lv_goto (tgt := 312) hx hb d_Md_readTree_308 rfl ?_
  exact t_Md_readTree_312 hC  o0 oy0 hI hl h
def b_Md_readTree_262 (L : La) (k262 : Nat → Int32 → Int32 → Mem → Option Mem) (i0 : Nat) (x4 : Int32) (x5 : Int32) (F : Mem) : Option Mem :=
  if x4 ≤ (jshl (1 : Int32) (x5 - (1 : Int32))) then
    if (F i0 5) = 0 then
      if (7 : Int32) < (F i0 18) then
        b_Md_readTree_307 L  i0 x5 i0 F
      else
        if (jshl (1 : Int32) (x5 - (1 : Int32))) = x4 then
          b_Md_readTree_312 L  i0 x5 i0 (0 : Int32) F
        else
          b_Md_readTree_307 L  i0 x5 i0 F
    else
      b_Md_readTree_307 L  i0 x5 i0 F
  else
    k262 i0 x4 (x5 + (1 : Int32)) F
set_option maxHeartbeats 4000000 in
theorem t_Md_readTree_262 (hC : Cx X L p s m args meth c cc_Md_readTree 6 w_Md_readTree R_Md none) {k262 : Nat → Int32 → Int32 → Mem → Option Mem} {out : Mem} (hk262 : ∀ (i0 : Nat) (x4 : Int32) (x5 : Int32) (F : Mem) (H : Heap) (locs : List Loc) (ls : Array Slot), oO L 12 i0 → Iv X L s H locs F → lv_has ls 6 [(0, .ref (mAd X i0)), (4, .int x4), (5, .int x5)] → k262 i0 x4 x5 F = some out → W p l e (headSpec w_Md_readTree r_Md_readTree).room s m args below meth c H locs 0 0 (MQ below (QV X L out) args s 0 0 (AA X L)) (F0 m 262 ls [])) {i0 : Nat} {x4 : Int32} {x5 : Int32} {F : Mem} {H : Heap} {locs : List Loc} {ls : Array Slot} (o0 : oO L 12 i0) (hI : Iv X L s H locs F) (hl : lv_has ls 6 [(0, .ref (mAd X i0)), (4, .int x4), (5, .int x5)]) (h : b_Md_readTree_262 L k262 i0 x4 x5 F = some out) : W p l e (headSpec w_Md_readTree r_Md_readTree).room s m args below meth c H locs 0 0 (MQ below (QV X L out) args s 0 0 (AA X L)) (F0 m 262 ls []) := by
  unfold b_Md_readTree_262 at h
  obtain ⟨S, hK, hT, hW, hr, hlk⟩ := id hC
  have hx := S.1
  have hb := S.2.1
  refine lv_iconst (v := 1) hx hb d_Md_readTree_262 rfl ?_
  refine lv_iload hx hb d_Md_readTree_263 (lv_at hl 2 rfl) ?_
  refine lv_iconst (v := 1) hx hb d_Md_readTree_265 rfl ?_
  refine lv_isub hx hb d_Md_readTree_266 ?_
  refine lv_ishl hx hb d_Md_readTree_267 ?_
  refine lv_iload hx hb d_Md_readTree_268 (lv_at hl 1 rfl) ?_
  refine lv_icmp_ge (tgt := 279) hx hb d_Md_readTree_270 rfl (fun hc => ?_) (fun hc => ?_)
  · replace h := (if_pos hc).symm.trans h
    refine lv_aload_n hx hb d_Md_readTree_279 rfl (lv_at hl 0 rfl) ?_
    refine lv_aload_n hx hb d_Md_readTree_280 rfl (lv_at hl 0 rfl) ?_
    refine w_getI (T := T_Md) S hK hI o0 rfl hin_Md 5 (index := 102) (by decide) lf_Md_102 d_Md_readTree_281 ?_
    refine lv_if_ne (tgt := 307) hx hb d_Md_readTree_284 rfl (fun hc => ?_) (fun hc => ?_)
    · replace h := (if_neg hc).symm.trans h
      exact t_Md_readTree_307 hC  o0 o0 hI (lv_sub hl [0, 2] rfl) h
    · replace h := (if_pos hc).symm.trans h
      refine lv_aload_n hx hb d_Md_readTree_287 rfl (lv_at hl 0 rfl) ?_
      refine w_getI (T := T_Md) S hK hI o0 rfl hin_Md 18 (index := 163) (by decide) lf_Md_163 d_Md_readTree_288 ?_
      refine lv_bipush (v := 7) hx hb d_Md_readTree_291 (by decide) ?_
      refine lv_icmp_gt (tgt := 307) hx hb d_Md_readTree_293 rfl (fun hc => ?_) (fun hc => ?_)
      · replace h := (if_pos hc).symm.trans h
        exact t_Md_readTree_307 hC  o0 o0 hI (lv_sub hl [0, 2] rfl) h
      · replace h := (if_neg hc).symm.trans h
        refine lv_iconst (v := 1) hx hb d_Md_readTree_296 rfl ?_
        refine lv_iload hx hb d_Md_readTree_297 (lv_at hl 2 rfl) ?_
        refine lv_iconst (v := 1) hx hb d_Md_readTree_299 rfl ?_
        refine lv_isub hx hb d_Md_readTree_300 ?_
        refine lv_ishl hx hb d_Md_readTree_301 ?_
        refine lv_iload hx hb d_Md_readTree_302 (lv_at hl 1 rfl) ?_
        refine lv_icmp_eq (tgt := 311) hx hb d_Md_readTree_304 rfl (fun hc => ?_) (fun hc => ?_)
        · replace h := (if_pos hc).symm.trans h
          refine lv_iconst (v := 0) hx hb d_Md_readTree_311 rfl ?_
          exact t_Md_readTree_312 hC  o0 o0 hI (lv_sub hl [0, 2] rfl) h
        · replace h := (if_neg hc).symm.trans h
          exact t_Md_readTree_307 hC  o0 o0 hI (lv_sub hl [0, 2] rfl) h
  · replace h := (if_neg hc).symm.trans h
    refine lv_iinc (k := 2) (v := x5 + (1 : Int32)) (lv' := [(5, .int (x5 + (1 : Int32))), (0, .ref (mAd X i0)), (4, .int x4)]) hx hb d_Md_readTree_273 hl rfl rfl (by decide) rfl (fun ls hl => ?_)
    refine lv_goto (tgt := 262) hx hb d_Md_readTree_276 rfl ?_
    exact hk262 _ _ _ _ _ _ _ o0 hI (lv_sub hl [1, 2, 0] rfl) h
def f_Md_readTree_262 (L : La)  : Nat → Nat → Int32 → Int32 → Mem → Option Mem
  | 0 => fun _ _ _ _ => none
  | n + 1 => b_Md_readTree_262 L (f_Md_readTree_262 L  n)
theorem tf_Md_readTree_262 (hC : Cx X L p s m args meth c cc_Md_readTree 6 w_Md_readTree R_Md none)  {out : Mem}  (n : Nat) : ∀ (i0 : Nat) (x4 : Int32) (x5 : Int32) (F : Mem) (H : Heap) (locs : List Loc) (ls : Array Slot), oO L 12 i0 → Iv X L s H locs F → lv_has ls 6 [(0, .ref (mAd X i0)), (4, .int x4), (5, .int x5)] → f_Md_readTree_262 L  n i0 x4 x5 F = some out → W p l e (headSpec w_Md_readTree r_Md_readTree).room s m args below meth c H locs 0 0 (MQ below (QV X L out) args s 0 0 (AA X L)) (F0 m 262 ls []) := by
  induction n with
  | zero => intro i0 x4 x5 F H locs ls o0 hI hl h; cases h
  | succ n ih => intro i0 x4 x5 F H locs ls o0 hI hl h; exact t_Md_readTree_262 hC ih o0 hI hl h
def b_Md_readTree_226 (L : La) (k226 : Nat → Int32 → Mem → Option Mem) (i0 : Nat) (x2 : Int32) (F : Mem) : Option Mem :=
  if x2 < (jshl (1 : Int32) (F i0 18)) then
    f_Md_readTree_262 L  mFU i0 ((jshl (1 : Int32) (F i0 18)) - x2) (1 : Int32) F
  else
    lt' (u2 F i0 18 ((F i0 18) + (1 : Int32))) fun F1 =>
    k226 i0 x2 F1
set_option maxHeartbeats 4000000 in
theorem t_Md_readTree_226 (hC : Cx X L p s m args meth c cc_Md_readTree 6 w_Md_readTree R_Md none) {k226 : Nat → Int32 → Mem → Option Mem} {out : Mem} (hk226 : ∀ (i0 : Nat) (x2 : Int32) (F : Mem) (H : Heap) (locs : List Loc) (ls : Array Slot), oO L 12 i0 → Iv X L s H locs F → lv_has ls 6 [(0, .ref (mAd X i0)), (2, .int x2)] → k226 i0 x2 F = some out → W p l e (headSpec w_Md_readTree r_Md_readTree).room s m args below meth c H locs 0 0 (MQ below (QV X L out) args s 0 0 (AA X L)) (F0 m 226 ls [])) {i0 : Nat} {x2 : Int32} {F : Mem} {H : Heap} {locs : List Loc} {ls : Array Slot} (o0 : oO L 12 i0) (hI : Iv X L s H locs F) (hl : lv_has ls 6 [(0, .ref (mAd X i0)), (2, .int x2)]) (h : b_Md_readTree_226 L k226 i0 x2 F = some out) : W p l e (headSpec w_Md_readTree r_Md_readTree).room s m args below meth c H locs 0 0 (MQ below (QV X L out) args s 0 0 (AA X L)) (F0 m 226 ls []) := by
  unfold b_Md_readTree_226 at h
  obtain ⟨S, hK, hT, hW, hr, hlk⟩ := id hC
  have hx := S.1
  have hb := S.2.1
  refine lv_iconst (v := 1) hx hb d_Md_readTree_226 rfl ?_
  refine lv_aload_n hx hb d_Md_readTree_227 rfl (lv_at hl 0 rfl) ?_
  refine w_getI (T := T_Md) S hK hI o0 rfl hin_Md 18 (index := 163) (by decide) lf_Md_163 d_Md_readTree_228 ?_
  refine lv_ishl hx hb d_Md_readTree_231 ?_
  refine lv_iload_n hx hb d_Md_readTree_232 rfl (lv_at hl 1 rfl) ?_
  refine lv_icmp_gt (tgt := 249) hx hb d_Md_readTree_233 rfl (fun hc => ?_) (fun hc => ?_)
  · replace h := (if_pos hc).symm.trans h
    refine lv_iconst (v := 1) hx hb d_Md_readTree_249 rfl ?_
    refine lv_aload_n hx hb d_Md_readTree_250 rfl (lv_at hl 0 rfl) ?_
    refine w_getI (T := T_Md) S hK hI o0 rfl hin_Md 18 (index := 163) (by decide) lf_Md_163 d_Md_readTree_251 ?_
    refine lv_ishl hx hb d_Md_readTree_254 ?_
    refine lv_iload_n hx hb d_Md_readTree_255 rfl (lv_at hl 1 rfl) ?_
    refine lv_isub hx hb d_Md_readTree_256 ?_
    refine lv_istore (lv' := [(4, .int ((jshl (1 : Int32) (F i0 18)) - x2)), (0, .ref (mAd X i0)), (2, .int x2)]) hx hb d_Md_readTree_257 hl (by decide) rfl (fun ls hl => ?_)
    refine lv_iconst (v := 1) hx hb d_Md_readTree_259 rfl ?_
    refine lv_istore (lv' := [(5, .int (1 : Int32)), (4, .int ((jshl (1 : Int32) (F i0 18)) - x2)), (0, .ref (mAd X i0)), (2, .int x2)]) hx hb d_Md_readTree_260 hl (by decide) rfl (fun ls hl => ?_)
    exact tf_Md_readTree_262 hC  mFU _ _ _ _ _ _ _ o0 hI (lv_sub hl [2, 1, 0] rfl) h
  · replace h := (if_neg hc).symm.trans h
    refine lv_aload_n hx hb d_Md_readTree_236 rfl (lv_at hl 0 rfl) ?_
    refine lv_dup hx hb d_Md_readTree_237 rfl ?_
    refine w_getI (T := T_Md) S hK hI o0 rfl hin_Md 18 (index := 163) (by decide) lf_Md_163 d_Md_readTree_238 ?_
    refine lv_iconst (v := 1) hx hb d_Md_readTree_241 rfl ?_
    refine lv_iadd hx hb d_Md_readTree_242 ?_
    refine w_putI (T := T_Md) S hK hI o0 rfl hin_Md ty_Md tk_Md nm_Md 18 (index := 163) (by decide) lf_Md_163 rfl d_Md_readTree_243 (fun H locs F1 e2 hI => ?_)
    replace h := un_lt h _ e2
    refine lv_goto (tgt := 226) hx hb d_Md_readTree_246 rfl ?_
    exact hk226 _ _ _ _ _ _ o0 hI hl h
def f_Md_readTree_226 (L : La)  : Nat → Nat → Int32 → Mem → Option Mem
  | 0 => fun _ _ _ => none
  | n + 1 => b_Md_readTree_226 L (f_Md_readTree_226 L  n)
theorem tf_Md_readTree_226 (hC : Cx X L p s m args meth c cc_Md_readTree 6 w_Md_readTree R_Md none)  {out : Mem}  (n : Nat) : ∀ (i0 : Nat) (x2 : Int32) (F : Mem) (H : Heap) (locs : List Loc) (ls : Array Slot), oO L 12 i0 → Iv X L s H locs F → lv_has ls 6 [(0, .ref (mAd X i0)), (2, .int x2)] → f_Md_readTree_226 L  n i0 x2 F = some out → W p l e (headSpec w_Md_readTree r_Md_readTree).room s m args below meth c H locs 0 0 (MQ below (QV X L out) args s 0 0 (AA X L)) (F0 m 226 ls []) := by
  induction n with
  | zero => intro i0 x2 F H locs ls o0 hI hl h; cases h
  | succ n ih => intro i0 x2 F H locs ls o0 hI hl h; exact t_Md_readTree_226 hC ih o0 hI hl h
def b_Md_readTree_218 (L : La)  (i0 : Nat) (x2 : Int32) (j0 : Nat) (y1 : Int32) (F : Mem) : Option Mem :=
  if ¬ (y1 = 0 ∨ y1 = 1) then none else
  lt' (u2 F j0 5 y1) fun F1 =>
  lt' (u2 F1 i0 18 (0 : Int32)) fun F4 =>
  f_Md_readTree_226 L  mFU i0 x2 F4
set_option maxHeartbeats 4000000 in
theorem t_Md_readTree_218 (hC : Cx X L p s m args meth c cc_Md_readTree 6 w_Md_readTree R_Md none)  {out : Mem}  {i0 : Nat} {x2 : Int32} {j0 : Nat} {y1 : Int32} {F : Mem} {H : Heap} {locs : List Loc} {ls : Array Slot} (o0 : oO L 12 i0) (oy0 : oO L 12 j0) (hI : Iv X L s H locs F) (hl : lv_has ls 6 [(0, .ref (mAd X i0)), (2, .int x2)]) (h : b_Md_readTree_218 L  i0 x2 j0 y1 F = some out) : W p l e (headSpec w_Md_readTree r_Md_readTree).room s m args below meth c H locs 0 0 (MQ below (QV X L out) args s 0 0 (AA X L)) (F0 m 218 ls [.int y1, .ref (mAd X j0)]) := by
  unfold b_Md_readTree_218 at h
  obtain ⟨S, hK, hT, hW, hr, hlk⟩ := id hC
  have hx := S.1
  have hb := S.2.1
  obtain ⟨z3, h⟩ := un_if h
  refine w_putZ (T := T_Md) S hK hI oy0 rfl hin_Md ty_Md tk_Md nm_Md 5 (index := 102) (by decide) lf_Md_102 rfl z3 d_Md_readTree_218 (fun H locs F1 e2 hI => ?_)
  replace h := un_lt h _ e2
  refine lv_aload_n hx hb d_Md_readTree_221 rfl (lv_at hl 0 rfl) ?_
  refine lv_iconst (v := 0) hx hb d_Md_readTree_222 rfl ?_
  refine w_putI (T := T_Md) S hK hI o0 rfl hin_Md ty_Md tk_Md nm_Md 18 (index := 163) (by decide) lf_Md_163 rfl d_Md_readTree_223 (fun H locs F4 e5 hI => ?_)
  replace h := un_lt h _ e5
  exact tf_Md_readTree_226 hC  mFU _ _ _ _ _ _ o0 hI hl h
def b_Md_readTree_213 (L : La)  (i0 : Nat) (x2 : Int32) (j0 : Nat) (F : Mem) : Option Mem :=
  b_Md_readTree_218 L  i0 x2 j0 (1 : Int32) F
set_option maxHeartbeats 4000000 in
theorem t_Md_readTree_213 (hC : Cx X L p s m args meth c cc_Md_readTree 6 w_Md_readTree R_Md none)  {out : Mem}  {i0 : Nat} {x2 : Int32} {j0 : Nat} {F : Mem} {H : Heap} {locs : List Loc} {ls : Array Slot} (o0 : oO L 12 i0) (oy0 : oO L 12 j0) (hI : Iv X L s H locs F) (hl : lv_has ls 6 [(0, .ref (mAd X i0)), (2, .int x2)]) (h : b_Md_readTree_213 L  i0 x2 j0 F = some out) : W p l e (headSpec w_Md_readTree r_Md_readTree).room s m args below meth c H locs 0 0 (MQ below (QV X L out) args s 0 0 (AA X L)) (F0 m 213 ls [.ref (mAd X j0)]) := by
  unfold b_Md_readTree_213 at h
  obtain ⟨S, hK, hT, hW, hr, hlk⟩ := id hC
  have hx := S.1
  have hb := S.2.1
  refine lv_iconst (v := 1) hx hb d_Md_readTree_213 rfl ?_
  refine lv_goto (tgt := 218) hx hb d_Md_readTree_214 rfl ?_
  exact t_Md_readTree_218 hC  o0 oy0 hI hl h
def b_Md_readTree_217 (L : La)  (i0 : Nat) (x2 : Int32) (j0 : Nat) (F : Mem) : Option Mem :=
  b_Md_readTree_218 L  i0 x2 j0 (0 : Int32) F
set_option maxHeartbeats 4000000 in
theorem t_Md_readTree_217 (hC : Cx X L p s m args meth c cc_Md_readTree 6 w_Md_readTree R_Md none)  {out : Mem}  {i0 : Nat} {x2 : Int32} {j0 : Nat} {F : Mem} {H : Heap} {locs : List Loc} {ls : Array Slot} (o0 : oO L 12 i0) (oy0 : oO L 12 j0) (hI : Iv X L s H locs F) (hl : lv_has ls 6 [(0, .ref (mAd X i0)), (2, .int x2)]) (h : b_Md_readTree_217 L  i0 x2 j0 F = some out) : W p l e (headSpec w_Md_readTree r_Md_readTree).room s m args below meth c H locs 0 0 (MQ below (QV X L out) args s 0 0 (AA X L)) (F0 m 217 ls [.ref (mAd X j0)]) := by
  unfold b_Md_readTree_217 at h
  obtain ⟨S, hK, hT, hW, hr, hlk⟩ := id hC
  have hx := S.1
  have hb := S.2.1
  refine lv_iconst (v := 0) hx hb d_Md_readTree_217 rfl ?_
  exact t_Md_readTree_218 hC  o0 oy0 hI hl h
def b_Md_readTree_176 (L : La) (k70 : Nat → Int32 → Int32 → Int32 → Int32 → Mem → Option Mem) (i0 : Nat) (x1 : Int32) (x3 : Int32) (x4 : Int32) (y0 : Int32) (y1 : Int32) (F : Mem) : Option Mem :=
  k70 i0 x1 (y0 + y1) x3 (x4 + (1 : Int32)) F
set_option maxHeartbeats 4000000 in
theorem t_Md_readTree_176 (hC : Cx X L p s m args meth c cc_Md_readTree 6 w_Md_readTree R_Md none) {k70 : Nat → Int32 → Int32 → Int32 → Int32 → Mem → Option Mem} {out : Mem} (hk70 : ∀ (i0 : Nat) (x1 : Int32) (x2 : Int32) (x3 : Int32) (x4 : Int32) (F : Mem) (H : Heap) (locs : List Loc) (ls : Array Slot), oO L 12 i0 → Iv X L s H locs F → lv_has ls 6 [(0, .ref (mAd X i0)), (1, .int x1), (2, .int x2), (3, .int x3), (4, .int x4)] → k70 i0 x1 x2 x3 x4 F = some out → W p l e (headSpec w_Md_readTree r_Md_readTree).room s m args below meth c H locs 0 0 (MQ below (QV X L out) args s 0 0 (AA X L)) (F0 m 70 ls [])) {i0 : Nat} {x1 : Int32} {x3 : Int32} {x4 : Int32} {y0 : Int32} {y1 : Int32} {F : Mem} {H : Heap} {locs : List Loc} {ls : Array Slot} (o0 : oO L 12 i0) (hI : Iv X L s H locs F) (hl : lv_has ls 6 [(0, .ref (mAd X i0)), (1, .int x1), (3, .int x3), (4, .int x4)]) (h : b_Md_readTree_176 L k70 i0 x1 x3 x4 y0 y1 F = some out) : W p l e (headSpec w_Md_readTree r_Md_readTree).room s m args below meth c H locs 0 0 (MQ below (QV X L out) args s 0 0 (AA X L)) (F0 m 176 ls [.int y1, .int y0]) := by
  unfold b_Md_readTree_176 at h
  obtain ⟨S, hK, hT, hW, hr, hlk⟩ := id hC
  have hx := S.1
  have hb := S.2.1
  refine lv_iadd hx hb d_Md_readTree_176 ?_
  refine lv_istore_n (lv' := [(2, .int (y0 + y1)), (0, .ref (mAd X i0)), (1, .int x1), (3, .int x3), (4, .int x4)]) hx hb d_Md_readTree_177 rfl hl (by decide) rfl (fun ls hl => ?_)
  refine lv_iinc (k := 4) (v := x4 + (1 : Int32)) (lv' := [(4, .int (x4 + (1 : Int32))), (2, .int (y0 + y1)), (0, .ref (mAd X i0)), (1, .int x1), (3, .int x3)]) hx hb d_Md_readTree_178 hl rfl rfl (by decide) rfl (fun ls hl => ?_)
  refine lv_goto (tgt := 70) hx hb d_Md_readTree_181 rfl ?_
  exact hk70 _ _ _ _ _ _ _ _ _ o0 hI (lv_sub hl [2, 3, 1, 4, 0] rfl) h
def b_Md_readTree_135 (L : La) (k70 : Nat → Int32 → Int32 → Int32 → Int32 → Mem → Option Mem) (i0 : Nat) (x1 : Int32) (x2 : Int32) (x3 : Int32) (x4 : Int32) (x5 : Int32) (j0 : Nat) (y1 : Int32) (F : Mem) : Option Mem :=
  if ¬ (y1 = 0 ∨ y1 = 1) then none else
  lt' (u2 F j0 5 y1) fun F1 =>
  if inb x4 (mLn L (mRf L i0 19)) ∨ ¬ (mRf L i0 19) < mNc L then none else
  lt' (u2 F1 (mRf L i0 19) x4.toNatClampNeg (x5 &&& (7 : Int32))) fun F6 =>
  if inb x4 (mGl L (mRf L i0 19)) then none else
  if (mGa L F6 (mRf L i0 19) x4.toNatClampNeg) = 0 then
    b_Md_readTree_176 L k70 i0 x1 x3 x4 x2 (0 : Int32) F6
  else
    if inb x4 (mGl L (mRf L i0 19)) then none else
    b_Md_readTree_176 L k70 i0 x1 x3 x4 x2 (jshl (1 : Int32) ((mGa L F6 (mRf L i0 19) x4.toNatClampNeg) - (1 : Int32))) F6
set_option maxHeartbeats 4000000 in
theorem t_Md_readTree_135 (hC : Cx X L p s m args meth c cc_Md_readTree 6 w_Md_readTree R_Md none) {k70 : Nat → Int32 → Int32 → Int32 → Int32 → Mem → Option Mem} {out : Mem} (hk70 : ∀ (i0 : Nat) (x1 : Int32) (x2 : Int32) (x3 : Int32) (x4 : Int32) (F : Mem) (H : Heap) (locs : List Loc) (ls : Array Slot), oO L 12 i0 → Iv X L s H locs F → lv_has ls 6 [(0, .ref (mAd X i0)), (1, .int x1), (2, .int x2), (3, .int x3), (4, .int x4)] → k70 i0 x1 x2 x3 x4 F = some out → W p l e (headSpec w_Md_readTree r_Md_readTree).room s m args below meth c H locs 0 0 (MQ below (QV X L out) args s 0 0 (AA X L)) (F0 m 70 ls [])) {i0 : Nat} {x1 : Int32} {x2 : Int32} {x3 : Int32} {x4 : Int32} {x5 : Int32} {j0 : Nat} {y1 : Int32} {F : Mem} {H : Heap} {locs : List Loc} {ls : Array Slot} (o0 : oO L 12 i0) (oy0 : oO L 12 j0) (hI : Iv X L s H locs F) (hl : lv_has ls 6 [(0, .ref (mAd X i0)), (1, .int x1), (2, .int x2), (3, .int x3), (4, .int x4), (5, .int x5)]) (h : b_Md_readTree_135 L k70 i0 x1 x2 x3 x4 x5 j0 y1 F = some out) : W p l e (headSpec w_Md_readTree r_Md_readTree).room s m args below meth c H locs 0 0 (MQ below (QV X L out) args s 0 0 (AA X L)) (F0 m 135 ls [.int y1, .ref (mAd X j0)]) := by
  unfold b_Md_readTree_135 at h
  obtain ⟨S, hK, hT, hW, hr, hlk⟩ := id hC
  have hx := S.1
  have hb := S.2.1
  obtain ⟨z3, h⟩ := un_if h
  refine w_putZ (T := T_Md) S hK hI oy0 rfl hin_Md ty_Md tk_Md nm_Md 5 (index := 102) (by decide) lf_Md_102 rfl z3 d_Md_readTree_135 (fun H locs F1 e2 hI => ?_)
  replace h := un_lt h _ e2
  refine lv_aload_n hx hb d_Md_readTree_138 rfl (lv_at hl 0 rfl) ?_
  have p4 := wt_a hW o0 19 rfl (by decide) (by decide)
  refine w_getR (T := T_Md) S hK hI o0 rfl hin_Md 19 (index := 25) (by decide) lf_Md_25 d_Md_readTree_139 ?_
  refine lv_iload hx hb d_Md_readTree_142 (lv_at hl 4 rfl) ?_
  refine lv_iload hx hb d_Md_readTree_144 (lv_at hl 5 rfl) ?_
  refine lv_bipush (v := 7) hx hb d_Md_readTree_146 (by decide) ?_
  refine lv_iand hx hb d_Md_readTree_148 ?_
  obtain ⟨z5, h⟩ := un_if h
  refine w_iast S hK hI p4 z5 d_Md_readTree_149 (fun H locs F6 e7 hI => ?_)
  replace h := un_lt h _ e7
  refine lv_iload_n hx hb d_Md_readTree_150 rfl (lv_at hl 2 rfl) ?_
  refine lv_aload_n hx hb d_Md_readTree_151 rfl (lv_at hl 0 rfl) ?_
  have p8 := wt_a hW o0 19 rfl (by decide) (by decide)
  refine w_getR (T := T_Md) S hK hI o0 rfl hin_Md 19 (index := 25) (by decide) lf_Md_25 d_Md_readTree_152 ?_
  refine lv_iload hx hb d_Md_readTree_155 (lv_at hl 4 rfl) ?_
  obtain ⟨z9, h⟩ := un_if h
  refine w_iald S hK hI hT p8 z9 d_Md_readTree_157 ?_
  refine lv_if_ne (tgt := 165) hx hb d_Md_readTree_158 rfl (fun hc => ?_) (fun hc => ?_)
  · replace h := (if_neg hc).symm.trans h
    refine lv_iconst (v := 1) hx hb d_Md_readTree_165 rfl ?_
    refine lv_aload_n hx hb d_Md_readTree_166 rfl (lv_at hl 0 rfl) ?_
    have p10 := wt_a hW o0 19 rfl (by decide) (by decide)
    refine w_getR (T := T_Md) S hK hI o0 rfl hin_Md 19 (index := 25) (by decide) lf_Md_25 d_Md_readTree_167 ?_
    refine lv_iload hx hb d_Md_readTree_170 (lv_at hl 4 rfl) ?_
    obtain ⟨z11, h⟩ := un_if h
    refine w_iald S hK hI hT p10 z11 d_Md_readTree_172 ?_
    refine lv_iconst (v := 1) hx hb d_Md_readTree_173 rfl ?_
    refine lv_isub hx hb d_Md_readTree_174 ?_
    refine lv_ishl hx hb d_Md_readTree_175 ?_
    exact t_Md_readTree_176 hC hk70 o0 hI (lv_sub hl [0, 1, 3, 4] rfl) h
  · replace h := (if_pos hc).symm.trans h
    refine lv_iconst (v := 0) hx hb d_Md_readTree_161 rfl ?_
    refine lv_goto (tgt := 176) hx hb d_Md_readTree_162 rfl ?_
    exact t_Md_readTree_176 hC hk70 o0 hI (lv_sub hl [0, 1, 3, 4] rfl) h
def b_Md_readTree_130 (L : La) (k70 : Nat → Int32 → Int32 → Int32 → Int32 → Mem → Option Mem) (i0 : Nat) (x1 : Int32) (x2 : Int32) (x3 : Int32) (x4 : Int32) (x5 : Int32) (j0 : Nat) (F : Mem) : Option Mem :=
  b_Md_readTree_135 L k70 i0 x1 x2 x3 x4 x5 j0 (1 : Int32) F
set_option maxHeartbeats 4000000 in
theorem t_Md_readTree_130 (hC : Cx X L p s m args meth c cc_Md_readTree 6 w_Md_readTree R_Md none) {k70 : Nat → Int32 → Int32 → Int32 → Int32 → Mem → Option Mem} {out : Mem} (hk70 : ∀ (i0 : Nat) (x1 : Int32) (x2 : Int32) (x3 : Int32) (x4 : Int32) (F : Mem) (H : Heap) (locs : List Loc) (ls : Array Slot), oO L 12 i0 → Iv X L s H locs F → lv_has ls 6 [(0, .ref (mAd X i0)), (1, .int x1), (2, .int x2), (3, .int x3), (4, .int x4)] → k70 i0 x1 x2 x3 x4 F = some out → W p l e (headSpec w_Md_readTree r_Md_readTree).room s m args below meth c H locs 0 0 (MQ below (QV X L out) args s 0 0 (AA X L)) (F0 m 70 ls [])) {i0 : Nat} {x1 : Int32} {x2 : Int32} {x3 : Int32} {x4 : Int32} {x5 : Int32} {j0 : Nat} {F : Mem} {H : Heap} {locs : List Loc} {ls : Array Slot} (o0 : oO L 12 i0) (oy0 : oO L 12 j0) (hI : Iv X L s H locs F) (hl : lv_has ls 6 [(0, .ref (mAd X i0)), (1, .int x1), (2, .int x2), (3, .int x3), (4, .int x4), (5, .int x5)]) (h : b_Md_readTree_130 L k70 i0 x1 x2 x3 x4 x5 j0 F = some out) : W p l e (headSpec w_Md_readTree r_Md_readTree).room s m args below meth c H locs 0 0 (MQ below (QV X L out) args s 0 0 (AA X L)) (F0 m 130 ls [.ref (mAd X j0)]) := by
  unfold b_Md_readTree_130 at h
  obtain ⟨S, hK, hT, hW, hr, hlk⟩ := id hC
  have hx := S.1
  have hb := S.2.1
  refine lv_iconst (v := 1) hx hb d_Md_readTree_130 rfl ?_
  refine lv_goto (tgt := 135) hx hb d_Md_readTree_131 rfl ?_
  exact t_Md_readTree_135 hC hk70 o0 oy0 hI hl h
def b_Md_readTree_113 (L : La) (k70 : Nat → Int32 → Int32 → Int32 → Int32 → Mem → Option Mem) (i0 : Nat) (x1 : Int32) (x2 : Int32) (x3 : Int32) (x4 : Int32) (y0 : Int32) (F : Mem) : Option Mem :=
  if (F i0 5) = 0 then
    if y0 ≤ (7 : Int32) then
      b_Md_readTree_135 L k70 i0 x1 x2 x3 x4 y0 i0 (0 : Int32) F
    else
      b_Md_readTree_130 L k70 i0 x1 x2 x3 x4 y0 i0 F
  else
    b_Md_readTree_130 L k70 i0 x1 x2 x3 x4 y0 i0 F
set_option maxHeartbeats 4000000 in
theorem t_Md_readTree_113 (hC : Cx X L p s m args meth c cc_Md_readTree 6 w_Md_readTree R_Md none) {k70 : Nat → Int32 → Int32 → Int32 → Int32 → Mem → Option Mem} {out : Mem} (hk70 : ∀ (i0 : Nat) (x1 : Int32) (x2 : Int32) (x3 : Int32) (x4 : Int32) (F : Mem) (H : Heap) (locs : List Loc) (ls : Array Slot), oO L 12 i0 → Iv X L s H locs F → lv_has ls 6 [(0, .ref (mAd X i0)), (1, .int x1), (2, .int x2), (3, .int x3), (4, .int x4)] → k70 i0 x1 x2 x3 x4 F = some out → W p l e (headSpec w_Md_readTree r_Md_readTree).room s m args below meth c H locs 0 0 (MQ below (QV X L out) args s 0 0 (AA X L)) (F0 m 70 ls [])) {i0 : Nat} {x1 : Int32} {x2 : Int32} {x3 : Int32} {x4 : Int32} {y0 : Int32} {F : Mem} {H : Heap} {locs : List Loc} {ls : Array Slot} (o0 : oO L 12 i0) (hI : Iv X L s H locs F) (hl : lv_has ls 6 [(0, .ref (mAd X i0)), (1, .int x1), (2, .int x2), (3, .int x3), (4, .int x4)]) (h : b_Md_readTree_113 L k70 i0 x1 x2 x3 x4 y0 F = some out) : W p l e (headSpec w_Md_readTree r_Md_readTree).room s m args below meth c H locs 0 0 (MQ below (QV X L out) args s 0 0 (AA X L)) (F0 m 113 ls [.int y0]) := by
  unfold b_Md_readTree_113 at h
  obtain ⟨S, hK, hT, hW, hr, hlk⟩ := id hC
  have hx := S.1
  have hb := S.2.1
  refine lv_istore (lv' := [(5, .int y0), (0, .ref (mAd X i0)), (1, .int x1), (2, .int x2), (3, .int x3), (4, .int x4)]) hx hb d_Md_readTree_113 hl (by decide) rfl (fun ls hl => ?_)
  refine lv_aload_n hx hb d_Md_readTree_115 rfl (lv_at hl 1 rfl) ?_
  refine lv_aload_n hx hb d_Md_readTree_116 rfl (lv_at hl 1 rfl) ?_
  refine w_getI (T := T_Md) S hK hI o0 rfl hin_Md 5 (index := 102) (by decide) lf_Md_102 d_Md_readTree_117 ?_
  refine lv_if_ne (tgt := 130) hx hb d_Md_readTree_120 rfl (fun hc => ?_) (fun hc => ?_)
  · replace h := (if_neg hc).symm.trans h
    exact t_Md_readTree_130 hC hk70 o0 o0 hI (lv_sub hl [1, 2, 3, 4, 5, 0] rfl) h
  · replace h := (if_pos hc).symm.trans h
    refine lv_iload hx hb d_Md_readTree_123 (lv_at hl 0 rfl) ?_
    refine lv_bipush (v := 7) hx hb d_Md_readTree_125 (by decide) ?_
    refine lv_icmp_le (tgt := 134) hx hb d_Md_readTree_127 rfl (fun hc => ?_) (fun hc => ?_)
    · replace h := (if_pos hc).symm.trans h
      refine lv_iconst (v := 0) hx hb d_Md_readTree_134 rfl ?_
      exact t_Md_readTree_135 hC hk70 o0 o0 hI (lv_sub hl [1, 2, 3, 4, 5, 0] rfl) h
    · replace h := (if_neg hc).symm.trans h
      exact t_Md_readTree_130 hC hk70 o0 o0 hI (lv_sub hl [1, 2, 3, 4, 5, 0] rfl) h
def b_Md_readTree_95 (L : La) (k70 : Nat → Int32 → Int32 → Int32 → Int32 → Mem → Option Mem) (i0 : Nat) (x1 : Int32) (x2 : Int32) (x4 : Int32) (y0 : Int32) (F : Mem) : Option Mem :=
  if (jrem x4 (2 : Int32)) = 0 then
    b_Md_readTree_113 L k70 i0 x1 x2 y0 x4 (jshr y0 (4 : Int32)) F
  else
    b_Md_readTree_113 L k70 i0 x1 x2 y0 x4 (y0 &&& (15 : Int32)) F
set_option maxHeartbeats 4000000 in
theorem t_Md_readTree_95 (hC : Cx X L p s m args meth c cc_Md_readTree 6 w_Md_readTree R_Md none) {k70 : Nat → Int32 → Int32 → Int32 → Int32 → Mem → Option Mem} {out : Mem} (hk70 : ∀ (i0 : Nat) (x1 : Int32) (x2 : Int32) (x3 : Int32) (x4 : Int32) (F : Mem) (H : Heap) (locs : List Loc) (ls : Array Slot), oO L 12 i0 → Iv X L s H locs F → lv_has ls 6 [(0, .ref (mAd X i0)), (1, .int x1), (2, .int x2), (3, .int x3), (4, .int x4)] → k70 i0 x1 x2 x3 x4 F = some out → W p l e (headSpec w_Md_readTree r_Md_readTree).room s m args below meth c H locs 0 0 (MQ below (QV X L out) args s 0 0 (AA X L)) (F0 m 70 ls [])) {i0 : Nat} {x1 : Int32} {x2 : Int32} {x4 : Int32} {y0 : Int32} {F : Mem} {H : Heap} {locs : List Loc} {ls : Array Slot} (o0 : oO L 12 i0) (hI : Iv X L s H locs F) (hl : lv_has ls 6 [(0, .ref (mAd X i0)), (1, .int x1), (2, .int x2), (4, .int x4)]) (h : b_Md_readTree_95 L k70 i0 x1 x2 x4 y0 F = some out) : W p l e (headSpec w_Md_readTree r_Md_readTree).room s m args below meth c H locs 0 0 (MQ below (QV X L out) args s 0 0 (AA X L)) (F0 m 95 ls [.int y0]) := by
  unfold b_Md_readTree_95 at h
  obtain ⟨S, hK, hT, hW, hr, hlk⟩ := id hC
  have hx := S.1
  have hb := S.2.1
  refine lv_istore_n (lv' := [(3, .int y0), (0, .ref (mAd X i0)), (1, .int x1), (2, .int x2), (4, .int x4)]) hx hb d_Md_readTree_95 rfl hl (by decide) rfl (fun ls hl => ?_)
  refine lv_iload hx hb d_Md_readTree_96 (lv_at hl 4 rfl) ?_
  refine lv_iconst (v := 2) hx hb d_Md_readTree_98 rfl ?_
  refine lv_irem hx hb d_Md_readTree_99 (by decide) ?_
  refine lv_if_ne (tgt := 109) hx hb d_Md_readTree_100 rfl (fun hc => ?_) (fun hc => ?_)
  · replace h := (if_neg hc).symm.trans h
    refine lv_iload_n hx hb d_Md_readTree_109 rfl (lv_at hl 0 rfl) ?_
    refine lv_bipush (v := 15) hx hb d_Md_readTree_110 (by decide) ?_
    refine lv_iand hx hb d_Md_readTree_112 ?_
    exact t_Md_readTree_113 hC hk70 o0 hI (lv_sub hl [1, 2, 3, 0, 4] rfl) h
  · replace h := (if_pos hc).symm.trans h
    refine lv_iload_n hx hb d_Md_readTree_103 rfl (lv_at hl 0 rfl) ?_
    refine lv_iconst (v := 4) hx hb d_Md_readTree_104 rfl ?_
    refine lv_ishr hx hb d_Md_readTree_105 ?_
    refine lv_goto (tgt := 113) hx hb d_Md_readTree_106 rfl ?_
    exact t_Md_readTree_113 hC hk70 o0 hI (lv_sub hl [1, 2, 3, 0, 4] rfl) h
def b_Md_readTree_70 (L : La) (k70 : Nat → Int32 → Int32 → Int32 → Int32 → Mem → Option Mem) (i0 : Nat) (x1 : Int32) (x2 : Int32) (x3 : Int32) (x4 : Int32) (F : Mem) : Option Mem :=
  if (F i0 17) ≤ x4 then
    if (F i0 5) = 0 then
      if x2 = 0 then
        b_Md_readTree_213 L  i0 x2 i0 F
      else
        if (jrem (F i0 17) (2 : Int32)) = (1 : Int32) then
          if (x3 &&& (15 : Int32)) = 0 then
            b_Md_readTree_217 L  i0 x2 i0 F
          else
            b_Md_readTree_213 L  i0 x2 i0 F
        else
          b_Md_readTree_217 L  i0 x2 i0 F
    else
      b_Md_readTree_213 L  i0 x2 i0 F
  else
    if (jrem x4 (2 : Int32)) = 0 then
      (f_Md_next L i0 x1 F).bind fun q1 =>
      b_Md_readTree_95 L k70 i0 x1 x2 x4 q1.1 q1.2
    else
      b_Md_readTree_95 L k70 i0 x1 x2 x4 x3 F
set_option maxHeartbeats 4000000 in
theorem t_Md_readTree_70 (hC : Cx X L p s m args meth c cc_Md_readTree 6 w_Md_readTree R_Md none) {k70 : Nat → Int32 → Int32 → Int32 → Int32 → Mem → Option Mem} {out : Mem} (hk70 : ∀ (i0 : Nat) (x1 : Int32) (x2 : Int32) (x3 : Int32) (x4 : Int32) (F : Mem) (H : Heap) (locs : List Loc) (ls : Array Slot), oO L 12 i0 → Iv X L s H locs F → lv_has ls 6 [(0, .ref (mAd X i0)), (1, .int x1), (2, .int x2), (3, .int x3), (4, .int x4)] → k70 i0 x1 x2 x3 x4 F = some out → W p l e (headSpec w_Md_readTree r_Md_readTree).room s m args below meth c H locs 0 0 (MQ below (QV X L out) args s 0 0 (AA X L)) (F0 m 70 ls [])) {i0 : Nat} {x1 : Int32} {x2 : Int32} {x3 : Int32} {x4 : Int32} {F : Mem} {H : Heap} {locs : List Loc} {ls : Array Slot} (o0 : oO L 12 i0) (hI : Iv X L s H locs F) (hl : lv_has ls 6 [(0, .ref (mAd X i0)), (1, .int x1), (2, .int x2), (3, .int x3), (4, .int x4)]) (h : b_Md_readTree_70 L k70 i0 x1 x2 x3 x4 F = some out) : W p l e (headSpec w_Md_readTree r_Md_readTree).room s m args below meth c H locs 0 0 (MQ below (QV X L out) args s 0 0 (AA X L)) (F0 m 70 ls []) := by
  unfold b_Md_readTree_70 at h
  obtain ⟨S, hK, hT, hW, hr, hlk⟩ := id hC
  have hx := S.1
  have hb := S.2.1
  refine lv_iload hx hb d_Md_readTree_70 (lv_at hl 4 rfl) ?_
  refine lv_aload_n hx hb d_Md_readTree_72 rfl (lv_at hl 0 rfl) ?_
  refine w_getI (T := T_Md) S hK hI o0 rfl hin_Md 17 (index := 172) (by decide) lf_Md_172 d_Md_readTree_73 ?_
  refine lv_icmp_ge (tgt := 184) hx hb d_Md_readTree_76 rfl (fun hc => ?_) (fun hc => ?_)
  · replace h := (if_pos hc).symm.trans h
    refine lv_aload_n hx hb d_Md_readTree_184 rfl (lv_at hl 0 rfl) ?_
    refine lv_aload_n hx hb d_Md_readTree_185 rfl (lv_at hl 0 rfl) ?_
    refine w_getI (T := T_Md) S hK hI o0 rfl hin_Md 5 (index := 102) (by decide) lf_Md_102 d_Md_readTree_186 ?_
    refine lv_if_ne (tgt := 213) hx hb d_Md_readTree_189 rfl (fun hc => ?_) (fun hc => ?_)
    · replace h := (if_neg hc).symm.trans h
      exact t_Md_readTree_213 hC  o0 o0 hI (lv_sub hl [0, 2] rfl) h
    · replace h := (if_pos hc).symm.trans h
      refine lv_iload_n hx hb d_Md_readTree_192 rfl (lv_at hl 2 rfl) ?_
      refine lv_if_eq (tgt := 213) hx hb d_Md_readTree_193 rfl (fun hc => ?_) (fun hc => ?_)
      · replace h := (if_pos hc).symm.trans h
        exact t_Md_readTree_213 hC  o0 o0 hI (lv_sub hl [0, 2] rfl) h
      · replace h := (if_neg hc).symm.trans h
        refine lv_aload_n hx hb d_Md_readTree_196 rfl (lv_at hl 0 rfl) ?_
        refine w_getI (T := T_Md) S hK hI o0 rfl hin_Md 17 (index := 172) (by decide) lf_Md_172 d_Md_readTree_197 ?_
        refine lv_iconst (v := 2) hx hb d_Md_readTree_200 rfl ?_
        refine lv_irem hx hb d_Md_readTree_201 (by decide) ?_
        refine lv_iconst (v := 1) hx hb d_Md_readTree_202 rfl ?_
        refine lv_icmp_ne (tgt := 217) hx hb d_Md_readTree_203 rfl (fun hc => ?_) (fun hc => ?_)
        · replace h := (if_neg hc).symm.trans h
          exact t_Md_readTree_217 hC  o0 o0 hI (lv_sub hl [0, 2] rfl) h
        · replace h := (if_pos hc).symm.trans h
          refine lv_iload_n hx hb d_Md_readTree_206 rfl (lv_at hl 3 rfl) ?_
          refine lv_bipush (v := 15) hx hb d_Md_readTree_207 (by decide) ?_
          refine lv_iand hx hb d_Md_readTree_209 ?_
          refine lv_if_eq (tgt := 217) hx hb d_Md_readTree_210 rfl (fun hc => ?_) (fun hc => ?_)
          · replace h := (if_pos hc).symm.trans h
            exact t_Md_readTree_217 hC  o0 o0 hI (lv_sub hl [0, 2] rfl) h
          · replace h := (if_neg hc).symm.trans h
            exact t_Md_readTree_213 hC  o0 o0 hI (lv_sub hl [0, 2] rfl) h
  · replace h := (if_neg hc).symm.trans h
    refine lv_iload hx hb d_Md_readTree_79 (lv_at hl 4 rfl) ?_
    refine lv_iconst (v := 2) hx hb d_Md_readTree_81 rfl ?_
    refine lv_irem hx hb d_Md_readTree_82 (by decide) ?_
    refine lv_if_ne (tgt := 94) hx hb d_Md_readTree_83 rfl (fun hc => ?_) (fun hc => ?_)
    · replace h := (if_neg hc).symm.trans h
      refine lv_iload_n hx hb d_Md_readTree_94 rfl (lv_at hl 3 rfl) ?_
      exact t_Md_readTree_95 hC hk70 o0 hI (lv_sub hl [0, 1, 2, 4] rfl) h
    · replace h := (if_pos hc).symm.trans h
      refine lv_aload_n hx hb d_Md_readTree_86 rfl (lv_at hl 0 rfl) ?_
      refine lv_iload_n hx hb d_Md_readTree_87 rfl (lv_at hl 1 rfl) ?_
      obtain ⟨q1, e2, h⟩ := un_bi h
      refine w_callVi (As := [.int x1]) (rest := []) S hK hI hT (c_Md_next l hW o0 e2) (cwV 1 S.2.2.2.2 (gd_V lc_Md_next lm_Md_125 li_Md_next ls_Md_next ln_Md) rfl rfl rfl hd_Md_next ⟨Nat.le_of_ble_eq_true rfl, Nat.le_of_ble_eq_true rfl⟩) o0 rfl (by decide) rfl rfl hl.1 (Nat.le_of_ble_eq_true rfl) d_Md_readTree_88 ⟨Nat.zero_le _, Nat.zero_le _⟩ (fun H locs hI => ?_)
      refine lv_goto (tgt := 95) hx hb d_Md_readTree_91 rfl ?_
      exact t_Md_readTree_95 hC hk70 o0 hI (lv_sub hl [0, 1, 2, 4] rfl) h
def f_Md_readTree_70 (L : La)  : Nat → Nat → Int32 → Int32 → Int32 → Int32 → Mem → Option Mem
  | 0 => fun _ _ _ _ _ _ => none
  | n + 1 => b_Md_readTree_70 L (f_Md_readTree_70 L  n)
theorem tf_Md_readTree_70 (hC : Cx X L p s m args meth c cc_Md_readTree 6 w_Md_readTree R_Md none)  {out : Mem}  (n : Nat) : ∀ (i0 : Nat) (x1 : Int32) (x2 : Int32) (x3 : Int32) (x4 : Int32) (F : Mem) (H : Heap) (locs : List Loc) (ls : Array Slot), oO L 12 i0 → Iv X L s H locs F → lv_has ls 6 [(0, .ref (mAd X i0)), (1, .int x1), (2, .int x2), (3, .int x3), (4, .int x4)] → f_Md_readTree_70 L  n i0 x1 x2 x3 x4 F = some out → W p l e (headSpec w_Md_readTree r_Md_readTree).room s m args below meth c H locs 0 0 (MQ below (QV X L out) args s 0 0 (AA X L)) (F0 m 70 ls []) := by
  induction n with
  | zero => intro i0 x1 x2 x3 x4 F H locs ls o0 hI hl h; cases h
  | succ n ih => intro i0 x1 x2 x3 x4 F H locs ls o0 hI hl h; exact t_Md_readTree_70 hC ih o0 hI hl h
def f_Md_readTree (L : La) (i0 : Nat) (x1 : Int32) (F : Mem) : Option Mem :=
  (f_Md_next L i0 x1 F).bind fun q1 =>
  lt' (u2 q1.2 i0 16 q1.1) fun F3 =>
  (f_Md_next L i0 x1 F3).bind fun q5 =>
  lt' (u2 q5.2 i0 17 q5.1) fun F7 =>
  if (F7 i0 5) = 0 then
    if (F7 i0 17) < (1 : Int32) then
      b_Md_readTree_57 L  i0 F7
    else
      if (16 : Int32) < (F7 i0 17) then
        b_Md_readTree_57 L  i0 F7
      else
        if ((F7 i0 16) + (F7 i0 17)) ≤ (255 : Int32) then
          f_Md_readTree_70 L  mFU i0 x1 (0 : Int32) (0 : Int32) (0 : Int32) F7
        else
          b_Md_readTree_57 L  i0 F7
  else
    b_Md_readTree_57 L  i0 F7
set_option maxHeartbeats 4000000 in
theorem c_Md_readTree (l : Launch) {X : Xs} {L : La} (hW : WT L) {out : Mem} {i0 : Nat} {x1 : Int32} {F : Mem} (o0 : oO L 12 i0) (h : f_Md_readTree L i0 x1 F = some out) : Met l y_Md_readTree w_Md_readTree r_Md_readTree (va_Pc [.ref (mAd X i0), .int x1] (Pr X L F)) (QV X L out) 0 0 (AA X L) := by
  refine mk_met (by decide) rfl (Nat.le_of_ble_eq_true rfl) hW ?_
  intro p e s m args below meth c ls hC hI hl
  have hl : lv_has ls 6 [(0, .ref (mAd X i0)), (1, .int x1)] := hl
  generalize hHe : s.heap = H at hI ⊢
  generalize ([] : List Loc) = locs at hI ⊢
  unfold f_Md_readTree at h
  obtain ⟨S, hK, hT, hW, hr, hlk⟩ := id hC
  have hx := S.1
  have hb := S.2.1
  refine lv_aload_n hx hb d_Md_readTree_0 rfl (lv_at hl 0 rfl) ?_
  refine lv_aload_n hx hb d_Md_readTree_1 rfl (lv_at hl 0 rfl) ?_
  refine lv_iload_n hx hb d_Md_readTree_2 rfl (lv_at hl 1 rfl) ?_
  obtain ⟨q1, e2, h⟩ := un_bi h
  refine w_callVi (As := [.int x1]) (rest := [.ref (mAd X i0)]) S hK hI hT (c_Md_next l hW o0 e2) (cwV 1 S.2.2.2.2 (gd_V lc_Md_next lm_Md_125 li_Md_next ls_Md_next ln_Md) rfl rfl rfl hd_Md_next ⟨Nat.le_of_ble_eq_true rfl, Nat.le_of_ble_eq_true rfl⟩) o0 rfl (by decide) rfl rfl hl.1 (Nat.le_of_ble_eq_true rfl) d_Md_readTree_3 ⟨Nat.zero_le _, Nat.zero_le _⟩ (fun H locs hI => ?_)
  refine w_putI (T := T_Md) S hK hI o0 rfl hin_Md ty_Md tk_Md nm_Md 16 (index := 166) (by decide) lf_Md_166 rfl d_Md_readTree_6 (fun H locs F3 e4 hI => ?_)
  replace h := un_lt h _ e4
  refine lv_aload_n hx hb d_Md_readTree_9 rfl (lv_at hl 0 rfl) ?_
  refine lv_aload_n hx hb d_Md_readTree_10 rfl (lv_at hl 0 rfl) ?_
  refine lv_iload_n hx hb d_Md_readTree_11 rfl (lv_at hl 1 rfl) ?_
  obtain ⟨q5, e6, h⟩ := un_bi h
  refine w_callVi (As := [.int x1]) (rest := [.ref (mAd X i0)]) S hK hI hT (c_Md_next l hW o0 e6) (cwV 1 S.2.2.2.2 (gd_V lc_Md_next lm_Md_125 li_Md_next ls_Md_next ln_Md) rfl rfl rfl hd_Md_next ⟨Nat.le_of_ble_eq_true rfl, Nat.le_of_ble_eq_true rfl⟩) o0 rfl (by decide) rfl rfl hl.1 (Nat.le_of_ble_eq_true rfl) d_Md_readTree_12 ⟨Nat.zero_le _, Nat.zero_le _⟩ (fun H locs hI => ?_)
  refine w_putI (T := T_Md) S hK hI o0 rfl hin_Md ty_Md tk_Md nm_Md 17 (index := 172) (by decide) lf_Md_172 rfl d_Md_readTree_15 (fun H locs F7 e8 hI => ?_)
  replace h := un_lt h _ e8
  refine lv_aload_n hx hb d_Md_readTree_18 rfl (lv_at hl 0 rfl) ?_
  refine w_getI (T := T_Md) S hK hI o0 rfl hin_Md 5 (index := 102) (by decide) lf_Md_102 d_Md_readTree_19 ?_
  refine lv_if_ne (tgt := 57) hx hb d_Md_readTree_22 rfl (fun hc => ?_) (fun hc => ?_)
  · replace h := (if_neg hc).symm.trans h
    exact t_Md_readTree_57 hC  o0 hI (lv_sub hl [0] rfl) h
  · replace h := (if_pos hc).symm.trans h
    refine lv_aload_n hx hb d_Md_readTree_25 rfl (lv_at hl 0 rfl) ?_
    refine w_getI (T := T_Md) S hK hI o0 rfl hin_Md 17 (index := 172) (by decide) lf_Md_172 d_Md_readTree_26 ?_
    refine lv_iconst (v := 1) hx hb d_Md_readTree_29 rfl ?_
    refine lv_icmp_lt (tgt := 57) hx hb d_Md_readTree_30 rfl (fun hc => ?_) (fun hc => ?_)
    · replace h := (if_pos hc).symm.trans h
      exact t_Md_readTree_57 hC  o0 hI (lv_sub hl [0] rfl) h
    · replace h := (if_neg hc).symm.trans h
      refine lv_aload_n hx hb d_Md_readTree_33 rfl (lv_at hl 0 rfl) ?_
      refine w_getI (T := T_Md) S hK hI o0 rfl hin_Md 17 (index := 172) (by decide) lf_Md_172 d_Md_readTree_34 ?_
      refine lv_bipush (v := 16) hx hb d_Md_readTree_37 (by decide) ?_
      refine lv_icmp_gt (tgt := 57) hx hb d_Md_readTree_39 rfl (fun hc => ?_) (fun hc => ?_)
      · replace h := (if_pos hc).symm.trans h
        exact t_Md_readTree_57 hC  o0 hI (lv_sub hl [0] rfl) h
      · replace h := (if_neg hc).symm.trans h
        refine lv_aload_n hx hb d_Md_readTree_42 rfl (lv_at hl 0 rfl) ?_
        refine w_getI (T := T_Md) S hK hI o0 rfl hin_Md 16 (index := 166) (by decide) lf_Md_166 d_Md_readTree_43 ?_
        refine lv_aload_n hx hb d_Md_readTree_46 rfl (lv_at hl 0 rfl) ?_
        refine w_getI (T := T_Md) S hK hI o0 rfl hin_Md 17 (index := 172) (by decide) lf_Md_172 d_Md_readTree_47 ?_
        refine lv_iadd hx hb d_Md_readTree_50 ?_
        refine lv_sipush (v := 255) hx hb d_Md_readTree_51 (by decide) ?_
        refine lv_icmp_le (tgt := 63) hx hb d_Md_readTree_54 rfl (fun hc => ?_) (fun hc => ?_)
        · replace h := (if_pos hc).symm.trans h
          refine lv_iconst (v := 0) hx hb d_Md_readTree_63 rfl ?_
          refine lv_istore_n (lv' := [(2, .int (0 : Int32)), (0, .ref (mAd X i0)), (1, .int x1)]) hx hb d_Md_readTree_64 rfl hl (by decide) rfl (fun ls hl => ?_)
          refine lv_iconst (v := 0) hx hb d_Md_readTree_65 rfl ?_
          refine lv_istore_n (lv' := [(3, .int (0 : Int32)), (2, .int (0 : Int32)), (0, .ref (mAd X i0)), (1, .int x1)]) hx hb d_Md_readTree_66 rfl hl (by decide) rfl (fun ls hl => ?_)
          refine lv_iconst (v := 0) hx hb d_Md_readTree_67 rfl ?_
          refine lv_istore (lv' := [(4, .int (0 : Int32)), (3, .int (0 : Int32)), (2, .int (0 : Int32)), (0, .ref (mAd X i0)), (1, .int x1)]) hx hb d_Md_readTree_68 hl (by decide) rfl (fun ls hl => ?_)
          exact tf_Md_readTree_70 hC  mFU _ _ _ _ _ _ _ _ _ o0 hI (lv_sub hl [3, 4, 2, 1, 0] rfl) h
        · replace h := (if_neg hc).symm.trans h
          exact t_Md_readTree_57 hC  o0 hI (lv_sub hl [0] rfl) h
end
theorem d_Md_openStream_0 : decode cc_Md_openStream 0 = .ok (.aload_n 0, 1) := by decide +kernel
theorem d_Md_openStream_1 : decode cc_Md_openStream 1 = .ok (.iconst 0, 1) := by decide +kernel
theorem d_Md_openStream_2 : decode cc_Md_openStream 2 = .ok (.putfield 115, 3) := by decide +kernel
theorem d_Md_openStream_5 : decode cc_Md_openStream 5 = .ok (.aload_n 0, 1) := by decide +kernel
theorem d_Md_openStream_6 : decode cc_Md_openStream 6 = .ok (.aload_n 0, 1) := by decide +kernel
theorem d_Md_openStream_7 : decode cc_Md_openStream 7 = .ok (.getfield 99, 3) := by decide +kernel
theorem d_Md_openStream_10 : decode cc_Md_openStream 10 = .ok (.putfield 118, 3) := by decide +kernel
theorem d_Md_openStream_13 : decode cc_Md_openStream 13 = .ok (.aload_n 0, 1) := by decide +kernel
theorem d_Md_openStream_14 : decode cc_Md_openStream 14 = .ok (.getfield 102, 3) := by decide +kernel
theorem d_Md_openStream_17 : decode cc_Md_openStream 17 = .ok (.ifCond .ne (18), 3) := by decide +kernel
theorem d_Md_openStream_20 : decode cc_Md_openStream 20 = .ok (.iload_n 1, 1) := by decide +kernel
theorem d_Md_openStream_21 : decode cc_Md_openStream 21 = .ok (.iconst 1, 1) := by decide +kernel
theorem d_Md_openStream_22 : decode cc_Md_openStream 22 = .ok (.if_icmp .lt (13), 3) := by decide +kernel
theorem d_Md_openStream_25 : decode cc_Md_openStream 25 = .ok (.aload_n 0, 1) := by decide +kernel
theorem d_Md_openStream_26 : decode cc_Md_openStream 26 = .ok (.getfield 99, 3) := by decide +kernel
theorem d_Md_openStream_29 : decode cc_Md_openStream 29 = .ok (.iload_n 1, 1) := by decide +kernel
theorem d_Md_openStream_30 : decode cc_Md_openStream 30 = .ok (.iadd, 1) := by decide +kernel
theorem d_Md_openStream_31 : decode cc_Md_openStream 31 = .ok (.iload_n 2, 1) := by decide +kernel
theorem d_Md_openStream_32 : decode cc_Md_openStream 32 = .ok (.if_icmp .le (9), 3) := by decide +kernel
theorem d_Md_openStream_35 : decode cc_Md_openStream 35 = .ok (.aload_n 0, 1) := by decide +kernel
theorem d_Md_openStream_36 : decode cc_Md_openStream 36 = .ok (.iconst 1, 1) := by decide +kernel
theorem d_Md_openStream_37 : decode cc_Md_openStream 37 = .ok (.putfield 102, 3) := by decide +kernel
theorem d_Md_openStream_40 : decode cc_Md_openStream 40 = .ok (.return_, 1) := by decide +kernel
theorem d_Md_openStream_41 : decode cc_Md_openStream 41 = .ok (.aload_n 0, 1) := by decide +kernel
theorem d_Md_openStream_42 : decode cc_Md_openStream 42 = .ok (.dup, 1) := by decide +kernel
theorem d_Md_openStream_43 : decode cc_Md_openStream 43 = .ok (.getfield 99, 3) := by decide +kernel
theorem d_Md_openStream_46 : decode cc_Md_openStream 46 = .ok (.iload_n 1, 1) := by decide +kernel
theorem d_Md_openStream_47 : decode cc_Md_openStream 47 = .ok (.iadd, 1) := by decide +kernel
theorem d_Md_openStream_48 : decode cc_Md_openStream 48 = .ok (.putfield 99, 3) := by decide +kernel
theorem d_Md_openStream_51 : decode cc_Md_openStream 51 = .ok (.aload_n 0, 1) := by decide +kernel
theorem d_Md_openStream_52 : decode cc_Md_openStream 52 = .ok (.getfield 13, 3) := by decide +kernel
theorem d_Md_openStream_55 : decode cc_Md_openStream 55 = .ok (.aload_n 0, 1) := by decide +kernel
theorem d_Md_openStream_56 : decode cc_Md_openStream 56 = .ok (.getfield 99, 3) := by decide +kernel
theorem d_Md_openStream_59 : decode cc_Md_openStream 59 = .ok (.iconst 1, 1) := by decide +kernel
theorem d_Md_openStream_60 : decode cc_Md_openStream 60 = .ok (.isub, 1) := by decide +kernel
theorem d_Md_openStream_61 : decode cc_Md_openStream 61 = .ok (.iaload, 1) := by decide +kernel
theorem d_Md_openStream_62 : decode cc_Md_openStream 62 = .ok (.istore_n 3, 1) := by decide +kernel
theorem d_Md_openStream_63 : decode cc_Md_openStream 63 = .ok (.iload_n 3, 1) := by decide +kernel
theorem d_Md_openStream_64 : decode cc_Md_openStream 64 = .ok (.ifCond .ne (8), 3) := by decide +kernel
theorem d_Md_openStream_67 : decode cc_Md_openStream 67 = .ok (.aload_n 0, 1) := by decide +kernel
theorem d_Md_openStream_68 : decode cc_Md_openStream 68 = .ok (.iconst 1, 1) := by decide +kernel
theorem d_Md_openStream_69 : decode cc_Md_openStream 69 = .ok (.putfield 102, 3) := by decide +kernel
theorem d_Md_openStream_72 : decode cc_Md_openStream 72 = .ok (.aload_n 0, 1) := by decide +kernel
theorem d_Md_openStream_73 : decode cc_Md_openStream 73 = .ok (.bipush (8), 2) := by decide +kernel
theorem d_Md_openStream_75 : decode cc_Md_openStream 75 = .ok (.iload_n 1, 1) := by decide +kernel
theorem d_Md_openStream_76 : decode cc_Md_openStream 76 = .ok (.imul, 1) := by decide +kernel
theorem d_Md_openStream_77 : decode cc_Md_openStream 77 = .ok (.iconst 1, 1) := by decide +kernel
theorem d_Md_openStream_78 : decode cc_Md_openStream 78 = .ok (.isub, 1) := by decide +kernel
theorem d_Md_openStream_79 : decode cc_Md_openStream 79 = .ok (.putfield 115, 3) := by decide +kernel
theorem d_Md_openStream_82 : decode cc_Md_openStream 82 = .ok (.aload_n 0, 1) := by decide +kernel
theorem d_Md_openStream_83 : decode cc_Md_openStream 83 = .ok (.getfield 115, 3) := by decide +kernel
theorem d_Md_openStream_86 : decode cc_Md_openStream 86 = .ok (.bipush (8), 2) := by decide +kernel
theorem d_Md_openStream_88 : decode cc_Md_openStream 88 = .ok (.iload_n 1, 1) := by decide +kernel
theorem d_Md_openStream_89 : decode cc_Md_openStream 89 = .ok (.imul, 1) := by decide +kernel
theorem d_Md_openStream_90 : decode cc_Md_openStream 90 = .ok (.bipush (8), 2) := by decide +kernel
theorem d_Md_openStream_92 : decode cc_Md_openStream 92 = .ok (.isub, 1) := by decide +kernel
theorem d_Md_openStream_93 : decode cc_Md_openStream 93 = .ok (.if_icmp .le (33), 3) := by decide +kernel
theorem d_Md_openStream_96 : decode cc_Md_openStream 96 = .ok (.iload_n 3, 1) := by decide +kernel
theorem d_Md_openStream_97 : decode cc_Md_openStream 97 = .ok (.aload_n 0, 1) := by decide +kernel
theorem d_Md_openStream_98 : decode cc_Md_openStream 98 = .ok (.getfield 115, 3) := by decide +kernel
theorem d_Md_openStream_101 : decode cc_Md_openStream 101 = .ok (.bipush (8), 2) := by decide +kernel
theorem d_Md_openStream_103 : decode cc_Md_openStream 103 = .ok (.iload_n 1, 1) := by decide +kernel
theorem d_Md_openStream_104 : decode cc_Md_openStream 104 = .ok (.imul, 1) := by decide +kernel
theorem d_Md_openStream_105 : decode cc_Md_openStream 105 = .ok (.isub, 1) := by decide +kernel
theorem d_Md_openStream_106 : decode cc_Md_openStream 106 = .ok (.bipush (8), 2) := by decide +kernel
theorem d_Md_openStream_108 : decode cc_Md_openStream 108 = .ok (.iadd, 1) := by decide +kernel
theorem d_Md_openStream_109 : decode cc_Md_openStream 109 = .ok (.ishr, 1) := by decide +kernel
theorem d_Md_openStream_110 : decode cc_Md_openStream 110 = .ok (.ifCond .ne (16), 3) := by decide +kernel
theorem d_Md_openStream_113 : decode cc_Md_openStream 113 = .ok (.aload_n 0, 1) := by decide +kernel
theorem d_Md_openStream_114 : decode cc_Md_openStream 114 = .ok (.dup, 1) := by decide +kernel
theorem d_Md_openStream_115 : decode cc_Md_openStream 115 = .ok (.getfield 115, 3) := by decide +kernel
theorem d_Md_openStream_118 : decode cc_Md_openStream 118 = .ok (.iconst 1, 1) := by decide +kernel
theorem d_Md_openStream_119 : decode cc_Md_openStream 119 = .ok (.isub, 1) := by decide +kernel
theorem d_Md_openStream_120 : decode cc_Md_openStream 120 = .ok (.putfield 115, 3) := by decide +kernel
theorem d_Md_openStream_123 : decode cc_Md_openStream 123 = .ok (.goto (-41), 3) := by decide +kernel
theorem d_Md_openStream_126 : decode cc_Md_openStream 126 = .ok (.return_, 1) := by decide +kernel
section
variable {p : Program} {l : Launch} {e : Env} {s : State} {m : MethodId} {args : Array Value} {below : List Frame} {meth : Method} {c : Code} {X : Xs} {L : La}
def b_Md_openStream_35 (L : La)  (i0 : Nat) (F : Mem) : Option Mem :=
  if ¬ ((1 : Int32) = 0 ∨ (1 : Int32) = 1) then none else
  lt' (u2 F i0 5 (1 : Int32)) fun F1 =>
  some F1
set_option maxHeartbeats 4000000 in
theorem t_Md_openStream_35 (hC : Cx X L p s m args meth c cc_Md_openStream 4 w_Md_openStream R_Md none)  {out : Mem}  {i0 : Nat} {F : Mem} {H : Heap} {locs : List Loc} {ls : Array Slot} (o0 : oO L 12 i0) (hI : Iv X L s H locs F) (hl : lv_has ls 4 [(0, .ref (mAd X i0))]) (h : b_Md_openStream_35 L  i0 F = some out) : W p l e (headSpec w_Md_openStream r_Md_openStream).room s m args below meth c H locs 0 0 (MQ below (QV X L out) args s 0 0 (AA X L)) (F0 m 35 ls []) := by
  unfold b_Md_openStream_35 at h
  obtain ⟨S, hK, hT, hW, hr, hlk⟩ := id hC
  have hx := S.1
  have hb := S.2.1
  refine lv_aload_n hx hb d_Md_openStream_35 rfl (lv_at hl 0 rfl) ?_
  refine lv_iconst (v := 1) hx hb d_Md_openStream_36 rfl ?_
  obtain ⟨z3, h⟩ := un_if h
  refine w_putZ (T := T_Md) S hK hI o0 rfl hin_Md ty_Md tk_Md nm_Md 5 (index := 102) (by decide) lf_Md_102 rfl z3 d_Md_openStream_37 (fun H locs F1 e2 hI => ?_)
  replace h := un_lt h _ e2
  exact w_vret S hK hr hlk hI d_Md_openStream_40 h
def b_Md_openStream_126 (L : La)   (F : Mem) : Option Mem :=
  some F
set_option maxHeartbeats 4000000 in
theorem t_Md_openStream_126 (hC : Cx X L p s m args meth c cc_Md_openStream 4 w_Md_openStream R_Md none)  {out : Mem}   {F : Mem} {H : Heap} {locs : List Loc} {ls : Array Slot}  (hI : Iv X L s H locs F) (hl : lv_has ls 4 []) (h : b_Md_openStream_126 L   F = some out) : W p l e (headSpec w_Md_openStream r_Md_openStream).room s m args below meth c H locs 0 0 (MQ below (QV X L out) args s 0 0 (AA X L)) (F0 m 126 ls []) := by
  unfold b_Md_openStream_126 at h
  obtain ⟨S, hK, hT, hW, hr, hlk⟩ := id hC
  have hx := S.1
  have hb := S.2.1
  exact w_vret S hK hr hlk hI d_Md_openStream_126 h
def b_Md_openStream_82 (L : La) (k82 : Nat → Int32 → Int32 → Mem → Option Mem) (i0 : Nat) (x1 : Int32) (x3 : Int32) (F : Mem) : Option Mem :=
  if (F i0 12) ≤ (((8 : Int32) * x1) - (8 : Int32)) then
    b_Md_openStream_126 L   F
  else
    if (jshr x3 (((F i0 12) - ((8 : Int32) * x1)) + (8 : Int32))) = 0 then
      lt' (u2 F i0 12 ((F i0 12) - (1 : Int32))) fun F1 =>
      k82 i0 x1 x3 F1
    else
      b_Md_openStream_126 L   F
set_option maxHeartbeats 4000000 in
theorem t_Md_openStream_82 (hC : Cx X L p s m args meth c cc_Md_openStream 4 w_Md_openStream R_Md none) {k82 : Nat → Int32 → Int32 → Mem → Option Mem} {out : Mem} (hk82 : ∀ (i0 : Nat) (x1 : Int32) (x3 : Int32) (F : Mem) (H : Heap) (locs : List Loc) (ls : Array Slot), oO L 12 i0 → Iv X L s H locs F → lv_has ls 4 [(0, .ref (mAd X i0)), (1, .int x1), (3, .int x3)] → k82 i0 x1 x3 F = some out → W p l e (headSpec w_Md_openStream r_Md_openStream).room s m args below meth c H locs 0 0 (MQ below (QV X L out) args s 0 0 (AA X L)) (F0 m 82 ls [])) {i0 : Nat} {x1 : Int32} {x3 : Int32} {F : Mem} {H : Heap} {locs : List Loc} {ls : Array Slot} (o0 : oO L 12 i0) (hI : Iv X L s H locs F) (hl : lv_has ls 4 [(0, .ref (mAd X i0)), (1, .int x1), (3, .int x3)]) (h : b_Md_openStream_82 L k82 i0 x1 x3 F = some out) : W p l e (headSpec w_Md_openStream r_Md_openStream).room s m args below meth c H locs 0 0 (MQ below (QV X L out) args s 0 0 (AA X L)) (F0 m 82 ls []) := by
  unfold b_Md_openStream_82 at h
  obtain ⟨S, hK, hT, hW, hr, hlk⟩ := id hC
  have hx := S.1
  have hb := S.2.1
  refine lv_aload_n hx hb d_Md_openStream_82 rfl (lv_at hl 0 rfl) ?_
  refine w_getI (T := T_Md) S hK hI o0 rfl hin_Md 12 (index := 115) (by decide) lf_Md_115 d_Md_openStream_83 ?_
  refine lv_bipush (v := 8) hx hb d_Md_openStream_86 (by decide) ?_
  refine lv_iload_n hx hb d_Md_openStream_88 rfl (lv_at hl 1 rfl) ?_
  refine lv_imul hx hb d_Md_openStream_89 ?_
  refine lv_bipush (v := 8) hx hb d_Md_openStream_90 (by decide) ?_
  refine lv_isub hx hb d_Md_openStream_92 ?_
  refine lv_icmp_le (tgt := 126) hx hb d_Md_openStream_93 rfl (fun hc => ?_) (fun hc => ?_)
  · replace h := (if_pos hc).symm.trans h
    exact t_Md_openStream_126 hC   hI (lv_sub hl [] rfl) h
  · replace h := (if_neg hc).symm.trans h
    refine lv_iload_n hx hb d_Md_openStream_96 rfl (lv_at hl 2 rfl) ?_
    refine lv_aload_n hx hb d_Md_openStream_97 rfl (lv_at hl 0 rfl) ?_
    refine w_getI (T := T_Md) S hK hI o0 rfl hin_Md 12 (index := 115) (by decide) lf_Md_115 d_Md_openStream_98 ?_
    refine lv_bipush (v := 8) hx hb d_Md_openStream_101 (by decide) ?_
    refine lv_iload_n hx hb d_Md_openStream_103 rfl (lv_at hl 1 rfl) ?_
    refine lv_imul hx hb d_Md_openStream_104 ?_
    refine lv_isub hx hb d_Md_openStream_105 ?_
    refine lv_bipush (v := 8) hx hb d_Md_openStream_106 (by decide) ?_
    refine lv_iadd hx hb d_Md_openStream_108 ?_
    refine lv_ishr hx hb d_Md_openStream_109 ?_
    refine lv_if_ne (tgt := 126) hx hb d_Md_openStream_110 rfl (fun hc => ?_) (fun hc => ?_)
    · replace h := (if_neg hc).symm.trans h
      exact t_Md_openStream_126 hC   hI (lv_sub hl [] rfl) h
    · replace h := (if_pos hc).symm.trans h
      refine lv_aload_n hx hb d_Md_openStream_113 rfl (lv_at hl 0 rfl) ?_
      refine lv_dup hx hb d_Md_openStream_114 rfl ?_
      refine w_getI (T := T_Md) S hK hI o0 rfl hin_Md 12 (index := 115) (by decide) lf_Md_115 d_Md_openStream_115 ?_
      refine lv_iconst (v := 1) hx hb d_Md_openStream_118 rfl ?_
      refine lv_isub hx hb d_Md_openStream_119 ?_
      refine w_putI (T := T_Md) S hK hI o0 rfl hin_Md ty_Md tk_Md nm_Md 12 (index := 115) (by decide) lf_Md_115 rfl d_Md_openStream_120 (fun H locs F1 e2 hI => ?_)
      replace h := un_lt h _ e2
      refine lv_goto (tgt := 82) hx hb d_Md_openStream_123 rfl ?_
      exact hk82 _ _ _ _ _ _ _ o0 hI hl h
def f_Md_openStream_82 (L : La)  : Nat → Nat → Int32 → Int32 → Mem → Option Mem
  | 0 => fun _ _ _ _ => none
  | n + 1 => b_Md_openStream_82 L (f_Md_openStream_82 L  n)
theorem tf_Md_openStream_82 (hC : Cx X L p s m args meth c cc_Md_openStream 4 w_Md_openStream R_Md none)  {out : Mem}  (n : Nat) : ∀ (i0 : Nat) (x1 : Int32) (x3 : Int32) (F : Mem) (H : Heap) (locs : List Loc) (ls : Array Slot), oO L 12 i0 → Iv X L s H locs F → lv_has ls 4 [(0, .ref (mAd X i0)), (1, .int x1), (3, .int x3)] → f_Md_openStream_82 L  n i0 x1 x3 F = some out → W p l e (headSpec w_Md_openStream r_Md_openStream).room s m args below meth c H locs 0 0 (MQ below (QV X L out) args s 0 0 (AA X L)) (F0 m 82 ls []) := by
  induction n with
  | zero => intro i0 x1 x3 F H locs ls o0 hI hl h; cases h
  | succ n ih => intro i0 x1 x3 F H locs ls o0 hI hl h; exact t_Md_openStream_82 hC ih o0 hI hl h
def b_Md_openStream_72 (L : La)  (i0 : Nat) (x1 : Int32) (x3 : Int32) (F : Mem) : Option Mem :=
  lt' (u2 F i0 12 (((8 : Int32) * x1) - (1 : Int32))) fun F1 =>
  f_Md_openStream_82 L  mFU i0 x1 x3 F1
set_option maxHeartbeats 4000000 in
theorem t_Md_openStream_72 (hC : Cx X L p s m args meth c cc_Md_openStream 4 w_Md_openStream R_Md none)  {out : Mem}  {i0 : Nat} {x1 : Int32} {x3 : Int32} {F : Mem} {H : Heap} {locs : List Loc} {ls : Array Slot} (o0 : oO L 12 i0) (hI : Iv X L s H locs F) (hl : lv_has ls 4 [(0, .ref (mAd X i0)), (1, .int x1), (3, .int x3)]) (h : b_Md_openStream_72 L  i0 x1 x3 F = some out) : W p l e (headSpec w_Md_openStream r_Md_openStream).room s m args below meth c H locs 0 0 (MQ below (QV X L out) args s 0 0 (AA X L)) (F0 m 72 ls []) := by
  unfold b_Md_openStream_72 at h
  obtain ⟨S, hK, hT, hW, hr, hlk⟩ := id hC
  have hx := S.1
  have hb := S.2.1
  refine lv_aload_n hx hb d_Md_openStream_72 rfl (lv_at hl 0 rfl) ?_
  refine lv_bipush (v := 8) hx hb d_Md_openStream_73 (by decide) ?_
  refine lv_iload_n hx hb d_Md_openStream_75 rfl (lv_at hl 1 rfl) ?_
  refine lv_imul hx hb d_Md_openStream_76 ?_
  refine lv_iconst (v := 1) hx hb d_Md_openStream_77 rfl ?_
  refine lv_isub hx hb d_Md_openStream_78 ?_
  refine w_putI (T := T_Md) S hK hI o0 rfl hin_Md ty_Md tk_Md nm_Md 12 (index := 115) (by decide) lf_Md_115 rfl d_Md_openStream_79 (fun H locs F1 e2 hI => ?_)
  replace h := un_lt h _ e2
  exact tf_Md_openStream_82 hC  mFU _ _ _ _ _ _ _ o0 hI hl h
def f_Md_openStream (L : La) (i0 : Nat) (x1 : Int32) (x2 : Int32) (F : Mem) : Option Mem :=
  lt' (u2 F i0 12 (0 : Int32)) fun F1 =>
  lt' (u2 F1 i0 11 (F1 i0 4)) fun F3 =>
  if (F3 i0 5) = 0 then
    if x1 < (1 : Int32) then
      b_Md_openStream_35 L  i0 F3
    else
      if ((F3 i0 4) + x1) ≤ x2 then
        lt' (u2 F3 i0 4 ((F3 i0 4) + x1)) fun F5 =>
        if inb ((F5 i0 4) - (1 : Int32)) (mGl L (mRf L i0 2)) then none else
        if (mGa L F5 (mRf L i0 2) ((F5 i0 4) - (1 : Int32)).toNatClampNeg) = 0 then
          if ¬ ((1 : Int32) = 0 ∨ (1 : Int32) = 1) then none else
          lt' (u2 F5 i0 5 (1 : Int32)) fun F9 =>
          b_Md_openStream_72 L  i0 x1 (mGa L F5 (mRf L i0 2) ((F5 i0 4) - (1 : Int32)).toNatClampNeg) F9
        else
          b_Md_openStream_72 L  i0 x1 (mGa L F5 (mRf L i0 2) ((F5 i0 4) - (1 : Int32)).toNatClampNeg) F5
      else
        b_Md_openStream_35 L  i0 F3
  else
    b_Md_openStream_35 L  i0 F3
set_option maxHeartbeats 4000000 in
theorem c_Md_openStream (l : Launch) {X : Xs} {L : La} (hW : WT L) {out : Mem} {i0 : Nat} {x1 : Int32} {x2 : Int32} {F : Mem} (o0 : oO L 12 i0) (h : f_Md_openStream L i0 x1 x2 F = some out) : Met l y_Md_openStream w_Md_openStream r_Md_openStream (va_Pc [.ref (mAd X i0), .int x1, .int x2] (Pr X L F)) (QV X L out) 0 0 (AA X L) := by
  refine mk_met (by decide) rfl (Nat.le_of_ble_eq_true rfl) hW ?_
  intro p e s m args below meth c ls hC hI hl
  have hl : lv_has ls 4 [(0, .ref (mAd X i0)), (1, .int x1), (2, .int x2)] := hl
  generalize hHe : s.heap = H at hI ⊢
  generalize ([] : List Loc) = locs at hI ⊢
  unfold f_Md_openStream at h
  obtain ⟨S, hK, hT, hW, hr, hlk⟩ := id hC
  have hx := S.1
  have hb := S.2.1
  refine lv_aload_n hx hb d_Md_openStream_0 rfl (lv_at hl 0 rfl) ?_
  refine lv_iconst (v := 0) hx hb d_Md_openStream_1 rfl ?_
  refine w_putI (T := T_Md) S hK hI o0 rfl hin_Md ty_Md tk_Md nm_Md 12 (index := 115) (by decide) lf_Md_115 rfl d_Md_openStream_2 (fun H locs F1 e2 hI => ?_)
  replace h := un_lt h _ e2
  refine lv_aload_n hx hb d_Md_openStream_5 rfl (lv_at hl 0 rfl) ?_
  refine lv_aload_n hx hb d_Md_openStream_6 rfl (lv_at hl 0 rfl) ?_
  refine w_getI (T := T_Md) S hK hI o0 rfl hin_Md 4 (index := 99) (by decide) lf_Md_99 d_Md_openStream_7 ?_
  refine w_putI (T := T_Md) S hK hI o0 rfl hin_Md ty_Md tk_Md nm_Md 11 (index := 118) (by decide) lf_Md_118 rfl d_Md_openStream_10 (fun H locs F3 e4 hI => ?_)
  replace h := un_lt h _ e4
  refine lv_aload_n hx hb d_Md_openStream_13 rfl (lv_at hl 0 rfl) ?_
  refine w_getI (T := T_Md) S hK hI o0 rfl hin_Md 5 (index := 102) (by decide) lf_Md_102 d_Md_openStream_14 ?_
  refine lv_if_ne (tgt := 35) hx hb d_Md_openStream_17 rfl (fun hc => ?_) (fun hc => ?_)
  · replace h := (if_neg hc).symm.trans h
    exact t_Md_openStream_35 hC  o0 hI (lv_sub hl [0] rfl) h
  · replace h := (if_pos hc).symm.trans h
    refine lv_iload_n hx hb d_Md_openStream_20 rfl (lv_at hl 1 rfl) ?_
    refine lv_iconst (v := 1) hx hb d_Md_openStream_21 rfl ?_
    refine lv_icmp_lt (tgt := 35) hx hb d_Md_openStream_22 rfl (fun hc => ?_) (fun hc => ?_)
    · replace h := (if_pos hc).symm.trans h
      exact t_Md_openStream_35 hC  o0 hI (lv_sub hl [0] rfl) h
    · replace h := (if_neg hc).symm.trans h
      refine lv_aload_n hx hb d_Md_openStream_25 rfl (lv_at hl 0 rfl) ?_
      refine w_getI (T := T_Md) S hK hI o0 rfl hin_Md 4 (index := 99) (by decide) lf_Md_99 d_Md_openStream_26 ?_
      refine lv_iload_n hx hb d_Md_openStream_29 rfl (lv_at hl 1 rfl) ?_
      refine lv_iadd hx hb d_Md_openStream_30 ?_
      refine lv_iload_n hx hb d_Md_openStream_31 rfl (lv_at hl 2 rfl) ?_
      refine lv_icmp_le (tgt := 41) hx hb d_Md_openStream_32 rfl (fun hc => ?_) (fun hc => ?_)
      · replace h := (if_pos hc).symm.trans h
        refine lv_aload_n hx hb d_Md_openStream_41 rfl (lv_at hl 0 rfl) ?_
        refine lv_dup hx hb d_Md_openStream_42 rfl ?_
        refine w_getI (T := T_Md) S hK hI o0 rfl hin_Md 4 (index := 99) (by decide) lf_Md_99 d_Md_openStream_43 ?_
        refine lv_iload_n hx hb d_Md_openStream_46 rfl (lv_at hl 1 rfl) ?_
        refine lv_iadd hx hb d_Md_openStream_47 ?_
        refine w_putI (T := T_Md) S hK hI o0 rfl hin_Md ty_Md tk_Md nm_Md 4 (index := 99) (by decide) lf_Md_99 rfl d_Md_openStream_48 (fun H locs F5 e6 hI => ?_)
        replace h := un_lt h _ e6
        refine lv_aload_n hx hb d_Md_openStream_51 rfl (lv_at hl 0 rfl) ?_
        have p7 := wt_a hW o0 2 rfl (by decide) (by decide)
        refine w_getR (T := T_Md) S hK hI o0 rfl hin_Md 2 (index := 13) (by decide) lf_Md_13 d_Md_openStream_52 ?_
        refine lv_aload_n hx hb d_Md_openStream_55 rfl (lv_at hl 0 rfl) ?_
        refine w_getI (T := T_Md) S hK hI o0 rfl hin_Md 4 (index := 99) (by decide) lf_Md_99 d_Md_openStream_56 ?_
        refine lv_iconst (v := 1) hx hb d_Md_openStream_59 rfl ?_
        refine lv_isub hx hb d_Md_openStream_60 ?_
        obtain ⟨z8, h⟩ := un_if h
        refine w_iald S hK hI hT p7 z8 d_Md_openStream_61 ?_
        refine lv_istore_n (lv' := [(3, .int (mGa L F5 (mRf L i0 2) ((F5 i0 4) - (1 : Int32)).toNatClampNeg)), (0, .ref (mAd X i0)), (1, .int x1), (2, .int x2)]) hx hb d_Md_openStream_62 rfl hl (by decide) rfl (fun ls hl => ?_)
        refine lv_iload_n hx hb d_Md_openStream_63 rfl (lv_at hl 0 rfl) ?_
        refine lv_if_ne (tgt := 72) hx hb d_Md_openStream_64 rfl (fun hc => ?_) (fun hc => ?_)
        · replace h := (if_neg hc).symm.trans h
          exact t_Md_openStream_72 hC  o0 hI (lv_sub hl [1, 2, 0] rfl) h
        · replace h := (if_pos hc).symm.trans h
          refine lv_aload_n hx hb d_Md_openStream_67 rfl (lv_at hl 1 rfl) ?_
          refine lv_iconst (v := 1) hx hb d_Md_openStream_68 rfl ?_
          obtain ⟨z11, h⟩ := un_if h
          refine w_putZ (T := T_Md) S hK hI o0 rfl hin_Md ty_Md tk_Md nm_Md 5 (index := 102) (by decide) lf_Md_102 rfl z11 d_Md_openStream_69 (fun H locs F9 e10 hI => ?_)
          replace h := un_lt h _ e10
          exact t_Md_openStream_72 hC  o0 hI (lv_sub hl [1, 2, 0] rfl) h
      · replace h := (if_neg hc).symm.trans h
        exact t_Md_openStream_35 hC  o0 hI (lv_sub hl [0] rfl) h
end
theorem d_Md_look_0 : decode cc_Md_look 0 = .ok (.iconst 0, 1) := by decide +kernel
theorem d_Md_look_1 : decode cc_Md_look 1 = .ok (.istore_n 2, 1) := by decide +kernel
theorem d_Md_look_2 : decode cc_Md_look 2 = .ok (.iconst 1, 1) := by decide +kernel
theorem d_Md_look_3 : decode cc_Md_look 3 = .ok (.istore_n 3, 1) := by decide +kernel
theorem d_Md_look_4 : decode cc_Md_look 4 = .ok (.iload_n 3, 1) := by decide +kernel
theorem d_Md_look_5 : decode cc_Md_look 5 = .ok (.iload_n 1, 1) := by decide +kernel
theorem d_Md_look_6 : decode cc_Md_look 6 = .ok (.if_icmp .gt (54), 3) := by decide +kernel
theorem d_Md_look_9 : decode cc_Md_look 9 = .ok (.aload_n 0, 1) := by decide +kernel
theorem d_Md_look_10 : decode cc_Md_look 10 = .ok (.getfield 115, 3) := by decide +kernel
theorem d_Md_look_13 : decode cc_Md_look 13 = .ok (.iload_n 3, 1) := by decide +kernel
theorem d_Md_look_14 : decode cc_Md_look 14 = .ok (.isub, 1) := by decide +kernel
theorem d_Md_look_15 : decode cc_Md_look 15 = .ok (.istore 4, 2) := by decide +kernel
theorem d_Md_look_17 : decode cc_Md_look 17 = .ok (.iconst 2, 1) := by decide +kernel
theorem d_Md_look_18 : decode cc_Md_look 18 = .ok (.iload_n 2, 1) := by decide +kernel
theorem d_Md_look_19 : decode cc_Md_look 19 = .ok (.imul, 1) := by decide +kernel
theorem d_Md_look_20 : decode cc_Md_look 20 = .ok (.iload 4, 2) := by decide +kernel
theorem d_Md_look_22 : decode cc_Md_look 22 = .ok (.ifCond .ge (7), 3) := by decide +kernel
theorem d_Md_look_25 : decode cc_Md_look 25 = .ok (.iconst 0, 1) := by decide +kernel
theorem d_Md_look_26 : decode cc_Md_look 26 = .ok (.goto (26), 3) := by decide +kernel
theorem d_Md_look_29 : decode cc_Md_look 29 = .ok (.aload_n 0, 1) := by decide +kernel
theorem d_Md_look_30 : decode cc_Md_look 30 = .ok (.getfield 13, 3) := by decide +kernel
theorem d_Md_look_33 : decode cc_Md_look 33 = .ok (.aload_n 0, 1) := by decide +kernel
theorem d_Md_look_34 : decode cc_Md_look 34 = .ok (.getfield 118, 3) := by decide +kernel
theorem d_Md_look_37 : decode cc_Md_look 37 = .ok (.iload 4, 2) := by decide +kernel
theorem d_Md_look_39 : decode cc_Md_look 39 = .ok (.bipush (8), 2) := by decide +kernel
theorem d_Md_look_41 : decode cc_Md_look 41 = .ok (.idiv, 1) := by decide +kernel
theorem d_Md_look_42 : decode cc_Md_look 42 = .ok (.iadd, 1) := by decide +kernel
theorem d_Md_look_43 : decode cc_Md_look 43 = .ok (.iaload, 1) := by decide +kernel
theorem d_Md_look_44 : decode cc_Md_look 44 = .ok (.iload 4, 2) := by decide +kernel
theorem d_Md_look_46 : decode cc_Md_look 46 = .ok (.bipush (8), 2) := by decide +kernel
theorem d_Md_look_48 : decode cc_Md_look 48 = .ok (.irem, 1) := by decide +kernel
theorem d_Md_look_49 : decode cc_Md_look 49 = .ok (.ishr, 1) := by decide +kernel
theorem d_Md_look_50 : decode cc_Md_look 50 = .ok (.iconst 1, 1) := by decide +kernel
theorem d_Md_look_51 : decode cc_Md_look 51 = .ok (.iand, 1) := by decide +kernel
theorem d_Md_look_52 : decode cc_Md_look 52 = .ok (.iadd, 1) := by decide +kernel
theorem d_Md_look_53 : decode cc_Md_look 53 = .ok (.istore_n 2, 1) := by decide +kernel
theorem d_Md_look_54 : decode cc_Md_look 54 = .ok (.iinc 3 (1), 3) := by decide +kernel
theorem d_Md_look_57 : decode cc_Md_look 57 = .ok (.goto (-53), 3) := by decide +kernel
theorem d_Md_look_60 : decode cc_Md_look 60 = .ok (.iload_n 2, 1) := by decide +kernel
theorem d_Md_look_61 : decode cc_Md_look 61 = .ok (.ireturn, 1) := by decide +kernel
section
variable {p : Program} {l : Launch} {e : Env} {s : State} {m : MethodId} {args : Array Value} {below : List Frame} {meth : Method} {c : Code} {X : Xs} {L : La}
def b_Md_look_52 (L : La) (k4 : Nat → Int32 → Int32 → Int32 → Mem → Option (Int32 × Mem)) (i0 : Nat) (x1 : Int32) (x3 : Int32) (y0 : Int32) (y1 : Int32) (F : Mem) : Option (Int32 × Mem) :=
  k4 i0 x1 (y0 + y1) (x3 + (1 : Int32)) F
set_option maxHeartbeats 4000000 in
theorem t_Md_look_52 (hC : Cx X L p s m args meth c cc_Md_look 5 w_Md_look R_Md (some .int)) {k4 : Nat → Int32 → Int32 → Int32 → Mem → Option (Int32 × Mem)} {out : (Int32 × Mem)} (hk4 : ∀ (i0 : Nat) (x1 : Int32) (x2 : Int32) (x3 : Int32) (F : Mem) (H : Heap) (locs : List Loc) (ls : Array Slot), oO L 12 i0 → Iv X L s H locs F → lv_has ls 5 [(0, .ref (mAd X i0)), (1, .int x1), (2, .int x2), (3, .int x3)] → k4 i0 x1 x2 x3 F = some out → W p l e (headSpec w_Md_look r_Md_look).room s m args below meth c H locs 0 0 (MQ below (QI X L out) args s 0 0 (AA X L)) (F0 m 4 ls [])) {i0 : Nat} {x1 : Int32} {x3 : Int32} {y0 : Int32} {y1 : Int32} {F : Mem} {H : Heap} {locs : List Loc} {ls : Array Slot} (o0 : oO L 12 i0) (hI : Iv X L s H locs F) (hl : lv_has ls 5 [(0, .ref (mAd X i0)), (1, .int x1), (3, .int x3)]) (h : b_Md_look_52 L k4 i0 x1 x3 y0 y1 F = some out) : W p l e (headSpec w_Md_look r_Md_look).room s m args below meth c H locs 0 0 (MQ below (QI X L out) args s 0 0 (AA X L)) (F0 m 52 ls [.int y1, .int y0]) := by
  unfold b_Md_look_52 at h
  obtain ⟨S, hK, hT, hW, hr, hlk⟩ := id hC
  have hx := S.1
  have hb := S.2.1
  refine lv_iadd hx hb d_Md_look_52 ?_
  refine lv_istore_n (lv' := [(2, .int (y0 + y1)), (0, .ref (mAd X i0)), (1, .int x1), (3, .int x3)]) hx hb d_Md_look_53 rfl hl (by decide) rfl (fun ls hl => ?_)
  refine lv_iinc (k := 3) (v := x3 + (1 : Int32)) (lv' := [(3, .int (x3 + (1 : Int32))), (2, .int (y0 + y1)), (0, .ref (mAd X i0)), (1, .int x1)]) hx hb d_Md_look_54 hl rfl rfl (by decide) rfl (fun ls hl => ?_)
  refine lv_goto (tgt := 4) hx hb d_Md_look_57 rfl ?_
  exact hk4 _ _ _ _ _ _ _ _ o0 hI (lv_sub hl [2, 3, 1, 0] rfl) h
def b_Md_look_4 (L : La) (k4 : Nat → Int32 → Int32 → Int32 → Mem → Option (Int32 × Mem)) (i0 : Nat) (x1 : Int32) (x2 : Int32) (x3 : Int32) (F : Mem) : Option (Int32 × Mem) :=
  if x1 < x3 then
    some (x2, F)
  else
    if 0 ≤ ((F i0 12) - x3) then
      if inb ((F i0 11) + (((F i0 12) - x3) / (8 : Int32))) (mGl L (mRf L i0 2)) then none else
      b_Md_look_52 L k4 i0 x1 x3 ((2 : Int32) * x2) ((jshr (mGa L F (mRf L i0 2) ((F i0 11) + (((F i0 12) - x3) / (8 : Int32))).toNatClampNeg) (jrem ((F i0 12) - x3) (8 : Int32))) &&& (1 : Int32)) F
    else
      b_Md_look_52 L k4 i0 x1 x3 ((2 : Int32) * x2) (0 : Int32) F
set_option maxHeartbeats 4000000 in
theorem t_Md_look_4 (hC : Cx X L p s m args meth c cc_Md_look 5 w_Md_look R_Md (some .int)) {k4 : Nat → Int32 → Int32 → Int32 → Mem → Option (Int32 × Mem)} {out : (Int32 × Mem)} (hk4 : ∀ (i0 : Nat) (x1 : Int32) (x2 : Int32) (x3 : Int32) (F : Mem) (H : Heap) (locs : List Loc) (ls : Array Slot), oO L 12 i0 → Iv X L s H locs F → lv_has ls 5 [(0, .ref (mAd X i0)), (1, .int x1), (2, .int x2), (3, .int x3)] → k4 i0 x1 x2 x3 F = some out → W p l e (headSpec w_Md_look r_Md_look).room s m args below meth c H locs 0 0 (MQ below (QI X L out) args s 0 0 (AA X L)) (F0 m 4 ls [])) {i0 : Nat} {x1 : Int32} {x2 : Int32} {x3 : Int32} {F : Mem} {H : Heap} {locs : List Loc} {ls : Array Slot} (o0 : oO L 12 i0) (hI : Iv X L s H locs F) (hl : lv_has ls 5 [(0, .ref (mAd X i0)), (1, .int x1), (2, .int x2), (3, .int x3)]) (h : b_Md_look_4 L k4 i0 x1 x2 x3 F = some out) : W p l e (headSpec w_Md_look r_Md_look).room s m args below meth c H locs 0 0 (MQ below (QI X L out) args s 0 0 (AA X L)) (F0 m 4 ls []) := by
  unfold b_Md_look_4 at h
  obtain ⟨S, hK, hT, hW, hr, hlk⟩ := id hC
  have hx := S.1
  have hb := S.2.1
  refine lv_iload_n hx hb d_Md_look_4 rfl (lv_at hl 3 rfl) ?_
  refine lv_iload_n hx hb d_Md_look_5 rfl (lv_at hl 1 rfl) ?_
  refine lv_icmp_gt (tgt := 60) hx hb d_Md_look_6 rfl (fun hc => ?_) (fun hc => ?_)
  · replace h := (if_pos hc).symm.trans h
    refine lv_iload_n hx hb d_Md_look_60 rfl (lv_at hl 2 rfl) ?_
    exact w_iret S hK hr hlk hI d_Md_look_61 h
  · replace h := (if_neg hc).symm.trans h
    refine lv_aload_n hx hb d_Md_look_9 rfl (lv_at hl 0 rfl) ?_
    refine w_getI (T := T_Md) S hK hI o0 rfl hin_Md 12 (index := 115) (by decide) lf_Md_115 d_Md_look_10 ?_
    refine lv_iload_n hx hb d_Md_look_13 rfl (lv_at hl 3 rfl) ?_
    refine lv_isub hx hb d_Md_look_14 ?_
    refine lv_istore (lv' := [(4, .int ((F i0 12) - x3)), (0, .ref (mAd X i0)), (1, .int x1), (2, .int x2), (3, .int x3)]) hx hb d_Md_look_15 hl (by decide) rfl (fun ls hl => ?_)
    refine lv_iconst (v := 2) hx hb d_Md_look_17 rfl ?_
    refine lv_iload_n hx hb d_Md_look_18 rfl (lv_at hl 3 rfl) ?_
    refine lv_imul hx hb d_Md_look_19 ?_
    refine lv_iload hx hb d_Md_look_20 (lv_at hl 0 rfl) ?_
    refine lv_if_ge (tgt := 29) hx hb d_Md_look_22 rfl (fun hc => ?_) (fun hc => ?_)
    · replace h := (if_pos hc).symm.trans h
      refine lv_aload_n hx hb d_Md_look_29 rfl (lv_at hl 1 rfl) ?_
      have p1 := wt_a hW o0 2 rfl (by decide) (by decide)
      refine w_getR (T := T_Md) S hK hI o0 rfl hin_Md 2 (index := 13) (by decide) lf_Md_13 d_Md_look_30 ?_
      refine lv_aload_n hx hb d_Md_look_33 rfl (lv_at hl 1 rfl) ?_
      refine w_getI (T := T_Md) S hK hI o0 rfl hin_Md 11 (index := 118) (by decide) lf_Md_118 d_Md_look_34 ?_
      refine lv_iload hx hb d_Md_look_37 (lv_at hl 0 rfl) ?_
      refine lv_bipush (v := 8) hx hb d_Md_look_39 (by decide) ?_
      refine lv_idiv hx hb d_Md_look_41 (by decide) ?_
      refine lv_iadd hx hb d_Md_look_42 ?_
      obtain ⟨z2, h⟩ := un_if h
      refine w_iald S hK hI hT p1 z2 d_Md_look_43 ?_
      refine lv_iload hx hb d_Md_look_44 (lv_at hl 0 rfl) ?_
      refine lv_bipush (v := 8) hx hb d_Md_look_46 (by decide) ?_
      refine lv_irem hx hb d_Md_look_48 (by decide) ?_
      refine lv_ishr hx hb d_Md_look_49 ?_
      refine lv_iconst (v := 1) hx hb d_Md_look_50 rfl ?_
      refine lv_iand hx hb d_Md_look_51 ?_
      exact t_Md_look_52 hC hk4 o0 hI (lv_sub hl [1, 2, 4] rfl) h
    · replace h := (if_neg hc).symm.trans h
      refine lv_iconst (v := 0) hx hb d_Md_look_25 rfl ?_
      refine lv_goto (tgt := 52) hx hb d_Md_look_26 rfl ?_
      exact t_Md_look_52 hC hk4 o0 hI (lv_sub hl [1, 2, 4] rfl) h
def f_Md_look_4 (L : La)  : Nat → Nat → Int32 → Int32 → Int32 → Mem → Option (Int32 × Mem)
  | 0 => fun _ _ _ _ _ => none
  | n + 1 => b_Md_look_4 L (f_Md_look_4 L  n)
theorem tf_Md_look_4 (hC : Cx X L p s m args meth c cc_Md_look 5 w_Md_look R_Md (some .int))  {out : (Int32 × Mem)}  (n : Nat) : ∀ (i0 : Nat) (x1 : Int32) (x2 : Int32) (x3 : Int32) (F : Mem) (H : Heap) (locs : List Loc) (ls : Array Slot), oO L 12 i0 → Iv X L s H locs F → lv_has ls 5 [(0, .ref (mAd X i0)), (1, .int x1), (2, .int x2), (3, .int x3)] → f_Md_look_4 L  n i0 x1 x2 x3 F = some out → W p l e (headSpec w_Md_look r_Md_look).room s m args below meth c H locs 0 0 (MQ below (QI X L out) args s 0 0 (AA X L)) (F0 m 4 ls []) := by
  induction n with
  | zero => intro i0 x1 x2 x3 F H locs ls o0 hI hl h; cases h
  | succ n ih => intro i0 x1 x2 x3 F H locs ls o0 hI hl h; exact t_Md_look_4 hC ih o0 hI hl h
def f_Md_look (L : La) (i0 : Nat) (x1 : Int32) (F : Mem) : Option (Int32 × Mem) :=
  f_Md_look_4 L  mFU i0 x1 (0 : Int32) (1 : Int32) F
set_option maxHeartbeats 4000000 in
theorem c_Md_look (l : Launch) {X : Xs} {L : La} (hW : WT L) {out : (Int32 × Mem)} {i0 : Nat} {x1 : Int32} {F : Mem} (o0 : oO L 12 i0) (h : f_Md_look L i0 x1 F = some out) : Met l y_Md_look w_Md_look r_Md_look (va_Pc [.ref (mAd X i0), .int x1] (Pr X L F)) (QI X L out) 0 0 (AA X L) := by
  refine mk_met (by decide) rfl (Nat.le_of_ble_eq_true rfl) hW ?_
  intro p e s m args below meth c ls hC hI hl
  have hl : lv_has ls 5 [(0, .ref (mAd X i0)), (1, .int x1)] := hl
  generalize hHe : s.heap = H at hI ⊢
  generalize ([] : List Loc) = locs at hI ⊢
  unfold f_Md_look at h
  obtain ⟨S, hK, hT, hW, hr, hlk⟩ := id hC
  have hx := S.1
  have hb := S.2.1
  refine lv_iconst (v := 0) hx hb d_Md_look_0 rfl ?_
  refine lv_istore_n (lv' := [(2, .int (0 : Int32)), (0, .ref (mAd X i0)), (1, .int x1)]) hx hb d_Md_look_1 rfl hl (by decide) rfl (fun ls hl => ?_)
  refine lv_iconst (v := 1) hx hb d_Md_look_2 rfl ?_
  refine lv_istore_n (lv' := [(3, .int (1 : Int32)), (2, .int (0 : Int32)), (0, .ref (mAd X i0)), (1, .int x1)]) hx hb d_Md_look_3 rfl hl (by decide) rfl (fun ls hl => ?_)
  exact tf_Md_look_4 hC  mFU _ _ _ _ _ _ _ _ o0 hI (lv_sub hl [2, 3, 1, 0] rfl) h
end
theorem d_Md_take_0 : decode cc_Md_take 0 = .ok (.aload_n 0, 1) := by decide +kernel
theorem d_Md_take_1 : decode cc_Md_take 1 = .ok (.iload_n 1, 1) := by decide +kernel
theorem d_Md_take_2 : decode cc_Md_take 2 = .ok (.invokevirtual 121, 3) := by decide +kernel
theorem d_Md_take_5 : decode cc_Md_take 5 = .ok (.istore_n 2, 1) := by decide +kernel
theorem d_Md_take_6 : decode cc_Md_take 6 = .ok (.aload_n 0, 1) := by decide +kernel
theorem d_Md_take_7 : decode cc_Md_take 7 = .ok (.dup, 1) := by decide +kernel
theorem d_Md_take_8 : decode cc_Md_take 8 = .ok (.getfield 115, 3) := by decide +kernel
theorem d_Md_take_11 : decode cc_Md_take 11 = .ok (.iload_n 1, 1) := by decide +kernel
theorem d_Md_take_12 : decode cc_Md_take 12 = .ok (.isub, 1) := by decide +kernel
theorem d_Md_take_13 : decode cc_Md_take 13 = .ok (.putfield 115, 3) := by decide +kernel
theorem d_Md_take_16 : decode cc_Md_take 16 = .ok (.aload_n 0, 1) := by decide +kernel
theorem d_Md_take_17 : decode cc_Md_take 17 = .ok (.aload_n 0, 1) := by decide +kernel
theorem d_Md_take_18 : decode cc_Md_take 18 = .ok (.getfield 102, 3) := by decide +kernel
theorem d_Md_take_21 : decode cc_Md_take 21 = .ok (.ifCond .ne (10), 3) := by decide +kernel
theorem d_Md_take_24 : decode cc_Md_take 24 = .ok (.aload_n 0, 1) := by decide +kernel
theorem d_Md_take_25 : decode cc_Md_take 25 = .ok (.getfield 115, 3) := by decide +kernel
theorem d_Md_take_28 : decode cc_Md_take 28 = .ok (.ifCond .ge (7), 3) := by decide +kernel
theorem d_Md_take_31 : decode cc_Md_take 31 = .ok (.iconst 1, 1) := by decide +kernel
theorem d_Md_take_32 : decode cc_Md_take 32 = .ok (.goto (4), 3) := by decide +kernel
theorem d_Md_take_35 : decode cc_Md_take 35 = .ok (.iconst 0, 1) := by decide +kernel
theorem d_Md_take_36 : decode cc_Md_take 36 = .ok (.putfield 102, 3) := by decide +kernel
theorem d_Md_take_39 : decode cc_Md_take 39 = .ok (.iload_n 2, 1) := by decide +kernel
theorem d_Md_take_40 : decode cc_Md_take 40 = .ok (.ireturn, 1) := by decide +kernel
section
variable {p : Program} {l : Launch} {e : Env} {s : State} {m : MethodId} {args : Array Value} {below : List Frame} {meth : Method} {c : Code} {X : Xs} {L : La}
def b_Md_take_36 (L : La)  (x2 : Int32) (j0 : Nat) (y1 : Int32) (F : Mem) : Option (Int32 × Mem) :=
  if ¬ (y1 = 0 ∨ y1 = 1) then none else
  lt' (u2 F j0 5 y1) fun F1 =>
  some (x2, F1)
set_option maxHeartbeats 4000000 in
theorem t_Md_take_36 (hC : Cx X L p s m args meth c cc_Md_take 3 w_Md_take R_Md (some .int))  {out : (Int32 × Mem)}  {x2 : Int32} {j0 : Nat} {y1 : Int32} {F : Mem} {H : Heap} {locs : List Loc} {ls : Array Slot} (oy0 : oO L 12 j0) (hI : Iv X L s H locs F) (hl : lv_has ls 3 [(2, .int x2)]) (h : b_Md_take_36 L  x2 j0 y1 F = some out) : W p l e (headSpec w_Md_take r_Md_take).room s m args below meth c H locs 0 0 (MQ below (QI X L out) args s 0 0 (AA X L)) (F0 m 36 ls [.int y1, .ref (mAd X j0)]) := by
  unfold b_Md_take_36 at h
  obtain ⟨S, hK, hT, hW, hr, hlk⟩ := id hC
  have hx := S.1
  have hb := S.2.1
  obtain ⟨z3, h⟩ := un_if h
  refine w_putZ (T := T_Md) S hK hI oy0 rfl hin_Md ty_Md tk_Md nm_Md 5 (index := 102) (by decide) lf_Md_102 rfl z3 d_Md_take_36 (fun H locs F1 e2 hI => ?_)
  replace h := un_lt h _ e2
  refine lv_iload_n hx hb d_Md_take_39 rfl (lv_at hl 0 rfl) ?_
  exact w_iret S hK hr hlk hI d_Md_take_40 h
def b_Md_take_31 (L : La)  (x2 : Int32) (j0 : Nat) (F : Mem) : Option (Int32 × Mem) :=
  b_Md_take_36 L  x2 j0 (1 : Int32) F
set_option maxHeartbeats 4000000 in
theorem t_Md_take_31 (hC : Cx X L p s m args meth c cc_Md_take 3 w_Md_take R_Md (some .int))  {out : (Int32 × Mem)}  {x2 : Int32} {j0 : Nat} {F : Mem} {H : Heap} {locs : List Loc} {ls : Array Slot} (oy0 : oO L 12 j0) (hI : Iv X L s H locs F) (hl : lv_has ls 3 [(2, .int x2)]) (h : b_Md_take_31 L  x2 j0 F = some out) : W p l e (headSpec w_Md_take r_Md_take).room s m args below meth c H locs 0 0 (MQ below (QI X L out) args s 0 0 (AA X L)) (F0 m 31 ls [.ref (mAd X j0)]) := by
  unfold b_Md_take_31 at h
  obtain ⟨S, hK, hT, hW, hr, hlk⟩ := id hC
  have hx := S.1
  have hb := S.2.1
  refine lv_iconst (v := 1) hx hb d_Md_take_31 rfl ?_
  refine lv_goto (tgt := 36) hx hb d_Md_take_32 rfl ?_
  exact t_Md_take_36 hC  oy0 hI hl h
def f_Md_take (L : La) (i0 : Nat) (x1 : Int32) (F : Mem) : Option (Int32 × Mem) :=
  (f_Md_look L i0 x1 F).bind fun q1 =>
  lt' (u2 q1.2 i0 12 ((q1.2 i0 12) - x1)) fun F3 =>
  if (F3 i0 5) = 0 then
    if 0 ≤ (F3 i0 12) then
      b_Md_take_36 L  q1.1 i0 (0 : Int32) F3
    else
      b_Md_take_31 L  q1.1 i0 F3
  else
    b_Md_take_31 L  q1.1 i0 F3
set_option maxHeartbeats 4000000 in
theorem c_Md_take (l : Launch) {X : Xs} {L : La} (hW : WT L) {out : (Int32 × Mem)} {i0 : Nat} {x1 : Int32} {F : Mem} (o0 : oO L 12 i0) (h : f_Md_take L i0 x1 F = some out) : Met l y_Md_take w_Md_take r_Md_take (va_Pc [.ref (mAd X i0), .int x1] (Pr X L F)) (QI X L out) 0 0 (AA X L) := by
  refine mk_met (by decide) rfl (Nat.le_of_ble_eq_true rfl) hW ?_
  intro p e s m args below meth c ls hC hI hl
  have hl : lv_has ls 3 [(0, .ref (mAd X i0)), (1, .int x1)] := hl
  generalize hHe : s.heap = H at hI ⊢
  generalize ([] : List Loc) = locs at hI ⊢
  unfold f_Md_take at h
  obtain ⟨S, hK, hT, hW, hr, hlk⟩ := id hC
  have hx := S.1
  have hb := S.2.1
  refine lv_aload_n hx hb d_Md_take_0 rfl (lv_at hl 0 rfl) ?_
  refine lv_iload_n hx hb d_Md_take_1 rfl (lv_at hl 1 rfl) ?_
  obtain ⟨q1, e2, h⟩ := un_bi h
  refine w_callVi (As := [.int x1]) (rest := []) S hK hI hT (c_Md_look l hW o0 e2) (cwV 1 S.2.2.2.2 (gd_V lc_Md_look lm_Md_121 li_Md_look ls_Md_look ln_Md) rfl rfl rfl hd_Md_look ⟨Nat.le_of_ble_eq_true rfl, Nat.le_of_ble_eq_true rfl⟩) o0 rfl (by decide) rfl rfl hl.1 (Nat.le_of_ble_eq_true rfl) d_Md_take_2 ⟨Nat.zero_le _, Nat.zero_le _⟩ (fun H locs hI => ?_)
  refine lv_istore_n (lv' := [(2, .int q1.1), (0, .ref (mAd X i0)), (1, .int x1)]) hx hb d_Md_take_5 rfl hl (by decide) rfl (fun ls hl => ?_)
  refine lv_aload_n hx hb d_Md_take_6 rfl (lv_at hl 1 rfl) ?_
  refine lv_dup hx hb d_Md_take_7 rfl ?_
  refine w_getI (T := T_Md) S hK hI o0 rfl hin_Md 12 (index := 115) (by decide) lf_Md_115 d_Md_take_8 ?_
  refine lv_iload_n hx hb d_Md_take_11 rfl (lv_at hl 2 rfl) ?_
  refine lv_isub hx hb d_Md_take_12 ?_
  refine w_putI (T := T_Md) S hK hI o0 rfl hin_Md ty_Md tk_Md nm_Md 12 (index := 115) (by decide) lf_Md_115 rfl d_Md_take_13 (fun H locs F3 e4 hI => ?_)
  replace h := un_lt h _ e4
  refine lv_aload_n hx hb d_Md_take_16 rfl (lv_at hl 1 rfl) ?_
  refine lv_aload_n hx hb d_Md_take_17 rfl (lv_at hl 1 rfl) ?_
  refine w_getI (T := T_Md) S hK hI o0 rfl hin_Md 5 (index := 102) (by decide) lf_Md_102 d_Md_take_18 ?_
  refine lv_if_ne (tgt := 31) hx hb d_Md_take_21 rfl (fun hc => ?_) (fun hc => ?_)
  · replace h := (if_neg hc).symm.trans h
    exact t_Md_take_31 hC  o0 hI (lv_sub hl [0] rfl) h
  · replace h := (if_pos hc).symm.trans h
    refine lv_aload_n hx hb d_Md_take_24 rfl (lv_at hl 1 rfl) ?_
    refine w_getI (T := T_Md) S hK hI o0 rfl hin_Md 12 (index := 115) (by decide) lf_Md_115 d_Md_take_25 ?_
    refine lv_if_ge (tgt := 35) hx hb d_Md_take_28 rfl (fun hc => ?_) (fun hc => ?_)
    · replace h := (if_pos hc).symm.trans h
      refine lv_iconst (v := 0) hx hb d_Md_take_35 rfl ?_
      exact t_Md_take_36 hC  o0 hI (lv_sub hl [0] rfl) h
    · replace h := (if_neg hc).symm.trans h
      exact t_Md_take_31 hC  o0 hI (lv_sub hl [0] rfl) h
end
theorem d_Md_readSymbols_0 : decode cc_Md_readSymbols 0 = .ok (.aload_n 0, 1) := by decide +kernel
theorem d_Md_readSymbols_1 : decode cc_Md_readSymbols 1 = .ok (.aload_n 0, 1) := by decide +kernel
theorem d_Md_readSymbols_2 : decode cc_Md_readSymbols 2 = .ok (.getfield 102, 3) := by decide +kernel
theorem d_Md_readSymbols_5 : decode cc_Md_readSymbols 5 = .ok (.ifCond .ne (10), 3) := by decide +kernel
theorem d_Md_readSymbols_8 : decode cc_Md_readSymbols 8 = .ok (.aload_n 0, 1) := by decide +kernel
theorem d_Md_readSymbols_9 : decode cc_Md_readSymbols 9 = .ok (.getfield 131, 3) := by decide +kernel
theorem d_Md_readSymbols_12 : decode cc_Md_readSymbols 12 = .ok (.ifCond .ne (7), 3) := by decide +kernel
theorem d_Md_readSymbols_15 : decode cc_Md_readSymbols 15 = .ok (.iconst 1, 1) := by decide +kernel
theorem d_Md_readSymbols_16 : decode cc_Md_readSymbols 16 = .ok (.goto (4), 3) := by decide +kernel
theorem d_Md_readSymbols_19 : decode cc_Md_readSymbols 19 = .ok (.iconst 0, 1) := by decide +kernel
theorem d_Md_readSymbols_20 : decode cc_Md_readSymbols 20 = .ok (.putfield 102, 3) := by decide +kernel
theorem d_Md_readSymbols_23 : decode cc_Md_readSymbols 23 = .ok (.aload_n 0, 1) := by decide +kernel
theorem d_Md_readSymbols_24 : decode cc_Md_readSymbols 24 = .ok (.iload_n 1, 1) := by decide +kernel
theorem d_Md_readSymbols_25 : decode cc_Md_readSymbols 25 = .ok (.invokevirtual 125, 3) := by decide +kernel
theorem d_Md_readSymbols_28 : decode cc_Md_readSymbols 28 = .ok (.istore_n 2, 1) := by decide +kernel
theorem d_Md_readSymbols_29 : decode cc_Md_readSymbols 29 = .ok (.aload_n 0, 1) := by decide +kernel
theorem d_Md_readSymbols_30 : decode cc_Md_readSymbols 30 = .ok (.iload_n 2, 1) := by decide +kernel
theorem d_Md_readSymbols_31 : decode cc_Md_readSymbols 31 = .ok (.iload_n 1, 1) := by decide +kernel
theorem d_Md_readSymbols_32 : decode cc_Md_readSymbols 32 = .ok (.invokevirtual 159, 3) := by decide +kernel
theorem d_Md_readSymbols_35 : decode cc_Md_readSymbols 35 = .ok (.iconst 0, 1) := by decide +kernel
theorem d_Md_readSymbols_36 : decode cc_Md_readSymbols 36 = .ok (.istore_n 3, 1) := by decide +kernel
theorem d_Md_readSymbols_37 : decode cc_Md_readSymbols 37 = .ok (.iload_n 3, 1) := by decide +kernel
theorem d_Md_readSymbols_38 : decode cc_Md_readSymbols 38 = .ok (.aload_n 0, 1) := by decide +kernel
theorem d_Md_readSymbols_39 : decode cc_Md_readSymbols 39 = .ok (.getfield 150, 3) := by decide +kernel
theorem d_Md_readSymbols_42 : decode cc_Md_readSymbols 42 = .ok (.if_icmp .ge (64), 3) := by decide +kernel
theorem d_Md_readSymbols_45 : decode cc_Md_readSymbols 45 = .ok (.aload_n 0, 1) := by decide +kernel
theorem d_Md_readSymbols_46 : decode cc_Md_readSymbols 46 = .ok (.getfield 102, 3) := by decide +kernel
theorem d_Md_readSymbols_49 : decode cc_Md_readSymbols 49 = .ok (.ifCond .ne (57), 3) := by decide +kernel
theorem d_Md_readSymbols_52 : decode cc_Md_readSymbols 52 = .ok (.aload_n 0, 1) := by decide +kernel
theorem d_Md_readSymbols_53 : decode cc_Md_readSymbols 53 = .ok (.getfield 28, 3) := by decide +kernel
theorem d_Md_readSymbols_56 : decode cc_Md_readSymbols 56 = .ok (.aload_n 0, 1) := by decide +kernel
theorem d_Md_readSymbols_57 : decode cc_Md_readSymbols 57 = .ok (.aload_n 0, 1) := by decide +kernel
theorem d_Md_readSymbols_58 : decode cc_Md_readSymbols 58 = .ok (.getfield 163, 3) := by decide +kernel
theorem d_Md_readSymbols_61 : decode cc_Md_readSymbols 61 = .ok (.invokevirtual 121, 3) := by decide +kernel
theorem d_Md_readSymbols_64 : decode cc_Md_readSymbols 64 = .ok (.iaload, 1) := by decide +kernel
theorem d_Md_readSymbols_65 : decode cc_Md_readSymbols 65 = .ok (.istore 4, 2) := by decide +kernel
theorem d_Md_readSymbols_67 : decode cc_Md_readSymbols 67 = .ok (.aload_n 0, 1) := by decide +kernel
theorem d_Md_readSymbols_68 : decode cc_Md_readSymbols 68 = .ok (.getfield 22, 3) := by decide +kernel
theorem d_Md_readSymbols_71 : decode cc_Md_readSymbols 71 = .ok (.iload_n 3, 1) := by decide +kernel
theorem d_Md_readSymbols_72 : decode cc_Md_readSymbols 72 = .ok (.aload_n 0, 1) := by decide +kernel
theorem d_Md_readSymbols_73 : decode cc_Md_readSymbols 73 = .ok (.getfield 166, 3) := by decide +kernel
theorem d_Md_readSymbols_76 : decode cc_Md_readSymbols 76 = .ok (.iload 4, 2) := by decide +kernel
theorem d_Md_readSymbols_78 : decode cc_Md_readSymbols 78 = .ok (.iadd, 1) := by decide +kernel
theorem d_Md_readSymbols_79 : decode cc_Md_readSymbols 79 = .ok (.iastore, 1) := by decide +kernel
theorem d_Md_readSymbols_80 : decode cc_Md_readSymbols 80 = .ok (.aload_n 0, 1) := by decide +kernel
theorem d_Md_readSymbols_81 : decode cc_Md_readSymbols 81 = .ok (.aload_n 0, 1) := by decide +kernel
theorem d_Md_readSymbols_82 : decode cc_Md_readSymbols 82 = .ok (.getfield 163, 3) := by decide +kernel
theorem d_Md_readSymbols_85 : decode cc_Md_readSymbols 85 = .ok (.iconst 1, 1) := by decide +kernel
theorem d_Md_readSymbols_86 : decode cc_Md_readSymbols 86 = .ok (.iadd, 1) := by decide +kernel
theorem d_Md_readSymbols_87 : decode cc_Md_readSymbols 87 = .ok (.aload_n 0, 1) := by decide +kernel
theorem d_Md_readSymbols_88 : decode cc_Md_readSymbols 88 = .ok (.getfield 25, 3) := by decide +kernel
theorem d_Md_readSymbols_91 : decode cc_Md_readSymbols 91 = .ok (.iload 4, 2) := by decide +kernel
theorem d_Md_readSymbols_93 : decode cc_Md_readSymbols 93 = .ok (.iaload, 1) := by decide +kernel
theorem d_Md_readSymbols_94 : decode cc_Md_readSymbols 94 = .ok (.isub, 1) := by decide +kernel
theorem d_Md_readSymbols_95 : decode cc_Md_readSymbols 95 = .ok (.invokevirtual 169, 3) := by decide +kernel
theorem d_Md_readSymbols_98 : decode cc_Md_readSymbols 98 = .ok (.istore 5, 2) := by decide +kernel
theorem d_Md_readSymbols_100 : decode cc_Md_readSymbols 100 = .ok (.iinc 3 (1), 3) := by decide +kernel
theorem d_Md_readSymbols_103 : decode cc_Md_readSymbols 103 = .ok (.goto (-66), 3) := by decide +kernel
theorem d_Md_readSymbols_106 : decode cc_Md_readSymbols 106 = .ok (.aload_n 0, 1) := by decide +kernel
theorem d_Md_readSymbols_107 : decode cc_Md_readSymbols 107 = .ok (.aload_n 0, 1) := by decide +kernel
theorem d_Md_readSymbols_108 : decode cc_Md_readSymbols 108 = .ok (.getfield 102, 3) := by decide +kernel
theorem d_Md_readSymbols_111 : decode cc_Md_readSymbols 111 = .ok (.ifCond .ne (10), 3) := by decide +kernel
theorem d_Md_readSymbols_114 : decode cc_Md_readSymbols 114 = .ok (.aload_n 0, 1) := by decide +kernel
theorem d_Md_readSymbols_115 : decode cc_Md_readSymbols 115 = .ok (.getfield 115, 3) := by decide +kernel
theorem d_Md_readSymbols_118 : decode cc_Md_readSymbols 118 = .ok (.ifCond .eq (7), 3) := by decide +kernel
theorem d_Md_readSymbols_121 : decode cc_Md_readSymbols 121 = .ok (.iconst 1, 1) := by decide +kernel
theorem d_Md_readSymbols_122 : decode cc_Md_readSymbols 122 = .ok (.goto (4), 3) := by decide +kernel
theorem d_Md_readSymbols_125 : decode cc_Md_readSymbols 125 = .ok (.iconst 0, 1) := by decide +kernel
theorem d_Md_readSymbols_126 : decode cc_Md_readSymbols 126 = .ok (.putfield 102, 3) := by decide +kernel
theorem d_Md_readSymbols_129 : decode cc_Md_readSymbols 129 = .ok (.return_, 1) := by decide +kernel
section
variable {p : Program} {l : Launch} {e : Env} {s : State} {m : MethodId} {args : Array Value} {below : List Frame} {meth : Method} {c : Code} {X : Xs} {L : La}
def b_Md_readSymbols_126 (L : La)  (j0 : Nat) (y1 : Int32) (F : Mem) : Option Mem :=
  if ¬ (y1 = 0 ∨ y1 = 1) then none else
  lt' (u2 F j0 5 y1) fun F1 =>
  some F1
set_option maxHeartbeats 4000000 in
theorem t_Md_readSymbols_126 (hC : Cx X L p s m args meth c cc_Md_readSymbols 6 w_Md_readSymbols R_Md none)  {out : Mem}  {j0 : Nat} {y1 : Int32} {F : Mem} {H : Heap} {locs : List Loc} {ls : Array Slot} (oy0 : oO L 12 j0) (hI : Iv X L s H locs F) (hl : lv_has ls 6 []) (h : b_Md_readSymbols_126 L  j0 y1 F = some out) : W p l e (headSpec w_Md_readSymbols r_Md_readSymbols).room s m args below meth c H locs 0 0 (MQ below (QV X L out) args s 0 0 (AA X L)) (F0 m 126 ls [.int y1, .ref (mAd X j0)]) := by
  unfold b_Md_readSymbols_126 at h
  obtain ⟨S, hK, hT, hW, hr, hlk⟩ := id hC
  have hx := S.1
  have hb := S.2.1
  obtain ⟨z3, h⟩ := un_if h
  refine w_putZ (T := T_Md) S hK hI oy0 rfl hin_Md ty_Md tk_Md nm_Md 5 (index := 102) (by decide) lf_Md_102 rfl z3 d_Md_readSymbols_126 (fun H locs F1 e2 hI => ?_)
  replace h := un_lt h _ e2
  exact w_vret S hK hr hlk hI d_Md_readSymbols_129 h
def b_Md_readSymbols_121 (L : La)  (j0 : Nat) (F : Mem) : Option Mem :=
  b_Md_readSymbols_126 L  j0 (1 : Int32) F
set_option maxHeartbeats 4000000 in
theorem t_Md_readSymbols_121 (hC : Cx X L p s m args meth c cc_Md_readSymbols 6 w_Md_readSymbols R_Md none)  {out : Mem}  {j0 : Nat} {F : Mem} {H : Heap} {locs : List Loc} {ls : Array Slot} (oy0 : oO L 12 j0) (hI : Iv X L s H locs F) (hl : lv_has ls 6 []) (h : b_Md_readSymbols_121 L  j0 F = some out) : W p l e (headSpec w_Md_readSymbols r_Md_readSymbols).room s m args below meth c H locs 0 0 (MQ below (QV X L out) args s 0 0 (AA X L)) (F0 m 121 ls [.ref (mAd X j0)]) := by
  unfold b_Md_readSymbols_121 at h
  obtain ⟨S, hK, hT, hW, hr, hlk⟩ := id hC
  have hx := S.1
  have hb := S.2.1
  refine lv_iconst (v := 1) hx hb d_Md_readSymbols_121 rfl ?_
  refine lv_goto (tgt := 126) hx hb d_Md_readSymbols_122 rfl ?_
  exact t_Md_readSymbols_126 hC  oy0 hI hl h
def b_Md_readSymbols_106 (L : La)  (i0 : Nat) (F : Mem) : Option Mem :=
  if (F i0 5) = 0 then
    if (F i0 12) = 0 then
      b_Md_readSymbols_126 L  i0 (0 : Int32) F
    else
      b_Md_readSymbols_121 L  i0 F
  else
    b_Md_readSymbols_121 L  i0 F
set_option maxHeartbeats 4000000 in
theorem t_Md_readSymbols_106 (hC : Cx X L p s m args meth c cc_Md_readSymbols 6 w_Md_readSymbols R_Md none)  {out : Mem}  {i0 : Nat} {F : Mem} {H : Heap} {locs : List Loc} {ls : Array Slot} (o0 : oO L 12 i0) (hI : Iv X L s H locs F) (hl : lv_has ls 6 [(0, .ref (mAd X i0))]) (h : b_Md_readSymbols_106 L  i0 F = some out) : W p l e (headSpec w_Md_readSymbols r_Md_readSymbols).room s m args below meth c H locs 0 0 (MQ below (QV X L out) args s 0 0 (AA X L)) (F0 m 106 ls []) := by
  unfold b_Md_readSymbols_106 at h
  obtain ⟨S, hK, hT, hW, hr, hlk⟩ := id hC
  have hx := S.1
  have hb := S.2.1
  refine lv_aload_n hx hb d_Md_readSymbols_106 rfl (lv_at hl 0 rfl) ?_
  refine lv_aload_n hx hb d_Md_readSymbols_107 rfl (lv_at hl 0 rfl) ?_
  refine w_getI (T := T_Md) S hK hI o0 rfl hin_Md 5 (index := 102) (by decide) lf_Md_102 d_Md_readSymbols_108 ?_
  refine lv_if_ne (tgt := 121) hx hb d_Md_readSymbols_111 rfl (fun hc => ?_) (fun hc => ?_)
  · replace h := (if_neg hc).symm.trans h
    exact t_Md_readSymbols_121 hC  o0 hI (lv_sub hl [] rfl) h
  · replace h := (if_pos hc).symm.trans h
    refine lv_aload_n hx hb d_Md_readSymbols_114 rfl (lv_at hl 0 rfl) ?_
    refine w_getI (T := T_Md) S hK hI o0 rfl hin_Md 12 (index := 115) (by decide) lf_Md_115 d_Md_readSymbols_115 ?_
    refine lv_if_eq (tgt := 125) hx hb d_Md_readSymbols_118 rfl (fun hc => ?_) (fun hc => ?_)
    · replace h := (if_pos hc).symm.trans h
      refine lv_iconst (v := 0) hx hb d_Md_readSymbols_125 rfl ?_
      exact t_Md_readSymbols_126 hC  o0 hI (lv_sub hl [] rfl) h
    · replace h := (if_neg hc).symm.trans h
      exact t_Md_readSymbols_121 hC  o0 hI (lv_sub hl [] rfl) h
def b_Md_readSymbols_37 (L : La) (k37 : Nat → Int32 → Mem → Option Mem) (i0 : Nat) (x3 : Int32) (F : Mem) : Option Mem :=
  if (F i0 13) ≤ x3 then
    b_Md_readSymbols_106 L  i0 F
  else
    if (F i0 5) = 0 then
      (f_Md_look L i0 (F i0 18) F).bind fun q2 =>
      if inb q2.1 (mGl L (mRf L i0 20)) then none else
      if inb x3 (mLn L (mRf L i0 14)) ∨ ¬ (mRf L i0 14) < mNc L then none else
      lt' (u2 q2.2 (mRf L i0 14) x3.toNatClampNeg ((q2.2 i0 16) + (mGa L q2.2 (mRf L i0 20) q2.1.toNatClampNeg))) fun F7 =>
      if inb (mGa L q2.2 (mRf L i0 20) q2.1.toNatClampNeg) (mGl L (mRf L i0 19)) then none else
      (f_Md_take L i0 (((F7 i0 18) + (1 : Int32)) - (mGa L F7 (mRf L i0 19) (mGa L q2.2 (mRf L i0 20) q2.1.toNatClampNeg).toNatClampNeg)) F7).bind fun q11 =>
      k37 i0 (x3 + (1 : Int32)) q11.2
    else
      b_Md_readSymbols_106 L  i0 F
set_option maxHeartbeats 4000000 in
theorem t_Md_readSymbols_37 (hC : Cx X L p s m args meth c cc_Md_readSymbols 6 w_Md_readSymbols R_Md none) {k37 : Nat → Int32 → Mem → Option Mem} {out : Mem} (hk37 : ∀ (i0 : Nat) (x3 : Int32) (F : Mem) (H : Heap) (locs : List Loc) (ls : Array Slot), oO L 12 i0 → Iv X L s H locs F → lv_has ls 6 [(0, .ref (mAd X i0)), (3, .int x3)] → k37 i0 x3 F = some out → W p l e (headSpec w_Md_readSymbols r_Md_readSymbols).room s m args below meth c H locs 0 0 (MQ below (QV X L out) args s 0 0 (AA X L)) (F0 m 37 ls [])) {i0 : Nat} {x3 : Int32} {F : Mem} {H : Heap} {locs : List Loc} {ls : Array Slot} (o0 : oO L 12 i0) (hI : Iv X L s H locs F) (hl : lv_has ls 6 [(0, .ref (mAd X i0)), (3, .int x3)]) (h : b_Md_readSymbols_37 L k37 i0 x3 F = some out) : W p l e (headSpec w_Md_readSymbols r_Md_readSymbols).room s m args below meth c H locs 0 0 (MQ below (QV X L out) args s 0 0 (AA X L)) (F0 m 37 ls []) := by
  unfold b_Md_readSymbols_37 at h
  obtain ⟨S, hK, hT, hW, hr, hlk⟩ := id hC
  have hx := S.1
  have hb := S.2.1
  refine lv_iload_n hx hb d_Md_readSymbols_37 rfl (lv_at hl 1 rfl) ?_
  refine lv_aload_n hx hb d_Md_readSymbols_38 rfl (lv_at hl 0 rfl) ?_
  refine w_getI (T := T_Md) S hK hI o0 rfl hin_Md 13 (index := 150) (by decide) lf_Md_150 d_Md_readSymbols_39 ?_
  refine lv_icmp_ge (tgt := 106) hx hb d_Md_readSymbols_42 rfl (fun hc => ?_) (fun hc => ?_)
  · replace h := (if_pos hc).symm.trans h
    exact t_Md_readSymbols_106 hC  o0 hI (lv_sub hl [0] rfl) h
  · replace h := (if_neg hc).symm.trans h
    refine lv_aload_n hx hb d_Md_readSymbols_45 rfl (lv_at hl 0 rfl) ?_
    refine w_getI (T := T_Md) S hK hI o0 rfl hin_Md 5 (index := 102) (by decide) lf_Md_102 d_Md_readSymbols_46 ?_
    refine lv_if_ne (tgt := 106) hx hb d_Md_readSymbols_49 rfl (fun hc => ?_) (fun hc => ?_)
    · replace h := (if_neg hc).symm.trans h
      exact t_Md_readSymbols_106 hC  o0 hI (lv_sub hl [0] rfl) h
    · replace h := (if_pos hc).symm.trans h
      refine lv_aload_n hx hb d_Md_readSymbols_52 rfl (lv_at hl 0 rfl) ?_
      have p1 := wt_a hW o0 20 rfl (by decide) (by decide)
      refine w_getR (T := T_Md) S hK hI o0 rfl hin_Md 20 (index := 28) (by decide) lf_Md_28 d_Md_readSymbols_53 ?_
      refine lv_aload_n hx hb d_Md_readSymbols_56 rfl (lv_at hl 0 rfl) ?_
      refine lv_aload_n hx hb d_Md_readSymbols_57 rfl (lv_at hl 0 rfl) ?_
      refine w_getI (T := T_Md) S hK hI o0 rfl hin_Md 18 (index := 163) (by decide) lf_Md_163 d_Md_readSymbols_58 ?_
      obtain ⟨q2, e3, h⟩ := un_bi h
      refine w_callVi (As := [.int (F i0 18)]) (rest := [.ref (mAd X (mRf L i0 20))]) S hK hI hT (c_Md_look l hW o0 e3) (cwV 1 S.2.2.2.2 (gd_V lc_Md_look lm_Md_121 li_Md_look ls_Md_look ln_Md) rfl rfl rfl hd_Md_look ⟨Nat.le_of_ble_eq_true rfl, Nat.le_of_ble_eq_true rfl⟩) o0 rfl (by decide) rfl rfl hl.1 (Nat.le_of_ble_eq_true rfl) d_Md_readSymbols_61 ⟨Nat.zero_le _, Nat.zero_le _⟩ (fun H locs hI => ?_)
      obtain ⟨z4, h⟩ := un_if h
      refine w_iald S hK hI hT p1 z4 d_Md_readSymbols_64 ?_
      refine lv_istore (lv' := [(4, .int (mGa L q2.2 (mRf L i0 20) q2.1.toNatClampNeg)), (0, .ref (mAd X i0)), (3, .int x3)]) hx hb d_Md_readSymbols_65 hl (by decide) rfl (fun ls hl => ?_)
      refine lv_aload_n hx hb d_Md_readSymbols_67 rfl (lv_at hl 1 rfl) ?_
      have p5 := wt_a hW o0 14 rfl (by decide) (by decide)
      refine w_getR (T := T_Md) S hK hI o0 rfl hin_Md 14 (index := 22) (by decide) lf_Md_22 d_Md_readSymbols_68 ?_
      refine lv_iload_n hx hb d_Md_readSymbols_71 rfl (lv_at hl 2 rfl) ?_
      refine lv_aload_n hx hb d_Md_readSymbols_72 rfl (lv_at hl 1 rfl) ?_
      refine w_getI (T := T_Md) S hK hI o0 rfl hin_Md 16 (index := 166) (by decide) lf_Md_166 d_Md_readSymbols_73 ?_
      refine lv_iload hx hb d_Md_readSymbols_76 (lv_at hl 0 rfl) ?_
      refine lv_iadd hx hb d_Md_readSymbols_78 ?_
      obtain ⟨z6, h⟩ := un_if h
      refine w_iast S hK hI p5 z6 d_Md_readSymbols_79 (fun H locs F7 e8 hI => ?_)
      replace h := un_lt h _ e8
      refine lv_aload_n hx hb d_Md_readSymbols_80 rfl (lv_at hl 1 rfl) ?_
      refine lv_aload_n hx hb d_Md_readSymbols_81 rfl (lv_at hl 1 rfl) ?_
      refine w_getI (T := T_Md) S hK hI o0 rfl hin_Md 18 (index := 163) (by decide) lf_Md_163 d_Md_readSymbols_82 ?_
      refine lv_iconst (v := 1) hx hb d_Md_readSymbols_85 rfl ?_
      refine lv_iadd hx hb d_Md_readSymbols_86 ?_
      refine lv_aload_n hx hb d_Md_readSymbols_87 rfl (lv_at hl 1 rfl) ?_
      have p9 := wt_a hW o0 19 rfl (by decide) (by decide)
      refine w_getR (T := T_Md) S hK hI o0 rfl hin_Md 19 (index := 25) (by decide) lf_Md_25 d_Md_readSymbols_88 ?_
      refine lv_iload hx hb d_Md_readSymbols_91 (lv_at hl 0 rfl) ?_
      obtain ⟨z10, h⟩ := un_if h
      refine w_iald S hK hI hT p9 z10 d_Md_readSymbols_93 ?_
      refine lv_isub hx hb d_Md_readSymbols_94 ?_
      obtain ⟨q11, e12, h⟩ := un_bi h
      refine w_callVi (As := [.int (((F7 i0 18) + (1 : Int32)) - (mGa L F7 (mRf L i0 19) (mGa L q2.2 (mRf L i0 20) q2.1.toNatClampNeg).toNatClampNeg))]) (rest := []) S hK hI hT (c_Md_take l hW o0 e12) (cwV 1 S.2.2.2.2 (gd_V lc_Md_take lm_Md_169 li_Md_take ls_Md_take ln_Md) rfl rfl rfl hd_Md_take ⟨Nat.le_of_ble_eq_true rfl, Nat.le_of_ble_eq_true rfl⟩) o0 rfl (by decide) rfl rfl hl.1 (Nat.le_of_ble_eq_true rfl) d_Md_readSymbols_95 ⟨Nat.zero_le _, Nat.zero_le _⟩ (fun H locs hI => ?_)
      refine lv_istore (lv' := [(5, .int q11.1), (4, .int (mGa L q2.2 (mRf L i0 20) q2.1.toNatClampNeg)), (0, .ref (mAd X i0)), (3, .int x3)]) hx hb d_Md_readSymbols_98 hl (by decide) rfl (fun ls hl => ?_)
      refine lv_iinc (k := 3) (v := x3 + (1 : Int32)) (lv' := [(3, .int (x3 + (1 : Int32))), (5, .int q11.1), (4, .int (mGa L q2.2 (mRf L i0 20) q2.1.toNatClampNeg)), (0, .ref (mAd X i0))]) hx hb d_Md_readSymbols_100 hl rfl rfl (by decide) rfl (fun ls hl => ?_)
      refine lv_goto (tgt := 37) hx hb d_Md_readSymbols_103 rfl ?_
      exact hk37 _ _ _ _ _ _ o0 hI (lv_sub hl [3, 0] rfl) h
def f_Md_readSymbols_37 (L : La)  : Nat → Nat → Int32 → Mem → Option Mem
  | 0 => fun _ _ _ => none
  | n + 1 => b_Md_readSymbols_37 L (f_Md_readSymbols_37 L  n)
theorem tf_Md_readSymbols_37 (hC : Cx X L p s m args meth c cc_Md_readSymbols 6 w_Md_readSymbols R_Md none)  {out : Mem}  (n : Nat) : ∀ (i0 : Nat) (x3 : Int32) (F : Mem) (H : Heap) (locs : List Loc) (ls : Array Slot), oO L 12 i0 → Iv X L s H locs F → lv_has ls 6 [(0, .ref (mAd X i0)), (3, .int x3)] → f_Md_readSymbols_37 L  n i0 x3 F = some out → W p l e (headSpec w_Md_readSymbols r_Md_readSymbols).room s m args below meth c H locs 0 0 (MQ below (QV X L out) args s 0 0 (AA X L)) (F0 m 37 ls []) := by
  induction n with
  | zero => intro i0 x3 F H locs ls o0 hI hl h; cases h
  | succ n ih => intro i0 x3 F H locs ls o0 hI hl h; exact t_Md_readSymbols_37 hC ih o0 hI hl h
def b_Md_readSymbols_20 (L : La)  (i0 : Nat) (x1 : Int32) (j0 : Nat) (y1 : Int32) (F : Mem) : Option Mem :=
  if ¬ (y1 = 0 ∨ y1 = 1) then none else
  lt' (u2 F j0 5 y1) fun F1 =>
  (f_Md_next L i0 x1 F1).bind fun q4 =>
  (f_Md_openStream L i0 q4.1 x1 q4.2).bind fun F6 =>
  f_Md_readSymbols_37 L  mFU i0 (0 : Int32) F6
set_option maxHeartbeats 4000000 in
theorem t_Md_readSymbols_20 (hC : Cx X L p s m args meth c cc_Md_readSymbols 6 w_Md_readSymbols R_Md none)  {out : Mem}  {i0 : Nat} {x1 : Int32} {j0 : Nat} {y1 : Int32} {F : Mem} {H : Heap} {locs : List Loc} {ls : Array Slot} (o0 : oO L 12 i0) (oy0 : oO L 12 j0) (hI : Iv X L s H locs F) (hl : lv_has ls 6 [(0, .ref (mAd X i0)), (1, .int x1)]) (h : b_Md_readSymbols_20 L  i0 x1 j0 y1 F = some out) : W p l e (headSpec w_Md_readSymbols r_Md_readSymbols).room s m args below meth c H locs 0 0 (MQ below (QV X L out) args s 0 0 (AA X L)) (F0 m 20 ls [.int y1, .ref (mAd X j0)]) := by
  unfold b_Md_readSymbols_20 at h
  obtain ⟨S, hK, hT, hW, hr, hlk⟩ := id hC
  have hx := S.1
  have hb := S.2.1
  obtain ⟨z3, h⟩ := un_if h
  refine w_putZ (T := T_Md) S hK hI oy0 rfl hin_Md ty_Md tk_Md nm_Md 5 (index := 102) (by decide) lf_Md_102 rfl z3 d_Md_readSymbols_20 (fun H locs F1 e2 hI => ?_)
  replace h := un_lt h _ e2
  refine lv_aload_n hx hb d_Md_readSymbols_23 rfl (lv_at hl 0 rfl) ?_
  refine lv_iload_n hx hb d_Md_readSymbols_24 rfl (lv_at hl 1 rfl) ?_
  obtain ⟨q4, e5, h⟩ := un_bi h
  refine w_callVi (As := [.int x1]) (rest := []) S hK hI hT (c_Md_next l hW o0 e5) (cwV 1 S.2.2.2.2 (gd_V lc_Md_next lm_Md_125 li_Md_next ls_Md_next ln_Md) rfl rfl rfl hd_Md_next ⟨Nat.le_of_ble_eq_true rfl, Nat.le_of_ble_eq_true rfl⟩) o0 rfl (by decide) rfl rfl hl.1 (Nat.le_of_ble_eq_true rfl) d_Md_readSymbols_25 ⟨Nat.zero_le _, Nat.zero_le _⟩ (fun H locs hI => ?_)
  refine lv_istore_n (lv' := [(2, .int q4.1), (0, .ref (mAd X i0)), (1, .int x1)]) hx hb d_Md_readSymbols_28 rfl hl (by decide) rfl (fun ls hl => ?_)
  refine lv_aload_n hx hb d_Md_readSymbols_29 rfl (lv_at hl 1 rfl) ?_
  refine lv_iload_n hx hb d_Md_readSymbols_30 rfl (lv_at hl 0 rfl) ?_
  refine lv_iload_n hx hb d_Md_readSymbols_31 rfl (lv_at hl 2 rfl) ?_
  obtain ⟨F6, e7, h⟩ := un_bi h
  refine w_callVv (As := [.int q4.1, .int x1]) (rest := []) S hK hI hT (c_Md_openStream l hW o0 e7) (cwV 2 S.2.2.2.2 (gd_V lc_Md_openStream lm_Md_159 li_Md_openStream ls_Md_openStream ln_Md) rfl rfl rfl hd_Md_openStream ⟨Nat.le_of_ble_eq_true rfl, Nat.le_of_ble_eq_true rfl⟩) o0 rfl (by decide) rfl rfl hl.1 (Nat.le_of_ble_eq_true rfl) d_Md_readSymbols_32 ⟨Nat.zero_le _, Nat.zero_le _⟩ (fun H locs hI => ?_)
  refine lv_iconst (v := 0) hx hb d_Md_readSymbols_35 rfl ?_
  refine lv_istore_n (lv' := [(3, .int (0 : Int32)), (2, .int q4.1), (0, .ref (mAd X i0)), (1, .int x1)]) hx hb d_Md_readSymbols_36 rfl hl (by decide) rfl (fun ls hl => ?_)
  exact tf_Md_readSymbols_37 hC  mFU _ _ _ _ _ _ o0 hI (lv_sub hl [2, 0] rfl) h
def b_Md_readSymbols_15 (L : La)  (i0 : Nat) (x1 : Int32) (j0 : Nat) (F : Mem) : Option Mem :=
  b_Md_readSymbols_20 L  i0 x1 j0 (1 : Int32) F
set_option maxHeartbeats 4000000 in
theorem t_Md_readSymbols_15 (hC : Cx X L p s m args meth c cc_Md_readSymbols 6 w_Md_readSymbols R_Md none)  {out : Mem}  {i0 : Nat} {x1 : Int32} {j0 : Nat} {F : Mem} {H : Heap} {locs : List Loc} {ls : Array Slot} (o0 : oO L 12 i0) (oy0 : oO L 12 j0) (hI : Iv X L s H locs F) (hl : lv_has ls 6 [(0, .ref (mAd X i0)), (1, .int x1)]) (h : b_Md_readSymbols_15 L  i0 x1 j0 F = some out) : W p l e (headSpec w_Md_readSymbols r_Md_readSymbols).room s m args below meth c H locs 0 0 (MQ below (QV X L out) args s 0 0 (AA X L)) (F0 m 15 ls [.ref (mAd X j0)]) := by
  unfold b_Md_readSymbols_15 at h
  obtain ⟨S, hK, hT, hW, hr, hlk⟩ := id hC
  have hx := S.1
  have hb := S.2.1
  refine lv_iconst (v := 1) hx hb d_Md_readSymbols_15 rfl ?_
  refine lv_goto (tgt := 20) hx hb d_Md_readSymbols_16 rfl ?_
  exact t_Md_readSymbols_20 hC  o0 oy0 hI hl h
def f_Md_readSymbols (L : La) (i0 : Nat) (x1 : Int32) (F : Mem) : Option Mem :=
  if (F i0 5) = 0 then
    if (F i0 15) = 0 then
      b_Md_readSymbols_15 L  i0 x1 i0 F
    else
      b_Md_readSymbols_20 L  i0 x1 i0 (0 : Int32) F
  else
    b_Md_readSymbols_15 L  i0 x1 i0 F
set_option maxHeartbeats 4000000 in
theorem c_Md_readSymbols (l : Launch) {X : Xs} {L : La} (hW : WT L) {out : Mem} {i0 : Nat} {x1 : Int32} {F : Mem} (o0 : oO L 12 i0) (h : f_Md_readSymbols L i0 x1 F = some out) : Met l y_Md_readSymbols w_Md_readSymbols r_Md_readSymbols (va_Pc [.ref (mAd X i0), .int x1] (Pr X L F)) (QV X L out) 0 0 (AA X L) := by
  refine mk_met (by decide) rfl (Nat.le_of_ble_eq_true rfl) hW ?_
  intro p e s m args below meth c ls hC hI hl
  have hl : lv_has ls 6 [(0, .ref (mAd X i0)), (1, .int x1)] := hl
  generalize hHe : s.heap = H at hI ⊢
  generalize ([] : List Loc) = locs at hI ⊢
  unfold f_Md_readSymbols at h
  obtain ⟨S, hK, hT, hW, hr, hlk⟩ := id hC
  have hx := S.1
  have hb := S.2.1
  refine lv_aload_n hx hb d_Md_readSymbols_0 rfl (lv_at hl 0 rfl) ?_
  refine lv_aload_n hx hb d_Md_readSymbols_1 rfl (lv_at hl 0 rfl) ?_
  refine w_getI (T := T_Md) S hK hI o0 rfl hin_Md 5 (index := 102) (by decide) lf_Md_102 d_Md_readSymbols_2 ?_
  refine lv_if_ne (tgt := 15) hx hb d_Md_readSymbols_5 rfl (fun hc => ?_) (fun hc => ?_)
  · replace h := (if_neg hc).symm.trans h
    exact t_Md_readSymbols_15 hC  o0 o0 hI hl h
  · replace h := (if_pos hc).symm.trans h
    refine lv_aload_n hx hb d_Md_readSymbols_8 rfl (lv_at hl 0 rfl) ?_
    refine w_getI (T := T_Md) S hK hI o0 rfl hin_Md 15 (index := 131) (by decide) lf_Md_131 d_Md_readSymbols_9 ?_
    refine lv_if_ne (tgt := 19) hx hb d_Md_readSymbols_12 rfl (fun hc => ?_) (fun hc => ?_)
    · replace h := (if_neg hc).symm.trans h
      refine lv_iconst (v := 0) hx hb d_Md_readSymbols_19 rfl ?_
      exact t_Md_readSymbols_20 hC  o0 o0 hI hl h
    · replace h := (if_pos hc).symm.trans h
      exact t_Md_readSymbols_15 hC  o0 o0 hI hl h
end
