theorem d_Md_skip_0 : decode cc_Md_skip 0 = .ok (.iload_n 1, 1) := by decide +kernel
theorem d_Md_skip_1 : decode cc_Md_skip 1 = .ok (.ifCond .lt (23), 3) := by decide +kernel
theorem d_Md_skip_4 : decode cc_Md_skip 4 = .ok (.iload_n 1, 1) := by decide +kernel
theorem d_Md_skip_5 : decode cc_Md_skip 5 = .ok (.bipush (20), 2) := by decide +kernel
theorem d_Md_skip_7 : decode cc_Md_skip 7 = .ok (.if_icmp .gt (17), 3) := by decide +kernel
theorem d_Md_skip_10 : decode cc_Md_skip 10 = .ok (.aload_n 0, 1) := by decide +kernel
theorem d_Md_skip_11 : decode cc_Md_skip 11 = .ok (.getfield 90, 3) := by decide +kernel
theorem d_Md_skip_14 : decode cc_Md_skip 14 = .ok (.iconst 2, 1) := by decide +kernel
theorem d_Md_skip_15 : decode cc_Md_skip 15 = .ok (.iadd, 1) := by decide +kernel
theorem d_Md_skip_16 : decode cc_Md_skip 16 = .ok (.iload_n 1, 1) := by decide +kernel
theorem d_Md_skip_17 : decode cc_Md_skip 17 = .ok (.iadd, 1) := by decide +kernel
theorem d_Md_skip_18 : decode cc_Md_skip 18 = .ok (.sipush (240), 3) := by decide +kernel
theorem d_Md_skip_21 : decode cc_Md_skip 21 = .ok (.if_icmp .le (5), 3) := by decide +kernel
theorem d_Md_skip_24 : decode cc_Md_skip 24 = .ok (.iconst 0, 1) := by decide +kernel
theorem d_Md_skip_25 : decode cc_Md_skip 25 = .ok (.ireturn, 1) := by decide +kernel
theorem d_Md_skip_26 : decode cc_Md_skip 26 = .ok (.aload_n 0, 1) := by decide +kernel
theorem d_Md_skip_27 : decode cc_Md_skip 27 = .ok (.bipush (83), 2) := by decide +kernel
theorem d_Md_skip_29 : decode cc_Md_skip 29 = .ok (.invokevirtual 269, 3) := by decide +kernel
theorem d_Md_skip_32 : decode cc_Md_skip 32 = .ok (.aload_n 0, 1) := by decide +kernel
theorem d_Md_skip_33 : decode cc_Md_skip 33 = .ok (.iload_n 1, 1) := by decide +kernel
theorem d_Md_skip_34 : decode cc_Md_skip 34 = .ok (.invokevirtual 269, 3) := by decide +kernel
theorem d_Md_skip_37 : decode cc_Md_skip 37 = .ok (.iconst 0, 1) := by decide +kernel
theorem d_Md_skip_38 : decode cc_Md_skip 38 = .ok (.istore_n 2, 1) := by decide +kernel
theorem d_Md_skip_39 : decode cc_Md_skip 39 = .ok (.iload_n 2, 1) := by decide +kernel
theorem d_Md_skip_40 : decode cc_Md_skip 40 = .ok (.iload_n 1, 1) := by decide +kernel
theorem d_Md_skip_41 : decode cc_Md_skip 41 = .ok (.if_icmp .ge (14), 3) := by decide +kernel
theorem d_Md_skip_44 : decode cc_Md_skip 44 = .ok (.aload_n 0, 1) := by decide +kernel
theorem d_Md_skip_45 : decode cc_Md_skip 45 = .ok (.iconst 0, 1) := by decide +kernel
theorem d_Md_skip_46 : decode cc_Md_skip 46 = .ok (.invokevirtual 269, 3) := by decide +kernel
theorem d_Md_skip_49 : decode cc_Md_skip 49 = .ok (.iinc 2 (1), 3) := by decide +kernel
theorem d_Md_skip_52 : decode cc_Md_skip 52 = .ok (.goto (-13), 3) := by decide +kernel
theorem d_Md_skip_55 : decode cc_Md_skip 55 = .ok (.iconst 1, 1) := by decide +kernel
theorem d_Md_skip_56 : decode cc_Md_skip 56 = .ok (.ireturn, 1) := by decide +kernel
section
variable {p : Program} {l : Launch} {e : Env} {s : State} {m : MethodId} {args : Array Value} {below : List Frame} {meth : Method} {c : Code} {X : Xs} {L : La}
def b_Md_skip_24 (L : La)   (F : Mem) : Option (Int32 × Mem) :=
  if (0 : Int32) = 0 ∨ (0 : Int32) = 1 then some ((0 : Int32), F) else none
set_option maxHeartbeats 4000000 in
theorem t_Md_skip_24 (hC : Cx X L p s m args meth c cc_Md_skip 3 w_Md_skip R_Md (some .boolean))  {out : (Int32 × Mem)}   {F : Mem} {H : Heap} {locs : List Loc} {ls : Array Slot}  (hI : Iv X L s H locs F) (hl : lv_has ls 3 []) (h : b_Md_skip_24 L   F = some out) : W p l e (headSpec w_Md_skip r_Md_skip).room s m args below meth c H locs 0 0 (MQ below (QI X L out) args s 0 0 (AA X L)) (F0 m 24 ls []) := by
  unfold b_Md_skip_24 at h
  obtain ⟨S, hK, hT, hW, hr, hlk⟩ := id hC
  have hx := S.1
  have hb := S.2.1
  refine lv_iconst (v := 0) hx hb d_Md_skip_24 rfl ?_
  exact w_zret S hK hr hlk hI d_Md_skip_25 h
def b_Md_skip_39 (L : La) (k39 : Nat → Int32 → Int32 → Mem → Option (Int32 × Mem)) (i0 : Nat) (x1 : Int32) (x2 : Int32) (F : Mem) : Option (Int32 × Mem) :=
  if x1 ≤ x2 then
    if (1 : Int32) = 0 ∨ (1 : Int32) = 1 then some ((1 : Int32), F) else none
  else
    (f_Md_append L i0 (0 : Int32) F).bind fun F1 =>
    k39 i0 x1 (x2 + (1 : Int32)) F1
set_option maxHeartbeats 4000000 in
theorem t_Md_skip_39 (hC : Cx X L p s m args meth c cc_Md_skip 3 w_Md_skip R_Md (some .boolean)) {k39 : Nat → Int32 → Int32 → Mem → Option (Int32 × Mem)} {out : (Int32 × Mem)} (hk39 : ∀ (i0 : Nat) (x1 : Int32) (x2 : Int32) (F : Mem) (H : Heap) (locs : List Loc) (ls : Array Slot), oO L 12 i0 → Iv X L s H locs F → lv_has ls 3 [(0, .ref (mAd X i0)), (1, .int x1), (2, .int x2)] → k39 i0 x1 x2 F = some out → W p l e (headSpec w_Md_skip r_Md_skip).room s m args below meth c H locs 0 0 (MQ below (QI X L out) args s 0 0 (AA X L)) (F0 m 39 ls [])) {i0 : Nat} {x1 : Int32} {x2 : Int32} {F : Mem} {H : Heap} {locs : List Loc} {ls : Array Slot} (o0 : oO L 12 i0) (hI : Iv X L s H locs F) (hl : lv_has ls 3 [(0, .ref (mAd X i0)), (1, .int x1), (2, .int x2)]) (h : b_Md_skip_39 L k39 i0 x1 x2 F = some out) : W p l e (headSpec w_Md_skip r_Md_skip).room s m args below meth c H locs 0 0 (MQ below (QI X L out) args s 0 0 (AA X L)) (F0 m 39 ls []) := by
  unfold b_Md_skip_39 at h
  obtain ⟨S, hK, hT, hW, hr, hlk⟩ := id hC
  have hx := S.1
  have hb := S.2.1
  refine lv_iload_n hx hb d_Md_skip_39 rfl (lv_at hl 2 rfl) ?_
  refine lv_iload_n hx hb d_Md_skip_40 rfl (lv_at hl 1 rfl) ?_
  refine lv_icmp_ge (tgt := 55) hx hb d_Md_skip_41 rfl (fun hc => ?_) (fun hc => ?_)
  · replace h := (if_pos hc).symm.trans h
    refine lv_iconst (v := 1) hx hb d_Md_skip_55 rfl ?_
    exact w_zret S hK hr hlk hI d_Md_skip_56 h
  · replace h := (if_neg hc).symm.trans h
    refine lv_aload_n hx hb d_Md_skip_44 rfl (lv_at hl 0 rfl) ?_
    refine lv_iconst (v := 0) hx hb d_Md_skip_45 rfl ?_
    obtain ⟨F1, e2, h⟩ := un_bi h
    refine w_callVv (As := [.int (0 : Int32)]) (rest := []) S hK hI hT (c_Md_append l hW o0 e2) (cwV 1 S.2.2.2.2 (gd_V lc_Md_append lm_Md_269 li_Md_append ls_Md_append ln_Md) rfl rfl rfl hd_Md_append ⟨Nat.le_of_ble_eq_true rfl, Nat.le_of_ble_eq_true rfl⟩) o0 rfl (by decide) rfl rfl hl.1 (Nat.le_of_ble_eq_true rfl) d_Md_skip_46 ⟨Nat.zero_le _, Nat.zero_le _⟩ (fun H locs hI => ?_)
    refine lv_iinc (k := 2) (v := x2 + (1 : Int32)) (lv' := [(2, .int (x2 + (1 : Int32))), (0, .ref (mAd X i0)), (1, .int x1)]) hx hb d_Md_skip_49 hl rfl rfl (by decide) rfl (fun ls hl => ?_)
    refine lv_goto (tgt := 39) hx hb d_Md_skip_52 rfl ?_
    exact hk39 _ _ _ _ _ _ _ o0 hI (lv_sub hl [1, 2, 0] rfl) h
def f_Md_skip_39 (L : La)  : Nat → Nat → Int32 → Int32 → Mem → Option (Int32 × Mem)
  | 0 => fun _ _ _ _ => none
  | n + 1 => b_Md_skip_39 L (f_Md_skip_39 L  n)
theorem tf_Md_skip_39 (hC : Cx X L p s m args meth c cc_Md_skip 3 w_Md_skip R_Md (some .boolean))  {out : (Int32 × Mem)}  (n : Nat) : ∀ (i0 : Nat) (x1 : Int32) (x2 : Int32) (F : Mem) (H : Heap) (locs : List Loc) (ls : Array Slot), oO L 12 i0 → Iv X L s H locs F → lv_has ls 3 [(0, .ref (mAd X i0)), (1, .int x1), (2, .int x2)] → f_Md_skip_39 L  n i0 x1 x2 F = some out → W p l e (headSpec w_Md_skip r_Md_skip).room s m args below meth c H locs 0 0 (MQ below (QI X L out) args s 0 0 (AA X L)) (F0 m 39 ls []) := by
  induction n with
  | zero => intro i0 x1 x2 F H locs ls o0 hI hl h; cases h
  | succ n ih => intro i0 x1 x2 F H locs ls o0 hI hl h; exact t_Md_skip_39 hC ih o0 hI hl h
def f_Md_skip (L : La) (i0 : Nat) (x1 : Int32) (F : Mem) : Option (Int32 × Mem) :=
  if x1 < 0 then
    b_Md_skip_24 L   F
  else
    if (20 : Int32) < x1 then
      b_Md_skip_24 L   F
    else
      if (((F i0 3) + (2 : Int32)) + x1) ≤ (240 : Int32) then
        (f_Md_append L i0 (83 : Int32) F).bind fun F1 =>
        (f_Md_append L i0 x1 F1).bind fun F3 =>
        f_Md_skip_39 L  mFU i0 x1 (0 : Int32) F3
      else
        b_Md_skip_24 L   F
set_option maxHeartbeats 4000000 in
theorem c_Md_skip (l : Launch) {X : Xs} {L : La} (hW : WT L) {out : (Int32 × Mem)} {i0 : Nat} {x1 : Int32} {F : Mem} (o0 : oO L 12 i0) (h : f_Md_skip L i0 x1 F = some out) : Met l y_Md_skip w_Md_skip r_Md_skip (va_Pc [.ref (mAd X i0), .int x1] (Pr X L F)) (QI X L out) 0 0 (AA X L) := by
  refine mk_met (by decide) rfl (Nat.le_of_ble_eq_true rfl) hW ?_
  intro p e s m args below meth c ls hC hI hl
  have hl : lv_has ls 3 [(0, .ref (mAd X i0)), (1, .int x1)] := hl
  generalize hHe : s.heap = H at hI ⊢
  generalize ([] : List Loc) = locs at hI ⊢
  unfold f_Md_skip at h
  obtain ⟨S, hK, hT, hW, hr, hlk⟩ := id hC
  have hx := S.1
  have hb := S.2.1
  refine lv_iload_n hx hb d_Md_skip_0 rfl (lv_at hl 1 rfl) ?_
  refine lv_if_lt (tgt := 24) hx hb d_Md_skip_1 rfl (fun hc => ?_) (fun hc => ?_)
  · replace h := (if_pos hc).symm.trans h
    exact t_Md_skip_24 hC   hI (lv_sub hl [] rfl) h
  · replace h := (if_neg hc).symm.trans h
    refine lv_iload_n hx hb d_Md_skip_4 rfl (lv_at hl 1 rfl) ?_
    refine lv_bipush (v := 20) hx hb d_Md_skip_5 (by decide) ?_
    refine lv_icmp_gt (tgt := 24) hx hb d_Md_skip_7 rfl (fun hc => ?_) (fun hc => ?_)
    · replace h := (if_pos hc).symm.trans h
      exact t_Md_skip_24 hC   hI (lv_sub hl [] rfl) h
    · replace h := (if_neg hc).symm.trans h
      refine lv_aload_n hx hb d_Md_skip_10 rfl (lv_at hl 0 rfl) ?_
      refine w_getI (T := T_Md) S hK hI o0 rfl hin_Md 3 (index := 90) (by decide) lf_Md_90 d_Md_skip_11 ?_
      refine lv_iconst (v := 2) hx hb d_Md_skip_14 rfl ?_
      refine lv_iadd hx hb d_Md_skip_15 ?_
      refine lv_iload_n hx hb d_Md_skip_16 rfl (lv_at hl 1 rfl) ?_
      refine lv_iadd hx hb d_Md_skip_17 ?_
      refine lv_sipush (v := 240) hx hb d_Md_skip_18 (by decide) ?_
      refine lv_icmp_le (tgt := 26) hx hb d_Md_skip_21 rfl (fun hc => ?_) (fun hc => ?_)
      · replace h := (if_pos hc).symm.trans h
        refine lv_aload_n hx hb d_Md_skip_26 rfl (lv_at hl 0 rfl) ?_
        refine lv_bipush (v := 83) hx hb d_Md_skip_27 (by decide) ?_
        obtain ⟨F1, e2, h⟩ := un_bi h
        refine w_callVv (As := [.int (83 : Int32)]) (rest := []) S hK hI hT (c_Md_append l hW o0 e2) (cwV 1 S.2.2.2.2 (gd_V lc_Md_append lm_Md_269 li_Md_append ls_Md_append ln_Md) rfl rfl rfl hd_Md_append ⟨Nat.le_of_ble_eq_true rfl, Nat.le_of_ble_eq_true rfl⟩) o0 rfl (by decide) rfl rfl hl.1 (Nat.le_of_ble_eq_true rfl) d_Md_skip_29 ⟨Nat.zero_le _, Nat.zero_le _⟩ (fun H locs hI => ?_)
        refine lv_aload_n hx hb d_Md_skip_32 rfl (lv_at hl 0 rfl) ?_
        refine lv_iload_n hx hb d_Md_skip_33 rfl (lv_at hl 1 rfl) ?_
        obtain ⟨F3, e4, h⟩ := un_bi h
        refine w_callVv (As := [.int x1]) (rest := []) S hK hI hT (c_Md_append l hW o0 e4) (cwV 1 S.2.2.2.2 (gd_V lc_Md_append lm_Md_269 li_Md_append ls_Md_append ln_Md) rfl rfl rfl hd_Md_append ⟨Nat.le_of_ble_eq_true rfl, Nat.le_of_ble_eq_true rfl⟩) o0 rfl (by decide) rfl rfl hl.1 (Nat.le_of_ble_eq_true rfl) d_Md_skip_34 ⟨Nat.zero_le _, Nat.zero_le _⟩ (fun H locs hI => ?_)
        refine lv_iconst (v := 0) hx hb d_Md_skip_37 rfl ?_
        refine lv_istore_n (lv' := [(2, .int (0 : Int32)), (0, .ref (mAd X i0)), (1, .int x1)]) hx hb d_Md_skip_38 rfl hl (by decide) rfl (fun ls hl => ?_)
        exact tf_Md_skip_39 hC  mFU _ _ _ _ _ _ _ o0 hI (lv_sub hl [1, 2, 0] rfl) h
      · replace h := (if_neg hc).symm.trans h
        exact t_Md_skip_24 hC   hI (lv_sub hl [] rfl) h
end
theorem d_Md_usual_0 : decode cc_Md_usual 0 = .ok (.iload_n 1, 1) := by decide +kernel
theorem d_Md_usual_1 : decode cc_Md_usual 1 = .ok (.ifCond .lt (18), 3) := by decide +kernel
theorem d_Md_usual_4 : decode cc_Md_usual 4 = .ok (.iload_n 1, 1) := by decide +kernel
theorem d_Md_usual_5 : decode cc_Md_usual 5 = .ok (.iconst 1, 1) := by decide +kernel
theorem d_Md_usual_6 : decode cc_Md_usual 6 = .ok (.if_icmp .gt (13), 3) := by decide +kernel
theorem d_Md_usual_9 : decode cc_Md_usual 9 = .ok (.iload_n 2, 1) := by decide +kernel
theorem d_Md_usual_10 : decode cc_Md_usual 10 = .ok (.ifCond .lt (9), 3) := by decide +kernel
theorem d_Md_usual_13 : decode cc_Md_usual 13 = .ok (.iload_n 2, 1) := by decide +kernel
theorem d_Md_usual_14 : decode cc_Md_usual 14 = .ok (.bipush (15), 2) := by decide +kernel
theorem d_Md_usual_16 : decode cc_Md_usual 16 = .ok (.if_icmp .le (5), 3) := by decide +kernel
theorem d_Md_usual_19 : decode cc_Md_usual 19 = .ok (.iconst (-1), 1) := by decide +kernel
theorem d_Md_usual_20 : decode cc_Md_usual 20 = .ok (.ireturn, 1) := by decide +kernel
theorem d_Md_usual_21 : decode cc_Md_usual 21 = .ok (.aload_n 0, 1) := by decide +kernel
theorem d_Md_usual_22 : decode cc_Md_usual 22 = .ok (.iload_n 1, 1) := by decide +kernel
theorem d_Md_usual_23 : decode cc_Md_usual 23 = .ok (.invokevirtual 200, 3) := by decide +kernel
theorem d_Md_usual_26 : decode cc_Md_usual 26 = .ok (.bipush (16), 2) := by decide +kernel
theorem d_Md_usual_28 : decode cc_Md_usual 28 = .ok (.iload_n 1, 1) := by decide +kernel
theorem d_Md_usual_29 : decode cc_Md_usual 29 = .ok (.imul, 1) := by decide +kernel
theorem d_Md_usual_30 : decode cc_Md_usual 30 = .ok (.iload_n 2, 1) := by decide +kernel
theorem d_Md_usual_31 : decode cc_Md_usual 31 = .ok (.iadd, 1) := by decide +kernel
theorem d_Md_usual_32 : decode cc_Md_usual 32 = .ok (.istore 4, 2) := by decide +kernel
theorem d_Md_usual_34 : decode cc_Md_usual 34 = .ok (.iload_n 3, 1) := by decide +kernel
theorem d_Md_usual_35 : decode cc_Md_usual 35 = .ok (.ifCond .ne (13), 3) := by decide +kernel
theorem d_Md_usual_38 : decode cc_Md_usual 38 = .ok (.aload_n 0, 1) := by decide +kernel
theorem d_Md_usual_39 : decode cc_Md_usual 39 = .ok (.getfield 38, 3) := by decide +kernel
theorem d_Md_usual_42 : decode cc_Md_usual 42 = .ok (.iload 4, 2) := by decide +kernel
theorem d_Md_usual_44 : decode cc_Md_usual 44 = .ok (.iaload, 1) := by decide +kernel
theorem d_Md_usual_45 : decode cc_Md_usual 45 = .ok (.goto (34), 3) := by decide +kernel
theorem d_Md_usual_48 : decode cc_Md_usual 48 = .ok (.iload_n 3, 1) := by decide +kernel
theorem d_Md_usual_49 : decode cc_Md_usual 49 = .ok (.iconst 1, 1) := by decide +kernel
theorem d_Md_usual_50 : decode cc_Md_usual 50 = .ok (.if_icmp .ne (13), 3) := by decide +kernel
theorem d_Md_usual_53 : decode cc_Md_usual 53 = .ok (.aload_n 0, 1) := by decide +kernel
theorem d_Md_usual_54 : decode cc_Md_usual 54 = .ok (.getfield 41, 3) := by decide +kernel
theorem d_Md_usual_57 : decode cc_Md_usual 57 = .ok (.iload 4, 2) := by decide +kernel
theorem d_Md_usual_59 : decode cc_Md_usual 59 = .ok (.iaload, 1) := by decide +kernel
theorem d_Md_usual_60 : decode cc_Md_usual 60 = .ok (.goto (19), 3) := by decide +kernel
theorem d_Md_usual_63 : decode cc_Md_usual 63 = .ok (.iload_n 3, 1) := by decide +kernel
theorem d_Md_usual_64 : decode cc_Md_usual 64 = .ok (.iconst 2, 1) := by decide +kernel
theorem d_Md_usual_65 : decode cc_Md_usual 65 = .ok (.if_icmp .ne (13), 3) := by decide +kernel
theorem d_Md_usual_68 : decode cc_Md_usual 68 = .ok (.aload_n 0, 1) := by decide +kernel
theorem d_Md_usual_69 : decode cc_Md_usual 69 = .ok (.getfield 44, 3) := by decide +kernel
theorem d_Md_usual_72 : decode cc_Md_usual 72 = .ok (.iload 4, 2) := by decide +kernel
theorem d_Md_usual_74 : decode cc_Md_usual 74 = .ok (.iaload, 1) := by decide +kernel
theorem d_Md_usual_75 : decode cc_Md_usual 75 = .ok (.goto (4), 3) := by decide +kernel
theorem d_Md_usual_78 : decode cc_Md_usual 78 = .ok (.iconst (-1), 1) := by decide +kernel
theorem d_Md_usual_79 : decode cc_Md_usual 79 = .ok (.ireturn, 1) := by decide +kernel
section
variable {p : Program} {l : Launch} {e : Env} {s : State} {m : MethodId} {args : Array Value} {below : List Frame} {meth : Method} {c : Code} {X : Xs} {L : La}
def b_Md_usual_19 (L : La)   (F : Mem) : Option (Int32 × Mem) :=
  some ((-1 : Int32), F)
set_option maxHeartbeats 4000000 in
theorem t_Md_usual_19 (hC : Cx X L p s m args meth c cc_Md_usual 5 w_Md_usual R_Md (some .int))  {out : (Int32 × Mem)}   {F : Mem} {H : Heap} {locs : List Loc} {ls : Array Slot}  (hI : Iv X L s H locs F) (hl : lv_has ls 5 []) (h : b_Md_usual_19 L   F = some out) : W p l e (headSpec w_Md_usual r_Md_usual).room s m args below meth c H locs 0 0 (MQ below (QI X L out) args s 0 0 (AA X L)) (F0 m 19 ls []) := by
  unfold b_Md_usual_19 at h
  obtain ⟨S, hK, hT, hW, hr, hlk⟩ := id hC
  have hx := S.1
  have hb := S.2.1
  refine lv_iconst (v := -1) hx hb d_Md_usual_19 rfl ?_
  exact w_iret S hK hr hlk hI d_Md_usual_20 h
def b_Md_usual_79 (L : La)  (y0 : Int32) (F : Mem) : Option (Int32 × Mem) :=
  some (y0, F)
set_option maxHeartbeats 4000000 in
theorem t_Md_usual_79 (hC : Cx X L p s m args meth c cc_Md_usual 5 w_Md_usual R_Md (some .int))  {out : (Int32 × Mem)}  {y0 : Int32} {F : Mem} {H : Heap} {locs : List Loc} {ls : Array Slot}  (hI : Iv X L s H locs F) (hl : lv_has ls 5 []) (h : b_Md_usual_79 L  y0 F = some out) : W p l e (headSpec w_Md_usual r_Md_usual).room s m args below meth c H locs 0 0 (MQ below (QI X L out) args s 0 0 (AA X L)) (F0 m 79 ls [.int y0]) := by
  unfold b_Md_usual_79 at h
  obtain ⟨S, hK, hT, hW, hr, hlk⟩ := id hC
  have hx := S.1
  have hb := S.2.1
  exact w_iret S hK hr hlk hI d_Md_usual_79 h
def f_Md_usual (L : La) (i0 : Nat) (x1 : Int32) (x2 : Int32) (x3 : Int32) (F : Mem) : Option (Int32 × Mem) :=
  if x1 < 0 then
    b_Md_usual_19 L   F
  else
    if (1 : Int32) < x1 then
      b_Md_usual_19 L   F
    else
      if x2 < 0 then
        b_Md_usual_19 L   F
      else
        if x2 ≤ (15 : Int32) then
          (f_Md_setUsual L i0 x1 F).bind fun F1 =>
          if x3 = 0 then
            if inb (((16 : Int32) * x1) + x2) (mGl L (mRf L i0 23)) then none else
            b_Md_usual_79 L  (mGa L F1 (mRf L i0 23) (((16 : Int32) * x1) + x2).toNatClampNeg) F1
          else
            if x3 = (1 : Int32) then
              if inb (((16 : Int32) * x1) + x2) (mGl L (mRf L i0 24)) then none else
              b_Md_usual_79 L  (mGa L F1 (mRf L i0 24) (((16 : Int32) * x1) + x2).toNatClampNeg) F1
            else
              if x3 = (2 : Int32) then
                if inb (((16 : Int32) * x1) + x2) (mGl L (mRf L i0 25)) then none else
                b_Md_usual_79 L  (mGa L F1 (mRf L i0 25) (((16 : Int32) * x1) + x2).toNatClampNeg) F1
              else
                b_Md_usual_79 L  (-1 : Int32) F1
        else
          b_Md_usual_19 L   F
set_option maxHeartbeats 4000000 in
theorem c_Md_usual (l : Launch) {X : Xs} {L : La} (hW : WT L) {out : (Int32 × Mem)} {i0 : Nat} {x1 : Int32} {x2 : Int32} {x3 : Int32} {F : Mem} (o0 : oO L 12 i0) (h : f_Md_usual L i0 x1 x2 x3 F = some out) : Met l y_Md_usual w_Md_usual r_Md_usual (va_Pc [.ref (mAd X i0), .int x1, .int x2, .int x3] (Pr X L F)) (QI X L out) 0 0 (AA X L) := by
  refine mk_met (by decide) rfl (Nat.le_of_ble_eq_true rfl) hW ?_
  intro p e s m args below meth c ls hC hI hl
  have hl : lv_has ls 5 [(0, .ref (mAd X i0)), (1, .int x1), (2, .int x2), (3, .int x3)] := hl
  generalize hHe : s.heap = H at hI ⊢
  generalize ([] : List Loc) = locs at hI ⊢
  unfold f_Md_usual at h
  obtain ⟨S, hK, hT, hW, hr, hlk⟩ := id hC
  have hx := S.1
  have hb := S.2.1
  refine lv_iload_n hx hb d_Md_usual_0 rfl (lv_at hl 1 rfl) ?_
  refine lv_if_lt (tgt := 19) hx hb d_Md_usual_1 rfl (fun hc => ?_) (fun hc => ?_)
  · replace h := (if_pos hc).symm.trans h
    exact t_Md_usual_19 hC   hI (lv_sub hl [] rfl) h
  · replace h := (if_neg hc).symm.trans h
    refine lv_iload_n hx hb d_Md_usual_4 rfl (lv_at hl 1 rfl) ?_
    refine lv_iconst (v := 1) hx hb d_Md_usual_5 rfl ?_
    refine lv_icmp_gt (tgt := 19) hx hb d_Md_usual_6 rfl (fun hc => ?_) (fun hc => ?_)
    · replace h := (if_pos hc).symm.trans h
      exact t_Md_usual_19 hC   hI (lv_sub hl [] rfl) h
    · replace h := (if_neg hc).symm.trans h
      refine lv_iload_n hx hb d_Md_usual_9 rfl (lv_at hl 2 rfl) ?_
      refine lv_if_lt (tgt := 19) hx hb d_Md_usual_10 rfl (fun hc => ?_) (fun hc => ?_)
      · replace h := (if_pos hc).symm.trans h
        exact t_Md_usual_19 hC   hI (lv_sub hl [] rfl) h
      · replace h := (if_neg hc).symm.trans h
        refine lv_iload_n hx hb d_Md_usual_13 rfl (lv_at hl 2 rfl) ?_
        refine lv_bipush (v := 15) hx hb d_Md_usual_14 (by decide) ?_
        refine lv_icmp_le (tgt := 21) hx hb d_Md_usual_16 rfl (fun hc => ?_) (fun hc => ?_)
        · replace h := (if_pos hc).symm.trans h
          refine lv_aload_n hx hb d_Md_usual_21 rfl (lv_at hl 0 rfl) ?_
          refine lv_iload_n hx hb d_Md_usual_22 rfl (lv_at hl 1 rfl) ?_
          obtain ⟨F1, e2, h⟩ := un_bi h
          refine w_callVv (As := [.int x1]) (rest := []) S hK hI hT (c_Md_setUsual l hW o0 e2) (cwV 1 S.2.2.2.2 (gd_V lc_Md_setUsual lm_Md_200 li_Md_setUsual ls_Md_setUsual ln_Md) rfl rfl rfl hd_Md_setUsual ⟨Nat.le_of_ble_eq_true rfl, Nat.le_of_ble_eq_true rfl⟩) o0 rfl (by decide) rfl rfl hl.1 (Nat.le_of_ble_eq_true rfl) d_Md_usual_23 ⟨Nat.zero_le _, Nat.zero_le _⟩ (fun H locs hI => ?_)
          refine lv_bipush (v := 16) hx hb d_Md_usual_26 (by decide) ?_
          refine lv_iload_n hx hb d_Md_usual_28 rfl (lv_at hl 1 rfl) ?_
          refine lv_imul hx hb d_Md_usual_29 ?_
          refine lv_iload_n hx hb d_Md_usual_30 rfl (lv_at hl 2 rfl) ?_
          refine lv_iadd hx hb d_Md_usual_31 ?_
          refine lv_istore (lv' := [(4, .int (((16 : Int32) * x1) + x2)), (0, .ref (mAd X i0)), (1, .int x1), (2, .int x2), (3, .int x3)]) hx hb d_Md_usual_32 hl (by decide) rfl (fun ls hl => ?_)
          refine lv_iload_n hx hb d_Md_usual_34 rfl (lv_at hl 4 rfl) ?_
          refine lv_if_ne (tgt := 48) hx hb d_Md_usual_35 rfl (fun hc => ?_) (fun hc => ?_)
          · replace h := (if_neg hc).symm.trans h
            refine lv_iload_n hx hb d_Md_usual_48 rfl (lv_at hl 4 rfl) ?_
            refine lv_iconst (v := 1) hx hb d_Md_usual_49 rfl ?_
            refine lv_icmp_ne (tgt := 63) hx hb d_Md_usual_50 rfl (fun hc => ?_) (fun hc => ?_)
            · replace h := (if_neg hc).symm.trans h
              refine lv_iload_n hx hb d_Md_usual_63 rfl (lv_at hl 4 rfl) ?_
              refine lv_iconst (v := 2) hx hb d_Md_usual_64 rfl ?_
              refine lv_icmp_ne (tgt := 78) hx hb d_Md_usual_65 rfl (fun hc => ?_) (fun hc => ?_)
              · replace h := (if_neg hc).symm.trans h
                refine lv_iconst (v := -1) hx hb d_Md_usual_78 rfl ?_
                exact t_Md_usual_79 hC   hI (lv_sub hl [] rfl) h
              · replace h := (if_pos hc).symm.trans h
                refine lv_aload_n hx hb d_Md_usual_68 rfl (lv_at hl 1 rfl) ?_
                have p3 := wt_a hW o0 25 rfl (by decide) (by decide)
                refine w_getR (T := T_Md) S hK hI o0 rfl hin_Md 25 (index := 44) (by decide) lf_Md_44 d_Md_usual_69 ?_
                refine lv_iload hx hb d_Md_usual_72 (lv_at hl 0 rfl) ?_
                obtain ⟨z4, h⟩ := un_if h
                refine w_iald S hK hI hT p3 z4 d_Md_usual_74 ?_
                refine lv_goto (tgt := 79) hx hb d_Md_usual_75 rfl ?_
                exact t_Md_usual_79 hC   hI (lv_sub hl [] rfl) h
            · replace h := (if_pos hc).symm.trans h
              refine lv_aload_n hx hb d_Md_usual_53 rfl (lv_at hl 1 rfl) ?_
              have p5 := wt_a hW o0 24 rfl (by decide) (by decide)
              refine w_getR (T := T_Md) S hK hI o0 rfl hin_Md 24 (index := 41) (by decide) lf_Md_41 d_Md_usual_54 ?_
              refine lv_iload hx hb d_Md_usual_57 (lv_at hl 0 rfl) ?_
              obtain ⟨z6, h⟩ := un_if h
              refine w_iald S hK hI hT p5 z6 d_Md_usual_59 ?_
              refine lv_goto (tgt := 79) hx hb d_Md_usual_60 rfl ?_
              exact t_Md_usual_79 hC   hI (lv_sub hl [] rfl) h
          · replace h := (if_pos hc).symm.trans h
            refine lv_aload_n hx hb d_Md_usual_38 rfl (lv_at hl 1 rfl) ?_
            have p7 := wt_a hW o0 23 rfl (by decide) (by decide)
            refine w_getR (T := T_Md) S hK hI o0 rfl hin_Md 23 (index := 38) (by decide) lf_Md_38 d_Md_usual_39 ?_
            refine lv_iload hx hb d_Md_usual_42 (lv_at hl 0 rfl) ?_
            obtain ⟨z8, h⟩ := un_if h
            refine w_iald S hK hI hT p7 z8 d_Md_usual_44 ?_
            refine lv_goto (tgt := 79) hx hb d_Md_usual_45 rfl ?_
            exact t_Md_usual_79 hC   hI (lv_sub hl [] rfl) h
        · replace h := (if_neg hc).symm.trans h
          exact t_Md_usual_19 hC   hI (lv_sub hl [] rfl) h
end
