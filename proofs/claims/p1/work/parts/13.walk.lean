theorem d_Md_readLiterals_0 : decode cc_Md_readLiterals 0 = .ok (.aload_n 0, 1) := by decide +kernel
theorem d_Md_readLiterals_1 : decode cc_Md_readLiterals 1 = .ok (.iload_n 1, 1) := by decide +kernel
theorem d_Md_readLiterals_2 : decode cc_Md_readLiterals 2 = .ok (.invokevirtual 125, 3) := by decide +kernel
theorem d_Md_readLiterals_5 : decode cc_Md_readLiterals 5 = .ok (.istore_n 2, 1) := by decide +kernel
theorem d_Md_readLiterals_6 : decode cc_Md_readLiterals 6 = .ok (.aload_n 0, 1) := by decide +kernel
theorem d_Md_readLiterals_7 : decode cc_Md_readLiterals 7 = .ok (.iload_n 2, 1) := by decide +kernel
theorem d_Md_readLiterals_8 : decode cc_Md_readLiterals 8 = .ok (.iconst 2, 1) := by decide +kernel
theorem d_Md_readLiterals_9 : decode cc_Md_readLiterals 9 = .ok (.ishr, 1) := by decide +kernel
theorem d_Md_readLiterals_10 : decode cc_Md_readLiterals 10 = .ok (.putfield 150, 3) := by decide +kernel
theorem d_Md_readLiterals_13 : decode cc_Md_readLiterals 13 = .ok (.iload_n 2, 1) := by decide +kernel
theorem d_Md_readLiterals_14 : decode cc_Md_readLiterals 14 = .ok (.iconst 3, 1) := by decide +kernel
theorem d_Md_readLiterals_15 : decode cc_Md_readLiterals 15 = .ok (.iand, 1) := by decide +kernel
theorem d_Md_readLiterals_16 : decode cc_Md_readLiterals 16 = .ok (.istore_n 3, 1) := by decide +kernel
theorem d_Md_readLiterals_17 : decode cc_Md_readLiterals 17 = .ok (.iload_n 3, 1) := by decide +kernel
theorem d_Md_readLiterals_18 : decode cc_Md_readLiterals 18 = .ok (.iconst 1, 1) := by decide +kernel
theorem d_Md_readLiterals_19 : decode cc_Md_readLiterals 19 = .ok (.if_icmp .le (19), 3) := by decide +kernel
theorem d_Md_readLiterals_22 : decode cc_Md_readLiterals 22 = .ok (.iload_n 3, 1) := by decide +kernel
theorem d_Md_readLiterals_23 : decode cc_Md_readLiterals 23 = .ok (.iconst 2, 1) := by decide +kernel
theorem d_Md_readLiterals_24 : decode cc_Md_readLiterals 24 = .ok (.if_icmp .ne (8), 3) := by decide +kernel
theorem d_Md_readLiterals_27 : decode cc_Md_readLiterals 27 = .ok (.aload_n 0, 1) := by decide +kernel
theorem d_Md_readLiterals_28 : decode cc_Md_readLiterals 28 = .ok (.iload_n 1, 1) := by decide +kernel
theorem d_Md_readLiterals_29 : decode cc_Md_readLiterals 29 = .ok (.invokevirtual 153, 3) := by decide +kernel
theorem d_Md_readLiterals_32 : decode cc_Md_readLiterals 32 = .ok (.aload_n 0, 1) := by decide +kernel
theorem d_Md_readLiterals_33 : decode cc_Md_readLiterals 33 = .ok (.iload_n 1, 1) := by decide +kernel
theorem d_Md_readLiterals_34 : decode cc_Md_readLiterals 34 = .ok (.invokevirtual 156, 3) := by decide +kernel
theorem d_Md_readLiterals_37 : decode cc_Md_readLiterals 37 = .ok (.return_, 1) := by decide +kernel
theorem d_Md_readLiterals_38 : decode cc_Md_readLiterals 38 = .ok (.iload_n 3, 1) := by decide +kernel
theorem d_Md_readLiterals_39 : decode cc_Md_readLiterals 39 = .ok (.iconst 1, 1) := by decide +kernel
theorem d_Md_readLiterals_40 : decode cc_Md_readLiterals 40 = .ok (.if_icmp .ne (11), 3) := by decide +kernel
theorem d_Md_readLiterals_43 : decode cc_Md_readLiterals 43 = .ok (.aload_n 0, 1) := by decide +kernel
theorem d_Md_readLiterals_44 : decode cc_Md_readLiterals 44 = .ok (.iload_n 1, 1) := by decide +kernel
theorem d_Md_readLiterals_45 : decode cc_Md_readLiterals 45 = .ok (.invokevirtual 125, 3) := by decide +kernel
theorem d_Md_readLiterals_48 : decode cc_Md_readLiterals 48 = .ok (.goto (4), 3) := by decide +kernel
theorem d_Md_readLiterals_51 : decode cc_Md_readLiterals 51 = .ok (.iconst 0, 1) := by decide +kernel
theorem d_Md_readLiterals_52 : decode cc_Md_readLiterals 52 = .ok (.istore 4, 2) := by decide +kernel
theorem d_Md_readLiterals_54 : decode cc_Md_readLiterals 54 = .ok (.iconst 0, 1) := by decide +kernel
theorem d_Md_readLiterals_55 : decode cc_Md_readLiterals 55 = .ok (.istore 5, 2) := by decide +kernel
theorem d_Md_readLiterals_57 : decode cc_Md_readLiterals 57 = .ok (.iload 5, 2) := by decide +kernel
theorem d_Md_readLiterals_59 : decode cc_Md_readLiterals 59 = .ok (.aload_n 0, 1) := by decide +kernel
theorem d_Md_readLiterals_60 : decode cc_Md_readLiterals 60 = .ok (.getfield 150, 3) := by decide +kernel
theorem d_Md_readLiterals_63 : decode cc_Md_readLiterals 63 = .ok (.if_icmp .ge (38), 3) := by decide +kernel
theorem d_Md_readLiterals_66 : decode cc_Md_readLiterals 66 = .ok (.aload_n 0, 1) := by decide +kernel
theorem d_Md_readLiterals_67 : decode cc_Md_readLiterals 67 = .ok (.getfield 102, 3) := by decide +kernel
theorem d_Md_readLiterals_70 : decode cc_Md_readLiterals 70 = .ok (.ifCond .ne (31), 3) := by decide +kernel
theorem d_Md_readLiterals_73 : decode cc_Md_readLiterals 73 = .ok (.aload_n 0, 1) := by decide +kernel
theorem d_Md_readLiterals_74 : decode cc_Md_readLiterals 74 = .ok (.getfield 22, 3) := by decide +kernel
theorem d_Md_readLiterals_77 : decode cc_Md_readLiterals 77 = .ok (.iload 5, 2) := by decide +kernel
theorem d_Md_readLiterals_79 : decode cc_Md_readLiterals 79 = .ok (.iload_n 3, 1) := by decide +kernel
theorem d_Md_readLiterals_80 : decode cc_Md_readLiterals 80 = .ok (.iconst 1, 1) := by decide +kernel
theorem d_Md_readLiterals_81 : decode cc_Md_readLiterals 81 = .ok (.if_icmp .ne (8), 3) := by decide +kernel
theorem d_Md_readLiterals_84 : decode cc_Md_readLiterals 84 = .ok (.iload 4, 2) := by decide +kernel
theorem d_Md_readLiterals_86 : decode cc_Md_readLiterals 86 = .ok (.goto (8), 3) := by decide +kernel
theorem d_Md_readLiterals_89 : decode cc_Md_readLiterals 89 = .ok (.aload_n 0, 1) := by decide +kernel
theorem d_Md_readLiterals_90 : decode cc_Md_readLiterals 90 = .ok (.iload_n 1, 1) := by decide +kernel
theorem d_Md_readLiterals_91 : decode cc_Md_readLiterals 91 = .ok (.invokevirtual 125, 3) := by decide +kernel
theorem d_Md_readLiterals_94 : decode cc_Md_readLiterals 94 = .ok (.iastore, 1) := by decide +kernel
theorem d_Md_readLiterals_95 : decode cc_Md_readLiterals 95 = .ok (.iinc 5 (1), 3) := by decide +kernel
theorem d_Md_readLiterals_98 : decode cc_Md_readLiterals 98 = .ok (.goto (-41), 3) := by decide +kernel
theorem d_Md_readLiterals_101 : decode cc_Md_readLiterals 101 = .ok (.return_, 1) := by decide +kernel
section
variable {p : Program} {l : Launch} {e : Env} {s : State} {m : MethodId} {args : Array Value} {below : List Frame} {meth : Method} {c : Code} {X : Xs} {L : La}
def b_Md_readLiterals_101 (L : La)   (F : Mem) : Option Mem :=
  some F
set_option maxHeartbeats 4000000 in
theorem t_Md_readLiterals_101 (hC : Cx X L p s m args meth c cc_Md_readLiterals 6 w_Md_readLiterals R_Md none)  {out : Mem}   {F : Mem} {H : Heap} {locs : List Loc} {ls : Array Slot}  (hI : Iv X L s H locs F) (hl : lv_has ls 6 []) (h : b_Md_readLiterals_101 L   F = some out) : W p l e (headSpec w_Md_readLiterals r_Md_readLiterals).room s m args below meth c H locs 0 0 (MQ below (QV X L out) args s 0 0 (AA X L)) (F0 m 101 ls []) := by
  unfold b_Md_readLiterals_101 at h
  obtain ⟨S, hK, hT, hW, hr, hlk⟩ := id hC
  have hx := S.1
  have hb := S.2.1
  exact w_vret S hK hr hlk hI d_Md_readLiterals_101 h
def b_Md_readLiterals_94 (L : La) (k57 : Nat → Int32 → Int32 → Int32 → Int32 → Mem → Option Mem) (i0 : Nat) (x1 : Int32) (x3 : Int32) (x4 : Int32) (x5 : Int32) (j0 : Nat) (y1 : Int32) (y2 : Int32) (F : Mem) : Option Mem :=
  if inb y1 (mLn L j0) ∨ ¬ j0 < mNc L then none else
  lt' (u2 F j0 y1.toNatClampNeg y2) fun F2 =>
  k57 i0 x1 x3 x4 (x5 + (1 : Int32)) F2
set_option maxHeartbeats 4000000 in
theorem t_Md_readLiterals_94 (hC : Cx X L p s m args meth c cc_Md_readLiterals 6 w_Md_readLiterals R_Md none) {k57 : Nat → Int32 → Int32 → Int32 → Int32 → Mem → Option Mem} {out : Mem} (hk57 : ∀ (i0 : Nat) (x1 : Int32) (x3 : Int32) (x4 : Int32) (x5 : Int32) (F : Mem) (H : Heap) (locs : List Loc) (ls : Array Slot), oO L 12 i0 → Iv X L s H locs F → lv_has ls 6 [(0, .ref (mAd X i0)), (1, .int x1), (3, .int x3), (4, .int x4), (5, .int x5)] → k57 i0 x1 x3 x4 x5 F = some out → W p l e (headSpec w_Md_readLiterals r_Md_readLiterals).room s m args below meth c H locs 0 0 (MQ below (QV X L out) args s 0 0 (AA X L)) (F0 m 57 ls [])) {i0 : Nat} {x1 : Int32} {x3 : Int32} {x4 : Int32} {x5 : Int32} {j0 : Nat} {y1 : Int32} {y2 : Int32} {F : Mem} {H : Heap} {locs : List Loc} {ls : Array Slot} (o0 : oO L 12 i0) (oy0 : oA L j0) (hI : Iv X L s H locs F) (hl : lv_has ls 6 [(0, .ref (mAd X i0)), (1, .int x1), (3, .int x3), (4, .int x4), (5, .int x5)]) (h : b_Md_readLiterals_94 L k57 i0 x1 x3 x4 x5 j0 y1 y2 F = some out) : W p l e (headSpec w_Md_readLiterals r_Md_readLiterals).room s m args below meth c H locs 0 0 (MQ below (QV X L out) args s 0 0 (AA X L)) (F0 m 94 ls [.int y2, .int y1, .ref (mAd X j0)]) := by
  unfold b_Md_readLiterals_94 at h
  obtain ⟨S, hK, hT, hW, hr, hlk⟩ := id hC
  have hx := S.1
  have hb := S.2.1
  obtain ⟨z1, h⟩ := un_if h
  refine w_iast S hK hI oy0 z1 d_Md_readLiterals_94 (fun H locs F2 e3 hI => ?_)
  replace h := un_lt h _ e3
  refine lv_iinc (k := 4) (v := x5 + (1 : Int32)) (lv' := [(5, .int (x5 + (1 : Int32))), (0, .ref (mAd X i0)), (1, .int x1), (3, .int x3), (4, .int x4)]) hx hb d_Md_readLiterals_95 hl rfl rfl (by decide) rfl (fun ls hl => ?_)
  refine lv_goto (tgt := 57) hx hb d_Md_readLiterals_98 rfl ?_
  exact hk57 _ _ _ _ _ _ _ _ _ o0 hI (lv_sub hl [1, 2, 3, 4, 0] rfl) h
def b_Md_readLiterals_57 (L : La) (k57 : Nat → Int32 → Int32 → Int32 → Int32 → Mem → Option Mem) (i0 : Nat) (x1 : Int32) (x3 : Int32) (x4 : Int32) (x5 : Int32) (F : Mem) : Option Mem :=
  if (F i0 13) ≤ x5 then
    b_Md_readLiterals_101 L   F
  else
    if (F i0 5) = 0 then
      if x3 = (1 : Int32) then
        b_Md_readLiterals_94 L k57 i0 x1 x3 x4 x5 (mRf L i0 14) x5 x4 F
      else
        (f_Md_next L i0 x1 F).bind fun q2 =>
        b_Md_readLiterals_94 L k57 i0 x1 x3 x4 x5 (mRf L i0 14) x5 q2.1 q2.2
    else
      b_Md_readLiterals_101 L   F
set_option maxHeartbeats 4000000 in
theorem t_Md_readLiterals_57 (hC : Cx X L p s m args meth c cc_Md_readLiterals 6 w_Md_readLiterals R_Md none) {k57 : Nat → Int32 → Int32 → Int32 → Int32 → Mem → Option Mem} {out : Mem} (hk57 : ∀ (i0 : Nat) (x1 : Int32) (x3 : Int32) (x4 : Int32) (x5 : Int32) (F : Mem) (H : Heap) (locs : List Loc) (ls : Array Slot), oO L 12 i0 → Iv X L s H locs F → lv_has ls 6 [(0, .ref (mAd X i0)), (1, .int x1), (3, .int x3), (4, .int x4), (5, .int x5)] → k57 i0 x1 x3 x4 x5 F = some out → W p l e (headSpec w_Md_readLiterals r_Md_readLiterals).room s m args below meth c H locs 0 0 (MQ below (QV X L out) args s 0 0 (AA X L)) (F0 m 57 ls [])) {i0 : Nat} {x1 : Int32} {x3 : Int32} {x4 : Int32} {x5 : Int32} {F : Mem} {H : Heap} {locs : List Loc} {ls : Array Slot} (o0 : oO L 12 i0) (hI : Iv X L s H locs F) (hl : lv_has ls 6 [(0, .ref (mAd X i0)), (1, .int x1), (3, .int x3), (4, .int x4), (5, .int x5)]) (h : b_Md_readLiterals_57 L k57 i0 x1 x3 x4 x5 F = some out) : W p l e (headSpec w_Md_readLiterals r_Md_readLiterals).room s m args below meth c H locs 0 0 (MQ below (QV X L out) args s 0 0 (AA X L)) (F0 m 57 ls []) := by
  unfold b_Md_readLiterals_57 at h
  obtain ⟨S, hK, hT, hW, hr, hlk⟩ := id hC
  have hx := S.1
  have hb := S.2.1
  refine lv_iload hx hb d_Md_readLiterals_57 (lv_at hl 4 rfl) ?_
  refine lv_aload_n hx hb d_Md_readLiterals_59 rfl (lv_at hl 0 rfl) ?_
  refine w_getI (T := T_Md) S hK hI o0 rfl hin_Md 13 (index := 150) (by decide) lf_Md_150 d_Md_readLiterals_60 ?_
  refine lv_icmp_ge (tgt := 101) hx hb d_Md_readLiterals_63 rfl (fun hc => ?_) (fun hc => ?_)
  · replace h := (if_pos hc).symm.trans h
    exact t_Md_readLiterals_101 hC   hI (lv_sub hl [] rfl) h
  · replace h := (if_neg hc).symm.trans h
    refine lv_aload_n hx hb d_Md_readLiterals_66 rfl (lv_at hl 0 rfl) ?_
    refine w_getI (T := T_Md) S hK hI o0 rfl hin_Md 5 (index := 102) (by decide) lf_Md_102 d_Md_readLiterals_67 ?_
    refine lv_if_ne (tgt := 101) hx hb d_Md_readLiterals_70 rfl (fun hc => ?_) (fun hc => ?_)
    · replace h := (if_neg hc).symm.trans h
      exact t_Md_readLiterals_101 hC   hI (lv_sub hl [] rfl) h
    · replace h := (if_pos hc).symm.trans h
      refine lv_aload_n hx hb d_Md_readLiterals_73 rfl (lv_at hl 0 rfl) ?_
      have p1 := wt_a hW o0 14 rfl (by decide) (by decide)
      refine w_getR (T := T_Md) S hK hI o0 rfl hin_Md 14 (index := 22) (by decide) lf_Md_22 d_Md_readLiterals_74 ?_
      refine lv_iload hx hb d_Md_readLiterals_77 (lv_at hl 4 rfl) ?_
      refine lv_iload_n hx hb d_Md_readLiterals_79 rfl (lv_at hl 2 rfl) ?_
      refine lv_iconst (v := 1) hx hb d_Md_readLiterals_80 rfl ?_
      refine lv_icmp_ne (tgt := 89) hx hb d_Md_readLiterals_81 rfl (fun hc => ?_) (fun hc => ?_)
      · replace h := (if_neg hc).symm.trans h
        refine lv_aload_n hx hb d_Md_readLiterals_89 rfl (lv_at hl 0 rfl) ?_
        refine lv_iload_n hx hb d_Md_readLiterals_90 rfl (lv_at hl 1 rfl) ?_
        obtain ⟨q2, e3, h⟩ := un_bi h
        refine w_callVi (As := [.int x1]) (rest := [.int x5, .ref (mAd X (mRf L i0 14))]) S hK hI hT (c_Md_next l hW o0 e3) (cwV 1 S.2.2.2.2 (gd_V lc_Md_next lm_Md_125 li_Md_next ls_Md_next ln_Md) rfl rfl rfl hd_Md_next ⟨Nat.le_of_ble_eq_true rfl, Nat.le_of_ble_eq_true rfl⟩) o0 rfl (by decide) rfl rfl hl.1 (Nat.le_of_ble_eq_true rfl) d_Md_readLiterals_91 ⟨Nat.zero_le _, Nat.zero_le _⟩ (fun H locs hI => ?_)
        exact t_Md_readLiterals_94 hC hk57 o0 p1 hI hl h
      · replace h := (if_pos hc).symm.trans h
        refine lv_iload hx hb d_Md_readLiterals_84 (lv_at hl 3 rfl) ?_
        refine lv_goto (tgt := 94) hx hb d_Md_readLiterals_86 rfl ?_
        exact t_Md_readLiterals_94 hC hk57 o0 p1 hI hl h
def f_Md_readLiterals_57 (L : La)  : Nat → Nat → Int32 → Int32 → Int32 → Int32 → Mem → Option Mem
  | 0 => fun _ _ _ _ _ _ => none
  | n + 1 => b_Md_readLiterals_57 L (f_Md_readLiterals_57 L  n)
theorem tf_Md_readLiterals_57 (hC : Cx X L p s m args meth c cc_Md_readLiterals 6 w_Md_readLiterals R_Md none)  {out : Mem}  (n : Nat) : ∀ (i0 : Nat) (x1 : Int32) (x3 : Int32) (x4 : Int32) (x5 : Int32) (F : Mem) (H : Heap) (locs : List Loc) (ls : Array Slot), oO L 12 i0 → Iv X L s H locs F → lv_has ls 6 [(0, .ref (mAd X i0)), (1, .int x1), (3, .int x3), (4, .int x4), (5, .int x5)] → f_Md_readLiterals_57 L  n i0 x1 x3 x4 x5 F = some out → W p l e (headSpec w_Md_readLiterals r_Md_readLiterals).room s m args below meth c H locs 0 0 (MQ below (QV X L out) args s 0 0 (AA X L)) (F0 m 57 ls []) := by
  induction n with
  | zero => intro i0 x1 x3 x4 x5 F H locs ls o0 hI hl h; cases h
  | succ n ih => intro i0 x1 x3 x4 x5 F H locs ls o0 hI hl h; exact t_Md_readLiterals_57 hC ih o0 hI hl h
def b_Md_readLiterals_52 (L : La)  (i0 : Nat) (x1 : Int32) (x3 : Int32) (y0 : Int32) (F : Mem) : Option Mem :=
  f_Md_readLiterals_57 L  mFU i0 x1 x3 y0 (0 : Int32) F
set_option maxHeartbeats 4000000 in
theorem t_Md_readLiterals_52 (hC : Cx X L p s m args meth c cc_Md_readLiterals 6 w_Md_readLiterals R_Md none)  {out : Mem}  {i0 : Nat} {x1 : Int32} {x3 : Int32} {y0 : Int32} {F : Mem} {H : Heap} {locs : List Loc} {ls : Array Slot} (o0 : oO L 12 i0) (hI : Iv X L s H locs F) (hl : lv_has ls 6 [(0, .ref (mAd X i0)), (1, .int x1), (3, .int x3)]) (h : b_Md_readLiterals_52 L  i0 x1 x3 y0 F = some out) : W p l e (headSpec w_Md_readLiterals r_Md_readLiterals).room s m args below meth c H locs 0 0 (MQ below (QV X L out) args s 0 0 (AA X L)) (F0 m 52 ls [.int y0]) := by
  unfold b_Md_readLiterals_52 at h
  obtain ⟨S, hK, hT, hW, hr, hlk⟩ := id hC
  have hx := S.1
  have hb := S.2.1
  refine lv_istore (lv' := [(4, .int y0), (0, .ref (mAd X i0)), (1, .int x1), (3, .int x3)]) hx hb d_Md_readLiterals_52 hl (by decide) rfl (fun ls hl => ?_)
  refine lv_iconst (v := 0) hx hb d_Md_readLiterals_54 rfl ?_
  refine lv_istore (lv' := [(5, .int (0 : Int32)), (4, .int y0), (0, .ref (mAd X i0)), (1, .int x1), (3, .int x3)]) hx hb d_Md_readLiterals_55 hl (by decide) rfl (fun ls hl => ?_)
  exact tf_Md_readLiterals_57 hC  mFU _ _ _ _ _ _ _ _ _ o0 hI (lv_sub hl [2, 3, 4, 1, 0] rfl) h
def b_Md_readLiterals_32 (L : La)  (i0 : Nat) (x1 : Int32) (F : Mem) : Option Mem :=
  (f_Md_readSymbols L i0 x1 F).bind fun F1 =>
  some F1
set_option maxHeartbeats 4000000 in
theorem t_Md_readLiterals_32 (hC : Cx X L p s m args meth c cc_Md_readLiterals 6 w_Md_readLiterals R_Md none)  {out : Mem}  {i0 : Nat} {x1 : Int32} {F : Mem} {H : Heap} {locs : List Loc} {ls : Array Slot} (o0 : oO L 12 i0) (hI : Iv X L s H locs F) (hl : lv_has ls 6 [(0, .ref (mAd X i0)), (1, .int x1)]) (h : b_Md_readLiterals_32 L  i0 x1 F = some out) : W p l e (headSpec w_Md_readLiterals r_Md_readLiterals).room s m args below meth c H locs 0 0 (MQ below (QV X L out) args s 0 0 (AA X L)) (F0 m 32 ls []) := by
  unfold b_Md_readLiterals_32 at h
  obtain ⟨S, hK, hT, hW, hr, hlk⟩ := id hC
  have hx := S.1
  have hb := S.2.1
  refine lv_aload_n hx hb d_Md_readLiterals_32 rfl (lv_at hl 0 rfl) ?_
  refine lv_iload_n hx hb d_Md_readLiterals_33 rfl (lv_at hl 1 rfl) ?_
  obtain ⟨F1, e2, h⟩ := un_bi h
  refine w_callVv (As := [.int x1]) (rest := []) S hK hI hT (c_Md_readSymbols l hW o0 e2) (cwV 1 S.2.2.2.2 (gd_V lc_Md_readSymbols lm_Md_156 li_Md_readSymbols ls_Md_readSymbols ln_Md) rfl rfl rfl hd_Md_readSymbols ⟨Nat.le_of_ble_eq_true rfl, Nat.le_of_ble_eq_true rfl⟩) o0 rfl (by decide) rfl rfl hl.1 (Nat.le_of_ble_eq_true rfl) d_Md_readLiterals_34 ⟨Nat.zero_le _, Nat.zero_le _⟩ (fun H locs hI => ?_)
  exact w_vret S hK hr hlk hI d_Md_readLiterals_37 h
def f_Md_readLiterals (L : La) (i0 : Nat) (x1 : Int32) (F : Mem) : Option Mem :=
  (f_Md_next L i0 x1 F).bind fun q1 =>
  lt' (u2 q1.2 i0 13 (jshr q1.1 (2 : Int32))) fun F3 =>
  if (q1.1 &&& (3 : Int32)) ≤ (1 : Int32) then
    if (q1.1 &&& (3 : Int32)) = (1 : Int32) then
      (f_Md_next L i0 x1 F3).bind fun q5 =>
      b_Md_readLiterals_52 L  i0 x1 (q1.1 &&& (3 : Int32)) q5.1 q5.2
    else
      b_Md_readLiterals_52 L  i0 x1 (q1.1 &&& (3 : Int32)) (0 : Int32) F3
  else
    if (q1.1 &&& (3 : Int32)) = (2 : Int32) then
      (f_Md_readTree L i0 x1 F3).bind fun F7 =>
      b_Md_readLiterals_32 L  i0 x1 F7
    else
      b_Md_readLiterals_32 L  i0 x1 F3
set_option maxHeartbeats 4000000 in
theorem c_Md_readLiterals (l : Launch) {X : Xs} {L : La} (hW : WT L) {out : Mem} {i0 : Nat} {x1 : Int32} {F : Mem} (o0 : oO L 12 i0) (h : f_Md_readLiterals L i0 x1 F = some out) : Met l y_Md_readLiterals w_Md_readLiterals r_Md_readLiterals (va_Pc [.ref (mAd X i0), .int x1] (Pr X L F)) (QV X L out) 0 0 (AA X L) := by
  refine mk_met (by decide) rfl (Nat.le_of_ble_eq_true rfl) hW ?_
  intro p e s m args below meth c ls hC hI hl
  have hl : lv_has ls 6 [(0, .ref (mAd X i0)), (1, .int x1)] := hl
  generalize hHe : s.heap = H at hI ⊢
  generalize ([] : List Loc) = locs at hI ⊢
  unfold f_Md_readLiterals at h
  obtain ⟨S, hK, hT, hW, hr, hlk⟩ := id hC
  have hx := S.1
  have hb := S.2.1
  refine lv_aload_n hx hb d_Md_readLiterals_0 rfl (lv_at hl 0 rfl) ?_
  refine lv_iload_n hx hb d_Md_readLiterals_1 rfl (lv_at hl 1 rfl) ?_
  obtain ⟨q1, e2, h⟩ := un_bi h
  refine w_callVi (As := [.int x1]) (rest := []) S hK hI hT (c_Md_next l hW o0 e2) (cwV 1 S.2.2.2.2 (gd_V lc_Md_next lm_Md_125 li_Md_next ls_Md_next ln_Md) rfl rfl rfl hd_Md_next ⟨Nat.le_of_ble_eq_true rfl, Nat.le_of_ble_eq_true rfl⟩) o0 rfl (by decide) rfl rfl hl.1 (Nat.le_of_ble_eq_true rfl) d_Md_readLiterals_2 ⟨Nat.zero_le _, Nat.zero_le _⟩ (fun H locs hI => ?_)
  refine lv_istore_n (lv' := [(2, .int q1.1), (0, .ref (mAd X i0)), (1, .int x1)]) hx hb d_Md_readLiterals_5 rfl hl (by decide) rfl (fun ls hl => ?_)
  refine lv_aload_n hx hb d_Md_readLiterals_6 rfl (lv_at hl 1 rfl) ?_
  refine lv_iload_n hx hb d_Md_readLiterals_7 rfl (lv_at hl 0 rfl) ?_
  refine lv_iconst (v := 2) hx hb d_Md_readLiterals_8 rfl ?_
  refine lv_ishr hx hb d_Md_readLiterals_9 ?_
  refine w_putI (T := T_Md) S hK hI o0 rfl hin_Md ty_Md tk_Md nm_Md 13 (index := 150) (by decide) lf_Md_150 rfl d_Md_readLiterals_10 (fun H locs F3 e4 hI => ?_)
  replace h := un_lt h _ e4
  refine lv_iload_n hx hb d_Md_readLiterals_13 rfl (lv_at hl 0 rfl) ?_
  refine lv_iconst (v := 3) hx hb d_Md_readLiterals_14 rfl ?_
  refine lv_iand hx hb d_Md_readLiterals_15 ?_
  refine lv_istore_n (lv' := [(3, .int (q1.1 &&& (3 : Int32))), (2, .int q1.1), (0, .ref (mAd X i0)), (1, .int x1)]) hx hb d_Md_readLiterals_16 rfl hl (by decide) rfl (fun ls hl => ?_)
  refine lv_iload_n hx hb d_Md_readLiterals_17 rfl (lv_at hl 0 rfl) ?_
  refine lv_iconst (v := 1) hx hb d_Md_readLiterals_18 rfl ?_
  refine lv_icmp_le (tgt := 38) hx hb d_Md_readLiterals_19 rfl (fun hc => ?_) (fun hc => ?_)
  · replace h := (if_pos hc).symm.trans h
    refine lv_iload_n hx hb d_Md_readLiterals_38 rfl (lv_at hl 0 rfl) ?_
    refine lv_iconst (v := 1) hx hb d_Md_readLiterals_39 rfl ?_
    refine lv_icmp_ne (tgt := 51) hx hb d_Md_readLiterals_40 rfl (fun hc => ?_) (fun hc => ?_)
    · replace h := (if_neg hc).symm.trans h
      refine lv_iconst (v := 0) hx hb d_Md_readLiterals_51 rfl ?_
      exact t_Md_readLiterals_52 hC  o0 hI (lv_sub hl [2, 3, 0] rfl) h
    · replace h := (if_pos hc).symm.trans h
      refine lv_aload_n hx hb d_Md_readLiterals_43 rfl (lv_at hl 2 rfl) ?_
      refine lv_iload_n hx hb d_Md_readLiterals_44 rfl (lv_at hl 3 rfl) ?_
      obtain ⟨q5, e6, h⟩ := un_bi h
      refine w_callVi (As := [.int x1]) (rest := []) S hK hI hT (c_Md_next l hW o0 e6) (cwV 1 S.2.2.2.2 (gd_V lc_Md_next lm_Md_125 li_Md_next ls_Md_next ln_Md) rfl rfl rfl hd_Md_next ⟨Nat.le_of_ble_eq_true rfl, Nat.le_of_ble_eq_true rfl⟩) o0 rfl (by decide) rfl rfl hl.1 (Nat.le_of_ble_eq_true rfl) d_Md_readLiterals_45 ⟨Nat.zero_le _, Nat.zero_le _⟩ (fun H locs hI => ?_)
      refine lv_goto (tgt := 52) hx hb d_Md_readLiterals_48 rfl ?_
      exact t_Md_readLiterals_52 hC  o0 hI (lv_sub hl [2, 3, 0] rfl) h
  · replace h := (if_neg hc).symm.trans h
    refine lv_iload_n hx hb d_Md_readLiterals_22 rfl (lv_at hl 0 rfl) ?_
    refine lv_iconst (v := 2) hx hb d_Md_readLiterals_23 rfl ?_
    refine lv_icmp_ne (tgt := 32) hx hb d_Md_readLiterals_24 rfl (fun hc => ?_) (fun hc => ?_)
    · replace h := (if_neg hc).symm.trans h
      exact t_Md_readLiterals_32 hC  o0 hI (lv_sub hl [2, 3] rfl) h
    · replace h := (if_pos hc).symm.trans h
      refine lv_aload_n hx hb d_Md_readLiterals_27 rfl (lv_at hl 2 rfl) ?_
      refine lv_iload_n hx hb d_Md_readLiterals_28 rfl (lv_at hl 3 rfl) ?_
      obtain ⟨F7, e8, h⟩ := un_bi h
      refine w_callVv (As := [.int x1]) (rest := []) S hK hI hT (c_Md_readTree l hW o0 e8) (cwV 1 S.2.2.2.2 (gd_V lc_Md_readTree lm_Md_153 li_Md_readTree ls_Md_readTree ln_Md) rfl rfl rfl hd_Md_readTree ⟨Nat.le_of_ble_eq_true rfl, Nat.le_of_ble_eq_true rfl⟩) o0 rfl (by decide) rfl rfl hl.1 (Nat.le_of_ble_eq_true rfl) d_Md_readLiterals_29 ⟨Nat.zero_le _, Nat.zero_le _⟩ (fun H locs hI => ?_)
      exact t_Md_readLiterals_32 hC  o0 hI (lv_sub hl [2, 3] rfl) h
end
theorem d_Md_spread_0 : decode cc_Md_spread 0 = .ok (.aload_n 0, 1) := by decide +kernel
theorem d_Md_spread_1 : decode cc_Md_spread 1 = .ok (.getfield 35, 3) := by decide +kernel
theorem d_Md_spread_4 : decode cc_Md_spread 4 = .ok (.iload_n 1, 1) := by decide +kernel
theorem d_Md_spread_5 : decode cc_Md_spread 5 = .ok (.iconst 0, 1) := by decide +kernel
theorem d_Md_spread_6 : decode cc_Md_spread 6 = .ok (.bastore, 1) := by decide +kernel
theorem d_Md_spread_7 : decode cc_Md_spread 7 = .ok (.iconst 0, 1) := by decide +kernel
theorem d_Md_spread_8 : decode cc_Md_spread 8 = .ok (.istore_n 2, 1) := by decide +kernel
theorem d_Md_spread_9 : decode cc_Md_spread 9 = .ok (.iconst 0, 1) := by decide +kernel
theorem d_Md_spread_10 : decode cc_Md_spread 10 = .ok (.istore_n 3, 1) := by decide +kernel
theorem d_Md_spread_11 : decode cc_Md_spread 11 = .ok (.iload_n 3, 1) := by decide +kernel
theorem d_Md_spread_12 : decode cc_Md_spread 12 = .ok (.bipush (12), 2) := by decide +kernel
theorem d_Md_spread_14 : decode cc_Md_spread 14 = .ok (.if_icmp .ge (49), 3) := by decide +kernel
theorem d_Md_spread_17 : decode cc_Md_spread 17 = .ok (.iconst 0, 1) := by decide +kernel
theorem d_Md_spread_18 : decode cc_Md_spread 18 = .ok (.istore 4, 2) := by decide +kernel
theorem d_Md_spread_20 : decode cc_Md_spread 20 = .ok (.iload 4, 2) := by decide +kernel
theorem d_Md_spread_22 : decode cc_Md_spread 22 = .ok (.aload_n 0, 1) := by decide +kernel
theorem d_Md_spread_23 : decode cc_Md_spread 23 = .ok (.getfield 47, 3) := by decide +kernel
theorem d_Md_spread_26 : decode cc_Md_spread 26 = .ok (.iload_n 3, 1) := by decide +kernel
theorem d_Md_spread_27 : decode cc_Md_spread 27 = .ok (.iaload, 1) := by decide +kernel
theorem d_Md_spread_28 : decode cc_Md_spread 28 = .ok (.if_icmp .ge (29), 3) := by decide +kernel
theorem d_Md_spread_31 : decode cc_Md_spread 31 = .ok (.aload_n 0, 1) := by decide +kernel
theorem d_Md_spread_32 : decode cc_Md_spread 32 = .ok (.getfield 38, 3) := by decide +kernel
theorem d_Md_spread_35 : decode cc_Md_spread 35 = .ok (.bipush (16), 2) := by decide +kernel
theorem d_Md_spread_37 : decode cc_Md_spread 37 = .ok (.iload_n 1, 1) := by decide +kernel
theorem d_Md_spread_38 : decode cc_Md_spread 38 = .ok (.imul, 1) := by decide +kernel
theorem d_Md_spread_39 : decode cc_Md_spread 39 = .ok (.iload_n 2, 1) := by decide +kernel
theorem d_Md_spread_40 : decode cc_Md_spread 40 = .ok (.iadd, 1) := by decide +kernel
theorem d_Md_spread_41 : decode cc_Md_spread 41 = .ok (.iload_n 3, 1) := by decide +kernel
theorem d_Md_spread_42 : decode cc_Md_spread 42 = .ok (.iastore, 1) := by decide +kernel
theorem d_Md_spread_43 : decode cc_Md_spread 43 = .ok (.iload_n 2, 1) := by decide +kernel
theorem d_Md_spread_44 : decode cc_Md_spread 44 = .ok (.bipush (13), 2) := by decide +kernel
theorem d_Md_spread_46 : decode cc_Md_spread 46 = .ok (.iadd, 1) := by decide +kernel
theorem d_Md_spread_47 : decode cc_Md_spread 47 = .ok (.bipush (15), 2) := by decide +kernel
theorem d_Md_spread_49 : decode cc_Md_spread 49 = .ok (.iand, 1) := by decide +kernel
theorem d_Md_spread_50 : decode cc_Md_spread 50 = .ok (.istore_n 2, 1) := by decide +kernel
theorem d_Md_spread_51 : decode cc_Md_spread 51 = .ok (.iinc 4 (1), 3) := by decide +kernel
theorem d_Md_spread_54 : decode cc_Md_spread 54 = .ok (.goto (-34), 3) := by decide +kernel
theorem d_Md_spread_57 : decode cc_Md_spread 57 = .ok (.iinc 3 (1), 3) := by decide +kernel
theorem d_Md_spread_60 : decode cc_Md_spread 60 = .ok (.goto (-49), 3) := by decide +kernel
theorem d_Md_spread_63 : decode cc_Md_spread 63 = .ok (.iconst 0, 1) := by decide +kernel
theorem d_Md_spread_64 : decode cc_Md_spread 64 = .ok (.istore_n 3, 1) := by decide +kernel
theorem d_Md_spread_65 : decode cc_Md_spread 65 = .ok (.iload_n 3, 1) := by decide +kernel
theorem d_Md_spread_66 : decode cc_Md_spread 66 = .ok (.bipush (16), 2) := by decide +kernel
theorem d_Md_spread_68 : decode cc_Md_spread 68 = .ok (.if_icmp .ge (125), 3) := by decide +kernel
theorem d_Md_spread_71 : decode cc_Md_spread 71 = .ok (.aload_n 0, 1) := by decide +kernel
theorem d_Md_spread_72 : decode cc_Md_spread 72 = .ok (.getfield 38, 3) := by decide +kernel
theorem d_Md_spread_75 : decode cc_Md_spread 75 = .ok (.bipush (16), 2) := by decide +kernel
theorem d_Md_spread_77 : decode cc_Md_spread 77 = .ok (.iload_n 1, 1) := by decide +kernel
theorem d_Md_spread_78 : decode cc_Md_spread 78 = .ok (.imul, 1) := by decide +kernel
theorem d_Md_spread_79 : decode cc_Md_spread 79 = .ok (.iload_n 3, 1) := by decide +kernel
theorem d_Md_spread_80 : decode cc_Md_spread 80 = .ok (.iadd, 1) := by decide +kernel
theorem d_Md_spread_81 : decode cc_Md_spread 81 = .ok (.iaload, 1) := by decide +kernel
theorem d_Md_spread_82 : decode cc_Md_spread 82 = .ok (.istore 4, 2) := by decide +kernel
theorem d_Md_spread_84 : decode cc_Md_spread 84 = .ok (.aload_n 0, 1) := by decide +kernel
theorem d_Md_spread_85 : decode cc_Md_spread 85 = .ok (.getfield 47, 3) := by decide +kernel
theorem d_Md_spread_88 : decode cc_Md_spread 88 = .ok (.iload 4, 2) := by decide +kernel
theorem d_Md_spread_90 : decode cc_Md_spread 90 = .ok (.iaload, 1) := by decide +kernel
theorem d_Md_spread_91 : decode cc_Md_spread 91 = .ok (.istore 5, 2) := by decide +kernel
theorem d_Md_spread_93 : decode cc_Md_spread 93 = .ok (.iconst 0, 1) := by decide +kernel
theorem d_Md_spread_94 : decode cc_Md_spread 94 = .ok (.istore 6, 2) := by decide +kernel
theorem d_Md_spread_96 : decode cc_Md_spread 96 = .ok (.iload 6, 2) := by decide +kernel
theorem d_Md_spread_98 : decode cc_Md_spread 98 = .ok (.iload_n 3, 1) := by decide +kernel
theorem d_Md_spread_99 : decode cc_Md_spread 99 = .ok (.if_icmp .ge (37), 3) := by decide +kernel
theorem d_Md_spread_102 : decode cc_Md_spread 102 = .ok (.aload_n 0, 1) := by decide +kernel
theorem d_Md_spread_103 : decode cc_Md_spread 103 = .ok (.getfield 38, 3) := by decide +kernel
theorem d_Md_spread_106 : decode cc_Md_spread 106 = .ok (.bipush (16), 2) := by decide +kernel
theorem d_Md_spread_108 : decode cc_Md_spread 108 = .ok (.iload_n 1, 1) := by decide +kernel
theorem d_Md_spread_109 : decode cc_Md_spread 109 = .ok (.imul, 1) := by decide +kernel
theorem d_Md_spread_110 : decode cc_Md_spread 110 = .ok (.iload 6, 2) := by decide +kernel
theorem d_Md_spread_112 : decode cc_Md_spread 112 = .ok (.iadd, 1) := by decide +kernel
theorem d_Md_spread_113 : decode cc_Md_spread 113 = .ok (.iaload, 1) := by decide +kernel
theorem d_Md_spread_114 : decode cc_Md_spread 114 = .ok (.iload 4, 2) := by decide +kernel
theorem d_Md_spread_116 : decode cc_Md_spread 116 = .ok (.if_icmp .ne (10), 3) := by decide +kernel
theorem d_Md_spread_119 : decode cc_Md_spread 119 = .ok (.iload 5, 2) := by decide +kernel
theorem d_Md_spread_121 : decode cc_Md_spread 121 = .ok (.iconst 1, 1) := by decide +kernel
theorem d_Md_spread_122 : decode cc_Md_spread 122 = .ok (.iadd, 1) := by decide +kernel
theorem d_Md_spread_123 : decode cc_Md_spread 123 = .ok (.goto (5), 3) := by decide +kernel
theorem d_Md_spread_126 : decode cc_Md_spread 126 = .ok (.iload 5, 2) := by decide +kernel
theorem d_Md_spread_128 : decode cc_Md_spread 128 = .ok (.istore 5, 2) := by decide +kernel
theorem d_Md_spread_130 : decode cc_Md_spread 130 = .ok (.iinc 6 (1), 3) := by decide +kernel
theorem d_Md_spread_133 : decode cc_Md_spread 133 = .ok (.goto (-37), 3) := by decide +kernel
theorem d_Md_spread_136 : decode cc_Md_spread 136 = .ok (.iconst 0, 1) := by decide +kernel
theorem d_Md_spread_137 : decode cc_Md_spread 137 = .ok (.istore 6, 2) := by decide +kernel
theorem d_Md_spread_139 : decode cc_Md_spread 139 = .ok (.iload 5, 2) := by decide +kernel
theorem d_Md_spread_141 : decode cc_Md_spread 141 = .ok (.iload 6, 2) := by decide +kernel
theorem d_Md_spread_143 : decode cc_Md_spread 143 = .ok (.ishl, 1) := by decide +kernel
theorem d_Md_spread_144 : decode cc_Md_spread 144 = .ok (.bipush (16), 2) := by decide +kernel
theorem d_Md_spread_146 : decode cc_Md_spread 146 = .ok (.if_icmp .ge (9), 3) := by decide +kernel
theorem d_Md_spread_149 : decode cc_Md_spread 149 = .ok (.iinc 6 (1), 3) := by decide +kernel
theorem d_Md_spread_152 : decode cc_Md_spread 152 = .ok (.goto (-13), 3) := by decide +kernel
theorem d_Md_spread_155 : decode cc_Md_spread 155 = .ok (.aload_n 0, 1) := by decide +kernel
theorem d_Md_spread_156 : decode cc_Md_spread 156 = .ok (.getfield 41, 3) := by decide +kernel
theorem d_Md_spread_159 : decode cc_Md_spread 159 = .ok (.bipush (16), 2) := by decide +kernel
theorem d_Md_spread_161 : decode cc_Md_spread 161 = .ok (.iload_n 1, 1) := by decide +kernel
theorem d_Md_spread_162 : decode cc_Md_spread 162 = .ok (.imul, 1) := by decide +kernel
theorem d_Md_spread_163 : decode cc_Md_spread 163 = .ok (.iload_n 3, 1) := by decide +kernel
theorem d_Md_spread_164 : decode cc_Md_spread 164 = .ok (.iadd, 1) := by decide +kernel
theorem d_Md_spread_165 : decode cc_Md_spread 165 = .ok (.iload 6, 2) := by decide +kernel
theorem d_Md_spread_167 : decode cc_Md_spread 167 = .ok (.iastore, 1) := by decide +kernel
theorem d_Md_spread_168 : decode cc_Md_spread 168 = .ok (.aload_n 0, 1) := by decide +kernel
theorem d_Md_spread_169 : decode cc_Md_spread 169 = .ok (.getfield 44, 3) := by decide +kernel
theorem d_Md_spread_172 : decode cc_Md_spread 172 = .ok (.bipush (16), 2) := by decide +kernel
theorem d_Md_spread_174 : decode cc_Md_spread 174 = .ok (.iload_n 1, 1) := by decide +kernel
theorem d_Md_spread_175 : decode cc_Md_spread 175 = .ok (.imul, 1) := by decide +kernel
theorem d_Md_spread_176 : decode cc_Md_spread 176 = .ok (.iload_n 3, 1) := by decide +kernel
theorem d_Md_spread_177 : decode cc_Md_spread 177 = .ok (.iadd, 1) := by decide +kernel
theorem d_Md_spread_178 : decode cc_Md_spread 178 = .ok (.iload 5, 2) := by decide +kernel
theorem d_Md_spread_180 : decode cc_Md_spread 180 = .ok (.iload 6, 2) := by decide +kernel
theorem d_Md_spread_182 : decode cc_Md_spread 182 = .ok (.ishl, 1) := by decide +kernel
theorem d_Md_spread_183 : decode cc_Md_spread 183 = .ok (.bipush (16), 2) := by decide +kernel
theorem d_Md_spread_185 : decode cc_Md_spread 185 = .ok (.isub, 1) := by decide +kernel
theorem d_Md_spread_186 : decode cc_Md_spread 186 = .ok (.iastore, 1) := by decide +kernel
theorem d_Md_spread_187 : decode cc_Md_spread 187 = .ok (.iinc 3 (1), 3) := by decide +kernel
theorem d_Md_spread_190 : decode cc_Md_spread 190 = .ok (.goto (-125), 3) := by decide +kernel
theorem d_Md_spread_193 : decode cc_Md_spread 193 = .ok (.return_, 1) := by decide +kernel
section
variable {p : Program} {l : Launch} {e : Env} {s : State} {m : MethodId} {args : Array Value} {below : List Frame} {meth : Method} {c : Code} {X : Xs} {L : La}
def b_Md_spread_139 (L : La) (k65 : Nat → Int32 → Int32 → Mem → Option Mem) (k139 : Nat → Int32 → Int32 → Int32 → Int32 → Mem → Option Mem) (i0 : Nat) (x1 : Int32) (x3 : Int32) (x5 : Int32) (x6 : Int32) (F : Mem) : Option Mem :=
  if (16 : Int32) ≤ (jshl x5 x6) then
    if inb (((16 : Int32) * x1) + x3) (mLn L (mRf L i0 24)) ∨ ¬ (mRf L i0 24) < mNc L then none else
    lt' (u2 F (mRf L i0 24) (((16 : Int32) * x1) + x3).toNatClampNeg x6) fun F3 =>
    if inb (((16 : Int32) * x1) + x3) (mLn L (mRf L i0 25)) ∨ ¬ (mRf L i0 25) < mNc L then none else
    lt' (u2 F3 (mRf L i0 25) (((16 : Int32) * x1) + x3).toNatClampNeg ((jshl x5 x6) - (16 : Int32))) fun F7 =>
    k65 i0 x1 (x3 + (1 : Int32)) F7
  else
    k139 i0 x1 x3 x5 (x6 + (1 : Int32)) F
set_option maxHeartbeats 4000000 in
theorem t_Md_spread_139 (hC : Cx X L p s m args meth c cc_Md_spread 7 w_Md_spread R_Md none) {k65 : Nat → Int32 → Int32 → Mem → Option Mem} {k139 : Nat → Int32 → Int32 → Int32 → Int32 → Mem → Option Mem} {out : Mem} (hk65 : ∀ (i0 : Nat) (x1 : Int32) (x3 : Int32) (F : Mem) (H : Heap) (locs : List Loc) (ls : Array Slot), oO L 12 i0 → Iv X L s H locs F → lv_has ls 7 [(0, .ref (mAd X i0)), (1, .int x1), (3, .int x3)] → k65 i0 x1 x3 F = some out → W p l e (headSpec w_Md_spread r_Md_spread).room s m args below meth c H locs 0 0 (MQ below (QV X L out) args s 0 0 (AA X L)) (F0 m 65 ls [])) (hk139 : ∀ (i0 : Nat) (x1 : Int32) (x3 : Int32) (x5 : Int32) (x6 : Int32) (F : Mem) (H : Heap) (locs : List Loc) (ls : Array Slot), oO L 12 i0 → Iv X L s H locs F → lv_has ls 7 [(0, .ref (mAd X i0)), (1, .int x1), (3, .int x3), (5, .int x5), (6, .int x6)] → k139 i0 x1 x3 x5 x6 F = some out → W p l e (headSpec w_Md_spread r_Md_spread).room s m args below meth c H locs 0 0 (MQ below (QV X L out) args s 0 0 (AA X L)) (F0 m 139 ls [])) {i0 : Nat} {x1 : Int32} {x3 : Int32} {x5 : Int32} {x6 : Int32} {F : Mem} {H : Heap} {locs : List Loc} {ls : Array Slot} (o0 : oO L 12 i0) (hI : Iv X L s H locs F) (hl : lv_has ls 7 [(0, .ref (mAd X i0)), (1, .int x1), (3, .int x3), (5, .int x5), (6, .int x6)]) (h : b_Md_spread_139 L k65 k139 i0 x1 x3 x5 x6 F = some out) : W p l e (headSpec w_Md_spread r_Md_spread).room s m args below meth c H locs 0 0 (MQ below (QV X L out) args s 0 0 (AA X L)) (F0 m 139 ls []) := by
  unfold b_Md_spread_139 at h
  obtain ⟨S, hK, hT, hW, hr, hlk⟩ := id hC
  have hx := S.1
  have hb := S.2.1
  refine lv_iload hx hb d_Md_spread_139 (lv_at hl 3 rfl) ?_
  refine lv_iload hx hb d_Md_spread_141 (lv_at hl 4 rfl) ?_
  refine lv_ishl hx hb d_Md_spread_143 ?_
  refine lv_bipush (v := 16) hx hb d_Md_spread_144 (by decide) ?_
  refine lv_icmp_ge (tgt := 155) hx hb d_Md_spread_146 rfl (fun hc => ?_) (fun hc => ?_)
  · replace h := (if_pos hc).symm.trans h
    refine lv_aload_n hx hb d_Md_spread_155 rfl (lv_at hl 0 rfl) ?_
    have p1 := wt_a hW o0 24 rfl (by decide) (by decide)
    refine w_getR (T := T_Md) S hK hI o0 rfl hin_Md 24 (index := 41) (by decide) lf_Md_41 d_Md_spread_156 ?_
    refine lv_bipush (v := 16) hx hb d_Md_spread_159 (by decide) ?_
    refine lv_iload_n hx hb d_Md_spread_161 rfl (lv_at hl 1 rfl) ?_
    refine lv_imul hx hb d_Md_spread_162 ?_
    refine lv_iload_n hx hb d_Md_spread_163 rfl (lv_at hl 2 rfl) ?_
    refine lv_iadd hx hb d_Md_spread_164 ?_
    refine lv_iload hx hb d_Md_spread_165 (lv_at hl 4 rfl) ?_
    obtain ⟨z2, h⟩ := un_if h
    refine w_iast S hK hI p1 z2 d_Md_spread_167 (fun H locs F3 e4 hI => ?_)
    replace h := un_lt h _ e4
    refine lv_aload_n hx hb d_Md_spread_168 rfl (lv_at hl 0 rfl) ?_
    have p5 := wt_a hW o0 25 rfl (by decide) (by decide)
    refine w_getR (T := T_Md) S hK hI o0 rfl hin_Md 25 (index := 44) (by decide) lf_Md_44 d_Md_spread_169 ?_
    refine lv_bipush (v := 16) hx hb d_Md_spread_172 (by decide) ?_
    refine lv_iload_n hx hb d_Md_spread_174 rfl (lv_at hl 1 rfl) ?_
    refine lv_imul hx hb d_Md_spread_175 ?_
    refine lv_iload_n hx hb d_Md_spread_176 rfl (lv_at hl 2 rfl) ?_
    refine lv_iadd hx hb d_Md_spread_177 ?_
    refine lv_iload hx hb d_Md_spread_178 (lv_at hl 3 rfl) ?_
    refine lv_iload hx hb d_Md_spread_180 (lv_at hl 4 rfl) ?_
    refine lv_ishl hx hb d_Md_spread_182 ?_
    refine lv_bipush (v := 16) hx hb d_Md_spread_183 (by decide) ?_
    refine lv_isub hx hb d_Md_spread_185 ?_
    obtain ⟨z6, h⟩ := un_if h
    refine w_iast S hK hI p5 z6 d_Md_spread_186 (fun H locs F7 e8 hI => ?_)
    replace h := un_lt h _ e8
    refine lv_iinc (k := 2) (v := x3 + (1 : Int32)) (lv' := [(3, .int (x3 + (1 : Int32))), (0, .ref (mAd X i0)), (1, .int x1), (5, .int x5), (6, .int x6)]) hx hb d_Md_spread_187 hl rfl rfl (by decide) rfl (fun ls hl => ?_)
    refine lv_goto (tgt := 65) hx hb d_Md_spread_190 rfl ?_
    exact hk65 _ _ _ _ _ _ _ o0 hI (lv_sub hl [1, 2, 0] rfl) h
  · replace h := (if_neg hc).symm.trans h
    refine lv_iinc (k := 4) (v := x6 + (1 : Int32)) (lv' := [(6, .int (x6 + (1 : Int32))), (0, .ref (mAd X i0)), (1, .int x1), (3, .int x3), (5, .int x5)]) hx hb d_Md_spread_149 hl rfl rfl (by decide) rfl (fun ls hl => ?_)
    refine lv_goto (tgt := 139) hx hb d_Md_spread_152 rfl ?_
    exact hk139 _ _ _ _ _ _ _ _ _ o0 hI (lv_sub hl [1, 2, 3, 4, 0] rfl) h
def f_Md_spread_139 (L : La) (k65 : Nat → Int32 → Int32 → Mem → Option Mem) : Nat → Nat → Int32 → Int32 → Int32 → Int32 → Mem → Option Mem
  | 0 => fun _ _ _ _ _ _ => none
  | n + 1 => b_Md_spread_139 L k65 (f_Md_spread_139 L k65 n)
theorem tf_Md_spread_139 (hC : Cx X L p s m args meth c cc_Md_spread 7 w_Md_spread R_Md none) {k65 : Nat → Int32 → Int32 → Mem → Option Mem} {out : Mem} (hk65 : ∀ (i0 : Nat) (x1 : Int32) (x3 : Int32) (F : Mem) (H : Heap) (locs : List Loc) (ls : Array Slot), oO L 12 i0 → Iv X L s H locs F → lv_has ls 7 [(0, .ref (mAd X i0)), (1, .int x1), (3, .int x3)] → k65 i0 x1 x3 F = some out → W p l e (headSpec w_Md_spread r_Md_spread).room s m args below meth c H locs 0 0 (MQ below (QV X L out) args s 0 0 (AA X L)) (F0 m 65 ls [])) (n : Nat) : ∀ (i0 : Nat) (x1 : Int32) (x3 : Int32) (x5 : Int32) (x6 : Int32) (F : Mem) (H : Heap) (locs : List Loc) (ls : Array Slot), oO L 12 i0 → Iv X L s H locs F → lv_has ls 7 [(0, .ref (mAd X i0)), (1, .int x1), (3, .int x3), (5, .int x5), (6, .int x6)] → f_Md_spread_139 L k65 n i0 x1 x3 x5 x6 F = some out → W p l e (headSpec w_Md_spread r_Md_spread).room s m args below meth c H locs 0 0 (MQ below (QV X L out) args s 0 0 (AA X L)) (F0 m 139 ls []) := by
  induction n with
  | zero => intro i0 x1 x3 x5 x6 F H locs ls o0 hI hl h; cases h
  | succ n ih => intro i0 x1 x3 x5 x6 F H locs ls o0 hI hl h; exact t_Md_spread_139 hC hk65 ih o0 hI hl h
def b_Md_spread_128 (L : La) (k65 : Nat → Int32 → Int32 → Mem → Option Mem) (k96 : Nat → Int32 → Int32 → Int32 → Int32 → Int32 → Mem → Option Mem) (i0 : Nat) (x1 : Int32) (x3 : Int32) (x4 : Int32) (x6 : Int32) (y0 : Int32) (F : Mem) : Option Mem :=
  k96 i0 x1 x3 x4 y0 (x6 + (1 : Int32)) F
set_option maxHeartbeats 4000000 in
theorem t_Md_spread_128 (hC : Cx X L p s m args meth c cc_Md_spread 7 w_Md_spread R_Md none) {k65 : Nat → Int32 → Int32 → Mem → Option Mem} {k96 : Nat → Int32 → Int32 → Int32 → Int32 → Int32 → Mem → Option Mem} {out : Mem} (hk65 : ∀ (i0 : Nat) (x1 : Int32) (x3 : Int32) (F : Mem) (H : Heap) (locs : List Loc) (ls : Array Slot), oO L 12 i0 → Iv X L s H locs F → lv_has ls 7 [(0, .ref (mAd X i0)), (1, .int x1), (3, .int x3)] → k65 i0 x1 x3 F = some out → W p l e (headSpec w_Md_spread r_Md_spread).room s m args below meth c H locs 0 0 (MQ below (QV X L out) args s 0 0 (AA X L)) (F0 m 65 ls [])) (hk96 : ∀ (i0 : Nat) (x1 : Int32) (x3 : Int32) (x4 : Int32) (x5 : Int32) (x6 : Int32) (F : Mem) (H : Heap) (locs : List Loc) (ls : Array Slot), oO L 12 i0 → Iv X L s H locs F → lv_has ls 7 [(0, .ref (mAd X i0)), (1, .int x1), (3, .int x3), (4, .int x4), (5, .int x5), (6, .int x6)] → k96 i0 x1 x3 x4 x5 x6 F = some out → W p l e (headSpec w_Md_spread r_Md_spread).room s m args below meth c H locs 0 0 (MQ below (QV X L out) args s 0 0 (AA X L)) (F0 m 96 ls [])) {i0 : Nat} {x1 : Int32} {x3 : Int32} {x4 : Int32} {x6 : Int32} {y0 : Int32} {F : Mem} {H : Heap} {locs : List Loc} {ls : Array Slot} (o0 : oO L 12 i0) (hI : Iv X L s H locs F) (hl : lv_has ls 7 [(0, .ref (mAd X i0)), (1, .int x1), (3, .int x3), (4, .int x4), (6, .int x6)]) (h : b_Md_spread_128 L k65 k96 i0 x1 x3 x4 x6 y0 F = some out) : W p l e (headSpec w_Md_spread r_Md_spread).room s m args below meth c H locs 0 0 (MQ below (QV X L out) args s 0 0 (AA X L)) (F0 m 128 ls [.int y0]) := by
  unfold b_Md_spread_128 at h
  obtain ⟨S, hK, hT, hW, hr, hlk⟩ := id hC
  have hx := S.1
  have hb := S.2.1
  refine lv_istore (lv' := [(5, .int y0), (0, .ref (mAd X i0)), (1, .int x1), (3, .int x3), (4, .int x4), (6, .int x6)]) hx hb d_Md_spread_128 hl (by decide) rfl (fun ls hl => ?_)
  refine lv_iinc (k := 5) (v := x6 + (1 : Int32)) (lv' := [(6, .int (x6 + (1 : Int32))), (5, .int y0), (0, .ref (mAd X i0)), (1, .int x1), (3, .int x3), (4, .int x4)]) hx hb d_Md_spread_130 hl rfl rfl (by decide) rfl (fun ls hl => ?_)
  refine lv_goto (tgt := 96) hx hb d_Md_spread_133 rfl ?_
  exact hk96 _ _ _ _ _ _ _ _ _ _ o0 hI (lv_sub hl [2, 3, 4, 5, 1, 0] rfl) h
def b_Md_spread_96 (L : La) (k65 : Nat → Int32 → Int32 → Mem → Option Mem) (k96 : Nat → Int32 → Int32 → Int32 → Int32 → Int32 → Mem → Option Mem) (i0 : Nat) (x1 : Int32) (x3 : Int32) (x4 : Int32) (x5 : Int32) (x6 : Int32) (F : Mem) : Option Mem :=
  if x3 ≤ x6 then
    f_Md_spread_139 L k65 mFU i0 x1 x3 x5 (0 : Int32) F
  else
    if inb (((16 : Int32) * x1) + x6) (mGl L (mRf L i0 23)) then none else
    if (mGa L F (mRf L i0 23) (((16 : Int32) * x1) + x6).toNatClampNeg) = x4 then
      b_Md_spread_128 L k65 k96 i0 x1 x3 x4 x6 (x5 + (1 : Int32)) F
    else
      b_Md_spread_128 L k65 k96 i0 x1 x3 x4 x6 x5 F
set_option maxHeartbeats 4000000 in
theorem t_Md_spread_96 (hC : Cx X L p s m args meth c cc_Md_spread 7 w_Md_spread R_Md none) {k65 : Nat → Int32 → Int32 → Mem → Option Mem} {k96 : Nat → Int32 → Int32 → Int32 → Int32 → Int32 → Mem → Option Mem} {out : Mem} (hk65 : ∀ (i0 : Nat) (x1 : Int32) (x3 : Int32) (F : Mem) (H : Heap) (locs : List Loc) (ls : Array Slot), oO L 12 i0 → Iv X L s H locs F → lv_has ls 7 [(0, .ref (mAd X i0)), (1, .int x1), (3, .int x3)] → k65 i0 x1 x3 F = some out → W p l e (headSpec w_Md_spread r_Md_spread).room s m args below meth c H locs 0 0 (MQ below (QV X L out) args s 0 0 (AA X L)) (F0 m 65 ls [])) (hk96 : ∀ (i0 : Nat) (x1 : Int32) (x3 : Int32) (x4 : Int32) (x5 : Int32) (x6 : Int32) (F : Mem) (H : Heap) (locs : List Loc) (ls : Array Slot), oO L 12 i0 → Iv X L s H locs F → lv_has ls 7 [(0, .ref (mAd X i0)), (1, .int x1), (3, .int x3), (4, .int x4), (5, .int x5), (6, .int x6)] → k96 i0 x1 x3 x4 x5 x6 F = some out → W p l e (headSpec w_Md_spread r_Md_spread).room s m args below meth c H locs 0 0 (MQ below (QV X L out) args s 0 0 (AA X L)) (F0 m 96 ls [])) {i0 : Nat} {x1 : Int32} {x3 : Int32} {x4 : Int32} {x5 : Int32} {x6 : Int32} {F : Mem} {H : Heap} {locs : List Loc} {ls : Array Slot} (o0 : oO L 12 i0) (hI : Iv X L s H locs F) (hl : lv_has ls 7 [(0, .ref (mAd X i0)), (1, .int x1), (3, .int x3), (4, .int x4), (5, .int x5), (6, .int x6)]) (h : b_Md_spread_96 L k65 k96 i0 x1 x3 x4 x5 x6 F = some out) : W p l e (headSpec w_Md_spread r_Md_spread).room s m args below meth c H locs 0 0 (MQ below (QV X L out) args s 0 0 (AA X L)) (F0 m 96 ls []) := by
  unfold b_Md_spread_96 at h
  obtain ⟨S, hK, hT, hW, hr, hlk⟩ := id hC
  have hx := S.1
  have hb := S.2.1
  refine lv_iload hx hb d_Md_spread_96 (lv_at hl 5 rfl) ?_
  refine lv_iload_n hx hb d_Md_spread_98 rfl (lv_at hl 2 rfl) ?_
  refine lv_icmp_ge (tgt := 136) hx hb d_Md_spread_99 rfl (fun hc => ?_) (fun hc => ?_)
  · replace h := (if_pos hc).symm.trans h
    refine lv_iconst (v := 0) hx hb d_Md_spread_136 rfl ?_
    refine lv_istore (lv' := [(6, .int (0 : Int32)), (0, .ref (mAd X i0)), (1, .int x1), (3, .int x3), (4, .int x4), (5, .int x5)]) hx hb d_Md_spread_137 hl (by decide) rfl (fun ls hl => ?_)
    exact tf_Md_spread_139 hC hk65 mFU _ _ _ _ _ _ _ _ _ o0 hI (lv_sub hl [1, 2, 3, 5, 0] rfl) h
  · replace h := (if_neg hc).symm.trans h
    refine lv_aload_n hx hb d_Md_spread_102 rfl (lv_at hl 0 rfl) ?_
    have p1 := wt_a hW o0 23 rfl (by decide) (by decide)
    refine w_getR (T := T_Md) S hK hI o0 rfl hin_Md 23 (index := 38) (by decide) lf_Md_38 d_Md_spread_103 ?_
    refine lv_bipush (v := 16) hx hb d_Md_spread_106 (by decide) ?_
    refine lv_iload_n hx hb d_Md_spread_108 rfl (lv_at hl 1 rfl) ?_
    refine lv_imul hx hb d_Md_spread_109 ?_
    refine lv_iload hx hb d_Md_spread_110 (lv_at hl 5 rfl) ?_
    refine lv_iadd hx hb d_Md_spread_112 ?_
    obtain ⟨z2, h⟩ := un_if h
    refine w_iald S hK hI hT p1 z2 d_Md_spread_113 ?_
    refine lv_iload hx hb d_Md_spread_114 (lv_at hl 3 rfl) ?_
    refine lv_icmp_ne (tgt := 126) hx hb d_Md_spread_116 rfl (fun hc => ?_) (fun hc => ?_)
    · replace h := (if_neg hc).symm.trans h
      refine lv_iload hx hb d_Md_spread_126 (lv_at hl 4 rfl) ?_
      exact t_Md_spread_128 hC hk65 hk96 o0 hI (lv_sub hl [0, 1, 2, 3, 5] rfl) h
    · replace h := (if_pos hc).symm.trans h
      refine lv_iload hx hb d_Md_spread_119 (lv_at hl 4 rfl) ?_
      refine lv_iconst (v := 1) hx hb d_Md_spread_121 rfl ?_
      refine lv_iadd hx hb d_Md_spread_122 ?_
      refine lv_goto (tgt := 128) hx hb d_Md_spread_123 rfl ?_
      exact t_Md_spread_128 hC hk65 hk96 o0 hI (lv_sub hl [0, 1, 2, 3, 5] rfl) h
def f_Md_spread_96 (L : La) (k65 : Nat → Int32 → Int32 → Mem → Option Mem) : Nat → Nat → Int32 → Int32 → Int32 → Int32 → Int32 → Mem → Option Mem
  | 0 => fun _ _ _ _ _ _ _ => none
  | n + 1 => b_Md_spread_96 L k65 (f_Md_spread_96 L k65 n)
theorem tf_Md_spread_96 (hC : Cx X L p s m args meth c cc_Md_spread 7 w_Md_spread R_Md none) {k65 : Nat → Int32 → Int32 → Mem → Option Mem} {out : Mem} (hk65 : ∀ (i0 : Nat) (x1 : Int32) (x3 : Int32) (F : Mem) (H : Heap) (locs : List Loc) (ls : Array Slot), oO L 12 i0 → Iv X L s H locs F → lv_has ls 7 [(0, .ref (mAd X i0)), (1, .int x1), (3, .int x3)] → k65 i0 x1 x3 F = some out → W p l e (headSpec w_Md_spread r_Md_spread).room s m args below meth c H locs 0 0 (MQ below (QV X L out) args s 0 0 (AA X L)) (F0 m 65 ls [])) (n : Nat) : ∀ (i0 : Nat) (x1 : Int32) (x3 : Int32) (x4 : Int32) (x5 : Int32) (x6 : Int32) (F : Mem) (H : Heap) (locs : List Loc) (ls : Array Slot), oO L 12 i0 → Iv X L s H locs F → lv_has ls 7 [(0, .ref (mAd X i0)), (1, .int x1), (3, .int x3), (4, .int x4), (5, .int x5), (6, .int x6)] → f_Md_spread_96 L k65 n i0 x1 x3 x4 x5 x6 F = some out → W p l e (headSpec w_Md_spread r_Md_spread).room s m args below meth c H locs 0 0 (MQ below (QV X L out) args s 0 0 (AA X L)) (F0 m 96 ls []) := by
  induction n with
  | zero => intro i0 x1 x3 x4 x5 x6 F H locs ls o0 hI hl h; cases h
  | succ n ih => intro i0 x1 x3 x4 x5 x6 F H locs ls o0 hI hl h; exact t_Md_spread_96 hC hk65 ih o0 hI hl h
def b_Md_spread_65 (L : La) (k65 : Nat → Int32 → Int32 → Mem → Option Mem) (i0 : Nat) (x1 : Int32) (x3 : Int32) (F : Mem) : Option Mem :=
  if (16 : Int32) ≤ x3 then
    some F
  else
    if inb (((16 : Int32) * x1) + x3) (mGl L (mRf L i0 23)) then none else
    if inb (mGa L F (mRf L i0 23) (((16 : Int32) * x1) + x3).toNatClampNeg) (mGl L (mRf L i0 26)) then none else
    f_Md_spread_96 L k65 mFU i0 x1 x3 (mGa L F (mRf L i0 23) (((16 : Int32) * x1) + x3).toNatClampNeg) (mGa L F (mRf L i0 26) (mGa L F (mRf L i0 23) (((16 : Int32) * x1) + x3).toNatClampNeg).toNatClampNeg) (0 : Int32) F
set_option maxHeartbeats 4000000 in
theorem t_Md_spread_65 (hC : Cx X L p s m args meth c cc_Md_spread 7 w_Md_spread R_Md none) {k65 : Nat → Int32 → Int32 → Mem → Option Mem} {out : Mem} (hk65 : ∀ (i0 : Nat) (x1 : Int32) (x3 : Int32) (F : Mem) (H : Heap) (locs : List Loc) (ls : Array Slot), oO L 12 i0 → Iv X L s H locs F → lv_has ls 7 [(0, .ref (mAd X i0)), (1, .int x1), (3, .int x3)] → k65 i0 x1 x3 F = some out → W p l e (headSpec w_Md_spread r_Md_spread).room s m args below meth c H locs 0 0 (MQ below (QV X L out) args s 0 0 (AA X L)) (F0 m 65 ls [])) {i0 : Nat} {x1 : Int32} {x3 : Int32} {F : Mem} {H : Heap} {locs : List Loc} {ls : Array Slot} (o0 : oO L 12 i0) (hI : Iv X L s H locs F) (hl : lv_has ls 7 [(0, .ref (mAd X i0)), (1, .int x1), (3, .int x3)]) (h : b_Md_spread_65 L k65 i0 x1 x3 F = some out) : W p l e (headSpec w_Md_spread r_Md_spread).room s m args below meth c H locs 0 0 (MQ below (QV X L out) args s 0 0 (AA X L)) (F0 m 65 ls []) := by
  unfold b_Md_spread_65 at h
  obtain ⟨S, hK, hT, hW, hr, hlk⟩ := id hC
  have hx := S.1
  have hb := S.2.1
  refine lv_iload_n hx hb d_Md_spread_65 rfl (lv_at hl 2 rfl) ?_
  refine lv_bipush (v := 16) hx hb d_Md_spread_66 (by decide) ?_
  refine lv_icmp_ge (tgt := 193) hx hb d_Md_spread_68 rfl (fun hc => ?_) (fun hc => ?_)
  · replace h := (if_pos hc).symm.trans h
    exact w_vret S hK hr hlk hI d_Md_spread_193 h
  · replace h := (if_neg hc).symm.trans h
    refine lv_aload_n hx hb d_Md_spread_71 rfl (lv_at hl 0 rfl) ?_
    have p1 := wt_a hW o0 23 rfl (by decide) (by decide)
    refine w_getR (T := T_Md) S hK hI o0 rfl hin_Md 23 (index := 38) (by decide) lf_Md_38 d_Md_spread_72 ?_
    refine lv_bipush (v := 16) hx hb d_Md_spread_75 (by decide) ?_
    refine lv_iload_n hx hb d_Md_spread_77 rfl (lv_at hl 1 rfl) ?_
    refine lv_imul hx hb d_Md_spread_78 ?_
    refine lv_iload_n hx hb d_Md_spread_79 rfl (lv_at hl 2 rfl) ?_
    refine lv_iadd hx hb d_Md_spread_80 ?_
    obtain ⟨z2, h⟩ := un_if h
    refine w_iald S hK hI hT p1 z2 d_Md_spread_81 ?_
    refine lv_istore (lv' := [(4, .int (mGa L F (mRf L i0 23) (((16 : Int32) * x1) + x3).toNatClampNeg)), (0, .ref (mAd X i0)), (1, .int x1), (3, .int x3)]) hx hb d_Md_spread_82 hl (by decide) rfl (fun ls hl => ?_)
    refine lv_aload_n hx hb d_Md_spread_84 rfl (lv_at hl 1 rfl) ?_
    have p3 := wt_a hW o0 26 rfl (by decide) (by decide)
    refine w_getR (T := T_Md) S hK hI o0 rfl hin_Md 26 (index := 47) (by decide) lf_Md_47 d_Md_spread_85 ?_
    refine lv_iload hx hb d_Md_spread_88 (lv_at hl 0 rfl) ?_
    obtain ⟨z4, h⟩ := un_if h
    refine w_iald S hK hI hT p3 z4 d_Md_spread_90 ?_
    refine lv_istore (lv' := [(5, .int (mGa L F (mRf L i0 26) (mGa L F (mRf L i0 23) (((16 : Int32) * x1) + x3).toNatClampNeg).toNatClampNeg)), (4, .int (mGa L F (mRf L i0 23) (((16 : Int32) * x1) + x3).toNatClampNeg)), (0, .ref (mAd X i0)), (1, .int x1), (3, .int x3)]) hx hb d_Md_spread_91 hl (by decide) rfl (fun ls hl => ?_)
    refine lv_iconst (v := 0) hx hb d_Md_spread_93 rfl ?_
    refine lv_istore (lv' := [(6, .int (0 : Int32)), (5, .int (mGa L F (mRf L i0 26) (mGa L F (mRf L i0 23) (((16 : Int32) * x1) + x3).toNatClampNeg).toNatClampNeg)), (4, .int (mGa L F (mRf L i0 23) (((16 : Int32) * x1) + x3).toNatClampNeg)), (0, .ref (mAd X i0)), (1, .int x1), (3, .int x3)]) hx hb d_Md_spread_94 hl (by decide) rfl (fun ls hl => ?_)
    exact tf_Md_spread_96 hC hk65 mFU _ _ _ _ _ _ _ _ _ _ o0 hI (lv_sub hl [3, 4, 5, 2, 1, 0] rfl) h
def f_Md_spread_65 (L : La)  : Nat → Nat → Int32 → Int32 → Mem → Option Mem
  | 0 => fun _ _ _ _ => none
  | n + 1 => b_Md_spread_65 L (f_Md_spread_65 L  n)
theorem tf_Md_spread_65 (hC : Cx X L p s m args meth c cc_Md_spread 7 w_Md_spread R_Md none)  {out : Mem}  (n : Nat) : ∀ (i0 : Nat) (x1 : Int32) (x3 : Int32) (F : Mem) (H : Heap) (locs : List Loc) (ls : Array Slot), oO L 12 i0 → Iv X L s H locs F → lv_has ls 7 [(0, .ref (mAd X i0)), (1, .int x1), (3, .int x3)] → f_Md_spread_65 L  n i0 x1 x3 F = some out → W p l e (headSpec w_Md_spread r_Md_spread).room s m args below meth c H locs 0 0 (MQ below (QV X L out) args s 0 0 (AA X L)) (F0 m 65 ls []) := by
  induction n with
  | zero => intro i0 x1 x3 F H locs ls o0 hI hl h; cases h
  | succ n ih => intro i0 x1 x3 F H locs ls o0 hI hl h; exact t_Md_spread_65 hC ih o0 hI hl h
def b_Md_spread_20 (L : La) (k11 : Nat → Int32 → Int32 → Int32 → Mem → Option Mem) (k20 : Nat → Int32 → Int32 → Int32 → Int32 → Mem → Option Mem) (i0 : Nat) (x1 : Int32) (x2 : Int32) (x3 : Int32) (x4 : Int32) (F : Mem) : Option Mem :=
  if inb x3 (mGl L (mRf L i0 26)) then none else
  if (mGa L F (mRf L i0 26) x3.toNatClampNeg) ≤ x4 then
    k11 i0 x1 x2 (x3 + (1 : Int32)) F
  else
    if inb (((16 : Int32) * x1) + x2) (mLn L (mRf L i0 23)) ∨ ¬ (mRf L i0 23) < mNc L then none else
    lt' (u2 F (mRf L i0 23) (((16 : Int32) * x1) + x2).toNatClampNeg x3) fun F5 =>
    k20 i0 x1 ((x2 + (13 : Int32)) &&& (15 : Int32)) x3 (x4 + (1 : Int32)) F5
set_option maxHeartbeats 4000000 in
theorem t_Md_spread_20 (hC : Cx X L p s m args meth c cc_Md_spread 7 w_Md_spread R_Md none) {k11 : Nat → Int32 → Int32 → Int32 → Mem → Option Mem} {k20 : Nat → Int32 → Int32 → Int32 → Int32 → Mem → Option Mem} {out : Mem} (hk11 : ∀ (i0 : Nat) (x1 : Int32) (x2 : Int32) (x3 : Int32) (F : Mem) (H : Heap) (locs : List Loc) (ls : Array Slot), oO L 12 i0 → Iv X L s H locs F → lv_has ls 7 [(0, .ref (mAd X i0)), (1, .int x1), (2, .int x2), (3, .int x3)] → k11 i0 x1 x2 x3 F = some out → W p l e (headSpec w_Md_spread r_Md_spread).room s m args below meth c H locs 0 0 (MQ below (QV X L out) args s 0 0 (AA X L)) (F0 m 11 ls [])) (hk20 : ∀ (i0 : Nat) (x1 : Int32) (x2 : Int32) (x3 : Int32) (x4 : Int32) (F : Mem) (H : Heap) (locs : List Loc) (ls : Array Slot), oO L 12 i0 → Iv X L s H locs F → lv_has ls 7 [(0, .ref (mAd X i0)), (1, .int x1), (2, .int x2), (3, .int x3), (4, .int x4)] → k20 i0 x1 x2 x3 x4 F = some out → W p l e (headSpec w_Md_spread r_Md_spread).room s m args below meth c H locs 0 0 (MQ below (QV X L out) args s 0 0 (AA X L)) (F0 m 20 ls [])) {i0 : Nat} {x1 : Int32} {x2 : Int32} {x3 : Int32} {x4 : Int32} {F : Mem} {H : Heap} {locs : List Loc} {ls : Array Slot} (o0 : oO L 12 i0) (hI : Iv X L s H locs F) (hl : lv_has ls 7 [(0, .ref (mAd X i0)), (1, .int x1), (2, .int x2), (3, .int x3), (4, .int x4)]) (h : b_Md_spread_20 L k11 k20 i0 x1 x2 x3 x4 F = some out) : W p l e (headSpec w_Md_spread r_Md_spread).room s m args below meth c H locs 0 0 (MQ below (QV X L out) args s 0 0 (AA X L)) (F0 m 20 ls []) := by
  unfold b_Md_spread_20 at h
  obtain ⟨S, hK, hT, hW, hr, hlk⟩ := id hC
  have hx := S.1
  have hb := S.2.1
  refine lv_iload hx hb d_Md_spread_20 (lv_at hl 4 rfl) ?_
  refine lv_aload_n hx hb d_Md_spread_22 rfl (lv_at hl 0 rfl) ?_
  have p1 := wt_a hW o0 26 rfl (by decide) (by decide)
  refine w_getR (T := T_Md) S hK hI o0 rfl hin_Md 26 (index := 47) (by decide) lf_Md_47 d_Md_spread_23 ?_
  refine lv_iload_n hx hb d_Md_spread_26 rfl (lv_at hl 3 rfl) ?_
  obtain ⟨z2, h⟩ := un_if h
  refine w_iald S hK hI hT p1 z2 d_Md_spread_27 ?_
  refine lv_icmp_ge (tgt := 57) hx hb d_Md_spread_28 rfl (fun hc => ?_) (fun hc => ?_)
  · replace h := (if_pos hc).symm.trans h
    refine lv_iinc (k := 3) (v := x3 + (1 : Int32)) (lv' := [(3, .int (x3 + (1 : Int32))), (0, .ref (mAd X i0)), (1, .int x1), (2, .int x2), (4, .int x4)]) hx hb d_Md_spread_57 hl rfl rfl (by decide) rfl (fun ls hl => ?_)
    refine lv_goto (tgt := 11) hx hb d_Md_spread_60 rfl ?_
    exact hk11 _ _ _ _ _ _ _ _ o0 hI (lv_sub hl [1, 2, 3, 0] rfl) h
  · replace h := (if_neg hc).symm.trans h
    refine lv_aload_n hx hb d_Md_spread_31 rfl (lv_at hl 0 rfl) ?_
    have p3 := wt_a hW o0 23 rfl (by decide) (by decide)
    refine w_getR (T := T_Md) S hK hI o0 rfl hin_Md 23 (index := 38) (by decide) lf_Md_38 d_Md_spread_32 ?_
    refine lv_bipush (v := 16) hx hb d_Md_spread_35 (by decide) ?_
    refine lv_iload_n hx hb d_Md_spread_37 rfl (lv_at hl 1 rfl) ?_
    refine lv_imul hx hb d_Md_spread_38 ?_
    refine lv_iload_n hx hb d_Md_spread_39 rfl (lv_at hl 2 rfl) ?_
    refine lv_iadd hx hb d_Md_spread_40 ?_
    refine lv_iload_n hx hb d_Md_spread_41 rfl (lv_at hl 3 rfl) ?_
    obtain ⟨z4, h⟩ := un_if h
    refine w_iast S hK hI p3 z4 d_Md_spread_42 (fun H locs F5 e6 hI => ?_)
    replace h := un_lt h _ e6
    refine lv_iload_n hx hb d_Md_spread_43 rfl (lv_at hl 2 rfl) ?_
    refine lv_bipush (v := 13) hx hb d_Md_spread_44 (by decide) ?_
    refine lv_iadd hx hb d_Md_spread_46 ?_
    refine lv_bipush (v := 15) hx hb d_Md_spread_47 (by decide) ?_
    refine lv_iand hx hb d_Md_spread_49 ?_
    refine lv_istore_n (lv' := [(2, .int ((x2 + (13 : Int32)) &&& (15 : Int32))), (0, .ref (mAd X i0)), (1, .int x1), (3, .int x3), (4, .int x4)]) hx hb d_Md_spread_50 rfl hl (by decide) rfl (fun ls hl => ?_)
    refine lv_iinc (k := 4) (v := x4 + (1 : Int32)) (lv' := [(4, .int (x4 + (1 : Int32))), (2, .int ((x2 + (13 : Int32)) &&& (15 : Int32))), (0, .ref (mAd X i0)), (1, .int x1), (3, .int x3)]) hx hb d_Md_spread_51 hl rfl rfl (by decide) rfl (fun ls hl => ?_)
    refine lv_goto (tgt := 20) hx hb d_Md_spread_54 rfl ?_
    exact hk20 _ _ _ _ _ _ _ _ _ o0 hI (lv_sub hl [2, 3, 1, 4, 0] rfl) h
def f_Md_spread_20 (L : La) (k11 : Nat → Int32 → Int32 → Int32 → Mem → Option Mem) : Nat → Nat → Int32 → Int32 → Int32 → Int32 → Mem → Option Mem
  | 0 => fun _ _ _ _ _ _ => none
  | n + 1 => b_Md_spread_20 L k11 (f_Md_spread_20 L k11 n)
theorem tf_Md_spread_20 (hC : Cx X L p s m args meth c cc_Md_spread 7 w_Md_spread R_Md none) {k11 : Nat → Int32 → Int32 → Int32 → Mem → Option Mem} {out : Mem} (hk11 : ∀ (i0 : Nat) (x1 : Int32) (x2 : Int32) (x3 : Int32) (F : Mem) (H : Heap) (locs : List Loc) (ls : Array Slot), oO L 12 i0 → Iv X L s H locs F → lv_has ls 7 [(0, .ref (mAd X i0)), (1, .int x1), (2, .int x2), (3, .int x3)] → k11 i0 x1 x2 x3 F = some out → W p l e (headSpec w_Md_spread r_Md_spread).room s m args below meth c H locs 0 0 (MQ below (QV X L out) args s 0 0 (AA X L)) (F0 m 11 ls [])) (n : Nat) : ∀ (i0 : Nat) (x1 : Int32) (x2 : Int32) (x3 : Int32) (x4 : Int32) (F : Mem) (H : Heap) (locs : List Loc) (ls : Array Slot), oO L 12 i0 → Iv X L s H locs F → lv_has ls 7 [(0, .ref (mAd X i0)), (1, .int x1), (2, .int x2), (3, .int x3), (4, .int x4)] → f_Md_spread_20 L k11 n i0 x1 x2 x3 x4 F = some out → W p l e (headSpec w_Md_spread r_Md_spread).room s m args below meth c H locs 0 0 (MQ below (QV X L out) args s 0 0 (AA X L)) (F0 m 20 ls []) := by
  induction n with
  | zero => intro i0 x1 x2 x3 x4 F H locs ls o0 hI hl h; cases h
  | succ n ih => intro i0 x1 x2 x3 x4 F H locs ls o0 hI hl h; exact t_Md_spread_20 hC hk11 ih o0 hI hl h
def b_Md_spread_11 (L : La) (k11 : Nat → Int32 → Int32 → Int32 → Mem → Option Mem) (i0 : Nat) (x1 : Int32) (x2 : Int32) (x3 : Int32) (F : Mem) : Option Mem :=
  if (12 : Int32) ≤ x3 then
    f_Md_spread_65 L  mFU i0 x1 (0 : Int32) F
  else
    f_Md_spread_20 L k11 mFU i0 x1 x2 x3 (0 : Int32) F
set_option maxHeartbeats 4000000 in
theorem t_Md_spread_11 (hC : Cx X L p s m args meth c cc_Md_spread 7 w_Md_spread R_Md none) {k11 : Nat → Int32 → Int32 → Int32 → Mem → Option Mem} {out : Mem} (hk11 : ∀ (i0 : Nat) (x1 : Int32) (x2 : Int32) (x3 : Int32) (F : Mem) (H : Heap) (locs : List Loc) (ls : Array Slot), oO L 12 i0 → Iv X L s H locs F → lv_has ls 7 [(0, .ref (mAd X i0)), (1, .int x1), (2, .int x2), (3, .int x3)] → k11 i0 x1 x2 x3 F = some out → W p l e (headSpec w_Md_spread r_Md_spread).room s m args below meth c H locs 0 0 (MQ below (QV X L out) args s 0 0 (AA X L)) (F0 m 11 ls [])) {i0 : Nat} {x1 : Int32} {x2 : Int32} {x3 : Int32} {F : Mem} {H : Heap} {locs : List Loc} {ls : Array Slot} (o0 : oO L 12 i0) (hI : Iv X L s H locs F) (hl : lv_has ls 7 [(0, .ref (mAd X i0)), (1, .int x1), (2, .int x2), (3, .int x3)]) (h : b_Md_spread_11 L k11 i0 x1 x2 x3 F = some out) : W p l e (headSpec w_Md_spread r_Md_spread).room s m args below meth c H locs 0 0 (MQ below (QV X L out) args s 0 0 (AA X L)) (F0 m 11 ls []) := by
  unfold b_Md_spread_11 at h
  obtain ⟨S, hK, hT, hW, hr, hlk⟩ := id hC
  have hx := S.1
  have hb := S.2.1
  refine lv_iload_n hx hb d_Md_spread_11 rfl (lv_at hl 3 rfl) ?_
  refine lv_bipush (v := 12) hx hb d_Md_spread_12 (by decide) ?_
  refine lv_icmp_ge (tgt := 63) hx hb d_Md_spread_14 rfl (fun hc => ?_) (fun hc => ?_)
  · replace h := (if_pos hc).symm.trans h
    refine lv_iconst (v := 0) hx hb d_Md_spread_63 rfl ?_
    refine lv_istore_n (lv' := [(3, .int (0 : Int32)), (0, .ref (mAd X i0)), (1, .int x1), (2, .int x2)]) hx hb d_Md_spread_64 rfl hl (by decide) rfl (fun ls hl => ?_)
    exact tf_Md_spread_65 hC  mFU _ _ _ _ _ _ _ o0 hI (lv_sub hl [1, 2, 0] rfl) h
  · replace h := (if_neg hc).symm.trans h
    refine lv_iconst (v := 0) hx hb d_Md_spread_17 rfl ?_
    refine lv_istore (lv' := [(4, .int (0 : Int32)), (0, .ref (mAd X i0)), (1, .int x1), (2, .int x2), (3, .int x3)]) hx hb d_Md_spread_18 hl (by decide) rfl (fun ls hl => ?_)
    exact tf_Md_spread_20 hC hk11 mFU _ _ _ _ _ _ _ _ _ o0 hI (lv_sub hl [1, 2, 3, 4, 0] rfl) h
def f_Md_spread_11 (L : La)  : Nat → Nat → Int32 → Int32 → Int32 → Mem → Option Mem
  | 0 => fun _ _ _ _ _ => none
  | n + 1 => b_Md_spread_11 L (f_Md_spread_11 L  n)
theorem tf_Md_spread_11 (hC : Cx X L p s m args meth c cc_Md_spread 7 w_Md_spread R_Md none)  {out : Mem}  (n : Nat) : ∀ (i0 : Nat) (x1 : Int32) (x2 : Int32) (x3 : Int32) (F : Mem) (H : Heap) (locs : List Loc) (ls : Array Slot), oO L 12 i0 → Iv X L s H locs F → lv_has ls 7 [(0, .ref (mAd X i0)), (1, .int x1), (2, .int x2), (3, .int x3)] → f_Md_spread_11 L  n i0 x1 x2 x3 F = some out → W p l e (headSpec w_Md_spread r_Md_spread).room s m args below meth c H locs 0 0 (MQ below (QV X L out) args s 0 0 (AA X L)) (F0 m 11 ls []) := by
  induction n with
  | zero => intro i0 x1 x2 x3 F H locs ls o0 hI hl h; cases h
  | succ n ih => intro i0 x1 x2 x3 F H locs ls o0 hI hl h; exact t_Md_spread_11 hC ih o0 hI hl h
def f_Md_spread (L : La) (i0 : Nat) (x1 : Int32) (F : Mem) : Option Mem :=
  if inb x1 (mLn L (mRf L i0 22)) ∨ ¬ ((0 : Int32) = 0 ∨ (0 : Int32) = 1) then none else
  lt' (u2 F (mRf L i0 22) x1.toNatClampNeg (0 : Int32)) fun F3 =>
  f_Md_spread_11 L  mFU i0 x1 (0 : Int32) (0 : Int32) F3
set_option maxHeartbeats 4000000 in
theorem c_Md_spread (l : Launch) {X : Xs} {L : La} (hW : WT L) {out : Mem} {i0 : Nat} {x1 : Int32} {F : Mem} (o0 : oO L 12 i0) (h : f_Md_spread L i0 x1 F = some out) : Met l y_Md_spread w_Md_spread r_Md_spread (va_Pc [.ref (mAd X i0), .int x1] (Pr X L F)) (QV X L out) 0 0 (AA X L) := by
  refine mk_met (by decide) rfl (Nat.le_of_ble_eq_true rfl) hW ?_
  intro p e s m args below meth c ls hC hI hl
  have hl : lv_has ls 7 [(0, .ref (mAd X i0)), (1, .int x1)] := hl
  generalize hHe : s.heap = H at hI ⊢
  generalize ([] : List Loc) = locs at hI ⊢
  unfold f_Md_spread at h
  obtain ⟨S, hK, hT, hW, hr, hlk⟩ := id hC
  have hx := S.1
  have hb := S.2.1
  refine lv_aload_n hx hb d_Md_spread_0 rfl (lv_at hl 0 rfl) ?_
  have p1 := wt_o hW o0 22 101 rfl (by decide) (by decide) (by decide)
  refine w_getR (T := T_Md) S hK hI o0 rfl hin_Md 22 (index := 35) (by decide) lf_Md_35 d_Md_spread_1 ?_
  refine lv_iload_n hx hb d_Md_spread_4 rfl (lv_at hl 1 rfl) ?_
  refine lv_iconst (v := 0) hx hb d_Md_spread_5 rfl ?_
  obtain ⟨z2, h⟩ := un_if h
  refine w_zast S hK hI p1 z2 d_Md_spread_6 (fun H locs F3 e4 hI => ?_)
  replace h := un_lt h _ e4
  refine lv_iconst (v := 0) hx hb d_Md_spread_7 rfl ?_
  refine lv_istore_n (lv' := [(2, .int (0 : Int32)), (0, .ref (mAd X i0)), (1, .int x1)]) hx hb d_Md_spread_8 rfl hl (by decide) rfl (fun ls hl => ?_)
  refine lv_iconst (v := 0) hx hb d_Md_spread_9 rfl ?_
  refine lv_istore_n (lv' := [(3, .int (0 : Int32)), (2, .int (0 : Int32)), (0, .ref (mAd X i0)), (1, .int x1)]) hx hb d_Md_spread_10 rfl hl (by decide) rfl (fun ls hl => ?_)
  exact tf_Md_spread_11 hC  mFU _ _ _ _ _ _ _ _ o0 hI (lv_sub hl [2, 3, 1, 0] rfl) h
end
theorem d_Md_setUsual_0 : decode cc_Md_setUsual 0 = .ok (.iconst 0, 1) := by decide +kernel
theorem d_Md_setUsual_1 : decode cc_Md_setUsual 1 = .ok (.istore_n 2, 1) := by decide +kernel
theorem d_Md_setUsual_2 : decode cc_Md_setUsual 2 = .ok (.iload_n 2, 1) := by decide +kernel
theorem d_Md_setUsual_3 : decode cc_Md_setUsual 3 = .ok (.bipush (12), 2) := by decide +kernel
theorem d_Md_setUsual_5 : decode cc_Md_setUsual 5 = .ok (.if_icmp .ge (52), 3) := by decide +kernel
theorem d_Md_setUsual_8 : decode cc_Md_setUsual 8 = .ok (.aload_n 0, 1) := by decide +kernel
theorem d_Md_setUsual_9 : decode cc_Md_setUsual 9 = .ok (.getfield 47, 3) := by decide +kernel
theorem d_Md_setUsual_12 : decode cc_Md_setUsual 12 = .ok (.iload_n 2, 1) := by decide +kernel
theorem d_Md_setUsual_13 : decode cc_Md_setUsual 13 = .ok (.iload_n 1, 1) := by decide +kernel
theorem d_Md_setUsual_14 : decode cc_Md_setUsual 14 = .ok (.iconst 1, 1) := by decide +kernel
theorem d_Md_setUsual_15 : decode cc_Md_setUsual 15 = .ok (.if_icmp .ne (17), 3) := by decide +kernel
theorem d_Md_setUsual_18 : decode cc_Md_setUsual 18 = .ok (.iload_n 2, 1) := by decide +kernel
theorem d_Md_setUsual_19 : decode cc_Md_setUsual 19 = .ok (.bipush (8), 2) := by decide +kernel
theorem d_Md_setUsual_21 : decode cc_Md_setUsual 21 = .ok (.if_icmp .ge (7), 3) := by decide +kernel
theorem d_Md_setUsual_24 : decode cc_Md_setUsual 24 = .ok (.iconst 2, 1) := by decide +kernel
theorem d_Md_setUsual_25 : decode cc_Md_setUsual 25 = .ok (.goto (25), 3) := by decide +kernel
theorem d_Md_setUsual_28 : decode cc_Md_setUsual 28 = .ok (.iconst 0, 1) := by decide +kernel
theorem d_Md_setUsual_29 : decode cc_Md_setUsual 29 = .ok (.goto (21), 3) := by decide +kernel
theorem d_Md_setUsual_32 : decode cc_Md_setUsual 32 = .ok (.iload_n 2, 1) := by decide +kernel
theorem d_Md_setUsual_33 : decode cc_Md_setUsual 33 = .ok (.ifCond .ne (7), 3) := by decide +kernel
theorem d_Md_setUsual_36 : decode cc_Md_setUsual 36 = .ok (.iconst 3, 1) := by decide +kernel
theorem d_Md_setUsual_37 : decode cc_Md_setUsual 37 = .ok (.goto (13), 3) := by decide +kernel
theorem d_Md_setUsual_40 : decode cc_Md_setUsual 40 = .ok (.iload_n 2, 1) := by decide +kernel
theorem d_Md_setUsual_41 : decode cc_Md_setUsual 41 = .ok (.iconst 3, 1) := by decide +kernel
theorem d_Md_setUsual_42 : decode cc_Md_setUsual 42 = .ok (.if_icmp .ge (7), 3) := by decide +kernel
theorem d_Md_setUsual_45 : decode cc_Md_setUsual 45 = .ok (.iconst 2, 1) := by decide +kernel
theorem d_Md_setUsual_46 : decode cc_Md_setUsual 46 = .ok (.goto (4), 3) := by decide +kernel
theorem d_Md_setUsual_49 : decode cc_Md_setUsual 49 = .ok (.iconst 1, 1) := by decide +kernel
theorem d_Md_setUsual_50 : decode cc_Md_setUsual 50 = .ok (.iastore, 1) := by decide +kernel
theorem d_Md_setUsual_51 : decode cc_Md_setUsual 51 = .ok (.iinc 2 (1), 3) := by decide +kernel
theorem d_Md_setUsual_54 : decode cc_Md_setUsual 54 = .ok (.goto (-52), 3) := by decide +kernel
theorem d_Md_setUsual_57 : decode cc_Md_setUsual 57 = .ok (.aload_n 0, 1) := by decide +kernel
theorem d_Md_setUsual_58 : decode cc_Md_setUsual 58 = .ok (.iload_n 1, 1) := by decide +kernel
theorem d_Md_setUsual_59 : decode cc_Md_setUsual 59 = .ok (.invokevirtual 203, 3) := by decide +kernel
theorem d_Md_setUsual_62 : decode cc_Md_setUsual 62 = .ok (.return_, 1) := by decide +kernel
section
variable {p : Program} {l : Launch} {e : Env} {s : State} {m : MethodId} {args : Array Value} {below : List Frame} {meth : Method} {c : Code} {X : Xs} {L : La}
def b_Md_setUsual_50 (L : La) (k2 : Nat → Int32 → Int32 → Mem → Option Mem) (i0 : Nat) (x1 : Int32) (x2 : Int32) (j0 : Nat) (y1 : Int32) (y2 : Int32) (F : Mem) : Option Mem :=
  if inb y1 (mLn L j0) ∨ ¬ j0 < mNc L then none else
  lt' (u2 F j0 y1.toNatClampNeg y2) fun F2 =>
  k2 i0 x1 (x2 + (1 : Int32)) F2
set_option maxHeartbeats 4000000 in
theorem t_Md_setUsual_50 (hC : Cx X L p s m args meth c cc_Md_setUsual 3 w_Md_setUsual R_Md none) {k2 : Nat → Int32 → Int32 → Mem → Option Mem} {out : Mem} (hk2 : ∀ (i0 : Nat) (x1 : Int32) (x2 : Int32) (F : Mem) (H : Heap) (locs : List Loc) (ls : Array Slot), oO L 12 i0 → Iv X L s H locs F → lv_has ls 3 [(0, .ref (mAd X i0)), (1, .int x1), (2, .int x2)] → k2 i0 x1 x2 F = some out → W p l e (headSpec w_Md_setUsual r_Md_setUsual).room s m args below meth c H locs 0 0 (MQ below (QV X L out) args s 0 0 (AA X L)) (F0 m 2 ls [])) {i0 : Nat} {x1 : Int32} {x2 : Int32} {j0 : Nat} {y1 : Int32} {y2 : Int32} {F : Mem} {H : Heap} {locs : List Loc} {ls : Array Slot} (o0 : oO L 12 i0) (oy0 : oA L j0) (hI : Iv X L s H locs F) (hl : lv_has ls 3 [(0, .ref (mAd X i0)), (1, .int x1), (2, .int x2)]) (h : b_Md_setUsual_50 L k2 i0 x1 x2 j0 y1 y2 F = some out) : W p l e (headSpec w_Md_setUsual r_Md_setUsual).room s m args below meth c H locs 0 0 (MQ below (QV X L out) args s 0 0 (AA X L)) (F0 m 50 ls [.int y2, .int y1, .ref (mAd X j0)]) := by
  unfold b_Md_setUsual_50 at h
  obtain ⟨S, hK, hT, hW, hr, hlk⟩ := id hC
  have hx := S.1
  have hb := S.2.1
  obtain ⟨z1, h⟩ := un_if h
  refine w_iast S hK hI oy0 z1 d_Md_setUsual_50 (fun H locs F2 e3 hI => ?_)
  replace h := un_lt h _ e3
  refine lv_iinc (k := 2) (v := x2 + (1 : Int32)) (lv' := [(2, .int (x2 + (1 : Int32))), (0, .ref (mAd X i0)), (1, .int x1)]) hx hb d_Md_setUsual_51 hl rfl rfl (by decide) rfl (fun ls hl => ?_)
  refine lv_goto (tgt := 2) hx hb d_Md_setUsual_54 rfl ?_
  exact hk2 _ _ _ _ _ _ _ o0 hI (lv_sub hl [1, 2, 0] rfl) h
def b_Md_setUsual_2 (L : La) (k2 : Nat → Int32 → Int32 → Mem → Option Mem) (i0 : Nat) (x1 : Int32) (x2 : Int32) (F : Mem) : Option Mem :=
  if (12 : Int32) ≤ x2 then
    (f_Md_spread L i0 x1 F).bind fun F1 =>
    some F1
  else
    if x1 = (1 : Int32) then
      if (8 : Int32) ≤ x2 then
        b_Md_setUsual_50 L k2 i0 x1 x2 (mRf L i0 26) x2 (0 : Int32) F
      else
        b_Md_setUsual_50 L k2 i0 x1 x2 (mRf L i0 26) x2 (2 : Int32) F
    else
      if x2 = 0 then
        b_Md_setUsual_50 L k2 i0 x1 x2 (mRf L i0 26) x2 (3 : Int32) F
      else
        if (3 : Int32) ≤ x2 then
          b_Md_setUsual_50 L k2 i0 x1 x2 (mRf L i0 26) x2 (1 : Int32) F
        else
          b_Md_setUsual_50 L k2 i0 x1 x2 (mRf L i0 26) x2 (2 : Int32) F
set_option maxHeartbeats 4000000 in
theorem t_Md_setUsual_2 (hC : Cx X L p s m args meth c cc_Md_setUsual 3 w_Md_setUsual R_Md none) {k2 : Nat → Int32 → Int32 → Mem → Option Mem} {out : Mem} (hk2 : ∀ (i0 : Nat) (x1 : Int32) (x2 : Int32) (F : Mem) (H : Heap) (locs : List Loc) (ls : Array Slot), oO L 12 i0 → Iv X L s H locs F → lv_has ls 3 [(0, .ref (mAd X i0)), (1, .int x1), (2, .int x2)] → k2 i0 x1 x2 F = some out → W p l e (headSpec w_Md_setUsual r_Md_setUsual).room s m args below meth c H locs 0 0 (MQ below (QV X L out) args s 0 0 (AA X L)) (F0 m 2 ls [])) {i0 : Nat} {x1 : Int32} {x2 : Int32} {F : Mem} {H : Heap} {locs : List Loc} {ls : Array Slot} (o0 : oO L 12 i0) (hI : Iv X L s H locs F) (hl : lv_has ls 3 [(0, .ref (mAd X i0)), (1, .int x1), (2, .int x2)]) (h : b_Md_setUsual_2 L k2 i0 x1 x2 F = some out) : W p l e (headSpec w_Md_setUsual r_Md_setUsual).room s m args below meth c H locs 0 0 (MQ below (QV X L out) args s 0 0 (AA X L)) (F0 m 2 ls []) := by
  unfold b_Md_setUsual_2 at h
  obtain ⟨S, hK, hT, hW, hr, hlk⟩ := id hC
  have hx := S.1
  have hb := S.2.1
  refine lv_iload_n hx hb d_Md_setUsual_2 rfl (lv_at hl 2 rfl) ?_
  refine lv_bipush (v := 12) hx hb d_Md_setUsual_3 (by decide) ?_
  refine lv_icmp_ge (tgt := 57) hx hb d_Md_setUsual_5 rfl (fun hc => ?_) (fun hc => ?_)
  · replace h := (if_pos hc).symm.trans h
    refine lv_aload_n hx hb d_Md_setUsual_57 rfl (lv_at hl 0 rfl) ?_
    refine lv_iload_n hx hb d_Md_setUsual_58 rfl (lv_at hl 1 rfl) ?_
    obtain ⟨F1, e2, h⟩ := un_bi h
    refine w_callVv (As := [.int x1]) (rest := []) S hK hI hT (c_Md_spread l hW o0 e2) (cwV 1 S.2.2.2.2 (gd_V lc_Md_spread lm_Md_203 li_Md_spread ls_Md_spread ln_Md) rfl rfl rfl hd_Md_spread ⟨Nat.le_of_ble_eq_true rfl, Nat.le_of_ble_eq_true rfl⟩) o0 rfl (by decide) rfl rfl hl.1 (Nat.le_of_ble_eq_true rfl) d_Md_setUsual_59 ⟨Nat.zero_le _, Nat.zero_le _⟩ (fun H locs hI => ?_)
    exact w_vret S hK hr hlk hI d_Md_setUsual_62 h
  · replace h := (if_neg hc).symm.trans h
    refine lv_aload_n hx hb d_Md_setUsual_8 rfl (lv_at hl 0 rfl) ?_
    have p3 := wt_a hW o0 26 rfl (by decide) (by decide)
    refine w_getR (T := T_Md) S hK hI o0 rfl hin_Md 26 (index := 47) (by decide) lf_Md_47 d_Md_setUsual_9 ?_
    refine lv_iload_n hx hb d_Md_setUsual_12 rfl (lv_at hl 2 rfl) ?_
    refine lv_iload_n hx hb d_Md_setUsual_13 rfl (lv_at hl 1 rfl) ?_
    refine lv_iconst (v := 1) hx hb d_Md_setUsual_14 rfl ?_
    refine lv_icmp_ne (tgt := 32) hx hb d_Md_setUsual_15 rfl (fun hc => ?_) (fun hc => ?_)
    · replace h := (if_neg hc).symm.trans h
      refine lv_iload_n hx hb d_Md_setUsual_32 rfl (lv_at hl 2 rfl) ?_
      refine lv_if_ne (tgt := 40) hx hb d_Md_setUsual_33 rfl (fun hc => ?_) (fun hc => ?_)
      · replace h := (if_neg hc).symm.trans h
        refine lv_iload_n hx hb d_Md_setUsual_40 rfl (lv_at hl 2 rfl) ?_
        refine lv_iconst (v := 3) hx hb d_Md_setUsual_41 rfl ?_
        refine lv_icmp_ge (tgt := 49) hx hb d_Md_setUsual_42 rfl (fun hc => ?_) (fun hc => ?_)
        · replace h := (if_pos hc).symm.trans h
          refine lv_iconst (v := 1) hx hb d_Md_setUsual_49 rfl ?_
          exact t_Md_setUsual_50 hC hk2 o0 p3 hI hl h
        · replace h := (if_neg hc).symm.trans h
          refine lv_iconst (v := 2) hx hb d_Md_setUsual_45 rfl ?_
          refine lv_goto (tgt := 50) hx hb d_Md_setUsual_46 rfl ?_
          exact t_Md_setUsual_50 hC hk2 o0 p3 hI hl h
      · replace h := (if_pos hc).symm.trans h
        refine lv_iconst (v := 3) hx hb d_Md_setUsual_36 rfl ?_
        refine lv_goto (tgt := 50) hx hb d_Md_setUsual_37 rfl ?_
        exact t_Md_setUsual_50 hC hk2 o0 p3 hI hl h
    · replace h := (if_pos hc).symm.trans h
      refine lv_iload_n hx hb d_Md_setUsual_18 rfl (lv_at hl 2 rfl) ?_
      refine lv_bipush (v := 8) hx hb d_Md_setUsual_19 (by decide) ?_
      refine lv_icmp_ge (tgt := 28) hx hb d_Md_setUsual_21 rfl (fun hc => ?_) (fun hc => ?_)
      · replace h := (if_pos hc).symm.trans h
        refine lv_iconst (v := 0) hx hb d_Md_setUsual_28 rfl ?_
        refine lv_goto (tgt := 50) hx hb d_Md_setUsual_29 rfl ?_
        exact t_Md_setUsual_50 hC hk2 o0 p3 hI hl h
      · replace h := (if_neg hc).symm.trans h
        refine lv_iconst (v := 2) hx hb d_Md_setUsual_24 rfl ?_
        refine lv_goto (tgt := 50) hx hb d_Md_setUsual_25 rfl ?_
        exact t_Md_setUsual_50 hC hk2 o0 p3 hI hl h
def f_Md_setUsual_2 (L : La)  : Nat → Nat → Int32 → Int32 → Mem → Option Mem
  | 0 => fun _ _ _ _ => none
  | n + 1 => b_Md_setUsual_2 L (f_Md_setUsual_2 L  n)
theorem tf_Md_setUsual_2 (hC : Cx X L p s m args meth c cc_Md_setUsual 3 w_Md_setUsual R_Md none)  {out : Mem}  (n : Nat) : ∀ (i0 : Nat) (x1 : Int32) (x2 : Int32) (F : Mem) (H : Heap) (locs : List Loc) (ls : Array Slot), oO L 12 i0 → Iv X L s H locs F → lv_has ls 3 [(0, .ref (mAd X i0)), (1, .int x1), (2, .int x2)] → f_Md_setUsual_2 L  n i0 x1 x2 F = some out → W p l e (headSpec w_Md_setUsual r_Md_setUsual).room s m args below meth c H locs 0 0 (MQ below (QV X L out) args s 0 0 (AA X L)) (F0 m 2 ls []) := by
  induction n with
  | zero => intro i0 x1 x2 F H locs ls o0 hI hl h; cases h
  | succ n ih => intro i0 x1 x2 F H locs ls o0 hI hl h; exact t_Md_setUsual_2 hC ih o0 hI hl h
def f_Md_setUsual (L : La) (i0 : Nat) (x1 : Int32) (F : Mem) : Option Mem :=
  f_Md_setUsual_2 L  mFU i0 x1 (0 : Int32) F
set_option maxHeartbeats 4000000 in
theorem c_Md_setUsual (l : Launch) {X : Xs} {L : La} (hW : WT L) {out : Mem} {i0 : Nat} {x1 : Int32} {F : Mem} (o0 : oO L 12 i0) (h : f_Md_setUsual L i0 x1 F = some out) : Met l y_Md_setUsual w_Md_setUsual r_Md_setUsual (va_Pc [.ref (mAd X i0), .int x1] (Pr X L F)) (QV X L out) 0 0 (AA X L) := by
  refine mk_met (by decide) rfl (Nat.le_of_ble_eq_true rfl) hW ?_
  intro p e s m args below meth c ls hC hI hl
  have hl : lv_has ls 3 [(0, .ref (mAd X i0)), (1, .int x1)] := hl
  generalize hHe : s.heap = H at hI ⊢
  generalize ([] : List Loc) = locs at hI ⊢
  unfold f_Md_setUsual at h
  obtain ⟨S, hK, hT, hW, hr, hlk⟩ := id hC
  have hx := S.1
  have hb := S.2.1
  refine lv_iconst (v := 0) hx hb d_Md_setUsual_0 rfl ?_
  refine lv_istore_n (lv' := [(2, .int (0 : Int32)), (0, .ref (mAd X i0)), (1, .int x1)]) hx hb d_Md_setUsual_1 rfl hl (by decide) rfl (fun ls hl => ?_)
  exact tf_Md_setUsual_2 hC  mFU _ _ _ _ _ _ _ o0 hI (lv_sub hl [1, 2, 0] rfl) h
end
theorem d_Md_readTable_0 : decode cc_Md_readTable 0 = .ok (.iload_n 1, 1) := by decide +kernel
theorem d_Md_readTable_1 : decode cc_Md_readTable 1 = .ok (.iconst 1, 1) := by decide +kernel
theorem d_Md_readTable_2 : decode cc_Md_readTable 2 = .ok (.if_icmp .ne (8), 3) := by decide +kernel
theorem d_Md_readTable_5 : decode cc_Md_readTable 5 = .ok (.bipush (8), 2) := by decide +kernel
theorem d_Md_readTable_7 : decode cc_Md_readTable 7 = .ok (.goto (5), 3) := by decide +kernel
theorem d_Md_readTable_10 : decode cc_Md_readTable 10 = .ok (.bipush (12), 2) := by decide +kernel
theorem d_Md_readTable_12 : decode cc_Md_readTable 12 = .ok (.istore 4, 2) := by decide +kernel
theorem d_Md_readTable_14 : decode cc_Md_readTable 14 = .ok (.iload_n 2, 1) := by decide +kernel
theorem d_Md_readTable_15 : decode cc_Md_readTable 15 = .ok (.ifCond .ne (11), 3) := by decide +kernel
theorem d_Md_readTable_18 : decode cc_Md_readTable 18 = .ok (.aload_n 0, 1) := by decide +kernel
theorem d_Md_readTable_19 : decode cc_Md_readTable 19 = .ok (.iload_n 1, 1) := by decide +kernel
theorem d_Md_readTable_20 : decode cc_Md_readTable 20 = .ok (.invokevirtual 200, 3) := by decide +kernel
theorem d_Md_readTable_23 : decode cc_Md_readTable 23 = .ok (.goto (310), 3) := by decide +kernel
theorem d_Md_readTable_26 : decode cc_Md_readTable 26 = .ok (.iload_n 2, 1) := by decide +kernel
theorem d_Md_readTable_27 : decode cc_Md_readTable 27 = .ok (.iconst 1, 1) := by decide +kernel
theorem d_Md_readTable_28 : decode cc_Md_readTable 28 = .ok (.if_icmp .ne (74), 3) := by decide +kernel
theorem d_Md_readTable_31 : decode cc_Md_readTable 31 = .ok (.aload_n 0, 1) := by decide +kernel
theorem d_Md_readTable_32 : decode cc_Md_readTable 32 = .ok (.iload_n 3, 1) := by decide +kernel
theorem d_Md_readTable_33 : decode cc_Md_readTable 33 = .ok (.invokevirtual 125, 3) := by decide +kernel
theorem d_Md_readTable_36 : decode cc_Md_readTable 36 = .ok (.istore 5, 2) := by decide +kernel
theorem d_Md_readTable_38 : decode cc_Md_readTable 38 = .ok (.aload_n 0, 1) := by decide +kernel
theorem d_Md_readTable_39 : decode cc_Md_readTable 39 = .ok (.aload_n 0, 1) := by decide +kernel
theorem d_Md_readTable_40 : decode cc_Md_readTable 40 = .ok (.getfield 102, 3) := by decide +kernel
theorem d_Md_readTable_43 : decode cc_Md_readTable 43 = .ok (.ifCond .ne (10), 3) := by decide +kernel
theorem d_Md_readTable_46 : decode cc_Md_readTable 46 = .ok (.iload 5, 2) := by decide +kernel
theorem d_Md_readTable_48 : decode cc_Md_readTable 48 = .ok (.iload 4, 2) := by decide +kernel
theorem d_Md_readTable_50 : decode cc_Md_readTable 50 = .ok (.if_icmp .lt (7), 3) := by decide +kernel
theorem d_Md_readTable_53 : decode cc_Md_readTable 53 = .ok (.iconst 1, 1) := by decide +kernel
theorem d_Md_readTable_54 : decode cc_Md_readTable 54 = .ok (.goto (4), 3) := by decide +kernel
theorem d_Md_readTable_57 : decode cc_Md_readTable 57 = .ok (.iconst 0, 1) := by decide +kernel
theorem d_Md_readTable_58 : decode cc_Md_readTable 58 = .ok (.putfield 102, 3) := by decide +kernel
theorem d_Md_readTable_61 : decode cc_Md_readTable 61 = .ok (.aload_n 0, 1) := by decide +kernel
theorem d_Md_readTable_62 : decode cc_Md_readTable 62 = .ok (.getfield 38, 3) := by decide +kernel
theorem d_Md_readTable_65 : decode cc_Md_readTable 65 = .ok (.bipush (16), 2) := by decide +kernel
theorem d_Md_readTable_67 : decode cc_Md_readTable 67 = .ok (.iload_n 1, 1) := by decide +kernel
theorem d_Md_readTable_68 : decode cc_Md_readTable 68 = .ok (.imul, 1) := by decide +kernel
theorem d_Md_readTable_69 : decode cc_Md_readTable 69 = .ok (.iload 5, 2) := by decide +kernel
theorem d_Md_readTable_71 : decode cc_Md_readTable 71 = .ok (.iastore, 1) := by decide +kernel
theorem d_Md_readTable_72 : decode cc_Md_readTable 72 = .ok (.aload_n 0, 1) := by decide +kernel
theorem d_Md_readTable_73 : decode cc_Md_readTable 73 = .ok (.getfield 41, 3) := by decide +kernel
theorem d_Md_readTable_76 : decode cc_Md_readTable 76 = .ok (.bipush (16), 2) := by decide +kernel
theorem d_Md_readTable_78 : decode cc_Md_readTable 78 = .ok (.iload_n 1, 1) := by decide +kernel
theorem d_Md_readTable_79 : decode cc_Md_readTable 79 = .ok (.imul, 1) := by decide +kernel
theorem d_Md_readTable_80 : decode cc_Md_readTable 80 = .ok (.iconst 0, 1) := by decide +kernel
theorem d_Md_readTable_81 : decode cc_Md_readTable 81 = .ok (.iastore, 1) := by decide +kernel
theorem d_Md_readTable_82 : decode cc_Md_readTable 82 = .ok (.aload_n 0, 1) := by decide +kernel
theorem d_Md_readTable_83 : decode cc_Md_readTable 83 = .ok (.getfield 44, 3) := by decide +kernel
theorem d_Md_readTable_86 : decode cc_Md_readTable 86 = .ok (.bipush (16), 2) := by decide +kernel
theorem d_Md_readTable_88 : decode cc_Md_readTable 88 = .ok (.iload_n 1, 1) := by decide +kernel
theorem d_Md_readTable_89 : decode cc_Md_readTable 89 = .ok (.imul, 1) := by decide +kernel
theorem d_Md_readTable_90 : decode cc_Md_readTable 90 = .ok (.iconst 0, 1) := by decide +kernel
theorem d_Md_readTable_91 : decode cc_Md_readTable 91 = .ok (.iastore, 1) := by decide +kernel
theorem d_Md_readTable_92 : decode cc_Md_readTable 92 = .ok (.aload_n 0, 1) := by decide +kernel
theorem d_Md_readTable_93 : decode cc_Md_readTable 93 = .ok (.getfield 35, 3) := by decide +kernel
theorem d_Md_readTable_96 : decode cc_Md_readTable 96 = .ok (.iload_n 1, 1) := by decide +kernel
theorem d_Md_readTable_97 : decode cc_Md_readTable 97 = .ok (.iconst 1, 1) := by decide +kernel
theorem d_Md_readTable_98 : decode cc_Md_readTable 98 = .ok (.bastore, 1) := by decide +kernel
theorem d_Md_readTable_99 : decode cc_Md_readTable 99 = .ok (.goto (234), 3) := by decide +kernel
theorem d_Md_readTable_102 : decode cc_Md_readTable 102 = .ok (.iload_n 2, 1) := by decide +kernel
theorem d_Md_readTable_103 : decode cc_Md_readTable 103 = .ok (.iconst 2, 1) := by decide +kernel
theorem d_Md_readTable_104 : decode cc_Md_readTable 104 = .ok (.if_icmp .ne (204), 3) := by decide +kernel
theorem d_Md_readTable_107 : decode cc_Md_readTable 107 = .ok (.aload_n 0, 1) := by decide +kernel
theorem d_Md_readTable_108 : decode cc_Md_readTable 108 = .ok (.iload_n 3, 1) := by decide +kernel
theorem d_Md_readTable_109 : decode cc_Md_readTable 109 = .ok (.invokevirtual 125, 3) := by decide +kernel
theorem d_Md_readTable_112 : decode cc_Md_readTable 112 = .ok (.istore 5, 2) := by decide +kernel
theorem d_Md_readTable_114 : decode cc_Md_readTable 114 = .ok (.aload_n 0, 1) := by decide +kernel
theorem d_Md_readTable_115 : decode cc_Md_readTable 115 = .ok (.aload_n 0, 1) := by decide +kernel
theorem d_Md_readTable_116 : decode cc_Md_readTable 116 = .ok (.getfield 102, 3) := by decide +kernel
theorem d_Md_readTable_119 : decode cc_Md_readTable 119 = .ok (.ifCond .ne (16), 3) := by decide +kernel
theorem d_Md_readTable_122 : decode cc_Md_readTable 122 = .ok (.iload 5, 2) := by decide +kernel
theorem d_Md_readTable_124 : decode cc_Md_readTable 124 = .ok (.iconst 1, 1) := by decide +kernel
theorem d_Md_readTable_125 : decode cc_Md_readTable 125 = .ok (.if_icmp .lt (10), 3) := by decide +kernel
theorem d_Md_readTable_128 : decode cc_Md_readTable 128 = .ok (.iload 5, 2) := by decide +kernel
theorem d_Md_readTable_130 : decode cc_Md_readTable 130 = .ok (.iload 4, 2) := by decide +kernel
theorem d_Md_readTable_132 : decode cc_Md_readTable 132 = .ok (.if_icmp .le (7), 3) := by decide +kernel
theorem d_Md_readTable_135 : decode cc_Md_readTable 135 = .ok (.iconst 1, 1) := by decide +kernel
theorem d_Md_readTable_136 : decode cc_Md_readTable 136 = .ok (.goto (4), 3) := by decide +kernel
theorem d_Md_readTable_139 : decode cc_Md_readTable 139 = .ok (.iconst 0, 1) := by decide +kernel
theorem d_Md_readTable_140 : decode cc_Md_readTable 140 = .ok (.putfield 102, 3) := by decide +kernel
theorem d_Md_readTable_143 : decode cc_Md_readTable 143 = .ok (.iconst 0, 1) := by decide +kernel
theorem d_Md_readTable_144 : decode cc_Md_readTable 144 = .ok (.istore 6, 2) := by decide +kernel
theorem d_Md_readTable_146 : decode cc_Md_readTable 146 = .ok (.iconst 0, 1) := by decide +kernel
theorem d_Md_readTable_147 : decode cc_Md_readTable 147 = .ok (.istore 7, 2) := by decide +kernel
theorem d_Md_readTable_149 : decode cc_Md_readTable 149 = .ok (.iconst 0, 1) := by decide +kernel
theorem d_Md_readTable_150 : decode cc_Md_readTable 150 = .ok (.istore 8, 2) := by decide +kernel
theorem d_Md_readTable_152 : decode cc_Md_readTable 152 = .ok (.iload 8, 2) := by decide +kernel
theorem d_Md_readTable_154 : decode cc_Md_readTable 154 = .ok (.bipush (12), 2) := by decide +kernel
theorem d_Md_readTable_156 : decode cc_Md_readTable 156 = .ok (.if_icmp .ge (98), 3) := by decide +kernel
theorem d_Md_readTable_159 : decode cc_Md_readTable 159 = .ok (.iload 8, 2) := by decide +kernel
theorem d_Md_readTable_161 : decode cc_Md_readTable 161 = .ok (.iload 5, 2) := by decide +kernel
theorem d_Md_readTable_163 : decode cc_Md_readTable 163 = .ok (.if_icmp .ge (25), 3) := by decide +kernel
theorem d_Md_readTable_166 : decode cc_Md_readTable 166 = .ok (.iload 8, 2) := by decide +kernel
theorem d_Md_readTable_168 : decode cc_Md_readTable 168 = .ok (.iconst 2, 1) := by decide +kernel
theorem d_Md_readTable_169 : decode cc_Md_readTable 169 = .ok (.irem, 1) := by decide +kernel
theorem d_Md_readTable_170 : decode cc_Md_readTable 170 = .ok (.ifCond .ne (18), 3) := by decide +kernel
theorem d_Md_readTable_173 : decode cc_Md_readTable 173 = .ok (.aload_n 0, 1) := by decide +kernel
theorem d_Md_readTable_174 : decode cc_Md_readTable 174 = .ok (.getfield 102, 3) := by decide +kernel
theorem d_Md_readTable_177 : decode cc_Md_readTable 177 = .ok (.ifCond .ne (11), 3) := by decide +kernel
theorem d_Md_readTable_180 : decode cc_Md_readTable 180 = .ok (.aload_n 0, 1) := by decide +kernel
theorem d_Md_readTable_181 : decode cc_Md_readTable 181 = .ok (.iload_n 3, 1) := by decide +kernel
theorem d_Md_readTable_182 : decode cc_Md_readTable 182 = .ok (.invokevirtual 125, 3) := by decide +kernel
theorem d_Md_readTable_185 : decode cc_Md_readTable 185 = .ok (.goto (5), 3) := by decide +kernel
theorem d_Md_readTable_188 : decode cc_Md_readTable 188 = .ok (.iload 7, 2) := by decide +kernel
theorem d_Md_readTable_190 : decode cc_Md_readTable 190 = .ok (.istore 7, 2) := by decide +kernel
theorem d_Md_readTable_192 : decode cc_Md_readTable 192 = .ok (.aload_n 0, 1) := by decide +kernel
theorem d_Md_readTable_193 : decode cc_Md_readTable 193 = .ok (.getfield 47, 3) := by decide +kernel
theorem d_Md_readTable_196 : decode cc_Md_readTable 196 = .ok (.iload 8, 2) := by decide +kernel
theorem d_Md_readTable_198 : decode cc_Md_readTable 198 = .ok (.iload 8, 2) := by decide +kernel
theorem d_Md_readTable_200 : decode cc_Md_readTable 200 = .ok (.iload 5, 2) := by decide +kernel
theorem d_Md_readTable_202 : decode cc_Md_readTable 202 = .ok (.if_icmp .ge (10), 3) := by decide +kernel
theorem d_Md_readTable_205 : decode cc_Md_readTable 205 = .ok (.aload_n 0, 1) := by decide +kernel
theorem d_Md_readTable_206 : decode cc_Md_readTable 206 = .ok (.getfield 102, 3) := by decide +kernel
theorem d_Md_readTable_209 : decode cc_Md_readTable 209 = .ok (.ifCond .eq (7), 3) := by decide +kernel
theorem d_Md_readTable_212 : decode cc_Md_readTable 212 = .ok (.iconst 0, 1) := by decide +kernel
theorem d_Md_readTable_213 : decode cc_Md_readTable 213 = .ok (.goto (22), 3) := by decide +kernel
theorem d_Md_readTable_216 : decode cc_Md_readTable 216 = .ok (.iload 8, 2) := by decide +kernel
theorem d_Md_readTable_218 : decode cc_Md_readTable 218 = .ok (.iconst 2, 1) := by decide +kernel
theorem d_Md_readTable_219 : decode cc_Md_readTable 219 = .ok (.irem, 1) := by decide +kernel
theorem d_Md_readTable_220 : decode cc_Md_readTable 220 = .ok (.ifCond .ne (10), 3) := by decide +kernel
theorem d_Md_readTable_223 : decode cc_Md_readTable 223 = .ok (.iload 7, 2) := by decide +kernel
theorem d_Md_readTable_225 : decode cc_Md_readTable 225 = .ok (.iconst 4, 1) := by decide +kernel
theorem d_Md_readTable_226 : decode cc_Md_readTable 226 = .ok (.ishr, 1) := by decide +kernel
theorem d_Md_readTable_227 : decode cc_Md_readTable 227 = .ok (.goto (8), 3) := by decide +kernel
theorem d_Md_readTable_230 : decode cc_Md_readTable 230 = .ok (.iload 7, 2) := by decide +kernel
theorem d_Md_readTable_232 : decode cc_Md_readTable 232 = .ok (.bipush (15), 2) := by decide +kernel
theorem d_Md_readTable_234 : decode cc_Md_readTable 234 = .ok (.iand, 1) := by decide +kernel
theorem d_Md_readTable_235 : decode cc_Md_readTable 235 = .ok (.iastore, 1) := by decide +kernel
theorem d_Md_readTable_236 : decode cc_Md_readTable 236 = .ok (.iload 6, 2) := by decide +kernel
theorem d_Md_readTable_238 : decode cc_Md_readTable 238 = .ok (.aload_n 0, 1) := by decide +kernel
theorem d_Md_readTable_239 : decode cc_Md_readTable 239 = .ok (.getfield 47, 3) := by decide +kernel
theorem d_Md_readTable_242 : decode cc_Md_readTable 242 = .ok (.iload 8, 2) := by decide +kernel
theorem d_Md_readTable_244 : decode cc_Md_readTable 244 = .ok (.iaload, 1) := by decide +kernel
theorem d_Md_readTable_245 : decode cc_Md_readTable 245 = .ok (.iadd, 1) := by decide +kernel
theorem d_Md_readTable_246 : decode cc_Md_readTable 246 = .ok (.istore 6, 2) := by decide +kernel
theorem d_Md_readTable_248 : decode cc_Md_readTable 248 = .ok (.iinc 8 (1), 3) := by decide +kernel
theorem d_Md_readTable_251 : decode cc_Md_readTable 251 = .ok (.goto (-99), 3) := by decide +kernel
theorem d_Md_readTable_254 : decode cc_Md_readTable 254 = .ok (.aload_n 0, 1) := by decide +kernel
theorem d_Md_readTable_255 : decode cc_Md_readTable 255 = .ok (.aload_n 0, 1) := by decide +kernel
theorem d_Md_readTable_256 : decode cc_Md_readTable 256 = .ok (.getfield 102, 3) := by decide +kernel
theorem d_Md_readTable_259 : decode cc_Md_readTable 259 = .ok (.ifCond .ne (26), 3) := by decide +kernel
theorem d_Md_readTable_262 : decode cc_Md_readTable 262 = .ok (.iload 6, 2) := by decide +kernel
theorem d_Md_readTable_264 : decode cc_Md_readTable 264 = .ok (.bipush (16), 2) := by decide +kernel
theorem d_Md_readTable_266 : decode cc_Md_readTable 266 = .ok (.if_icmp .ne (19), 3) := by decide +kernel
theorem d_Md_readTable_269 : decode cc_Md_readTable 269 = .ok (.iload 5, 2) := by decide +kernel
theorem d_Md_readTable_271 : decode cc_Md_readTable 271 = .ok (.iconst 2, 1) := by decide +kernel
theorem d_Md_readTable_272 : decode cc_Md_readTable 272 = .ok (.irem, 1) := by decide +kernel
theorem d_Md_readTable_273 : decode cc_Md_readTable 273 = .ok (.iconst 1, 1) := by decide +kernel
theorem d_Md_readTable_274 : decode cc_Md_readTable 274 = .ok (.if_icmp .ne (15), 3) := by decide +kernel
theorem d_Md_readTable_277 : decode cc_Md_readTable 277 = .ok (.iload 7, 2) := by decide +kernel
theorem d_Md_readTable_279 : decode cc_Md_readTable 279 = .ok (.bipush (15), 2) := by decide +kernel
theorem d_Md_readTable_281 : decode cc_Md_readTable 281 = .ok (.iand, 1) := by decide +kernel
theorem d_Md_readTable_282 : decode cc_Md_readTable 282 = .ok (.ifCond .eq (7), 3) := by decide +kernel
theorem d_Md_readTable_285 : decode cc_Md_readTable 285 = .ok (.iconst 1, 1) := by decide +kernel
theorem d_Md_readTable_286 : decode cc_Md_readTable 286 = .ok (.goto (4), 3) := by decide +kernel
theorem d_Md_readTable_289 : decode cc_Md_readTable 289 = .ok (.iconst 0, 1) := by decide +kernel
theorem d_Md_readTable_290 : decode cc_Md_readTable 290 = .ok (.putfield 102, 3) := by decide +kernel
theorem d_Md_readTable_293 : decode cc_Md_readTable 293 = .ok (.aload_n 0, 1) := by decide +kernel
theorem d_Md_readTable_294 : decode cc_Md_readTable 294 = .ok (.getfield 102, 3) := by decide +kernel
theorem d_Md_readTable_297 : decode cc_Md_readTable 297 = .ok (.ifCond .ne (8), 3) := by decide +kernel
theorem d_Md_readTable_300 : decode cc_Md_readTable 300 = .ok (.aload_n 0, 1) := by decide +kernel
theorem d_Md_readTable_301 : decode cc_Md_readTable 301 = .ok (.iload_n 1, 1) := by decide +kernel
theorem d_Md_readTable_302 : decode cc_Md_readTable 302 = .ok (.invokevirtual 203, 3) := by decide +kernel
theorem d_Md_readTable_305 : decode cc_Md_readTable 305 = .ok (.goto (28), 3) := by decide +kernel
theorem d_Md_readTable_308 : decode cc_Md_readTable 308 = .ok (.aload_n 0, 1) := by decide +kernel
theorem d_Md_readTable_309 : decode cc_Md_readTable 309 = .ok (.aload_n 0, 1) := by decide +kernel
theorem d_Md_readTable_310 : decode cc_Md_readTable 310 = .ok (.getfield 102, 3) := by decide +kernel
theorem d_Md_readTable_313 : decode cc_Md_readTable 313 = .ok (.ifCond .ne (12), 3) := by decide +kernel
theorem d_Md_readTable_316 : decode cc_Md_readTable 316 = .ok (.aload_n 0, 1) := by decide +kernel
theorem d_Md_readTable_317 : decode cc_Md_readTable 317 = .ok (.getfield 31, 3) := by decide +kernel
theorem d_Md_readTable_320 : decode cc_Md_readTable 320 = .ok (.iload_n 1, 1) := by decide +kernel
theorem d_Md_readTable_321 : decode cc_Md_readTable 321 = .ok (.baload, 1) := by decide +kernel
theorem d_Md_readTable_322 : decode cc_Md_readTable 322 = .ok (.ifCond .ne (7), 3) := by decide +kernel
theorem d_Md_readTable_325 : decode cc_Md_readTable 325 = .ok (.iconst 1, 1) := by decide +kernel
theorem d_Md_readTable_326 : decode cc_Md_readTable 326 = .ok (.goto (4), 3) := by decide +kernel
theorem d_Md_readTable_329 : decode cc_Md_readTable 329 = .ok (.iconst 0, 1) := by decide +kernel
theorem d_Md_readTable_330 : decode cc_Md_readTable 330 = .ok (.putfield 102, 3) := by decide +kernel
theorem d_Md_readTable_333 : decode cc_Md_readTable 333 = .ok (.aload_n 0, 1) := by decide +kernel
theorem d_Md_readTable_334 : decode cc_Md_readTable 334 = .ok (.getfield 31, 3) := by decide +kernel
theorem d_Md_readTable_337 : decode cc_Md_readTable 337 = .ok (.iload_n 1, 1) := by decide +kernel
theorem d_Md_readTable_338 : decode cc_Md_readTable 338 = .ok (.iconst 1, 1) := by decide +kernel
theorem d_Md_readTable_339 : decode cc_Md_readTable 339 = .ok (.bastore, 1) := by decide +kernel
theorem d_Md_readTable_340 : decode cc_Md_readTable 340 = .ok (.return_, 1) := by decide +kernel
section
variable {p : Program} {l : Launch} {e : Env} {s : State} {m : MethodId} {args : Array Value} {below : List Frame} {meth : Method} {c : Code} {X : Xs} {L : La}
def b_Md_readTable_333 (L : La)  (i0 : Nat) (x1 : Int32) (F : Mem) : Option Mem :=
  if inb x1 (mLn L (mRf L i0 21)) ∨ ¬ ((1 : Int32) = 0 ∨ (1 : Int32) = 1) then none else
  lt' (u2 F (mRf L i0 21) x1.toNatClampNeg (1 : Int32)) fun F3 =>
  some F3
set_option maxHeartbeats 4000000 in
theorem t_Md_readTable_333 (hC : Cx X L p s m args meth c cc_Md_readTable 9 w_Md_readTable R_Md none)  {out : Mem}  {i0 : Nat} {x1 : Int32} {F : Mem} {H : Heap} {locs : List Loc} {ls : Array Slot} (o0 : oO L 12 i0) (hI : Iv X L s H locs F) (hl : lv_has ls 9 [(0, .ref (mAd X i0)), (1, .int x1)]) (h : b_Md_readTable_333 L  i0 x1 F = some out) : W p l e (headSpec w_Md_readTable r_Md_readTable).room s m args below meth c H locs 0 0 (MQ below (QV X L out) args s 0 0 (AA X L)) (F0 m 333 ls []) := by
  unfold b_Md_readTable_333 at h
  obtain ⟨S, hK, hT, hW, hr, hlk⟩ := id hC
  have hx := S.1
  have hb := S.2.1
  refine lv_aload_n hx hb d_Md_readTable_333 rfl (lv_at hl 0 rfl) ?_
  have p1 := wt_o hW o0 21 101 rfl (by decide) (by decide) (by decide)
  refine w_getR (T := T_Md) S hK hI o0 rfl hin_Md 21 (index := 31) (by decide) lf_Md_31 d_Md_readTable_334 ?_
  refine lv_iload_n hx hb d_Md_readTable_337 rfl (lv_at hl 1 rfl) ?_
  refine lv_iconst (v := 1) hx hb d_Md_readTable_338 rfl ?_
  obtain ⟨z2, h⟩ := un_if h
  refine w_zast S hK hI p1 z2 d_Md_readTable_339 (fun H locs F3 e4 hI => ?_)
  replace h := un_lt h _ e4
  exact w_vret S hK hr hlk hI d_Md_readTable_340 h
def b_Md_readTable_330 (L : La)  (i0 : Nat) (x1 : Int32) (j0 : Nat) (y1 : Int32) (F : Mem) : Option Mem :=
  if ¬ (y1 = 0 ∨ y1 = 1) then none else
  lt' (u2 F j0 5 y1) fun F1 =>
  b_Md_readTable_333 L  i0 x1 F1
set_option maxHeartbeats 4000000 in
theorem t_Md_readTable_330 (hC : Cx X L p s m args meth c cc_Md_readTable 9 w_Md_readTable R_Md none)  {out : Mem}  {i0 : Nat} {x1 : Int32} {j0 : Nat} {y1 : Int32} {F : Mem} {H : Heap} {locs : List Loc} {ls : Array Slot} (o0 : oO L 12 i0) (oy0 : oO L 12 j0) (hI : Iv X L s H locs F) (hl : lv_has ls 9 [(0, .ref (mAd X i0)), (1, .int x1)]) (h : b_Md_readTable_330 L  i0 x1 j0 y1 F = some out) : W p l e (headSpec w_Md_readTable r_Md_readTable).room s m args below meth c H locs 0 0 (MQ below (QV X L out) args s 0 0 (AA X L)) (F0 m 330 ls [.int y1, .ref (mAd X j0)]) := by
  unfold b_Md_readTable_330 at h
  obtain ⟨S, hK, hT, hW, hr, hlk⟩ := id hC
  have hx := S.1
  have hb := S.2.1
  obtain ⟨z3, h⟩ := un_if h
  refine w_putZ (T := T_Md) S hK hI oy0 rfl hin_Md ty_Md tk_Md nm_Md 5 (index := 102) (by decide) lf_Md_102 rfl z3 d_Md_readTable_330 (fun H locs F1 e2 hI => ?_)
  replace h := un_lt h _ e2
  exact t_Md_readTable_333 hC  o0 hI hl h
def b_Md_readTable_325 (L : La)  (i0 : Nat) (x1 : Int32) (j0 : Nat) (F : Mem) : Option Mem :=
  b_Md_readTable_330 L  i0 x1 j0 (1 : Int32) F
set_option maxHeartbeats 4000000 in
theorem t_Md_readTable_325 (hC : Cx X L p s m args meth c cc_Md_readTable 9 w_Md_readTable R_Md none)  {out : Mem}  {i0 : Nat} {x1 : Int32} {j0 : Nat} {F : Mem} {H : Heap} {locs : List Loc} {ls : Array Slot} (o0 : oO L 12 i0) (oy0 : oO L 12 j0) (hI : Iv X L s H locs F) (hl : lv_has ls 9 [(0, .ref (mAd X i0)), (1, .int x1)]) (h : b_Md_readTable_325 L  i0 x1 j0 F = some out) : W p l e (headSpec w_Md_readTable r_Md_readTable).room s m args below meth c H locs 0 0 (MQ below (QV X L out) args s 0 0 (AA X L)) (F0 m 325 ls [.ref (mAd X j0)]) := by
  unfold b_Md_readTable_325 at h
  obtain ⟨S, hK, hT, hW, hr, hlk⟩ := id hC
  have hx := S.1
  have hb := S.2.1
  refine lv_iconst (v := 1) hx hb d_Md_readTable_325 rfl ?_
  refine lv_goto (tgt := 330) hx hb d_Md_readTable_326 rfl ?_
  exact t_Md_readTable_330 hC  o0 oy0 hI hl h
def b_Md_readTable_305 (L : La)  (i0 : Nat) (x1 : Int32) (F : Mem) : Option Mem :=
  b_Md_readTable_333 L  i0 x1 F
set_option maxHeartbeats 4000000 in
theorem t_Md_readTable_305 (hC : Cx X L p s m args meth c cc_Md_readTable 9 w_Md_readTable R_Md none)  {out : Mem}  {i0 : Nat} {x1 : Int32} {F : Mem} {H : Heap} {locs : List Loc} {ls : Array Slot} (o0 : oO L 12 i0) (hI : Iv X L s H locs F) (hl : lv_has ls 9 [(0, .ref (mAd X i0)), (1, .int x1)]) (h : b_Md_readTable_305 L  i0 x1 F = some out) : W p l e (headSpec w_Md_readTable r_Md_readTable).room s m args below meth c H locs 0 0 (MQ below (QV X L out) args s 0 0 (AA X L)) (F0 m 305 ls []) := by
  unfold b_Md_readTable_305 at h
  obtain ⟨S, hK, hT, hW, hr, hlk⟩ := id hC
  have hx := S.1
  have hb := S.2.1
  refine lv_goto (tgt := 333) hx hb d_Md_readTable_305 rfl ?_
  exact t_Md_readTable_333 hC  o0 hI hl h
def b_Md_readTable_290 (L : La)  (i0 : Nat) (x1 : Int32) (j0 : Nat) (y1 : Int32) (F : Mem) : Option Mem :=
  if ¬ (y1 = 0 ∨ y1 = 1) then none else
  lt' (u2 F j0 5 y1) fun F1 =>
  if (F1 i0 5) = 0 then
    (f_Md_spread L i0 x1 F1).bind fun F4 =>
    b_Md_readTable_305 L  i0 x1 F4
  else
    b_Md_readTable_305 L  i0 x1 F1
set_option maxHeartbeats 4000000 in
theorem t_Md_readTable_290 (hC : Cx X L p s m args meth c cc_Md_readTable 9 w_Md_readTable R_Md none)  {out : Mem}  {i0 : Nat} {x1 : Int32} {j0 : Nat} {y1 : Int32} {F : Mem} {H : Heap} {locs : List Loc} {ls : Array Slot} (o0 : oO L 12 i0) (oy0 : oO L 12 j0) (hI : Iv X L s H locs F) (hl : lv_has ls 9 [(0, .ref (mAd X i0)), (1, .int x1)]) (h : b_Md_readTable_290 L  i0 x1 j0 y1 F = some out) : W p l e (headSpec w_Md_readTable r_Md_readTable).room s m args below meth c H locs 0 0 (MQ below (QV X L out) args s 0 0 (AA X L)) (F0 m 290 ls [.int y1, .ref (mAd X j0)]) := by
  unfold b_Md_readTable_290 at h
  obtain ⟨S, hK, hT, hW, hr, hlk⟩ := id hC
  have hx := S.1
  have hb := S.2.1
  obtain ⟨z3, h⟩ := un_if h
  refine w_putZ (T := T_Md) S hK hI oy0 rfl hin_Md ty_Md tk_Md nm_Md 5 (index := 102) (by decide) lf_Md_102 rfl z3 d_Md_readTable_290 (fun H locs F1 e2 hI => ?_)
  replace h := un_lt h _ e2
  refine lv_aload_n hx hb d_Md_readTable_293 rfl (lv_at hl 0 rfl) ?_
  refine w_getI (T := T_Md) S hK hI o0 rfl hin_Md 5 (index := 102) (by decide) lf_Md_102 d_Md_readTable_294 ?_
  refine lv_if_ne (tgt := 305) hx hb d_Md_readTable_297 rfl (fun hc => ?_) (fun hc => ?_)
  · replace h := (if_neg hc).symm.trans h
    exact t_Md_readTable_305 hC  o0 hI hl h
  · replace h := (if_pos hc).symm.trans h
    refine lv_aload_n hx hb d_Md_readTable_300 rfl (lv_at hl 0 rfl) ?_
    refine lv_iload_n hx hb d_Md_readTable_301 rfl (lv_at hl 1 rfl) ?_
    obtain ⟨F4, e5, h⟩ := un_bi h
    refine w_callVv (As := [.int x1]) (rest := []) S hK hI hT (c_Md_spread l hW o0 e5) (cwV 1 S.2.2.2.2 (gd_V lc_Md_spread lm_Md_203 li_Md_spread ls_Md_spread ln_Md) rfl rfl rfl hd_Md_spread ⟨Nat.le_of_ble_eq_true rfl, Nat.le_of_ble_eq_true rfl⟩) o0 rfl (by decide) rfl rfl hl.1 (Nat.le_of_ble_eq_true rfl) d_Md_readTable_302 ⟨Nat.zero_le _, Nat.zero_le _⟩ (fun H locs hI => ?_)
    exact t_Md_readTable_305 hC  o0 hI hl h
def b_Md_readTable_285 (L : La)  (i0 : Nat) (x1 : Int32) (j0 : Nat) (F : Mem) : Option Mem :=
  b_Md_readTable_290 L  i0 x1 j0 (1 : Int32) F
set_option maxHeartbeats 4000000 in
theorem t_Md_readTable_285 (hC : Cx X L p s m args meth c cc_Md_readTable 9 w_Md_readTable R_Md none)  {out : Mem}  {i0 : Nat} {x1 : Int32} {j0 : Nat} {F : Mem} {H : Heap} {locs : List Loc} {ls : Array Slot} (o0 : oO L 12 i0) (oy0 : oO L 12 j0) (hI : Iv X L s H locs F) (hl : lv_has ls 9 [(0, .ref (mAd X i0)), (1, .int x1)]) (h : b_Md_readTable_285 L  i0 x1 j0 F = some out) : W p l e (headSpec w_Md_readTable r_Md_readTable).room s m args below meth c H locs 0 0 (MQ below (QV X L out) args s 0 0 (AA X L)) (F0 m 285 ls [.ref (mAd X j0)]) := by
  unfold b_Md_readTable_285 at h
  obtain ⟨S, hK, hT, hW, hr, hlk⟩ := id hC
  have hx := S.1
  have hb := S.2.1
  refine lv_iconst (v := 1) hx hb d_Md_readTable_285 rfl ?_
  refine lv_goto (tgt := 290) hx hb d_Md_readTable_286 rfl ?_
  exact t_Md_readTable_290 hC  o0 oy0 hI hl h
def b_Md_readTable_289 (L : La)  (i0 : Nat) (x1 : Int32) (j0 : Nat) (F : Mem) : Option Mem :=
  b_Md_readTable_290 L  i0 x1 j0 (0 : Int32) F
set_option maxHeartbeats 4000000 in
theorem t_Md_readTable_289 (hC : Cx X L p s m args meth c cc_Md_readTable 9 w_Md_readTable R_Md none)  {out : Mem}  {i0 : Nat} {x1 : Int32} {j0 : Nat} {F : Mem} {H : Heap} {locs : List Loc} {ls : Array Slot} (o0 : oO L 12 i0) (oy0 : oO L 12 j0) (hI : Iv X L s H locs F) (hl : lv_has ls 9 [(0, .ref (mAd X i0)), (1, .int x1)]) (h : b_Md_readTable_289 L  i0 x1 j0 F = some out) : W p l e (headSpec w_Md_readTable r_Md_readTable).room s m args below meth c H locs 0 0 (MQ below (QV X L out) args s 0 0 (AA X L)) (F0 m 289 ls [.ref (mAd X j0)]) := by
  unfold b_Md_readTable_289 at h
  obtain ⟨S, hK, hT, hW, hr, hlk⟩ := id hC
  have hx := S.1
  have hb := S.2.1
  refine lv_iconst (v := 0) hx hb d_Md_readTable_289 rfl ?_
  exact t_Md_readTable_290 hC  o0 oy0 hI hl h
def b_Md_readTable_235 (L : La) (k152 : Nat → Int32 → Int32 → Int32 → Int32 → Int32 → Int32 → Mem → Option Mem) (i0 : Nat) (x1 : Int32) (x3 : Int32) (x5 : Int32) (x6 : Int32) (x7 : Int32) (x8 : Int32) (j0 : Nat) (y1 : Int32) (y2 : Int32) (F : Mem) : Option Mem :=
  if inb y1 (mLn L j0) ∨ ¬ j0 < mNc L then none else
  lt' (u2 F j0 y1.toNatClampNeg y2) fun F2 =>
  if inb x8 (mGl L (mRf L i0 26)) then none else
  k152 i0 x1 x3 x5 (x6 + (mGa L F2 (mRf L i0 26) x8.toNatClampNeg)) x7 (x8 + (1 : Int32)) F2
set_option maxHeartbeats 4000000 in
theorem t_Md_readTable_235 (hC : Cx X L p s m args meth c cc_Md_readTable 9 w_Md_readTable R_Md none) {k152 : Nat → Int32 → Int32 → Int32 → Int32 → Int32 → Int32 → Mem → Option Mem} {out : Mem} (hk152 : ∀ (i0 : Nat) (x1 : Int32) (x3 : Int32) (x5 : Int32) (x6 : Int32) (x7 : Int32) (x8 : Int32) (F : Mem) (H : Heap) (locs : List Loc) (ls : Array Slot), oO L 12 i0 → Iv X L s H locs F → lv_has ls 9 [(0, .ref (mAd X i0)), (1, .int x1), (3, .int x3), (5, .int x5), (6, .int x6), (7, .int x7), (8, .int x8)] → k152 i0 x1 x3 x5 x6 x7 x8 F = some out → W p l e (headSpec w_Md_readTable r_Md_readTable).room s m args below meth c H locs 0 0 (MQ below (QV X L out) args s 0 0 (AA X L)) (F0 m 152 ls [])) {i0 : Nat} {x1 : Int32} {x3 : Int32} {x5 : Int32} {x6 : Int32} {x7 : Int32} {x8 : Int32} {j0 : Nat} {y1 : Int32} {y2 : Int32} {F : Mem} {H : Heap} {locs : List Loc} {ls : Array Slot} (o0 : oO L 12 i0) (oy0 : oA L j0) (hI : Iv X L s H locs F) (hl : lv_has ls 9 [(0, .ref (mAd X i0)), (1, .int x1), (3, .int x3), (5, .int x5), (6, .int x6), (7, .int x7), (8, .int x8)]) (h : b_Md_readTable_235 L k152 i0 x1 x3 x5 x6 x7 x8 j0 y1 y2 F = some out) : W p l e (headSpec w_Md_readTable r_Md_readTable).room s m args below meth c H locs 0 0 (MQ below (QV X L out) args s 0 0 (AA X L)) (F0 m 235 ls [.int y2, .int y1, .ref (mAd X j0)]) := by
  unfold b_Md_readTable_235 at h
  obtain ⟨S, hK, hT, hW, hr, hlk⟩ := id hC
  have hx := S.1
  have hb := S.2.1
  obtain ⟨z1, h⟩ := un_if h
  refine w_iast S hK hI oy0 z1 d_Md_readTable_235 (fun H locs F2 e3 hI => ?_)
  replace h := un_lt h _ e3
  refine lv_iload hx hb d_Md_readTable_236 (lv_at hl 4 rfl) ?_
  refine lv_aload_n hx hb d_Md_readTable_238 rfl (lv_at hl 0 rfl) ?_
  have p4 := wt_a hW o0 26 rfl (by decide) (by decide)
  refine w_getR (T := T_Md) S hK hI o0 rfl hin_Md 26 (index := 47) (by decide) lf_Md_47 d_Md_readTable_239 ?_
  refine lv_iload hx hb d_Md_readTable_242 (lv_at hl 6 rfl) ?_
  obtain ⟨z5, h⟩ := un_if h
  refine w_iald S hK hI hT p4 z5 d_Md_readTable_244 ?_
  refine lv_iadd hx hb d_Md_readTable_245 ?_
  refine lv_istore (lv' := [(6, .int (x6 + (mGa L F2 (mRf L i0 26) x8.toNatClampNeg))), (0, .ref (mAd X i0)), (1, .int x1), (3, .int x3), (5, .int x5), (7, .int x7), (8, .int x8)]) hx hb d_Md_readTable_246 hl (by decide) rfl (fun ls hl => ?_)
  refine lv_iinc (k := 6) (v := x8 + (1 : Int32)) (lv' := [(8, .int (x8 + (1 : Int32))), (6, .int (x6 + (mGa L F2 (mRf L i0 26) x8.toNatClampNeg))), (0, .ref (mAd X i0)), (1, .int x1), (3, .int x3), (5, .int x5), (7, .int x7)]) hx hb d_Md_readTable_248 hl rfl rfl (by decide) rfl (fun ls hl => ?_)
  refine lv_goto (tgt := 152) hx hb d_Md_readTable_251 rfl ?_
  exact hk152 _ _ _ _ _ _ _ _ _ _ _ o0 hI (lv_sub hl [2, 3, 4, 5, 1, 6, 0] rfl) h
def b_Md_readTable_212 (L : La) (k152 : Nat → Int32 → Int32 → Int32 → Int32 → Int32 → Int32 → Mem → Option Mem) (i0 : Nat) (x1 : Int32) (x3 : Int32) (x5 : Int32) (x6 : Int32) (x7 : Int32) (x8 : Int32) (j0 : Nat) (y1 : Int32) (F : Mem) : Option Mem :=
  b_Md_readTable_235 L k152 i0 x1 x3 x5 x6 x7 x8 j0 y1 (0 : Int32) F
set_option maxHeartbeats 4000000 in
theorem t_Md_readTable_212 (hC : Cx X L p s m args meth c cc_Md_readTable 9 w_Md_readTable R_Md none) {k152 : Nat → Int32 → Int32 → Int32 → Int32 → Int32 → Int32 → Mem → Option Mem} {out : Mem} (hk152 : ∀ (i0 : Nat) (x1 : Int32) (x3 : Int32) (x5 : Int32) (x6 : Int32) (x7 : Int32) (x8 : Int32) (F : Mem) (H : Heap) (locs : List Loc) (ls : Array Slot), oO L 12 i0 → Iv X L s H locs F → lv_has ls 9 [(0, .ref (mAd X i0)), (1, .int x1), (3, .int x3), (5, .int x5), (6, .int x6), (7, .int x7), (8, .int x8)] → k152 i0 x1 x3 x5 x6 x7 x8 F = some out → W p l e (headSpec w_Md_readTable r_Md_readTable).room s m args below meth c H locs 0 0 (MQ below (QV X L out) args s 0 0 (AA X L)) (F0 m 152 ls [])) {i0 : Nat} {x1 : Int32} {x3 : Int32} {x5 : Int32} {x6 : Int32} {x7 : Int32} {x8 : Int32} {j0 : Nat} {y1 : Int32} {F : Mem} {H : Heap} {locs : List Loc} {ls : Array Slot} (o0 : oO L 12 i0) (oy0 : oA L j0) (hI : Iv X L s H locs F) (hl : lv_has ls 9 [(0, .ref (mAd X i0)), (1, .int x1), (3, .int x3), (5, .int x5), (6, .int x6), (7, .int x7), (8, .int x8)]) (h : b_Md_readTable_212 L k152 i0 x1 x3 x5 x6 x7 x8 j0 y1 F = some out) : W p l e (headSpec w_Md_readTable r_Md_readTable).room s m args below meth c H locs 0 0 (MQ below (QV X L out) args s 0 0 (AA X L)) (F0 m 212 ls [.int y1, .ref (mAd X j0)]) := by
  unfold b_Md_readTable_212 at h
  obtain ⟨S, hK, hT, hW, hr, hlk⟩ := id hC
  have hx := S.1
  have hb := S.2.1
  refine lv_iconst (v := 0) hx hb d_Md_readTable_212 rfl ?_
  refine lv_goto (tgt := 235) hx hb d_Md_readTable_213 rfl ?_
  exact t_Md_readTable_235 hC hk152 o0 oy0 hI hl h
def b_Md_readTable_190 (L : La) (k152 : Nat → Int32 → Int32 → Int32 → Int32 → Int32 → Int32 → Mem → Option Mem) (i0 : Nat) (x1 : Int32) (x3 : Int32) (x5 : Int32) (x6 : Int32) (x8 : Int32) (y0 : Int32) (F : Mem) : Option Mem :=
  if x5 ≤ x8 then
    b_Md_readTable_212 L k152 i0 x1 x3 x5 x6 y0 x8 (mRf L i0 26) x8 F
  else
    if (F i0 5) = 0 then
      if (jrem x8 (2 : Int32)) = 0 then
        b_Md_readTable_235 L k152 i0 x1 x3 x5 x6 y0 x8 (mRf L i0 26) x8 (jshr y0 (4 : Int32)) F
      else
        b_Md_readTable_235 L k152 i0 x1 x3 x5 x6 y0 x8 (mRf L i0 26) x8 (y0 &&& (15 : Int32)) F
    else
      b_Md_readTable_212 L k152 i0 x1 x3 x5 x6 y0 x8 (mRf L i0 26) x8 F
set_option maxHeartbeats 4000000 in
theorem t_Md_readTable_190 (hC : Cx X L p s m args meth c cc_Md_readTable 9 w_Md_readTable R_Md none) {k152 : Nat → Int32 → Int32 → Int32 → Int32 → Int32 → Int32 → Mem → Option Mem} {out : Mem} (hk152 : ∀ (i0 : Nat) (x1 : Int32) (x3 : Int32) (x5 : Int32) (x6 : Int32) (x7 : Int32) (x8 : Int32) (F : Mem) (H : Heap) (locs : List Loc) (ls : Array Slot), oO L 12 i0 → Iv X L s H locs F → lv_has ls 9 [(0, .ref (mAd X i0)), (1, .int x1), (3, .int x3), (5, .int x5), (6, .int x6), (7, .int x7), (8, .int x8)] → k152 i0 x1 x3 x5 x6 x7 x8 F = some out → W p l e (headSpec w_Md_readTable r_Md_readTable).room s m args below meth c H locs 0 0 (MQ below (QV X L out) args s 0 0 (AA X L)) (F0 m 152 ls [])) {i0 : Nat} {x1 : Int32} {x3 : Int32} {x5 : Int32} {x6 : Int32} {x8 : Int32} {y0 : Int32} {F : Mem} {H : Heap} {locs : List Loc} {ls : Array Slot} (o0 : oO L 12 i0) (hI : Iv X L s H locs F) (hl : lv_has ls 9 [(0, .ref (mAd X i0)), (1, .int x1), (3, .int x3), (5, .int x5), (6, .int x6), (8, .int x8)]) (h : b_Md_readTable_190 L k152 i0 x1 x3 x5 x6 x8 y0 F = some out) : W p l e (headSpec w_Md_readTable r_Md_readTable).room s m args below meth c H locs 0 0 (MQ below (QV X L out) args s 0 0 (AA X L)) (F0 m 190 ls [.int y0]) := by
  unfold b_Md_readTable_190 at h
  obtain ⟨S, hK, hT, hW, hr, hlk⟩ := id hC
  have hx := S.1
  have hb := S.2.1
  refine lv_istore (lv' := [(7, .int y0), (0, .ref (mAd X i0)), (1, .int x1), (3, .int x3), (5, .int x5), (6, .int x6), (8, .int x8)]) hx hb d_Md_readTable_190 hl (by decide) rfl (fun ls hl => ?_)
  refine lv_aload_n hx hb d_Md_readTable_192 rfl (lv_at hl 1 rfl) ?_
  have p1 := wt_a hW o0 26 rfl (by decide) (by decide)
  refine w_getR (T := T_Md) S hK hI o0 rfl hin_Md 26 (index := 47) (by decide) lf_Md_47 d_Md_readTable_193 ?_
  refine lv_iload hx hb d_Md_readTable_196 (lv_at hl 6 rfl) ?_
  refine lv_iload hx hb d_Md_readTable_198 (lv_at hl 6 rfl) ?_
  refine lv_iload hx hb d_Md_readTable_200 (lv_at hl 4 rfl) ?_
  refine lv_icmp_ge (tgt := 212) hx hb d_Md_readTable_202 rfl (fun hc => ?_) (fun hc => ?_)
  · replace h := (if_pos hc).symm.trans h
    exact t_Md_readTable_212 hC hk152 o0 p1 hI (lv_sub hl [1, 2, 3, 4, 5, 0, 6] rfl) h
  · replace h := (if_neg hc).symm.trans h
    refine lv_aload_n hx hb d_Md_readTable_205 rfl (lv_at hl 1 rfl) ?_
    refine w_getI (T := T_Md) S hK hI o0 rfl hin_Md 5 (index := 102) (by decide) lf_Md_102 d_Md_readTable_206 ?_
    refine lv_if_eq (tgt := 216) hx hb d_Md_readTable_209 rfl (fun hc => ?_) (fun hc => ?_)
    · replace h := (if_pos hc).symm.trans h
      refine lv_iload hx hb d_Md_readTable_216 (lv_at hl 6 rfl) ?_
      refine lv_iconst (v := 2) hx hb d_Md_readTable_218 rfl ?_
      refine lv_irem hx hb d_Md_readTable_219 (by decide) ?_
      refine lv_if_ne (tgt := 230) hx hb d_Md_readTable_220 rfl (fun hc => ?_) (fun hc => ?_)
      · replace h := (if_neg hc).symm.trans h
        refine lv_iload hx hb d_Md_readTable_230 (lv_at hl 0 rfl) ?_
        refine lv_bipush (v := 15) hx hb d_Md_readTable_232 (by decide) ?_
        refine lv_iand hx hb d_Md_readTable_234 ?_
        exact t_Md_readTable_235 hC hk152 o0 p1 hI (lv_sub hl [1, 2, 3, 4, 5, 0, 6] rfl) h
      · replace h := (if_pos hc).symm.trans h
        refine lv_iload hx hb d_Md_readTable_223 (lv_at hl 0 rfl) ?_
        refine lv_iconst (v := 4) hx hb d_Md_readTable_225 rfl ?_
        refine lv_ishr hx hb d_Md_readTable_226 ?_
        refine lv_goto (tgt := 235) hx hb d_Md_readTable_227 rfl ?_
        exact t_Md_readTable_235 hC hk152 o0 p1 hI (lv_sub hl [1, 2, 3, 4, 5, 0, 6] rfl) h
    · replace h := (if_neg hc).symm.trans h
      exact t_Md_readTable_212 hC hk152 o0 p1 hI (lv_sub hl [1, 2, 3, 4, 5, 0, 6] rfl) h
def b_Md_readTable_188 (L : La) (k152 : Nat → Int32 → Int32 → Int32 → Int32 → Int32 → Int32 → Mem → Option Mem) (i0 : Nat) (x1 : Int32) (x3 : Int32) (x5 : Int32) (x6 : Int32) (x7 : Int32) (x8 : Int32) (F : Mem) : Option Mem :=
  b_Md_readTable_190 L k152 i0 x1 x3 x5 x6 x8 x7 F
set_option maxHeartbeats 4000000 in
theorem t_Md_readTable_188 (hC : Cx X L p s m args meth c cc_Md_readTable 9 w_Md_readTable R_Md none) {k152 : Nat → Int32 → Int32 → Int32 → Int32 → Int32 → Int32 → Mem → Option Mem} {out : Mem} (hk152 : ∀ (i0 : Nat) (x1 : Int32) (x3 : Int32) (x5 : Int32) (x6 : Int32) (x7 : Int32) (x8 : Int32) (F : Mem) (H : Heap) (locs : List Loc) (ls : Array Slot), oO L 12 i0 → Iv X L s H locs F → lv_has ls 9 [(0, .ref (mAd X i0)), (1, .int x1), (3, .int x3), (5, .int x5), (6, .int x6), (7, .int x7), (8, .int x8)] → k152 i0 x1 x3 x5 x6 x7 x8 F = some out → W p l e (headSpec w_Md_readTable r_Md_readTable).room s m args below meth c H locs 0 0 (MQ below (QV X L out) args s 0 0 (AA X L)) (F0 m 152 ls [])) {i0 : Nat} {x1 : Int32} {x3 : Int32} {x5 : Int32} {x6 : Int32} {x7 : Int32} {x8 : Int32} {F : Mem} {H : Heap} {locs : List Loc} {ls : Array Slot} (o0 : oO L 12 i0) (hI : Iv X L s H locs F) (hl : lv_has ls 9 [(0, .ref (mAd X i0)), (1, .int x1), (3, .int x3), (5, .int x5), (6, .int x6), (7, .int x7), (8, .int x8)]) (h : b_Md_readTable_188 L k152 i0 x1 x3 x5 x6 x7 x8 F = some out) : W p l e (headSpec w_Md_readTable r_Md_readTable).room s m args below meth c H locs 0 0 (MQ below (QV X L out) args s 0 0 (AA X L)) (F0 m 188 ls []) := by
  unfold b_Md_readTable_188 at h
  obtain ⟨S, hK, hT, hW, hr, hlk⟩ := id hC
  have hx := S.1
  have hb := S.2.1
  refine lv_iload hx hb d_Md_readTable_188 (lv_at hl 5 rfl) ?_
  exact t_Md_readTable_190 hC hk152 o0 hI (lv_sub hl [0, 1, 2, 3, 4, 6] rfl) h
def b_Md_readTable_152 (L : La) (k152 : Nat → Int32 → Int32 → Int32 → Int32 → Int32 → Int32 → Mem → Option Mem) (i0 : Nat) (x1 : Int32) (x3 : Int32) (x5 : Int32) (x6 : Int32) (x7 : Int32) (x8 : Int32) (F : Mem) : Option Mem :=
  if (12 : Int32) ≤ x8 then
    if (F i0 5) = 0 then
      if x6 = (16 : Int32) then
        if (jrem x5 (2 : Int32)) = (1 : Int32) then
          if (x7 &&& (15 : Int32)) = 0 then
            b_Md_readTable_289 L  i0 x1 i0 F
          else
            b_Md_readTable_285 L  i0 x1 i0 F
        else
          b_Md_readTable_289 L  i0 x1 i0 F
      else
        b_Md_readTable_285 L  i0 x1 i0 F
    else
      b_Md_readTable_285 L  i0 x1 i0 F
  else
    if x5 ≤ x8 then
      b_Md_readTable_188 L k152 i0 x1 x3 x5 x6 x7 x8 F
    else
      if (jrem x8 (2 : Int32)) = 0 then
        if (F i0 5) = 0 then
          (f_Md_next L i0 x3 F).bind fun q1 =>
          b_Md_readTable_190 L k152 i0 x1 x3 x5 x6 x8 q1.1 q1.2
        else
          b_Md_readTable_188 L k152 i0 x1 x3 x5 x6 x7 x8 F
      else
        b_Md_readTable_188 L k152 i0 x1 x3 x5 x6 x7 x8 F
set_option maxHeartbeats 4000000 in
theorem t_Md_readTable_152 (hC : Cx X L p s m args meth c cc_Md_readTable 9 w_Md_readTable R_Md none) {k152 : Nat → Int32 → Int32 → Int32 → Int32 → Int32 → Int32 → Mem → Option Mem} {out : Mem} (hk152 : ∀ (i0 : Nat) (x1 : Int32) (x3 : Int32) (x5 : Int32) (x6 : Int32) (x7 : Int32) (x8 : Int32) (F : Mem) (H : Heap) (locs : List Loc) (ls : Array Slot), oO L 12 i0 → Iv X L s H locs F → lv_has ls 9 [(0, .ref (mAd X i0)), (1, .int x1), (3, .int x3), (5, .int x5), (6, .int x6), (7, .int x7), (8, .int x8)] → k152 i0 x1 x3 x5 x6 x7 x8 F = some out → W p l e (headSpec w_Md_readTable r_Md_readTable).room s m args below meth c H locs 0 0 (MQ below (QV X L out) args s 0 0 (AA X L)) (F0 m 152 ls [])) {i0 : Nat} {x1 : Int32} {x3 : Int32} {x5 : Int32} {x6 : Int32} {x7 : Int32} {x8 : Int32} {F : Mem} {H : Heap} {locs : List Loc} {ls : Array Slot} (o0 : oO L 12 i0) (hI : Iv X L s H locs F) (hl : lv_has ls 9 [(0, .ref (mAd X i0)), (1, .int x1), (3, .int x3), (5, .int x5), (6, .int x6), (7, .int x7), (8, .int x8)]) (h : b_Md_readTable_152 L k152 i0 x1 x3 x5 x6 x7 x8 F = some out) : W p l e (headSpec w_Md_readTable r_Md_readTable).room s m args below meth c H locs 0 0 (MQ below (QV X L out) args s 0 0 (AA X L)) (F0 m 152 ls []) := by
  unfold b_Md_readTable_152 at h
  obtain ⟨S, hK, hT, hW, hr, hlk⟩ := id hC
  have hx := S.1
  have hb := S.2.1
  refine lv_iload hx hb d_Md_readTable_152 (lv_at hl 6 rfl) ?_
  refine lv_bipush (v := 12) hx hb d_Md_readTable_154 (by decide) ?_
  refine lv_icmp_ge (tgt := 254) hx hb d_Md_readTable_156 rfl (fun hc => ?_) (fun hc => ?_)
  · replace h := (if_pos hc).symm.trans h
    refine lv_aload_n hx hb d_Md_readTable_254 rfl (lv_at hl 0 rfl) ?_
    refine lv_aload_n hx hb d_Md_readTable_255 rfl (lv_at hl 0 rfl) ?_
    refine w_getI (T := T_Md) S hK hI o0 rfl hin_Md 5 (index := 102) (by decide) lf_Md_102 d_Md_readTable_256 ?_
    refine lv_if_ne (tgt := 285) hx hb d_Md_readTable_259 rfl (fun hc => ?_) (fun hc => ?_)
    · replace h := (if_neg hc).symm.trans h
      exact t_Md_readTable_285 hC  o0 o0 hI (lv_sub hl [0, 1] rfl) h
    · replace h := (if_pos hc).symm.trans h
      refine lv_iload hx hb d_Md_readTable_262 (lv_at hl 4 rfl) ?_
      refine lv_bipush (v := 16) hx hb d_Md_readTable_264 (by decide) ?_
      refine lv_icmp_ne (tgt := 285) hx hb d_Md_readTable_266 rfl (fun hc => ?_) (fun hc => ?_)
      · replace h := (if_neg hc).symm.trans h
        exact t_Md_readTable_285 hC  o0 o0 hI (lv_sub hl [0, 1] rfl) h
      · replace h := (if_pos hc).symm.trans h
        refine lv_iload hx hb d_Md_readTable_269 (lv_at hl 3 rfl) ?_
        refine lv_iconst (v := 2) hx hb d_Md_readTable_271 rfl ?_
        refine lv_irem hx hb d_Md_readTable_272 (by decide) ?_
        refine lv_iconst (v := 1) hx hb d_Md_readTable_273 rfl ?_
        refine lv_icmp_ne (tgt := 289) hx hb d_Md_readTable_274 rfl (fun hc => ?_) (fun hc => ?_)
        · replace h := (if_neg hc).symm.trans h
          exact t_Md_readTable_289 hC  o0 o0 hI (lv_sub hl [0, 1] rfl) h
        · replace h := (if_pos hc).symm.trans h
          refine lv_iload hx hb d_Md_readTable_277 (lv_at hl 5 rfl) ?_
          refine lv_bipush (v := 15) hx hb d_Md_readTable_279 (by decide) ?_
          refine lv_iand hx hb d_Md_readTable_281 ?_
          refine lv_if_eq (tgt := 289) hx hb d_Md_readTable_282 rfl (fun hc => ?_) (fun hc => ?_)
          · replace h := (if_pos hc).symm.trans h
            exact t_Md_readTable_289 hC  o0 o0 hI (lv_sub hl [0, 1] rfl) h
          · replace h := (if_neg hc).symm.trans h
            exact t_Md_readTable_285 hC  o0 o0 hI (lv_sub hl [0, 1] rfl) h
  · replace h := (if_neg hc).symm.trans h
    refine lv_iload hx hb d_Md_readTable_159 (lv_at hl 6 rfl) ?_
    refine lv_iload hx hb d_Md_readTable_161 (lv_at hl 3 rfl) ?_
    refine lv_icmp_ge (tgt := 188) hx hb d_Md_readTable_163 rfl (fun hc => ?_) (fun hc => ?_)
    · replace h := (if_pos hc).symm.trans h
      exact t_Md_readTable_188 hC hk152 o0 hI hl h
    · replace h := (if_neg hc).symm.trans h
      refine lv_iload hx hb d_Md_readTable_166 (lv_at hl 6 rfl) ?_
      refine lv_iconst (v := 2) hx hb d_Md_readTable_168 rfl ?_
      refine lv_irem hx hb d_Md_readTable_169 (by decide) ?_
      refine lv_if_ne (tgt := 188) hx hb d_Md_readTable_170 rfl (fun hc => ?_) (fun hc => ?_)
      · replace h := (if_neg hc).symm.trans h
        exact t_Md_readTable_188 hC hk152 o0 hI hl h
      · replace h := (if_pos hc).symm.trans h
        refine lv_aload_n hx hb d_Md_readTable_173 rfl (lv_at hl 0 rfl) ?_
        refine w_getI (T := T_Md) S hK hI o0 rfl hin_Md 5 (index := 102) (by decide) lf_Md_102 d_Md_readTable_174 ?_
        refine lv_if_ne (tgt := 188) hx hb d_Md_readTable_177 rfl (fun hc => ?_) (fun hc => ?_)
        · replace h := (if_neg hc).symm.trans h
          exact t_Md_readTable_188 hC hk152 o0 hI hl h
        · replace h := (if_pos hc).symm.trans h
          refine lv_aload_n hx hb d_Md_readTable_180 rfl (lv_at hl 0 rfl) ?_
          refine lv_iload_n hx hb d_Md_readTable_181 rfl (lv_at hl 2 rfl) ?_
          obtain ⟨q1, e2, h⟩ := un_bi h
          refine w_callVi (As := [.int x3]) (rest := []) S hK hI hT (c_Md_next l hW o0 e2) (cwV 1 S.2.2.2.2 (gd_V lc_Md_next lm_Md_125 li_Md_next ls_Md_next ln_Md) rfl rfl rfl hd_Md_next ⟨Nat.le_of_ble_eq_true rfl, Nat.le_of_ble_eq_true rfl⟩) o0 rfl (by decide) rfl rfl hl.1 (Nat.le_of_ble_eq_true rfl) d_Md_readTable_182 ⟨Nat.zero_le _, Nat.zero_le _⟩ (fun H locs hI => ?_)
          refine lv_goto (tgt := 190) hx hb d_Md_readTable_185 rfl ?_
          exact t_Md_readTable_190 hC hk152 o0 hI (lv_sub hl [0, 1, 2, 3, 4, 6] rfl) h
def f_Md_readTable_152 (L : La)  : Nat → Nat → Int32 → Int32 → Int32 → Int32 → Int32 → Int32 → Mem → Option Mem
  | 0 => fun _ _ _ _ _ _ _ _ => none
  | n + 1 => b_Md_readTable_152 L (f_Md_readTable_152 L  n)
theorem tf_Md_readTable_152 (hC : Cx X L p s m args meth c cc_Md_readTable 9 w_Md_readTable R_Md none)  {out : Mem}  (n : Nat) : ∀ (i0 : Nat) (x1 : Int32) (x3 : Int32) (x5 : Int32) (x6 : Int32) (x7 : Int32) (x8 : Int32) (F : Mem) (H : Heap) (locs : List Loc) (ls : Array Slot), oO L 12 i0 → Iv X L s H locs F → lv_has ls 9 [(0, .ref (mAd X i0)), (1, .int x1), (3, .int x3), (5, .int x5), (6, .int x6), (7, .int x7), (8, .int x8)] → f_Md_readTable_152 L  n i0 x1 x3 x5 x6 x7 x8 F = some out → W p l e (headSpec w_Md_readTable r_Md_readTable).room s m args below meth c H locs 0 0 (MQ below (QV X L out) args s 0 0 (AA X L)) (F0 m 152 ls []) := by
  induction n with
  | zero => intro i0 x1 x3 x5 x6 x7 x8 F H locs ls o0 hI hl h; cases h
  | succ n ih => intro i0 x1 x3 x5 x6 x7 x8 F H locs ls o0 hI hl h; exact t_Md_readTable_152 hC ih o0 hI hl h
def b_Md_readTable_140 (L : La)  (i0 : Nat) (x1 : Int32) (x3 : Int32) (x5 : Int32) (j0 : Nat) (y1 : Int32) (F : Mem) : Option Mem :=
  if ¬ (y1 = 0 ∨ y1 = 1) then none else
  lt' (u2 F j0 5 y1) fun F1 =>
  f_Md_readTable_152 L  mFU i0 x1 x3 x5 (0 : Int32) (0 : Int32) (0 : Int32) F1
set_option maxHeartbeats 4000000 in
theorem t_Md_readTable_140 (hC : Cx X L p s m args meth c cc_Md_readTable 9 w_Md_readTable R_Md none)  {out : Mem}  {i0 : Nat} {x1 : Int32} {x3 : Int32} {x5 : Int32} {j0 : Nat} {y1 : Int32} {F : Mem} {H : Heap} {locs : List Loc} {ls : Array Slot} (o0 : oO L 12 i0) (oy0 : oO L 12 j0) (hI : Iv X L s H locs F) (hl : lv_has ls 9 [(0, .ref (mAd X i0)), (1, .int x1), (3, .int x3), (5, .int x5)]) (h : b_Md_readTable_140 L  i0 x1 x3 x5 j0 y1 F = some out) : W p l e (headSpec w_Md_readTable r_Md_readTable).room s m args below meth c H locs 0 0 (MQ below (QV X L out) args s 0 0 (AA X L)) (F0 m 140 ls [.int y1, .ref (mAd X j0)]) := by
  unfold b_Md_readTable_140 at h
  obtain ⟨S, hK, hT, hW, hr, hlk⟩ := id hC
  have hx := S.1
  have hb := S.2.1
  obtain ⟨z3, h⟩ := un_if h
  refine w_putZ (T := T_Md) S hK hI oy0 rfl hin_Md ty_Md tk_Md nm_Md 5 (index := 102) (by decide) lf_Md_102 rfl z3 d_Md_readTable_140 (fun H locs F1 e2 hI => ?_)
  replace h := un_lt h _ e2
  refine lv_iconst (v := 0) hx hb d_Md_readTable_143 rfl ?_
  refine lv_istore (lv' := [(6, .int (0 : Int32)), (0, .ref (mAd X i0)), (1, .int x1), (3, .int x3), (5, .int x5)]) hx hb d_Md_readTable_144 hl (by decide) rfl (fun ls hl => ?_)
  refine lv_iconst (v := 0) hx hb d_Md_readTable_146 rfl ?_
  refine lv_istore (lv' := [(7, .int (0 : Int32)), (6, .int (0 : Int32)), (0, .ref (mAd X i0)), (1, .int x1), (3, .int x3), (5, .int x5)]) hx hb d_Md_readTable_147 hl (by decide) rfl (fun ls hl => ?_)
  refine lv_iconst (v := 0) hx hb d_Md_readTable_149 rfl ?_
  refine lv_istore (lv' := [(8, .int (0 : Int32)), (7, .int (0 : Int32)), (6, .int (0 : Int32)), (0, .ref (mAd X i0)), (1, .int x1), (3, .int x3), (5, .int x5)]) hx hb d_Md_readTable_150 hl (by decide) rfl (fun ls hl => ?_)
  exact tf_Md_readTable_152 hC  mFU _ _ _ _ _ _ _ _ _ _ _ o0 hI (lv_sub hl [3, 4, 5, 6, 2, 1, 0] rfl) h
def b_Md_readTable_135 (L : La)  (i0 : Nat) (x1 : Int32) (x3 : Int32) (x5 : Int32) (j0 : Nat) (F : Mem) : Option Mem :=
  b_Md_readTable_140 L  i0 x1 x3 x5 j0 (1 : Int32) F
set_option maxHeartbeats 4000000 in
theorem t_Md_readTable_135 (hC : Cx X L p s m args meth c cc_Md_readTable 9 w_Md_readTable R_Md none)  {out : Mem}  {i0 : Nat} {x1 : Int32} {x3 : Int32} {x5 : Int32} {j0 : Nat} {F : Mem} {H : Heap} {locs : List Loc} {ls : Array Slot} (o0 : oO L 12 i0) (oy0 : oO L 12 j0) (hI : Iv X L s H locs F) (hl : lv_has ls 9 [(0, .ref (mAd X i0)), (1, .int x1), (3, .int x3), (5, .int x5)]) (h : b_Md_readTable_135 L  i0 x1 x3 x5 j0 F = some out) : W p l e (headSpec w_Md_readTable r_Md_readTable).room s m args below meth c H locs 0 0 (MQ below (QV X L out) args s 0 0 (AA X L)) (F0 m 135 ls [.ref (mAd X j0)]) := by
  unfold b_Md_readTable_135 at h
  obtain ⟨S, hK, hT, hW, hr, hlk⟩ := id hC
  have hx := S.1
  have hb := S.2.1
  refine lv_iconst (v := 1) hx hb d_Md_readTable_135 rfl ?_
  refine lv_goto (tgt := 140) hx hb d_Md_readTable_136 rfl ?_
  exact t_Md_readTable_140 hC  o0 oy0 hI hl h
def b_Md_readTable_58 (L : La)  (i0 : Nat) (x1 : Int32) (x5 : Int32) (j0 : Nat) (y1 : Int32) (F : Mem) : Option Mem :=
  if ¬ (y1 = 0 ∨ y1 = 1) then none else
  lt' (u2 F j0 5 y1) fun F1 =>
  if inb ((16 : Int32) * x1) (mLn L (mRf L i0 23)) ∨ ¬ (mRf L i0 23) < mNc L then none else
  lt' (u2 F1 (mRf L i0 23) ((16 : Int32) * x1).toNatClampNeg x5) fun F6 =>
  if inb ((16 : Int32) * x1) (mLn L (mRf L i0 24)) ∨ ¬ (mRf L i0 24) < mNc L then none else
  lt' (u2 F6 (mRf L i0 24) ((16 : Int32) * x1).toNatClampNeg (0 : Int32)) fun F10 =>
  if inb ((16 : Int32) * x1) (mLn L (mRf L i0 25)) ∨ ¬ (mRf L i0 25) < mNc L then none else
  lt' (u2 F10 (mRf L i0 25) ((16 : Int32) * x1).toNatClampNeg (0 : Int32)) fun F14 =>
  if inb x1 (mLn L (mRf L i0 22)) ∨ ¬ ((1 : Int32) = 0 ∨ (1 : Int32) = 1) then none else
  lt' (u2 F14 (mRf L i0 22) x1.toNatClampNeg (1 : Int32)) fun F18 =>
  b_Md_readTable_333 L  i0 x1 F18
set_option maxHeartbeats 4000000 in
theorem t_Md_readTable_58 (hC : Cx X L p s m args meth c cc_Md_readTable 9 w_Md_readTable R_Md none)  {out : Mem}  {i0 : Nat} {x1 : Int32} {x5 : Int32} {j0 : Nat} {y1 : Int32} {F : Mem} {H : Heap} {locs : List Loc} {ls : Array Slot} (o0 : oO L 12 i0) (oy0 : oO L 12 j0) (hI : Iv X L s H locs F) (hl : lv_has ls 9 [(0, .ref (mAd X i0)), (1, .int x1), (5, .int x5)]) (h : b_Md_readTable_58 L  i0 x1 x5 j0 y1 F = some out) : W p l e (headSpec w_Md_readTable r_Md_readTable).room s m args below meth c H locs 0 0 (MQ below (QV X L out) args s 0 0 (AA X L)) (F0 m 58 ls [.int y1, .ref (mAd X j0)]) := by
  unfold b_Md_readTable_58 at h
  obtain ⟨S, hK, hT, hW, hr, hlk⟩ := id hC
  have hx := S.1
  have hb := S.2.1
  obtain ⟨z3, h⟩ := un_if h
  refine w_putZ (T := T_Md) S hK hI oy0 rfl hin_Md ty_Md tk_Md nm_Md 5 (index := 102) (by decide) lf_Md_102 rfl z3 d_Md_readTable_58 (fun H locs F1 e2 hI => ?_)
  replace h := un_lt h _ e2
  refine lv_aload_n hx hb d_Md_readTable_61 rfl (lv_at hl 0 rfl) ?_
  have p4 := wt_a hW o0 23 rfl (by decide) (by decide)
  refine w_getR (T := T_Md) S hK hI o0 rfl hin_Md 23 (index := 38) (by decide) lf_Md_38 d_Md_readTable_62 ?_
  refine lv_bipush (v := 16) hx hb d_Md_readTable_65 (by decide) ?_
  refine lv_iload_n hx hb d_Md_readTable_67 rfl (lv_at hl 1 rfl) ?_
  refine lv_imul hx hb d_Md_readTable_68 ?_
  refine lv_iload hx hb d_Md_readTable_69 (lv_at hl 2 rfl) ?_
  obtain ⟨z5, h⟩ := un_if h
  refine w_iast S hK hI p4 z5 d_Md_readTable_71 (fun H locs F6 e7 hI => ?_)
  replace h := un_lt h _ e7
  refine lv_aload_n hx hb d_Md_readTable_72 rfl (lv_at hl 0 rfl) ?_
  have p8 := wt_a hW o0 24 rfl (by decide) (by decide)
  refine w_getR (T := T_Md) S hK hI o0 rfl hin_Md 24 (index := 41) (by decide) lf_Md_41 d_Md_readTable_73 ?_
  refine lv_bipush (v := 16) hx hb d_Md_readTable_76 (by decide) ?_
  refine lv_iload_n hx hb d_Md_readTable_78 rfl (lv_at hl 1 rfl) ?_
  refine lv_imul hx hb d_Md_readTable_79 ?_
  refine lv_iconst (v := 0) hx hb d_Md_readTable_80 rfl ?_
  obtain ⟨z9, h⟩ := un_if h
  refine w_iast S hK hI p8 z9 d_Md_readTable_81 (fun H locs F10 e11 hI => ?_)
  replace h := un_lt h _ e11
  refine lv_aload_n hx hb d_Md_readTable_82 rfl (lv_at hl 0 rfl) ?_
  have p12 := wt_a hW o0 25 rfl (by decide) (by decide)
  refine w_getR (T := T_Md) S hK hI o0 rfl hin_Md 25 (index := 44) (by decide) lf_Md_44 d_Md_readTable_83 ?_
  refine lv_bipush (v := 16) hx hb d_Md_readTable_86 (by decide) ?_
  refine lv_iload_n hx hb d_Md_readTable_88 rfl (lv_at hl 1 rfl) ?_
  refine lv_imul hx hb d_Md_readTable_89 ?_
  refine lv_iconst (v := 0) hx hb d_Md_readTable_90 rfl ?_
  obtain ⟨z13, h⟩ := un_if h
  refine w_iast S hK hI p12 z13 d_Md_readTable_91 (fun H locs F14 e15 hI => ?_)
  replace h := un_lt h _ e15
  refine lv_aload_n hx hb d_Md_readTable_92 rfl (lv_at hl 0 rfl) ?_
  have p16 := wt_o hW o0 22 101 rfl (by decide) (by decide) (by decide)
  refine w_getR (T := T_Md) S hK hI o0 rfl hin_Md 22 (index := 35) (by decide) lf_Md_35 d_Md_readTable_93 ?_
  refine lv_iload_n hx hb d_Md_readTable_96 rfl (lv_at hl 1 rfl) ?_
  refine lv_iconst (v := 1) hx hb d_Md_readTable_97 rfl ?_
  obtain ⟨z17, h⟩ := un_if h
  refine w_zast S hK hI p16 z17 d_Md_readTable_98 (fun H locs F18 e19 hI => ?_)
  replace h := un_lt h _ e19
  refine lv_goto (tgt := 333) hx hb d_Md_readTable_99 rfl ?_
  exact t_Md_readTable_333 hC  o0 hI (lv_sub hl [0, 1] rfl) h
def b_Md_readTable_53 (L : La)  (i0 : Nat) (x1 : Int32) (x5 : Int32) (j0 : Nat) (F : Mem) : Option Mem :=
  b_Md_readTable_58 L  i0 x1 x5 j0 (1 : Int32) F
set_option maxHeartbeats 4000000 in
theorem t_Md_readTable_53 (hC : Cx X L p s m args meth c cc_Md_readTable 9 w_Md_readTable R_Md none)  {out : Mem}  {i0 : Nat} {x1 : Int32} {x5 : Int32} {j0 : Nat} {F : Mem} {H : Heap} {locs : List Loc} {ls : Array Slot} (o0 : oO L 12 i0) (oy0 : oO L 12 j0) (hI : Iv X L s H locs F) (hl : lv_has ls 9 [(0, .ref (mAd X i0)), (1, .int x1), (5, .int x5)]) (h : b_Md_readTable_53 L  i0 x1 x5 j0 F = some out) : W p l e (headSpec w_Md_readTable r_Md_readTable).room s m args below meth c H locs 0 0 (MQ below (QV X L out) args s 0 0 (AA X L)) (F0 m 53 ls [.ref (mAd X j0)]) := by
  unfold b_Md_readTable_53 at h
  obtain ⟨S, hK, hT, hW, hr, hlk⟩ := id hC
  have hx := S.1
  have hb := S.2.1
  refine lv_iconst (v := 1) hx hb d_Md_readTable_53 rfl ?_
  refine lv_goto (tgt := 58) hx hb d_Md_readTable_54 rfl ?_
  exact t_Md_readTable_58 hC  o0 oy0 hI hl h
def b_Md_readTable_12 (L : La)  (i0 : Nat) (x1 : Int32) (x2 : Int32) (x3 : Int32) (y0 : Int32) (F : Mem) : Option Mem :=
  if x2 = 0 then
    (f_Md_setUsual L i0 x1 F).bind fun F7 =>
    b_Md_readTable_333 L  i0 x1 F7
  else
    if x2 = (1 : Int32) then
      (f_Md_next L i0 x3 F).bind fun q5 =>
      if (q5.2 i0 5) = 0 then
        if q5.1 < y0 then
          b_Md_readTable_58 L  i0 x1 q5.1 i0 (0 : Int32) q5.2
        else
          b_Md_readTable_53 L  i0 x1 q5.1 i0 q5.2
      else
        b_Md_readTable_53 L  i0 x1 q5.1 i0 q5.2
    else
      if x2 = (2 : Int32) then
        (f_Md_next L i0 x3 F).bind fun q3 =>
        if (q3.2 i0 5) = 0 then
          if q3.1 < (1 : Int32) then
            b_Md_readTable_135 L  i0 x1 x3 q3.1 i0 q3.2
          else
            if q3.1 ≤ y0 then
              b_Md_readTable_140 L  i0 x1 x3 q3.1 i0 (0 : Int32) q3.2
            else
              b_Md_readTable_135 L  i0 x1 x3 q3.1 i0 q3.2
        else
          b_Md_readTable_135 L  i0 x1 x3 q3.1 i0 q3.2
      else
        if (F i0 5) = 0 then
          if inb x1 (mLn L (mRf L i0 21)) then none else
          if (F (mRf L i0 21) x1.toNatClampNeg) = 0 then
            b_Md_readTable_325 L  i0 x1 i0 F
          else
            b_Md_readTable_330 L  i0 x1 i0 (0 : Int32) F
        else
          b_Md_readTable_325 L  i0 x1 i0 F
set_option maxHeartbeats 4000000 in
theorem t_Md_readTable_12 (hC : Cx X L p s m args meth c cc_Md_readTable 9 w_Md_readTable R_Md none)  {out : Mem}  {i0 : Nat} {x1 : Int32} {x2 : Int32} {x3 : Int32} {y0 : Int32} {F : Mem} {H : Heap} {locs : List Loc} {ls : Array Slot} (o0 : oO L 12 i0) (hI : Iv X L s H locs F) (hl : lv_has ls 9 [(0, .ref (mAd X i0)), (1, .int x1), (2, .int x2), (3, .int x3)]) (h : b_Md_readTable_12 L  i0 x1 x2 x3 y0 F = some out) : W p l e (headSpec w_Md_readTable r_Md_readTable).room s m args below meth c H locs 0 0 (MQ below (QV X L out) args s 0 0 (AA X L)) (F0 m 12 ls [.int y0]) := by
  unfold b_Md_readTable_12 at h
  obtain ⟨S, hK, hT, hW, hr, hlk⟩ := id hC
  have hx := S.1
  have hb := S.2.1
  refine lv_istore (lv' := [(4, .int y0), (0, .ref (mAd X i0)), (1, .int x1), (2, .int x2), (3, .int x3)]) hx hb d_Md_readTable_12 hl (by decide) rfl (fun ls hl => ?_)
  refine lv_iload_n hx hb d_Md_readTable_14 rfl (lv_at hl 3 rfl) ?_
  refine lv_if_ne (tgt := 26) hx hb d_Md_readTable_15 rfl (fun hc => ?_) (fun hc => ?_)
  · replace h := (if_neg hc).symm.trans h
    refine lv_iload_n hx hb d_Md_readTable_26 rfl (lv_at hl 3 rfl) ?_
    refine lv_iconst (v := 1) hx hb d_Md_readTable_27 rfl ?_
    refine lv_icmp_ne (tgt := 102) hx hb d_Md_readTable_28 rfl (fun hc => ?_) (fun hc => ?_)
    · replace h := (if_neg hc).symm.trans h
      refine lv_iload_n hx hb d_Md_readTable_102 rfl (lv_at hl 3 rfl) ?_
      refine lv_iconst (v := 2) hx hb d_Md_readTable_103 rfl ?_
      refine lv_icmp_ne (tgt := 308) hx hb d_Md_readTable_104 rfl (fun hc => ?_) (fun hc => ?_)
      · replace h := (if_neg hc).symm.trans h
        refine lv_aload_n hx hb d_Md_readTable_308 rfl (lv_at hl 1 rfl) ?_
        refine lv_aload_n hx hb d_Md_readTable_309 rfl (lv_at hl 1 rfl) ?_
        refine w_getI (T := T_Md) S hK hI o0 rfl hin_Md 5 (index := 102) (by decide) lf_Md_102 d_Md_readTable_310 ?_
        refine lv_if_ne (tgt := 325) hx hb d_Md_readTable_313 rfl (fun hc => ?_) (fun hc => ?_)
        · replace h := (if_neg hc).symm.trans h
          exact t_Md_readTable_325 hC  o0 o0 hI (lv_sub hl [1, 2] rfl) h
        · replace h := (if_pos hc).symm.trans h
          refine lv_aload_n hx hb d_Md_readTable_316 rfl (lv_at hl 1 rfl) ?_
          have p1 := wt_o hW o0 21 101 rfl (by decide) (by decide) (by decide)
          refine w_getR (T := T_Md) S hK hI o0 rfl hin_Md 21 (index := 31) (by decide) lf_Md_31 d_Md_readTable_317 ?_
          refine lv_iload_n hx hb d_Md_readTable_320 rfl (lv_at hl 2 rfl) ?_
          obtain ⟨z2, h⟩ := un_if h
          refine w_zald S hK hI p1 z2 d_Md_readTable_321 ?_
          refine lv_if_ne (tgt := 329) hx hb d_Md_readTable_322 rfl (fun hc => ?_) (fun hc => ?_)
          · replace h := (if_neg hc).symm.trans h
            refine lv_iconst (v := 0) hx hb d_Md_readTable_329 rfl ?_
            exact t_Md_readTable_330 hC  o0 o0 hI (lv_sub hl [1, 2] rfl) h
          · replace h := (if_pos hc).symm.trans h
            exact t_Md_readTable_325 hC  o0 o0 hI (lv_sub hl [1, 2] rfl) h
      · replace h := (if_pos hc).symm.trans h
        refine lv_aload_n hx hb d_Md_readTable_107 rfl (lv_at hl 1 rfl) ?_
        refine lv_iload_n hx hb d_Md_readTable_108 rfl (lv_at hl 4 rfl) ?_
        obtain ⟨q3, e4, h⟩ := un_bi h
        refine w_callVi (As := [.int x3]) (rest := []) S hK hI hT (c_Md_next l hW o0 e4) (cwV 1 S.2.2.2.2 (gd_V lc_Md_next lm_Md_125 li_Md_next ls_Md_next ln_Md) rfl rfl rfl hd_Md_next ⟨Nat.le_of_ble_eq_true rfl, Nat.le_of_ble_eq_true rfl⟩) o0 rfl (by decide) rfl rfl hl.1 (Nat.le_of_ble_eq_true rfl) d_Md_readTable_109 ⟨Nat.zero_le _, Nat.zero_le _⟩ (fun H locs hI => ?_)
        refine lv_istore (lv' := [(5, .int q3.1), (4, .int y0), (0, .ref (mAd X i0)), (1, .int x1), (2, .int x2), (3, .int x3)]) hx hb d_Md_readTable_112 hl (by decide) rfl (fun ls hl => ?_)
        refine lv_aload_n hx hb d_Md_readTable_114 rfl (lv_at hl 2 rfl) ?_
        refine lv_aload_n hx hb d_Md_readTable_115 rfl (lv_at hl 2 rfl) ?_
        refine w_getI (T := T_Md) S hK hI o0 rfl hin_Md 5 (index := 102) (by decide) lf_Md_102 d_Md_readTable_116 ?_
        refine lv_if_ne (tgt := 135) hx hb d_Md_readTable_119 rfl (fun hc => ?_) (fun hc => ?_)
        · replace h := (if_neg hc).symm.trans h
          exact t_Md_readTable_135 hC  o0 o0 hI (lv_sub hl [2, 3, 5, 0] rfl) h
        · replace h := (if_pos hc).symm.trans h
          refine lv_iload hx hb d_Md_readTable_122 (lv_at hl 0 rfl) ?_
          refine lv_iconst (v := 1) hx hb d_Md_readTable_124 rfl ?_
          refine lv_icmp_lt (tgt := 135) hx hb d_Md_readTable_125 rfl (fun hc => ?_) (fun hc => ?_)
          · replace h := (if_pos hc).symm.trans h
            exact t_Md_readTable_135 hC  o0 o0 hI (lv_sub hl [2, 3, 5, 0] rfl) h
          · replace h := (if_neg hc).symm.trans h
            refine lv_iload hx hb d_Md_readTable_128 (lv_at hl 0 rfl) ?_
            refine lv_iload hx hb d_Md_readTable_130 (lv_at hl 1 rfl) ?_
            refine lv_icmp_le (tgt := 139) hx hb d_Md_readTable_132 rfl (fun hc => ?_) (fun hc => ?_)
            · replace h := (if_pos hc).symm.trans h
              refine lv_iconst (v := 0) hx hb d_Md_readTable_139 rfl ?_
              exact t_Md_readTable_140 hC  o0 o0 hI (lv_sub hl [2, 3, 5, 0] rfl) h
            · replace h := (if_neg hc).symm.trans h
              exact t_Md_readTable_135 hC  o0 o0 hI (lv_sub hl [2, 3, 5, 0] rfl) h
    · replace h := (if_pos hc).symm.trans h
      refine lv_aload_n hx hb d_Md_readTable_31 rfl (lv_at hl 1 rfl) ?_
      refine lv_iload_n hx hb d_Md_readTable_32 rfl (lv_at hl 4 rfl) ?_
      obtain ⟨q5, e6, h⟩ := un_bi h
      refine w_callVi (As := [.int x3]) (rest := []) S hK hI hT (c_Md_next l hW o0 e6) (cwV 1 S.2.2.2.2 (gd_V lc_Md_next lm_Md_125 li_Md_next ls_Md_next ln_Md) rfl rfl rfl hd_Md_next ⟨Nat.le_of_ble_eq_true rfl, Nat.le_of_ble_eq_true rfl⟩) o0 rfl (by decide) rfl rfl hl.1 (Nat.le_of_ble_eq_true rfl) d_Md_readTable_33 ⟨Nat.zero_le _, Nat.zero_le _⟩ (fun H locs hI => ?_)
      refine lv_istore (lv' := [(5, .int q5.1), (4, .int y0), (0, .ref (mAd X i0)), (1, .int x1), (2, .int x2), (3, .int x3)]) hx hb d_Md_readTable_36 hl (by decide) rfl (fun ls hl => ?_)
      refine lv_aload_n hx hb d_Md_readTable_38 rfl (lv_at hl 2 rfl) ?_
      refine lv_aload_n hx hb d_Md_readTable_39 rfl (lv_at hl 2 rfl) ?_
      refine w_getI (T := T_Md) S hK hI o0 rfl hin_Md 5 (index := 102) (by decide) lf_Md_102 d_Md_readTable_40 ?_
      refine lv_if_ne (tgt := 53) hx hb d_Md_readTable_43 rfl (fun hc => ?_) (fun hc => ?_)
      · replace h := (if_neg hc).symm.trans h
        exact t_Md_readTable_53 hC  o0 o0 hI (lv_sub hl [2, 3, 0] rfl) h
      · replace h := (if_pos hc).symm.trans h
        refine lv_iload hx hb d_Md_readTable_46 (lv_at hl 0 rfl) ?_
        refine lv_iload hx hb d_Md_readTable_48 (lv_at hl 1 rfl) ?_
        refine lv_icmp_lt (tgt := 57) hx hb d_Md_readTable_50 rfl (fun hc => ?_) (fun hc => ?_)
        · replace h := (if_pos hc).symm.trans h
          refine lv_iconst (v := 0) hx hb d_Md_readTable_57 rfl ?_
          exact t_Md_readTable_58 hC  o0 o0 hI (lv_sub hl [2, 3, 0] rfl) h
        · replace h := (if_neg hc).symm.trans h
          exact t_Md_readTable_53 hC  o0 o0 hI (lv_sub hl [2, 3, 0] rfl) h
  · replace h := (if_pos hc).symm.trans h
    refine lv_aload_n hx hb d_Md_readTable_18 rfl (lv_at hl 1 rfl) ?_
    refine lv_iload_n hx hb d_Md_readTable_19 rfl (lv_at hl 2 rfl) ?_
    obtain ⟨F7, e8, h⟩ := un_bi h
    refine w_callVv (As := [.int x1]) (rest := []) S hK hI hT (c_Md_setUsual l hW o0 e8) (cwV 1 S.2.2.2.2 (gd_V lc_Md_setUsual lm_Md_200 li_Md_setUsual ls_Md_setUsual ln_Md) rfl rfl rfl hd_Md_setUsual ⟨Nat.le_of_ble_eq_true rfl, Nat.le_of_ble_eq_true rfl⟩) o0 rfl (by decide) rfl rfl hl.1 (Nat.le_of_ble_eq_true rfl) d_Md_readTable_20 ⟨Nat.zero_le _, Nat.zero_le _⟩ (fun H locs hI => ?_)
    refine lv_goto (tgt := 333) hx hb d_Md_readTable_23 rfl ?_
    exact t_Md_readTable_333 hC  o0 hI (lv_sub hl [1, 2] rfl) h
def f_Md_readTable (L : La) (i0 : Nat) (x1 : Int32) (x2 : Int32) (x3 : Int32) (F : Mem) : Option Mem :=
  if x1 = (1 : Int32) then
    b_Md_readTable_12 L  i0 x1 x2 x3 (8 : Int32) F
  else
    b_Md_readTable_12 L  i0 x1 x2 x3 (12 : Int32) F
set_option maxHeartbeats 4000000 in
theorem c_Md_readTable (l : Launch) {X : Xs} {L : La} (hW : WT L) {out : Mem} {i0 : Nat} {x1 : Int32} {x2 : Int32} {x3 : Int32} {F : Mem} (o0 : oO L 12 i0) (h : f_Md_readTable L i0 x1 x2 x3 F = some out) : Met l y_Md_readTable w_Md_readTable r_Md_readTable (va_Pc [.ref (mAd X i0), .int x1, .int x2, .int x3] (Pr X L F)) (QV X L out) 0 0 (AA X L) := by
  refine mk_met (by decide) rfl (Nat.le_of_ble_eq_true rfl) hW ?_
  intro p e s m args below meth c ls hC hI hl
  have hl : lv_has ls 9 [(0, .ref (mAd X i0)), (1, .int x1), (2, .int x2), (3, .int x3)] := hl
  generalize hHe : s.heap = H at hI ⊢
  generalize ([] : List Loc) = locs at hI ⊢
  unfold f_Md_readTable at h
  obtain ⟨S, hK, hT, hW, hr, hlk⟩ := id hC
  have hx := S.1
  have hb := S.2.1
  refine lv_iload_n hx hb d_Md_readTable_0 rfl (lv_at hl 1 rfl) ?_
  refine lv_iconst (v := 1) hx hb d_Md_readTable_1 rfl ?_
  refine lv_icmp_ne (tgt := 10) hx hb d_Md_readTable_2 rfl (fun hc => ?_) (fun hc => ?_)
  · replace h := (if_neg hc).symm.trans h
    refine lv_bipush (v := 12) hx hb d_Md_readTable_10 (by decide) ?_
    exact t_Md_readTable_12 hC  o0 hI hl h
  · replace h := (if_pos hc).symm.trans h
    refine lv_bipush (v := 8) hx hb d_Md_readTable_5 (by decide) ?_
    refine lv_goto (tgt := 12) hx hb d_Md_readTable_7 rfl ?_
    exact t_Md_readTable_12 hC  o0 hI hl h
end
theorem d_Md_matchBase_0 : decode cc_Md_matchBase 0 = .ok (.iload_n 0, 1) := by decide +kernel
theorem d_Md_matchBase_1 : decode cc_Md_matchBase 1 = .ok (.bipush (8), 2) := by decide +kernel
theorem d_Md_matchBase_3 : decode cc_Md_matchBase 3 = .ok (.if_icmp .ge (9), 3) := by decide +kernel
theorem d_Md_matchBase_6 : decode cc_Md_matchBase 6 = .ok (.iconst 3, 1) := by decide +kernel
theorem d_Md_matchBase_7 : decode cc_Md_matchBase 7 = .ok (.iload_n 0, 1) := by decide +kernel
theorem d_Md_matchBase_8 : decode cc_Md_matchBase 8 = .ok (.iadd, 1) := by decide +kernel
theorem d_Md_matchBase_9 : decode cc_Md_matchBase 9 = .ok (.goto (38), 3) := by decide +kernel
theorem d_Md_matchBase_12 : decode cc_Md_matchBase 12 = .ok (.iload_n 0, 1) := by decide +kernel
theorem d_Md_matchBase_13 : decode cc_Md_matchBase 13 = .ok (.bipush (8), 2) := by decide +kernel
theorem d_Md_matchBase_15 : decode cc_Md_matchBase 15 = .ok (.if_icmp .ne (8), 3) := by decide +kernel
theorem d_Md_matchBase_18 : decode cc_Md_matchBase 18 = .ok (.bipush (11), 2) := by decide +kernel
theorem d_Md_matchBase_20 : decode cc_Md_matchBase 20 = .ok (.goto (27), 3) := by decide +kernel
theorem d_Md_matchBase_23 : decode cc_Md_matchBase 23 = .ok (.iload_n 0, 1) := by decide +kernel
theorem d_Md_matchBase_24 : decode cc_Md_matchBase 24 = .ok (.bipush (9), 2) := by decide +kernel
theorem d_Md_matchBase_26 : decode cc_Md_matchBase 26 = .ok (.if_icmp .ne (8), 3) := by decide +kernel
theorem d_Md_matchBase_29 : decode cc_Md_matchBase 29 = .ok (.bipush (13), 2) := by decide +kernel
theorem d_Md_matchBase_31 : decode cc_Md_matchBase 31 = .ok (.goto (16), 3) := by decide +kernel
theorem d_Md_matchBase_34 : decode cc_Md_matchBase 34 = .ok (.iload_n 0, 1) := by decide +kernel
theorem d_Md_matchBase_35 : decode cc_Md_matchBase 35 = .ok (.bipush (10), 2) := by decide +kernel
theorem d_Md_matchBase_37 : decode cc_Md_matchBase 37 = .ok (.if_icmp .ne (8), 3) := by decide +kernel
theorem d_Md_matchBase_40 : decode cc_Md_matchBase 40 = .ok (.bipush (17), 2) := by decide +kernel
theorem d_Md_matchBase_42 : decode cc_Md_matchBase 42 = .ok (.goto (5), 3) := by decide +kernel
theorem d_Md_matchBase_45 : decode cc_Md_matchBase 45 = .ok (.bipush (25), 2) := by decide +kernel
theorem d_Md_matchBase_47 : decode cc_Md_matchBase 47 = .ok (.ireturn, 1) := by decide +kernel
section
variable {p : Program} {l : Launch} {e : Env} {s : State} {m : MethodId} {args : Array Value} {below : List Frame} {meth : Method} {c : Code} {X : Xs} {L : La}
def b_Md_matchBase_47 (L : La)  (y0 : Int32) (F : Mem) : Option (Int32 × Mem) :=
  some (y0, F)
set_option maxHeartbeats 4000000 in
theorem t_Md_matchBase_47 (hC : Cx X L p s m args meth c cc_Md_matchBase 1 w_Md_matchBase R_Md (some .int))  {out : (Int32 × Mem)}  {y0 : Int32} {F : Mem} {H : Heap} {locs : List Loc} {ls : Array Slot}  (hI : Iv X L s H locs F) (hl : lv_has ls 1 []) (h : b_Md_matchBase_47 L  y0 F = some out) : W p l e (headSpec w_Md_matchBase r_Md_matchBase).room s m args below meth c H locs 0 0 (MQ below (QI X L out) args s 0 0 (AA X L)) (F0 m 47 ls [.int y0]) := by
  unfold b_Md_matchBase_47 at h
  obtain ⟨S, hK, hT, hW, hr, hlk⟩ := id hC
  have hx := S.1
  have hb := S.2.1
  exact w_iret S hK hr hlk hI d_Md_matchBase_47 h
def f_Md_matchBase (L : La) (x0 : Int32) (F : Mem) : Option (Int32 × Mem) :=
  if (8 : Int32) ≤ x0 then
    if x0 = (8 : Int32) then
      b_Md_matchBase_47 L  (11 : Int32) F
    else
      if x0 = (9 : Int32) then
        b_Md_matchBase_47 L  (13 : Int32) F
      else
        if x0 = (10 : Int32) then
          b_Md_matchBase_47 L  (17 : Int32) F
        else
          b_Md_matchBase_47 L  (25 : Int32) F
  else
    b_Md_matchBase_47 L  ((3 : Int32) + x0) F
set_option maxHeartbeats 4000000 in
theorem c_Md_matchBase (l : Launch) {X : Xs} {L : La} (hW : WT L) {out : (Int32 × Mem)} {x0 : Int32} {F : Mem}  (h : f_Md_matchBase L x0 F = some out) : Met l y_Md_matchBase w_Md_matchBase r_Md_matchBase (va_Pc [.int x0] (Pr X L F)) (QI X L out) 0 0 (AA X L) := by
  refine mk_met (by decide) rfl (Nat.le_of_ble_eq_true rfl) hW ?_
  intro p e s m args below meth c ls hC hI hl
  have hl : lv_has ls 1 [(0, .int x0)] := hl
  generalize hHe : s.heap = H at hI ⊢
  generalize ([] : List Loc) = locs at hI ⊢
  unfold f_Md_matchBase at h
  obtain ⟨S, hK, hT, hW, hr, hlk⟩ := id hC
  have hx := S.1
  have hb := S.2.1
  refine lv_iload_n hx hb d_Md_matchBase_0 rfl (lv_at hl 0 rfl) ?_
  refine lv_bipush (v := 8) hx hb d_Md_matchBase_1 (by decide) ?_
  refine lv_icmp_ge (tgt := 12) hx hb d_Md_matchBase_3 rfl (fun hc => ?_) (fun hc => ?_)
  · replace h := (if_pos hc).symm.trans h
    refine lv_iload_n hx hb d_Md_matchBase_12 rfl (lv_at hl 0 rfl) ?_
    refine lv_bipush (v := 8) hx hb d_Md_matchBase_13 (by decide) ?_
    refine lv_icmp_ne (tgt := 23) hx hb d_Md_matchBase_15 rfl (fun hc => ?_) (fun hc => ?_)
    · replace h := (if_neg hc).symm.trans h
      refine lv_iload_n hx hb d_Md_matchBase_23 rfl (lv_at hl 0 rfl) ?_
      refine lv_bipush (v := 9) hx hb d_Md_matchBase_24 (by decide) ?_
      refine lv_icmp_ne (tgt := 34) hx hb d_Md_matchBase_26 rfl (fun hc => ?_) (fun hc => ?_)
      · replace h := (if_neg hc).symm.trans h
        refine lv_iload_n hx hb d_Md_matchBase_34 rfl (lv_at hl 0 rfl) ?_
        refine lv_bipush (v := 10) hx hb d_Md_matchBase_35 (by decide) ?_
        refine lv_icmp_ne (tgt := 45) hx hb d_Md_matchBase_37 rfl (fun hc => ?_) (fun hc => ?_)
        · replace h := (if_neg hc).symm.trans h
          refine lv_bipush (v := 25) hx hb d_Md_matchBase_45 (by decide) ?_
          exact t_Md_matchBase_47 hC   hI (lv_sub hl [] rfl) h
        · replace h := (if_pos hc).symm.trans h
          refine lv_bipush (v := 17) hx hb d_Md_matchBase_40 (by decide) ?_
          refine lv_goto (tgt := 47) hx hb d_Md_matchBase_42 rfl ?_
          exact t_Md_matchBase_47 hC   hI (lv_sub hl [] rfl) h
      · replace h := (if_pos hc).symm.trans h
        refine lv_bipush (v := 13) hx hb d_Md_matchBase_29 (by decide) ?_
        refine lv_goto (tgt := 47) hx hb d_Md_matchBase_31 rfl ?_
        exact t_Md_matchBase_47 hC   hI (lv_sub hl [] rfl) h
    · replace h := (if_pos hc).symm.trans h
      refine lv_bipush (v := 11) hx hb d_Md_matchBase_18 (by decide) ?_
      refine lv_goto (tgt := 47) hx hb d_Md_matchBase_20 rfl ?_
      exact t_Md_matchBase_47 hC   hI (lv_sub hl [] rfl) h
  · replace h := (if_neg hc).symm.trans h
    refine lv_iconst (v := 3) hx hb d_Md_matchBase_6 rfl ?_
    refine lv_iload_n hx hb d_Md_matchBase_7 rfl (lv_at hl 0 rfl) ?_
    refine lv_iadd hx hb d_Md_matchBase_8 ?_
    refine lv_goto (tgt := 47) hx hb d_Md_matchBase_9 rfl ?_
    exact t_Md_matchBase_47 hC   hI (lv_sub hl [] rfl) h
end
theorem d_Md_matchBits_0 : decode cc_Md_matchBits 0 = .ok (.iload_n 0, 1) := by decide +kernel
theorem d_Md_matchBits_1 : decode cc_Md_matchBits 1 = .ok (.bipush (8), 2) := by decide +kernel
theorem d_Md_matchBits_3 : decode cc_Md_matchBits 3 = .ok (.if_icmp .ge (7), 3) := by decide +kernel
theorem d_Md_matchBits_6 : decode cc_Md_matchBits 6 = .ok (.iconst 0, 1) := by decide +kernel
theorem d_Md_matchBits_7 : decode cc_Md_matchBits 7 = .ok (.goto (18), 3) := by decide +kernel
theorem d_Md_matchBits_10 : decode cc_Md_matchBits 10 = .ok (.iload_n 0, 1) := by decide +kernel
theorem d_Md_matchBits_11 : decode cc_Md_matchBits 11 = .ok (.bipush (11), 2) := by decide +kernel
theorem d_Md_matchBits_13 : decode cc_Md_matchBits 13 = .ok (.if_icmp .ne (8), 3) := by decide +kernel
theorem d_Md_matchBits_16 : decode cc_Md_matchBits 16 = .ok (.bipush (7), 2) := by decide +kernel
theorem d_Md_matchBits_18 : decode cc_Md_matchBits 18 = .ok (.goto (7), 3) := by decide +kernel
theorem d_Md_matchBits_21 : decode cc_Md_matchBits 21 = .ok (.iload_n 0, 1) := by decide +kernel
theorem d_Md_matchBits_22 : decode cc_Md_matchBits 22 = .ok (.bipush (7), 2) := by decide +kernel
theorem d_Md_matchBits_24 : decode cc_Md_matchBits 24 = .ok (.isub, 1) := by decide +kernel
theorem d_Md_matchBits_25 : decode cc_Md_matchBits 25 = .ok (.ireturn, 1) := by decide +kernel
section
variable {p : Program} {l : Launch} {e : Env} {s : State} {m : MethodId} {args : Array Value} {below : List Frame} {meth : Method} {c : Code} {X : Xs} {L : La}
def b_Md_matchBits_25 (L : La)  (y0 : Int32) (F : Mem) : Option (Int32 × Mem) :=
  some (y0, F)
set_option maxHeartbeats 4000000 in
theorem t_Md_matchBits_25 (hC : Cx X L p s m args meth c cc_Md_matchBits 1 w_Md_matchBits R_Md (some .int))  {out : (Int32 × Mem)}  {y0 : Int32} {F : Mem} {H : Heap} {locs : List Loc} {ls : Array Slot}  (hI : Iv X L s H locs F) (hl : lv_has ls 1 []) (h : b_Md_matchBits_25 L  y0 F = some out) : W p l e (headSpec w_Md_matchBits r_Md_matchBits).room s m args below meth c H locs 0 0 (MQ below (QI X L out) args s 0 0 (AA X L)) (F0 m 25 ls [.int y0]) := by
  unfold b_Md_matchBits_25 at h
  obtain ⟨S, hK, hT, hW, hr, hlk⟩ := id hC
  have hx := S.1
  have hb := S.2.1
  exact w_iret S hK hr hlk hI d_Md_matchBits_25 h
def f_Md_matchBits (L : La) (x0 : Int32) (F : Mem) : Option (Int32 × Mem) :=
  if (8 : Int32) ≤ x0 then
    if x0 = (11 : Int32) then
      b_Md_matchBits_25 L  (7 : Int32) F
    else
      b_Md_matchBits_25 L  (x0 - (7 : Int32)) F
  else
    b_Md_matchBits_25 L  (0 : Int32) F
set_option maxHeartbeats 4000000 in
theorem c_Md_matchBits (l : Launch) {X : Xs} {L : La} (hW : WT L) {out : (Int32 × Mem)} {x0 : Int32} {F : Mem}  (h : f_Md_matchBits L x0 F = some out) : Met l y_Md_matchBits w_Md_matchBits r_Md_matchBits (va_Pc [.int x0] (Pr X L F)) (QI X L out) 0 0 (AA X L) := by
  refine mk_met (by decide) rfl (Nat.le_of_ble_eq_true rfl) hW ?_
  intro p e s m args below meth c ls hC hI hl
  have hl : lv_has ls 1 [(0, .int x0)] := hl
  generalize hHe : s.heap = H at hI ⊢
  generalize ([] : List Loc) = locs at hI ⊢
  unfold f_Md_matchBits at h
  obtain ⟨S, hK, hT, hW, hr, hlk⟩ := id hC
  have hx := S.1
  have hb := S.2.1
  refine lv_iload_n hx hb d_Md_matchBits_0 rfl (lv_at hl 0 rfl) ?_
  refine lv_bipush (v := 8) hx hb d_Md_matchBits_1 (by decide) ?_
  refine lv_icmp_ge (tgt := 10) hx hb d_Md_matchBits_3 rfl (fun hc => ?_) (fun hc => ?_)
  · replace h := (if_pos hc).symm.trans h
    refine lv_iload_n hx hb d_Md_matchBits_10 rfl (lv_at hl 0 rfl) ?_
    refine lv_bipush (v := 11) hx hb d_Md_matchBits_11 (by decide) ?_
    refine lv_icmp_ne (tgt := 21) hx hb d_Md_matchBits_13 rfl (fun hc => ?_) (fun hc => ?_)
    · replace h := (if_neg hc).symm.trans h
      refine lv_iload_n hx hb d_Md_matchBits_21 rfl (lv_at hl 0 rfl) ?_
      refine lv_bipush (v := 7) hx hb d_Md_matchBits_22 (by decide) ?_
      refine lv_isub hx hb d_Md_matchBits_24 ?_
      exact t_Md_matchBits_25 hC   hI (lv_sub hl [] rfl) h
    · replace h := (if_pos hc).symm.trans h
      refine lv_bipush (v := 7) hx hb d_Md_matchBits_16 (by decide) ?_
      refine lv_goto (tgt := 25) hx hb d_Md_matchBits_18 rfl ?_
      exact t_Md_matchBits_25 hC   hI (lv_sub hl [] rfl) h
  · replace h := (if_neg hc).symm.trans h
    refine lv_iconst (v := 0) hx hb d_Md_matchBits_6 rfl ?_
    refine lv_goto (tgt := 25) hx hb d_Md_matchBits_7 rfl ?_
    exact t_Md_matchBits_25 hC   hI (lv_sub hl [] rfl) h
end
theorem d_Md_aheadBase_0 : decode cc_Md_aheadBase 0 = .ok (.iload_n 0, 1) := by decide +kernel
theorem d_Md_aheadBase_1 : decode cc_Md_aheadBase 1 = .ok (.bipush (8), 2) := by decide +kernel
theorem d_Md_aheadBase_3 : decode cc_Md_aheadBase 3 = .ok (.if_icmp .ge (7), 3) := by decide +kernel
theorem d_Md_aheadBase_6 : decode cc_Md_aheadBase 6 = .ok (.iload_n 0, 1) := by decide +kernel
theorem d_Md_aheadBase_7 : decode cc_Md_aheadBase 7 = .ok (.goto (38), 3) := by decide +kernel
theorem d_Md_aheadBase_10 : decode cc_Md_aheadBase 10 = .ok (.iload_n 0, 1) := by decide +kernel
theorem d_Md_aheadBase_11 : decode cc_Md_aheadBase 11 = .ok (.bipush (8), 2) := by decide +kernel
theorem d_Md_aheadBase_13 : decode cc_Md_aheadBase 13 = .ok (.if_icmp .ne (8), 3) := by decide +kernel
theorem d_Md_aheadBase_16 : decode cc_Md_aheadBase 16 = .ok (.bipush (8), 2) := by decide +kernel
theorem d_Md_aheadBase_18 : decode cc_Md_aheadBase 18 = .ok (.goto (27), 3) := by decide +kernel
theorem d_Md_aheadBase_21 : decode cc_Md_aheadBase 21 = .ok (.iload_n 0, 1) := by decide +kernel
theorem d_Md_aheadBase_22 : decode cc_Md_aheadBase 22 = .ok (.bipush (9), 2) := by decide +kernel
theorem d_Md_aheadBase_24 : decode cc_Md_aheadBase 24 = .ok (.if_icmp .ne (8), 3) := by decide +kernel
theorem d_Md_aheadBase_27 : decode cc_Md_aheadBase 27 = .ok (.bipush (10), 2) := by decide +kernel
theorem d_Md_aheadBase_29 : decode cc_Md_aheadBase 29 = .ok (.goto (16), 3) := by decide +kernel
theorem d_Md_aheadBase_32 : decode cc_Md_aheadBase 32 = .ok (.iload_n 0, 1) := by decide +kernel
theorem d_Md_aheadBase_33 : decode cc_Md_aheadBase 33 = .ok (.bipush (10), 2) := by decide +kernel
theorem d_Md_aheadBase_35 : decode cc_Md_aheadBase 35 = .ok (.if_icmp .ne (8), 3) := by decide +kernel
theorem d_Md_aheadBase_38 : decode cc_Md_aheadBase 38 = .ok (.bipush (12), 2) := by decide +kernel
theorem d_Md_aheadBase_40 : decode cc_Md_aheadBase 40 = .ok (.goto (5), 3) := by decide +kernel
theorem d_Md_aheadBase_43 : decode cc_Md_aheadBase 43 = .ok (.bipush (16), 2) := by decide +kernel
theorem d_Md_aheadBase_45 : decode cc_Md_aheadBase 45 = .ok (.ireturn, 1) := by decide +kernel
section
variable {p : Program} {l : Launch} {e : Env} {s : State} {m : MethodId} {args : Array Value} {below : List Frame} {meth : Method} {c : Code} {X : Xs} {L : La}
def b_Md_aheadBase_45 (L : La)  (y0 : Int32) (F : Mem) : Option (Int32 × Mem) :=
  some (y0, F)
set_option maxHeartbeats 4000000 in
theorem t_Md_aheadBase_45 (hC : Cx X L p s m args meth c cc_Md_aheadBase 1 w_Md_aheadBase R_Md (some .int))  {out : (Int32 × Mem)}  {y0 : Int32} {F : Mem} {H : Heap} {locs : List Loc} {ls : Array Slot}  (hI : Iv X L s H locs F) (hl : lv_has ls 1 []) (h : b_Md_aheadBase_45 L  y0 F = some out) : W p l e (headSpec w_Md_aheadBase r_Md_aheadBase).room s m args below meth c H locs 0 0 (MQ below (QI X L out) args s 0 0 (AA X L)) (F0 m 45 ls [.int y0]) := by
  unfold b_Md_aheadBase_45 at h
  obtain ⟨S, hK, hT, hW, hr, hlk⟩ := id hC
  have hx := S.1
  have hb := S.2.1
  exact w_iret S hK hr hlk hI d_Md_aheadBase_45 h
def f_Md_aheadBase (L : La) (x0 : Int32) (F : Mem) : Option (Int32 × Mem) :=
  if (8 : Int32) ≤ x0 then
    if x0 = (8 : Int32) then
      b_Md_aheadBase_45 L  (8 : Int32) F
    else
      if x0 = (9 : Int32) then
        b_Md_aheadBase_45 L  (10 : Int32) F
      else
        if x0 = (10 : Int32) then
          b_Md_aheadBase_45 L  (12 : Int32) F
        else
          b_Md_aheadBase_45 L  (16 : Int32) F
  else
    b_Md_aheadBase_45 L  x0 F
set_option maxHeartbeats 4000000 in
theorem c_Md_aheadBase (l : Launch) {X : Xs} {L : La} (hW : WT L) {out : (Int32 × Mem)} {x0 : Int32} {F : Mem}  (h : f_Md_aheadBase L x0 F = some out) : Met l y_Md_aheadBase w_Md_aheadBase r_Md_aheadBase (va_Pc [.int x0] (Pr X L F)) (QI X L out) 0 0 (AA X L) := by
  refine mk_met (by decide) rfl (Nat.le_of_ble_eq_true rfl) hW ?_
  intro p e s m args below meth c ls hC hI hl
  have hl : lv_has ls 1 [(0, .int x0)] := hl
  generalize hHe : s.heap = H at hI ⊢
  generalize ([] : List Loc) = locs at hI ⊢
  unfold f_Md_aheadBase at h
  obtain ⟨S, hK, hT, hW, hr, hlk⟩ := id hC
  have hx := S.1
  have hb := S.2.1
  refine lv_iload_n hx hb d_Md_aheadBase_0 rfl (lv_at hl 0 rfl) ?_
  refine lv_bipush (v := 8) hx hb d_Md_aheadBase_1 (by decide) ?_
  refine lv_icmp_ge (tgt := 10) hx hb d_Md_aheadBase_3 rfl (fun hc => ?_) (fun hc => ?_)
  · replace h := (if_pos hc).symm.trans h
    refine lv_iload_n hx hb d_Md_aheadBase_10 rfl (lv_at hl 0 rfl) ?_
    refine lv_bipush (v := 8) hx hb d_Md_aheadBase_11 (by decide) ?_
    refine lv_icmp_ne (tgt := 21) hx hb d_Md_aheadBase_13 rfl (fun hc => ?_) (fun hc => ?_)
    · replace h := (if_neg hc).symm.trans h
      refine lv_iload_n hx hb d_Md_aheadBase_21 rfl (lv_at hl 0 rfl) ?_
      refine lv_bipush (v := 9) hx hb d_Md_aheadBase_22 (by decide) ?_
      refine lv_icmp_ne (tgt := 32) hx hb d_Md_aheadBase_24 rfl (fun hc => ?_) (fun hc => ?_)
      · replace h := (if_neg hc).symm.trans h
        refine lv_iload_n hx hb d_Md_aheadBase_32 rfl (lv_at hl 0 rfl) ?_
        refine lv_bipush (v := 10) hx hb d_Md_aheadBase_33 (by decide) ?_
        refine lv_icmp_ne (tgt := 43) hx hb d_Md_aheadBase_35 rfl (fun hc => ?_) (fun hc => ?_)
        · replace h := (if_neg hc).symm.trans h
          refine lv_bipush (v := 16) hx hb d_Md_aheadBase_43 (by decide) ?_
          exact t_Md_aheadBase_45 hC   hI (lv_sub hl [] rfl) h
        · replace h := (if_pos hc).symm.trans h
          refine lv_bipush (v := 12) hx hb d_Md_aheadBase_38 (by decide) ?_
          refine lv_goto (tgt := 45) hx hb d_Md_aheadBase_40 rfl ?_
          exact t_Md_aheadBase_45 hC   hI (lv_sub hl [] rfl) h
      · replace h := (if_pos hc).symm.trans h
        refine lv_bipush (v := 10) hx hb d_Md_aheadBase_27 (by decide) ?_
        refine lv_goto (tgt := 45) hx hb d_Md_aheadBase_29 rfl ?_
        exact t_Md_aheadBase_45 hC   hI (lv_sub hl [] rfl) h
    · replace h := (if_pos hc).symm.trans h
      refine lv_bipush (v := 8) hx hb d_Md_aheadBase_16 (by decide) ?_
      refine lv_goto (tgt := 45) hx hb d_Md_aheadBase_18 rfl ?_
      exact t_Md_aheadBase_45 hC   hI (lv_sub hl [] rfl) h
  · replace h := (if_neg hc).symm.trans h
    refine lv_iload_n hx hb d_Md_aheadBase_6 rfl (lv_at hl 0 rfl) ?_
    refine lv_goto (tgt := 45) hx hb d_Md_aheadBase_7 rfl ?_
    exact t_Md_aheadBase_45 hC   hI (lv_sub hl [] rfl) h
end
