theorem d_ST_keepCounts_0 : decode cc_ST_keepCounts 0 = .ok (.aload_n 0, 1) := by decide +kernel
theorem d_ST_keepCounts_1 : decode cc_ST_keepCounts 1 = .ok (.iconst 4, 1) := by decide +kernel
theorem d_ST_keepCounts_2 : decode cc_ST_keepCounts 2 = .ok (.putfield 31, 3) := by decide +kernel
theorem d_ST_keepCounts_5 : decode cc_ST_keepCounts 5 = .ok (.iconst 0, 1) := by decide +kernel
theorem d_ST_keepCounts_6 : decode cc_ST_keepCounts 6 = .ok (.istore_n 3, 1) := by decide +kernel
theorem d_ST_keepCounts_7 : decode cc_ST_keepCounts 7 = .ok (.iconst 0, 1) := by decide +kernel
theorem d_ST_keepCounts_8 : decode cc_ST_keepCounts 8 = .ok (.istore 4, 2) := by decide +kernel
theorem d_ST_keepCounts_10 : decode cc_ST_keepCounts 10 = .ok (.iload 4, 2) := by decide +kernel
theorem d_ST_keepCounts_12 : decode cc_ST_keepCounts 12 = .ok (.iload_n 2, 1) := by decide +kernel
theorem d_ST_keepCounts_13 : decode cc_ST_keepCounts 13 = .ok (.if_icmp .ge (54), 3) := by decide +kernel
theorem d_ST_keepCounts_16 : decode cc_ST_keepCounts 16 = .ok (.aload_n 0, 1) := by decide +kernel
theorem d_ST_keepCounts_17 : decode cc_ST_keepCounts 17 = .ok (.getfield 24, 3) := by decide +kernel
theorem d_ST_keepCounts_20 : decode cc_ST_keepCounts 20 = .ok (.iload 4, 2) := by decide +kernel
theorem d_ST_keepCounts_22 : decode cc_ST_keepCounts 22 = .ok (.aload_n 1, 1) := by decide +kernel
theorem d_ST_keepCounts_23 : decode cc_ST_keepCounts 23 = .ok (.iload 4, 2) := by decide +kernel
theorem d_ST_keepCounts_25 : decode cc_ST_keepCounts 25 = .ok (.iaload, 1) := by decide +kernel
theorem d_ST_keepCounts_26 : decode cc_ST_keepCounts 26 = .ok (.iastore, 1) := by decide +kernel
theorem d_ST_keepCounts_27 : decode cc_ST_keepCounts 27 = .ok (.iconst 0, 1) := by decide +kernel
theorem d_ST_keepCounts_28 : decode cc_ST_keepCounts 28 = .ok (.istore 5, 2) := by decide +kernel
theorem d_ST_keepCounts_30 : decode cc_ST_keepCounts 30 = .ok (.iload 5, 2) := by decide +kernel
theorem d_ST_keepCounts_32 : decode cc_ST_keepCounts 32 = .ok (.aload_n 1, 1) := by decide +kernel
theorem d_ST_keepCounts_33 : decode cc_ST_keepCounts 33 = .ok (.iload 4, 2) := by decide +kernel
theorem d_ST_keepCounts_35 : decode cc_ST_keepCounts 35 = .ok (.iaload, 1) := by decide +kernel
theorem d_ST_keepCounts_36 : decode cc_ST_keepCounts 36 = .ok (.if_icmp .ge (25), 3) := by decide +kernel
theorem d_ST_keepCounts_39 : decode cc_ST_keepCounts 39 = .ok (.aload_n 0, 1) := by decide +kernel
theorem d_ST_keepCounts_40 : decode cc_ST_keepCounts 40 = .ok (.getfield 9, 3) := by decide +kernel
theorem d_ST_keepCounts_43 : decode cc_ST_keepCounts 43 = .ok (.iload_n 3, 1) := by decide +kernel
theorem d_ST_keepCounts_44 : decode cc_ST_keepCounts 44 = .ok (.iload 4, 2) := by decide +kernel
theorem d_ST_keepCounts_46 : decode cc_ST_keepCounts 46 = .ok (.iastore, 1) := by decide +kernel
theorem d_ST_keepCounts_47 : decode cc_ST_keepCounts 47 = .ok (.iload_n 3, 1) := by decide +kernel
theorem d_ST_keepCounts_48 : decode cc_ST_keepCounts 48 = .ok (.bipush (13), 2) := by decide +kernel
theorem d_ST_keepCounts_50 : decode cc_ST_keepCounts 50 = .ok (.iadd, 1) := by decide +kernel
theorem d_ST_keepCounts_51 : decode cc_ST_keepCounts 51 = .ok (.bipush (15), 2) := by decide +kernel
theorem d_ST_keepCounts_53 : decode cc_ST_keepCounts 53 = .ok (.iand, 1) := by decide +kernel
theorem d_ST_keepCounts_54 : decode cc_ST_keepCounts 54 = .ok (.istore_n 3, 1) := by decide +kernel
theorem d_ST_keepCounts_55 : decode cc_ST_keepCounts 55 = .ok (.iinc 5 (1), 3) := by decide +kernel
theorem d_ST_keepCounts_58 : decode cc_ST_keepCounts 58 = .ok (.goto (-28), 3) := by decide +kernel
theorem d_ST_keepCounts_61 : decode cc_ST_keepCounts 61 = .ok (.iinc 4 (1), 3) := by decide +kernel
theorem d_ST_keepCounts_64 : decode cc_ST_keepCounts 64 = .ok (.goto (-54), 3) := by decide +kernel
theorem d_ST_keepCounts_67 : decode cc_ST_keepCounts 67 = .ok (.iconst 0, 1) := by decide +kernel
theorem d_ST_keepCounts_68 : decode cc_ST_keepCounts 68 = .ok (.istore 4, 2) := by decide +kernel
theorem d_ST_keepCounts_70 : decode cc_ST_keepCounts 70 = .ok (.iload 4, 2) := by decide +kernel
theorem d_ST_keepCounts_72 : decode cc_ST_keepCounts 72 = .ok (.bipush (16), 2) := by decide +kernel
theorem d_ST_keepCounts_74 : decode cc_ST_keepCounts 74 = .ok (.if_icmp .ge (88), 3) := by decide +kernel
theorem d_ST_keepCounts_77 : decode cc_ST_keepCounts 77 = .ok (.aload_n 0, 1) := by decide +kernel
theorem d_ST_keepCounts_78 : decode cc_ST_keepCounts 78 = .ok (.getfield 24, 3) := by decide +kernel
theorem d_ST_keepCounts_81 : decode cc_ST_keepCounts 81 = .ok (.aload_n 0, 1) := by decide +kernel
theorem d_ST_keepCounts_82 : decode cc_ST_keepCounts 82 = .ok (.getfield 9, 3) := by decide +kernel
theorem d_ST_keepCounts_85 : decode cc_ST_keepCounts 85 = .ok (.iload 4, 2) := by decide +kernel
theorem d_ST_keepCounts_87 : decode cc_ST_keepCounts 87 = .ok (.iaload, 1) := by decide +kernel
theorem d_ST_keepCounts_88 : decode cc_ST_keepCounts 88 = .ok (.iaload, 1) := by decide +kernel
theorem d_ST_keepCounts_89 : decode cc_ST_keepCounts 89 = .ok (.istore 5, 2) := by decide +kernel
theorem d_ST_keepCounts_91 : decode cc_ST_keepCounts 91 = .ok (.aload_n 0, 1) := by decide +kernel
theorem d_ST_keepCounts_92 : decode cc_ST_keepCounts 92 = .ok (.getfield 24, 3) := by decide +kernel
theorem d_ST_keepCounts_95 : decode cc_ST_keepCounts 95 = .ok (.aload_n 0, 1) := by decide +kernel
theorem d_ST_keepCounts_96 : decode cc_ST_keepCounts 96 = .ok (.getfield 9, 3) := by decide +kernel
theorem d_ST_keepCounts_99 : decode cc_ST_keepCounts 99 = .ok (.iload 4, 2) := by decide +kernel
theorem d_ST_keepCounts_101 : decode cc_ST_keepCounts 101 = .ok (.iaload, 1) := by decide +kernel
theorem d_ST_keepCounts_102 : decode cc_ST_keepCounts 102 = .ok (.dup2, 1) := by decide +kernel
theorem d_ST_keepCounts_103 : decode cc_ST_keepCounts 103 = .ok (.iaload, 1) := by decide +kernel
theorem d_ST_keepCounts_104 : decode cc_ST_keepCounts 104 = .ok (.iconst 1, 1) := by decide +kernel
theorem d_ST_keepCounts_105 : decode cc_ST_keepCounts 105 = .ok (.iadd, 1) := by decide +kernel
theorem d_ST_keepCounts_106 : decode cc_ST_keepCounts 106 = .ok (.iastore, 1) := by decide +kernel
theorem d_ST_keepCounts_107 : decode cc_ST_keepCounts 107 = .ok (.iconst 0, 1) := by decide +kernel
theorem d_ST_keepCounts_108 : decode cc_ST_keepCounts 108 = .ok (.istore 6, 2) := by decide +kernel
theorem d_ST_keepCounts_110 : decode cc_ST_keepCounts 110 = .ok (.iload 6, 2) := by decide +kernel
theorem d_ST_keepCounts_112 : decode cc_ST_keepCounts 112 = .ok (.iconst 4, 1) := by decide +kernel
theorem d_ST_keepCounts_113 : decode cc_ST_keepCounts 113 = .ok (.if_icmp .ge (19), 3) := by decide +kernel
theorem d_ST_keepCounts_116 : decode cc_ST_keepCounts 116 = .ok (.iload 5, 2) := by decide +kernel
theorem d_ST_keepCounts_118 : decode cc_ST_keepCounts 118 = .ok (.iload 6, 2) := by decide +kernel
theorem d_ST_keepCounts_120 : decode cc_ST_keepCounts 120 = .ok (.ishl, 1) := by decide +kernel
theorem d_ST_keepCounts_121 : decode cc_ST_keepCounts 121 = .ok (.bipush (16), 2) := by decide +kernel
theorem d_ST_keepCounts_123 : decode cc_ST_keepCounts 123 = .ok (.if_icmp .ge (9), 3) := by decide +kernel
theorem d_ST_keepCounts_126 : decode cc_ST_keepCounts 126 = .ok (.iinc 6 (1), 3) := by decide +kernel
theorem d_ST_keepCounts_129 : decode cc_ST_keepCounts 129 = .ok (.goto (-19), 3) := by decide +kernel
theorem d_ST_keepCounts_132 : decode cc_ST_keepCounts 132 = .ok (.aload_n 0, 1) := by decide +kernel
theorem d_ST_keepCounts_133 : decode cc_ST_keepCounts 133 = .ok (.getfield 15, 3) := by decide +kernel
theorem d_ST_keepCounts_136 : decode cc_ST_keepCounts 136 = .ok (.iload 4, 2) := by decide +kernel
theorem d_ST_keepCounts_138 : decode cc_ST_keepCounts 138 = .ok (.iload 6, 2) := by decide +kernel
theorem d_ST_keepCounts_140 : decode cc_ST_keepCounts 140 = .ok (.iastore, 1) := by decide +kernel
theorem d_ST_keepCounts_141 : decode cc_ST_keepCounts 141 = .ok (.aload_n 0, 1) := by decide +kernel
theorem d_ST_keepCounts_142 : decode cc_ST_keepCounts 142 = .ok (.getfield 18, 3) := by decide +kernel
theorem d_ST_keepCounts_145 : decode cc_ST_keepCounts 145 = .ok (.iload 4, 2) := by decide +kernel
theorem d_ST_keepCounts_147 : decode cc_ST_keepCounts 147 = .ok (.iload 5, 2) := by decide +kernel
theorem d_ST_keepCounts_149 : decode cc_ST_keepCounts 149 = .ok (.iload 6, 2) := by decide +kernel
theorem d_ST_keepCounts_151 : decode cc_ST_keepCounts 151 = .ok (.ishl, 1) := by decide +kernel
theorem d_ST_keepCounts_152 : decode cc_ST_keepCounts 152 = .ok (.bipush (16), 2) := by decide +kernel
theorem d_ST_keepCounts_154 : decode cc_ST_keepCounts 154 = .ok (.isub, 1) := by decide +kernel
theorem d_ST_keepCounts_155 : decode cc_ST_keepCounts 155 = .ok (.iastore, 1) := by decide +kernel
theorem d_ST_keepCounts_156 : decode cc_ST_keepCounts 156 = .ok (.iinc 4 (1), 3) := by decide +kernel
theorem d_ST_keepCounts_159 : decode cc_ST_keepCounts 159 = .ok (.goto (-89), 3) := by decide +kernel
theorem d_ST_keepCounts_162 : decode cc_ST_keepCounts 162 = .ok (.return_, 1) := by decide +kernel
section
variable {p : Program} {l : Launch} {e : Env} {s : State} {m : MethodId} {args : Array Value} {below : List Frame} {meth : Method} {c : Code} {X : Xs} {L : La}
def b_ST_keepCounts_132 (L : La) (k70 : Nat → Int32 → Mem → Option Mem) (i0 : Nat) (x4 : Int32) (x5 : Int32) (x6 : Int32) (F : Mem) : Option Mem :=
  if inb x4 (mLn L (mRf L i0 2)) ∨ ¬ (mRf L i0 2) < mNc L then none else
  lt' (u2 F (mRf L i0 2) x4.toNatClampNeg x6) fun F3 =>
  if inb x4 (mLn L (mRf L i0 3)) ∨ ¬ (mRf L i0 3) < mNc L then none else
  lt' (u2 F3 (mRf L i0 3) x4.toNatClampNeg ((jshl x5 x6) - (16 : Int32))) fun F7 =>
  k70 i0 (x4 + (1 : Int32)) F7
set_option maxHeartbeats 4000000 in
theorem t_ST_keepCounts_132 (hC : Cx X L p s m args meth c cc_ST_keepCounts 7 w_ST_keepCounts R_ST none) {k70 : Nat → Int32 → Mem → Option Mem} {out : Mem} (hk70 : ∀ (i0 : Nat) (x4 : Int32) (F : Mem) (H : Heap) (locs : List Loc) (ls : Array Slot), oO L 2 i0 → Iv X L s H locs F → lv_has ls 7 [(0, .ref (mAd X i0)), (4, .int x4)] → k70 i0 x4 F = some out → W p l e (headSpec w_ST_keepCounts r_ST_keepCounts).room s m args below meth c H locs 0 0 (MQ below (QV X L out) args s 0 0 (AA X L)) (F0 m 70 ls [])) {i0 : Nat} {x4 : Int32} {x5 : Int32} {x6 : Int32} {F : Mem} {H : Heap} {locs : List Loc} {ls : Array Slot} (o0 : oO L 2 i0) (hI : Iv X L s H locs F) (hl : lv_has ls 7 [(0, .ref (mAd X i0)), (4, .int x4), (5, .int x5), (6, .int x6)]) (h : b_ST_keepCounts_132 L k70 i0 x4 x5 x6 F = some out) : W p l e (headSpec w_ST_keepCounts r_ST_keepCounts).room s m args below meth c H locs 0 0 (MQ below (QV X L out) args s 0 0 (AA X L)) (F0 m 132 ls []) := by
  unfold b_ST_keepCounts_132 at h
  obtain ⟨S, hK, hT, hW, hr, hlk⟩ := id hC
  have hx := S.1
  have hb := S.2.1
  refine lv_aload_n hx hb d_ST_keepCounts_132 rfl (lv_at hl 0 rfl) ?_
  have p1 := wt_a hW o0 2 rfl (by decide) (by decide)
  refine w_getR (T := T_ST) S hK hI o0 rfl hin_ST 2 (index := 15) (by decide) lf_ST_15 d_ST_keepCounts_133 ?_
  refine lv_iload hx hb d_ST_keepCounts_136 (lv_at hl 1 rfl) ?_
  refine lv_iload hx hb d_ST_keepCounts_138 (lv_at hl 3 rfl) ?_
  obtain ⟨z2, h⟩ := un_if h
  refine w_iast S hK hI p1 z2 d_ST_keepCounts_140 (fun H locs F3 e4 hI => ?_)
  replace h := un_lt h _ e4
  refine lv_aload_n hx hb d_ST_keepCounts_141 rfl (lv_at hl 0 rfl) ?_
  have p5 := wt_a hW o0 3 rfl (by decide) (by decide)
  refine w_getR (T := T_ST) S hK hI o0 rfl hin_ST 3 (index := 18) (by decide) lf_ST_18 d_ST_keepCounts_142 ?_
  refine lv_iload hx hb d_ST_keepCounts_145 (lv_at hl 1 rfl) ?_
  refine lv_iload hx hb d_ST_keepCounts_147 (lv_at hl 2 rfl) ?_
  refine lv_iload hx hb d_ST_keepCounts_149 (lv_at hl 3 rfl) ?_
  refine lv_ishl hx hb d_ST_keepCounts_151 ?_
  refine lv_bipush (v := 16) hx hb d_ST_keepCounts_152 (by decide) ?_
  refine lv_isub hx hb d_ST_keepCounts_154 ?_
  obtain ⟨z6, h⟩ := un_if h
  refine w_iast S hK hI p5 z6 d_ST_keepCounts_155 (fun H locs F7 e8 hI => ?_)
  replace h := un_lt h _ e8
  refine lv_iinc (k := 1) (v := x4 + (1 : Int32)) (lv' := [(4, .int (x4 + (1 : Int32))), (0, .ref (mAd X i0)), (5, .int x5), (6, .int x6)]) hx hb d_ST_keepCounts_156 hl rfl rfl (by decide) rfl (fun ls hl => ?_)
  refine lv_goto (tgt := 70) hx hb d_ST_keepCounts_159 rfl ?_
  exact hk70 _ _ _ _ _ _ o0 hI (lv_sub hl [1, 0] rfl) h
def b_ST_keepCounts_110 (L : La) (k70 : Nat → Int32 → Mem → Option Mem) (k110 : Nat → Int32 → Int32 → Int32 → Mem → Option Mem) (i0 : Nat) (x4 : Int32) (x5 : Int32) (x6 : Int32) (F : Mem) : Option Mem :=
  if (4 : Int32) ≤ x6 then
    b_ST_keepCounts_132 L k70 i0 x4 x5 x6 F
  else
    if (16 : Int32) ≤ (jshl x5 x6) then
      b_ST_keepCounts_132 L k70 i0 x4 x5 x6 F
    else
      k110 i0 x4 x5 (x6 + (1 : Int32)) F
set_option maxHeartbeats 4000000 in
theorem t_ST_keepCounts_110 (hC : Cx X L p s m args meth c cc_ST_keepCounts 7 w_ST_keepCounts R_ST none) {k70 : Nat → Int32 → Mem → Option Mem} {k110 : Nat → Int32 → Int32 → Int32 → Mem → Option Mem} {out : Mem} (hk70 : ∀ (i0 : Nat) (x4 : Int32) (F : Mem) (H : Heap) (locs : List Loc) (ls : Array Slot), oO L 2 i0 → Iv X L s H locs F → lv_has ls 7 [(0, .ref (mAd X i0)), (4, .int x4)] → k70 i0 x4 F = some out → W p l e (headSpec w_ST_keepCounts r_ST_keepCounts).room s m args below meth c H locs 0 0 (MQ below (QV X L out) args s 0 0 (AA X L)) (F0 m 70 ls [])) (hk110 : ∀ (i0 : Nat) (x4 : Int32) (x5 : Int32) (x6 : Int32) (F : Mem) (H : Heap) (locs : List Loc) (ls : Array Slot), oO L 2 i0 → Iv X L s H locs F → lv_has ls 7 [(0, .ref (mAd X i0)), (4, .int x4), (5, .int x5), (6, .int x6)] → k110 i0 x4 x5 x6 F = some out → W p l e (headSpec w_ST_keepCounts r_ST_keepCounts).room s m args below meth c H locs 0 0 (MQ below (QV X L out) args s 0 0 (AA X L)) (F0 m 110 ls [])) {i0 : Nat} {x4 : Int32} {x5 : Int32} {x6 : Int32} {F : Mem} {H : Heap} {locs : List Loc} {ls : Array Slot} (o0 : oO L 2 i0) (hI : Iv X L s H locs F) (hl : lv_has ls 7 [(0, .ref (mAd X i0)), (4, .int x4), (5, .int x5), (6, .int x6)]) (h : b_ST_keepCounts_110 L k70 k110 i0 x4 x5 x6 F = some out) : W p l e (headSpec w_ST_keepCounts r_ST_keepCounts).room s m args below meth c H locs 0 0 (MQ below (QV X L out) args s 0 0 (AA X L)) (F0 m 110 ls []) := by
  unfold b_ST_keepCounts_110 at h
  obtain ⟨S, hK, hT, hW, hr, hlk⟩ := id hC
  have hx := S.1
  have hb := S.2.1
  refine lv_iload hx hb d_ST_keepCounts_110 (lv_at hl 3 rfl) ?_
  refine lv_iconst (v := 4) hx hb d_ST_keepCounts_112 rfl ?_
  refine lv_icmp_ge (tgt := 132) hx hb d_ST_keepCounts_113 rfl (fun hc => ?_) (fun hc => ?_)
  · replace h := (if_pos hc).symm.trans h
    exact t_ST_keepCounts_132 hC hk70 o0 hI hl h
  · replace h := (if_neg hc).symm.trans h
    refine lv_iload hx hb d_ST_keepCounts_116 (lv_at hl 2 rfl) ?_
    refine lv_iload hx hb d_ST_keepCounts_118 (lv_at hl 3 rfl) ?_
    refine lv_ishl hx hb d_ST_keepCounts_120 ?_
    refine lv_bipush (v := 16) hx hb d_ST_keepCounts_121 (by decide) ?_
    refine lv_icmp_ge (tgt := 132) hx hb d_ST_keepCounts_123 rfl (fun hc => ?_) (fun hc => ?_)
    · replace h := (if_pos hc).symm.trans h
      exact t_ST_keepCounts_132 hC hk70 o0 hI hl h
    · replace h := (if_neg hc).symm.trans h
      refine lv_iinc (k := 3) (v := x6 + (1 : Int32)) (lv' := [(6, .int (x6 + (1 : Int32))), (0, .ref (mAd X i0)), (4, .int x4), (5, .int x5)]) hx hb d_ST_keepCounts_126 hl rfl rfl (by decide) rfl (fun ls hl => ?_)
      refine lv_goto (tgt := 110) hx hb d_ST_keepCounts_129 rfl ?_
      exact hk110 _ _ _ _ _ _ _ _ o0 hI (lv_sub hl [1, 2, 3, 0] rfl) h
def f_ST_keepCounts_110 (L : La) (k70 : Nat → Int32 → Mem → Option Mem) : Nat → Nat → Int32 → Int32 → Int32 → Mem → Option Mem
  | 0 => fun _ _ _ _ _ => none
  | n + 1 => b_ST_keepCounts_110 L k70 (f_ST_keepCounts_110 L k70 n)
theorem tf_ST_keepCounts_110 (hC : Cx X L p s m args meth c cc_ST_keepCounts 7 w_ST_keepCounts R_ST none) {k70 : Nat → Int32 → Mem → Option Mem} {out : Mem} (hk70 : ∀ (i0 : Nat) (x4 : Int32) (F : Mem) (H : Heap) (locs : List Loc) (ls : Array Slot), oO L 2 i0 → Iv X L s H locs F → lv_has ls 7 [(0, .ref (mAd X i0)), (4, .int x4)] → k70 i0 x4 F = some out → W p l e (headSpec w_ST_keepCounts r_ST_keepCounts).room s m args below meth c H locs 0 0 (MQ below (QV X L out) args s 0 0 (AA X L)) (F0 m 70 ls [])) (n : Nat) : ∀ (i0 : Nat) (x4 : Int32) (x5 : Int32) (x6 : Int32) (F : Mem) (H : Heap) (locs : List Loc) (ls : Array Slot), oO L 2 i0 → Iv X L s H locs F → lv_has ls 7 [(0, .ref (mAd X i0)), (4, .int x4), (5, .int x5), (6, .int x6)] → f_ST_keepCounts_110 L k70 n i0 x4 x5 x6 F = some out → W p l e (headSpec w_ST_keepCounts r_ST_keepCounts).room s m args below meth c H locs 0 0 (MQ below (QV X L out) args s 0 0 (AA X L)) (F0 m 110 ls []) := by
  induction n with
  | zero => intro i0 x4 x5 x6 F H locs ls o0 hI hl h; cases h
  | succ n ih => intro i0 x4 x5 x6 F H locs ls o0 hI hl h; exact t_ST_keepCounts_110 hC hk70 ih o0 hI hl h
def b_ST_keepCounts_70 (L : La) (k70 : Nat → Int32 → Mem → Option Mem) (i0 : Nat) (x4 : Int32) (F : Mem) : Option Mem :=
  if (16 : Int32) ≤ x4 then
    some F
  else
    if inb x4 (mGl L (mRf L i0 1)) then none else
    if inb (mGa L F (mRf L i0 1) x4.toNatClampNeg) (mGl L (mRf L i0 4)) then none else
    if inb x4 (mGl L (mRf L i0 1)) then none else
    if inb (mGa L F (mRf L i0 1) x4.toNatClampNeg) (mGl L (mRf L i0 4)) then none else
    if inb (mGa L F (mRf L i0 1) x4.toNatClampNeg) (mLn L (mRf L i0 4)) ∨ ¬ (mRf L i0 4) < mNc L then none else
    lt' (u2 F (mRf L i0 4) (mGa L F (mRf L i0 1) x4.toNatClampNeg).toNatClampNeg ((mGa L F (mRf L i0 4) (mGa L F (mRf L i0 1) x4.toNatClampNeg).toNatClampNeg) + (1 : Int32))) fun F10 =>
    f_ST_keepCounts_110 L k70 mFU i0 x4 (mGa L F (mRf L i0 4) (mGa L F (mRf L i0 1) x4.toNatClampNeg).toNatClampNeg) (0 : Int32) F10
set_option maxHeartbeats 4000000 in
theorem t_ST_keepCounts_70 (hC : Cx X L p s m args meth c cc_ST_keepCounts 7 w_ST_keepCounts R_ST none) {k70 : Nat → Int32 → Mem → Option Mem} {out : Mem} (hk70 : ∀ (i0 : Nat) (x4 : Int32) (F : Mem) (H : Heap) (locs : List Loc) (ls : Array Slot), oO L 2 i0 → Iv X L s H locs F → lv_has ls 7 [(0, .ref (mAd X i0)), (4, .int x4)] → k70 i0 x4 F = some out → W p l e (headSpec w_ST_keepCounts r_ST_keepCounts).room s m args below meth c H locs 0 0 (MQ below (QV X L out) args s 0 0 (AA X L)) (F0 m 70 ls [])) {i0 : Nat} {x4 : Int32} {F : Mem} {H : Heap} {locs : List Loc} {ls : Array Slot} (o0 : oO L 2 i0) (hI : Iv X L s H locs F) (hl : lv_has ls 7 [(0, .ref (mAd X i0)), (4, .int x4)]) (h : b_ST_keepCounts_70 L k70 i0 x4 F = some out) : W p l e (headSpec w_ST_keepCounts r_ST_keepCounts).room s m args below meth c H locs 0 0 (MQ below (QV X L out) args s 0 0 (AA X L)) (F0 m 70 ls []) := by
  unfold b_ST_keepCounts_70 at h
  obtain ⟨S, hK, hT, hW, hr, hlk⟩ := id hC
  have hx := S.1
  have hb := S.2.1
  refine lv_iload hx hb d_ST_keepCounts_70 (lv_at hl 1 rfl) ?_
  refine lv_bipush (v := 16) hx hb d_ST_keepCounts_72 (by decide) ?_
  refine lv_icmp_ge (tgt := 162) hx hb d_ST_keepCounts_74 rfl (fun hc => ?_) (fun hc => ?_)
  · replace h := (if_pos hc).symm.trans h
    exact w_vret S hK hr hlk hI d_ST_keepCounts_162 h
  · replace h := (if_neg hc).symm.trans h
    refine lv_aload_n hx hb d_ST_keepCounts_77 rfl (lv_at hl 0 rfl) ?_
    have p1 := wt_a hW o0 4 rfl (by decide) (by decide)
    refine w_getR (T := T_ST) S hK hI o0 rfl hin_ST 4 (index := 24) (by decide) lf_ST_24 d_ST_keepCounts_78 ?_
    refine lv_aload_n hx hb d_ST_keepCounts_81 rfl (lv_at hl 0 rfl) ?_
    have p2 := wt_a hW o0 1 rfl (by decide) (by decide)
    refine w_getR (T := T_ST) S hK hI o0 rfl hin_ST 1 (index := 9) (by decide) lf_ST_9 d_ST_keepCounts_82 ?_
    refine lv_iload hx hb d_ST_keepCounts_85 (lv_at hl 1 rfl) ?_
    obtain ⟨z3, h⟩ := un_if h
    refine w_iald S hK hI hT p2 z3 d_ST_keepCounts_87 ?_
    obtain ⟨z4, h⟩ := un_if h
    refine w_iald S hK hI hT p1 z4 d_ST_keepCounts_88 ?_
    refine lv_istore (lv' := [(5, .int (mGa L F (mRf L i0 4) (mGa L F (mRf L i0 1) x4.toNatClampNeg).toNatClampNeg)), (0, .ref (mAd X i0)), (4, .int x4)]) hx hb d_ST_keepCounts_89 hl (by decide) rfl (fun ls hl => ?_)
    refine lv_aload_n hx hb d_ST_keepCounts_91 rfl (lv_at hl 1 rfl) ?_
    have p5 := wt_a hW o0 4 rfl (by decide) (by decide)
    refine w_getR (T := T_ST) S hK hI o0 rfl hin_ST 4 (index := 24) (by decide) lf_ST_24 d_ST_keepCounts_92 ?_
    refine lv_aload_n hx hb d_ST_keepCounts_95 rfl (lv_at hl 1 rfl) ?_
    have p6 := wt_a hW o0 1 rfl (by decide) (by decide)
    refine w_getR (T := T_ST) S hK hI o0 rfl hin_ST 1 (index := 9) (by decide) lf_ST_9 d_ST_keepCounts_96 ?_
    refine lv_iload hx hb d_ST_keepCounts_99 (lv_at hl 2 rfl) ?_
    obtain ⟨z7, h⟩ := un_if h
    refine w_iald S hK hI hT p6 z7 d_ST_keepCounts_101 ?_
    refine lv_dup2_11 hx hb d_ST_keepCounts_102 rfl rfl ?_
    obtain ⟨z8, h⟩ := un_if h
    refine w_iald S hK hI hT p5 z8 d_ST_keepCounts_103 ?_
    refine lv_iconst (v := 1) hx hb d_ST_keepCounts_104 rfl ?_
    refine lv_iadd hx hb d_ST_keepCounts_105 ?_
    obtain ⟨z9, h⟩ := un_if h
    refine w_iast S hK hI p5 z9 d_ST_keepCounts_106 (fun H locs F10 e11 hI => ?_)
    replace h := un_lt h _ e11
    refine lv_iconst (v := 0) hx hb d_ST_keepCounts_107 rfl ?_
    refine lv_istore (lv' := [(6, .int (0 : Int32)), (5, .int (mGa L F (mRf L i0 4) (mGa L F (mRf L i0 1) x4.toNatClampNeg).toNatClampNeg)), (0, .ref (mAd X i0)), (4, .int x4)]) hx hb d_ST_keepCounts_108 hl (by decide) rfl (fun ls hl => ?_)
    exact tf_ST_keepCounts_110 hC hk70 mFU _ _ _ _ _ _ _ _ o0 hI (lv_sub hl [2, 3, 1, 0] rfl) h
def f_ST_keepCounts_70 (L : La)  : Nat → Nat → Int32 → Mem → Option Mem
  | 0 => fun _ _ _ => none
  | n + 1 => b_ST_keepCounts_70 L (f_ST_keepCounts_70 L  n)
theorem tf_ST_keepCounts_70 (hC : Cx X L p s m args meth c cc_ST_keepCounts 7 w_ST_keepCounts R_ST none)  {out : Mem}  (n : Nat) : ∀ (i0 : Nat) (x4 : Int32) (F : Mem) (H : Heap) (locs : List Loc) (ls : Array Slot), oO L 2 i0 → Iv X L s H locs F → lv_has ls 7 [(0, .ref (mAd X i0)), (4, .int x4)] → f_ST_keepCounts_70 L  n i0 x4 F = some out → W p l e (headSpec w_ST_keepCounts r_ST_keepCounts).room s m args below meth c H locs 0 0 (MQ below (QV X L out) args s 0 0 (AA X L)) (F0 m 70 ls []) := by
  induction n with
  | zero => intro i0 x4 F H locs ls o0 hI hl h; cases h
  | succ n ih => intro i0 x4 F H locs ls o0 hI hl h; exact t_ST_keepCounts_70 hC ih o0 hI hl h
def b_ST_keepCounts_30 (L : La) (k10 : Nat → Nat → Int32 → Int32 → Int32 → Mem → Option Mem) (k30 : Nat → Nat → Int32 → Int32 → Int32 → Int32 → Mem → Option Mem) (i0 : Nat) (i1 : Nat) (x2 : Int32) (x3 : Int32) (x4 : Int32) (x5 : Int32) (F : Mem) : Option Mem :=
  if inb x4 (mGl L i1) then none else
  if (mGa L F i1 x4.toNatClampNeg) ≤ x5 then
    k10 i0 i1 x2 x3 (x4 + (1 : Int32)) F
  else
    if inb x3 (mLn L (mRf L i0 1)) ∨ ¬ (mRf L i0 1) < mNc L then none else
    lt' (u2 F (mRf L i0 1) x3.toNatClampNeg x4) fun F4 =>
    k30 i0 i1 x2 ((x3 + (13 : Int32)) &&& (15 : Int32)) x4 (x5 + (1 : Int32)) F4
set_option maxHeartbeats 4000000 in
theorem t_ST_keepCounts_30 (hC : Cx X L p s m args meth c cc_ST_keepCounts 7 w_ST_keepCounts R_ST none) {k10 : Nat → Nat → Int32 → Int32 → Int32 → Mem → Option Mem} {k30 : Nat → Nat → Int32 → Int32 → Int32 → Int32 → Mem → Option Mem} {out : Mem} (hk10 : ∀ (i0 : Nat) (i1 : Nat) (x2 : Int32) (x3 : Int32) (x4 : Int32) (F : Mem) (H : Heap) (locs : List Loc) (ls : Array Slot), oO L 2 i0 → oA L i1 → Iv X L s H locs F → lv_has ls 7 [(0, .ref (mAd X i0)), (1, .ref (mAd X i1)), (2, .int x2), (3, .int x3), (4, .int x4)] → k10 i0 i1 x2 x3 x4 F = some out → W p l e (headSpec w_ST_keepCounts r_ST_keepCounts).room s m args below meth c H locs 0 0 (MQ below (QV X L out) args s 0 0 (AA X L)) (F0 m 10 ls [])) (hk30 : ∀ (i0 : Nat) (i1 : Nat) (x2 : Int32) (x3 : Int32) (x4 : Int32) (x5 : Int32) (F : Mem) (H : Heap) (locs : List Loc) (ls : Array Slot), oO L 2 i0 → oA L i1 → Iv X L s H locs F → lv_has ls 7 [(0, .ref (mAd X i0)), (1, .ref (mAd X i1)), (2, .int x2), (3, .int x3), (4, .int x4), (5, .int x5)] → k30 i0 i1 x2 x3 x4 x5 F = some out → W p l e (headSpec w_ST_keepCounts r_ST_keepCounts).room s m args below meth c H locs 0 0 (MQ below (QV X L out) args s 0 0 (AA X L)) (F0 m 30 ls [])) {i0 : Nat} {i1 : Nat} {x2 : Int32} {x3 : Int32} {x4 : Int32} {x5 : Int32} {F : Mem} {H : Heap} {locs : List Loc} {ls : Array Slot} (o0 : oO L 2 i0) (o1 : oA L i1) (hI : Iv X L s H locs F) (hl : lv_has ls 7 [(0, .ref (mAd X i0)), (1, .ref (mAd X i1)), (2, .int x2), (3, .int x3), (4, .int x4), (5, .int x5)]) (h : b_ST_keepCounts_30 L k10 k30 i0 i1 x2 x3 x4 x5 F = some out) : W p l e (headSpec w_ST_keepCounts r_ST_keepCounts).room s m args below meth c H locs 0 0 (MQ below (QV X L out) args s 0 0 (AA X L)) (F0 m 30 ls []) := by
  unfold b_ST_keepCounts_30 at h
  obtain ⟨S, hK, hT, hW, hr, hlk⟩ := id hC
  have hx := S.1
  have hb := S.2.1
  refine lv_iload hx hb d_ST_keepCounts_30 (lv_at hl 5 rfl) ?_
  refine lv_aload_n hx hb d_ST_keepCounts_32 rfl (lv_at hl 1 rfl) ?_
  refine lv_iload hx hb d_ST_keepCounts_33 (lv_at hl 4 rfl) ?_
  obtain ⟨z1, h⟩ := un_if h
  refine w_iald S hK hI hT o1 z1 d_ST_keepCounts_35 ?_
  refine lv_icmp_ge (tgt := 61) hx hb d_ST_keepCounts_36 rfl (fun hc => ?_) (fun hc => ?_)
  · replace h := (if_pos hc).symm.trans h
    refine lv_iinc (k := 4) (v := x4 + (1 : Int32)) (lv' := [(4, .int (x4 + (1 : Int32))), (0, .ref (mAd X i0)), (1, .ref (mAd X i1)), (2, .int x2), (3, .int x3), (5, .int x5)]) hx hb d_ST_keepCounts_61 hl rfl rfl (by decide) rfl (fun ls hl => ?_)
    refine lv_goto (tgt := 10) hx hb d_ST_keepCounts_64 rfl ?_
    exact hk10 _ _ _ _ _ _ _ _ _ o0 o1 hI (lv_sub hl [1, 2, 3, 4, 0] rfl) h
  · replace h := (if_neg hc).symm.trans h
    refine lv_aload_n hx hb d_ST_keepCounts_39 rfl (lv_at hl 0 rfl) ?_
    have p2 := wt_a hW o0 1 rfl (by decide) (by decide)
    refine w_getR (T := T_ST) S hK hI o0 rfl hin_ST 1 (index := 9) (by decide) lf_ST_9 d_ST_keepCounts_40 ?_
    refine lv_iload_n hx hb d_ST_keepCounts_43 rfl (lv_at hl 3 rfl) ?_
    refine lv_iload hx hb d_ST_keepCounts_44 (lv_at hl 4 rfl) ?_
    obtain ⟨z3, h⟩ := un_if h
    refine w_iast S hK hI p2 z3 d_ST_keepCounts_46 (fun H locs F4 e5 hI => ?_)
    replace h := un_lt h _ e5
    refine lv_iload_n hx hb d_ST_keepCounts_47 rfl (lv_at hl 3 rfl) ?_
    refine lv_bipush (v := 13) hx hb d_ST_keepCounts_48 (by decide) ?_
    refine lv_iadd hx hb d_ST_keepCounts_50 ?_
    refine lv_bipush (v := 15) hx hb d_ST_keepCounts_51 (by decide) ?_
    refine lv_iand hx hb d_ST_keepCounts_53 ?_
    refine lv_istore_n (lv' := [(3, .int ((x3 + (13 : Int32)) &&& (15 : Int32))), (0, .ref (mAd X i0)), (1, .ref (mAd X i1)), (2, .int x2), (4, .int x4), (5, .int x5)]) hx hb d_ST_keepCounts_54 rfl hl (by decide) rfl (fun ls hl => ?_)
    refine lv_iinc (k := 5) (v := x5 + (1 : Int32)) (lv' := [(5, .int (x5 + (1 : Int32))), (3, .int ((x3 + (13 : Int32)) &&& (15 : Int32))), (0, .ref (mAd X i0)), (1, .ref (mAd X i1)), (2, .int x2), (4, .int x4)]) hx hb d_ST_keepCounts_55 hl rfl rfl (by decide) rfl (fun ls hl => ?_)
    refine lv_goto (tgt := 30) hx hb d_ST_keepCounts_58 rfl ?_
    exact hk30 _ _ _ _ _ _ _ _ _ _ o0 o1 hI (lv_sub hl [2, 3, 4, 1, 5, 0] rfl) h
def f_ST_keepCounts_30 (L : La) (k10 : Nat → Nat → Int32 → Int32 → Int32 → Mem → Option Mem) : Nat → Nat → Nat → Int32 → Int32 → Int32 → Int32 → Mem → Option Mem
  | 0 => fun _ _ _ _ _ _ _ => none
  | n + 1 => b_ST_keepCounts_30 L k10 (f_ST_keepCounts_30 L k10 n)
theorem tf_ST_keepCounts_30 (hC : Cx X L p s m args meth c cc_ST_keepCounts 7 w_ST_keepCounts R_ST none) {k10 : Nat → Nat → Int32 → Int32 → Int32 → Mem → Option Mem} {out : Mem} (hk10 : ∀ (i0 : Nat) (i1 : Nat) (x2 : Int32) (x3 : Int32) (x4 : Int32) (F : Mem) (H : Heap) (locs : List Loc) (ls : Array Slot), oO L 2 i0 → oA L i1 → Iv X L s H locs F → lv_has ls 7 [(0, .ref (mAd X i0)), (1, .ref (mAd X i1)), (2, .int x2), (3, .int x3), (4, .int x4)] → k10 i0 i1 x2 x3 x4 F = some out → W p l e (headSpec w_ST_keepCounts r_ST_keepCounts).room s m args below meth c H locs 0 0 (MQ below (QV X L out) args s 0 0 (AA X L)) (F0 m 10 ls [])) (n : Nat) : ∀ (i0 : Nat) (i1 : Nat) (x2 : Int32) (x3 : Int32) (x4 : Int32) (x5 : Int32) (F : Mem) (H : Heap) (locs : List Loc) (ls : Array Slot), oO L 2 i0 → oA L i1 → Iv X L s H locs F → lv_has ls 7 [(0, .ref (mAd X i0)), (1, .ref (mAd X i1)), (2, .int x2), (3, .int x3), (4, .int x4), (5, .int x5)] → f_ST_keepCounts_30 L k10 n i0 i1 x2 x3 x4 x5 F = some out → W p l e (headSpec w_ST_keepCounts r_ST_keepCounts).room s m args below meth c H locs 0 0 (MQ below (QV X L out) args s 0 0 (AA X L)) (F0 m 30 ls []) := by
  induction n with
  | zero => intro i0 i1 x2 x3 x4 x5 F H locs ls o0 o1 hI hl h; cases h
  | succ n ih => intro i0 i1 x2 x3 x4 x5 F H locs ls o0 o1 hI hl h; exact t_ST_keepCounts_30 hC hk10 ih o0 o1 hI hl h
def b_ST_keepCounts_10 (L : La) (k10 : Nat → Nat → Int32 → Int32 → Int32 → Mem → Option Mem) (i0 : Nat) (i1 : Nat) (x2 : Int32) (x3 : Int32) (x4 : Int32) (F : Mem) : Option Mem :=
  if x2 ≤ x4 then
    f_ST_keepCounts_70 L  mFU i0 (0 : Int32) F
  else
    if inb x4 (mGl L i1) then none else
    if inb x4 (mLn L (mRf L i0 4)) ∨ ¬ (mRf L i0 4) < mNc L then none else
    lt' (u2 F (mRf L i0 4) x4.toNatClampNeg (mGa L F i1 x4.toNatClampNeg)) fun F4 =>
    f_ST_keepCounts_30 L k10 mFU i0 i1 x2 x3 x4 (0 : Int32) F4
set_option maxHeartbeats 4000000 in
theorem t_ST_keepCounts_10 (hC : Cx X L p s m args meth c cc_ST_keepCounts 7 w_ST_keepCounts R_ST none) {k10 : Nat → Nat → Int32 → Int32 → Int32 → Mem → Option Mem} {out : Mem} (hk10 : ∀ (i0 : Nat) (i1 : Nat) (x2 : Int32) (x3 : Int32) (x4 : Int32) (F : Mem) (H : Heap) (locs : List Loc) (ls : Array Slot), oO L 2 i0 → oA L i1 → Iv X L s H locs F → lv_has ls 7 [(0, .ref (mAd X i0)), (1, .ref (mAd X i1)), (2, .int x2), (3, .int x3), (4, .int x4)] → k10 i0 i1 x2 x3 x4 F = some out → W p l e (headSpec w_ST_keepCounts r_ST_keepCounts).room s m args below meth c H locs 0 0 (MQ below (QV X L out) args s 0 0 (AA X L)) (F0 m 10 ls [])) {i0 : Nat} {i1 : Nat} {x2 : Int32} {x3 : Int32} {x4 : Int32} {F : Mem} {H : Heap} {locs : List Loc} {ls : Array Slot} (o0 : oO L 2 i0) (o1 : oA L i1) (hI : Iv X L s H locs F) (hl : lv_has ls 7 [(0, .ref (mAd X i0)), (1, .ref (mAd X i1)), (2, .int x2), (3, .int x3), (4, .int x4)]) (h : b_ST_keepCounts_10 L k10 i0 i1 x2 x3 x4 F = some out) : W p l e (headSpec w_ST_keepCounts r_ST_keepCounts).room s m args below meth c H locs 0 0 (MQ below (QV X L out) args s 0 0 (AA X L)) (F0 m 10 ls []) := by
  unfold b_ST_keepCounts_10 at h
  obtain ⟨S, hK, hT, hW, hr, hlk⟩ := id hC
  have hx := S.1
  have hb := S.2.1
  refine lv_iload hx hb d_ST_keepCounts_10 (lv_at hl 4 rfl) ?_
  refine lv_iload_n hx hb d_ST_keepCounts_12 rfl (lv_at hl 2 rfl) ?_
  refine lv_icmp_ge (tgt := 67) hx hb d_ST_keepCounts_13 rfl (fun hc => ?_) (fun hc => ?_)
  · replace h := (if_pos hc).symm.trans h
    refine lv_iconst (v := 0) hx hb d_ST_keepCounts_67 rfl ?_
    refine lv_istore (lv' := [(4, .int (0 : Int32)), (0, .ref (mAd X i0)), (1, .ref (mAd X i1)), (2, .int x2), (3, .int x3)]) hx hb d_ST_keepCounts_68 hl (by decide) rfl (fun ls hl => ?_)
    exact tf_ST_keepCounts_70 hC  mFU _ _ _ _ _ _ o0 hI (lv_sub hl [1, 0] rfl) h
  · replace h := (if_neg hc).symm.trans h
    refine lv_aload_n hx hb d_ST_keepCounts_16 rfl (lv_at hl 0 rfl) ?_
    have p1 := wt_a hW o0 4 rfl (by decide) (by decide)
    refine w_getR (T := T_ST) S hK hI o0 rfl hin_ST 4 (index := 24) (by decide) lf_ST_24 d_ST_keepCounts_17 ?_
    refine lv_iload hx hb d_ST_keepCounts_20 (lv_at hl 4 rfl) ?_
    refine lv_aload_n hx hb d_ST_keepCounts_22 rfl (lv_at hl 1 rfl) ?_
    refine lv_iload hx hb d_ST_keepCounts_23 (lv_at hl 4 rfl) ?_
    obtain ⟨z2, h⟩ := un_if h
    refine w_iald S hK hI hT o1 z2 d_ST_keepCounts_25 ?_
    obtain ⟨z3, h⟩ := un_if h
    refine w_iast S hK hI p1 z3 d_ST_keepCounts_26 (fun H locs F4 e5 hI => ?_)
    replace h := un_lt h _ e5
    refine lv_iconst (v := 0) hx hb d_ST_keepCounts_27 rfl ?_
    refine lv_istore (lv' := [(5, .int (0 : Int32)), (0, .ref (mAd X i0)), (1, .ref (mAd X i1)), (2, .int x2), (3, .int x3), (4, .int x4)]) hx hb d_ST_keepCounts_28 hl (by decide) rfl (fun ls hl => ?_)
    exact tf_ST_keepCounts_30 hC hk10 mFU _ _ _ _ _ _ _ _ _ _ o0 o1 hI (lv_sub hl [1, 2, 3, 4, 5, 0] rfl) h
def f_ST_keepCounts_10 (L : La)  : Nat → Nat → Nat → Int32 → Int32 → Int32 → Mem → Option Mem
  | 0 => fun _ _ _ _ _ _ => none
  | n + 1 => b_ST_keepCounts_10 L (f_ST_keepCounts_10 L  n)
theorem tf_ST_keepCounts_10 (hC : Cx X L p s m args meth c cc_ST_keepCounts 7 w_ST_keepCounts R_ST none)  {out : Mem}  (n : Nat) : ∀ (i0 : Nat) (i1 : Nat) (x2 : Int32) (x3 : Int32) (x4 : Int32) (F : Mem) (H : Heap) (locs : List Loc) (ls : Array Slot), oO L 2 i0 → oA L i1 → Iv X L s H locs F → lv_has ls 7 [(0, .ref (mAd X i0)), (1, .ref (mAd X i1)), (2, .int x2), (3, .int x3), (4, .int x4)] → f_ST_keepCounts_10 L  n i0 i1 x2 x3 x4 F = some out → W p l e (headSpec w_ST_keepCounts r_ST_keepCounts).room s m args below meth c H locs 0 0 (MQ below (QV X L out) args s 0 0 (AA X L)) (F0 m 10 ls []) := by
  induction n with
  | zero => intro i0 i1 x2 x3 x4 F H locs ls o0 o1 hI hl h; cases h
  | succ n ih => intro i0 i1 x2 x3 x4 F H locs ls o0 o1 hI hl h; exact t_ST_keepCounts_10 hC ih o0 o1 hI hl h
def f_ST_keepCounts (L : La) (i0 : Nat) (i1 : Nat) (x2 : Int32) (F : Mem) : Option Mem :=
  lt' (u2 F i0 5 (4 : Int32)) fun F1 =>
  f_ST_keepCounts_10 L  mFU i0 i1 x2 (0 : Int32) (0 : Int32) F1
set_option maxHeartbeats 4000000 in
theorem c_ST_keepCounts (l : Launch) {X : Xs} {L : La} (hW : WT L) {out : Mem} {i0 : Nat} {i1 : Nat} {x2 : Int32} {F : Mem} (o0 : oO L 2 i0) (o1 : oA L i1) (h : f_ST_keepCounts L i0 i1 x2 F = some out) : Met l y_ST_keepCounts w_ST_keepCounts r_ST_keepCounts (va_Pc [.ref (mAd X i0), .ref (mAd X i1), .int x2] (Pr X L F)) (QV X L out) 0 0 (AA X L) := by
  refine mk_met (by decide) rfl (Nat.le_of_ble_eq_true rfl) hW ?_
  intro p e s m args below meth c ls hC hI hl
  have hl : lv_has ls 7 [(0, .ref (mAd X i0)), (1, .ref (mAd X i1)), (2, .int x2)] := hl
  generalize hHe : s.heap = H at hI ⊢
  generalize ([] : List Loc) = locs at hI ⊢
  unfold f_ST_keepCounts at h
  obtain ⟨S, hK, hT, hW, hr, hlk⟩ := id hC
  have hx := S.1
  have hb := S.2.1
  refine lv_aload_n hx hb d_ST_keepCounts_0 rfl (lv_at hl 0 rfl) ?_
  refine lv_iconst (v := 4) hx hb d_ST_keepCounts_1 rfl ?_
  refine w_putI (T := T_ST) S hK hI o0 rfl hin_ST ty_ST tk_ST nm_ST 5 (index := 31) (by decide) lf_ST_31 rfl d_ST_keepCounts_2 (fun H locs F1 e2 hI => ?_)
  replace h := un_lt h _ e2
  refine lv_iconst (v := 0) hx hb d_ST_keepCounts_5 rfl ?_
  refine lv_istore_n (lv' := [(3, .int (0 : Int32)), (0, .ref (mAd X i0)), (1, .ref (mAd X i1)), (2, .int x2)]) hx hb d_ST_keepCounts_6 rfl hl (by decide) rfl (fun ls hl => ?_)
  refine lv_iconst (v := 0) hx hb d_ST_keepCounts_7 rfl ?_
  refine lv_istore (lv' := [(4, .int (0 : Int32)), (3, .int (0 : Int32)), (0, .ref (mAd X i0)), (1, .ref (mAd X i1)), (2, .int x2)]) hx hb d_ST_keepCounts_8 hl (by decide) rfl (fun ls hl => ?_)
  exact tf_ST_keepCounts_10 hC  mFU _ _ _ _ _ _ _ _ _ o0 o1 hI (lv_sub hl [2, 3, 4, 1, 0] rfl) h
end
theorem d_Row_hasRoom_0 : decode cc_Row_hasRoom 0 = .ok (.iload_n 1, 1) := by decide +kernel
theorem d_Row_hasRoom_1 : decode cc_Row_hasRoom 1 = .ok (.aload_n 0, 1) := by decide +kernel
theorem d_Row_hasRoom_2 : decode cc_Row_hasRoom 2 = .ok (.getfield 9, 3) := by decide +kernel
theorem d_Row_hasRoom_5 : decode cc_Row_hasRoom 5 = .ok (.arraylength, 1) := by decide +kernel
theorem d_Row_hasRoom_6 : decode cc_Row_hasRoom 6 = .ok (.aload_n 0, 1) := by decide +kernel
theorem d_Row_hasRoom_7 : decode cc_Row_hasRoom 7 = .ok (.getfield 15, 3) := by decide +kernel
theorem d_Row_hasRoom_10 : decode cc_Row_hasRoom 10 = .ok (.isub, 1) := by decide +kernel
theorem d_Row_hasRoom_11 : decode cc_Row_hasRoom 11 = .ok (.if_icmp .gt (7), 3) := by decide +kernel
theorem d_Row_hasRoom_14 : decode cc_Row_hasRoom 14 = .ok (.iconst 1, 1) := by decide +kernel
theorem d_Row_hasRoom_15 : decode cc_Row_hasRoom 15 = .ok (.goto (4), 3) := by decide +kernel
theorem d_Row_hasRoom_18 : decode cc_Row_hasRoom 18 = .ok (.iconst 0, 1) := by decide +kernel
theorem d_Row_hasRoom_19 : decode cc_Row_hasRoom 19 = .ok (.ireturn, 1) := by decide +kernel
section
variable {p : Program} {l : Launch} {e : Env} {s : State} {m : MethodId} {args : Array Value} {below : List Frame} {meth : Method} {c : Code} {X : Xs} {L : La}
def b_Row_hasRoom_19 (L : La)  (y0 : Int32) (F : Mem) : Option (Int32 × Mem) :=
  if y0 = 0 ∨ y0 = 1 then some (y0, F) else none
set_option maxHeartbeats 4000000 in
theorem t_Row_hasRoom_19 (hC : Cx X L p s m args meth c cc_Row_hasRoom 2 w_Row_hasRoom R_Row (some .boolean))  {out : (Int32 × Mem)}  {y0 : Int32} {F : Mem} {H : Heap} {locs : List Loc} {ls : Array Slot}  (hI : Iv X L s H locs F) (hl : lv_has ls 2 []) (h : b_Row_hasRoom_19 L  y0 F = some out) : W p l e (headSpec w_Row_hasRoom r_Row_hasRoom).room s m args below meth c H locs 0 0 (MQ below (QI X L out) args s 0 0 (AA X L)) (F0 m 19 ls [.int y0]) := by
  unfold b_Row_hasRoom_19 at h
  obtain ⟨S, hK, hT, hW, hr, hlk⟩ := id hC
  have hx := S.1
  have hb := S.2.1
  exact w_zret S hK hr hlk hI d_Row_hasRoom_19 h
def f_Row_hasRoom (L : La) (i0 : Nat) (x1 : Int32) (F : Mem) : Option (Int32 × Mem) :=
  if ((nI (mGl L (mRf L i0 0))) - (F i0 1)) < x1 then
    b_Row_hasRoom_19 L  (0 : Int32) F
  else
    b_Row_hasRoom_19 L  (1 : Int32) F
set_option maxHeartbeats 4000000 in
theorem c_Row_hasRoom (l : Launch) {X : Xs} {L : La} (hW : WT L) {out : (Int32 × Mem)} {i0 : Nat} {x1 : Int32} {F : Mem} (o0 : oO L 1 i0) (h : f_Row_hasRoom L i0 x1 F = some out) : Met l y_Row_hasRoom w_Row_hasRoom r_Row_hasRoom (va_Pc [.ref (mAd X i0), .int x1] (Pr X L F)) (QI X L out) 0 0 (AA X L) := by
  refine mk_met (by decide) rfl (Nat.le_of_ble_eq_true rfl) hW ?_
  intro p e s m args below meth c ls hC hI hl
  have hl : lv_has ls 2 [(0, .ref (mAd X i0)), (1, .int x1)] := hl
  generalize hHe : s.heap = H at hI ⊢
  generalize ([] : List Loc) = locs at hI ⊢
  unfold f_Row_hasRoom at h
  obtain ⟨S, hK, hT, hW, hr, hlk⟩ := id hC
  have hx := S.1
  have hb := S.2.1
  refine lv_iload_n hx hb d_Row_hasRoom_0 rfl (lv_at hl 1 rfl) ?_
  refine lv_aload_n hx hb d_Row_hasRoom_1 rfl (lv_at hl 0 rfl) ?_
  have p1 := wt_a hW o0 0 rfl (by decide) (by decide)
  refine w_getR (T := T_Row) S hK hI o0 rfl hin_Row 0 (index := 9) (by decide) lf_Row_9 d_Row_hasRoom_2 ?_
  refine w_alen S hK hI hT p1 d_Row_hasRoom_5 ?_
  refine lv_aload_n hx hb d_Row_hasRoom_6 rfl (lv_at hl 0 rfl) ?_
  refine w_getI (T := T_Row) S hK hI o0 rfl hin_Row 1 (index := 15) (by decide) lf_Row_15 d_Row_hasRoom_7 ?_
  refine lv_isub hx hb d_Row_hasRoom_10 ?_
  refine lv_icmp_gt (tgt := 18) hx hb d_Row_hasRoom_11 rfl (fun hc => ?_) (fun hc => ?_)
  · replace h := (if_pos hc).symm.trans h
    refine lv_iconst (v := 0) hx hb d_Row_hasRoom_18 rfl ?_
    exact t_Row_hasRoom_19 hC   hI (lv_sub hl [] rfl) h
  · replace h := (if_neg hc).symm.trans h
    refine lv_iconst (v := 1) hx hb d_Row_hasRoom_14 rfl ?_
    refine lv_goto (tgt := 19) hx hb d_Row_hasRoom_15 rfl ?_
    exact t_Row_hasRoom_19 hC   hI (lv_sub hl [] rfl) h
end
theorem d_Row_add_0 : decode cc_Row_add 0 = .ok (.aload_n 0, 1) := by decide +kernel
theorem d_Row_add_1 : decode cc_Row_add 1 = .ok (.getfield 15, 3) := by decide +kernel
theorem d_Row_add_4 : decode cc_Row_add 4 = .ok (.aload_n 0, 1) := by decide +kernel
theorem d_Row_add_5 : decode cc_Row_add 5 = .ok (.getfield 9, 3) := by decide +kernel
theorem d_Row_add_8 : decode cc_Row_add 8 = .ok (.arraylength, 1) := by decide +kernel
theorem d_Row_add_9 : decode cc_Row_add 9 = .ok (.if_icmp .ge (27), 3) := by decide +kernel
theorem d_Row_add_12 : decode cc_Row_add 12 = .ok (.aload_n 0, 1) := by decide +kernel
theorem d_Row_add_13 : decode cc_Row_add 13 = .ok (.getfield 9, 3) := by decide +kernel
theorem d_Row_add_16 : decode cc_Row_add 16 = .ok (.aload_n 0, 1) := by decide +kernel
theorem d_Row_add_17 : decode cc_Row_add 17 = .ok (.getfield 15, 3) := by decide +kernel
theorem d_Row_add_20 : decode cc_Row_add 20 = .ok (.iload_n 1, 1) := by decide +kernel
theorem d_Row_add_21 : decode cc_Row_add 21 = .ok (.sipush (255), 3) := by decide +kernel
theorem d_Row_add_24 : decode cc_Row_add 24 = .ok (.iand, 1) := by decide +kernel
theorem d_Row_add_25 : decode cc_Row_add 25 = .ok (.iastore, 1) := by decide +kernel
theorem d_Row_add_26 : decode cc_Row_add 26 = .ok (.aload_n 0, 1) := by decide +kernel
theorem d_Row_add_27 : decode cc_Row_add 27 = .ok (.dup, 1) := by decide +kernel
theorem d_Row_add_28 : decode cc_Row_add 28 = .ok (.getfield 15, 3) := by decide +kernel
theorem d_Row_add_31 : decode cc_Row_add 31 = .ok (.iconst 1, 1) := by decide +kernel
theorem d_Row_add_32 : decode cc_Row_add 32 = .ok (.iadd, 1) := by decide +kernel
theorem d_Row_add_33 : decode cc_Row_add 33 = .ok (.putfield 15, 3) := by decide +kernel
theorem d_Row_add_36 : decode cc_Row_add 36 = .ok (.return_, 1) := by decide +kernel
section
variable {p : Program} {l : Launch} {e : Env} {s : State} {m : MethodId} {args : Array Value} {below : List Frame} {meth : Method} {c : Code} {X : Xs} {L : La}
def b_Row_add_36 (L : La)   (F : Mem) : Option Mem :=
  some F
set_option maxHeartbeats 4000000 in
theorem t_Row_add_36 (hC : Cx X L p s m args meth c cc_Row_add 2 w_Row_add R_Row none)  {out : Mem}   {F : Mem} {H : Heap} {locs : List Loc} {ls : Array Slot}  (hI : Iv X L s H locs F) (hl : lv_has ls 2 []) (h : b_Row_add_36 L   F = some out) : W p l e (headSpec w_Row_add r_Row_add).room s m args below meth c H locs 0 0 (MQ below (QV X L out) args s 0 0 (AA X L)) (F0 m 36 ls []) := by
  unfold b_Row_add_36 at h
  obtain ⟨S, hK, hT, hW, hr, hlk⟩ := id hC
  have hx := S.1
  have hb := S.2.1
  exact w_vret S hK hr hlk hI d_Row_add_36 h
def f_Row_add (L : La) (i0 : Nat) (x1 : Int32) (F : Mem) : Option Mem :=
  if (nI (mGl L (mRf L i0 0))) ≤ (F i0 1) then
    b_Row_add_36 L   F
  else
    if inb (F i0 1) (mLn L (mRf L i0 0)) ∨ ¬ (mRf L i0 0) < mNc L then none else
    lt' (u2 F (mRf L i0 0) (F i0 1).toNatClampNeg (x1 &&& (255 : Int32))) fun F4 =>
    lt' (u2 F4 i0 1 ((F4 i0 1) + (1 : Int32))) fun F6 =>
    b_Row_add_36 L   F6
set_option maxHeartbeats 4000000 in
theorem c_Row_add (l : Launch) {X : Xs} {L : La} (hW : WT L) {out : Mem} {i0 : Nat} {x1 : Int32} {F : Mem} (o0 : oO L 1 i0) (h : f_Row_add L i0 x1 F = some out) : Met l y_Row_add w_Row_add r_Row_add (va_Pc [.ref (mAd X i0), .int x1] (Pr X L F)) (QV X L out) 0 0 (AA X L) := by
  refine mk_met (by decide) rfl (Nat.le_of_ble_eq_true rfl) hW ?_
  intro p e s m args below meth c ls hC hI hl
  have hl : lv_has ls 2 [(0, .ref (mAd X i0)), (1, .int x1)] := hl
  generalize hHe : s.heap = H at hI ⊢
  generalize ([] : List Loc) = locs at hI ⊢
  unfold f_Row_add at h
  obtain ⟨S, hK, hT, hW, hr, hlk⟩ := id hC
  have hx := S.1
  have hb := S.2.1
  refine lv_aload_n hx hb d_Row_add_0 rfl (lv_at hl 0 rfl) ?_
  refine w_getI (T := T_Row) S hK hI o0 rfl hin_Row 1 (index := 15) (by decide) lf_Row_15 d_Row_add_1 ?_
  refine lv_aload_n hx hb d_Row_add_4 rfl (lv_at hl 0 rfl) ?_
  have p1 := wt_a hW o0 0 rfl (by decide) (by decide)
  refine w_getR (T := T_Row) S hK hI o0 rfl hin_Row 0 (index := 9) (by decide) lf_Row_9 d_Row_add_5 ?_
  refine w_alen S hK hI hT p1 d_Row_add_8 ?_
  refine lv_icmp_ge (tgt := 36) hx hb d_Row_add_9 rfl (fun hc => ?_) (fun hc => ?_)
  · replace h := (if_pos hc).symm.trans h
    exact t_Row_add_36 hC   hI (lv_sub hl [] rfl) h
  · replace h := (if_neg hc).symm.trans h
    refine lv_aload_n hx hb d_Row_add_12 rfl (lv_at hl 0 rfl) ?_
    have p2 := wt_a hW o0 0 rfl (by decide) (by decide)
    refine w_getR (T := T_Row) S hK hI o0 rfl hin_Row 0 (index := 9) (by decide) lf_Row_9 d_Row_add_13 ?_
    refine lv_aload_n hx hb d_Row_add_16 rfl (lv_at hl 0 rfl) ?_
    refine w_getI (T := T_Row) S hK hI o0 rfl hin_Row 1 (index := 15) (by decide) lf_Row_15 d_Row_add_17 ?_
    refine lv_iload_n hx hb d_Row_add_20 rfl (lv_at hl 1 rfl) ?_
    refine lv_sipush (v := 255) hx hb d_Row_add_21 (by decide) ?_
    refine lv_iand hx hb d_Row_add_24 ?_
    obtain ⟨z3, h⟩ := un_if h
    refine w_iast S hK hI p2 z3 d_Row_add_25 (fun H locs F4 e5 hI => ?_)
    replace h := un_lt h _ e5
    refine lv_aload_n hx hb d_Row_add_26 rfl (lv_at hl 0 rfl) ?_
    refine lv_dup hx hb d_Row_add_27 rfl ?_
    refine w_getI (T := T_Row) S hK hI o0 rfl hin_Row 1 (index := 15) (by decide) lf_Row_15 d_Row_add_28 ?_
    refine lv_iconst (v := 1) hx hb d_Row_add_31 rfl ?_
    refine lv_iadd hx hb d_Row_add_32 ?_
    refine w_putI (T := T_Row) S hK hI o0 rfl hin_Row ty_Row tk_Row nm_Row 1 (index := 15) (by decide) lf_Row_15 rfl d_Row_add_33 (fun H locs F6 e7 hI => ?_)
    replace h := un_lt h _ e7
    exact t_Row_add_36 hC   hI (lv_sub hl [] rfl) h
end
theorem d_Row_addLowest_0 : decode cc_Row_addLowest 0 = .ok (.iload_n 1, 1) := by decide +kernel
theorem d_Row_addLowest_1 : decode cc_Row_addLowest 1 = .ok (.iconst 1, 1) := by decide +kernel
theorem d_Row_addLowest_2 : decode cc_Row_addLowest 2 = .ok (.if_icmp .lt (17), 3) := by decide +kernel
theorem d_Row_addLowest_5 : decode cc_Row_addLowest 5 = .ok (.iload_n 1, 1) := by decide +kernel
theorem d_Row_addLowest_6 : decode cc_Row_addLowest 6 = .ok (.bipush (8), 2) := by decide +kernel
theorem d_Row_addLowest_8 : decode cc_Row_addLowest 8 = .ok (.if_icmp .gt (11), 3) := by decide +kernel
theorem d_Row_addLowest_11 : decode cc_Row_addLowest 11 = .ok (.aload_n 0, 1) := by decide +kernel
theorem d_Row_addLowest_12 : decode cc_Row_addLowest 12 = .ok (.iload_n 1, 1) := by decide +kernel
theorem d_Row_addLowest_13 : decode cc_Row_addLowest 13 = .ok (.invokevirtual 23, 3) := by decide +kernel
theorem d_Row_addLowest_16 : decode cc_Row_addLowest 16 = .ok (.ifCond .ne (5), 3) := by decide +kernel
theorem d_Row_addLowest_19 : decode cc_Row_addLowest 19 = .ok (.iconst 0, 1) := by decide +kernel
theorem d_Row_addLowest_20 : decode cc_Row_addLowest 20 = .ok (.ireturn, 1) := by decide +kernel
theorem d_Row_addLowest_21 : decode cc_Row_addLowest 21 = .ok (.iload_n 1, 1) := by decide +kernel
theorem d_Row_addLowest_22 : decode cc_Row_addLowest 22 = .ok (.iconst 1, 1) := by decide +kernel
theorem d_Row_addLowest_23 : decode cc_Row_addLowest 23 = .ok (.isub, 1) := by decide +kernel
theorem d_Row_addLowest_24 : decode cc_Row_addLowest 24 = .ok (.istore 4, 2) := by decide +kernel
theorem d_Row_addLowest_26 : decode cc_Row_addLowest 26 = .ok (.iload 4, 2) := by decide +kernel
theorem d_Row_addLowest_28 : decode cc_Row_addLowest 28 = .ok (.ifCond .lt (21), 3) := by decide +kernel
theorem d_Row_addLowest_31 : decode cc_Row_addLowest 31 = .ok (.aload_n 0, 1) := by decide +kernel
theorem d_Row_addLowest_32 : decode cc_Row_addLowest 32 = .ok (.lload_n 2, 1) := by decide +kernel
theorem d_Row_addLowest_33 : decode cc_Row_addLowest 33 = .ok (.bipush (8), 2) := by decide +kernel
theorem d_Row_addLowest_35 : decode cc_Row_addLowest 35 = .ok (.iload 4, 2) := by decide +kernel
theorem d_Row_addLowest_37 : decode cc_Row_addLowest 37 = .ok (.imul, 1) := by decide +kernel
theorem d_Row_addLowest_38 : decode cc_Row_addLowest 38 = .ok (.lushr, 1) := by decide +kernel
theorem d_Row_addLowest_39 : decode cc_Row_addLowest 39 = .ok (.l2i, 1) := by decide +kernel
theorem d_Row_addLowest_40 : decode cc_Row_addLowest 40 = .ok (.invokevirtual 19, 3) := by decide +kernel
theorem d_Row_addLowest_43 : decode cc_Row_addLowest 43 = .ok (.iinc 4 (-1), 3) := by decide +kernel
theorem d_Row_addLowest_46 : decode cc_Row_addLowest 46 = .ok (.goto (-20), 3) := by decide +kernel
theorem d_Row_addLowest_49 : decode cc_Row_addLowest 49 = .ok (.iconst 1, 1) := by decide +kernel
theorem d_Row_addLowest_50 : decode cc_Row_addLowest 50 = .ok (.ireturn, 1) := by decide +kernel
section
variable {p : Program} {l : Launch} {e : Env} {s : State} {m : MethodId} {args : Array Value} {below : List Frame} {meth : Method} {c : Code} {X : Xs} {L : La}
def b_Row_addLowest_19 (L : La)   (F : Mem) : Option (Int32 × Mem) :=
  if (0 : Int32) = 0 ∨ (0 : Int32) = 1 then some ((0 : Int32), F) else none
set_option maxHeartbeats 4000000 in
theorem t_Row_addLowest_19 (hC : Cx X L p s m args meth c cc_Row_addLowest 5 w_Row_addLowest R_Row (some .boolean))  {out : (Int32 × Mem)}   {F : Mem} {H : Heap} {locs : List Loc} {ls : Array Slot}  (hI : Iv X L s H locs F) (hl : lv_has ls 5 []) (h : b_Row_addLowest_19 L   F = some out) : W p l e (headSpec w_Row_addLowest r_Row_addLowest).room s m args below meth c H locs 0 0 (MQ below (QI X L out) args s 0 0 (AA X L)) (F0 m 19 ls []) := by
  unfold b_Row_addLowest_19 at h
  obtain ⟨S, hK, hT, hW, hr, hlk⟩ := id hC
  have hx := S.1
  have hb := S.2.1
  refine lv_iconst (v := 0) hx hb d_Row_addLowest_19 rfl ?_
  exact w_zret S hK hr hlk hI d_Row_addLowest_20 h
def b_Row_addLowest_26 (L : La) (k26 : Nat → Int64 → Int32 → Mem → Option (Int32 × Mem)) (i0 : Nat) (x2 : Int64) (x4 : Int32) (F : Mem) : Option (Int32 × Mem) :=
  if x4 < 0 then
    if (1 : Int32) = 0 ∨ (1 : Int32) = 1 then some ((1 : Int32), F) else none
  else
    (f_Row_add L i0 ((jlushr x2 ((8 : Int32) * x4)).toInt32) F).bind fun F1 =>
    k26 i0 x2 (x4 + (-1 : Int32)) F1
set_option maxHeartbeats 4000000 in
theorem t_Row_addLowest_26 (hC : Cx X L p s m args meth c cc_Row_addLowest 5 w_Row_addLowest R_Row (some .boolean)) {k26 : Nat → Int64 → Int32 → Mem → Option (Int32 × Mem)} {out : (Int32 × Mem)} (hk26 : ∀ (i0 : Nat) (x2 : Int64) (x4 : Int32) (F : Mem) (H : Heap) (locs : List Loc) (ls : Array Slot), oO L 1 i0 → Iv X L s H locs F → lv_has ls 5 [(0, .ref (mAd X i0)), (2, .long x2), (4, .int x4)] → k26 i0 x2 x4 F = some out → W p l e (headSpec w_Row_addLowest r_Row_addLowest).room s m args below meth c H locs 0 0 (MQ below (QI X L out) args s 0 0 (AA X L)) (F0 m 26 ls [])) {i0 : Nat} {x2 : Int64} {x4 : Int32} {F : Mem} {H : Heap} {locs : List Loc} {ls : Array Slot} (o0 : oO L 1 i0) (hI : Iv X L s H locs F) (hl : lv_has ls 5 [(0, .ref (mAd X i0)), (2, .long x2), (4, .int x4)]) (h : b_Row_addLowest_26 L k26 i0 x2 x4 F = some out) : W p l e (headSpec w_Row_addLowest r_Row_addLowest).room s m args below meth c H locs 0 0 (MQ below (QI X L out) args s 0 0 (AA X L)) (F0 m 26 ls []) := by
  unfold b_Row_addLowest_26 at h
  obtain ⟨S, hK, hT, hW, hr, hlk⟩ := id hC
  have hx := S.1
  have hb := S.2.1
  refine lv_iload hx hb d_Row_addLowest_26 (lv_at hl 2 rfl) ?_
  refine lv_if_lt (tgt := 49) hx hb d_Row_addLowest_28 rfl (fun hc => ?_) (fun hc => ?_)
  · replace h := (if_pos hc).symm.trans h
    refine lv_iconst (v := 1) hx hb d_Row_addLowest_49 rfl ?_
    exact w_zret S hK hr hlk hI d_Row_addLowest_50 h
  · replace h := (if_neg hc).symm.trans h
    refine lv_aload_n hx hb d_Row_addLowest_31 rfl (lv_at hl 0 rfl) ?_
    refine lv_lload_n hx hb d_Row_addLowest_32 rfl (lv_at hl 1 rfl) ?_
    refine lv_bipush (v := 8) hx hb d_Row_addLowest_33 (by decide) ?_
    refine lv_iload hx hb d_Row_addLowest_35 (lv_at hl 2 rfl) ?_
    refine lv_imul hx hb d_Row_addLowest_37 ?_
    refine lv_lushr hx hb d_Row_addLowest_38 rfl ?_
    refine lv_l2i hx hb d_Row_addLowest_39 rfl ?_
    obtain ⟨F1, e2, h⟩ := un_bi h
    refine w_callVv (As := [.int ((jlushr x2 ((8 : Int32) * x4)).toInt32)]) (rest := []) S hK hI hT (c_Row_add l hW o0 e2) (cwV 1 S.2.2.2.2 (gd_V lc_Row_add lm_Row_19 li_Row_add ls_Row_add ln_Row) rfl rfl rfl hd_Row_add ⟨Nat.le_of_ble_eq_true rfl, Nat.le_of_ble_eq_true rfl⟩) o0 rfl (by decide) rfl rfl hl.1 (Nat.le_of_ble_eq_true rfl) d_Row_addLowest_40 ⟨Nat.zero_le _, Nat.zero_le _⟩ (fun H locs hI => ?_)
    refine lv_iinc (k := 2) (v := x4 + (-1 : Int32)) (lv' := [(4, .int (x4 + (-1 : Int32))), (0, .ref (mAd X i0)), (2, .long x2)]) hx hb d_Row_addLowest_43 hl rfl rfl (by decide) rfl (fun ls hl => ?_)
    refine lv_goto (tgt := 26) hx hb d_Row_addLowest_46 rfl ?_
    exact hk26 _ _ _ _ _ _ _ o0 hI (lv_sub hl [1, 2, 0] rfl) h
def f_Row_addLowest_26 (L : La)  : Nat → Nat → Int64 → Int32 → Mem → Option (Int32 × Mem)
  | 0 => fun _ _ _ _ => none
  | n + 1 => b_Row_addLowest_26 L (f_Row_addLowest_26 L  n)
theorem tf_Row_addLowest_26 (hC : Cx X L p s m args meth c cc_Row_addLowest 5 w_Row_addLowest R_Row (some .boolean))  {out : (Int32 × Mem)}  (n : Nat) : ∀ (i0 : Nat) (x2 : Int64) (x4 : Int32) (F : Mem) (H : Heap) (locs : List Loc) (ls : Array Slot), oO L 1 i0 → Iv X L s H locs F → lv_has ls 5 [(0, .ref (mAd X i0)), (2, .long x2), (4, .int x4)] → f_Row_addLowest_26 L  n i0 x2 x4 F = some out → W p l e (headSpec w_Row_addLowest r_Row_addLowest).room s m args below meth c H locs 0 0 (MQ below (QI X L out) args s 0 0 (AA X L)) (F0 m 26 ls []) := by
  induction n with
  | zero => intro i0 x2 x4 F H locs ls o0 hI hl h; cases h
  | succ n ih => intro i0 x2 x4 F H locs ls o0 hI hl h; exact t_Row_addLowest_26 hC ih o0 hI hl h
def f_Row_addLowest (L : La) (i0 : Nat) (x1 : Int32) (x2 : Int64) (F : Mem) : Option (Int32 × Mem) :=
  if x1 < (1 : Int32) then
    b_Row_addLowest_19 L   F
  else
    if (8 : Int32) < x1 then
      b_Row_addLowest_19 L   F
    else
      (f_Row_hasRoom L i0 x1 F).bind fun q1 =>
      if q1.1 = 0 then
        b_Row_addLowest_19 L   q1.2
      else
        f_Row_addLowest_26 L  mFU i0 x2 (x1 - (1 : Int32)) q1.2
set_option maxHeartbeats 4000000 in
theorem c_Row_addLowest (l : Launch) {X : Xs} {L : La} (hW : WT L) {out : (Int32 × Mem)} {i0 : Nat} {x1 : Int32} {x2 : Int64} {F : Mem} (o0 : oO L 1 i0) (h : f_Row_addLowest L i0 x1 x2 F = some out) : Met l y_Row_addLowest w_Row_addLowest r_Row_addLowest (va_Pc [.ref (mAd X i0), .int x1, .long x2] (Pr X L F)) (QI X L out) 0 0 (AA X L) := by
  refine mk_met (by decide) rfl (Nat.le_of_ble_eq_true rfl) hW ?_
  intro p e s m args below meth c ls hC hI hl
  have hl : lv_has ls 5 [(0, .ref (mAd X i0)), (1, .int x1), (2, .long x2)] := hl
  generalize hHe : s.heap = H at hI ⊢
  generalize ([] : List Loc) = locs at hI ⊢
  unfold f_Row_addLowest at h
  obtain ⟨S, hK, hT, hW, hr, hlk⟩ := id hC
  have hx := S.1
  have hb := S.2.1
  refine lv_iload_n hx hb d_Row_addLowest_0 rfl (lv_at hl 1 rfl) ?_
  refine lv_iconst (v := 1) hx hb d_Row_addLowest_1 rfl ?_
  refine lv_icmp_lt (tgt := 19) hx hb d_Row_addLowest_2 rfl (fun hc => ?_) (fun hc => ?_)
  · replace h := (if_pos hc).symm.trans h
    exact t_Row_addLowest_19 hC   hI (lv_sub hl [] rfl) h
  · replace h := (if_neg hc).symm.trans h
    refine lv_iload_n hx hb d_Row_addLowest_5 rfl (lv_at hl 1 rfl) ?_
    refine lv_bipush (v := 8) hx hb d_Row_addLowest_6 (by decide) ?_
    refine lv_icmp_gt (tgt := 19) hx hb d_Row_addLowest_8 rfl (fun hc => ?_) (fun hc => ?_)
    · replace h := (if_pos hc).symm.trans h
      exact t_Row_addLowest_19 hC   hI (lv_sub hl [] rfl) h
    · replace h := (if_neg hc).symm.trans h
      refine lv_aload_n hx hb d_Row_addLowest_11 rfl (lv_at hl 0 rfl) ?_
      refine lv_iload_n hx hb d_Row_addLowest_12 rfl (lv_at hl 1 rfl) ?_
      obtain ⟨q1, e2, h⟩ := un_bi h
      refine w_callVi (As := [.int x1]) (rest := []) S hK hI hT (c_Row_hasRoom l hW o0 e2) (cwV 1 S.2.2.2.2 (gd_V lc_Row_hasRoom lm_Row_23 li_Row_hasRoom ls_Row_hasRoom ln_Row) rfl rfl rfl hd_Row_hasRoom ⟨Nat.le_of_ble_eq_true rfl, Nat.le_of_ble_eq_true rfl⟩) o0 rfl (by decide) rfl rfl hl.1 (Nat.le_of_ble_eq_true rfl) d_Row_addLowest_13 ⟨Nat.zero_le _, Nat.zero_le _⟩ (fun H locs hI => ?_)
      refine lv_if_ne (tgt := 21) hx hb d_Row_addLowest_16 rfl (fun hc => ?_) (fun hc => ?_)
      · replace h := (if_neg hc).symm.trans h
        refine lv_iload_n hx hb d_Row_addLowest_21 rfl (lv_at hl 1 rfl) ?_
        refine lv_iconst (v := 1) hx hb d_Row_addLowest_22 rfl ?_
        refine lv_isub hx hb d_Row_addLowest_23 ?_
        refine lv_istore (lv' := [(4, .int (x1 - (1 : Int32))), (0, .ref (mAd X i0)), (1, .int x1), (2, .long x2)]) hx hb d_Row_addLowest_24 hl (by decide) rfl (fun ls hl => ?_)
        exact tf_Row_addLowest_26 hC  mFU _ _ _ _ _ _ _ o0 hI (lv_sub hl [1, 3, 0] rfl) h
      · replace h := (if_pos hc).symm.trans h
        exact t_Row_addLowest_19 hC   hI (lv_sub hl [] rfl) h
end
theorem d_PF_write_0 : decode cc_PF_write 0 = .ok (.aload_n 0, 1) := by decide +kernel
theorem d_PF_write_1 : decode cc_PF_write 1 = .ok (.getfield 14, 3) := by decide +kernel
theorem d_PF_write_4 : decode cc_PF_write 4 = .ok (.iload_n 1, 1) := by decide +kernel
theorem d_PF_write_5 : decode cc_PF_write 5 = .ok (.lload_n 2, 1) := by decide +kernel
theorem d_PF_write_6 : decode cc_PF_write 6 = .ok (.invokevirtual 58, 3) := by decide +kernel
theorem d_PF_write_9 : decode cc_PF_write 9 = .ok (.ireturn, 1) := by decide +kernel
section
variable {p : Program} {l : Launch} {e : Env} {s : State} {m : MethodId} {args : Array Value} {below : List Frame} {meth : Method} {c : Code} {X : Xs} {L : La}
def f_PF_write (L : La) (i0 : Nat) (x1 : Int32) (x2 : Int64) (F : Mem) : Option (Int32 × Mem) :=
  (f_Row_addLowest L (mRf L i0 0) x1 x2 F).bind fun q2 =>
  if q2.1 = 0 ∨ q2.1 = 1 then some (q2.1, q2.2) else none
set_option maxHeartbeats 4000000 in
theorem c_PF_write (l : Launch) {X : Xs} {L : La} (hW : WT L) {out : (Int32 × Mem)} {i0 : Nat} {x1 : Int32} {x2 : Int64} {F : Mem} (o0 : oO L 0 i0) (h : f_PF_write L i0 x1 x2 F = some out) : Met l y_PF_write w_PF_write r_PF_write (va_Pc [.ref (mAd X i0), .int x1, .long x2] (Pr X L F)) (QI X L out) 0 0 (AA X L) := by
  refine mk_met (by decide) rfl (Nat.le_of_ble_eq_true rfl) hW ?_
  intro p e s m args below meth c ls hC hI hl
  have hl : lv_has ls 4 [(0, .ref (mAd X i0)), (1, .int x1), (2, .long x2)] := hl
  generalize hHe : s.heap = H at hI ⊢
  generalize ([] : List Loc) = locs at hI ⊢
  unfold f_PF_write at h
  obtain ⟨S, hK, hT, hW, hr, hlk⟩ := id hC
  have hx := S.1
  have hb := S.2.1
  refine lv_aload_n hx hb d_PF_write_0 rfl (lv_at hl 0 rfl) ?_
  have p1 := wt_o hW o0 0 1 rfl (by decide) (by decide) (by decide)
  refine w_getR (T := T_PF) S hK hI o0 rfl hin_PF 0 (index := 14) (by decide) lf_PF_14 d_PF_write_1 ?_
  refine lv_iload_n hx hb d_PF_write_4 rfl (lv_at hl 1 rfl) ?_
  refine lv_lload_n hx hb d_PF_write_5 rfl (lv_at hl 2 rfl) ?_
  obtain ⟨q2, e3, h⟩ := un_bi h
  refine w_callVi (As := [.int x1, .long x2]) (rest := []) S hK hI hT (c_Row_addLowest l hW p1 e3) (cwV 2 S.2.2.2.2 (gd_V lc_Row_addLowest lm_PF_58 li_Row_addLowest ls_Row_addLowest ln_Row) rfl rfl rfl hd_Row_addLowest ⟨Nat.le_of_ble_eq_true rfl, Nat.le_of_ble_eq_true rfl⟩) p1 rfl (by decide) rfl rfl hl.1 (Nat.le_of_ble_eq_true rfl) d_PF_write_6 ⟨Nat.zero_le _, Nat.zero_le _⟩ (fun H locs hI => ?_)
  exact w_zret S hK hr hlk hI d_PF_write_9 h
end
theorem d_PF_clear_0 : decode cc_PF_clear 0 = .ok (.aload_n 0, 1) := by decide +kernel
theorem d_PF_clear_1 : decode cc_PF_clear 1 = .ok (.getfield 14, 3) := by decide +kernel
theorem d_PF_clear_4 : decode cc_PF_clear 4 = .ok (.iconst 0, 1) := by decide +kernel
theorem d_PF_clear_5 : decode cc_PF_clear 5 = .ok (.putfield 62, 3) := by decide +kernel
theorem d_PF_clear_8 : decode cc_PF_clear 8 = .ok (.return_, 1) := by decide +kernel
section
variable {p : Program} {l : Launch} {e : Env} {s : State} {m : MethodId} {args : Array Value} {below : List Frame} {meth : Method} {c : Code} {X : Xs} {L : La}
def f_PF_clear (L : La) (i0 : Nat) (F : Mem) : Option Mem :=
  lt' (u2 F (mRf L i0 0) 1 (0 : Int32)) fun F2 =>
  some F2
set_option maxHeartbeats 4000000 in
theorem c_PF_clear (l : Launch) {X : Xs} {L : La} (hW : WT L) {out : Mem} {i0 : Nat} {F : Mem} (o0 : oO L 0 i0) (h : f_PF_clear L i0 F = some out) : Met l y_PF_clear w_PF_clear r_PF_clear (va_Pc [.ref (mAd X i0)] (Pr X L F)) (QV X L out) 0 0 (AA X L) := by
  refine mk_met (by decide) rfl (Nat.le_of_ble_eq_true rfl) hW ?_
  intro p e s m args below meth c ls hC hI hl
  have hl : lv_has ls 1 [(0, .ref (mAd X i0))] := hl
  generalize hHe : s.heap = H at hI ⊢
  generalize ([] : List Loc) = locs at hI ⊢
  unfold f_PF_clear at h
  obtain ⟨S, hK, hT, hW, hr, hlk⟩ := id hC
  have hx := S.1
  have hb := S.2.1
  refine lv_aload_n hx hb d_PF_clear_0 rfl (lv_at hl 0 rfl) ?_
  have p1 := wt_o hW o0 0 1 rfl (by decide) (by decide) (by decide)
  refine w_getR (T := T_PF) S hK hI o0 rfl hin_PF 0 (index := 14) (by decide) lf_PF_14 d_PF_clear_1 ?_
  refine lv_iconst (v := 0) hx hb d_PF_clear_4 rfl ?_
  refine w_putI (T := T_Row) S hK hI p1 rfl hin_Row ty_Row tk_Row nm_Row 1 (index := 62) (by decide) lf_PF_62 rfl d_PF_clear_5 (fun H locs F2 e3 hI => ?_)
  replace h := un_lt h _ e3
  exact w_vret S hK hr hlk hI d_PF_clear_8 h
end
theorem d_Row_sizeOrByte_0 : decode cc_Row_sizeOrByte 0 = .ok (.iload_n 1, 1) := by decide +kernel
theorem d_Row_sizeOrByte_1 : decode cc_Row_sizeOrByte 1 = .ok (.iconst (-1), 1) := by decide +kernel
theorem d_Row_sizeOrByte_2 : decode cc_Row_sizeOrByte 2 = .ok (.if_icmp .ne (8), 3) := by decide +kernel
theorem d_Row_sizeOrByte_5 : decode cc_Row_sizeOrByte 5 = .ok (.aload_n 0, 1) := by decide +kernel
theorem d_Row_sizeOrByte_6 : decode cc_Row_sizeOrByte 6 = .ok (.getfield 15, 3) := by decide +kernel
theorem d_Row_sizeOrByte_9 : decode cc_Row_sizeOrByte 9 = .ok (.ireturn, 1) := by decide +kernel
theorem d_Row_sizeOrByte_10 : decode cc_Row_sizeOrByte 10 = .ok (.iload_n 1, 1) := by decide +kernel
theorem d_Row_sizeOrByte_11 : decode cc_Row_sizeOrByte 11 = .ok (.ifCond .lt (20), 3) := by decide +kernel
theorem d_Row_sizeOrByte_14 : decode cc_Row_sizeOrByte 14 = .ok (.iload_n 1, 1) := by decide +kernel
theorem d_Row_sizeOrByte_15 : decode cc_Row_sizeOrByte 15 = .ok (.aload_n 0, 1) := by decide +kernel
theorem d_Row_sizeOrByte_16 : decode cc_Row_sizeOrByte 16 = .ok (.getfield 15, 3) := by decide +kernel
theorem d_Row_sizeOrByte_19 : decode cc_Row_sizeOrByte 19 = .ok (.if_icmp .ge (12), 3) := by decide +kernel
theorem d_Row_sizeOrByte_22 : decode cc_Row_sizeOrByte 22 = .ok (.aload_n 0, 1) := by decide +kernel
theorem d_Row_sizeOrByte_23 : decode cc_Row_sizeOrByte 23 = .ok (.getfield 9, 3) := by decide +kernel
theorem d_Row_sizeOrByte_26 : decode cc_Row_sizeOrByte 26 = .ok (.iload_n 1, 1) := by decide +kernel
theorem d_Row_sizeOrByte_27 : decode cc_Row_sizeOrByte 27 = .ok (.iaload, 1) := by decide +kernel
theorem d_Row_sizeOrByte_28 : decode cc_Row_sizeOrByte 28 = .ok (.goto (4), 3) := by decide +kernel
theorem d_Row_sizeOrByte_31 : decode cc_Row_sizeOrByte 31 = .ok (.iconst (-1), 1) := by decide +kernel
theorem d_Row_sizeOrByte_32 : decode cc_Row_sizeOrByte 32 = .ok (.ireturn, 1) := by decide +kernel
section
variable {p : Program} {l : Launch} {e : Env} {s : State} {m : MethodId} {args : Array Value} {below : List Frame} {meth : Method} {c : Code} {X : Xs} {L : La}
def b_Row_sizeOrByte_32 (L : La)  (y0 : Int32) (F : Mem) : Option (Int32 × Mem) :=
  some (y0, F)
set_option maxHeartbeats 4000000 in
theorem t_Row_sizeOrByte_32 (hC : Cx X L p s m args meth c cc_Row_sizeOrByte 2 w_Row_sizeOrByte R_Row (some .int))  {out : (Int32 × Mem)}  {y0 : Int32} {F : Mem} {H : Heap} {locs : List Loc} {ls : Array Slot}  (hI : Iv X L s H locs F) (hl : lv_has ls 2 []) (h : b_Row_sizeOrByte_32 L  y0 F = some out) : W p l e (headSpec w_Row_sizeOrByte r_Row_sizeOrByte).room s m args below meth c H locs 0 0 (MQ below (QI X L out) args s 0 0 (AA X L)) (F0 m 32 ls [.int y0]) := by
  unfold b_Row_sizeOrByte_32 at h
  obtain ⟨S, hK, hT, hW, hr, hlk⟩ := id hC
  have hx := S.1
  have hb := S.2.1
  exact w_iret S hK hr hlk hI d_Row_sizeOrByte_32 h
def b_Row_sizeOrByte_31 (L : La)   (F : Mem) : Option (Int32 × Mem) :=
  b_Row_sizeOrByte_32 L  (-1 : Int32) F
set_option maxHeartbeats 4000000 in
theorem t_Row_sizeOrByte_31 (hC : Cx X L p s m args meth c cc_Row_sizeOrByte 2 w_Row_sizeOrByte R_Row (some .int))  {out : (Int32 × Mem)}   {F : Mem} {H : Heap} {locs : List Loc} {ls : Array Slot}  (hI : Iv X L s H locs F) (hl : lv_has ls 2 []) (h : b_Row_sizeOrByte_31 L   F = some out) : W p l e (headSpec w_Row_sizeOrByte r_Row_sizeOrByte).room s m args below meth c H locs 0 0 (MQ below (QI X L out) args s 0 0 (AA X L)) (F0 m 31 ls []) := by
  unfold b_Row_sizeOrByte_31 at h
  obtain ⟨S, hK, hT, hW, hr, hlk⟩ := id hC
  have hx := S.1
  have hb := S.2.1
  refine lv_iconst (v := -1) hx hb d_Row_sizeOrByte_31 rfl ?_
  exact t_Row_sizeOrByte_32 hC   hI hl h
def f_Row_sizeOrByte (L : La) (i0 : Nat) (x1 : Int32) (F : Mem) : Option (Int32 × Mem) :=
  if x1 = (-1 : Int32) then
    some (F i0 1, F)
  else
    if x1 < 0 then
      b_Row_sizeOrByte_31 L   F
    else
      if (F i0 1) ≤ x1 then
        b_Row_sizeOrByte_31 L   F
      else
        if inb x1 (mGl L (mRf L i0 0)) then none else
        b_Row_sizeOrByte_32 L  (mGa L F (mRf L i0 0) x1.toNatClampNeg) F
set_option maxHeartbeats 4000000 in
theorem c_Row_sizeOrByte (l : Launch) {X : Xs} {L : La} (hW : WT L) {out : (Int32 × Mem)} {i0 : Nat} {x1 : Int32} {F : Mem} (o0 : oO L 1 i0) (h : f_Row_sizeOrByte L i0 x1 F = some out) : Met l y_Row_sizeOrByte w_Row_sizeOrByte r_Row_sizeOrByte (va_Pc [.ref (mAd X i0), .int x1] (Pr X L F)) (QI X L out) 0 0 (AA X L) := by
  refine mk_met (by decide) rfl (Nat.le_of_ble_eq_true rfl) hW ?_
  intro p e s m args below meth c ls hC hI hl
  have hl : lv_has ls 2 [(0, .ref (mAd X i0)), (1, .int x1)] := hl
  generalize hHe : s.heap = H at hI ⊢
  generalize ([] : List Loc) = locs at hI ⊢
  unfold f_Row_sizeOrByte at h
  obtain ⟨S, hK, hT, hW, hr, hlk⟩ := id hC
  have hx := S.1
  have hb := S.2.1
  refine lv_iload_n hx hb d_Row_sizeOrByte_0 rfl (lv_at hl 1 rfl) ?_
  refine lv_iconst (v := -1) hx hb d_Row_sizeOrByte_1 rfl ?_
  refine lv_icmp_ne (tgt := 10) hx hb d_Row_sizeOrByte_2 rfl (fun hc => ?_) (fun hc => ?_)
  · replace h := (if_neg hc).symm.trans h
    refine lv_iload_n hx hb d_Row_sizeOrByte_10 rfl (lv_at hl 1 rfl) ?_
    refine lv_if_lt (tgt := 31) hx hb d_Row_sizeOrByte_11 rfl (fun hc => ?_) (fun hc => ?_)
    · replace h := (if_pos hc).symm.trans h
      exact t_Row_sizeOrByte_31 hC   hI (lv_sub hl [] rfl) h
    · replace h := (if_neg hc).symm.trans h
      refine lv_iload_n hx hb d_Row_sizeOrByte_14 rfl (lv_at hl 1 rfl) ?_
      refine lv_aload_n hx hb d_Row_sizeOrByte_15 rfl (lv_at hl 0 rfl) ?_
      refine w_getI (T := T_Row) S hK hI o0 rfl hin_Row 1 (index := 15) (by decide) lf_Row_15 d_Row_sizeOrByte_16 ?_
      refine lv_icmp_ge (tgt := 31) hx hb d_Row_sizeOrByte_19 rfl (fun hc => ?_) (fun hc => ?_)
      · replace h := (if_pos hc).symm.trans h
        exact t_Row_sizeOrByte_31 hC   hI (lv_sub hl [] rfl) h
      · replace h := (if_neg hc).symm.trans h
        refine lv_aload_n hx hb d_Row_sizeOrByte_22 rfl (lv_at hl 0 rfl) ?_
        have p1 := wt_a hW o0 0 rfl (by decide) (by decide)
        refine w_getR (T := T_Row) S hK hI o0 rfl hin_Row 0 (index := 9) (by decide) lf_Row_9 d_Row_sizeOrByte_23 ?_
        refine lv_iload_n hx hb d_Row_sizeOrByte_26 rfl (lv_at hl 1 rfl) ?_
        obtain ⟨z2, h⟩ := un_if h
        refine w_iald S hK hI hT p1 z2 d_Row_sizeOrByte_27 ?_
        refine lv_goto (tgt := 32) hx hb d_Row_sizeOrByte_28 rfl ?_
        exact t_Row_sizeOrByte_32 hC   hI (lv_sub hl [] rfl) h
  · replace h := (if_pos hc).symm.trans h
    refine lv_aload_n hx hb d_Row_sizeOrByte_5 rfl (lv_at hl 0 rfl) ?_
    refine w_getI (T := T_Row) S hK hI o0 rfl hin_Row 1 (index := 15) (by decide) lf_Row_15 d_Row_sizeOrByte_6 ?_
    exact w_iret S hK hr hlk hI d_Row_sizeOrByte_9 h
end
theorem d_PF_content_0 : decode cc_PF_content 0 = .ok (.aload_n 0, 1) := by decide +kernel
theorem d_PF_content_1 : decode cc_PF_content 1 = .ok (.getfield 14, 3) := by decide +kernel
theorem d_PF_content_4 : decode cc_PF_content 4 = .ok (.iload_n 1, 1) := by decide +kernel
theorem d_PF_content_5 : decode cc_PF_content 5 = .ok (.invokevirtual 66, 3) := by decide +kernel
theorem d_PF_content_8 : decode cc_PF_content 8 = .ok (.ireturn, 1) := by decide +kernel
section
variable {p : Program} {l : Launch} {e : Env} {s : State} {m : MethodId} {args : Array Value} {below : List Frame} {meth : Method} {c : Code} {X : Xs} {L : La}
def f_PF_content (L : La) (i0 : Nat) (x1 : Int32) (F : Mem) : Option (Int32 × Mem) :=
  (f_Row_sizeOrByte L (mRf L i0 0) x1 F).bind fun q2 =>
  some (q2.1, q2.2)
set_option maxHeartbeats 4000000 in
theorem c_PF_content (l : Launch) {X : Xs} {L : La} (hW : WT L) {out : (Int32 × Mem)} {i0 : Nat} {x1 : Int32} {F : Mem} (o0 : oO L 0 i0) (h : f_PF_content L i0 x1 F = some out) : Met l y_PF_content w_PF_content r_PF_content (va_Pc [.ref (mAd X i0), .int x1] (Pr X L F)) (QI X L out) 0 0 (AA X L) := by
  refine mk_met (by decide) rfl (Nat.le_of_ble_eq_true rfl) hW ?_
  intro p e s m args below meth c ls hC hI hl
  have hl : lv_has ls 2 [(0, .ref (mAd X i0)), (1, .int x1)] := hl
  generalize hHe : s.heap = H at hI ⊢
  generalize ([] : List Loc) = locs at hI ⊢
  unfold f_PF_content at h
  obtain ⟨S, hK, hT, hW, hr, hlk⟩ := id hC
  have hx := S.1
  have hb := S.2.1
  refine lv_aload_n hx hb d_PF_content_0 rfl (lv_at hl 0 rfl) ?_
  have p1 := wt_o hW o0 0 1 rfl (by decide) (by decide) (by decide)
  refine w_getR (T := T_PF) S hK hI o0 rfl hin_PF 0 (index := 14) (by decide) lf_PF_14 d_PF_content_1 ?_
  refine lv_iload_n hx hb d_PF_content_4 rfl (lv_at hl 1 rfl) ?_
  obtain ⟨q2, e3, h⟩ := un_bi h
  refine w_callVi (As := [.int x1]) (rest := []) S hK hI hT (c_Row_sizeOrByte l hW p1 e3) (cwV 1 S.2.2.2.2 (gd_V lc_Row_sizeOrByte lm_PF_66 li_Row_sizeOrByte ls_Row_sizeOrByte ln_Row) rfl rfl rfl hd_Row_sizeOrByte ⟨Nat.le_of_ble_eq_true rfl, Nat.le_of_ble_eq_true rfl⟩) p1 rfl (by decide) rfl rfl hl.1 (Nat.le_of_ble_eq_true rfl) d_PF_content_5 ⟨Nat.zero_le _, Nat.zero_le _⟩ (fun H locs hI => ?_)
  exact w_iret S hK hr hlk hI d_PF_content_8 h
end
theorem d_PF_put_0 : decode cc_PF_put 0 = .ok (.aload_n 0, 1) := by decide +kernel
theorem d_PF_put_1 : decode cc_PF_put 1 = .ok (.getfield 18, 3) := by decide +kernel
theorem d_PF_put_4 : decode cc_PF_put 4 = .ok (.iload_n 1, 1) := by decide +kernel
theorem d_PF_put_5 : decode cc_PF_put 5 = .ok (.lload_n 2, 1) := by decide +kernel
theorem d_PF_put_6 : decode cc_PF_put 6 = .ok (.invokevirtual 58, 3) := by decide +kernel
theorem d_PF_put_9 : decode cc_PF_put 9 = .ok (.ireturn, 1) := by decide +kernel
section
variable {p : Program} {l : Launch} {e : Env} {s : State} {m : MethodId} {args : Array Value} {below : List Frame} {meth : Method} {c : Code} {X : Xs} {L : La}
def f_PF_put (L : La) (i0 : Nat) (x1 : Int32) (x2 : Int64) (F : Mem) : Option (Int32 × Mem) :=
  (f_Row_addLowest L (mRf L i0 1) x1 x2 F).bind fun q2 =>
  if q2.1 = 0 ∨ q2.1 = 1 then some (q2.1, q2.2) else none
set_option maxHeartbeats 4000000 in
theorem c_PF_put (l : Launch) {X : Xs} {L : La} (hW : WT L) {out : (Int32 × Mem)} {i0 : Nat} {x1 : Int32} {x2 : Int64} {F : Mem} (o0 : oO L 0 i0) (h : f_PF_put L i0 x1 x2 F = some out) : Met l y_PF_put w_PF_put r_PF_put (va_Pc [.ref (mAd X i0), .int x1, .long x2] (Pr X L F)) (QI X L out) 0 0 (AA X L) := by
  refine mk_met (by decide) rfl (Nat.le_of_ble_eq_true rfl) hW ?_
  intro p e s m args below meth c ls hC hI hl
  have hl : lv_has ls 4 [(0, .ref (mAd X i0)), (1, .int x1), (2, .long x2)] := hl
  generalize hHe : s.heap = H at hI ⊢
  generalize ([] : List Loc) = locs at hI ⊢
  unfold f_PF_put at h
  obtain ⟨S, hK, hT, hW, hr, hlk⟩ := id hC
  have hx := S.1
  have hb := S.2.1
  refine lv_aload_n hx hb d_PF_put_0 rfl (lv_at hl 0 rfl) ?_
  have p1 := wt_o hW o0 1 1 rfl (by decide) (by decide) (by decide)
  refine w_getR (T := T_PF) S hK hI o0 rfl hin_PF 1 (index := 18) (by decide) lf_PF_18 d_PF_put_1 ?_
  refine lv_iload_n hx hb d_PF_put_4 rfl (lv_at hl 1 rfl) ?_
  refine lv_lload_n hx hb d_PF_put_5 rfl (lv_at hl 2 rfl) ?_
  obtain ⟨q2, e3, h⟩ := un_bi h
  refine w_callVi (As := [.int x1, .long x2]) (rest := []) S hK hI hT (c_Row_addLowest l hW p1 e3) (cwV 2 S.2.2.2.2 (gd_V lc_Row_addLowest lm_PF_58 li_Row_addLowest ls_Row_addLowest ln_Row) rfl rfl rfl hd_Row_addLowest ⟨Nat.le_of_ble_eq_true rfl, Nat.le_of_ble_eq_true rfl⟩) p1 rfl (by decide) rfl rfl hl.1 (Nat.le_of_ble_eq_true rfl) d_PF_put_6 ⟨Nat.zero_le _, Nat.zero_le _⟩ (fun H locs hI => ?_)
  exact w_zret S hK hr hlk hI d_PF_put_9 h
end
theorem d_PF_wipe_0 : decode cc_PF_wipe 0 = .ok (.aload_n 0, 1) := by decide +kernel
theorem d_PF_wipe_1 : decode cc_PF_wipe 1 = .ok (.getfield 18, 3) := by decide +kernel
theorem d_PF_wipe_4 : decode cc_PF_wipe 4 = .ok (.iconst 0, 1) := by decide +kernel
theorem d_PF_wipe_5 : decode cc_PF_wipe 5 = .ok (.putfield 62, 3) := by decide +kernel
theorem d_PF_wipe_8 : decode cc_PF_wipe 8 = .ok (.return_, 1) := by decide +kernel
section
variable {p : Program} {l : Launch} {e : Env} {s : State} {m : MethodId} {args : Array Value} {below : List Frame} {meth : Method} {c : Code} {X : Xs} {L : La}
def f_PF_wipe (L : La) (i0 : Nat) (F : Mem) : Option Mem :=
  lt' (u2 F (mRf L i0 1) 1 (0 : Int32)) fun F2 =>
  some F2
set_option maxHeartbeats 4000000 in
theorem c_PF_wipe (l : Launch) {X : Xs} {L : La} (hW : WT L) {out : Mem} {i0 : Nat} {F : Mem} (o0 : oO L 0 i0) (h : f_PF_wipe L i0 F = some out) : Met l y_PF_wipe w_PF_wipe r_PF_wipe (va_Pc [.ref (mAd X i0)] (Pr X L F)) (QV X L out) 0 0 (AA X L) := by
  refine mk_met (by decide) rfl (Nat.le_of_ble_eq_true rfl) hW ?_
  intro p e s m args below meth c ls hC hI hl
  have hl : lv_has ls 1 [(0, .ref (mAd X i0))] := hl
  generalize hHe : s.heap = H at hI ⊢
  generalize ([] : List Loc) = locs at hI ⊢
  unfold f_PF_wipe at h
  obtain ⟨S, hK, hT, hW, hr, hlk⟩ := id hC
  have hx := S.1
  have hb := S.2.1
  refine lv_aload_n hx hb d_PF_wipe_0 rfl (lv_at hl 0 rfl) ?_
  have p1 := wt_o hW o0 1 1 rfl (by decide) (by decide) (by decide)
  refine w_getR (T := T_PF) S hK hI o0 rfl hin_PF 1 (index := 18) (by decide) lf_PF_18 d_PF_wipe_1 ?_
  refine lv_iconst (v := 0) hx hb d_PF_wipe_4 rfl ?_
  refine w_putI (T := T_Row) S hK hI p1 rfl hin_Row ty_Row tk_Row nm_Row 1 (index := 62) (by decide) lf_PF_62 rfl d_PF_wipe_5 (fun H locs F2 e3 hI => ?_)
  replace h := un_lt h _ e3
  exact w_vret S hK hr hlk hI d_PF_wipe_8 h
end
theorem d_PF_wire_0 : decode cc_PF_wire 0 = .ok (.aload_n 0, 1) := by decide +kernel
theorem d_PF_wire_1 : decode cc_PF_wire 1 = .ok (.getfield 18, 3) := by decide +kernel
theorem d_PF_wire_4 : decode cc_PF_wire 4 = .ok (.iload_n 1, 1) := by decide +kernel
theorem d_PF_wire_5 : decode cc_PF_wire 5 = .ok (.invokevirtual 66, 3) := by decide +kernel
theorem d_PF_wire_8 : decode cc_PF_wire 8 = .ok (.ireturn, 1) := by decide +kernel
section
variable {p : Program} {l : Launch} {e : Env} {s : State} {m : MethodId} {args : Array Value} {below : List Frame} {meth : Method} {c : Code} {X : Xs} {L : La}
def f_PF_wire (L : La) (i0 : Nat) (x1 : Int32) (F : Mem) : Option (Int32 × Mem) :=
  (f_Row_sizeOrByte L (mRf L i0 1) x1 F).bind fun q2 =>
  some (q2.1, q2.2)
set_option maxHeartbeats 4000000 in
theorem c_PF_wire (l : Launch) {X : Xs} {L : La} (hW : WT L) {out : (Int32 × Mem)} {i0 : Nat} {x1 : Int32} {F : Mem} (o0 : oO L 0 i0) (h : f_PF_wire L i0 x1 F = some out) : Met l y_PF_wire w_PF_wire r_PF_wire (va_Pc [.ref (mAd X i0), .int x1] (Pr X L F)) (QI X L out) 0 0 (AA X L) := by
  refine mk_met (by decide) rfl (Nat.le_of_ble_eq_true rfl) hW ?_
  intro p e s m args below meth c ls hC hI hl
  have hl : lv_has ls 2 [(0, .ref (mAd X i0)), (1, .int x1)] := hl
  generalize hHe : s.heap = H at hI ⊢
  generalize ([] : List Loc) = locs at hI ⊢
  unfold f_PF_wire at h
  obtain ⟨S, hK, hT, hW, hr, hlk⟩ := id hC
  have hx := S.1
  have hb := S.2.1
  refine lv_aload_n hx hb d_PF_wire_0 rfl (lv_at hl 0 rfl) ?_
  have p1 := wt_o hW o0 1 1 rfl (by decide) (by decide) (by decide)
  refine w_getR (T := T_PF) S hK hI o0 rfl hin_PF 1 (index := 18) (by decide) lf_PF_18 d_PF_wire_1 ?_
  refine lv_iload_n hx hb d_PF_wire_4 rfl (lv_at hl 1 rfl) ?_
  obtain ⟨q2, e3, h⟩ := un_bi h
  refine w_callVi (As := [.int x1]) (rest := []) S hK hI hT (c_Row_sizeOrByte l hW p1 e3) (cwV 1 S.2.2.2.2 (gd_V lc_Row_sizeOrByte lm_PF_66 li_Row_sizeOrByte ls_Row_sizeOrByte ln_Row) rfl rfl rfl hd_Row_sizeOrByte ⟨Nat.le_of_ble_eq_true rfl, Nat.le_of_ble_eq_true rfl⟩) p1 rfl (by decide) rfl rfl hl.1 (Nat.le_of_ble_eq_true rfl) d_PF_wire_5 ⟨Nat.zero_le _, Nat.zero_le _⟩ (fun H locs hI => ?_)
  exact w_iret S hK hr hlk hI d_PF_wire_8 h
end
theorem d_PF_spoil_0 : decode cc_PF_spoil 0 = .ok (.iload_n 1, 1) := by decide +kernel
theorem d_PF_spoil_1 : decode cc_PF_spoil 1 = .ok (.ifCond .lt (14), 3) := by decide +kernel
theorem d_PF_spoil_4 : decode cc_PF_spoil 4 = .ok (.iload_n 1, 1) := by decide +kernel
theorem d_PF_spoil_5 : decode cc_PF_spoil 5 = .ok (.aload_n 0, 1) := by decide +kernel
theorem d_PF_spoil_6 : decode cc_PF_spoil 6 = .ok (.getfield 18, 3) := by decide +kernel
theorem d_PF_spoil_9 : decode cc_PF_spoil 9 = .ok (.getfield 62, 3) := by decide +kernel
theorem d_PF_spoil_12 : decode cc_PF_spoil 12 = .ok (.if_icmp .lt (5), 3) := by decide +kernel
theorem d_PF_spoil_15 : decode cc_PF_spoil 15 = .ok (.iconst 0, 1) := by decide +kernel
theorem d_PF_spoil_16 : decode cc_PF_spoil 16 = .ok (.ireturn, 1) := by decide +kernel
theorem d_PF_spoil_17 : decode cc_PF_spoil 17 = .ok (.aload_n 0, 1) := by decide +kernel
theorem d_PF_spoil_18 : decode cc_PF_spoil 18 = .ok (.getfield 18, 3) := by decide +kernel
theorem d_PF_spoil_21 : decode cc_PF_spoil 21 = .ok (.getfield 70, 3) := by decide +kernel
theorem d_PF_spoil_24 : decode cc_PF_spoil 24 = .ok (.iload_n 1, 1) := by decide +kernel
theorem d_PF_spoil_25 : decode cc_PF_spoil 25 = .ok (.dup2, 1) := by decide +kernel
theorem d_PF_spoil_26 : decode cc_PF_spoil 26 = .ok (.iaload, 1) := by decide +kernel
theorem d_PF_spoil_27 : decode cc_PF_spoil 27 = .ok (.iload_n 2, 1) := by decide +kernel
theorem d_PF_spoil_28 : decode cc_PF_spoil 28 = .ok (.sipush (255), 3) := by decide +kernel
theorem d_PF_spoil_31 : decode cc_PF_spoil 31 = .ok (.iand, 1) := by decide +kernel
theorem d_PF_spoil_32 : decode cc_PF_spoil 32 = .ok (.ixor, 1) := by decide +kernel
theorem d_PF_spoil_33 : decode cc_PF_spoil 33 = .ok (.iastore, 1) := by decide +kernel
theorem d_PF_spoil_34 : decode cc_PF_spoil 34 = .ok (.iconst 1, 1) := by decide +kernel
theorem d_PF_spoil_35 : decode cc_PF_spoil 35 = .ok (.ireturn, 1) := by decide +kernel
section
variable {p : Program} {l : Launch} {e : Env} {s : State} {m : MethodId} {args : Array Value} {below : List Frame} {meth : Method} {c : Code} {X : Xs} {L : La}
def b_PF_spoil_15 (L : La)   (F : Mem) : Option (Int32 × Mem) :=
  if (0 : Int32) = 0 ∨ (0 : Int32) = 1 then some ((0 : Int32), F) else none
set_option maxHeartbeats 4000000 in
theorem t_PF_spoil_15 (hC : Cx X L p s m args meth c cc_PF_spoil 3 w_PF_spoil R_PF (some .boolean))  {out : (Int32 × Mem)}   {F : Mem} {H : Heap} {locs : List Loc} {ls : Array Slot}  (hI : Iv X L s H locs F) (hl : lv_has ls 3 []) (h : b_PF_spoil_15 L   F = some out) : W p l e (headSpec w_PF_spoil r_PF_spoil).room s m args below meth c H locs 0 0 (MQ below (QI X L out) args s 0 0 (AA X L)) (F0 m 15 ls []) := by
  unfold b_PF_spoil_15 at h
  obtain ⟨S, hK, hT, hW, hr, hlk⟩ := id hC
  have hx := S.1
  have hb := S.2.1
  refine lv_iconst (v := 0) hx hb d_PF_spoil_15 rfl ?_
  exact w_zret S hK hr hlk hI d_PF_spoil_16 h
def f_PF_spoil (L : La) (i0 : Nat) (x1 : Int32) (x2 : Int32) (F : Mem) : Option (Int32 × Mem) :=
  if x1 < 0 then
    b_PF_spoil_15 L   F
  else
    if x1 < (F (mRf L i0 1) 1) then
      if inb x1 (mGl L (mRf L (mRf L i0 1) 0)) then none else
      if inb x1 (mLn L (mRf L (mRf L i0 1) 0)) ∨ ¬ (mRf L (mRf L i0 1) 0) < mNc L then none else
      lt' (u2 F (mRf L (mRf L i0 1) 0) x1.toNatClampNeg ((mGa L F (mRf L (mRf L i0 1) 0) x1.toNatClampNeg) ^^^ (x2 &&& (255 : Int32)))) fun F6 =>
      if (1 : Int32) = 0 ∨ (1 : Int32) = 1 then some ((1 : Int32), F6) else none
    else
      b_PF_spoil_15 L   F
set_option maxHeartbeats 4000000 in
theorem c_PF_spoil (l : Launch) {X : Xs} {L : La} (hW : WT L) {out : (Int32 × Mem)} {i0 : Nat} {x1 : Int32} {x2 : Int32} {F : Mem} (o0 : oO L 0 i0) (h : f_PF_spoil L i0 x1 x2 F = some out) : Met l y_PF_spoil w_PF_spoil r_PF_spoil (va_Pc [.ref (mAd X i0), .int x1, .int x2] (Pr X L F)) (QI X L out) 0 0 (AA X L) := by
  refine mk_met (by decide) rfl (Nat.le_of_ble_eq_true rfl) hW ?_
  intro p e s m args below meth c ls hC hI hl
  have hl : lv_has ls 3 [(0, .ref (mAd X i0)), (1, .int x1), (2, .int x2)] := hl
  generalize hHe : s.heap = H at hI ⊢
  generalize ([] : List Loc) = locs at hI ⊢
  unfold f_PF_spoil at h
  obtain ⟨S, hK, hT, hW, hr, hlk⟩ := id hC
  have hx := S.1
  have hb := S.2.1
  refine lv_iload_n hx hb d_PF_spoil_0 rfl (lv_at hl 1 rfl) ?_
  refine lv_if_lt (tgt := 15) hx hb d_PF_spoil_1 rfl (fun hc => ?_) (fun hc => ?_)
  · replace h := (if_pos hc).symm.trans h
    exact t_PF_spoil_15 hC   hI (lv_sub hl [] rfl) h
  · replace h := (if_neg hc).symm.trans h
    refine lv_iload_n hx hb d_PF_spoil_4 rfl (lv_at hl 1 rfl) ?_
    refine lv_aload_n hx hb d_PF_spoil_5 rfl (lv_at hl 0 rfl) ?_
    have p1 := wt_o hW o0 1 1 rfl (by decide) (by decide) (by decide)
    refine w_getR (T := T_PF) S hK hI o0 rfl hin_PF 1 (index := 18) (by decide) lf_PF_18 d_PF_spoil_6 ?_
    refine w_getI (T := T_Row) S hK hI p1 rfl hin_Row 1 (index := 62) (by decide) lf_PF_62 d_PF_spoil_9 ?_
    refine lv_icmp_lt (tgt := 17) hx hb d_PF_spoil_12 rfl (fun hc => ?_) (fun hc => ?_)
    · replace h := (if_pos hc).symm.trans h
      refine lv_aload_n hx hb d_PF_spoil_17 rfl (lv_at hl 0 rfl) ?_
      have p2 := wt_o hW o0 1 1 rfl (by decide) (by decide) (by decide)
      refine w_getR (T := T_PF) S hK hI o0 rfl hin_PF 1 (index := 18) (by decide) lf_PF_18 d_PF_spoil_18 ?_
      have p3 := wt_a hW p2 0 rfl (by decide) (by decide)
      refine w_getR (T := T_Row) S hK hI p2 rfl hin_Row 0 (index := 70) (by decide) lf_PF_70 d_PF_spoil_21 ?_
      refine lv_iload_n hx hb d_PF_spoil_24 rfl (lv_at hl 1 rfl) ?_
      refine lv_dup2_11 hx hb d_PF_spoil_25 rfl rfl ?_
      obtain ⟨z4, h⟩ := un_if h
      refine w_iald S hK hI hT p3 z4 d_PF_spoil_26 ?_
      refine lv_iload_n hx hb d_PF_spoil_27 rfl (lv_at hl 2 rfl) ?_
      refine lv_sipush (v := 255) hx hb d_PF_spoil_28 (by decide) ?_
      refine lv_iand hx hb d_PF_spoil_31 ?_
      refine lv_ixor hx hb d_PF_spoil_32 ?_
      obtain ⟨z5, h⟩ := un_if h
      refine w_iast S hK hI p3 z5 d_PF_spoil_33 (fun H locs F6 e7 hI => ?_)
      replace h := un_lt h _ e7
      refine lv_iconst (v := 1) hx hb d_PF_spoil_34 rfl ?_
      exact w_zret S hK hr hlk hI d_PF_spoil_35 h
    · replace h := (if_neg hc).symm.trans h
      exact t_PF_spoil_15 hC   hI (lv_sub hl [] rfl) h
end
theorem d_Row_isOneByteOnly_0 : decode cc_Row_isOneByteOnly 0 = .ok (.iconst 1, 1) := by decide +kernel
theorem d_Row_isOneByteOnly_1 : decode cc_Row_isOneByteOnly 1 = .ok (.istore_n 1, 1) := by decide +kernel
theorem d_Row_isOneByteOnly_2 : decode cc_Row_isOneByteOnly 2 = .ok (.iload_n 1, 1) := by decide +kernel
theorem d_Row_isOneByteOnly_3 : decode cc_Row_isOneByteOnly 3 = .ok (.aload_n 0, 1) := by decide +kernel
theorem d_Row_isOneByteOnly_4 : decode cc_Row_isOneByteOnly 4 = .ok (.getfield 15, 3) := by decide +kernel
theorem d_Row_isOneByteOnly_7 : decode cc_Row_isOneByteOnly 7 = .ok (.if_icmp .ge (26), 3) := by decide +kernel
theorem d_Row_isOneByteOnly_10 : decode cc_Row_isOneByteOnly 10 = .ok (.aload_n 0, 1) := by decide +kernel
theorem d_Row_isOneByteOnly_11 : decode cc_Row_isOneByteOnly 11 = .ok (.getfield 9, 3) := by decide +kernel
theorem d_Row_isOneByteOnly_14 : decode cc_Row_isOneByteOnly 14 = .ok (.iload_n 1, 1) := by decide +kernel
theorem d_Row_isOneByteOnly_15 : decode cc_Row_isOneByteOnly 15 = .ok (.iaload, 1) := by decide +kernel
theorem d_Row_isOneByteOnly_16 : decode cc_Row_isOneByteOnly 16 = .ok (.aload_n 0, 1) := by decide +kernel
theorem d_Row_isOneByteOnly_17 : decode cc_Row_isOneByteOnly 17 = .ok (.getfield 9, 3) := by decide +kernel
theorem d_Row_isOneByteOnly_20 : decode cc_Row_isOneByteOnly 20 = .ok (.iconst 0, 1) := by decide +kernel
theorem d_Row_isOneByteOnly_21 : decode cc_Row_isOneByteOnly 21 = .ok (.iaload, 1) := by decide +kernel
theorem d_Row_isOneByteOnly_22 : decode cc_Row_isOneByteOnly 22 = .ok (.if_icmp .eq (5), 3) := by decide +kernel
theorem d_Row_isOneByteOnly_25 : decode cc_Row_isOneByteOnly 25 = .ok (.iconst 0, 1) := by decide +kernel
theorem d_Row_isOneByteOnly_26 : decode cc_Row_isOneByteOnly 26 = .ok (.ireturn, 1) := by decide +kernel
theorem d_Row_isOneByteOnly_27 : decode cc_Row_isOneByteOnly 27 = .ok (.iinc 1 (1), 3) := by decide +kernel
theorem d_Row_isOneByteOnly_30 : decode cc_Row_isOneByteOnly 30 = .ok (.goto (-28), 3) := by decide +kernel
theorem d_Row_isOneByteOnly_33 : decode cc_Row_isOneByteOnly 33 = .ok (.aload_n 0, 1) := by decide +kernel
theorem d_Row_isOneByteOnly_34 : decode cc_Row_isOneByteOnly 34 = .ok (.getfield 15, 3) := by decide +kernel
theorem d_Row_isOneByteOnly_37 : decode cc_Row_isOneByteOnly 37 = .ok (.ifCond .le (7), 3) := by decide +kernel
theorem d_Row_isOneByteOnly_40 : decode cc_Row_isOneByteOnly 40 = .ok (.iconst 1, 1) := by decide +kernel
theorem d_Row_isOneByteOnly_41 : decode cc_Row_isOneByteOnly 41 = .ok (.goto (4), 3) := by decide +kernel
theorem d_Row_isOneByteOnly_44 : decode cc_Row_isOneByteOnly 44 = .ok (.iconst 0, 1) := by decide +kernel
theorem d_Row_isOneByteOnly_45 : decode cc_Row_isOneByteOnly 45 = .ok (.ireturn, 1) := by decide +kernel
section
variable {p : Program} {l : Launch} {e : Env} {s : State} {m : MethodId} {args : Array Value} {below : List Frame} {meth : Method} {c : Code} {X : Xs} {L : La}
def b_Row_isOneByteOnly_45 (L : La)  (y0 : Int32) (F : Mem) : Option (Int32 × Mem) :=
  if y0 = 0 ∨ y0 = 1 then some (y0, F) else none
set_option maxHeartbeats 4000000 in
theorem t_Row_isOneByteOnly_45 (hC : Cx X L p s m args meth c cc_Row_isOneByteOnly 2 w_Row_isOneByteOnly R_Row (some .boolean))  {out : (Int32 × Mem)}  {y0 : Int32} {F : Mem} {H : Heap} {locs : List Loc} {ls : Array Slot}  (hI : Iv X L s H locs F) (hl : lv_has ls 2 []) (h : b_Row_isOneByteOnly_45 L  y0 F = some out) : W p l e (headSpec w_Row_isOneByteOnly r_Row_isOneByteOnly).room s m args below meth c H locs 0 0 (MQ below (QI X L out) args s 0 0 (AA X L)) (F0 m 45 ls [.int y0]) := by
  unfold b_Row_isOneByteOnly_45 at h
  obtain ⟨S, hK, hT, hW, hr, hlk⟩ := id hC
  have hx := S.1
  have hb := S.2.1
  exact w_zret S hK hr hlk hI d_Row_isOneByteOnly_45 h
def b_Row_isOneByteOnly_2 (L : La) (k2 : Nat → Int32 → Mem → Option (Int32 × Mem)) (i0 : Nat) (x1 : Int32) (F : Mem) : Option (Int32 × Mem) :=
  if (F i0 1) ≤ x1 then
    if (F i0 1) ≤ 0 then
      b_Row_isOneByteOnly_45 L  (0 : Int32) F
    else
      b_Row_isOneByteOnly_45 L  (1 : Int32) F
  else
    if inb x1 (mGl L (mRf L i0 0)) then none else
    if inb (0 : Int32) (mGl L (mRf L i0 0)) then none else
    if (mGa L F (mRf L i0 0) x1.toNatClampNeg) = (mGa L F (mRf L i0 0) (0 : Int32).toNatClampNeg) then
      k2 i0 (x1 + (1 : Int32)) F
    else
      if (0 : Int32) = 0 ∨ (0 : Int32) = 1 then some ((0 : Int32), F) else none
set_option maxHeartbeats 4000000 in
theorem t_Row_isOneByteOnly_2 (hC : Cx X L p s m args meth c cc_Row_isOneByteOnly 2 w_Row_isOneByteOnly R_Row (some .boolean)) {k2 : Nat → Int32 → Mem → Option (Int32 × Mem)} {out : (Int32 × Mem)} (hk2 : ∀ (i0 : Nat) (x1 : Int32) (F : Mem) (H : Heap) (locs : List Loc) (ls : Array Slot), oO L 1 i0 → Iv X L s H locs F → lv_has ls 2 [(0, .ref (mAd X i0)), (1, .int x1)] → k2 i0 x1 F = some out → W p l e (headSpec w_Row_isOneByteOnly r_Row_isOneByteOnly).room s m args below meth c H locs 0 0 (MQ below (QI X L out) args s 0 0 (AA X L)) (F0 m 2 ls [])) {i0 : Nat} {x1 : Int32} {F : Mem} {H : Heap} {locs : List Loc} {ls : Array Slot} (o0 : oO L 1 i0) (hI : Iv X L s H locs F) (hl : lv_has ls 2 [(0, .ref (mAd X i0)), (1, .int x1)]) (h : b_Row_isOneByteOnly_2 L k2 i0 x1 F = some out) : W p l e (headSpec w_Row_isOneByteOnly r_Row_isOneByteOnly).room s m args below meth c H locs 0 0 (MQ below (QI X L out) args s 0 0 (AA X L)) (F0 m 2 ls []) := by
  unfold b_Row_isOneByteOnly_2 at h
  obtain ⟨S, hK, hT, hW, hr, hlk⟩ := id hC
  have hx := S.1
  have hb := S.2.1
  refine lv_iload_n hx hb d_Row_isOneByteOnly_2 rfl (lv_at hl 1 rfl) ?_
  refine lv_aload_n hx hb d_Row_isOneByteOnly_3 rfl (lv_at hl 0 rfl) ?_
  refine w_getI (T := T_Row) S hK hI o0 rfl hin_Row 1 (index := 15) (by decide) lf_Row_15 d_Row_isOneByteOnly_4 ?_
  refine lv_icmp_ge (tgt := 33) hx hb d_Row_isOneByteOnly_7 rfl (fun hc => ?_) (fun hc => ?_)
  · replace h := (if_pos hc).symm.trans h
    refine lv_aload_n hx hb d_Row_isOneByteOnly_33 rfl (lv_at hl 0 rfl) ?_
    refine w_getI (T := T_Row) S hK hI o0 rfl hin_Row 1 (index := 15) (by decide) lf_Row_15 d_Row_isOneByteOnly_34 ?_
    refine lv_if_le (tgt := 44) hx hb d_Row_isOneByteOnly_37 rfl (fun hc => ?_) (fun hc => ?_)
    · replace h := (if_pos hc).symm.trans h
      refine lv_iconst (v := 0) hx hb d_Row_isOneByteOnly_44 rfl ?_
      exact t_Row_isOneByteOnly_45 hC   hI (lv_sub hl [] rfl) h
    · replace h := (if_neg hc).symm.trans h
      refine lv_iconst (v := 1) hx hb d_Row_isOneByteOnly_40 rfl ?_
      refine lv_goto (tgt := 45) hx hb d_Row_isOneByteOnly_41 rfl ?_
      exact t_Row_isOneByteOnly_45 hC   hI (lv_sub hl [] rfl) h
  · replace h := (if_neg hc).symm.trans h
    refine lv_aload_n hx hb d_Row_isOneByteOnly_10 rfl (lv_at hl 0 rfl) ?_
    have p1 := wt_a hW o0 0 rfl (by decide) (by decide)
    refine w_getR (T := T_Row) S hK hI o0 rfl hin_Row 0 (index := 9) (by decide) lf_Row_9 d_Row_isOneByteOnly_11 ?_
    refine lv_iload_n hx hb d_Row_isOneByteOnly_14 rfl (lv_at hl 1 rfl) ?_
    obtain ⟨z2, h⟩ := un_if h
    refine w_iald S hK hI hT p1 z2 d_Row_isOneByteOnly_15 ?_
    refine lv_aload_n hx hb d_Row_isOneByteOnly_16 rfl (lv_at hl 0 rfl) ?_
    have p3 := wt_a hW o0 0 rfl (by decide) (by decide)
    refine w_getR (T := T_Row) S hK hI o0 rfl hin_Row 0 (index := 9) (by decide) lf_Row_9 d_Row_isOneByteOnly_17 ?_
    refine lv_iconst (v := 0) hx hb d_Row_isOneByteOnly_20 rfl ?_
    obtain ⟨z4, h⟩ := un_if h
    refine w_iald S hK hI hT p3 z4 d_Row_isOneByteOnly_21 ?_
    refine lv_icmp_eq (tgt := 27) hx hb d_Row_isOneByteOnly_22 rfl (fun hc => ?_) (fun hc => ?_)
    · replace h := (if_pos hc).symm.trans h
      refine lv_iinc (k := 1) (v := x1 + (1 : Int32)) (lv' := [(1, .int (x1 + (1 : Int32))), (0, .ref (mAd X i0))]) hx hb d_Row_isOneByteOnly_27 hl rfl rfl (by decide) rfl (fun ls hl => ?_)
      refine lv_goto (tgt := 2) hx hb d_Row_isOneByteOnly_30 rfl ?_
      exact hk2 _ _ _ _ _ _ o0 hI (lv_sub hl [1, 0] rfl) h
    · replace h := (if_neg hc).symm.trans h
      refine lv_iconst (v := 0) hx hb d_Row_isOneByteOnly_25 rfl ?_
      exact w_zret S hK hr hlk hI d_Row_isOneByteOnly_26 h
def f_Row_isOneByteOnly_2 (L : La)  : Nat → Nat → Int32 → Mem → Option (Int32 × Mem)
  | 0 => fun _ _ _ => none
  | n + 1 => b_Row_isOneByteOnly_2 L (f_Row_isOneByteOnly_2 L  n)
theorem tf_Row_isOneByteOnly_2 (hC : Cx X L p s m args meth c cc_Row_isOneByteOnly 2 w_Row_isOneByteOnly R_Row (some .boolean))  {out : (Int32 × Mem)}  (n : Nat) : ∀ (i0 : Nat) (x1 : Int32) (F : Mem) (H : Heap) (locs : List Loc) (ls : Array Slot), oO L 1 i0 → Iv X L s H locs F → lv_has ls 2 [(0, .ref (mAd X i0)), (1, .int x1)] → f_Row_isOneByteOnly_2 L  n i0 x1 F = some out → W p l e (headSpec w_Row_isOneByteOnly r_Row_isOneByteOnly).room s m args below meth c H locs 0 0 (MQ below (QI X L out) args s 0 0 (AA X L)) (F0 m 2 ls []) := by
  induction n with
  | zero => intro i0 x1 F H locs ls o0 hI hl h; cases h
  | succ n ih => intro i0 x1 F H locs ls o0 hI hl h; exact t_Row_isOneByteOnly_2 hC ih o0 hI hl h
def f_Row_isOneByteOnly (L : La) (i0 : Nat) (F : Mem) : Option (Int32 × Mem) :=
  f_Row_isOneByteOnly_2 L  mFU i0 (1 : Int32) F
set_option maxHeartbeats 4000000 in
theorem c_Row_isOneByteOnly (l : Launch) {X : Xs} {L : La} (hW : WT L) {out : (Int32 × Mem)} {i0 : Nat} {F : Mem} (o0 : oO L 1 i0) (h : f_Row_isOneByteOnly L i0 F = some out) : Met l y_Row_isOneByteOnly w_Row_isOneByteOnly r_Row_isOneByteOnly (va_Pc [.ref (mAd X i0)] (Pr X L F)) (QI X L out) 0 0 (AA X L) := by
  refine mk_met (by decide) rfl (Nat.le_of_ble_eq_true rfl) hW ?_
  intro p e s m args below meth c ls hC hI hl
  have hl : lv_has ls 2 [(0, .ref (mAd X i0))] := hl
  generalize hHe : s.heap = H at hI ⊢
  generalize ([] : List Loc) = locs at hI ⊢
  unfold f_Row_isOneByteOnly at h
  obtain ⟨S, hK, hT, hW, hr, hlk⟩ := id hC
  have hx := S.1
  have hb := S.2.1
  refine lv_iconst (v := 1) hx hb d_Row_isOneByteOnly_0 rfl ?_
  refine lv_istore_n (lv' := [(1, .int (1 : Int32)), (0, .ref (mAd X i0))]) hx hb d_Row_isOneByteOnly_1 rfl hl (by decide) rfl (fun ls hl => ?_)
  exact tf_Row_isOneByteOnly_2 hC  mFU _ _ _ _ _ _ o0 hI (lv_sub hl [1, 0] rfl) h
end
theorem d_Rp_begin_0 : decode cc_Rp_begin 0 = .ok (.aload_n 0, 1) := by decide +kernel
theorem d_Rp_begin_1 : decode cc_Rp_begin 1 = .ok (.iconst 1, 1) := by decide +kernel
theorem d_Rp_begin_2 : decode cc_Rp_begin 2 = .ok (.putfield 7, 3) := by decide +kernel
theorem d_Rp_begin_5 : decode cc_Rp_begin 5 = .ok (.aload_n 0, 1) := by decide +kernel
theorem d_Rp_begin_6 : decode cc_Rp_begin 6 = .ok (.iconst 4, 1) := by decide +kernel
theorem d_Rp_begin_7 : decode cc_Rp_begin 7 = .ok (.putfield 13, 3) := by decide +kernel
theorem d_Rp_begin_10 : decode cc_Rp_begin 10 = .ok (.aload_n 0, 1) := by decide +kernel
theorem d_Rp_begin_11 : decode cc_Rp_begin 11 = .ok (.bipush (8), 2) := by decide +kernel
theorem d_Rp_begin_13 : decode cc_Rp_begin 13 = .ok (.putfield 16, 3) := by decide +kernel
theorem d_Rp_begin_16 : decode cc_Rp_begin 16 = .ok (.return_, 1) := by decide +kernel
section
variable {p : Program} {l : Launch} {e : Env} {s : State} {m : MethodId} {args : Array Value} {below : List Frame} {meth : Method} {c : Code} {X : Xs} {L : La}
def f_Rp_begin (L : La) (i0 : Nat) (F : Mem) : Option Mem :=
  lt' (u2 F i0 0 (1 : Int32)) fun F1 =>
  lt' (u2 F1 i0 1 (4 : Int32)) fun F3 =>
  lt' (u2 F3 i0 2 (8 : Int32)) fun F5 =>
  some F5
set_option maxHeartbeats 4000000 in
theorem c_Rp_begin (l : Launch) {X : Xs} {L : La} (hW : WT L) {out : Mem} {i0 : Nat} {F : Mem} (o0 : oO L 6 i0) (h : f_Rp_begin L i0 F = some out) : Met l y_Rp_begin w_Rp_begin r_Rp_begin (va_Pc [.ref (mAd X i0)] (Pr X L F)) (QV X L out) 0 0 (AA X L) := by
  refine mk_met (by decide) rfl (Nat.le_of_ble_eq_true rfl) hW ?_
  intro p e s m args below meth c ls hC hI hl
  have hl : lv_has ls 1 [(0, .ref (mAd X i0))] := hl
  generalize hHe : s.heap = H at hI ⊢
  generalize ([] : List Loc) = locs at hI ⊢
  unfold f_Rp_begin at h
  obtain ⟨S, hK, hT, hW, hr, hlk⟩ := id hC
  have hx := S.1
  have hb := S.2.1
  refine lv_aload_n hx hb d_Rp_begin_0 rfl (lv_at hl 0 rfl) ?_
  refine lv_iconst (v := 1) hx hb d_Rp_begin_1 rfl ?_
  refine w_putI (T := T_Rp) S hK hI o0 rfl hin_Rp ty_Rp tk_Rp nm_Rp 0 (index := 7) (by decide) lf_Rp_7 rfl d_Rp_begin_2 (fun H locs F1 e2 hI => ?_)
  replace h := un_lt h _ e2
  refine lv_aload_n hx hb d_Rp_begin_5 rfl (lv_at hl 0 rfl) ?_
  refine lv_iconst (v := 4) hx hb d_Rp_begin_6 rfl ?_
  refine w_putI (T := T_Rp) S hK hI o0 rfl hin_Rp ty_Rp tk_Rp nm_Rp 1 (index := 13) (by decide) lf_Rp_13 rfl d_Rp_begin_7 (fun H locs F3 e4 hI => ?_)
  replace h := un_lt h _ e4
  refine lv_aload_n hx hb d_Rp_begin_10 rfl (lv_at hl 0 rfl) ?_
  refine lv_bipush (v := 8) hx hb d_Rp_begin_11 (by decide) ?_
  refine w_putI (T := T_Rp) S hK hI o0 rfl hin_Rp ty_Rp tk_Rp nm_Rp 2 (index := 16) (by decide) lf_Rp_16 rfl d_Rp_begin_13 (fun H locs F5 e6 hI => ?_)
  replace h := un_lt h _ e6
  exact w_vret S hK hr hlk hI d_Rp_begin_16 h
end
theorem d_Mf_findLongest_0 : decode cc_Mf_findLongest 0 = .ok (.aload_n 0, 1) := by decide +kernel
theorem d_Mf_findLongest_1 : decode cc_Mf_findLongest 1 = .ok (.iconst 0, 1) := by decide +kernel
theorem d_Mf_findLongest_2 : decode cc_Mf_findLongest 2 = .ok (.putfield 53, 3) := by decide +kernel
theorem d_Mf_findLongest_5 : decode cc_Mf_findLongest 5 = .ok (.aload_n 0, 1) := by decide +kernel
theorem d_Mf_findLongest_6 : decode cc_Mf_findLongest 6 = .ok (.iconst 0, 1) := by decide +kernel
theorem d_Mf_findLongest_7 : decode cc_Mf_findLongest 7 = .ok (.putfield 56, 3) := by decide +kernel
theorem d_Mf_findLongest_10 : decode cc_Mf_findLongest 10 = .ok (.iconst 0, 1) := by decide +kernel
theorem d_Mf_findLongest_11 : decode cc_Mf_findLongest 11 = .ok (.istore_n 2, 1) := by decide +kernel
theorem d_Mf_findLongest_12 : decode cc_Mf_findLongest 12 = .ok (.iload_n 2, 1) := by decide +kernel
theorem d_Mf_findLongest_13 : decode cc_Mf_findLongest 13 = .ok (.iload_n 1, 1) := by decide +kernel
theorem d_Mf_findLongest_14 : decode cc_Mf_findLongest 14 = .ok (.if_icmp .ge (73), 3) := by decide +kernel
theorem d_Mf_findLongest_17 : decode cc_Mf_findLongest 17 = .ok (.iconst 0, 1) := by decide +kernel
theorem d_Mf_findLongest_18 : decode cc_Mf_findLongest 18 = .ok (.istore_n 3, 1) := by decide +kernel
theorem d_Mf_findLongest_19 : decode cc_Mf_findLongest 19 = .ok (.iload_n 1, 1) := by decide +kernel
theorem d_Mf_findLongest_20 : decode cc_Mf_findLongest 20 = .ok (.iload_n 3, 1) := by decide +kernel
theorem d_Mf_findLongest_21 : decode cc_Mf_findLongest 21 = .ok (.iadd, 1) := by decide +kernel
theorem d_Mf_findLongest_22 : decode cc_Mf_findLongest 22 = .ok (.aload_n 0, 1) := by decide +kernel
theorem d_Mf_findLongest_23 : decode cc_Mf_findLongest 23 = .ok (.getfield 37, 3) := by decide +kernel
theorem d_Mf_findLongest_26 : decode cc_Mf_findLongest 26 = .ok (.getfield 40, 3) := by decide +kernel
theorem d_Mf_findLongest_29 : decode cc_Mf_findLongest 29 = .ok (.if_icmp .ge (34), 3) := by decide +kernel
theorem d_Mf_findLongest_32 : decode cc_Mf_findLongest 32 = .ok (.aload_n 0, 1) := by decide +kernel
theorem d_Mf_findLongest_33 : decode cc_Mf_findLongest 33 = .ok (.getfield 37, 3) := by decide +kernel
theorem d_Mf_findLongest_36 : decode cc_Mf_findLongest 36 = .ok (.getfield 63, 3) := by decide +kernel
theorem d_Mf_findLongest_39 : decode cc_Mf_findLongest 39 = .ok (.iload_n 2, 1) := by decide +kernel
theorem d_Mf_findLongest_40 : decode cc_Mf_findLongest 40 = .ok (.iload_n 3, 1) := by decide +kernel
theorem d_Mf_findLongest_41 : decode cc_Mf_findLongest 41 = .ok (.iadd, 1) := by decide +kernel
theorem d_Mf_findLongest_42 : decode cc_Mf_findLongest 42 = .ok (.iaload, 1) := by decide +kernel
theorem d_Mf_findLongest_43 : decode cc_Mf_findLongest 43 = .ok (.aload_n 0, 1) := by decide +kernel
theorem d_Mf_findLongest_44 : decode cc_Mf_findLongest 44 = .ok (.getfield 37, 3) := by decide +kernel
theorem d_Mf_findLongest_47 : decode cc_Mf_findLongest 47 = .ok (.getfield 63, 3) := by decide +kernel
theorem d_Mf_findLongest_50 : decode cc_Mf_findLongest 50 = .ok (.iload_n 1, 1) := by decide +kernel
theorem d_Mf_findLongest_51 : decode cc_Mf_findLongest 51 = .ok (.iload_n 3, 1) := by decide +kernel
theorem d_Mf_findLongest_52 : decode cc_Mf_findLongest 52 = .ok (.iadd, 1) := by decide +kernel
theorem d_Mf_findLongest_53 : decode cc_Mf_findLongest 53 = .ok (.iaload, 1) := by decide +kernel
theorem d_Mf_findLongest_54 : decode cc_Mf_findLongest 54 = .ok (.if_icmp .ne (9), 3) := by decide +kernel
theorem d_Mf_findLongest_57 : decode cc_Mf_findLongest 57 = .ok (.iinc 3 (1), 3) := by decide +kernel
theorem d_Mf_findLongest_60 : decode cc_Mf_findLongest 60 = .ok (.goto (-41), 3) := by decide +kernel
theorem d_Mf_findLongest_63 : decode cc_Mf_findLongest 63 = .ok (.iload_n 3, 1) := by decide +kernel
theorem d_Mf_findLongest_64 : decode cc_Mf_findLongest 64 = .ok (.aload_n 0, 1) := by decide +kernel
theorem d_Mf_findLongest_65 : decode cc_Mf_findLongest 65 = .ok (.getfield 53, 3) := by decide +kernel
theorem d_Mf_findLongest_68 : decode cc_Mf_findLongest 68 = .ok (.if_icmp .lt (13), 3) := by decide +kernel
theorem d_Mf_findLongest_71 : decode cc_Mf_findLongest 71 = .ok (.aload_n 0, 1) := by decide +kernel
theorem d_Mf_findLongest_72 : decode cc_Mf_findLongest 72 = .ok (.iload_n 3, 1) := by decide +kernel
theorem d_Mf_findLongest_73 : decode cc_Mf_findLongest 73 = .ok (.putfield 53, 3) := by decide +kernel
theorem d_Mf_findLongest_76 : decode cc_Mf_findLongest 76 = .ok (.aload_n 0, 1) := by decide +kernel
theorem d_Mf_findLongest_77 : decode cc_Mf_findLongest 77 = .ok (.iload_n 2, 1) := by decide +kernel
theorem d_Mf_findLongest_78 : decode cc_Mf_findLongest 78 = .ok (.putfield 56, 3) := by decide +kernel
theorem d_Mf_findLongest_81 : decode cc_Mf_findLongest 81 = .ok (.iinc 2 (1), 3) := by decide +kernel
theorem d_Mf_findLongest_84 : decode cc_Mf_findLongest 84 = .ok (.goto (-72), 3) := by decide +kernel
theorem d_Mf_findLongest_87 : decode cc_Mf_findLongest 87 = .ok (.return_, 1) := by decide +kernel
section
variable {p : Program} {l : Launch} {e : Env} {s : State} {m : MethodId} {args : Array Value} {below : List Frame} {meth : Method} {c : Code} {X : Xs} {L : La}
def b_Mf_findLongest_81 (L : La) (k12 : Nat → Int32 → Int32 → Mem → Option Mem) (i0 : Nat) (x1 : Int32) (x2 : Int32) (F : Mem) : Option Mem :=
  k12 i0 x1 (x2 + (1 : Int32)) F
set_option maxHeartbeats 4000000 in
theorem t_Mf_findLongest_81 (hC : Cx X L p s m args meth c cc_Mf_findLongest 4 w_Mf_findLongest R_Mf none) {k12 : Nat → Int32 → Int32 → Mem → Option Mem} {out : Mem} (hk12 : ∀ (i0 : Nat) (x1 : Int32) (x2 : Int32) (F : Mem) (H : Heap) (locs : List Loc) (ls : Array Slot), oO L 10 i0 → Iv X L s H locs F → lv_has ls 4 [(0, .ref (mAd X i0)), (1, .int x1), (2, .int x2)] → k12 i0 x1 x2 F = some out → W p l e (headSpec w_Mf_findLongest r_Mf_findLongest).room s m args below meth c H locs 0 0 (MQ below (QV X L out) args s 0 0 (AA X L)) (F0 m 12 ls [])) {i0 : Nat} {x1 : Int32} {x2 : Int32} {F : Mem} {H : Heap} {locs : List Loc} {ls : Array Slot} (o0 : oO L 10 i0) (hI : Iv X L s H locs F) (hl : lv_has ls 4 [(0, .ref (mAd X i0)), (1, .int x1), (2, .int x2)]) (h : b_Mf_findLongest_81 L k12 i0 x1 x2 F = some out) : W p l e (headSpec w_Mf_findLongest r_Mf_findLongest).room s m args below meth c H locs 0 0 (MQ below (QV X L out) args s 0 0 (AA X L)) (F0 m 81 ls []) := by
  unfold b_Mf_findLongest_81 at h
  obtain ⟨S, hK, hT, hW, hr, hlk⟩ := id hC
  have hx := S.1
  have hb := S.2.1
  refine lv_iinc (k := 2) (v := x2 + (1 : Int32)) (lv' := [(2, .int (x2 + (1 : Int32))), (0, .ref (mAd X i0)), (1, .int x1)]) hx hb d_Mf_findLongest_81 hl rfl rfl (by decide) rfl (fun ls hl => ?_)
  refine lv_goto (tgt := 12) hx hb d_Mf_findLongest_84 rfl ?_
  exact hk12 _ _ _ _ _ _ _ o0 hI (lv_sub hl [1, 2, 0] rfl) h
def b_Mf_findLongest_63 (L : La) (k12 : Nat → Int32 → Int32 → Mem → Option Mem) (i0 : Nat) (x1 : Int32) (x2 : Int32) (x3 : Int32) (F : Mem) : Option Mem :=
  if x3 < (F i0 8) then
    b_Mf_findLongest_81 L k12 i0 x1 x2 F
  else
    lt' (u2 F i0 8 x3) fun F1 =>
    lt' (u2 F1 i0 7 x2) fun F3 =>
    b_Mf_findLongest_81 L k12 i0 x1 x2 F3
set_option maxHeartbeats 4000000 in
theorem t_Mf_findLongest_63 (hC : Cx X L p s m args meth c cc_Mf_findLongest 4 w_Mf_findLongest R_Mf none) {k12 : Nat → Int32 → Int32 → Mem → Option Mem} {out : Mem} (hk12 : ∀ (i0 : Nat) (x1 : Int32) (x2 : Int32) (F : Mem) (H : Heap) (locs : List Loc) (ls : Array Slot), oO L 10 i0 → Iv X L s H locs F → lv_has ls 4 [(0, .ref (mAd X i0)), (1, .int x1), (2, .int x2)] → k12 i0 x1 x2 F = some out → W p l e (headSpec w_Mf_findLongest r_Mf_findLongest).room s m args below meth c H locs 0 0 (MQ below (QV X L out) args s 0 0 (AA X L)) (F0 m 12 ls [])) {i0 : Nat} {x1 : Int32} {x2 : Int32} {x3 : Int32} {F : Mem} {H : Heap} {locs : List Loc} {ls : Array Slot} (o0 : oO L 10 i0) (hI : Iv X L s H locs F) (hl : lv_has ls 4 [(0, .ref (mAd X i0)), (1, .int x1), (2, .int x2), (3, .int x3)]) (h : b_Mf_findLongest_63 L k12 i0 x1 x2 x3 F = some out) : W p l e (headSpec w_Mf_findLongest r_Mf_findLongest).room s m args below meth c H locs 0 0 (MQ below (QV X L out) args s 0 0 (AA X L)) (F0 m 63 ls []) := by
  unfold b_Mf_findLongest_63 at h
  obtain ⟨S, hK, hT, hW, hr, hlk⟩ := id hC
  have hx := S.1
  have hb := S.2.1
  refine lv_iload_n hx hb d_Mf_findLongest_63 rfl (lv_at hl 3 rfl) ?_
  refine lv_aload_n hx hb d_Mf_findLongest_64 rfl (lv_at hl 0 rfl) ?_
  refine w_getI (T := T_Mf) S hK hI o0 rfl hin_Mf 8 (index := 53) (by decide) lf_Mf_53 d_Mf_findLongest_65 ?_
  refine lv_icmp_lt (tgt := 81) hx hb d_Mf_findLongest_68 rfl (fun hc => ?_) (fun hc => ?_)
  · replace h := (if_pos hc).symm.trans h
    exact t_Mf_findLongest_81 hC hk12 o0 hI (lv_sub hl [0, 1, 2] rfl) h
  · replace h := (if_neg hc).symm.trans h
    refine lv_aload_n hx hb d_Mf_findLongest_71 rfl (lv_at hl 0 rfl) ?_
    refine lv_iload_n hx hb d_Mf_findLongest_72 rfl (lv_at hl 3 rfl) ?_
    refine w_putI (T := T_Mf) S hK hI o0 rfl hin_Mf ty_Mf tk_Mf nm_Mf 8 (index := 53) (by decide) lf_Mf_53 rfl d_Mf_findLongest_73 (fun H locs F1 e2 hI => ?_)
    replace h := un_lt h _ e2
    refine lv_aload_n hx hb d_Mf_findLongest_76 rfl (lv_at hl 0 rfl) ?_
    refine lv_iload_n hx hb d_Mf_findLongest_77 rfl (lv_at hl 2 rfl) ?_
    refine w_putI (T := T_Mf) S hK hI o0 rfl hin_Mf ty_Mf tk_Mf nm_Mf 7 (index := 56) (by decide) lf_Mf_56 rfl d_Mf_findLongest_78 (fun H locs F3 e4 hI => ?_)
    replace h := un_lt h _ e4
    exact t_Mf_findLongest_81 hC hk12 o0 hI (lv_sub hl [0, 1, 2] rfl) h
def b_Mf_findLongest_19 (L : La) (k12 : Nat → Int32 → Int32 → Mem → Option Mem) (k19 : Nat → Int32 → Int32 → Int32 → Mem → Option Mem) (i0 : Nat) (x1 : Int32) (x2 : Int32) (x3 : Int32) (F : Mem) : Option Mem :=
  if (F (mRf L i0 0) 1) ≤ (x1 + x3) then
    b_Mf_findLongest_63 L k12 i0 x1 x2 x3 F
  else
    if inb (x2 + x3) (mGl L (mRf L (mRf L i0 0) 0)) then none else
    if inb (x1 + x3) (mGl L (mRf L (mRf L i0 0) 0)) then none else
    if (mGa L F (mRf L (mRf L i0 0) 0) (x2 + x3).toNatClampNeg) = (mGa L F (mRf L (mRf L i0 0) 0) (x1 + x3).toNatClampNeg) then
      k19 i0 x1 x2 (x3 + (1 : Int32)) F
    else
      b_Mf_findLongest_63 L k12 i0 x1 x2 x3 F
set_option maxHeartbeats 4000000 in
theorem t_Mf_findLongest_19 (hC : Cx X L p s m args meth c cc_Mf_findLongest 4 w_Mf_findLongest R_Mf none) {k12 : Nat → Int32 → Int32 → Mem → Option Mem} {k19 : Nat → Int32 → Int32 → Int32 → Mem → Option Mem} {out : Mem} (hk12 : ∀ (i0 : Nat) (x1 : Int32) (x2 : Int32) (F : Mem) (H : Heap) (locs : List Loc) (ls : Array Slot), oO L 10 i0 → Iv X L s H locs F → lv_has ls 4 [(0, .ref (mAd X i0)), (1, .int x1), (2, .int x2)] → k12 i0 x1 x2 F = some out → W p l e (headSpec w_Mf_findLongest r_Mf_findLongest).room s m args below meth c H locs 0 0 (MQ below (QV X L out) args s 0 0 (AA X L)) (F0 m 12 ls [])) (hk19 : ∀ (i0 : Nat) (x1 : Int32) (x2 : Int32) (x3 : Int32) (F : Mem) (H : Heap) (locs : List Loc) (ls : Array Slot), oO L 10 i0 → Iv X L s H locs F → lv_has ls 4 [(0, .ref (mAd X i0)), (1, .int x1), (2, .int x2), (3, .int x3)] → k19 i0 x1 x2 x3 F = some out → W p l e (headSpec w_Mf_findLongest r_Mf_findLongest).room s m args below meth c H locs 0 0 (MQ below (QV X L out) args s 0 0 (AA X L)) (F0 m 19 ls [])) {i0 : Nat} {x1 : Int32} {x2 : Int32} {x3 : Int32} {F : Mem} {H : Heap} {locs : List Loc} {ls : Array Slot} (o0 : oO L 10 i0) (hI : Iv X L s H locs F) (hl : lv_has ls 4 [(0, .ref (mAd X i0)), (1, .int x1), (2, .int x2), (3, .int x3)]) (h : b_Mf_findLongest_19 L k12 k19 i0 x1 x2 x3 F = some out) : W p l e (headSpec w_Mf_findLongest r_Mf_findLongest).room s m args below meth c H locs 0 0 (MQ below (QV X L out) args s 0 0 (AA X L)) (F0 m 19 ls []) := by
  unfold b_Mf_findLongest_19 at h
  obtain ⟨S, hK, hT, hW, hr, hlk⟩ := id hC
  have hx := S.1
  have hb := S.2.1
  refine lv_iload_n hx hb d_Mf_findLongest_19 rfl (lv_at hl 1 rfl) ?_
  refine lv_iload_n hx hb d_Mf_findLongest_20 rfl (lv_at hl 3 rfl) ?_
  refine lv_iadd hx hb d_Mf_findLongest_21 ?_
  refine lv_aload_n hx hb d_Mf_findLongest_22 rfl (lv_at hl 0 rfl) ?_
  have p1 := wt_o hW o0 0 1 rfl (by decide) (by decide) (by decide)
  refine w_getR (T := T_Mf) S hK hI o0 rfl hin_Mf 0 (index := 37) (by decide) lf_Mf_37 d_Mf_findLongest_23 ?_
  refine w_getI (T := T_Row) S hK hI p1 rfl hin_Row 1 (index := 40) (by decide) lf_Mf_40 d_Mf_findLongest_26 ?_
  refine lv_icmp_ge (tgt := 63) hx hb d_Mf_findLongest_29 rfl (fun hc => ?_) (fun hc => ?_)
  · replace h := (if_pos hc).symm.trans h
    exact t_Mf_findLongest_63 hC hk12 o0 hI hl h
  · replace h := (if_neg hc).symm.trans h
    refine lv_aload_n hx hb d_Mf_findLongest_32 rfl (lv_at hl 0 rfl) ?_
    have p2 := wt_o hW o0 0 1 rfl (by decide) (by decide) (by decide)
    refine w_getR (T := T_Mf) S hK hI o0 rfl hin_Mf 0 (index := 37) (by decide) lf_Mf_37 d_Mf_findLongest_33 ?_
    have p3 := wt_a hW p2 0 rfl (by decide) (by decide)
    refine w_getR (T := T_Row) S hK hI p2 rfl hin_Row 0 (index := 63) (by decide) lf_Mf_63 d_Mf_findLongest_36 ?_
    refine lv_iload_n hx hb d_Mf_findLongest_39 rfl (lv_at hl 2 rfl) ?_
    refine lv_iload_n hx hb d_Mf_findLongest_40 rfl (lv_at hl 3 rfl) ?_
    refine lv_iadd hx hb d_Mf_findLongest_41 ?_
    obtain ⟨z4, h⟩ := un_if h
    refine w_iald S hK hI hT p3 z4 d_Mf_findLongest_42 ?_
    refine lv_aload_n hx hb d_Mf_findLongest_43 rfl (lv_at hl 0 rfl) ?_
    have p5 := wt_o hW o0 0 1 rfl (by decide) (by decide) (by decide)
    refine w_getR (T := T_Mf) S hK hI o0 rfl hin_Mf 0 (index := 37) (by decide) lf_Mf_37 d_Mf_findLongest_44 ?_
    have p6 := wt_a hW p5 0 rfl (by decide) (by decide)
    refine w_getR (T := T_Row) S hK hI p5 rfl hin_Row 0 (index := 63) (by decide) lf_Mf_63 d_Mf_findLongest_47 ?_
    refine lv_iload_n hx hb d_Mf_findLongest_50 rfl (lv_at hl 1 rfl) ?_
    refine lv_iload_n hx hb d_Mf_findLongest_51 rfl (lv_at hl 3 rfl) ?_
    refine lv_iadd hx hb d_Mf_findLongest_52 ?_
    obtain ⟨z7, h⟩ := un_if h
    refine w_iald S hK hI hT p6 z7 d_Mf_findLongest_53 ?_
    refine lv_icmp_ne (tgt := 63) hx hb d_Mf_findLongest_54 rfl (fun hc => ?_) (fun hc => ?_)
    · replace h := (if_neg hc).symm.trans h
      exact t_Mf_findLongest_63 hC hk12 o0 hI hl h
    · replace h := (if_pos hc).symm.trans h
      refine lv_iinc (k := 3) (v := x3 + (1 : Int32)) (lv' := [(3, .int (x3 + (1 : Int32))), (0, .ref (mAd X i0)), (1, .int x1), (2, .int x2)]) hx hb d_Mf_findLongest_57 hl rfl rfl (by decide) rfl (fun ls hl => ?_)
      refine lv_goto (tgt := 19) hx hb d_Mf_findLongest_60 rfl ?_
      exact hk19 _ _ _ _ _ _ _ _ o0 hI (lv_sub hl [1, 2, 3, 0] rfl) h
def f_Mf_findLongest_19 (L : La) (k12 : Nat → Int32 → Int32 → Mem → Option Mem) : Nat → Nat → Int32 → Int32 → Int32 → Mem → Option Mem
  | 0 => fun _ _ _ _ _ => none
  | n + 1 => b_Mf_findLongest_19 L k12 (f_Mf_findLongest_19 L k12 n)
theorem tf_Mf_findLongest_19 (hC : Cx X L p s m args meth c cc_Mf_findLongest 4 w_Mf_findLongest R_Mf none) {k12 : Nat → Int32 → Int32 → Mem → Option Mem} {out : Mem} (hk12 : ∀ (i0 : Nat) (x1 : Int32) (x2 : Int32) (F : Mem) (H : Heap) (locs : List Loc) (ls : Array Slot), oO L 10 i0 → Iv X L s H locs F → lv_has ls 4 [(0, .ref (mAd X i0)), (1, .int x1), (2, .int x2)] → k12 i0 x1 x2 F = some out → W p l e (headSpec w_Mf_findLongest r_Mf_findLongest).room s m args below meth c H locs 0 0 (MQ below (QV X L out) args s 0 0 (AA X L)) (F0 m 12 ls [])) (n : Nat) : ∀ (i0 : Nat) (x1 : Int32) (x2 : Int32) (x3 : Int32) (F : Mem) (H : Heap) (locs : List Loc) (ls : Array Slot), oO L 10 i0 → Iv X L s H locs F → lv_has ls 4 [(0, .ref (mAd X i0)), (1, .int x1), (2, .int x2), (3, .int x3)] → f_Mf_findLongest_19 L k12 n i0 x1 x2 x3 F = some out → W p l e (headSpec w_Mf_findLongest r_Mf_findLongest).room s m args below meth c H locs 0 0 (MQ below (QV X L out) args s 0 0 (AA X L)) (F0 m 19 ls []) := by
  induction n with
  | zero => intro i0 x1 x2 x3 F H locs ls o0 hI hl h; cases h
  | succ n ih => intro i0 x1 x2 x3 F H locs ls o0 hI hl h; exact t_Mf_findLongest_19 hC hk12 ih o0 hI hl h
def b_Mf_findLongest_12 (L : La) (k12 : Nat → Int32 → Int32 → Mem → Option Mem) (i0 : Nat) (x1 : Int32) (x2 : Int32) (F : Mem) : Option Mem :=
  if x1 ≤ x2 then
    some F
  else
    f_Mf_findLongest_19 L k12 mFU i0 x1 x2 (0 : Int32) F
set_option maxHeartbeats 4000000 in
theorem t_Mf_findLongest_12 (hC : Cx X L p s m args meth c cc_Mf_findLongest 4 w_Mf_findLongest R_Mf none) {k12 : Nat → Int32 → Int32 → Mem → Option Mem} {out : Mem} (hk12 : ∀ (i0 : Nat) (x1 : Int32) (x2 : Int32) (F : Mem) (H : Heap) (locs : List Loc) (ls : Array Slot), oO L 10 i0 → Iv X L s H locs F → lv_has ls 4 [(0, .ref (mAd X i0)), (1, .int x1), (2, .int x2)] → k12 i0 x1 x2 F = some out → W p l e (headSpec w_Mf_findLongest r_Mf_findLongest).room s m args below meth c H locs 0 0 (MQ below (QV X L out) args s 0 0 (AA X L)) (F0 m 12 ls [])) {i0 : Nat} {x1 : Int32} {x2 : Int32} {F : Mem} {H : Heap} {locs : List Loc} {ls : Array Slot} (o0 : oO L 10 i0) (hI : Iv X L s H locs F) (hl : lv_has ls 4 [(0, .ref (mAd X i0)), (1, .int x1), (2, .int x2)]) (h : b_Mf_findLongest_12 L k12 i0 x1 x2 F = some out) : W p l e (headSpec w_Mf_findLongest r_Mf_findLongest).room s m args below meth c H locs 0 0 (MQ below (QV X L out) args s 0 0 (AA X L)) (F0 m 12 ls []) := by
  unfold b_Mf_findLongest_12 at h
  obtain ⟨S, hK, hT, hW, hr, hlk⟩ := id hC
  have hx := S.1
  have hb := S.2.1
  refine lv_iload_n hx hb d_Mf_findLongest_12 rfl (lv_at hl 2 rfl) ?_
  refine lv_iload_n hx hb d_Mf_findLongest_13 rfl (lv_at hl 1 rfl) ?_
  refine lv_icmp_ge (tgt := 87) hx hb d_Mf_findLongest_14 rfl (fun hc => ?_) (fun hc => ?_)
  · replace h := (if_pos hc).symm.trans h
    exact w_vret S hK hr hlk hI d_Mf_findLongest_87 h
  · replace h := (if_neg hc).symm.trans h
    refine lv_iconst (v := 0) hx hb d_Mf_findLongest_17 rfl ?_
    refine lv_istore_n (lv' := [(3, .int (0 : Int32)), (0, .ref (mAd X i0)), (1, .int x1), (2, .int x2)]) hx hb d_Mf_findLongest_18 rfl hl (by decide) rfl (fun ls hl => ?_)
    exact tf_Mf_findLongest_19 hC hk12 mFU _ _ _ _ _ _ _ _ o0 hI (lv_sub hl [1, 2, 3, 0] rfl) h
def f_Mf_findLongest_12 (L : La)  : Nat → Nat → Int32 → Int32 → Mem → Option Mem
  | 0 => fun _ _ _ _ => none
  | n + 1 => b_Mf_findLongest_12 L (f_Mf_findLongest_12 L  n)
theorem tf_Mf_findLongest_12 (hC : Cx X L p s m args meth c cc_Mf_findLongest 4 w_Mf_findLongest R_Mf none)  {out : Mem}  (n : Nat) : ∀ (i0 : Nat) (x1 : Int32) (x2 : Int32) (F : Mem) (H : Heap) (locs : List Loc) (ls : Array Slot), oO L 10 i0 → Iv X L s H locs F → lv_has ls 4 [(0, .ref (mAd X i0)), (1, .int x1), (2, .int x2)] → f_Mf_findLongest_12 L  n i0 x1 x2 F = some out → W p l e (headSpec w_Mf_findLongest r_Mf_findLongest).room s m args below meth c H locs 0 0 (MQ below (QV X L out) args s 0 0 (AA X L)) (F0 m 12 ls []) := by
  induction n with
  | zero => intro i0 x1 x2 F H locs ls o0 hI hl h; cases h
  | succ n ih => intro i0 x1 x2 F H locs ls o0 hI hl h; exact t_Mf_findLongest_12 hC ih o0 hI hl h
def f_Mf_findLongest (L : La) (i0 : Nat) (x1 : Int32) (F : Mem) : Option Mem :=
  lt' (u2 F i0 8 (0 : Int32)) fun F1 =>
  lt' (u2 F1 i0 7 (0 : Int32)) fun F3 =>
  f_Mf_findLongest_12 L  mFU i0 x1 (0 : Int32) F3
set_option maxHeartbeats 4000000 in
theorem c_Mf_findLongest (l : Launch) {X : Xs} {L : La} (hW : WT L) {out : Mem} {i0 : Nat} {x1 : Int32} {F : Mem} (o0 : oO L 10 i0) (h : f_Mf_findLongest L i0 x1 F = some out) : Met l y_Mf_findLongest w_Mf_findLongest r_Mf_findLongest (va_Pc [.ref (mAd X i0), .int x1] (Pr X L F)) (QV X L out) 0 0 (AA X L) := by
  refine mk_met (by decide) rfl (Nat.le_of_ble_eq_true rfl) hW ?_
  intro p e s m args below meth c ls hC hI hl
  have hl : lv_has ls 4 [(0, .ref (mAd X i0)), (1, .int x1)] := hl
  generalize hHe : s.heap = H at hI ⊢
  generalize ([] : List Loc) = locs at hI ⊢
  unfold f_Mf_findLongest at h
  obtain ⟨S, hK, hT, hW, hr, hlk⟩ := id hC
  have hx := S.1
  have hb := S.2.1
  refine lv_aload_n hx hb d_Mf_findLongest_0 rfl (lv_at hl 0 rfl) ?_
  refine lv_iconst (v := 0) hx hb d_Mf_findLongest_1 rfl ?_
  refine w_putI (T := T_Mf) S hK hI o0 rfl hin_Mf ty_Mf tk_Mf nm_Mf 8 (index := 53) (by decide) lf_Mf_53 rfl d_Mf_findLongest_2 (fun H locs F1 e2 hI => ?_)
  replace h := un_lt h _ e2
  refine lv_aload_n hx hb d_Mf_findLongest_5 rfl (lv_at hl 0 rfl) ?_
  refine lv_iconst (v := 0) hx hb d_Mf_findLongest_6 rfl ?_
  refine w_putI (T := T_Mf) S hK hI o0 rfl hin_Mf ty_Mf tk_Mf nm_Mf 7 (index := 56) (by decide) lf_Mf_56 rfl d_Mf_findLongest_7 (fun H locs F3 e4 hI => ?_)
  replace h := un_lt h _ e4
  refine lv_iconst (v := 0) hx hb d_Mf_findLongest_10 rfl ?_
  refine lv_istore_n (lv' := [(2, .int (0 : Int32)), (0, .ref (mAd X i0)), (1, .int x1)]) hx hb d_Mf_findLongest_11 rfl hl (by decide) rfl (fun ls hl => ?_)
  exact tf_Mf_findLongest_12 hC  mFU _ _ _ _ _ _ _ o0 hI (lv_sub hl [1, 2, 0] rfl) h
end
theorem d_Rp_wayFor_0 : decode cc_Rp_wayFor 0 = .ok (.iload_n 1, 1) := by decide +kernel
theorem d_Rp_wayFor_1 : decode cc_Rp_wayFor 1 = .ok (.iconst 3, 1) := by decide +kernel
theorem d_Rp_wayFor_2 : decode cc_Rp_wayFor 2 = .ok (.if_icmp .le (7), 3) := by decide +kernel
theorem d_Rp_wayFor_5 : decode cc_Rp_wayFor 5 = .ok (.iload_n 1, 1) := by decide +kernel
theorem d_Rp_wayFor_6 : decode cc_Rp_wayFor 6 = .ok (.iconst 3, 1) := by decide +kernel
theorem d_Rp_wayFor_7 : decode cc_Rp_wayFor 7 = .ok (.isub, 1) := by decide +kernel
theorem d_Rp_wayFor_8 : decode cc_Rp_wayFor 8 = .ok (.ireturn, 1) := by decide +kernel
theorem d_Rp_wayFor_9 : decode cc_Rp_wayFor 9 = .ok (.iload_n 2, 1) := by decide +kernel
theorem d_Rp_wayFor_10 : decode cc_Rp_wayFor 10 = .ok (.ifCond .ne (9), 3) := by decide +kernel
theorem d_Rp_wayFor_13 : decode cc_Rp_wayFor 13 = .ok (.iload_n 1, 1) := by decide +kernel
theorem d_Rp_wayFor_14 : decode cc_Rp_wayFor 14 = .ok (.iconst 1, 1) := by decide +kernel
theorem d_Rp_wayFor_15 : decode cc_Rp_wayFor 15 = .ok (.iadd, 1) := by decide +kernel
theorem d_Rp_wayFor_16 : decode cc_Rp_wayFor 16 = .ok (.goto (4), 3) := by decide +kernel
theorem d_Rp_wayFor_19 : decode cc_Rp_wayFor 19 = .ok (.iload_n 1, 1) := by decide +kernel
theorem d_Rp_wayFor_20 : decode cc_Rp_wayFor 20 = .ok (.tableswitch (43) (1) (3) #[28, 33, 38], 28) := by decide +kernel
theorem d_Rp_wayFor_48 : decode cc_Rp_wayFor 48 = .ok (.aload_n 0, 1) := by decide +kernel
theorem d_Rp_wayFor_49 : decode cc_Rp_wayFor 49 = .ok (.getfield 7, 3) := by decide +kernel
theorem d_Rp_wayFor_52 : decode cc_Rp_wayFor 52 = .ok (.ireturn, 1) := by decide +kernel
theorem d_Rp_wayFor_53 : decode cc_Rp_wayFor 53 = .ok (.aload_n 0, 1) := by decide +kernel
theorem d_Rp_wayFor_54 : decode cc_Rp_wayFor 54 = .ok (.getfield 13, 3) := by decide +kernel
theorem d_Rp_wayFor_57 : decode cc_Rp_wayFor 57 = .ok (.ireturn, 1) := by decide +kernel
theorem d_Rp_wayFor_58 : decode cc_Rp_wayFor 58 = .ok (.aload_n 0, 1) := by decide +kernel
theorem d_Rp_wayFor_59 : decode cc_Rp_wayFor 59 = .ok (.getfield 16, 3) := by decide +kernel
theorem d_Rp_wayFor_62 : decode cc_Rp_wayFor 62 = .ok (.ireturn, 1) := by decide +kernel
theorem d_Rp_wayFor_63 : decode cc_Rp_wayFor 63 = .ok (.aload_n 0, 1) := by decide +kernel
theorem d_Rp_wayFor_64 : decode cc_Rp_wayFor 64 = .ok (.getfield 7, 3) := by decide +kernel
theorem d_Rp_wayFor_67 : decode cc_Rp_wayFor 67 = .ok (.iconst 1, 1) := by decide +kernel
theorem d_Rp_wayFor_68 : decode cc_Rp_wayFor 68 = .ok (.isub, 1) := by decide +kernel
theorem d_Rp_wayFor_69 : decode cc_Rp_wayFor 69 = .ok (.ireturn, 1) := by decide +kernel
section
variable {p : Program} {l : Launch} {e : Env} {s : State} {m : MethodId} {args : Array Value} {below : List Frame} {meth : Method} {c : Code} {X : Xs} {L : La}
def b_Rp_wayFor_20 (L : La)  (i0 : Nat) (y0 : Int32) (F : Mem) : Option (Int32 × Mem) :=
  if y0 = 1 then
    some (F i0 0, F)
  else
    if y0 = 2 then
      some (F i0 1, F)
    else
      if y0 = 3 then
        some (F i0 2, F)
      else
        some ((F i0 0) - (1 : Int32), F)
set_option maxHeartbeats 4000000 in
theorem t_Rp_wayFor_20 (hC : Cx X L p s m args meth c cc_Rp_wayFor 3 w_Rp_wayFor R_Rp (some .int))  {out : (Int32 × Mem)}  {i0 : Nat} {y0 : Int32} {F : Mem} {H : Heap} {locs : List Loc} {ls : Array Slot} (o0 : oO L 6 i0) (hI : Iv X L s H locs F) (hl : lv_has ls 3 [(0, .ref (mAd X i0))]) (h : b_Rp_wayFor_20 L  i0 y0 F = some out) : W p l e (headSpec w_Rp_wayFor r_Rp_wayFor).room s m args below meth c H locs 0 0 (MQ below (QI X L out) args s 0 0 (AA X L)) (F0 m 20 ls [.int y0]) := by
  unfold b_Rp_wayFor_20 at h
  obtain ⟨S, hK, hT, hW, hr, hlk⟩ := id hC
  have hx := S.1
  have hb := S.2.1
  by_cases e1 : y0 = 1
  · replace h := (if_pos e1).symm.trans h
    refine lv_tableIn (x := y0) (off := 28) (tgt := 48) hx hb d_Rp_wayFor_20 (by rw [e1]; decide) (by rw [e1]; decide) (by rw [e1]; rfl) rfl ?_
    refine lv_aload_n hx hb d_Rp_wayFor_48 rfl (lv_at hl 0 rfl) ?_
    refine w_getI (T := T_Rp) S hK hI o0 rfl hin_Rp 0 (index := 7) (by decide) lf_Rp_7 d_Rp_wayFor_49 ?_
    exact w_iret S hK hr hlk hI d_Rp_wayFor_52 h
  replace h := (if_neg e1).symm.trans h
  by_cases e2 : y0 = 2
  · replace h := (if_pos e2).symm.trans h
    refine lv_tableIn (x := y0) (off := 33) (tgt := 53) hx hb d_Rp_wayFor_20 (by rw [e2]; decide) (by rw [e2]; decide) (by rw [e2]; rfl) rfl ?_
    refine lv_aload_n hx hb d_Rp_wayFor_53 rfl (lv_at hl 0 rfl) ?_
    refine w_getI (T := T_Rp) S hK hI o0 rfl hin_Rp 1 (index := 13) (by decide) lf_Rp_13 d_Rp_wayFor_54 ?_
    exact w_iret S hK hr hlk hI d_Rp_wayFor_57 h
  replace h := (if_neg e2).symm.trans h
  by_cases e3 : y0 = 3
  · replace h := (if_pos e3).symm.trans h
    refine lv_tableIn (x := y0) (off := 38) (tgt := 58) hx hb d_Rp_wayFor_20 (by rw [e3]; decide) (by rw [e3]; decide) (by rw [e3]; rfl) rfl ?_
    refine lv_aload_n hx hb d_Rp_wayFor_58 rfl (lv_at hl 0 rfl) ?_
    refine w_getI (T := T_Rp) S hK hI o0 rfl hin_Rp 2 (index := 16) (by decide) lf_Rp_16 d_Rp_wayFor_59 ?_
    exact w_iret S hK hr hlk hI d_Rp_wayFor_62 h
  replace h := (if_neg e3).symm.trans h
  refine lv_tableOut (x := y0) (tgt := 63) hx hb d_Rp_wayFor_20 (by have ne1 := lv_neT (a := 1) e1 (by decide); have ne2 := lv_neT (a := 2) e2 (by decide); have ne3 := lv_neT (a := 3) e3 (by decide); omega) rfl ?_
  refine lv_aload_n hx hb d_Rp_wayFor_63 rfl (lv_at hl 0 rfl) ?_
  refine w_getI (T := T_Rp) S hK hI o0 rfl hin_Rp 0 (index := 7) (by decide) lf_Rp_7 d_Rp_wayFor_64 ?_
  refine lv_iconst (v := 1) hx hb d_Rp_wayFor_67 rfl ?_
  refine lv_isub hx hb d_Rp_wayFor_68 ?_
  exact w_iret S hK hr hlk hI d_Rp_wayFor_69 h
def f_Rp_wayFor (L : La) (i0 : Nat) (x1 : Int32) (x2 : Int32) (F : Mem) : Option (Int32 × Mem) :=
  if x1 ≤ (3 : Int32) then
    if x2 = 0 then
      b_Rp_wayFor_20 L  i0 (x1 + (1 : Int32)) F
    else
      b_Rp_wayFor_20 L  i0 x1 F
  else
    some (x1 - (3 : Int32), F)
set_option maxHeartbeats 4000000 in
theorem c_Rp_wayFor (l : Launch) {X : Xs} {L : La} (hW : WT L) {out : (Int32 × Mem)} {i0 : Nat} {x1 : Int32} {x2 : Int32} {F : Mem} (o0 : oO L 6 i0) (h : f_Rp_wayFor L i0 x1 x2 F = some out) : Met l y_Rp_wayFor w_Rp_wayFor r_Rp_wayFor (va_Pc [.ref (mAd X i0), .int x1, .int x2] (Pr X L F)) (QI X L out) 0 0 (AA X L) := by
  refine mk_met (by decide) rfl (Nat.le_of_ble_eq_true rfl) hW ?_
  intro p e s m args below meth c ls hC hI hl
  have hl : lv_has ls 3 [(0, .ref (mAd X i0)), (1, .int x1), (2, .int x2)] := hl
  generalize hHe : s.heap = H at hI ⊢
  generalize ([] : List Loc) = locs at hI ⊢
  unfold f_Rp_wayFor at h
  obtain ⟨S, hK, hT, hW, hr, hlk⟩ := id hC
  have hx := S.1
  have hb := S.2.1
  refine lv_iload_n hx hb d_Rp_wayFor_0 rfl (lv_at hl 1 rfl) ?_
  refine lv_iconst (v := 3) hx hb d_Rp_wayFor_1 rfl ?_
  refine lv_icmp_le (tgt := 9) hx hb d_Rp_wayFor_2 rfl (fun hc => ?_) (fun hc => ?_)
  · replace h := (if_pos hc).symm.trans h
    refine lv_iload_n hx hb d_Rp_wayFor_9 rfl (lv_at hl 2 rfl) ?_
    refine lv_if_ne (tgt := 19) hx hb d_Rp_wayFor_10 rfl (fun hc => ?_) (fun hc => ?_)
    · replace h := (if_neg hc).symm.trans h
      refine lv_iload_n hx hb d_Rp_wayFor_19 rfl (lv_at hl 1 rfl) ?_
      exact t_Rp_wayFor_20 hC  o0 hI (lv_sub hl [0] rfl) h
    · replace h := (if_pos hc).symm.trans h
      refine lv_iload_n hx hb d_Rp_wayFor_13 rfl (lv_at hl 1 rfl) ?_
      refine lv_iconst (v := 1) hx hb d_Rp_wayFor_14 rfl ?_
      refine lv_iadd hx hb d_Rp_wayFor_15 ?_
      refine lv_goto (tgt := 20) hx hb d_Rp_wayFor_16 rfl ?_
      exact t_Rp_wayFor_20 hC  o0 hI (lv_sub hl [0] rfl) h
  · replace h := (if_neg hc).symm.trans h
    refine lv_iload_n hx hb d_Rp_wayFor_5 rfl (lv_at hl 1 rfl) ?_
    refine lv_iconst (v := 3) hx hb d_Rp_wayFor_6 rfl ?_
    refine lv_isub hx hb d_Rp_wayFor_7 ?_
    exact w_iret S hK hr hlk hI d_Rp_wayFor_8 h
end
theorem d_Rp_leastValueFor_0 : decode cc_Rp_leastValueFor 0 = .ok (.iconst 1, 1) := by decide +kernel
theorem d_Rp_leastValueFor_1 : decode cc_Rp_leastValueFor 1 = .ok (.istore_n 3, 1) := by decide +kernel
theorem d_Rp_leastValueFor_2 : decode cc_Rp_leastValueFor 2 = .ok (.iload_n 3, 1) := by decide +kernel
theorem d_Rp_leastValueFor_3 : decode cc_Rp_leastValueFor 3 = .ok (.iconst 3, 1) := by decide +kernel
theorem d_Rp_leastValueFor_4 : decode cc_Rp_leastValueFor 4 = .ok (.if_icmp .gt (21), 3) := by decide +kernel
theorem d_Rp_leastValueFor_7 : decode cc_Rp_leastValueFor 7 = .ok (.aload_n 0, 1) := by decide +kernel
theorem d_Rp_leastValueFor_8 : decode cc_Rp_leastValueFor 8 = .ok (.iload_n 3, 1) := by decide +kernel
theorem d_Rp_leastValueFor_9 : decode cc_Rp_leastValueFor 9 = .ok (.iload_n 2, 1) := by decide +kernel
theorem d_Rp_leastValueFor_10 : decode cc_Rp_leastValueFor 10 = .ok (.invokevirtual 19, 3) := by decide +kernel
theorem d_Rp_leastValueFor_13 : decode cc_Rp_leastValueFor 13 = .ok (.iload_n 1, 1) := by decide +kernel
theorem d_Rp_leastValueFor_14 : decode cc_Rp_leastValueFor 14 = .ok (.if_icmp .ne (5), 3) := by decide +kernel
theorem d_Rp_leastValueFor_17 : decode cc_Rp_leastValueFor 17 = .ok (.iload_n 3, 1) := by decide +kernel
theorem d_Rp_leastValueFor_18 : decode cc_Rp_leastValueFor 18 = .ok (.ireturn, 1) := by decide +kernel
theorem d_Rp_leastValueFor_19 : decode cc_Rp_leastValueFor 19 = .ok (.iinc 3 (1), 3) := by decide +kernel
theorem d_Rp_leastValueFor_22 : decode cc_Rp_leastValueFor 22 = .ok (.goto (-20), 3) := by decide +kernel
theorem d_Rp_leastValueFor_25 : decode cc_Rp_leastValueFor 25 = .ok (.iload_n 1, 1) := by decide +kernel
theorem d_Rp_leastValueFor_26 : decode cc_Rp_leastValueFor 26 = .ok (.iconst 3, 1) := by decide +kernel
theorem d_Rp_leastValueFor_27 : decode cc_Rp_leastValueFor 27 = .ok (.iadd, 1) := by decide +kernel
theorem d_Rp_leastValueFor_28 : decode cc_Rp_leastValueFor 28 = .ok (.ireturn, 1) := by decide +kernel
section
variable {p : Program} {l : Launch} {e : Env} {s : State} {m : MethodId} {args : Array Value} {below : List Frame} {meth : Method} {c : Code} {X : Xs} {L : La}
def b_Rp_leastValueFor_2 (L : La) (k2 : Nat → Int32 → Int32 → Int32 → Mem → Option (Int32 × Mem)) (i0 : Nat) (x1 : Int32) (x2 : Int32) (x3 : Int32) (F : Mem) : Option (Int32 × Mem) :=
  if (3 : Int32) < x3 then
    some (x1 + (3 : Int32), F)
  else
    (f_Rp_wayFor L i0 x3 x2 F).bind fun q1 =>
    if q1.1 = x1 then
      some (x3, q1.2)
    else
      k2 i0 x1 x2 (x3 + (1 : Int32)) q1.2
set_option maxHeartbeats 4000000 in
theorem t_Rp_leastValueFor_2 (hC : Cx X L p s m args meth c cc_Rp_leastValueFor 4 w_Rp_leastValueFor R_Rp (some .int)) {k2 : Nat → Int32 → Int32 → Int32 → Mem → Option (Int32 × Mem)} {out : (Int32 × Mem)} (hk2 : ∀ (i0 : Nat) (x1 : Int32) (x2 : Int32) (x3 : Int32) (F : Mem) (H : Heap) (locs : List Loc) (ls : Array Slot), oO L 6 i0 → Iv X L s H locs F → lv_has ls 4 [(0, .ref (mAd X i0)), (1, .int x1), (2, .int x2), (3, .int x3)] → k2 i0 x1 x2 x3 F = some out → W p l e (headSpec w_Rp_leastValueFor r_Rp_leastValueFor).room s m args below meth c H locs 0 0 (MQ below (QI X L out) args s 0 0 (AA X L)) (F0 m 2 ls [])) {i0 : Nat} {x1 : Int32} {x2 : Int32} {x3 : Int32} {F : Mem} {H : Heap} {locs : List Loc} {ls : Array Slot} (o0 : oO L 6 i0) (hI : Iv X L s H locs F) (hl : lv_has ls 4 [(0, .ref (mAd X i0)), (1, .int x1), (2, .int x2), (3, .int x3)]) (h : b_Rp_leastValueFor_2 L k2 i0 x1 x2 x3 F = some out) : W p l e (headSpec w_Rp_leastValueFor r_Rp_leastValueFor).room s m args below meth c H locs 0 0 (MQ below (QI X L out) args s 0 0 (AA X L)) (F0 m 2 ls []) := by
  unfold b_Rp_leastValueFor_2 at h
  obtain ⟨S, hK, hT, hW, hr, hlk⟩ := id hC
  have hx := S.1
  have hb := S.2.1
  refine lv_iload_n hx hb d_Rp_leastValueFor_2 rfl (lv_at hl 3 rfl) ?_
  refine lv_iconst (v := 3) hx hb d_Rp_leastValueFor_3 rfl ?_
  refine lv_icmp_gt (tgt := 25) hx hb d_Rp_leastValueFor_4 rfl (fun hc => ?_) (fun hc => ?_)
  · replace h := (if_pos hc).symm.trans h
    refine lv_iload_n hx hb d_Rp_leastValueFor_25 rfl (lv_at hl 1 rfl) ?_
    refine lv_iconst (v := 3) hx hb d_Rp_leastValueFor_26 rfl ?_
    refine lv_iadd hx hb d_Rp_leastValueFor_27 ?_
    exact w_iret S hK hr hlk hI d_Rp_leastValueFor_28 h
  · replace h := (if_neg hc).symm.trans h
    refine lv_aload_n hx hb d_Rp_leastValueFor_7 rfl (lv_at hl 0 rfl) ?_
    refine lv_iload_n hx hb d_Rp_leastValueFor_8 rfl (lv_at hl 3 rfl) ?_
    refine lv_iload_n hx hb d_Rp_leastValueFor_9 rfl (lv_at hl 2 rfl) ?_
    obtain ⟨q1, e2, h⟩ := un_bi h
    refine w_callVi (As := [.int x3, .int x2]) (rest := []) S hK hI hT (c_Rp_wayFor l hW o0 e2) (cwV 2 S.2.2.2.2 (gd_V lc_Rp_wayFor lm_Rp_19 li_Rp_wayFor ls_Rp_wayFor ln_Rp) rfl rfl rfl hd_Rp_wayFor ⟨Nat.le_of_ble_eq_true rfl, Nat.le_of_ble_eq_true rfl⟩) o0 rfl (by decide) rfl rfl hl.1 (Nat.le_of_ble_eq_true rfl) d_Rp_leastValueFor_10 ⟨Nat.zero_le _, Nat.zero_le _⟩ (fun H locs hI => ?_)
    refine lv_iload_n hx hb d_Rp_leastValueFor_13 rfl (lv_at hl 1 rfl) ?_
    refine lv_icmp_ne (tgt := 19) hx hb d_Rp_leastValueFor_14 rfl (fun hc => ?_) (fun hc => ?_)
    · replace h := (if_neg hc).symm.trans h
      refine lv_iinc (k := 3) (v := x3 + (1 : Int32)) (lv' := [(3, .int (x3 + (1 : Int32))), (0, .ref (mAd X i0)), (1, .int x1), (2, .int x2)]) hx hb d_Rp_leastValueFor_19 hl rfl rfl (by decide) rfl (fun ls hl => ?_)
      refine lv_goto (tgt := 2) hx hb d_Rp_leastValueFor_22 rfl ?_
      exact hk2 _ _ _ _ _ _ _ _ o0 hI (lv_sub hl [1, 2, 3, 0] rfl) h
    · replace h := (if_pos hc).symm.trans h
      refine lv_iload_n hx hb d_Rp_leastValueFor_17 rfl (lv_at hl 3 rfl) ?_
      exact w_iret S hK hr hlk hI d_Rp_leastValueFor_18 h
def f_Rp_leastValueFor_2 (L : La)  : Nat → Nat → Int32 → Int32 → Int32 → Mem → Option (Int32 × Mem)
  | 0 => fun _ _ _ _ _ => none
  | n + 1 => b_Rp_leastValueFor_2 L (f_Rp_leastValueFor_2 L  n)
theorem tf_Rp_leastValueFor_2 (hC : Cx X L p s m args meth c cc_Rp_leastValueFor 4 w_Rp_leastValueFor R_Rp (some .int))  {out : (Int32 × Mem)}  (n : Nat) : ∀ (i0 : Nat) (x1 : Int32) (x2 : Int32) (x3 : Int32) (F : Mem) (H : Heap) (locs : List Loc) (ls : Array Slot), oO L 6 i0 → Iv X L s H locs F → lv_has ls 4 [(0, .ref (mAd X i0)), (1, .int x1), (2, .int x2), (3, .int x3)] → f_Rp_leastValueFor_2 L  n i0 x1 x2 x3 F = some out → W p l e (headSpec w_Rp_leastValueFor r_Rp_leastValueFor).room s m args below meth c H locs 0 0 (MQ below (QI X L out) args s 0 0 (AA X L)) (F0 m 2 ls []) := by
  induction n with
  | zero => intro i0 x1 x2 x3 F H locs ls o0 hI hl h; cases h
  | succ n ih => intro i0 x1 x2 x3 F H locs ls o0 hI hl h; exact t_Rp_leastValueFor_2 hC ih o0 hI hl h
def f_Rp_leastValueFor (L : La) (i0 : Nat) (x1 : Int32) (x2 : Int32) (F : Mem) : Option (Int32 × Mem) :=
  f_Rp_leastValueFor_2 L  mFU i0 x1 x2 (1 : Int32) F
set_option maxHeartbeats 4000000 in
theorem c_Rp_leastValueFor (l : Launch) {X : Xs} {L : La} (hW : WT L) {out : (Int32 × Mem)} {i0 : Nat} {x1 : Int32} {x2 : Int32} {F : Mem} (o0 : oO L 6 i0) (h : f_Rp_leastValueFor L i0 x1 x2 F = some out) : Met l y_Rp_leastValueFor w_Rp_leastValueFor r_Rp_leastValueFor (va_Pc [.ref (mAd X i0), .int x1, .int x2] (Pr X L F)) (QI X L out) 0 0 (AA X L) := by
  refine mk_met (by decide) rfl (Nat.le_of_ble_eq_true rfl) hW ?_
  intro p e s m args below meth c ls hC hI hl
  have hl : lv_has ls 4 [(0, .ref (mAd X i0)), (1, .int x1), (2, .int x2)] := hl
  generalize hHe : s.heap = H at hI ⊢
  generalize ([] : List Loc) = locs at hI ⊢
  unfold f_Rp_leastValueFor at h
  obtain ⟨S, hK, hT, hW, hr, hlk⟩ := id hC
  have hx := S.1
  have hb := S.2.1
  refine lv_iconst (v := 1) hx hb d_Rp_leastValueFor_0 rfl ?_
  refine lv_istore_n (lv' := [(3, .int (1 : Int32)), (0, .ref (mAd X i0)), (1, .int x1), (2, .int x2)]) hx hb d_Rp_leastValueFor_1 rfl hl (by decide) rfl (fun ls hl => ?_)
  exact tf_Rp_leastValueFor_2 hC  mFU _ _ _ _ _ _ _ _ o0 hI (lv_sub hl [1, 2, 3, 0] rfl) h
end
theorem d_Rp_keepWay_0 : decode cc_Rp_keepWay 0 = .ok (.aload_n 0, 1) := by decide +kernel
theorem d_Rp_keepWay_1 : decode cc_Rp_keepWay 1 = .ok (.iload_n 1, 1) := by decide +kernel
theorem d_Rp_keepWay_2 : decode cc_Rp_keepWay 2 = .ok (.iload_n 2, 1) := by decide +kernel
theorem d_Rp_keepWay_3 : decode cc_Rp_keepWay 3 = .ok (.invokevirtual 19, 3) := by decide +kernel
theorem d_Rp_keepWay_6 : decode cc_Rp_keepWay 6 = .ok (.istore_n 3, 1) := by decide +kernel
theorem d_Rp_keepWay_7 : decode cc_Rp_keepWay 7 = .ok (.iload_n 2, 1) := by decide +kernel
theorem d_Rp_keepWay_8 : decode cc_Rp_keepWay 8 = .ok (.ifCond .ne (9), 3) := by decide +kernel
theorem d_Rp_keepWay_11 : decode cc_Rp_keepWay 11 = .ok (.iload_n 1, 1) := by decide +kernel
theorem d_Rp_keepWay_12 : decode cc_Rp_keepWay 12 = .ok (.iconst 1, 1) := by decide +kernel
theorem d_Rp_keepWay_13 : decode cc_Rp_keepWay 13 = .ok (.iadd, 1) := by decide +kernel
theorem d_Rp_keepWay_14 : decode cc_Rp_keepWay 14 = .ok (.goto (4), 3) := by decide +kernel
theorem d_Rp_keepWay_17 : decode cc_Rp_keepWay 17 = .ok (.iload_n 1, 1) := by decide +kernel
theorem d_Rp_keepWay_18 : decode cc_Rp_keepWay 18 = .ok (.istore 4, 2) := by decide +kernel
theorem d_Rp_keepWay_20 : decode cc_Rp_keepWay 20 = .ok (.iload 4, 2) := by decide +kernel
theorem d_Rp_keepWay_22 : decode cc_Rp_keepWay 22 = .ok (.iconst 1, 1) := by decide +kernel
theorem d_Rp_keepWay_23 : decode cc_Rp_keepWay 23 = .ok (.if_icmp .ne (4), 3) := by decide +kernel
theorem d_Rp_keepWay_26 : decode cc_Rp_keepWay 26 = .ok (.return_, 1) := by decide +kernel
theorem d_Rp_keepWay_27 : decode cc_Rp_keepWay 27 = .ok (.iload 4, 2) := by decide +kernel
theorem d_Rp_keepWay_29 : decode cc_Rp_keepWay 29 = .ok (.iconst 2, 1) := by decide +kernel
theorem d_Rp_keepWay_30 : decode cc_Rp_keepWay 30 = .ok (.if_icmp .le (11), 3) := by decide +kernel
theorem d_Rp_keepWay_33 : decode cc_Rp_keepWay 33 = .ok (.aload_n 0, 1) := by decide +kernel
theorem d_Rp_keepWay_34 : decode cc_Rp_keepWay 34 = .ok (.aload_n 0, 1) := by decide +kernel
theorem d_Rp_keepWay_35 : decode cc_Rp_keepWay 35 = .ok (.getfield 13, 3) := by decide +kernel
theorem d_Rp_keepWay_38 : decode cc_Rp_keepWay 38 = .ok (.putfield 16, 3) := by decide +kernel
theorem d_Rp_keepWay_41 : decode cc_Rp_keepWay 41 = .ok (.aload_n 0, 1) := by decide +kernel
theorem d_Rp_keepWay_42 : decode cc_Rp_keepWay 42 = .ok (.aload_n 0, 1) := by decide +kernel
theorem d_Rp_keepWay_43 : decode cc_Rp_keepWay 43 = .ok (.getfield 7, 3) := by decide +kernel
theorem d_Rp_keepWay_46 : decode cc_Rp_keepWay 46 = .ok (.putfield 13, 3) := by decide +kernel
theorem d_Rp_keepWay_49 : decode cc_Rp_keepWay 49 = .ok (.aload_n 0, 1) := by decide +kernel
theorem d_Rp_keepWay_50 : decode cc_Rp_keepWay 50 = .ok (.iload_n 3, 1) := by decide +kernel
theorem d_Rp_keepWay_51 : decode cc_Rp_keepWay 51 = .ok (.putfield 7, 3) := by decide +kernel
theorem d_Rp_keepWay_54 : decode cc_Rp_keepWay 54 = .ok (.return_, 1) := by decide +kernel
section
variable {p : Program} {l : Launch} {e : Env} {s : State} {m : MethodId} {args : Array Value} {below : List Frame} {meth : Method} {c : Code} {X : Xs} {L : La}
def b_Rp_keepWay_41 (L : La)  (i0 : Nat) (x3 : Int32) (F : Mem) : Option Mem :=
  lt' (u2 F i0 1 (F i0 0)) fun F1 =>
  lt' (u2 F1 i0 0 x3) fun F3 =>
  some F3
set_option maxHeartbeats 4000000 in
theorem t_Rp_keepWay_41 (hC : Cx X L p s m args meth c cc_Rp_keepWay 5 w_Rp_keepWay R_Rp none)  {out : Mem}  {i0 : Nat} {x3 : Int32} {F : Mem} {H : Heap} {locs : List Loc} {ls : Array Slot} (o0 : oO L 6 i0) (hI : Iv X L s H locs F) (hl : lv_has ls 5 [(0, .ref (mAd X i0)), (3, .int x3)]) (h : b_Rp_keepWay_41 L  i0 x3 F = some out) : W p l e (headSpec w_Rp_keepWay r_Rp_keepWay).room s m args below meth c H locs 0 0 (MQ below (QV X L out) args s 0 0 (AA X L)) (F0 m 41 ls []) := by
  unfold b_Rp_keepWay_41 at h
  obtain ⟨S, hK, hT, hW, hr, hlk⟩ := id hC
  have hx := S.1
  have hb := S.2.1
  refine lv_aload_n hx hb d_Rp_keepWay_41 rfl (lv_at hl 0 rfl) ?_
  refine lv_aload_n hx hb d_Rp_keepWay_42 rfl (lv_at hl 0 rfl) ?_
  refine w_getI (T := T_Rp) S hK hI o0 rfl hin_Rp 0 (index := 7) (by decide) lf_Rp_7 d_Rp_keepWay_43 ?_
  refine w_putI (T := T_Rp) S hK hI o0 rfl hin_Rp ty_Rp tk_Rp nm_Rp 1 (index := 13) (by decide) lf_Rp_13 rfl d_Rp_keepWay_46 (fun H locs F1 e2 hI => ?_)
  replace h := un_lt h _ e2
  refine lv_aload_n hx hb d_Rp_keepWay_49 rfl (lv_at hl 0 rfl) ?_
  refine lv_iload_n hx hb d_Rp_keepWay_50 rfl (lv_at hl 1 rfl) ?_
  refine w_putI (T := T_Rp) S hK hI o0 rfl hin_Rp ty_Rp tk_Rp nm_Rp 0 (index := 7) (by decide) lf_Rp_7 rfl d_Rp_keepWay_51 (fun H locs F3 e4 hI => ?_)
  replace h := un_lt h _ e4
  exact w_vret S hK hr hlk hI d_Rp_keepWay_54 h
def b_Rp_keepWay_18 (L : La)  (i0 : Nat) (x3 : Int32) (y0 : Int32) (F : Mem) : Option Mem :=
  if y0 = (1 : Int32) then
    some F
  else
    if y0 ≤ (2 : Int32) then
      b_Rp_keepWay_41 L  i0 x3 F
    else
      lt' (u2 F i0 2 (F i0 1)) fun F1 =>
      b_Rp_keepWay_41 L  i0 x3 F1
set_option maxHeartbeats 4000000 in
theorem t_Rp_keepWay_18 (hC : Cx X L p s m args meth c cc_Rp_keepWay 5 w_Rp_keepWay R_Rp none)  {out : Mem}  {i0 : Nat} {x3 : Int32} {y0 : Int32} {F : Mem} {H : Heap} {locs : List Loc} {ls : Array Slot} (o0 : oO L 6 i0) (hI : Iv X L s H locs F) (hl : lv_has ls 5 [(0, .ref (mAd X i0)), (3, .int x3)]) (h : b_Rp_keepWay_18 L  i0 x3 y0 F = some out) : W p l e (headSpec w_Rp_keepWay r_Rp_keepWay).room s m args below meth c H locs 0 0 (MQ below (QV X L out) args s 0 0 (AA X L)) (F0 m 18 ls [.int y0]) := by
  unfold b_Rp_keepWay_18 at h
  obtain ⟨S, hK, hT, hW, hr, hlk⟩ := id hC
  have hx := S.1
  have hb := S.2.1
  refine lv_istore (lv' := [(4, .int y0), (0, .ref (mAd X i0)), (3, .int x3)]) hx hb d_Rp_keepWay_18 hl (by decide) rfl (fun ls hl => ?_)
  refine lv_iload hx hb d_Rp_keepWay_20 (lv_at hl 0 rfl) ?_
  refine lv_iconst (v := 1) hx hb d_Rp_keepWay_22 rfl ?_
  refine lv_icmp_ne (tgt := 27) hx hb d_Rp_keepWay_23 rfl (fun hc => ?_) (fun hc => ?_)
  · replace h := (if_neg hc).symm.trans h
    refine lv_iload hx hb d_Rp_keepWay_27 (lv_at hl 0 rfl) ?_
    refine lv_iconst (v := 2) hx hb d_Rp_keepWay_29 rfl ?_
    refine lv_icmp_le (tgt := 41) hx hb d_Rp_keepWay_30 rfl (fun hc => ?_) (fun hc => ?_)
    · replace h := (if_pos hc).symm.trans h
      exact t_Rp_keepWay_41 hC  o0 hI (lv_sub hl [1, 2] rfl) h
    · replace h := (if_neg hc).symm.trans h
      refine lv_aload_n hx hb d_Rp_keepWay_33 rfl (lv_at hl 1 rfl) ?_
      refine lv_aload_n hx hb d_Rp_keepWay_34 rfl (lv_at hl 1 rfl) ?_
      refine w_getI (T := T_Rp) S hK hI o0 rfl hin_Rp 1 (index := 13) (by decide) lf_Rp_13 d_Rp_keepWay_35 ?_
      refine w_putI (T := T_Rp) S hK hI o0 rfl hin_Rp ty_Rp tk_Rp nm_Rp 2 (index := 16) (by decide) lf_Rp_16 rfl d_Rp_keepWay_38 (fun H locs F1 e2 hI => ?_)
      replace h := un_lt h _ e2
      exact t_Rp_keepWay_41 hC  o0 hI (lv_sub hl [1, 2] rfl) h
  · replace h := (if_pos hc).symm.trans h
    exact w_vret S hK hr hlk hI d_Rp_keepWay_26 h
def f_Rp_keepWay (L : La) (i0 : Nat) (x1 : Int32) (x2 : Int32) (F : Mem) : Option Mem :=
  (f_Rp_wayFor L i0 x1 x2 F).bind fun q1 =>
  if x2 = 0 then
    b_Rp_keepWay_18 L  i0 q1.1 (x1 + (1 : Int32)) q1.2
  else
    b_Rp_keepWay_18 L  i0 q1.1 x1 q1.2
set_option maxHeartbeats 4000000 in
theorem c_Rp_keepWay (l : Launch) {X : Xs} {L : La} (hW : WT L) {out : Mem} {i0 : Nat} {x1 : Int32} {x2 : Int32} {F : Mem} (o0 : oO L 6 i0) (h : f_Rp_keepWay L i0 x1 x2 F = some out) : Met l y_Rp_keepWay w_Rp_keepWay r_Rp_keepWay (va_Pc [.ref (mAd X i0), .int x1, .int x2] (Pr X L F)) (QV X L out) 0 0 (AA X L) := by
  refine mk_met (by decide) rfl (Nat.le_of_ble_eq_true rfl) hW ?_
  intro p e s m args below meth c ls hC hI hl
  have hl : lv_has ls 5 [(0, .ref (mAd X i0)), (1, .int x1), (2, .int x2)] := hl
  generalize hHe : s.heap = H at hI ⊢
  generalize ([] : List Loc) = locs at hI ⊢
  unfold f_Rp_keepWay at h
  obtain ⟨S, hK, hT, hW, hr, hlk⟩ := id hC
  have hx := S.1
  have hb := S.2.1
  refine lv_aload_n hx hb d_Rp_keepWay_0 rfl (lv_at hl 0 rfl) ?_
  refine lv_iload_n hx hb d_Rp_keepWay_1 rfl (lv_at hl 1 rfl) ?_
  refine lv_iload_n hx hb d_Rp_keepWay_2 rfl (lv_at hl 2 rfl) ?_
  obtain ⟨q1, e2, h⟩ := un_bi h
  refine w_callVi (As := [.int x1, .int x2]) (rest := []) S hK hI hT (c_Rp_wayFor l hW o0 e2) (cwV 2 S.2.2.2.2 (gd_V lc_Rp_wayFor lm_Rp_19 li_Rp_wayFor ls_Rp_wayFor ln_Rp) rfl rfl rfl hd_Rp_wayFor ⟨Nat.le_of_ble_eq_true rfl, Nat.le_of_ble_eq_true rfl⟩) o0 rfl (by decide) rfl rfl hl.1 (Nat.le_of_ble_eq_true rfl) d_Rp_keepWay_3 ⟨Nat.zero_le _, Nat.zero_le _⟩ (fun H locs hI => ?_)
  refine lv_istore_n (lv' := [(3, .int q1.1), (0, .ref (mAd X i0)), (1, .int x1), (2, .int x2)]) hx hb d_Rp_keepWay_6 rfl hl (by decide) rfl (fun ls hl => ?_)
  refine lv_iload_n hx hb d_Rp_keepWay_7 rfl (lv_at hl 3 rfl) ?_
  refine lv_if_ne (tgt := 17) hx hb d_Rp_keepWay_8 rfl (fun hc => ?_) (fun hc => ?_)
  · replace h := (if_neg hc).symm.trans h
    refine lv_iload_n hx hb d_Rp_keepWay_17 rfl (lv_at hl 2 rfl) ?_
    exact t_Rp_keepWay_18 hC  o0 hI (lv_sub hl [1, 0] rfl) h
  · replace h := (if_pos hc).symm.trans h
    refine lv_iload_n hx hb d_Rp_keepWay_11 rfl (lv_at hl 2 rfl) ?_
    refine lv_iconst (v := 1) hx hb d_Rp_keepWay_12 rfl ?_
    refine lv_iadd hx hb d_Rp_keepWay_13 ?_
    refine lv_goto (tgt := 18) hx hb d_Rp_keepWay_14 rfl ?_
    exact t_Rp_keepWay_18 hC  o0 hI (lv_sub hl [1, 0] rfl) h
end
theorem d_Mf_addSequence_0 : decode cc_Mf_addSequence 0 = .ok (.aload_n 0, 1) := by decide +kernel
theorem d_Mf_addSequence_1 : decode cc_Mf_addSequence 1 = .ok (.getfield 44, 3) := by decide +kernel
theorem d_Mf_addSequence_4 : decode cc_Mf_addSequence 4 = .ok (.bipush (40), 2) := by decide +kernel
theorem d_Mf_addSequence_6 : decode cc_Mf_addSequence 6 = .ok (.if_icmp .lt (4), 3) := by decide +kernel
theorem d_Mf_addSequence_9 : decode cc_Mf_addSequence 9 = .ok (.return_, 1) := by decide +kernel
theorem d_Mf_addSequence_10 : decode cc_Mf_addSequence 10 = .ok (.aload_n 0, 1) := by decide +kernel
theorem d_Mf_addSequence_11 : decode cc_Mf_addSequence 11 = .ok (.getfield 33, 3) := by decide +kernel
theorem d_Mf_addSequence_14 : decode cc_Mf_addSequence 14 = .ok (.iload_n 2, 1) := by decide +kernel
theorem d_Mf_addSequence_15 : decode cc_Mf_addSequence 15 = .ok (.iload_n 1, 1) := by decide +kernel
theorem d_Mf_addSequence_16 : decode cc_Mf_addSequence 16 = .ok (.invokevirtual 69, 3) := by decide +kernel
theorem d_Mf_addSequence_19 : decode cc_Mf_addSequence 19 = .ok (.istore_n 3, 1) := by decide +kernel
theorem d_Mf_addSequence_20 : decode cc_Mf_addSequence 20 = .ok (.aload_n 0, 1) := by decide +kernel
theorem d_Mf_addSequence_21 : decode cc_Mf_addSequence 21 = .ok (.getfield 33, 3) := by decide +kernel
theorem d_Mf_addSequence_24 : decode cc_Mf_addSequence 24 = .ok (.iload_n 3, 1) := by decide +kernel
theorem d_Mf_addSequence_25 : decode cc_Mf_addSequence 25 = .ok (.iload_n 1, 1) := by decide +kernel
theorem d_Mf_addSequence_26 : decode cc_Mf_addSequence 26 = .ok (.invokevirtual 73, 3) := by decide +kernel
theorem d_Mf_addSequence_29 : decode cc_Mf_addSequence 29 = .ok (.aload_n 0, 1) := by decide +kernel
theorem d_Mf_addSequence_30 : decode cc_Mf_addSequence 30 = .ok (.getfield 20, 3) := by decide +kernel
theorem d_Mf_addSequence_33 : decode cc_Mf_addSequence 33 = .ok (.aload_n 0, 1) := by decide +kernel
theorem d_Mf_addSequence_34 : decode cc_Mf_addSequence 34 = .ok (.getfield 44, 3) := by decide +kernel
theorem d_Mf_addSequence_37 : decode cc_Mf_addSequence 37 = .ok (.iload_n 1, 1) := by decide +kernel
theorem d_Mf_addSequence_38 : decode cc_Mf_addSequence 38 = .ok (.iastore, 1) := by decide +kernel
theorem d_Mf_addSequence_39 : decode cc_Mf_addSequence 39 = .ok (.aload_n 0, 1) := by decide +kernel
theorem d_Mf_addSequence_40 : decode cc_Mf_addSequence 40 = .ok (.getfield 24, 3) := by decide +kernel
theorem d_Mf_addSequence_43 : decode cc_Mf_addSequence 43 = .ok (.aload_n 0, 1) := by decide +kernel
theorem d_Mf_addSequence_44 : decode cc_Mf_addSequence 44 = .ok (.getfield 44, 3) := by decide +kernel
theorem d_Mf_addSequence_47 : decode cc_Mf_addSequence 47 = .ok (.iload_n 3, 1) := by decide +kernel
theorem d_Mf_addSequence_48 : decode cc_Mf_addSequence 48 = .ok (.iastore, 1) := by decide +kernel
theorem d_Mf_addSequence_49 : decode cc_Mf_addSequence 49 = .ok (.aload_n 0, 1) := by decide +kernel
theorem d_Mf_addSequence_50 : decode cc_Mf_addSequence 50 = .ok (.getfield 27, 3) := by decide +kernel
theorem d_Mf_addSequence_53 : decode cc_Mf_addSequence 53 = .ok (.aload_n 0, 1) := by decide +kernel
theorem d_Mf_addSequence_54 : decode cc_Mf_addSequence 54 = .ok (.getfield 44, 3) := by decide +kernel
theorem d_Mf_addSequence_57 : decode cc_Mf_addSequence 57 = .ok (.aload_n 0, 1) := by decide +kernel
theorem d_Mf_addSequence_58 : decode cc_Mf_addSequence 58 = .ok (.getfield 53, 3) := by decide +kernel
theorem d_Mf_addSequence_61 : decode cc_Mf_addSequence 61 = .ok (.iastore, 1) := by decide +kernel
theorem d_Mf_addSequence_62 : decode cc_Mf_addSequence 62 = .ok (.aload_n 0, 1) := by decide +kernel
theorem d_Mf_addSequence_63 : decode cc_Mf_addSequence 63 = .ok (.dup, 1) := by decide +kernel
theorem d_Mf_addSequence_64 : decode cc_Mf_addSequence 64 = .ok (.getfield 44, 3) := by decide +kernel
theorem d_Mf_addSequence_67 : decode cc_Mf_addSequence 67 = .ok (.iconst 1, 1) := by decide +kernel
theorem d_Mf_addSequence_68 : decode cc_Mf_addSequence 68 = .ok (.iadd, 1) := by decide +kernel
theorem d_Mf_addSequence_69 : decode cc_Mf_addSequence 69 = .ok (.putfield 44, 3) := by decide +kernel
theorem d_Mf_addSequence_72 : decode cc_Mf_addSequence 72 = .ok (.return_, 1) := by decide +kernel
section
variable {p : Program} {l : Launch} {e : Env} {s : State} {m : MethodId} {args : Array Value} {below : List Frame} {meth : Method} {c : Code} {X : Xs} {L : La}
def f_Mf_addSequence (L : La) (i0 : Nat) (x1 : Int32) (x2 : Int32) (F : Mem) : Option Mem :=
  if (F i0 6) < (40 : Int32) then
    (f_Rp_leastValueFor L (mRf L i0 5) x2 x1 F).bind fun q2 =>
    (f_Rp_keepWay L (mRf L i0 5) q2.1 x1 q2.2).bind fun F5 =>
    if inb (F5 i0 6) (mLn L (mRf L i0 2)) ∨ ¬ (mRf L i0 2) < mNc L then none else
    lt' (u2 F5 (mRf L i0 2) (F5 i0 6).toNatClampNeg x1) fun F9 =>
    if inb (F9 i0 6) (mLn L (mRf L i0 3)) ∨ ¬ (mRf L i0 3) < mNc L then none else
    lt' (u2 F9 (mRf L i0 3) (F9 i0 6).toNatClampNeg q2.1) fun F13 =>
    if inb (F13 i0 6) (mLn L (mRf L i0 4)) ∨ ¬ (mRf L i0 4) < mNc L then none else
    lt' (u2 F13 (mRf L i0 4) (F13 i0 6).toNatClampNeg (F13 i0 8)) fun F17 =>
    lt' (u2 F17 i0 6 ((F17 i0 6) + (1 : Int32))) fun F19 =>
    some F19
  else
    some F
set_option maxHeartbeats 4000000 in
theorem c_Mf_addSequence (l : Launch) {X : Xs} {L : La} (hW : WT L) {out : Mem} {i0 : Nat} {x1 : Int32} {x2 : Int32} {F : Mem} (o0 : oO L 10 i0) (h : f_Mf_addSequence L i0 x1 x2 F = some out) : Met l y_Mf_addSequence w_Mf_addSequence r_Mf_addSequence (va_Pc [.ref (mAd X i0), .int x1, .int x2] (Pr X L F)) (QV X L out) 0 0 (AA X L) := by
  refine mk_met (by decide) rfl (Nat.le_of_ble_eq_true rfl) hW ?_
  intro p e s m args below meth c ls hC hI hl
  have hl : lv_has ls 4 [(0, .ref (mAd X i0)), (1, .int x1), (2, .int x2)] := hl
  generalize hHe : s.heap = H at hI ⊢
  generalize ([] : List Loc) = locs at hI ⊢
  unfold f_Mf_addSequence at h
  obtain ⟨S, hK, hT, hW, hr, hlk⟩ := id hC
  have hx := S.1
  have hb := S.2.1
  refine lv_aload_n hx hb d_Mf_addSequence_0 rfl (lv_at hl 0 rfl) ?_
  refine w_getI (T := T_Mf) S hK hI o0 rfl hin_Mf 6 (index := 44) (by decide) lf_Mf_44 d_Mf_addSequence_1 ?_
  refine lv_bipush (v := 40) hx hb d_Mf_addSequence_4 (by decide) ?_
  refine lv_icmp_lt (tgt := 10) hx hb d_Mf_addSequence_6 rfl (fun hc => ?_) (fun hc => ?_)
  · replace h := (if_pos hc).symm.trans h
    refine lv_aload_n hx hb d_Mf_addSequence_10 rfl (lv_at hl 0 rfl) ?_
    have p1 := wt_o hW o0 5 6 rfl (by decide) (by decide) (by decide)
    refine w_getR (T := T_Mf) S hK hI o0 rfl hin_Mf 5 (index := 33) (by decide) lf_Mf_33 d_Mf_addSequence_11 ?_
    refine lv_iload_n hx hb d_Mf_addSequence_14 rfl (lv_at hl 2 rfl) ?_
    refine lv_iload_n hx hb d_Mf_addSequence_15 rfl (lv_at hl 1 rfl) ?_
    obtain ⟨q2, e3, h⟩ := un_bi h
    refine w_callVi (As := [.int x2, .int x1]) (rest := []) S hK hI hT (c_Rp_leastValueFor l hW p1 e3) (cwV 2 S.2.2.2.2 (gd_V lc_Rp_leastValueFor lm_Mf_69 li_Rp_leastValueFor ls_Rp_leastValueFor ln_Rp) rfl rfl rfl hd_Rp_leastValueFor ⟨Nat.le_of_ble_eq_true rfl, Nat.le_of_ble_eq_true rfl⟩) p1 rfl (by decide) rfl rfl hl.1 (Nat.le_of_ble_eq_true rfl) d_Mf_addSequence_16 ⟨Nat.zero_le _, Nat.zero_le _⟩ (fun H locs hI => ?_)
    refine lv_istore_n (lv' := [(3, .int q2.1), (0, .ref (mAd X i0)), (1, .int x1), (2, .int x2)]) hx hb d_Mf_addSequence_19 rfl hl (by decide) rfl (fun ls hl => ?_)
    refine lv_aload_n hx hb d_Mf_addSequence_20 rfl (lv_at hl 1 rfl) ?_
    have p4 := wt_o hW o0 5 6 rfl (by decide) (by decide) (by decide)
    refine w_getR (T := T_Mf) S hK hI o0 rfl hin_Mf 5 (index := 33) (by decide) lf_Mf_33 d_Mf_addSequence_21 ?_
    refine lv_iload_n hx hb d_Mf_addSequence_24 rfl (lv_at hl 0 rfl) ?_
    refine lv_iload_n hx hb d_Mf_addSequence_25 rfl (lv_at hl 2 rfl) ?_
    obtain ⟨F5, e6, h⟩ := un_bi h
    refine w_callVv (As := [.int q2.1, .int x1]) (rest := []) S hK hI hT (c_Rp_keepWay l hW p4 e6) (cwV 2 S.2.2.2.2 (gd_V lc_Rp_keepWay lm_Mf_73 li_Rp_keepWay ls_Rp_keepWay ln_Rp) rfl rfl rfl hd_Rp_keepWay ⟨Nat.le_of_ble_eq_true rfl, Nat.le_of_ble_eq_true rfl⟩) p4 rfl (by decide) rfl rfl hl.1 (Nat.le_of_ble_eq_true rfl) d_Mf_addSequence_26 ⟨Nat.zero_le _, Nat.zero_le _⟩ (fun H locs hI => ?_)
    refine lv_aload_n hx hb d_Mf_addSequence_29 rfl (lv_at hl 1 rfl) ?_
    have p7 := wt_a hW o0 2 rfl (by decide) (by decide)
    refine w_getR (T := T_Mf) S hK hI o0 rfl hin_Mf 2 (index := 20) (by decide) lf_Mf_20 d_Mf_addSequence_30 ?_
    refine lv_aload_n hx hb d_Mf_addSequence_33 rfl (lv_at hl 1 rfl) ?_
    refine w_getI (T := T_Mf) S hK hI o0 rfl hin_Mf 6 (index := 44) (by decide) lf_Mf_44 d_Mf_addSequence_34 ?_
    refine lv_iload_n hx hb d_Mf_addSequence_37 rfl (lv_at hl 2 rfl) ?_
    obtain ⟨z8, h⟩ := un_if h
    refine w_iast S hK hI p7 z8 d_Mf_addSequence_38 (fun H locs F9 e10 hI => ?_)
    replace h := un_lt h _ e10
    refine lv_aload_n hx hb d_Mf_addSequence_39 rfl (lv_at hl 1 rfl) ?_
    have p11 := wt_a hW o0 3 rfl (by decide) (by decide)
    refine w_getR (T := T_Mf) S hK hI o0 rfl hin_Mf 3 (index := 24) (by decide) lf_Mf_24 d_Mf_addSequence_40 ?_
    refine lv_aload_n hx hb d_Mf_addSequence_43 rfl (lv_at hl 1 rfl) ?_
    refine w_getI (T := T_Mf) S hK hI o0 rfl hin_Mf 6 (index := 44) (by decide) lf_Mf_44 d_Mf_addSequence_44 ?_
    refine lv_iload_n hx hb d_Mf_addSequence_47 rfl (lv_at hl 0 rfl) ?_
    obtain ⟨z12, h⟩ := un_if h
    refine w_iast S hK hI p11 z12 d_Mf_addSequence_48 (fun H locs F13 e14 hI => ?_)
    replace h := un_lt h _ e14
    refine lv_aload_n hx hb d_Mf_addSequence_49 rfl (lv_at hl 1 rfl) ?_
    have p15 := wt_a hW o0 4 rfl (by decide) (by decide)
    refine w_getR (T := T_Mf) S hK hI o0 rfl hin_Mf 4 (index := 27) (by decide) lf_Mf_27 d_Mf_addSequence_50 ?_
    refine lv_aload_n hx hb d_Mf_addSequence_53 rfl (lv_at hl 1 rfl) ?_
    refine w_getI (T := T_Mf) S hK hI o0 rfl hin_Mf 6 (index := 44) (by decide) lf_Mf_44 d_Mf_addSequence_54 ?_
    refine lv_aload_n hx hb d_Mf_addSequence_57 rfl (lv_at hl 1 rfl) ?_
    refine w_getI (T := T_Mf) S hK hI o0 rfl hin_Mf 8 (index := 53) (by decide) lf_Mf_53 d_Mf_addSequence_58 ?_
    obtain ⟨z16, h⟩ := un_if h
    refine w_iast S hK hI p15 z16 d_Mf_addSequence_61 (fun H locs F17 e18 hI => ?_)
    replace h := un_lt h _ e18
    refine lv_aload_n hx hb d_Mf_addSequence_62 rfl (lv_at hl 1 rfl) ?_
    refine lv_dup hx hb d_Mf_addSequence_63 rfl ?_
    refine w_getI (T := T_Mf) S hK hI o0 rfl hin_Mf 6 (index := 44) (by decide) lf_Mf_44 d_Mf_addSequence_64 ?_
    refine lv_iconst (v := 1) hx hb d_Mf_addSequence_67 rfl ?_
    refine lv_iadd hx hb d_Mf_addSequence_68 ?_
    refine w_putI (T := T_Mf) S hK hI o0 rfl hin_Mf ty_Mf tk_Mf nm_Mf 6 (index := 44) (by decide) lf_Mf_44 rfl d_Mf_addSequence_69 (fun H locs F19 e20 hI => ?_)
    replace h := un_lt h _ e20
    exact w_vret S hK hr hlk hI d_Mf_addSequence_72 h
  · replace h := (if_neg hc).symm.trans h
    exact w_vret S hK hr hlk hI d_Mf_addSequence_9 h
end
theorem d_Mf_divide_0 : decode cc_Mf_divide 0 = .ok (.aload_n 0, 1) := by decide +kernel
theorem d_Mf_divide_1 : decode cc_Mf_divide 1 = .ok (.getfield 14, 3) := by decide +kernel
theorem d_Mf_divide_4 : decode cc_Mf_divide 4 = .ok (.iconst 0, 1) := by decide +kernel
theorem d_Mf_divide_5 : decode cc_Mf_divide 5 = .ok (.putfield 40, 3) := by decide +kernel
theorem d_Mf_divide_8 : decode cc_Mf_divide 8 = .ok (.aload_n 0, 1) := by decide +kernel
theorem d_Mf_divide_9 : decode cc_Mf_divide 9 = .ok (.iconst 0, 1) := by decide +kernel
theorem d_Mf_divide_10 : decode cc_Mf_divide 10 = .ok (.putfield 44, 3) := by decide +kernel
theorem d_Mf_divide_13 : decode cc_Mf_divide 13 = .ok (.aload_n 0, 1) := by decide +kernel
theorem d_Mf_divide_14 : decode cc_Mf_divide 14 = .ok (.getfield 33, 3) := by decide +kernel
theorem d_Mf_divide_17 : decode cc_Mf_divide 17 = .ok (.invokevirtual 47, 3) := by decide +kernel
theorem d_Mf_divide_20 : decode cc_Mf_divide 20 = .ok (.iconst 0, 1) := by decide +kernel
theorem d_Mf_divide_21 : decode cc_Mf_divide 21 = .ok (.istore_n 1, 1) := by decide +kernel
theorem d_Mf_divide_22 : decode cc_Mf_divide 22 = .ok (.iconst 0, 1) := by decide +kernel
theorem d_Mf_divide_23 : decode cc_Mf_divide 23 = .ok (.istore_n 2, 1) := by decide +kernel
theorem d_Mf_divide_24 : decode cc_Mf_divide 24 = .ok (.iload_n 2, 1) := by decide +kernel
theorem d_Mf_divide_25 : decode cc_Mf_divide 25 = .ok (.aload_n 0, 1) := by decide +kernel
theorem d_Mf_divide_26 : decode cc_Mf_divide 26 = .ok (.getfield 37, 3) := by decide +kernel
theorem d_Mf_divide_29 : decode cc_Mf_divide 29 = .ok (.getfield 40, 3) := by decide +kernel
theorem d_Mf_divide_32 : decode cc_Mf_divide 32 = .ok (.if_icmp .ge (66), 3) := by decide +kernel
theorem d_Mf_divide_35 : decode cc_Mf_divide 35 = .ok (.aload_n 0, 1) := by decide +kernel
theorem d_Mf_divide_36 : decode cc_Mf_divide 36 = .ok (.iload_n 2, 1) := by decide +kernel
theorem d_Mf_divide_37 : decode cc_Mf_divide 37 = .ok (.invokevirtual 50, 3) := by decide +kernel
theorem d_Mf_divide_40 : decode cc_Mf_divide 40 = .ok (.aload_n 0, 1) := by decide +kernel
theorem d_Mf_divide_41 : decode cc_Mf_divide 41 = .ok (.getfield 53, 3) := by decide +kernel
theorem d_Mf_divide_44 : decode cc_Mf_divide 44 = .ok (.iconst 3, 1) := by decide +kernel
theorem d_Mf_divide_45 : decode cc_Mf_divide 45 = .ok (.if_icmp .lt (28), 3) := by decide +kernel
theorem d_Mf_divide_48 : decode cc_Mf_divide 48 = .ok (.aload_n 0, 1) := by decide +kernel
theorem d_Mf_divide_49 : decode cc_Mf_divide 49 = .ok (.iload_n 1, 1) := by decide +kernel
theorem d_Mf_divide_50 : decode cc_Mf_divide 50 = .ok (.iload_n 2, 1) := by decide +kernel
theorem d_Mf_divide_51 : decode cc_Mf_divide 51 = .ok (.aload_n 0, 1) := by decide +kernel
theorem d_Mf_divide_52 : decode cc_Mf_divide 52 = .ok (.getfield 56, 3) := by decide +kernel
theorem d_Mf_divide_55 : decode cc_Mf_divide 55 = .ok (.isub, 1) := by decide +kernel
theorem d_Mf_divide_56 : decode cc_Mf_divide 56 = .ok (.invokevirtual 59, 3) := by decide +kernel
theorem d_Mf_divide_59 : decode cc_Mf_divide 59 = .ok (.iconst 0, 1) := by decide +kernel
theorem d_Mf_divide_60 : decode cc_Mf_divide 60 = .ok (.istore_n 1, 1) := by decide +kernel
theorem d_Mf_divide_61 : decode cc_Mf_divide 61 = .ok (.iload_n 2, 1) := by decide +kernel
theorem d_Mf_divide_62 : decode cc_Mf_divide 62 = .ok (.aload_n 0, 1) := by decide +kernel
theorem d_Mf_divide_63 : decode cc_Mf_divide 63 = .ok (.getfield 53, 3) := by decide +kernel
theorem d_Mf_divide_66 : decode cc_Mf_divide 66 = .ok (.iconst 1, 1) := by decide +kernel
theorem d_Mf_divide_67 : decode cc_Mf_divide 67 = .ok (.isub, 1) := by decide +kernel
theorem d_Mf_divide_68 : decode cc_Mf_divide 68 = .ok (.iadd, 1) := by decide +kernel
theorem d_Mf_divide_69 : decode cc_Mf_divide 69 = .ok (.istore_n 2, 1) := by decide +kernel
theorem d_Mf_divide_70 : decode cc_Mf_divide 70 = .ok (.goto (22), 3) := by decide +kernel
theorem d_Mf_divide_73 : decode cc_Mf_divide 73 = .ok (.aload_n 0, 1) := by decide +kernel
theorem d_Mf_divide_74 : decode cc_Mf_divide 74 = .ok (.getfield 14, 3) := by decide +kernel
theorem d_Mf_divide_77 : decode cc_Mf_divide 77 = .ok (.aload_n 0, 1) := by decide +kernel
theorem d_Mf_divide_78 : decode cc_Mf_divide 78 = .ok (.getfield 37, 3) := by decide +kernel
theorem d_Mf_divide_81 : decode cc_Mf_divide 81 = .ok (.getfield 63, 3) := by decide +kernel
theorem d_Mf_divide_84 : decode cc_Mf_divide 84 = .ok (.iload_n 2, 1) := by decide +kernel
theorem d_Mf_divide_85 : decode cc_Mf_divide 85 = .ok (.iaload, 1) := by decide +kernel
theorem d_Mf_divide_86 : decode cc_Mf_divide 86 = .ok (.invokevirtual 66, 3) := by decide +kernel
theorem d_Mf_divide_89 : decode cc_Mf_divide 89 = .ok (.iinc 1 (1), 3) := by decide +kernel
theorem d_Mf_divide_92 : decode cc_Mf_divide 92 = .ok (.iinc 2 (1), 3) := by decide +kernel
theorem d_Mf_divide_95 : decode cc_Mf_divide 95 = .ok (.goto (-71), 3) := by decide +kernel
theorem d_Mf_divide_98 : decode cc_Mf_divide 98 = .ok (.return_, 1) := by decide +kernel
section
variable {p : Program} {l : Launch} {e : Env} {s : State} {m : MethodId} {args : Array Value} {below : List Frame} {meth : Method} {c : Code} {X : Xs} {L : La}
def b_Mf_divide_92 (L : La) (k24 : Nat → Int32 → Int32 → Mem → Option Mem) (i0 : Nat) (x1 : Int32) (x2 : Int32) (F : Mem) : Option Mem :=
  k24 i0 x1 (x2 + (1 : Int32)) F
set_option maxHeartbeats 4000000 in
theorem t_Mf_divide_92 (hC : Cx X L p s m args meth c cc_Mf_divide 3 w_Mf_divide R_Mf none) {k24 : Nat → Int32 → Int32 → Mem → Option Mem} {out : Mem} (hk24 : ∀ (i0 : Nat) (x1 : Int32) (x2 : Int32) (F : Mem) (H : Heap) (locs : List Loc) (ls : Array Slot), oO L 10 i0 → Iv X L s H locs F → lv_has ls 3 [(0, .ref (mAd X i0)), (1, .int x1), (2, .int x2)] → k24 i0 x1 x2 F = some out → W p l e (headSpec w_Mf_divide r_Mf_divide).room s m args below meth c H locs 0 0 (MQ below (QV X L out) args s 0 0 (AA X L)) (F0 m 24 ls [])) {i0 : Nat} {x1 : Int32} {x2 : Int32} {F : Mem} {H : Heap} {locs : List Loc} {ls : Array Slot} (o0 : oO L 10 i0) (hI : Iv X L s H locs F) (hl : lv_has ls 3 [(0, .ref (mAd X i0)), (1, .int x1), (2, .int x2)]) (h : b_Mf_divide_92 L k24 i0 x1 x2 F = some out) : W p l e (headSpec w_Mf_divide r_Mf_divide).room s m args below meth c H locs 0 0 (MQ below (QV X L out) args s 0 0 (AA X L)) (F0 m 92 ls []) := by
  unfold b_Mf_divide_92 at h
  obtain ⟨S, hK, hT, hW, hr, hlk⟩ := id hC
  have hx := S.1
  have hb := S.2.1
  refine lv_iinc (k := 2) (v := x2 + (1 : Int32)) (lv' := [(2, .int (x2 + (1 : Int32))), (0, .ref (mAd X i0)), (1, .int x1)]) hx hb d_Mf_divide_92 hl rfl rfl (by decide) rfl (fun ls hl => ?_)
  refine lv_goto (tgt := 24) hx hb d_Mf_divide_95 rfl ?_
  exact hk24 _ _ _ _ _ _ _ o0 hI (lv_sub hl [1, 2, 0] rfl) h
def b_Mf_divide_24 (L : La) (k24 : Nat → Int32 → Int32 → Mem → Option Mem) (i0 : Nat) (x1 : Int32) (x2 : Int32) (F : Mem) : Option Mem :=
  if (F (mRf L i0 0) 1) ≤ x2 then
    some F
  else
    (f_Mf_findLongest L i0 x2 F).bind fun F2 =>
    if (F2 i0 8) < (3 : Int32) then
      if inb x2 (mGl L (mRf L (mRf L i0 0) 0)) then none else
      (f_Row_add L (mRf L i0 1) (mGa L F2 (mRf L (mRf L i0 0) 0) x2.toNatClampNeg) F2).bind fun F8 =>
      b_Mf_divide_92 L k24 i0 (x1 + (1 : Int32)) x2 F8
    else
      (f_Mf_addSequence L i0 x1 (x2 - (F2 i0 7)) F2).bind fun F10 =>
      b_Mf_divide_92 L k24 i0 (0 : Int32) (x2 + ((F10 i0 8) - (1 : Int32))) F10
set_option maxHeartbeats 4000000 in
theorem t_Mf_divide_24 (hC : Cx X L p s m args meth c cc_Mf_divide 3 w_Mf_divide R_Mf none) {k24 : Nat → Int32 → Int32 → Mem → Option Mem} {out : Mem} (hk24 : ∀ (i0 : Nat) (x1 : Int32) (x2 : Int32) (F : Mem) (H : Heap) (locs : List Loc) (ls : Array Slot), oO L 10 i0 → Iv X L s H locs F → lv_has ls 3 [(0, .ref (mAd X i0)), (1, .int x1), (2, .int x2)] → k24 i0 x1 x2 F = some out → W p l e (headSpec w_Mf_divide r_Mf_divide).room s m args below meth c H locs 0 0 (MQ below (QV X L out) args s 0 0 (AA X L)) (F0 m 24 ls [])) {i0 : Nat} {x1 : Int32} {x2 : Int32} {F : Mem} {H : Heap} {locs : List Loc} {ls : Array Slot} (o0 : oO L 10 i0) (hI : Iv X L s H locs F) (hl : lv_has ls 3 [(0, .ref (mAd X i0)), (1, .int x1), (2, .int x2)]) (h : b_Mf_divide_24 L k24 i0 x1 x2 F = some out) : W p l e (headSpec w_Mf_divide r_Mf_divide).room s m args below meth c H locs 0 0 (MQ below (QV X L out) args s 0 0 (AA X L)) (F0 m 24 ls []) := by
  unfold b_Mf_divide_24 at h
  obtain ⟨S, hK, hT, hW, hr, hlk⟩ := id hC
  have hx := S.1
  have hb := S.2.1
  refine lv_iload_n hx hb d_Mf_divide_24 rfl (lv_at hl 2 rfl) ?_
  refine lv_aload_n hx hb d_Mf_divide_25 rfl (lv_at hl 0 rfl) ?_
  have p1 := wt_o hW o0 0 1 rfl (by decide) (by decide) (by decide)
  refine w_getR (T := T_Mf) S hK hI o0 rfl hin_Mf 0 (index := 37) (by decide) lf_Mf_37 d_Mf_divide_26 ?_
  refine w_getI (T := T_Row) S hK hI p1 rfl hin_Row 1 (index := 40) (by decide) lf_Mf_40 d_Mf_divide_29 ?_
  refine lv_icmp_ge (tgt := 98) hx hb d_Mf_divide_32 rfl (fun hc => ?_) (fun hc => ?_)
  · replace h := (if_pos hc).symm.trans h
    exact w_vret S hK hr hlk hI d_Mf_divide_98 h
  · replace h := (if_neg hc).symm.trans h
    refine lv_aload_n hx hb d_Mf_divide_35 rfl (lv_at hl 0 rfl) ?_
    refine lv_iload_n hx hb d_Mf_divide_36 rfl (lv_at hl 2 rfl) ?_
    obtain ⟨F2, e3, h⟩ := un_bi h
    refine w_callVv (As := [.int x2]) (rest := []) S hK hI hT (c_Mf_findLongest l hW o0 e3) (cwV 1 S.2.2.2.2 (gd_V lc_Mf_findLongest lm_Mf_50 li_Mf_findLongest ls_Mf_findLongest ln_Mf) rfl rfl rfl hd_Mf_findLongest ⟨Nat.le_of_ble_eq_true rfl, Nat.le_of_ble_eq_true rfl⟩) o0 rfl (by decide) rfl rfl hl.1 (Nat.le_of_ble_eq_true rfl) d_Mf_divide_37 ⟨Nat.zero_le _, Nat.zero_le _⟩ (fun H locs hI => ?_)
    refine lv_aload_n hx hb d_Mf_divide_40 rfl (lv_at hl 0 rfl) ?_
    refine w_getI (T := T_Mf) S hK hI o0 rfl hin_Mf 8 (index := 53) (by decide) lf_Mf_53 d_Mf_divide_41 ?_
    refine lv_iconst (v := 3) hx hb d_Mf_divide_44 rfl ?_
    refine lv_icmp_lt (tgt := 73) hx hb d_Mf_divide_45 rfl (fun hc => ?_) (fun hc => ?_)
    · replace h := (if_pos hc).symm.trans h
      refine lv_aload_n hx hb d_Mf_divide_73 rfl (lv_at hl 0 rfl) ?_
      have p4 := wt_o hW o0 1 1 rfl (by decide) (by decide) (by decide)
      refine w_getR (T := T_Mf) S hK hI o0 rfl hin_Mf 1 (index := 14) (by decide) lf_Mf_14 d_Mf_divide_74 ?_
      refine lv_aload_n hx hb d_Mf_divide_77 rfl (lv_at hl 0 rfl) ?_
      have p5 := wt_o hW o0 0 1 rfl (by decide) (by decide) (by decide)
      refine w_getR (T := T_Mf) S hK hI o0 rfl hin_Mf 0 (index := 37) (by decide) lf_Mf_37 d_Mf_divide_78 ?_
      have p6 := wt_a hW p5 0 rfl (by decide) (by decide)
      refine w_getR (T := T_Row) S hK hI p5 rfl hin_Row 0 (index := 63) (by decide) lf_Mf_63 d_Mf_divide_81 ?_
      refine lv_iload_n hx hb d_Mf_divide_84 rfl (lv_at hl 2 rfl) ?_
      obtain ⟨z7, h⟩ := un_if h
      refine w_iald S hK hI hT p6 z7 d_Mf_divide_85 ?_
      obtain ⟨F8, e9, h⟩ := un_bi h
      refine w_callVv (As := [.int (mGa L F2 (mRf L (mRf L i0 0) 0) x2.toNatClampNeg)]) (rest := []) S hK hI hT (c_Row_add l hW p4 e9) (cwV 1 S.2.2.2.2 (gd_V lc_Row_add lm_Mf_66 li_Row_add ls_Row_add ln_Row) rfl rfl rfl hd_Row_add ⟨Nat.le_of_ble_eq_true rfl, Nat.le_of_ble_eq_true rfl⟩) p4 rfl (by decide) rfl rfl hl.1 (Nat.le_of_ble_eq_true rfl) d_Mf_divide_86 ⟨Nat.zero_le _, Nat.zero_le _⟩ (fun H locs hI => ?_)
      refine lv_iinc (k := 1) (v := x1 + (1 : Int32)) (lv' := [(1, .int (x1 + (1 : Int32))), (0, .ref (mAd X i0)), (2, .int x2)]) hx hb d_Mf_divide_89 hl rfl rfl (by decide) rfl (fun ls hl => ?_)
      exact t_Mf_divide_92 hC hk24 o0 hI (lv_sub hl [1, 0, 2] rfl) h
    · replace h := (if_neg hc).symm.trans h
      refine lv_aload_n hx hb d_Mf_divide_48 rfl (lv_at hl 0 rfl) ?_
      refine lv_iload_n hx hb d_Mf_divide_49 rfl (lv_at hl 1 rfl) ?_
      refine lv_iload_n hx hb d_Mf_divide_50 rfl (lv_at hl 2 rfl) ?_
      refine lv_aload_n hx hb d_Mf_divide_51 rfl (lv_at hl 0 rfl) ?_
      refine w_getI (T := T_Mf) S hK hI o0 rfl hin_Mf 7 (index := 56) (by decide) lf_Mf_56 d_Mf_divide_52 ?_
      refine lv_isub hx hb d_Mf_divide_55 ?_
      obtain ⟨F10, e11, h⟩ := un_bi h
      refine w_callVv (As := [.int x1, .int (x2 - (F2 i0 7))]) (rest := []) S hK hI hT (c_Mf_addSequence l hW o0 e11) (cwV 2 S.2.2.2.2 (gd_V lc_Mf_addSequence lm_Mf_59 li_Mf_addSequence ls_Mf_addSequence ln_Mf) rfl rfl rfl hd_Mf_addSequence ⟨Nat.le_of_ble_eq_true rfl, Nat.le_of_ble_eq_true rfl⟩) o0 rfl (by decide) rfl rfl hl.1 (Nat.le_of_ble_eq_true rfl) d_Mf_divide_56 ⟨Nat.zero_le _, Nat.zero_le _⟩ (fun H locs hI => ?_)
      refine lv_iconst (v := 0) hx hb d_Mf_divide_59 rfl ?_
      refine lv_istore_n (lv' := [(1, .int (0 : Int32)), (0, .ref (mAd X i0)), (2, .int x2)]) hx hb d_Mf_divide_60 rfl hl (by decide) rfl (fun ls hl => ?_)
      refine lv_iload_n hx hb d_Mf_divide_61 rfl (lv_at hl 2 rfl) ?_
      refine lv_aload_n hx hb d_Mf_divide_62 rfl (lv_at hl 1 rfl) ?_
      refine w_getI (T := T_Mf) S hK hI o0 rfl hin_Mf 8 (index := 53) (by decide) lf_Mf_53 d_Mf_divide_63 ?_
      refine lv_iconst (v := 1) hx hb d_Mf_divide_66 rfl ?_
      refine lv_isub hx hb d_Mf_divide_67 ?_
      refine lv_iadd hx hb d_Mf_divide_68 ?_
      refine lv_istore_n (lv' := [(2, .int (x2 + ((F10 i0 8) - (1 : Int32)))), (1, .int (0 : Int32)), (0, .ref (mAd X i0))]) hx hb d_Mf_divide_69 rfl hl (by decide) rfl (fun ls hl => ?_)
      refine lv_goto (tgt := 92) hx hb d_Mf_divide_70 rfl ?_
      exact t_Mf_divide_92 hC hk24 o0 hI (lv_sub hl [2, 1, 0] rfl) h
def f_Mf_divide_24 (L : La)  : Nat → Nat → Int32 → Int32 → Mem → Option Mem
  | 0 => fun _ _ _ _ => none
  | n + 1 => b_Mf_divide_24 L (f_Mf_divide_24 L  n)
theorem tf_Mf_divide_24 (hC : Cx X L p s m args meth c cc_Mf_divide 3 w_Mf_divide R_Mf none)  {out : Mem}  (n : Nat) : ∀ (i0 : Nat) (x1 : Int32) (x2 : Int32) (F : Mem) (H : Heap) (locs : List Loc) (ls : Array Slot), oO L 10 i0 → Iv X L s H locs F → lv_has ls 3 [(0, .ref (mAd X i0)), (1, .int x1), (2, .int x2)] → f_Mf_divide_24 L  n i0 x1 x2 F = some out → W p l e (headSpec w_Mf_divide r_Mf_divide).room s m args below meth c H locs 0 0 (MQ below (QV X L out) args s 0 0 (AA X L)) (F0 m 24 ls []) := by
  induction n with
  | zero => intro i0 x1 x2 F H locs ls o0 hI hl h; cases h
  | succ n ih => intro i0 x1 x2 F H locs ls o0 hI hl h; exact t_Mf_divide_24 hC ih o0 hI hl h
def f_Mf_divide (L : La) (i0 : Nat) (F : Mem) : Option Mem :=
  lt' (u2 F (mRf L i0 1) 1 (0 : Int32)) fun F2 =>
  lt' (u2 F2 i0 6 (0 : Int32)) fun F4 =>
  (f_Rp_begin L (mRf L i0 5) F4).bind fun F7 =>
  f_Mf_divide_24 L  mFU i0 (0 : Int32) (0 : Int32) F7
set_option maxHeartbeats 4000000 in
theorem c_Mf_divide (l : Launch) {X : Xs} {L : La} (hW : WT L) {out : Mem} {i0 : Nat} {F : Mem} (o0 : oO L 10 i0) (h : f_Mf_divide L i0 F = some out) : Met l y_Mf_divide w_Mf_divide r_Mf_divide (va_Pc [.ref (mAd X i0)] (Pr X L F)) (QV X L out) 0 0 (AA X L) := by
  refine mk_met (by decide) rfl (Nat.le_of_ble_eq_true rfl) hW ?_
  intro p e s m args below meth c ls hC hI hl
  have hl : lv_has ls 3 [(0, .ref (mAd X i0))] := hl
  generalize hHe : s.heap = H at hI ⊢
  generalize ([] : List Loc) = locs at hI ⊢
  unfold f_Mf_divide at h
  obtain ⟨S, hK, hT, hW, hr, hlk⟩ := id hC
  have hx := S.1
  have hb := S.2.1
  refine lv_aload_n hx hb d_Mf_divide_0 rfl (lv_at hl 0 rfl) ?_
  have p1 := wt_o hW o0 1 1 rfl (by decide) (by decide) (by decide)
  refine w_getR (T := T_Mf) S hK hI o0 rfl hin_Mf 1 (index := 14) (by decide) lf_Mf_14 d_Mf_divide_1 ?_
  refine lv_iconst (v := 0) hx hb d_Mf_divide_4 rfl ?_
  refine w_putI (T := T_Row) S hK hI p1 rfl hin_Row ty_Row tk_Row nm_Row 1 (index := 40) (by decide) lf_Mf_40 rfl d_Mf_divide_5 (fun H locs F2 e3 hI => ?_)
  replace h := un_lt h _ e3
  refine lv_aload_n hx hb d_Mf_divide_8 rfl (lv_at hl 0 rfl) ?_
  refine lv_iconst (v := 0) hx hb d_Mf_divide_9 rfl ?_
  refine w_putI (T := T_Mf) S hK hI o0 rfl hin_Mf ty_Mf tk_Mf nm_Mf 6 (index := 44) (by decide) lf_Mf_44 rfl d_Mf_divide_10 (fun H locs F4 e5 hI => ?_)
  replace h := un_lt h _ e5
  refine lv_aload_n hx hb d_Mf_divide_13 rfl (lv_at hl 0 rfl) ?_
  have p6 := wt_o hW o0 5 6 rfl (by decide) (by decide) (by decide)
  refine w_getR (T := T_Mf) S hK hI o0 rfl hin_Mf 5 (index := 33) (by decide) lf_Mf_33 d_Mf_divide_14 ?_
  obtain ⟨F7, e8, h⟩ := un_bi h
  refine w_callVv (As := []) (rest := []) S hK hI hT (c_Rp_begin l hW p6 e8) (cwV 0 S.2.2.2.2 (gd_V lc_Rp_begin lm_Mf_47 li_Rp_begin ls_Rp_begin ln_Rp) rfl rfl rfl hd_Rp_begin ⟨Nat.le_of_ble_eq_true rfl, Nat.le_of_ble_eq_true rfl⟩) p6 rfl (by decide) rfl rfl hl.1 (Nat.le_of_ble_eq_true rfl) d_Mf_divide_17 ⟨Nat.zero_le _, Nat.zero_le _⟩ (fun H locs hI => ?_)
  refine lv_iconst (v := 0) hx hb d_Mf_divide_20 rfl ?_
  refine lv_istore_n (lv' := [(1, .int (0 : Int32)), (0, .ref (mAd X i0))]) hx hb d_Mf_divide_21 rfl hl (by decide) rfl (fun ls hl => ?_)
  refine lv_iconst (v := 0) hx hb d_Mf_divide_22 rfl ?_
  refine lv_istore_n (lv' := [(2, .int (0 : Int32)), (1, .int (0 : Int32)), (0, .ref (mAd X i0))]) hx hb d_Mf_divide_23 rfl hl (by decide) rfl (fun ls hl => ?_)
  exact tf_Mf_divide_24 hC  mFU _ _ _ _ _ _ _ o0 hI (lv_sub hl [2, 1, 0] rfl) h
end
