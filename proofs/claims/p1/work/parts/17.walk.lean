theorem d_Md_choose_0 : decode cc_Md_choose 0 = .ok (.aload_n 0, 1) := by decide +kernel
theorem d_Md_choose_1 : decode cc_Md_choose 1 = .ok (.getfield 178, 3) := by decide +kernel
theorem d_Md_choose_4 : decode cc_Md_choose 4 = .ok (.iconst 1, 1) := by decide +kernel
theorem d_Md_choose_5 : decode cc_Md_choose 5 = .ok (.isub, 1) := by decide +kernel
theorem d_Md_choose_6 : decode cc_Md_choose 6 = .ok (.istore_n 2, 1) := by decide +kernel
theorem d_Md_choose_7 : decode cc_Md_choose 7 = .ok (.iload_n 2, 1) := by decide +kernel
theorem d_Md_choose_8 : decode cc_Md_choose 8 = .ok (.ifCond .lt (161), 3) := by decide +kernel
theorem d_Md_choose_11 : decode cc_Md_choose 11 = .ok (.iload_n 2, 1) := by decide +kernel
theorem d_Md_choose_12 : decode cc_Md_choose 12 = .ok (.iconst 1, 1) := by decide +kernel
theorem d_Md_choose_13 : decode cc_Md_choose 13 = .ok (.iadd, 1) := by decide +kernel
theorem d_Md_choose_14 : decode cc_Md_choose 14 = .ok (.aload_n 0, 1) := by decide +kernel
theorem d_Md_choose_15 : decode cc_Md_choose 15 = .ok (.getfield 178, 3) := by decide +kernel
theorem d_Md_choose_18 : decode cc_Md_choose 18 = .ok (.if_icmp .ge (19), 3) := by decide +kernel
theorem d_Md_choose_21 : decode cc_Md_choose 21 = .ok (.aload_n 0, 1) := by decide +kernel
theorem d_Md_choose_22 : decode cc_Md_choose 22 = .ok (.getfield 65, 3) := by decide +kernel
theorem d_Md_choose_25 : decode cc_Md_choose 25 = .ok (.bipush (40), 2) := by decide +kernel
theorem d_Md_choose_27 : decode cc_Md_choose 27 = .ok (.iload_n 1, 1) := by decide +kernel
theorem d_Md_choose_28 : decode cc_Md_choose 28 = .ok (.imul, 1) := by decide +kernel
theorem d_Md_choose_29 : decode cc_Md_choose 29 = .ok (.iload_n 2, 1) := by decide +kernel
theorem d_Md_choose_30 : decode cc_Md_choose 30 = .ok (.iadd, 1) := by decide +kernel
theorem d_Md_choose_31 : decode cc_Md_choose 31 = .ok (.iconst 1, 1) := by decide +kernel
theorem d_Md_choose_32 : decode cc_Md_choose 32 = .ok (.iadd, 1) := by decide +kernel
theorem d_Md_choose_33 : decode cc_Md_choose 33 = .ok (.iaload, 1) := by decide +kernel
theorem d_Md_choose_34 : decode cc_Md_choose 34 = .ok (.goto (4), 3) := by decide +kernel
theorem d_Md_choose_37 : decode cc_Md_choose 37 = .ok (.iconst 0, 1) := by decide +kernel
theorem d_Md_choose_38 : decode cc_Md_choose 38 = .ok (.istore_n 3, 1) := by decide +kernel
theorem d_Md_choose_39 : decode cc_Md_choose 39 = .ok (.iconst (-1), 1) := by decide +kernel
theorem d_Md_choose_40 : decode cc_Md_choose 40 = .ok (.istore 4, 2) := by decide +kernel
theorem d_Md_choose_42 : decode cc_Md_choose 42 = .ok (.bipush (15), 2) := by decide +kernel
theorem d_Md_choose_44 : decode cc_Md_choose 44 = .ok (.istore 5, 2) := by decide +kernel
theorem d_Md_choose_46 : decode cc_Md_choose 46 = .ok (.iload 5, 2) := by decide +kernel
theorem d_Md_choose_48 : decode cc_Md_choose 48 = .ok (.ifCond .lt (102), 3) := by decide +kernel
theorem d_Md_choose_51 : decode cc_Md_choose 51 = .ok (.bipush (16), 2) := by decide +kernel
theorem d_Md_choose_53 : decode cc_Md_choose 53 = .ok (.iload_n 1, 1) := by decide +kernel
theorem d_Md_choose_54 : decode cc_Md_choose 54 = .ok (.imul, 1) := by decide +kernel
theorem d_Md_choose_55 : decode cc_Md_choose 55 = .ok (.iload 5, 2) := by decide +kernel
theorem d_Md_choose_57 : decode cc_Md_choose 57 = .ok (.iadd, 1) := by decide +kernel
theorem d_Md_choose_58 : decode cc_Md_choose 58 = .ok (.istore 6, 2) := by decide +kernel
theorem d_Md_choose_60 : decode cc_Md_choose 60 = .ok (.iload_n 2, 1) := by decide +kernel
theorem d_Md_choose_61 : decode cc_Md_choose 61 = .ok (.iconst 1, 1) := by decide +kernel
theorem d_Md_choose_62 : decode cc_Md_choose 62 = .ok (.iadd, 1) := by decide +kernel
theorem d_Md_choose_63 : decode cc_Md_choose 63 = .ok (.aload_n 0, 1) := by decide +kernel
theorem d_Md_choose_64 : decode cc_Md_choose 64 = .ok (.getfield 178, 3) := by decide +kernel
theorem d_Md_choose_67 : decode cc_Md_choose 67 = .ok (.if_icmp .eq (35), 3) := by decide +kernel
theorem d_Md_choose_70 : decode cc_Md_choose 70 = .ok (.aload_n 0, 1) := by decide +kernel
theorem d_Md_choose_71 : decode cc_Md_choose 71 = .ok (.getfield 44, 3) := by decide +kernel
theorem d_Md_choose_74 : decode cc_Md_choose 74 = .ok (.iload 6, 2) := by decide +kernel
theorem d_Md_choose_76 : decode cc_Md_choose 76 = .ok (.iaload, 1) := by decide +kernel
theorem d_Md_choose_77 : decode cc_Md_choose 77 = .ok (.iload_n 3, 1) := by decide +kernel
theorem d_Md_choose_78 : decode cc_Md_choose 78 = .ok (.if_icmp .gt (28), 3) := by decide +kernel
theorem d_Md_choose_81 : decode cc_Md_choose 81 = .ok (.iload_n 3, 1) := by decide +kernel
theorem d_Md_choose_82 : decode cc_Md_choose 82 = .ok (.aload_n 0, 1) := by decide +kernel
theorem d_Md_choose_83 : decode cc_Md_choose 83 = .ok (.getfield 44, 3) := by decide +kernel
theorem d_Md_choose_86 : decode cc_Md_choose 86 = .ok (.iload 6, 2) := by decide +kernel
theorem d_Md_choose_88 : decode cc_Md_choose 88 = .ok (.iaload, 1) := by decide +kernel
theorem d_Md_choose_89 : decode cc_Md_choose 89 = .ok (.iconst 1, 1) := by decide +kernel
theorem d_Md_choose_90 : decode cc_Md_choose 90 = .ok (.aload_n 0, 1) := by decide +kernel
theorem d_Md_choose_91 : decode cc_Md_choose 91 = .ok (.getfield 41, 3) := by decide +kernel
theorem d_Md_choose_94 : decode cc_Md_choose 94 = .ok (.iload 6, 2) := by decide +kernel
theorem d_Md_choose_96 : decode cc_Md_choose 96 = .ok (.iaload, 1) := by decide +kernel
theorem d_Md_choose_97 : decode cc_Md_choose 97 = .ok (.ishl, 1) := by decide +kernel
theorem d_Md_choose_98 : decode cc_Md_choose 98 = .ok (.iadd, 1) := by decide +kernel
theorem d_Md_choose_99 : decode cc_Md_choose 99 = .ok (.if_icmp .ge (7), 3) := by decide +kernel
theorem d_Md_choose_102 : decode cc_Md_choose 102 = .ok (.iconst 1, 1) := by decide +kernel
theorem d_Md_choose_103 : decode cc_Md_choose 103 = .ok (.goto (4), 3) := by decide +kernel
theorem d_Md_choose_106 : decode cc_Md_choose 106 = .ok (.iconst 0, 1) := by decide +kernel
theorem d_Md_choose_107 : decode cc_Md_choose 107 = .ok (.istore 7, 2) := by decide +kernel
theorem d_Md_choose_109 : decode cc_Md_choose 109 = .ok (.aload_n 0, 1) := by decide +kernel
theorem d_Md_choose_110 : decode cc_Md_choose 110 = .ok (.getfield 38, 3) := by decide +kernel
theorem d_Md_choose_113 : decode cc_Md_choose 113 = .ok (.iload 6, 2) := by decide +kernel
theorem d_Md_choose_115 : decode cc_Md_choose 115 = .ok (.iaload, 1) := by decide +kernel
theorem d_Md_choose_116 : decode cc_Md_choose 116 = .ok (.aload_n 0, 1) := by decide +kernel
theorem d_Md_choose_117 : decode cc_Md_choose 117 = .ok (.getfield 62, 3) := by decide +kernel
theorem d_Md_choose_120 : decode cc_Md_choose 120 = .ok (.bipush (40), 2) := by decide +kernel
theorem d_Md_choose_122 : decode cc_Md_choose 122 = .ok (.iload_n 1, 1) := by decide +kernel
theorem d_Md_choose_123 : decode cc_Md_choose 123 = .ok (.imul, 1) := by decide +kernel
theorem d_Md_choose_124 : decode cc_Md_choose 124 = .ok (.iload_n 2, 1) := by decide +kernel
theorem d_Md_choose_125 : decode cc_Md_choose 125 = .ok (.iadd, 1) := by decide +kernel
theorem d_Md_choose_126 : decode cc_Md_choose 126 = .ok (.iaload, 1) := by decide +kernel
theorem d_Md_choose_127 : decode cc_Md_choose 127 = .ok (.if_icmp .ne (13), 3) := by decide +kernel
theorem d_Md_choose_130 : decode cc_Md_choose 130 = .ok (.iload 7, 2) := by decide +kernel
theorem d_Md_choose_132 : decode cc_Md_choose 132 = .ok (.ifCond .eq (8), 3) := by decide +kernel
theorem d_Md_choose_135 : decode cc_Md_choose 135 = .ok (.iload 5, 2) := by decide +kernel
theorem d_Md_choose_137 : decode cc_Md_choose 137 = .ok (.goto (5), 3) := by decide +kernel
theorem d_Md_choose_140 : decode cc_Md_choose 140 = .ok (.iload 4, 2) := by decide +kernel
theorem d_Md_choose_142 : decode cc_Md_choose 142 = .ok (.istore 4, 2) := by decide +kernel
theorem d_Md_choose_144 : decode cc_Md_choose 144 = .ok (.iinc 5 (-1), 3) := by decide +kernel
theorem d_Md_choose_147 : decode cc_Md_choose 147 = .ok (.goto (-101), 3) := by decide +kernel
theorem d_Md_choose_150 : decode cc_Md_choose 150 = .ok (.aload_n 0, 1) := by decide +kernel
theorem d_Md_choose_151 : decode cc_Md_choose 151 = .ok (.getfield 65, 3) := by decide +kernel
theorem d_Md_choose_154 : decode cc_Md_choose 154 = .ok (.bipush (40), 2) := by decide +kernel
theorem d_Md_choose_156 : decode cc_Md_choose 156 = .ok (.iload_n 1, 1) := by decide +kernel
theorem d_Md_choose_157 : decode cc_Md_choose 157 = .ok (.imul, 1) := by decide +kernel
theorem d_Md_choose_158 : decode cc_Md_choose 158 = .ok (.iload_n 2, 1) := by decide +kernel
theorem d_Md_choose_159 : decode cc_Md_choose 159 = .ok (.iadd, 1) := by decide +kernel
theorem d_Md_choose_160 : decode cc_Md_choose 160 = .ok (.iload 4, 2) := by decide +kernel
theorem d_Md_choose_162 : decode cc_Md_choose 162 = .ok (.iastore, 1) := by decide +kernel
theorem d_Md_choose_163 : decode cc_Md_choose 163 = .ok (.iinc 2 (-1), 3) := by decide +kernel
theorem d_Md_choose_166 : decode cc_Md_choose 166 = .ok (.goto (-159), 3) := by decide +kernel
theorem d_Md_choose_169 : decode cc_Md_choose 169 = .ok (.return_, 1) := by decide +kernel
section
variable {p : Program} {l : Launch} {e : Env} {s : State} {m : MethodId} {args : Array Value} {below : List Frame} {meth : Method} {c : Code} {X : Xs} {L : La}
def b_Md_choose_142 (L : La) (k7 : Nat → Int32 → Int32 → Mem → Option Mem) (k46 : Nat → Int32 → Int32 → Int32 → Int32 → Int32 → Mem → Option Mem) (i0 : Nat) (x1 : Int32) (x2 : Int32) (x3 : Int32) (x5 : Int32) (y0 : Int32) (F : Mem) : Option Mem :=
  k46 i0 x1 x2 x3 y0 (x5 + (-1 : Int32)) F
set_option maxHeartbeats 4000000 in
theorem t_Md_choose_142 (hC : Cx X L p s m args meth c cc_Md_choose 8 w_Md_choose R_Md none) {k7 : Nat → Int32 → Int32 → Mem → Option Mem} {k46 : Nat → Int32 → Int32 → Int32 → Int32 → Int32 → Mem → Option Mem} {out : Mem} (hk7 : ∀ (i0 : Nat) (x1 : Int32) (x2 : Int32) (F : Mem) (H : Heap) (locs : List Loc) (ls : Array Slot), oO L 12 i0 → Iv X L s H locs F → lv_has ls 8 [(0, .ref (mAd X i0)), (1, .int x1), (2, .int x2)] → k7 i0 x1 x2 F = some out → W p l e (headSpec w_Md_choose r_Md_choose).room s m args below meth c H locs 0 0 (MQ below (QV X L out) args s 0 0 (AA X L)) (F0 m 7 ls [])) (hk46 : ∀ (i0 : Nat) (x1 : Int32) (x2 : Int32) (x3 : Int32) (x4 : Int32) (x5 : Int32) (F : Mem) (H : Heap) (locs : List Loc) (ls : Array Slot), oO L 12 i0 → Iv X L s H locs F → lv_has ls 8 [(0, .ref (mAd X i0)), (1, .int x1), (2, .int x2), (3, .int x3), (4, .int x4), (5, .int x5)] → k46 i0 x1 x2 x3 x4 x5 F = some out → W p l e (headSpec w_Md_choose r_Md_choose).room s m args below meth c H locs 0 0 (MQ below (QV X L out) args s 0 0 (AA X L)) (F0 m 46 ls [])) {i0 : Nat} {x1 : Int32} {x2 : Int32} {x3 : Int32} {x5 : Int32} {y0 : Int32} {F : Mem} {H : Heap} {locs : List Loc} {ls : Array Slot} (o0 : oO L 12 i0) (hI : Iv X L s H locs F) (hl : lv_has ls 8 [(0, .ref (mAd X i0)), (1, .int x1), (2, .int x2), (3, .int x3), (5, .int x5)]) (h : b_Md_choose_142 L k7 k46 i0 x1 x2 x3 x5 y0 F = some out) : W p l e (headSpec w_Md_choose r_Md_choose).room s m args below meth c H locs 0 0 (MQ below (QV X L out) args s 0 0 (AA X L)) (F0 m 142 ls [.int y0]) := by
  unfold b_Md_choose_142 at h
  obtain ⟨S, hK, hT, hW, hr, hlk⟩ := id hC
  have hx := S.1
  have hb := S.2.1
  refine lv_istore (lv' := [(4, .int y0), (0, .ref (mAd X i0)), (1, .int x1), (2, .int x2), (3, .int x3), (5, .int x5)]) hx hb d_Md_choose_142 hl (by decide) rfl (fun ls hl => ?_)
  refine lv_iinc (k := 5) (v := x5 + (-1 : Int32)) (lv' := [(5, .int (x5 + (-1 : Int32))), (4, .int y0), (0, .ref (mAd X i0)), (1, .int x1), (2, .int x2), (3, .int x3)]) hx hb d_Md_choose_144 hl rfl rfl (by decide) rfl (fun ls hl => ?_)
  refine lv_goto (tgt := 46) hx hb d_Md_choose_147 rfl ?_
  exact hk46 _ _ _ _ _ _ _ _ _ _ o0 hI (lv_sub hl [2, 3, 4, 5, 1, 0] rfl) h
def b_Md_choose_140 (L : La) (k7 : Nat → Int32 → Int32 → Mem → Option Mem) (k46 : Nat → Int32 → Int32 → Int32 → Int32 → Int32 → Mem → Option Mem) (i0 : Nat) (x1 : Int32) (x2 : Int32) (x3 : Int32) (x4 : Int32) (x5 : Int32) (F : Mem) : Option Mem :=
  b_Md_choose_142 L k7 k46 i0 x1 x2 x3 x5 x4 F
set_option maxHeartbeats 4000000 in
theorem t_Md_choose_140 (hC : Cx X L p s m args meth c cc_Md_choose 8 w_Md_choose R_Md none) {k7 : Nat → Int32 → Int32 → Mem → Option Mem} {k46 : Nat → Int32 → Int32 → Int32 → Int32 → Int32 → Mem → Option Mem} {out : Mem} (hk7 : ∀ (i0 : Nat) (x1 : Int32) (x2 : Int32) (F : Mem) (H : Heap) (locs : List Loc) (ls : Array Slot), oO L 12 i0 → Iv X L s H locs F → lv_has ls 8 [(0, .ref (mAd X i0)), (1, .int x1), (2, .int x2)] → k7 i0 x1 x2 F = some out → W p l e (headSpec w_Md_choose r_Md_choose).room s m args below meth c H locs 0 0 (MQ below (QV X L out) args s 0 0 (AA X L)) (F0 m 7 ls [])) (hk46 : ∀ (i0 : Nat) (x1 : Int32) (x2 : Int32) (x3 : Int32) (x4 : Int32) (x5 : Int32) (F : Mem) (H : Heap) (locs : List Loc) (ls : Array Slot), oO L 12 i0 → Iv X L s H locs F → lv_has ls 8 [(0, .ref (mAd X i0)), (1, .int x1), (2, .int x2), (3, .int x3), (4, .int x4), (5, .int x5)] → k46 i0 x1 x2 x3 x4 x5 F = some out → W p l e (headSpec w_Md_choose r_Md_choose).room s m args below meth c H locs 0 0 (MQ below (QV X L out) args s 0 0 (AA X L)) (F0 m 46 ls [])) {i0 : Nat} {x1 : Int32} {x2 : Int32} {x3 : Int32} {x4 : Int32} {x5 : Int32} {F : Mem} {H : Heap} {locs : List Loc} {ls : Array Slot} (o0 : oO L 12 i0) (hI : Iv X L s H locs F) (hl : lv_has ls 8 [(0, .ref (mAd X i0)), (1, .int x1), (2, .int x2), (3, .int x3), (4, .int x4), (5, .int x5)]) (h : b_Md_choose_140 L k7 k46 i0 x1 x2 x3 x4 x5 F = some out) : W p l e (headSpec w_Md_choose r_Md_choose).room s m args below meth c H locs 0 0 (MQ below (QV X L out) args s 0 0 (AA X L)) (F0 m 140 ls []) := by
  unfold b_Md_choose_140 at h
  obtain ⟨S, hK, hT, hW, hr, hlk⟩ := id hC
  have hx := S.1
  have hb := S.2.1
  refine lv_iload hx hb d_Md_choose_140 (lv_at hl 4 rfl) ?_
  exact t_Md_choose_142 hC hk7 hk46 o0 hI (lv_sub hl [0, 1, 2, 3, 5] rfl) h
def b_Md_choose_107 (L : La) (k7 : Nat → Int32 → Int32 → Mem → Option Mem) (k46 : Nat → Int32 → Int32 → Int32 → Int32 → Int32 → Mem → Option Mem) (i0 : Nat) (x1 : Int32) (x2 : Int32) (x3 : Int32) (x4 : Int32) (x5 : Int32) (x6 : Int32) (y0 : Int32) (F : Mem) : Option Mem :=
  if inb x6 (mGl L (mRf L i0 23)) then none else
  if inb (((40 : Int32) * x1) + x2) (mGl L (mRf L i0 32)) then none else
  if (mGa L F (mRf L i0 23) x6.toNatClampNeg) = (mGa L F (mRf L i0 32) (((40 : Int32) * x1) + x2).toNatClampNeg) then
    if y0 = 0 then
      b_Md_choose_140 L k7 k46 i0 x1 x2 x3 x4 x5 F
    else
      b_Md_choose_142 L k7 k46 i0 x1 x2 x3 x5 x5 F
  else
    b_Md_choose_140 L k7 k46 i0 x1 x2 x3 x4 x5 F
set_option maxHeartbeats 4000000 in
theorem t_Md_choose_107 (hC : Cx X L p s m args meth c cc_Md_choose 8 w_Md_choose R_Md none) {k7 : Nat → Int32 → Int32 → Mem → Option Mem} {k46 : Nat → Int32 → Int32 → Int32 → Int32 → Int32 → Mem → Option Mem} {out : Mem} (hk7 : ∀ (i0 : Nat) (x1 : Int32) (x2 : Int32) (F : Mem) (H : Heap) (locs : List Loc) (ls : Array Slot), oO L 12 i0 → Iv X L s H locs F → lv_has ls 8 [(0, .ref (mAd X i0)), (1, .int x1), (2, .int x2)] → k7 i0 x1 x2 F = some out → W p l e (headSpec w_Md_choose r_Md_choose).room s m args below meth c H locs 0 0 (MQ below (QV X L out) args s 0 0 (AA X L)) (F0 m 7 ls [])) (hk46 : ∀ (i0 : Nat) (x1 : Int32) (x2 : Int32) (x3 : Int32) (x4 : Int32) (x5 : Int32) (F : Mem) (H : Heap) (locs : List Loc) (ls : Array Slot), oO L 12 i0 → Iv X L s H locs F → lv_has ls 8 [(0, .ref (mAd X i0)), (1, .int x1), (2, .int x2), (3, .int x3), (4, .int x4), (5, .int x5)] → k46 i0 x1 x2 x3 x4 x5 F = some out → W p l e (headSpec w_Md_choose r_Md_choose).room s m args below meth c H locs 0 0 (MQ below (QV X L out) args s 0 0 (AA X L)) (F0 m 46 ls [])) {i0 : Nat} {x1 : Int32} {x2 : Int32} {x3 : Int32} {x4 : Int32} {x5 : Int32} {x6 : Int32} {y0 : Int32} {F : Mem} {H : Heap} {locs : List Loc} {ls : Array Slot} (o0 : oO L 12 i0) (hI : Iv X L s H locs F) (hl : lv_has ls 8 [(0, .ref (mAd X i0)), (1, .int x1), (2, .int x2), (3, .int x3), (4, .int x4), (5, .int x5), (6, .int x6)]) (h : b_Md_choose_107 L k7 k46 i0 x1 x2 x3 x4 x5 x6 y0 F = some out) : W p l e (headSpec w_Md_choose r_Md_choose).room s m args below meth c H locs 0 0 (MQ below (QV X L out) args s 0 0 (AA X L)) (F0 m 107 ls [.int y0]) := by
  unfold b_Md_choose_107 at h
  obtain ⟨S, hK, hT, hW, hr, hlk⟩ := id hC
  have hx := S.1
  have hb := S.2.1
  refine lv_istore (lv' := [(7, .int y0), (0, .ref (mAd X i0)), (1, .int x1), (2, .int x2), (3, .int x3), (4, .int x4), (5, .int x5), (6, .int x6)]) hx hb d_Md_choose_107 hl (by decide) rfl (fun ls hl => ?_)
  refine lv_aload_n hx hb d_Md_choose_109 rfl (lv_at hl 1 rfl) ?_
  have p1 := wt_a hW o0 23 rfl (by decide) (by decide)
  refine w_getR (T := T_Md) S hK hI o0 rfl hin_Md 23 (index := 38) (by decide) lf_Md_38 d_Md_choose_110 ?_
  refine lv_iload hx hb d_Md_choose_113 (lv_at hl 7 rfl) ?_
  obtain ⟨z2, h⟩ := un_if h
  refine w_iald S hK hI hT p1 z2 d_Md_choose_115 ?_
  refine lv_aload_n hx hb d_Md_choose_116 rfl (lv_at hl 1 rfl) ?_
  have p3 := wt_a hW o0 32 rfl (by decide) (by decide)
  refine w_getR (T := T_Md) S hK hI o0 rfl hin_Md 32 (index := 62) (by decide) lf_Md_62 d_Md_choose_117 ?_
  refine lv_bipush (v := 40) hx hb d_Md_choose_120 (by decide) ?_
  refine lv_iload_n hx hb d_Md_choose_122 rfl (lv_at hl 2 rfl) ?_
  refine lv_imul hx hb d_Md_choose_123 ?_
  refine lv_iload_n hx hb d_Md_choose_124 rfl (lv_at hl 3 rfl) ?_
  refine lv_iadd hx hb d_Md_choose_125 ?_
  obtain ⟨z4, h⟩ := un_if h
  refine w_iald S hK hI hT p3 z4 d_Md_choose_126 ?_
  refine lv_icmp_ne (tgt := 140) hx hb d_Md_choose_127 rfl (fun hc => ?_) (fun hc => ?_)
  · replace h := (if_neg hc).symm.trans h
    exact t_Md_choose_140 hC hk7 hk46 o0 hI (lv_sub hl [1, 2, 3, 4, 5, 6] rfl) h
  · replace h := (if_pos hc).symm.trans h
    refine lv_iload hx hb d_Md_choose_130 (lv_at hl 0 rfl) ?_
    refine lv_if_eq (tgt := 140) hx hb d_Md_choose_132 rfl (fun hc => ?_) (fun hc => ?_)
    · replace h := (if_pos hc).symm.trans h
      exact t_Md_choose_140 hC hk7 hk46 o0 hI (lv_sub hl [1, 2, 3, 4, 5, 6] rfl) h
    · replace h := (if_neg hc).symm.trans h
      refine lv_iload hx hb d_Md_choose_135 (lv_at hl 6 rfl) ?_
      refine lv_goto (tgt := 142) hx hb d_Md_choose_137 rfl ?_
      exact t_Md_choose_142 hC hk7 hk46 o0 hI (lv_sub hl [1, 2, 3, 4, 6] rfl) h
def b_Md_choose_102 (L : La) (k7 : Nat → Int32 → Int32 → Mem → Option Mem) (k46 : Nat → Int32 → Int32 → Int32 → Int32 → Int32 → Mem → Option Mem) (i0 : Nat) (x1 : Int32) (x2 : Int32) (x3 : Int32) (x4 : Int32) (x5 : Int32) (x6 : Int32) (F : Mem) : Option Mem :=
  b_Md_choose_107 L k7 k46 i0 x1 x2 x3 x4 x5 x6 (1 : Int32) F
set_option maxHeartbeats 4000000 in
theorem t_Md_choose_102 (hC : Cx X L p s m args meth c cc_Md_choose 8 w_Md_choose R_Md none) {k7 : Nat → Int32 → Int32 → Mem → Option Mem} {k46 : Nat → Int32 → Int32 → Int32 → Int32 → Int32 → Mem → Option Mem} {out : Mem} (hk7 : ∀ (i0 : Nat) (x1 : Int32) (x2 : Int32) (F : Mem) (H : Heap) (locs : List Loc) (ls : Array Slot), oO L 12 i0 → Iv X L s H locs F → lv_has ls 8 [(0, .ref (mAd X i0)), (1, .int x1), (2, .int x2)] → k7 i0 x1 x2 F = some out → W p l e (headSpec w_Md_choose r_Md_choose).room s m args below meth c H locs 0 0 (MQ below (QV X L out) args s 0 0 (AA X L)) (F0 m 7 ls [])) (hk46 : ∀ (i0 : Nat) (x1 : Int32) (x2 : Int32) (x3 : Int32) (x4 : Int32) (x5 : Int32) (F : Mem) (H : Heap) (locs : List Loc) (ls : Array Slot), oO L 12 i0 → Iv X L s H locs F → lv_has ls 8 [(0, .ref (mAd X i0)), (1, .int x1), (2, .int x2), (3, .int x3), (4, .int x4), (5, .int x5)] → k46 i0 x1 x2 x3 x4 x5 F = some out → W p l e (headSpec w_Md_choose r_Md_choose).room s m args below meth c H locs 0 0 (MQ below (QV X L out) args s 0 0 (AA X L)) (F0 m 46 ls [])) {i0 : Nat} {x1 : Int32} {x2 : Int32} {x3 : Int32} {x4 : Int32} {x5 : Int32} {x6 : Int32} {F : Mem} {H : Heap} {locs : List Loc} {ls : Array Slot} (o0 : oO L 12 i0) (hI : Iv X L s H locs F) (hl : lv_has ls 8 [(0, .ref (mAd X i0)), (1, .int x1), (2, .int x2), (3, .int x3), (4, .int x4), (5, .int x5), (6, .int x6)]) (h : b_Md_choose_102 L k7 k46 i0 x1 x2 x3 x4 x5 x6 F = some out) : W p l e (headSpec w_Md_choose r_Md_choose).room s m args below meth c H locs 0 0 (MQ below (QV X L out) args s 0 0 (AA X L)) (F0 m 102 ls []) := by
  unfold b_Md_choose_102 at h
  obtain ⟨S, hK, hT, hW, hr, hlk⟩ := id hC
  have hx := S.1
  have hb := S.2.1
  refine lv_iconst (v := 1) hx hb d_Md_choose_102 rfl ?_
  refine lv_goto (tgt := 107) hx hb d_Md_choose_103 rfl ?_
  exact t_Md_choose_107 hC hk7 hk46 o0 hI hl h
def b_Md_choose_106 (L : La) (k7 : Nat → Int32 → Int32 → Mem → Option Mem) (k46 : Nat → Int32 → Int32 → Int32 → Int32 → Int32 → Mem → Option Mem) (i0 : Nat) (x1 : Int32) (x2 : Int32) (x3 : Int32) (x4 : Int32) (x5 : Int32) (x6 : Int32) (F : Mem) : Option Mem :=
  b_Md_choose_107 L k7 k46 i0 x1 x2 x3 x4 x5 x6 (0 : Int32) F
set_option maxHeartbeats 4000000 in
theorem t_Md_choose_106 (hC : Cx X L p s m args meth c cc_Md_choose 8 w_Md_choose R_Md none) {k7 : Nat → Int32 → Int32 → Mem → Option Mem} {k46 : Nat → Int32 → Int32 → Int32 → Int32 → Int32 → Mem → Option Mem} {out : Mem} (hk7 : ∀ (i0 : Nat) (x1 : Int32) (x2 : Int32) (F : Mem) (H : Heap) (locs : List Loc) (ls : Array Slot), oO L 12 i0 → Iv X L s H locs F → lv_has ls 8 [(0, .ref (mAd X i0)), (1, .int x1), (2, .int x2)] → k7 i0 x1 x2 F = some out → W p l e (headSpec w_Md_choose r_Md_choose).room s m args below meth c H locs 0 0 (MQ below (QV X L out) args s 0 0 (AA X L)) (F0 m 7 ls [])) (hk46 : ∀ (i0 : Nat) (x1 : Int32) (x2 : Int32) (x3 : Int32) (x4 : Int32) (x5 : Int32) (F : Mem) (H : Heap) (locs : List Loc) (ls : Array Slot), oO L 12 i0 → Iv X L s H locs F → lv_has ls 8 [(0, .ref (mAd X i0)), (1, .int x1), (2, .int x2), (3, .int x3), (4, .int x4), (5, .int x5)] → k46 i0 x1 x2 x3 x4 x5 F = some out → W p l e (headSpec w_Md_choose r_Md_choose).room s m args below meth c H locs 0 0 (MQ below (QV X L out) args s 0 0 (AA X L)) (F0 m 46 ls [])) {i0 : Nat} {x1 : Int32} {x2 : Int32} {x3 : Int32} {x4 : Int32} {x5 : Int32} {x6 : Int32} {F : Mem} {H : Heap} {locs : List Loc} {ls : Array Slot} (o0 : oO L 12 i0) (hI : Iv X L s H locs F) (hl : lv_has ls 8 [(0, .ref (mAd X i0)), (1, .int x1), (2, .int x2), (3, .int x3), (4, .int x4), (5, .int x5), (6, .int x6)]) (h : b_Md_choose_106 L k7 k46 i0 x1 x2 x3 x4 x5 x6 F = some out) : W p l e (headSpec w_Md_choose r_Md_choose).room s m args below meth c H locs 0 0 (MQ below (QV X L out) args s 0 0 (AA X L)) (F0 m 106 ls []) := by
  unfold b_Md_choose_106 at h
  obtain ⟨S, hK, hT, hW, hr, hlk⟩ := id hC
  have hx := S.1
  have hb := S.2.1
  refine lv_iconst (v := 0) hx hb d_Md_choose_106 rfl ?_
  exact t_Md_choose_107 hC hk7 hk46 o0 hI hl h
def b_Md_choose_46 (L : La) (k7 : Nat → Int32 → Int32 → Mem → Option Mem) (k46 : Nat → Int32 → Int32 → Int32 → Int32 → Int32 → Mem → Option Mem) (i0 : Nat) (x1 : Int32) (x2 : Int32) (x3 : Int32) (x4 : Int32) (x5 : Int32) (F : Mem) : Option Mem :=
  if x5 < 0 then
    if inb (((40 : Int32) * x1) + x2) (mLn L (mRf L i0 33)) ∨ ¬ (mRf L i0 33) < mNc L then none else
    lt' (u2 F (mRf L i0 33) (((40 : Int32) * x1) + x2).toNatClampNeg x4) fun F3 =>
    k7 i0 x1 (x2 + (-1 : Int32)) F3
  else
    if (x2 + (1 : Int32)) = (F i0 28) then
      b_Md_choose_102 L k7 k46 i0 x1 x2 x3 x4 x5 (((16 : Int32) * x1) + x5) F
    else
      if inb (((16 : Int32) * x1) + x5) (mGl L (mRf L i0 25)) then none else
      if x3 < (mGa L F (mRf L i0 25) (((16 : Int32) * x1) + x5).toNatClampNeg) then
        b_Md_choose_106 L k7 k46 i0 x1 x2 x3 x4 x5 (((16 : Int32) * x1) + x5) F
      else
        if inb (((16 : Int32) * x1) + x5) (mGl L (mRf L i0 25)) then none else
        if inb (((16 : Int32) * x1) + x5) (mGl L (mRf L i0 24)) then none else
        if ((mGa L F (mRf L i0 25) (((16 : Int32) * x1) + x5).toNatClampNeg) + (jshl (1 : Int32) (mGa L F (mRf L i0 24) (((16 : Int32) * x1) + x5).toNatClampNeg))) ≤ x3 then
          b_Md_choose_106 L k7 k46 i0 x1 x2 x3 x4 x5 (((16 : Int32) * x1) + x5) F
        else
          b_Md_choose_102 L k7 k46 i0 x1 x2 x3 x4 x5 (((16 : Int32) * x1) + x5) F
set_option maxHeartbeats 4000000 in
theorem t_Md_choose_46 (hC : Cx X L p s m args meth c cc_Md_choose 8 w_Md_choose R_Md none) {k7 : Nat → Int32 → Int32 → Mem → Option Mem} {k46 : Nat → Int32 → Int32 → Int32 → Int32 → Int32 → Mem → Option Mem} {out : Mem} (hk7 : ∀ (i0 : Nat) (x1 : Int32) (x2 : Int32) (F : Mem) (H : Heap) (locs : List Loc) (ls : Array Slot), oO L 12 i0 → Iv X L s H locs F → lv_has ls 8 [(0, .ref (mAd X i0)), (1, .int x1), (2, .int x2)] → k7 i0 x1 x2 F = some out → W p l e (headSpec w_Md_choose r_Md_choose).room s m args below meth c H locs 0 0 (MQ below (QV X L out) args s 0 0 (AA X L)) (F0 m 7 ls [])) (hk46 : ∀ (i0 : Nat) (x1 : Int32) (x2 : Int32) (x3 : Int32) (x4 : Int32) (x5 : Int32) (F : Mem) (H : Heap) (locs : List Loc) (ls : Array Slot), oO L 12 i0 → Iv X L s H locs F → lv_has ls 8 [(0, .ref (mAd X i0)), (1, .int x1), (2, .int x2), (3, .int x3), (4, .int x4), (5, .int x5)] → k46 i0 x1 x2 x3 x4 x5 F = some out → W p l e (headSpec w_Md_choose r_Md_choose).room s m args below meth c H locs 0 0 (MQ below (QV X L out) args s 0 0 (AA X L)) (F0 m 46 ls [])) {i0 : Nat} {x1 : Int32} {x2 : Int32} {x3 : Int32} {x4 : Int32} {x5 : Int32} {F : Mem} {H : Heap} {locs : List Loc} {ls : Array Slot} (o0 : oO L 12 i0) (hI : Iv X L s H locs F) (hl : lv_has ls 8 [(0, .ref (mAd X i0)), (1, .int x1), (2, .int x2), (3, .int x3), (4, .int x4), (5, .int x5)]) (h : b_Md_choose_46 L k7 k46 i0 x1 x2 x3 x4 x5 F = some out) : W p l e (headSpec w_Md_choose r_Md_choose).room s m args below meth c H locs 0 0 (MQ below (QV X L out) args s 0 0 (AA X L)) (F0 m 46 ls []) := by
  unfold b_Md_choose_46 at h
  obtain ⟨S, hK, hT, hW, hr, hlk⟩ := id hC
  have hx := S.1
  have hb := S.2.1
  refine lv_iload hx hb d_Md_choose_46 (lv_at hl 5 rfl) ?_
  refine lv_if_lt (tgt := 150) hx hb d_Md_choose_48 rfl (fun hc => ?_) (fun hc => ?_)
  · replace h := (if_pos hc).symm.trans h
    refine lv_aload_n hx hb d_Md_choose_150 rfl (lv_at hl 0 rfl) ?_
    have p1 := wt_a hW o0 33 rfl (by decide) (by decide)
    refine w_getR (T := T_Md) S hK hI o0 rfl hin_Md 33 (index := 65) (by decide) lf_Md_65 d_Md_choose_151 ?_
    refine lv_bipush (v := 40) hx hb d_Md_choose_154 (by decide) ?_
    refine lv_iload_n hx hb d_Md_choose_156 rfl (lv_at hl 1 rfl) ?_
    refine lv_imul hx hb d_Md_choose_157 ?_
    refine lv_iload_n hx hb d_Md_choose_158 rfl (lv_at hl 2 rfl) ?_
    refine lv_iadd hx hb d_Md_choose_159 ?_
    refine lv_iload hx hb d_Md_choose_160 (lv_at hl 4 rfl) ?_
    obtain ⟨z2, h⟩ := un_if h
    refine w_iast S hK hI p1 z2 d_Md_choose_162 (fun H locs F3 e4 hI => ?_)
    replace h := un_lt h _ e4
    refine lv_iinc (k := 2) (v := x2 + (-1 : Int32)) (lv' := [(2, .int (x2 + (-1 : Int32))), (0, .ref (mAd X i0)), (1, .int x1), (3, .int x3), (4, .int x4), (5, .int x5)]) hx hb d_Md_choose_163 hl rfl rfl (by decide) rfl (fun ls hl => ?_)
    refine lv_goto (tgt := 7) hx hb d_Md_choose_166 rfl ?_
    exact hk7 _ _ _ _ _ _ _ o0 hI (lv_sub hl [1, 2, 0] rfl) h
  · replace h := (if_neg hc).symm.trans h
    refine lv_bipush (v := 16) hx hb d_Md_choose_51 (by decide) ?_
    refine lv_iload_n hx hb d_Md_choose_53 rfl (lv_at hl 1 rfl) ?_
    refine lv_imul hx hb d_Md_choose_54 ?_
    refine lv_iload hx hb d_Md_choose_55 (lv_at hl 5 rfl) ?_
    refine lv_iadd hx hb d_Md_choose_57 ?_
    refine lv_istore (lv' := [(6, .int (((16 : Int32) * x1) + x5)), (0, .ref (mAd X i0)), (1, .int x1), (2, .int x2), (3, .int x3), (4, .int x4), (5, .int x5)]) hx hb d_Md_choose_58 hl (by decide) rfl (fun ls hl => ?_)
    refine lv_iload_n hx hb d_Md_choose_60 rfl (lv_at hl 3 rfl) ?_
    refine lv_iconst (v := 1) hx hb d_Md_choose_61 rfl ?_
    refine lv_iadd hx hb d_Md_choose_62 ?_
    refine lv_aload_n hx hb d_Md_choose_63 rfl (lv_at hl 1 rfl) ?_
    refine w_getI (T := T_Md) S hK hI o0 rfl hin_Md 28 (index := 178) (by decide) lf_Md_178 d_Md_choose_64 ?_
    refine lv_icmp_eq (tgt := 102) hx hb d_Md_choose_67 rfl (fun hc => ?_) (fun hc => ?_)
    · replace h := (if_pos hc).symm.trans h
      exact t_Md_choose_102 hC hk7 hk46 o0 hI (lv_sub hl [1, 2, 3, 4, 5, 6, 0] rfl) h
    · replace h := (if_neg hc).symm.trans h
      refine lv_aload_n hx hb d_Md_choose_70 rfl (lv_at hl 1 rfl) ?_
      have p5 := wt_a hW o0 25 rfl (by decide) (by decide)
      refine w_getR (T := T_Md) S hK hI o0 rfl hin_Md 25 (index := 44) (by decide) lf_Md_44 d_Md_choose_71 ?_
      refine lv_iload hx hb d_Md_choose_74 (lv_at hl 0 rfl) ?_
      obtain ⟨z6, h⟩ := un_if h
      refine w_iald S hK hI hT p5 z6 d_Md_choose_76 ?_
      refine lv_iload_n hx hb d_Md_choose_77 rfl (lv_at hl 4 rfl) ?_
      refine lv_icmp_gt (tgt := 106) hx hb d_Md_choose_78 rfl (fun hc => ?_) (fun hc => ?_)
      · replace h := (if_pos hc).symm.trans h
        exact t_Md_choose_106 hC hk7 hk46 o0 hI (lv_sub hl [1, 2, 3, 4, 5, 6, 0] rfl) h
      · replace h := (if_neg hc).symm.trans h
        refine lv_iload_n hx hb d_Md_choose_81 rfl (lv_at hl 4 rfl) ?_
        refine lv_aload_n hx hb d_Md_choose_82 rfl (lv_at hl 1 rfl) ?_
        have p7 := wt_a hW o0 25 rfl (by decide) (by decide)
        refine w_getR (T := T_Md) S hK hI o0 rfl hin_Md 25 (index := 44) (by decide) lf_Md_44 d_Md_choose_83 ?_
        refine lv_iload hx hb d_Md_choose_86 (lv_at hl 0 rfl) ?_
        obtain ⟨z8, h⟩ := un_if h
        refine w_iald S hK hI hT p7 z8 d_Md_choose_88 ?_
        refine lv_iconst (v := 1) hx hb d_Md_choose_89 rfl ?_
        refine lv_aload_n hx hb d_Md_choose_90 rfl (lv_at hl 1 rfl) ?_
        have p9 := wt_a hW o0 24 rfl (by decide) (by decide)
        refine w_getR (T := T_Md) S hK hI o0 rfl hin_Md 24 (index := 41) (by decide) lf_Md_41 d_Md_choose_91 ?_
        refine lv_iload hx hb d_Md_choose_94 (lv_at hl 0 rfl) ?_
        obtain ⟨z10, h⟩ := un_if h
        refine w_iald S hK hI hT p9 z10 d_Md_choose_96 ?_
        refine lv_ishl hx hb d_Md_choose_97 ?_
        refine lv_iadd hx hb d_Md_choose_98 ?_
        refine lv_icmp_ge (tgt := 106) hx hb d_Md_choose_99 rfl (fun hc => ?_) (fun hc => ?_)
        · replace h := (if_pos hc).symm.trans h
          exact t_Md_choose_106 hC hk7 hk46 o0 hI (lv_sub hl [1, 2, 3, 4, 5, 6, 0] rfl) h
        · replace h := (if_neg hc).symm.trans h
          exact t_Md_choose_102 hC hk7 hk46 o0 hI (lv_sub hl [1, 2, 3, 4, 5, 6, 0] rfl) h
def f_Md_choose_46 (L : La) (k7 : Nat → Int32 → Int32 → Mem → Option Mem) : Nat → Nat → Int32 → Int32 → Int32 → Int32 → Int32 → Mem → Option Mem
  | 0 => fun _ _ _ _ _ _ _ => none
  | n + 1 => b_Md_choose_46 L k7 (f_Md_choose_46 L k7 n)
theorem tf_Md_choose_46 (hC : Cx X L p s m args meth c cc_Md_choose 8 w_Md_choose R_Md none) {k7 : Nat → Int32 → Int32 → Mem → Option Mem} {out : Mem} (hk7 : ∀ (i0 : Nat) (x1 : Int32) (x2 : Int32) (F : Mem) (H : Heap) (locs : List Loc) (ls : Array Slot), oO L 12 i0 → Iv X L s H locs F → lv_has ls 8 [(0, .ref (mAd X i0)), (1, .int x1), (2, .int x2)] → k7 i0 x1 x2 F = some out → W p l e (headSpec w_Md_choose r_Md_choose).room s m args below meth c H locs 0 0 (MQ below (QV X L out) args s 0 0 (AA X L)) (F0 m 7 ls [])) (n : Nat) : ∀ (i0 : Nat) (x1 : Int32) (x2 : Int32) (x3 : Int32) (x4 : Int32) (x5 : Int32) (F : Mem) (H : Heap) (locs : List Loc) (ls : Array Slot), oO L 12 i0 → Iv X L s H locs F → lv_has ls 8 [(0, .ref (mAd X i0)), (1, .int x1), (2, .int x2), (3, .int x3), (4, .int x4), (5, .int x5)] → f_Md_choose_46 L k7 n i0 x1 x2 x3 x4 x5 F = some out → W p l e (headSpec w_Md_choose r_Md_choose).room s m args below meth c H locs 0 0 (MQ below (QV X L out) args s 0 0 (AA X L)) (F0 m 46 ls []) := by
  induction n with
  | zero => intro i0 x1 x2 x3 x4 x5 F H locs ls o0 hI hl h; cases h
  | succ n ih => intro i0 x1 x2 x3 x4 x5 F H locs ls o0 hI hl h; exact t_Md_choose_46 hC hk7 ih o0 hI hl h
def b_Md_choose_38 (L : La) (k7 : Nat → Int32 → Int32 → Mem → Option Mem) (i0 : Nat) (x1 : Int32) (x2 : Int32) (y0 : Int32) (F : Mem) : Option Mem :=
  f_Md_choose_46 L k7 mFU i0 x1 x2 y0 (-1 : Int32) (15 : Int32) F
set_option maxHeartbeats 4000000 in
theorem t_Md_choose_38 (hC : Cx X L p s m args meth c cc_Md_choose 8 w_Md_choose R_Md none) {k7 : Nat → Int32 → Int32 → Mem → Option Mem} {out : Mem} (hk7 : ∀ (i0 : Nat) (x1 : Int32) (x2 : Int32) (F : Mem) (H : Heap) (locs : List Loc) (ls : Array Slot), oO L 12 i0 → Iv X L s H locs F → lv_has ls 8 [(0, .ref (mAd X i0)), (1, .int x1), (2, .int x2)] → k7 i0 x1 x2 F = some out → W p l e (headSpec w_Md_choose r_Md_choose).room s m args below meth c H locs 0 0 (MQ below (QV X L out) args s 0 0 (AA X L)) (F0 m 7 ls [])) {i0 : Nat} {x1 : Int32} {x2 : Int32} {y0 : Int32} {F : Mem} {H : Heap} {locs : List Loc} {ls : Array Slot} (o0 : oO L 12 i0) (hI : Iv X L s H locs F) (hl : lv_has ls 8 [(0, .ref (mAd X i0)), (1, .int x1), (2, .int x2)]) (h : b_Md_choose_38 L k7 i0 x1 x2 y0 F = some out) : W p l e (headSpec w_Md_choose r_Md_choose).room s m args below meth c H locs 0 0 (MQ below (QV X L out) args s 0 0 (AA X L)) (F0 m 38 ls [.int y0]) := by
  unfold b_Md_choose_38 at h
  obtain ⟨S, hK, hT, hW, hr, hlk⟩ := id hC
  have hx := S.1
  have hb := S.2.1
  refine lv_istore_n (lv' := [(3, .int y0), (0, .ref (mAd X i0)), (1, .int x1), (2, .int x2)]) hx hb d_Md_choose_38 rfl hl (by decide) rfl (fun ls hl => ?_)
  refine lv_iconst (v := -1) hx hb d_Md_choose_39 rfl ?_
  refine lv_istore (lv' := [(4, .int (-1 : Int32)), (3, .int y0), (0, .ref (mAd X i0)), (1, .int x1), (2, .int x2)]) hx hb d_Md_choose_40 hl (by decide) rfl (fun ls hl => ?_)
  refine lv_bipush (v := 15) hx hb d_Md_choose_42 (by decide) ?_
  refine lv_istore (lv' := [(5, .int (15 : Int32)), (4, .int (-1 : Int32)), (3, .int y0), (0, .ref (mAd X i0)), (1, .int x1), (2, .int x2)]) hx hb d_Md_choose_44 hl (by decide) rfl (fun ls hl => ?_)
  exact tf_Md_choose_46 hC hk7 mFU _ _ _ _ _ _ _ _ _ _ o0 hI (lv_sub hl [3, 4, 5, 2, 1, 0] rfl) h
def b_Md_choose_7 (L : La) (k7 : Nat → Int32 → Int32 → Mem → Option Mem) (i0 : Nat) (x1 : Int32) (x2 : Int32) (F : Mem) : Option Mem :=
  if x2 < 0 then
    some F
  else
    if (F i0 28) ≤ (x2 + (1 : Int32)) then
      b_Md_choose_38 L k7 i0 x1 x2 (0 : Int32) F
    else
      if inb ((((40 : Int32) * x1) + x2) + (1 : Int32)) (mGl L (mRf L i0 33)) then none else
      b_Md_choose_38 L k7 i0 x1 x2 (mGa L F (mRf L i0 33) ((((40 : Int32) * x1) + x2) + (1 : Int32)).toNatClampNeg) F
set_option maxHeartbeats 4000000 in
theorem t_Md_choose_7 (hC : Cx X L p s m args meth c cc_Md_choose 8 w_Md_choose R_Md none) {k7 : Nat → Int32 → Int32 → Mem → Option Mem} {out : Mem} (hk7 : ∀ (i0 : Nat) (x1 : Int32) (x2 : Int32) (F : Mem) (H : Heap) (locs : List Loc) (ls : Array Slot), oO L 12 i0 → Iv X L s H locs F → lv_has ls 8 [(0, .ref (mAd X i0)), (1, .int x1), (2, .int x2)] → k7 i0 x1 x2 F = some out → W p l e (headSpec w_Md_choose r_Md_choose).room s m args below meth c H locs 0 0 (MQ below (QV X L out) args s 0 0 (AA X L)) (F0 m 7 ls [])) {i0 : Nat} {x1 : Int32} {x2 : Int32} {F : Mem} {H : Heap} {locs : List Loc} {ls : Array Slot} (o0 : oO L 12 i0) (hI : Iv X L s H locs F) (hl : lv_has ls 8 [(0, .ref (mAd X i0)), (1, .int x1), (2, .int x2)]) (h : b_Md_choose_7 L k7 i0 x1 x2 F = some out) : W p l e (headSpec w_Md_choose r_Md_choose).room s m args below meth c H locs 0 0 (MQ below (QV X L out) args s 0 0 (AA X L)) (F0 m 7 ls []) := by
  unfold b_Md_choose_7 at h
  obtain ⟨S, hK, hT, hW, hr, hlk⟩ := id hC
  have hx := S.1
  have hb := S.2.1
  refine lv_iload_n hx hb d_Md_choose_7 rfl (lv_at hl 2 rfl) ?_
  refine lv_if_lt (tgt := 169) hx hb d_Md_choose_8 rfl (fun hc => ?_) (fun hc => ?_)
  · replace h := (if_pos hc).symm.trans h
    exact w_vret S hK hr hlk hI d_Md_choose_169 h
  · replace h := (if_neg hc).symm.trans h
    refine lv_iload_n hx hb d_Md_choose_11 rfl (lv_at hl 2 rfl) ?_
    refine lv_iconst (v := 1) hx hb d_Md_choose_12 rfl ?_
    refine lv_iadd hx hb d_Md_choose_13 ?_
    refine lv_aload_n hx hb d_Md_choose_14 rfl (lv_at hl 0 rfl) ?_
    refine w_getI (T := T_Md) S hK hI o0 rfl hin_Md 28 (index := 178) (by decide) lf_Md_178 d_Md_choose_15 ?_
    refine lv_icmp_ge (tgt := 37) hx hb d_Md_choose_18 rfl (fun hc => ?_) (fun hc => ?_)
    · replace h := (if_pos hc).symm.trans h
      refine lv_iconst (v := 0) hx hb d_Md_choose_37 rfl ?_
      exact t_Md_choose_38 hC hk7 o0 hI hl h
    · replace h := (if_neg hc).symm.trans h
      refine lv_aload_n hx hb d_Md_choose_21 rfl (lv_at hl 0 rfl) ?_
      have p1 := wt_a hW o0 33 rfl (by decide) (by decide)
      refine w_getR (T := T_Md) S hK hI o0 rfl hin_Md 33 (index := 65) (by decide) lf_Md_65 d_Md_choose_22 ?_
      refine lv_bipush (v := 40) hx hb d_Md_choose_25 (by decide) ?_
      refine lv_iload_n hx hb d_Md_choose_27 rfl (lv_at hl 1 rfl) ?_
      refine lv_imul hx hb d_Md_choose_28 ?_
      refine lv_iload_n hx hb d_Md_choose_29 rfl (lv_at hl 2 rfl) ?_
      refine lv_iadd hx hb d_Md_choose_30 ?_
      refine lv_iconst (v := 1) hx hb d_Md_choose_31 rfl ?_
      refine lv_iadd hx hb d_Md_choose_32 ?_
      obtain ⟨z2, h⟩ := un_if h
      refine w_iald S hK hI hT p1 z2 d_Md_choose_33 ?_
      refine lv_goto (tgt := 38) hx hb d_Md_choose_34 rfl ?_
      exact t_Md_choose_38 hC hk7 o0 hI hl h
def f_Md_choose_7 (L : La)  : Nat → Nat → Int32 → Int32 → Mem → Option Mem
  | 0 => fun _ _ _ _ => none
  | n + 1 => b_Md_choose_7 L (f_Md_choose_7 L  n)
theorem tf_Md_choose_7 (hC : Cx X L p s m args meth c cc_Md_choose 8 w_Md_choose R_Md none)  {out : Mem}  (n : Nat) : ∀ (i0 : Nat) (x1 : Int32) (x2 : Int32) (F : Mem) (H : Heap) (locs : List Loc) (ls : Array Slot), oO L 12 i0 → Iv X L s H locs F → lv_has ls 8 [(0, .ref (mAd X i0)), (1, .int x1), (2, .int x2)] → f_Md_choose_7 L  n i0 x1 x2 F = some out → W p l e (headSpec w_Md_choose r_Md_choose).room s m args below meth c H locs 0 0 (MQ below (QV X L out) args s 0 0 (AA X L)) (F0 m 7 ls []) := by
  induction n with
  | zero => intro i0 x1 x2 F H locs ls o0 hI hl h; cases h
  | succ n ih => intro i0 x1 x2 F H locs ls o0 hI hl h; exact t_Md_choose_7 hC ih o0 hI hl h
def f_Md_choose (L : La) (i0 : Nat) (x1 : Int32) (F : Mem) : Option Mem :=
  f_Md_choose_7 L  mFU i0 x1 ((F i0 28) - (1 : Int32)) F
set_option maxHeartbeats 4000000 in
theorem c_Md_choose (l : Launch) {X : Xs} {L : La} (hW : WT L) {out : Mem} {i0 : Nat} {x1 : Int32} {F : Mem} (o0 : oO L 12 i0) (h : f_Md_choose L i0 x1 F = some out) : Met l y_Md_choose w_Md_choose r_Md_choose (va_Pc [.ref (mAd X i0), .int x1] (Pr X L F)) (QV X L out) 0 0 (AA X L) := by
  refine mk_met (by decide) rfl (Nat.le_of_ble_eq_true rfl) hW ?_
  intro p e s m args below meth c ls hC hI hl
  have hl : lv_has ls 8 [(0, .ref (mAd X i0)), (1, .int x1)] := hl
  generalize hHe : s.heap = H at hI ⊢
  generalize ([] : List Loc) = locs at hI ⊢
  unfold f_Md_choose at h
  obtain ⟨S, hK, hT, hW, hr, hlk⟩ := id hC
  have hx := S.1
  have hb := S.2.1
  refine lv_aload_n hx hb d_Md_choose_0 rfl (lv_at hl 0 rfl) ?_
  refine w_getI (T := T_Md) S hK hI o0 rfl hin_Md 28 (index := 178) (by decide) lf_Md_178 d_Md_choose_1 ?_
  refine lv_iconst (v := 1) hx hb d_Md_choose_4 rfl ?_
  refine lv_isub hx hb d_Md_choose_5 ?_
  refine lv_istore_n (lv' := [(2, .int ((F i0 28) - (1 : Int32))), (0, .ref (mAd X i0)), (1, .int x1)]) hx hb d_Md_choose_6 rfl hl (by decide) rfl (fun ls hl => ?_)
  exact tf_Md_choose_7 hC  mFU _ _ _ _ _ _ _ o0 hI (lv_sub hl [1, 2, 0] rfl) h
end
theorem d_Md_pushStep_0 : decode cc_Md_pushStep 0 = .ok (.bipush (16), 2) := by decide +kernel
theorem d_Md_pushStep_2 : decode cc_Md_pushStep 2 = .ok (.iload_n 1, 1) := by decide +kernel
theorem d_Md_pushStep_3 : decode cc_Md_pushStep 3 = .ok (.imul, 1) := by decide +kernel
theorem d_Md_pushStep_4 : decode cc_Md_pushStep 4 = .ok (.aload_n 0, 1) := by decide +kernel
theorem d_Md_pushStep_5 : decode cc_Md_pushStep 5 = .ok (.getfield 65, 3) := by decide +kernel
theorem d_Md_pushStep_8 : decode cc_Md_pushStep 8 = .ok (.bipush (40), 2) := by decide +kernel
theorem d_Md_pushStep_10 : decode cc_Md_pushStep 10 = .ok (.iload_n 1, 1) := by decide +kernel
theorem d_Md_pushStep_11 : decode cc_Md_pushStep 11 = .ok (.imul, 1) := by decide +kernel
theorem d_Md_pushStep_12 : decode cc_Md_pushStep 12 = .ok (.iload_n 2, 1) := by decide +kernel
theorem d_Md_pushStep_13 : decode cc_Md_pushStep 13 = .ok (.iadd, 1) := by decide +kernel
theorem d_Md_pushStep_14 : decode cc_Md_pushStep 14 = .ok (.iaload, 1) := by decide +kernel
theorem d_Md_pushStep_15 : decode cc_Md_pushStep 15 = .ok (.iadd, 1) := by decide +kernel
theorem d_Md_pushStep_16 : decode cc_Md_pushStep 16 = .ok (.istore_n 3, 1) := by decide +kernel
theorem d_Md_pushStep_17 : decode cc_Md_pushStep 17 = .ok (.aload_n 0, 1) := by decide +kernel
theorem d_Md_pushStep_18 : decode cc_Md_pushStep 18 = .ok (.aload_n 0, 1) := by decide +kernel
theorem d_Md_pushStep_19 : decode cc_Md_pushStep 19 = .ok (.getfield 65, 3) := by decide +kernel
theorem d_Md_pushStep_22 : decode cc_Md_pushStep 22 = .ok (.bipush (40), 2) := by decide +kernel
theorem d_Md_pushStep_24 : decode cc_Md_pushStep 24 = .ok (.iload_n 1, 1) := by decide +kernel
theorem d_Md_pushStep_25 : decode cc_Md_pushStep 25 = .ok (.imul, 1) := by decide +kernel
theorem d_Md_pushStep_26 : decode cc_Md_pushStep 26 = .ok (.iload_n 2, 1) := by decide +kernel
theorem d_Md_pushStep_27 : decode cc_Md_pushStep 27 = .ok (.iadd, 1) := by decide +kernel
theorem d_Md_pushStep_28 : decode cc_Md_pushStep 28 = .ok (.iconst 1, 1) := by decide +kernel
theorem d_Md_pushStep_29 : decode cc_Md_pushStep 29 = .ok (.iadd, 1) := by decide +kernel
theorem d_Md_pushStep_30 : decode cc_Md_pushStep 30 = .ok (.iaload, 1) := by decide +kernel
theorem d_Md_pushStep_31 : decode cc_Md_pushStep 31 = .ok (.aload_n 0, 1) := by decide +kernel
theorem d_Md_pushStep_32 : decode cc_Md_pushStep 32 = .ok (.getfield 44, 3) := by decide +kernel
theorem d_Md_pushStep_35 : decode cc_Md_pushStep 35 = .ok (.iload_n 3, 1) := by decide +kernel
theorem d_Md_pushStep_36 : decode cc_Md_pushStep 36 = .ok (.iaload, 1) := by decide +kernel
theorem d_Md_pushStep_37 : decode cc_Md_pushStep 37 = .ok (.isub, 1) := by decide +kernel
theorem d_Md_pushStep_38 : decode cc_Md_pushStep 38 = .ok (.aload_n 0, 1) := by decide +kernel
theorem d_Md_pushStep_39 : decode cc_Md_pushStep 39 = .ok (.getfield 41, 3) := by decide +kernel
theorem d_Md_pushStep_42 : decode cc_Md_pushStep 42 = .ok (.iload_n 3, 1) := by decide +kernel
theorem d_Md_pushStep_43 : decode cc_Md_pushStep 43 = .ok (.iaload, 1) := by decide +kernel
theorem d_Md_pushStep_44 : decode cc_Md_pushStep 44 = .ok (.invokevirtual 227, 3) := by decide +kernel
theorem d_Md_pushStep_47 : decode cc_Md_pushStep 47 = .ok (.return_, 1) := by decide +kernel
section
variable {p : Program} {l : Launch} {e : Env} {s : State} {m : MethodId} {args : Array Value} {below : List Frame} {meth : Method} {c : Code} {X : Xs} {L : La}
def f_Md_pushStep (L : La) (i0 : Nat) (x1 : Int32) (x2 : Int32) (F : Mem) : Option Mem :=
  if inb (((40 : Int32) * x1) + x2) (mGl L (mRf L i0 33)) then none else
  if inb ((((40 : Int32) * x1) + x2) + (1 : Int32)) (mGl L (mRf L i0 33)) then none else
  if inb (((16 : Int32) * x1) + (mGa L F (mRf L i0 33) (((40 : Int32) * x1) + x2).toNatClampNeg)) (mGl L (mRf L i0 25)) then none else
  if inb (((16 : Int32) * x1) + (mGa L F (mRf L i0 33) (((40 : Int32) * x1) + x2).toNatClampNeg)) (mGl L (mRf L i0 24)) then none else
  (f_Md_push L i0 ((mGa L F (mRf L i0 33) ((((40 : Int32) * x1) + x2) + (1 : Int32)).toNatClampNeg) - (mGa L F (mRf L i0 25) (((16 : Int32) * x1) + (mGa L F (mRf L i0 33) (((40 : Int32) * x1) + x2).toNatClampNeg)).toNatClampNeg)) (mGa L F (mRf L i0 24) (((16 : Int32) * x1) + (mGa L F (mRf L i0 33) (((40 : Int32) * x1) + x2).toNatClampNeg)).toNatClampNeg) F).bind fun F9 =>
  some F9
set_option maxHeartbeats 4000000 in
theorem c_Md_pushStep (l : Launch) {X : Xs} {L : La} (hW : WT L) {out : Mem} {i0 : Nat} {x1 : Int32} {x2 : Int32} {F : Mem} (o0 : oO L 12 i0) (h : f_Md_pushStep L i0 x1 x2 F = some out) : Met l y_Md_pushStep w_Md_pushStep r_Md_pushStep (va_Pc [.ref (mAd X i0), .int x1, .int x2] (Pr X L F)) (QV X L out) 0 0 (AA X L) := by
  refine mk_met (by decide) rfl (Nat.le_of_ble_eq_true rfl) hW ?_
  intro p e s m args below meth c ls hC hI hl
  have hl : lv_has ls 4 [(0, .ref (mAd X i0)), (1, .int x1), (2, .int x2)] := hl
  generalize hHe : s.heap = H at hI ⊢
  generalize ([] : List Loc) = locs at hI ⊢
  unfold f_Md_pushStep at h
  obtain ⟨S, hK, hT, hW, hr, hlk⟩ := id hC
  have hx := S.1
  have hb := S.2.1
  refine lv_bipush (v := 16) hx hb d_Md_pushStep_0 (by decide) ?_
  refine lv_iload_n hx hb d_Md_pushStep_2 rfl (lv_at hl 1 rfl) ?_
  refine lv_imul hx hb d_Md_pushStep_3 ?_
  refine lv_aload_n hx hb d_Md_pushStep_4 rfl (lv_at hl 0 rfl) ?_
  have p1 := wt_a hW o0 33 rfl (by decide) (by decide)
  refine w_getR (T := T_Md) S hK hI o0 rfl hin_Md 33 (index := 65) (by decide) lf_Md_65 d_Md_pushStep_5 ?_
  refine lv_bipush (v := 40) hx hb d_Md_pushStep_8 (by decide) ?_
  refine lv_iload_n hx hb d_Md_pushStep_10 rfl (lv_at hl 1 rfl) ?_
  refine lv_imul hx hb d_Md_pushStep_11 ?_
  refine lv_iload_n hx hb d_Md_pushStep_12 rfl (lv_at hl 2 rfl) ?_
  refine lv_iadd hx hb d_Md_pushStep_13 ?_
  obtain ⟨z2, h⟩ := un_if h
  refine w_iald S hK hI hT p1 z2 d_Md_pushStep_14 ?_
  refine lv_iadd hx hb d_Md_pushStep_15 ?_
  refine lv_istore_n (lv' := [(3, .int (((16 : Int32) * x1) + (mGa L F (mRf L i0 33) (((40 : Int32) * x1) + x2).toNatClampNeg))), (0, .ref (mAd X i0)), (1, .int x1), (2, .int x2)]) hx hb d_Md_pushStep_16 rfl hl (by decide) rfl (fun ls hl => ?_)
  refine lv_aload_n hx hb d_Md_pushStep_17 rfl (lv_at hl 1 rfl) ?_
  refine lv_aload_n hx hb d_Md_pushStep_18 rfl (lv_at hl 1 rfl) ?_
  have p3 := wt_a hW o0 33 rfl (by decide) (by decide)
  refine w_getR (T := T_Md) S hK hI o0 rfl hin_Md 33 (index := 65) (by decide) lf_Md_65 d_Md_pushStep_19 ?_
  refine lv_bipush (v := 40) hx hb d_Md_pushStep_22 (by decide) ?_
  refine lv_iload_n hx hb d_Md_pushStep_24 rfl (lv_at hl 2 rfl) ?_
  refine lv_imul hx hb d_Md_pushStep_25 ?_
  refine lv_iload_n hx hb d_Md_pushStep_26 rfl (lv_at hl 3 rfl) ?_
  refine lv_iadd hx hb d_Md_pushStep_27 ?_
  refine lv_iconst (v := 1) hx hb d_Md_pushStep_28 rfl ?_
  refine lv_iadd hx hb d_Md_pushStep_29 ?_
  obtain ⟨z4, h⟩ := un_if h
  refine w_iald S hK hI hT p3 z4 d_Md_pushStep_30 ?_
  refine lv_aload_n hx hb d_Md_pushStep_31 rfl (lv_at hl 1 rfl) ?_
  have p5 := wt_a hW o0 25 rfl (by decide) (by decide)
  refine w_getR (T := T_Md) S hK hI o0 rfl hin_Md 25 (index := 44) (by decide) lf_Md_44 d_Md_pushStep_32 ?_
  refine lv_iload_n hx hb d_Md_pushStep_35 rfl (lv_at hl 0 rfl) ?_
  obtain ⟨z6, h⟩ := un_if h
  refine w_iald S hK hI hT p5 z6 d_Md_pushStep_36 ?_
  refine lv_isub hx hb d_Md_pushStep_37 ?_
  refine lv_aload_n hx hb d_Md_pushStep_38 rfl (lv_at hl 1 rfl) ?_
  have p7 := wt_a hW o0 24 rfl (by decide) (by decide)
  refine w_getR (T := T_Md) S hK hI o0 rfl hin_Md 24 (index := 41) (by decide) lf_Md_41 d_Md_pushStep_39 ?_
  refine lv_iload_n hx hb d_Md_pushStep_42 rfl (lv_at hl 0 rfl) ?_
  obtain ⟨z8, h⟩ := un_if h
  refine w_iald S hK hI hT p7 z8 d_Md_pushStep_43 ?_
  obtain ⟨F9, e10, h⟩ := un_bi h
  refine w_callVv (As := [.int ((mGa L F (mRf L i0 33) ((((40 : Int32) * x1) + x2) + (1 : Int32)).toNatClampNeg) - (mGa L F (mRf L i0 25) (((16 : Int32) * x1) + (mGa L F (mRf L i0 33) (((40 : Int32) * x1) + x2).toNatClampNeg)).toNatClampNeg)), .int (mGa L F (mRf L i0 24) (((16 : Int32) * x1) + (mGa L F (mRf L i0 33) (((40 : Int32) * x1) + x2).toNatClampNeg)).toNatClampNeg)]) (rest := []) S hK hI hT (c_Md_push l hW o0 e10) (cwV 2 S.2.2.2.2 (gd_V lc_Md_push lm_Md_227 li_Md_push ls_Md_push ln_Md) rfl rfl rfl hd_Md_push ⟨Nat.le_of_ble_eq_true rfl, Nat.le_of_ble_eq_true rfl⟩) o0 rfl (by decide) rfl rfl hl.1 (Nat.le_of_ble_eq_true rfl) d_Md_pushStep_44 ⟨Nat.zero_le _, Nat.zero_le _⟩ (fun H locs hI => ?_)
  exact w_vret S hK hr hlk hI d_Md_pushStep_47 h
end
theorem d_Md_addSequences_0 : decode cc_Md_addSequences 0 = .ok (.aload_n 0, 1) := by decide +kernel
theorem d_Md_addSequences_1 : decode cc_Md_addSequences 1 = .ok (.aload_n 0, 1) := by decide +kernel
theorem d_Md_addSequences_2 : decode cc_Md_addSequences 2 = .ok (.getfield 178, 3) := by decide +kernel
theorem d_Md_addSequences_5 : decode cc_Md_addSequences 5 = .ok (.invokevirtual 215, 3) := by decide +kernel
theorem d_Md_addSequences_8 : decode cc_Md_addSequences 8 = .ok (.aload_n 0, 1) := by decide +kernel
theorem d_Md_addSequences_9 : decode cc_Md_addSequences 9 = .ok (.getfield 178, 3) := by decide +kernel
theorem d_Md_addSequences_12 : decode cc_Md_addSequences 12 = .ok (.ifCond .ne (4), 3) := by decide +kernel
theorem d_Md_addSequences_15 : decode cc_Md_addSequences 15 = .ok (.return_, 1) := by decide +kernel
theorem d_Md_addSequences_16 : decode cc_Md_addSequences 16 = .ok (.aload_n 0, 1) := by decide +kernel
theorem d_Md_addSequences_17 : decode cc_Md_addSequences 17 = .ok (.iconst 0, 1) := by decide +kernel
theorem d_Md_addSequences_18 : decode cc_Md_addSequences 18 = .ok (.invokevirtual 215, 3) := by decide +kernel
theorem d_Md_addSequences_21 : decode cc_Md_addSequences 21 = .ok (.iconst 0, 1) := by decide +kernel
theorem d_Md_addSequences_22 : decode cc_Md_addSequences 22 = .ok (.istore_n 1, 1) := by decide +kernel
theorem d_Md_addSequences_23 : decode cc_Md_addSequences 23 = .ok (.iload_n 1, 1) := by decide +kernel
theorem d_Md_addSequences_24 : decode cc_Md_addSequences 24 = .ok (.iconst 3, 1) := by decide +kernel
theorem d_Md_addSequences_25 : decode cc_Md_addSequences 25 = .ok (.if_icmp .ge (14), 3) := by decide +kernel
theorem d_Md_addSequences_28 : decode cc_Md_addSequences 28 = .ok (.aload_n 0, 1) := by decide +kernel
theorem d_Md_addSequences_29 : decode cc_Md_addSequences 29 = .ok (.iload_n 1, 1) := by decide +kernel
theorem d_Md_addSequences_30 : decode cc_Md_addSequences 30 = .ok (.invokevirtual 200, 3) := by decide +kernel
theorem d_Md_addSequences_33 : decode cc_Md_addSequences 33 = .ok (.iinc 1 (1), 3) := by decide +kernel
theorem d_Md_addSequences_36 : decode cc_Md_addSequences 36 = .ok (.goto (-13), 3) := by decide +kernel
theorem d_Md_addSequences_39 : decode cc_Md_addSequences 39 = .ok (.iconst 0, 1) := by decide +kernel
theorem d_Md_addSequences_40 : decode cc_Md_addSequences 40 = .ok (.istore_n 1, 1) := by decide +kernel
theorem d_Md_addSequences_41 : decode cc_Md_addSequences 41 = .ok (.iload_n 1, 1) := by decide +kernel
theorem d_Md_addSequences_42 : decode cc_Md_addSequences 42 = .ok (.aload_n 0, 1) := by decide +kernel
theorem d_Md_addSequences_43 : decode cc_Md_addSequences 43 = .ok (.getfield 178, 3) := by decide +kernel
theorem d_Md_addSequences_46 : decode cc_Md_addSequences 46 = .ok (.if_icmp .ge (118), 3) := by decide +kernel
theorem d_Md_addSequences_49 : decode cc_Md_addSequences 49 = .ok (.iconst 0, 1) := by decide +kernel
theorem d_Md_addSequences_50 : decode cc_Md_addSequences 50 = .ok (.istore_n 2, 1) := by decide +kernel
theorem d_Md_addSequences_51 : decode cc_Md_addSequences 51 = .ok (.aload_n 0, 1) := by decide +kernel
theorem d_Md_addSequences_52 : decode cc_Md_addSequences 52 = .ok (.getfield 56, 3) := by decide +kernel
theorem d_Md_addSequences_55 : decode cc_Md_addSequences 55 = .ok (.iload_n 1, 1) := by decide +kernel
theorem d_Md_addSequences_56 : decode cc_Md_addSequences 56 = .ok (.iaload, 1) := by decide +kernel
theorem d_Md_addSequences_57 : decode cc_Md_addSequences 57 = .ok (.iload_n 2, 1) := by decide +kernel
theorem d_Md_addSequences_58 : decode cc_Md_addSequences 58 = .ok (.iconst 1, 1) := by decide +kernel
theorem d_Md_addSequences_59 : decode cc_Md_addSequences 59 = .ok (.iadd, 1) := by decide +kernel
theorem d_Md_addSequences_60 : decode cc_Md_addSequences 60 = .ok (.ishr, 1) := by decide +kernel
theorem d_Md_addSequences_61 : decode cc_Md_addSequences 61 = .ok (.ifCond .le (9), 3) := by decide +kernel
theorem d_Md_addSequences_64 : decode cc_Md_addSequences 64 = .ok (.iinc 2 (1), 3) := by decide +kernel
theorem d_Md_addSequences_67 : decode cc_Md_addSequences 67 = .ok (.goto (-16), 3) := by decide +kernel
theorem d_Md_addSequences_70 : decode cc_Md_addSequences 70 = .ok (.aload_n 0, 1) := by decide +kernel
theorem d_Md_addSequences_71 : decode cc_Md_addSequences 71 = .ok (.getfield 62, 3) := by decide +kernel
theorem d_Md_addSequences_74 : decode cc_Md_addSequences 74 = .ok (.bipush (40), 2) := by decide +kernel
theorem d_Md_addSequences_76 : decode cc_Md_addSequences 76 = .ok (.iload_n 1, 1) := by decide +kernel
theorem d_Md_addSequences_77 : decode cc_Md_addSequences 77 = .ok (.iadd, 1) := by decide +kernel
theorem d_Md_addSequences_78 : decode cc_Md_addSequences 78 = .ok (.iload_n 2, 1) := by decide +kernel
theorem d_Md_addSequences_79 : decode cc_Md_addSequences 79 = .ok (.iastore, 1) := by decide +kernel
theorem d_Md_addSequences_80 : decode cc_Md_addSequences 80 = .ok (.iconst 0, 1) := by decide +kernel
theorem d_Md_addSequences_81 : decode cc_Md_addSequences 81 = .ok (.istore_n 3, 1) := by decide +kernel
theorem d_Md_addSequences_82 : decode cc_Md_addSequences 82 = .ok (.iload_n 3, 1) := by decide +kernel
theorem d_Md_addSequences_83 : decode cc_Md_addSequences 83 = .ok (.bipush (12), 2) := by decide +kernel
theorem d_Md_addSequences_85 : decode cc_Md_addSequences 85 = .ok (.if_icmp .ge (73), 3) := by decide +kernel
theorem d_Md_addSequences_88 : decode cc_Md_addSequences 88 = .ok (.aload_n 0, 1) := by decide +kernel
theorem d_Md_addSequences_89 : decode cc_Md_addSequences 89 = .ok (.getfield 62, 3) := by decide +kernel
theorem d_Md_addSequences_92 : decode cc_Md_addSequences 92 = .ok (.bipush (80), 2) := by decide +kernel
theorem d_Md_addSequences_94 : decode cc_Md_addSequences 94 = .ok (.iload_n 1, 1) := by decide +kernel
theorem d_Md_addSequences_95 : decode cc_Md_addSequences 95 = .ok (.iadd, 1) := by decide +kernel
theorem d_Md_addSequences_96 : decode cc_Md_addSequences 96 = .ok (.iload_n 3, 1) := by decide +kernel
theorem d_Md_addSequences_97 : decode cc_Md_addSequences 97 = .ok (.invokestatic 185, 3) := by decide +kernel
theorem d_Md_addSequences_100 : decode cc_Md_addSequences 100 = .ok (.aload_n 0, 1) := by decide +kernel
theorem d_Md_addSequences_101 : decode cc_Md_addSequences 101 = .ok (.getfield 59, 3) := by decide +kernel
theorem d_Md_addSequences_104 : decode cc_Md_addSequences 104 = .ok (.iload_n 1, 1) := by decide +kernel
theorem d_Md_addSequences_105 : decode cc_Md_addSequences 105 = .ok (.iaload, 1) := by decide +kernel
theorem d_Md_addSequences_106 : decode cc_Md_addSequences 106 = .ok (.if_icmp .gt (7), 3) := by decide +kernel
theorem d_Md_addSequences_109 : decode cc_Md_addSequences 109 = .ok (.iload_n 3, 1) := by decide +kernel
theorem d_Md_addSequences_110 : decode cc_Md_addSequences 110 = .ok (.goto (12), 3) := by decide +kernel
theorem d_Md_addSequences_113 : decode cc_Md_addSequences 113 = .ok (.aload_n 0, 1) := by decide +kernel
theorem d_Md_addSequences_114 : decode cc_Md_addSequences 114 = .ok (.getfield 62, 3) := by decide +kernel
theorem d_Md_addSequences_117 : decode cc_Md_addSequences 117 = .ok (.bipush (80), 2) := by decide +kernel
theorem d_Md_addSequences_119 : decode cc_Md_addSequences 119 = .ok (.iload_n 1, 1) := by decide +kernel
theorem d_Md_addSequences_120 : decode cc_Md_addSequences 120 = .ok (.iadd, 1) := by decide +kernel
theorem d_Md_addSequences_121 : decode cc_Md_addSequences 121 = .ok (.iaload, 1) := by decide +kernel
theorem d_Md_addSequences_122 : decode cc_Md_addSequences 122 = .ok (.iastore, 1) := by decide +kernel
theorem d_Md_addSequences_123 : decode cc_Md_addSequences 123 = .ok (.aload_n 0, 1) := by decide +kernel
theorem d_Md_addSequences_124 : decode cc_Md_addSequences 124 = .ok (.getfield 62, 3) := by decide +kernel
theorem d_Md_addSequences_127 : decode cc_Md_addSequences 127 = .ok (.iload_n 1, 1) := by decide +kernel
theorem d_Md_addSequences_128 : decode cc_Md_addSequences 128 = .ok (.iload_n 3, 1) := by decide +kernel
theorem d_Md_addSequences_129 : decode cc_Md_addSequences 129 = .ok (.invokestatic 191, 3) := by decide +kernel
theorem d_Md_addSequences_132 : decode cc_Md_addSequences 132 = .ok (.aload_n 0, 1) := by decide +kernel
theorem d_Md_addSequences_133 : decode cc_Md_addSequences 133 = .ok (.getfield 53, 3) := by decide +kernel
theorem d_Md_addSequences_136 : decode cc_Md_addSequences 136 = .ok (.iload_n 1, 1) := by decide +kernel
theorem d_Md_addSequences_137 : decode cc_Md_addSequences 137 = .ok (.iaload, 1) := by decide +kernel
theorem d_Md_addSequences_138 : decode cc_Md_addSequences 138 = .ok (.if_icmp .gt (7), 3) := by decide +kernel
theorem d_Md_addSequences_141 : decode cc_Md_addSequences 141 = .ok (.iload_n 3, 1) := by decide +kernel
theorem d_Md_addSequences_142 : decode cc_Md_addSequences 142 = .ok (.goto (9), 3) := by decide +kernel
theorem d_Md_addSequences_145 : decode cc_Md_addSequences 145 = .ok (.aload_n 0, 1) := by decide +kernel
theorem d_Md_addSequences_146 : decode cc_Md_addSequences 146 = .ok (.getfield 62, 3) := by decide +kernel
theorem d_Md_addSequences_149 : decode cc_Md_addSequences 149 = .ok (.iload_n 1, 1) := by decide +kernel
theorem d_Md_addSequences_150 : decode cc_Md_addSequences 150 = .ok (.iaload, 1) := by decide +kernel
theorem d_Md_addSequences_151 : decode cc_Md_addSequences 151 = .ok (.iastore, 1) := by decide +kernel
theorem d_Md_addSequences_152 : decode cc_Md_addSequences 152 = .ok (.iinc 3 (1), 3) := by decide +kernel
theorem d_Md_addSequences_155 : decode cc_Md_addSequences 155 = .ok (.goto (-73), 3) := by decide +kernel
theorem d_Md_addSequences_158 : decode cc_Md_addSequences 158 = .ok (.iinc 1 (1), 3) := by decide +kernel
theorem d_Md_addSequences_161 : decode cc_Md_addSequences 161 = .ok (.goto (-120), 3) := by decide +kernel
theorem d_Md_addSequences_164 : decode cc_Md_addSequences 164 = .ok (.iconst 0, 1) := by decide +kernel
theorem d_Md_addSequences_165 : decode cc_Md_addSequences 165 = .ok (.istore_n 1, 1) := by decide +kernel
theorem d_Md_addSequences_166 : decode cc_Md_addSequences 166 = .ok (.iload_n 1, 1) := by decide +kernel
theorem d_Md_addSequences_167 : decode cc_Md_addSequences 167 = .ok (.iconst 3, 1) := by decide +kernel
theorem d_Md_addSequences_168 : decode cc_Md_addSequences 168 = .ok (.if_icmp .ge (14), 3) := by decide +kernel
theorem d_Md_addSequences_171 : decode cc_Md_addSequences 171 = .ok (.aload_n 0, 1) := by decide +kernel
theorem d_Md_addSequences_172 : decode cc_Md_addSequences 172 = .ok (.iload_n 1, 1) := by decide +kernel
theorem d_Md_addSequences_173 : decode cc_Md_addSequences 173 = .ok (.invokevirtual 224, 3) := by decide +kernel
theorem d_Md_addSequences_176 : decode cc_Md_addSequences 176 = .ok (.iinc 1 (1), 3) := by decide +kernel
theorem d_Md_addSequences_179 : decode cc_Md_addSequences 179 = .ok (.goto (-13), 3) := by decide +kernel
theorem d_Md_addSequences_182 : decode cc_Md_addSequences 182 = .ok (.aload_n 0, 1) := by decide +kernel
theorem d_Md_addSequences_183 : decode cc_Md_addSequences 183 = .ok (.iconst 0, 1) := by decide +kernel
theorem d_Md_addSequences_184 : decode cc_Md_addSequences 184 = .ok (.putfield 212, 3) := by decide +kernel
theorem d_Md_addSequences_187 : decode cc_Md_addSequences 187 = .ok (.iconst 0, 1) := by decide +kernel
theorem d_Md_addSequences_188 : decode cc_Md_addSequences 188 = .ok (.istore_n 1, 1) := by decide +kernel
theorem d_Md_addSequences_189 : decode cc_Md_addSequences 189 = .ok (.iload_n 1, 1) := by decide +kernel
theorem d_Md_addSequences_190 : decode cc_Md_addSequences 190 = .ok (.iconst 3, 1) := by decide +kernel
theorem d_Md_addSequences_191 : decode cc_Md_addSequences 191 = .ok (.if_icmp .ge (23), 3) := by decide +kernel
theorem d_Md_addSequences_194 : decode cc_Md_addSequences 194 = .ok (.aload_n 0, 1) := by decide +kernel
theorem d_Md_addSequences_195 : decode cc_Md_addSequences 195 = .ok (.aload_n 0, 1) := by decide +kernel
theorem d_Md_addSequences_196 : decode cc_Md_addSequences 196 = .ok (.getfield 65, 3) := by decide +kernel
theorem d_Md_addSequences_199 : decode cc_Md_addSequences 199 = .ok (.bipush (40), 2) := by decide +kernel
theorem d_Md_addSequences_201 : decode cc_Md_addSequences 201 = .ok (.iload_n 1, 1) := by decide +kernel
theorem d_Md_addSequences_202 : decode cc_Md_addSequences 202 = .ok (.imul, 1) := by decide +kernel
theorem d_Md_addSequences_203 : decode cc_Md_addSequences 203 = .ok (.iaload, 1) := by decide +kernel
theorem d_Md_addSequences_204 : decode cc_Md_addSequences 204 = .ok (.iconst 4, 1) := by decide +kernel
theorem d_Md_addSequences_205 : decode cc_Md_addSequences 205 = .ok (.invokevirtual 227, 3) := by decide +kernel
theorem d_Md_addSequences_208 : decode cc_Md_addSequences 208 = .ok (.iinc 1 (1), 3) := by decide +kernel
theorem d_Md_addSequences_211 : decode cc_Md_addSequences 211 = .ok (.goto (-22), 3) := by decide +kernel
theorem d_Md_addSequences_214 : decode cc_Md_addSequences 214 = .ok (.iconst 0, 1) := by decide +kernel
theorem d_Md_addSequences_215 : decode cc_Md_addSequences 215 = .ok (.istore_n 1, 1) := by decide +kernel
theorem d_Md_addSequences_216 : decode cc_Md_addSequences 216 = .ok (.iload_n 1, 1) := by decide +kernel
theorem d_Md_addSequences_217 : decode cc_Md_addSequences 217 = .ok (.aload_n 0, 1) := by decide +kernel
theorem d_Md_addSequences_218 : decode cc_Md_addSequences 218 = .ok (.getfield 178, 3) := by decide +kernel
theorem d_Md_addSequences_221 : decode cc_Md_addSequences 221 = .ok (.if_icmp .ge (117), 3) := by decide +kernel
theorem d_Md_addSequences_224 : decode cc_Md_addSequences 224 = .ok (.aload_n 0, 1) := by decide +kernel
theorem d_Md_addSequences_225 : decode cc_Md_addSequences 225 = .ok (.getfield 62, 3) := by decide +kernel
theorem d_Md_addSequences_228 : decode cc_Md_addSequences 228 = .ok (.bipush (40), 2) := by decide +kernel
theorem d_Md_addSequences_230 : decode cc_Md_addSequences 230 = .ok (.iload_n 1, 1) := by decide +kernel
theorem d_Md_addSequences_231 : decode cc_Md_addSequences 231 = .ok (.iadd, 1) := by decide +kernel
theorem d_Md_addSequences_232 : decode cc_Md_addSequences 232 = .ok (.iaload, 1) := by decide +kernel
theorem d_Md_addSequences_233 : decode cc_Md_addSequences 233 = .ok (.istore_n 2, 1) := by decide +kernel
theorem d_Md_addSequences_234 : decode cc_Md_addSequences 234 = .ok (.aload_n 0, 1) := by decide +kernel
theorem d_Md_addSequences_235 : decode cc_Md_addSequences 235 = .ok (.aload_n 0, 1) := by decide +kernel
theorem d_Md_addSequences_236 : decode cc_Md_addSequences 236 = .ok (.getfield 56, 3) := by decide +kernel
theorem d_Md_addSequences_239 : decode cc_Md_addSequences 239 = .ok (.iload_n 1, 1) := by decide +kernel
theorem d_Md_addSequences_240 : decode cc_Md_addSequences 240 = .ok (.iaload, 1) := by decide +kernel
theorem d_Md_addSequences_241 : decode cc_Md_addSequences 241 = .ok (.iconst 1, 1) := by decide +kernel
theorem d_Md_addSequences_242 : decode cc_Md_addSequences 242 = .ok (.iload_n 2, 1) := by decide +kernel
theorem d_Md_addSequences_243 : decode cc_Md_addSequences 243 = .ok (.ishl, 1) := by decide +kernel
theorem d_Md_addSequences_244 : decode cc_Md_addSequences 244 = .ok (.isub, 1) := by decide +kernel
theorem d_Md_addSequences_245 : decode cc_Md_addSequences 245 = .ok (.iload_n 2, 1) := by decide +kernel
theorem d_Md_addSequences_246 : decode cc_Md_addSequences 246 = .ok (.invokevirtual 227, 3) := by decide +kernel
theorem d_Md_addSequences_249 : decode cc_Md_addSequences 249 = .ok (.aload_n 0, 1) := by decide +kernel
theorem d_Md_addSequences_250 : decode cc_Md_addSequences 250 = .ok (.getfield 62, 3) := by decide +kernel
theorem d_Md_addSequences_253 : decode cc_Md_addSequences 253 = .ok (.bipush (80), 2) := by decide +kernel
theorem d_Md_addSequences_255 : decode cc_Md_addSequences 255 = .ok (.iload_n 1, 1) := by decide +kernel
theorem d_Md_addSequences_256 : decode cc_Md_addSequences 256 = .ok (.iadd, 1) := by decide +kernel
theorem d_Md_addSequences_257 : decode cc_Md_addSequences 257 = .ok (.iaload, 1) := by decide +kernel
theorem d_Md_addSequences_258 : decode cc_Md_addSequences 258 = .ok (.istore_n 3, 1) := by decide +kernel
theorem d_Md_addSequences_259 : decode cc_Md_addSequences 259 = .ok (.aload_n 0, 1) := by decide +kernel
theorem d_Md_addSequences_260 : decode cc_Md_addSequences 260 = .ok (.aload_n 0, 1) := by decide +kernel
theorem d_Md_addSequences_261 : decode cc_Md_addSequences 261 = .ok (.getfield 59, 3) := by decide +kernel
theorem d_Md_addSequences_264 : decode cc_Md_addSequences 264 = .ok (.iload_n 1, 1) := by decide +kernel
theorem d_Md_addSequences_265 : decode cc_Md_addSequences 265 = .ok (.iaload, 1) := by decide +kernel
theorem d_Md_addSequences_266 : decode cc_Md_addSequences 266 = .ok (.iload_n 3, 1) := by decide +kernel
theorem d_Md_addSequences_267 : decode cc_Md_addSequences 267 = .ok (.invokestatic 185, 3) := by decide +kernel
theorem d_Md_addSequences_270 : decode cc_Md_addSequences 270 = .ok (.isub, 1) := by decide +kernel
theorem d_Md_addSequences_271 : decode cc_Md_addSequences 271 = .ok (.iload_n 3, 1) := by decide +kernel
theorem d_Md_addSequences_272 : decode cc_Md_addSequences 272 = .ok (.invokestatic 188, 3) := by decide +kernel
theorem d_Md_addSequences_275 : decode cc_Md_addSequences 275 = .ok (.invokevirtual 227, 3) := by decide +kernel
theorem d_Md_addSequences_278 : decode cc_Md_addSequences 278 = .ok (.aload_n 0, 1) := by decide +kernel
theorem d_Md_addSequences_279 : decode cc_Md_addSequences 279 = .ok (.getfield 62, 3) := by decide +kernel
theorem d_Md_addSequences_282 : decode cc_Md_addSequences 282 = .ok (.iload_n 1, 1) := by decide +kernel
theorem d_Md_addSequences_283 : decode cc_Md_addSequences 283 = .ok (.iaload, 1) := by decide +kernel
theorem d_Md_addSequences_284 : decode cc_Md_addSequences 284 = .ok (.istore_n 3, 1) := by decide +kernel
theorem d_Md_addSequences_285 : decode cc_Md_addSequences 285 = .ok (.aload_n 0, 1) := by decide +kernel
theorem d_Md_addSequences_286 : decode cc_Md_addSequences 286 = .ok (.aload_n 0, 1) := by decide +kernel
theorem d_Md_addSequences_287 : decode cc_Md_addSequences 287 = .ok (.getfield 53, 3) := by decide +kernel
theorem d_Md_addSequences_290 : decode cc_Md_addSequences 290 = .ok (.iload_n 1, 1) := by decide +kernel
theorem d_Md_addSequences_291 : decode cc_Md_addSequences 291 = .ok (.iaload, 1) := by decide +kernel
theorem d_Md_addSequences_292 : decode cc_Md_addSequences 292 = .ok (.iload_n 3, 1) := by decide +kernel
theorem d_Md_addSequences_293 : decode cc_Md_addSequences 293 = .ok (.invokestatic 191, 3) := by decide +kernel
theorem d_Md_addSequences_296 : decode cc_Md_addSequences 296 = .ok (.isub, 1) := by decide +kernel
theorem d_Md_addSequences_297 : decode cc_Md_addSequences 297 = .ok (.iload_n 3, 1) := by decide +kernel
theorem d_Md_addSequences_298 : decode cc_Md_addSequences 298 = .ok (.invokestatic 194, 3) := by decide +kernel
theorem d_Md_addSequences_301 : decode cc_Md_addSequences 301 = .ok (.invokevirtual 227, 3) := by decide +kernel
theorem d_Md_addSequences_304 : decode cc_Md_addSequences 304 = .ok (.iload_n 1, 1) := by decide +kernel
theorem d_Md_addSequences_305 : decode cc_Md_addSequences 305 = .ok (.iconst 1, 1) := by decide +kernel
theorem d_Md_addSequences_306 : decode cc_Md_addSequences 306 = .ok (.iadd, 1) := by decide +kernel
theorem d_Md_addSequences_307 : decode cc_Md_addSequences 307 = .ok (.aload_n 0, 1) := by decide +kernel
theorem d_Md_addSequences_308 : decode cc_Md_addSequences 308 = .ok (.getfield 178, 3) := by decide +kernel
theorem d_Md_addSequences_311 : decode cc_Md_addSequences 311 = .ok (.if_icmp .ge (21), 3) := by decide +kernel
theorem d_Md_addSequences_314 : decode cc_Md_addSequences 314 = .ok (.aload_n 0, 1) := by decide +kernel
theorem d_Md_addSequences_315 : decode cc_Md_addSequences 315 = .ok (.iconst 0, 1) := by decide +kernel
theorem d_Md_addSequences_316 : decode cc_Md_addSequences 316 = .ok (.iload_n 1, 1) := by decide +kernel
theorem d_Md_addSequences_317 : decode cc_Md_addSequences 317 = .ok (.invokevirtual 230, 3) := by decide +kernel
theorem d_Md_addSequences_320 : decode cc_Md_addSequences 320 = .ok (.aload_n 0, 1) := by decide +kernel
theorem d_Md_addSequences_321 : decode cc_Md_addSequences 321 = .ok (.iconst 2, 1) := by decide +kernel
theorem d_Md_addSequences_322 : decode cc_Md_addSequences 322 = .ok (.iload_n 1, 1) := by decide +kernel
theorem d_Md_addSequences_323 : decode cc_Md_addSequences 323 = .ok (.invokevirtual 230, 3) := by decide +kernel
theorem d_Md_addSequences_326 : decode cc_Md_addSequences 326 = .ok (.aload_n 0, 1) := by decide +kernel
theorem d_Md_addSequences_327 : decode cc_Md_addSequences 327 = .ok (.iconst 1, 1) := by decide +kernel
theorem d_Md_addSequences_328 : decode cc_Md_addSequences 328 = .ok (.iload_n 1, 1) := by decide +kernel
theorem d_Md_addSequences_329 : decode cc_Md_addSequences 329 = .ok (.invokevirtual 230, 3) := by decide +kernel
theorem d_Md_addSequences_332 : decode cc_Md_addSequences 332 = .ok (.iinc 1 (1), 3) := by decide +kernel
theorem d_Md_addSequences_335 : decode cc_Md_addSequences 335 = .ok (.goto (-119), 3) := by decide +kernel
theorem d_Md_addSequences_338 : decode cc_Md_addSequences 338 = .ok (.aload_n 0, 1) := by decide +kernel
theorem d_Md_addSequences_339 : decode cc_Md_addSequences 339 = .ok (.invokevirtual 233, 3) := by decide +kernel
theorem d_Md_addSequences_342 : decode cc_Md_addSequences 342 = .ok (.return_, 1) := by decide +kernel
section
variable {p : Program} {l : Launch} {e : Env} {s : State} {m : MethodId} {args : Array Value} {below : List Frame} {meth : Method} {c : Code} {X : Xs} {L : La}
def b_Md_addSequences_332 (L : La) (k216 : Nat → Int32 → Mem → Option Mem) (i0 : Nat) (x1 : Int32) (F : Mem) : Option Mem :=
  k216 i0 (x1 + (1 : Int32)) F
set_option maxHeartbeats 4000000 in
theorem t_Md_addSequences_332 (hC : Cx X L p s m args meth c cc_Md_addSequences 4 w_Md_addSequences R_Md none) {k216 : Nat → Int32 → Mem → Option Mem} {out : Mem} (hk216 : ∀ (i0 : Nat) (x1 : Int32) (F : Mem) (H : Heap) (locs : List Loc) (ls : Array Slot), oO L 12 i0 → Iv X L s H locs F → lv_has ls 4 [(0, .ref (mAd X i0)), (1, .int x1)] → k216 i0 x1 F = some out → W p l e (headSpec w_Md_addSequences r_Md_addSequences).room s m args below meth c H locs 0 0 (MQ below (QV X L out) args s 0 0 (AA X L)) (F0 m 216 ls [])) {i0 : Nat} {x1 : Int32} {F : Mem} {H : Heap} {locs : List Loc} {ls : Array Slot} (o0 : oO L 12 i0) (hI : Iv X L s H locs F) (hl : lv_has ls 4 [(0, .ref (mAd X i0)), (1, .int x1)]) (h : b_Md_addSequences_332 L k216 i0 x1 F = some out) : W p l e (headSpec w_Md_addSequences r_Md_addSequences).room s m args below meth c H locs 0 0 (MQ below (QV X L out) args s 0 0 (AA X L)) (F0 m 332 ls []) := by
  unfold b_Md_addSequences_332 at h
  obtain ⟨S, hK, hT, hW, hr, hlk⟩ := id hC
  have hx := S.1
  have hb := S.2.1
  refine lv_iinc (k := 1) (v := x1 + (1 : Int32)) (lv' := [(1, .int (x1 + (1 : Int32))), (0, .ref (mAd X i0))]) hx hb d_Md_addSequences_332 hl rfl rfl (by decide) rfl (fun ls hl => ?_)
  refine lv_goto (tgt := 216) hx hb d_Md_addSequences_335 rfl ?_
  exact hk216 _ _ _ _ _ _ o0 hI (lv_sub hl [1, 0] rfl) h
def b_Md_addSequences_216 (L : La) (k216 : Nat → Int32 → Mem → Option Mem) (i0 : Nat) (x1 : Int32) (F : Mem) : Option Mem :=
  if (F i0 28) ≤ x1 then
    (f_Md_addStream L i0 F).bind fun F1 =>
    some F1
  else
    if inb ((40 : Int32) + x1) (mGl L (mRf L i0 32)) then none else
    if inb x1 (mGl L (mRf L i0 30)) then none else
    (f_Md_push L i0 ((mGa L F (mRf L i0 30) x1.toNatClampNeg) - (jshl (1 : Int32) (mGa L F (mRf L i0 32) ((40 : Int32) + x1).toNatClampNeg))) (mGa L F (mRf L i0 32) ((40 : Int32) + x1).toNatClampNeg) F).bind fun F7 =>
    if inb ((80 : Int32) + x1) (mGl L (mRf L i0 32)) then none else
    if inb x1 (mGl L (mRf L i0 31)) then none else
    (f_Md_matchBase L (mGa L F7 (mRf L i0 32) ((80 : Int32) + x1).toNatClampNeg) F7).bind fun q13 =>
    (f_Md_matchBits L (mGa L F7 (mRf L i0 32) ((80 : Int32) + x1).toNatClampNeg) q13.2).bind fun q15 =>
    (f_Md_push L i0 ((mGa L F7 (mRf L i0 31) x1.toNatClampNeg) - q13.1) q15.1 q15.2).bind fun F17 =>
    if inb x1 (mGl L (mRf L i0 32)) then none else
    if inb x1 (mGl L (mRf L i0 29)) then none else
    (f_Md_aheadBase L (mGa L F17 (mRf L i0 32) x1.toNatClampNeg) F17).bind fun q23 =>
    (f_Md_aheadBits L (mGa L F17 (mRf L i0 32) x1.toNatClampNeg) q23.2).bind fun q25 =>
    (f_Md_push L i0 ((mGa L F17 (mRf L i0 29) x1.toNatClampNeg) - q23.1) q25.1 q25.2).bind fun F27 =>
    if (F27 i0 28) ≤ (x1 + (1 : Int32)) then
      b_Md_addSequences_332 L k216 i0 x1 F27
    else
      (f_Md_pushStep L i0 (0 : Int32) x1 F27).bind fun F29 =>
      (f_Md_pushStep L i0 (2 : Int32) x1 F29).bind fun F31 =>
      (f_Md_pushStep L i0 (1 : Int32) x1 F31).bind fun F33 =>
      b_Md_addSequences_332 L k216 i0 x1 F33
set_option maxHeartbeats 4000000 in
theorem t_Md_addSequences_216 (hC : Cx X L p s m args meth c cc_Md_addSequences 4 w_Md_addSequences R_Md none) {k216 : Nat → Int32 → Mem → Option Mem} {out : Mem} (hk216 : ∀ (i0 : Nat) (x1 : Int32) (F : Mem) (H : Heap) (locs : List Loc) (ls : Array Slot), oO L 12 i0 → Iv X L s H locs F → lv_has ls 4 [(0, .ref (mAd X i0)), (1, .int x1)] → k216 i0 x1 F = some out → W p l e (headSpec w_Md_addSequences r_Md_addSequences).room s m args below meth c H locs 0 0 (MQ below (QV X L out) args s 0 0 (AA X L)) (F0 m 216 ls [])) {i0 : Nat} {x1 : Int32} {F : Mem} {H : Heap} {locs : List Loc} {ls : Array Slot} (o0 : oO L 12 i0) (hI : Iv X L s H locs F) (hl : lv_has ls 4 [(0, .ref (mAd X i0)), (1, .int x1)]) (h : b_Md_addSequences_216 L k216 i0 x1 F = some out) : W p l e (headSpec w_Md_addSequences r_Md_addSequences).room s m args below meth c H locs 0 0 (MQ below (QV X L out) args s 0 0 (AA X L)) (F0 m 216 ls []) := by
  unfold b_Md_addSequences_216 at h
  obtain ⟨S, hK, hT, hW, hr, hlk⟩ := id hC
  have hx := S.1
  have hb := S.2.1
  refine lv_iload_n hx hb d_Md_addSequences_216 rfl (lv_at hl 1 rfl) ?_
  refine lv_aload_n hx hb d_Md_addSequences_217 rfl (lv_at hl 0 rfl) ?_
  refine w_getI (T := T_Md) S hK hI o0 rfl hin_Md 28 (index := 178) (by decide) lf_Md_178 d_Md_addSequences_218 ?_
  refine lv_icmp_ge (tgt := 338) hx hb d_Md_addSequences_221 rfl (fun hc => ?_) (fun hc => ?_)
  · replace h := (if_pos hc).symm.trans h
    refine lv_aload_n hx hb d_Md_addSequences_338 rfl (lv_at hl 0 rfl) ?_
    obtain ⟨F1, e2, h⟩ := un_bi h
    refine w_callVv (As := []) (rest := []) S hK hI hT (c_Md_addStream l hW o0 e2) (cwV 0 S.2.2.2.2 (gd_V lc_Md_addStream lm_Md_233 li_Md_addStream ls_Md_addStream ln_Md) rfl rfl rfl hd_Md_addStream ⟨Nat.le_of_ble_eq_true rfl, Nat.le_of_ble_eq_true rfl⟩) o0 rfl (by decide) rfl rfl hl.1 (Nat.le_of_ble_eq_true rfl) d_Md_addSequences_339 ⟨Nat.zero_le _, Nat.zero_le _⟩ (fun H locs hI => ?_)
    exact w_vret S hK hr hlk hI d_Md_addSequences_342 h
  · replace h := (if_neg hc).symm.trans h
    refine lv_aload_n hx hb d_Md_addSequences_224 rfl (lv_at hl 0 rfl) ?_
    have p3 := wt_a hW o0 32 rfl (by decide) (by decide)
    refine w_getR (T := T_Md) S hK hI o0 rfl hin_Md 32 (index := 62) (by decide) lf_Md_62 d_Md_addSequences_225 ?_
    refine lv_bipush (v := 40) hx hb d_Md_addSequences_228 (by decide) ?_
    refine lv_iload_n hx hb d_Md_addSequences_230 rfl (lv_at hl 1 rfl) ?_
    refine lv_iadd hx hb d_Md_addSequences_231 ?_
    obtain ⟨z4, h⟩ := un_if h
    refine w_iald S hK hI hT p3 z4 d_Md_addSequences_232 ?_
    refine lv_istore_n (lv' := [(2, .int (mGa L F (mRf L i0 32) ((40 : Int32) + x1).toNatClampNeg)), (0, .ref (mAd X i0)), (1, .int x1)]) hx hb d_Md_addSequences_233 rfl hl (by decide) rfl (fun ls hl => ?_)
    refine lv_aload_n hx hb d_Md_addSequences_234 rfl (lv_at hl 1 rfl) ?_
    refine lv_aload_n hx hb d_Md_addSequences_235 rfl (lv_at hl 1 rfl) ?_
    have p5 := wt_a hW o0 30 rfl (by decide) (by decide)
    refine w_getR (T := T_Md) S hK hI o0 rfl hin_Md 30 (index := 56) (by decide) lf_Md_56 d_Md_addSequences_236 ?_
    refine lv_iload_n hx hb d_Md_addSequences_239 rfl (lv_at hl 2 rfl) ?_
    obtain ⟨z6, h⟩ := un_if h
    refine w_iald S hK hI hT p5 z6 d_Md_addSequences_240 ?_
    refine lv_iconst (v := 1) hx hb d_Md_addSequences_241 rfl ?_
    refine lv_iload_n hx hb d_Md_addSequences_242 rfl (lv_at hl 0 rfl) ?_
    refine lv_ishl hx hb d_Md_addSequences_243 ?_
    refine lv_isub hx hb d_Md_addSequences_244 ?_
    refine lv_iload_n hx hb d_Md_addSequences_245 rfl (lv_at hl 0 rfl) ?_
    obtain ⟨F7, e8, h⟩ := un_bi h
    refine w_callVv (As := [.int ((mGa L F (mRf L i0 30) x1.toNatClampNeg) - (jshl (1 : Int32) (mGa L F (mRf L i0 32) ((40 : Int32) + x1).toNatClampNeg))), .int (mGa L F (mRf L i0 32) ((40 : Int32) + x1).toNatClampNeg)]) (rest := []) S hK hI hT (c_Md_push l hW o0 e8) (cwV 2 S.2.2.2.2 (gd_V lc_Md_push lm_Md_227 li_Md_push ls_Md_push ln_Md) rfl rfl rfl hd_Md_push ⟨Nat.le_of_ble_eq_true rfl, Nat.le_of_ble_eq_true rfl⟩) o0 rfl (by decide) rfl rfl hl.1 (Nat.le_of_ble_eq_true rfl) d_Md_addSequences_246 ⟨Nat.zero_le _, Nat.zero_le _⟩ (fun H locs hI => ?_)
    refine lv_aload_n hx hb d_Md_addSequences_249 rfl (lv_at hl 1 rfl) ?_
    have p9 := wt_a hW o0 32 rfl (by decide) (by decide)
    refine w_getR (T := T_Md) S hK hI o0 rfl hin_Md 32 (index := 62) (by decide) lf_Md_62 d_Md_addSequences_250 ?_
    refine lv_bipush (v := 80) hx hb d_Md_addSequences_253 (by decide) ?_
    refine lv_iload_n hx hb d_Md_addSequences_255 rfl (lv_at hl 2 rfl) ?_
    refine lv_iadd hx hb d_Md_addSequences_256 ?_
    obtain ⟨z10, h⟩ := un_if h
    refine w_iald S hK hI hT p9 z10 d_Md_addSequences_257 ?_
    refine lv_istore_n (lv' := [(3, .int (mGa L F7 (mRf L i0 32) ((80 : Int32) + x1).toNatClampNeg)), (2, .int (mGa L F (mRf L i0 32) ((40 : Int32) + x1).toNatClampNeg)), (0, .ref (mAd X i0)), (1, .int x1)]) hx hb d_Md_addSequences_258 rfl hl (by decide) rfl (fun ls hl => ?_)
    refine lv_aload_n hx hb d_Md_addSequences_259 rfl (lv_at hl 2 rfl) ?_
    refine lv_aload_n hx hb d_Md_addSequences_260 rfl (lv_at hl 2 rfl) ?_
    have p11 := wt_a hW o0 31 rfl (by decide) (by decide)
    refine w_getR (T := T_Md) S hK hI o0 rfl hin_Md 31 (index := 59) (by decide) lf_Md_59 d_Md_addSequences_261 ?_
    refine lv_iload_n hx hb d_Md_addSequences_264 rfl (lv_at hl 3 rfl) ?_
    obtain ⟨z12, h⟩ := un_if h
    refine w_iald S hK hI hT p11 z12 d_Md_addSequences_265 ?_
    refine lv_iload_n hx hb d_Md_addSequences_266 rfl (lv_at hl 0 rfl) ?_
    obtain ⟨q13, e14, h⟩ := un_bi h
    refine w_callSi (As := [.int (mGa L F7 (mRf L i0 32) ((80 : Int32) + x1).toNatClampNeg)]) (rest := [.int (mGa L F7 (mRf L i0 31) x1.toNatClampNeg), .ref (mAd X i0)]) S hK hI hT (c_Md_matchBase l hW  e14) (va_cwS 1 S.2.2.2.2 (gd_S lc_Md_matchBase lm_Md_185 lst_Md_matchBase ln_Md) rfl rfl rfl hd_Md_matchBase.2 ⟨Nat.le_of_ble_eq_true rfl, Nat.le_of_ble_eq_true rfl⟩)  rfl rfl hl.1 (Nat.le_of_ble_eq_true rfl) d_Md_addSequences_267 ⟨Nat.zero_le _, Nat.zero_le _⟩ (fun H locs hI => ?_)
    refine lv_isub hx hb d_Md_addSequences_270 ?_
    refine lv_iload_n hx hb d_Md_addSequences_271 rfl (lv_at hl 0 rfl) ?_
    obtain ⟨q15, e16, h⟩ := un_bi h
    refine w_callSi (As := [.int (mGa L F7 (mRf L i0 32) ((80 : Int32) + x1).toNatClampNeg)]) (rest := [.int ((mGa L F7 (mRf L i0 31) x1.toNatClampNeg) - q13.1), .ref (mAd X i0)]) S hK hI hT (c_Md_matchBits l hW  e16) (va_cwS 1 S.2.2.2.2 (gd_S lc_Md_matchBits lm_Md_188 lst_Md_matchBits ln_Md) rfl rfl rfl hd_Md_matchBits.2 ⟨Nat.le_of_ble_eq_true rfl, Nat.le_of_ble_eq_true rfl⟩)  rfl rfl hl.1 (Nat.le_of_ble_eq_true rfl) d_Md_addSequences_272 ⟨Nat.zero_le _, Nat.zero_le _⟩ (fun H locs hI => ?_)
    obtain ⟨F17, e18, h⟩ := un_bi h
    refine w_callVv (As := [.int ((mGa L F7 (mRf L i0 31) x1.toNatClampNeg) - q13.1), .int q15.1]) (rest := []) S hK hI hT (c_Md_push l hW o0 e18) (cwV 2 S.2.2.2.2 (gd_V lc_Md_push lm_Md_227 li_Md_push ls_Md_push ln_Md) rfl rfl rfl hd_Md_push ⟨Nat.le_of_ble_eq_true rfl, Nat.le_of_ble_eq_true rfl⟩) o0 rfl (by decide) rfl rfl hl.1 (Nat.le_of_ble_eq_true rfl) d_Md_addSequences_275 ⟨Nat.zero_le _, Nat.zero_le _⟩ (fun H locs hI => ?_)
    refine lv_aload_n hx hb d_Md_addSequences_278 rfl (lv_at hl 2 rfl) ?_
    have p19 := wt_a hW o0 32 rfl (by decide) (by decide)
    refine w_getR (T := T_Md) S hK hI o0 rfl hin_Md 32 (index := 62) (by decide) lf_Md_62 d_Md_addSequences_279 ?_
    refine lv_iload_n hx hb d_Md_addSequences_282 rfl (lv_at hl 3 rfl) ?_
    obtain ⟨z20, h⟩ := un_if h
    refine w_iald S hK hI hT p19 z20 d_Md_addSequences_283 ?_
    refine lv_istore_n (lv' := [(3, .int (mGa L F17 (mRf L i0 32) x1.toNatClampNeg)), (2, .int (mGa L F (mRf L i0 32) ((40 : Int32) + x1).toNatClampNeg)), (0, .ref (mAd X i0)), (1, .int x1)]) hx hb d_Md_addSequences_284 rfl hl (by decide) rfl (fun ls hl => ?_)
    refine lv_aload_n hx hb d_Md_addSequences_285 rfl (lv_at hl 2 rfl) ?_
    refine lv_aload_n hx hb d_Md_addSequences_286 rfl (lv_at hl 2 rfl) ?_
    have p21 := wt_a hW o0 29 rfl (by decide) (by decide)
    refine w_getR (T := T_Md) S hK hI o0 rfl hin_Md 29 (index := 53) (by decide) lf_Md_53 d_Md_addSequences_287 ?_
    refine lv_iload_n hx hb d_Md_addSequences_290 rfl (lv_at hl 3 rfl) ?_
    obtain ⟨z22, h⟩ := un_if h
    refine w_iald S hK hI hT p21 z22 d_Md_addSequences_291 ?_
    refine lv_iload_n hx hb d_Md_addSequences_292 rfl (lv_at hl 0 rfl) ?_
    obtain ⟨q23, e24, h⟩ := un_bi h
    refine w_callSi (As := [.int (mGa L F17 (mRf L i0 32) x1.toNatClampNeg)]) (rest := [.int (mGa L F17 (mRf L i0 29) x1.toNatClampNeg), .ref (mAd X i0)]) S hK hI hT (c_Md_aheadBase l hW  e24) (va_cwS 1 S.2.2.2.2 (gd_S lc_Md_aheadBase lm_Md_191 lst_Md_aheadBase ln_Md) rfl rfl rfl hd_Md_aheadBase.2 ⟨Nat.le_of_ble_eq_true rfl, Nat.le_of_ble_eq_true rfl⟩)  rfl rfl hl.1 (Nat.le_of_ble_eq_true rfl) d_Md_addSequences_293 ⟨Nat.zero_le _, Nat.zero_le _⟩ (fun H locs hI => ?_)
    refine lv_isub hx hb d_Md_addSequences_296 ?_
    refine lv_iload_n hx hb d_Md_addSequences_297 rfl (lv_at hl 0 rfl) ?_
    obtain ⟨q25, e26, h⟩ := un_bi h
    refine w_callSi (As := [.int (mGa L F17 (mRf L i0 32) x1.toNatClampNeg)]) (rest := [.int ((mGa L F17 (mRf L i0 29) x1.toNatClampNeg) - q23.1), .ref (mAd X i0)]) S hK hI hT (c_Md_aheadBits l hW  e26) (va_cwS 1 S.2.2.2.2 (gd_S lc_Md_aheadBits lm_Md_194 lst_Md_aheadBits ln_Md) rfl rfl rfl hd_Md_aheadBits.2 ⟨Nat.le_of_ble_eq_true rfl, Nat.le_of_ble_eq_true rfl⟩)  rfl rfl hl.1 (Nat.le_of_ble_eq_true rfl) d_Md_addSequences_298 ⟨Nat.zero_le _, Nat.zero_le _⟩ (fun H locs hI => ?_)
    obtain ⟨F27, e28, h⟩ := un_bi h
    refine w_callVv (As := [.int ((mGa L F17 (mRf L i0 29) x1.toNatClampNeg) - q23.1), .int q25.1]) (rest := []) S hK hI hT (c_Md_push l hW o0 e28) (cwV 2 S.2.2.2.2 (gd_V lc_Md_push lm_Md_227 li_Md_push ls_Md_push ln_Md) rfl rfl rfl hd_Md_push ⟨Nat.le_of_ble_eq_true rfl, Nat.le_of_ble_eq_true rfl⟩) o0 rfl (by decide) rfl rfl hl.1 (Nat.le_of_ble_eq_true rfl) d_Md_addSequences_301 ⟨Nat.zero_le _, Nat.zero_le _⟩ (fun H locs hI => ?_)
    refine lv_iload_n hx hb d_Md_addSequences_304 rfl (lv_at hl 3 rfl) ?_
    refine lv_iconst (v := 1) hx hb d_Md_addSequences_305 rfl ?_
    refine lv_iadd hx hb d_Md_addSequences_306 ?_
    refine lv_aload_n hx hb d_Md_addSequences_307 rfl (lv_at hl 2 rfl) ?_
    refine w_getI (T := T_Md) S hK hI o0 rfl hin_Md 28 (index := 178) (by decide) lf_Md_178 d_Md_addSequences_308 ?_
    refine lv_icmp_ge (tgt := 332) hx hb d_Md_addSequences_311 rfl (fun hc => ?_) (fun hc => ?_)
    · replace h := (if_pos hc).symm.trans h
      exact t_Md_addSequences_332 hC hk216 o0 hI (lv_sub hl [2, 3] rfl) h
    · replace h := (if_neg hc).symm.trans h
      refine lv_aload_n hx hb d_Md_addSequences_314 rfl (lv_at hl 2 rfl) ?_
      refine lv_iconst (v := 0) hx hb d_Md_addSequences_315 rfl ?_
      refine lv_iload_n hx hb d_Md_addSequences_316 rfl (lv_at hl 3 rfl) ?_
      obtain ⟨F29, e30, h⟩ := un_bi h
      refine w_callVv (As := [.int (0 : Int32), .int x1]) (rest := []) S hK hI hT (c_Md_pushStep l hW o0 e30) (cwV 2 S.2.2.2.2 (gd_V lc_Md_pushStep lm_Md_230 li_Md_pushStep ls_Md_pushStep ln_Md) rfl rfl rfl hd_Md_pushStep ⟨Nat.le_of_ble_eq_true rfl, Nat.le_of_ble_eq_true rfl⟩) o0 rfl (by decide) rfl rfl hl.1 (Nat.le_of_ble_eq_true rfl) d_Md_addSequences_317 ⟨Nat.zero_le _, Nat.zero_le _⟩ (fun H locs hI => ?_)
      refine lv_aload_n hx hb d_Md_addSequences_320 rfl (lv_at hl 2 rfl) ?_
      refine lv_iconst (v := 2) hx hb d_Md_addSequences_321 rfl ?_
      refine lv_iload_n hx hb d_Md_addSequences_322 rfl (lv_at hl 3 rfl) ?_
      obtain ⟨F31, e32, h⟩ := un_bi h
      refine w_callVv (As := [.int (2 : Int32), .int x1]) (rest := []) S hK hI hT (c_Md_pushStep l hW o0 e32) (cwV 2 S.2.2.2.2 (gd_V lc_Md_pushStep lm_Md_230 li_Md_pushStep ls_Md_pushStep ln_Md) rfl rfl rfl hd_Md_pushStep ⟨Nat.le_of_ble_eq_true rfl, Nat.le_of_ble_eq_true rfl⟩) o0 rfl (by decide) rfl rfl hl.1 (Nat.le_of_ble_eq_true rfl) d_Md_addSequences_323 ⟨Nat.zero_le _, Nat.zero_le _⟩ (fun H locs hI => ?_)
      refine lv_aload_n hx hb d_Md_addSequences_326 rfl (lv_at hl 2 rfl) ?_
      refine lv_iconst (v := 1) hx hb d_Md_addSequences_327 rfl ?_
      refine lv_iload_n hx hb d_Md_addSequences_328 rfl (lv_at hl 3 rfl) ?_
      obtain ⟨F33, e34, h⟩ := un_bi h
      refine w_callVv (As := [.int (1 : Int32), .int x1]) (rest := []) S hK hI hT (c_Md_pushStep l hW o0 e34) (cwV 2 S.2.2.2.2 (gd_V lc_Md_pushStep lm_Md_230 li_Md_pushStep ls_Md_pushStep ln_Md) rfl rfl rfl hd_Md_pushStep ⟨Nat.le_of_ble_eq_true rfl, Nat.le_of_ble_eq_true rfl⟩) o0 rfl (by decide) rfl rfl hl.1 (Nat.le_of_ble_eq_true rfl) d_Md_addSequences_329 ⟨Nat.zero_le _, Nat.zero_le _⟩ (fun H locs hI => ?_)
      exact t_Md_addSequences_332 hC hk216 o0 hI (lv_sub hl [2, 3] rfl) h
def f_Md_addSequences_216 (L : La)  : Nat → Nat → Int32 → Mem → Option Mem
  | 0 => fun _ _ _ => none
  | n + 1 => b_Md_addSequences_216 L (f_Md_addSequences_216 L  n)
theorem tf_Md_addSequences_216 (hC : Cx X L p s m args meth c cc_Md_addSequences 4 w_Md_addSequences R_Md none)  {out : Mem}  (n : Nat) : ∀ (i0 : Nat) (x1 : Int32) (F : Mem) (H : Heap) (locs : List Loc) (ls : Array Slot), oO L 12 i0 → Iv X L s H locs F → lv_has ls 4 [(0, .ref (mAd X i0)), (1, .int x1)] → f_Md_addSequences_216 L  n i0 x1 F = some out → W p l e (headSpec w_Md_addSequences r_Md_addSequences).room s m args below meth c H locs 0 0 (MQ below (QV X L out) args s 0 0 (AA X L)) (F0 m 216 ls []) := by
  induction n with
  | zero => intro i0 x1 F H locs ls o0 hI hl h; cases h
  | succ n ih => intro i0 x1 F H locs ls o0 hI hl h; exact t_Md_addSequences_216 hC ih o0 hI hl h
def b_Md_addSequences_189 (L : La) (k189 : Nat → Int32 → Mem → Option Mem) (i0 : Nat) (x1 : Int32) (F : Mem) : Option Mem :=
  if (3 : Int32) ≤ x1 then
    f_Md_addSequences_216 L  mFU i0 (0 : Int32) F
  else
    if inb ((40 : Int32) * x1) (mGl L (mRf L i0 33)) then none else
    (f_Md_push L i0 (mGa L F (mRf L i0 33) ((40 : Int32) * x1).toNatClampNeg) (4 : Int32) F).bind fun F3 =>
    k189 i0 (x1 + (1 : Int32)) F3
set_option maxHeartbeats 4000000 in
theorem t_Md_addSequences_189 (hC : Cx X L p s m args meth c cc_Md_addSequences 4 w_Md_addSequences R_Md none) {k189 : Nat → Int32 → Mem → Option Mem} {out : Mem} (hk189 : ∀ (i0 : Nat) (x1 : Int32) (F : Mem) (H : Heap) (locs : List Loc) (ls : Array Slot), oO L 12 i0 → Iv X L s H locs F → lv_has ls 4 [(0, .ref (mAd X i0)), (1, .int x1)] → k189 i0 x1 F = some out → W p l e (headSpec w_Md_addSequences r_Md_addSequences).room s m args below meth c H locs 0 0 (MQ below (QV X L out) args s 0 0 (AA X L)) (F0 m 189 ls [])) {i0 : Nat} {x1 : Int32} {F : Mem} {H : Heap} {locs : List Loc} {ls : Array Slot} (o0 : oO L 12 i0) (hI : Iv X L s H locs F) (hl : lv_has ls 4 [(0, .ref (mAd X i0)), (1, .int x1)]) (h : b_Md_addSequences_189 L k189 i0 x1 F = some out) : W p l e (headSpec w_Md_addSequences r_Md_addSequences).room s m args below meth c H locs 0 0 (MQ below (QV X L out) args s 0 0 (AA X L)) (F0 m 189 ls []) := by
  unfold b_Md_addSequences_189 at h
  obtain ⟨S, hK, hT, hW, hr, hlk⟩ := id hC
  have hx := S.1
  have hb := S.2.1
  refine lv_iload_n hx hb d_Md_addSequences_189 rfl (lv_at hl 1 rfl) ?_
  refine lv_iconst (v := 3) hx hb d_Md_addSequences_190 rfl ?_
  refine lv_icmp_ge (tgt := 214) hx hb d_Md_addSequences_191 rfl (fun hc => ?_) (fun hc => ?_)
  · replace h := (if_pos hc).symm.trans h
    refine lv_iconst (v := 0) hx hb d_Md_addSequences_214 rfl ?_
    refine lv_istore_n (lv' := [(1, .int (0 : Int32)), (0, .ref (mAd X i0))]) hx hb d_Md_addSequences_215 rfl hl (by decide) rfl (fun ls hl => ?_)
    exact tf_Md_addSequences_216 hC  mFU _ _ _ _ _ _ o0 hI (lv_sub hl [1, 0] rfl) h
  · replace h := (if_neg hc).symm.trans h
    refine lv_aload_n hx hb d_Md_addSequences_194 rfl (lv_at hl 0 rfl) ?_
    refine lv_aload_n hx hb d_Md_addSequences_195 rfl (lv_at hl 0 rfl) ?_
    have p1 := wt_a hW o0 33 rfl (by decide) (by decide)
    refine w_getR (T := T_Md) S hK hI o0 rfl hin_Md 33 (index := 65) (by decide) lf_Md_65 d_Md_addSequences_196 ?_
    refine lv_bipush (v := 40) hx hb d_Md_addSequences_199 (by decide) ?_
    refine lv_iload_n hx hb d_Md_addSequences_201 rfl (lv_at hl 1 rfl) ?_
    refine lv_imul hx hb d_Md_addSequences_202 ?_
    obtain ⟨z2, h⟩ := un_if h
    refine w_iald S hK hI hT p1 z2 d_Md_addSequences_203 ?_
    refine lv_iconst (v := 4) hx hb d_Md_addSequences_204 rfl ?_
    obtain ⟨F3, e4, h⟩ := un_bi h
    refine w_callVv (As := [.int (mGa L F (mRf L i0 33) ((40 : Int32) * x1).toNatClampNeg), .int (4 : Int32)]) (rest := []) S hK hI hT (c_Md_push l hW o0 e4) (cwV 2 S.2.2.2.2 (gd_V lc_Md_push lm_Md_227 li_Md_push ls_Md_push ln_Md) rfl rfl rfl hd_Md_push ⟨Nat.le_of_ble_eq_true rfl, Nat.le_of_ble_eq_true rfl⟩) o0 rfl (by decide) rfl rfl hl.1 (Nat.le_of_ble_eq_true rfl) d_Md_addSequences_205 ⟨Nat.zero_le _, Nat.zero_le _⟩ (fun H locs hI => ?_)
    refine lv_iinc (k := 1) (v := x1 + (1 : Int32)) (lv' := [(1, .int (x1 + (1 : Int32))), (0, .ref (mAd X i0))]) hx hb d_Md_addSequences_208 hl rfl rfl (by decide) rfl (fun ls hl => ?_)
    refine lv_goto (tgt := 189) hx hb d_Md_addSequences_211 rfl ?_
    exact hk189 _ _ _ _ _ _ o0 hI (lv_sub hl [1, 0] rfl) h
def f_Md_addSequences_189 (L : La)  : Nat → Nat → Int32 → Mem → Option Mem
  | 0 => fun _ _ _ => none
  | n + 1 => b_Md_addSequences_189 L (f_Md_addSequences_189 L  n)
theorem tf_Md_addSequences_189 (hC : Cx X L p s m args meth c cc_Md_addSequences 4 w_Md_addSequences R_Md none)  {out : Mem}  (n : Nat) : ∀ (i0 : Nat) (x1 : Int32) (F : Mem) (H : Heap) (locs : List Loc) (ls : Array Slot), oO L 12 i0 → Iv X L s H locs F → lv_has ls 4 [(0, .ref (mAd X i0)), (1, .int x1)] → f_Md_addSequences_189 L  n i0 x1 F = some out → W p l e (headSpec w_Md_addSequences r_Md_addSequences).room s m args below meth c H locs 0 0 (MQ below (QV X L out) args s 0 0 (AA X L)) (F0 m 189 ls []) := by
  induction n with
  | zero => intro i0 x1 F H locs ls o0 hI hl h; cases h
  | succ n ih => intro i0 x1 F H locs ls o0 hI hl h; exact t_Md_addSequences_189 hC ih o0 hI hl h
def b_Md_addSequences_166 (L : La) (k166 : Nat → Int32 → Mem → Option Mem) (i0 : Nat) (x1 : Int32) (F : Mem) : Option Mem :=
  if (3 : Int32) ≤ x1 then
    lt' (u2 F i0 36 (0 : Int32)) fun F1 =>
    f_Md_addSequences_189 L  mFU i0 (0 : Int32) F1
  else
    (f_Md_choose L i0 x1 F).bind fun F3 =>
    k166 i0 (x1 + (1 : Int32)) F3
set_option maxHeartbeats 4000000 in
theorem t_Md_addSequences_166 (hC : Cx X L p s m args meth c cc_Md_addSequences 4 w_Md_addSequences R_Md none) {k166 : Nat → Int32 → Mem → Option Mem} {out : Mem} (hk166 : ∀ (i0 : Nat) (x1 : Int32) (F : Mem) (H : Heap) (locs : List Loc) (ls : Array Slot), oO L 12 i0 → Iv X L s H locs F → lv_has ls 4 [(0, .ref (mAd X i0)), (1, .int x1)] → k166 i0 x1 F = some out → W p l e (headSpec w_Md_addSequences r_Md_addSequences).room s m args below meth c H locs 0 0 (MQ below (QV X L out) args s 0 0 (AA X L)) (F0 m 166 ls [])) {i0 : Nat} {x1 : Int32} {F : Mem} {H : Heap} {locs : List Loc} {ls : Array Slot} (o0 : oO L 12 i0) (hI : Iv X L s H locs F) (hl : lv_has ls 4 [(0, .ref (mAd X i0)), (1, .int x1)]) (h : b_Md_addSequences_166 L k166 i0 x1 F = some out) : W p l e (headSpec w_Md_addSequences r_Md_addSequences).room s m args below meth c H locs 0 0 (MQ below (QV X L out) args s 0 0 (AA X L)) (F0 m 166 ls []) := by
  unfold b_Md_addSequences_166 at h
  obtain ⟨S, hK, hT, hW, hr, hlk⟩ := id hC
  have hx := S.1
  have hb := S.2.1
  refine lv_iload_n hx hb d_Md_addSequences_166 rfl (lv_at hl 1 rfl) ?_
  refine lv_iconst (v := 3) hx hb d_Md_addSequences_167 rfl ?_
  refine lv_icmp_ge (tgt := 182) hx hb d_Md_addSequences_168 rfl (fun hc => ?_) (fun hc => ?_)
  · replace h := (if_pos hc).symm.trans h
    refine lv_aload_n hx hb d_Md_addSequences_182 rfl (lv_at hl 0 rfl) ?_
    refine lv_iconst (v := 0) hx hb d_Md_addSequences_183 rfl ?_
    refine w_putI (T := T_Md) S hK hI o0 rfl hin_Md ty_Md tk_Md nm_Md 36 (index := 212) (by decide) lf_Md_212 rfl d_Md_addSequences_184 (fun H locs F1 e2 hI => ?_)
    replace h := un_lt h _ e2
    refine lv_iconst (v := 0) hx hb d_Md_addSequences_187 rfl ?_
    refine lv_istore_n (lv' := [(1, .int (0 : Int32)), (0, .ref (mAd X i0))]) hx hb d_Md_addSequences_188 rfl hl (by decide) rfl (fun ls hl => ?_)
    exact tf_Md_addSequences_189 hC  mFU _ _ _ _ _ _ o0 hI (lv_sub hl [1, 0] rfl) h
  · replace h := (if_neg hc).symm.trans h
    refine lv_aload_n hx hb d_Md_addSequences_171 rfl (lv_at hl 0 rfl) ?_
    refine lv_iload_n hx hb d_Md_addSequences_172 rfl (lv_at hl 1 rfl) ?_
    obtain ⟨F3, e4, h⟩ := un_bi h
    refine w_callVv (As := [.int x1]) (rest := []) S hK hI hT (c_Md_choose l hW o0 e4) (cwV 1 S.2.2.2.2 (gd_V lc_Md_choose lm_Md_224 li_Md_choose ls_Md_choose ln_Md) rfl rfl rfl hd_Md_choose ⟨Nat.le_of_ble_eq_true rfl, Nat.le_of_ble_eq_true rfl⟩) o0 rfl (by decide) rfl rfl hl.1 (Nat.le_of_ble_eq_true rfl) d_Md_addSequences_173 ⟨Nat.zero_le _, Nat.zero_le _⟩ (fun H locs hI => ?_)
    refine lv_iinc (k := 1) (v := x1 + (1 : Int32)) (lv' := [(1, .int (x1 + (1 : Int32))), (0, .ref (mAd X i0))]) hx hb d_Md_addSequences_176 hl rfl rfl (by decide) rfl (fun ls hl => ?_)
    refine lv_goto (tgt := 166) hx hb d_Md_addSequences_179 rfl ?_
    exact hk166 _ _ _ _ _ _ o0 hI (lv_sub hl [1, 0] rfl) h
def f_Md_addSequences_166 (L : La)  : Nat → Nat → Int32 → Mem → Option Mem
  | 0 => fun _ _ _ => none
  | n + 1 => b_Md_addSequences_166 L (f_Md_addSequences_166 L  n)
theorem tf_Md_addSequences_166 (hC : Cx X L p s m args meth c cc_Md_addSequences 4 w_Md_addSequences R_Md none)  {out : Mem}  (n : Nat) : ∀ (i0 : Nat) (x1 : Int32) (F : Mem) (H : Heap) (locs : List Loc) (ls : Array Slot), oO L 12 i0 → Iv X L s H locs F → lv_has ls 4 [(0, .ref (mAd X i0)), (1, .int x1)] → f_Md_addSequences_166 L  n i0 x1 F = some out → W p l e (headSpec w_Md_addSequences r_Md_addSequences).room s m args below meth c H locs 0 0 (MQ below (QV X L out) args s 0 0 (AA X L)) (F0 m 166 ls []) := by
  induction n with
  | zero => intro i0 x1 F H locs ls o0 hI hl h; cases h
  | succ n ih => intro i0 x1 F H locs ls o0 hI hl h; exact t_Md_addSequences_166 hC ih o0 hI hl h
def b_Md_addSequences_151 (L : La) (k41 : Nat → Int32 → Mem → Option Mem) (k82 : Nat → Int32 → Int32 → Mem → Option Mem) (i0 : Nat) (x1 : Int32) (x3 : Int32) (j0 : Nat) (y1 : Int32) (y2 : Int32) (F : Mem) : Option Mem :=
  if inb y1 (mLn L j0) ∨ ¬ j0 < mNc L then none else
  lt' (u2 F j0 y1.toNatClampNeg y2) fun F2 =>
  k82 i0 x1 (x3 + (1 : Int32)) F2
set_option maxHeartbeats 4000000 in
theorem t_Md_addSequences_151 (hC : Cx X L p s m args meth c cc_Md_addSequences 4 w_Md_addSequences R_Md none) {k41 : Nat → Int32 → Mem → Option Mem} {k82 : Nat → Int32 → Int32 → Mem → Option Mem} {out : Mem} (hk41 : ∀ (i0 : Nat) (x1 : Int32) (F : Mem) (H : Heap) (locs : List Loc) (ls : Array Slot), oO L 12 i0 → Iv X L s H locs F → lv_has ls 4 [(0, .ref (mAd X i0)), (1, .int x1)] → k41 i0 x1 F = some out → W p l e (headSpec w_Md_addSequences r_Md_addSequences).room s m args below meth c H locs 0 0 (MQ below (QV X L out) args s 0 0 (AA X L)) (F0 m 41 ls [])) (hk82 : ∀ (i0 : Nat) (x1 : Int32) (x3 : Int32) (F : Mem) (H : Heap) (locs : List Loc) (ls : Array Slot), oO L 12 i0 → Iv X L s H locs F → lv_has ls 4 [(0, .ref (mAd X i0)), (1, .int x1), (3, .int x3)] → k82 i0 x1 x3 F = some out → W p l e (headSpec w_Md_addSequences r_Md_addSequences).room s m args below meth c H locs 0 0 (MQ below (QV X L out) args s 0 0 (AA X L)) (F0 m 82 ls [])) {i0 : Nat} {x1 : Int32} {x3 : Int32} {j0 : Nat} {y1 : Int32} {y2 : Int32} {F : Mem} {H : Heap} {locs : List Loc} {ls : Array Slot} (o0 : oO L 12 i0) (oy0 : oA L j0) (hI : Iv X L s H locs F) (hl : lv_has ls 4 [(0, .ref (mAd X i0)), (1, .int x1), (3, .int x3)]) (h : b_Md_addSequences_151 L k41 k82 i0 x1 x3 j0 y1 y2 F = some out) : W p l e (headSpec w_Md_addSequences r_Md_addSequences).room s m args below meth c H locs 0 0 (MQ below (QV X L out) args s 0 0 (AA X L)) (F0 m 151 ls [.int y2, .int y1, .ref (mAd X j0)]) := by
  unfold b_Md_addSequences_151 at h
  obtain ⟨S, hK, hT, hW, hr, hlk⟩ := id hC
  have hx := S.1
  have hb := S.2.1
  obtain ⟨z1, h⟩ := un_if h
  refine w_iast S hK hI oy0 z1 d_Md_addSequences_151 (fun H locs F2 e3 hI => ?_)
  replace h := un_lt h _ e3
  refine lv_iinc (k := 2) (v := x3 + (1 : Int32)) (lv' := [(3, .int (x3 + (1 : Int32))), (0, .ref (mAd X i0)), (1, .int x1)]) hx hb d_Md_addSequences_152 hl rfl rfl (by decide) rfl (fun ls hl => ?_)
  refine lv_goto (tgt := 82) hx hb d_Md_addSequences_155 rfl ?_
  exact hk82 _ _ _ _ _ _ _ o0 hI (lv_sub hl [1, 2, 0] rfl) h
def b_Md_addSequences_122 (L : La) (k41 : Nat → Int32 → Mem → Option Mem) (k82 : Nat → Int32 → Int32 → Mem → Option Mem) (i0 : Nat) (x1 : Int32) (x3 : Int32) (j0 : Nat) (y1 : Int32) (y2 : Int32) (F : Mem) : Option Mem :=
  if inb y1 (mLn L j0) ∨ ¬ j0 < mNc L then none else
  lt' (u2 F j0 y1.toNatClampNeg y2) fun F2 =>
  (f_Md_aheadBase L x3 F2).bind fun q5 =>
  if inb x1 (mGl L (mRf L i0 29)) then none else
  if (mGa L q5.2 (mRf L i0 29) x1.toNatClampNeg) < q5.1 then
    if inb x1 (mGl L (mRf L i0 32)) then none else
    b_Md_addSequences_151 L k41 k82 i0 x1 x3 (mRf L i0 32) x1 (mGa L q5.2 (mRf L i0 32) x1.toNatClampNeg) q5.2
  else
    b_Md_addSequences_151 L k41 k82 i0 x1 x3 (mRf L i0 32) x1 x3 q5.2
set_option maxHeartbeats 4000000 in
theorem t_Md_addSequences_122 (hC : Cx X L p s m args meth c cc_Md_addSequences 4 w_Md_addSequences R_Md none) {k41 : Nat → Int32 → Mem → Option Mem} {k82 : Nat → Int32 → Int32 → Mem → Option Mem} {out : Mem} (hk41 : ∀ (i0 : Nat) (x1 : Int32) (F : Mem) (H : Heap) (locs : List Loc) (ls : Array Slot), oO L 12 i0 → Iv X L s H locs F → lv_has ls 4 [(0, .ref (mAd X i0)), (1, .int x1)] → k41 i0 x1 F = some out → W p l e (headSpec w_Md_addSequences r_Md_addSequences).room s m args below meth c H locs 0 0 (MQ below (QV X L out) args s 0 0 (AA X L)) (F0 m 41 ls [])) (hk82 : ∀ (i0 : Nat) (x1 : Int32) (x3 : Int32) (F : Mem) (H : Heap) (locs : List Loc) (ls : Array Slot), oO L 12 i0 → Iv X L s H locs F → lv_has ls 4 [(0, .ref (mAd X i0)), (1, .int x1), (3, .int x3)] → k82 i0 x1 x3 F = some out → W p l e (headSpec w_Md_addSequences r_Md_addSequences).room s m args below meth c H locs 0 0 (MQ below (QV X L out) args s 0 0 (AA X L)) (F0 m 82 ls [])) {i0 : Nat} {x1 : Int32} {x3 : Int32} {j0 : Nat} {y1 : Int32} {y2 : Int32} {F : Mem} {H : Heap} {locs : List Loc} {ls : Array Slot} (o0 : oO L 12 i0) (oy0 : oA L j0) (hI : Iv X L s H locs F) (hl : lv_has ls 4 [(0, .ref (mAd X i0)), (1, .int x1), (3, .int x3)]) (h : b_Md_addSequences_122 L k41 k82 i0 x1 x3 j0 y1 y2 F = some out) : W p l e (headSpec w_Md_addSequences r_Md_addSequences).room s m args below meth c H locs 0 0 (MQ below (QV X L out) args s 0 0 (AA X L)) (F0 m 122 ls [.int y2, .int y1, .ref (mAd X j0)]) := by
  unfold b_Md_addSequences_122 at h
  obtain ⟨S, hK, hT, hW, hr, hlk⟩ := id hC
  have hx := S.1
  have hb := S.2.1
  obtain ⟨z1, h⟩ := un_if h
  refine w_iast S hK hI oy0 z1 d_Md_addSequences_122 (fun H locs F2 e3 hI => ?_)
  replace h := un_lt h _ e3
  refine lv_aload_n hx hb d_Md_addSequences_123 rfl (lv_at hl 0 rfl) ?_
  have p4 := wt_a hW o0 32 rfl (by decide) (by decide)
  refine w_getR (T := T_Md) S hK hI o0 rfl hin_Md 32 (index := 62) (by decide) lf_Md_62 d_Md_addSequences_124 ?_
  refine lv_iload_n hx hb d_Md_addSequences_127 rfl (lv_at hl 1 rfl) ?_
  refine lv_iload_n hx hb d_Md_addSequences_128 rfl (lv_at hl 2 rfl) ?_
  obtain ⟨q5, e6, h⟩ := un_bi h
  refine w_callSi (As := [.int x3]) (rest := [.int x1, .ref (mAd X (mRf L i0 32))]) S hK hI hT (c_Md_aheadBase l hW  e6) (va_cwS 1 S.2.2.2.2 (gd_S lc_Md_aheadBase lm_Md_191 lst_Md_aheadBase ln_Md) rfl rfl rfl hd_Md_aheadBase.2 ⟨Nat.le_of_ble_eq_true rfl, Nat.le_of_ble_eq_true rfl⟩)  rfl rfl hl.1 (Nat.le_of_ble_eq_true rfl) d_Md_addSequences_129 ⟨Nat.zero_le _, Nat.zero_le _⟩ (fun H locs hI => ?_)
  refine lv_aload_n hx hb d_Md_addSequences_132 rfl (lv_at hl 0 rfl) ?_
  have p7 := wt_a hW o0 29 rfl (by decide) (by decide)
  refine w_getR (T := T_Md) S hK hI o0 rfl hin_Md 29 (index := 53) (by decide) lf_Md_53 d_Md_addSequences_133 ?_
  refine lv_iload_n hx hb d_Md_addSequences_136 rfl (lv_at hl 1 rfl) ?_
  obtain ⟨z8, h⟩ := un_if h
  refine w_iald S hK hI hT p7 z8 d_Md_addSequences_137 ?_
  refine lv_icmp_gt (tgt := 145) hx hb d_Md_addSequences_138 rfl (fun hc => ?_) (fun hc => ?_)
  · replace h := (if_pos hc).symm.trans h
    refine lv_aload_n hx hb d_Md_addSequences_145 rfl (lv_at hl 0 rfl) ?_
    have p9 := wt_a hW o0 32 rfl (by decide) (by decide)
    refine w_getR (T := T_Md) S hK hI o0 rfl hin_Md 32 (index := 62) (by decide) lf_Md_62 d_Md_addSequences_146 ?_
    refine lv_iload_n hx hb d_Md_addSequences_149 rfl (lv_at hl 1 rfl) ?_
    obtain ⟨z10, h⟩ := un_if h
    refine w_iald S hK hI hT p9 z10 d_Md_addSequences_150 ?_
    exact t_Md_addSequences_151 hC hk41 hk82 o0 p4 hI hl h
  · replace h := (if_neg hc).symm.trans h
    refine lv_iload_n hx hb d_Md_addSequences_141 rfl (lv_at hl 2 rfl) ?_
    refine lv_goto (tgt := 151) hx hb d_Md_addSequences_142 rfl ?_
    exact t_Md_addSequences_151 hC hk41 hk82 o0 p4 hI hl h
def b_Md_addSequences_82 (L : La) (k41 : Nat → Int32 → Mem → Option Mem) (k82 : Nat → Int32 → Int32 → Mem → Option Mem) (i0 : Nat) (x1 : Int32) (x3 : Int32) (F : Mem) : Option Mem :=
  if (12 : Int32) ≤ x3 then
    k41 i0 (x1 + (1 : Int32)) F
  else
    (f_Md_matchBase L x3 F).bind fun q2 =>
    if inb x1 (mGl L (mRf L i0 31)) then none else
    if (mGa L q2.2 (mRf L i0 31) x1.toNatClampNeg) < q2.1 then
      if inb ((80 : Int32) + x1) (mGl L (mRf L i0 32)) then none else
      b_Md_addSequences_122 L k41 k82 i0 x1 x3 (mRf L i0 32) ((80 : Int32) + x1) (mGa L q2.2 (mRf L i0 32) ((80 : Int32) + x1).toNatClampNeg) q2.2
    else
      b_Md_addSequences_122 L k41 k82 i0 x1 x3 (mRf L i0 32) ((80 : Int32) + x1) x3 q2.2
set_option maxHeartbeats 4000000 in
theorem t_Md_addSequences_82 (hC : Cx X L p s m args meth c cc_Md_addSequences 4 w_Md_addSequences R_Md none) {k41 : Nat → Int32 → Mem → Option Mem} {k82 : Nat → Int32 → Int32 → Mem → Option Mem} {out : Mem} (hk41 : ∀ (i0 : Nat) (x1 : Int32) (F : Mem) (H : Heap) (locs : List Loc) (ls : Array Slot), oO L 12 i0 → Iv X L s H locs F → lv_has ls 4 [(0, .ref (mAd X i0)), (1, .int x1)] → k41 i0 x1 F = some out → W p l e (headSpec w_Md_addSequences r_Md_addSequences).room s m args below meth c H locs 0 0 (MQ below (QV X L out) args s 0 0 (AA X L)) (F0 m 41 ls [])) (hk82 : ∀ (i0 : Nat) (x1 : Int32) (x3 : Int32) (F : Mem) (H : Heap) (locs : List Loc) (ls : Array Slot), oO L 12 i0 → Iv X L s H locs F → lv_has ls 4 [(0, .ref (mAd X i0)), (1, .int x1), (3, .int x3)] → k82 i0 x1 x3 F = some out → W p l e (headSpec w_Md_addSequences r_Md_addSequences).room s m args below meth c H locs 0 0 (MQ below (QV X L out) args s 0 0 (AA X L)) (F0 m 82 ls [])) {i0 : Nat} {x1 : Int32} {x3 : Int32} {F : Mem} {H : Heap} {locs : List Loc} {ls : Array Slot} (o0 : oO L 12 i0) (hI : Iv X L s H locs F) (hl : lv_has ls 4 [(0, .ref (mAd X i0)), (1, .int x1), (3, .int x3)]) (h : b_Md_addSequences_82 L k41 k82 i0 x1 x3 F = some out) : W p l e (headSpec w_Md_addSequences r_Md_addSequences).room s m args below meth c H locs 0 0 (MQ below (QV X L out) args s 0 0 (AA X L)) (F0 m 82 ls []) := by
  unfold b_Md_addSequences_82 at h
  obtain ⟨S, hK, hT, hW, hr, hlk⟩ := id hC
  have hx := S.1
  have hb := S.2.1
  refine lv_iload_n hx hb d_Md_addSequences_82 rfl (lv_at hl 2 rfl) ?_
  refine lv_bipush (v := 12) hx hb d_Md_addSequences_83 (by decide) ?_
  refine lv_icmp_ge (tgt := 158) hx hb d_Md_addSequences_85 rfl (fun hc => ?_) (fun hc => ?_)
  · replace h := (if_pos hc).symm.trans h
    refine lv_iinc (k := 1) (v := x1 + (1 : Int32)) (lv' := [(1, .int (x1 + (1 : Int32))), (0, .ref (mAd X i0)), (3, .int x3)]) hx hb d_Md_addSequences_158 hl rfl rfl (by decide) rfl (fun ls hl => ?_)
    refine lv_goto (tgt := 41) hx hb d_Md_addSequences_161 rfl ?_
    exact hk41 _ _ _ _ _ _ o0 hI (lv_sub hl [1, 0] rfl) h
  · replace h := (if_neg hc).symm.trans h
    refine lv_aload_n hx hb d_Md_addSequences_88 rfl (lv_at hl 0 rfl) ?_
    have p1 := wt_a hW o0 32 rfl (by decide) (by decide)
    refine w_getR (T := T_Md) S hK hI o0 rfl hin_Md 32 (index := 62) (by decide) lf_Md_62 d_Md_addSequences_89 ?_
    refine lv_bipush (v := 80) hx hb d_Md_addSequences_92 (by decide) ?_
    refine lv_iload_n hx hb d_Md_addSequences_94 rfl (lv_at hl 1 rfl) ?_
    refine lv_iadd hx hb d_Md_addSequences_95 ?_
    refine lv_iload_n hx hb d_Md_addSequences_96 rfl (lv_at hl 2 rfl) ?_
    obtain ⟨q2, e3, h⟩ := un_bi h
    refine w_callSi (As := [.int x3]) (rest := [.int ((80 : Int32) + x1), .ref (mAd X (mRf L i0 32))]) S hK hI hT (c_Md_matchBase l hW  e3) (va_cwS 1 S.2.2.2.2 (gd_S lc_Md_matchBase lm_Md_185 lst_Md_matchBase ln_Md) rfl rfl rfl hd_Md_matchBase.2 ⟨Nat.le_of_ble_eq_true rfl, Nat.le_of_ble_eq_true rfl⟩)  rfl rfl hl.1 (Nat.le_of_ble_eq_true rfl) d_Md_addSequences_97 ⟨Nat.zero_le _, Nat.zero_le _⟩ (fun H locs hI => ?_)
    refine lv_aload_n hx hb d_Md_addSequences_100 rfl (lv_at hl 0 rfl) ?_
    have p4 := wt_a hW o0 31 rfl (by decide) (by decide)
    refine w_getR (T := T_Md) S hK hI o0 rfl hin_Md 31 (index := 59) (by decide) lf_Md_59 d_Md_addSequences_101 ?_
    refine lv_iload_n hx hb d_Md_addSequences_104 rfl (lv_at hl 1 rfl) ?_
    obtain ⟨z5, h⟩ := un_if h
    refine w_iald S hK hI hT p4 z5 d_Md_addSequences_105 ?_
    refine lv_icmp_gt (tgt := 113) hx hb d_Md_addSequences_106 rfl (fun hc => ?_) (fun hc => ?_)
    · replace h := (if_pos hc).symm.trans h
      refine lv_aload_n hx hb d_Md_addSequences_113 rfl (lv_at hl 0 rfl) ?_
      have p6 := wt_a hW o0 32 rfl (by decide) (by decide)
      refine w_getR (T := T_Md) S hK hI o0 rfl hin_Md 32 (index := 62) (by decide) lf_Md_62 d_Md_addSequences_114 ?_
      refine lv_bipush (v := 80) hx hb d_Md_addSequences_117 (by decide) ?_
      refine lv_iload_n hx hb d_Md_addSequences_119 rfl (lv_at hl 1 rfl) ?_
      refine lv_iadd hx hb d_Md_addSequences_120 ?_
      obtain ⟨z7, h⟩ := un_if h
      refine w_iald S hK hI hT p6 z7 d_Md_addSequences_121 ?_
      exact t_Md_addSequences_122 hC hk41 hk82 o0 p1 hI hl h
    · replace h := (if_neg hc).symm.trans h
      refine lv_iload_n hx hb d_Md_addSequences_109 rfl (lv_at hl 2 rfl) ?_
      refine lv_goto (tgt := 122) hx hb d_Md_addSequences_110 rfl ?_
      exact t_Md_addSequences_122 hC hk41 hk82 o0 p1 hI hl h
def f_Md_addSequences_82 (L : La) (k41 : Nat → Int32 → Mem → Option Mem) : Nat → Nat → Int32 → Int32 → Mem → Option Mem
  | 0 => fun _ _ _ _ => none
  | n + 1 => b_Md_addSequences_82 L k41 (f_Md_addSequences_82 L k41 n)
theorem tf_Md_addSequences_82 (hC : Cx X L p s m args meth c cc_Md_addSequences 4 w_Md_addSequences R_Md none) {k41 : Nat → Int32 → Mem → Option Mem} {out : Mem} (hk41 : ∀ (i0 : Nat) (x1 : Int32) (F : Mem) (H : Heap) (locs : List Loc) (ls : Array Slot), oO L 12 i0 → Iv X L s H locs F → lv_has ls 4 [(0, .ref (mAd X i0)), (1, .int x1)] → k41 i0 x1 F = some out → W p l e (headSpec w_Md_addSequences r_Md_addSequences).room s m args below meth c H locs 0 0 (MQ below (QV X L out) args s 0 0 (AA X L)) (F0 m 41 ls [])) (n : Nat) : ∀ (i0 : Nat) (x1 : Int32) (x3 : Int32) (F : Mem) (H : Heap) (locs : List Loc) (ls : Array Slot), oO L 12 i0 → Iv X L s H locs F → lv_has ls 4 [(0, .ref (mAd X i0)), (1, .int x1), (3, .int x3)] → f_Md_addSequences_82 L k41 n i0 x1 x3 F = some out → W p l e (headSpec w_Md_addSequences r_Md_addSequences).room s m args below meth c H locs 0 0 (MQ below (QV X L out) args s 0 0 (AA X L)) (F0 m 82 ls []) := by
  induction n with
  | zero => intro i0 x1 x3 F H locs ls o0 hI hl h; cases h
  | succ n ih => intro i0 x1 x3 F H locs ls o0 hI hl h; exact t_Md_addSequences_82 hC hk41 ih o0 hI hl h
def b_Md_addSequences_51 (L : La) (k41 : Nat → Int32 → Mem → Option Mem) (k51 : Nat → Int32 → Int32 → Mem → Option Mem) (i0 : Nat) (x1 : Int32) (x2 : Int32) (F : Mem) : Option Mem :=
  if inb x1 (mGl L (mRf L i0 30)) then none else
  if (jshr (mGa L F (mRf L i0 30) x1.toNatClampNeg) (x2 + (1 : Int32))) ≤ 0 then
    if inb ((40 : Int32) + x1) (mLn L (mRf L i0 32)) ∨ ¬ (mRf L i0 32) < mNc L then none else
    lt' (u2 F (mRf L i0 32) ((40 : Int32) + x1).toNatClampNeg x2) fun F5 =>
    f_Md_addSequences_82 L k41 mFU i0 x1 (0 : Int32) F5
  else
    k51 i0 x1 (x2 + (1 : Int32)) F
set_option maxHeartbeats 4000000 in
theorem t_Md_addSequences_51 (hC : Cx X L p s m args meth c cc_Md_addSequences 4 w_Md_addSequences R_Md none) {k41 : Nat → Int32 → Mem → Option Mem} {k51 : Nat → Int32 → Int32 → Mem → Option Mem} {out : Mem} (hk41 : ∀ (i0 : Nat) (x1 : Int32) (F : Mem) (H : Heap) (locs : List Loc) (ls : Array Slot), oO L 12 i0 → Iv X L s H locs F → lv_has ls 4 [(0, .ref (mAd X i0)), (1, .int x1)] → k41 i0 x1 F = some out → W p l e (headSpec w_Md_addSequences r_Md_addSequences).room s m args below meth c H locs 0 0 (MQ below (QV X L out) args s 0 0 (AA X L)) (F0 m 41 ls [])) (hk51 : ∀ (i0 : Nat) (x1 : Int32) (x2 : Int32) (F : Mem) (H : Heap) (locs : List Loc) (ls : Array Slot), oO L 12 i0 → Iv X L s H locs F → lv_has ls 4 [(0, .ref (mAd X i0)), (1, .int x1), (2, .int x2)] → k51 i0 x1 x2 F = some out → W p l e (headSpec w_Md_addSequences r_Md_addSequences).room s m args below meth c H locs 0 0 (MQ below (QV X L out) args s 0 0 (AA X L)) (F0 m 51 ls [])) {i0 : Nat} {x1 : Int32} {x2 : Int32} {F : Mem} {H : Heap} {locs : List Loc} {ls : Array Slot} (o0 : oO L 12 i0) (hI : Iv X L s H locs F) (hl : lv_has ls 4 [(0, .ref (mAd X i0)), (1, .int x1), (2, .int x2)]) (h : b_Md_addSequences_51 L k41 k51 i0 x1 x2 F = some out) : W p l e (headSpec w_Md_addSequences r_Md_addSequences).room s m args below meth c H locs 0 0 (MQ below (QV X L out) args s 0 0 (AA X L)) (F0 m 51 ls []) := by
  unfold b_Md_addSequences_51 at h
  obtain ⟨S, hK, hT, hW, hr, hlk⟩ := id hC
  have hx := S.1
  have hb := S.2.1
  refine lv_aload_n hx hb d_Md_addSequences_51 rfl (lv_at hl 0 rfl) ?_
  have p1 := wt_a hW o0 30 rfl (by decide) (by decide)
  refine w_getR (T := T_Md) S hK hI o0 rfl hin_Md 30 (index := 56) (by decide) lf_Md_56 d_Md_addSequences_52 ?_
  refine lv_iload_n hx hb d_Md_addSequences_55 rfl (lv_at hl 1 rfl) ?_
  obtain ⟨z2, h⟩ := un_if h
  refine w_iald S hK hI hT p1 z2 d_Md_addSequences_56 ?_
  refine lv_iload_n hx hb d_Md_addSequences_57 rfl (lv_at hl 2 rfl) ?_
  refine lv_iconst (v := 1) hx hb d_Md_addSequences_58 rfl ?_
  refine lv_iadd hx hb d_Md_addSequences_59 ?_
  refine lv_ishr hx hb d_Md_addSequences_60 ?_
  refine lv_if_le (tgt := 70) hx hb d_Md_addSequences_61 rfl (fun hc => ?_) (fun hc => ?_)
  · replace h := (if_pos hc).symm.trans h
    refine lv_aload_n hx hb d_Md_addSequences_70 rfl (lv_at hl 0 rfl) ?_
    have p3 := wt_a hW o0 32 rfl (by decide) (by decide)
    refine w_getR (T := T_Md) S hK hI o0 rfl hin_Md 32 (index := 62) (by decide) lf_Md_62 d_Md_addSequences_71 ?_
    refine lv_bipush (v := 40) hx hb d_Md_addSequences_74 (by decide) ?_
    refine lv_iload_n hx hb d_Md_addSequences_76 rfl (lv_at hl 1 rfl) ?_
    refine lv_iadd hx hb d_Md_addSequences_77 ?_
    refine lv_iload_n hx hb d_Md_addSequences_78 rfl (lv_at hl 2 rfl) ?_
    obtain ⟨z4, h⟩ := un_if h
    refine w_iast S hK hI p3 z4 d_Md_addSequences_79 (fun H locs F5 e6 hI => ?_)
    replace h := un_lt h _ e6
    refine lv_iconst (v := 0) hx hb d_Md_addSequences_80 rfl ?_
    refine lv_istore_n (lv' := [(3, .int (0 : Int32)), (0, .ref (mAd X i0)), (1, .int x1), (2, .int x2)]) hx hb d_Md_addSequences_81 rfl hl (by decide) rfl (fun ls hl => ?_)
    exact tf_Md_addSequences_82 hC hk41 mFU _ _ _ _ _ _ _ o0 hI (lv_sub hl [1, 2, 0] rfl) h
  · replace h := (if_neg hc).symm.trans h
    refine lv_iinc (k := 2) (v := x2 + (1 : Int32)) (lv' := [(2, .int (x2 + (1 : Int32))), (0, .ref (mAd X i0)), (1, .int x1)]) hx hb d_Md_addSequences_64 hl rfl rfl (by decide) rfl (fun ls hl => ?_)
    refine lv_goto (tgt := 51) hx hb d_Md_addSequences_67 rfl ?_
    exact hk51 _ _ _ _ _ _ _ o0 hI (lv_sub hl [1, 2, 0] rfl) h
def f_Md_addSequences_51 (L : La) (k41 : Nat → Int32 → Mem → Option Mem) : Nat → Nat → Int32 → Int32 → Mem → Option Mem
  | 0 => fun _ _ _ _ => none
  | n + 1 => b_Md_addSequences_51 L k41 (f_Md_addSequences_51 L k41 n)
theorem tf_Md_addSequences_51 (hC : Cx X L p s m args meth c cc_Md_addSequences 4 w_Md_addSequences R_Md none) {k41 : Nat → Int32 → Mem → Option Mem} {out : Mem} (hk41 : ∀ (i0 : Nat) (x1 : Int32) (F : Mem) (H : Heap) (locs : List Loc) (ls : Array Slot), oO L 12 i0 → Iv X L s H locs F → lv_has ls 4 [(0, .ref (mAd X i0)), (1, .int x1)] → k41 i0 x1 F = some out → W p l e (headSpec w_Md_addSequences r_Md_addSequences).room s m args below meth c H locs 0 0 (MQ below (QV X L out) args s 0 0 (AA X L)) (F0 m 41 ls [])) (n : Nat) : ∀ (i0 : Nat) (x1 : Int32) (x2 : Int32) (F : Mem) (H : Heap) (locs : List Loc) (ls : Array Slot), oO L 12 i0 → Iv X L s H locs F → lv_has ls 4 [(0, .ref (mAd X i0)), (1, .int x1), (2, .int x2)] → f_Md_addSequences_51 L k41 n i0 x1 x2 F = some out → W p l e (headSpec w_Md_addSequences r_Md_addSequences).room s m args below meth c H locs 0 0 (MQ below (QV X L out) args s 0 0 (AA X L)) (F0 m 51 ls []) := by
  induction n with
  | zero => intro i0 x1 x2 F H locs ls o0 hI hl h; cases h
  | succ n ih => intro i0 x1 x2 F H locs ls o0 hI hl h; exact t_Md_addSequences_51 hC hk41 ih o0 hI hl h
def b_Md_addSequences_41 (L : La) (k41 : Nat → Int32 → Mem → Option Mem) (i0 : Nat) (x1 : Int32) (F : Mem) : Option Mem :=
  if (F i0 28) ≤ x1 then
    f_Md_addSequences_166 L  mFU i0 (0 : Int32) F
  else
    f_Md_addSequences_51 L k41 mFU i0 x1 (0 : Int32) F
set_option maxHeartbeats 4000000 in
theorem t_Md_addSequences_41 (hC : Cx X L p s m args meth c cc_Md_addSequences 4 w_Md_addSequences R_Md none) {k41 : Nat → Int32 → Mem → Option Mem} {out : Mem} (hk41 : ∀ (i0 : Nat) (x1 : Int32) (F : Mem) (H : Heap) (locs : List Loc) (ls : Array Slot), oO L 12 i0 → Iv X L s H locs F → lv_has ls 4 [(0, .ref (mAd X i0)), (1, .int x1)] → k41 i0 x1 F = some out → W p l e (headSpec w_Md_addSequences r_Md_addSequences).room s m args below meth c H locs 0 0 (MQ below (QV X L out) args s 0 0 (AA X L)) (F0 m 41 ls [])) {i0 : Nat} {x1 : Int32} {F : Mem} {H : Heap} {locs : List Loc} {ls : Array Slot} (o0 : oO L 12 i0) (hI : Iv X L s H locs F) (hl : lv_has ls 4 [(0, .ref (mAd X i0)), (1, .int x1)]) (h : b_Md_addSequences_41 L k41 i0 x1 F = some out) : W p l e (headSpec w_Md_addSequences r_Md_addSequences).room s m args below meth c H locs 0 0 (MQ below (QV X L out) args s 0 0 (AA X L)) (F0 m 41 ls []) := by
  unfold b_Md_addSequences_41 at h
  obtain ⟨S, hK, hT, hW, hr, hlk⟩ := id hC
  have hx := S.1
  have hb := S.2.1
  refine lv_iload_n hx hb d_Md_addSequences_41 rfl (lv_at hl 1 rfl) ?_
  refine lv_aload_n hx hb d_Md_addSequences_42 rfl (lv_at hl 0 rfl) ?_
  refine w_getI (T := T_Md) S hK hI o0 rfl hin_Md 28 (index := 178) (by decide) lf_Md_178 d_Md_addSequences_43 ?_
  refine lv_icmp_ge (tgt := 164) hx hb d_Md_addSequences_46 rfl (fun hc => ?_) (fun hc => ?_)
  · replace h := (if_pos hc).symm.trans h
    refine lv_iconst (v := 0) hx hb d_Md_addSequences_164 rfl ?_
    refine lv_istore_n (lv' := [(1, .int (0 : Int32)), (0, .ref (mAd X i0))]) hx hb d_Md_addSequences_165 rfl hl (by decide) rfl (fun ls hl => ?_)
    exact tf_Md_addSequences_166 hC  mFU _ _ _ _ _ _ o0 hI (lv_sub hl [1, 0] rfl) h
  · replace h := (if_neg hc).symm.trans h
    refine lv_iconst (v := 0) hx hb d_Md_addSequences_49 rfl ?_
    refine lv_istore_n (lv' := [(2, .int (0 : Int32)), (0, .ref (mAd X i0)), (1, .int x1)]) hx hb d_Md_addSequences_50 rfl hl (by decide) rfl (fun ls hl => ?_)
    exact tf_Md_addSequences_51 hC hk41 mFU _ _ _ _ _ _ _ o0 hI (lv_sub hl [1, 2, 0] rfl) h
def f_Md_addSequences_41 (L : La)  : Nat → Nat → Int32 → Mem → Option Mem
  | 0 => fun _ _ _ => none
  | n + 1 => b_Md_addSequences_41 L (f_Md_addSequences_41 L  n)
theorem tf_Md_addSequences_41 (hC : Cx X L p s m args meth c cc_Md_addSequences 4 w_Md_addSequences R_Md none)  {out : Mem}  (n : Nat) : ∀ (i0 : Nat) (x1 : Int32) (F : Mem) (H : Heap) (locs : List Loc) (ls : Array Slot), oO L 12 i0 → Iv X L s H locs F → lv_has ls 4 [(0, .ref (mAd X i0)), (1, .int x1)] → f_Md_addSequences_41 L  n i0 x1 F = some out → W p l e (headSpec w_Md_addSequences r_Md_addSequences).room s m args below meth c H locs 0 0 (MQ below (QV X L out) args s 0 0 (AA X L)) (F0 m 41 ls []) := by
  induction n with
  | zero => intro i0 x1 F H locs ls o0 hI hl h; cases h
  | succ n ih => intro i0 x1 F H locs ls o0 hI hl h; exact t_Md_addSequences_41 hC ih o0 hI hl h
def b_Md_addSequences_23 (L : La) (k23 : Nat → Int32 → Mem → Option Mem) (i0 : Nat) (x1 : Int32) (F : Mem) : Option Mem :=
  if (3 : Int32) ≤ x1 then
    f_Md_addSequences_41 L  mFU i0 (0 : Int32) F
  else
    (f_Md_setUsual L i0 x1 F).bind fun F1 =>
    k23 i0 (x1 + (1 : Int32)) F1
set_option maxHeartbeats 4000000 in
theorem t_Md_addSequences_23 (hC : Cx X L p s m args meth c cc_Md_addSequences 4 w_Md_addSequences R_Md none) {k23 : Nat → Int32 → Mem → Option Mem} {out : Mem} (hk23 : ∀ (i0 : Nat) (x1 : Int32) (F : Mem) (H : Heap) (locs : List Loc) (ls : Array Slot), oO L 12 i0 → Iv X L s H locs F → lv_has ls 4 [(0, .ref (mAd X i0)), (1, .int x1)] → k23 i0 x1 F = some out → W p l e (headSpec w_Md_addSequences r_Md_addSequences).room s m args below meth c H locs 0 0 (MQ below (QV X L out) args s 0 0 (AA X L)) (F0 m 23 ls [])) {i0 : Nat} {x1 : Int32} {F : Mem} {H : Heap} {locs : List Loc} {ls : Array Slot} (o0 : oO L 12 i0) (hI : Iv X L s H locs F) (hl : lv_has ls 4 [(0, .ref (mAd X i0)), (1, .int x1)]) (h : b_Md_addSequences_23 L k23 i0 x1 F = some out) : W p l e (headSpec w_Md_addSequences r_Md_addSequences).room s m args below meth c H locs 0 0 (MQ below (QV X L out) args s 0 0 (AA X L)) (F0 m 23 ls []) := by
  unfold b_Md_addSequences_23 at h
  obtain ⟨S, hK, hT, hW, hr, hlk⟩ := id hC
  have hx := S.1
  have hb := S.2.1
  refine lv_iload_n hx hb d_Md_addSequences_23 rfl (lv_at hl 1 rfl) ?_
  refine lv_iconst (v := 3) hx hb d_Md_addSequences_24 rfl ?_
  refine lv_icmp_ge (tgt := 39) hx hb d_Md_addSequences_25 rfl (fun hc => ?_) (fun hc => ?_)
  · replace h := (if_pos hc).symm.trans h
    refine lv_iconst (v := 0) hx hb d_Md_addSequences_39 rfl ?_
    refine lv_istore_n (lv' := [(1, .int (0 : Int32)), (0, .ref (mAd X i0))]) hx hb d_Md_addSequences_40 rfl hl (by decide) rfl (fun ls hl => ?_)
    exact tf_Md_addSequences_41 hC  mFU _ _ _ _ _ _ o0 hI (lv_sub hl [1, 0] rfl) h
  · replace h := (if_neg hc).symm.trans h
    refine lv_aload_n hx hb d_Md_addSequences_28 rfl (lv_at hl 0 rfl) ?_
    refine lv_iload_n hx hb d_Md_addSequences_29 rfl (lv_at hl 1 rfl) ?_
    obtain ⟨F1, e2, h⟩ := un_bi h
    refine w_callVv (As := [.int x1]) (rest := []) S hK hI hT (c_Md_setUsual l hW o0 e2) (cwV 1 S.2.2.2.2 (gd_V lc_Md_setUsual lm_Md_200 li_Md_setUsual ls_Md_setUsual ln_Md) rfl rfl rfl hd_Md_setUsual ⟨Nat.le_of_ble_eq_true rfl, Nat.le_of_ble_eq_true rfl⟩) o0 rfl (by decide) rfl rfl hl.1 (Nat.le_of_ble_eq_true rfl) d_Md_addSequences_30 ⟨Nat.zero_le _, Nat.zero_le _⟩ (fun H locs hI => ?_)
    refine lv_iinc (k := 1) (v := x1 + (1 : Int32)) (lv' := [(1, .int (x1 + (1 : Int32))), (0, .ref (mAd X i0))]) hx hb d_Md_addSequences_33 hl rfl rfl (by decide) rfl (fun ls hl => ?_)
    refine lv_goto (tgt := 23) hx hb d_Md_addSequences_36 rfl ?_
    exact hk23 _ _ _ _ _ _ o0 hI (lv_sub hl [1, 0] rfl) h
def f_Md_addSequences_23 (L : La)  : Nat → Nat → Int32 → Mem → Option Mem
  | 0 => fun _ _ _ => none
  | n + 1 => b_Md_addSequences_23 L (f_Md_addSequences_23 L  n)
theorem tf_Md_addSequences_23 (hC : Cx X L p s m args meth c cc_Md_addSequences 4 w_Md_addSequences R_Md none)  {out : Mem}  (n : Nat) : ∀ (i0 : Nat) (x1 : Int32) (F : Mem) (H : Heap) (locs : List Loc) (ls : Array Slot), oO L 12 i0 → Iv X L s H locs F → lv_has ls 4 [(0, .ref (mAd X i0)), (1, .int x1)] → f_Md_addSequences_23 L  n i0 x1 F = some out → W p l e (headSpec w_Md_addSequences r_Md_addSequences).room s m args below meth c H locs 0 0 (MQ below (QV X L out) args s 0 0 (AA X L)) (F0 m 23 ls []) := by
  induction n with
  | zero => intro i0 x1 F H locs ls o0 hI hl h; cases h
  | succ n ih => intro i0 x1 F H locs ls o0 hI hl h; exact t_Md_addSequences_23 hC ih o0 hI hl h
def f_Md_addSequences (L : La) (i0 : Nat) (F : Mem) : Option Mem :=
  (f_Md_add L i0 (F i0 28) F).bind fun F1 =>
  if (F1 i0 28) = 0 then
    some F1
  else
    (f_Md_add L i0 (0 : Int32) F1).bind fun F3 =>
    f_Md_addSequences_23 L  mFU i0 (0 : Int32) F3
set_option maxHeartbeats 4000000 in
theorem c_Md_addSequences (l : Launch) {X : Xs} {L : La} (hW : WT L) {out : Mem} {i0 : Nat} {F : Mem} (o0 : oO L 12 i0) (h : f_Md_addSequences L i0 F = some out) : Met l y_Md_addSequences w_Md_addSequences r_Md_addSequences (va_Pc [.ref (mAd X i0)] (Pr X L F)) (QV X L out) 0 0 (AA X L) := by
  refine mk_met (by decide) rfl (Nat.le_of_ble_eq_true rfl) hW ?_
  intro p e s m args below meth c ls hC hI hl
  have hl : lv_has ls 4 [(0, .ref (mAd X i0))] := hl
  generalize hHe : s.heap = H at hI ⊢
  generalize ([] : List Loc) = locs at hI ⊢
  unfold f_Md_addSequences at h
  obtain ⟨S, hK, hT, hW, hr, hlk⟩ := id hC
  have hx := S.1
  have hb := S.2.1
  refine lv_aload_n hx hb d_Md_addSequences_0 rfl (lv_at hl 0 rfl) ?_
  refine lv_aload_n hx hb d_Md_addSequences_1 rfl (lv_at hl 0 rfl) ?_
  refine w_getI (T := T_Md) S hK hI o0 rfl hin_Md 28 (index := 178) (by decide) lf_Md_178 d_Md_addSequences_2 ?_
  obtain ⟨F1, e2, h⟩ := un_bi h
  refine w_callVv (As := [.int (F i0 28)]) (rest := []) S hK hI hT (c_Md_add l hW o0 e2) (cwV 1 S.2.2.2.2 (gd_V lc_Md_add lm_Md_215 li_Md_add ls_Md_add ln_Md) rfl rfl rfl hd_Md_add ⟨Nat.le_of_ble_eq_true rfl, Nat.le_of_ble_eq_true rfl⟩) o0 rfl (by decide) rfl rfl hl.1 (Nat.le_of_ble_eq_true rfl) d_Md_addSequences_5 ⟨Nat.zero_le _, Nat.zero_le _⟩ (fun H locs hI => ?_)
  refine lv_aload_n hx hb d_Md_addSequences_8 rfl (lv_at hl 0 rfl) ?_
  refine w_getI (T := T_Md) S hK hI o0 rfl hin_Md 28 (index := 178) (by decide) lf_Md_178 d_Md_addSequences_9 ?_
  refine lv_if_ne (tgt := 16) hx hb d_Md_addSequences_12 rfl (fun hc => ?_) (fun hc => ?_)
  · replace h := (if_neg hc).symm.trans h
    refine lv_aload_n hx hb d_Md_addSequences_16 rfl (lv_at hl 0 rfl) ?_
    refine lv_iconst (v := 0) hx hb d_Md_addSequences_17 rfl ?_
    obtain ⟨F3, e4, h⟩ := un_bi h
    refine w_callVv (As := [.int (0 : Int32)]) (rest := []) S hK hI hT (c_Md_add l hW o0 e4) (cwV 1 S.2.2.2.2 (gd_V lc_Md_add lm_Md_215 li_Md_add ls_Md_add ln_Md) rfl rfl rfl hd_Md_add ⟨Nat.le_of_ble_eq_true rfl, Nat.le_of_ble_eq_true rfl⟩) o0 rfl (by decide) rfl rfl hl.1 (Nat.le_of_ble_eq_true rfl) d_Md_addSequences_18 ⟨Nat.zero_le _, Nat.zero_le _⟩ (fun H locs hI => ?_)
    refine lv_iconst (v := 0) hx hb d_Md_addSequences_21 rfl ?_
    refine lv_istore_n (lv' := [(1, .int (0 : Int32)), (0, .ref (mAd X i0))]) hx hb d_Md_addSequences_22 rfl hl (by decide) rfl (fun ls hl => ?_)
    exact tf_Md_addSequences_23 hC  mFU _ _ _ _ _ _ o0 hI (lv_sub hl [1, 0] rfl) h
  · replace h := (if_pos hc).symm.trans h
    exact w_vret S hK hr hlk hI d_Md_addSequences_15 h
end
theorem d_Md_makePack_0 : decode cc_Md_makePack 0 = .ok (.aload_n 0, 1) := by decide +kernel
theorem d_Md_makePack_1 : decode cc_Md_makePack 1 = .ok (.getfield 19, 3) := by decide +kernel
theorem d_Md_makePack_4 : decode cc_Md_makePack 4 = .ok (.iconst 0, 1) := by decide +kernel
theorem d_Md_makePack_5 : decode cc_Md_makePack 5 = .ok (.iconst 1, 1) := by decide +kernel
theorem d_Md_makePack_6 : decode cc_Md_makePack 6 = .ok (.iastore, 1) := by decide +kernel
theorem d_Md_makePack_7 : decode cc_Md_makePack 7 = .ok (.aload_n 0, 1) := by decide +kernel
theorem d_Md_makePack_8 : decode cc_Md_makePack 8 = .ok (.getfield 19, 3) := by decide +kernel
theorem d_Md_makePack_11 : decode cc_Md_makePack 11 = .ok (.iconst 1, 1) := by decide +kernel
theorem d_Md_makePack_12 : decode cc_Md_makePack 12 = .ok (.iconst 4, 1) := by decide +kernel
theorem d_Md_makePack_13 : decode cc_Md_makePack 13 = .ok (.iastore, 1) := by decide +kernel
theorem d_Md_makePack_14 : decode cc_Md_makePack 14 = .ok (.aload_n 0, 1) := by decide +kernel
theorem d_Md_makePack_15 : decode cc_Md_makePack 15 = .ok (.getfield 19, 3) := by decide +kernel
theorem d_Md_makePack_18 : decode cc_Md_makePack 18 = .ok (.iconst 2, 1) := by decide +kernel
theorem d_Md_makePack_19 : decode cc_Md_makePack 19 = .ok (.bipush (8), 2) := by decide +kernel
theorem d_Md_makePack_21 : decode cc_Md_makePack 21 = .ok (.iastore, 1) := by decide +kernel
theorem d_Md_makePack_22 : decode cc_Md_makePack 22 = .ok (.aload_n 0, 1) := by decide +kernel
theorem d_Md_makePack_23 : decode cc_Md_makePack 23 = .ok (.iconst 0, 1) := by decide +kernel
theorem d_Md_makePack_24 : decode cc_Md_makePack 24 = .ok (.putfield 209, 3) := by decide +kernel
theorem d_Md_makePack_27 : decode cc_Md_makePack 27 = .ok (.aload_n 0, 1) := by decide +kernel
theorem d_Md_makePack_28 : decode cc_Md_makePack 28 = .ok (.invokevirtual 252, 3) := by decide +kernel
theorem d_Md_makePack_31 : decode cc_Md_makePack 31 = .ok (.aload_n 0, 1) := by decide +kernel
theorem d_Md_makePack_32 : decode cc_Md_makePack 32 = .ok (.getfield 150, 3) := by decide +kernel
theorem d_Md_makePack_35 : decode cc_Md_makePack 35 = .ok (.iconst 1, 1) := by decide +kernel
theorem d_Md_makePack_36 : decode cc_Md_makePack 36 = .ok (.if_icmp .le (36), 3) := by decide +kernel
theorem d_Md_makePack_39 : decode cc_Md_makePack 39 = .ok (.aload_n 0, 1) := by decide +kernel
theorem d_Md_makePack_40 : decode cc_Md_makePack 40 = .ok (.iconst 1, 1) := by decide +kernel
theorem d_Md_makePack_41 : decode cc_Md_makePack 41 = .ok (.invokevirtual 255, 3) := by decide +kernel
theorem d_Md_makePack_44 : decode cc_Md_makePack 44 = .ok (.ifCond .eq (28), 3) := by decide +kernel
theorem d_Md_makePack_47 : decode cc_Md_makePack 47 = .ok (.aload_n 0, 1) := by decide +kernel
theorem d_Md_makePack_48 : decode cc_Md_makePack 48 = .ok (.iconst 4, 1) := by decide +kernel
theorem d_Md_makePack_49 : decode cc_Md_makePack 49 = .ok (.aload_n 0, 1) := by decide +kernel
theorem d_Md_makePack_50 : decode cc_Md_makePack 50 = .ok (.getfield 150, 3) := by decide +kernel
theorem d_Md_makePack_53 : decode cc_Md_makePack 53 = .ok (.imul, 1) := by decide +kernel
theorem d_Md_makePack_54 : decode cc_Md_makePack 54 = .ok (.iconst 1, 1) := by decide +kernel
theorem d_Md_makePack_55 : decode cc_Md_makePack 55 = .ok (.iadd, 1) := by decide +kernel
theorem d_Md_makePack_56 : decode cc_Md_makePack 56 = .ok (.invokevirtual 215, 3) := by decide +kernel
theorem d_Md_makePack_59 : decode cc_Md_makePack 59 = .ok (.aload_n 0, 1) := by decide +kernel
theorem d_Md_makePack_60 : decode cc_Md_makePack 60 = .ok (.aload_n 0, 1) := by decide +kernel
theorem d_Md_makePack_61 : decode cc_Md_makePack 61 = .ok (.getfield 22, 3) := by decide +kernel
theorem d_Md_makePack_64 : decode cc_Md_makePack 64 = .ok (.iconst 0, 1) := by decide +kernel
theorem d_Md_makePack_65 : decode cc_Md_makePack 65 = .ok (.iaload, 1) := by decide +kernel
theorem d_Md_makePack_66 : decode cc_Md_makePack 66 = .ok (.invokevirtual 215, 3) := by decide +kernel
theorem d_Md_makePack_69 : decode cc_Md_makePack 69 = .ok (.goto (46), 3) := by decide +kernel
theorem d_Md_makePack_72 : decode cc_Md_makePack 72 = .ok (.aload_n 0, 1) := by decide +kernel
theorem d_Md_makePack_73 : decode cc_Md_makePack 73 = .ok (.invokevirtual 259, 3) := by decide +kernel
theorem d_Md_makePack_76 : decode cc_Md_makePack 76 = .ok (.ifCond .ne (39), 3) := by decide +kernel
theorem d_Md_makePack_79 : decode cc_Md_makePack 79 = .ok (.aload_n 0, 1) := by decide +kernel
theorem d_Md_makePack_80 : decode cc_Md_makePack 80 = .ok (.iconst 4, 1) := by decide +kernel
theorem d_Md_makePack_81 : decode cc_Md_makePack 81 = .ok (.aload_n 0, 1) := by decide +kernel
theorem d_Md_makePack_82 : decode cc_Md_makePack 82 = .ok (.getfield 150, 3) := by decide +kernel
theorem d_Md_makePack_85 : decode cc_Md_makePack 85 = .ok (.imul, 1) := by decide +kernel
theorem d_Md_makePack_86 : decode cc_Md_makePack 86 = .ok (.invokevirtual 215, 3) := by decide +kernel
theorem d_Md_makePack_89 : decode cc_Md_makePack 89 = .ok (.iconst 0, 1) := by decide +kernel
theorem d_Md_makePack_90 : decode cc_Md_makePack 90 = .ok (.istore_n 1, 1) := by decide +kernel
theorem d_Md_makePack_91 : decode cc_Md_makePack 91 = .ok (.iload_n 1, 1) := by decide +kernel
theorem d_Md_makePack_92 : decode cc_Md_makePack 92 = .ok (.aload_n 0, 1) := by decide +kernel
theorem d_Md_makePack_93 : decode cc_Md_makePack 93 = .ok (.getfield 150, 3) := by decide +kernel
theorem d_Md_makePack_96 : decode cc_Md_makePack 96 = .ok (.if_icmp .ge (19), 3) := by decide +kernel
theorem d_Md_makePack_99 : decode cc_Md_makePack 99 = .ok (.aload_n 0, 1) := by decide +kernel
theorem d_Md_makePack_100 : decode cc_Md_makePack 100 = .ok (.aload_n 0, 1) := by decide +kernel
theorem d_Md_makePack_101 : decode cc_Md_makePack 101 = .ok (.getfield 22, 3) := by decide +kernel
theorem d_Md_makePack_104 : decode cc_Md_makePack 104 = .ok (.iload_n 1, 1) := by decide +kernel
theorem d_Md_makePack_105 : decode cc_Md_makePack 105 = .ok (.iaload, 1) := by decide +kernel
theorem d_Md_makePack_106 : decode cc_Md_makePack 106 = .ok (.invokevirtual 215, 3) := by decide +kernel
theorem d_Md_makePack_109 : decode cc_Md_makePack 109 = .ok (.iinc 1 (1), 3) := by decide +kernel
theorem d_Md_makePack_112 : decode cc_Md_makePack 112 = .ok (.goto (-21), 3) := by decide +kernel
theorem d_Md_makePack_115 : decode cc_Md_makePack 115 = .ok (.aload_n 0, 1) := by decide +kernel
theorem d_Md_makePack_116 : decode cc_Md_makePack 116 = .ok (.invokevirtual 263, 3) := by decide +kernel
theorem d_Md_makePack_119 : decode cc_Md_makePack 119 = .ok (.return_, 1) := by decide +kernel
section
variable {p : Program} {l : Launch} {e : Env} {s : State} {m : MethodId} {args : Array Value} {below : List Frame} {meth : Method} {c : Code} {X : Xs} {L : La}
def b_Md_makePack_115 (L : La)  (i0 : Nat) (F : Mem) : Option Mem :=
  (f_Md_addSequences L i0 F).bind fun F1 =>
  some F1
set_option maxHeartbeats 4000000 in
theorem t_Md_makePack_115 (hC : Cx X L p s m args meth c cc_Md_makePack 2 w_Md_makePack R_Md none)  {out : Mem}  {i0 : Nat} {F : Mem} {H : Heap} {locs : List Loc} {ls : Array Slot} (o0 : oO L 12 i0) (hI : Iv X L s H locs F) (hl : lv_has ls 2 [(0, .ref (mAd X i0))]) (h : b_Md_makePack_115 L  i0 F = some out) : W p l e (headSpec w_Md_makePack r_Md_makePack).room s m args below meth c H locs 0 0 (MQ below (QV X L out) args s 0 0 (AA X L)) (F0 m 115 ls []) := by
  unfold b_Md_makePack_115 at h
  obtain ⟨S, hK, hT, hW, hr, hlk⟩ := id hC
  have hx := S.1
  have hb := S.2.1
  refine lv_aload_n hx hb d_Md_makePack_115 rfl (lv_at hl 0 rfl) ?_
  obtain ⟨F1, e2, h⟩ := un_bi h
  refine w_callVv (As := []) (rest := []) S hK hI hT (c_Md_addSequences l hW o0 e2) (cwV 0 S.2.2.2.2 (gd_V lc_Md_addSequences lm_Md_263 li_Md_addSequences ls_Md_addSequences ln_Md) rfl rfl rfl hd_Md_addSequences ⟨Nat.le_of_ble_eq_true rfl, Nat.le_of_ble_eq_true rfl⟩) o0 rfl (by decide) rfl rfl hl.1 (Nat.le_of_ble_eq_true rfl) d_Md_makePack_116 ⟨Nat.zero_le _, Nat.zero_le _⟩ (fun H locs hI => ?_)
  exact w_vret S hK hr hlk hI d_Md_makePack_119 h
def b_Md_makePack_91 (L : La) (k91 : Nat → Int32 → Mem → Option Mem) (i0 : Nat) (x1 : Int32) (F : Mem) : Option Mem :=
  if (F i0 13) ≤ x1 then
    b_Md_makePack_115 L  i0 F
  else
    if inb x1 (mGl L (mRf L i0 14)) then none else
    (f_Md_add L i0 (mGa L F (mRf L i0 14) x1.toNatClampNeg) F).bind fun F3 =>
    k91 i0 (x1 + (1 : Int32)) F3
set_option maxHeartbeats 4000000 in
theorem t_Md_makePack_91 (hC : Cx X L p s m args meth c cc_Md_makePack 2 w_Md_makePack R_Md none) {k91 : Nat → Int32 → Mem → Option Mem} {out : Mem} (hk91 : ∀ (i0 : Nat) (x1 : Int32) (F : Mem) (H : Heap) (locs : List Loc) (ls : Array Slot), oO L 12 i0 → Iv X L s H locs F → lv_has ls 2 [(0, .ref (mAd X i0)), (1, .int x1)] → k91 i0 x1 F = some out → W p l e (headSpec w_Md_makePack r_Md_makePack).room s m args below meth c H locs 0 0 (MQ below (QV X L out) args s 0 0 (AA X L)) (F0 m 91 ls [])) {i0 : Nat} {x1 : Int32} {F : Mem} {H : Heap} {locs : List Loc} {ls : Array Slot} (o0 : oO L 12 i0) (hI : Iv X L s H locs F) (hl : lv_has ls 2 [(0, .ref (mAd X i0)), (1, .int x1)]) (h : b_Md_makePack_91 L k91 i0 x1 F = some out) : W p l e (headSpec w_Md_makePack r_Md_makePack).room s m args below meth c H locs 0 0 (MQ below (QV X L out) args s 0 0 (AA X L)) (F0 m 91 ls []) := by
  unfold b_Md_makePack_91 at h
  obtain ⟨S, hK, hT, hW, hr, hlk⟩ := id hC
  have hx := S.1
  have hb := S.2.1
  refine lv_iload_n hx hb d_Md_makePack_91 rfl (lv_at hl 1 rfl) ?_
  refine lv_aload_n hx hb d_Md_makePack_92 rfl (lv_at hl 0 rfl) ?_
  refine w_getI (T := T_Md) S hK hI o0 rfl hin_Md 13 (index := 150) (by decide) lf_Md_150 d_Md_makePack_93 ?_
  refine lv_icmp_ge (tgt := 115) hx hb d_Md_makePack_96 rfl (fun hc => ?_) (fun hc => ?_)
  · replace h := (if_pos hc).symm.trans h
    exact t_Md_makePack_115 hC  o0 hI (lv_sub hl [0] rfl) h
  · replace h := (if_neg hc).symm.trans h
    refine lv_aload_n hx hb d_Md_makePack_99 rfl (lv_at hl 0 rfl) ?_
    refine lv_aload_n hx hb d_Md_makePack_100 rfl (lv_at hl 0 rfl) ?_
    have p1 := wt_a hW o0 14 rfl (by decide) (by decide)
    refine w_getR (T := T_Md) S hK hI o0 rfl hin_Md 14 (index := 22) (by decide) lf_Md_22 d_Md_makePack_101 ?_
    refine lv_iload_n hx hb d_Md_makePack_104 rfl (lv_at hl 1 rfl) ?_
    obtain ⟨z2, h⟩ := un_if h
    refine w_iald S hK hI hT p1 z2 d_Md_makePack_105 ?_
    obtain ⟨F3, e4, h⟩ := un_bi h
    refine w_callVv (As := [.int (mGa L F (mRf L i0 14) x1.toNatClampNeg)]) (rest := []) S hK hI hT (c_Md_add l hW o0 e4) (cwV 1 S.2.2.2.2 (gd_V lc_Md_add lm_Md_215 li_Md_add ls_Md_add ln_Md) rfl rfl rfl hd_Md_add ⟨Nat.le_of_ble_eq_true rfl, Nat.le_of_ble_eq_true rfl⟩) o0 rfl (by decide) rfl rfl hl.1 (Nat.le_of_ble_eq_true rfl) d_Md_makePack_106 ⟨Nat.zero_le _, Nat.zero_le _⟩ (fun H locs hI => ?_)
    refine lv_iinc (k := 1) (v := x1 + (1 : Int32)) (lv' := [(1, .int (x1 + (1 : Int32))), (0, .ref (mAd X i0))]) hx hb d_Md_makePack_109 hl rfl rfl (by decide) rfl (fun ls hl => ?_)
    refine lv_goto (tgt := 91) hx hb d_Md_makePack_112 rfl ?_
    exact hk91 _ _ _ _ _ _ o0 hI (lv_sub hl [1, 0] rfl) h
def f_Md_makePack_91 (L : La)  : Nat → Nat → Int32 → Mem → Option Mem
  | 0 => fun _ _ _ => none
  | n + 1 => b_Md_makePack_91 L (f_Md_makePack_91 L  n)
theorem tf_Md_makePack_91 (hC : Cx X L p s m args meth c cc_Md_makePack 2 w_Md_makePack R_Md none)  {out : Mem}  (n : Nat) : ∀ (i0 : Nat) (x1 : Int32) (F : Mem) (H : Heap) (locs : List Loc) (ls : Array Slot), oO L 12 i0 → Iv X L s H locs F → lv_has ls 2 [(0, .ref (mAd X i0)), (1, .int x1)] → f_Md_makePack_91 L  n i0 x1 F = some out → W p l e (headSpec w_Md_makePack r_Md_makePack).room s m args below meth c H locs 0 0 (MQ below (QV X L out) args s 0 0 (AA X L)) (F0 m 91 ls []) := by
  induction n with
  | zero => intro i0 x1 F H locs ls o0 hI hl h; cases h
  | succ n ih => intro i0 x1 F H locs ls o0 hI hl h; exact t_Md_makePack_91 hC ih o0 hI hl h
def b_Md_makePack_72 (L : La)  (i0 : Nat) (F : Mem) : Option Mem :=
  (f_Md_addTree L i0 F).bind fun q1 =>
  if q1.1 = 0 then
    (f_Md_add L i0 ((4 : Int32) * (q1.2 i0 13)) q1.2).bind fun F3 =>
    f_Md_makePack_91 L  mFU i0 (0 : Int32) F3
  else
    b_Md_makePack_115 L  i0 q1.2
set_option maxHeartbeats 4000000 in
theorem t_Md_makePack_72 (hC : Cx X L p s m args meth c cc_Md_makePack 2 w_Md_makePack R_Md none)  {out : Mem}  {i0 : Nat} {F : Mem} {H : Heap} {locs : List Loc} {ls : Array Slot} (o0 : oO L 12 i0) (hI : Iv X L s H locs F) (hl : lv_has ls 2 [(0, .ref (mAd X i0))]) (h : b_Md_makePack_72 L  i0 F = some out) : W p l e (headSpec w_Md_makePack r_Md_makePack).room s m args below meth c H locs 0 0 (MQ below (QV X L out) args s 0 0 (AA X L)) (F0 m 72 ls []) := by
  unfold b_Md_makePack_72 at h
  obtain ⟨S, hK, hT, hW, hr, hlk⟩ := id hC
  have hx := S.1
  have hb := S.2.1
  refine lv_aload_n hx hb d_Md_makePack_72 rfl (lv_at hl 0 rfl) ?_
  obtain ⟨q1, e2, h⟩ := un_bi h
  refine w_callVi (As := []) (rest := []) S hK hI hT (c_Md_addTree l hW o0 e2) (cwV 0 S.2.2.2.2 (gd_V lc_Md_addTree lm_Md_259 li_Md_addTree ls_Md_addTree ln_Md) rfl rfl rfl hd_Md_addTree ⟨Nat.le_of_ble_eq_true rfl, Nat.le_of_ble_eq_true rfl⟩) o0 rfl (by decide) rfl rfl hl.1 (Nat.le_of_ble_eq_true rfl) d_Md_makePack_73 ⟨Nat.zero_le _, Nat.zero_le _⟩ (fun H locs hI => ?_)
  refine lv_if_ne (tgt := 115) hx hb d_Md_makePack_76 rfl (fun hc => ?_) (fun hc => ?_)
  · replace h := (if_neg hc).symm.trans h
    exact t_Md_makePack_115 hC  o0 hI hl h
  · replace h := (if_pos hc).symm.trans h
    refine lv_aload_n hx hb d_Md_makePack_79 rfl (lv_at hl 0 rfl) ?_
    refine lv_iconst (v := 4) hx hb d_Md_makePack_80 rfl ?_
    refine lv_aload_n hx hb d_Md_makePack_81 rfl (lv_at hl 0 rfl) ?_
    refine w_getI (T := T_Md) S hK hI o0 rfl hin_Md 13 (index := 150) (by decide) lf_Md_150 d_Md_makePack_82 ?_
    refine lv_imul hx hb d_Md_makePack_85 ?_
    obtain ⟨F3, e4, h⟩ := un_bi h
    refine w_callVv (As := [.int ((4 : Int32) * (q1.2 i0 13))]) (rest := []) S hK hI hT (c_Md_add l hW o0 e4) (cwV 1 S.2.2.2.2 (gd_V lc_Md_add lm_Md_215 li_Md_add ls_Md_add ln_Md) rfl rfl rfl hd_Md_add ⟨Nat.le_of_ble_eq_true rfl, Nat.le_of_ble_eq_true rfl⟩) o0 rfl (by decide) rfl rfl hl.1 (Nat.le_of_ble_eq_true rfl) d_Md_makePack_86 ⟨Nat.zero_le _, Nat.zero_le _⟩ (fun H locs hI => ?_)
    refine lv_iconst (v := 0) hx hb d_Md_makePack_89 rfl ?_
    refine lv_istore_n (lv' := [(1, .int (0 : Int32)), (0, .ref (mAd X i0))]) hx hb d_Md_makePack_90 rfl hl (by decide) rfl (fun ls hl => ?_)
    exact tf_Md_makePack_91 hC  mFU _ _ _ _ _ _ o0 hI (lv_sub hl [1, 0] rfl) h
def f_Md_makePack (L : La) (i0 : Nat) (F : Mem) : Option Mem :=
  if inb (0 : Int32) (mLn L (mRf L i0 10)) ∨ ¬ (mRf L i0 10) < mNc L then none else
  lt' (u2 F (mRf L i0 10) (0 : Int32).toNatClampNeg (1 : Int32)) fun F3 =>
  if inb (1 : Int32) (mLn L (mRf L i0 10)) ∨ ¬ (mRf L i0 10) < mNc L then none else
  lt' (u2 F3 (mRf L i0 10) (1 : Int32).toNatClampNeg (4 : Int32)) fun F7 =>
  if inb (2 : Int32) (mLn L (mRf L i0 10)) ∨ ¬ (mRf L i0 10) < mNc L then none else
  lt' (u2 F7 (mRf L i0 10) (2 : Int32).toNatClampNeg (8 : Int32)) fun F11 =>
  lt' (u2 F11 i0 34 (0 : Int32)) fun F13 =>
  (f_Md_parse L i0 F13).bind fun F15 =>
  if (F15 i0 13) ≤ (1 : Int32) then
    b_Md_makePack_72 L  i0 F15
  else
    (f_Md_allSame L i0 (1 : Int32) F15).bind fun q17 =>
    if q17.1 = 0 then
      b_Md_makePack_72 L  i0 q17.2
    else
      (f_Md_add L i0 (((4 : Int32) * (q17.2 i0 13)) + (1 : Int32)) q17.2).bind fun F19 =>
      if inb (0 : Int32) (mGl L (mRf L i0 14)) then none else
      (f_Md_add L i0 (mGa L F19 (mRf L i0 14) (0 : Int32).toNatClampNeg) F19).bind fun F23 =>
      b_Md_makePack_115 L  i0 F23
set_option maxHeartbeats 4000000 in
theorem c_Md_makePack (l : Launch) {X : Xs} {L : La} (hW : WT L) {out : Mem} {i0 : Nat} {F : Mem} (o0 : oO L 12 i0) (h : f_Md_makePack L i0 F = some out) : Met l y_Md_makePack w_Md_makePack r_Md_makePack (va_Pc [.ref (mAd X i0)] (Pr X L F)) (QV X L out) 0 0 (AA X L) := by
  refine mk_met (by decide) rfl (Nat.le_of_ble_eq_true rfl) hW ?_
  intro p e s m args below meth c ls hC hI hl
  have hl : lv_has ls 2 [(0, .ref (mAd X i0))] := hl
  generalize hHe : s.heap = H at hI ⊢
  generalize ([] : List Loc) = locs at hI ⊢
  unfold f_Md_makePack at h
  obtain ⟨S, hK, hT, hW, hr, hlk⟩ := id hC
  have hx := S.1
  have hb := S.2.1
  refine lv_aload_n hx hb d_Md_makePack_0 rfl (lv_at hl 0 rfl) ?_
  have p1 := wt_a hW o0 10 rfl (by decide) (by decide)
  refine w_getR (T := T_Md) S hK hI o0 rfl hin_Md 10 (index := 19) (by decide) lf_Md_19 d_Md_makePack_1 ?_
  refine lv_iconst (v := 0) hx hb d_Md_makePack_4 rfl ?_
  refine lv_iconst (v := 1) hx hb d_Md_makePack_5 rfl ?_
  obtain ⟨z2, h⟩ := un_if h
  refine w_iast S hK hI p1 z2 d_Md_makePack_6 (fun H locs F3 e4 hI => ?_)
  replace h := un_lt h _ e4
  refine lv_aload_n hx hb d_Md_makePack_7 rfl (lv_at hl 0 rfl) ?_
  have p5 := wt_a hW o0 10 rfl (by decide) (by decide)
  refine w_getR (T := T_Md) S hK hI o0 rfl hin_Md 10 (index := 19) (by decide) lf_Md_19 d_Md_makePack_8 ?_
  refine lv_iconst (v := 1) hx hb d_Md_makePack_11 rfl ?_
  refine lv_iconst (v := 4) hx hb d_Md_makePack_12 rfl ?_
  obtain ⟨z6, h⟩ := un_if h
  refine w_iast S hK hI p5 z6 d_Md_makePack_13 (fun H locs F7 e8 hI => ?_)
  replace h := un_lt h _ e8
  refine lv_aload_n hx hb d_Md_makePack_14 rfl (lv_at hl 0 rfl) ?_
  have p9 := wt_a hW o0 10 rfl (by decide) (by decide)
  refine w_getR (T := T_Md) S hK hI o0 rfl hin_Md 10 (index := 19) (by decide) lf_Md_19 d_Md_makePack_15 ?_
  refine lv_iconst (v := 2) hx hb d_Md_makePack_18 rfl ?_
  refine lv_bipush (v := 8) hx hb d_Md_makePack_19 (by decide) ?_
  obtain ⟨z10, h⟩ := un_if h
  refine w_iast S hK hI p9 z10 d_Md_makePack_21 (fun H locs F11 e12 hI => ?_)
  replace h := un_lt h _ e12
  refine lv_aload_n hx hb d_Md_makePack_22 rfl (lv_at hl 0 rfl) ?_
  refine lv_iconst (v := 0) hx hb d_Md_makePack_23 rfl ?_
  refine w_putI (T := T_Md) S hK hI o0 rfl hin_Md ty_Md tk_Md nm_Md 34 (index := 209) (by decide) lf_Md_209 rfl d_Md_makePack_24 (fun H locs F13 e14 hI => ?_)
  replace h := un_lt h _ e14
  refine lv_aload_n hx hb d_Md_makePack_27 rfl (lv_at hl 0 rfl) ?_
  obtain ⟨F15, e16, h⟩ := un_bi h
  refine w_callVv (As := []) (rest := []) S hK hI hT (c_Md_parse l hW o0 e16) (cwV 0 S.2.2.2.2 (gd_V lc_Md_parse lm_Md_252 li_Md_parse ls_Md_parse ln_Md) rfl rfl rfl hd_Md_parse ⟨Nat.le_of_ble_eq_true rfl, Nat.le_of_ble_eq_true rfl⟩) o0 rfl (by decide) rfl rfl hl.1 (Nat.le_of_ble_eq_true rfl) d_Md_makePack_28 ⟨Nat.zero_le _, Nat.zero_le _⟩ (fun H locs hI => ?_)
  refine lv_aload_n hx hb d_Md_makePack_31 rfl (lv_at hl 0 rfl) ?_
  refine w_getI (T := T_Md) S hK hI o0 rfl hin_Md 13 (index := 150) (by decide) lf_Md_150 d_Md_makePack_32 ?_
  refine lv_iconst (v := 1) hx hb d_Md_makePack_35 rfl ?_
  refine lv_icmp_le (tgt := 72) hx hb d_Md_makePack_36 rfl (fun hc => ?_) (fun hc => ?_)
  · replace h := (if_pos hc).symm.trans h
    exact t_Md_makePack_72 hC  o0 hI hl h
  · replace h := (if_neg hc).symm.trans h
    refine lv_aload_n hx hb d_Md_makePack_39 rfl (lv_at hl 0 rfl) ?_
    refine lv_iconst (v := 1) hx hb d_Md_makePack_40 rfl ?_
    obtain ⟨q17, e18, h⟩ := un_bi h
    refine w_callVi (As := [.int (1 : Int32)]) (rest := []) S hK hI hT (c_Md_allSame l hW o0 e18) (cwV 1 S.2.2.2.2 (gd_V lc_Md_allSame lm_Md_255 li_Md_allSame ls_Md_allSame ln_Md) rfl rfl rfl hd_Md_allSame ⟨Nat.le_of_ble_eq_true rfl, Nat.le_of_ble_eq_true rfl⟩) o0 rfl (by decide) rfl rfl hl.1 (Nat.le_of_ble_eq_true rfl) d_Md_makePack_41 ⟨Nat.zero_le _, Nat.zero_le _⟩ (fun H locs hI => ?_)
    refine lv_if_eq (tgt := 72) hx hb d_Md_makePack_44 rfl (fun hc => ?_) (fun hc => ?_)
    · replace h := (if_pos hc).symm.trans h
      exact t_Md_makePack_72 hC  o0 hI hl h
    · replace h := (if_neg hc).symm.trans h
      refine lv_aload_n hx hb d_Md_makePack_47 rfl (lv_at hl 0 rfl) ?_
      refine lv_iconst (v := 4) hx hb d_Md_makePack_48 rfl ?_
      refine lv_aload_n hx hb d_Md_makePack_49 rfl (lv_at hl 0 rfl) ?_
      refine w_getI (T := T_Md) S hK hI o0 rfl hin_Md 13 (index := 150) (by decide) lf_Md_150 d_Md_makePack_50 ?_
      refine lv_imul hx hb d_Md_makePack_53 ?_
      refine lv_iconst (v := 1) hx hb d_Md_makePack_54 rfl ?_
      refine lv_iadd hx hb d_Md_makePack_55 ?_
      obtain ⟨F19, e20, h⟩ := un_bi h
      refine w_callVv (As := [.int (((4 : Int32) * (q17.2 i0 13)) + (1 : Int32))]) (rest := []) S hK hI hT (c_Md_add l hW o0 e20) (cwV 1 S.2.2.2.2 (gd_V lc_Md_add lm_Md_215 li_Md_add ls_Md_add ln_Md) rfl rfl rfl hd_Md_add ⟨Nat.le_of_ble_eq_true rfl, Nat.le_of_ble_eq_true rfl⟩) o0 rfl (by decide) rfl rfl hl.1 (Nat.le_of_ble_eq_true rfl) d_Md_makePack_56 ⟨Nat.zero_le _, Nat.zero_le _⟩ (fun H locs hI => ?_)
      refine lv_aload_n hx hb d_Md_makePack_59 rfl (lv_at hl 0 rfl) ?_
      refine lv_aload_n hx hb d_Md_makePack_60 rfl (lv_at hl 0 rfl) ?_
      have p21 := wt_a hW o0 14 rfl (by decide) (by decide)
      refine w_getR (T := T_Md) S hK hI o0 rfl hin_Md 14 (index := 22) (by decide) lf_Md_22 d_Md_makePack_61 ?_
      refine lv_iconst (v := 0) hx hb d_Md_makePack_64 rfl ?_
      obtain ⟨z22, h⟩ := un_if h
      refine w_iald S hK hI hT p21 z22 d_Md_makePack_65 ?_
      obtain ⟨F23, e24, h⟩ := un_bi h
      refine w_callVv (As := [.int (mGa L F19 (mRf L i0 14) (0 : Int32).toNatClampNeg)]) (rest := []) S hK hI hT (c_Md_add l hW o0 e24) (cwV 1 S.2.2.2.2 (gd_V lc_Md_add lm_Md_215 li_Md_add ls_Md_add ln_Md) rfl rfl rfl hd_Md_add ⟨Nat.le_of_ble_eq_true rfl, Nat.le_of_ble_eq_true rfl⟩) o0 rfl (by decide) rfl rfl hl.1 (Nat.le_of_ble_eq_true rfl) d_Md_makePack_66 ⟨Nat.zero_le _, Nat.zero_le _⟩ (fun H locs hI => ?_)
      refine lv_goto (tgt := 115) hx hb d_Md_makePack_69 rfl ?_
      exact t_Md_makePack_115 hC  o0 hI hl h
end
theorem d_Md_append_0 : decode cc_Md_append 0 = .ok (.aload_n 0, 1) := by decide +kernel
theorem d_Md_append_1 : decode cc_Md_append 1 = .ok (.getfield 13, 3) := by decide +kernel
theorem d_Md_append_4 : decode cc_Md_append 4 = .ok (.aload_n 0, 1) := by decide +kernel
theorem d_Md_append_5 : decode cc_Md_append 5 = .ok (.getfield 90, 3) := by decide +kernel
theorem d_Md_append_8 : decode cc_Md_append 8 = .ok (.iload_n 1, 1) := by decide +kernel
theorem d_Md_append_9 : decode cc_Md_append 9 = .ok (.iastore, 1) := by decide +kernel
theorem d_Md_append_10 : decode cc_Md_append 10 = .ok (.aload_n 0, 1) := by decide +kernel
theorem d_Md_append_11 : decode cc_Md_append 11 = .ok (.dup, 1) := by decide +kernel
theorem d_Md_append_12 : decode cc_Md_append 12 = .ok (.getfield 90, 3) := by decide +kernel
theorem d_Md_append_15 : decode cc_Md_append 15 = .ok (.iconst 1, 1) := by decide +kernel
theorem d_Md_append_16 : decode cc_Md_append 16 = .ok (.iadd, 1) := by decide +kernel
theorem d_Md_append_17 : decode cc_Md_append 17 = .ok (.putfield 90, 3) := by decide +kernel
theorem d_Md_append_20 : decode cc_Md_append 20 = .ok (.return_, 1) := by decide +kernel
section
variable {p : Program} {l : Launch} {e : Env} {s : State} {m : MethodId} {args : Array Value} {below : List Frame} {meth : Method} {c : Code} {X : Xs} {L : La}
def f_Md_append (L : La) (i0 : Nat) (x1 : Int32) (F : Mem) : Option Mem :=
  if inb (F i0 3) (mLn L (mRf L i0 2)) ∨ ¬ (mRf L i0 2) < mNc L then none else
  lt' (u2 F (mRf L i0 2) (F i0 3).toNatClampNeg x1) fun F3 =>
  lt' (u2 F3 i0 3 ((F3 i0 3) + (1 : Int32))) fun F5 =>
  some F5
set_option maxHeartbeats 4000000 in
theorem c_Md_append (l : Launch) {X : Xs} {L : La} (hW : WT L) {out : Mem} {i0 : Nat} {x1 : Int32} {F : Mem} (o0 : oO L 12 i0) (h : f_Md_append L i0 x1 F = some out) : Met l y_Md_append w_Md_append r_Md_append (va_Pc [.ref (mAd X i0), .int x1] (Pr X L F)) (QV X L out) 0 0 (AA X L) := by
  refine mk_met (by decide) rfl (Nat.le_of_ble_eq_true rfl) hW ?_
  intro p e s m args below meth c ls hC hI hl
  have hl : lv_has ls 2 [(0, .ref (mAd X i0)), (1, .int x1)] := hl
  generalize hHe : s.heap = H at hI ⊢
  generalize ([] : List Loc) = locs at hI ⊢
  unfold f_Md_append at h
  obtain ⟨S, hK, hT, hW, hr, hlk⟩ := id hC
  have hx := S.1
  have hb := S.2.1
  refine lv_aload_n hx hb d_Md_append_0 rfl (lv_at hl 0 rfl) ?_
  have p1 := wt_a hW o0 2 rfl (by decide) (by decide)
  refine w_getR (T := T_Md) S hK hI o0 rfl hin_Md 2 (index := 13) (by decide) lf_Md_13 d_Md_append_1 ?_
  refine lv_aload_n hx hb d_Md_append_4 rfl (lv_at hl 0 rfl) ?_
  refine w_getI (T := T_Md) S hK hI o0 rfl hin_Md 3 (index := 90) (by decide) lf_Md_90 d_Md_append_5 ?_
  refine lv_iload_n hx hb d_Md_append_8 rfl (lv_at hl 1 rfl) ?_
  obtain ⟨z2, h⟩ := un_if h
  refine w_iast S hK hI p1 z2 d_Md_append_9 (fun H locs F3 e4 hI => ?_)
  replace h := un_lt h _ e4
  refine lv_aload_n hx hb d_Md_append_10 rfl (lv_at hl 0 rfl) ?_
  refine lv_dup hx hb d_Md_append_11 rfl ?_
  refine w_getI (T := T_Md) S hK hI o0 rfl hin_Md 3 (index := 90) (by decide) lf_Md_90 d_Md_append_12 ?_
  refine lv_iconst (v := 1) hx hb d_Md_append_15 rfl ?_
  refine lv_iadd hx hb d_Md_append_16 ?_
  refine w_putI (T := T_Md) S hK hI o0 rfl hin_Md ty_Md tk_Md nm_Md 3 (index := 90) (by decide) lf_Md_90 rfl d_Md_append_17 (fun H locs F5 e6 hI => ?_)
  replace h := un_lt h _ e6
  exact w_vret S hK hr hlk hI d_Md_append_20 h
end
theorem d_Md_pack_0 : decode cc_Md_pack 0 = .ok (.aload_n 0, 1) := by decide +kernel
theorem d_Md_pack_1 : decode cc_Md_pack 1 = .ok (.getfield 86, 3) := by decide +kernel
theorem d_Md_pack_4 : decode cc_Md_pack 4 = .ok (.ifCond .le (15), 3) := by decide +kernel
theorem d_Md_pack_7 : decode cc_Md_pack 7 = .ok (.aload_n 0, 1) := by decide +kernel
theorem d_Md_pack_8 : decode cc_Md_pack 8 = .ok (.iconst 0, 1) := by decide +kernel
theorem d_Md_pack_9 : decode cc_Md_pack 9 = .ok (.invokevirtual 255, 3) := by decide +kernel
theorem d_Md_pack_12 : decode cc_Md_pack 12 = .ok (.ifCond .eq (7), 3) := by decide +kernel
theorem d_Md_pack_15 : decode cc_Md_pack 15 = .ok (.iconst 1, 1) := by decide +kernel
theorem d_Md_pack_16 : decode cc_Md_pack 16 = .ok (.goto (4), 3) := by decide +kernel
theorem d_Md_pack_19 : decode cc_Md_pack 19 = .ok (.iconst 0, 1) := by decide +kernel
theorem d_Md_pack_20 : decode cc_Md_pack 20 = .ok (.istore_n 2, 1) := by decide +kernel
theorem d_Md_pack_21 : decode cc_Md_pack 21 = .ok (.aload_n 0, 1) := by decide +kernel
theorem d_Md_pack_22 : decode cc_Md_pack 22 = .ok (.invokevirtual 266, 3) := by decide +kernel
theorem d_Md_pack_25 : decode cc_Md_pack 25 = .ok (.iload_n 2, 1) := by decide +kernel
theorem d_Md_pack_26 : decode cc_Md_pack 26 = .ok (.ifCond .eq (7), 3) := by decide +kernel
theorem d_Md_pack_29 : decode cc_Md_pack 29 = .ok (.iconst 1, 1) := by decide +kernel
theorem d_Md_pack_30 : decode cc_Md_pack 30 = .ok (.goto (28), 3) := by decide +kernel
theorem d_Md_pack_33 : decode cc_Md_pack 33 = .ok (.aload_n 0, 1) := by decide +kernel
theorem d_Md_pack_34 : decode cc_Md_pack 34 = .ok (.getfield 150, 3) := by decide +kernel
theorem d_Md_pack_37 : decode cc_Md_pack 37 = .ok (.bipush (63), 2) := by decide +kernel
theorem d_Md_pack_39 : decode cc_Md_pack 39 = .ok (.if_icmp .gt (18), 3) := by decide +kernel
theorem d_Md_pack_42 : decode cc_Md_pack 42 = .ok (.aload_n 0, 1) := by decide +kernel
theorem d_Md_pack_43 : decode cc_Md_pack 43 = .ok (.getfield 209, 3) := by decide +kernel
theorem d_Md_pack_46 : decode cc_Md_pack 46 = .ok (.aload_n 0, 1) := by decide +kernel
theorem d_Md_pack_47 : decode cc_Md_pack 47 = .ok (.getfield 86, 3) := by decide +kernel
theorem d_Md_pack_50 : decode cc_Md_pack 50 = .ok (.if_icmp .ge (7), 3) := by decide +kernel
theorem d_Md_pack_53 : decode cc_Md_pack 53 = .ok (.iconst 2, 1) := by decide +kernel
theorem d_Md_pack_54 : decode cc_Md_pack 54 = .ok (.goto (4), 3) := by decide +kernel
theorem d_Md_pack_57 : decode cc_Md_pack 57 = .ok (.iconst 0, 1) := by decide +kernel
theorem d_Md_pack_58 : decode cc_Md_pack 58 = .ok (.istore_n 3, 1) := by decide +kernel
theorem d_Md_pack_59 : decode cc_Md_pack 59 = .ok (.iload_n 3, 1) := by decide +kernel
theorem d_Md_pack_60 : decode cc_Md_pack 60 = .ok (.iconst 2, 1) := by decide +kernel
theorem d_Md_pack_61 : decode cc_Md_pack 61 = .ok (.if_icmp .ne (10), 3) := by decide +kernel
theorem d_Md_pack_64 : decode cc_Md_pack 64 = .ok (.aload_n 0, 1) := by decide +kernel
theorem d_Md_pack_65 : decode cc_Md_pack 65 = .ok (.getfield 209, 3) := by decide +kernel
theorem d_Md_pack_68 : decode cc_Md_pack 68 = .ok (.goto (7), 3) := by decide +kernel
theorem d_Md_pack_71 : decode cc_Md_pack 71 = .ok (.aload_n 0, 1) := by decide +kernel
theorem d_Md_pack_72 : decode cc_Md_pack 72 = .ok (.getfield 86, 3) := by decide +kernel
theorem d_Md_pack_75 : decode cc_Md_pack 75 = .ok (.istore 4, 2) := by decide +kernel
theorem d_Md_pack_77 : decode cc_Md_pack 77 = .ok (.bipush (6), 2) := by decide +kernel
theorem d_Md_pack_79 : decode cc_Md_pack 79 = .ok (.iload_n 3, 1) := by decide +kernel
theorem d_Md_pack_80 : decode cc_Md_pack 80 = .ok (.iconst 1, 1) := by decide +kernel
theorem d_Md_pack_81 : decode cc_Md_pack 81 = .ok (.if_icmp .ne (7), 3) := by decide +kernel
theorem d_Md_pack_84 : decode cc_Md_pack 84 = .ok (.iconst 1, 1) := by decide +kernel
theorem d_Md_pack_85 : decode cc_Md_pack 85 = .ok (.goto (5), 3) := by decide +kernel
theorem d_Md_pack_88 : decode cc_Md_pack 88 = .ok (.iload 4, 2) := by decide +kernel
theorem d_Md_pack_90 : decode cc_Md_pack 90 = .ok (.iadd, 1) := by decide +kernel
theorem d_Md_pack_91 : decode cc_Md_pack 91 = .ok (.iload_n 1, 1) := by decide +kernel
theorem d_Md_pack_92 : decode cc_Md_pack 92 = .ok (.ifCond .eq (7), 3) := by decide +kernel
theorem d_Md_pack_95 : decode cc_Md_pack 95 = .ok (.iconst 2, 1) := by decide +kernel
theorem d_Md_pack_96 : decode cc_Md_pack 96 = .ok (.goto (4), 3) := by decide +kernel
theorem d_Md_pack_99 : decode cc_Md_pack 99 = .ok (.iconst 0, 1) := by decide +kernel
theorem d_Md_pack_100 : decode cc_Md_pack 100 = .ok (.iadd, 1) := by decide +kernel
theorem d_Md_pack_101 : decode cc_Md_pack 101 = .ok (.istore 5, 2) := by decide +kernel
theorem d_Md_pack_103 : decode cc_Md_pack 103 = .ok (.aload_n 0, 1) := by decide +kernel
theorem d_Md_pack_104 : decode cc_Md_pack 104 = .ok (.getfield 90, 3) := by decide +kernel
theorem d_Md_pack_107 : decode cc_Md_pack 107 = .ok (.iload 5, 2) := by decide +kernel
theorem d_Md_pack_109 : decode cc_Md_pack 109 = .ok (.iadd, 1) := by decide +kernel
theorem d_Md_pack_110 : decode cc_Md_pack 110 = .ok (.sipush (240), 3) := by decide +kernel
theorem d_Md_pack_113 : decode cc_Md_pack 113 = .ok (.if_icmp .le (6), 3) := by decide +kernel
theorem d_Md_pack_116 : decode cc_Md_pack 116 = .ok (.bipush (-2), 2) := by decide +kernel
theorem d_Md_pack_118 : decode cc_Md_pack 118 = .ok (.ireturn, 1) := by decide +kernel
theorem d_Md_pack_119 : decode cc_Md_pack 119 = .ok (.aload_n 0, 1) := by decide +kernel
theorem d_Md_pack_120 : decode cc_Md_pack 120 = .ok (.bipush (90), 2) := by decide +kernel
theorem d_Md_pack_122 : decode cc_Md_pack 122 = .ok (.invokevirtual 269, 3) := by decide +kernel
theorem d_Md_pack_125 : decode cc_Md_pack 125 = .ok (.aload_n 0, 1) := by decide +kernel
theorem d_Md_pack_126 : decode cc_Md_pack 126 = .ok (.iload_n 1, 1) := by decide +kernel
theorem d_Md_pack_127 : decode cc_Md_pack 127 = .ok (.ifCond .eq (7), 3) := by decide +kernel
theorem d_Md_pack_130 : decode cc_Md_pack 130 = .ok (.iconst 1, 1) := by decide +kernel
theorem d_Md_pack_131 : decode cc_Md_pack 131 = .ok (.goto (4), 3) := by decide +kernel
theorem d_Md_pack_134 : decode cc_Md_pack 134 = .ok (.iconst 0, 1) := by decide +kernel
theorem d_Md_pack_135 : decode cc_Md_pack 135 = .ok (.invokevirtual 269, 3) := by decide +kernel
theorem d_Md_pack_138 : decode cc_Md_pack 138 = .ok (.aload_n 0, 1) := by decide +kernel
theorem d_Md_pack_139 : decode cc_Md_pack 139 = .ok (.aload_n 0, 1) := by decide +kernel
theorem d_Md_pack_140 : decode cc_Md_pack 140 = .ok (.getfield 86, 3) := by decide +kernel
theorem d_Md_pack_143 : decode cc_Md_pack 143 = .ok (.sipush (255), 3) := by decide +kernel
theorem d_Md_pack_146 : decode cc_Md_pack 146 = .ok (.iand, 1) := by decide +kernel
theorem d_Md_pack_147 : decode cc_Md_pack 147 = .ok (.invokevirtual 269, 3) := by decide +kernel
theorem d_Md_pack_150 : decode cc_Md_pack 150 = .ok (.aload_n 0, 1) := by decide +kernel
theorem d_Md_pack_151 : decode cc_Md_pack 151 = .ok (.aload_n 0, 1) := by decide +kernel
theorem d_Md_pack_152 : decode cc_Md_pack 152 = .ok (.getfield 86, 3) := by decide +kernel
theorem d_Md_pack_155 : decode cc_Md_pack 155 = .ok (.bipush (8), 2) := by decide +kernel
theorem d_Md_pack_157 : decode cc_Md_pack 157 = .ok (.ishr, 1) := by decide +kernel
theorem d_Md_pack_158 : decode cc_Md_pack 158 = .ok (.invokevirtual 269, 3) := by decide +kernel
theorem d_Md_pack_161 : decode cc_Md_pack 161 = .ok (.aload_n 0, 1) := by decide +kernel
theorem d_Md_pack_162 : decode cc_Md_pack 162 = .ok (.iconst 1, 1) := by decide +kernel
theorem d_Md_pack_163 : decode cc_Md_pack 163 = .ok (.iconst 2, 1) := by decide +kernel
theorem d_Md_pack_164 : decode cc_Md_pack 164 = .ok (.iload_n 3, 1) := by decide +kernel
theorem d_Md_pack_165 : decode cc_Md_pack 165 = .ok (.imul, 1) := by decide +kernel
theorem d_Md_pack_166 : decode cc_Md_pack 166 = .ok (.iadd, 1) := by decide +kernel
theorem d_Md_pack_167 : decode cc_Md_pack 167 = .ok (.bipush (8), 2) := by decide +kernel
theorem d_Md_pack_169 : decode cc_Md_pack 169 = .ok (.iload 4, 2) := by decide +kernel
theorem d_Md_pack_171 : decode cc_Md_pack 171 = .ok (.bipush (31), 2) := by decide +kernel
theorem d_Md_pack_173 : decode cc_Md_pack 173 = .ok (.iand, 1) := by decide +kernel
theorem d_Md_pack_174 : decode cc_Md_pack 174 = .ok (.imul, 1) := by decide +kernel
theorem d_Md_pack_175 : decode cc_Md_pack 175 = .ok (.iadd, 1) := by decide +kernel
theorem d_Md_pack_176 : decode cc_Md_pack 176 = .ok (.invokevirtual 269, 3) := by decide +kernel
theorem d_Md_pack_179 : decode cc_Md_pack 179 = .ok (.aload_n 0, 1) := by decide +kernel
theorem d_Md_pack_180 : decode cc_Md_pack 180 = .ok (.iload 4, 2) := by decide +kernel
theorem d_Md_pack_182 : decode cc_Md_pack 182 = .ok (.iconst 5, 1) := by decide +kernel
theorem d_Md_pack_183 : decode cc_Md_pack 183 = .ok (.ishr, 1) := by decide +kernel
theorem d_Md_pack_184 : decode cc_Md_pack 184 = .ok (.invokevirtual 269, 3) := by decide +kernel
theorem d_Md_pack_187 : decode cc_Md_pack 187 = .ok (.iconst 0, 1) := by decide +kernel
theorem d_Md_pack_188 : decode cc_Md_pack 188 = .ok (.istore 6, 2) := by decide +kernel
theorem d_Md_pack_190 : decode cc_Md_pack 190 = .ok (.iload 6, 2) := by decide +kernel
theorem d_Md_pack_192 : decode cc_Md_pack 192 = .ok (.iload_n 3, 1) := by decide +kernel
theorem d_Md_pack_193 : decode cc_Md_pack 193 = .ok (.iconst 1, 1) := by decide +kernel
theorem d_Md_pack_194 : decode cc_Md_pack 194 = .ok (.if_icmp .ne (7), 3) := by decide +kernel
theorem d_Md_pack_197 : decode cc_Md_pack 197 = .ok (.iconst 1, 1) := by decide +kernel
theorem d_Md_pack_198 : decode cc_Md_pack 198 = .ok (.goto (5), 3) := by decide +kernel
theorem d_Md_pack_201 : decode cc_Md_pack 201 = .ok (.iload 4, 2) := by decide +kernel
theorem d_Md_pack_203 : decode cc_Md_pack 203 = .ok (.if_icmp .ge (35), 3) := by decide +kernel
theorem d_Md_pack_206 : decode cc_Md_pack 206 = .ok (.aload_n 0, 1) := by decide +kernel
theorem d_Md_pack_207 : decode cc_Md_pack 207 = .ok (.iload_n 3, 1) := by decide +kernel
theorem d_Md_pack_208 : decode cc_Md_pack 208 = .ok (.iconst 2, 1) := by decide +kernel
theorem d_Md_pack_209 : decode cc_Md_pack 209 = .ok (.if_icmp .ne (13), 3) := by decide +kernel
theorem d_Md_pack_212 : decode cc_Md_pack 212 = .ok (.aload_n 0, 1) := by decide +kernel
theorem d_Md_pack_213 : decode cc_Md_pack 213 = .ok (.getfield 68, 3) := by decide +kernel
theorem d_Md_pack_216 : decode cc_Md_pack 216 = .ok (.iload 6, 2) := by decide +kernel
theorem d_Md_pack_218 : decode cc_Md_pack 218 = .ok (.iaload, 1) := by decide +kernel
theorem d_Md_pack_219 : decode cc_Md_pack 219 = .ok (.goto (10), 3) := by decide +kernel
theorem d_Md_pack_222 : decode cc_Md_pack 222 = .ok (.aload_n 0, 1) := by decide +kernel
theorem d_Md_pack_223 : decode cc_Md_pack 223 = .ok (.getfield 7, 3) := by decide +kernel
theorem d_Md_pack_226 : decode cc_Md_pack 226 = .ok (.iload 6, 2) := by decide +kernel
theorem d_Md_pack_228 : decode cc_Md_pack 228 = .ok (.iaload, 1) := by decide +kernel
theorem d_Md_pack_229 : decode cc_Md_pack 229 = .ok (.invokevirtual 269, 3) := by decide +kernel
theorem d_Md_pack_232 : decode cc_Md_pack 232 = .ok (.iinc 6 (1), 3) := by decide +kernel
theorem d_Md_pack_235 : decode cc_Md_pack 235 = .ok (.goto (-45), 3) := by decide +kernel
theorem d_Md_pack_238 : decode cc_Md_pack 238 = .ok (.iload_n 1, 1) := by decide +kernel
theorem d_Md_pack_239 : decode cc_Md_pack 239 = .ok (.ifCond .eq (28), 3) := by decide +kernel
theorem d_Md_pack_242 : decode cc_Md_pack 242 = .ok (.aload_n 0, 1) := by decide +kernel
theorem d_Md_pack_243 : decode cc_Md_pack 243 = .ok (.invokevirtual 272, 3) := by decide +kernel
theorem d_Md_pack_246 : decode cc_Md_pack 246 = .ok (.istore 6, 2) := by decide +kernel
theorem d_Md_pack_248 : decode cc_Md_pack 248 = .ok (.aload_n 0, 1) := by decide +kernel
theorem d_Md_pack_249 : decode cc_Md_pack 249 = .ok (.iload 6, 2) := by decide +kernel
theorem d_Md_pack_251 : decode cc_Md_pack 251 = .ok (.sipush (255), 3) := by decide +kernel
theorem d_Md_pack_254 : decode cc_Md_pack 254 = .ok (.iand, 1) := by decide +kernel
theorem d_Md_pack_255 : decode cc_Md_pack 255 = .ok (.invokevirtual 269, 3) := by decide +kernel
theorem d_Md_pack_258 : decode cc_Md_pack 258 = .ok (.aload_n 0, 1) := by decide +kernel
theorem d_Md_pack_259 : decode cc_Md_pack 259 = .ok (.iload 6, 2) := by decide +kernel
theorem d_Md_pack_261 : decode cc_Md_pack 261 = .ok (.bipush (8), 2) := by decide +kernel
theorem d_Md_pack_263 : decode cc_Md_pack 263 = .ok (.ishr, 1) := by decide +kernel
theorem d_Md_pack_264 : decode cc_Md_pack 264 = .ok (.invokevirtual 269, 3) := by decide +kernel
theorem d_Md_pack_267 : decode cc_Md_pack 267 = .ok (.iload 5, 2) := by decide +kernel
theorem d_Md_pack_269 : decode cc_Md_pack 269 = .ok (.ireturn, 1) := by decide +kernel
section
variable {p : Program} {l : Launch} {e : Env} {s : State} {m : MethodId} {args : Array Value} {below : List Frame} {meth : Method} {c : Code} {X : Xs} {L : La}
def b_Md_pack_267 (L : La)  (x5 : Int32) (F : Mem) : Option (Int32 × Mem) :=
  some (x5, F)
set_option maxHeartbeats 4000000 in
theorem t_Md_pack_267 (hC : Cx X L p s m args meth c cc_Md_pack 7 w_Md_pack R_Md (some .int))  {out : (Int32 × Mem)}  {x5 : Int32} {F : Mem} {H : Heap} {locs : List Loc} {ls : Array Slot}  (hI : Iv X L s H locs F) (hl : lv_has ls 7 [(5, .int x5)]) (h : b_Md_pack_267 L  x5 F = some out) : W p l e (headSpec w_Md_pack r_Md_pack).room s m args below meth c H locs 0 0 (MQ below (QI X L out) args s 0 0 (AA X L)) (F0 m 267 ls []) := by
  unfold b_Md_pack_267 at h
  obtain ⟨S, hK, hT, hW, hr, hlk⟩ := id hC
  have hx := S.1
  have hb := S.2.1
  refine lv_iload hx hb d_Md_pack_267 (lv_at hl 0 rfl) ?_
  exact w_iret S hK hr hlk hI d_Md_pack_269 h
def b_Md_pack_229 (L : La) (k190 : Nat → Int32 → Int32 → Int32 → Int32 → Int32 → Mem → Option (Int32 × Mem)) (i0 : Nat) (x1 : Int32) (x3 : Int32) (x4 : Int32) (x5 : Int32) (x6 : Int32) (j0 : Nat) (y1 : Int32) (F : Mem) : Option (Int32 × Mem) :=
  (f_Md_append L j0 y1 F).bind fun F1 =>
  k190 i0 x1 x3 x4 x5 (x6 + (1 : Int32)) F1
set_option maxHeartbeats 4000000 in
theorem t_Md_pack_229 (hC : Cx X L p s m args meth c cc_Md_pack 7 w_Md_pack R_Md (some .int)) {k190 : Nat → Int32 → Int32 → Int32 → Int32 → Int32 → Mem → Option (Int32 × Mem)} {out : (Int32 × Mem)} (hk190 : ∀ (i0 : Nat) (x1 : Int32) (x3 : Int32) (x4 : Int32) (x5 : Int32) (x6 : Int32) (F : Mem) (H : Heap) (locs : List Loc) (ls : Array Slot), oO L 12 i0 → Iv X L s H locs F → lv_has ls 7 [(0, .ref (mAd X i0)), (1, .int x1), (3, .int x3), (4, .int x4), (5, .int x5), (6, .int x6)] → k190 i0 x1 x3 x4 x5 x6 F = some out → W p l e (headSpec w_Md_pack r_Md_pack).room s m args below meth c H locs 0 0 (MQ below (QI X L out) args s 0 0 (AA X L)) (F0 m 190 ls [])) {i0 : Nat} {x1 : Int32} {x3 : Int32} {x4 : Int32} {x5 : Int32} {x6 : Int32} {j0 : Nat} {y1 : Int32} {F : Mem} {H : Heap} {locs : List Loc} {ls : Array Slot} (o0 : oO L 12 i0) (oy0 : oO L 12 j0) (hI : Iv X L s H locs F) (hl : lv_has ls 7 [(0, .ref (mAd X i0)), (1, .int x1), (3, .int x3), (4, .int x4), (5, .int x5), (6, .int x6)]) (h : b_Md_pack_229 L k190 i0 x1 x3 x4 x5 x6 j0 y1 F = some out) : W p l e (headSpec w_Md_pack r_Md_pack).room s m args below meth c H locs 0 0 (MQ below (QI X L out) args s 0 0 (AA X L)) (F0 m 229 ls [.int y1, .ref (mAd X j0)]) := by
  unfold b_Md_pack_229 at h
  obtain ⟨S, hK, hT, hW, hr, hlk⟩ := id hC
  have hx := S.1
  have hb := S.2.1
  obtain ⟨F1, e2, h⟩ := un_bi h
  refine w_callVv (As := [.int y1]) (rest := []) S hK hI hT (c_Md_append l hW oy0 e2) (cwV 1 S.2.2.2.2 (gd_V lc_Md_append lm_Md_269 li_Md_append ls_Md_append ln_Md) rfl rfl rfl hd_Md_append ⟨Nat.le_of_ble_eq_true rfl, Nat.le_of_ble_eq_true rfl⟩) oy0 rfl (by decide) rfl rfl hl.1 (Nat.le_of_ble_eq_true rfl) d_Md_pack_229 ⟨Nat.zero_le _, Nat.zero_le _⟩ (fun H locs hI => ?_)
  refine lv_iinc (k := 5) (v := x6 + (1 : Int32)) (lv' := [(6, .int (x6 + (1 : Int32))), (0, .ref (mAd X i0)), (1, .int x1), (3, .int x3), (4, .int x4), (5, .int x5)]) hx hb d_Md_pack_232 hl rfl rfl (by decide) rfl (fun ls hl => ?_)
  refine lv_goto (tgt := 190) hx hb d_Md_pack_235 rfl ?_
  exact hk190 _ _ _ _ _ _ _ _ _ _ o0 hI (lv_sub hl [1, 2, 3, 4, 5, 0] rfl) h
def b_Md_pack_203 (L : La) (k190 : Nat → Int32 → Int32 → Int32 → Int32 → Int32 → Mem → Option (Int32 × Mem)) (i0 : Nat) (x1 : Int32) (x3 : Int32) (x4 : Int32) (x5 : Int32) (x6 : Int32) (y0 : Int32) (y1 : Int32) (F : Mem) : Option (Int32 × Mem) :=
  if y1 ≤ y0 then
    if x1 = 0 then
      b_Md_pack_267 L  x5 F
    else
      (f_Md_mark L i0 F).bind fun q1 =>
      (f_Md_append L i0 (q1.1 &&& (255 : Int32)) q1.2).bind fun F3 =>
      (f_Md_append L i0 (jshr q1.1 (8 : Int32)) F3).bind fun F5 =>
      b_Md_pack_267 L  x5 F5
  else
    if x3 = (2 : Int32) then
      if inb x6 (mGl L (mRf L i0 35)) then none else
      b_Md_pack_229 L k190 i0 x1 x3 x4 x5 x6 i0 (mGa L F (mRf L i0 35) x6.toNatClampNeg) F
    else
      if inb x6 (mGl L (mRf L i0 0)) then none else
      b_Md_pack_229 L k190 i0 x1 x3 x4 x5 x6 i0 (mGa L F (mRf L i0 0) x6.toNatClampNeg) F
set_option maxHeartbeats 4000000 in
theorem t_Md_pack_203 (hC : Cx X L p s m args meth c cc_Md_pack 7 w_Md_pack R_Md (some .int)) {k190 : Nat → Int32 → Int32 → Int32 → Int32 → Int32 → Mem → Option (Int32 × Mem)} {out : (Int32 × Mem)} (hk190 : ∀ (i0 : Nat) (x1 : Int32) (x3 : Int32) (x4 : Int32) (x5 : Int32) (x6 : Int32) (F : Mem) (H : Heap) (locs : List Loc) (ls : Array Slot), oO L 12 i0 → Iv X L s H locs F → lv_has ls 7 [(0, .ref (mAd X i0)), (1, .int x1), (3, .int x3), (4, .int x4), (5, .int x5), (6, .int x6)] → k190 i0 x1 x3 x4 x5 x6 F = some out → W p l e (headSpec w_Md_pack r_Md_pack).room s m args below meth c H locs 0 0 (MQ below (QI X L out) args s 0 0 (AA X L)) (F0 m 190 ls [])) {i0 : Nat} {x1 : Int32} {x3 : Int32} {x4 : Int32} {x5 : Int32} {x6 : Int32} {y0 : Int32} {y1 : Int32} {F : Mem} {H : Heap} {locs : List Loc} {ls : Array Slot} (o0 : oO L 12 i0) (hI : Iv X L s H locs F) (hl : lv_has ls 7 [(0, .ref (mAd X i0)), (1, .int x1), (3, .int x3), (4, .int x4), (5, .int x5), (6, .int x6)]) (h : b_Md_pack_203 L k190 i0 x1 x3 x4 x5 x6 y0 y1 F = some out) : W p l e (headSpec w_Md_pack r_Md_pack).room s m args below meth c H locs 0 0 (MQ below (QI X L out) args s 0 0 (AA X L)) (F0 m 203 ls [.int y1, .int y0]) := by
  unfold b_Md_pack_203 at h
  obtain ⟨S, hK, hT, hW, hr, hlk⟩ := id hC
  have hx := S.1
  have hb := S.2.1
  refine lv_icmp_ge (tgt := 238) hx hb d_Md_pack_203 rfl (fun hc => ?_) (fun hc => ?_)
  · replace h := (if_pos hc).symm.trans h
    refine lv_iload_n hx hb d_Md_pack_238 rfl (lv_at hl 1 rfl) ?_
    refine lv_if_eq (tgt := 267) hx hb d_Md_pack_239 rfl (fun hc => ?_) (fun hc => ?_)
    · replace h := (if_pos hc).symm.trans h
      exact t_Md_pack_267 hC   hI (lv_sub hl [4] rfl) h
    · replace h := (if_neg hc).symm.trans h
      refine lv_aload_n hx hb d_Md_pack_242 rfl (lv_at hl 0 rfl) ?_
      obtain ⟨q1, e2, h⟩ := un_bi h
      refine w_callVi (As := []) (rest := []) S hK hI hT (c_Md_mark l hW o0 e2) (cwV 0 S.2.2.2.2 (gd_V lc_Md_mark lm_Md_272 li_Md_mark ls_Md_mark ln_Md) rfl rfl rfl hd_Md_mark ⟨Nat.le_of_ble_eq_true rfl, Nat.le_of_ble_eq_true rfl⟩) o0 rfl (by decide) rfl rfl hl.1 (Nat.le_of_ble_eq_true rfl) d_Md_pack_243 ⟨Nat.zero_le _, Nat.zero_le _⟩ (fun H locs hI => ?_)
      refine lv_istore (lv' := [(6, .int q1.1), (0, .ref (mAd X i0)), (1, .int x1), (3, .int x3), (4, .int x4), (5, .int x5)]) hx hb d_Md_pack_246 hl (by decide) rfl (fun ls hl => ?_)
      refine lv_aload_n hx hb d_Md_pack_248 rfl (lv_at hl 1 rfl) ?_
      refine lv_iload hx hb d_Md_pack_249 (lv_at hl 0 rfl) ?_
      refine lv_sipush (v := 255) hx hb d_Md_pack_251 (by decide) ?_
      refine lv_iand hx hb d_Md_pack_254 ?_
      obtain ⟨F3, e4, h⟩ := un_bi h
      refine w_callVv (As := [.int (q1.1 &&& (255 : Int32))]) (rest := []) S hK hI hT (c_Md_append l hW o0 e4) (cwV 1 S.2.2.2.2 (gd_V lc_Md_append lm_Md_269 li_Md_append ls_Md_append ln_Md) rfl rfl rfl hd_Md_append ⟨Nat.le_of_ble_eq_true rfl, Nat.le_of_ble_eq_true rfl⟩) o0 rfl (by decide) rfl rfl hl.1 (Nat.le_of_ble_eq_true rfl) d_Md_pack_255 ⟨Nat.zero_le _, Nat.zero_le _⟩ (fun H locs hI => ?_)
      refine lv_aload_n hx hb d_Md_pack_258 rfl (lv_at hl 1 rfl) ?_
      refine lv_iload hx hb d_Md_pack_259 (lv_at hl 0 rfl) ?_
      refine lv_bipush (v := 8) hx hb d_Md_pack_261 (by decide) ?_
      refine lv_ishr hx hb d_Md_pack_263 ?_
      obtain ⟨F5, e6, h⟩ := un_bi h
      refine w_callVv (As := [.int (jshr q1.1 (8 : Int32))]) (rest := []) S hK hI hT (c_Md_append l hW o0 e6) (cwV 1 S.2.2.2.2 (gd_V lc_Md_append lm_Md_269 li_Md_append ls_Md_append ln_Md) rfl rfl rfl hd_Md_append ⟨Nat.le_of_ble_eq_true rfl, Nat.le_of_ble_eq_true rfl⟩) o0 rfl (by decide) rfl rfl hl.1 (Nat.le_of_ble_eq_true rfl) d_Md_pack_264 ⟨Nat.zero_le _, Nat.zero_le _⟩ (fun H locs hI => ?_)
      exact t_Md_pack_267 hC   hI (lv_sub hl [5] rfl) h
  · replace h := (if_neg hc).symm.trans h
    refine lv_aload_n hx hb d_Md_pack_206 rfl (lv_at hl 0 rfl) ?_
    refine lv_iload_n hx hb d_Md_pack_207 rfl (lv_at hl 2 rfl) ?_
    refine lv_iconst (v := 2) hx hb d_Md_pack_208 rfl ?_
    refine lv_icmp_ne (tgt := 222) hx hb d_Md_pack_209 rfl (fun hc => ?_) (fun hc => ?_)
    · replace h := (if_neg hc).symm.trans h
      refine lv_aload_n hx hb d_Md_pack_222 rfl (lv_at hl 0 rfl) ?_
      have p7 := wt_a hW o0 0 rfl (by decide) (by decide)
      refine w_getR (T := T_Md) S hK hI o0 rfl hin_Md 0 (index := 7) (by decide) lf_Md_7 d_Md_pack_223 ?_
      refine lv_iload hx hb d_Md_pack_226 (lv_at hl 5 rfl) ?_
      obtain ⟨z8, h⟩ := un_if h
      refine w_iald S hK hI hT p7 z8 d_Md_pack_228 ?_
      exact t_Md_pack_229 hC hk190 o0 o0 hI hl h
    · replace h := (if_pos hc).symm.trans h
      refine lv_aload_n hx hb d_Md_pack_212 rfl (lv_at hl 0 rfl) ?_
      have p9 := wt_a hW o0 35 rfl (by decide) (by decide)
      refine w_getR (T := T_Md) S hK hI o0 rfl hin_Md 35 (index := 68) (by decide) lf_Md_68 d_Md_pack_213 ?_
      refine lv_iload hx hb d_Md_pack_216 (lv_at hl 5 rfl) ?_
      obtain ⟨z10, h⟩ := un_if h
      refine w_iald S hK hI hT p9 z10 d_Md_pack_218 ?_
      refine lv_goto (tgt := 229) hx hb d_Md_pack_219 rfl ?_
      exact t_Md_pack_229 hC hk190 o0 o0 hI hl h
def b_Md_pack_190 (L : La) (k190 : Nat → Int32 → Int32 → Int32 → Int32 → Int32 → Mem → Option (Int32 × Mem)) (i0 : Nat) (x1 : Int32) (x3 : Int32) (x4 : Int32) (x5 : Int32) (x6 : Int32) (F : Mem) : Option (Int32 × Mem) :=
  if x3 = (1 : Int32) then
    b_Md_pack_203 L k190 i0 x1 x3 x4 x5 x6 x6 (1 : Int32) F
  else
    b_Md_pack_203 L k190 i0 x1 x3 x4 x5 x6 x6 x4 F
set_option maxHeartbeats 4000000 in
theorem t_Md_pack_190 (hC : Cx X L p s m args meth c cc_Md_pack 7 w_Md_pack R_Md (some .int)) {k190 : Nat → Int32 → Int32 → Int32 → Int32 → Int32 → Mem → Option (Int32 × Mem)} {out : (Int32 × Mem)} (hk190 : ∀ (i0 : Nat) (x1 : Int32) (x3 : Int32) (x4 : Int32) (x5 : Int32) (x6 : Int32) (F : Mem) (H : Heap) (locs : List Loc) (ls : Array Slot), oO L 12 i0 → Iv X L s H locs F → lv_has ls 7 [(0, .ref (mAd X i0)), (1, .int x1), (3, .int x3), (4, .int x4), (5, .int x5), (6, .int x6)] → k190 i0 x1 x3 x4 x5 x6 F = some out → W p l e (headSpec w_Md_pack r_Md_pack).room s m args below meth c H locs 0 0 (MQ below (QI X L out) args s 0 0 (AA X L)) (F0 m 190 ls [])) {i0 : Nat} {x1 : Int32} {x3 : Int32} {x4 : Int32} {x5 : Int32} {x6 : Int32} {F : Mem} {H : Heap} {locs : List Loc} {ls : Array Slot} (o0 : oO L 12 i0) (hI : Iv X L s H locs F) (hl : lv_has ls 7 [(0, .ref (mAd X i0)), (1, .int x1), (3, .int x3), (4, .int x4), (5, .int x5), (6, .int x6)]) (h : b_Md_pack_190 L k190 i0 x1 x3 x4 x5 x6 F = some out) : W p l e (headSpec w_Md_pack r_Md_pack).room s m args below meth c H locs 0 0 (MQ below (QI X L out) args s 0 0 (AA X L)) (F0 m 190 ls []) := by
  unfold b_Md_pack_190 at h
  obtain ⟨S, hK, hT, hW, hr, hlk⟩ := id hC
  have hx := S.1
  have hb := S.2.1
  refine lv_iload hx hb d_Md_pack_190 (lv_at hl 5 rfl) ?_
  refine lv_iload_n hx hb d_Md_pack_192 rfl (lv_at hl 2 rfl) ?_
  refine lv_iconst (v := 1) hx hb d_Md_pack_193 rfl ?_
  refine lv_icmp_ne (tgt := 201) hx hb d_Md_pack_194 rfl (fun hc => ?_) (fun hc => ?_)
  · replace h := (if_neg hc).symm.trans h
    refine lv_iload hx hb d_Md_pack_201 (lv_at hl 3 rfl) ?_
    exact t_Md_pack_203 hC hk190 o0 hI hl h
  · replace h := (if_pos hc).symm.trans h
    refine lv_iconst (v := 1) hx hb d_Md_pack_197 rfl ?_
    refine lv_goto (tgt := 203) hx hb d_Md_pack_198 rfl ?_
    exact t_Md_pack_203 hC hk190 o0 hI hl h
def f_Md_pack_190 (L : La)  : Nat → Nat → Int32 → Int32 → Int32 → Int32 → Int32 → Mem → Option (Int32 × Mem)
  | 0 => fun _ _ _ _ _ _ _ => none
  | n + 1 => b_Md_pack_190 L (f_Md_pack_190 L  n)
theorem tf_Md_pack_190 (hC : Cx X L p s m args meth c cc_Md_pack 7 w_Md_pack R_Md (some .int))  {out : (Int32 × Mem)}  (n : Nat) : ∀ (i0 : Nat) (x1 : Int32) (x3 : Int32) (x4 : Int32) (x5 : Int32) (x6 : Int32) (F : Mem) (H : Heap) (locs : List Loc) (ls : Array Slot), oO L 12 i0 → Iv X L s H locs F → lv_has ls 7 [(0, .ref (mAd X i0)), (1, .int x1), (3, .int x3), (4, .int x4), (5, .int x5), (6, .int x6)] → f_Md_pack_190 L  n i0 x1 x3 x4 x5 x6 F = some out → W p l e (headSpec w_Md_pack r_Md_pack).room s m args below meth c H locs 0 0 (MQ below (QI X L out) args s 0 0 (AA X L)) (F0 m 190 ls []) := by
  induction n with
  | zero => intro i0 x1 x3 x4 x5 x6 F H locs ls o0 hI hl h; cases h
  | succ n ih => intro i0 x1 x3 x4 x5 x6 F H locs ls o0 hI hl h; exact t_Md_pack_190 hC ih o0 hI hl h
def b_Md_pack_135 (L : La)  (i0 : Nat) (x1 : Int32) (x3 : Int32) (x4 : Int32) (x5 : Int32) (j0 : Nat) (y1 : Int32) (F : Mem) : Option (Int32 × Mem) :=
  (f_Md_append L j0 y1 F).bind fun F1 =>
  (f_Md_append L i0 ((F1 i0 1) &&& (255 : Int32)) F1).bind fun F3 =>
  (f_Md_append L i0 (jshr (F3 i0 1) (8 : Int32)) F3).bind fun F5 =>
  (f_Md_append L i0 (((1 : Int32) + ((2 : Int32) * x3)) + ((8 : Int32) * (x4 &&& (31 : Int32)))) F5).bind fun F7 =>
  (f_Md_append L i0 (jshr x4 (5 : Int32)) F7).bind fun F9 =>
  f_Md_pack_190 L  mFU i0 x1 x3 x4 x5 (0 : Int32) F9
set_option maxHeartbeats 4000000 in
theorem t_Md_pack_135 (hC : Cx X L p s m args meth c cc_Md_pack 7 w_Md_pack R_Md (some .int))  {out : (Int32 × Mem)}  {i0 : Nat} {x1 : Int32} {x3 : Int32} {x4 : Int32} {x5 : Int32} {j0 : Nat} {y1 : Int32} {F : Mem} {H : Heap} {locs : List Loc} {ls : Array Slot} (o0 : oO L 12 i0) (oy0 : oO L 12 j0) (hI : Iv X L s H locs F) (hl : lv_has ls 7 [(0, .ref (mAd X i0)), (1, .int x1), (3, .int x3), (4, .int x4), (5, .int x5)]) (h : b_Md_pack_135 L  i0 x1 x3 x4 x5 j0 y1 F = some out) : W p l e (headSpec w_Md_pack r_Md_pack).room s m args below meth c H locs 0 0 (MQ below (QI X L out) args s 0 0 (AA X L)) (F0 m 135 ls [.int y1, .ref (mAd X j0)]) := by
  unfold b_Md_pack_135 at h
  obtain ⟨S, hK, hT, hW, hr, hlk⟩ := id hC
  have hx := S.1
  have hb := S.2.1
  obtain ⟨F1, e2, h⟩ := un_bi h
  refine w_callVv (As := [.int y1]) (rest := []) S hK hI hT (c_Md_append l hW oy0 e2) (cwV 1 S.2.2.2.2 (gd_V lc_Md_append lm_Md_269 li_Md_append ls_Md_append ln_Md) rfl rfl rfl hd_Md_append ⟨Nat.le_of_ble_eq_true rfl, Nat.le_of_ble_eq_true rfl⟩) oy0 rfl (by decide) rfl rfl hl.1 (Nat.le_of_ble_eq_true rfl) d_Md_pack_135 ⟨Nat.zero_le _, Nat.zero_le _⟩ (fun H locs hI => ?_)
  refine lv_aload_n hx hb d_Md_pack_138 rfl (lv_at hl 0 rfl) ?_
  refine lv_aload_n hx hb d_Md_pack_139 rfl (lv_at hl 0 rfl) ?_
  refine w_getI (T := T_Md) S hK hI o0 rfl hin_Md 1 (index := 86) (by decide) lf_Md_86 d_Md_pack_140 ?_
  refine lv_sipush (v := 255) hx hb d_Md_pack_143 (by decide) ?_
  refine lv_iand hx hb d_Md_pack_146 ?_
  obtain ⟨F3, e4, h⟩ := un_bi h
  refine w_callVv (As := [.int ((F1 i0 1) &&& (255 : Int32))]) (rest := []) S hK hI hT (c_Md_append l hW o0 e4) (cwV 1 S.2.2.2.2 (gd_V lc_Md_append lm_Md_269 li_Md_append ls_Md_append ln_Md) rfl rfl rfl hd_Md_append ⟨Nat.le_of_ble_eq_true rfl, Nat.le_of_ble_eq_true rfl⟩) o0 rfl (by decide) rfl rfl hl.1 (Nat.le_of_ble_eq_true rfl) d_Md_pack_147 ⟨Nat.zero_le _, Nat.zero_le _⟩ (fun H locs hI => ?_)
  refine lv_aload_n hx hb d_Md_pack_150 rfl (lv_at hl 0 rfl) ?_
  refine lv_aload_n hx hb d_Md_pack_151 rfl (lv_at hl 0 rfl) ?_
  refine w_getI (T := T_Md) S hK hI o0 rfl hin_Md 1 (index := 86) (by decide) lf_Md_86 d_Md_pack_152 ?_
  refine lv_bipush (v := 8) hx hb d_Md_pack_155 (by decide) ?_
  refine lv_ishr hx hb d_Md_pack_157 ?_
  obtain ⟨F5, e6, h⟩ := un_bi h
  refine w_callVv (As := [.int (jshr (F3 i0 1) (8 : Int32))]) (rest := []) S hK hI hT (c_Md_append l hW o0 e6) (cwV 1 S.2.2.2.2 (gd_V lc_Md_append lm_Md_269 li_Md_append ls_Md_append ln_Md) rfl rfl rfl hd_Md_append ⟨Nat.le_of_ble_eq_true rfl, Nat.le_of_ble_eq_true rfl⟩) o0 rfl (by decide) rfl rfl hl.1 (Nat.le_of_ble_eq_true rfl) d_Md_pack_158 ⟨Nat.zero_le _, Nat.zero_le _⟩ (fun H locs hI => ?_)
  refine lv_aload_n hx hb d_Md_pack_161 rfl (lv_at hl 0 rfl) ?_
  refine lv_iconst (v := 1) hx hb d_Md_pack_162 rfl ?_
  refine lv_iconst (v := 2) hx hb d_Md_pack_163 rfl ?_
  refine lv_iload_n hx hb d_Md_pack_164 rfl (lv_at hl 2 rfl) ?_
  refine lv_imul hx hb d_Md_pack_165 ?_
  refine lv_iadd hx hb d_Md_pack_166 ?_
  refine lv_bipush (v := 8) hx hb d_Md_pack_167 (by decide) ?_
  refine lv_iload hx hb d_Md_pack_169 (lv_at hl 3 rfl) ?_
  refine lv_bipush (v := 31) hx hb d_Md_pack_171 (by decide) ?_
  refine lv_iand hx hb d_Md_pack_173 ?_
  refine lv_imul hx hb d_Md_pack_174 ?_
  refine lv_iadd hx hb d_Md_pack_175 ?_
  obtain ⟨F7, e8, h⟩ := un_bi h
  refine w_callVv (As := [.int (((1 : Int32) + ((2 : Int32) * x3)) + ((8 : Int32) * (x4 &&& (31 : Int32))))]) (rest := []) S hK hI hT (c_Md_append l hW o0 e8) (cwV 1 S.2.2.2.2 (gd_V lc_Md_append lm_Md_269 li_Md_append ls_Md_append ln_Md) rfl rfl rfl hd_Md_append ⟨Nat.le_of_ble_eq_true rfl, Nat.le_of_ble_eq_true rfl⟩) o0 rfl (by decide) rfl rfl hl.1 (Nat.le_of_ble_eq_true rfl) d_Md_pack_176 ⟨Nat.zero_le _, Nat.zero_le _⟩ (fun H locs hI => ?_)
  refine lv_aload_n hx hb d_Md_pack_179 rfl (lv_at hl 0 rfl) ?_
  refine lv_iload hx hb d_Md_pack_180 (lv_at hl 3 rfl) ?_
  refine lv_iconst (v := 5) hx hb d_Md_pack_182 rfl ?_
  refine lv_ishr hx hb d_Md_pack_183 ?_
  obtain ⟨F9, e10, h⟩ := un_bi h
  refine w_callVv (As := [.int (jshr x4 (5 : Int32))]) (rest := []) S hK hI hT (c_Md_append l hW o0 e10) (cwV 1 S.2.2.2.2 (gd_V lc_Md_append lm_Md_269 li_Md_append ls_Md_append ln_Md) rfl rfl rfl hd_Md_append ⟨Nat.le_of_ble_eq_true rfl, Nat.le_of_ble_eq_true rfl⟩) o0 rfl (by decide) rfl rfl hl.1 (Nat.le_of_ble_eq_true rfl) d_Md_pack_184 ⟨Nat.zero_le _, Nat.zero_le _⟩ (fun H locs hI => ?_)
  refine lv_iconst (v := 0) hx hb d_Md_pack_187 rfl ?_
  refine lv_istore (lv' := [(6, .int (0 : Int32)), (0, .ref (mAd X i0)), (1, .int x1), (3, .int x3), (4, .int x4), (5, .int x5)]) hx hb d_Md_pack_188 hl (by decide) rfl (fun ls hl => ?_)
  exact tf_Md_pack_190 hC  mFU _ _ _ _ _ _ _ _ _ _ o0 hI (lv_sub hl [1, 2, 3, 4, 5, 0] rfl) h
def b_Md_pack_100 (L : La)  (i0 : Nat) (x1 : Int32) (x3 : Int32) (x4 : Int32) (y0 : Int32) (y1 : Int32) (F : Mem) : Option (Int32 × Mem) :=
  if ((F i0 3) + (y0 + y1)) ≤ (240 : Int32) then
    (f_Md_append L i0 (90 : Int32) F).bind fun F1 =>
    if x1 = 0 then
      b_Md_pack_135 L  i0 x1 x3 x4 (y0 + y1) i0 (0 : Int32) F1
    else
      b_Md_pack_135 L  i0 x1 x3 x4 (y0 + y1) i0 (1 : Int32) F1
  else
    some ((-2 : Int32), F)
set_option maxHeartbeats 4000000 in
theorem t_Md_pack_100 (hC : Cx X L p s m args meth c cc_Md_pack 7 w_Md_pack R_Md (some .int))  {out : (Int32 × Mem)}  {i0 : Nat} {x1 : Int32} {x3 : Int32} {x4 : Int32} {y0 : Int32} {y1 : Int32} {F : Mem} {H : Heap} {locs : List Loc} {ls : Array Slot} (o0 : oO L 12 i0) (hI : Iv X L s H locs F) (hl : lv_has ls 7 [(0, .ref (mAd X i0)), (1, .int x1), (3, .int x3), (4, .int x4)]) (h : b_Md_pack_100 L  i0 x1 x3 x4 y0 y1 F = some out) : W p l e (headSpec w_Md_pack r_Md_pack).room s m args below meth c H locs 0 0 (MQ below (QI X L out) args s 0 0 (AA X L)) (F0 m 100 ls [.int y1, .int y0]) := by
  unfold b_Md_pack_100 at h
  obtain ⟨S, hK, hT, hW, hr, hlk⟩ := id hC
  have hx := S.1
  have hb := S.2.1
  refine lv_iadd hx hb d_Md_pack_100 ?_
  refine lv_istore (lv' := [(5, .int (y0 + y1)), (0, .ref (mAd X i0)), (1, .int x1), (3, .int x3), (4, .int x4)]) hx hb d_Md_pack_101 hl (by decide) rfl (fun ls hl => ?_)
  refine lv_aload_n hx hb d_Md_pack_103 rfl (lv_at hl 1 rfl) ?_
  refine w_getI (T := T_Md) S hK hI o0 rfl hin_Md 3 (index := 90) (by decide) lf_Md_90 d_Md_pack_104 ?_
  refine lv_iload hx hb d_Md_pack_107 (lv_at hl 0 rfl) ?_
  refine lv_iadd hx hb d_Md_pack_109 ?_
  refine lv_sipush (v := 240) hx hb d_Md_pack_110 (by decide) ?_
  refine lv_icmp_le (tgt := 119) hx hb d_Md_pack_113 rfl (fun hc => ?_) (fun hc => ?_)
  · replace h := (if_pos hc).symm.trans h
    refine lv_aload_n hx hb d_Md_pack_119 rfl (lv_at hl 1 rfl) ?_
    refine lv_bipush (v := 90) hx hb d_Md_pack_120 (by decide) ?_
    obtain ⟨F1, e2, h⟩ := un_bi h
    refine w_callVv (As := [.int (90 : Int32)]) (rest := []) S hK hI hT (c_Md_append l hW o0 e2) (cwV 1 S.2.2.2.2 (gd_V lc_Md_append lm_Md_269 li_Md_append ls_Md_append ln_Md) rfl rfl rfl hd_Md_append ⟨Nat.le_of_ble_eq_true rfl, Nat.le_of_ble_eq_true rfl⟩) o0 rfl (by decide) rfl rfl hl.1 (Nat.le_of_ble_eq_true rfl) d_Md_pack_122 ⟨Nat.zero_le _, Nat.zero_le _⟩ (fun H locs hI => ?_)
    refine lv_aload_n hx hb d_Md_pack_125 rfl (lv_at hl 1 rfl) ?_
    refine lv_iload_n hx hb d_Md_pack_126 rfl (lv_at hl 2 rfl) ?_
    refine lv_if_eq (tgt := 134) hx hb d_Md_pack_127 rfl (fun hc => ?_) (fun hc => ?_)
    · replace h := (if_pos hc).symm.trans h
      refine lv_iconst (v := 0) hx hb d_Md_pack_134 rfl ?_
      exact t_Md_pack_135 hC  o0 o0 hI (lv_sub hl [1, 2, 3, 4, 0] rfl) h
    · replace h := (if_neg hc).symm.trans h
      refine lv_iconst (v := 1) hx hb d_Md_pack_130 rfl ?_
      refine lv_goto (tgt := 135) hx hb d_Md_pack_131 rfl ?_
      exact t_Md_pack_135 hC  o0 o0 hI (lv_sub hl [1, 2, 3, 4, 0] rfl) h
  · replace h := (if_neg hc).symm.trans h
    refine lv_bipush (v := -2) hx hb d_Md_pack_116 (by decide) ?_
    exact w_iret S hK hr hlk hI d_Md_pack_118 h
def b_Md_pack_90 (L : La)  (i0 : Nat) (x1 : Int32) (x3 : Int32) (x4 : Int32) (y0 : Int32) (y1 : Int32) (F : Mem) : Option (Int32 × Mem) :=
  if x1 = 0 then
    b_Md_pack_100 L  i0 x1 x3 x4 (y0 + y1) (0 : Int32) F
  else
    b_Md_pack_100 L  i0 x1 x3 x4 (y0 + y1) (2 : Int32) F
set_option maxHeartbeats 4000000 in
theorem t_Md_pack_90 (hC : Cx X L p s m args meth c cc_Md_pack 7 w_Md_pack R_Md (some .int))  {out : (Int32 × Mem)}  {i0 : Nat} {x1 : Int32} {x3 : Int32} {x4 : Int32} {y0 : Int32} {y1 : Int32} {F : Mem} {H : Heap} {locs : List Loc} {ls : Array Slot} (o0 : oO L 12 i0) (hI : Iv X L s H locs F) (hl : lv_has ls 7 [(0, .ref (mAd X i0)), (1, .int x1), (3, .int x3), (4, .int x4)]) (h : b_Md_pack_90 L  i0 x1 x3 x4 y0 y1 F = some out) : W p l e (headSpec w_Md_pack r_Md_pack).room s m args below meth c H locs 0 0 (MQ below (QI X L out) args s 0 0 (AA X L)) (F0 m 90 ls [.int y1, .int y0]) := by
  unfold b_Md_pack_90 at h
  obtain ⟨S, hK, hT, hW, hr, hlk⟩ := id hC
  have hx := S.1
  have hb := S.2.1
  refine lv_iadd hx hb d_Md_pack_90 ?_
  refine lv_iload_n hx hb d_Md_pack_91 rfl (lv_at hl 1 rfl) ?_
  refine lv_if_eq (tgt := 99) hx hb d_Md_pack_92 rfl (fun hc => ?_) (fun hc => ?_)
  · replace h := (if_pos hc).symm.trans h
    refine lv_iconst (v := 0) hx hb d_Md_pack_99 rfl ?_
    exact t_Md_pack_100 hC  o0 hI hl h
  · replace h := (if_neg hc).symm.trans h
    refine lv_iconst (v := 2) hx hb d_Md_pack_95 rfl ?_
    refine lv_goto (tgt := 100) hx hb d_Md_pack_96 rfl ?_
    exact t_Md_pack_100 hC  o0 hI hl h
def b_Md_pack_75 (L : La)  (i0 : Nat) (x1 : Int32) (x3 : Int32) (y0 : Int32) (F : Mem) : Option (Int32 × Mem) :=
  if x3 = (1 : Int32) then
    b_Md_pack_90 L  i0 x1 x3 y0 (6 : Int32) (1 : Int32) F
  else
    b_Md_pack_90 L  i0 x1 x3 y0 (6 : Int32) y0 F
set_option maxHeartbeats 4000000 in
theorem t_Md_pack_75 (hC : Cx X L p s m args meth c cc_Md_pack 7 w_Md_pack R_Md (some .int))  {out : (Int32 × Mem)}  {i0 : Nat} {x1 : Int32} {x3 : Int32} {y0 : Int32} {F : Mem} {H : Heap} {locs : List Loc} {ls : Array Slot} (o0 : oO L 12 i0) (hI : Iv X L s H locs F) (hl : lv_has ls 7 [(0, .ref (mAd X i0)), (1, .int x1), (3, .int x3)]) (h : b_Md_pack_75 L  i0 x1 x3 y0 F = some out) : W p l e (headSpec w_Md_pack r_Md_pack).room s m args below meth c H locs 0 0 (MQ below (QI X L out) args s 0 0 (AA X L)) (F0 m 75 ls [.int y0]) := by
  unfold b_Md_pack_75 at h
  obtain ⟨S, hK, hT, hW, hr, hlk⟩ := id hC
  have hx := S.1
  have hb := S.2.1
  refine lv_istore (lv' := [(4, .int y0), (0, .ref (mAd X i0)), (1, .int x1), (3, .int x3)]) hx hb d_Md_pack_75 hl (by decide) rfl (fun ls hl => ?_)
  refine lv_bipush (v := 6) hx hb d_Md_pack_77 (by decide) ?_
  refine lv_iload_n hx hb d_Md_pack_79 rfl (lv_at hl 3 rfl) ?_
  refine lv_iconst (v := 1) hx hb d_Md_pack_80 rfl ?_
  refine lv_icmp_ne (tgt := 88) hx hb d_Md_pack_81 rfl (fun hc => ?_) (fun hc => ?_)
  · replace h := (if_neg hc).symm.trans h
    refine lv_iload hx hb d_Md_pack_88 (lv_at hl 0 rfl) ?_
    exact t_Md_pack_90 hC  o0 hI (lv_sub hl [1, 2, 3, 0] rfl) h
  · replace h := (if_pos hc).symm.trans h
    refine lv_iconst (v := 1) hx hb d_Md_pack_84 rfl ?_
    refine lv_goto (tgt := 90) hx hb d_Md_pack_85 rfl ?_
    exact t_Md_pack_90 hC  o0 hI (lv_sub hl [1, 2, 3, 0] rfl) h
def b_Md_pack_58 (L : La)  (i0 : Nat) (x1 : Int32) (y0 : Int32) (F : Mem) : Option (Int32 × Mem) :=
  if y0 = (2 : Int32) then
    b_Md_pack_75 L  i0 x1 y0 (F i0 34) F
  else
    b_Md_pack_75 L  i0 x1 y0 (F i0 1) F
set_option maxHeartbeats 4000000 in
theorem t_Md_pack_58 (hC : Cx X L p s m args meth c cc_Md_pack 7 w_Md_pack R_Md (some .int))  {out : (Int32 × Mem)}  {i0 : Nat} {x1 : Int32} {y0 : Int32} {F : Mem} {H : Heap} {locs : List Loc} {ls : Array Slot} (o0 : oO L 12 i0) (hI : Iv X L s H locs F) (hl : lv_has ls 7 [(0, .ref (mAd X i0)), (1, .int x1)]) (h : b_Md_pack_58 L  i0 x1 y0 F = some out) : W p l e (headSpec w_Md_pack r_Md_pack).room s m args below meth c H locs 0 0 (MQ below (QI X L out) args s 0 0 (AA X L)) (F0 m 58 ls [.int y0]) := by
  unfold b_Md_pack_58 at h
  obtain ⟨S, hK, hT, hW, hr, hlk⟩ := id hC
  have hx := S.1
  have hb := S.2.1
  refine lv_istore_n (lv' := [(3, .int y0), (0, .ref (mAd X i0)), (1, .int x1)]) hx hb d_Md_pack_58 rfl hl (by decide) rfl (fun ls hl => ?_)
  refine lv_iload_n hx hb d_Md_pack_59 rfl (lv_at hl 0 rfl) ?_
  refine lv_iconst (v := 2) hx hb d_Md_pack_60 rfl ?_
  refine lv_icmp_ne (tgt := 71) hx hb d_Md_pack_61 rfl (fun hc => ?_) (fun hc => ?_)
  · replace h := (if_neg hc).symm.trans h
    refine lv_aload_n hx hb d_Md_pack_71 rfl (lv_at hl 1 rfl) ?_
    refine w_getI (T := T_Md) S hK hI o0 rfl hin_Md 1 (index := 86) (by decide) lf_Md_86 d_Md_pack_72 ?_
    exact t_Md_pack_75 hC  o0 hI (lv_sub hl [1, 2, 0] rfl) h
  · replace h := (if_pos hc).symm.trans h
    refine lv_aload_n hx hb d_Md_pack_64 rfl (lv_at hl 1 rfl) ?_
    refine w_getI (T := T_Md) S hK hI o0 rfl hin_Md 34 (index := 209) (by decide) lf_Md_209 d_Md_pack_65 ?_
    refine lv_goto (tgt := 75) hx hb d_Md_pack_68 rfl ?_
    exact t_Md_pack_75 hC  o0 hI (lv_sub hl [1, 2, 0] rfl) h
def b_Md_pack_57 (L : La)  (i0 : Nat) (x1 : Int32) (F : Mem) : Option (Int32 × Mem) :=
  b_Md_pack_58 L  i0 x1 (0 : Int32) F
set_option maxHeartbeats 4000000 in
theorem t_Md_pack_57 (hC : Cx X L p s m args meth c cc_Md_pack 7 w_Md_pack R_Md (some .int))  {out : (Int32 × Mem)}  {i0 : Nat} {x1 : Int32} {F : Mem} {H : Heap} {locs : List Loc} {ls : Array Slot} (o0 : oO L 12 i0) (hI : Iv X L s H locs F) (hl : lv_has ls 7 [(0, .ref (mAd X i0)), (1, .int x1)]) (h : b_Md_pack_57 L  i0 x1 F = some out) : W p l e (headSpec w_Md_pack r_Md_pack).room s m args below meth c H locs 0 0 (MQ below (QI X L out) args s 0 0 (AA X L)) (F0 m 57 ls []) := by
  unfold b_Md_pack_57 at h
  obtain ⟨S, hK, hT, hW, hr, hlk⟩ := id hC
  have hx := S.1
  have hb := S.2.1
  refine lv_iconst (v := 0) hx hb d_Md_pack_57 rfl ?_
  exact t_Md_pack_58 hC  o0 hI hl h
def b_Md_pack_20 (L : La)  (i0 : Nat) (x1 : Int32) (y0 : Int32) (F : Mem) : Option (Int32 × Mem) :=
  (f_Md_makePack L i0 F).bind fun F1 =>
  if y0 = 0 then
    if (63 : Int32) < (F1 i0 13) then
      b_Md_pack_57 L  i0 x1 F1
    else
      if (F1 i0 1) ≤ (F1 i0 34) then
        b_Md_pack_57 L  i0 x1 F1
      else
        b_Md_pack_58 L  i0 x1 (2 : Int32) F1
  else
    b_Md_pack_58 L  i0 x1 (1 : Int32) F1
set_option maxHeartbeats 4000000 in
theorem t_Md_pack_20 (hC : Cx X L p s m args meth c cc_Md_pack 7 w_Md_pack R_Md (some .int))  {out : (Int32 × Mem)}  {i0 : Nat} {x1 : Int32} {y0 : Int32} {F : Mem} {H : Heap} {locs : List Loc} {ls : Array Slot} (o0 : oO L 12 i0) (hI : Iv X L s H locs F) (hl : lv_has ls 7 [(0, .ref (mAd X i0)), (1, .int x1)]) (h : b_Md_pack_20 L  i0 x1 y0 F = some out) : W p l e (headSpec w_Md_pack r_Md_pack).room s m args below meth c H locs 0 0 (MQ below (QI X L out) args s 0 0 (AA X L)) (F0 m 20 ls [.int y0]) := by
  unfold b_Md_pack_20 at h
  obtain ⟨S, hK, hT, hW, hr, hlk⟩ := id hC
  have hx := S.1
  have hb := S.2.1
  refine lv_istore_n (lv' := [(2, .int y0), (0, .ref (mAd X i0)), (1, .int x1)]) hx hb d_Md_pack_20 rfl hl (by decide) rfl (fun ls hl => ?_)
  refine lv_aload_n hx hb d_Md_pack_21 rfl (lv_at hl 1 rfl) ?_
  obtain ⟨F1, e2, h⟩ := un_bi h
  refine w_callVv (As := []) (rest := []) S hK hI hT (c_Md_makePack l hW o0 e2) (cwV 0 S.2.2.2.2 (gd_V lc_Md_makePack lm_Md_266 li_Md_makePack ls_Md_makePack ln_Md) rfl rfl rfl hd_Md_makePack ⟨Nat.le_of_ble_eq_true rfl, Nat.le_of_ble_eq_true rfl⟩) o0 rfl (by decide) rfl rfl hl.1 (Nat.le_of_ble_eq_true rfl) d_Md_pack_22 ⟨Nat.zero_le _, Nat.zero_le _⟩ (fun H locs hI => ?_)
  refine lv_iload_n hx hb d_Md_pack_25 rfl (lv_at hl 0 rfl) ?_
  refine lv_if_eq (tgt := 33) hx hb d_Md_pack_26 rfl (fun hc => ?_) (fun hc => ?_)
  · replace h := (if_pos hc).symm.trans h
    refine lv_aload_n hx hb d_Md_pack_33 rfl (lv_at hl 1 rfl) ?_
    refine w_getI (T := T_Md) S hK hI o0 rfl hin_Md 13 (index := 150) (by decide) lf_Md_150 d_Md_pack_34 ?_
    refine lv_bipush (v := 63) hx hb d_Md_pack_37 (by decide) ?_
    refine lv_icmp_gt (tgt := 57) hx hb d_Md_pack_39 rfl (fun hc => ?_) (fun hc => ?_)
    · replace h := (if_pos hc).symm.trans h
      exact t_Md_pack_57 hC  o0 hI (lv_sub hl [1, 2] rfl) h
    · replace h := (if_neg hc).symm.trans h
      refine lv_aload_n hx hb d_Md_pack_42 rfl (lv_at hl 1 rfl) ?_
      refine w_getI (T := T_Md) S hK hI o0 rfl hin_Md 34 (index := 209) (by decide) lf_Md_209 d_Md_pack_43 ?_
      refine lv_aload_n hx hb d_Md_pack_46 rfl (lv_at hl 1 rfl) ?_
      refine w_getI (T := T_Md) S hK hI o0 rfl hin_Md 1 (index := 86) (by decide) lf_Md_86 d_Md_pack_47 ?_
      refine lv_icmp_ge (tgt := 57) hx hb d_Md_pack_50 rfl (fun hc => ?_) (fun hc => ?_)
      · replace h := (if_pos hc).symm.trans h
        exact t_Md_pack_57 hC  o0 hI (lv_sub hl [1, 2] rfl) h
      · replace h := (if_neg hc).symm.trans h
        refine lv_iconst (v := 2) hx hb d_Md_pack_53 rfl ?_
        refine lv_goto (tgt := 58) hx hb d_Md_pack_54 rfl ?_
        exact t_Md_pack_58 hC  o0 hI (lv_sub hl [1, 2] rfl) h
  · replace h := (if_neg hc).symm.trans h
    refine lv_iconst (v := 1) hx hb d_Md_pack_29 rfl ?_
    refine lv_goto (tgt := 58) hx hb d_Md_pack_30 rfl ?_
    exact t_Md_pack_58 hC  o0 hI (lv_sub hl [1, 2] rfl) h
def b_Md_pack_19 (L : La)  (i0 : Nat) (x1 : Int32) (F : Mem) : Option (Int32 × Mem) :=
  b_Md_pack_20 L  i0 x1 (0 : Int32) F
set_option maxHeartbeats 4000000 in
theorem t_Md_pack_19 (hC : Cx X L p s m args meth c cc_Md_pack 7 w_Md_pack R_Md (some .int))  {out : (Int32 × Mem)}  {i0 : Nat} {x1 : Int32} {F : Mem} {H : Heap} {locs : List Loc} {ls : Array Slot} (o0 : oO L 12 i0) (hI : Iv X L s H locs F) (hl : lv_has ls 7 [(0, .ref (mAd X i0)), (1, .int x1)]) (h : b_Md_pack_19 L  i0 x1 F = some out) : W p l e (headSpec w_Md_pack r_Md_pack).room s m args below meth c H locs 0 0 (MQ below (QI X L out) args s 0 0 (AA X L)) (F0 m 19 ls []) := by
  unfold b_Md_pack_19 at h
  obtain ⟨S, hK, hT, hW, hr, hlk⟩ := id hC
  have hx := S.1
  have hb := S.2.1
  refine lv_iconst (v := 0) hx hb d_Md_pack_19 rfl ?_
  exact t_Md_pack_20 hC  o0 hI hl h
def f_Md_pack (L : La) (i0 : Nat) (x1 : Int32) (F : Mem) : Option (Int32 × Mem) :=
  if (F i0 1) ≤ 0 then
    b_Md_pack_19 L  i0 x1 F
  else
    (f_Md_allSame L i0 (0 : Int32) F).bind fun q1 =>
    if q1.1 = 0 then
      b_Md_pack_19 L  i0 x1 q1.2
    else
      b_Md_pack_20 L  i0 x1 (1 : Int32) q1.2
set_option maxHeartbeats 4000000 in
theorem c_Md_pack (l : Launch) {X : Xs} {L : La} (hW : WT L) {out : (Int32 × Mem)} {i0 : Nat} {x1 : Int32} {F : Mem} (o0 : oO L 12 i0) (h : f_Md_pack L i0 x1 F = some out) : Met l y_Md_pack w_Md_pack r_Md_pack (va_Pc [.ref (mAd X i0), .int x1] (Pr X L F)) (QI X L out) 0 0 (AA X L) := by
  refine mk_met (by decide) rfl (Nat.le_of_ble_eq_true rfl) hW ?_
  intro p e s m args below meth c ls hC hI hl
  have hl : lv_has ls 7 [(0, .ref (mAd X i0)), (1, .int x1)] := hl
  generalize hHe : s.heap = H at hI ⊢
  generalize ([] : List Loc) = locs at hI ⊢
  unfold f_Md_pack at h
  obtain ⟨S, hK, hT, hW, hr, hlk⟩ := id hC
  have hx := S.1
  have hb := S.2.1
  refine lv_aload_n hx hb d_Md_pack_0 rfl (lv_at hl 0 rfl) ?_
  refine w_getI (T := T_Md) S hK hI o0 rfl hin_Md 1 (index := 86) (by decide) lf_Md_86 d_Md_pack_1 ?_
  refine lv_if_le (tgt := 19) hx hb d_Md_pack_4 rfl (fun hc => ?_) (fun hc => ?_)
  · replace h := (if_pos hc).symm.trans h
    exact t_Md_pack_19 hC  o0 hI hl h
  · replace h := (if_neg hc).symm.trans h
    refine lv_aload_n hx hb d_Md_pack_7 rfl (lv_at hl 0 rfl) ?_
    refine lv_iconst (v := 0) hx hb d_Md_pack_8 rfl ?_
    obtain ⟨q1, e2, h⟩ := un_bi h
    refine w_callVi (As := [.int (0 : Int32)]) (rest := []) S hK hI hT (c_Md_allSame l hW o0 e2) (cwV 1 S.2.2.2.2 (gd_V lc_Md_allSame lm_Md_255 li_Md_allSame ls_Md_allSame ln_Md) rfl rfl rfl hd_Md_allSame ⟨Nat.le_of_ble_eq_true rfl, Nat.le_of_ble_eq_true rfl⟩) o0 rfl (by decide) rfl rfl hl.1 (Nat.le_of_ble_eq_true rfl) d_Md_pack_9 ⟨Nat.zero_le _, Nat.zero_le _⟩ (fun H locs hI => ?_)
    refine lv_if_eq (tgt := 19) hx hb d_Md_pack_12 rfl (fun hc => ?_) (fun hc => ?_)
    · replace h := (if_pos hc).symm.trans h
      exact t_Md_pack_19 hC  o0 hI hl h
    · replace h := (if_neg hc).symm.trans h
      refine lv_iconst (v := 1) hx hb d_Md_pack_15 rfl ?_
      refine lv_goto (tgt := 20) hx hb d_Md_pack_16 rfl ?_
      exact t_Md_pack_20 hC  o0 hI hl h
end
