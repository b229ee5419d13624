theorem d_Fr_placeBehindFrame_0 : decode cc_Fr_placeBehindFrame 0 = .ok (.aload_n 0, 1) := by decide +kernel
theorem d_Fr_placeBehindFrame_1 : decode cc_Fr_placeBehindFrame 1 = .ok (.getfield 42, 3) := by decide +kernel
theorem d_Fr_placeBehindFrame_4 : decode cc_Fr_placeBehindFrame 4 = .ok (.iload_n 1, 1) := by decide +kernel
theorem d_Fr_placeBehindFrame_5 : decode cc_Fr_placeBehindFrame 5 = .ok (.iconst 1, 1) := by decide +kernel
theorem d_Fr_placeBehindFrame_6 : decode cc_Fr_placeBehindFrame 6 = .ok (.iadd, 1) := by decide +kernel
theorem d_Fr_placeBehindFrame_7 : decode cc_Fr_placeBehindFrame 7 = .ok (.invokevirtual 55, 3) := by decide +kernel
theorem d_Fr_placeBehindFrame_10 : decode cc_Fr_placeBehindFrame 10 = .ok (.aload_n 0, 1) := by decide +kernel
theorem d_Fr_placeBehindFrame_11 : decode cc_Fr_placeBehindFrame 11 = .ok (.getfield 42, 3) := by decide +kernel
theorem d_Fr_placeBehindFrame_14 : decode cc_Fr_placeBehindFrame 14 = .ok (.invokevirtual 58, 3) := by decide +kernel
theorem d_Fr_placeBehindFrame_17 : decode cc_Fr_placeBehindFrame 17 = .ok (.istore_n 2, 1) := by decide +kernel
theorem d_Fr_placeBehindFrame_18 : decode cc_Fr_placeBehindFrame 18 = .ok (.aload_n 0, 1) := by decide +kernel
theorem d_Fr_placeBehindFrame_19 : decode cc_Fr_placeBehindFrame 19 = .ok (.getfield 42, 3) := by decide +kernel
theorem d_Fr_placeBehindFrame_22 : decode cc_Fr_placeBehindFrame 22 = .ok (.invokevirtual 62, 3) := by decide +kernel
theorem d_Fr_placeBehindFrame_25 : decode cc_Fr_placeBehindFrame 25 = .ok (.istore_n 3, 1) := by decide +kernel
theorem d_Fr_placeBehindFrame_26 : decode cc_Fr_placeBehindFrame 26 = .ok (.iload_n 2, 1) := by decide +kernel
theorem d_Fr_placeBehindFrame_27 : decode cc_Fr_placeBehindFrame 27 = .ok (.iconst 1, 1) := by decide +kernel
theorem d_Fr_placeBehindFrame_28 : decode cc_Fr_placeBehindFrame 28 = .ok (.if_icmp .gt (14), 3) := by decide +kernel
theorem d_Fr_placeBehindFrame_31 : decode cc_Fr_placeBehindFrame 31 = .ok (.aload_n 0, 1) := by decide +kernel
theorem d_Fr_placeBehindFrame_32 : decode cc_Fr_placeBehindFrame 32 = .ok (.getfield 14, 3) := by decide +kernel
theorem d_Fr_placeBehindFrame_35 : decode cc_Fr_placeBehindFrame 35 = .ok (.iload_n 3, 1) := by decide +kernel
theorem d_Fr_placeBehindFrame_36 : decode cc_Fr_placeBehindFrame 36 = .ok (.invokevirtual 65, 3) := by decide +kernel
theorem d_Fr_placeBehindFrame_39 : decode cc_Fr_placeBehindFrame 39 = .ok (.ifCond .ne (5), 3) := by decide +kernel
theorem d_Fr_placeBehindFrame_42 : decode cc_Fr_placeBehindFrame 42 = .ok (.iconst (-1), 1) := by decide +kernel
theorem d_Fr_placeBehindFrame_43 : decode cc_Fr_placeBehindFrame 43 = .ok (.ireturn, 1) := by decide +kernel
theorem d_Fr_placeBehindFrame_44 : decode cc_Fr_placeBehindFrame 44 = .ok (.aload_n 0, 1) := by decide +kernel
theorem d_Fr_placeBehindFrame_45 : decode cc_Fr_placeBehindFrame 45 = .ok (.iload_n 3, 1) := by decide +kernel
theorem d_Fr_placeBehindFrame_46 : decode cc_Fr_placeBehindFrame 46 = .ok (.invokevirtual 69, 3) := by decide +kernel
theorem d_Fr_placeBehindFrame_49 : decode cc_Fr_placeBehindFrame 49 = .ok (.iconst 0, 1) := by decide +kernel
theorem d_Fr_placeBehindFrame_50 : decode cc_Fr_placeBehindFrame 50 = .ok (.istore 4, 2) := by decide +kernel
theorem d_Fr_placeBehindFrame_52 : decode cc_Fr_placeBehindFrame 52 = .ok (.iconst 0, 1) := by decide +kernel
theorem d_Fr_placeBehindFrame_53 : decode cc_Fr_placeBehindFrame 53 = .ok (.istore 5, 2) := by decide +kernel
theorem d_Fr_placeBehindFrame_55 : decode cc_Fr_placeBehindFrame 55 = .ok (.iload 5, 2) := by decide +kernel
theorem d_Fr_placeBehindFrame_57 : decode cc_Fr_placeBehindFrame 57 = .ok (.sipush (240), 3) := by decide +kernel
theorem d_Fr_placeBehindFrame_60 : decode cc_Fr_placeBehindFrame 60 = .ok (.if_icmp .ge (132), 3) := by decide +kernel
theorem d_Fr_placeBehindFrame_63 : decode cc_Fr_placeBehindFrame 63 = .ok (.iload 4, 2) := by decide +kernel
theorem d_Fr_placeBehindFrame_65 : decode cc_Fr_placeBehindFrame 65 = .ok (.ifCond .ne (127), 3) := by decide +kernel
theorem d_Fr_placeBehindFrame_68 : decode cc_Fr_placeBehindFrame 68 = .ok (.aload_n 0, 1) := by decide +kernel
theorem d_Fr_placeBehindFrame_69 : decode cc_Fr_placeBehindFrame 69 = .ok (.getfield 42, 3) := by decide +kernel
theorem d_Fr_placeBehindFrame_72 : decode cc_Fr_placeBehindFrame 72 = .ok (.getfield 72, 3) := by decide +kernel
theorem d_Fr_placeBehindFrame_75 : decode cc_Fr_placeBehindFrame 75 = .ok (.ifCond .eq (117), 3) := by decide +kernel
theorem d_Fr_placeBehindFrame_78 : decode cc_Fr_placeBehindFrame 78 = .ok (.aload_n 0, 1) := by decide +kernel
theorem d_Fr_placeBehindFrame_79 : decode cc_Fr_placeBehindFrame 79 = .ok (.getfield 42, 3) := by decide +kernel
theorem d_Fr_placeBehindFrame_82 : decode cc_Fr_placeBehindFrame 82 = .ok (.invokevirtual 58, 3) := by decide +kernel
theorem d_Fr_placeBehindFrame_85 : decode cc_Fr_placeBehindFrame 85 = .ok (.istore 6, 2) := by decide +kernel
theorem d_Fr_placeBehindFrame_87 : decode cc_Fr_placeBehindFrame 87 = .ok (.iload 6, 2) := by decide +kernel
theorem d_Fr_placeBehindFrame_89 : decode cc_Fr_placeBehindFrame 89 = .ok (.iconst 3, 1) := by decide +kernel
theorem d_Fr_placeBehindFrame_90 : decode cc_Fr_placeBehindFrame 90 = .ok (.ishr, 1) := by decide +kernel
theorem d_Fr_placeBehindFrame_91 : decode cc_Fr_placeBehindFrame 91 = .ok (.bipush (32), 2) := by decide +kernel
theorem d_Fr_placeBehindFrame_93 : decode cc_Fr_placeBehindFrame 93 = .ok (.aload_n 0, 1) := by decide +kernel
theorem d_Fr_placeBehindFrame_94 : decode cc_Fr_placeBehindFrame 94 = .ok (.getfield 42, 3) := by decide +kernel
theorem d_Fr_placeBehindFrame_97 : decode cc_Fr_placeBehindFrame 97 = .ok (.invokevirtual 58, 3) := by decide +kernel
theorem d_Fr_placeBehindFrame_100 : decode cc_Fr_placeBehindFrame 100 = .ok (.imul, 1) := by decide +kernel
theorem d_Fr_placeBehindFrame_101 : decode cc_Fr_placeBehindFrame 101 = .ok (.iadd, 1) := by decide +kernel
theorem d_Fr_placeBehindFrame_102 : decode cc_Fr_placeBehindFrame 102 = .ok (.istore 7, 2) := by decide +kernel
theorem d_Fr_placeBehindFrame_104 : decode cc_Fr_placeBehindFrame 104 = .ok (.iload 6, 2) := by decide +kernel
theorem d_Fr_placeBehindFrame_106 : decode cc_Fr_placeBehindFrame 106 = .ok (.iconst 1, 1) := by decide +kernel
theorem d_Fr_placeBehindFrame_107 : decode cc_Fr_placeBehindFrame 107 = .ok (.iand, 1) := by decide +kernel
theorem d_Fr_placeBehindFrame_108 : decode cc_Fr_placeBehindFrame 108 = .ok (.iconst 1, 1) := by decide +kernel
theorem d_Fr_placeBehindFrame_109 : decode cc_Fr_placeBehindFrame 109 = .ok (.if_icmp .ne (7), 3) := by decide +kernel
theorem d_Fr_placeBehindFrame_112 : decode cc_Fr_placeBehindFrame 112 = .ok (.iconst 1, 1) := by decide +kernel
theorem d_Fr_placeBehindFrame_113 : decode cc_Fr_placeBehindFrame 113 = .ok (.goto (4), 3) := by decide +kernel
theorem d_Fr_placeBehindFrame_116 : decode cc_Fr_placeBehindFrame 116 = .ok (.iconst 0, 1) := by decide +kernel
theorem d_Fr_placeBehindFrame_117 : decode cc_Fr_placeBehindFrame 117 = .ok (.istore 4, 2) := by decide +kernel
theorem d_Fr_placeBehindFrame_119 : decode cc_Fr_placeBehindFrame 119 = .ok (.iload 6, 2) := by decide +kernel
theorem d_Fr_placeBehindFrame_121 : decode cc_Fr_placeBehindFrame 121 = .ok (.iconst 1, 1) := by decide +kernel
theorem d_Fr_placeBehindFrame_122 : decode cc_Fr_placeBehindFrame 122 = .ok (.ishr, 1) := by decide +kernel
theorem d_Fr_placeBehindFrame_123 : decode cc_Fr_placeBehindFrame 123 = .ok (.iconst 3, 1) := by decide +kernel
theorem d_Fr_placeBehindFrame_124 : decode cc_Fr_placeBehindFrame 124 = .ok (.iand, 1) := by decide +kernel
theorem d_Fr_placeBehindFrame_125 : decode cc_Fr_placeBehindFrame 125 = .ok (.tableswitch (54) (0) (2) #[27, 36, 45], 27) := by decide +kernel
theorem d_Fr_placeBehindFrame_152 : decode cc_Fr_placeBehindFrame 152 = .ok (.aload_n 0, 1) := by decide +kernel
theorem d_Fr_placeBehindFrame_153 : decode cc_Fr_placeBehindFrame 153 = .ok (.iload 7, 2) := by decide +kernel
theorem d_Fr_placeBehindFrame_155 : decode cc_Fr_placeBehindFrame 155 = .ok (.invokevirtual 76, 3) := by decide +kernel
theorem d_Fr_placeBehindFrame_158 : decode cc_Fr_placeBehindFrame 158 = .ok (.goto (28), 3) := by decide +kernel
theorem d_Fr_placeBehindFrame_161 : decode cc_Fr_placeBehindFrame 161 = .ok (.aload_n 0, 1) := by decide +kernel
theorem d_Fr_placeBehindFrame_162 : decode cc_Fr_placeBehindFrame 162 = .ok (.iload 7, 2) := by decide +kernel
theorem d_Fr_placeBehindFrame_164 : decode cc_Fr_placeBehindFrame 164 = .ok (.invokevirtual 79, 3) := by decide +kernel
theorem d_Fr_placeBehindFrame_167 : decode cc_Fr_placeBehindFrame 167 = .ok (.goto (19), 3) := by decide +kernel
theorem d_Fr_placeBehindFrame_170 : decode cc_Fr_placeBehindFrame 170 = .ok (.aload_n 0, 1) := by decide +kernel
theorem d_Fr_placeBehindFrame_171 : decode cc_Fr_placeBehindFrame 171 = .ok (.iload 7, 2) := by decide +kernel
theorem d_Fr_placeBehindFrame_173 : decode cc_Fr_placeBehindFrame 173 = .ok (.invokevirtual 82, 3) := by decide +kernel
theorem d_Fr_placeBehindFrame_176 : decode cc_Fr_placeBehindFrame 176 = .ok (.goto (10), 3) := by decide +kernel
theorem d_Fr_placeBehindFrame_179 : decode cc_Fr_placeBehindFrame 179 = .ok (.aload_n 0, 1) := by decide +kernel
theorem d_Fr_placeBehindFrame_180 : decode cc_Fr_placeBehindFrame 180 = .ok (.getfield 42, 3) := by decide +kernel
theorem d_Fr_placeBehindFrame_183 : decode cc_Fr_placeBehindFrame 183 = .ok (.invokevirtual 85, 3) := by decide +kernel
theorem d_Fr_placeBehindFrame_186 : decode cc_Fr_placeBehindFrame 186 = .ok (.iinc 5 (1), 3) := by decide +kernel
theorem d_Fr_placeBehindFrame_189 : decode cc_Fr_placeBehindFrame 189 = .ok (.goto (-134), 3) := by decide +kernel
theorem d_Fr_placeBehindFrame_192 : decode cc_Fr_placeBehindFrame 192 = .ok (.iload 4, 2) := by decide +kernel
theorem d_Fr_placeBehindFrame_194 : decode cc_Fr_placeBehindFrame 194 = .ok (.ifCond .eq (17), 3) := by decide +kernel
theorem d_Fr_placeBehindFrame_197 : decode cc_Fr_placeBehindFrame 197 = .ok (.aload_n 0, 1) := by decide +kernel
theorem d_Fr_placeBehindFrame_198 : decode cc_Fr_placeBehindFrame 198 = .ok (.getfield 14, 3) := by decide +kernel
theorem d_Fr_placeBehindFrame_201 : decode cc_Fr_placeBehindFrame 201 = .ok (.getfield 88, 3) := by decide +kernel
theorem d_Fr_placeBehindFrame_204 : decode cc_Fr_placeBehindFrame 204 = .ok (.aload_n 0, 1) := by decide +kernel
theorem d_Fr_placeBehindFrame_205 : decode cc_Fr_placeBehindFrame 205 = .ok (.getfield 92, 3) := by decide +kernel
theorem d_Fr_placeBehindFrame_208 : decode cc_Fr_placeBehindFrame 208 = .ok (.if_icmp .eq (5), 3) := by decide +kernel
theorem d_Fr_placeBehindFrame_211 : decode cc_Fr_placeBehindFrame 211 = .ok (.iconst (-1), 1) := by decide +kernel
theorem d_Fr_placeBehindFrame_212 : decode cc_Fr_placeBehindFrame 212 = .ok (.ireturn, 1) := by decide +kernel
theorem d_Fr_placeBehindFrame_213 : decode cc_Fr_placeBehindFrame 213 = .ok (.iload_n 2, 1) := by decide +kernel
theorem d_Fr_placeBehindFrame_214 : decode cc_Fr_placeBehindFrame 214 = .ok (.iconst 1, 1) := by decide +kernel
theorem d_Fr_placeBehindFrame_215 : decode cc_Fr_placeBehindFrame 215 = .ok (.if_icmp .ne (26), 3) := by decide +kernel
theorem d_Fr_placeBehindFrame_218 : decode cc_Fr_placeBehindFrame 218 = .ok (.aload_n 0, 1) := by decide +kernel
theorem d_Fr_placeBehindFrame_219 : decode cc_Fr_placeBehindFrame 219 = .ok (.getfield 42, 3) := by decide +kernel
theorem d_Fr_placeBehindFrame_222 : decode cc_Fr_placeBehindFrame 222 = .ok (.invokevirtual 62, 3) := by decide +kernel
theorem d_Fr_placeBehindFrame_225 : decode cc_Fr_placeBehindFrame 225 = .ok (.aload_n 0, 1) := by decide +kernel
theorem d_Fr_placeBehindFrame_226 : decode cc_Fr_placeBehindFrame 226 = .ok (.getfield 14, 3) := by decide +kernel
theorem d_Fr_placeBehindFrame_229 : decode cc_Fr_placeBehindFrame 229 = .ok (.aload_n 0, 1) := by decide +kernel
theorem d_Fr_placeBehindFrame_230 : decode cc_Fr_placeBehindFrame 230 = .ok (.getfield 95, 3) := by decide +kernel
theorem d_Fr_placeBehindFrame_233 : decode cc_Fr_placeBehindFrame 233 = .ok (.invokevirtual 98, 3) := by decide +kernel
theorem d_Fr_placeBehindFrame_236 : decode cc_Fr_placeBehindFrame 236 = .ok (.if_icmp .eq (5), 3) := by decide +kernel
theorem d_Fr_placeBehindFrame_239 : decode cc_Fr_placeBehindFrame 239 = .ok (.iconst (-1), 1) := by decide +kernel
theorem d_Fr_placeBehindFrame_240 : decode cc_Fr_placeBehindFrame 240 = .ok (.ireturn, 1) := by decide +kernel
theorem d_Fr_placeBehindFrame_241 : decode cc_Fr_placeBehindFrame 241 = .ok (.aload_n 0, 1) := by decide +kernel
theorem d_Fr_placeBehindFrame_242 : decode cc_Fr_placeBehindFrame 242 = .ok (.getfield 42, 3) := by decide +kernel
theorem d_Fr_placeBehindFrame_245 : decode cc_Fr_placeBehindFrame 245 = .ok (.getfield 72, 3) := by decide +kernel
theorem d_Fr_placeBehindFrame_248 : decode cc_Fr_placeBehindFrame 248 = .ok (.ifCond .eq (13), 3) := by decide +kernel
theorem d_Fr_placeBehindFrame_251 : decode cc_Fr_placeBehindFrame 251 = .ok (.aload_n 0, 1) := by decide +kernel
theorem d_Fr_placeBehindFrame_252 : decode cc_Fr_placeBehindFrame 252 = .ok (.getfield 42, 3) := by decide +kernel
theorem d_Fr_placeBehindFrame_255 : decode cc_Fr_placeBehindFrame 255 = .ok (.getfield 102, 3) := by decide +kernel
theorem d_Fr_placeBehindFrame_258 : decode cc_Fr_placeBehindFrame 258 = .ok (.goto (4), 3) := by decide +kernel
theorem d_Fr_placeBehindFrame_261 : decode cc_Fr_placeBehindFrame 261 = .ok (.iconst (-1), 1) := by decide +kernel
theorem d_Fr_placeBehindFrame_262 : decode cc_Fr_placeBehindFrame 262 = .ok (.ireturn, 1) := by decide +kernel
section
variable {p : Program} {l : Launch} {e : Env} {s : State} {m : MethodId} {args : Array Value} {below : List Frame} {meth : Method} {c : Code} {X : Xs} {L : La}
def b_Fr_placeBehindFrame_42 (L : La)   (F : Mem) : Option (Int32 × Mem) :=
  some ((-1 : Int32), F)
set_option maxHeartbeats 4000000 in
theorem t_Fr_placeBehindFrame_42 (hC : Cx X L p s m args meth c cc_Fr_placeBehindFrame 8 w_Fr_placeBehindFrame R_Fr (some .int))  {out : (Int32 × Mem)}   {F : Mem} {H : Heap} {locs : List Loc} {ls : Array Slot}  (hI : Iv X L s H locs F) (hl : lv_has ls 8 []) (h : b_Fr_placeBehindFrame_42 L   F = some out) : W p l e (headSpec w_Fr_placeBehindFrame r_Fr_placeBehindFrame).room s m args below meth c H locs 0 0 (MQ below (QI X L out) args s 0 0 (AA X L)) (F0 m 42 ls []) := by
  unfold b_Fr_placeBehindFrame_42 at h
  obtain ⟨S, hK, hT, hW, hr, hlk⟩ := id hC
  have hx := S.1
  have hb := S.2.1
  refine lv_iconst (v := -1) hx hb d_Fr_placeBehindFrame_42 rfl ?_
  exact w_iret S hK hr hlk hI d_Fr_placeBehindFrame_43 h
def b_Fr_placeBehindFrame_211 (L : La)   (F : Mem) : Option (Int32 × Mem) :=
  some ((-1 : Int32), F)
set_option maxHeartbeats 4000000 in
theorem t_Fr_placeBehindFrame_211 (hC : Cx X L p s m args meth c cc_Fr_placeBehindFrame 8 w_Fr_placeBehindFrame R_Fr (some .int))  {out : (Int32 × Mem)}   {F : Mem} {H : Heap} {locs : List Loc} {ls : Array Slot}  (hI : Iv X L s H locs F) (hl : lv_has ls 8 []) (h : b_Fr_placeBehindFrame_211 L   F = some out) : W p l e (headSpec w_Fr_placeBehindFrame r_Fr_placeBehindFrame).room s m args below meth c H locs 0 0 (MQ below (QI X L out) args s 0 0 (AA X L)) (F0 m 211 ls []) := by
  unfold b_Fr_placeBehindFrame_211 at h
  obtain ⟨S, hK, hT, hW, hr, hlk⟩ := id hC
  have hx := S.1
  have hb := S.2.1
  refine lv_iconst (v := -1) hx hb d_Fr_placeBehindFrame_211 rfl ?_
  exact w_iret S hK hr hlk hI d_Fr_placeBehindFrame_212 h
def b_Fr_placeBehindFrame_262 (L : La)  (y0 : Int32) (F : Mem) : Option (Int32 × Mem) :=
  some (y0, F)
set_option maxHeartbeats 4000000 in
theorem t_Fr_placeBehindFrame_262 (hC : Cx X L p s m args meth c cc_Fr_placeBehindFrame 8 w_Fr_placeBehindFrame R_Fr (some .int))  {out : (Int32 × Mem)}  {y0 : Int32} {F : Mem} {H : Heap} {locs : List Loc} {ls : Array Slot}  (hI : Iv X L s H locs F) (hl : lv_has ls 8 []) (h : b_Fr_placeBehindFrame_262 L  y0 F = some out) : W p l e (headSpec w_Fr_placeBehindFrame r_Fr_placeBehindFrame).room s m args below meth c H locs 0 0 (MQ below (QI X L out) args s 0 0 (AA X L)) (F0 m 262 ls [.int y0]) := by
  unfold b_Fr_placeBehindFrame_262 at h
  obtain ⟨S, hK, hT, hW, hr, hlk⟩ := id hC
  have hx := S.1
  have hb := S.2.1
  exact w_iret S hK hr hlk hI d_Fr_placeBehindFrame_262 h
def b_Fr_placeBehindFrame_241 (L : La)  (i0 : Nat) (F : Mem) : Option (Int32 × Mem) :=
  if (F (mRf L i0 1) 3) = 0 then
    b_Fr_placeBehindFrame_262 L  (-1 : Int32) F
  else
    b_Fr_placeBehindFrame_262 L  (F (mRf L i0 1) 1) F
set_option maxHeartbeats 4000000 in
theorem t_Fr_placeBehindFrame_241 (hC : Cx X L p s m args meth c cc_Fr_placeBehindFrame 8 w_Fr_placeBehindFrame R_Fr (some .int))  {out : (Int32 × Mem)}  {i0 : Nat} {F : Mem} {H : Heap} {locs : List Loc} {ls : Array Slot} (o0 : oO L 9 i0) (hI : Iv X L s H locs F) (hl : lv_has ls 8 [(0, .ref (mAd X i0))]) (h : b_Fr_placeBehindFrame_241 L  i0 F = some out) : W p l e (headSpec w_Fr_placeBehindFrame r_Fr_placeBehindFrame).room s m args below meth c H locs 0 0 (MQ below (QI X L out) args s 0 0 (AA X L)) (F0 m 241 ls []) := by
  unfold b_Fr_placeBehindFrame_241 at h
  obtain ⟨S, hK, hT, hW, hr, hlk⟩ := id hC
  have hx := S.1
  have hb := S.2.1
  refine lv_aload_n hx hb d_Fr_placeBehindFrame_241 rfl (lv_at hl 0 rfl) ?_
  have p1 := wt_o hW o0 1 7 rfl (by decide) (by decide) (by decide)
  refine w_getR (T := T_Fr) S hK hI o0 rfl hin_Fr 1 (index := 42) (by decide) lf_Fr_42 d_Fr_placeBehindFrame_242 ?_
  refine w_getI (T := T_Wr) S hK hI p1 rfl hin_Wr 3 (index := 72) (by decide) lf_Fr_72 d_Fr_placeBehindFrame_245 ?_
  refine lv_if_eq (tgt := 261) hx hb d_Fr_placeBehindFrame_248 rfl (fun hc => ?_) (fun hc => ?_)
  · replace h := (if_pos hc).symm.trans h
    refine lv_iconst (v := -1) hx hb d_Fr_placeBehindFrame_261 rfl ?_
    exact t_Fr_placeBehindFrame_262 hC   hI (lv_sub hl [] rfl) h
  · replace h := (if_neg hc).symm.trans h
    refine lv_aload_n hx hb d_Fr_placeBehindFrame_251 rfl (lv_at hl 0 rfl) ?_
    have p2 := wt_o hW o0 1 7 rfl (by decide) (by decide) (by decide)
    refine w_getR (T := T_Fr) S hK hI o0 rfl hin_Fr 1 (index := 42) (by decide) lf_Fr_42 d_Fr_placeBehindFrame_252 ?_
    refine w_getI (T := T_Wr) S hK hI p2 rfl hin_Wr 1 (index := 102) (by decide) lf_Fr_102 d_Fr_placeBehindFrame_255 ?_
    refine lv_goto (tgt := 262) hx hb d_Fr_placeBehindFrame_258 rfl ?_
    exact t_Fr_placeBehindFrame_262 hC   hI (lv_sub hl [] rfl) h
def b_Fr_placeBehindFrame_192 (L : La)  (i0 : Nat) (x2 : Int32) (x4 : Int32) (F : Mem) : Option (Int32 × Mem) :=
  if x4 = 0 then
    b_Fr_placeBehindFrame_211 L   F
  else
    if (F (mRf L i0 0) 1) = (F i0 9) then
      if x2 = (1 : Int32) then
        (f_Wr_takePair L (mRf L i0 1) F).bind fun q3 =>
        (f_Row_markFrom L (mRf L i0 0) (q3.2 i0 8) q3.2).bind fun q6 =>
        if q3.1 = q6.1 then
          b_Fr_placeBehindFrame_241 L  i0 q6.2
        else
          some ((-1 : Int32), q6.2)
      else
        b_Fr_placeBehindFrame_241 L  i0 F
    else
      b_Fr_placeBehindFrame_211 L   F
set_option maxHeartbeats 4000000 in
theorem t_Fr_placeBehindFrame_192 (hC : Cx X L p s m args meth c cc_Fr_placeBehindFrame 8 w_Fr_placeBehindFrame R_Fr (some .int))  {out : (Int32 × Mem)}  {i0 : Nat} {x2 : Int32} {x4 : Int32} {F : Mem} {H : Heap} {locs : List Loc} {ls : Array Slot} (o0 : oO L 9 i0) (hI : Iv X L s H locs F) (hl : lv_has ls 8 [(0, .ref (mAd X i0)), (2, .int x2), (4, .int x4)]) (h : b_Fr_placeBehindFrame_192 L  i0 x2 x4 F = some out) : W p l e (headSpec w_Fr_placeBehindFrame r_Fr_placeBehindFrame).room s m args below meth c H locs 0 0 (MQ below (QI X L out) args s 0 0 (AA X L)) (F0 m 192 ls []) := by
  unfold b_Fr_placeBehindFrame_192 at h
  obtain ⟨S, hK, hT, hW, hr, hlk⟩ := id hC
  have hx := S.1
  have hb := S.2.1
  refine lv_iload hx hb d_Fr_placeBehindFrame_192 (lv_at hl 2 rfl) ?_
  refine lv_if_eq (tgt := 211) hx hb d_Fr_placeBehindFrame_194 rfl (fun hc => ?_) (fun hc => ?_)
  · replace h := (if_pos hc).symm.trans h
    exact t_Fr_placeBehindFrame_211 hC   hI (lv_sub hl [] rfl) h
  · replace h := (if_neg hc).symm.trans h
    refine lv_aload_n hx hb d_Fr_placeBehindFrame_197 rfl (lv_at hl 0 rfl) ?_
    have p1 := wt_o hW o0 0 1 rfl (by decide) (by decide) (by decide)
    refine w_getR (T := T_Fr) S hK hI o0 rfl hin_Fr 0 (index := 14) (by decide) lf_Fr_14 d_Fr_placeBehindFrame_198 ?_
    refine w_getI (T := T_Row) S hK hI p1 rfl hin_Row 1 (index := 88) (by decide) lf_Fr_88 d_Fr_placeBehindFrame_201 ?_
    refine lv_aload_n hx hb d_Fr_placeBehindFrame_204 rfl (lv_at hl 0 rfl) ?_
    refine w_getI (T := T_Fr) S hK hI o0 rfl hin_Fr 9 (index := 92) (by decide) lf_Fr_92 d_Fr_placeBehindFrame_205 ?_
    refine lv_icmp_eq (tgt := 213) hx hb d_Fr_placeBehindFrame_208 rfl (fun hc => ?_) (fun hc => ?_)
    · replace h := (if_pos hc).symm.trans h
      refine lv_iload_n hx hb d_Fr_placeBehindFrame_213 rfl (lv_at hl 1 rfl) ?_
      refine lv_iconst (v := 1) hx hb d_Fr_placeBehindFrame_214 rfl ?_
      refine lv_icmp_ne (tgt := 241) hx hb d_Fr_placeBehindFrame_215 rfl (fun hc => ?_) (fun hc => ?_)
      · replace h := (if_neg hc).symm.trans h
        exact t_Fr_placeBehindFrame_241 hC  o0 hI (lv_sub hl [0] rfl) h
      · replace h := (if_pos hc).symm.trans h
        refine lv_aload_n hx hb d_Fr_placeBehindFrame_218 rfl (lv_at hl 0 rfl) ?_
        have p2 := wt_o hW o0 1 7 rfl (by decide) (by decide) (by decide)
        refine w_getR (T := T_Fr) S hK hI o0 rfl hin_Fr 1 (index := 42) (by decide) lf_Fr_42 d_Fr_placeBehindFrame_219 ?_
        obtain ⟨q3, e4, h⟩ := un_bi h
        refine w_callVi (As := []) (rest := []) S hK hI hT (c_Wr_takePair l hW p2 e4) (cwV 0 S.2.2.2.2 (gd_V lc_Wr_takePair lm_Fr_62 li_Wr_takePair ls_Wr_takePair ln_Wr) rfl rfl rfl hd_Wr_takePair ⟨Nat.le_of_ble_eq_true rfl, Nat.le_of_ble_eq_true rfl⟩) p2 rfl (by decide) rfl rfl hl.1 (Nat.le_of_ble_eq_true rfl) d_Fr_placeBehindFrame_222 ⟨Nat.zero_le _, Nat.zero_le _⟩ (fun H locs hI => ?_)
        refine lv_aload_n hx hb d_Fr_placeBehindFrame_225 rfl (lv_at hl 0 rfl) ?_
        have p5 := wt_o hW o0 0 1 rfl (by decide) (by decide) (by decide)
        refine w_getR (T := T_Fr) S hK hI o0 rfl hin_Fr 0 (index := 14) (by decide) lf_Fr_14 d_Fr_placeBehindFrame_226 ?_
        refine lv_aload_n hx hb d_Fr_placeBehindFrame_229 rfl (lv_at hl 0 rfl) ?_
        refine w_getI (T := T_Fr) S hK hI o0 rfl hin_Fr 8 (index := 95) (by decide) lf_Fr_95 d_Fr_placeBehindFrame_230 ?_
        obtain ⟨q6, e7, h⟩ := un_bi h
        refine w_callVi (As := [.int (q3.2 i0 8)]) (rest := [.int q3.1]) S hK hI hT (c_Row_markFrom l hW p5 e7) (cwV 1 S.2.2.2.2 (gd_V lc_Row_markFrom lm_Fr_98 li_Row_markFrom ls_Row_markFrom ln_Row) rfl rfl rfl hd_Row_markFrom ⟨Nat.le_of_ble_eq_true rfl, Nat.le_of_ble_eq_true rfl⟩) p5 rfl (by decide) rfl rfl hl.1 (Nat.le_of_ble_eq_true rfl) d_Fr_placeBehindFrame_233 ⟨Nat.zero_le _, Nat.zero_le _⟩ (fun H locs hI => ?_)
        refine lv_icmp_eq (tgt := 241) hx hb d_Fr_placeBehindFrame_236 rfl (fun hc => ?_) (fun hc => ?_)
        · replace h := (if_pos hc).symm.trans h
          exact t_Fr_placeBehindFrame_241 hC  o0 hI (lv_sub hl [0] rfl) h
        · replace h := (if_neg hc).symm.trans h
          refine lv_iconst (v := -1) hx hb d_Fr_placeBehindFrame_239 rfl ?_
          exact w_iret S hK hr hlk hI d_Fr_placeBehindFrame_240 h
    · replace h := (if_neg hc).symm.trans h
      exact t_Fr_placeBehindFrame_211 hC   hI (lv_sub hl [] rfl) h
def b_Fr_placeBehindFrame_186 (L : La) (k55 : Nat → Int32 → Int32 → Int32 → Mem → Option (Int32 × Mem)) (i0 : Nat) (x2 : Int32) (x4 : Int32) (x5 : Int32) (F : Mem) : Option (Int32 × Mem) :=
  k55 i0 x2 x4 (x5 + (1 : Int32)) F
set_option maxHeartbeats 4000000 in
theorem t_Fr_placeBehindFrame_186 (hC : Cx X L p s m args meth c cc_Fr_placeBehindFrame 8 w_Fr_placeBehindFrame R_Fr (some .int)) {k55 : Nat → Int32 → Int32 → Int32 → Mem → Option (Int32 × Mem)} {out : (Int32 × Mem)} (hk55 : ∀ (i0 : Nat) (x2 : Int32) (x4 : Int32) (x5 : Int32) (F : Mem) (H : Heap) (locs : List Loc) (ls : Array Slot), oO L 9 i0 → Iv X L s H locs F → lv_has ls 8 [(0, .ref (mAd X i0)), (2, .int x2), (4, .int x4), (5, .int x5)] → k55 i0 x2 x4 x5 F = some out → W p l e (headSpec w_Fr_placeBehindFrame r_Fr_placeBehindFrame).room s m args below meth c H locs 0 0 (MQ below (QI X L out) args s 0 0 (AA X L)) (F0 m 55 ls [])) {i0 : Nat} {x2 : Int32} {x4 : Int32} {x5 : Int32} {F : Mem} {H : Heap} {locs : List Loc} {ls : Array Slot} (o0 : oO L 9 i0) (hI : Iv X L s H locs F) (hl : lv_has ls 8 [(0, .ref (mAd X i0)), (2, .int x2), (4, .int x4), (5, .int x5)]) (h : b_Fr_placeBehindFrame_186 L k55 i0 x2 x4 x5 F = some out) : W p l e (headSpec w_Fr_placeBehindFrame r_Fr_placeBehindFrame).room s m args below meth c H locs 0 0 (MQ below (QI X L out) args s 0 0 (AA X L)) (F0 m 186 ls []) := by
  unfold b_Fr_placeBehindFrame_186 at h
  obtain ⟨S, hK, hT, hW, hr, hlk⟩ := id hC
  have hx := S.1
  have hb := S.2.1
  refine lv_iinc (k := 3) (v := x5 + (1 : Int32)) (lv' := [(5, .int (x5 + (1 : Int32))), (0, .ref (mAd X i0)), (2, .int x2), (4, .int x4)]) hx hb d_Fr_placeBehindFrame_186 hl rfl rfl (by decide) rfl (fun ls hl => ?_)
  refine lv_goto (tgt := 55) hx hb d_Fr_placeBehindFrame_189 rfl ?_
  exact hk55 _ _ _ _ _ _ _ _ o0 hI (lv_sub hl [1, 2, 3, 0] rfl) h
def b_Fr_placeBehindFrame_117 (L : La) (k55 : Nat → Int32 → Int32 → Int32 → Mem → Option (Int32 × Mem)) (i0 : Nat) (x2 : Int32) (x5 : Int32) (x6 : Int32) (x7 : Int32) (y0 : Int32) (F : Mem) : Option (Int32 × Mem) :=
  if ((jshr x6 (1 : Int32)) &&& (3 : Int32)) = 0 then
    (f_Fr_readRaw L i0 x7 F).bind fun F1 =>
    b_Fr_placeBehindFrame_186 L k55 i0 x2 y0 x5 F1
  else
    if ((jshr x6 (1 : Int32)) &&& (3 : Int32)) = 1 then
      (f_Fr_readRun L i0 x7 F).bind fun F4 =>
      b_Fr_placeBehindFrame_186 L k55 i0 x2 y0 x5 F4
    else
      if ((jshr x6 (1 : Int32)) &&& (3 : Int32)) = 2 then
        (f_Fr_readPack L i0 x7 F).bind fun F7 =>
        b_Fr_placeBehindFrame_186 L k55 i0 x2 y0 x5 F7
      else
        (f_Wr_refuse L (mRf L i0 1) F).bind fun F11 =>
        b_Fr_placeBehindFrame_186 L k55 i0 x2 y0 x5 F11
set_option maxHeartbeats 4000000 in
theorem t_Fr_placeBehindFrame_117 (hC : Cx X L p s m args meth c cc_Fr_placeBehindFrame 8 w_Fr_placeBehindFrame R_Fr (some .int)) {k55 : Nat → Int32 → Int32 → Int32 → Mem → Option (Int32 × Mem)} {out : (Int32 × Mem)} (hk55 : ∀ (i0 : Nat) (x2 : Int32) (x4 : Int32) (x5 : Int32) (F : Mem) (H : Heap) (locs : List Loc) (ls : Array Slot), oO L 9 i0 → Iv X L s H locs F → lv_has ls 8 [(0, .ref (mAd X i0)), (2, .int x2), (4, .int x4), (5, .int x5)] → k55 i0 x2 x4 x5 F = some out → W p l e (headSpec w_Fr_placeBehindFrame r_Fr_placeBehindFrame).room s m args below meth c H locs 0 0 (MQ below (QI X L out) args s 0 0 (AA X L)) (F0 m 55 ls [])) {i0 : Nat} {x2 : Int32} {x5 : Int32} {x6 : Int32} {x7 : Int32} {y0 : Int32} {F : Mem} {H : Heap} {locs : List Loc} {ls : Array Slot} (o0 : oO L 9 i0) (hI : Iv X L s H locs F) (hl : lv_has ls 8 [(0, .ref (mAd X i0)), (2, .int x2), (5, .int x5), (6, .int x6), (7, .int x7)]) (h : b_Fr_placeBehindFrame_117 L k55 i0 x2 x5 x6 x7 y0 F = some out) : W p l e (headSpec w_Fr_placeBehindFrame r_Fr_placeBehindFrame).room s m args below meth c H locs 0 0 (MQ below (QI X L out) args s 0 0 (AA X L)) (F0 m 117 ls [.int y0]) := by
  unfold b_Fr_placeBehindFrame_117 at h
  obtain ⟨S, hK, hT, hW, hr, hlk⟩ := id hC
  have hx := S.1
  have hb := S.2.1
  refine lv_istore (lv' := [(4, .int y0), (0, .ref (mAd X i0)), (2, .int x2), (5, .int x5), (6, .int x6), (7, .int x7)]) hx hb d_Fr_placeBehindFrame_117 hl (by decide) rfl (fun ls hl => ?_)
  refine lv_iload hx hb d_Fr_placeBehindFrame_119 (lv_at hl 4 rfl) ?_
  refine lv_iconst (v := 1) hx hb d_Fr_placeBehindFrame_121 rfl ?_
  refine lv_ishr hx hb d_Fr_placeBehindFrame_122 ?_
  refine lv_iconst (v := 3) hx hb d_Fr_placeBehindFrame_123 rfl ?_
  refine lv_iand hx hb d_Fr_placeBehindFrame_124 ?_
  by_cases e3 : ((jshr x6 (1 : Int32)) &&& (3 : Int32)) = 0
  · replace h := (if_pos e3).symm.trans h
    refine lv_tableIn (x := ((jshr x6 (1 : Int32)) &&& (3 : Int32))) (off := 27) (tgt := 152) hx hb d_Fr_placeBehindFrame_125 (by rw [e3]; decide) (by rw [e3]; decide) (by rw [e3]; rfl) rfl ?_
    refine lv_aload_n hx hb d_Fr_placeBehindFrame_152 rfl (lv_at hl 1 rfl) ?_
    refine lv_iload hx hb d_Fr_placeBehindFrame_153 (lv_at hl 5 rfl) ?_
    obtain ⟨F1, e2, h⟩ := un_bi h
    refine w_callVv (As := [.int x7]) (rest := []) S hK hI hT (c_Fr_readRaw l hW o0 e2) (cwV 1 S.2.2.2.2 (gd_V lc_Fr_readRaw lm_Fr_76 li_Fr_readRaw ls_Fr_readRaw ln_Fr) rfl rfl rfl hd_Fr_readRaw ⟨Nat.le_of_ble_eq_true rfl, Nat.le_of_ble_eq_true rfl⟩) o0 rfl (by decide) rfl rfl hl.1 (Nat.le_of_ble_eq_true rfl) d_Fr_placeBehindFrame_155 ⟨Nat.zero_le _, Nat.zero_le _⟩ (fun H locs hI => ?_)
    refine lv_goto (tgt := 186) hx hb d_Fr_placeBehindFrame_158 rfl ?_
    exact t_Fr_placeBehindFrame_186 hC hk55 o0 hI (lv_sub hl [1, 2, 0, 3] rfl) h
  replace h := (if_neg e3).symm.trans h
  by_cases e6 : ((jshr x6 (1 : Int32)) &&& (3 : Int32)) = 1
  · replace h := (if_pos e6).symm.trans h
    refine lv_tableIn (x := ((jshr x6 (1 : Int32)) &&& (3 : Int32))) (off := 36) (tgt := 161) hx hb d_Fr_placeBehindFrame_125 (by rw [e6]; decide) (by rw [e6]; decide) (by rw [e6]; rfl) rfl ?_
    refine lv_aload_n hx hb d_Fr_placeBehindFrame_161 rfl (lv_at hl 1 rfl) ?_
    refine lv_iload hx hb d_Fr_placeBehindFrame_162 (lv_at hl 5 rfl) ?_
    obtain ⟨F4, e5, h⟩ := un_bi h
    refine w_callVv (As := [.int x7]) (rest := []) S hK hI hT (c_Fr_readRun l hW o0 e5) (cwV 1 S.2.2.2.2 (gd_V lc_Fr_readRun lm_Fr_79 li_Fr_readRun ls_Fr_readRun ln_Fr) rfl rfl rfl hd_Fr_readRun ⟨Nat.le_of_ble_eq_true rfl, Nat.le_of_ble_eq_true rfl⟩) o0 rfl (by decide) rfl rfl hl.1 (Nat.le_of_ble_eq_true rfl) d_Fr_placeBehindFrame_164 ⟨Nat.zero_le _, Nat.zero_le _⟩ (fun H locs hI => ?_)
    refine lv_goto (tgt := 186) hx hb d_Fr_placeBehindFrame_167 rfl ?_
    exact t_Fr_placeBehindFrame_186 hC hk55 o0 hI (lv_sub hl [1, 2, 0, 3] rfl) h
  replace h := (if_neg e6).symm.trans h
  by_cases e9 : ((jshr x6 (1 : Int32)) &&& (3 : Int32)) = 2
  · replace h := (if_pos e9).symm.trans h
    refine lv_tableIn (x := ((jshr x6 (1 : Int32)) &&& (3 : Int32))) (off := 45) (tgt := 170) hx hb d_Fr_placeBehindFrame_125 (by rw [e9]; decide) (by rw [e9]; decide) (by rw [e9]; rfl) rfl ?_
    refine lv_aload_n hx hb d_Fr_placeBehindFrame_170 rfl (lv_at hl 1 rfl) ?_
    refine lv_iload hx hb d_Fr_placeBehindFrame_171 (lv_at hl 5 rfl) ?_
    obtain ⟨F7, e8, h⟩ := un_bi h
    refine w_callVv (As := [.int x7]) (rest := []) S hK hI hT (c_Fr_readPack l hW o0 e8) (cwV 1 S.2.2.2.2 (gd_V lc_Fr_readPack lm_Fr_82 li_Fr_readPack ls_Fr_readPack ln_Fr) rfl rfl rfl hd_Fr_readPack ⟨Nat.le_of_ble_eq_true rfl, Nat.le_of_ble_eq_true rfl⟩) o0 rfl (by decide) rfl rfl hl.1 (Nat.le_of_ble_eq_true rfl) d_Fr_placeBehindFrame_173 ⟨Nat.zero_le _, Nat.zero_le _⟩ (fun H locs hI => ?_)
    refine lv_goto (tgt := 186) hx hb d_Fr_placeBehindFrame_176 rfl ?_
    exact t_Fr_placeBehindFrame_186 hC hk55 o0 hI (lv_sub hl [1, 2, 0, 3] rfl) h
  replace h := (if_neg e9).symm.trans h
  refine lv_tableOut (x := ((jshr x6 (1 : Int32)) &&& (3 : Int32))) (tgt := 179) hx hb d_Fr_placeBehindFrame_125 (by have ne3 := lv_neT (a := 0) e3 (by decide); have ne6 := lv_neT (a := 1) e6 (by decide); have ne9 := lv_neT (a := 2) e9 (by decide); omega) rfl ?_
  refine lv_aload_n hx hb d_Fr_placeBehindFrame_179 rfl (lv_at hl 1 rfl) ?_
  have p10 := wt_o hW o0 1 7 rfl (by decide) (by decide) (by decide)
  refine w_getR (T := T_Fr) S hK hI o0 rfl hin_Fr 1 (index := 42) (by decide) lf_Fr_42 d_Fr_placeBehindFrame_180 ?_
  obtain ⟨F11, e12, h⟩ := un_bi h
  refine w_callVv (As := []) (rest := []) S hK hI hT (c_Wr_refuse l hW p10 e12) (cwV 0 S.2.2.2.2 (gd_V lc_Wr_refuse lm_Fr_85 li_Wr_refuse ls_Wr_refuse ln_Wr) rfl rfl rfl hd_Wr_refuse ⟨Nat.le_of_ble_eq_true rfl, Nat.le_of_ble_eq_true rfl⟩) p10 rfl (by decide) rfl rfl hl.1 (Nat.le_of_ble_eq_true rfl) d_Fr_placeBehindFrame_183 ⟨Nat.zero_le _, Nat.zero_le _⟩ (fun H locs hI => ?_)
  exact t_Fr_placeBehindFrame_186 hC hk55 o0 hI (lv_sub hl [1, 2, 0, 3] rfl) h
def b_Fr_placeBehindFrame_55 (L : La) (k55 : Nat → Int32 → Int32 → Int32 → Mem → Option (Int32 × Mem)) (i0 : Nat) (x2 : Int32) (x4 : Int32) (x5 : Int32) (F : Mem) : Option (Int32 × Mem) :=
  if (240 : Int32) ≤ x5 then
    b_Fr_placeBehindFrame_192 L  i0 x2 x4 F
  else
    if x4 = 0 then
      if (F (mRf L i0 1) 3) = 0 then
        b_Fr_placeBehindFrame_192 L  i0 x2 x4 F
      else
        (f_Wr_takeByte L (mRf L i0 1) F).bind fun q3 =>
        (f_Wr_takeByte L (mRf L i0 1) q3.2).bind fun q6 =>
        if (q3.1 &&& (1 : Int32)) = (1 : Int32) then
          b_Fr_placeBehindFrame_117 L k55 i0 x2 x5 q3.1 ((jshr q3.1 (3 : Int32)) + ((32 : Int32) * q6.1)) (1 : Int32) q6.2
        else
          b_Fr_placeBehindFrame_117 L k55 i0 x2 x5 q3.1 ((jshr q3.1 (3 : Int32)) + ((32 : Int32) * q6.1)) (0 : Int32) q6.2
    else
      b_Fr_placeBehindFrame_192 L  i0 x2 x4 F
set_option maxHeartbeats 4000000 in
theorem t_Fr_placeBehindFrame_55 (hC : Cx X L p s m args meth c cc_Fr_placeBehindFrame 8 w_Fr_placeBehindFrame R_Fr (some .int)) {k55 : Nat → Int32 → Int32 → Int32 → Mem → Option (Int32 × Mem)} {out : (Int32 × Mem)} (hk55 : ∀ (i0 : Nat) (x2 : Int32) (x4 : Int32) (x5 : Int32) (F : Mem) (H : Heap) (locs : List Loc) (ls : Array Slot), oO L 9 i0 → Iv X L s H locs F → lv_has ls 8 [(0, .ref (mAd X i0)), (2, .int x2), (4, .int x4), (5, .int x5)] → k55 i0 x2 x4 x5 F = some out → W p l e (headSpec w_Fr_placeBehindFrame r_Fr_placeBehindFrame).room s m args below meth c H locs 0 0 (MQ below (QI X L out) args s 0 0 (AA X L)) (F0 m 55 ls [])) {i0 : Nat} {x2 : Int32} {x4 : Int32} {x5 : Int32} {F : Mem} {H : Heap} {locs : List Loc} {ls : Array Slot} (o0 : oO L 9 i0) (hI : Iv X L s H locs F) (hl : lv_has ls 8 [(0, .ref (mAd X i0)), (2, .int x2), (4, .int x4), (5, .int x5)]) (h : b_Fr_placeBehindFrame_55 L k55 i0 x2 x4 x5 F = some out) : W p l e (headSpec w_Fr_placeBehindFrame r_Fr_placeBehindFrame).room s m args below meth c H locs 0 0 (MQ below (QI X L out) args s 0 0 (AA X L)) (F0 m 55 ls []) := by
  unfold b_Fr_placeBehindFrame_55 at h
  obtain ⟨S, hK, hT, hW, hr, hlk⟩ := id hC
  have hx := S.1
  have hb := S.2.1
  refine lv_iload hx hb d_Fr_placeBehindFrame_55 (lv_at hl 3 rfl) ?_
  refine lv_sipush (v := 240) hx hb d_Fr_placeBehindFrame_57 (by decide) ?_
  refine lv_icmp_ge (tgt := 192) hx hb d_Fr_placeBehindFrame_60 rfl (fun hc => ?_) (fun hc => ?_)
  · replace h := (if_pos hc).symm.trans h
    exact t_Fr_placeBehindFrame_192 hC  o0 hI (lv_sub hl [0, 1, 2] rfl) h
  · replace h := (if_neg hc).symm.trans h
    refine lv_iload hx hb d_Fr_placeBehindFrame_63 (lv_at hl 2 rfl) ?_
    refine lv_if_ne (tgt := 192) hx hb d_Fr_placeBehindFrame_65 rfl (fun hc => ?_) (fun hc => ?_)
    · replace h := (if_neg hc).symm.trans h
      exact t_Fr_placeBehindFrame_192 hC  o0 hI (lv_sub hl [0, 1, 2] rfl) h
    · replace h := (if_pos hc).symm.trans h
      refine lv_aload_n hx hb d_Fr_placeBehindFrame_68 rfl (lv_at hl 0 rfl) ?_
      have p1 := wt_o hW o0 1 7 rfl (by decide) (by decide) (by decide)
      refine w_getR (T := T_Fr) S hK hI o0 rfl hin_Fr 1 (index := 42) (by decide) lf_Fr_42 d_Fr_placeBehindFrame_69 ?_
      refine w_getI (T := T_Wr) S hK hI p1 rfl hin_Wr 3 (index := 72) (by decide) lf_Fr_72 d_Fr_placeBehindFrame_72 ?_
      refine lv_if_eq (tgt := 192) hx hb d_Fr_placeBehindFrame_75 rfl (fun hc => ?_) (fun hc => ?_)
      · replace h := (if_pos hc).symm.trans h
        exact t_Fr_placeBehindFrame_192 hC  o0 hI (lv_sub hl [0, 1, 2] rfl) h
      · replace h := (if_neg hc).symm.trans h
        refine lv_aload_n hx hb d_Fr_placeBehindFrame_78 rfl (lv_at hl 0 rfl) ?_
        have p2 := wt_o hW o0 1 7 rfl (by decide) (by decide) (by decide)
        refine w_getR (T := T_Fr) S hK hI o0 rfl hin_Fr 1 (index := 42) (by decide) lf_Fr_42 d_Fr_placeBehindFrame_79 ?_
        obtain ⟨q3, e4, h⟩ := un_bi h
        refine w_callVi (As := []) (rest := []) S hK hI hT (c_Wr_takeByte l hW p2 e4) (cwV 0 S.2.2.2.2 (gd_V lc_Wr_takeByte lm_Fr_58 li_Wr_takeByte ls_Wr_takeByte ln_Wr) rfl rfl rfl hd_Wr_takeByte ⟨Nat.le_of_ble_eq_true rfl, Nat.le_of_ble_eq_true rfl⟩) p2 rfl (by decide) rfl rfl hl.1 (Nat.le_of_ble_eq_true rfl) d_Fr_placeBehindFrame_82 ⟨Nat.zero_le _, Nat.zero_le _⟩ (fun H locs hI => ?_)
        refine lv_istore (lv' := [(6, .int q3.1), (0, .ref (mAd X i0)), (2, .int x2), (4, .int x4), (5, .int x5)]) hx hb d_Fr_placeBehindFrame_85 hl (by decide) rfl (fun ls hl => ?_)
        refine lv_iload hx hb d_Fr_placeBehindFrame_87 (lv_at hl 0 rfl) ?_
        refine lv_iconst (v := 3) hx hb d_Fr_placeBehindFrame_89 rfl ?_
        refine lv_ishr hx hb d_Fr_placeBehindFrame_90 ?_
        refine lv_bipush (v := 32) hx hb d_Fr_placeBehindFrame_91 (by decide) ?_
        refine lv_aload_n hx hb d_Fr_placeBehindFrame_93 rfl (lv_at hl 1 rfl) ?_
        have p5 := wt_o hW o0 1 7 rfl (by decide) (by decide) (by decide)
        refine w_getR (T := T_Fr) S hK hI o0 rfl hin_Fr 1 (index := 42) (by decide) lf_Fr_42 d_Fr_placeBehindFrame_94 ?_
        obtain ⟨q6, e7, h⟩ := un_bi h
        refine w_callVi (As := []) (rest := [.int (32 : Int32), .int (jshr q3.1 (3 : Int32))]) S hK hI hT (c_Wr_takeByte l hW p5 e7) (cwV 0 S.2.2.2.2 (gd_V lc_Wr_takeByte lm_Fr_58 li_Wr_takeByte ls_Wr_takeByte ln_Wr) rfl rfl rfl hd_Wr_takeByte ⟨Nat.le_of_ble_eq_true rfl, Nat.le_of_ble_eq_true rfl⟩) p5 rfl (by decide) rfl rfl hl.1 (Nat.le_of_ble_eq_true rfl) d_Fr_placeBehindFrame_97 ⟨Nat.zero_le _, Nat.zero_le _⟩ (fun H locs hI => ?_)
        refine lv_imul hx hb d_Fr_placeBehindFrame_100 ?_
        refine lv_iadd hx hb d_Fr_placeBehindFrame_101 ?_
        refine lv_istore (lv' := [(7, .int ((jshr q3.1 (3 : Int32)) + ((32 : Int32) * q6.1))), (6, .int q3.1), (0, .ref (mAd X i0)), (2, .int x2), (4, .int x4), (5, .int x5)]) hx hb d_Fr_placeBehindFrame_102 hl (by decide) rfl (fun ls hl => ?_)
        refine lv_iload hx hb d_Fr_placeBehindFrame_104 (lv_at hl 1 rfl) ?_
        refine lv_iconst (v := 1) hx hb d_Fr_placeBehindFrame_106 rfl ?_
        refine lv_iand hx hb d_Fr_placeBehindFrame_107 ?_
        refine lv_iconst (v := 1) hx hb d_Fr_placeBehindFrame_108 rfl ?_
        refine lv_icmp_ne (tgt := 116) hx hb d_Fr_placeBehindFrame_109 rfl (fun hc => ?_) (fun hc => ?_)
        · replace h := (if_neg hc).symm.trans h
          refine lv_iconst (v := 0) hx hb d_Fr_placeBehindFrame_116 rfl ?_
          exact t_Fr_placeBehindFrame_117 hC hk55 o0 hI (lv_sub hl [2, 3, 5, 1, 0] rfl) h
        · replace h := (if_pos hc).symm.trans h
          refine lv_iconst (v := 1) hx hb d_Fr_placeBehindFrame_112 rfl ?_
          refine lv_goto (tgt := 117) hx hb d_Fr_placeBehindFrame_113 rfl ?_
          exact t_Fr_placeBehindFrame_117 hC hk55 o0 hI (lv_sub hl [2, 3, 5, 1, 0] rfl) h
def f_Fr_placeBehindFrame_55 (L : La)  : Nat → Nat → Int32 → Int32 → Int32 → Mem → Option (Int32 × Mem)
  | 0 => fun _ _ _ _ _ => none
  | n + 1 => b_Fr_placeBehindFrame_55 L (f_Fr_placeBehindFrame_55 L  n)
theorem tf_Fr_placeBehindFrame_55 (hC : Cx X L p s m args meth c cc_Fr_placeBehindFrame 8 w_Fr_placeBehindFrame R_Fr (some .int))  {out : (Int32 × Mem)}  (n : Nat) : ∀ (i0 : Nat) (x2 : Int32) (x4 : Int32) (x5 : Int32) (F : Mem) (H : Heap) (locs : List Loc) (ls : Array Slot), oO L 9 i0 → Iv X L s H locs F → lv_has ls 8 [(0, .ref (mAd X i0)), (2, .int x2), (4, .int x4), (5, .int x5)] → f_Fr_placeBehindFrame_55 L  n i0 x2 x4 x5 F = some out → W p l e (headSpec w_Fr_placeBehindFrame r_Fr_placeBehindFrame).room s m args below meth c H locs 0 0 (MQ below (QI X L out) args s 0 0 (AA X L)) (F0 m 55 ls []) := by
  induction n with
  | zero => intro i0 x2 x4 x5 F H locs ls o0 hI hl h; cases h
  | succ n ih => intro i0 x2 x4 x5 F H locs ls o0 hI hl h; exact t_Fr_placeBehindFrame_55 hC ih o0 hI hl h
def f_Fr_placeBehindFrame (L : La) (i0 : Nat) (x1 : Int32) (F : Mem) : Option (Int32 × Mem) :=
  (f_Wr_begin L (mRf L i0 1) (x1 + (1 : Int32)) F).bind fun F2 =>
  (f_Wr_takeByte L (mRf L i0 1) F2).bind fun q5 =>
  (f_Wr_takePair L (mRf L i0 1) q5.2).bind fun q8 =>
  if (1 : Int32) < q5.1 then
    b_Fr_placeBehindFrame_42 L   q8.2
  else
    (f_Row_hasRoom L (mRf L i0 0) q8.1 q8.2).bind fun q11 =>
    if q11.1 = 0 then
      b_Fr_placeBehindFrame_42 L   q11.2
    else
      (f_Fr_beginFrame L i0 q8.1 q11.2).bind fun F13 =>
      f_Fr_placeBehindFrame_55 L  mFU i0 q5.1 (0 : Int32) (0 : Int32) F13
set_option maxHeartbeats 4000000 in
theorem c_Fr_placeBehindFrame (l : Launch) {X : Xs} {L : La} (hW : WT L) {out : (Int32 × Mem)} {i0 : Nat} {x1 : Int32} {F : Mem} (o0 : oO L 9 i0) (h : f_Fr_placeBehindFrame L i0 x1 F = some out) : Met l y_Fr_placeBehindFrame w_Fr_placeBehindFrame r_Fr_placeBehindFrame (va_Pc [.ref (mAd X i0), .int x1] (Pr X L F)) (QI X L out) 0 0 (AA X L) := by
  refine mk_met (by decide) rfl (Nat.le_of_ble_eq_true rfl) hW ?_
  intro p e s m args below meth c ls hC hI hl
  have hl : lv_has ls 8 [(0, .ref (mAd X i0)), (1, .int x1)] := hl
  generalize hHe : s.heap = H at hI ⊢
  generalize ([] : List Loc) = locs at hI ⊢
  unfold f_Fr_placeBehindFrame at h
  obtain ⟨S, hK, hT, hW, hr, hlk⟩ := id hC
  have hx := S.1
  have hb := S.2.1
  refine lv_aload_n hx hb d_Fr_placeBehindFrame_0 rfl (lv_at hl 0 rfl) ?_
  have p1 := wt_o hW o0 1 7 rfl (by decide) (by decide) (by decide)
  refine w_getR (T := T_Fr) S hK hI o0 rfl hin_Fr 1 (index := 42) (by decide) lf_Fr_42 d_Fr_placeBehindFrame_1 ?_
  refine lv_iload_n hx hb d_Fr_placeBehindFrame_4 rfl (lv_at hl 1 rfl) ?_
  refine lv_iconst (v := 1) hx hb d_Fr_placeBehindFrame_5 rfl ?_
  refine lv_iadd hx hb d_Fr_placeBehindFrame_6 ?_
  obtain ⟨F2, e3, h⟩ := un_bi h
  refine w_callVv (As := [.int (x1 + (1 : Int32))]) (rest := []) S hK hI hT (c_Wr_begin l hW p1 e3) (cwV 1 S.2.2.2.2 (gd_V lc_Wr_begin lm_Fr_55 li_Wr_begin ls_Wr_begin ln_Wr) rfl rfl rfl hd_Wr_begin ⟨Nat.le_of_ble_eq_true rfl, Nat.le_of_ble_eq_true rfl⟩) p1 rfl (by decide) rfl rfl hl.1 (Nat.le_of_ble_eq_true rfl) d_Fr_placeBehindFrame_7 ⟨Nat.zero_le _, Nat.zero_le _⟩ (fun H locs hI => ?_)
  refine lv_aload_n hx hb d_Fr_placeBehindFrame_10 rfl (lv_at hl 0 rfl) ?_
  have p4 := wt_o hW o0 1 7 rfl (by decide) (by decide) (by decide)
  refine w_getR (T := T_Fr) S hK hI o0 rfl hin_Fr 1 (index := 42) (by decide) lf_Fr_42 d_Fr_placeBehindFrame_11 ?_
  obtain ⟨q5, e6, h⟩ := un_bi h
  refine w_callVi (As := []) (rest := []) S hK hI hT (c_Wr_takeByte l hW p4 e6) (cwV 0 S.2.2.2.2 (gd_V lc_Wr_takeByte lm_Fr_58 li_Wr_takeByte ls_Wr_takeByte ln_Wr) rfl rfl rfl hd_Wr_takeByte ⟨Nat.le_of_ble_eq_true rfl, Nat.le_of_ble_eq_true rfl⟩) p4 rfl (by decide) rfl rfl hl.1 (Nat.le_of_ble_eq_true rfl) d_Fr_placeBehindFrame_14 ⟨Nat.zero_le _, Nat.zero_le _⟩ (fun H locs hI => ?_)
  refine lv_istore_n (lv' := [(2, .int q5.1), (0, .ref (mAd X i0)), (1, .int x1)]) hx hb d_Fr_placeBehindFrame_17 rfl hl (by decide) rfl (fun ls hl => ?_)
  refine lv_aload_n hx hb d_Fr_placeBehindFrame_18 rfl (lv_at hl 1 rfl) ?_
  have p7 := wt_o hW o0 1 7 rfl (by decide) (by decide) (by decide)
  refine w_getR (T := T_Fr) S hK hI o0 rfl hin_Fr 1 (index := 42) (by decide) lf_Fr_42 d_Fr_placeBehindFrame_19 ?_
  obtain ⟨q8, e9, h⟩ := un_bi h
  refine w_callVi (As := []) (rest := []) S hK hI hT (c_Wr_takePair l hW p7 e9) (cwV 0 S.2.2.2.2 (gd_V lc_Wr_takePair lm_Fr_62 li_Wr_takePair ls_Wr_takePair ln_Wr) rfl rfl rfl hd_Wr_takePair ⟨Nat.le_of_ble_eq_true rfl, Nat.le_of_ble_eq_true rfl⟩) p7 rfl (by decide) rfl rfl hl.1 (Nat.le_of_ble_eq_true rfl) d_Fr_placeBehindFrame_22 ⟨Nat.zero_le _, Nat.zero_le _⟩ (fun H locs hI => ?_)
  refine lv_istore_n (lv' := [(3, .int q8.1), (2, .int q5.1), (0, .ref (mAd X i0)), (1, .int x1)]) hx hb d_Fr_placeBehindFrame_25 rfl hl (by decide) rfl (fun ls hl => ?_)
  refine lv_iload_n hx hb d_Fr_placeBehindFrame_26 rfl (lv_at hl 1 rfl) ?_
  refine lv_iconst (v := 1) hx hb d_Fr_placeBehindFrame_27 rfl ?_
  refine lv_icmp_gt (tgt := 42) hx hb d_Fr_placeBehindFrame_28 rfl (fun hc => ?_) (fun hc => ?_)
  · replace h := (if_pos hc).symm.trans h
    exact t_Fr_placeBehindFrame_42 hC   hI (lv_sub hl [] rfl) h
  · replace h := (if_neg hc).symm.trans h
    refine lv_aload_n hx hb d_Fr_placeBehindFrame_31 rfl (lv_at hl 2 rfl) ?_
    have p10 := wt_o hW o0 0 1 rfl (by decide) (by decide) (by decide)
    refine w_getR (T := T_Fr) S hK hI o0 rfl hin_Fr 0 (index := 14) (by decide) lf_Fr_14 d_Fr_placeBehindFrame_32 ?_
    refine lv_iload_n hx hb d_Fr_placeBehindFrame_35 rfl (lv_at hl 0 rfl) ?_
    obtain ⟨q11, e12, h⟩ := un_bi h
    refine w_callVi (As := [.int q8.1]) (rest := []) S hK hI hT (c_Row_hasRoom l hW p10 e12) (cwV 1 S.2.2.2.2 (gd_V lc_Row_hasRoom lm_Fr_65 li_Row_hasRoom ls_Row_hasRoom ln_Row) rfl rfl rfl hd_Row_hasRoom ⟨Nat.le_of_ble_eq_true rfl, Nat.le_of_ble_eq_true rfl⟩) p10 rfl (by decide) rfl rfl hl.1 (Nat.le_of_ble_eq_true rfl) d_Fr_placeBehindFrame_36 ⟨Nat.zero_le _, Nat.zero_le _⟩ (fun H locs hI => ?_)
    refine lv_if_ne (tgt := 44) hx hb d_Fr_placeBehindFrame_39 rfl (fun hc => ?_) (fun hc => ?_)
    · replace h := (if_neg hc).symm.trans h
      refine lv_aload_n hx hb d_Fr_placeBehindFrame_44 rfl (lv_at hl 2 rfl) ?_
      refine lv_iload_n hx hb d_Fr_placeBehindFrame_45 rfl (lv_at hl 0 rfl) ?_
      obtain ⟨F13, e14, h⟩ := un_bi h
      refine w_callVv (As := [.int q8.1]) (rest := []) S hK hI hT (c_Fr_beginFrame l hW o0 e14) (cwV 1 S.2.2.2.2 (gd_V lc_Fr_beginFrame lm_Fr_69 li_Fr_beginFrame ls_Fr_beginFrame ln_Fr) rfl rfl rfl hd_Fr_beginFrame ⟨Nat.le_of_ble_eq_true rfl, Nat.le_of_ble_eq_true rfl⟩) o0 rfl (by decide) rfl rfl hl.1 (Nat.le_of_ble_eq_true rfl) d_Fr_placeBehindFrame_46 ⟨Nat.zero_le _, Nat.zero_le _⟩ (fun H locs hI => ?_)
      refine lv_iconst (v := 0) hx hb d_Fr_placeBehindFrame_49 rfl ?_
      refine lv_istore (lv' := [(4, .int (0 : Int32)), (3, .int q8.1), (2, .int q5.1), (0, .ref (mAd X i0)), (1, .int x1)]) hx hb d_Fr_placeBehindFrame_50 hl (by decide) rfl (fun ls hl => ?_)
      refine lv_iconst (v := 0) hx hb d_Fr_placeBehindFrame_52 rfl ?_
      refine lv_istore (lv' := [(5, .int (0 : Int32)), (4, .int (0 : Int32)), (3, .int q8.1), (2, .int q5.1), (0, .ref (mAd X i0)), (1, .int x1)]) hx hb d_Fr_placeBehindFrame_53 hl (by decide) rfl (fun ls hl => ?_)
      exact tf_Fr_placeBehindFrame_55 hC  mFU _ _ _ _ _ _ _ _ o0 hI (lv_sub hl [4, 3, 1, 0] rfl) h
    · replace h := (if_pos hc).symm.trans h
      exact t_Fr_placeBehindFrame_42 hC   hI (lv_sub hl [] rfl) h
end
theorem d_PF_placeBehindSkip_0 : decode cc_PF_placeBehindSkip 0 = .ok (.aload_n 0, 1) := by decide +kernel
theorem d_PF_placeBehindSkip_1 : decode cc_PF_placeBehindSkip 1 = .ok (.getfield 18, 3) := by decide +kernel
theorem d_PF_placeBehindSkip_4 : decode cc_PF_placeBehindSkip 4 = .ok (.getfield 70, 3) := by decide +kernel
theorem d_PF_placeBehindSkip_7 : decode cc_PF_placeBehindSkip 7 = .ok (.iload_n 1, 1) := by decide +kernel
theorem d_PF_placeBehindSkip_8 : decode cc_PF_placeBehindSkip 8 = .ok (.iaload, 1) := by decide +kernel
theorem d_PF_placeBehindSkip_9 : decode cc_PF_placeBehindSkip 9 = .ok (.bipush (83), 2) := by decide +kernel
theorem d_PF_placeBehindSkip_11 : decode cc_PF_placeBehindSkip 11 = .ok (.if_icmp .ne (16), 3) := by decide +kernel
theorem d_PF_placeBehindSkip_14 : decode cc_PF_placeBehindSkip 14 = .ok (.iload_n 1, 1) := by decide +kernel
theorem d_PF_placeBehindSkip_15 : decode cc_PF_placeBehindSkip 15 = .ok (.iconst 1, 1) := by decide +kernel
theorem d_PF_placeBehindSkip_16 : decode cc_PF_placeBehindSkip 16 = .ok (.iadd, 1) := by decide +kernel
theorem d_PF_placeBehindSkip_17 : decode cc_PF_placeBehindSkip 17 = .ok (.aload_n 0, 1) := by decide +kernel
theorem d_PF_placeBehindSkip_18 : decode cc_PF_placeBehindSkip 18 = .ok (.getfield 18, 3) := by decide +kernel
theorem d_PF_placeBehindSkip_21 : decode cc_PF_placeBehindSkip 21 = .ok (.getfield 62, 3) := by decide +kernel
theorem d_PF_placeBehindSkip_24 : decode cc_PF_placeBehindSkip 24 = .ok (.if_icmp .lt (5), 3) := by decide +kernel
theorem d_PF_placeBehindSkip_27 : decode cc_PF_placeBehindSkip 27 = .ok (.iconst (-1), 1) := by decide +kernel
theorem d_PF_placeBehindSkip_28 : decode cc_PF_placeBehindSkip 28 = .ok (.ireturn, 1) := by decide +kernel
theorem d_PF_placeBehindSkip_29 : decode cc_PF_placeBehindSkip 29 = .ok (.iload_n 1, 1) := by decide +kernel
theorem d_PF_placeBehindSkip_30 : decode cc_PF_placeBehindSkip 30 = .ok (.iconst 2, 1) := by decide +kernel
theorem d_PF_placeBehindSkip_31 : decode cc_PF_placeBehindSkip 31 = .ok (.iadd, 1) := by decide +kernel
theorem d_PF_placeBehindSkip_32 : decode cc_PF_placeBehindSkip 32 = .ok (.aload_n 0, 1) := by decide +kernel
theorem d_PF_placeBehindSkip_33 : decode cc_PF_placeBehindSkip 33 = .ok (.getfield 18, 3) := by decide +kernel
theorem d_PF_placeBehindSkip_36 : decode cc_PF_placeBehindSkip 36 = .ok (.getfield 70, 3) := by decide +kernel
theorem d_PF_placeBehindSkip_39 : decode cc_PF_placeBehindSkip 39 = .ok (.iload_n 1, 1) := by decide +kernel
theorem d_PF_placeBehindSkip_40 : decode cc_PF_placeBehindSkip 40 = .ok (.iconst 1, 1) := by decide +kernel
theorem d_PF_placeBehindSkip_41 : decode cc_PF_placeBehindSkip 41 = .ok (.iadd, 1) := by decide +kernel
theorem d_PF_placeBehindSkip_42 : decode cc_PF_placeBehindSkip 42 = .ok (.iaload, 1) := by decide +kernel
theorem d_PF_placeBehindSkip_43 : decode cc_PF_placeBehindSkip 43 = .ok (.iadd, 1) := by decide +kernel
theorem d_PF_placeBehindSkip_44 : decode cc_PF_placeBehindSkip 44 = .ok (.istore_n 2, 1) := by decide +kernel
theorem d_PF_placeBehindSkip_45 : decode cc_PF_placeBehindSkip 45 = .ok (.iload_n 2, 1) := by decide +kernel
theorem d_PF_placeBehindSkip_46 : decode cc_PF_placeBehindSkip 46 = .ok (.aload_n 0, 1) := by decide +kernel
theorem d_PF_placeBehindSkip_47 : decode cc_PF_placeBehindSkip 47 = .ok (.getfield 18, 3) := by decide +kernel
theorem d_PF_placeBehindSkip_50 : decode cc_PF_placeBehindSkip 50 = .ok (.getfield 62, 3) := by decide +kernel
theorem d_PF_placeBehindSkip_53 : decode cc_PF_placeBehindSkip 53 = .ok (.if_icmp .gt (7), 3) := by decide +kernel
theorem d_PF_placeBehindSkip_56 : decode cc_PF_placeBehindSkip 56 = .ok (.iload_n 2, 1) := by decide +kernel
theorem d_PF_placeBehindSkip_57 : decode cc_PF_placeBehindSkip 57 = .ok (.goto (4), 3) := by decide +kernel
theorem d_PF_placeBehindSkip_60 : decode cc_PF_placeBehindSkip 60 = .ok (.iconst (-1), 1) := by decide +kernel
theorem d_PF_placeBehindSkip_61 : decode cc_PF_placeBehindSkip 61 = .ok (.ireturn, 1) := by decide +kernel
section
variable {p : Program} {l : Launch} {e : Env} {s : State} {m : MethodId} {args : Array Value} {below : List Frame} {meth : Method} {c : Code} {X : Xs} {L : La}
def b_PF_placeBehindSkip_27 (L : La)   (F : Mem) : Option (Int32 × Mem) :=
  some ((-1 : Int32), F)
set_option maxHeartbeats 4000000 in
theorem t_PF_placeBehindSkip_27 (hC : Cx X L p s m args meth c cc_PF_placeBehindSkip 3 w_PF_placeBehindSkip R_PF (some .int))  {out : (Int32 × Mem)}   {F : Mem} {H : Heap} {locs : List Loc} {ls : Array Slot}  (hI : Iv X L s H locs F) (hl : lv_has ls 3 []) (h : b_PF_placeBehindSkip_27 L   F = some out) : W p l e (headSpec w_PF_placeBehindSkip r_PF_placeBehindSkip).room s m args below meth c H locs 0 0 (MQ below (QI X L out) args s 0 0 (AA X L)) (F0 m 27 ls []) := by
  unfold b_PF_placeBehindSkip_27 at h
  obtain ⟨S, hK, hT, hW, hr, hlk⟩ := id hC
  have hx := S.1
  have hb := S.2.1
  refine lv_iconst (v := -1) hx hb d_PF_placeBehindSkip_27 rfl ?_
  exact w_iret S hK hr hlk hI d_PF_placeBehindSkip_28 h
def b_PF_placeBehindSkip_61 (L : La)  (y0 : Int32) (F : Mem) : Option (Int32 × Mem) :=
  some (y0, F)
set_option maxHeartbeats 4000000 in
theorem t_PF_placeBehindSkip_61 (hC : Cx X L p s m args meth c cc_PF_placeBehindSkip 3 w_PF_placeBehindSkip R_PF (some .int))  {out : (Int32 × Mem)}  {y0 : Int32} {F : Mem} {H : Heap} {locs : List Loc} {ls : Array Slot}  (hI : Iv X L s H locs F) (hl : lv_has ls 3 []) (h : b_PF_placeBehindSkip_61 L  y0 F = some out) : W p l e (headSpec w_PF_placeBehindSkip r_PF_placeBehindSkip).room s m args below meth c H locs 0 0 (MQ below (QI X L out) args s 0 0 (AA X L)) (F0 m 61 ls [.int y0]) := by
  unfold b_PF_placeBehindSkip_61 at h
  obtain ⟨S, hK, hT, hW, hr, hlk⟩ := id hC
  have hx := S.1
  have hb := S.2.1
  exact w_iret S hK hr hlk hI d_PF_placeBehindSkip_61 h
def f_PF_placeBehindSkip (L : La) (i0 : Nat) (x1 : Int32) (F : Mem) : Option (Int32 × Mem) :=
  if inb x1 (mGl L (mRf L (mRf L i0 1) 0)) then none else
  if (mGa L F (mRf L (mRf L i0 1) 0) x1.toNatClampNeg) = (83 : Int32) then
    if (x1 + (1 : Int32)) < (F (mRf L i0 1) 1) then
      if inb (x1 + (1 : Int32)) (mGl L (mRf L (mRf L i0 1) 0)) then none else
      if (F (mRf L i0 1) 1) < ((x1 + (2 : Int32)) + (mGa L F (mRf L (mRf L i0 1) 0) (x1 + (1 : Int32)).toNatClampNeg)) then
        b_PF_placeBehindSkip_61 L  (-1 : Int32) F
      else
        b_PF_placeBehindSkip_61 L  ((x1 + (2 : Int32)) + (mGa L F (mRf L (mRf L i0 1) 0) (x1 + (1 : Int32)).toNatClampNeg)) F
    else
      b_PF_placeBehindSkip_27 L   F
  else
    b_PF_placeBehindSkip_27 L   F
set_option maxHeartbeats 4000000 in
theorem c_PF_placeBehindSkip (l : Launch) {X : Xs} {L : La} (hW : WT L) {out : (Int32 × Mem)} {i0 : Nat} {x1 : Int32} {F : Mem} (o0 : oO L 0 i0) (h : f_PF_placeBehindSkip L i0 x1 F = some out) : Met l y_PF_placeBehindSkip w_PF_placeBehindSkip r_PF_placeBehindSkip (va_Pc [.ref (mAd X i0), .int x1] (Pr X L F)) (QI X L out) 0 0 (AA X L) := by
  refine mk_met (by decide) rfl (Nat.le_of_ble_eq_true rfl) hW ?_
  intro p e s m args below meth c ls hC hI hl
  have hl : lv_has ls 3 [(0, .ref (mAd X i0)), (1, .int x1)] := hl
  generalize hHe : s.heap = H at hI ⊢
  generalize ([] : List Loc) = locs at hI ⊢
  unfold f_PF_placeBehindSkip at h
  obtain ⟨S, hK, hT, hW, hr, hlk⟩ := id hC
  have hx := S.1
  have hb := S.2.1
  refine lv_aload_n hx hb d_PF_placeBehindSkip_0 rfl (lv_at hl 0 rfl) ?_
  have p1 := wt_o hW o0 1 1 rfl (by decide) (by decide) (by decide)
  refine w_getR (T := T_PF) S hK hI o0 rfl hin_PF 1 (index := 18) (by decide) lf_PF_18 d_PF_placeBehindSkip_1 ?_
  have p2 := wt_a hW p1 0 rfl (by decide) (by decide)
  refine w_getR (T := T_Row) S hK hI p1 rfl hin_Row 0 (index := 70) (by decide) lf_PF_70 d_PF_placeBehindSkip_4 ?_
  refine lv_iload_n hx hb d_PF_placeBehindSkip_7 rfl (lv_at hl 1 rfl) ?_
  obtain ⟨z3, h⟩ := un_if h
  refine w_iald S hK hI hT p2 z3 d_PF_placeBehindSkip_8 ?_
  refine lv_bipush (v := 83) hx hb d_PF_placeBehindSkip_9 (by decide) ?_
  refine lv_icmp_ne (tgt := 27) hx hb d_PF_placeBehindSkip_11 rfl (fun hc => ?_) (fun hc => ?_)
  · replace h := (if_neg hc).symm.trans h
    exact t_PF_placeBehindSkip_27 hC   hI (lv_sub hl [] rfl) h
  · replace h := (if_pos hc).symm.trans h
    refine lv_iload_n hx hb d_PF_placeBehindSkip_14 rfl (lv_at hl 1 rfl) ?_
    refine lv_iconst (v := 1) hx hb d_PF_placeBehindSkip_15 rfl ?_
    refine lv_iadd hx hb d_PF_placeBehindSkip_16 ?_
    refine lv_aload_n hx hb d_PF_placeBehindSkip_17 rfl (lv_at hl 0 rfl) ?_
    have p4 := wt_o hW o0 1 1 rfl (by decide) (by decide) (by decide)
    refine w_getR (T := T_PF) S hK hI o0 rfl hin_PF 1 (index := 18) (by decide) lf_PF_18 d_PF_placeBehindSkip_18 ?_
    refine w_getI (T := T_Row) S hK hI p4 rfl hin_Row 1 (index := 62) (by decide) lf_PF_62 d_PF_placeBehindSkip_21 ?_
    refine lv_icmp_lt (tgt := 29) hx hb d_PF_placeBehindSkip_24 rfl (fun hc => ?_) (fun hc => ?_)
    · replace h := (if_pos hc).symm.trans h
      refine lv_iload_n hx hb d_PF_placeBehindSkip_29 rfl (lv_at hl 1 rfl) ?_
      refine lv_iconst (v := 2) hx hb d_PF_placeBehindSkip_30 rfl ?_
      refine lv_iadd hx hb d_PF_placeBehindSkip_31 ?_
      refine lv_aload_n hx hb d_PF_placeBehindSkip_32 rfl (lv_at hl 0 rfl) ?_
      have p5 := wt_o hW o0 1 1 rfl (by decide) (by decide) (by decide)
      refine w_getR (T := T_PF) S hK hI o0 rfl hin_PF 1 (index := 18) (by decide) lf_PF_18 d_PF_placeBehindSkip_33 ?_
      have p6 := wt_a hW p5 0 rfl (by decide) (by decide)
      refine w_getR (T := T_Row) S hK hI p5 rfl hin_Row 0 (index := 70) (by decide) lf_PF_70 d_PF_placeBehindSkip_36 ?_
      refine lv_iload_n hx hb d_PF_placeBehindSkip_39 rfl (lv_at hl 1 rfl) ?_
      refine lv_iconst (v := 1) hx hb d_PF_placeBehindSkip_40 rfl ?_
      refine lv_iadd hx hb d_PF_placeBehindSkip_41 ?_
      obtain ⟨z7, h⟩ := un_if h
      refine w_iald S hK hI hT p6 z7 d_PF_placeBehindSkip_42 ?_
      refine lv_iadd hx hb d_PF_placeBehindSkip_43 ?_
      refine lv_istore_n (lv' := [(2, .int ((x1 + (2 : Int32)) + (mGa L F (mRf L (mRf L i0 1) 0) (x1 + (1 : Int32)).toNatClampNeg))), (0, .ref (mAd X i0)), (1, .int x1)]) hx hb d_PF_placeBehindSkip_44 rfl hl (by decide) rfl (fun ls hl => ?_)
      refine lv_iload_n hx hb d_PF_placeBehindSkip_45 rfl (lv_at hl 0 rfl) ?_
      refine lv_aload_n hx hb d_PF_placeBehindSkip_46 rfl (lv_at hl 1 rfl) ?_
      have p8 := wt_o hW o0 1 1 rfl (by decide) (by decide) (by decide)
      refine w_getR (T := T_PF) S hK hI o0 rfl hin_PF 1 (index := 18) (by decide) lf_PF_18 d_PF_placeBehindSkip_47 ?_
      refine w_getI (T := T_Row) S hK hI p8 rfl hin_Row 1 (index := 62) (by decide) lf_PF_62 d_PF_placeBehindSkip_50 ?_
      refine lv_icmp_gt (tgt := 60) hx hb d_PF_placeBehindSkip_53 rfl (fun hc => ?_) (fun hc => ?_)
      · replace h := (if_pos hc).symm.trans h
        refine lv_iconst (v := -1) hx hb d_PF_placeBehindSkip_60 rfl ?_
        exact t_PF_placeBehindSkip_61 hC   hI (lv_sub hl [] rfl) h
      · replace h := (if_neg hc).symm.trans h
        refine lv_iload_n hx hb d_PF_placeBehindSkip_56 rfl (lv_at hl 0 rfl) ?_
        refine lv_goto (tgt := 61) hx hb d_PF_placeBehindSkip_57 rfl ?_
        exact t_PF_placeBehindSkip_61 hC   hI (lv_sub hl [] rfl) h
    · replace h := (if_neg hc).symm.trans h
      exact t_PF_placeBehindSkip_27 hC   hI (lv_sub hl [] rfl) h
end
theorem d_PF_unpack_0 : decode cc_PF_unpack 0 = .ok (.aload_n 0, 1) := by decide +kernel
theorem d_PF_unpack_1 : decode cc_PF_unpack 1 = .ok (.getfield 45, 3) := by decide +kernel
theorem d_PF_unpack_4 : decode cc_PF_unpack 4 = .ok (.getfield 105, 3) := by decide +kernel
theorem d_PF_unpack_7 : decode cc_PF_unpack 7 = .ok (.iconst 0, 1) := by decide +kernel
theorem d_PF_unpack_8 : decode cc_PF_unpack 8 = .ok (.putfield 62, 3) := by decide +kernel
theorem d_PF_unpack_11 : decode cc_PF_unpack 11 = .ok (.iconst 0, 1) := by decide +kernel
theorem d_PF_unpack_12 : decode cc_PF_unpack 12 = .ok (.istore_n 1, 1) := by decide +kernel
theorem d_PF_unpack_13 : decode cc_PF_unpack 13 = .ok (.iconst 0, 1) := by decide +kernel
theorem d_PF_unpack_14 : decode cc_PF_unpack 14 = .ok (.istore_n 2, 1) := by decide +kernel
theorem d_PF_unpack_15 : decode cc_PF_unpack 15 = .ok (.iload_n 2, 1) := by decide +kernel
theorem d_PF_unpack_16 : decode cc_PF_unpack 16 = .ok (.sipush (240), 3) := by decide +kernel
theorem d_PF_unpack_19 : decode cc_PF_unpack 19 = .ok (.if_icmp .ge (75), 3) := by decide +kernel
theorem d_PF_unpack_22 : decode cc_PF_unpack 22 = .ok (.iload_n 1, 1) := by decide +kernel
theorem d_PF_unpack_23 : decode cc_PF_unpack 23 = .ok (.aload_n 0, 1) := by decide +kernel
theorem d_PF_unpack_24 : decode cc_PF_unpack 24 = .ok (.getfield 18, 3) := by decide +kernel
theorem d_PF_unpack_27 : decode cc_PF_unpack 27 = .ok (.getfield 62, 3) := by decide +kernel
theorem d_PF_unpack_30 : decode cc_PF_unpack 30 = .ok (.if_icmp .ge (64), 3) := by decide +kernel
theorem d_PF_unpack_33 : decode cc_PF_unpack 33 = .ok (.aload_n 0, 1) := by decide +kernel
theorem d_PF_unpack_34 : decode cc_PF_unpack 34 = .ok (.getfield 18, 3) := by decide +kernel
theorem d_PF_unpack_37 : decode cc_PF_unpack 37 = .ok (.getfield 70, 3) := by decide +kernel
theorem d_PF_unpack_40 : decode cc_PF_unpack 40 = .ok (.iload_n 1, 1) := by decide +kernel
theorem d_PF_unpack_41 : decode cc_PF_unpack 41 = .ok (.iaload, 1) := by decide +kernel
theorem d_PF_unpack_42 : decode cc_PF_unpack 42 = .ok (.bipush (90), 2) := by decide +kernel
theorem d_PF_unpack_44 : decode cc_PF_unpack 44 = .ok (.if_icmp .ne (7), 3) := by decide +kernel
theorem d_PF_unpack_47 : decode cc_PF_unpack 47 = .ok (.iconst 1, 1) := by decide +kernel
theorem d_PF_unpack_48 : decode cc_PF_unpack 48 = .ok (.goto (4), 3) := by decide +kernel
theorem d_PF_unpack_51 : decode cc_PF_unpack 51 = .ok (.iconst 0, 1) := by decide +kernel
theorem d_PF_unpack_52 : decode cc_PF_unpack 52 = .ok (.istore_n 3, 1) := by decide +kernel
theorem d_PF_unpack_53 : decode cc_PF_unpack 53 = .ok (.iload_n 3, 1) := by decide +kernel
theorem d_PF_unpack_54 : decode cc_PF_unpack 54 = .ok (.ifCond .eq (14), 3) := by decide +kernel
theorem d_PF_unpack_57 : decode cc_PF_unpack 57 = .ok (.aload_n 0, 1) := by decide +kernel
theorem d_PF_unpack_58 : decode cc_PF_unpack 58 = .ok (.getfield 45, 3) := by decide +kernel
theorem d_PF_unpack_61 : decode cc_PF_unpack 61 = .ok (.iload_n 1, 1) := by decide +kernel
theorem d_PF_unpack_62 : decode cc_PF_unpack 62 = .ok (.invokevirtual 108, 3) := by decide +kernel
theorem d_PF_unpack_65 : decode cc_PF_unpack 65 = .ok (.goto (8), 3) := by decide +kernel
theorem d_PF_unpack_68 : decode cc_PF_unpack 68 = .ok (.aload_n 0, 1) := by decide +kernel
theorem d_PF_unpack_69 : decode cc_PF_unpack 69 = .ok (.iload_n 1, 1) := by decide +kernel
theorem d_PF_unpack_70 : decode cc_PF_unpack 70 = .ok (.invokevirtual 111, 3) := by decide +kernel
theorem d_PF_unpack_73 : decode cc_PF_unpack 73 = .ok (.istore 4, 2) := by decide +kernel
theorem d_PF_unpack_75 : decode cc_PF_unpack 75 = .ok (.iload 4, 2) := by decide +kernel
theorem d_PF_unpack_77 : decode cc_PF_unpack 77 = .ok (.iconst (-1), 1) := by decide +kernel
theorem d_PF_unpack_78 : decode cc_PF_unpack 78 = .ok (.if_icmp .ne (7), 3) := by decide +kernel
theorem d_PF_unpack_81 : decode cc_PF_unpack 81 = .ok (.iconst (-1), 1) := by decide +kernel
theorem d_PF_unpack_82 : decode cc_PF_unpack 82 = .ok (.iload_n 1, 1) := by decide +kernel
theorem d_PF_unpack_83 : decode cc_PF_unpack 83 = .ok (.isub, 1) := by decide +kernel
theorem d_PF_unpack_84 : decode cc_PF_unpack 84 = .ok (.ireturn, 1) := by decide +kernel
theorem d_PF_unpack_85 : decode cc_PF_unpack 85 = .ok (.iload 4, 2) := by decide +kernel
theorem d_PF_unpack_87 : decode cc_PF_unpack 87 = .ok (.istore_n 1, 1) := by decide +kernel
theorem d_PF_unpack_88 : decode cc_PF_unpack 88 = .ok (.iinc 2 (1), 3) := by decide +kernel
theorem d_PF_unpack_91 : decode cc_PF_unpack 91 = .ok (.goto (-76), 3) := by decide +kernel
theorem d_PF_unpack_94 : decode cc_PF_unpack 94 = .ok (.aload_n 0, 1) := by decide +kernel
theorem d_PF_unpack_95 : decode cc_PF_unpack 95 = .ok (.getfield 14, 3) := by decide +kernel
theorem d_PF_unpack_98 : decode cc_PF_unpack 98 = .ok (.iconst 0, 1) := by decide +kernel
theorem d_PF_unpack_99 : decode cc_PF_unpack 99 = .ok (.putfield 62, 3) := by decide +kernel
theorem d_PF_unpack_102 : decode cc_PF_unpack 102 = .ok (.aload_n 0, 1) := by decide +kernel
theorem d_PF_unpack_103 : decode cc_PF_unpack 103 = .ok (.getfield 14, 3) := by decide +kernel
theorem d_PF_unpack_106 : decode cc_PF_unpack 106 = .ok (.aload_n 0, 1) := by decide +kernel
theorem d_PF_unpack_107 : decode cc_PF_unpack 107 = .ok (.getfield 45, 3) := by decide +kernel
theorem d_PF_unpack_110 : decode cc_PF_unpack 110 = .ok (.getfield 105, 3) := by decide +kernel
theorem d_PF_unpack_113 : decode cc_PF_unpack 113 = .ok (.invokevirtual 95, 3) := by decide +kernel
theorem d_PF_unpack_116 : decode cc_PF_unpack 116 = .ok (.aload_n 0, 1) := by decide +kernel
theorem d_PF_unpack_117 : decode cc_PF_unpack 117 = .ok (.getfield 14, 3) := by decide +kernel
theorem d_PF_unpack_120 : decode cc_PF_unpack 120 = .ok (.getfield 62, 3) := by decide +kernel
theorem d_PF_unpack_123 : decode cc_PF_unpack 123 = .ok (.ireturn, 1) := by decide +kernel
section
variable {p : Program} {l : Launch} {e : Env} {s : State} {m : MethodId} {args : Array Value} {below : List Frame} {meth : Method} {c : Code} {X : Xs} {L : La}
def b_PF_unpack_94 (L : La)  (i0 : Nat) (F : Mem) : Option (Int32 × Mem) :=
  lt' (u2 F (mRf L i0 0) 1 (0 : Int32)) fun F2 =>
  (f_Row_addRow L (mRf L i0 0) (mRf L (mRf L i0 4) 0) F2).bind fun F7 =>
  some (F7 (mRf L i0 0) 1, F7)
set_option maxHeartbeats 4000000 in
theorem t_PF_unpack_94 (hC : Cx X L p s m args meth c cc_PF_unpack 5 w_PF_unpack R_PF (some .int))  {out : (Int32 × Mem)}  {i0 : Nat} {F : Mem} {H : Heap} {locs : List Loc} {ls : Array Slot} (o0 : oO L 0 i0) (hI : Iv X L s H locs F) (hl : lv_has ls 5 [(0, .ref (mAd X i0))]) (h : b_PF_unpack_94 L  i0 F = some out) : W p l e (headSpec w_PF_unpack r_PF_unpack).room s m args below meth c H locs 0 0 (MQ below (QI X L out) args s 0 0 (AA X L)) (F0 m 94 ls []) := by
  unfold b_PF_unpack_94 at h
  obtain ⟨S, hK, hT, hW, hr, hlk⟩ := id hC
  have hx := S.1
  have hb := S.2.1
  refine lv_aload_n hx hb d_PF_unpack_94 rfl (lv_at hl 0 rfl) ?_
  have p1 := wt_o hW o0 0 1 rfl (by decide) (by decide) (by decide)
  refine w_getR (T := T_PF) S hK hI o0 rfl hin_PF 0 (index := 14) (by decide) lf_PF_14 d_PF_unpack_95 ?_
  refine lv_iconst (v := 0) hx hb d_PF_unpack_98 rfl ?_
  refine w_putI (T := T_Row) S hK hI p1 rfl hin_Row ty_Row tk_Row nm_Row 1 (index := 62) (by decide) lf_PF_62 rfl d_PF_unpack_99 (fun H locs F2 e3 hI => ?_)
  replace h := un_lt h _ e3
  refine lv_aload_n hx hb d_PF_unpack_102 rfl (lv_at hl 0 rfl) ?_
  have p4 := wt_o hW o0 0 1 rfl (by decide) (by decide) (by decide)
  refine w_getR (T := T_PF) S hK hI o0 rfl hin_PF 0 (index := 14) (by decide) lf_PF_14 d_PF_unpack_103 ?_
  refine lv_aload_n hx hb d_PF_unpack_106 rfl (lv_at hl 0 rfl) ?_
  have p5 := wt_o hW o0 4 9 rfl (by decide) (by decide) (by decide)
  refine w_getR (T := T_PF) S hK hI o0 rfl hin_PF 4 (index := 45) (by decide) lf_PF_45 d_PF_unpack_107 ?_
  have p6 := wt_o hW p5 0 1 rfl (by decide) (by decide) (by decide)
  refine w_getR (T := T_Fr) S hK hI p5 rfl hin_Fr 0 (index := 105) (by decide) lf_PF_105 d_PF_unpack_110 ?_
  obtain ⟨F7, e8, h⟩ := un_bi h
  refine w_callVv (As := [.ref (mAd X (mRf L (mRf L i0 4) 0))]) (rest := []) S hK hI hT (c_Row_addRow l hW p4 p6 e8) (cwV 1 S.2.2.2.2 (gd_V lc_Row_addRow lm_PF_95 li_Row_addRow ls_Row_addRow ln_Row) rfl rfl rfl hd_Row_addRow ⟨Nat.le_of_ble_eq_true rfl, Nat.le_of_ble_eq_true rfl⟩) p4 rfl (by decide) rfl rfl hl.1 (Nat.le_of_ble_eq_true rfl) d_PF_unpack_113 ⟨Nat.zero_le _, Nat.zero_le _⟩ (fun H locs hI => ?_)
  refine lv_aload_n hx hb d_PF_unpack_116 rfl (lv_at hl 0 rfl) ?_
  have p9 := wt_o hW o0 0 1 rfl (by decide) (by decide) (by decide)
  refine w_getR (T := T_PF) S hK hI o0 rfl hin_PF 0 (index := 14) (by decide) lf_PF_14 d_PF_unpack_117 ?_
  refine w_getI (T := T_Row) S hK hI p9 rfl hin_Row 1 (index := 62) (by decide) lf_PF_62 d_PF_unpack_120 ?_
  exact w_iret S hK hr hlk hI d_PF_unpack_123 h
def b_PF_unpack_73 (L : La) (k15 : Nat → Int32 → Int32 → Mem → Option (Int32 × Mem)) (i0 : Nat) (x1 : Int32) (x2 : Int32) (y0 : Int32) (F : Mem) : Option (Int32 × Mem) :=
  if y0 = (-1 : Int32) then
    some ((-1 : Int32) - x1, F)
  else
    k15 i0 y0 (x2 + (1 : Int32)) F
set_option maxHeartbeats 4000000 in
theorem t_PF_unpack_73 (hC : Cx X L p s m args meth c cc_PF_unpack 5 w_PF_unpack R_PF (some .int)) {k15 : Nat → Int32 → Int32 → Mem → Option (Int32 × Mem)} {out : (Int32 × Mem)} (hk15 : ∀ (i0 : Nat) (x1 : Int32) (x2 : Int32) (F : Mem) (H : Heap) (locs : List Loc) (ls : Array Slot), oO L 0 i0 → Iv X L s H locs F → lv_has ls 5 [(0, .ref (mAd X i0)), (1, .int x1), (2, .int x2)] → k15 i0 x1 x2 F = some out → W p l e (headSpec w_PF_unpack r_PF_unpack).room s m args below meth c H locs 0 0 (MQ below (QI X L out) args s 0 0 (AA X L)) (F0 m 15 ls [])) {i0 : Nat} {x1 : Int32} {x2 : Int32} {y0 : Int32} {F : Mem} {H : Heap} {locs : List Loc} {ls : Array Slot} (o0 : oO L 0 i0) (hI : Iv X L s H locs F) (hl : lv_has ls 5 [(0, .ref (mAd X i0)), (1, .int x1), (2, .int x2)]) (h : b_PF_unpack_73 L k15 i0 x1 x2 y0 F = some out) : W p l e (headSpec w_PF_unpack r_PF_unpack).room s m args below meth c H locs 0 0 (MQ below (QI X L out) args s 0 0 (AA X L)) (F0 m 73 ls [.int y0]) := by
  unfold b_PF_unpack_73 at h
  obtain ⟨S, hK, hT, hW, hr, hlk⟩ := id hC
  have hx := S.1
  have hb := S.2.1
  refine lv_istore (lv' := [(4, .int y0), (0, .ref (mAd X i0)), (1, .int x1), (2, .int x2)]) hx hb d_PF_unpack_73 hl (by decide) rfl (fun ls hl => ?_)
  refine lv_iload hx hb d_PF_unpack_75 (lv_at hl 0 rfl) ?_
  refine lv_iconst (v := -1) hx hb d_PF_unpack_77 rfl ?_
  refine lv_icmp_ne (tgt := 85) hx hb d_PF_unpack_78 rfl (fun hc => ?_) (fun hc => ?_)
  · replace h := (if_neg hc).symm.trans h
    refine lv_iload hx hb d_PF_unpack_85 (lv_at hl 0 rfl) ?_
    refine lv_istore_n (lv' := [(1, .int y0), (4, .int y0), (0, .ref (mAd X i0)), (2, .int x2)]) hx hb d_PF_unpack_87 rfl hl (by decide) rfl (fun ls hl => ?_)
    refine lv_iinc (k := 3) (v := x2 + (1 : Int32)) (lv' := [(2, .int (x2 + (1 : Int32))), (1, .int y0), (4, .int y0), (0, .ref (mAd X i0))]) hx hb d_PF_unpack_88 hl rfl rfl (by decide) rfl (fun ls hl => ?_)
    refine lv_goto (tgt := 15) hx hb d_PF_unpack_91 rfl ?_
    exact hk15 _ _ _ _ _ _ _ o0 hI (lv_sub hl [3, 1, 0] rfl) h
  · replace h := (if_pos hc).symm.trans h
    refine lv_iconst (v := -1) hx hb d_PF_unpack_81 rfl ?_
    refine lv_iload_n hx hb d_PF_unpack_82 rfl (lv_at hl 2 rfl) ?_
    refine lv_isub hx hb d_PF_unpack_83 ?_
    exact w_iret S hK hr hlk hI d_PF_unpack_84 h
def b_PF_unpack_52 (L : La) (k15 : Nat → Int32 → Int32 → Mem → Option (Int32 × Mem)) (i0 : Nat) (x1 : Int32) (x2 : Int32) (y0 : Int32) (F : Mem) : Option (Int32 × Mem) :=
  if y0 = 0 then
    (f_PF_placeBehindSkip L i0 x1 F).bind fun q1 =>
    b_PF_unpack_73 L k15 i0 x1 x2 q1.1 q1.2
  else
    (f_Fr_placeBehindFrame L (mRf L i0 4) x1 F).bind fun q4 =>
    b_PF_unpack_73 L k15 i0 x1 x2 q4.1 q4.2
set_option maxHeartbeats 4000000 in
theorem t_PF_unpack_52 (hC : Cx X L p s m args meth c cc_PF_unpack 5 w_PF_unpack R_PF (some .int)) {k15 : Nat → Int32 → Int32 → Mem → Option (Int32 × Mem)} {out : (Int32 × Mem)} (hk15 : ∀ (i0 : Nat) (x1 : Int32) (x2 : Int32) (F : Mem) (H : Heap) (locs : List Loc) (ls : Array Slot), oO L 0 i0 → Iv X L s H locs F → lv_has ls 5 [(0, .ref (mAd X i0)), (1, .int x1), (2, .int x2)] → k15 i0 x1 x2 F = some out → W p l e (headSpec w_PF_unpack r_PF_unpack).room s m args below meth c H locs 0 0 (MQ below (QI X L out) args s 0 0 (AA X L)) (F0 m 15 ls [])) {i0 : Nat} {x1 : Int32} {x2 : Int32} {y0 : Int32} {F : Mem} {H : Heap} {locs : List Loc} {ls : Array Slot} (o0 : oO L 0 i0) (hI : Iv X L s H locs F) (hl : lv_has ls 5 [(0, .ref (mAd X i0)), (1, .int x1), (2, .int x2)]) (h : b_PF_unpack_52 L k15 i0 x1 x2 y0 F = some out) : W p l e (headSpec w_PF_unpack r_PF_unpack).room s m args below meth c H locs 0 0 (MQ below (QI X L out) args s 0 0 (AA X L)) (F0 m 52 ls [.int y0]) := by
  unfold b_PF_unpack_52 at h
  obtain ⟨S, hK, hT, hW, hr, hlk⟩ := id hC
  have hx := S.1
  have hb := S.2.1
  refine lv_istore_n (lv' := [(3, .int y0), (0, .ref (mAd X i0)), (1, .int x1), (2, .int x2)]) hx hb d_PF_unpack_52 rfl hl (by decide) rfl (fun ls hl => ?_)
  refine lv_iload_n hx hb d_PF_unpack_53 rfl (lv_at hl 0 rfl) ?_
  refine lv_if_eq (tgt := 68) hx hb d_PF_unpack_54 rfl (fun hc => ?_) (fun hc => ?_)
  · replace h := (if_pos hc).symm.trans h
    refine lv_aload_n hx hb d_PF_unpack_68 rfl (lv_at hl 1 rfl) ?_
    refine lv_iload_n hx hb d_PF_unpack_69 rfl (lv_at hl 2 rfl) ?_
    obtain ⟨q1, e2, h⟩ := un_bi h
    refine w_callVi (As := [.int x1]) (rest := []) S hK hI hT (c_PF_placeBehindSkip l hW o0 e2) (cwV 1 S.2.2.2.2 (gd_V lc_PF_placeBehindSkip lm_PF_111 li_PF_placeBehindSkip ls_PF_placeBehindSkip ln_PF) rfl rfl rfl hd_PF_placeBehindSkip ⟨Nat.le_of_ble_eq_true rfl, Nat.le_of_ble_eq_true rfl⟩) o0 rfl (by decide) rfl rfl hl.1 (Nat.le_of_ble_eq_true rfl) d_PF_unpack_70 ⟨Nat.zero_le _, Nat.zero_le _⟩ (fun H locs hI => ?_)
    exact t_PF_unpack_73 hC hk15 o0 hI (lv_sub hl [1, 2, 3] rfl) h
  · replace h := (if_neg hc).symm.trans h
    refine lv_aload_n hx hb d_PF_unpack_57 rfl (lv_at hl 1 rfl) ?_
    have p3 := wt_o hW o0 4 9 rfl (by decide) (by decide) (by decide)
    refine w_getR (T := T_PF) S hK hI o0 rfl hin_PF 4 (index := 45) (by decide) lf_PF_45 d_PF_unpack_58 ?_
    refine lv_iload_n hx hb d_PF_unpack_61 rfl (lv_at hl 2 rfl) ?_
    obtain ⟨q4, e5, h⟩ := un_bi h
    refine w_callVi (As := [.int x1]) (rest := []) S hK hI hT (c_Fr_placeBehindFrame l hW p3 e5) (cwV 1 S.2.2.2.2 (gd_V lc_Fr_placeBehindFrame lm_PF_108 li_Fr_placeBehindFrame ls_Fr_placeBehindFrame ln_Fr) rfl rfl rfl hd_Fr_placeBehindFrame ⟨Nat.le_of_ble_eq_true rfl, Nat.le_of_ble_eq_true rfl⟩) p3 rfl (by decide) rfl rfl hl.1 (Nat.le_of_ble_eq_true rfl) d_PF_unpack_62 ⟨Nat.zero_le _, Nat.zero_le _⟩ (fun H locs hI => ?_)
    refine lv_goto (tgt := 73) hx hb d_PF_unpack_65 rfl ?_
    exact t_PF_unpack_73 hC hk15 o0 hI (lv_sub hl [1, 2, 3] rfl) h
def b_PF_unpack_15 (L : La) (k15 : Nat → Int32 → Int32 → Mem → Option (Int32 × Mem)) (i0 : Nat) (x1 : Int32) (x2 : Int32) (F : Mem) : Option (Int32 × Mem) :=
  if (240 : Int32) ≤ x2 then
    b_PF_unpack_94 L  i0 F
  else
    if (F (mRf L i0 1) 1) ≤ x1 then
      b_PF_unpack_94 L  i0 F
    else
      if inb x1 (mGl L (mRf L (mRf L i0 1) 0)) then none else
      if (mGa L F (mRf L (mRf L i0 1) 0) x1.toNatClampNeg) = (90 : Int32) then
        b_PF_unpack_52 L k15 i0 x1 x2 (1 : Int32) F
      else
        b_PF_unpack_52 L k15 i0 x1 x2 (0 : Int32) F
set_option maxHeartbeats 4000000 in
theorem t_PF_unpack_15 (hC : Cx X L p s m args meth c cc_PF_unpack 5 w_PF_unpack R_PF (some .int)) {k15 : Nat → Int32 → Int32 → Mem → Option (Int32 × Mem)} {out : (Int32 × Mem)} (hk15 : ∀ (i0 : Nat) (x1 : Int32) (x2 : Int32) (F : Mem) (H : Heap) (locs : List Loc) (ls : Array Slot), oO L 0 i0 → Iv X L s H locs F → lv_has ls 5 [(0, .ref (mAd X i0)), (1, .int x1), (2, .int x2)] → k15 i0 x1 x2 F = some out → W p l e (headSpec w_PF_unpack r_PF_unpack).room s m args below meth c H locs 0 0 (MQ below (QI X L out) args s 0 0 (AA X L)) (F0 m 15 ls [])) {i0 : Nat} {x1 : Int32} {x2 : Int32} {F : Mem} {H : Heap} {locs : List Loc} {ls : Array Slot} (o0 : oO L 0 i0) (hI : Iv X L s H locs F) (hl : lv_has ls 5 [(0, .ref (mAd X i0)), (1, .int x1), (2, .int x2)]) (h : b_PF_unpack_15 L k15 i0 x1 x2 F = some out) : W p l e (headSpec w_PF_unpack r_PF_unpack).room s m args below meth c H locs 0 0 (MQ below (QI X L out) args s 0 0 (AA X L)) (F0 m 15 ls []) := by
  unfold b_PF_unpack_15 at h
  obtain ⟨S, hK, hT, hW, hr, hlk⟩ := id hC
  have hx := S.1
  have hb := S.2.1
  refine lv_iload_n hx hb d_PF_unpack_15 rfl (lv_at hl 2 rfl) ?_
  refine lv_sipush (v := 240) hx hb d_PF_unpack_16 (by decide) ?_
  refine lv_icmp_ge (tgt := 94) hx hb d_PF_unpack_19 rfl (fun hc => ?_) (fun hc => ?_)
  · replace h := (if_pos hc).symm.trans h
    exact t_PF_unpack_94 hC  o0 hI (lv_sub hl [0] rfl) h
  · replace h := (if_neg hc).symm.trans h
    refine lv_iload_n hx hb d_PF_unpack_22 rfl (lv_at hl 1 rfl) ?_
    refine lv_aload_n hx hb d_PF_unpack_23 rfl (lv_at hl 0 rfl) ?_
    have p1 := wt_o hW o0 1 1 rfl (by decide) (by decide) (by decide)
    refine w_getR (T := T_PF) S hK hI o0 rfl hin_PF 1 (index := 18) (by decide) lf_PF_18 d_PF_unpack_24 ?_
    refine w_getI (T := T_Row) S hK hI p1 rfl hin_Row 1 (index := 62) (by decide) lf_PF_62 d_PF_unpack_27 ?_
    refine lv_icmp_ge (tgt := 94) hx hb d_PF_unpack_30 rfl (fun hc => ?_) (fun hc => ?_)
    · replace h := (if_pos hc).symm.trans h
      exact t_PF_unpack_94 hC  o0 hI (lv_sub hl [0] rfl) h
    · replace h := (if_neg hc).symm.trans h
      refine lv_aload_n hx hb d_PF_unpack_33 rfl (lv_at hl 0 rfl) ?_
      have p2 := wt_o hW o0 1 1 rfl (by decide) (by decide) (by decide)
      refine w_getR (T := T_PF) S hK hI o0 rfl hin_PF 1 (index := 18) (by decide) lf_PF_18 d_PF_unpack_34 ?_
      have p3 := wt_a hW p2 0 rfl (by decide) (by decide)
      refine w_getR (T := T_Row) S hK hI p2 rfl hin_Row 0 (index := 70) (by decide) lf_PF_70 d_PF_unpack_37 ?_
      refine lv_iload_n hx hb d_PF_unpack_40 rfl (lv_at hl 1 rfl) ?_
      obtain ⟨z4, h⟩ := un_if h
      refine w_iald S hK hI hT p3 z4 d_PF_unpack_41 ?_
      refine lv_bipush (v := 90) hx hb d_PF_unpack_42 (by decide) ?_
      refine lv_icmp_ne (tgt := 51) hx hb d_PF_unpack_44 rfl (fun hc => ?_) (fun hc => ?_)
      · replace h := (if_neg hc).symm.trans h
        refine lv_iconst (v := 0) hx hb d_PF_unpack_51 rfl ?_
        exact t_PF_unpack_52 hC hk15 o0 hI hl h
      · replace h := (if_pos hc).symm.trans h
        refine lv_iconst (v := 1) hx hb d_PF_unpack_47 rfl ?_
        refine lv_goto (tgt := 52) hx hb d_PF_unpack_48 rfl ?_
        exact t_PF_unpack_52 hC hk15 o0 hI hl h
def f_PF_unpack_15 (L : La)  : Nat → Nat → Int32 → Int32 → Mem → Option (Int32 × Mem)
  | 0 => fun _ _ _ _ => none
  | n + 1 => b_PF_unpack_15 L (f_PF_unpack_15 L  n)
theorem tf_PF_unpack_15 (hC : Cx X L p s m args meth c cc_PF_unpack 5 w_PF_unpack R_PF (some .int))  {out : (Int32 × Mem)}  (n : Nat) : ∀ (i0 : Nat) (x1 : Int32) (x2 : Int32) (F : Mem) (H : Heap) (locs : List Loc) (ls : Array Slot), oO L 0 i0 → Iv X L s H locs F → lv_has ls 5 [(0, .ref (mAd X i0)), (1, .int x1), (2, .int x2)] → f_PF_unpack_15 L  n i0 x1 x2 F = some out → W p l e (headSpec w_PF_unpack r_PF_unpack).room s m args below meth c H locs 0 0 (MQ below (QI X L out) args s 0 0 (AA X L)) (F0 m 15 ls []) := by
  induction n with
  | zero => intro i0 x1 x2 F H locs ls o0 hI hl h; cases h
  | succ n ih => intro i0 x1 x2 F H locs ls o0 hI hl h; exact t_PF_unpack_15 hC ih o0 hI hl h
def f_PF_unpack (L : La) (i0 : Nat) (F : Mem) : Option (Int32 × Mem) :=
  lt' (u2 F (mRf L (mRf L i0 4) 0) 1 (0 : Int32)) fun F3 =>
  f_PF_unpack_15 L  mFU i0 (0 : Int32) (0 : Int32) F3
set_option maxHeartbeats 4000000 in
theorem c_PF_unpack (l : Launch) {X : Xs} {L : La} (hW : WT L) {out : (Int32 × Mem)} {i0 : Nat} {F : Mem} (o0 : oO L 0 i0) (h : f_PF_unpack L i0 F = some out) : Met l y_PF_unpack w_PF_unpack r_PF_unpack (va_Pc [.ref (mAd X i0)] (Pr X L F)) (QI X L out) 0 0 (AA X L) := by
  refine mk_met (by decide) rfl (Nat.le_of_ble_eq_true rfl) hW ?_
  intro p e s m args below meth c ls hC hI hl
  have hl : lv_has ls 5 [(0, .ref (mAd X i0))] := hl
  generalize hHe : s.heap = H at hI ⊢
  generalize ([] : List Loc) = locs at hI ⊢
  unfold f_PF_unpack at h
  obtain ⟨S, hK, hT, hW, hr, hlk⟩ := id hC
  have hx := S.1
  have hb := S.2.1
  refine lv_aload_n hx hb d_PF_unpack_0 rfl (lv_at hl 0 rfl) ?_
  have p1 := wt_o hW o0 4 9 rfl (by decide) (by decide) (by decide)
  refine w_getR (T := T_PF) S hK hI o0 rfl hin_PF 4 (index := 45) (by decide) lf_PF_45 d_PF_unpack_1 ?_
  have p2 := wt_o hW p1 0 1 rfl (by decide) (by decide) (by decide)
  refine w_getR (T := T_Fr) S hK hI p1 rfl hin_Fr 0 (index := 105) (by decide) lf_PF_105 d_PF_unpack_4 ?_
  refine lv_iconst (v := 0) hx hb d_PF_unpack_7 rfl ?_
  refine w_putI (T := T_Row) S hK hI p2 rfl hin_Row ty_Row tk_Row nm_Row 1 (index := 62) (by decide) lf_PF_62 rfl d_PF_unpack_8 (fun H locs F3 e4 hI => ?_)
  replace h := un_lt h _ e4
  refine lv_iconst (v := 0) hx hb d_PF_unpack_11 rfl ?_
  refine lv_istore_n (lv' := [(1, .int (0 : Int32)), (0, .ref (mAd X i0))]) hx hb d_PF_unpack_12 rfl hl (by decide) rfl (fun ls hl => ?_)
  refine lv_iconst (v := 0) hx hb d_PF_unpack_13 rfl ?_
  refine lv_istore_n (lv' := [(2, .int (0 : Int32)), (1, .int (0 : Int32)), (0, .ref (mAd X i0))]) hx hb d_PF_unpack_14 rfl hl (by decide) rfl (fun ls hl => ?_)
  exact tf_PF_unpack_15 hC  mFU _ _ _ _ _ _ _ o0 hI (lv_sub hl [2, 1, 0] rfl) h
end
theorem d_PF_mark_0 : decode cc_PF_mark 0 = .ok (.aload_n 0, 1) := by decide +kernel
theorem d_PF_mark_1 : decode cc_PF_mark 1 = .ok (.getfield 14, 3) := by decide +kernel
theorem d_PF_mark_4 : decode cc_PF_mark 4 = .ok (.iconst 0, 1) := by decide +kernel
theorem d_PF_mark_5 : decode cc_PF_mark 5 = .ok (.invokevirtual 98, 3) := by decide +kernel
theorem d_PF_mark_8 : decode cc_PF_mark 8 = .ok (.ireturn, 1) := by decide +kernel
section
variable {p : Program} {l : Launch} {e : Env} {s : State} {m : MethodId} {args : Array Value} {below : List Frame} {meth : Method} {c : Code} {X : Xs} {L : La}
def f_PF_mark (L : La) (i0 : Nat) (F : Mem) : Option (Int32 × Mem) :=
  (f_Row_markFrom L (mRf L i0 0) (0 : Int32) F).bind fun q2 =>
  some (q2.1, q2.2)
set_option maxHeartbeats 4000000 in
theorem c_PF_mark (l : Launch) {X : Xs} {L : La} (hW : WT L) {out : (Int32 × Mem)} {i0 : Nat} {F : Mem} (o0 : oO L 0 i0) (h : f_PF_mark L i0 F = some out) : Met l y_PF_mark w_PF_mark r_PF_mark (va_Pc [.ref (mAd X i0)] (Pr X L F)) (QI X L out) 0 0 (AA X L) := by
  refine mk_met (by decide) rfl (Nat.le_of_ble_eq_true rfl) hW ?_
  intro p e s m args below meth c ls hC hI hl
  have hl : lv_has ls 1 [(0, .ref (mAd X i0))] := hl
  generalize hHe : s.heap = H at hI ⊢
  generalize ([] : List Loc) = locs at hI ⊢
  unfold f_PF_mark at h
  obtain ⟨S, hK, hT, hW, hr, hlk⟩ := id hC
  have hx := S.1
  have hb := S.2.1
  refine lv_aload_n hx hb d_PF_mark_0 rfl (lv_at hl 0 rfl) ?_
  have p1 := wt_o hW o0 0 1 rfl (by decide) (by decide) (by decide)
  refine w_getR (T := T_PF) S hK hI o0 rfl hin_PF 0 (index := 14) (by decide) lf_PF_14 d_PF_mark_1 ?_
  refine lv_iconst (v := 0) hx hb d_PF_mark_4 rfl ?_
  obtain ⟨q2, e3, h⟩ := un_bi h
  refine w_callVi (As := [.int (0 : Int32)]) (rest := []) S hK hI hT (c_Row_markFrom l hW p1 e3) (cwV 1 S.2.2.2.2 (gd_V lc_Row_markFrom lm_PF_98 li_Row_markFrom ls_Row_markFrom ln_Row) rfl rfl rfl hd_Row_markFrom ⟨Nat.le_of_ble_eq_true rfl, Nat.le_of_ble_eq_true rfl⟩) p1 rfl (by decide) rfl rfl hl.1 (Nat.le_of_ble_eq_true rfl) d_PF_mark_5 ⟨Nat.zero_le _, Nat.zero_le _⟩ (fun H locs hI => ?_)
  exact w_iret S hK hr hlk hI d_PF_mark_8 h
end
theorem d_PF_usual_0 : decode cc_PF_usual 0 = .ok (.iload_n 1, 1) := by decide +kernel
theorem d_PF_usual_1 : decode cc_PF_usual 1 = .ok (.ifCond .lt (18), 3) := by decide +kernel
theorem d_PF_usual_4 : decode cc_PF_usual 4 = .ok (.iload_n 1, 1) := by decide +kernel
theorem d_PF_usual_5 : decode cc_PF_usual 5 = .ok (.iconst 1, 1) := by decide +kernel
theorem d_PF_usual_6 : decode cc_PF_usual 6 = .ok (.if_icmp .gt (13), 3) := by decide +kernel
theorem d_PF_usual_9 : decode cc_PF_usual 9 = .ok (.iload_n 2, 1) := by decide +kernel
theorem d_PF_usual_10 : decode cc_PF_usual 10 = .ok (.ifCond .lt (9), 3) := by decide +kernel
theorem d_PF_usual_13 : decode cc_PF_usual 13 = .ok (.iload_n 2, 1) := by decide +kernel
theorem d_PF_usual_14 : decode cc_PF_usual 14 = .ok (.bipush (16), 2) := by decide +kernel
theorem d_PF_usual_16 : decode cc_PF_usual 16 = .ok (.if_icmp .lt (5), 3) := by decide +kernel
theorem d_PF_usual_19 : decode cc_PF_usual 19 = .ok (.iconst (-1), 1) := by decide +kernel
theorem d_PF_usual_20 : decode cc_PF_usual 20 = .ok (.ireturn, 1) := by decide +kernel
theorem d_PF_usual_21 : decode cc_PF_usual 21 = .ok (.iload_n 1, 1) := by decide +kernel
theorem d_PF_usual_22 : decode cc_PF_usual 22 = .ok (.ifCond .ne (10), 3) := by decide +kernel
theorem d_PF_usual_25 : decode cc_PF_usual 25 = .ok (.aload_n 0, 1) := by decide +kernel
theorem d_PF_usual_26 : decode cc_PF_usual 26 = .ok (.getfield 30, 3) := by decide +kernel
theorem d_PF_usual_29 : decode cc_PF_usual 29 = .ok (.goto (7), 3) := by decide +kernel
theorem d_PF_usual_32 : decode cc_PF_usual 32 = .ok (.aload_n 0, 1) := by decide +kernel
theorem d_PF_usual_33 : decode cc_PF_usual 33 = .ok (.getfield 37, 3) := by decide +kernel
theorem d_PF_usual_36 : decode cc_PF_usual 36 = .ok (.astore 4, 2) := by decide +kernel
theorem d_PF_usual_38 : decode cc_PF_usual 38 = .ok (.iload_n 3, 1) := by decide +kernel
theorem d_PF_usual_39 : decode cc_PF_usual 39 = .ok (.tableswitch (49) (0) (2) #[25, 33, 41], 25) := by decide +kernel
theorem d_PF_usual_64 : decode cc_PF_usual 64 = .ok (.aload 4, 2) := by decide +kernel
theorem d_PF_usual_66 : decode cc_PF_usual 66 = .ok (.getfield 114, 3) := by decide +kernel
theorem d_PF_usual_69 : decode cc_PF_usual 69 = .ok (.iload_n 2, 1) := by decide +kernel
theorem d_PF_usual_70 : decode cc_PF_usual 70 = .ok (.iaload, 1) := by decide +kernel
theorem d_PF_usual_71 : decode cc_PF_usual 71 = .ok (.ireturn, 1) := by decide +kernel
theorem d_PF_usual_72 : decode cc_PF_usual 72 = .ok (.aload 4, 2) := by decide +kernel
theorem d_PF_usual_74 : decode cc_PF_usual 74 = .ok (.getfield 117, 3) := by decide +kernel
theorem d_PF_usual_77 : decode cc_PF_usual 77 = .ok (.iload_n 2, 1) := by decide +kernel
theorem d_PF_usual_78 : decode cc_PF_usual 78 = .ok (.iaload, 1) := by decide +kernel
theorem d_PF_usual_79 : decode cc_PF_usual 79 = .ok (.ireturn, 1) := by decide +kernel
theorem d_PF_usual_80 : decode cc_PF_usual 80 = .ok (.aload 4, 2) := by decide +kernel
theorem d_PF_usual_82 : decode cc_PF_usual 82 = .ok (.getfield 120, 3) := by decide +kernel
theorem d_PF_usual_85 : decode cc_PF_usual 85 = .ok (.iload_n 2, 1) := by decide +kernel
theorem d_PF_usual_86 : decode cc_PF_usual 86 = .ok (.iaload, 1) := by decide +kernel
theorem d_PF_usual_87 : decode cc_PF_usual 87 = .ok (.ireturn, 1) := by decide +kernel
theorem d_PF_usual_88 : decode cc_PF_usual 88 = .ok (.iconst (-1), 1) := by decide +kernel
theorem d_PF_usual_89 : decode cc_PF_usual 89 = .ok (.ireturn, 1) := by decide +kernel
section
variable {p : Program} {l : Launch} {e : Env} {s : State} {m : MethodId} {args : Array Value} {below : List Frame} {meth : Method} {c : Code} {X : Xs} {L : La}
def b_PF_usual_19 (L : La)   (F : Mem) : Option (Int32 × Mem) :=
  some ((-1 : Int32), F)
set_option maxHeartbeats 4000000 in
theorem t_PF_usual_19 (hC : Cx X L p s m args meth c cc_PF_usual 5 w_PF_usual R_PF (some .int))  {out : (Int32 × Mem)}   {F : Mem} {H : Heap} {locs : List Loc} {ls : Array Slot}  (hI : Iv X L s H locs F) (hl : lv_has ls 5 []) (h : b_PF_usual_19 L   F = some out) : W p l e (headSpec w_PF_usual r_PF_usual).room s m args below meth c H locs 0 0 (MQ below (QI X L out) args s 0 0 (AA X L)) (F0 m 19 ls []) := by
  unfold b_PF_usual_19 at h
  obtain ⟨S, hK, hT, hW, hr, hlk⟩ := id hC
  have hx := S.1
  have hb := S.2.1
  refine lv_iconst (v := -1) hx hb d_PF_usual_19 rfl ?_
  exact w_iret S hK hr hlk hI d_PF_usual_20 h
def b_PF_usual_36 (L : La)  (x2 : Int32) (x3 : Int32) (j0 : Nat) (F : Mem) : Option (Int32 × Mem) :=
  if x3 = 0 then
    if inb x2 (mGl L (mRf L j0 1)) then none else
    some (mGa L F (mRf L j0 1) x2.toNatClampNeg, F)
  else
    if x3 = 1 then
      if inb x2 (mGl L (mRf L j0 2)) then none else
      some (mGa L F (mRf L j0 2) x2.toNatClampNeg, F)
    else
      if x3 = 2 then
        if inb x2 (mGl L (mRf L j0 3)) then none else
        some (mGa L F (mRf L j0 3) x2.toNatClampNeg, F)
      else
        some ((-1 : Int32), F)
set_option maxHeartbeats 4000000 in
theorem t_PF_usual_36 (hC : Cx X L p s m args meth c cc_PF_usual 5 w_PF_usual R_PF (some .int))  {out : (Int32 × Mem)}  {x2 : Int32} {x3 : Int32} {j0 : Nat} {F : Mem} {H : Heap} {locs : List Loc} {ls : Array Slot} (oy0 : oO L 2 j0) (hI : Iv X L s H locs F) (hl : lv_has ls 5 [(2, .int x2), (3, .int x3)]) (h : b_PF_usual_36 L  x2 x3 j0 F = some out) : W p l e (headSpec w_PF_usual r_PF_usual).room s m args below meth c H locs 0 0 (MQ below (QI X L out) args s 0 0 (AA X L)) (F0 m 36 ls [.ref (mAd X j0)]) := by
  unfold b_PF_usual_36 at h
  obtain ⟨S, hK, hT, hW, hr, hlk⟩ := id hC
  have hx := S.1
  have hb := S.2.1
  refine lv_astore (lv' := [(4, .ref (mAd X j0)), (2, .int x2), (3, .int x3)]) hx hb d_PF_usual_36 hl (by decide) rfl (fun ls hl => ?_)
  refine lv_iload_n hx hb d_PF_usual_38 rfl (lv_at hl 2 rfl) ?_
  by_cases e3 : x3 = 0
  · replace h := (if_pos e3).symm.trans h
    refine lv_tableIn (x := x3) (off := 25) (tgt := 64) hx hb d_PF_usual_39 (by rw [e3]; decide) (by rw [e3]; decide) (by rw [e3]; rfl) rfl ?_
    refine lv_aload hx hb d_PF_usual_64 (lv_at hl 0 rfl) ?_
    have p1 := wt_a hW oy0 1 rfl (by decide) (by decide)
    refine w_getR (T := T_ST) S hK hI oy0 rfl hin_ST 1 (index := 114) (by decide) lf_PF_114 d_PF_usual_66 ?_
    refine lv_iload_n hx hb d_PF_usual_69 rfl (lv_at hl 1 rfl) ?_
    obtain ⟨z2, h⟩ := un_if h
    refine w_iald S hK hI hT p1 z2 d_PF_usual_70 ?_
    exact w_iret S hK hr hlk hI d_PF_usual_71 h
  replace h := (if_neg e3).symm.trans h
  by_cases e6 : x3 = 1
  · replace h := (if_pos e6).symm.trans h
    refine lv_tableIn (x := x3) (off := 33) (tgt := 72) hx hb d_PF_usual_39 (by rw [e6]; decide) (by rw [e6]; decide) (by rw [e6]; rfl) rfl ?_
    refine lv_aload hx hb d_PF_usual_72 (lv_at hl 0 rfl) ?_
    have p4 := wt_a hW oy0 2 rfl (by decide) (by decide)
    refine w_getR (T := T_ST) S hK hI oy0 rfl hin_ST 2 (index := 117) (by decide) lf_PF_117 d_PF_usual_74 ?_
    refine lv_iload_n hx hb d_PF_usual_77 rfl (lv_at hl 1 rfl) ?_
    obtain ⟨z5, h⟩ := un_if h
    refine w_iald S hK hI hT p4 z5 d_PF_usual_78 ?_
    exact w_iret S hK hr hlk hI d_PF_usual_79 h
  replace h := (if_neg e6).symm.trans h
  by_cases e9 : x3 = 2
  · replace h := (if_pos e9).symm.trans h
    refine lv_tableIn (x := x3) (off := 41) (tgt := 80) hx hb d_PF_usual_39 (by rw [e9]; decide) (by rw [e9]; decide) (by rw [e9]; rfl) rfl ?_
    refine lv_aload hx hb d_PF_usual_80 (lv_at hl 0 rfl) ?_
    have p7 := wt_a hW oy0 3 rfl (by decide) (by decide)
    refine w_getR (T := T_ST) S hK hI oy0 rfl hin_ST 3 (index := 120) (by decide) lf_PF_120 d_PF_usual_82 ?_
    refine lv_iload_n hx hb d_PF_usual_85 rfl (lv_at hl 1 rfl) ?_
    obtain ⟨z8, h⟩ := un_if h
    refine w_iald S hK hI hT p7 z8 d_PF_usual_86 ?_
    exact w_iret S hK hr hlk hI d_PF_usual_87 h
  replace h := (if_neg e9).symm.trans h
  refine lv_tableOut (x := x3) (tgt := 88) hx hb d_PF_usual_39 (by have ne3 := lv_neT (a := 0) e3 (by decide); have ne6 := lv_neT (a := 1) e6 (by decide); have ne9 := lv_neT (a := 2) e9 (by decide); omega) rfl ?_
  refine lv_iconst (v := -1) hx hb d_PF_usual_88 rfl ?_
  exact w_iret S hK hr hlk hI d_PF_usual_89 h
def f_PF_usual (L : La) (i0 : Nat) (x1 : Int32) (x2 : Int32) (x3 : Int32) (F : Mem) : Option (Int32 × Mem) :=
  if x1 < 0 then
    b_PF_usual_19 L   F
  else
    if (1 : Int32) < x1 then
      b_PF_usual_19 L   F
    else
      if x2 < 0 then
        b_PF_usual_19 L   F
      else
        if x2 < (16 : Int32) then
          if x1 = 0 then
            b_PF_usual_36 L  x2 x3 (mRf L i0 2) F
          else
            b_PF_usual_36 L  x2 x3 (mRf L i0 3) F
        else
          b_PF_usual_19 L   F
set_option maxHeartbeats 4000000 in
theorem c_PF_usual (l : Launch) {X : Xs} {L : La} (hW : WT L) {out : (Int32 × Mem)} {i0 : Nat} {x1 : Int32} {x2 : Int32} {x3 : Int32} {F : Mem} (o0 : oO L 0 i0) (h : f_PF_usual L i0 x1 x2 x3 F = some out) : Met l y_PF_usual w_PF_usual r_PF_usual (va_Pc [.ref (mAd X i0), .int x1, .int x2, .int x3] (Pr X L F)) (QI X L out) 0 0 (AA X L) := by
  refine mk_met (by decide) rfl (Nat.le_of_ble_eq_true rfl) hW ?_
  intro p e s m args below meth c ls hC hI hl
  have hl : lv_has ls 5 [(0, .ref (mAd X i0)), (1, .int x1), (2, .int x2), (3, .int x3)] := hl
  generalize hHe : s.heap = H at hI ⊢
  generalize ([] : List Loc) = locs at hI ⊢
  unfold f_PF_usual at h
  obtain ⟨S, hK, hT, hW, hr, hlk⟩ := id hC
  have hx := S.1
  have hb := S.2.1
  refine lv_iload_n hx hb d_PF_usual_0 rfl (lv_at hl 1 rfl) ?_
  refine lv_if_lt (tgt := 19) hx hb d_PF_usual_1 rfl (fun hc => ?_) (fun hc => ?_)
  · replace h := (if_pos hc).symm.trans h
    exact t_PF_usual_19 hC   hI (lv_sub hl [] rfl) h
  · replace h := (if_neg hc).symm.trans h
    refine lv_iload_n hx hb d_PF_usual_4 rfl (lv_at hl 1 rfl) ?_
    refine lv_iconst (v := 1) hx hb d_PF_usual_5 rfl ?_
    refine lv_icmp_gt (tgt := 19) hx hb d_PF_usual_6 rfl (fun hc => ?_) (fun hc => ?_)
    · replace h := (if_pos hc).symm.trans h
      exact t_PF_usual_19 hC   hI (lv_sub hl [] rfl) h
    · replace h := (if_neg hc).symm.trans h
      refine lv_iload_n hx hb d_PF_usual_9 rfl (lv_at hl 2 rfl) ?_
      refine lv_if_lt (tgt := 19) hx hb d_PF_usual_10 rfl (fun hc => ?_) (fun hc => ?_)
      · replace h := (if_pos hc).symm.trans h
        exact t_PF_usual_19 hC   hI (lv_sub hl [] rfl) h
      · replace h := (if_neg hc).symm.trans h
        refine lv_iload_n hx hb d_PF_usual_13 rfl (lv_at hl 2 rfl) ?_
        refine lv_bipush (v := 16) hx hb d_PF_usual_14 (by decide) ?_
        refine lv_icmp_lt (tgt := 21) hx hb d_PF_usual_16 rfl (fun hc => ?_) (fun hc => ?_)
        · replace h := (if_pos hc).symm.trans h
          refine lv_iload_n hx hb d_PF_usual_21 rfl (lv_at hl 1 rfl) ?_
          refine lv_if_ne (tgt := 32) hx hb d_PF_usual_22 rfl (fun hc => ?_) (fun hc => ?_)
          · replace h := (if_neg hc).symm.trans h
            refine lv_aload_n hx hb d_PF_usual_32 rfl (lv_at hl 0 rfl) ?_
            have p1 := wt_o hW o0 3 2 rfl (by decide) (by decide) (by decide)
            refine w_getR (T := T_PF) S hK hI o0 rfl hin_PF 3 (index := 37) (by decide) lf_PF_37 d_PF_usual_33 ?_
            exact t_PF_usual_36 hC  p1 hI (lv_sub hl [2, 3] rfl) h
          · replace h := (if_pos hc).symm.trans h
            refine lv_aload_n hx hb d_PF_usual_25 rfl (lv_at hl 0 rfl) ?_
            have p2 := wt_o hW o0 2 2 rfl (by decide) (by decide) (by decide)
            refine w_getR (T := T_PF) S hK hI o0 rfl hin_PF 2 (index := 30) (by decide) lf_PF_30 d_PF_usual_26 ?_
            refine lv_goto (tgt := 36) hx hb d_PF_usual_29 rfl ?_
            exact t_PF_usual_36 hC  p2 hI (lv_sub hl [2, 3] rfl) h
        · replace h := (if_neg hc).symm.trans h
          exact t_PF_usual_19 hC   hI (lv_sub hl [] rfl) h
end
theorem d_Md_write_0 : decode cc_Md_write 0 = .ok (.iload_n 1, 1) := by decide +kernel
theorem d_Md_write_1 : decode cc_Md_write 1 = .ok (.iconst 1, 1) := by decide +kernel
theorem d_Md_write_2 : decode cc_Md_write 2 = .ok (.if_icmp .lt (20), 3) := by decide +kernel
theorem d_Md_write_5 : decode cc_Md_write 5 = .ok (.iload_n 1, 1) := by decide +kernel
theorem d_Md_write_6 : decode cc_Md_write 6 = .ok (.bipush (8), 2) := by decide +kernel
theorem d_Md_write_8 : decode cc_Md_write 8 = .ok (.if_icmp .gt (14), 3) := by decide +kernel
theorem d_Md_write_11 : decode cc_Md_write 11 = .ok (.aload_n 0, 1) := by decide +kernel
theorem d_Md_write_12 : decode cc_Md_write 12 = .ok (.getfield 86, 3) := by decide +kernel
theorem d_Md_write_15 : decode cc_Md_write 15 = .ok (.iload_n 1, 1) := by decide +kernel
theorem d_Md_write_16 : decode cc_Md_write 16 = .ok (.iadd, 1) := by decide +kernel
theorem d_Md_write_17 : decode cc_Md_write 17 = .ok (.bipush (120), 2) := by decide +kernel
theorem d_Md_write_19 : decode cc_Md_write 19 = .ok (.if_icmp .le (5), 3) := by decide +kernel
theorem d_Md_write_22 : decode cc_Md_write 22 = .ok (.iconst 0, 1) := by decide +kernel
theorem d_Md_write_23 : decode cc_Md_write 23 = .ok (.ireturn, 1) := by decide +kernel
theorem d_Md_write_24 : decode cc_Md_write 24 = .ok (.iload_n 1, 1) := by decide +kernel
theorem d_Md_write_25 : decode cc_Md_write 25 = .ok (.iconst 1, 1) := by decide +kernel
theorem d_Md_write_26 : decode cc_Md_write 26 = .ok (.isub, 1) := by decide +kernel
theorem d_Md_write_27 : decode cc_Md_write 27 = .ok (.istore 4, 2) := by decide +kernel
theorem d_Md_write_29 : decode cc_Md_write 29 = .ok (.iload 4, 2) := by decide +kernel
theorem d_Md_write_31 : decode cc_Md_write 31 = .ok (.ifCond .lt (40), 3) := by decide +kernel
theorem d_Md_write_34 : decode cc_Md_write 34 = .ok (.aload_n 0, 1) := by decide +kernel
theorem d_Md_write_35 : decode cc_Md_write 35 = .ok (.getfield 7, 3) := by decide +kernel
theorem d_Md_write_38 : decode cc_Md_write 38 = .ok (.aload_n 0, 1) := by decide +kernel
theorem d_Md_write_39 : decode cc_Md_write 39 = .ok (.getfield 86, 3) := by decide +kernel
theorem d_Md_write_42 : decode cc_Md_write 42 = .ok (.lload_n 2, 1) := by decide +kernel
theorem d_Md_write_43 : decode cc_Md_write 43 = .ok (.bipush (8), 2) := by decide +kernel
theorem d_Md_write_45 : decode cc_Md_write 45 = .ok (.iload 4, 2) := by decide +kernel
theorem d_Md_write_47 : decode cc_Md_write 47 = .ok (.imul, 1) := by decide +kernel
theorem d_Md_write_48 : decode cc_Md_write 48 = .ok (.lshr, 1) := by decide +kernel
theorem d_Md_write_49 : decode cc_Md_write 49 = .ok (.l2i, 1) := by decide +kernel
theorem d_Md_write_50 : decode cc_Md_write 50 = .ok (.sipush (255), 3) := by decide +kernel
theorem d_Md_write_53 : decode cc_Md_write 53 = .ok (.iand, 1) := by decide +kernel
theorem d_Md_write_54 : decode cc_Md_write 54 = .ok (.iastore, 1) := by decide +kernel
theorem d_Md_write_55 : decode cc_Md_write 55 = .ok (.aload_n 0, 1) := by decide +kernel
theorem d_Md_write_56 : decode cc_Md_write 56 = .ok (.dup, 1) := by decide +kernel
theorem d_Md_write_57 : decode cc_Md_write 57 = .ok (.getfield 86, 3) := by decide +kernel
theorem d_Md_write_60 : decode cc_Md_write 60 = .ok (.iconst 1, 1) := by decide +kernel
theorem d_Md_write_61 : decode cc_Md_write 61 = .ok (.iadd, 1) := by decide +kernel
theorem d_Md_write_62 : decode cc_Md_write 62 = .ok (.putfield 86, 3) := by decide +kernel
theorem d_Md_write_65 : decode cc_Md_write 65 = .ok (.iinc 4 (-1), 3) := by decide +kernel
theorem d_Md_write_68 : decode cc_Md_write 68 = .ok (.goto (-39), 3) := by decide +kernel
theorem d_Md_write_71 : decode cc_Md_write 71 = .ok (.iconst 1, 1) := by decide +kernel
theorem d_Md_write_72 : decode cc_Md_write 72 = .ok (.ireturn, 1) := by decide +kernel
section
variable {p : Program} {l : Launch} {e : Env} {s : State} {m : MethodId} {args : Array Value} {below : List Frame} {meth : Method} {c : Code} {X : Xs} {L : La}
def b_Md_write_22 (L : La)   (F : Mem) : Option (Int32 × Mem) :=
  if (0 : Int32) = 0 ∨ (0 : Int32) = 1 then some ((0 : Int32), F) else none
set_option maxHeartbeats 4000000 in
theorem t_Md_write_22 (hC : Cx X L p s m args meth c cc_Md_write 5 w_Md_write R_Md (some .boolean))  {out : (Int32 × Mem)}   {F : Mem} {H : Heap} {locs : List Loc} {ls : Array Slot}  (hI : Iv X L s H locs F) (hl : lv_has ls 5 []) (h : b_Md_write_22 L   F = some out) : W p l e (headSpec w_Md_write r_Md_write).room s m args below meth c H locs 0 0 (MQ below (QI X L out) args s 0 0 (AA X L)) (F0 m 22 ls []) := by
  unfold b_Md_write_22 at h
  obtain ⟨S, hK, hT, hW, hr, hlk⟩ := id hC
  have hx := S.1
  have hb := S.2.1
  refine lv_iconst (v := 0) hx hb d_Md_write_22 rfl ?_
  exact w_zret S hK hr hlk hI d_Md_write_23 h
def b_Md_write_29 (L : La) (k29 : Nat → Int64 → Int32 → Mem → Option (Int32 × Mem)) (i0 : Nat) (x2 : Int64) (x4 : Int32) (F : Mem) : Option (Int32 × Mem) :=
  if x4 < 0 then
    if (1 : Int32) = 0 ∨ (1 : Int32) = 1 then some ((1 : Int32), F) else none
  else
    if inb (F i0 1) (mLn L (mRf L i0 0)) ∨ ¬ (mRf L i0 0) < mNc L then none else
    lt' (u2 F (mRf L i0 0) (F i0 1).toNatClampNeg (((jlshr x2 ((8 : Int32) * x4)).toInt32) &&& (255 : Int32))) fun F3 =>
    lt' (u2 F3 i0 1 ((F3 i0 1) + (1 : Int32))) fun F5 =>
    k29 i0 x2 (x4 + (-1 : Int32)) F5
set_option maxHeartbeats 4000000 in
theorem t_Md_write_29 (hC : Cx X L p s m args meth c cc_Md_write 5 w_Md_write R_Md (some .boolean)) {k29 : Nat → Int64 → Int32 → Mem → Option (Int32 × Mem)} {out : (Int32 × Mem)} (hk29 : ∀ (i0 : Nat) (x2 : Int64) (x4 : Int32) (F : Mem) (H : Heap) (locs : List Loc) (ls : Array Slot), oO L 12 i0 → Iv X L s H locs F → lv_has ls 5 [(0, .ref (mAd X i0)), (2, .long x2), (4, .int x4)] → k29 i0 x2 x4 F = some out → W p l e (headSpec w_Md_write r_Md_write).room s m args below meth c H locs 0 0 (MQ below (QI X L out) args s 0 0 (AA X L)) (F0 m 29 ls [])) {i0 : Nat} {x2 : Int64} {x4 : Int32} {F : Mem} {H : Heap} {locs : List Loc} {ls : Array Slot} (o0 : oO L 12 i0) (hI : Iv X L s H locs F) (hl : lv_has ls 5 [(0, .ref (mAd X i0)), (2, .long x2), (4, .int x4)]) (h : b_Md_write_29 L k29 i0 x2 x4 F = some out) : W p l e (headSpec w_Md_write r_Md_write).room s m args below meth c H locs 0 0 (MQ below (QI X L out) args s 0 0 (AA X L)) (F0 m 29 ls []) := by
  unfold b_Md_write_29 at h
  obtain ⟨S, hK, hT, hW, hr, hlk⟩ := id hC
  have hx := S.1
  have hb := S.2.1
  refine lv_iload hx hb d_Md_write_29 (lv_at hl 2 rfl) ?_
  refine lv_if_lt (tgt := 71) hx hb d_Md_write_31 rfl (fun hc => ?_) (fun hc => ?_)
  · replace h := (if_pos hc).symm.trans h
    refine lv_iconst (v := 1) hx hb d_Md_write_71 rfl ?_
    exact w_zret S hK hr hlk hI d_Md_write_72 h
  · replace h := (if_neg hc).symm.trans h
    refine lv_aload_n hx hb d_Md_write_34 rfl (lv_at hl 0 rfl) ?_
    have p1 := wt_a hW o0 0 rfl (by decide) (by decide)
    refine w_getR (T := T_Md) S hK hI o0 rfl hin_Md 0 (index := 7) (by decide) lf_Md_7 d_Md_write_35 ?_
    refine lv_aload_n hx hb d_Md_write_38 rfl (lv_at hl 0 rfl) ?_
    refine w_getI (T := T_Md) S hK hI o0 rfl hin_Md 1 (index := 86) (by decide) lf_Md_86 d_Md_write_39 ?_
    refine lv_lload_n hx hb d_Md_write_42 rfl (lv_at hl 1 rfl) ?_
    refine lv_bipush (v := 8) hx hb d_Md_write_43 (by decide) ?_
    refine lv_iload hx hb d_Md_write_45 (lv_at hl 2 rfl) ?_
    refine lv_imul hx hb d_Md_write_47 ?_
    refine lv_lshr hx hb d_Md_write_48 rfl ?_
    refine lv_l2i hx hb d_Md_write_49 rfl ?_
    refine lv_sipush (v := 255) hx hb d_Md_write_50 (by decide) ?_
    refine lv_iand hx hb d_Md_write_53 ?_
    obtain ⟨z2, h⟩ := un_if h
    refine w_iast S hK hI p1 z2 d_Md_write_54 (fun H locs F3 e4 hI => ?_)
    replace h := un_lt h _ e4
    refine lv_aload_n hx hb d_Md_write_55 rfl (lv_at hl 0 rfl) ?_
    refine lv_dup hx hb d_Md_write_56 rfl ?_
    refine w_getI (T := T_Md) S hK hI o0 rfl hin_Md 1 (index := 86) (by decide) lf_Md_86 d_Md_write_57 ?_
    refine lv_iconst (v := 1) hx hb d_Md_write_60 rfl ?_
    refine lv_iadd hx hb d_Md_write_61 ?_
    refine w_putI (T := T_Md) S hK hI o0 rfl hin_Md ty_Md tk_Md nm_Md 1 (index := 86) (by decide) lf_Md_86 rfl d_Md_write_62 (fun H locs F5 e6 hI => ?_)
    replace h := un_lt h _ e6
    refine lv_iinc (k := 2) (v := x4 + (-1 : Int32)) (lv' := [(4, .int (x4 + (-1 : Int32))), (0, .ref (mAd X i0)), (2, .long x2)]) hx hb d_Md_write_65 hl rfl rfl (by decide) rfl (fun ls hl => ?_)
    refine lv_goto (tgt := 29) hx hb d_Md_write_68 rfl ?_
    exact hk29 _ _ _ _ _ _ _ o0 hI (lv_sub hl [1, 2, 0] rfl) h
def f_Md_write_29 (L : La)  : Nat → Nat → Int64 → Int32 → Mem → Option (Int32 × Mem)
  | 0 => fun _ _ _ _ => none
  | n + 1 => b_Md_write_29 L (f_Md_write_29 L  n)
theorem tf_Md_write_29 (hC : Cx X L p s m args meth c cc_Md_write 5 w_Md_write R_Md (some .boolean))  {out : (Int32 × Mem)}  (n : Nat) : ∀ (i0 : Nat) (x2 : Int64) (x4 : Int32) (F : Mem) (H : Heap) (locs : List Loc) (ls : Array Slot), oO L 12 i0 → Iv X L s H locs F → lv_has ls 5 [(0, .ref (mAd X i0)), (2, .long x2), (4, .int x4)] → f_Md_write_29 L  n i0 x2 x4 F = some out → W p l e (headSpec w_Md_write r_Md_write).room s m args below meth c H locs 0 0 (MQ below (QI X L out) args s 0 0 (AA X L)) (F0 m 29 ls []) := by
  induction n with
  | zero => intro i0 x2 x4 F H locs ls o0 hI hl h; cases h
  | succ n ih => intro i0 x2 x4 F H locs ls o0 hI hl h; exact t_Md_write_29 hC ih o0 hI hl h
def f_Md_write (L : La) (i0 : Nat) (x1 : Int32) (x2 : Int64) (F : Mem) : Option (Int32 × Mem) :=
  if x1 < (1 : Int32) then
    b_Md_write_22 L   F
  else
    if (8 : Int32) < x1 then
      b_Md_write_22 L   F
    else
      if ((F i0 1) + x1) ≤ (120 : Int32) then
        f_Md_write_29 L  mFU i0 x2 (x1 - (1 : Int32)) F
      else
        b_Md_write_22 L   F
set_option maxHeartbeats 4000000 in
theorem c_Md_write (l : Launch) {X : Xs} {L : La} (hW : WT L) {out : (Int32 × Mem)} {i0 : Nat} {x1 : Int32} {x2 : Int64} {F : Mem} (o0 : oO L 12 i0) (h : f_Md_write L i0 x1 x2 F = some out) : Met l y_Md_write w_Md_write r_Md_write (va_Pc [.ref (mAd X i0), .int x1, .long x2] (Pr X L F)) (QI X L out) 0 0 (AA X L) := by
  refine mk_met (by decide) rfl (Nat.le_of_ble_eq_true rfl) hW ?_
  intro p e s m args below meth c ls hC hI hl
  have hl : lv_has ls 5 [(0, .ref (mAd X i0)), (1, .int x1), (2, .long x2)] := hl
  generalize hHe : s.heap = H at hI ⊢
  generalize ([] : List Loc) = locs at hI ⊢
  unfold f_Md_write at h
  obtain ⟨S, hK, hT, hW, hr, hlk⟩ := id hC
  have hx := S.1
  have hb := S.2.1
  refine lv_iload_n hx hb d_Md_write_0 rfl (lv_at hl 1 rfl) ?_
  refine lv_iconst (v := 1) hx hb d_Md_write_1 rfl ?_
  refine lv_icmp_lt (tgt := 22) hx hb d_Md_write_2 rfl (fun hc => ?_) (fun hc => ?_)
  · replace h := (if_pos hc).symm.trans h
    exact t_Md_write_22 hC   hI (lv_sub hl [] rfl) h
  · replace h := (if_neg hc).symm.trans h
    refine lv_iload_n hx hb d_Md_write_5 rfl (lv_at hl 1 rfl) ?_
    refine lv_bipush (v := 8) hx hb d_Md_write_6 (by decide) ?_
    refine lv_icmp_gt (tgt := 22) hx hb d_Md_write_8 rfl (fun hc => ?_) (fun hc => ?_)
    · replace h := (if_pos hc).symm.trans h
      exact t_Md_write_22 hC   hI (lv_sub hl [] rfl) h
    · replace h := (if_neg hc).symm.trans h
      refine lv_aload_n hx hb d_Md_write_11 rfl (lv_at hl 0 rfl) ?_
      refine w_getI (T := T_Md) S hK hI o0 rfl hin_Md 1 (index := 86) (by decide) lf_Md_86 d_Md_write_12 ?_
      refine lv_iload_n hx hb d_Md_write_15 rfl (lv_at hl 1 rfl) ?_
      refine lv_iadd hx hb d_Md_write_16 ?_
      refine lv_bipush (v := 120) hx hb d_Md_write_17 (by decide) ?_
      refine lv_icmp_le (tgt := 24) hx hb d_Md_write_19 rfl (fun hc => ?_) (fun hc => ?_)
      · replace h := (if_pos hc).symm.trans h
        refine lv_iload_n hx hb d_Md_write_24 rfl (lv_at hl 1 rfl) ?_
        refine lv_iconst (v := 1) hx hb d_Md_write_25 rfl ?_
        refine lv_isub hx hb d_Md_write_26 ?_
        refine lv_istore (lv' := [(4, .int (x1 - (1 : Int32))), (0, .ref (mAd X i0)), (1, .int x1), (2, .long x2)]) hx hb d_Md_write_27 hl (by decide) rfl (fun ls hl => ?_)
        exact tf_Md_write_29 hC  mFU _ _ _ _ _ _ _ o0 hI (lv_sub hl [1, 3, 0] rfl) h
      · replace h := (if_neg hc).symm.trans h
        exact t_Md_write_22 hC   hI (lv_sub hl [] rfl) h
end
theorem d_Md_clear_0 : decode cc_Md_clear 0 = .ok (.aload_n 0, 1) := by decide +kernel
theorem d_Md_clear_1 : decode cc_Md_clear 1 = .ok (.iconst 0, 1) := by decide +kernel
theorem d_Md_clear_2 : decode cc_Md_clear 2 = .ok (.putfield 86, 3) := by decide +kernel
theorem d_Md_clear_5 : decode cc_Md_clear 5 = .ok (.return_, 1) := by decide +kernel
section
variable {p : Program} {l : Launch} {e : Env} {s : State} {m : MethodId} {args : Array Value} {below : List Frame} {meth : Method} {c : Code} {X : Xs} {L : La}
def f_Md_clear (L : La) (i0 : Nat) (F : Mem) : Option Mem :=
  lt' (u2 F i0 1 (0 : Int32)) fun F1 =>
  some F1
set_option maxHeartbeats 4000000 in
theorem c_Md_clear (l : Launch) {X : Xs} {L : La} (hW : WT L) {out : Mem} {i0 : Nat} {F : Mem} (o0 : oO L 12 i0) (h : f_Md_clear L i0 F = some out) : Met l y_Md_clear w_Md_clear r_Md_clear (va_Pc [.ref (mAd X i0)] (Pr X L F)) (QV X L out) 0 0 (AA X L) := by
  refine mk_met (by decide) rfl (Nat.le_of_ble_eq_true rfl) hW ?_
  intro p e s m args below meth c ls hC hI hl
  have hl : lv_has ls 1 [(0, .ref (mAd X i0))] := hl
  generalize hHe : s.heap = H at hI ⊢
  generalize ([] : List Loc) = locs at hI ⊢
  unfold f_Md_clear at h
  obtain ⟨S, hK, hT, hW, hr, hlk⟩ := id hC
  have hx := S.1
  have hb := S.2.1
  refine lv_aload_n hx hb d_Md_clear_0 rfl (lv_at hl 0 rfl) ?_
  refine lv_iconst (v := 0) hx hb d_Md_clear_1 rfl ?_
  refine w_putI (T := T_Md) S hK hI o0 rfl hin_Md ty_Md tk_Md nm_Md 1 (index := 86) (by decide) lf_Md_86 rfl d_Md_clear_2 (fun H locs F1 e2 hI => ?_)
  replace h := un_lt h _ e2
  exact w_vret S hK hr hlk hI d_Md_clear_5 h
end
theorem d_Md_content_0 : decode cc_Md_content 0 = .ok (.iload_n 1, 1) := by decide +kernel
theorem d_Md_content_1 : decode cc_Md_content 1 = .ok (.iconst (-1), 1) := by decide +kernel
theorem d_Md_content_2 : decode cc_Md_content 2 = .ok (.if_icmp .ne (10), 3) := by decide +kernel
theorem d_Md_content_5 : decode cc_Md_content 5 = .ok (.aload_n 0, 1) := by decide +kernel
theorem d_Md_content_6 : decode cc_Md_content 6 = .ok (.getfield 86, 3) := by decide +kernel
theorem d_Md_content_9 : decode cc_Md_content 9 = .ok (.goto (25), 3) := by decide +kernel
theorem d_Md_content_12 : decode cc_Md_content 12 = .ok (.iload_n 1, 1) := by decide +kernel
theorem d_Md_content_13 : decode cc_Md_content 13 = .ok (.ifCond .lt (11), 3) := by decide +kernel
theorem d_Md_content_16 : decode cc_Md_content 16 = .ok (.iload_n 1, 1) := by decide +kernel
theorem d_Md_content_17 : decode cc_Md_content 17 = .ok (.aload_n 0, 1) := by decide +kernel
theorem d_Md_content_18 : decode cc_Md_content 18 = .ok (.getfield 86, 3) := by decide +kernel
theorem d_Md_content_21 : decode cc_Md_content 21 = .ok (.if_icmp .lt (7), 3) := by decide +kernel
theorem d_Md_content_24 : decode cc_Md_content 24 = .ok (.iconst (-1), 1) := by decide +kernel
theorem d_Md_content_25 : decode cc_Md_content 25 = .ok (.goto (9), 3) := by decide +kernel
theorem d_Md_content_28 : decode cc_Md_content 28 = .ok (.aload_n 0, 1) := by decide +kernel
theorem d_Md_content_29 : decode cc_Md_content 29 = .ok (.getfield 7, 3) := by decide +kernel
theorem d_Md_content_32 : decode cc_Md_content 32 = .ok (.iload_n 1, 1) := by decide +kernel
theorem d_Md_content_33 : decode cc_Md_content 33 = .ok (.iaload, 1) := by decide +kernel
theorem d_Md_content_34 : decode cc_Md_content 34 = .ok (.ireturn, 1) := by decide +kernel
section
variable {p : Program} {l : Launch} {e : Env} {s : State} {m : MethodId} {args : Array Value} {below : List Frame} {meth : Method} {c : Code} {X : Xs} {L : La}
def b_Md_content_34 (L : La)  (y0 : Int32) (F : Mem) : Option (Int32 × Mem) :=
  some (y0, F)
set_option maxHeartbeats 4000000 in
theorem t_Md_content_34 (hC : Cx X L p s m args meth c cc_Md_content 2 w_Md_content R_Md (some .int))  {out : (Int32 × Mem)}  {y0 : Int32} {F : Mem} {H : Heap} {locs : List Loc} {ls : Array Slot}  (hI : Iv X L s H locs F) (hl : lv_has ls 2 []) (h : b_Md_content_34 L  y0 F = some out) : W p l e (headSpec w_Md_content r_Md_content).room s m args below meth c H locs 0 0 (MQ below (QI X L out) args s 0 0 (AA X L)) (F0 m 34 ls [.int y0]) := by
  unfold b_Md_content_34 at h
  obtain ⟨S, hK, hT, hW, hr, hlk⟩ := id hC
  have hx := S.1
  have hb := S.2.1
  exact w_iret S hK hr hlk hI d_Md_content_34 h
def b_Md_content_24 (L : La)   (F : Mem) : Option (Int32 × Mem) :=
  b_Md_content_34 L  (-1 : Int32) F
set_option maxHeartbeats 4000000 in
theorem t_Md_content_24 (hC : Cx X L p s m args meth c cc_Md_content 2 w_Md_content R_Md (some .int))  {out : (Int32 × Mem)}   {F : Mem} {H : Heap} {locs : List Loc} {ls : Array Slot}  (hI : Iv X L s H locs F) (hl : lv_has ls 2 []) (h : b_Md_content_24 L   F = some out) : W p l e (headSpec w_Md_content r_Md_content).room s m args below meth c H locs 0 0 (MQ below (QI X L out) args s 0 0 (AA X L)) (F0 m 24 ls []) := by
  unfold b_Md_content_24 at h
  obtain ⟨S, hK, hT, hW, hr, hlk⟩ := id hC
  have hx := S.1
  have hb := S.2.1
  refine lv_iconst (v := -1) hx hb d_Md_content_24 rfl ?_
  refine lv_goto (tgt := 34) hx hb d_Md_content_25 rfl ?_
  exact t_Md_content_34 hC   hI hl h
def f_Md_content (L : La) (i0 : Nat) (x1 : Int32) (F : Mem) : Option (Int32 × Mem) :=
  if x1 = (-1 : Int32) then
    b_Md_content_34 L  (F i0 1) F
  else
    if x1 < 0 then
      b_Md_content_24 L   F
    else
      if x1 < (F i0 1) then
        if inb x1 (mGl L (mRf L i0 0)) then none else
        b_Md_content_34 L  (mGa L F (mRf L i0 0) x1.toNatClampNeg) F
      else
        b_Md_content_24 L   F
set_option maxHeartbeats 4000000 in
theorem c_Md_content (l : Launch) {X : Xs} {L : La} (hW : WT L) {out : (Int32 × Mem)} {i0 : Nat} {x1 : Int32} {F : Mem} (o0 : oO L 12 i0) (h : f_Md_content L i0 x1 F = some out) : Met l y_Md_content w_Md_content r_Md_content (va_Pc [.ref (mAd X i0), .int x1] (Pr X L F)) (QI X L out) 0 0 (AA X L) := by
  refine mk_met (by decide) rfl (Nat.le_of_ble_eq_true rfl) hW ?_
  intro p e s m args below meth c ls hC hI hl
  have hl : lv_has ls 2 [(0, .ref (mAd X i0)), (1, .int x1)] := hl
  generalize hHe : s.heap = H at hI ⊢
  generalize ([] : List Loc) = locs at hI ⊢
  unfold f_Md_content at h
  obtain ⟨S, hK, hT, hW, hr, hlk⟩ := id hC
  have hx := S.1
  have hb := S.2.1
  refine lv_iload_n hx hb d_Md_content_0 rfl (lv_at hl 1 rfl) ?_
  refine lv_iconst (v := -1) hx hb d_Md_content_1 rfl ?_
  refine lv_icmp_ne (tgt := 12) hx hb d_Md_content_2 rfl (fun hc => ?_) (fun hc => ?_)
  · replace h := (if_neg hc).symm.trans h
    refine lv_iload_n hx hb d_Md_content_12 rfl (lv_at hl 1 rfl) ?_
    refine lv_if_lt (tgt := 24) hx hb d_Md_content_13 rfl (fun hc => ?_) (fun hc => ?_)
    · replace h := (if_pos hc).symm.trans h
      exact t_Md_content_24 hC   hI (lv_sub hl [] rfl) h
    · replace h := (if_neg hc).symm.trans h
      refine lv_iload_n hx hb d_Md_content_16 rfl (lv_at hl 1 rfl) ?_
      refine lv_aload_n hx hb d_Md_content_17 rfl (lv_at hl 0 rfl) ?_
      refine w_getI (T := T_Md) S hK hI o0 rfl hin_Md 1 (index := 86) (by decide) lf_Md_86 d_Md_content_18 ?_
      refine lv_icmp_lt (tgt := 28) hx hb d_Md_content_21 rfl (fun hc => ?_) (fun hc => ?_)
      · replace h := (if_pos hc).symm.trans h
        refine lv_aload_n hx hb d_Md_content_28 rfl (lv_at hl 0 rfl) ?_
        have p1 := wt_a hW o0 0 rfl (by decide) (by decide)
        refine w_getR (T := T_Md) S hK hI o0 rfl hin_Md 0 (index := 7) (by decide) lf_Md_7 d_Md_content_29 ?_
        refine lv_iload_n hx hb d_Md_content_32 rfl (lv_at hl 1 rfl) ?_
        obtain ⟨z2, h⟩ := un_if h
        refine w_iald S hK hI hT p1 z2 d_Md_content_33 ?_
        exact t_Md_content_34 hC   hI (lv_sub hl [] rfl) h
      · replace h := (if_neg hc).symm.trans h
        exact t_Md_content_24 hC   hI (lv_sub hl [] rfl) h
  · replace h := (if_pos hc).symm.trans h
    refine lv_aload_n hx hb d_Md_content_5 rfl (lv_at hl 0 rfl) ?_
    refine w_getI (T := T_Md) S hK hI o0 rfl hin_Md 1 (index := 86) (by decide) lf_Md_86 d_Md_content_6 ?_
    refine lv_goto (tgt := 34) hx hb d_Md_content_9 rfl ?_
    exact t_Md_content_34 hC   hI (lv_sub hl [] rfl) h
end
theorem d_Md_put_0 : decode cc_Md_put 0 = .ok (.iload_n 1, 1) := by decide +kernel
theorem d_Md_put_1 : decode cc_Md_put 1 = .ok (.iconst 1, 1) := by decide +kernel
theorem d_Md_put_2 : decode cc_Md_put 2 = .ok (.if_icmp .lt (21), 3) := by decide +kernel
theorem d_Md_put_5 : decode cc_Md_put 5 = .ok (.iload_n 1, 1) := by decide +kernel
theorem d_Md_put_6 : decode cc_Md_put 6 = .ok (.bipush (8), 2) := by decide +kernel
theorem d_Md_put_8 : decode cc_Md_put 8 = .ok (.if_icmp .gt (15), 3) := by decide +kernel
theorem d_Md_put_11 : decode cc_Md_put 11 = .ok (.aload_n 0, 1) := by decide +kernel
theorem d_Md_put_12 : decode cc_Md_put 12 = .ok (.getfield 90, 3) := by decide +kernel
theorem d_Md_put_15 : decode cc_Md_put 15 = .ok (.iload_n 1, 1) := by decide +kernel
theorem d_Md_put_16 : decode cc_Md_put 16 = .ok (.iadd, 1) := by decide +kernel
theorem d_Md_put_17 : decode cc_Md_put 17 = .ok (.sipush (240), 3) := by decide +kernel
theorem d_Md_put_20 : decode cc_Md_put 20 = .ok (.if_icmp .le (5), 3) := by decide +kernel
theorem d_Md_put_23 : decode cc_Md_put 23 = .ok (.iconst 0, 1) := by decide +kernel
theorem d_Md_put_24 : decode cc_Md_put 24 = .ok (.ireturn, 1) := by decide +kernel
theorem d_Md_put_25 : decode cc_Md_put 25 = .ok (.iload_n 1, 1) := by decide +kernel
theorem d_Md_put_26 : decode cc_Md_put 26 = .ok (.iconst 1, 1) := by decide +kernel
theorem d_Md_put_27 : decode cc_Md_put 27 = .ok (.isub, 1) := by decide +kernel
theorem d_Md_put_28 : decode cc_Md_put 28 = .ok (.istore 4, 2) := by decide +kernel
theorem d_Md_put_30 : decode cc_Md_put 30 = .ok (.iload 4, 2) := by decide +kernel
theorem d_Md_put_32 : decode cc_Md_put 32 = .ok (.ifCond .lt (40), 3) := by decide +kernel
theorem d_Md_put_35 : decode cc_Md_put 35 = .ok (.aload_n 0, 1) := by decide +kernel
theorem d_Md_put_36 : decode cc_Md_put 36 = .ok (.getfield 13, 3) := by decide +kernel
theorem d_Md_put_39 : decode cc_Md_put 39 = .ok (.aload_n 0, 1) := by decide +kernel
theorem d_Md_put_40 : decode cc_Md_put 40 = .ok (.getfield 90, 3) := by decide +kernel
theorem d_Md_put_43 : decode cc_Md_put 43 = .ok (.lload_n 2, 1) := by decide +kernel
theorem d_Md_put_44 : decode cc_Md_put 44 = .ok (.bipush (8), 2) := by decide +kernel
theorem d_Md_put_46 : decode cc_Md_put 46 = .ok (.iload 4, 2) := by decide +kernel
theorem d_Md_put_48 : decode cc_Md_put 48 = .ok (.imul, 1) := by decide +kernel
theorem d_Md_put_49 : decode cc_Md_put 49 = .ok (.lshr, 1) := by decide +kernel
theorem d_Md_put_50 : decode cc_Md_put 50 = .ok (.l2i, 1) := by decide +kernel
theorem d_Md_put_51 : decode cc_Md_put 51 = .ok (.sipush (255), 3) := by decide +kernel
theorem d_Md_put_54 : decode cc_Md_put 54 = .ok (.iand, 1) := by decide +kernel
theorem d_Md_put_55 : decode cc_Md_put 55 = .ok (.iastore, 1) := by decide +kernel
theorem d_Md_put_56 : decode cc_Md_put 56 = .ok (.aload_n 0, 1) := by decide +kernel
theorem d_Md_put_57 : decode cc_Md_put 57 = .ok (.dup, 1) := by decide +kernel
theorem d_Md_put_58 : decode cc_Md_put 58 = .ok (.getfield 90, 3) := by decide +kernel
theorem d_Md_put_61 : decode cc_Md_put 61 = .ok (.iconst 1, 1) := by decide +kernel
theorem d_Md_put_62 : decode cc_Md_put 62 = .ok (.iadd, 1) := by decide +kernel
theorem d_Md_put_63 : decode cc_Md_put 63 = .ok (.putfield 90, 3) := by decide +kernel
theorem d_Md_put_66 : decode cc_Md_put 66 = .ok (.iinc 4 (-1), 3) := by decide +kernel
theorem d_Md_put_69 : decode cc_Md_put 69 = .ok (.goto (-39), 3) := by decide +kernel
theorem d_Md_put_72 : decode cc_Md_put 72 = .ok (.iconst 1, 1) := by decide +kernel
theorem d_Md_put_73 : decode cc_Md_put 73 = .ok (.ireturn, 1) := by decide +kernel
section
variable {p : Program} {l : Launch} {e : Env} {s : State} {m : MethodId} {args : Array Value} {below : List Frame} {meth : Method} {c : Code} {X : Xs} {L : La}
def b_Md_put_23 (L : La)   (F : Mem) : Option (Int32 × Mem) :=
  if (0 : Int32) = 0 ∨ (0 : Int32) = 1 then some ((0 : Int32), F) else none
set_option maxHeartbeats 4000000 in
theorem t_Md_put_23 (hC : Cx X L p s m args meth c cc_Md_put 5 w_Md_put R_Md (some .boolean))  {out : (Int32 × Mem)}   {F : Mem} {H : Heap} {locs : List Loc} {ls : Array Slot}  (hI : Iv X L s H locs F) (hl : lv_has ls 5 []) (h : b_Md_put_23 L   F = some out) : W p l e (headSpec w_Md_put r_Md_put).room s m args below meth c H locs 0 0 (MQ below (QI X L out) args s 0 0 (AA X L)) (F0 m 23 ls []) := by
  unfold b_Md_put_23 at h
  obtain ⟨S, hK, hT, hW, hr, hlk⟩ := id hC
  have hx := S.1
  have hb := S.2.1
  refine lv_iconst (v := 0) hx hb d_Md_put_23 rfl ?_
  exact w_zret S hK hr hlk hI d_Md_put_24 h
def b_Md_put_30 (L : La) (k30 : Nat → Int64 → Int32 → Mem → Option (Int32 × Mem)) (i0 : Nat) (x2 : Int64) (x4 : Int32) (F : Mem) : Option (Int32 × Mem) :=
  if x4 < 0 then
    if (1 : Int32) = 0 ∨ (1 : Int32) = 1 then some ((1 : Int32), F) else none
  else
    if inb (F i0 3) (mLn L (mRf L i0 2)) ∨ ¬ (mRf L i0 2) < mNc L then none else
    lt' (u2 F (mRf L i0 2) (F i0 3).toNatClampNeg (((jlshr x2 ((8 : Int32) * x4)).toInt32) &&& (255 : Int32))) fun F3 =>
    lt' (u2 F3 i0 3 ((F3 i0 3) + (1 : Int32))) fun F5 =>
    k30 i0 x2 (x4 + (-1 : Int32)) F5
set_option maxHeartbeats 4000000 in
theorem t_Md_put_30 (hC : Cx X L p s m args meth c cc_Md_put 5 w_Md_put R_Md (some .boolean)) {k30 : Nat → Int64 → Int32 → Mem → Option (Int32 × Mem)} {out : (Int32 × Mem)} (hk30 : ∀ (i0 : Nat) (x2 : Int64) (x4 : Int32) (F : Mem) (H : Heap) (locs : List Loc) (ls : Array Slot), oO L 12 i0 → Iv X L s H locs F → lv_has ls 5 [(0, .ref (mAd X i0)), (2, .long x2), (4, .int x4)] → k30 i0 x2 x4 F = some out → W p l e (headSpec w_Md_put r_Md_put).room s m args below meth c H locs 0 0 (MQ below (QI X L out) args s 0 0 (AA X L)) (F0 m 30 ls [])) {i0 : Nat} {x2 : Int64} {x4 : Int32} {F : Mem} {H : Heap} {locs : List Loc} {ls : Array Slot} (o0 : oO L 12 i0) (hI : Iv X L s H locs F) (hl : lv_has ls 5 [(0, .ref (mAd X i0)), (2, .long x2), (4, .int x4)]) (h : b_Md_put_30 L k30 i0 x2 x4 F = some out) : W p l e (headSpec w_Md_put r_Md_put).room s m args below meth c H locs 0 0 (MQ below (QI X L out) args s 0 0 (AA X L)) (F0 m 30 ls []) := by
  unfold b_Md_put_30 at h
  obtain ⟨S, hK, hT, hW, hr, hlk⟩ := id hC
  have hx := S.1
  have hb := S.2.1
  refine lv_iload hx hb d_Md_put_30 (lv_at hl 2 rfl) ?_
  refine lv_if_lt (tgt := 72) hx hb d_Md_put_32 rfl (fun hc => ?_) (fun hc => ?_)
  · replace h := (if_pos hc).symm.trans h
    refine lv_iconst (v := 1) hx hb d_Md_put_72 rfl ?_
    exact w_zret S hK hr hlk hI d_Md_put_73 h
  · replace h := (if_neg hc).symm.trans h
    refine lv_aload_n hx hb d_Md_put_35 rfl (lv_at hl 0 rfl) ?_
    have p1 := wt_a hW o0 2 rfl (by decide) (by decide)
    refine w_getR (T := T_Md) S hK hI o0 rfl hin_Md 2 (index := 13) (by decide) lf_Md_13 d_Md_put_36 ?_
    refine lv_aload_n hx hb d_Md_put_39 rfl (lv_at hl 0 rfl) ?_
    refine w_getI (T := T_Md) S hK hI o0 rfl hin_Md 3 (index := 90) (by decide) lf_Md_90 d_Md_put_40 ?_
    refine lv_lload_n hx hb d_Md_put_43 rfl (lv_at hl 1 rfl) ?_
    refine lv_bipush (v := 8) hx hb d_Md_put_44 (by decide) ?_
    refine lv_iload hx hb d_Md_put_46 (lv_at hl 2 rfl) ?_
    refine lv_imul hx hb d_Md_put_48 ?_
    refine lv_lshr hx hb d_Md_put_49 rfl ?_
    refine lv_l2i hx hb d_Md_put_50 rfl ?_
    refine lv_sipush (v := 255) hx hb d_Md_put_51 (by decide) ?_
    refine lv_iand hx hb d_Md_put_54 ?_
    obtain ⟨z2, h⟩ := un_if h
    refine w_iast S hK hI p1 z2 d_Md_put_55 (fun H locs F3 e4 hI => ?_)
    replace h := un_lt h _ e4
    refine lv_aload_n hx hb d_Md_put_56 rfl (lv_at hl 0 rfl) ?_
    refine lv_dup hx hb d_Md_put_57 rfl ?_
    refine w_getI (T := T_Md) S hK hI o0 rfl hin_Md 3 (index := 90) (by decide) lf_Md_90 d_Md_put_58 ?_
    refine lv_iconst (v := 1) hx hb d_Md_put_61 rfl ?_
    refine lv_iadd hx hb d_Md_put_62 ?_
    refine w_putI (T := T_Md) S hK hI o0 rfl hin_Md ty_Md tk_Md nm_Md 3 (index := 90) (by decide) lf_Md_90 rfl d_Md_put_63 (fun H locs F5 e6 hI => ?_)
    replace h := un_lt h _ e6
    refine lv_iinc (k := 2) (v := x4 + (-1 : Int32)) (lv' := [(4, .int (x4 + (-1 : Int32))), (0, .ref (mAd X i0)), (2, .long x2)]) hx hb d_Md_put_66 hl rfl rfl (by decide) rfl (fun ls hl => ?_)
    refine lv_goto (tgt := 30) hx hb d_Md_put_69 rfl ?_
    exact hk30 _ _ _ _ _ _ _ o0 hI (lv_sub hl [1, 2, 0] rfl) h
def f_Md_put_30 (L : La)  : Nat → Nat → Int64 → Int32 → Mem → Option (Int32 × Mem)
  | 0 => fun _ _ _ _ => none
  | n + 1 => b_Md_put_30 L (f_Md_put_30 L  n)
theorem tf_Md_put_30 (hC : Cx X L p s m args meth c cc_Md_put 5 w_Md_put R_Md (some .boolean))  {out : (Int32 × Mem)}  (n : Nat) : ∀ (i0 : Nat) (x2 : Int64) (x4 : Int32) (F : Mem) (H : Heap) (locs : List Loc) (ls : Array Slot), oO L 12 i0 → Iv X L s H locs F → lv_has ls 5 [(0, .ref (mAd X i0)), (2, .long x2), (4, .int x4)] → f_Md_put_30 L  n i0 x2 x4 F = some out → W p l e (headSpec w_Md_put r_Md_put).room s m args below meth c H locs 0 0 (MQ below (QI X L out) args s 0 0 (AA X L)) (F0 m 30 ls []) := by
  induction n with
  | zero => intro i0 x2 x4 F H locs ls o0 hI hl h; cases h
  | succ n ih => intro i0 x2 x4 F H locs ls o0 hI hl h; exact t_Md_put_30 hC ih o0 hI hl h
def f_Md_put (L : La) (i0 : Nat) (x1 : Int32) (x2 : Int64) (F : Mem) : Option (Int32 × Mem) :=
  if x1 < (1 : Int32) then
    b_Md_put_23 L   F
  else
    if (8 : Int32) < x1 then
      b_Md_put_23 L   F
    else
      if ((F i0 3) + x1) ≤ (240 : Int32) then
        f_Md_put_30 L  mFU i0 x2 (x1 - (1 : Int32)) F
      else
        b_Md_put_23 L   F
set_option maxHeartbeats 4000000 in
theorem c_Md_put (l : Launch) {X : Xs} {L : La} (hW : WT L) {out : (Int32 × Mem)} {i0 : Nat} {x1 : Int32} {x2 : Int64} {F : Mem} (o0 : oO L 12 i0) (h : f_Md_put L i0 x1 x2 F = some out) : Met l y_Md_put w_Md_put r_Md_put (va_Pc [.ref (mAd X i0), .int x1, .long x2] (Pr X L F)) (QI X L out) 0 0 (AA X L) := by
  refine mk_met (by decide) rfl (Nat.le_of_ble_eq_true rfl) hW ?_
  intro p e s m args below meth c ls hC hI hl
  have hl : lv_has ls 5 [(0, .ref (mAd X i0)), (1, .int x1), (2, .long x2)] := hl
  generalize hHe : s.heap = H at hI ⊢
  generalize ([] : List Loc) = locs at hI ⊢
  unfold f_Md_put at h
  obtain ⟨S, hK, hT, hW, hr, hlk⟩ := id hC
  have hx := S.1
  have hb := S.2.1
  refine lv_iload_n hx hb d_Md_put_0 rfl (lv_at hl 1 rfl) ?_
  refine lv_iconst (v := 1) hx hb d_Md_put_1 rfl ?_
  refine lv_icmp_lt (tgt := 23) hx hb d_Md_put_2 rfl (fun hc => ?_) (fun hc => ?_)
  · replace h := (if_pos hc).symm.trans h
    exact t_Md_put_23 hC   hI (lv_sub hl [] rfl) h
  · replace h := (if_neg hc).symm.trans h
    refine lv_iload_n hx hb d_Md_put_5 rfl (lv_at hl 1 rfl) ?_
    refine lv_bipush (v := 8) hx hb d_Md_put_6 (by decide) ?_
    refine lv_icmp_gt (tgt := 23) hx hb d_Md_put_8 rfl (fun hc => ?_) (fun hc => ?_)
    · replace h := (if_pos hc).symm.trans h
      exact t_Md_put_23 hC   hI (lv_sub hl [] rfl) h
    · replace h := (if_neg hc).symm.trans h
      refine lv_aload_n hx hb d_Md_put_11 rfl (lv_at hl 0 rfl) ?_
      refine w_getI (T := T_Md) S hK hI o0 rfl hin_Md 3 (index := 90) (by decide) lf_Md_90 d_Md_put_12 ?_
      refine lv_iload_n hx hb d_Md_put_15 rfl (lv_at hl 1 rfl) ?_
      refine lv_iadd hx hb d_Md_put_16 ?_
      refine lv_sipush (v := 240) hx hb d_Md_put_17 (by decide) ?_
      refine lv_icmp_le (tgt := 25) hx hb d_Md_put_20 rfl (fun hc => ?_) (fun hc => ?_)
      · replace h := (if_pos hc).symm.trans h
        refine lv_iload_n hx hb d_Md_put_25 rfl (lv_at hl 1 rfl) ?_
        refine lv_iconst (v := 1) hx hb d_Md_put_26 rfl ?_
        refine lv_isub hx hb d_Md_put_27 ?_
        refine lv_istore (lv' := [(4, .int (x1 - (1 : Int32))), (0, .ref (mAd X i0)), (1, .int x1), (2, .long x2)]) hx hb d_Md_put_28 hl (by decide) rfl (fun ls hl => ?_)
        exact tf_Md_put_30 hC  mFU _ _ _ _ _ _ _ o0 hI (lv_sub hl [1, 3, 0] rfl) h
      · replace h := (if_neg hc).symm.trans h
        exact t_Md_put_23 hC   hI (lv_sub hl [] rfl) h
end
theorem d_Md_wipe_0 : decode cc_Md_wipe 0 = .ok (.aload_n 0, 1) := by decide +kernel
theorem d_Md_wipe_1 : decode cc_Md_wipe 1 = .ok (.iconst 0, 1) := by decide +kernel
theorem d_Md_wipe_2 : decode cc_Md_wipe 2 = .ok (.putfield 90, 3) := by decide +kernel
theorem d_Md_wipe_5 : decode cc_Md_wipe 5 = .ok (.return_, 1) := by decide +kernel
section
variable {p : Program} {l : Launch} {e : Env} {s : State} {m : MethodId} {args : Array Value} {below : List Frame} {meth : Method} {c : Code} {X : Xs} {L : La}
def f_Md_wipe (L : La) (i0 : Nat) (F : Mem) : Option Mem :=
  lt' (u2 F i0 3 (0 : Int32)) fun F1 =>
  some F1
set_option maxHeartbeats 4000000 in
theorem c_Md_wipe (l : Launch) {X : Xs} {L : La} (hW : WT L) {out : Mem} {i0 : Nat} {F : Mem} (o0 : oO L 12 i0) (h : f_Md_wipe L i0 F = some out) : Met l y_Md_wipe w_Md_wipe r_Md_wipe (va_Pc [.ref (mAd X i0)] (Pr X L F)) (QV X L out) 0 0 (AA X L) := by
  refine mk_met (by decide) rfl (Nat.le_of_ble_eq_true rfl) hW ?_
  intro p e s m args below meth c ls hC hI hl
  have hl : lv_has ls 1 [(0, .ref (mAd X i0))] := hl
  generalize hHe : s.heap = H at hI ⊢
  generalize ([] : List Loc) = locs at hI ⊢
  unfold f_Md_wipe at h
  obtain ⟨S, hK, hT, hW, hr, hlk⟩ := id hC
  have hx := S.1
  have hb := S.2.1
  refine lv_aload_n hx hb d_Md_wipe_0 rfl (lv_at hl 0 rfl) ?_
  refine lv_iconst (v := 0) hx hb d_Md_wipe_1 rfl ?_
  refine w_putI (T := T_Md) S hK hI o0 rfl hin_Md ty_Md tk_Md nm_Md 3 (index := 90) (by decide) lf_Md_90 rfl d_Md_wipe_2 (fun H locs F1 e2 hI => ?_)
  replace h := un_lt h _ e2
  exact w_vret S hK hr hlk hI d_Md_wipe_5 h
end
theorem d_Md_wire_0 : decode cc_Md_wire 0 = .ok (.iload_n 1, 1) := by decide +kernel
theorem d_Md_wire_1 : decode cc_Md_wire 1 = .ok (.iconst (-1), 1) := by decide +kernel
theorem d_Md_wire_2 : decode cc_Md_wire 2 = .ok (.if_icmp .ne (10), 3) := by decide +kernel
theorem d_Md_wire_5 : decode cc_Md_wire 5 = .ok (.aload_n 0, 1) := by decide +kernel
theorem d_Md_wire_6 : decode cc_Md_wire 6 = .ok (.getfield 90, 3) := by decide +kernel
theorem d_Md_wire_9 : decode cc_Md_wire 9 = .ok (.goto (25), 3) := by decide +kernel
theorem d_Md_wire_12 : decode cc_Md_wire 12 = .ok (.iload_n 1, 1) := by decide +kernel
theorem d_Md_wire_13 : decode cc_Md_wire 13 = .ok (.ifCond .lt (11), 3) := by decide +kernel
theorem d_Md_wire_16 : decode cc_Md_wire 16 = .ok (.iload_n 1, 1) := by decide +kernel
theorem d_Md_wire_17 : decode cc_Md_wire 17 = .ok (.aload_n 0, 1) := by decide +kernel
theorem d_Md_wire_18 : decode cc_Md_wire 18 = .ok (.getfield 90, 3) := by decide +kernel
theorem d_Md_wire_21 : decode cc_Md_wire 21 = .ok (.if_icmp .lt (7), 3) := by decide +kernel
theorem d_Md_wire_24 : decode cc_Md_wire 24 = .ok (.iconst (-1), 1) := by decide +kernel
theorem d_Md_wire_25 : decode cc_Md_wire 25 = .ok (.goto (9), 3) := by decide +kernel
theorem d_Md_wire_28 : decode cc_Md_wire 28 = .ok (.aload_n 0, 1) := by decide +kernel
theorem d_Md_wire_29 : decode cc_Md_wire 29 = .ok (.getfield 13, 3) := by decide +kernel
theorem d_Md_wire_32 : decode cc_Md_wire 32 = .ok (.iload_n 1, 1) := by decide +kernel
theorem d_Md_wire_33 : decode cc_Md_wire 33 = .ok (.iaload, 1) := by decide +kernel
theorem d_Md_wire_34 : decode cc_Md_wire 34 = .ok (.ireturn, 1) := by decide +kernel
section
variable {p : Program} {l : Launch} {e : Env} {s : State} {m : MethodId} {args : Array Value} {below : List Frame} {meth : Method} {c : Code} {X : Xs} {L : La}
def b_Md_wire_34 (L : La)  (y0 : Int32) (F : Mem) : Option (Int32 × Mem) :=
  some (y0, F)
set_option maxHeartbeats 4000000 in
theorem t_Md_wire_34 (hC : Cx X L p s m args meth c cc_Md_wire 2 w_Md_wire R_Md (some .int))  {out : (Int32 × Mem)}  {y0 : Int32} {F : Mem} {H : Heap} {locs : List Loc} {ls : Array Slot}  (hI : Iv X L s H locs F) (hl : lv_has ls 2 []) (h : b_Md_wire_34 L  y0 F = some out) : W p l e (headSpec w_Md_wire r_Md_wire).room s m args below meth c H locs 0 0 (MQ below (QI X L out) args s 0 0 (AA X L)) (F0 m 34 ls [.int y0]) := by
  unfold b_Md_wire_34 at h
  obtain ⟨S, hK, hT, hW, hr, hlk⟩ := id hC
  have hx := S.1
  have hb := S.2.1
  exact w_iret S hK hr hlk hI d_Md_wire_34 h
def b_Md_wire_24 (L : La)   (F : Mem) : Option (Int32 × Mem) :=
  b_Md_wire_34 L  (-1 : Int32) F
set_option maxHeartbeats 4000000 in
theorem t_Md_wire_24 (hC : Cx X L p s m args meth c cc_Md_wire 2 w_Md_wire R_Md (some .int))  {out : (Int32 × Mem)}   {F : Mem} {H : Heap} {locs : List Loc} {ls : Array Slot}  (hI : Iv X L s H locs F) (hl : lv_has ls 2 []) (h : b_Md_wire_24 L   F = some out) : W p l e (headSpec w_Md_wire r_Md_wire).room s m args below meth c H locs 0 0 (MQ below (QI X L out) args s 0 0 (AA X L)) (F0 m 24 ls []) := by
  unfold b_Md_wire_24 at h
  obtain ⟨S, hK, hT, hW, hr, hlk⟩ := id hC
  have hx := S.1
  have hb := S.2.1
  refine lv_iconst (v := -1) hx hb d_Md_wire_24 rfl ?_
  refine lv_goto (tgt := 34) hx hb d_Md_wire_25 rfl ?_
  exact t_Md_wire_34 hC   hI hl h
def f_Md_wire (L : La) (i0 : Nat) (x1 : Int32) (F : Mem) : Option (Int32 × Mem) :=
  if x1 = (-1 : Int32) then
    b_Md_wire_34 L  (F i0 3) F
  else
    if x1 < 0 then
      b_Md_wire_24 L   F
    else
      if x1 < (F i0 3) then
        if inb x1 (mGl L (mRf L i0 2)) then none else
        b_Md_wire_34 L  (mGa L F (mRf L i0 2) x1.toNatClampNeg) F
      else
        b_Md_wire_24 L   F
set_option maxHeartbeats 4000000 in
theorem c_Md_wire (l : Launch) {X : Xs} {L : La} (hW : WT L) {out : (Int32 × Mem)} {i0 : Nat} {x1 : Int32} {F : Mem} (o0 : oO L 12 i0) (h : f_Md_wire L i0 x1 F = some out) : Met l y_Md_wire w_Md_wire r_Md_wire (va_Pc [.ref (mAd X i0), .int x1] (Pr X L F)) (QI X L out) 0 0 (AA X L) := by
  refine mk_met (by decide) rfl (Nat.le_of_ble_eq_true rfl) hW ?_
  intro p e s m args below meth c ls hC hI hl
  have hl : lv_has ls 2 [(0, .ref (mAd X i0)), (1, .int x1)] := hl
  generalize hHe : s.heap = H at hI ⊢
  generalize ([] : List Loc) = locs at hI ⊢
  unfold f_Md_wire at h
  obtain ⟨S, hK, hT, hW, hr, hlk⟩ := id hC
  have hx := S.1
  have hb := S.2.1
  refine lv_iload_n hx hb d_Md_wire_0 rfl (lv_at hl 1 rfl) ?_
  refine lv_iconst (v := -1) hx hb d_Md_wire_1 rfl ?_
  refine lv_icmp_ne (tgt := 12) hx hb d_Md_wire_2 rfl (fun hc => ?_) (fun hc => ?_)
  · replace h := (if_neg hc).symm.trans h
    refine lv_iload_n hx hb d_Md_wire_12 rfl (lv_at hl 1 rfl) ?_
    refine lv_if_lt (tgt := 24) hx hb d_Md_wire_13 rfl (fun hc => ?_) (fun hc => ?_)
    · replace h := (if_pos hc).symm.trans h
      exact t_Md_wire_24 hC   hI (lv_sub hl [] rfl) h
    · replace h := (if_neg hc).symm.trans h
      refine lv_iload_n hx hb d_Md_wire_16 rfl (lv_at hl 1 rfl) ?_
      refine lv_aload_n hx hb d_Md_wire_17 rfl (lv_at hl 0 rfl) ?_
      refine w_getI (T := T_Md) S hK hI o0 rfl hin_Md 3 (index := 90) (by decide) lf_Md_90 d_Md_wire_18 ?_
      refine lv_icmp_lt (tgt := 28) hx hb d_Md_wire_21 rfl (fun hc => ?_) (fun hc => ?_)
      · replace h := (if_pos hc).symm.trans h
        refine lv_aload_n hx hb d_Md_wire_28 rfl (lv_at hl 0 rfl) ?_
        have p1 := wt_a hW o0 2 rfl (by decide) (by decide)
        refine w_getR (T := T_Md) S hK hI o0 rfl hin_Md 2 (index := 13) (by decide) lf_Md_13 d_Md_wire_29 ?_
        refine lv_iload_n hx hb d_Md_wire_32 rfl (lv_at hl 1 rfl) ?_
        obtain ⟨z2, h⟩ := un_if h
        refine w_iald S hK hI hT p1 z2 d_Md_wire_33 ?_
        exact t_Md_wire_34 hC   hI (lv_sub hl [] rfl) h
      · replace h := (if_neg hc).symm.trans h
        exact t_Md_wire_24 hC   hI (lv_sub hl [] rfl) h
  · replace h := (if_pos hc).symm.trans h
    refine lv_aload_n hx hb d_Md_wire_5 rfl (lv_at hl 0 rfl) ?_
    refine w_getI (T := T_Md) S hK hI o0 rfl hin_Md 3 (index := 90) (by decide) lf_Md_90 d_Md_wire_6 ?_
    refine lv_goto (tgt := 34) hx hb d_Md_wire_9 rfl ?_
    exact t_Md_wire_34 hC   hI (lv_sub hl [] rfl) h
end
theorem d_Md_spoil_0 : decode cc_Md_spoil 0 = .ok (.iload_n 1, 1) := by decide +kernel
theorem d_Md_spoil_1 : decode cc_Md_spoil 1 = .ok (.ifCond .lt (11), 3) := by decide +kernel
theorem d_Md_spoil_4 : decode cc_Md_spoil 4 = .ok (.iload_n 1, 1) := by decide +kernel
theorem d_Md_spoil_5 : decode cc_Md_spoil 5 = .ok (.aload_n 0, 1) := by decide +kernel
theorem d_Md_spoil_6 : decode cc_Md_spoil 6 = .ok (.getfield 90, 3) := by decide +kernel
theorem d_Md_spoil_9 : decode cc_Md_spoil 9 = .ok (.if_icmp .lt (5), 3) := by decide +kernel
theorem d_Md_spoil_12 : decode cc_Md_spoil 12 = .ok (.iconst 0, 1) := by decide +kernel
theorem d_Md_spoil_13 : decode cc_Md_spoil 13 = .ok (.ireturn, 1) := by decide +kernel
theorem d_Md_spoil_14 : decode cc_Md_spoil 14 = .ok (.aload_n 0, 1) := by decide +kernel
theorem d_Md_spoil_15 : decode cc_Md_spoil 15 = .ok (.getfield 13, 3) := by decide +kernel
theorem d_Md_spoil_18 : decode cc_Md_spoil 18 = .ok (.iload_n 1, 1) := by decide +kernel
theorem d_Md_spoil_19 : decode cc_Md_spoil 19 = .ok (.aload_n 0, 1) := by decide +kernel
theorem d_Md_spoil_20 : decode cc_Md_spoil 20 = .ok (.getfield 13, 3) := by decide +kernel
theorem d_Md_spoil_23 : decode cc_Md_spoil 23 = .ok (.iload_n 1, 1) := by decide +kernel
theorem d_Md_spoil_24 : decode cc_Md_spoil 24 = .ok (.iaload, 1) := by decide +kernel
theorem d_Md_spoil_25 : decode cc_Md_spoil 25 = .ok (.iload_n 2, 1) := by decide +kernel
theorem d_Md_spoil_26 : decode cc_Md_spoil 26 = .ok (.sipush (255), 3) := by decide +kernel
theorem d_Md_spoil_29 : decode cc_Md_spoil 29 = .ok (.iand, 1) := by decide +kernel
theorem d_Md_spoil_30 : decode cc_Md_spoil 30 = .ok (.ixor, 1) := by decide +kernel
theorem d_Md_spoil_31 : decode cc_Md_spoil 31 = .ok (.iastore, 1) := by decide +kernel
theorem d_Md_spoil_32 : decode cc_Md_spoil 32 = .ok (.iconst 1, 1) := by decide +kernel
theorem d_Md_spoil_33 : decode cc_Md_spoil 33 = .ok (.ireturn, 1) := by decide +kernel
section
variable {p : Program} {l : Launch} {e : Env} {s : State} {m : MethodId} {args : Array Value} {below : List Frame} {meth : Method} {c : Code} {X : Xs} {L : La}
def b_Md_spoil_12 (L : La)   (F : Mem) : Option (Int32 × Mem) :=
  if (0 : Int32) = 0 ∨ (0 : Int32) = 1 then some ((0 : Int32), F) else none
set_option maxHeartbeats 4000000 in
theorem t_Md_spoil_12 (hC : Cx X L p s m args meth c cc_Md_spoil 3 w_Md_spoil R_Md (some .boolean))  {out : (Int32 × Mem)}   {F : Mem} {H : Heap} {locs : List Loc} {ls : Array Slot}  (hI : Iv X L s H locs F) (hl : lv_has ls 3 []) (h : b_Md_spoil_12 L   F = some out) : W p l e (headSpec w_Md_spoil r_Md_spoil).room s m args below meth c H locs 0 0 (MQ below (QI X L out) args s 0 0 (AA X L)) (F0 m 12 ls []) := by
  unfold b_Md_spoil_12 at h
  obtain ⟨S, hK, hT, hW, hr, hlk⟩ := id hC
  have hx := S.1
  have hb := S.2.1
  refine lv_iconst (v := 0) hx hb d_Md_spoil_12 rfl ?_
  exact w_zret S hK hr hlk hI d_Md_spoil_13 h
def f_Md_spoil (L : La) (i0 : Nat) (x1 : Int32) (x2 : Int32) (F : Mem) : Option (Int32 × Mem) :=
  if x1 < 0 then
    b_Md_spoil_12 L   F
  else
    if x1 < (F i0 3) then
      if inb x1 (mGl L (mRf L i0 2)) then none else
      if inb x1 (mLn L (mRf L i0 2)) ∨ ¬ (mRf L i0 2) < mNc L then none else
      lt' (u2 F (mRf L i0 2) x1.toNatClampNeg ((mGa L F (mRf L i0 2) x1.toNatClampNeg) ^^^ (x2 &&& (255 : Int32)))) fun F5 =>
      if (1 : Int32) = 0 ∨ (1 : Int32) = 1 then some ((1 : Int32), F5) else none
    else
      b_Md_spoil_12 L   F
set_option maxHeartbeats 4000000 in
theorem c_Md_spoil (l : Launch) {X : Xs} {L : La} (hW : WT L) {out : (Int32 × Mem)} {i0 : Nat} {x1 : Int32} {x2 : Int32} {F : Mem} (o0 : oO L 12 i0) (h : f_Md_spoil L i0 x1 x2 F = some out) : Met l y_Md_spoil w_Md_spoil r_Md_spoil (va_Pc [.ref (mAd X i0), .int x1, .int x2] (Pr X L F)) (QI X L out) 0 0 (AA X L) := by
  refine mk_met (by decide) rfl (Nat.le_of_ble_eq_true rfl) hW ?_
  intro p e s m args below meth c ls hC hI hl
  have hl : lv_has ls 3 [(0, .ref (mAd X i0)), (1, .int x1), (2, .int x2)] := hl
  generalize hHe : s.heap = H at hI ⊢
  generalize ([] : List Loc) = locs at hI ⊢
  unfold f_Md_spoil at h
  obtain ⟨S, hK, hT, hW, hr, hlk⟩ := id hC
  have hx := S.1
  have hb := S.2.1
  refine lv_iload_n hx hb d_Md_spoil_0 rfl (lv_at hl 1 rfl) ?_
  refine lv_if_lt (tgt := 12) hx hb d_Md_spoil_1 rfl (fun hc => ?_) (fun hc => ?_)
  · replace h := (if_pos hc).symm.trans h
    exact t_Md_spoil_12 hC   hI (lv_sub hl [] rfl) h
  · replace h := (if_neg hc).symm.trans h
    refine lv_iload_n hx hb d_Md_spoil_4 rfl (lv_at hl 1 rfl) ?_
    refine lv_aload_n hx hb d_Md_spoil_5 rfl (lv_at hl 0 rfl) ?_
    refine w_getI (T := T_Md) S hK hI o0 rfl hin_Md 3 (index := 90) (by decide) lf_Md_90 d_Md_spoil_6 ?_
    refine lv_icmp_lt (tgt := 14) hx hb d_Md_spoil_9 rfl (fun hc => ?_) (fun hc => ?_)
    · replace h := (if_pos hc).symm.trans h
      refine lv_aload_n hx hb d_Md_spoil_14 rfl (lv_at hl 0 rfl) ?_
      have p1 := wt_a hW o0 2 rfl (by decide) (by decide)
      refine w_getR (T := T_Md) S hK hI o0 rfl hin_Md 2 (index := 13) (by decide) lf_Md_13 d_Md_spoil_15 ?_
      refine lv_iload_n hx hb d_Md_spoil_18 rfl (lv_at hl 1 rfl) ?_
      refine lv_aload_n hx hb d_Md_spoil_19 rfl (lv_at hl 0 rfl) ?_
      have p2 := wt_a hW o0 2 rfl (by decide) (by decide)
      refine w_getR (T := T_Md) S hK hI o0 rfl hin_Md 2 (index := 13) (by decide) lf_Md_13 d_Md_spoil_20 ?_
      refine lv_iload_n hx hb d_Md_spoil_23 rfl (lv_at hl 1 rfl) ?_
      obtain ⟨z3, h⟩ := un_if h
      refine w_iald S hK hI hT p2 z3 d_Md_spoil_24 ?_
      refine lv_iload_n hx hb d_Md_spoil_25 rfl (lv_at hl 2 rfl) ?_
      refine lv_sipush (v := 255) hx hb d_Md_spoil_26 (by decide) ?_
      refine lv_iand hx hb d_Md_spoil_29 ?_
      refine lv_ixor hx hb d_Md_spoil_30 ?_
      obtain ⟨z4, h⟩ := un_if h
      refine w_iast S hK hI p1 z4 d_Md_spoil_31 (fun H locs F5 e6 hI => ?_)
      replace h := un_lt h _ e6
      refine lv_iconst (v := 1) hx hb d_Md_spoil_32 rfl ?_
      exact w_zret S hK hr hlk hI d_Md_spoil_33 h
    · replace h := (if_neg hc).symm.trans h
      exact t_Md_spoil_12 hC   hI (lv_sub hl [] rfl) h
end
theorem d_Md_mixed_0 : decode cc_Md_mixed 0 = .ok (.iload_n 0, 1) := by decide +kernel
theorem d_Md_mixed_1 : decode cc_Md_mixed 1 = .ok (.iload_n 1, 1) := by decide +kernel
theorem d_Md_mixed_2 : decode cc_Md_mixed 2 = .ok (.ixor, 1) := by decide +kernel
theorem d_Md_mixed_3 : decode cc_Md_mixed 3 = .ok (.ldc 93, 2) := by decide +kernel
theorem d_Md_mixed_5 : decode cc_Md_mixed 5 = .ok (.imul, 1) := by decide +kernel
theorem d_Md_mixed_6 : decode cc_Md_mixed 6 = .ok (.ireturn, 1) := by decide +kernel
section
variable {p : Program} {l : Launch} {e : Env} {s : State} {m : MethodId} {args : Array Value} {below : List Frame} {meth : Method} {c : Code} {X : Xs} {L : La}
def f_Md_mixed (L : La) (x0 : Int32) (x1 : Int32) (F : Mem) : Option (Int32 × Mem) :=
  some ((x0 ^^^ x1) * (16777619 : Int32), F)
set_option maxHeartbeats 4000000 in
theorem c_Md_mixed (l : Launch) {X : Xs} {L : La} (hW : WT L) {out : (Int32 × Mem)} {x0 : Int32} {x1 : Int32} {F : Mem}  (h : f_Md_mixed L x0 x1 F = some out) : Met l y_Md_mixed w_Md_mixed r_Md_mixed (va_Pc [.int x0, .int x1] (Pr X L F)) (QI X L out) 0 0 (AA X L) := by
  refine mk_met (by decide) rfl (Nat.le_of_ble_eq_true rfl) hW ?_
  intro p e s m args below meth c ls hC hI hl
  have hl : lv_has ls 2 [(0, .int x0), (1, .int x1)] := hl
  generalize hHe : s.heap = H at hI ⊢
  generalize ([] : List Loc) = locs at hI ⊢
  unfold f_Md_mixed at h
  obtain ⟨S, hK, hT, hW, hr, hlk⟩ := id hC
  have hx := S.1
  have hb := S.2.1
  refine lv_iload_n hx hb d_Md_mixed_0 rfl (lv_at hl 0 rfl) ?_
  refine lv_iload_n hx hb d_Md_mixed_1 rfl (lv_at hl 1 rfl) ?_
  refine lv_ixor hx hb d_Md_mixed_2 ?_
  refine lv_ldc (own := R_Md) (index := 93) (v := 16777619) hx hb S.2.2.2.1 (S.2.2.2.2 _ (List.mem_cons_of_mem _ lk_Md_93)) d_Md_mixed_3 ?_
  refine lv_imul hx hb d_Md_mixed_5 ?_
  exact w_iret S hK hr hlk hI d_Md_mixed_6 h
end
theorem d_Md_mark_0 : decode cc_Md_mark 0 = .ok (.aload_n 0, 1) := by decide +kernel
theorem d_Md_mark_1 : decode cc_Md_mark 1 = .ok (.getfield 86, 3) := by decide +kernel
theorem d_Md_mark_4 : decode cc_Md_mark 4 = .ok (.istore_n 1, 1) := by decide +kernel
theorem d_Md_mark_5 : decode cc_Md_mark 5 = .ok (.iconst 0, 1) := by decide +kernel
theorem d_Md_mark_6 : decode cc_Md_mark 6 = .ok (.istore_n 2, 1) := by decide +kernel
theorem d_Md_mark_7 : decode cc_Md_mark 7 = .ok (.iload_n 2, 1) := by decide +kernel
theorem d_Md_mark_8 : decode cc_Md_mark 8 = .ok (.aload_n 0, 1) := by decide +kernel
theorem d_Md_mark_9 : decode cc_Md_mark 9 = .ok (.getfield 86, 3) := by decide +kernel
theorem d_Md_mark_12 : decode cc_Md_mark 12 = .ok (.if_icmp .ge (20), 3) := by decide +kernel
theorem d_Md_mark_15 : decode cc_Md_mark 15 = .ok (.iload_n 1, 1) := by decide +kernel
theorem d_Md_mark_16 : decode cc_Md_mark 16 = .ok (.aload_n 0, 1) := by decide +kernel
theorem d_Md_mark_17 : decode cc_Md_mark 17 = .ok (.getfield 7, 3) := by decide +kernel
theorem d_Md_mark_20 : decode cc_Md_mark 20 = .ok (.iload_n 2, 1) := by decide +kernel
theorem d_Md_mark_21 : decode cc_Md_mark 21 = .ok (.iaload, 1) := by decide +kernel
theorem d_Md_mark_22 : decode cc_Md_mark 22 = .ok (.invokestatic 94, 3) := by decide +kernel
theorem d_Md_mark_25 : decode cc_Md_mark 25 = .ok (.istore_n 1, 1) := by decide +kernel
theorem d_Md_mark_26 : decode cc_Md_mark 26 = .ok (.iinc 2 (1), 3) := by decide +kernel
theorem d_Md_mark_29 : decode cc_Md_mark 29 = .ok (.goto (-22), 3) := by decide +kernel
theorem d_Md_mark_32 : decode cc_Md_mark 32 = .ok (.iload_n 1, 1) := by decide +kernel
theorem d_Md_mark_33 : decode cc_Md_mark 33 = .ok (.iload_n 1, 1) := by decide +kernel
theorem d_Md_mark_34 : decode cc_Md_mark 34 = .ok (.bipush (16), 2) := by decide +kernel
theorem d_Md_mark_36 : decode cc_Md_mark 36 = .ok (.iushr, 1) := by decide +kernel
theorem d_Md_mark_37 : decode cc_Md_mark 37 = .ok (.ixor, 1) := by decide +kernel
theorem d_Md_mark_38 : decode cc_Md_mark 38 = .ok (.ldc 98, 2) := by decide +kernel
theorem d_Md_mark_40 : decode cc_Md_mark 40 = .ok (.iand, 1) := by decide +kernel
theorem d_Md_mark_41 : decode cc_Md_mark 41 = .ok (.ireturn, 1) := by decide +kernel
section
variable {p : Program} {l : Launch} {e : Env} {s : State} {m : MethodId} {args : Array Value} {below : List Frame} {meth : Method} {c : Code} {X : Xs} {L : La}
def b_Md_mark_7 (L : La) (k7 : Nat → Int32 → Int32 → Mem → Option (Int32 × Mem)) (i0 : Nat) (x1 : Int32) (x2 : Int32) (F : Mem) : Option (Int32 × Mem) :=
  if (F i0 1) ≤ x2 then
    some ((x1 ^^^ (jushr x1 (16 : Int32))) &&& (65535 : Int32), F)
  else
    if inb x2 (mGl L (mRf L i0 0)) then none else
    (f_Md_mixed L x1 (mGa L F (mRf L i0 0) x2.toNatClampNeg) F).bind fun q3 =>
    k7 i0 q3.1 (x2 + (1 : Int32)) q3.2
set_option maxHeartbeats 4000000 in
theorem t_Md_mark_7 (hC : Cx X L p s m args meth c cc_Md_mark 3 w_Md_mark R_Md (some .int)) {k7 : Nat → Int32 → Int32 → Mem → Option (Int32 × Mem)} {out : (Int32 × Mem)} (hk7 : ∀ (i0 : Nat) (x1 : Int32) (x2 : Int32) (F : Mem) (H : Heap) (locs : List Loc) (ls : Array Slot), oO L 12 i0 → Iv X L s H locs F → lv_has ls 3 [(0, .ref (mAd X i0)), (1, .int x1), (2, .int x2)] → k7 i0 x1 x2 F = some out → W p l e (headSpec w_Md_mark r_Md_mark).room s m args below meth c H locs 0 0 (MQ below (QI X L out) args s 0 0 (AA X L)) (F0 m 7 ls [])) {i0 : Nat} {x1 : Int32} {x2 : Int32} {F : Mem} {H : Heap} {locs : List Loc} {ls : Array Slot} (o0 : oO L 12 i0) (hI : Iv X L s H locs F) (hl : lv_has ls 3 [(0, .ref (mAd X i0)), (1, .int x1), (2, .int x2)]) (h : b_Md_mark_7 L k7 i0 x1 x2 F = some out) : W p l e (headSpec w_Md_mark r_Md_mark).room s m args below meth c H locs 0 0 (MQ below (QI X L out) args s 0 0 (AA X L)) (F0 m 7 ls []) := by
  unfold b_Md_mark_7 at h
  obtain ⟨S, hK, hT, hW, hr, hlk⟩ := id hC
  have hx := S.1
  have hb := S.2.1
  refine lv_iload_n hx hb d_Md_mark_7 rfl (lv_at hl 2 rfl) ?_
  refine lv_aload_n hx hb d_Md_mark_8 rfl (lv_at hl 0 rfl) ?_
  refine w_getI (T := T_Md) S hK hI o0 rfl hin_Md 1 (index := 86) (by decide) lf_Md_86 d_Md_mark_9 ?_
  refine lv_icmp_ge (tgt := 32) hx hb d_Md_mark_12 rfl (fun hc => ?_) (fun hc => ?_)
  · replace h := (if_pos hc).symm.trans h
    refine lv_iload_n hx hb d_Md_mark_32 rfl (lv_at hl 1 rfl) ?_
    refine lv_iload_n hx hb d_Md_mark_33 rfl (lv_at hl 1 rfl) ?_
    refine lv_bipush (v := 16) hx hb d_Md_mark_34 (by decide) ?_
    refine lv_iushr hx hb d_Md_mark_36 rfl ?_
    refine lv_ixor hx hb d_Md_mark_37 ?_
    refine lv_ldc (own := R_Md) (index := 98) (v := 65535) hx hb S.2.2.2.1 (S.2.2.2.2 _ (List.mem_cons_of_mem _ lk_Md_98)) d_Md_mark_38 ?_
    refine lv_iand hx hb d_Md_mark_40 ?_
    exact w_iret S hK hr hlk hI d_Md_mark_41 h
  · replace h := (if_neg hc).symm.trans h
    refine lv_iload_n hx hb d_Md_mark_15 rfl (lv_at hl 1 rfl) ?_
    refine lv_aload_n hx hb d_Md_mark_16 rfl (lv_at hl 0 rfl) ?_
    have p1 := wt_a hW o0 0 rfl (by decide) (by decide)
    refine w_getR (T := T_Md) S hK hI o0 rfl hin_Md 0 (index := 7) (by decide) lf_Md_7 d_Md_mark_17 ?_
    refine lv_iload_n hx hb d_Md_mark_20 rfl (lv_at hl 2 rfl) ?_
    obtain ⟨z2, h⟩ := un_if h
    refine w_iald S hK hI hT p1 z2 d_Md_mark_21 ?_
    obtain ⟨q3, e4, h⟩ := un_bi h
    refine w_callSi (As := [.int x1, .int (mGa L F (mRf L i0 0) x2.toNatClampNeg)]) (rest := []) S hK hI hT (c_Md_mixed l hW  e4) (va_cwS 2 S.2.2.2.2 (gd_S lc_Md_mixed lm_Md_94 lst_Md_mixed ln_Md) rfl rfl rfl hd_Md_mixed.2 ⟨Nat.le_of_ble_eq_true rfl, Nat.le_of_ble_eq_true rfl⟩)  rfl rfl hl.1 (Nat.le_of_ble_eq_true rfl) d_Md_mark_22 ⟨Nat.zero_le _, Nat.zero_le _⟩ (fun H locs hI => ?_)
    refine lv_istore_n (lv' := [(1, .int q3.1), (0, .ref (mAd X i0)), (2, .int x2)]) hx hb d_Md_mark_25 rfl hl (by decide) rfl (fun ls hl => ?_)
    refine lv_iinc (k := 2) (v := x2 + (1 : Int32)) (lv' := [(2, .int (x2 + (1 : Int32))), (1, .int q3.1), (0, .ref (mAd X i0))]) hx hb d_Md_mark_26 hl rfl rfl (by decide) rfl (fun ls hl => ?_)
    refine lv_goto (tgt := 7) hx hb d_Md_mark_29 rfl ?_
    exact hk7 _ _ _ _ _ _ _ o0 hI (lv_sub hl [2, 1, 0] rfl) h
def f_Md_mark_7 (L : La)  : Nat → Nat → Int32 → Int32 → Mem → Option (Int32 × Mem)
  | 0 => fun _ _ _ _ => none
  | n + 1 => b_Md_mark_7 L (f_Md_mark_7 L  n)
theorem tf_Md_mark_7 (hC : Cx X L p s m args meth c cc_Md_mark 3 w_Md_mark R_Md (some .int))  {out : (Int32 × Mem)}  (n : Nat) : ∀ (i0 : Nat) (x1 : Int32) (x2 : Int32) (F : Mem) (H : Heap) (locs : List Loc) (ls : Array Slot), oO L 12 i0 → Iv X L s H locs F → lv_has ls 3 [(0, .ref (mAd X i0)), (1, .int x1), (2, .int x2)] → f_Md_mark_7 L  n i0 x1 x2 F = some out → W p l e (headSpec w_Md_mark r_Md_mark).room s m args below meth c H locs 0 0 (MQ below (QI X L out) args s 0 0 (AA X L)) (F0 m 7 ls []) := by
  induction n with
  | zero => intro i0 x1 x2 F H locs ls o0 hI hl h; cases h
  | succ n ih => intro i0 x1 x2 F H locs ls o0 hI hl h; exact t_Md_mark_7 hC ih o0 hI hl h
def f_Md_mark (L : La) (i0 : Nat) (F : Mem) : Option (Int32 × Mem) :=
  f_Md_mark_7 L  mFU i0 (F i0 1) (0 : Int32) F
set_option maxHeartbeats 4000000 in
theorem c_Md_mark (l : Launch) {X : Xs} {L : La} (hW : WT L) {out : (Int32 × Mem)} {i0 : Nat} {F : Mem} (o0 : oO L 12 i0) (h : f_Md_mark L i0 F = some out) : Met l y_Md_mark w_Md_mark r_Md_mark (va_Pc [.ref (mAd X i0)] (Pr X L F)) (QI X L out) 0 0 (AA X L) := by
  refine mk_met (by decide) rfl (Nat.le_of_ble_eq_true rfl) hW ?_
  intro p e s m args below meth c ls hC hI hl
  have hl : lv_has ls 3 [(0, .ref (mAd X i0))] := hl
  generalize hHe : s.heap = H at hI ⊢
  generalize ([] : List Loc) = locs at hI ⊢
  unfold f_Md_mark at h
  obtain ⟨S, hK, hT, hW, hr, hlk⟩ := id hC
  have hx := S.1
  have hb := S.2.1
  refine lv_aload_n hx hb d_Md_mark_0 rfl (lv_at hl 0 rfl) ?_
  refine w_getI (T := T_Md) S hK hI o0 rfl hin_Md 1 (index := 86) (by decide) lf_Md_86 d_Md_mark_1 ?_
  refine lv_istore_n (lv' := [(1, .int (F i0 1)), (0, .ref (mAd X i0))]) hx hb d_Md_mark_4 rfl hl (by decide) rfl (fun ls hl => ?_)
  refine lv_iconst (v := 0) hx hb d_Md_mark_5 rfl ?_
  refine lv_istore_n (lv' := [(2, .int (0 : Int32)), (1, .int (F i0 1)), (0, .ref (mAd X i0))]) hx hb d_Md_mark_6 rfl hl (by decide) rfl (fun ls hl => ?_)
  exact tf_Md_mark_7 hC  mFU _ _ _ _ _ _ _ o0 hI (lv_sub hl [2, 1, 0] rfl) h
end
