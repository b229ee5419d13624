theorem d_Md_frame_0 : decode cc_Md_frame 0 = .ok (.aload_n 0, 1) := by decide +kernel
theorem d_Md_frame_1 : decode cc_Md_frame 1 = .ok (.aload_n 0, 1) := by decide +kernel
theorem d_Md_frame_2 : decode cc_Md_frame 2 = .ok (.getfield 90, 3) := by decide +kernel
theorem d_Md_frame_5 : decode cc_Md_frame 5 = .ok (.invokevirtual 125, 3) := by decide +kernel
theorem d_Md_frame_8 : decode cc_Md_frame 8 = .ok (.istore_n 1, 1) := by decide +kernel
theorem d_Md_frame_9 : decode cc_Md_frame 9 = .ok (.aload_n 0, 1) := by decide +kernel
theorem d_Md_frame_10 : decode cc_Md_frame 10 = .ok (.aload_n 0, 1) := by decide +kernel
theorem d_Md_frame_11 : decode cc_Md_frame 11 = .ok (.getfield 90, 3) := by decide +kernel
theorem d_Md_frame_14 : decode cc_Md_frame 14 = .ok (.invokevirtual 125, 3) := by decide +kernel
theorem d_Md_frame_17 : decode cc_Md_frame 17 = .ok (.istore_n 2, 1) := by decide +kernel
theorem d_Md_frame_18 : decode cc_Md_frame 18 = .ok (.aload_n 0, 1) := by decide +kernel
theorem d_Md_frame_19 : decode cc_Md_frame 19 = .ok (.iload_n 2, 1) := by decide +kernel
theorem d_Md_frame_20 : decode cc_Md_frame 20 = .ok (.sipush (256), 3) := by decide +kernel
theorem d_Md_frame_23 : decode cc_Md_frame 23 = .ok (.aload_n 0, 1) := by decide +kernel
theorem d_Md_frame_24 : decode cc_Md_frame 24 = .ok (.aload_n 0, 1) := by decide +kernel
theorem d_Md_frame_25 : decode cc_Md_frame 25 = .ok (.getfield 90, 3) := by decide +kernel
theorem d_Md_frame_28 : decode cc_Md_frame 28 = .ok (.invokevirtual 125, 3) := by decide +kernel
theorem d_Md_frame_31 : decode cc_Md_frame 31 = .ok (.imul, 1) := by decide +kernel
theorem d_Md_frame_32 : decode cc_Md_frame 32 = .ok (.iadd, 1) := by decide +kernel
theorem d_Md_frame_33 : decode cc_Md_frame 33 = .ok (.putfield 112, 3) := by decide +kernel
theorem d_Md_frame_36 : decode cc_Md_frame 36 = .ok (.aload_n 0, 1) := by decide +kernel
theorem d_Md_frame_37 : decode cc_Md_frame 37 = .ok (.aload_n 0, 1) := by decide +kernel
theorem d_Md_frame_38 : decode cc_Md_frame 38 = .ok (.getfield 102, 3) := by decide +kernel
theorem d_Md_frame_41 : decode cc_Md_frame 41 = .ok (.ifCond .ne (8), 3) := by decide +kernel
theorem d_Md_frame_44 : decode cc_Md_frame 44 = .ok (.iload_n 1, 1) := by decide +kernel
theorem d_Md_frame_45 : decode cc_Md_frame 45 = .ok (.iconst 1, 1) := by decide +kernel
theorem d_Md_frame_46 : decode cc_Md_frame 46 = .ok (.if_icmp .le (7), 3) := by decide +kernel
theorem d_Md_frame_49 : decode cc_Md_frame 49 = .ok (.iconst 1, 1) := by decide +kernel
theorem d_Md_frame_50 : decode cc_Md_frame 50 = .ok (.goto (4), 3) := by decide +kernel
theorem d_Md_frame_53 : decode cc_Md_frame 53 = .ok (.iconst 0, 1) := by decide +kernel
theorem d_Md_frame_54 : decode cc_Md_frame 54 = .ok (.putfield 102, 3) := by decide +kernel
theorem d_Md_frame_57 : decode cc_Md_frame 57 = .ok (.aload_n 0, 1) := by decide +kernel
theorem d_Md_frame_58 : decode cc_Md_frame 58 = .ok (.aload_n 0, 1) := by decide +kernel
theorem d_Md_frame_59 : decode cc_Md_frame 59 = .ok (.getfield 106, 3) := by decide +kernel
theorem d_Md_frame_62 : decode cc_Md_frame 62 = .ok (.putfield 109, 3) := by decide +kernel
theorem d_Md_frame_65 : decode cc_Md_frame 65 = .ok (.aload_n 0, 1) := by decide +kernel
theorem d_Md_frame_66 : decode cc_Md_frame 66 = .ok (.getfield 19, 3) := by decide +kernel
theorem d_Md_frame_69 : decode cc_Md_frame 69 = .ok (.iconst 0, 1) := by decide +kernel
theorem d_Md_frame_70 : decode cc_Md_frame 70 = .ok (.iconst 1, 1) := by decide +kernel
theorem d_Md_frame_71 : decode cc_Md_frame 71 = .ok (.iastore, 1) := by decide +kernel
theorem d_Md_frame_72 : decode cc_Md_frame 72 = .ok (.aload_n 0, 1) := by decide +kernel
theorem d_Md_frame_73 : decode cc_Md_frame 73 = .ok (.getfield 19, 3) := by decide +kernel
theorem d_Md_frame_76 : decode cc_Md_frame 76 = .ok (.iconst 1, 1) := by decide +kernel
theorem d_Md_frame_77 : decode cc_Md_frame 77 = .ok (.iconst 4, 1) := by decide +kernel
theorem d_Md_frame_78 : decode cc_Md_frame 78 = .ok (.iastore, 1) := by decide +kernel
theorem d_Md_frame_79 : decode cc_Md_frame 79 = .ok (.aload_n 0, 1) := by decide +kernel
theorem d_Md_frame_80 : decode cc_Md_frame 80 = .ok (.getfield 19, 3) := by decide +kernel
theorem d_Md_frame_83 : decode cc_Md_frame 83 = .ok (.iconst 2, 1) := by decide +kernel
theorem d_Md_frame_84 : decode cc_Md_frame 84 = .ok (.bipush (8), 2) := by decide +kernel
theorem d_Md_frame_86 : decode cc_Md_frame 86 = .ok (.iastore, 1) := by decide +kernel
theorem d_Md_frame_87 : decode cc_Md_frame 87 = .ok (.aload_n 0, 1) := by decide +kernel
theorem d_Md_frame_88 : decode cc_Md_frame 88 = .ok (.iconst 0, 1) := by decide +kernel
theorem d_Md_frame_89 : decode cc_Md_frame 89 = .ok (.putfield 131, 3) := by decide +kernel
theorem d_Md_frame_92 : decode cc_Md_frame 92 = .ok (.iconst 0, 1) := by decide +kernel
theorem d_Md_frame_93 : decode cc_Md_frame 93 = .ok (.istore_n 3, 1) := by decide +kernel
theorem d_Md_frame_94 : decode cc_Md_frame 94 = .ok (.iload_n 3, 1) := by decide +kernel
theorem d_Md_frame_95 : decode cc_Md_frame 95 = .ok (.iconst 3, 1) := by decide +kernel
theorem d_Md_frame_96 : decode cc_Md_frame 96 = .ok (.if_icmp .ge (16), 3) := by decide +kernel
theorem d_Md_frame_99 : decode cc_Md_frame 99 = .ok (.aload_n 0, 1) := by decide +kernel
theorem d_Md_frame_100 : decode cc_Md_frame 100 = .ok (.getfield 31, 3) := by decide +kernel
theorem d_Md_frame_103 : decode cc_Md_frame 103 = .ok (.iload_n 3, 1) := by decide +kernel
theorem d_Md_frame_104 : decode cc_Md_frame 104 = .ok (.iconst 0, 1) := by decide +kernel
theorem d_Md_frame_105 : decode cc_Md_frame 105 = .ok (.bastore, 1) := by decide +kernel
theorem d_Md_frame_106 : decode cc_Md_frame 106 = .ok (.iinc 3 (1), 3) := by decide +kernel
theorem d_Md_frame_109 : decode cc_Md_frame 109 = .ok (.goto (-15), 3) := by decide +kernel
theorem d_Md_frame_112 : decode cc_Md_frame 112 = .ok (.iconst 0, 1) := by decide +kernel
theorem d_Md_frame_113 : decode cc_Md_frame 113 = .ok (.istore_n 3, 1) := by decide +kernel
theorem d_Md_frame_114 : decode cc_Md_frame 114 = .ok (.iload_n 3, 1) := by decide +kernel
theorem d_Md_frame_115 : decode cc_Md_frame 115 = .ok (.ifCond .ne (43), 3) := by decide +kernel
theorem d_Md_frame_118 : decode cc_Md_frame 118 = .ok (.aload_n 0, 1) := by decide +kernel
theorem d_Md_frame_119 : decode cc_Md_frame 119 = .ok (.getfield 102, 3) := by decide +kernel
theorem d_Md_frame_122 : decode cc_Md_frame 122 = .ok (.ifCond .ne (36), 3) := by decide +kernel
theorem d_Md_frame_125 : decode cc_Md_frame 125 = .ok (.aload_n 0, 1) := by decide +kernel
theorem d_Md_frame_126 : decode cc_Md_frame 126 = .ok (.aload_n 0, 1) := by decide +kernel
theorem d_Md_frame_127 : decode cc_Md_frame 127 = .ok (.getfield 90, 3) := by decide +kernel
theorem d_Md_frame_130 : decode cc_Md_frame 130 = .ok (.invokevirtual 125, 3) := by decide +kernel
theorem d_Md_frame_133 : decode cc_Md_frame 133 = .ok (.istore 4, 2) := by decide +kernel
theorem d_Md_frame_135 : decode cc_Md_frame 135 = .ok (.iload 4, 2) := by decide +kernel
theorem d_Md_frame_137 : decode cc_Md_frame 137 = .ok (.iconst 1, 1) := by decide +kernel
theorem d_Md_frame_138 : decode cc_Md_frame 138 = .ok (.iand, 1) := by decide +kernel
theorem d_Md_frame_139 : decode cc_Md_frame 139 = .ok (.iconst 1, 1) := by decide +kernel
theorem d_Md_frame_140 : decode cc_Md_frame 140 = .ok (.if_icmp .ne (7), 3) := by decide +kernel
theorem d_Md_frame_143 : decode cc_Md_frame 143 = .ok (.iconst 1, 1) := by decide +kernel
theorem d_Md_frame_144 : decode cc_Md_frame 144 = .ok (.goto (4), 3) := by decide +kernel
theorem d_Md_frame_147 : decode cc_Md_frame 147 = .ok (.iconst 0, 1) := by decide +kernel
theorem d_Md_frame_148 : decode cc_Md_frame 148 = .ok (.istore_n 3, 1) := by decide +kernel
theorem d_Md_frame_149 : decode cc_Md_frame 149 = .ok (.aload_n 0, 1) := by decide +kernel
theorem d_Md_frame_150 : decode cc_Md_frame 150 = .ok (.iload 4, 2) := by decide +kernel
theorem d_Md_frame_152 : decode cc_Md_frame 152 = .ok (.invokevirtual 134, 3) := by decide +kernel
theorem d_Md_frame_155 : decode cc_Md_frame 155 = .ok (.goto (-41), 3) := by decide +kernel
theorem d_Md_frame_158 : decode cc_Md_frame 158 = .ok (.aload_n 0, 1) := by decide +kernel
theorem d_Md_frame_159 : decode cc_Md_frame 159 = .ok (.aload_n 0, 1) := by decide +kernel
theorem d_Md_frame_160 : decode cc_Md_frame 160 = .ok (.getfield 102, 3) := by decide +kernel
theorem d_Md_frame_163 : decode cc_Md_frame 163 = .ok (.ifCond .ne (19), 3) := by decide +kernel
theorem d_Md_frame_166 : decode cc_Md_frame 166 = .ok (.aload_n 0, 1) := by decide +kernel
theorem d_Md_frame_167 : decode cc_Md_frame 167 = .ok (.getfield 106, 3) := by decide +kernel
theorem d_Md_frame_170 : decode cc_Md_frame 170 = .ok (.aload_n 0, 1) := by decide +kernel
theorem d_Md_frame_171 : decode cc_Md_frame 171 = .ok (.getfield 109, 3) := by decide +kernel
theorem d_Md_frame_174 : decode cc_Md_frame 174 = .ok (.isub, 1) := by decide +kernel
theorem d_Md_frame_175 : decode cc_Md_frame 175 = .ok (.aload_n 0, 1) := by decide +kernel
theorem d_Md_frame_176 : decode cc_Md_frame 176 = .ok (.getfield 112, 3) := by decide +kernel
theorem d_Md_frame_179 : decode cc_Md_frame 179 = .ok (.if_icmp .eq (7), 3) := by decide +kernel
theorem d_Md_frame_182 : decode cc_Md_frame 182 = .ok (.iconst 1, 1) := by decide +kernel
theorem d_Md_frame_183 : decode cc_Md_frame 183 = .ok (.goto (4), 3) := by decide +kernel
theorem d_Md_frame_186 : decode cc_Md_frame 186 = .ok (.iconst 0, 1) := by decide +kernel
theorem d_Md_frame_187 : decode cc_Md_frame 187 = .ok (.putfield 102, 3) := by decide +kernel
theorem d_Md_frame_190 : decode cc_Md_frame 190 = .ok (.iload_n 1, 1) := by decide +kernel
theorem d_Md_frame_191 : decode cc_Md_frame 191 = .ok (.iconst 1, 1) := by decide +kernel
theorem d_Md_frame_192 : decode cc_Md_frame 192 = .ok (.if_icmp .ne (115), 3) := by decide +kernel
theorem d_Md_frame_195 : decode cc_Md_frame 195 = .ok (.aload_n 0, 1) := by decide +kernel
theorem d_Md_frame_196 : decode cc_Md_frame 196 = .ok (.getfield 102, 3) := by decide +kernel
theorem d_Md_frame_199 : decode cc_Md_frame 199 = .ok (.ifCond .ne (108), 3) := by decide +kernel
theorem d_Md_frame_202 : decode cc_Md_frame 202 = .ok (.aload_n 0, 1) := by decide +kernel
theorem d_Md_frame_203 : decode cc_Md_frame 203 = .ok (.getfield 106, 3) := by decide +kernel
theorem d_Md_frame_206 : decode cc_Md_frame 206 = .ok (.aload_n 0, 1) := by decide +kernel
theorem d_Md_frame_207 : decode cc_Md_frame 207 = .ok (.getfield 109, 3) := by decide +kernel
theorem d_Md_frame_210 : decode cc_Md_frame 210 = .ok (.isub, 1) := by decide +kernel
theorem d_Md_frame_211 : decode cc_Md_frame 211 = .ok (.istore 4, 2) := by decide +kernel
theorem d_Md_frame_213 : decode cc_Md_frame 213 = .ok (.aload_n 0, 1) := by decide +kernel
theorem d_Md_frame_214 : decode cc_Md_frame 214 = .ok (.getfield 109, 3) := by decide +kernel
theorem d_Md_frame_217 : decode cc_Md_frame 217 = .ok (.istore 5, 2) := by decide +kernel
theorem d_Md_frame_219 : decode cc_Md_frame 219 = .ok (.iload 5, 2) := by decide +kernel
theorem d_Md_frame_221 : decode cc_Md_frame 221 = .ok (.aload_n 0, 1) := by decide +kernel
theorem d_Md_frame_222 : decode cc_Md_frame 222 = .ok (.getfield 106, 3) := by decide +kernel
theorem d_Md_frame_225 : decode cc_Md_frame 225 = .ok (.if_icmp .ge (23), 3) := by decide +kernel
theorem d_Md_frame_228 : decode cc_Md_frame 228 = .ok (.iload 4, 2) := by decide +kernel
theorem d_Md_frame_230 : decode cc_Md_frame 230 = .ok (.aload_n 0, 1) := by decide +kernel
theorem d_Md_frame_231 : decode cc_Md_frame 231 = .ok (.getfield 16, 3) := by decide +kernel
theorem d_Md_frame_234 : decode cc_Md_frame 234 = .ok (.iload 5, 2) := by decide +kernel
theorem d_Md_frame_236 : decode cc_Md_frame 236 = .ok (.iaload, 1) := by decide +kernel
theorem d_Md_frame_237 : decode cc_Md_frame 237 = .ok (.invokestatic 94, 3) := by decide +kernel
theorem d_Md_frame_240 : decode cc_Md_frame 240 = .ok (.istore 4, 2) := by decide +kernel
theorem d_Md_frame_242 : decode cc_Md_frame 242 = .ok (.iinc 5 (1), 3) := by decide +kernel
theorem d_Md_frame_245 : decode cc_Md_frame 245 = .ok (.goto (-26), 3) := by decide +kernel
theorem d_Md_frame_248 : decode cc_Md_frame 248 = .ok (.aload_n 0, 1) := by decide +kernel
theorem d_Md_frame_249 : decode cc_Md_frame 249 = .ok (.aload_n 0, 1) := by decide +kernel
theorem d_Md_frame_250 : decode cc_Md_frame 250 = .ok (.getfield 90, 3) := by decide +kernel
theorem d_Md_frame_253 : decode cc_Md_frame 253 = .ok (.invokevirtual 125, 3) := by decide +kernel
theorem d_Md_frame_256 : decode cc_Md_frame 256 = .ok (.istore 5, 2) := by decide +kernel
theorem d_Md_frame_258 : decode cc_Md_frame 258 = .ok (.aload_n 0, 1) := by decide +kernel
theorem d_Md_frame_259 : decode cc_Md_frame 259 = .ok (.aload_n 0, 1) := by decide +kernel
theorem d_Md_frame_260 : decode cc_Md_frame 260 = .ok (.getfield 90, 3) := by decide +kernel
theorem d_Md_frame_263 : decode cc_Md_frame 263 = .ok (.invokevirtual 125, 3) := by decide +kernel
theorem d_Md_frame_266 : decode cc_Md_frame 266 = .ok (.istore 6, 2) := by decide +kernel
theorem d_Md_frame_268 : decode cc_Md_frame 268 = .ok (.aload_n 0, 1) := by decide +kernel
theorem d_Md_frame_269 : decode cc_Md_frame 269 = .ok (.aload_n 0, 1) := by decide +kernel
theorem d_Md_frame_270 : decode cc_Md_frame 270 = .ok (.getfield 102, 3) := by decide +kernel
theorem d_Md_frame_273 : decode cc_Md_frame 273 = .ok (.ifCond .ne (26), 3) := by decide +kernel
theorem d_Md_frame_276 : decode cc_Md_frame 276 = .ok (.iload 5, 2) := by decide +kernel
theorem d_Md_frame_278 : decode cc_Md_frame 278 = .ok (.sipush (256), 3) := by decide +kernel
theorem d_Md_frame_281 : decode cc_Md_frame 281 = .ok (.iload 6, 2) := by decide +kernel
theorem d_Md_frame_283 : decode cc_Md_frame 283 = .ok (.imul, 1) := by decide +kernel
theorem d_Md_frame_284 : decode cc_Md_frame 284 = .ok (.iadd, 1) := by decide +kernel
theorem d_Md_frame_285 : decode cc_Md_frame 285 = .ok (.iload 4, 2) := by decide +kernel
theorem d_Md_frame_287 : decode cc_Md_frame 287 = .ok (.iload 4, 2) := by decide +kernel
theorem d_Md_frame_289 : decode cc_Md_frame 289 = .ok (.bipush (16), 2) := by decide +kernel
theorem d_Md_frame_291 : decode cc_Md_frame 291 = .ok (.iushr, 1) := by decide +kernel
theorem d_Md_frame_292 : decode cc_Md_frame 292 = .ok (.ixor, 1) := by decide +kernel
theorem d_Md_frame_293 : decode cc_Md_frame 293 = .ok (.ldc 98, 2) := by decide +kernel
theorem d_Md_frame_295 : decode cc_Md_frame 295 = .ok (.iand, 1) := by decide +kernel
theorem d_Md_frame_296 : decode cc_Md_frame 296 = .ok (.if_icmp .eq (7), 3) := by decide +kernel
theorem d_Md_frame_299 : decode cc_Md_frame 299 = .ok (.iconst 1, 1) := by decide +kernel
theorem d_Md_frame_300 : decode cc_Md_frame 300 = .ok (.goto (4), 3) := by decide +kernel
theorem d_Md_frame_303 : decode cc_Md_frame 303 = .ok (.iconst 0, 1) := by decide +kernel
theorem d_Md_frame_304 : decode cc_Md_frame 304 = .ok (.putfield 102, 3) := by decide +kernel
theorem d_Md_frame_307 : decode cc_Md_frame 307 = .ok (.return_, 1) := by decide +kernel
section
variable {p : Program} {l : Launch} {e : Env} {s : State} {m : MethodId} {args : Array Value} {below : List Frame} {meth : Method} {c : Code} {X : Xs} {L : La}
def b_Md_frame_307 (L : La)   (F : Mem) : Option Mem :=
  some F
set_option maxHeartbeats 4000000 in
theorem t_Md_frame_307 (hC : Cx X L p s m args meth c cc_Md_frame 7 w_Md_frame R_Md none)  {out : Mem}   {F : Mem} {H : Heap} {locs : List Loc} {ls : Array Slot}  (hI : Iv X L s H locs F) (hl : lv_has ls 7 []) (h : b_Md_frame_307 L   F = some out) : W p l e (headSpec w_Md_frame r_Md_frame).room s m args below meth c H locs 0 0 (MQ below (QV X L out) args s 0 0 (AA X L)) (F0 m 307 ls []) := by
  unfold b_Md_frame_307 at h
  obtain ⟨S, hK, hT, hW, hr, hlk⟩ := id hC
  have hx := S.1
  have hb := S.2.1
  exact w_vret S hK hr hlk hI d_Md_frame_307 h
def b_Md_frame_304 (L : La)  (j0 : Nat) (y1 : Int32) (F : Mem) : Option Mem :=
  if ¬ (y1 = 0 ∨ y1 = 1) then none else
  lt' (u2 F j0 5 y1) fun F1 =>
  b_Md_frame_307 L   F1
set_option maxHeartbeats 4000000 in
theorem t_Md_frame_304 (hC : Cx X L p s m args meth c cc_Md_frame 7 w_Md_frame R_Md none)  {out : Mem}  {j0 : Nat} {y1 : Int32} {F : Mem} {H : Heap} {locs : List Loc} {ls : Array Slot} (oy0 : oO L 12 j0) (hI : Iv X L s H locs F) (hl : lv_has ls 7 []) (h : b_Md_frame_304 L  j0 y1 F = some out) : W p l e (headSpec w_Md_frame r_Md_frame).room s m args below meth c H locs 0 0 (MQ below (QV X L out) args s 0 0 (AA X L)) (F0 m 304 ls [.int y1, .ref (mAd X j0)]) := by
  unfold b_Md_frame_304 at h
  obtain ⟨S, hK, hT, hW, hr, hlk⟩ := id hC
  have hx := S.1
  have hb := S.2.1
  obtain ⟨z3, h⟩ := un_if h
  refine w_putZ (T := T_Md) S hK hI oy0 rfl hin_Md ty_Md tk_Md nm_Md 5 (index := 102) (by decide) lf_Md_102 rfl z3 d_Md_frame_304 (fun H locs F1 e2 hI => ?_)
  replace h := un_lt h _ e2
  exact t_Md_frame_307 hC   hI hl h
def b_Md_frame_299 (L : La)  (j0 : Nat) (F : Mem) : Option Mem :=
  b_Md_frame_304 L  j0 (1 : Int32) F
set_option maxHeartbeats 4000000 in
theorem t_Md_frame_299 (hC : Cx X L p s m args meth c cc_Md_frame 7 w_Md_frame R_Md none)  {out : Mem}  {j0 : Nat} {F : Mem} {H : Heap} {locs : List Loc} {ls : Array Slot} (oy0 : oO L 12 j0) (hI : Iv X L s H locs F) (hl : lv_has ls 7 []) (h : b_Md_frame_299 L  j0 F = some out) : W p l e (headSpec w_Md_frame r_Md_frame).room s m args below meth c H locs 0 0 (MQ below (QV X L out) args s 0 0 (AA X L)) (F0 m 299 ls [.ref (mAd X j0)]) := by
  unfold b_Md_frame_299 at h
  obtain ⟨S, hK, hT, hW, hr, hlk⟩ := id hC
  have hx := S.1
  have hb := S.2.1
  refine lv_iconst (v := 1) hx hb d_Md_frame_299 rfl ?_
  refine lv_goto (tgt := 304) hx hb d_Md_frame_300 rfl ?_
  exact t_Md_frame_304 hC  oy0 hI hl h
def b_Md_frame_219 (L : La) (k219 : Nat → Int32 → Int32 → Mem → Option Mem) (i0 : Nat) (x4 : Int32) (x5 : Int32) (F : Mem) : Option Mem :=
  if (F i0 6) ≤ x5 then
    (f_Md_next L i0 (F i0 3) F).bind fun q1 =>
    (f_Md_next L i0 (q1.2 i0 3) q1.2).bind fun q3 =>
    if (q3.2 i0 5) = 0 then
      if (q1.1 + ((256 : Int32) * q3.1)) = ((x4 ^^^ (jushr x4 (16 : Int32))) &&& (65535 : Int32)) then
        b_Md_frame_304 L  i0 (0 : Int32) q3.2
      else
        b_Md_frame_299 L  i0 q3.2
    else
      b_Md_frame_299 L  i0 q3.2
  else
    if inb x5 (mGl L (mRf L i0 7)) then none else
    (f_Md_mixed L x4 (mGa L F (mRf L i0 7) x5.toNatClampNeg) F).bind fun q7 =>
    k219 i0 q7.1 (x5 + (1 : Int32)) q7.2
set_option maxHeartbeats 4000000 in
theorem t_Md_frame_219 (hC : Cx X L p s m args meth c cc_Md_frame 7 w_Md_frame R_Md none) {k219 : Nat → Int32 → Int32 → Mem → Option Mem} {out : Mem} (hk219 : ∀ (i0 : Nat) (x4 : Int32) (x5 : Int32) (F : Mem) (H : Heap) (locs : List Loc) (ls : Array Slot), oO L 12 i0 → Iv X L s H locs F → lv_has ls 7 [(0, .ref (mAd X i0)), (4, .int x4), (5, .int x5)] → k219 i0 x4 x5 F = some out → W p l e (headSpec w_Md_frame r_Md_frame).room s m args below meth c H locs 0 0 (MQ below (QV X L out) args s 0 0 (AA X L)) (F0 m 219 ls [])) {i0 : Nat} {x4 : Int32} {x5 : Int32} {F : Mem} {H : Heap} {locs : List Loc} {ls : Array Slot} (o0 : oO L 12 i0) (hI : Iv X L s H locs F) (hl : lv_has ls 7 [(0, .ref (mAd X i0)), (4, .int x4), (5, .int x5)]) (h : b_Md_frame_219 L k219 i0 x4 x5 F = some out) : W p l e (headSpec w_Md_frame r_Md_frame).room s m args below meth c H locs 0 0 (MQ below (QV X L out) args s 0 0 (AA X L)) (F0 m 219 ls []) := by
  unfold b_Md_frame_219 at h
  obtain ⟨S, hK, hT, hW, hr, hlk⟩ := id hC
  have hx := S.1
  have hb := S.2.1
  refine lv_iload hx hb d_Md_frame_219 (lv_at hl 2 rfl) ?_
  refine lv_aload_n hx hb d_Md_frame_221 rfl (lv_at hl 0 rfl) ?_
  refine w_getI (T := T_Md) S hK hI o0 rfl hin_Md 6 (index := 106) (by decide) lf_Md_106 d_Md_frame_222 ?_
  refine lv_icmp_ge (tgt := 248) hx hb d_Md_frame_225 rfl (fun hc => ?_) (fun hc => ?_)
  · replace h := (if_pos hc).symm.trans h
    refine lv_aload_n hx hb d_Md_frame_248 rfl (lv_at hl 0 rfl) ?_
    refine lv_aload_n hx hb d_Md_frame_249 rfl (lv_at hl 0 rfl) ?_
    refine w_getI (T := T_Md) S hK hI o0 rfl hin_Md 3 (index := 90) (by decide) lf_Md_90 d_Md_frame_250 ?_
    obtain ⟨q1, e2, h⟩ := un_bi h
    refine w_callVi (As := [.int (F i0 3)]) (rest := []) S hK hI hT (c_Md_next l hW o0 e2) (cwV 1 S.2.2.2.2 (gd_V lc_Md_next lm_Md_125 li_Md_next ls_Md_next ln_Md) rfl rfl rfl hd_Md_next ⟨Nat.le_of_ble_eq_true rfl, Nat.le_of_ble_eq_true rfl⟩) o0 rfl (by decide) rfl rfl hl.1 (Nat.le_of_ble_eq_true rfl) d_Md_frame_253 ⟨Nat.zero_le _, Nat.zero_le _⟩ (fun H locs hI => ?_)
    refine lv_istore (lv' := [(5, .int q1.1), (0, .ref (mAd X i0)), (4, .int x4)]) hx hb d_Md_frame_256 hl (by decide) rfl (fun ls hl => ?_)
    refine lv_aload_n hx hb d_Md_frame_258 rfl (lv_at hl 1 rfl) ?_
    refine lv_aload_n hx hb d_Md_frame_259 rfl (lv_at hl 1 rfl) ?_
    refine w_getI (T := T_Md) S hK hI o0 rfl hin_Md 3 (index := 90) (by decide) lf_Md_90 d_Md_frame_260 ?_
    obtain ⟨q3, e4, h⟩ := un_bi h
    refine w_callVi (As := [.int (q1.2 i0 3)]) (rest := []) S hK hI hT (c_Md_next l hW o0 e4) (cwV 1 S.2.2.2.2 (gd_V lc_Md_next lm_Md_125 li_Md_next ls_Md_next ln_Md) rfl rfl rfl hd_Md_next ⟨Nat.le_of_ble_eq_true rfl, Nat.le_of_ble_eq_true rfl⟩) o0 rfl (by decide) rfl rfl hl.1 (Nat.le_of_ble_eq_true rfl) d_Md_frame_263 ⟨Nat.zero_le _, Nat.zero_le _⟩ (fun H locs hI => ?_)
    refine lv_istore (lv' := [(6, .int q3.1), (5, .int q1.1), (0, .ref (mAd X i0)), (4, .int x4)]) hx hb d_Md_frame_266 hl (by decide) rfl (fun ls hl => ?_)
    refine lv_aload_n hx hb d_Md_frame_268 rfl (lv_at hl 2 rfl) ?_
    refine lv_aload_n hx hb d_Md_frame_269 rfl (lv_at hl 2 rfl) ?_
    refine w_getI (T := T_Md) S hK hI o0 rfl hin_Md 5 (index := 102) (by decide) lf_Md_102 d_Md_frame_270 ?_
    refine lv_if_ne (tgt := 299) hx hb d_Md_frame_273 rfl (fun hc => ?_) (fun hc => ?_)
    · replace h := (if_neg hc).symm.trans h
      exact t_Md_frame_299 hC  o0 hI (lv_sub hl [] rfl) h
    · replace h := (if_pos hc).symm.trans h
      refine lv_iload hx hb d_Md_frame_276 (lv_at hl 1 rfl) ?_
      refine lv_sipush (v := 256) hx hb d_Md_frame_278 (by decide) ?_
      refine lv_iload hx hb d_Md_frame_281 (lv_at hl 0 rfl) ?_
      refine lv_imul hx hb d_Md_frame_283 ?_
      refine lv_iadd hx hb d_Md_frame_284 ?_
      refine lv_iload hx hb d_Md_frame_285 (lv_at hl 3 rfl) ?_
      refine lv_iload hx hb d_Md_frame_287 (lv_at hl 3 rfl) ?_
      refine lv_bipush (v := 16) hx hb d_Md_frame_289 (by decide) ?_
      refine lv_iushr hx hb d_Md_frame_291 rfl ?_
      refine lv_ixor hx hb d_Md_frame_292 ?_
      refine lv_ldc (own := R_Md) (index := 98) (v := 65535) hx hb S.2.2.2.1 (S.2.2.2.2 _ (List.mem_cons_of_mem _ lk_Md_98)) d_Md_frame_293 ?_
      refine lv_iand hx hb d_Md_frame_295 ?_
      refine lv_icmp_eq (tgt := 303) hx hb d_Md_frame_296 rfl (fun hc => ?_) (fun hc => ?_)
      · replace h := (if_pos hc).symm.trans h
        refine lv_iconst (v := 0) hx hb d_Md_frame_303 rfl ?_
        exact t_Md_frame_304 hC  o0 hI (lv_sub hl [] rfl) h
      · replace h := (if_neg hc).symm.trans h
        exact t_Md_frame_299 hC  o0 hI (lv_sub hl [] rfl) h
  · replace h := (if_neg hc).symm.trans h
    refine lv_iload hx hb d_Md_frame_228 (lv_at hl 1 rfl) ?_
    refine lv_aload_n hx hb d_Md_frame_230 rfl (lv_at hl 0 rfl) ?_
    have p5 := wt_a hW o0 7 rfl (by decide) (by decide)
    refine w_getR (T := T_Md) S hK hI o0 rfl hin_Md 7 (index := 16) (by decide) lf_Md_16 d_Md_frame_231 ?_
    refine lv_iload hx hb d_Md_frame_234 (lv_at hl 2 rfl) ?_
    obtain ⟨z6, h⟩ := un_if h
    refine w_iald S hK hI hT p5 z6 d_Md_frame_236 ?_
    obtain ⟨q7, e8, h⟩ := un_bi h
    refine w_callSi (As := [.int x4, .int (mGa L F (mRf L i0 7) x5.toNatClampNeg)]) (rest := []) S hK hI hT (c_Md_mixed l hW  e8) (va_cwS 2 S.2.2.2.2 (gd_S lc_Md_mixed lm_Md_94 lst_Md_mixed ln_Md) rfl rfl rfl hd_Md_mixed.2 ⟨Nat.le_of_ble_eq_true rfl, Nat.le_of_ble_eq_true rfl⟩)  rfl rfl hl.1 (Nat.le_of_ble_eq_true rfl) d_Md_frame_237 ⟨Nat.zero_le _, Nat.zero_le _⟩ (fun H locs hI => ?_)
    refine lv_istore (lv' := [(4, .int q7.1), (0, .ref (mAd X i0)), (5, .int x5)]) hx hb d_Md_frame_240 hl (by decide) rfl (fun ls hl => ?_)
    refine lv_iinc (k := 2) (v := x5 + (1 : Int32)) (lv' := [(5, .int (x5 + (1 : Int32))), (4, .int q7.1), (0, .ref (mAd X i0))]) hx hb d_Md_frame_242 hl rfl rfl (by decide) rfl (fun ls hl => ?_)
    refine lv_goto (tgt := 219) hx hb d_Md_frame_245 rfl ?_
    exact hk219 _ _ _ _ _ _ _ o0 hI (lv_sub hl [2, 1, 0] rfl) h
def f_Md_frame_219 (L : La)  : Nat → Nat → Int32 → Int32 → Mem → Option Mem
  | 0 => fun _ _ _ _ => none
  | n + 1 => b_Md_frame_219 L (f_Md_frame_219 L  n)
theorem tf_Md_frame_219 (hC : Cx X L p s m args meth c cc_Md_frame 7 w_Md_frame R_Md none)  {out : Mem}  (n : Nat) : ∀ (i0 : Nat) (x4 : Int32) (x5 : Int32) (F : Mem) (H : Heap) (locs : List Loc) (ls : Array Slot), oO L 12 i0 → Iv X L s H locs F → lv_has ls 7 [(0, .ref (mAd X i0)), (4, .int x4), (5, .int x5)] → f_Md_frame_219 L  n i0 x4 x5 F = some out → W p l e (headSpec w_Md_frame r_Md_frame).room s m args below meth c H locs 0 0 (MQ below (QV X L out) args s 0 0 (AA X L)) (F0 m 219 ls []) := by
  induction n with
  | zero => intro i0 x4 x5 F H locs ls o0 hI hl h; cases h
  | succ n ih => intro i0 x4 x5 F H locs ls o0 hI hl h; exact t_Md_frame_219 hC ih o0 hI hl h
def b_Md_frame_187 (L : La)  (i0 : Nat) (x1 : Int32) (j0 : Nat) (y1 : Int32) (F : Mem) : Option Mem :=
  if ¬ (y1 = 0 ∨ y1 = 1) then none else
  lt' (u2 F j0 5 y1) fun F1 =>
  if x1 = (1 : Int32) then
    if (F1 i0 5) = 0 then
      f_Md_frame_219 L  mFU i0 ((F1 i0 6) - (F1 i0 8)) (F1 i0 8) F1
    else
      b_Md_frame_307 L   F1
  else
    b_Md_frame_307 L   F1
set_option maxHeartbeats 4000000 in
theorem t_Md_frame_187 (hC : Cx X L p s m args meth c cc_Md_frame 7 w_Md_frame R_Md none)  {out : Mem}  {i0 : Nat} {x1 : Int32} {j0 : Nat} {y1 : Int32} {F : Mem} {H : Heap} {locs : List Loc} {ls : Array Slot} (o0 : oO L 12 i0) (oy0 : oO L 12 j0) (hI : Iv X L s H locs F) (hl : lv_has ls 7 [(0, .ref (mAd X i0)), (1, .int x1)]) (h : b_Md_frame_187 L  i0 x1 j0 y1 F = some out) : W p l e (headSpec w_Md_frame r_Md_frame).room s m args below meth c H locs 0 0 (MQ below (QV X L out) args s 0 0 (AA X L)) (F0 m 187 ls [.int y1, .ref (mAd X j0)]) := by
  unfold b_Md_frame_187 at h
  obtain ⟨S, hK, hT, hW, hr, hlk⟩ := id hC
  have hx := S.1
  have hb := S.2.1
  obtain ⟨z3, h⟩ := un_if h
  refine w_putZ (T := T_Md) S hK hI oy0 rfl hin_Md ty_Md tk_Md nm_Md 5 (index := 102) (by decide) lf_Md_102 rfl z3 d_Md_frame_187 (fun H locs F1 e2 hI => ?_)
  replace h := un_lt h _ e2
  refine lv_iload_n hx hb d_Md_frame_190 rfl (lv_at hl 1 rfl) ?_
  refine lv_iconst (v := 1) hx hb d_Md_frame_191 rfl ?_
  refine lv_icmp_ne (tgt := 307) hx hb d_Md_frame_192 rfl (fun hc => ?_) (fun hc => ?_)
  · replace h := (if_neg hc).symm.trans h
    exact t_Md_frame_307 hC   hI (lv_sub hl [] rfl) h
  · replace h := (if_pos hc).symm.trans h
    refine lv_aload_n hx hb d_Md_frame_195 rfl (lv_at hl 0 rfl) ?_
    refine w_getI (T := T_Md) S hK hI o0 rfl hin_Md 5 (index := 102) (by decide) lf_Md_102 d_Md_frame_196 ?_
    refine lv_if_ne (tgt := 307) hx hb d_Md_frame_199 rfl (fun hc => ?_) (fun hc => ?_)
    · replace h := (if_neg hc).symm.trans h
      exact t_Md_frame_307 hC   hI (lv_sub hl [] rfl) h
    · replace h := (if_pos hc).symm.trans h
      refine lv_aload_n hx hb d_Md_frame_202 rfl (lv_at hl 0 rfl) ?_
      refine w_getI (T := T_Md) S hK hI o0 rfl hin_Md 6 (index := 106) (by decide) lf_Md_106 d_Md_frame_203 ?_
      refine lv_aload_n hx hb d_Md_frame_206 rfl (lv_at hl 0 rfl) ?_
      refine w_getI (T := T_Md) S hK hI o0 rfl hin_Md 8 (index := 109) (by decide) lf_Md_109 d_Md_frame_207 ?_
      refine lv_isub hx hb d_Md_frame_210 ?_
      refine lv_istore (lv' := [(4, .int ((F1 i0 6) - (F1 i0 8))), (0, .ref (mAd X i0)), (1, .int x1)]) hx hb d_Md_frame_211 hl (by decide) rfl (fun ls hl => ?_)
      refine lv_aload_n hx hb d_Md_frame_213 rfl (lv_at hl 1 rfl) ?_
      refine w_getI (T := T_Md) S hK hI o0 rfl hin_Md 8 (index := 109) (by decide) lf_Md_109 d_Md_frame_214 ?_
      refine lv_istore (lv' := [(5, .int (F1 i0 8)), (4, .int ((F1 i0 6) - (F1 i0 8))), (0, .ref (mAd X i0)), (1, .int x1)]) hx hb d_Md_frame_217 hl (by decide) rfl (fun ls hl => ?_)
      exact tf_Md_frame_219 hC  mFU _ _ _ _ _ _ _ o0 hI (lv_sub hl [2, 1, 0] rfl) h
def b_Md_frame_182 (L : La)  (i0 : Nat) (x1 : Int32) (j0 : Nat) (F : Mem) : Option Mem :=
  b_Md_frame_187 L  i0 x1 j0 (1 : Int32) F
set_option maxHeartbeats 4000000 in
theorem t_Md_frame_182 (hC : Cx X L p s m args meth c cc_Md_frame 7 w_Md_frame R_Md none)  {out : Mem}  {i0 : Nat} {x1 : Int32} {j0 : Nat} {F : Mem} {H : Heap} {locs : List Loc} {ls : Array Slot} (o0 : oO L 12 i0) (oy0 : oO L 12 j0) (hI : Iv X L s H locs F) (hl : lv_has ls 7 [(0, .ref (mAd X i0)), (1, .int x1)]) (h : b_Md_frame_182 L  i0 x1 j0 F = some out) : W p l e (headSpec w_Md_frame r_Md_frame).room s m args below meth c H locs 0 0 (MQ below (QV X L out) args s 0 0 (AA X L)) (F0 m 182 ls [.ref (mAd X j0)]) := by
  unfold b_Md_frame_182 at h
  obtain ⟨S, hK, hT, hW, hr, hlk⟩ := id hC
  have hx := S.1
  have hb := S.2.1
  refine lv_iconst (v := 1) hx hb d_Md_frame_182 rfl ?_
  refine lv_goto (tgt := 187) hx hb d_Md_frame_183 rfl ?_
  exact t_Md_frame_187 hC  o0 oy0 hI hl h
def b_Md_frame_158 (L : La)  (i0 : Nat) (x1 : Int32) (F : Mem) : Option Mem :=
  if (F i0 5) = 0 then
    if ((F i0 6) - (F i0 8)) = (F i0 9) then
      b_Md_frame_187 L  i0 x1 i0 (0 : Int32) F
    else
      b_Md_frame_182 L  i0 x1 i0 F
  else
    b_Md_frame_182 L  i0 x1 i0 F
set_option maxHeartbeats 4000000 in
theorem t_Md_frame_158 (hC : Cx X L p s m args meth c cc_Md_frame 7 w_Md_frame R_Md none)  {out : Mem}  {i0 : Nat} {x1 : Int32} {F : Mem} {H : Heap} {locs : List Loc} {ls : Array Slot} (o0 : oO L 12 i0) (hI : Iv X L s H locs F) (hl : lv_has ls 7 [(0, .ref (mAd X i0)), (1, .int x1)]) (h : b_Md_frame_158 L  i0 x1 F = some out) : W p l e (headSpec w_Md_frame r_Md_frame).room s m args below meth c H locs 0 0 (MQ below (QV X L out) args s 0 0 (AA X L)) (F0 m 158 ls []) := by
  unfold b_Md_frame_158 at h
  obtain ⟨S, hK, hT, hW, hr, hlk⟩ := id hC
  have hx := S.1
  have hb := S.2.1
  refine lv_aload_n hx hb d_Md_frame_158 rfl (lv_at hl 0 rfl) ?_
  refine lv_aload_n hx hb d_Md_frame_159 rfl (lv_at hl 0 rfl) ?_
  refine w_getI (T := T_Md) S hK hI o0 rfl hin_Md 5 (index := 102) (by decide) lf_Md_102 d_Md_frame_160 ?_
  refine lv_if_ne (tgt := 182) hx hb d_Md_frame_163 rfl (fun hc => ?_) (fun hc => ?_)
  · replace h := (if_neg hc).symm.trans h
    exact t_Md_frame_182 hC  o0 o0 hI hl h
  · replace h := (if_pos hc).symm.trans h
    refine lv_aload_n hx hb d_Md_frame_166 rfl (lv_at hl 0 rfl) ?_
    refine w_getI (T := T_Md) S hK hI o0 rfl hin_Md 6 (index := 106) (by decide) lf_Md_106 d_Md_frame_167 ?_
    refine lv_aload_n hx hb d_Md_frame_170 rfl (lv_at hl 0 rfl) ?_
    refine w_getI (T := T_Md) S hK hI o0 rfl hin_Md 8 (index := 109) (by decide) lf_Md_109 d_Md_frame_171 ?_
    refine lv_isub hx hb d_Md_frame_174 ?_
    refine lv_aload_n hx hb d_Md_frame_175 rfl (lv_at hl 0 rfl) ?_
    refine w_getI (T := T_Md) S hK hI o0 rfl hin_Md 9 (index := 112) (by decide) lf_Md_112 d_Md_frame_176 ?_
    refine lv_icmp_eq (tgt := 186) hx hb d_Md_frame_179 rfl (fun hc => ?_) (fun hc => ?_)
    · replace h := (if_pos hc).symm.trans h
      refine lv_iconst (v := 0) hx hb d_Md_frame_186 rfl ?_
      exact t_Md_frame_187 hC  o0 o0 hI hl h
    · replace h := (if_neg hc).symm.trans h
      exact t_Md_frame_182 hC  o0 o0 hI hl h
def b_Md_frame_148 (L : La) (k114 : Nat → Int32 → Int32 → Mem → Option Mem) (i0 : Nat) (x1 : Int32) (x4 : Int32) (y0 : Int32) (F : Mem) : Option Mem :=
  (f_Md_block L i0 x4 F).bind fun F1 =>
  k114 i0 x1 y0 F1
set_option maxHeartbeats 4000000 in
theorem t_Md_frame_148 (hC : Cx X L p s m args meth c cc_Md_frame 7 w_Md_frame R_Md none) {k114 : Nat → Int32 → Int32 → Mem → Option Mem} {out : Mem} (hk114 : ∀ (i0 : Nat) (x1 : Int32) (x3 : Int32) (F : Mem) (H : Heap) (locs : List Loc) (ls : Array Slot), oO L 12 i0 → Iv X L s H locs F → lv_has ls 7 [(0, .ref (mAd X i0)), (1, .int x1), (3, .int x3)] → k114 i0 x1 x3 F = some out → W p l e (headSpec w_Md_frame r_Md_frame).room s m args below meth c H locs 0 0 (MQ below (QV X L out) args s 0 0 (AA X L)) (F0 m 114 ls [])) {i0 : Nat} {x1 : Int32} {x4 : Int32} {y0 : Int32} {F : Mem} {H : Heap} {locs : List Loc} {ls : Array Slot} (o0 : oO L 12 i0) (hI : Iv X L s H locs F) (hl : lv_has ls 7 [(0, .ref (mAd X i0)), (1, .int x1), (4, .int x4)]) (h : b_Md_frame_148 L k114 i0 x1 x4 y0 F = some out) : W p l e (headSpec w_Md_frame r_Md_frame).room s m args below meth c H locs 0 0 (MQ below (QV X L out) args s 0 0 (AA X L)) (F0 m 148 ls [.int y0]) := by
  unfold b_Md_frame_148 at h
  obtain ⟨S, hK, hT, hW, hr, hlk⟩ := id hC
  have hx := S.1
  have hb := S.2.1
  refine lv_istore_n (lv' := [(3, .int y0), (0, .ref (mAd X i0)), (1, .int x1), (4, .int x4)]) hx hb d_Md_frame_148 rfl hl (by decide) rfl (fun ls hl => ?_)
  refine lv_aload_n hx hb d_Md_frame_149 rfl (lv_at hl 1 rfl) ?_
  refine lv_iload hx hb d_Md_frame_150 (lv_at hl 3 rfl) ?_
  obtain ⟨F1, e2, h⟩ := un_bi h
  refine w_callVv (As := [.int x4]) (rest := []) S hK hI hT (c_Md_block l hW o0 e2) (cwV 1 S.2.2.2.2 (gd_V lc_Md_block lm_Md_134 li_Md_block ls_Md_block ln_Md) rfl rfl rfl hd_Md_block ⟨Nat.le_of_ble_eq_true rfl, Nat.le_of_ble_eq_true rfl⟩) o0 rfl (by decide) rfl rfl hl.1 (Nat.le_of_ble_eq_true rfl) d_Md_frame_152 ⟨Nat.zero_le _, Nat.zero_le _⟩ (fun H locs hI => ?_)
  refine lv_goto (tgt := 114) hx hb d_Md_frame_155 rfl ?_
  exact hk114 _ _ _ _ _ _ _ o0 hI (lv_sub hl [1, 2, 0] rfl) h
def b_Md_frame_114 (L : La) (k114 : Nat → Int32 → Int32 → Mem → Option Mem) (i0 : Nat) (x1 : Int32) (x3 : Int32) (F : Mem) : Option Mem :=
  if x3 = 0 then
    if (F i0 5) = 0 then
      (f_Md_next L i0 (F i0 3) F).bind fun q1 =>
      if (q1.1 &&& (1 : Int32)) = (1 : Int32) then
        b_Md_frame_148 L k114 i0 x1 q1.1 (1 : Int32) q1.2
      else
        b_Md_frame_148 L k114 i0 x1 q1.1 (0 : Int32) q1.2
    else
      b_Md_frame_158 L  i0 x1 F
  else
    b_Md_frame_158 L  i0 x1 F
set_option maxHeartbeats 4000000 in
theorem t_Md_frame_114 (hC : Cx X L p s m args meth c cc_Md_frame 7 w_Md_frame R_Md none) {k114 : Nat → Int32 → Int32 → Mem → Option Mem} {out : Mem} (hk114 : ∀ (i0 : Nat) (x1 : Int32) (x3 : Int32) (F : Mem) (H : Heap) (locs : List Loc) (ls : Array Slot), oO L 12 i0 → Iv X L s H locs F → lv_has ls 7 [(0, .ref (mAd X i0)), (1, .int x1), (3, .int x3)] → k114 i0 x1 x3 F = some out → W p l e (headSpec w_Md_frame r_Md_frame).room s m args below meth c H locs 0 0 (MQ below (QV X L out) args s 0 0 (AA X L)) (F0 m 114 ls [])) {i0 : Nat} {x1 : Int32} {x3 : Int32} {F : Mem} {H : Heap} {locs : List Loc} {ls : Array Slot} (o0 : oO L 12 i0) (hI : Iv X L s H locs F) (hl : lv_has ls 7 [(0, .ref (mAd X i0)), (1, .int x1), (3, .int x3)]) (h : b_Md_frame_114 L k114 i0 x1 x3 F = some out) : W p l e (headSpec w_Md_frame r_Md_frame).room s m args below meth c H locs 0 0 (MQ below (QV X L out) args s 0 0 (AA X L)) (F0 m 114 ls []) := by
  unfold b_Md_frame_114 at h
  obtain ⟨S, hK, hT, hW, hr, hlk⟩ := id hC
  have hx := S.1
  have hb := S.2.1
  refine lv_iload_n hx hb d_Md_frame_114 rfl (lv_at hl 2 rfl) ?_
  refine lv_if_ne (tgt := 158) hx hb d_Md_frame_115 rfl (fun hc => ?_) (fun hc => ?_)
  · replace h := (if_neg hc).symm.trans h
    exact t_Md_frame_158 hC  o0 hI (lv_sub hl [0, 1] rfl) h
  · replace h := (if_pos hc).symm.trans h
    refine lv_aload_n hx hb d_Md_frame_118 rfl (lv_at hl 0 rfl) ?_
    refine w_getI (T := T_Md) S hK hI o0 rfl hin_Md 5 (index := 102) (by decide) lf_Md_102 d_Md_frame_119 ?_
    refine lv_if_ne (tgt := 158) hx hb d_Md_frame_122 rfl (fun hc => ?_) (fun hc => ?_)
    · replace h := (if_neg hc).symm.trans h
      exact t_Md_frame_158 hC  o0 hI (lv_sub hl [0, 1] rfl) h
    · replace h := (if_pos hc).symm.trans h
      refine lv_aload_n hx hb d_Md_frame_125 rfl (lv_at hl 0 rfl) ?_
      refine lv_aload_n hx hb d_Md_frame_126 rfl (lv_at hl 0 rfl) ?_
      refine w_getI (T := T_Md) S hK hI o0 rfl hin_Md 3 (index := 90) (by decide) lf_Md_90 d_Md_frame_127 ?_
      obtain ⟨q1, e2, h⟩ := un_bi h
      refine w_callVi (As := [.int (F i0 3)]) (rest := []) S hK hI hT (c_Md_next l hW o0 e2) (cwV 1 S.2.2.2.2 (gd_V lc_Md_next lm_Md_125 li_Md_next ls_Md_next ln_Md) rfl rfl rfl hd_Md_next ⟨Nat.le_of_ble_eq_true rfl, Nat.le_of_ble_eq_true rfl⟩) o0 rfl (by decide) rfl rfl hl.1 (Nat.le_of_ble_eq_true rfl) d_Md_frame_130 ⟨Nat.zero_le _, Nat.zero_le _⟩ (fun H locs hI => ?_)
      refine lv_istore (lv' := [(4, .int q1.1), (0, .ref (mAd X i0)), (1, .int x1), (3, .int x3)]) hx hb d_Md_frame_133 hl (by decide) rfl (fun ls hl => ?_)
      refine lv_iload hx hb d_Md_frame_135 (lv_at hl 0 rfl) ?_
      refine lv_iconst (v := 1) hx hb d_Md_frame_137 rfl ?_
      refine lv_iand hx hb d_Md_frame_138 ?_
      refine lv_iconst (v := 1) hx hb d_Md_frame_139 rfl ?_
      refine lv_icmp_ne (tgt := 147) hx hb d_Md_frame_140 rfl (fun hc => ?_) (fun hc => ?_)
      · replace h := (if_neg hc).symm.trans h
        refine lv_iconst (v := 0) hx hb d_Md_frame_147 rfl ?_
        exact t_Md_frame_148 hC hk114 o0 hI (lv_sub hl [1, 2, 0] rfl) h
      · replace h := (if_pos hc).symm.trans h
        refine lv_iconst (v := 1) hx hb d_Md_frame_143 rfl ?_
        refine lv_goto (tgt := 148) hx hb d_Md_frame_144 rfl ?_
        exact t_Md_frame_148 hC hk114 o0 hI (lv_sub hl [1, 2, 0] rfl) h
def f_Md_frame_114 (L : La)  : Nat → Nat → Int32 → Int32 → Mem → Option Mem
  | 0 => fun _ _ _ _ => none
  | n + 1 => b_Md_frame_114 L (f_Md_frame_114 L  n)
theorem tf_Md_frame_114 (hC : Cx X L p s m args meth c cc_Md_frame 7 w_Md_frame R_Md none)  {out : Mem}  (n : Nat) : ∀ (i0 : Nat) (x1 : Int32) (x3 : Int32) (F : Mem) (H : Heap) (locs : List Loc) (ls : Array Slot), oO L 12 i0 → Iv X L s H locs F → lv_has ls 7 [(0, .ref (mAd X i0)), (1, .int x1), (3, .int x3)] → f_Md_frame_114 L  n i0 x1 x3 F = some out → W p l e (headSpec w_Md_frame r_Md_frame).room s m args below meth c H locs 0 0 (MQ below (QV X L out) args s 0 0 (AA X L)) (F0 m 114 ls []) := by
  induction n with
  | zero => intro i0 x1 x3 F H locs ls o0 hI hl h; cases h
  | succ n ih => intro i0 x1 x3 F H locs ls o0 hI hl h; exact t_Md_frame_114 hC ih o0 hI hl h
def b_Md_frame_94 (L : La) (k94 : Nat → Int32 → Int32 → Mem → Option Mem) (i0 : Nat) (x1 : Int32) (x3 : Int32) (F : Mem) : Option Mem :=
  if (3 : Int32) ≤ x3 then
    f_Md_frame_114 L  mFU i0 x1 (0 : Int32) F
  else
    if inb x3 (mLn L (mRf L i0 21)) ∨ ¬ ((0 : Int32) = 0 ∨ (0 : Int32) = 1) then none else
    lt' (u2 F (mRf L i0 21) x3.toNatClampNeg (0 : Int32)) fun F3 =>
    k94 i0 x1 (x3 + (1 : Int32)) F3
set_option maxHeartbeats 4000000 in
theorem t_Md_frame_94 (hC : Cx X L p s m args meth c cc_Md_frame 7 w_Md_frame R_Md none) {k94 : Nat → Int32 → Int32 → Mem → Option Mem} {out : Mem} (hk94 : ∀ (i0 : Nat) (x1 : Int32) (x3 : Int32) (F : Mem) (H : Heap) (locs : List Loc) (ls : Array Slot), oO L 12 i0 → Iv X L s H locs F → lv_has ls 7 [(0, .ref (mAd X i0)), (1, .int x1), (3, .int x3)] → k94 i0 x1 x3 F = some out → W p l e (headSpec w_Md_frame r_Md_frame).room s m args below meth c H locs 0 0 (MQ below (QV X L out) args s 0 0 (AA X L)) (F0 m 94 ls [])) {i0 : Nat} {x1 : Int32} {x3 : Int32} {F : Mem} {H : Heap} {locs : List Loc} {ls : Array Slot} (o0 : oO L 12 i0) (hI : Iv X L s H locs F) (hl : lv_has ls 7 [(0, .ref (mAd X i0)), (1, .int x1), (3, .int x3)]) (h : b_Md_frame_94 L k94 i0 x1 x3 F = some out) : W p l e (headSpec w_Md_frame r_Md_frame).room s m args below meth c H locs 0 0 (MQ below (QV X L out) args s 0 0 (AA X L)) (F0 m 94 ls []) := by
  unfold b_Md_frame_94 at h
  obtain ⟨S, hK, hT, hW, hr, hlk⟩ := id hC
  have hx := S.1
  have hb := S.2.1
  refine lv_iload_n hx hb d_Md_frame_94 rfl (lv_at hl 2 rfl) ?_
  refine lv_iconst (v := 3) hx hb d_Md_frame_95 rfl ?_
  refine lv_icmp_ge (tgt := 112) hx hb d_Md_frame_96 rfl (fun hc => ?_) (fun hc => ?_)
  · replace h := (if_pos hc).symm.trans h
    refine lv_iconst (v := 0) hx hb d_Md_frame_112 rfl ?_
    refine lv_istore_n (lv' := [(3, .int (0 : Int32)), (0, .ref (mAd X i0)), (1, .int x1)]) hx hb d_Md_frame_113 rfl hl (by decide) rfl (fun ls hl => ?_)
    exact tf_Md_frame_114 hC  mFU _ _ _ _ _ _ _ o0 hI (lv_sub hl [1, 2, 0] rfl) h
  · replace h := (if_neg hc).symm.trans h
    refine lv_aload_n hx hb d_Md_frame_99 rfl (lv_at hl 0 rfl) ?_
    have p1 := wt_o hW o0 21 101 rfl (by decide) (by decide) (by decide)
    refine w_getR (T := T_Md) S hK hI o0 rfl hin_Md 21 (index := 31) (by decide) lf_Md_31 d_Md_frame_100 ?_
    refine lv_iload_n hx hb d_Md_frame_103 rfl (lv_at hl 2 rfl) ?_
    refine lv_iconst (v := 0) hx hb d_Md_frame_104 rfl ?_
    obtain ⟨z2, h⟩ := un_if h
    refine w_zast S hK hI p1 z2 d_Md_frame_105 (fun H locs F3 e4 hI => ?_)
    replace h := un_lt h _ e4
    refine lv_iinc (k := 2) (v := x3 + (1 : Int32)) (lv' := [(3, .int (x3 + (1 : Int32))), (0, .ref (mAd X i0)), (1, .int x1)]) hx hb d_Md_frame_106 hl rfl rfl (by decide) rfl (fun ls hl => ?_)
    refine lv_goto (tgt := 94) hx hb d_Md_frame_109 rfl ?_
    exact hk94 _ _ _ _ _ _ _ o0 hI (lv_sub hl [1, 2, 0] rfl) h
def f_Md_frame_94 (L : La)  : Nat → Nat → Int32 → Int32 → Mem → Option Mem
  | 0 => fun _ _ _ _ => none
  | n + 1 => b_Md_frame_94 L (f_Md_frame_94 L  n)
theorem tf_Md_frame_94 (hC : Cx X L p s m args meth c cc_Md_frame 7 w_Md_frame R_Md none)  {out : Mem}  (n : Nat) : ∀ (i0 : Nat) (x1 : Int32) (x3 : Int32) (F : Mem) (H : Heap) (locs : List Loc) (ls : Array Slot), oO L 12 i0 → Iv X L s H locs F → lv_has ls 7 [(0, .ref (mAd X i0)), (1, .int x1), (3, .int x3)] → f_Md_frame_94 L  n i0 x1 x3 F = some out → W p l e (headSpec w_Md_frame r_Md_frame).room s m args below meth c H locs 0 0 (MQ below (QV X L out) args s 0 0 (AA X L)) (F0 m 94 ls []) := by
  induction n with
  | zero => intro i0 x1 x3 F H locs ls o0 hI hl h; cases h
  | succ n ih => intro i0 x1 x3 F H locs ls o0 hI hl h; exact t_Md_frame_94 hC ih o0 hI hl h
def b_Md_frame_54 (L : La)  (i0 : Nat) (x1 : Int32) (j0 : Nat) (y1 : Int32) (F : Mem) : Option Mem :=
  if ¬ (y1 = 0 ∨ y1 = 1) then none else
  lt' (u2 F j0 5 y1) fun F1 =>
  lt' (u2 F1 i0 8 (F1 i0 6)) fun F4 =>
  if inb (0 : Int32) (mLn L (mRf L i0 10)) ∨ ¬ (mRf L i0 10) < mNc L then none else
  lt' (u2 F4 (mRf L i0 10) (0 : Int32).toNatClampNeg (1 : Int32)) fun F8 =>
  if inb (1 : Int32) (mLn L (mRf L i0 10)) ∨ ¬ (mRf L i0 10) < mNc L then none else
  lt' (u2 F8 (mRf L i0 10) (1 : Int32).toNatClampNeg (4 : Int32)) fun F12 =>
  if inb (2 : Int32) (mLn L (mRf L i0 10)) ∨ ¬ (mRf L i0 10) < mNc L then none else
  lt' (u2 F12 (mRf L i0 10) (2 : Int32).toNatClampNeg (8 : Int32)) fun F16 =>
  if ¬ ((0 : Int32) = 0 ∨ (0 : Int32) = 1) then none else
  lt' (u2 F16 i0 15 (0 : Int32)) fun F18 =>
  f_Md_frame_94 L  mFU i0 x1 (0 : Int32) F18
set_option maxHeartbeats 4000000 in
theorem t_Md_frame_54 (hC : Cx X L p s m args meth c cc_Md_frame 7 w_Md_frame R_Md none)  {out : Mem}  {i0 : Nat} {x1 : Int32} {j0 : Nat} {y1 : Int32} {F : Mem} {H : Heap} {locs : List Loc} {ls : Array Slot} (o0 : oO L 12 i0) (oy0 : oO L 12 j0) (hI : Iv X L s H locs F) (hl : lv_has ls 7 [(0, .ref (mAd X i0)), (1, .int x1)]) (h : b_Md_frame_54 L  i0 x1 j0 y1 F = some out) : W p l e (headSpec w_Md_frame r_Md_frame).room s m args below meth c H locs 0 0 (MQ below (QV X L out) args s 0 0 (AA X L)) (F0 m 54 ls [.int y1, .ref (mAd X j0)]) := by
  unfold b_Md_frame_54 at h
  obtain ⟨S, hK, hT, hW, hr, hlk⟩ := id hC
  have hx := S.1
  have hb := S.2.1
  obtain ⟨z3, h⟩ := un_if h
  refine w_putZ (T := T_Md) S hK hI oy0 rfl hin_Md ty_Md tk_Md nm_Md 5 (index := 102) (by decide) lf_Md_102 rfl z3 d_Md_frame_54 (fun H locs F1 e2 hI => ?_)
  replace h := un_lt h _ e2
  refine lv_aload_n hx hb d_Md_frame_57 rfl (lv_at hl 0 rfl) ?_
  refine lv_aload_n hx hb d_Md_frame_58 rfl (lv_at hl 0 rfl) ?_
  refine w_getI (T := T_Md) S hK hI o0 rfl hin_Md 6 (index := 106) (by decide) lf_Md_106 d_Md_frame_59 ?_
  refine w_putI (T := T_Md) S hK hI o0 rfl hin_Md ty_Md tk_Md nm_Md 8 (index := 109) (by decide) lf_Md_109 rfl d_Md_frame_62 (fun H locs F4 e5 hI => ?_)
  replace h := un_lt h _ e5
  refine lv_aload_n hx hb d_Md_frame_65 rfl (lv_at hl 0 rfl) ?_
  have p6 := wt_a hW o0 10 rfl (by decide) (by decide)
  refine w_getR (T := T_Md) S hK hI o0 rfl hin_Md 10 (index := 19) (by decide) lf_Md_19 d_Md_frame_66 ?_
  refine lv_iconst (v := 0) hx hb d_Md_frame_69 rfl ?_
  refine lv_iconst (v := 1) hx hb d_Md_frame_70 rfl ?_
  obtain ⟨z7, h⟩ := un_if h
  refine w_iast S hK hI p6 z7 d_Md_frame_71 (fun H locs F8 e9 hI => ?_)
  replace h := un_lt h _ e9
  refine lv_aload_n hx hb d_Md_frame_72 rfl (lv_at hl 0 rfl) ?_
  have p10 := wt_a hW o0 10 rfl (by decide) (by decide)
  refine w_getR (T := T_Md) S hK hI o0 rfl hin_Md 10 (index := 19) (by decide) lf_Md_19 d_Md_frame_73 ?_
  refine lv_iconst (v := 1) hx hb d_Md_frame_76 rfl ?_
  refine lv_iconst (v := 4) hx hb d_Md_frame_77 rfl ?_
  obtain ⟨z11, h⟩ := un_if h
  refine w_iast S hK hI p10 z11 d_Md_frame_78 (fun H locs F12 e13 hI => ?_)
  replace h := un_lt h _ e13
  refine lv_aload_n hx hb d_Md_frame_79 rfl (lv_at hl 0 rfl) ?_
  have p14 := wt_a hW o0 10 rfl (by decide) (by decide)
  refine w_getR (T := T_Md) S hK hI o0 rfl hin_Md 10 (index := 19) (by decide) lf_Md_19 d_Md_frame_80 ?_
  refine lv_iconst (v := 2) hx hb d_Md_frame_83 rfl ?_
  refine lv_bipush (v := 8) hx hb d_Md_frame_84 (by decide) ?_
  obtain ⟨z15, h⟩ := un_if h
  refine w_iast S hK hI p14 z15 d_Md_frame_86 (fun H locs F16 e17 hI => ?_)
  replace h := un_lt h _ e17
  refine lv_aload_n hx hb d_Md_frame_87 rfl (lv_at hl 0 rfl) ?_
  refine lv_iconst (v := 0) hx hb d_Md_frame_88 rfl ?_
  obtain ⟨z20, h⟩ := un_if h
  refine w_putZ (T := T_Md) S hK hI o0 rfl hin_Md ty_Md tk_Md nm_Md 15 (index := 131) (by decide) lf_Md_131 rfl z20 d_Md_frame_89 (fun H locs F18 e19 hI => ?_)
  replace h := un_lt h _ e19
  refine lv_iconst (v := 0) hx hb d_Md_frame_92 rfl ?_
  refine lv_istore_n (lv' := [(3, .int (0 : Int32)), (0, .ref (mAd X i0)), (1, .int x1)]) hx hb d_Md_frame_93 rfl hl (by decide) rfl (fun ls hl => ?_)
  exact tf_Md_frame_94 hC  mFU _ _ _ _ _ _ _ o0 hI (lv_sub hl [1, 2, 0] rfl) h
def b_Md_frame_49 (L : La)  (i0 : Nat) (x1 : Int32) (j0 : Nat) (F : Mem) : Option Mem :=
  b_Md_frame_54 L  i0 x1 j0 (1 : Int32) F
set_option maxHeartbeats 4000000 in
theorem t_Md_frame_49 (hC : Cx X L p s m args meth c cc_Md_frame 7 w_Md_frame R_Md none)  {out : Mem}  {i0 : Nat} {x1 : Int32} {j0 : Nat} {F : Mem} {H : Heap} {locs : List Loc} {ls : Array Slot} (o0 : oO L 12 i0) (oy0 : oO L 12 j0) (hI : Iv X L s H locs F) (hl : lv_has ls 7 [(0, .ref (mAd X i0)), (1, .int x1)]) (h : b_Md_frame_49 L  i0 x1 j0 F = some out) : W p l e (headSpec w_Md_frame r_Md_frame).room s m args below meth c H locs 0 0 (MQ below (QV X L out) args s 0 0 (AA X L)) (F0 m 49 ls [.ref (mAd X j0)]) := by
  unfold b_Md_frame_49 at h
  obtain ⟨S, hK, hT, hW, hr, hlk⟩ := id hC
  have hx := S.1
  have hb := S.2.1
  refine lv_iconst (v := 1) hx hb d_Md_frame_49 rfl ?_
  refine lv_goto (tgt := 54) hx hb d_Md_frame_50 rfl ?_
  exact t_Md_frame_54 hC  o0 oy0 hI hl h
def f_Md_frame (L : La) (i0 : Nat) (F : Mem) : Option Mem :=
  (f_Md_next L i0 (F i0 3) F).bind fun q1 =>
  (f_Md_next L i0 (q1.2 i0 3) q1.2).bind fun q3 =>
  (f_Md_next L i0 (q3.2 i0 3) q3.2).bind fun q5 =>
  lt' (u2 q5.2 i0 9 (q3.1 + ((256 : Int32) * q5.1))) fun F7 =>
  if (F7 i0 5) = 0 then
    if q1.1 ≤ (1 : Int32) then
      b_Md_frame_54 L  i0 q1.1 i0 (0 : Int32) F7
    else
      b_Md_frame_49 L  i0 q1.1 i0 F7
  else
    b_Md_frame_49 L  i0 q1.1 i0 F7
set_option maxHeartbeats 4000000 in
theorem c_Md_frame (l : Launch) {X : Xs} {L : La} (hW : WT L) {out : Mem} {i0 : Nat} {F : Mem} (o0 : oO L 12 i0) (h : f_Md_frame L i0 F = some out) : Met l y_Md_frame w_Md_frame r_Md_frame (va_Pc [.ref (mAd X i0)] (Pr X L F)) (QV X L out) 0 0 (AA X L) := by
  refine mk_met (by decide) rfl (Nat.le_of_ble_eq_true rfl) hW ?_
  intro p e s m args below meth c ls hC hI hl
  have hl : lv_has ls 7 [(0, .ref (mAd X i0))] := hl
  generalize hHe : s.heap = H at hI ⊢
  generalize ([] : List Loc) = locs at hI ⊢
  unfold f_Md_frame at h
  obtain ⟨S, hK, hT, hW, hr, hlk⟩ := id hC
  have hx := S.1
  have hb := S.2.1
  refine lv_aload_n hx hb d_Md_frame_0 rfl (lv_at hl 0 rfl) ?_
  refine lv_aload_n hx hb d_Md_frame_1 rfl (lv_at hl 0 rfl) ?_
  refine w_getI (T := T_Md) S hK hI o0 rfl hin_Md 3 (index := 90) (by decide) lf_Md_90 d_Md_frame_2 ?_
  obtain ⟨q1, e2, h⟩ := un_bi h
  refine w_callVi (As := [.int (F i0 3)]) (rest := []) S hK hI hT (c_Md_next l hW o0 e2) (cwV 1 S.2.2.2.2 (gd_V lc_Md_next lm_Md_125 li_Md_next ls_Md_next ln_Md) rfl rfl rfl hd_Md_next ⟨Nat.le_of_ble_eq_true rfl, Nat.le_of_ble_eq_true rfl⟩) o0 rfl (by decide) rfl rfl hl.1 (Nat.le_of_ble_eq_true rfl) d_Md_frame_5 ⟨Nat.zero_le _, Nat.zero_le _⟩ (fun H locs hI => ?_)
  refine lv_istore_n (lv' := [(1, .int q1.1), (0, .ref (mAd X i0))]) hx hb d_Md_frame_8 rfl hl (by decide) rfl (fun ls hl => ?_)
  refine lv_aload_n hx hb d_Md_frame_9 rfl (lv_at hl 1 rfl) ?_
  refine lv_aload_n hx hb d_Md_frame_10 rfl (lv_at hl 1 rfl) ?_
  refine w_getI (T := T_Md) S hK hI o0 rfl hin_Md 3 (index := 90) (by decide) lf_Md_90 d_Md_frame_11 ?_
  obtain ⟨q3, e4, h⟩ := un_bi h
  refine w_callVi (As := [.int (q1.2 i0 3)]) (rest := []) S hK hI hT (c_Md_next l hW o0 e4) (cwV 1 S.2.2.2.2 (gd_V lc_Md_next lm_Md_125 li_Md_next ls_Md_next ln_Md) rfl rfl rfl hd_Md_next ⟨Nat.le_of_ble_eq_true rfl, Nat.le_of_ble_eq_true rfl⟩) o0 rfl (by decide) rfl rfl hl.1 (Nat.le_of_ble_eq_true rfl) d_Md_frame_14 ⟨Nat.zero_le _, Nat.zero_le _⟩ (fun H locs hI => ?_)
  refine lv_istore_n (lv' := [(2, .int q3.1), (1, .int q1.1), (0, .ref (mAd X i0))]) hx hb d_Md_frame_17 rfl hl (by decide) rfl (fun ls hl => ?_)
  refine lv_aload_n hx hb d_Md_frame_18 rfl (lv_at hl 2 rfl) ?_
  refine lv_iload_n hx hb d_Md_frame_19 rfl (lv_at hl 0 rfl) ?_
  refine lv_sipush (v := 256) hx hb d_Md_frame_20 (by decide) ?_
  refine lv_aload_n hx hb d_Md_frame_23 rfl (lv_at hl 2 rfl) ?_
  refine lv_aload_n hx hb d_Md_frame_24 rfl (lv_at hl 2 rfl) ?_
  refine w_getI (T := T_Md) S hK hI o0 rfl hin_Md 3 (index := 90) (by decide) lf_Md_90 d_Md_frame_25 ?_
  obtain ⟨q5, e6, h⟩ := un_bi h
  refine w_callVi (As := [.int (q3.2 i0 3)]) (rest := [.int (256 : Int32), .int q3.1, .ref (mAd X i0)]) S hK hI hT (c_Md_next l hW o0 e6) (cwV 1 S.2.2.2.2 (gd_V lc_Md_next lm_Md_125 li_Md_next ls_Md_next ln_Md) rfl rfl rfl hd_Md_next ⟨Nat.le_of_ble_eq_true rfl, Nat.le_of_ble_eq_true rfl⟩) o0 rfl (by decide) rfl rfl hl.1 (Nat.le_of_ble_eq_true rfl) d_Md_frame_28 ⟨Nat.zero_le _, Nat.zero_le _⟩ (fun H locs hI => ?_)
  refine lv_imul hx hb d_Md_frame_31 ?_
  refine lv_iadd hx hb d_Md_frame_32 ?_
  refine w_putI (T := T_Md) S hK hI o0 rfl hin_Md ty_Md tk_Md nm_Md 9 (index := 112) (by decide) lf_Md_112 rfl d_Md_frame_33 (fun H locs F7 e8 hI => ?_)
  replace h := un_lt h _ e8
  refine lv_aload_n hx hb d_Md_frame_36 rfl (lv_at hl 2 rfl) ?_
  refine lv_aload_n hx hb d_Md_frame_37 rfl (lv_at hl 2 rfl) ?_
  refine w_getI (T := T_Md) S hK hI o0 rfl hin_Md 5 (index := 102) (by decide) lf_Md_102 d_Md_frame_38 ?_
  refine lv_if_ne (tgt := 49) hx hb d_Md_frame_41 rfl (fun hc => ?_) (fun hc => ?_)
  · replace h := (if_neg hc).symm.trans h
    exact t_Md_frame_49 hC  o0 o0 hI (lv_sub hl [2, 1] rfl) h
  · replace h := (if_pos hc).symm.trans h
    refine lv_iload_n hx hb d_Md_frame_44 rfl (lv_at hl 1 rfl) ?_
    refine lv_iconst (v := 1) hx hb d_Md_frame_45 rfl ?_
    refine lv_icmp_le (tgt := 53) hx hb d_Md_frame_46 rfl (fun hc => ?_) (fun hc => ?_)
    · replace h := (if_pos hc).symm.trans h
      refine lv_iconst (v := 0) hx hb d_Md_frame_53 rfl ?_
      exact t_Md_frame_54 hC  o0 o0 hI (lv_sub hl [2, 1] rfl) h
    · replace h := (if_neg hc).symm.trans h
      exact t_Md_frame_49 hC  o0 o0 hI (lv_sub hl [2, 1] rfl) h
end
theorem d_Md_unpack_0 : decode cc_Md_unpack 0 = .ok (.aload_n 0, 1) := by decide +kernel
theorem d_Md_unpack_1 : decode cc_Md_unpack 1 = .ok (.iconst 0, 1) := by decide +kernel
theorem d_Md_unpack_2 : decode cc_Md_unpack 2 = .ok (.putfield 99, 3) := by decide +kernel
theorem d_Md_unpack_5 : decode cc_Md_unpack 5 = .ok (.aload_n 0, 1) := by decide +kernel
theorem d_Md_unpack_6 : decode cc_Md_unpack 6 = .ok (.iconst 0, 1) := by decide +kernel
theorem d_Md_unpack_7 : decode cc_Md_unpack 7 = .ok (.putfield 106, 3) := by decide +kernel
theorem d_Md_unpack_10 : decode cc_Md_unpack 10 = .ok (.aload_n 0, 1) := by decide +kernel
theorem d_Md_unpack_11 : decode cc_Md_unpack 11 = .ok (.iconst 0, 1) := by decide +kernel
theorem d_Md_unpack_12 : decode cc_Md_unpack 12 = .ok (.putfield 102, 3) := by decide +kernel
theorem d_Md_unpack_15 : decode cc_Md_unpack 15 = .ok (.aload_n 0, 1) := by decide +kernel
theorem d_Md_unpack_16 : decode cc_Md_unpack 16 = .ok (.getfield 99, 3) := by decide +kernel
theorem d_Md_unpack_19 : decode cc_Md_unpack 19 = .ok (.aload_n 0, 1) := by decide +kernel
theorem d_Md_unpack_20 : decode cc_Md_unpack 20 = .ok (.getfield 90, 3) := by decide +kernel
theorem d_Md_unpack_23 : decode cc_Md_unpack 23 = .ok (.if_icmp .ge (106), 3) := by decide +kernel
theorem d_Md_unpack_26 : decode cc_Md_unpack 26 = .ok (.aload_n 0, 1) := by decide +kernel
theorem d_Md_unpack_27 : decode cc_Md_unpack 27 = .ok (.getfield 99, 3) := by decide +kernel
theorem d_Md_unpack_30 : decode cc_Md_unpack 30 = .ok (.istore_n 1, 1) := by decide +kernel
theorem d_Md_unpack_31 : decode cc_Md_unpack 31 = .ok (.aload_n 0, 1) := by decide +kernel
theorem d_Md_unpack_32 : decode cc_Md_unpack 32 = .ok (.aload_n 0, 1) := by decide +kernel
theorem d_Md_unpack_33 : decode cc_Md_unpack 33 = .ok (.getfield 90, 3) := by decide +kernel
theorem d_Md_unpack_36 : decode cc_Md_unpack 36 = .ok (.invokevirtual 125, 3) := by decide +kernel
theorem d_Md_unpack_39 : decode cc_Md_unpack 39 = .ok (.istore_n 2, 1) := by decide +kernel
theorem d_Md_unpack_40 : decode cc_Md_unpack 40 = .ok (.iload_n 2, 1) := by decide +kernel
theorem d_Md_unpack_41 : decode cc_Md_unpack 41 = .ok (.bipush (83), 2) := by decide +kernel
theorem d_Md_unpack_43 : decode cc_Md_unpack 43 = .ok (.if_icmp .ne (54), 3) := by decide +kernel
theorem d_Md_unpack_46 : decode cc_Md_unpack 46 = .ok (.aload_n 0, 1) := by decide +kernel
theorem d_Md_unpack_47 : decode cc_Md_unpack 47 = .ok (.aload_n 0, 1) := by decide +kernel
theorem d_Md_unpack_48 : decode cc_Md_unpack 48 = .ok (.getfield 90, 3) := by decide +kernel
theorem d_Md_unpack_51 : decode cc_Md_unpack 51 = .ok (.invokevirtual 125, 3) := by decide +kernel
theorem d_Md_unpack_54 : decode cc_Md_unpack 54 = .ok (.istore_n 3, 1) := by decide +kernel
theorem d_Md_unpack_55 : decode cc_Md_unpack 55 = .ok (.aload_n 0, 1) := by decide +kernel
theorem d_Md_unpack_56 : decode cc_Md_unpack 56 = .ok (.aload_n 0, 1) := by decide +kernel
theorem d_Md_unpack_57 : decode cc_Md_unpack 57 = .ok (.getfield 102, 3) := by decide +kernel
theorem d_Md_unpack_60 : decode cc_Md_unpack 60 = .ok (.ifCond .ne (16), 3) := by decide +kernel
theorem d_Md_unpack_63 : decode cc_Md_unpack 63 = .ok (.aload_n 0, 1) := by decide +kernel
theorem d_Md_unpack_64 : decode cc_Md_unpack 64 = .ok (.getfield 99, 3) := by decide +kernel
theorem d_Md_unpack_67 : decode cc_Md_unpack 67 = .ok (.iload_n 3, 1) := by decide +kernel
theorem d_Md_unpack_68 : decode cc_Md_unpack 68 = .ok (.iadd, 1) := by decide +kernel
theorem d_Md_unpack_69 : decode cc_Md_unpack 69 = .ok (.aload_n 0, 1) := by decide +kernel
theorem d_Md_unpack_70 : decode cc_Md_unpack 70 = .ok (.getfield 90, 3) := by decide +kernel
theorem d_Md_unpack_73 : decode cc_Md_unpack 73 = .ok (.if_icmp .le (7), 3) := by decide +kernel
theorem d_Md_unpack_76 : decode cc_Md_unpack 76 = .ok (.iconst 1, 1) := by decide +kernel
theorem d_Md_unpack_77 : decode cc_Md_unpack 77 = .ok (.goto (4), 3) := by decide +kernel
theorem d_Md_unpack_80 : decode cc_Md_unpack 80 = .ok (.iconst 0, 1) := by decide +kernel
theorem d_Md_unpack_81 : decode cc_Md_unpack 81 = .ok (.putfield 102, 3) := by decide +kernel
theorem d_Md_unpack_84 : decode cc_Md_unpack 84 = .ok (.aload_n 0, 1) := by decide +kernel
theorem d_Md_unpack_85 : decode cc_Md_unpack 85 = .ok (.dup, 1) := by decide +kernel
theorem d_Md_unpack_86 : decode cc_Md_unpack 86 = .ok (.getfield 99, 3) := by decide +kernel
theorem d_Md_unpack_89 : decode cc_Md_unpack 89 = .ok (.iload_n 3, 1) := by decide +kernel
theorem d_Md_unpack_90 : decode cc_Md_unpack 90 = .ok (.iadd, 1) := by decide +kernel
theorem d_Md_unpack_91 : decode cc_Md_unpack 91 = .ok (.putfield 99, 3) := by decide +kernel
theorem d_Md_unpack_94 : decode cc_Md_unpack 94 = .ok (.goto (21), 3) := by decide +kernel
theorem d_Md_unpack_97 : decode cc_Md_unpack 97 = .ok (.iload_n 2, 1) := by decide +kernel
theorem d_Md_unpack_98 : decode cc_Md_unpack 98 = .ok (.bipush (90), 2) := by decide +kernel
theorem d_Md_unpack_100 : decode cc_Md_unpack 100 = .ok (.if_icmp .ne (10), 3) := by decide +kernel
theorem d_Md_unpack_103 : decode cc_Md_unpack 103 = .ok (.aload_n 0, 1) := by decide +kernel
theorem d_Md_unpack_104 : decode cc_Md_unpack 104 = .ok (.invokevirtual 128, 3) := by decide +kernel
theorem d_Md_unpack_107 : decode cc_Md_unpack 107 = .ok (.goto (8), 3) := by decide +kernel
theorem d_Md_unpack_110 : decode cc_Md_unpack 110 = .ok (.aload_n 0, 1) := by decide +kernel
theorem d_Md_unpack_111 : decode cc_Md_unpack 111 = .ok (.iconst 1, 1) := by decide +kernel
theorem d_Md_unpack_112 : decode cc_Md_unpack 112 = .ok (.putfield 102, 3) := by decide +kernel
theorem d_Md_unpack_115 : decode cc_Md_unpack 115 = .ok (.aload_n 0, 1) := by decide +kernel
theorem d_Md_unpack_116 : decode cc_Md_unpack 116 = .ok (.getfield 102, 3) := by decide +kernel
theorem d_Md_unpack_119 : decode cc_Md_unpack 119 = .ok (.ifCond .eq (7), 3) := by decide +kernel
theorem d_Md_unpack_122 : decode cc_Md_unpack 122 = .ok (.iconst (-1), 1) := by decide +kernel
theorem d_Md_unpack_123 : decode cc_Md_unpack 123 = .ok (.iload_n 1, 1) := by decide +kernel
theorem d_Md_unpack_124 : decode cc_Md_unpack 124 = .ok (.isub, 1) := by decide +kernel
theorem d_Md_unpack_125 : decode cc_Md_unpack 125 = .ok (.ireturn, 1) := by decide +kernel
theorem d_Md_unpack_126 : decode cc_Md_unpack 126 = .ok (.goto (-111), 3) := by decide +kernel
theorem d_Md_unpack_129 : decode cc_Md_unpack 129 = .ok (.aload_n 0, 1) := by decide +kernel
theorem d_Md_unpack_130 : decode cc_Md_unpack 130 = .ok (.aload_n 0, 1) := by decide +kernel
theorem d_Md_unpack_131 : decode cc_Md_unpack 131 = .ok (.getfield 106, 3) := by decide +kernel
theorem d_Md_unpack_134 : decode cc_Md_unpack 134 = .ok (.putfield 86, 3) := by decide +kernel
theorem d_Md_unpack_137 : decode cc_Md_unpack 137 = .ok (.iconst 0, 1) := by decide +kernel
theorem d_Md_unpack_138 : decode cc_Md_unpack 138 = .ok (.istore_n 1, 1) := by decide +kernel
theorem d_Md_unpack_139 : decode cc_Md_unpack 139 = .ok (.iload_n 1, 1) := by decide +kernel
theorem d_Md_unpack_140 : decode cc_Md_unpack 140 = .ok (.aload_n 0, 1) := by decide +kernel
theorem d_Md_unpack_141 : decode cc_Md_unpack 141 = .ok (.getfield 106, 3) := by decide +kernel
theorem d_Md_unpack_144 : decode cc_Md_unpack 144 = .ok (.if_icmp .ge (21), 3) := by decide +kernel
theorem d_Md_unpack_147 : decode cc_Md_unpack 147 = .ok (.aload_n 0, 1) := by decide +kernel
theorem d_Md_unpack_148 : decode cc_Md_unpack 148 = .ok (.getfield 7, 3) := by decide +kernel
theorem d_Md_unpack_151 : decode cc_Md_unpack 151 = .ok (.iload_n 1, 1) := by decide +kernel
theorem d_Md_unpack_152 : decode cc_Md_unpack 152 = .ok (.aload_n 0, 1) := by decide +kernel
theorem d_Md_unpack_153 : decode cc_Md_unpack 153 = .ok (.getfield 16, 3) := by decide +kernel
theorem d_Md_unpack_156 : decode cc_Md_unpack 156 = .ok (.iload_n 1, 1) := by decide +kernel
theorem d_Md_unpack_157 : decode cc_Md_unpack 157 = .ok (.iaload, 1) := by decide +kernel
theorem d_Md_unpack_158 : decode cc_Md_unpack 158 = .ok (.iastore, 1) := by decide +kernel
theorem d_Md_unpack_159 : decode cc_Md_unpack 159 = .ok (.iinc 1 (1), 3) := by decide +kernel
theorem d_Md_unpack_162 : decode cc_Md_unpack 162 = .ok (.goto (-23), 3) := by decide +kernel
theorem d_Md_unpack_165 : decode cc_Md_unpack 165 = .ok (.aload_n 0, 1) := by decide +kernel
theorem d_Md_unpack_166 : decode cc_Md_unpack 166 = .ok (.getfield 106, 3) := by decide +kernel
theorem d_Md_unpack_169 : decode cc_Md_unpack 169 = .ok (.ireturn, 1) := by decide +kernel
section
variable {p : Program} {l : Launch} {e : Env} {s : State} {m : MethodId} {args : Array Value} {below : List Frame} {meth : Method} {c : Code} {X : Xs} {L : La}
def b_Md_unpack_139 (L : La) (k139 : Nat → Int32 → Mem → Option (Int32 × Mem)) (i0 : Nat) (x1 : Int32) (F : Mem) : Option (Int32 × Mem) :=
  if (F i0 6) ≤ x1 then
    some (F i0 6, F)
  else
    if inb x1 (mGl L (mRf L i0 7)) then none else
    if inb x1 (mLn L (mRf L i0 0)) ∨ ¬ (mRf L i0 0) < mNc L then none else
    lt' (u2 F (mRf L i0 0) x1.toNatClampNeg (mGa L F (mRf L i0 7) x1.toNatClampNeg)) fun F5 =>
    k139 i0 (x1 + (1 : Int32)) F5
set_option maxHeartbeats 4000000 in
theorem t_Md_unpack_139 (hC : Cx X L p s m args meth c cc_Md_unpack 4 w_Md_unpack R_Md (some .int)) {k139 : Nat → Int32 → Mem → Option (Int32 × Mem)} {out : (Int32 × Mem)} (hk139 : ∀ (i0 : Nat) (x1 : Int32) (F : Mem) (H : Heap) (locs : List Loc) (ls : Array Slot), oO L 12 i0 → Iv X L s H locs F → lv_has ls 4 [(0, .ref (mAd X i0)), (1, .int x1)] → k139 i0 x1 F = some out → W p l e (headSpec w_Md_unpack r_Md_unpack).room s m args below meth c H locs 0 0 (MQ below (QI X L out) args s 0 0 (AA X L)) (F0 m 139 ls [])) {i0 : Nat} {x1 : Int32} {F : Mem} {H : Heap} {locs : List Loc} {ls : Array Slot} (o0 : oO L 12 i0) (hI : Iv X L s H locs F) (hl : lv_has ls 4 [(0, .ref (mAd X i0)), (1, .int x1)]) (h : b_Md_unpack_139 L k139 i0 x1 F = some out) : W p l e (headSpec w_Md_unpack r_Md_unpack).room s m args below meth c H locs 0 0 (MQ below (QI X L out) args s 0 0 (AA X L)) (F0 m 139 ls []) := by
  unfold b_Md_unpack_139 at h
  obtain ⟨S, hK, hT, hW, hr, hlk⟩ := id hC
  have hx := S.1
  have hb := S.2.1
  refine lv_iload_n hx hb d_Md_unpack_139 rfl (lv_at hl 1 rfl) ?_
  refine lv_aload_n hx hb d_Md_unpack_140 rfl (lv_at hl 0 rfl) ?_
  refine w_getI (T := T_Md) S hK hI o0 rfl hin_Md 6 (index := 106) (by decide) lf_Md_106 d_Md_unpack_141 ?_
  refine lv_icmp_ge (tgt := 165) hx hb d_Md_unpack_144 rfl (fun hc => ?_) (fun hc => ?_)
  · replace h := (if_pos hc).symm.trans h
    refine lv_aload_n hx hb d_Md_unpack_165 rfl (lv_at hl 0 rfl) ?_
    refine w_getI (T := T_Md) S hK hI o0 rfl hin_Md 6 (index := 106) (by decide) lf_Md_106 d_Md_unpack_166 ?_
    exact w_iret S hK hr hlk hI d_Md_unpack_169 h
  · replace h := (if_neg hc).symm.trans h
    refine lv_aload_n hx hb d_Md_unpack_147 rfl (lv_at hl 0 rfl) ?_
    have p1 := wt_a hW o0 0 rfl (by decide) (by decide)
    refine w_getR (T := T_Md) S hK hI o0 rfl hin_Md 0 (index := 7) (by decide) lf_Md_7 d_Md_unpack_148 ?_
    refine lv_iload_n hx hb d_Md_unpack_151 rfl (lv_at hl 1 rfl) ?_
    refine lv_aload_n hx hb d_Md_unpack_152 rfl (lv_at hl 0 rfl) ?_
    have p2 := wt_a hW o0 7 rfl (by decide) (by decide)
    refine w_getR (T := T_Md) S hK hI o0 rfl hin_Md 7 (index := 16) (by decide) lf_Md_16 d_Md_unpack_153 ?_
    refine lv_iload_n hx hb d_Md_unpack_156 rfl (lv_at hl 1 rfl) ?_
    obtain ⟨z3, h⟩ := un_if h
    refine w_iald S hK hI hT p2 z3 d_Md_unpack_157 ?_
    obtain ⟨z4, h⟩ := un_if h
    refine w_iast S hK hI p1 z4 d_Md_unpack_158 (fun H locs F5 e6 hI => ?_)
    replace h := un_lt h _ e6
    refine lv_iinc (k := 1) (v := x1 + (1 : Int32)) (lv' := [(1, .int (x1 + (1 : Int32))), (0, .ref (mAd X i0))]) hx hb d_Md_unpack_159 hl rfl rfl (by decide) rfl (fun ls hl => ?_)
    refine lv_goto (tgt := 139) hx hb d_Md_unpack_162 rfl ?_
    exact hk139 _ _ _ _ _ _ o0 hI (lv_sub hl [1, 0] rfl) h
def f_Md_unpack_139 (L : La)  : Nat → Nat → Int32 → Mem → Option (Int32 × Mem)
  | 0 => fun _ _ _ => none
  | n + 1 => b_Md_unpack_139 L (f_Md_unpack_139 L  n)
theorem tf_Md_unpack_139 (hC : Cx X L p s m args meth c cc_Md_unpack 4 w_Md_unpack R_Md (some .int))  {out : (Int32 × Mem)}  (n : Nat) : ∀ (i0 : Nat) (x1 : Int32) (F : Mem) (H : Heap) (locs : List Loc) (ls : Array Slot), oO L 12 i0 → Iv X L s H locs F → lv_has ls 4 [(0, .ref (mAd X i0)), (1, .int x1)] → f_Md_unpack_139 L  n i0 x1 F = some out → W p l e (headSpec w_Md_unpack r_Md_unpack).room s m args below meth c H locs 0 0 (MQ below (QI X L out) args s 0 0 (AA X L)) (F0 m 139 ls []) := by
  induction n with
  | zero => intro i0 x1 F H locs ls o0 hI hl h; cases h
  | succ n ih => intro i0 x1 F H locs ls o0 hI hl h; exact t_Md_unpack_139 hC ih o0 hI hl h
def b_Md_unpack_115 (L : La) (k15 : Nat → Mem → Option (Int32 × Mem)) (i0 : Nat) (x1 : Int32) (F : Mem) : Option (Int32 × Mem) :=
  if (F i0 5) = 0 then
    k15 i0 F
  else
    some ((-1 : Int32) - x1, F)
set_option maxHeartbeats 4000000 in
theorem t_Md_unpack_115 (hC : Cx X L p s m args meth c cc_Md_unpack 4 w_Md_unpack R_Md (some .int)) {k15 : Nat → Mem → Option (Int32 × Mem)} {out : (Int32 × Mem)} (hk15 : ∀ (i0 : Nat) (F : Mem) (H : Heap) (locs : List Loc) (ls : Array Slot), oO L 12 i0 → Iv X L s H locs F → lv_has ls 4 [(0, .ref (mAd X i0))] → k15 i0 F = some out → W p l e (headSpec w_Md_unpack r_Md_unpack).room s m args below meth c H locs 0 0 (MQ below (QI X L out) args s 0 0 (AA X L)) (F0 m 15 ls [])) {i0 : Nat} {x1 : Int32} {F : Mem} {H : Heap} {locs : List Loc} {ls : Array Slot} (o0 : oO L 12 i0) (hI : Iv X L s H locs F) (hl : lv_has ls 4 [(0, .ref (mAd X i0)), (1, .int x1)]) (h : b_Md_unpack_115 L k15 i0 x1 F = some out) : W p l e (headSpec w_Md_unpack r_Md_unpack).room s m args below meth c H locs 0 0 (MQ below (QI X L out) args s 0 0 (AA X L)) (F0 m 115 ls []) := by
  unfold b_Md_unpack_115 at h
  obtain ⟨S, hK, hT, hW, hr, hlk⟩ := id hC
  have hx := S.1
  have hb := S.2.1
  refine lv_aload_n hx hb d_Md_unpack_115 rfl (lv_at hl 0 rfl) ?_
  refine w_getI (T := T_Md) S hK hI o0 rfl hin_Md 5 (index := 102) (by decide) lf_Md_102 d_Md_unpack_116 ?_
  refine lv_if_eq (tgt := 126) hx hb d_Md_unpack_119 rfl (fun hc => ?_) (fun hc => ?_)
  · replace h := (if_pos hc).symm.trans h
    refine lv_goto (tgt := 15) hx hb d_Md_unpack_126 rfl ?_
    exact hk15 _ _ _ _ _ o0 hI (lv_sub hl [0] rfl) h
  · replace h := (if_neg hc).symm.trans h
    refine lv_iconst (v := -1) hx hb d_Md_unpack_122 rfl ?_
    refine lv_iload_n hx hb d_Md_unpack_123 rfl (lv_at hl 1 rfl) ?_
    refine lv_isub hx hb d_Md_unpack_124 ?_
    exact w_iret S hK hr hlk hI d_Md_unpack_125 h
def b_Md_unpack_81 (L : La) (k15 : Nat → Mem → Option (Int32 × Mem)) (i0 : Nat) (x1 : Int32) (x3 : Int32) (j0 : Nat) (y1 : Int32) (F : Mem) : Option (Int32 × Mem) :=
  if ¬ (y1 = 0 ∨ y1 = 1) then none else
  lt' (u2 F j0 5 y1) fun F1 =>
  lt' (u2 F1 i0 4 ((F1 i0 4) + x3)) fun F4 =>
  b_Md_unpack_115 L k15 i0 x1 F4
set_option maxHeartbeats 4000000 in
theorem t_Md_unpack_81 (hC : Cx X L p s m args meth c cc_Md_unpack 4 w_Md_unpack R_Md (some .int)) {k15 : Nat → Mem → Option (Int32 × Mem)} {out : (Int32 × Mem)} (hk15 : ∀ (i0 : Nat) (F : Mem) (H : Heap) (locs : List Loc) (ls : Array Slot), oO L 12 i0 → Iv X L s H locs F → lv_has ls 4 [(0, .ref (mAd X i0))] → k15 i0 F = some out → W p l e (headSpec w_Md_unpack r_Md_unpack).room s m args below meth c H locs 0 0 (MQ below (QI X L out) args s 0 0 (AA X L)) (F0 m 15 ls [])) {i0 : Nat} {x1 : Int32} {x3 : Int32} {j0 : Nat} {y1 : Int32} {F : Mem} {H : Heap} {locs : List Loc} {ls : Array Slot} (o0 : oO L 12 i0) (oy0 : oO L 12 j0) (hI : Iv X L s H locs F) (hl : lv_has ls 4 [(0, .ref (mAd X i0)), (1, .int x1), (3, .int x3)]) (h : b_Md_unpack_81 L k15 i0 x1 x3 j0 y1 F = some out) : W p l e (headSpec w_Md_unpack r_Md_unpack).room s m args below meth c H locs 0 0 (MQ below (QI X L out) args s 0 0 (AA X L)) (F0 m 81 ls [.int y1, .ref (mAd X j0)]) := by
  unfold b_Md_unpack_81 at h
  obtain ⟨S, hK, hT, hW, hr, hlk⟩ := id hC
  have hx := S.1
  have hb := S.2.1
  obtain ⟨z3, h⟩ := un_if h
  refine w_putZ (T := T_Md) S hK hI oy0 rfl hin_Md ty_Md tk_Md nm_Md 5 (index := 102) (by decide) lf_Md_102 rfl z3 d_Md_unpack_81 (fun H locs F1 e2 hI => ?_)
  replace h := un_lt h _ e2
  refine lv_aload_n hx hb d_Md_unpack_84 rfl (lv_at hl 0 rfl) ?_
  refine lv_dup hx hb d_Md_unpack_85 rfl ?_
  refine w_getI (T := T_Md) S hK hI o0 rfl hin_Md 4 (index := 99) (by decide) lf_Md_99 d_Md_unpack_86 ?_
  refine lv_iload_n hx hb d_Md_unpack_89 rfl (lv_at hl 2 rfl) ?_
  refine lv_iadd hx hb d_Md_unpack_90 ?_
  refine w_putI (T := T_Md) S hK hI o0 rfl hin_Md ty_Md tk_Md nm_Md 4 (index := 99) (by decide) lf_Md_99 rfl d_Md_unpack_91 (fun H locs F4 e5 hI => ?_)
  replace h := un_lt h _ e5
  refine lv_goto (tgt := 115) hx hb d_Md_unpack_94 rfl ?_
  exact t_Md_unpack_115 hC hk15 o0 hI (lv_sub hl [0, 1] rfl) h
def b_Md_unpack_76 (L : La) (k15 : Nat → Mem → Option (Int32 × Mem)) (i0 : Nat) (x1 : Int32) (x3 : Int32) (j0 : Nat) (F : Mem) : Option (Int32 × Mem) :=
  b_Md_unpack_81 L k15 i0 x1 x3 j0 (1 : Int32) F
set_option maxHeartbeats 4000000 in
theorem t_Md_unpack_76 (hC : Cx X L p s m args meth c cc_Md_unpack 4 w_Md_unpack R_Md (some .int)) {k15 : Nat → Mem → Option (Int32 × Mem)} {out : (Int32 × Mem)} (hk15 : ∀ (i0 : Nat) (F : Mem) (H : Heap) (locs : List Loc) (ls : Array Slot), oO L 12 i0 → Iv X L s H locs F → lv_has ls 4 [(0, .ref (mAd X i0))] → k15 i0 F = some out → W p l e (headSpec w_Md_unpack r_Md_unpack).room s m args below meth c H locs 0 0 (MQ below (QI X L out) args s 0 0 (AA X L)) (F0 m 15 ls [])) {i0 : Nat} {x1 : Int32} {x3 : Int32} {j0 : Nat} {F : Mem} {H : Heap} {locs : List Loc} {ls : Array Slot} (o0 : oO L 12 i0) (oy0 : oO L 12 j0) (hI : Iv X L s H locs F) (hl : lv_has ls 4 [(0, .ref (mAd X i0)), (1, .int x1), (3, .int x3)]) (h : b_Md_unpack_76 L k15 i0 x1 x3 j0 F = some out) : W p l e (headSpec w_Md_unpack r_Md_unpack).room s m args below meth c H locs 0 0 (MQ below (QI X L out) args s 0 0 (AA X L)) (F0 m 76 ls [.ref (mAd X j0)]) := by
  unfold b_Md_unpack_76 at h
  obtain ⟨S, hK, hT, hW, hr, hlk⟩ := id hC
  have hx := S.1
  have hb := S.2.1
  refine lv_iconst (v := 1) hx hb d_Md_unpack_76 rfl ?_
  refine lv_goto (tgt := 81) hx hb d_Md_unpack_77 rfl ?_
  exact t_Md_unpack_81 hC hk15 o0 oy0 hI hl h
def b_Md_unpack_15 (L : La) (k15 : Nat → Mem → Option (Int32 × Mem)) (i0 : Nat) (F : Mem) : Option (Int32 × Mem) :=
  if (F i0 3) ≤ (F i0 4) then
    lt' (u2 F i0 1 (F i0 6)) fun F1 =>
    f_Md_unpack_139 L  mFU i0 (0 : Int32) F1
  else
    (f_Md_next L i0 (F i0 3) F).bind fun q3 =>
    if q3.1 = (83 : Int32) then
      (f_Md_next L i0 (q3.2 i0 3) q3.2).bind fun q10 =>
      if (q10.2 i0 5) = 0 then
        if ((q10.2 i0 4) + q10.1) ≤ (q10.2 i0 3) then
          b_Md_unpack_81 L k15 i0 (F i0 4) q10.1 i0 (0 : Int32) q10.2
        else
          b_Md_unpack_76 L k15 i0 (F i0 4) q10.1 i0 q10.2
      else
        b_Md_unpack_76 L k15 i0 (F i0 4) q10.1 i0 q10.2
    else
      if q3.1 = (90 : Int32) then
        (f_Md_frame L i0 q3.2).bind fun F8 =>
        b_Md_unpack_115 L k15 i0 (F i0 4) F8
      else
        if ¬ ((1 : Int32) = 0 ∨ (1 : Int32) = 1) then none else
        lt' (u2 q3.2 i0 5 (1 : Int32)) fun F5 =>
        b_Md_unpack_115 L k15 i0 (F i0 4) F5
set_option maxHeartbeats 4000000 in
theorem t_Md_unpack_15 (hC : Cx X L p s m args meth c cc_Md_unpack 4 w_Md_unpack R_Md (some .int)) {k15 : Nat → Mem → Option (Int32 × Mem)} {out : (Int32 × Mem)} (hk15 : ∀ (i0 : Nat) (F : Mem) (H : Heap) (locs : List Loc) (ls : Array Slot), oO L 12 i0 → Iv X L s H locs F → lv_has ls 4 [(0, .ref (mAd X i0))] → k15 i0 F = some out → W p l e (headSpec w_Md_unpack r_Md_unpack).room s m args below meth c H locs 0 0 (MQ below (QI X L out) args s 0 0 (AA X L)) (F0 m 15 ls [])) {i0 : Nat} {F : Mem} {H : Heap} {locs : List Loc} {ls : Array Slot} (o0 : oO L 12 i0) (hI : Iv X L s H locs F) (hl : lv_has ls 4 [(0, .ref (mAd X i0))]) (h : b_Md_unpack_15 L k15 i0 F = some out) : W p l e (headSpec w_Md_unpack r_Md_unpack).room s m args below meth c H locs 0 0 (MQ below (QI X L out) args s 0 0 (AA X L)) (F0 m 15 ls []) := by
  unfold b_Md_unpack_15 at h
  obtain ⟨S, hK, hT, hW, hr, hlk⟩ := id hC
  have hx := S.1
  have hb := S.2.1
  refine lv_aload_n hx hb d_Md_unpack_15 rfl (lv_at hl 0 rfl) ?_
  refine w_getI (T := T_Md) S hK hI o0 rfl hin_Md 4 (index := 99) (by decide) lf_Md_99 d_Md_unpack_16 ?_
  refine lv_aload_n hx hb d_Md_unpack_19 rfl (lv_at hl 0 rfl) ?_
  refine w_getI (T := T_Md) S hK hI o0 rfl hin_Md 3 (index := 90) (by decide) lf_Md_90 d_Md_unpack_20 ?_
  refine lv_icmp_ge (tgt := 129) hx hb d_Md_unpack_23 rfl (fun hc => ?_) (fun hc => ?_)
  · replace h := (if_pos hc).symm.trans h
    refine lv_aload_n hx hb d_Md_unpack_129 rfl (lv_at hl 0 rfl) ?_
    refine lv_aload_n hx hb d_Md_unpack_130 rfl (lv_at hl 0 rfl) ?_
    refine w_getI (T := T_Md) S hK hI o0 rfl hin_Md 6 (index := 106) (by decide) lf_Md_106 d_Md_unpack_131 ?_
    refine w_putI (T := T_Md) S hK hI o0 rfl hin_Md ty_Md tk_Md nm_Md 1 (index := 86) (by decide) lf_Md_86 rfl d_Md_unpack_134 (fun H locs F1 e2 hI => ?_)
    replace h := un_lt h _ e2
    refine lv_iconst (v := 0) hx hb d_Md_unpack_137 rfl ?_
    refine lv_istore_n (lv' := [(1, .int (0 : Int32)), (0, .ref (mAd X i0))]) hx hb d_Md_unpack_138 rfl hl (by decide) rfl (fun ls hl => ?_)
    exact tf_Md_unpack_139 hC  mFU _ _ _ _ _ _ o0 hI (lv_sub hl [1, 0] rfl) h
  · replace h := (if_neg hc).symm.trans h
    refine lv_aload_n hx hb d_Md_unpack_26 rfl (lv_at hl 0 rfl) ?_
    refine w_getI (T := T_Md) S hK hI o0 rfl hin_Md 4 (index := 99) (by decide) lf_Md_99 d_Md_unpack_27 ?_
    refine lv_istore_n (lv' := [(1, .int (F i0 4)), (0, .ref (mAd X i0))]) hx hb d_Md_unpack_30 rfl hl (by decide) rfl (fun ls hl => ?_)
    refine lv_aload_n hx hb d_Md_unpack_31 rfl (lv_at hl 1 rfl) ?_
    refine lv_aload_n hx hb d_Md_unpack_32 rfl (lv_at hl 1 rfl) ?_
    refine w_getI (T := T_Md) S hK hI o0 rfl hin_Md 3 (index := 90) (by decide) lf_Md_90 d_Md_unpack_33 ?_
    obtain ⟨q3, e4, h⟩ := un_bi h
    refine w_callVi (As := [.int (F i0 3)]) (rest := []) S hK hI hT (c_Md_next l hW o0 e4) (cwV 1 S.2.2.2.2 (gd_V lc_Md_next lm_Md_125 li_Md_next ls_Md_next ln_Md) rfl rfl rfl hd_Md_next ⟨Nat.le_of_ble_eq_true rfl, Nat.le_of_ble_eq_true rfl⟩) o0 rfl (by decide) rfl rfl hl.1 (Nat.le_of_ble_eq_true rfl) d_Md_unpack_36 ⟨Nat.zero_le _, Nat.zero_le _⟩ (fun H locs hI => ?_)
    refine lv_istore_n (lv' := [(2, .int q3.1), (1, .int (F i0 4)), (0, .ref (mAd X i0))]) hx hb d_Md_unpack_39 rfl hl (by decide) rfl (fun ls hl => ?_)
    refine lv_iload_n hx hb d_Md_unpack_40 rfl (lv_at hl 0 rfl) ?_
    refine lv_bipush (v := 83) hx hb d_Md_unpack_41 (by decide) ?_
    refine lv_icmp_ne (tgt := 97) hx hb d_Md_unpack_43 rfl (fun hc => ?_) (fun hc => ?_)
    · replace h := (if_neg hc).symm.trans h
      refine lv_iload_n hx hb d_Md_unpack_97 rfl (lv_at hl 0 rfl) ?_
      refine lv_bipush (v := 90) hx hb d_Md_unpack_98 (by decide) ?_
      refine lv_icmp_ne (tgt := 110) hx hb d_Md_unpack_100 rfl (fun hc => ?_) (fun hc => ?_)
      · replace h := (if_neg hc).symm.trans h
        refine lv_aload_n hx hb d_Md_unpack_110 rfl (lv_at hl 2 rfl) ?_
        refine lv_iconst (v := 1) hx hb d_Md_unpack_111 rfl ?_
        obtain ⟨z7, h⟩ := un_if h
        refine w_putZ (T := T_Md) S hK hI o0 rfl hin_Md ty_Md tk_Md nm_Md 5 (index := 102) (by decide) lf_Md_102 rfl z7 d_Md_unpack_112 (fun H locs F5 e6 hI => ?_)
        replace h := un_lt h _ e6
        exact t_Md_unpack_115 hC hk15 o0 hI (lv_sub hl [2, 1] rfl) h
      · replace h := (if_pos hc).symm.trans h
        refine lv_aload_n hx hb d_Md_unpack_103 rfl (lv_at hl 2 rfl) ?_
        obtain ⟨F8, e9, h⟩ := un_bi h
        refine w_callVv (As := []) (rest := []) S hK hI hT (c_Md_frame l hW o0 e9) (cwV 0 S.2.2.2.2 (gd_V lc_Md_frame lm_Md_128 li_Md_frame ls_Md_frame ln_Md) rfl rfl rfl hd_Md_frame ⟨Nat.le_of_ble_eq_true rfl, Nat.le_of_ble_eq_true rfl⟩) o0 rfl (by decide) rfl rfl hl.1 (Nat.le_of_ble_eq_true rfl) d_Md_unpack_104 ⟨Nat.zero_le _, Nat.zero_le _⟩ (fun H locs hI => ?_)
        refine lv_goto (tgt := 115) hx hb d_Md_unpack_107 rfl ?_
        exact t_Md_unpack_115 hC hk15 o0 hI (lv_sub hl [2, 1] rfl) h
    · replace h := (if_pos hc).symm.trans h
      refine lv_aload_n hx hb d_Md_unpack_46 rfl (lv_at hl 2 rfl) ?_
      refine lv_aload_n hx hb d_Md_unpack_47 rfl (lv_at hl 2 rfl) ?_
      refine w_getI (T := T_Md) S hK hI o0 rfl hin_Md 3 (index := 90) (by decide) lf_Md_90 d_Md_unpack_48 ?_
      obtain ⟨q10, e11, h⟩ := un_bi h
      refine w_callVi (As := [.int (q3.2 i0 3)]) (rest := []) S hK hI hT (c_Md_next l hW o0 e11) (cwV 1 S.2.2.2.2 (gd_V lc_Md_next lm_Md_125 li_Md_next ls_Md_next ln_Md) rfl rfl rfl hd_Md_next ⟨Nat.le_of_ble_eq_true rfl, Nat.le_of_ble_eq_true rfl⟩) o0 rfl (by decide) rfl rfl hl.1 (Nat.le_of_ble_eq_true rfl) d_Md_unpack_51 ⟨Nat.zero_le _, Nat.zero_le _⟩ (fun H locs hI => ?_)
      refine lv_istore_n (lv' := [(3, .int q10.1), (2, .int q3.1), (1, .int (F i0 4)), (0, .ref (mAd X i0))]) hx hb d_Md_unpack_54 rfl hl (by decide) rfl (fun ls hl => ?_)
      refine lv_aload_n hx hb d_Md_unpack_55 rfl (lv_at hl 3 rfl) ?_
      refine lv_aload_n hx hb d_Md_unpack_56 rfl (lv_at hl 3 rfl) ?_
      refine w_getI (T := T_Md) S hK hI o0 rfl hin_Md 5 (index := 102) (by decide) lf_Md_102 d_Md_unpack_57 ?_
      refine lv_if_ne (tgt := 76) hx hb d_Md_unpack_60 rfl (fun hc => ?_) (fun hc => ?_)
      · replace h := (if_neg hc).symm.trans h
        exact t_Md_unpack_76 hC hk15 o0 o0 hI (lv_sub hl [3, 2, 0] rfl) h
      · replace h := (if_pos hc).symm.trans h
        refine lv_aload_n hx hb d_Md_unpack_63 rfl (lv_at hl 3 rfl) ?_
        refine w_getI (T := T_Md) S hK hI o0 rfl hin_Md 4 (index := 99) (by decide) lf_Md_99 d_Md_unpack_64 ?_
        refine lv_iload_n hx hb d_Md_unpack_67 rfl (lv_at hl 0 rfl) ?_
        refine lv_iadd hx hb d_Md_unpack_68 ?_
        refine lv_aload_n hx hb d_Md_unpack_69 rfl (lv_at hl 3 rfl) ?_
        refine w_getI (T := T_Md) S hK hI o0 rfl hin_Md 3 (index := 90) (by decide) lf_Md_90 d_Md_unpack_70 ?_
        refine lv_icmp_le (tgt := 80) hx hb d_Md_unpack_73 rfl (fun hc => ?_) (fun hc => ?_)
        · replace h := (if_pos hc).symm.trans h
          refine lv_iconst (v := 0) hx hb d_Md_unpack_80 rfl ?_
          exact t_Md_unpack_81 hC hk15 o0 o0 hI (lv_sub hl [3, 2, 0] rfl) h
        · replace h := (if_neg hc).symm.trans h
          exact t_Md_unpack_76 hC hk15 o0 o0 hI (lv_sub hl [3, 2, 0] rfl) h
def f_Md_unpack_15 (L : La)  : Nat → Nat → Mem → Option (Int32 × Mem)
  | 0 => fun _ _ => none
  | n + 1 => b_Md_unpack_15 L (f_Md_unpack_15 L  n)
theorem tf_Md_unpack_15 (hC : Cx X L p s m args meth c cc_Md_unpack 4 w_Md_unpack R_Md (some .int))  {out : (Int32 × Mem)}  (n : Nat) : ∀ (i0 : Nat) (F : Mem) (H : Heap) (locs : List Loc) (ls : Array Slot), oO L 12 i0 → Iv X L s H locs F → lv_has ls 4 [(0, .ref (mAd X i0))] → f_Md_unpack_15 L  n i0 F = some out → W p l e (headSpec w_Md_unpack r_Md_unpack).room s m args below meth c H locs 0 0 (MQ below (QI X L out) args s 0 0 (AA X L)) (F0 m 15 ls []) := by
  induction n with
  | zero => intro i0 F H locs ls o0 hI hl h; cases h
  | succ n ih => intro i0 F H locs ls o0 hI hl h; exact t_Md_unpack_15 hC ih o0 hI hl h
def f_Md_unpack (L : La) (i0 : Nat) (F : Mem) : Option (Int32 × Mem) :=
  lt' (u2 F i0 4 (0 : Int32)) fun F1 =>
  lt' (u2 F1 i0 6 (0 : Int32)) fun F3 =>
  if ¬ ((0 : Int32) = 0 ∨ (0 : Int32) = 1) then none else
  lt' (u2 F3 i0 5 (0 : Int32)) fun F5 =>
  f_Md_unpack_15 L  mFU i0 F5
set_option maxHeartbeats 4000000 in
theorem c_Md_unpack (l : Launch) {X : Xs} {L : La} (hW : WT L) {out : (Int32 × Mem)} {i0 : Nat} {F : Mem} (o0 : oO L 12 i0) (h : f_Md_unpack L i0 F = some out) : Met l y_Md_unpack w_Md_unpack r_Md_unpack (va_Pc [.ref (mAd X i0)] (Pr X L F)) (QI X L out) 0 0 (AA X L) := by
  refine mk_met (by decide) rfl (Nat.le_of_ble_eq_true rfl) hW ?_
  intro p e s m args below meth c ls hC hI hl
  have hl : lv_has ls 4 [(0, .ref (mAd X i0))] := hl
  generalize hHe : s.heap = H at hI ⊢
  generalize ([] : List Loc) = locs at hI ⊢
  unfold f_Md_unpack at h
  obtain ⟨S, hK, hT, hW, hr, hlk⟩ := id hC
  have hx := S.1
  have hb := S.2.1
  refine lv_aload_n hx hb d_Md_unpack_0 rfl (lv_at hl 0 rfl) ?_
  refine lv_iconst (v := 0) hx hb d_Md_unpack_1 rfl ?_
  refine w_putI (T := T_Md) S hK hI o0 rfl hin_Md ty_Md tk_Md nm_Md 4 (index := 99) (by decide) lf_Md_99 rfl d_Md_unpack_2 (fun H locs F1 e2 hI => ?_)
  replace h := un_lt h _ e2
  refine lv_aload_n hx hb d_Md_unpack_5 rfl (lv_at hl 0 rfl) ?_
  refine lv_iconst (v := 0) hx hb d_Md_unpack_6 rfl ?_
  refine w_putI (T := T_Md) S hK hI o0 rfl hin_Md ty_Md tk_Md nm_Md 6 (index := 106) (by decide) lf_Md_106 rfl d_Md_unpack_7 (fun H locs F3 e4 hI => ?_)
  replace h := un_lt h _ e4
  refine lv_aload_n hx hb d_Md_unpack_10 rfl (lv_at hl 0 rfl) ?_
  refine lv_iconst (v := 0) hx hb d_Md_unpack_11 rfl ?_
  obtain ⟨z7, h⟩ := un_if h
  refine w_putZ (T := T_Md) S hK hI o0 rfl hin_Md ty_Md tk_Md nm_Md 5 (index := 102) (by decide) lf_Md_102 rfl z7 d_Md_unpack_12 (fun H locs F5 e6 hI => ?_)
  replace h := un_lt h _ e6
  exact tf_Md_unpack_15 hC  mFU _ _ _ _ _ o0 hI hl h
end
theorem d_Md_allSame_0 : decode cc_Md_allSame 0 = .ok (.iload_n 1, 1) := by decide +kernel
theorem d_Md_allSame_1 : decode cc_Md_allSame 1 = .ok (.ifCond .eq (10), 3) := by decide +kernel
theorem d_Md_allSame_4 : decode cc_Md_allSame 4 = .ok (.aload_n 0, 1) := by decide +kernel
theorem d_Md_allSame_5 : decode cc_Md_allSame 5 = .ok (.getfield 150, 3) := by decide +kernel
theorem d_Md_allSame_8 : decode cc_Md_allSame 8 = .ok (.goto (7), 3) := by decide +kernel
theorem d_Md_allSame_11 : decode cc_Md_allSame 11 = .ok (.aload_n 0, 1) := by decide +kernel
theorem d_Md_allSame_12 : decode cc_Md_allSame 12 = .ok (.getfield 86, 3) := by decide +kernel
theorem d_Md_allSame_15 : decode cc_Md_allSame 15 = .ok (.istore_n 2, 1) := by decide +kernel
theorem d_Md_allSame_16 : decode cc_Md_allSame 16 = .ok (.iconst 1, 1) := by decide +kernel
theorem d_Md_allSame_17 : decode cc_Md_allSame 17 = .ok (.istore_n 3, 1) := by decide +kernel
theorem d_Md_allSame_18 : decode cc_Md_allSame 18 = .ok (.iconst 1, 1) := by decide +kernel
theorem d_Md_allSame_19 : decode cc_Md_allSame 19 = .ok (.istore 4, 2) := by decide +kernel
theorem d_Md_allSame_21 : decode cc_Md_allSame 21 = .ok (.iload 4, 2) := by decide +kernel
theorem d_Md_allSame_23 : decode cc_Md_allSame 23 = .ok (.iload_n 2, 1) := by decide +kernel
theorem d_Md_allSame_24 : decode cc_Md_allSame 24 = .ok (.if_icmp .ge (58), 3) := by decide +kernel
theorem d_Md_allSame_27 : decode cc_Md_allSame 27 = .ok (.iload_n 3, 1) := by decide +kernel
theorem d_Md_allSame_28 : decode cc_Md_allSame 28 = .ok (.ifCond .eq (46), 3) := by decide +kernel
theorem d_Md_allSame_31 : decode cc_Md_allSame 31 = .ok (.iload_n 1, 1) := by decide +kernel
theorem d_Md_allSame_32 : decode cc_Md_allSame 32 = .ok (.ifCond .eq (22), 3) := by decide +kernel
theorem d_Md_allSame_35 : decode cc_Md_allSame 35 = .ok (.aload_n 0, 1) := by decide +kernel
theorem d_Md_allSame_36 : decode cc_Md_allSame 36 = .ok (.getfield 22, 3) := by decide +kernel
theorem d_Md_allSame_39 : decode cc_Md_allSame 39 = .ok (.iload 4, 2) := by decide +kernel
theorem d_Md_allSame_41 : decode cc_Md_allSame 41 = .ok (.iaload, 1) := by decide +kernel
theorem d_Md_allSame_42 : decode cc_Md_allSame 42 = .ok (.aload_n 0, 1) := by decide +kernel
theorem d_Md_allSame_43 : decode cc_Md_allSame 43 = .ok (.getfield 22, 3) := by decide +kernel
theorem d_Md_allSame_46 : decode cc_Md_allSame 46 = .ok (.iconst 0, 1) := by decide +kernel
theorem d_Md_allSame_47 : decode cc_Md_allSame 47 = .ok (.iaload, 1) := by decide +kernel
theorem d_Md_allSame_48 : decode cc_Md_allSame 48 = .ok (.if_icmp .ne (26), 3) := by decide +kernel
theorem d_Md_allSame_51 : decode cc_Md_allSame 51 = .ok (.goto (19), 3) := by decide +kernel
theorem d_Md_allSame_54 : decode cc_Md_allSame 54 = .ok (.aload_n 0, 1) := by decide +kernel
theorem d_Md_allSame_55 : decode cc_Md_allSame 55 = .ok (.getfield 7, 3) := by decide +kernel
theorem d_Md_allSame_58 : decode cc_Md_allSame 58 = .ok (.iload 4, 2) := by decide +kernel
theorem d_Md_allSame_60 : decode cc_Md_allSame 60 = .ok (.iaload, 1) := by decide +kernel
theorem d_Md_allSame_61 : decode cc_Md_allSame 61 = .ok (.aload_n 0, 1) := by decide +kernel
theorem d_Md_allSame_62 : decode cc_Md_allSame 62 = .ok (.getfield 7, 3) := by decide +kernel
theorem d_Md_allSame_65 : decode cc_Md_allSame 65 = .ok (.iconst 0, 1) := by decide +kernel
theorem d_Md_allSame_66 : decode cc_Md_allSame 66 = .ok (.iaload, 1) := by decide +kernel
theorem d_Md_allSame_67 : decode cc_Md_allSame 67 = .ok (.if_icmp .ne (7), 3) := by decide +kernel
theorem d_Md_allSame_70 : decode cc_Md_allSame 70 = .ok (.iconst 1, 1) := by decide +kernel
theorem d_Md_allSame_71 : decode cc_Md_allSame 71 = .ok (.goto (4), 3) := by decide +kernel
theorem d_Md_allSame_74 : decode cc_Md_allSame 74 = .ok (.iconst 0, 1) := by decide +kernel
theorem d_Md_allSame_75 : decode cc_Md_allSame 75 = .ok (.istore_n 3, 1) := by decide +kernel
theorem d_Md_allSame_76 : decode cc_Md_allSame 76 = .ok (.iinc 4 (1), 3) := by decide +kernel
theorem d_Md_allSame_79 : decode cc_Md_allSame 79 = .ok (.goto (-58), 3) := by decide +kernel
theorem d_Md_allSame_82 : decode cc_Md_allSame 82 = .ok (.iload_n 3, 1) := by decide +kernel
theorem d_Md_allSame_83 : decode cc_Md_allSame 83 = .ok (.ireturn, 1) := by decide +kernel
section
variable {p : Program} {l : Launch} {e : Env} {s : State} {m : MethodId} {args : Array Value} {below : List Frame} {meth : Method} {c : Code} {X : Xs} {L : La}
def b_Md_allSame_75 (L : La) (k21 : Nat → Int32 → Int32 → Int32 → Int32 → Mem → Option (Int32 × Mem)) (i0 : Nat) (x1 : Int32) (x2 : Int32) (x4 : Int32) (y0 : Int32) (F : Mem) : Option (Int32 × Mem) :=
  k21 i0 x1 x2 y0 (x4 + (1 : Int32)) F
set_option maxHeartbeats 4000000 in
theorem t_Md_allSame_75 (hC : Cx X L p s m args meth c cc_Md_allSame 5 w_Md_allSame R_Md (some .boolean)) {k21 : Nat → Int32 → Int32 → Int32 → Int32 → Mem → Option (Int32 × Mem)} {out : (Int32 × Mem)} (hk21 : ∀ (i0 : Nat) (x1 : Int32) (x2 : Int32) (x3 : Int32) (x4 : Int32) (F : Mem) (H : Heap) (locs : List Loc) (ls : Array Slot), oO L 12 i0 → Iv X L s H locs F → lv_has ls 5 [(0, .ref (mAd X i0)), (1, .int x1), (2, .int x2), (3, .int x3), (4, .int x4)] → k21 i0 x1 x2 x3 x4 F = some out → W p l e (headSpec w_Md_allSame r_Md_allSame).room s m args below meth c H locs 0 0 (MQ below (QI X L out) args s 0 0 (AA X L)) (F0 m 21 ls [])) {i0 : Nat} {x1 : Int32} {x2 : Int32} {x4 : Int32} {y0 : Int32} {F : Mem} {H : Heap} {locs : List Loc} {ls : Array Slot} (o0 : oO L 12 i0) (hI : Iv X L s H locs F) (hl : lv_has ls 5 [(0, .ref (mAd X i0)), (1, .int x1), (2, .int x2), (4, .int x4)]) (h : b_Md_allSame_75 L k21 i0 x1 x2 x4 y0 F = some out) : W p l e (headSpec w_Md_allSame r_Md_allSame).room s m args below meth c H locs 0 0 (MQ below (QI X L out) args s 0 0 (AA X L)) (F0 m 75 ls [.int y0]) := by
  unfold b_Md_allSame_75 at h
  obtain ⟨S, hK, hT, hW, hr, hlk⟩ := id hC
  have hx := S.1
  have hb := S.2.1
  refine lv_istore_n (lv' := [(3, .int y0), (0, .ref (mAd X i0)), (1, .int x1), (2, .int x2), (4, .int x4)]) hx hb d_Md_allSame_75 rfl hl (by decide) rfl (fun ls hl => ?_)
  refine lv_iinc (k := 4) (v := x4 + (1 : Int32)) (lv' := [(4, .int (x4 + (1 : Int32))), (3, .int y0), (0, .ref (mAd X i0)), (1, .int x1), (2, .int x2)]) hx hb d_Md_allSame_76 hl rfl rfl (by decide) rfl (fun ls hl => ?_)
  refine lv_goto (tgt := 21) hx hb d_Md_allSame_79 rfl ?_
  exact hk21 _ _ _ _ _ _ _ _ _ o0 hI (lv_sub hl [2, 3, 4, 1, 0] rfl) h
def b_Md_allSame_74 (L : La) (k21 : Nat → Int32 → Int32 → Int32 → Int32 → Mem → Option (Int32 × Mem)) (i0 : Nat) (x1 : Int32) (x2 : Int32) (x4 : Int32) (F : Mem) : Option (Int32 × Mem) :=
  b_Md_allSame_75 L k21 i0 x1 x2 x4 (0 : Int32) F
set_option maxHeartbeats 4000000 in
theorem t_Md_allSame_74 (hC : Cx X L p s m args meth c cc_Md_allSame 5 w_Md_allSame R_Md (some .boolean)) {k21 : Nat → Int32 → Int32 → Int32 → Int32 → Mem → Option (Int32 × Mem)} {out : (Int32 × Mem)} (hk21 : ∀ (i0 : Nat) (x1 : Int32) (x2 : Int32) (x3 : Int32) (x4 : Int32) (F : Mem) (H : Heap) (locs : List Loc) (ls : Array Slot), oO L 12 i0 → Iv X L s H locs F → lv_has ls 5 [(0, .ref (mAd X i0)), (1, .int x1), (2, .int x2), (3, .int x3), (4, .int x4)] → k21 i0 x1 x2 x3 x4 F = some out → W p l e (headSpec w_Md_allSame r_Md_allSame).room s m args below meth c H locs 0 0 (MQ below (QI X L out) args s 0 0 (AA X L)) (F0 m 21 ls [])) {i0 : Nat} {x1 : Int32} {x2 : Int32} {x4 : Int32} {F : Mem} {H : Heap} {locs : List Loc} {ls : Array Slot} (o0 : oO L 12 i0) (hI : Iv X L s H locs F) (hl : lv_has ls 5 [(0, .ref (mAd X i0)), (1, .int x1), (2, .int x2), (4, .int x4)]) (h : b_Md_allSame_74 L k21 i0 x1 x2 x4 F = some out) : W p l e (headSpec w_Md_allSame r_Md_allSame).room s m args below meth c H locs 0 0 (MQ below (QI X L out) args s 0 0 (AA X L)) (F0 m 74 ls []) := by
  unfold b_Md_allSame_74 at h
  obtain ⟨S, hK, hT, hW, hr, hlk⟩ := id hC
  have hx := S.1
  have hb := S.2.1
  refine lv_iconst (v := 0) hx hb d_Md_allSame_74 rfl ?_
  exact t_Md_allSame_75 hC hk21 o0 hI hl h
def b_Md_allSame_70 (L : La) (k21 : Nat → Int32 → Int32 → Int32 → Int32 → Mem → Option (Int32 × Mem)) (i0 : Nat) (x1 : Int32) (x2 : Int32) (x4 : Int32) (F : Mem) : Option (Int32 × Mem) :=
  b_Md_allSame_75 L k21 i0 x1 x2 x4 (1 : Int32) F
set_option maxHeartbeats 4000000 in
theorem t_Md_allSame_70 (hC : Cx X L p s m args meth c cc_Md_allSame 5 w_Md_allSame R_Md (some .boolean)) {k21 : Nat → Int32 → Int32 → Int32 → Int32 → Mem → Option (Int32 × Mem)} {out : (Int32 × Mem)} (hk21 : ∀ (i0 : Nat) (x1 : Int32) (x2 : Int32) (x3 : Int32) (x4 : Int32) (F : Mem) (H : Heap) (locs : List Loc) (ls : Array Slot), oO L 12 i0 → Iv X L s H locs F → lv_has ls 5 [(0, .ref (mAd X i0)), (1, .int x1), (2, .int x2), (3, .int x3), (4, .int x4)] → k21 i0 x1 x2 x3 x4 F = some out → W p l e (headSpec w_Md_allSame r_Md_allSame).room s m args below meth c H locs 0 0 (MQ below (QI X L out) args s 0 0 (AA X L)) (F0 m 21 ls [])) {i0 : Nat} {x1 : Int32} {x2 : Int32} {x4 : Int32} {F : Mem} {H : Heap} {locs : List Loc} {ls : Array Slot} (o0 : oO L 12 i0) (hI : Iv X L s H locs F) (hl : lv_has ls 5 [(0, .ref (mAd X i0)), (1, .int x1), (2, .int x2), (4, .int x4)]) (h : b_Md_allSame_70 L k21 i0 x1 x2 x4 F = some out) : W p l e (headSpec w_Md_allSame r_Md_allSame).room s m args below meth c H locs 0 0 (MQ below (QI X L out) args s 0 0 (AA X L)) (F0 m 70 ls []) := by
  unfold b_Md_allSame_70 at h
  obtain ⟨S, hK, hT, hW, hr, hlk⟩ := id hC
  have hx := S.1
  have hb := S.2.1
  refine lv_iconst (v := 1) hx hb d_Md_allSame_70 rfl ?_
  refine lv_goto (tgt := 75) hx hb d_Md_allSame_71 rfl ?_
  exact t_Md_allSame_75 hC hk21 o0 hI hl h
def b_Md_allSame_21 (L : La) (k21 : Nat → Int32 → Int32 → Int32 → Int32 → Mem → Option (Int32 × Mem)) (i0 : Nat) (x1 : Int32) (x2 : Int32) (x3 : Int32) (x4 : Int32) (F : Mem) : Option (Int32 × Mem) :=
  if x2 ≤ x4 then
    if x3 = 0 ∨ x3 = 1 then some (x3, F) else none
  else
    if x3 = 0 then
      b_Md_allSame_74 L k21 i0 x1 x2 x4 F
    else
      if x1 = 0 then
        if inb x4 (mGl L (mRf L i0 0)) then none else
        if inb (0 : Int32) (mGl L (mRf L i0 0)) then none else
        if (mGa L F (mRf L i0 0) x4.toNatClampNeg) = (mGa L F (mRf L i0 0) (0 : Int32).toNatClampNeg) then
          b_Md_allSame_70 L k21 i0 x1 x2 x4 F
        else
          b_Md_allSame_74 L k21 i0 x1 x2 x4 F
      else
        if inb x4 (mGl L (mRf L i0 14)) then none else
        if inb (0 : Int32) (mGl L (mRf L i0 14)) then none else
        if (mGa L F (mRf L i0 14) x4.toNatClampNeg) = (mGa L F (mRf L i0 14) (0 : Int32).toNatClampNeg) then
          b_Md_allSame_70 L k21 i0 x1 x2 x4 F
        else
          b_Md_allSame_74 L k21 i0 x1 x2 x4 F
set_option maxHeartbeats 4000000 in
theorem t_Md_allSame_21 (hC : Cx X L p s m args meth c cc_Md_allSame 5 w_Md_allSame R_Md (some .boolean)) {k21 : Nat → Int32 → Int32 → Int32 → Int32 → Mem → Option (Int32 × Mem)} {out : (Int32 × Mem)} (hk21 : ∀ (i0 : Nat) (x1 : Int32) (x2 : Int32) (x3 : Int32) (x4 : Int32) (F : Mem) (H : Heap) (locs : List Loc) (ls : Array Slot), oO L 12 i0 → Iv X L s H locs F → lv_has ls 5 [(0, .ref (mAd X i0)), (1, .int x1), (2, .int x2), (3, .int x3), (4, .int x4)] → k21 i0 x1 x2 x3 x4 F = some out → W p l e (headSpec w_Md_allSame r_Md_allSame).room s m args below meth c H locs 0 0 (MQ below (QI X L out) args s 0 0 (AA X L)) (F0 m 21 ls [])) {i0 : Nat} {x1 : Int32} {x2 : Int32} {x3 : Int32} {x4 : Int32} {F : Mem} {H : Heap} {locs : List Loc} {ls : Array Slot} (o0 : oO L 12 i0) (hI : Iv X L s H locs F) (hl : lv_has ls 5 [(0, .ref (mAd X i0)), (1, .int x1), (2, .int x2), (3, .int x3), (4, .int x4)]) (h : b_Md_allSame_21 L k21 i0 x1 x2 x3 x4 F = some out) : W p l e (headSpec w_Md_allSame r_Md_allSame).room s m args below meth c H locs 0 0 (MQ below (QI X L out) args s 0 0 (AA X L)) (F0 m 21 ls []) := by
  unfold b_Md_allSame_21 at h
  obtain ⟨S, hK, hT, hW, hr, hlk⟩ := id hC
  have hx := S.1
  have hb := S.2.1
  refine lv_iload hx hb d_Md_allSame_21 (lv_at hl 4 rfl) ?_
  refine lv_iload_n hx hb d_Md_allSame_23 rfl (lv_at hl 2 rfl) ?_
  refine lv_icmp_ge (tgt := 82) hx hb d_Md_allSame_24 rfl (fun hc => ?_) (fun hc => ?_)
  · replace h := (if_pos hc).symm.trans h
    refine lv_iload_n hx hb d_Md_allSame_82 rfl (lv_at hl 3 rfl) ?_
    exact w_zret S hK hr hlk hI d_Md_allSame_83 h
  · replace h := (if_neg hc).symm.trans h
    refine lv_iload_n hx hb d_Md_allSame_27 rfl (lv_at hl 3 rfl) ?_
    refine lv_if_eq (tgt := 74) hx hb d_Md_allSame_28 rfl (fun hc => ?_) (fun hc => ?_)
    · replace h := (if_pos hc).symm.trans h
      exact t_Md_allSame_74 hC hk21 o0 hI (lv_sub hl [0, 1, 2, 4] rfl) h
    · replace h := (if_neg hc).symm.trans h
      refine lv_iload_n hx hb d_Md_allSame_31 rfl (lv_at hl 1 rfl) ?_
      refine lv_if_eq (tgt := 54) hx hb d_Md_allSame_32 rfl (fun hc => ?_) (fun hc => ?_)
      · replace h := (if_pos hc).symm.trans h
        refine lv_aload_n hx hb d_Md_allSame_54 rfl (lv_at hl 0 rfl) ?_
        have p1 := wt_a hW o0 0 rfl (by decide) (by decide)
        refine w_getR (T := T_Md) S hK hI o0 rfl hin_Md 0 (index := 7) (by decide) lf_Md_7 d_Md_allSame_55 ?_
        refine lv_iload hx hb d_Md_allSame_58 (lv_at hl 4 rfl) ?_
        obtain ⟨z2, h⟩ := un_if h
        refine w_iald S hK hI hT p1 z2 d_Md_allSame_60 ?_
        refine lv_aload_n hx hb d_Md_allSame_61 rfl (lv_at hl 0 rfl) ?_
        have p3 := wt_a hW o0 0 rfl (by decide) (by decide)
        refine w_getR (T := T_Md) S hK hI o0 rfl hin_Md 0 (index := 7) (by decide) lf_Md_7 d_Md_allSame_62 ?_
        refine lv_iconst (v := 0) hx hb d_Md_allSame_65 rfl ?_
        obtain ⟨z4, h⟩ := un_if h
        refine w_iald S hK hI hT p3 z4 d_Md_allSame_66 ?_
        refine lv_icmp_ne (tgt := 74) hx hb d_Md_allSame_67 rfl (fun hc => ?_) (fun hc => ?_)
        · replace h := (if_neg hc).symm.trans h
          exact t_Md_allSame_74 hC hk21 o0 hI (lv_sub hl [0, 1, 2, 4] rfl) h
        · replace h := (if_pos hc).symm.trans h
          exact t_Md_allSame_70 hC hk21 o0 hI (lv_sub hl [0, 1, 2, 4] rfl) h
      · replace h := (if_neg hc).symm.trans h
        refine lv_aload_n hx hb d_Md_allSame_35 rfl (lv_at hl 0 rfl) ?_
        have p5 := wt_a hW o0 14 rfl (by decide) (by decide)
        refine w_getR (T := T_Md) S hK hI o0 rfl hin_Md 14 (index := 22) (by decide) lf_Md_22 d_Md_allSame_36 ?_
        refine lv_iload hx hb d_Md_allSame_39 (lv_at hl 4 rfl) ?_
        obtain ⟨z6, h⟩ := un_if h
        refine w_iald S hK hI hT p5 z6 d_Md_allSame_41 ?_
        refine lv_aload_n hx hb d_Md_allSame_42 rfl (lv_at hl 0 rfl) ?_
        have p7 := wt_a hW o0 14 rfl (by decide) (by decide)
        refine w_getR (T := T_Md) S hK hI o0 rfl hin_Md 14 (index := 22) (by decide) lf_Md_22 d_Md_allSame_43 ?_
        refine lv_iconst (v := 0) hx hb d_Md_allSame_46 rfl ?_
        obtain ⟨z8, h⟩ := un_if h
        refine w_iald S hK hI hT p7 z8 d_Md_allSame_47 ?_
        refine lv_icmp_ne (tgt := 74) hx hb d_Md_allSame_48 rfl (fun hc => ?_) (fun hc => ?_)
        · replace h := (if_neg hc).symm.trans h
          exact t_Md_allSame_74 hC hk21 o0 hI (lv_sub hl [0, 1, 2, 4] rfl) h
        · replace h := (if_pos hc).symm.trans h
          refine lv_goto (tgt := 70) hx hb d_Md_allSame_51 rfl ?_
          exact t_Md_allSame_70 hC hk21 o0 hI (lv_sub hl [0, 1, 2, 4] rfl) h
def f_Md_allSame_21 (L : La)  : Nat → Nat → Int32 → Int32 → Int32 → Int32 → Mem → Option (Int32 × Mem)
  | 0 => fun _ _ _ _ _ _ => none
  | n + 1 => b_Md_allSame_21 L (f_Md_allSame_21 L  n)
theorem tf_Md_allSame_21 (hC : Cx X L p s m args meth c cc_Md_allSame 5 w_Md_allSame R_Md (some .boolean))  {out : (Int32 × Mem)}  (n : Nat) : ∀ (i0 : Nat) (x1 : Int32) (x2 : Int32) (x3 : Int32) (x4 : Int32) (F : Mem) (H : Heap) (locs : List Loc) (ls : Array Slot), oO L 12 i0 → Iv X L s H locs F → lv_has ls 5 [(0, .ref (mAd X i0)), (1, .int x1), (2, .int x2), (3, .int x3), (4, .int x4)] → f_Md_allSame_21 L  n i0 x1 x2 x3 x4 F = some out → W p l e (headSpec w_Md_allSame r_Md_allSame).room s m args below meth c H locs 0 0 (MQ below (QI X L out) args s 0 0 (AA X L)) (F0 m 21 ls []) := by
  induction n with
  | zero => intro i0 x1 x2 x3 x4 F H locs ls o0 hI hl h; cases h
  | succ n ih => intro i0 x1 x2 x3 x4 F H locs ls o0 hI hl h; exact t_Md_allSame_21 hC ih o0 hI hl h
def b_Md_allSame_15 (L : La)  (i0 : Nat) (x1 : Int32) (y0 : Int32) (F : Mem) : Option (Int32 × Mem) :=
  f_Md_allSame_21 L  mFU i0 x1 y0 (1 : Int32) (1 : Int32) F
set_option maxHeartbeats 4000000 in
theorem t_Md_allSame_15 (hC : Cx X L p s m args meth c cc_Md_allSame 5 w_Md_allSame R_Md (some .boolean))  {out : (Int32 × Mem)}  {i0 : Nat} {x1 : Int32} {y0 : Int32} {F : Mem} {H : Heap} {locs : List Loc} {ls : Array Slot} (o0 : oO L 12 i0) (hI : Iv X L s H locs F) (hl : lv_has ls 5 [(0, .ref (mAd X i0)), (1, .int x1)]) (h : b_Md_allSame_15 L  i0 x1 y0 F = some out) : W p l e (headSpec w_Md_allSame r_Md_allSame).room s m args below meth c H locs 0 0 (MQ below (QI X L out) args s 0 0 (AA X L)) (F0 m 15 ls [.int y0]) := by
  unfold b_Md_allSame_15 at h
  obtain ⟨S, hK, hT, hW, hr, hlk⟩ := id hC
  have hx := S.1
  have hb := S.2.1
  refine lv_istore_n (lv' := [(2, .int y0), (0, .ref (mAd X i0)), (1, .int x1)]) hx hb d_Md_allSame_15 rfl hl (by decide) rfl (fun ls hl => ?_)
  refine lv_iconst (v := 1) hx hb d_Md_allSame_16 rfl ?_
  refine lv_istore_n (lv' := [(3, .int (1 : Int32)), (2, .int y0), (0, .ref (mAd X i0)), (1, .int x1)]) hx hb d_Md_allSame_17 rfl hl (by decide) rfl (fun ls hl => ?_)
  refine lv_iconst (v := 1) hx hb d_Md_allSame_18 rfl ?_
  refine lv_istore (lv' := [(4, .int (1 : Int32)), (3, .int (1 : Int32)), (2, .int y0), (0, .ref (mAd X i0)), (1, .int x1)]) hx hb d_Md_allSame_19 hl (by decide) rfl (fun ls hl => ?_)
  exact tf_Md_allSame_21 hC  mFU _ _ _ _ _ _ _ _ _ o0 hI (lv_sub hl [3, 4, 2, 1, 0] rfl) h
def f_Md_allSame (L : La) (i0 : Nat) (x1 : Int32) (F : Mem) : Option (Int32 × Mem) :=
  if x1 = 0 then
    b_Md_allSame_15 L  i0 x1 (F i0 1) F
  else
    b_Md_allSame_15 L  i0 x1 (F i0 13) F
set_option maxHeartbeats 4000000 in
theorem c_Md_allSame (l : Launch) {X : Xs} {L : La} (hW : WT L) {out : (Int32 × Mem)} {i0 : Nat} {x1 : Int32} {F : Mem} (o0 : oO L 12 i0) (h : f_Md_allSame L i0 x1 F = some out) : Met l y_Md_allSame w_Md_allSame r_Md_allSame (va_Pc [.ref (mAd X i0), .int x1] (Pr X L F)) (QI X L out) 0 0 (AA X L) := by
  refine mk_met (by decide) rfl (Nat.le_of_ble_eq_true rfl) hW ?_
  intro p e s m args below meth c ls hC hI hl
  have hl : lv_has ls 5 [(0, .ref (mAd X i0)), (1, .int x1)] := hl
  generalize hHe : s.heap = H at hI ⊢
  generalize ([] : List Loc) = locs at hI ⊢
  unfold f_Md_allSame at h
  obtain ⟨S, hK, hT, hW, hr, hlk⟩ := id hC
  have hx := S.1
  have hb := S.2.1
  refine lv_iload_n hx hb d_Md_allSame_0 rfl (lv_at hl 1 rfl) ?_
  refine lv_if_eq (tgt := 11) hx hb d_Md_allSame_1 rfl (fun hc => ?_) (fun hc => ?_)
  · replace h := (if_pos hc).symm.trans h
    refine lv_aload_n hx hb d_Md_allSame_11 rfl (lv_at hl 0 rfl) ?_
    refine w_getI (T := T_Md) S hK hI o0 rfl hin_Md 1 (index := 86) (by decide) lf_Md_86 d_Md_allSame_12 ?_
    exact t_Md_allSame_15 hC  o0 hI hl h
  · replace h := (if_neg hc).symm.trans h
    refine lv_aload_n hx hb d_Md_allSame_4 rfl (lv_at hl 0 rfl) ?_
    refine w_getI (T := T_Md) S hK hI o0 rfl hin_Md 13 (index := 150) (by decide) lf_Md_150 d_Md_allSame_5 ?_
    refine lv_goto (tgt := 15) hx hb d_Md_allSame_8 rfl ?_
    exact t_Md_allSame_15 hC  o0 hI hl h
end
theorem d_Md_run_0 : decode cc_Md_run 0 = .ok (.iconst 0, 1) := by decide +kernel
theorem d_Md_run_1 : decode cc_Md_run 1 = .ok (.istore_n 3, 1) := by decide +kernel
theorem d_Md_run_2 : decode cc_Md_run 2 = .ok (.iload_n 2, 1) := by decide +kernel
theorem d_Md_run_3 : decode cc_Md_run 3 = .ok (.iload_n 3, 1) := by decide +kernel
theorem d_Md_run_4 : decode cc_Md_run 4 = .ok (.iadd, 1) := by decide +kernel
theorem d_Md_run_5 : decode cc_Md_run 5 = .ok (.aload_n 0, 1) := by decide +kernel
theorem d_Md_run_6 : decode cc_Md_run 6 = .ok (.getfield 86, 3) := by decide +kernel
theorem d_Md_run_9 : decode cc_Md_run 9 = .ok (.if_icmp .ge (28), 3) := by decide +kernel
theorem d_Md_run_12 : decode cc_Md_run 12 = .ok (.aload_n 0, 1) := by decide +kernel
theorem d_Md_run_13 : decode cc_Md_run 13 = .ok (.getfield 7, 3) := by decide +kernel
theorem d_Md_run_16 : decode cc_Md_run 16 = .ok (.iload_n 1, 1) := by decide +kernel
theorem d_Md_run_17 : decode cc_Md_run 17 = .ok (.iload_n 3, 1) := by decide +kernel
theorem d_Md_run_18 : decode cc_Md_run 18 = .ok (.iadd, 1) := by decide +kernel
theorem d_Md_run_19 : decode cc_Md_run 19 = .ok (.iaload, 1) := by decide +kernel
theorem d_Md_run_20 : decode cc_Md_run 20 = .ok (.aload_n 0, 1) := by decide +kernel
theorem d_Md_run_21 : decode cc_Md_run 21 = .ok (.getfield 7, 3) := by decide +kernel
theorem d_Md_run_24 : decode cc_Md_run 24 = .ok (.iload_n 2, 1) := by decide +kernel
theorem d_Md_run_25 : decode cc_Md_run 25 = .ok (.iload_n 3, 1) := by decide +kernel
theorem d_Md_run_26 : decode cc_Md_run 26 = .ok (.iadd, 1) := by decide +kernel
theorem d_Md_run_27 : decode cc_Md_run 27 = .ok (.iaload, 1) := by decide +kernel
theorem d_Md_run_28 : decode cc_Md_run 28 = .ok (.if_icmp .ne (9), 3) := by decide +kernel
theorem d_Md_run_31 : decode cc_Md_run 31 = .ok (.iinc 3 (1), 3) := by decide +kernel
theorem d_Md_run_34 : decode cc_Md_run 34 = .ok (.goto (-32), 3) := by decide +kernel
theorem d_Md_run_37 : decode cc_Md_run 37 = .ok (.iload_n 3, 1) := by decide +kernel
theorem d_Md_run_38 : decode cc_Md_run 38 = .ok (.ireturn, 1) := by decide +kernel
section
variable {p : Program} {l : Launch} {e : Env} {s : State} {m : MethodId} {args : Array Value} {below : List Frame} {meth : Method} {c : Code} {X : Xs} {L : La}
def b_Md_run_37 (L : La)  (x3 : Int32) (F : Mem) : Option (Int32 × Mem) :=
  some (x3, F)
set_option maxHeartbeats 4000000 in
theorem t_Md_run_37 (hC : Cx X L p s m args meth c cc_Md_run 4 w_Md_run R_Md (some .int))  {out : (Int32 × Mem)}  {x3 : Int32} {F : Mem} {H : Heap} {locs : List Loc} {ls : Array Slot}  (hI : Iv X L s H locs F) (hl : lv_has ls 4 [(3, .int x3)]) (h : b_Md_run_37 L  x3 F = some out) : W p l e (headSpec w_Md_run r_Md_run).room s m args below meth c H locs 0 0 (MQ below (QI X L out) args s 0 0 (AA X L)) (F0 m 37 ls []) := by
  unfold b_Md_run_37 at h
  obtain ⟨S, hK, hT, hW, hr, hlk⟩ := id hC
  have hx := S.1
  have hb := S.2.1
  refine lv_iload_n hx hb d_Md_run_37 rfl (lv_at hl 0 rfl) ?_
  exact w_iret S hK hr hlk hI d_Md_run_38 h
def b_Md_run_2 (L : La) (k2 : Nat → Int32 → Int32 → Int32 → Mem → Option (Int32 × Mem)) (i0 : Nat) (x1 : Int32) (x2 : Int32) (x3 : Int32) (F : Mem) : Option (Int32 × Mem) :=
  if (F i0 1) ≤ (x2 + x3) then
    b_Md_run_37 L  x3 F
  else
    if inb (x1 + x3) (mGl L (mRf L i0 0)) then none else
    if inb (x2 + x3) (mGl L (mRf L i0 0)) then none else
    if (mGa L F (mRf L i0 0) (x1 + x3).toNatClampNeg) = (mGa L F (mRf L i0 0) (x2 + x3).toNatClampNeg) then
      k2 i0 x1 x2 (x3 + (1 : Int32)) F
    else
      b_Md_run_37 L  x3 F
set_option maxHeartbeats 4000000 in
theorem t_Md_run_2 (hC : Cx X L p s m args meth c cc_Md_run 4 w_Md_run R_Md (some .int)) {k2 : Nat → Int32 → Int32 → Int32 → Mem → Option (Int32 × Mem)} {out : (Int32 × Mem)} (hk2 : ∀ (i0 : Nat) (x1 : Int32) (x2 : Int32) (x3 : Int32) (F : Mem) (H : Heap) (locs : List Loc) (ls : Array Slot), oO L 12 i0 → Iv X L s H locs F → lv_has ls 4 [(0, .ref (mAd X i0)), (1, .int x1), (2, .int x2), (3, .int x3)] → k2 i0 x1 x2 x3 F = some out → W p l e (headSpec w_Md_run r_Md_run).room s m args below meth c H locs 0 0 (MQ below (QI X L out) args s 0 0 (AA X L)) (F0 m 2 ls [])) {i0 : Nat} {x1 : Int32} {x2 : Int32} {x3 : Int32} {F : Mem} {H : Heap} {locs : List Loc} {ls : Array Slot} (o0 : oO L 12 i0) (hI : Iv X L s H locs F) (hl : lv_has ls 4 [(0, .ref (mAd X i0)), (1, .int x1), (2, .int x2), (3, .int x3)]) (h : b_Md_run_2 L k2 i0 x1 x2 x3 F = some out) : W p l e (headSpec w_Md_run r_Md_run).room s m args below meth c H locs 0 0 (MQ below (QI X L out) args s 0 0 (AA X L)) (F0 m 2 ls []) := by
  unfold b_Md_run_2 at h
  obtain ⟨S, hK, hT, hW, hr, hlk⟩ := id hC
  have hx := S.1
  have hb := S.2.1
  refine lv_iload_n hx hb d_Md_run_2 rfl (lv_at hl 2 rfl) ?_
  refine lv_iload_n hx hb d_Md_run_3 rfl (lv_at hl 3 rfl) ?_
  refine lv_iadd hx hb d_Md_run_4 ?_
  refine lv_aload_n hx hb d_Md_run_5 rfl (lv_at hl 0 rfl) ?_
  refine w_getI (T := T_Md) S hK hI o0 rfl hin_Md 1 (index := 86) (by decide) lf_Md_86 d_Md_run_6 ?_
  refine lv_icmp_ge (tgt := 37) hx hb d_Md_run_9 rfl (fun hc => ?_) (fun hc => ?_)
  · replace h := (if_pos hc).symm.trans h
    exact t_Md_run_37 hC   hI (lv_sub hl [3] rfl) h
  · replace h := (if_neg hc).symm.trans h
    refine lv_aload_n hx hb d_Md_run_12 rfl (lv_at hl 0 rfl) ?_
    have p1 := wt_a hW o0 0 rfl (by decide) (by decide)
    refine w_getR (T := T_Md) S hK hI o0 rfl hin_Md 0 (index := 7) (by decide) lf_Md_7 d_Md_run_13 ?_
    refine lv_iload_n hx hb d_Md_run_16 rfl (lv_at hl 1 rfl) ?_
    refine lv_iload_n hx hb d_Md_run_17 rfl (lv_at hl 3 rfl) ?_
    refine lv_iadd hx hb d_Md_run_18 ?_
    obtain ⟨z2, h⟩ := un_if h
    refine w_iald S hK hI hT p1 z2 d_Md_run_19 ?_
    refine lv_aload_n hx hb d_Md_run_20 rfl (lv_at hl 0 rfl) ?_
    have p3 := wt_a hW o0 0 rfl (by decide) (by decide)
    refine w_getR (T := T_Md) S hK hI o0 rfl hin_Md 0 (index := 7) (by decide) lf_Md_7 d_Md_run_21 ?_
    refine lv_iload_n hx hb d_Md_run_24 rfl (lv_at hl 2 rfl) ?_
    refine lv_iload_n hx hb d_Md_run_25 rfl (lv_at hl 3 rfl) ?_
    refine lv_iadd hx hb d_Md_run_26 ?_
    obtain ⟨z4, h⟩ := un_if h
    refine w_iald S hK hI hT p3 z4 d_Md_run_27 ?_
    refine lv_icmp_ne (tgt := 37) hx hb d_Md_run_28 rfl (fun hc => ?_) (fun hc => ?_)
    · replace h := (if_neg hc).symm.trans h
      exact t_Md_run_37 hC   hI (lv_sub hl [3] rfl) h
    · replace h := (if_pos hc).symm.trans h
      refine lv_iinc (k := 3) (v := x3 + (1 : Int32)) (lv' := [(3, .int (x3 + (1 : Int32))), (0, .ref (mAd X i0)), (1, .int x1), (2, .int x2)]) hx hb d_Md_run_31 hl rfl rfl (by decide) rfl (fun ls hl => ?_)
      refine lv_goto (tgt := 2) hx hb d_Md_run_34 rfl ?_
      exact hk2 _ _ _ _ _ _ _ _ o0 hI (lv_sub hl [1, 2, 3, 0] rfl) h
def f_Md_run_2 (L : La)  : Nat → Nat → Int32 → Int32 → Int32 → Mem → Option (Int32 × Mem)
  | 0 => fun _ _ _ _ _ => none
  | n + 1 => b_Md_run_2 L (f_Md_run_2 L  n)
theorem tf_Md_run_2 (hC : Cx X L p s m args meth c cc_Md_run 4 w_Md_run R_Md (some .int))  {out : (Int32 × Mem)}  (n : Nat) : ∀ (i0 : Nat) (x1 : Int32) (x2 : Int32) (x3 : Int32) (F : Mem) (H : Heap) (locs : List Loc) (ls : Array Slot), oO L 12 i0 → Iv X L s H locs F → lv_has ls 4 [(0, .ref (mAd X i0)), (1, .int x1), (2, .int x2), (3, .int x3)] → f_Md_run_2 L  n i0 x1 x2 x3 F = some out → W p l e (headSpec w_Md_run r_Md_run).room s m args below meth c H locs 0 0 (MQ below (QI X L out) args s 0 0 (AA X L)) (F0 m 2 ls []) := by
  induction n with
  | zero => intro i0 x1 x2 x3 F H locs ls o0 hI hl h; cases h
  | succ n ih => intro i0 x1 x2 x3 F H locs ls o0 hI hl h; exact t_Md_run_2 hC ih o0 hI hl h
def f_Md_run (L : La) (i0 : Nat) (x1 : Int32) (x2 : Int32) (F : Mem) : Option (Int32 × Mem) :=
  f_Md_run_2 L  mFU i0 x1 x2 (0 : Int32) F
set_option maxHeartbeats 4000000 in
theorem c_Md_run (l : Launch) {X : Xs} {L : La} (hW : WT L) {out : (Int32 × Mem)} {i0 : Nat} {x1 : Int32} {x2 : Int32} {F : Mem} (o0 : oO L 12 i0) (h : f_Md_run L i0 x1 x2 F = some out) : Met l y_Md_run w_Md_run r_Md_run (va_Pc [.ref (mAd X i0), .int x1, .int x2] (Pr X L F)) (QI X L out) 0 0 (AA X L) := by
  refine mk_met (by decide) rfl (Nat.le_of_ble_eq_true rfl) hW ?_
  intro p e s m args below meth c ls hC hI hl
  have hl : lv_has ls 4 [(0, .ref (mAd X i0)), (1, .int x1), (2, .int x2)] := hl
  generalize hHe : s.heap = H at hI ⊢
  generalize ([] : List Loc) = locs at hI ⊢
  unfold f_Md_run at h
  obtain ⟨S, hK, hT, hW, hr, hlk⟩ := id hC
  have hx := S.1
  have hb := S.2.1
  refine lv_iconst (v := 0) hx hb d_Md_run_0 rfl ?_
  refine lv_istore_n (lv' := [(3, .int (0 : Int32)), (0, .ref (mAd X i0)), (1, .int x1), (2, .int x2)]) hx hb d_Md_run_1 rfl hl (by decide) rfl (fun ls hl => ?_)
  exact tf_Md_run_2 hC  mFU _ _ _ _ _ _ _ _ o0 hI (lv_sub hl [1, 2, 3, 0] rfl) h
end
theorem d_Md_valueOf_0 : decode cc_Md_valueOf 0 = .ok (.aload_n 0, 1) := by decide +kernel
theorem d_Md_valueOf_1 : decode cc_Md_valueOf 1 = .ok (.getfield 19, 3) := by decide +kernel
theorem d_Md_valueOf_4 : decode cc_Md_valueOf 4 = .ok (.iconst 0, 1) := by decide +kernel
theorem d_Md_valueOf_5 : decode cc_Md_valueOf 5 = .ok (.iaload, 1) := by decide +kernel
theorem d_Md_valueOf_6 : decode cc_Md_valueOf 6 = .ok (.istore_n 3, 1) := by decide +kernel
theorem d_Md_valueOf_7 : decode cc_Md_valueOf 7 = .ok (.aload_n 0, 1) := by decide +kernel
theorem d_Md_valueOf_8 : decode cc_Md_valueOf 8 = .ok (.getfield 19, 3) := by decide +kernel
theorem d_Md_valueOf_11 : decode cc_Md_valueOf 11 = .ok (.iconst 1, 1) := by decide +kernel
theorem d_Md_valueOf_12 : decode cc_Md_valueOf 12 = .ok (.iaload, 1) := by decide +kernel
theorem d_Md_valueOf_13 : decode cc_Md_valueOf 13 = .ok (.istore 4, 2) := by decide +kernel
theorem d_Md_valueOf_15 : decode cc_Md_valueOf 15 = .ok (.aload_n 0, 1) := by decide +kernel
theorem d_Md_valueOf_16 : decode cc_Md_valueOf 16 = .ok (.getfield 19, 3) := by decide +kernel
theorem d_Md_valueOf_19 : decode cc_Md_valueOf 19 = .ok (.iconst 2, 1) := by decide +kernel
theorem d_Md_valueOf_20 : decode cc_Md_valueOf 20 = .ok (.iaload, 1) := by decide +kernel
theorem d_Md_valueOf_21 : decode cc_Md_valueOf 21 = .ok (.istore 5, 2) := by decide +kernel
theorem d_Md_valueOf_23 : decode cc_Md_valueOf 23 = .ok (.iconst 1, 1) := by decide +kernel
theorem d_Md_valueOf_24 : decode cc_Md_valueOf 24 = .ok (.istore 6, 2) := by decide +kernel
theorem d_Md_valueOf_26 : decode cc_Md_valueOf 26 = .ok (.iload 6, 2) := by decide +kernel
theorem d_Md_valueOf_28 : decode cc_Md_valueOf 28 = .ok (.iconst 4, 1) := by decide +kernel
theorem d_Md_valueOf_29 : decode cc_Md_valueOf 29 = .ok (.if_icmp .ge (46), 3) := by decide +kernel
theorem d_Md_valueOf_32 : decode cc_Md_valueOf 32 = .ok (.aload_n 0, 1) := by decide +kernel
theorem d_Md_valueOf_33 : decode cc_Md_valueOf 33 = .ok (.iload 6, 2) := by decide +kernel
theorem d_Md_valueOf_35 : decode cc_Md_valueOf 35 = .ok (.iload_n 2, 1) := by decide +kernel
theorem d_Md_valueOf_36 : decode cc_Md_valueOf 36 = .ok (.invokevirtual 206, 3) := by decide +kernel
theorem d_Md_valueOf_39 : decode cc_Md_valueOf 39 = .ok (.iload_n 1, 1) := by decide +kernel
theorem d_Md_valueOf_40 : decode cc_Md_valueOf 40 = .ok (.if_icmp .ne (6), 3) := by decide +kernel
theorem d_Md_valueOf_43 : decode cc_Md_valueOf 43 = .ok (.iload 6, 2) := by decide +kernel
theorem d_Md_valueOf_45 : decode cc_Md_valueOf 45 = .ok (.ireturn, 1) := by decide +kernel
theorem d_Md_valueOf_46 : decode cc_Md_valueOf 46 = .ok (.aload_n 0, 1) := by decide +kernel
theorem d_Md_valueOf_47 : decode cc_Md_valueOf 47 = .ok (.getfield 19, 3) := by decide +kernel
theorem d_Md_valueOf_50 : decode cc_Md_valueOf 50 = .ok (.iconst 0, 1) := by decide +kernel
theorem d_Md_valueOf_51 : decode cc_Md_valueOf 51 = .ok (.iload_n 3, 1) := by decide +kernel
theorem d_Md_valueOf_52 : decode cc_Md_valueOf 52 = .ok (.iastore, 1) := by decide +kernel
theorem d_Md_valueOf_53 : decode cc_Md_valueOf 53 = .ok (.aload_n 0, 1) := by decide +kernel
theorem d_Md_valueOf_54 : decode cc_Md_valueOf 54 = .ok (.getfield 19, 3) := by decide +kernel
theorem d_Md_valueOf_57 : decode cc_Md_valueOf 57 = .ok (.iconst 1, 1) := by decide +kernel
theorem d_Md_valueOf_58 : decode cc_Md_valueOf 58 = .ok (.iload 4, 2) := by decide +kernel
theorem d_Md_valueOf_60 : decode cc_Md_valueOf 60 = .ok (.iastore, 1) := by decide +kernel
theorem d_Md_valueOf_61 : decode cc_Md_valueOf 61 = .ok (.aload_n 0, 1) := by decide +kernel
theorem d_Md_valueOf_62 : decode cc_Md_valueOf 62 = .ok (.getfield 19, 3) := by decide +kernel
theorem d_Md_valueOf_65 : decode cc_Md_valueOf 65 = .ok (.iconst 2, 1) := by decide +kernel
theorem d_Md_valueOf_66 : decode cc_Md_valueOf 66 = .ok (.iload 5, 2) := by decide +kernel
theorem d_Md_valueOf_68 : decode cc_Md_valueOf 68 = .ok (.iastore, 1) := by decide +kernel
theorem d_Md_valueOf_69 : decode cc_Md_valueOf 69 = .ok (.iinc 6 (1), 3) := by decide +kernel
theorem d_Md_valueOf_72 : decode cc_Md_valueOf 72 = .ok (.goto (-46), 3) := by decide +kernel
theorem d_Md_valueOf_75 : decode cc_Md_valueOf 75 = .ok (.aload_n 0, 1) := by decide +kernel
theorem d_Md_valueOf_76 : decode cc_Md_valueOf 76 = .ok (.iload_n 1, 1) := by decide +kernel
theorem d_Md_valueOf_77 : decode cc_Md_valueOf 77 = .ok (.iconst 3, 1) := by decide +kernel
theorem d_Md_valueOf_78 : decode cc_Md_valueOf 78 = .ok (.iadd, 1) := by decide +kernel
theorem d_Md_valueOf_79 : decode cc_Md_valueOf 79 = .ok (.iload_n 2, 1) := by decide +kernel
theorem d_Md_valueOf_80 : decode cc_Md_valueOf 80 = .ok (.invokevirtual 206, 3) := by decide +kernel
theorem d_Md_valueOf_83 : decode cc_Md_valueOf 83 = .ok (.istore 6, 2) := by decide +kernel
theorem d_Md_valueOf_85 : decode cc_Md_valueOf 85 = .ok (.iload_n 1, 1) := by decide +kernel
theorem d_Md_valueOf_86 : decode cc_Md_valueOf 86 = .ok (.iconst 3, 1) := by decide +kernel
theorem d_Md_valueOf_87 : decode cc_Md_valueOf 87 = .ok (.iadd, 1) := by decide +kernel
theorem d_Md_valueOf_88 : decode cc_Md_valueOf 88 = .ok (.ireturn, 1) := by decide +kernel
section
variable {p : Program} {l : Launch} {e : Env} {s : State} {m : MethodId} {args : Array Value} {below : List Frame} {meth : Method} {c : Code} {X : Xs} {L : La}
def b_Md_valueOf_26 (L : La) (k26 : Nat → Int32 → Int32 → Int32 → Int32 → Int32 → Int32 → Mem → Option (Int32 × Mem)) (i0 : Nat) (x1 : Int32) (x2 : Int32) (x3 : Int32) (x4 : Int32) (x5 : Int32) (x6 : Int32) (F : Mem) : Option (Int32 × Mem) :=
  if (4 : Int32) ≤ x6 then
    (f_Md_wayBack L i0 (x1 + (3 : Int32)) x2 F).bind fun q1 =>
    some (x1 + (3 : Int32), q1.2)
  else
    (f_Md_wayBack L i0 x6 x2 F).bind fun q3 =>
    if q3.1 = x1 then
      some (x6, q3.2)
    else
      if inb (0 : Int32) (mLn L (mRf L i0 10)) ∨ ¬ (mRf L i0 10) < mNc L then none else
      lt' (u2 q3.2 (mRf L i0 10) (0 : Int32).toNatClampNeg x3) fun F7 =>
      if inb (1 : Int32) (mLn L (mRf L i0 10)) ∨ ¬ (mRf L i0 10) < mNc L then none else
      lt' (u2 F7 (mRf L i0 10) (1 : Int32).toNatClampNeg x4) fun F11 =>
      if inb (2 : Int32) (mLn L (mRf L i0 10)) ∨ ¬ (mRf L i0 10) < mNc L then none else
      lt' (u2 F11 (mRf L i0 10) (2 : Int32).toNatClampNeg x5) fun F15 =>
      k26 i0 x1 x2 x3 x4 x5 (x6 + (1 : Int32)) F15
set_option maxHeartbeats 4000000 in
theorem t_Md_valueOf_26 (hC : Cx X L p s m args meth c cc_Md_valueOf 7 w_Md_valueOf R_Md (some .int)) {k26 : Nat → Int32 → Int32 → Int32 → Int32 → Int32 → Int32 → Mem → Option (Int32 × Mem)} {out : (Int32 × Mem)} (hk26 : ∀ (i0 : Nat) (x1 : Int32) (x2 : Int32) (x3 : Int32) (x4 : Int32) (x5 : Int32) (x6 : Int32) (F : Mem) (H : Heap) (locs : List Loc) (ls : Array Slot), oO L 12 i0 → Iv X L s H locs F → lv_has ls 7 [(0, .ref (mAd X i0)), (1, .int x1), (2, .int x2), (3, .int x3), (4, .int x4), (5, .int x5), (6, .int x6)] → k26 i0 x1 x2 x3 x4 x5 x6 F = some out → W p l e (headSpec w_Md_valueOf r_Md_valueOf).room s m args below meth c H locs 0 0 (MQ below (QI X L out) args s 0 0 (AA X L)) (F0 m 26 ls [])) {i0 : Nat} {x1 : Int32} {x2 : Int32} {x3 : Int32} {x4 : Int32} {x5 : Int32} {x6 : Int32} {F : Mem} {H : Heap} {locs : List Loc} {ls : Array Slot} (o0 : oO L 12 i0) (hI : Iv X L s H locs F) (hl : lv_has ls 7 [(0, .ref (mAd X i0)), (1, .int x1), (2, .int x2), (3, .int x3), (4, .int x4), (5, .int x5), (6, .int x6)]) (h : b_Md_valueOf_26 L k26 i0 x1 x2 x3 x4 x5 x6 F = some out) : W p l e (headSpec w_Md_valueOf r_Md_valueOf).room s m args below meth c H locs 0 0 (MQ below (QI X L out) args s 0 0 (AA X L)) (F0 m 26 ls []) := by
  unfold b_Md_valueOf_26 at h
  obtain ⟨S, hK, hT, hW, hr, hlk⟩ := id hC
  have hx := S.1
  have hb := S.2.1
  refine lv_iload hx hb d_Md_valueOf_26 (lv_at hl 6 rfl) ?_
  refine lv_iconst (v := 4) hx hb d_Md_valueOf_28 rfl ?_
  refine lv_icmp_ge (tgt := 75) hx hb d_Md_valueOf_29 rfl (fun hc => ?_) (fun hc => ?_)
  · replace h := (if_pos hc).symm.trans h
    refine lv_aload_n hx hb d_Md_valueOf_75 rfl (lv_at hl 0 rfl) ?_
    refine lv_iload_n hx hb d_Md_valueOf_76 rfl (lv_at hl 1 rfl) ?_
    refine lv_iconst (v := 3) hx hb d_Md_valueOf_77 rfl ?_
    refine lv_iadd hx hb d_Md_valueOf_78 ?_
    refine lv_iload_n hx hb d_Md_valueOf_79 rfl (lv_at hl 2 rfl) ?_
    obtain ⟨q1, e2, h⟩ := un_bi h
    refine w_callVi (As := [.int (x1 + (3 : Int32)), .int x2]) (rest := []) S hK hI hT (c_Md_wayBack l hW o0 e2) (cwV 2 S.2.2.2.2 (gd_V lc_Md_wayBack lm_Md_206 li_Md_wayBack ls_Md_wayBack ln_Md) rfl rfl rfl hd_Md_wayBack ⟨Nat.le_of_ble_eq_true rfl, Nat.le_of_ble_eq_true rfl⟩) o0 rfl (by decide) rfl rfl hl.1 (Nat.le_of_ble_eq_true rfl) d_Md_valueOf_80 ⟨Nat.zero_le _, Nat.zero_le _⟩ (fun H locs hI => ?_)
    refine lv_istore (lv' := [(6, .int q1.1), (0, .ref (mAd X i0)), (1, .int x1), (2, .int x2), (3, .int x3), (4, .int x4), (5, .int x5)]) hx hb d_Md_valueOf_83 hl (by decide) rfl (fun ls hl => ?_)
    refine lv_iload_n hx hb d_Md_valueOf_85 rfl (lv_at hl 2 rfl) ?_
    refine lv_iconst (v := 3) hx hb d_Md_valueOf_86 rfl ?_
    refine lv_iadd hx hb d_Md_valueOf_87 ?_
    exact w_iret S hK hr hlk hI d_Md_valueOf_88 h
  · replace h := (if_neg hc).symm.trans h
    refine lv_aload_n hx hb d_Md_valueOf_32 rfl (lv_at hl 0 rfl) ?_
    refine lv_iload hx hb d_Md_valueOf_33 (lv_at hl 6 rfl) ?_
    refine lv_iload_n hx hb d_Md_valueOf_35 rfl (lv_at hl 2 rfl) ?_
    obtain ⟨q3, e4, h⟩ := un_bi h
    refine w_callVi (As := [.int x6, .int x2]) (rest := []) S hK hI hT (c_Md_wayBack l hW o0 e4) (cwV 2 S.2.2.2.2 (gd_V lc_Md_wayBack lm_Md_206 li_Md_wayBack ls_Md_wayBack ln_Md) rfl rfl rfl hd_Md_wayBack ⟨Nat.le_of_ble_eq_true rfl, Nat.le_of_ble_eq_true rfl⟩) o0 rfl (by decide) rfl rfl hl.1 (Nat.le_of_ble_eq_true rfl) d_Md_valueOf_36 ⟨Nat.zero_le _, Nat.zero_le _⟩ (fun H locs hI => ?_)
    refine lv_iload_n hx hb d_Md_valueOf_39 rfl (lv_at hl 1 rfl) ?_
    refine lv_icmp_ne (tgt := 46) hx hb d_Md_valueOf_40 rfl (fun hc => ?_) (fun hc => ?_)
    · replace h := (if_neg hc).symm.trans h
      refine lv_aload_n hx hb d_Md_valueOf_46 rfl (lv_at hl 0 rfl) ?_
      have p5 := wt_a hW o0 10 rfl (by decide) (by decide)
      refine w_getR (T := T_Md) S hK hI o0 rfl hin_Md 10 (index := 19) (by decide) lf_Md_19 d_Md_valueOf_47 ?_
      refine lv_iconst (v := 0) hx hb d_Md_valueOf_50 rfl ?_
      refine lv_iload_n hx hb d_Md_valueOf_51 rfl (lv_at hl 3 rfl) ?_
      obtain ⟨z6, h⟩ := un_if h
      refine w_iast S hK hI p5 z6 d_Md_valueOf_52 (fun H locs F7 e8 hI => ?_)
      replace h := un_lt h _ e8
      refine lv_aload_n hx hb d_Md_valueOf_53 rfl (lv_at hl 0 rfl) ?_
      have p9 := wt_a hW o0 10 rfl (by decide) (by decide)
      refine w_getR (T := T_Md) S hK hI o0 rfl hin_Md 10 (index := 19) (by decide) lf_Md_19 d_Md_valueOf_54 ?_
      refine lv_iconst (v := 1) hx hb d_Md_valueOf_57 rfl ?_
      refine lv_iload hx hb d_Md_valueOf_58 (lv_at hl 4 rfl) ?_
      obtain ⟨z10, h⟩ := un_if h
      refine w_iast S hK hI p9 z10 d_Md_valueOf_60 (fun H locs F11 e12 hI => ?_)
      replace h := un_lt h _ e12
      refine lv_aload_n hx hb d_Md_valueOf_61 rfl (lv_at hl 0 rfl) ?_
      have p13 := wt_a hW o0 10 rfl (by decide) (by decide)
      refine w_getR (T := T_Md) S hK hI o0 rfl hin_Md 10 (index := 19) (by decide) lf_Md_19 d_Md_valueOf_62 ?_
      refine lv_iconst (v := 2) hx hb d_Md_valueOf_65 rfl ?_
      refine lv_iload hx hb d_Md_valueOf_66 (lv_at hl 5 rfl) ?_
      obtain ⟨z14, h⟩ := un_if h
      refine w_iast S hK hI p13 z14 d_Md_valueOf_68 (fun H locs F15 e16 hI => ?_)
      replace h := un_lt h _ e16
      refine lv_iinc (k := 6) (v := x6 + (1 : Int32)) (lv' := [(6, .int (x6 + (1 : Int32))), (0, .ref (mAd X i0)), (1, .int x1), (2, .int x2), (3, .int x3), (4, .int x4), (5, .int x5)]) hx hb d_Md_valueOf_69 hl rfl rfl (by decide) rfl (fun ls hl => ?_)
      refine lv_goto (tgt := 26) hx hb d_Md_valueOf_72 rfl ?_
      exact hk26 _ _ _ _ _ _ _ _ _ _ _ o0 hI (lv_sub hl [1, 2, 3, 4, 5, 6, 0] rfl) h
    · replace h := (if_pos hc).symm.trans h
      refine lv_iload hx hb d_Md_valueOf_43 (lv_at hl 6 rfl) ?_
      exact w_iret S hK hr hlk hI d_Md_valueOf_45 h
def f_Md_valueOf_26 (L : La)  : Nat → Nat → Int32 → Int32 → Int32 → Int32 → Int32 → Int32 → Mem → Option (Int32 × Mem)
  | 0 => fun _ _ _ _ _ _ _ _ => none
  | n + 1 => b_Md_valueOf_26 L (f_Md_valueOf_26 L  n)
theorem tf_Md_valueOf_26 (hC : Cx X L p s m args meth c cc_Md_valueOf 7 w_Md_valueOf R_Md (some .int))  {out : (Int32 × Mem)}  (n : Nat) : ∀ (i0 : Nat) (x1 : Int32) (x2 : Int32) (x3 : Int32) (x4 : Int32) (x5 : Int32) (x6 : Int32) (F : Mem) (H : Heap) (locs : List Loc) (ls : Array Slot), oO L 12 i0 → Iv X L s H locs F → lv_has ls 7 [(0, .ref (mAd X i0)), (1, .int x1), (2, .int x2), (3, .int x3), (4, .int x4), (5, .int x5), (6, .int x6)] → f_Md_valueOf_26 L  n i0 x1 x2 x3 x4 x5 x6 F = some out → W p l e (headSpec w_Md_valueOf r_Md_valueOf).room s m args below meth c H locs 0 0 (MQ below (QI X L out) args s 0 0 (AA X L)) (F0 m 26 ls []) := by
  induction n with
  | zero => intro i0 x1 x2 x3 x4 x5 x6 F H locs ls o0 hI hl h; cases h
  | succ n ih => intro i0 x1 x2 x3 x4 x5 x6 F H locs ls o0 hI hl h; exact t_Md_valueOf_26 hC ih o0 hI hl h
def f_Md_valueOf (L : La) (i0 : Nat) (x1 : Int32) (x2 : Int32) (F : Mem) : Option (Int32 × Mem) :=
  if inb (0 : Int32) (mGl L (mRf L i0 10)) then none else
  if inb (1 : Int32) (mGl L (mRf L i0 10)) then none else
  if inb (2 : Int32) (mGl L (mRf L i0 10)) then none else
  f_Md_valueOf_26 L  mFU i0 x1 x2 (mGa L F (mRf L i0 10) (0 : Int32).toNatClampNeg) (mGa L F (mRf L i0 10) (1 : Int32).toNatClampNeg) (mGa L F (mRf L i0 10) (2 : Int32).toNatClampNeg) (1 : Int32) F
set_option maxHeartbeats 4000000 in
theorem c_Md_valueOf (l : Launch) {X : Xs} {L : La} (hW : WT L) {out : (Int32 × Mem)} {i0 : Nat} {x1 : Int32} {x2 : Int32} {F : Mem} (o0 : oO L 12 i0) (h : f_Md_valueOf L i0 x1 x2 F = some out) : Met l y_Md_valueOf w_Md_valueOf r_Md_valueOf (va_Pc [.ref (mAd X i0), .int x1, .int x2] (Pr X L F)) (QI X L out) 0 0 (AA X L) := by
  refine mk_met (by decide) rfl (Nat.le_of_ble_eq_true rfl) hW ?_
  intro p e s m args below meth c ls hC hI hl
  have hl : lv_has ls 7 [(0, .ref (mAd X i0)), (1, .int x1), (2, .int x2)] := hl
  generalize hHe : s.heap = H at hI ⊢
  generalize ([] : List Loc) = locs at hI ⊢
  unfold f_Md_valueOf at h
  obtain ⟨S, hK, hT, hW, hr, hlk⟩ := id hC
  have hx := S.1
  have hb := S.2.1
  refine lv_aload_n hx hb d_Md_valueOf_0 rfl (lv_at hl 0 rfl) ?_
  have p1 := wt_a hW o0 10 rfl (by decide) (by decide)
  refine w_getR (T := T_Md) S hK hI o0 rfl hin_Md 10 (index := 19) (by decide) lf_Md_19 d_Md_valueOf_1 ?_
  refine lv_iconst (v := 0) hx hb d_Md_valueOf_4 rfl ?_
  obtain ⟨z2, h⟩ := un_if h
  refine w_iald S hK hI hT p1 z2 d_Md_valueOf_5 ?_
  refine lv_istore_n (lv' := [(3, .int (mGa L F (mRf L i0 10) (0 : Int32).toNatClampNeg)), (0, .ref (mAd X i0)), (1, .int x1), (2, .int x2)]) hx hb d_Md_valueOf_6 rfl hl (by decide) rfl (fun ls hl => ?_)
  refine lv_aload_n hx hb d_Md_valueOf_7 rfl (lv_at hl 1 rfl) ?_
  have p3 := wt_a hW o0 10 rfl (by decide) (by decide)
  refine w_getR (T := T_Md) S hK hI o0 rfl hin_Md 10 (index := 19) (by decide) lf_Md_19 d_Md_valueOf_8 ?_
  refine lv_iconst (v := 1) hx hb d_Md_valueOf_11 rfl ?_
  obtain ⟨z4, h⟩ := un_if h
  refine w_iald S hK hI hT p3 z4 d_Md_valueOf_12 ?_
  refine lv_istore (lv' := [(4, .int (mGa L F (mRf L i0 10) (1 : Int32).toNatClampNeg)), (3, .int (mGa L F (mRf L i0 10) (0 : Int32).toNatClampNeg)), (0, .ref (mAd X i0)), (1, .int x1), (2, .int x2)]) hx hb d_Md_valueOf_13 hl (by decide) rfl (fun ls hl => ?_)
  refine lv_aload_n hx hb d_Md_valueOf_15 rfl (lv_at hl 2 rfl) ?_
  have p5 := wt_a hW o0 10 rfl (by decide) (by decide)
  refine w_getR (T := T_Md) S hK hI o0 rfl hin_Md 10 (index := 19) (by decide) lf_Md_19 d_Md_valueOf_16 ?_
  refine lv_iconst (v := 2) hx hb d_Md_valueOf_19 rfl ?_
  obtain ⟨z6, h⟩ := un_if h
  refine w_iald S hK hI hT p5 z6 d_Md_valueOf_20 ?_
  refine lv_istore (lv' := [(5, .int (mGa L F (mRf L i0 10) (2 : Int32).toNatClampNeg)), (4, .int (mGa L F (mRf L i0 10) (1 : Int32).toNatClampNeg)), (3, .int (mGa L F (mRf L i0 10) (0 : Int32).toNatClampNeg)), (0, .ref (mAd X i0)), (1, .int x1), (2, .int x2)]) hx hb d_Md_valueOf_21 hl (by decide) rfl (fun ls hl => ?_)
  refine lv_iconst (v := 1) hx hb d_Md_valueOf_23 rfl ?_
  refine lv_istore (lv' := [(6, .int (1 : Int32)), (5, .int (mGa L F (mRf L i0 10) (2 : Int32).toNatClampNeg)), (4, .int (mGa L F (mRf L i0 10) (1 : Int32).toNatClampNeg)), (3, .int (mGa L F (mRf L i0 10) (0 : Int32).toNatClampNeg)), (0, .ref (mAd X i0)), (1, .int x1), (2, .int x2)]) hx hb d_Md_valueOf_24 hl (by decide) rfl (fun ls hl => ?_)
  exact tf_Md_valueOf_26 hC  mFU _ _ _ _ _ _ _ _ _ _ _ o0 hI (lv_sub hl [4, 5, 6, 3, 2, 1, 0] rfl) h
end
theorem d_Md_parse_0 : decode cc_Md_parse 0 = .ok (.aload_n 0, 1) := by decide +kernel
theorem d_Md_parse_1 : decode cc_Md_parse 1 = .ok (.iconst 0, 1) := by decide +kernel
theorem d_Md_parse_2 : decode cc_Md_parse 2 = .ok (.putfield 150, 3) := by decide +kernel
theorem d_Md_parse_5 : decode cc_Md_parse 5 = .ok (.aload_n 0, 1) := by decide +kernel
theorem d_Md_parse_6 : decode cc_Md_parse 6 = .ok (.iconst 0, 1) := by decide +kernel
theorem d_Md_parse_7 : decode cc_Md_parse 7 = .ok (.putfield 178, 3) := by decide +kernel
theorem d_Md_parse_10 : decode cc_Md_parse 10 = .ok (.iconst 0, 1) := by decide +kernel
theorem d_Md_parse_11 : decode cc_Md_parse 11 = .ok (.istore_n 1, 1) := by decide +kernel
theorem d_Md_parse_12 : decode cc_Md_parse 12 = .ok (.iconst 0, 1) := by decide +kernel
theorem d_Md_parse_13 : decode cc_Md_parse 13 = .ok (.istore_n 2, 1) := by decide +kernel
theorem d_Md_parse_14 : decode cc_Md_parse 14 = .ok (.iload_n 2, 1) := by decide +kernel
theorem d_Md_parse_15 : decode cc_Md_parse 15 = .ok (.aload_n 0, 1) := by decide +kernel
theorem d_Md_parse_16 : decode cc_Md_parse 16 = .ok (.getfield 86, 3) := by decide +kernel
theorem d_Md_parse_19 : decode cc_Md_parse 19 = .ok (.if_icmp .ge (156), 3) := by decide +kernel
theorem d_Md_parse_22 : decode cc_Md_parse 22 = .ok (.iconst 0, 1) := by decide +kernel
theorem d_Md_parse_23 : decode cc_Md_parse 23 = .ok (.istore_n 3, 1) := by decide +kernel
theorem d_Md_parse_24 : decode cc_Md_parse 24 = .ok (.iconst 0, 1) := by decide +kernel
theorem d_Md_parse_25 : decode cc_Md_parse 25 = .ok (.istore 4, 2) := by decide +kernel
theorem d_Md_parse_27 : decode cc_Md_parse 27 = .ok (.iconst 0, 1) := by decide +kernel
theorem d_Md_parse_28 : decode cc_Md_parse 28 = .ok (.istore 5, 2) := by decide +kernel
theorem d_Md_parse_30 : decode cc_Md_parse 30 = .ok (.iload 5, 2) := by decide +kernel
theorem d_Md_parse_32 : decode cc_Md_parse 32 = .ok (.iload_n 2, 1) := by decide +kernel
theorem d_Md_parse_33 : decode cc_Md_parse 33 = .ok (.if_icmp .ge (46), 3) := by decide +kernel
theorem d_Md_parse_36 : decode cc_Md_parse 36 = .ok (.aload_n 0, 1) := by decide +kernel
theorem d_Md_parse_37 : decode cc_Md_parse 37 = .ok (.iload 5, 2) := by decide +kernel
theorem d_Md_parse_39 : decode cc_Md_parse 39 = .ok (.iload_n 2, 1) := by decide +kernel
theorem d_Md_parse_40 : decode cc_Md_parse 40 = .ok (.invokevirtual 218, 3) := by decide +kernel
theorem d_Md_parse_43 : decode cc_Md_parse 43 = .ok (.istore 6, 2) := by decide +kernel
theorem d_Md_parse_45 : decode cc_Md_parse 45 = .ok (.iload 6, 2) := by decide +kernel
theorem d_Md_parse_47 : decode cc_Md_parse 47 = .ok (.iload_n 3, 1) := by decide +kernel
theorem d_Md_parse_48 : decode cc_Md_parse 48 = .ok (.if_icmp .lt (8), 3) := by decide +kernel
theorem d_Md_parse_51 : decode cc_Md_parse 51 = .ok (.iload 5, 2) := by decide +kernel
theorem d_Md_parse_53 : decode cc_Md_parse 53 = .ok (.goto (5), 3) := by decide +kernel
theorem d_Md_parse_56 : decode cc_Md_parse 56 = .ok (.iload 4, 2) := by decide +kernel
theorem d_Md_parse_58 : decode cc_Md_parse 58 = .ok (.istore 4, 2) := by decide +kernel
theorem d_Md_parse_60 : decode cc_Md_parse 60 = .ok (.iload 6, 2) := by decide +kernel
theorem d_Md_parse_62 : decode cc_Md_parse 62 = .ok (.iload_n 3, 1) := by decide +kernel
theorem d_Md_parse_63 : decode cc_Md_parse 63 = .ok (.if_icmp .le (8), 3) := by decide +kernel
theorem d_Md_parse_66 : decode cc_Md_parse 66 = .ok (.iload 6, 2) := by decide +kernel
theorem d_Md_parse_68 : decode cc_Md_parse 68 = .ok (.goto (4), 3) := by decide +kernel
theorem d_Md_parse_71 : decode cc_Md_parse 71 = .ok (.iload_n 3, 1) := by decide +kernel
theorem d_Md_parse_72 : decode cc_Md_parse 72 = .ok (.istore_n 3, 1) := by decide +kernel
theorem d_Md_parse_73 : decode cc_Md_parse 73 = .ok (.iinc 5 (1), 3) := by decide +kernel
theorem d_Md_parse_76 : decode cc_Md_parse 76 = .ok (.goto (-46), 3) := by decide +kernel
theorem d_Md_parse_79 : decode cc_Md_parse 79 = .ok (.iload_n 3, 1) := by decide +kernel
theorem d_Md_parse_80 : decode cc_Md_parse 80 = .ok (.iconst 3, 1) := by decide +kernel
theorem d_Md_parse_81 : decode cc_Md_parse 81 = .ok (.if_icmp .lt (60), 3) := by decide +kernel
theorem d_Md_parse_84 : decode cc_Md_parse 84 = .ok (.aload_n 0, 1) := by decide +kernel
theorem d_Md_parse_85 : decode cc_Md_parse 85 = .ok (.getfield 53, 3) := by decide +kernel
theorem d_Md_parse_88 : decode cc_Md_parse 88 = .ok (.aload_n 0, 1) := by decide +kernel
theorem d_Md_parse_89 : decode cc_Md_parse 89 = .ok (.getfield 178, 3) := by decide +kernel
theorem d_Md_parse_92 : decode cc_Md_parse 92 = .ok (.iload_n 1, 1) := by decide +kernel
theorem d_Md_parse_93 : decode cc_Md_parse 93 = .ok (.iastore, 1) := by decide +kernel
theorem d_Md_parse_94 : decode cc_Md_parse 94 = .ok (.aload_n 0, 1) := by decide +kernel
theorem d_Md_parse_95 : decode cc_Md_parse 95 = .ok (.getfield 59, 3) := by decide +kernel
theorem d_Md_parse_98 : decode cc_Md_parse 98 = .ok (.aload_n 0, 1) := by decide +kernel
theorem d_Md_parse_99 : decode cc_Md_parse 99 = .ok (.getfield 178, 3) := by decide +kernel
theorem d_Md_parse_102 : decode cc_Md_parse 102 = .ok (.iload_n 3, 1) := by decide +kernel
theorem d_Md_parse_103 : decode cc_Md_parse 103 = .ok (.iastore, 1) := by decide +kernel
theorem d_Md_parse_104 : decode cc_Md_parse 104 = .ok (.aload_n 0, 1) := by decide +kernel
theorem d_Md_parse_105 : decode cc_Md_parse 105 = .ok (.getfield 56, 3) := by decide +kernel
theorem d_Md_parse_108 : decode cc_Md_parse 108 = .ok (.aload_n 0, 1) := by decide +kernel
theorem d_Md_parse_109 : decode cc_Md_parse 109 = .ok (.getfield 178, 3) := by decide +kernel
theorem d_Md_parse_112 : decode cc_Md_parse 112 = .ok (.aload_n 0, 1) := by decide +kernel
theorem d_Md_parse_113 : decode cc_Md_parse 113 = .ok (.iload_n 2, 1) := by decide +kernel
theorem d_Md_parse_114 : decode cc_Md_parse 114 = .ok (.iload 4, 2) := by decide +kernel
theorem d_Md_parse_116 : decode cc_Md_parse 116 = .ok (.isub, 1) := by decide +kernel
theorem d_Md_parse_117 : decode cc_Md_parse 117 = .ok (.iload_n 1, 1) := by decide +kernel
theorem d_Md_parse_118 : decode cc_Md_parse 118 = .ok (.invokevirtual 221, 3) := by decide +kernel
theorem d_Md_parse_121 : decode cc_Md_parse 121 = .ok (.iastore, 1) := by decide +kernel
theorem d_Md_parse_122 : decode cc_Md_parse 122 = .ok (.aload_n 0, 1) := by decide +kernel
theorem d_Md_parse_123 : decode cc_Md_parse 123 = .ok (.dup, 1) := by decide +kernel
theorem d_Md_parse_124 : decode cc_Md_parse 124 = .ok (.getfield 178, 3) := by decide +kernel
theorem d_Md_parse_127 : decode cc_Md_parse 127 = .ok (.iconst 1, 1) := by decide +kernel
theorem d_Md_parse_128 : decode cc_Md_parse 128 = .ok (.iadd, 1) := by decide +kernel
theorem d_Md_parse_129 : decode cc_Md_parse 129 = .ok (.putfield 178, 3) := by decide +kernel
theorem d_Md_parse_132 : decode cc_Md_parse 132 = .ok (.iconst 0, 1) := by decide +kernel
theorem d_Md_parse_133 : decode cc_Md_parse 133 = .ok (.istore_n 1, 1) := by decide +kernel
theorem d_Md_parse_134 : decode cc_Md_parse 134 = .ok (.iload_n 2, 1) := by decide +kernel
theorem d_Md_parse_135 : decode cc_Md_parse 135 = .ok (.iload_n 3, 1) := by decide +kernel
theorem d_Md_parse_136 : decode cc_Md_parse 136 = .ok (.iadd, 1) := by decide +kernel
theorem d_Md_parse_137 : decode cc_Md_parse 137 = .ok (.istore_n 2, 1) := by decide +kernel
theorem d_Md_parse_138 : decode cc_Md_parse 138 = .ok (.goto (34), 3) := by decide +kernel
theorem d_Md_parse_141 : decode cc_Md_parse 141 = .ok (.aload_n 0, 1) := by decide +kernel
theorem d_Md_parse_142 : decode cc_Md_parse 142 = .ok (.getfield 22, 3) := by decide +kernel
theorem d_Md_parse_145 : decode cc_Md_parse 145 = .ok (.aload_n 0, 1) := by decide +kernel
theorem d_Md_parse_146 : decode cc_Md_parse 146 = .ok (.getfield 150, 3) := by decide +kernel
theorem d_Md_parse_149 : decode cc_Md_parse 149 = .ok (.aload_n 0, 1) := by decide +kernel
theorem d_Md_parse_150 : decode cc_Md_parse 150 = .ok (.getfield 7, 3) := by decide +kernel
theorem d_Md_parse_153 : decode cc_Md_parse 153 = .ok (.iload_n 2, 1) := by decide +kernel
theorem d_Md_parse_154 : decode cc_Md_parse 154 = .ok (.iaload, 1) := by decide +kernel
theorem d_Md_parse_155 : decode cc_Md_parse 155 = .ok (.iastore, 1) := by decide +kernel
theorem d_Md_parse_156 : decode cc_Md_parse 156 = .ok (.aload_n 0, 1) := by decide +kernel
theorem d_Md_parse_157 : decode cc_Md_parse 157 = .ok (.dup, 1) := by decide +kernel
theorem d_Md_parse_158 : decode cc_Md_parse 158 = .ok (.getfield 150, 3) := by decide +kernel
theorem d_Md_parse_161 : decode cc_Md_parse 161 = .ok (.iconst 1, 1) := by decide +kernel
theorem d_Md_parse_162 : decode cc_Md_parse 162 = .ok (.iadd, 1) := by decide +kernel
theorem d_Md_parse_163 : decode cc_Md_parse 163 = .ok (.putfield 150, 3) := by decide +kernel
theorem d_Md_parse_166 : decode cc_Md_parse 166 = .ok (.iinc 1 (1), 3) := by decide +kernel
theorem d_Md_parse_169 : decode cc_Md_parse 169 = .ok (.iinc 2 (1), 3) := by decide +kernel
theorem d_Md_parse_172 : decode cc_Md_parse 172 = .ok (.goto (-158), 3) := by decide +kernel
theorem d_Md_parse_175 : decode cc_Md_parse 175 = .ok (.return_, 1) := by decide +kernel
section
variable {p : Program} {l : Launch} {e : Env} {s : State} {m : MethodId} {args : Array Value} {below : List Frame} {meth : Method} {c : Code} {X : Xs} {L : La}
def b_Md_parse_172 (L : La) (k14 : Nat → Int32 → Int32 → Mem → Option Mem) (i0 : Nat) (x1 : Int32) (x2 : Int32) (F : Mem) : Option Mem :=
  k14 i0 x1 x2 F
set_option maxHeartbeats 4000000 in
theorem t_Md_parse_172 (hC : Cx X L p s m args meth c cc_Md_parse 7 w_Md_parse R_Md none) {k14 : Nat → Int32 → Int32 → Mem → Option Mem} {out : Mem} (hk14 : ∀ (i0 : Nat) (x1 : Int32) (x2 : Int32) (F : Mem) (H : Heap) (locs : List Loc) (ls : Array Slot), oO L 12 i0 → Iv X L s H locs F → lv_has ls 7 [(0, .ref (mAd X i0)), (1, .int x1), (2, .int x2)] → k14 i0 x1 x2 F = some out → W p l e (headSpec w_Md_parse r_Md_parse).room s m args below meth c H locs 0 0 (MQ below (QV X L out) args s 0 0 (AA X L)) (F0 m 14 ls [])) {i0 : Nat} {x1 : Int32} {x2 : Int32} {F : Mem} {H : Heap} {locs : List Loc} {ls : Array Slot} (o0 : oO L 12 i0) (hI : Iv X L s H locs F) (hl : lv_has ls 7 [(0, .ref (mAd X i0)), (1, .int x1), (2, .int x2)]) (h : b_Md_parse_172 L k14 i0 x1 x2 F = some out) : W p l e (headSpec w_Md_parse r_Md_parse).room s m args below meth c H locs 0 0 (MQ below (QV X L out) args s 0 0 (AA X L)) (F0 m 172 ls []) := by
  unfold b_Md_parse_172 at h
  obtain ⟨S, hK, hT, hW, hr, hlk⟩ := id hC
  have hx := S.1
  have hb := S.2.1
  refine lv_goto (tgt := 14) hx hb d_Md_parse_172 rfl ?_
  exact hk14 _ _ _ _ _ _ _ o0 hI hl h
def b_Md_parse_72 (L : La) (k14 : Nat → Int32 → Int32 → Mem → Option Mem) (k30 : Nat → Int32 → Int32 → Int32 → Int32 → Int32 → Mem → Option Mem) (i0 : Nat) (x1 : Int32) (x2 : Int32) (x4 : Int32) (x5 : Int32) (y0 : Int32) (F : Mem) : Option Mem :=
  k30 i0 x1 x2 y0 x4 (x5 + (1 : Int32)) F
set_option maxHeartbeats 4000000 in
theorem t_Md_parse_72 (hC : Cx X L p s m args meth c cc_Md_parse 7 w_Md_parse R_Md none) {k14 : Nat → Int32 → Int32 → Mem → Option Mem} {k30 : Nat → Int32 → Int32 → Int32 → Int32 → Int32 → Mem → Option Mem} {out : Mem} (hk14 : ∀ (i0 : Nat) (x1 : Int32) (x2 : Int32) (F : Mem) (H : Heap) (locs : List Loc) (ls : Array Slot), oO L 12 i0 → Iv X L s H locs F → lv_has ls 7 [(0, .ref (mAd X i0)), (1, .int x1), (2, .int x2)] → k14 i0 x1 x2 F = some out → W p l e (headSpec w_Md_parse r_Md_parse).room s m args below meth c H locs 0 0 (MQ below (QV X L out) args s 0 0 (AA X L)) (F0 m 14 ls [])) (hk30 : ∀ (i0 : Nat) (x1 : Int32) (x2 : Int32) (x3 : Int32) (x4 : Int32) (x5 : Int32) (F : Mem) (H : Heap) (locs : List Loc) (ls : Array Slot), oO L 12 i0 → Iv X L s H locs F → lv_has ls 7 [(0, .ref (mAd X i0)), (1, .int x1), (2, .int x2), (3, .int x3), (4, .int x4), (5, .int x5)] → k30 i0 x1 x2 x3 x4 x5 F = some out → W p l e (headSpec w_Md_parse r_Md_parse).room s m args below meth c H locs 0 0 (MQ below (QV X L out) args s 0 0 (AA X L)) (F0 m 30 ls [])) {i0 : Nat} {x1 : Int32} {x2 : Int32} {x4 : Int32} {x5 : Int32} {y0 : Int32} {F : Mem} {H : Heap} {locs : List Loc} {ls : Array Slot} (o0 : oO L 12 i0) (hI : Iv X L s H locs F) (hl : lv_has ls 7 [(0, .ref (mAd X i0)), (1, .int x1), (2, .int x2), (4, .int x4), (5, .int x5)]) (h : b_Md_parse_72 L k14 k30 i0 x1 x2 x4 x5 y0 F = some out) : W p l e (headSpec w_Md_parse r_Md_parse).room s m args below meth c H locs 0 0 (MQ below (QV X L out) args s 0 0 (AA X L)) (F0 m 72 ls [.int y0]) := by
  unfold b_Md_parse_72 at h
  obtain ⟨S, hK, hT, hW, hr, hlk⟩ := id hC
  have hx := S.1
  have hb := S.2.1
  refine lv_istore_n (lv' := [(3, .int y0), (0, .ref (mAd X i0)), (1, .int x1), (2, .int x2), (4, .int x4), (5, .int x5)]) hx hb d_Md_parse_72 rfl hl (by decide) rfl (fun ls hl => ?_)
  refine lv_iinc (k := 5) (v := x5 + (1 : Int32)) (lv' := [(5, .int (x5 + (1 : Int32))), (3, .int y0), (0, .ref (mAd X i0)), (1, .int x1), (2, .int x2), (4, .int x4)]) hx hb d_Md_parse_73 hl rfl rfl (by decide) rfl (fun ls hl => ?_)
  refine lv_goto (tgt := 30) hx hb d_Md_parse_76 rfl ?_
  exact hk30 _ _ _ _ _ _ _ _ _ _ o0 hI (lv_sub hl [2, 3, 4, 1, 5, 0] rfl) h
def b_Md_parse_58 (L : La) (k14 : Nat → Int32 → Int32 → Mem → Option Mem) (k30 : Nat → Int32 → Int32 → Int32 → Int32 → Int32 → Mem → Option Mem) (i0 : Nat) (x1 : Int32) (x2 : Int32) (x3 : Int32) (x5 : Int32) (x6 : Int32) (y0 : Int32) (F : Mem) : Option Mem :=
  if x6 ≤ x3 then
    b_Md_parse_72 L k14 k30 i0 x1 x2 y0 x5 x3 F
  else
    b_Md_parse_72 L k14 k30 i0 x1 x2 y0 x5 x6 F
set_option maxHeartbeats 4000000 in
theorem t_Md_parse_58 (hC : Cx X L p s m args meth c cc_Md_parse 7 w_Md_parse R_Md none) {k14 : Nat → Int32 → Int32 → Mem → Option Mem} {k30 : Nat → Int32 → Int32 → Int32 → Int32 → Int32 → Mem → Option Mem} {out : Mem} (hk14 : ∀ (i0 : Nat) (x1 : Int32) (x2 : Int32) (F : Mem) (H : Heap) (locs : List Loc) (ls : Array Slot), oO L 12 i0 → Iv X L s H locs F → lv_has ls 7 [(0, .ref (mAd X i0)), (1, .int x1), (2, .int x2)] → k14 i0 x1 x2 F = some out → W p l e (headSpec w_Md_parse r_Md_parse).room s m args below meth c H locs 0 0 (MQ below (QV X L out) args s 0 0 (AA X L)) (F0 m 14 ls [])) (hk30 : ∀ (i0 : Nat) (x1 : Int32) (x2 : Int32) (x3 : Int32) (x4 : Int32) (x5 : Int32) (F : Mem) (H : Heap) (locs : List Loc) (ls : Array Slot), oO L 12 i0 → Iv X L s H locs F → lv_has ls 7 [(0, .ref (mAd X i0)), (1, .int x1), (2, .int x2), (3, .int x3), (4, .int x4), (5, .int x5)] → k30 i0 x1 x2 x3 x4 x5 F = some out → W p l e (headSpec w_Md_parse r_Md_parse).room s m args below meth c H locs 0 0 (MQ below (QV X L out) args s 0 0 (AA X L)) (F0 m 30 ls [])) {i0 : Nat} {x1 : Int32} {x2 : Int32} {x3 : Int32} {x5 : Int32} {x6 : Int32} {y0 : Int32} {F : Mem} {H : Heap} {locs : List Loc} {ls : Array Slot} (o0 : oO L 12 i0) (hI : Iv X L s H locs F) (hl : lv_has ls 7 [(0, .ref (mAd X i0)), (1, .int x1), (2, .int x2), (3, .int x3), (5, .int x5), (6, .int x6)]) (h : b_Md_parse_58 L k14 k30 i0 x1 x2 x3 x5 x6 y0 F = some out) : W p l e (headSpec w_Md_parse r_Md_parse).room s m args below meth c H locs 0 0 (MQ below (QV X L out) args s 0 0 (AA X L)) (F0 m 58 ls [.int y0]) := by
  unfold b_Md_parse_58 at h
  obtain ⟨S, hK, hT, hW, hr, hlk⟩ := id hC
  have hx := S.1
  have hb := S.2.1
  refine lv_istore (lv' := [(4, .int y0), (0, .ref (mAd X i0)), (1, .int x1), (2, .int x2), (3, .int x3), (5, .int x5), (6, .int x6)]) hx hb d_Md_parse_58 hl (by decide) rfl (fun ls hl => ?_)
  refine lv_iload hx hb d_Md_parse_60 (lv_at hl 6 rfl) ?_
  refine lv_iload_n hx hb d_Md_parse_62 rfl (lv_at hl 4 rfl) ?_
  refine lv_icmp_le (tgt := 71) hx hb d_Md_parse_63 rfl (fun hc => ?_) (fun hc => ?_)
  · replace h := (if_pos hc).symm.trans h
    refine lv_iload_n hx hb d_Md_parse_71 rfl (lv_at hl 4 rfl) ?_
    exact t_Md_parse_72 hC hk14 hk30 o0 hI (lv_sub hl [1, 2, 3, 0, 5] rfl) h
  · replace h := (if_neg hc).symm.trans h
    refine lv_iload hx hb d_Md_parse_66 (lv_at hl 6 rfl) ?_
    refine lv_goto (tgt := 72) hx hb d_Md_parse_68 rfl ?_
    exact t_Md_parse_72 hC hk14 hk30 o0 hI (lv_sub hl [1, 2, 3, 0, 5] rfl) h
def b_Md_parse_30 (L : La) (k14 : Nat → Int32 → Int32 → Mem → Option Mem) (k30 : Nat → Int32 → Int32 → Int32 → Int32 → Int32 → Mem → Option Mem) (i0 : Nat) (x1 : Int32) (x2 : Int32) (x3 : Int32) (x4 : Int32) (x5 : Int32) (F : Mem) : Option Mem :=
  if x2 ≤ x5 then
    if x3 < (3 : Int32) then
      if inb x2 (mGl L (mRf L i0 0)) then none else
      if inb (F i0 13) (mLn L (mRf L i0 14)) ∨ ¬ (mRf L i0 14) < mNc L then none else
      lt' (u2 F (mRf L i0 14) (F i0 13).toNatClampNeg (mGa L F (mRf L i0 0) x2.toNatClampNeg)) fun F5 =>
      lt' (u2 F5 i0 13 ((F5 i0 13) + (1 : Int32))) fun F7 =>
      b_Md_parse_172 L k14 i0 (x1 + (1 : Int32)) (x2 + (1 : Int32)) F7
    else
      if inb (F i0 28) (mLn L (mRf L i0 29)) ∨ ¬ (mRf L i0 29) < mNc L then none else
      lt' (u2 F (mRf L i0 29) (F i0 28).toNatClampNeg x1) fun F11 =>
      if inb (F11 i0 28) (mLn L (mRf L i0 31)) ∨ ¬ (mRf L i0 31) < mNc L then none else
      lt' (u2 F11 (mRf L i0 31) (F11 i0 28).toNatClampNeg x3) fun F15 =>
      (f_Md_valueOf L i0 (x2 - x4) x1 F15).bind fun q18 =>
      if inb (F15 i0 28) (mLn L (mRf L i0 30)) ∨ ¬ (mRf L i0 30) < mNc L then none else
      lt' (u2 q18.2 (mRf L i0 30) (F15 i0 28).toNatClampNeg q18.1) fun F21 =>
      lt' (u2 F21 i0 28 ((F21 i0 28) + (1 : Int32))) fun F23 =>
      b_Md_parse_172 L k14 i0 (0 : Int32) (x2 + x3) F23
  else
    (f_Md_run L i0 x5 x2 F).bind fun q25 =>
    if q25.1 < x3 then
      b_Md_parse_58 L k14 k30 i0 x1 x2 x3 x5 q25.1 x4 q25.2
    else
      b_Md_parse_58 L k14 k30 i0 x1 x2 x3 x5 q25.1 x5 q25.2
set_option maxHeartbeats 4000000 in
theorem t_Md_parse_30 (hC : Cx X L p s m args meth c cc_Md_parse 7 w_Md_parse R_Md none) {k14 : Nat → Int32 → Int32 → Mem → Option Mem} {k30 : Nat → Int32 → Int32 → Int32 → Int32 → Int32 → Mem → Option Mem} {out : Mem} (hk14 : ∀ (i0 : Nat) (x1 : Int32) (x2 : Int32) (F : Mem) (H : Heap) (locs : List Loc) (ls : Array Slot), oO L 12 i0 → Iv X L s H locs F → lv_has ls 7 [(0, .ref (mAd X i0)), (1, .int x1), (2, .int x2)] → k14 i0 x1 x2 F = some out → W p l e (headSpec w_Md_parse r_Md_parse).room s m args below meth c H locs 0 0 (MQ below (QV X L out) args s 0 0 (AA X L)) (F0 m 14 ls [])) (hk30 : ∀ (i0 : Nat) (x1 : Int32) (x2 : Int32) (x3 : Int32) (x4 : Int32) (x5 : Int32) (F : Mem) (H : Heap) (locs : List Loc) (ls : Array Slot), oO L 12 i0 → Iv X L s H locs F → lv_has ls 7 [(0, .ref (mAd X i0)), (1, .int x1), (2, .int x2), (3, .int x3), (4, .int x4), (5, .int x5)] → k30 i0 x1 x2 x3 x4 x5 F = some out → W p l e (headSpec w_Md_parse r_Md_parse).room s m args below meth c H locs 0 0 (MQ below (QV X L out) args s 0 0 (AA X L)) (F0 m 30 ls [])) {i0 : Nat} {x1 : Int32} {x2 : Int32} {x3 : Int32} {x4 : Int32} {x5 : Int32} {F : Mem} {H : Heap} {locs : List Loc} {ls : Array Slot} (o0 : oO L 12 i0) (hI : Iv X L s H locs F) (hl : lv_has ls 7 [(0, .ref (mAd X i0)), (1, .int x1), (2, .int x2), (3, .int x3), (4, .int x4), (5, .int x5)]) (h : b_Md_parse_30 L k14 k30 i0 x1 x2 x3 x4 x5 F = some out) : W p l e (headSpec w_Md_parse r_Md_parse).room s m args below meth c H locs 0 0 (MQ below (QV X L out) args s 0 0 (AA X L)) (F0 m 30 ls []) := by
  unfold b_Md_parse_30 at h
  obtain ⟨S, hK, hT, hW, hr, hlk⟩ := id hC
  have hx := S.1
  have hb := S.2.1
  refine lv_iload hx hb d_Md_parse_30 (lv_at hl 5 rfl) ?_
  refine lv_iload_n hx hb d_Md_parse_32 rfl (lv_at hl 2 rfl) ?_
  refine lv_icmp_ge (tgt := 79) hx hb d_Md_parse_33 rfl (fun hc => ?_) (fun hc => ?_)
  · replace h := (if_pos hc).symm.trans h
    refine lv_iload_n hx hb d_Md_parse_79 rfl (lv_at hl 3 rfl) ?_
    refine lv_iconst (v := 3) hx hb d_Md_parse_80 rfl ?_
    refine lv_icmp_lt (tgt := 141) hx hb d_Md_parse_81 rfl (fun hc => ?_) (fun hc => ?_)
    · replace h := (if_pos hc).symm.trans h
      refine lv_aload_n hx hb d_Md_parse_141 rfl (lv_at hl 0 rfl) ?_
      have p1 := wt_a hW o0 14 rfl (by decide) (by decide)
      refine w_getR (T := T_Md) S hK hI o0 rfl hin_Md 14 (index := 22) (by decide) lf_Md_22 d_Md_parse_142 ?_
      refine lv_aload_n hx hb d_Md_parse_145 rfl (lv_at hl 0 rfl) ?_
      refine w_getI (T := T_Md) S hK hI o0 rfl hin_Md 13 (index := 150) (by decide) lf_Md_150 d_Md_parse_146 ?_
      refine lv_aload_n hx hb d_Md_parse_149 rfl (lv_at hl 0 rfl) ?_
      have p2 := wt_a hW o0 0 rfl (by decide) (by decide)
      refine w_getR (T := T_Md) S hK hI o0 rfl hin_Md 0 (index := 7) (by decide) lf_Md_7 d_Md_parse_150 ?_
      refine lv_iload_n hx hb d_Md_parse_153 rfl (lv_at hl 2 rfl) ?_
      obtain ⟨z3, h⟩ := un_if h
      refine w_iald S hK hI hT p2 z3 d_Md_parse_154 ?_
      obtain ⟨z4, h⟩ := un_if h
      refine w_iast S hK hI p1 z4 d_Md_parse_155 (fun H locs F5 e6 hI => ?_)
      replace h := un_lt h _ e6
      refine lv_aload_n hx hb d_Md_parse_156 rfl (lv_at hl 0 rfl) ?_
      refine lv_dup hx hb d_Md_parse_157 rfl ?_
      refine w_getI (T := T_Md) S hK hI o0 rfl hin_Md 13 (index := 150) (by decide) lf_Md_150 d_Md_parse_158 ?_
      refine lv_iconst (v := 1) hx hb d_Md_parse_161 rfl ?_
      refine lv_iadd hx hb d_Md_parse_162 ?_
      refine w_putI (T := T_Md) S hK hI o0 rfl hin_Md ty_Md tk_Md nm_Md 13 (index := 150) (by decide) lf_Md_150 rfl d_Md_parse_163 (fun H locs F7 e8 hI => ?_)
      replace h := un_lt h _ e8
      refine lv_iinc (k := 1) (v := x1 + (1 : Int32)) (lv' := [(1, .int (x1 + (1 : Int32))), (0, .ref (mAd X i0)), (2, .int x2), (3, .int x3), (4, .int x4), (5, .int x5)]) hx hb d_Md_parse_166 hl rfl rfl (by decide) rfl (fun ls hl => ?_)
      refine lv_iinc (k := 2) (v := x2 + (1 : Int32)) (lv' := [(2, .int (x2 + (1 : Int32))), (1, .int (x1 + (1 : Int32))), (0, .ref (mAd X i0)), (3, .int x3), (4, .int x4), (5, .int x5)]) hx hb d_Md_parse_169 hl rfl rfl (by decide) rfl (fun ls hl => ?_)
      exact t_Md_parse_172 hC hk14 o0 hI (lv_sub hl [2, 1, 0] rfl) h
    · replace h := (if_neg hc).symm.trans h
      refine lv_aload_n hx hb d_Md_parse_84 rfl (lv_at hl 0 rfl) ?_
      have p9 := wt_a hW o0 29 rfl (by decide) (by decide)
      refine w_getR (T := T_Md) S hK hI o0 rfl hin_Md 29 (index := 53) (by decide) lf_Md_53 d_Md_parse_85 ?_
      refine lv_aload_n hx hb d_Md_parse_88 rfl (lv_at hl 0 rfl) ?_
      refine w_getI (T := T_Md) S hK hI o0 rfl hin_Md 28 (index := 178) (by decide) lf_Md_178 d_Md_parse_89 ?_
      refine lv_iload_n hx hb d_Md_parse_92 rfl (lv_at hl 1 rfl) ?_
      obtain ⟨z10, h⟩ := un_if h
      refine w_iast S hK hI p9 z10 d_Md_parse_93 (fun H locs F11 e12 hI => ?_)
      replace h := un_lt h _ e12
      refine lv_aload_n hx hb d_Md_parse_94 rfl (lv_at hl 0 rfl) ?_
      have p13 := wt_a hW o0 31 rfl (by decide) (by decide)
      refine w_getR (T := T_Md) S hK hI o0 rfl hin_Md 31 (index := 59) (by decide) lf_Md_59 d_Md_parse_95 ?_
      refine lv_aload_n hx hb d_Md_parse_98 rfl (lv_at hl 0 rfl) ?_
      refine w_getI (T := T_Md) S hK hI o0 rfl hin_Md 28 (index := 178) (by decide) lf_Md_178 d_Md_parse_99 ?_
      refine lv_iload_n hx hb d_Md_parse_102 rfl (lv_at hl 3 rfl) ?_
      obtain ⟨z14, h⟩ := un_if h
      refine w_iast S hK hI p13 z14 d_Md_parse_103 (fun H locs F15 e16 hI => ?_)
      replace h := un_lt h _ e16
      refine lv_aload_n hx hb d_Md_parse_104 rfl (lv_at hl 0 rfl) ?_
      have p17 := wt_a hW o0 30 rfl (by decide) (by decide)
      refine w_getR (T := T_Md) S hK hI o0 rfl hin_Md 30 (index := 56) (by decide) lf_Md_56 d_Md_parse_105 ?_
      refine lv_aload_n hx hb d_Md_parse_108 rfl (lv_at hl 0 rfl) ?_
      refine w_getI (T := T_Md) S hK hI o0 rfl hin_Md 28 (index := 178) (by decide) lf_Md_178 d_Md_parse_109 ?_
      refine lv_aload_n hx hb d_Md_parse_112 rfl (lv_at hl 0 rfl) ?_
      refine lv_iload_n hx hb d_Md_parse_113 rfl (lv_at hl 2 rfl) ?_
      refine lv_iload hx hb d_Md_parse_114 (lv_at hl 4 rfl) ?_
      refine lv_isub hx hb d_Md_parse_116 ?_
      refine lv_iload_n hx hb d_Md_parse_117 rfl (lv_at hl 1 rfl) ?_
      obtain ⟨q18, e19, h⟩ := un_bi h
      refine w_callVi (As := [.int (x2 - x4), .int x1]) (rest := [.int (F15 i0 28), .ref (mAd X (mRf L i0 30))]) S hK hI hT (c_Md_valueOf l hW o0 e19) (cwV 2 S.2.2.2.2 (gd_V lc_Md_valueOf lm_Md_221 li_Md_valueOf ls_Md_valueOf ln_Md) rfl rfl rfl hd_Md_valueOf ⟨Nat.le_of_ble_eq_true rfl, Nat.le_of_ble_eq_true rfl⟩) o0 rfl (by decide) rfl rfl hl.1 (Nat.le_of_ble_eq_true rfl) d_Md_parse_118 ⟨Nat.zero_le _, Nat.zero_le _⟩ (fun H locs hI => ?_)
      obtain ⟨z20, h⟩ := un_if h
      refine w_iast S hK hI p17 z20 d_Md_parse_121 (fun H locs F21 e22 hI => ?_)
      replace h := un_lt h _ e22
      refine lv_aload_n hx hb d_Md_parse_122 rfl (lv_at hl 0 rfl) ?_
      refine lv_dup hx hb d_Md_parse_123 rfl ?_
      refine w_getI (T := T_Md) S hK hI o0 rfl hin_Md 28 (index := 178) (by decide) lf_Md_178 d_Md_parse_124 ?_
      refine lv_iconst (v := 1) hx hb d_Md_parse_127 rfl ?_
      refine lv_iadd hx hb d_Md_parse_128 ?_
      refine w_putI (T := T_Md) S hK hI o0 rfl hin_Md ty_Md tk_Md nm_Md 28 (index := 178) (by decide) lf_Md_178 rfl d_Md_parse_129 (fun H locs F23 e24 hI => ?_)
      replace h := un_lt h _ e24
      refine lv_iconst (v := 0) hx hb d_Md_parse_132 rfl ?_
      refine lv_istore_n (lv' := [(1, .int (0 : Int32)), (0, .ref (mAd X i0)), (2, .int x2), (3, .int x3), (4, .int x4), (5, .int x5)]) hx hb d_Md_parse_133 rfl hl (by decide) rfl (fun ls hl => ?_)
      refine lv_iload_n hx hb d_Md_parse_134 rfl (lv_at hl 2 rfl) ?_
      refine lv_iload_n hx hb d_Md_parse_135 rfl (lv_at hl 3 rfl) ?_
      refine lv_iadd hx hb d_Md_parse_136 ?_
      refine lv_istore_n (lv' := [(2, .int (x2 + x3)), (1, .int (0 : Int32)), (0, .ref (mAd X i0)), (3, .int x3), (4, .int x4), (5, .int x5)]) hx hb d_Md_parse_137 rfl hl (by decide) rfl (fun ls hl => ?_)
      refine lv_goto (tgt := 172) hx hb d_Md_parse_138 rfl ?_
      exact t_Md_parse_172 hC hk14 o0 hI (lv_sub hl [2, 1, 0] rfl) h
  · replace h := (if_neg hc).symm.trans h
    refine lv_aload_n hx hb d_Md_parse_36 rfl (lv_at hl 0 rfl) ?_
    refine lv_iload hx hb d_Md_parse_37 (lv_at hl 5 rfl) ?_
    refine lv_iload_n hx hb d_Md_parse_39 rfl (lv_at hl 2 rfl) ?_
    obtain ⟨q25, e26, h⟩ := un_bi h
    refine w_callVi (As := [.int x5, .int x2]) (rest := []) S hK hI hT (c_Md_run l hW o0 e26) (cwV 2 S.2.2.2.2 (gd_V lc_Md_run lm_Md_218 li_Md_run ls_Md_run ln_Md) rfl rfl rfl hd_Md_run ⟨Nat.le_of_ble_eq_true rfl, Nat.le_of_ble_eq_true rfl⟩) o0 rfl (by decide) rfl rfl hl.1 (Nat.le_of_ble_eq_true rfl) d_Md_parse_40 ⟨Nat.zero_le _, Nat.zero_le _⟩ (fun H locs hI => ?_)
    refine lv_istore (lv' := [(6, .int q25.1), (0, .ref (mAd X i0)), (1, .int x1), (2, .int x2), (3, .int x3), (4, .int x4), (5, .int x5)]) hx hb d_Md_parse_43 hl (by decide) rfl (fun ls hl => ?_)
    refine lv_iload hx hb d_Md_parse_45 (lv_at hl 0 rfl) ?_
    refine lv_iload_n hx hb d_Md_parse_47 rfl (lv_at hl 4 rfl) ?_
    refine lv_icmp_lt (tgt := 56) hx hb d_Md_parse_48 rfl (fun hc => ?_) (fun hc => ?_)
    · replace h := (if_pos hc).symm.trans h
      refine lv_iload hx hb d_Md_parse_56 (lv_at hl 5 rfl) ?_
      exact t_Md_parse_58 hC hk14 hk30 o0 hI (lv_sub hl [1, 2, 3, 4, 6, 0] rfl) h
    · replace h := (if_neg hc).symm.trans h
      refine lv_iload hx hb d_Md_parse_51 (lv_at hl 6 rfl) ?_
      refine lv_goto (tgt := 58) hx hb d_Md_parse_53 rfl ?_
      exact t_Md_parse_58 hC hk14 hk30 o0 hI (lv_sub hl [1, 2, 3, 4, 6, 0] rfl) h
def f_Md_parse_30 (L : La) (k14 : Nat → Int32 → Int32 → Mem → Option Mem) : Nat → Nat → Int32 → Int32 → Int32 → Int32 → Int32 → Mem → Option Mem
  | 0 => fun _ _ _ _ _ _ _ => none
  | n + 1 => b_Md_parse_30 L k14 (f_Md_parse_30 L k14 n)
theorem tf_Md_parse_30 (hC : Cx X L p s m args meth c cc_Md_parse 7 w_Md_parse R_Md none) {k14 : Nat → Int32 → Int32 → Mem → Option Mem} {out : Mem} (hk14 : ∀ (i0 : Nat) (x1 : Int32) (x2 : Int32) (F : Mem) (H : Heap) (locs : List Loc) (ls : Array Slot), oO L 12 i0 → Iv X L s H locs F → lv_has ls 7 [(0, .ref (mAd X i0)), (1, .int x1), (2, .int x2)] → k14 i0 x1 x2 F = some out → W p l e (headSpec w_Md_parse r_Md_parse).room s m args below meth c H locs 0 0 (MQ below (QV X L out) args s 0 0 (AA X L)) (F0 m 14 ls [])) (n : Nat) : ∀ (i0 : Nat) (x1 : Int32) (x2 : Int32) (x3 : Int32) (x4 : Int32) (x5 : Int32) (F : Mem) (H : Heap) (locs : List Loc) (ls : Array Slot), oO L 12 i0 → Iv X L s H locs F → lv_has ls 7 [(0, .ref (mAd X i0)), (1, .int x1), (2, .int x2), (3, .int x3), (4, .int x4), (5, .int x5)] → f_Md_parse_30 L k14 n i0 x1 x2 x3 x4 x5 F = some out → W p l e (headSpec w_Md_parse r_Md_parse).room s m args below meth c H locs 0 0 (MQ below (QV X L out) args s 0 0 (AA X L)) (F0 m 30 ls []) := by
  induction n with
  | zero => intro i0 x1 x2 x3 x4 x5 F H locs ls o0 hI hl h; cases h
  | succ n ih => intro i0 x1 x2 x3 x4 x5 F H locs ls o0 hI hl h; exact t_Md_parse_30 hC hk14 ih o0 hI hl h
def b_Md_parse_14 (L : La) (k14 : Nat → Int32 → Int32 → Mem → Option Mem) (i0 : Nat) (x1 : Int32) (x2 : Int32) (F : Mem) : Option Mem :=
  if (F i0 1) ≤ x2 then
    some F
  else
    f_Md_parse_30 L k14 mFU i0 x1 x2 (0 : Int32) (0 : Int32) (0 : Int32) F
set_option maxHeartbeats 4000000 in
theorem t_Md_parse_14 (hC : Cx X L p s m args meth c cc_Md_parse 7 w_Md_parse R_Md none) {k14 : Nat → Int32 → Int32 → Mem → Option Mem} {out : Mem} (hk14 : ∀ (i0 : Nat) (x1 : Int32) (x2 : Int32) (F : Mem) (H : Heap) (locs : List Loc) (ls : Array Slot), oO L 12 i0 → Iv X L s H locs F → lv_has ls 7 [(0, .ref (mAd X i0)), (1, .int x1), (2, .int x2)] → k14 i0 x1 x2 F = some out → W p l e (headSpec w_Md_parse r_Md_parse).room s m args below meth c H locs 0 0 (MQ below (QV X L out) args s 0 0 (AA X L)) (F0 m 14 ls [])) {i0 : Nat} {x1 : Int32} {x2 : Int32} {F : Mem} {H : Heap} {locs : List Loc} {ls : Array Slot} (o0 : oO L 12 i0) (hI : Iv X L s H locs F) (hl : lv_has ls 7 [(0, .ref (mAd X i0)), (1, .int x1), (2, .int x2)]) (h : b_Md_parse_14 L k14 i0 x1 x2 F = some out) : W p l e (headSpec w_Md_parse r_Md_parse).room s m args below meth c H locs 0 0 (MQ below (QV X L out) args s 0 0 (AA X L)) (F0 m 14 ls []) := by
  unfold b_Md_parse_14 at h
  obtain ⟨S, hK, hT, hW, hr, hlk⟩ := id hC
  have hx := S.1
  have hb := S.2.1
  refine lv_iload_n hx hb d_Md_parse_14 rfl (lv_at hl 2 rfl) ?_
  refine lv_aload_n hx hb d_Md_parse_15 rfl (lv_at hl 0 rfl) ?_
  refine w_getI (T := T_Md) S hK hI o0 rfl hin_Md 1 (index := 86) (by decide) lf_Md_86 d_Md_parse_16 ?_
  refine lv_icmp_ge (tgt := 175) hx hb d_Md_parse_19 rfl (fun hc => ?_) (fun hc => ?_)
  · replace h := (if_pos hc).symm.trans h
    exact w_vret S hK hr hlk hI d_Md_parse_175 h
  · replace h := (if_neg hc).symm.trans h
    refine lv_iconst (v := 0) hx hb d_Md_parse_22 rfl ?_
    refine lv_istore_n (lv' := [(3, .int (0 : Int32)), (0, .ref (mAd X i0)), (1, .int x1), (2, .int x2)]) hx hb d_Md_parse_23 rfl hl (by decide) rfl (fun ls hl => ?_)
    refine lv_iconst (v := 0) hx hb d_Md_parse_24 rfl ?_
    refine lv_istore (lv' := [(4, .int (0 : Int32)), (3, .int (0 : Int32)), (0, .ref (mAd X i0)), (1, .int x1), (2, .int x2)]) hx hb d_Md_parse_25 hl (by decide) rfl (fun ls hl => ?_)
    refine lv_iconst (v := 0) hx hb d_Md_parse_27 rfl ?_
    refine lv_istore (lv' := [(5, .int (0 : Int32)), (4, .int (0 : Int32)), (3, .int (0 : Int32)), (0, .ref (mAd X i0)), (1, .int x1), (2, .int x2)]) hx hb d_Md_parse_28 hl (by decide) rfl (fun ls hl => ?_)
    exact tf_Md_parse_30 hC hk14 mFU _ _ _ _ _ _ _ _ _ _ o0 hI (lv_sub hl [3, 4, 5, 2, 1, 0] rfl) h
def f_Md_parse_14 (L : La)  : Nat → Nat → Int32 → Int32 → Mem → Option Mem
  | 0 => fun _ _ _ _ => none
  | n + 1 => b_Md_parse_14 L (f_Md_parse_14 L  n)
theorem tf_Md_parse_14 (hC : Cx X L p s m args meth c cc_Md_parse 7 w_Md_parse R_Md none)  {out : Mem}  (n : Nat) : ∀ (i0 : Nat) (x1 : Int32) (x2 : Int32) (F : Mem) (H : Heap) (locs : List Loc) (ls : Array Slot), oO L 12 i0 → Iv X L s H locs F → lv_has ls 7 [(0, .ref (mAd X i0)), (1, .int x1), (2, .int x2)] → f_Md_parse_14 L  n i0 x1 x2 F = some out → W p l e (headSpec w_Md_parse r_Md_parse).room s m args below meth c H locs 0 0 (MQ below (QV X L out) args s 0 0 (AA X L)) (F0 m 14 ls []) := by
  induction n with
  | zero => intro i0 x1 x2 F H locs ls o0 hI hl h; cases h
  | succ n ih => intro i0 x1 x2 F H locs ls o0 hI hl h; exact t_Md_parse_14 hC ih o0 hI hl h
def f_Md_parse (L : La) (i0 : Nat) (F : Mem) : Option Mem :=
  lt' (u2 F i0 13 (0 : Int32)) fun F1 =>
  lt' (u2 F1 i0 28 (0 : Int32)) fun F3 =>
  f_Md_parse_14 L  mFU i0 (0 : Int32) (0 : Int32) F3
set_option maxHeartbeats 4000000 in
theorem c_Md_parse (l : Launch) {X : Xs} {L : La} (hW : WT L) {out : Mem} {i0 : Nat} {F : Mem} (o0 : oO L 12 i0) (h : f_Md_parse L i0 F = some out) : Met l y_Md_parse w_Md_parse r_Md_parse (va_Pc [.ref (mAd X i0)] (Pr X L F)) (QV X L out) 0 0 (AA X L) := by
  refine mk_met (by decide) rfl (Nat.le_of_ble_eq_true rfl) hW ?_
  intro p e s m args below meth c ls hC hI hl
  have hl : lv_has ls 7 [(0, .ref (mAd X i0))] := hl
  generalize hHe : s.heap = H at hI ⊢
  generalize ([] : List Loc) = locs at hI ⊢
  unfold f_Md_parse at h
  obtain ⟨S, hK, hT, hW, hr, hlk⟩ := id hC
  have hx := S.1
  have hb := S.2.1
  refine lv_aload_n hx hb d_Md_parse_0 rfl (lv_at hl 0 rfl) ?_
  refine lv_iconst (v := 0) hx hb d_Md_parse_1 rfl ?_
  refine w_putI (T := T_Md) S hK hI o0 rfl hin_Md ty_Md tk_Md nm_Md 13 (index := 150) (by decide) lf_Md_150 rfl d_Md_parse_2 (fun H locs F1 e2 hI => ?_)
  replace h := un_lt h _ e2
  refine lv_aload_n hx hb d_Md_parse_5 rfl (lv_at hl 0 rfl) ?_
  refine lv_iconst (v := 0) hx hb d_Md_parse_6 rfl ?_
  refine w_putI (T := T_Md) S hK hI o0 rfl hin_Md ty_Md tk_Md nm_Md 28 (index := 178) (by decide) lf_Md_178 rfl d_Md_parse_7 (fun H locs F3 e4 hI => ?_)
  replace h := un_lt h _ e4
  refine lv_iconst (v := 0) hx hb d_Md_parse_10 rfl ?_
  refine lv_istore_n (lv' := [(1, .int (0 : Int32)), (0, .ref (mAd X i0))]) hx hb d_Md_parse_11 rfl hl (by decide) rfl (fun ls hl => ?_)
  refine lv_iconst (v := 0) hx hb d_Md_parse_12 rfl ?_
  refine lv_istore_n (lv' := [(2, .int (0 : Int32)), (1, .int (0 : Int32)), (0, .ref (mAd X i0))]) hx hb d_Md_parse_13 rfl hl (by decide) rfl (fun ls hl => ?_)
  exact tf_Md_parse_14 hC  mFU _ _ _ _ _ _ _ o0 hI (lv_sub hl [2, 1, 0] rfl) h
end
