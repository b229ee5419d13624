def nestM : List (String × Nat × MethodName × String) := [("PackFrames$FrameReader", 22, y_Rp_init, "PackFrames"), ("PackFrames$FrameReader", 29, y_Tr_init, "PackFrames"), ("PackFrames$Packer", 22, y_Br_init, "PackFrames"), ("PackFrames$Packer", 29, y_Jo_init, "PackFrames"), ("PackFrames$Packer", 36, y_Tr_init, "PackFrames"), ("PackFrames$MatchFinder", 32, y_Rp_init, "PackFrames")]
set_option maxRecDepth 100000 in
theorem lc_Obj : Cond.code objectInit ⟨#[0xb1]⟩ 1 none ∈ wG := wG_of (List.mem_append_right _ (List.mem_of_getElem? (i := 24) rfl)) rfl
theorem li_Obj : Cond.instanceMethod objectInit ∈ wG := wG_of (List.mem_append_right _ (List.mem_of_getElem? (i := 23) (by decide +kernel))) rfl
theorem lo_PF : Cond.methodLink R_PF 1 objectInit ∈ wG := wG_of (List.mem_append_right _ (List.mem_of_getElem? (i := 22) (by decide +kernel))) rfl
theorem lq_PF_7 : Cond.classLink R_PF 7 R_Row ∈ wG := wG_of (List.mem_append_right _ (List.mem_of_getElem? (i := 25) (by decide +kernel))) rfl
theorem lq_PF_21 : Cond.classLink R_PF 21 R_ST ∈ wG := wG_of (List.mem_append_right _ (List.mem_of_getElem? (i := 51) (by decide +kernel))) rfl
theorem lq_PF_40 : Cond.classLink R_PF 40 R_Fr ∈ wG := wG_of (List.mem_append_right _ (List.mem_of_getElem? (i := 95) (by decide +kernel))) rfl
theorem lq_PF_49 : Cond.classLink R_PF 49 R_Pk ∈ wG := wG_of (List.mem_append_right _ (List.mem_of_getElem? (i := 249) (by decide +kernel))) rfl
theorem lo_Row : Cond.methodLink R_Row 3 objectInit ∈ wG := wG_of (List.mem_append_right _ (List.mem_of_getElem? (i := 30) (by decide +kernel))) rfl
theorem lo_ST : Cond.methodLink R_ST 3 objectInit ∈ wG := wG_of (List.mem_append_right _ (List.mem_of_getElem? (i := 58) (by decide +kernel))) rfl
theorem lo_Fr : Cond.methodLink R_Fr 3 objectInit ∈ wG := wG_of (List.mem_append_right _ (List.mem_of_getElem? (i := 100) (by decide +kernel))) rfl
theorem lq_Fr_9 : Cond.classLink R_Fr 9 R_Row ∈ wG := wG_of (List.mem_append_right _ (List.mem_of_getElem? (i := 101) (by decide +kernel))) rfl
theorem lq_Fr_20 : Cond.classLink R_Fr 20 R_Rp ∈ wG := wG_of (List.mem_append_right _ (List.mem_of_getElem? (i := 103) (by decide +kernel))) rfl
theorem lq_Fr_27 : Cond.classLink R_Fr 27 R_Tr ∈ wG := wG_of (List.mem_append_right _ (List.mem_of_getElem? (i := 119) (by decide +kernel))) rfl
theorem lq_Fr_37 : Cond.classLink R_Fr 37 R_Wr ∈ wG := wG_of (List.mem_append_right _ (List.mem_of_getElem? (i := 146) (by decide +kernel))) rfl
theorem lq_Fr_46 : Cond.classLink R_Fr 46 R_Sq ∈ wG := wG_of (List.mem_append_right _ (List.mem_of_getElem? (i := 175) (by decide +kernel))) rfl
theorem lo_Rp : Cond.methodLink R_Rp 1 objectInit ∈ wG := wG_of (List.mem_append_right _ (List.mem_of_getElem? (i := 108) (by decide +kernel))) rfl
theorem lo_Tr : Cond.methodLink R_Tr 3 objectInit ∈ wG := wG_of (List.mem_append_right _ (List.mem_of_getElem? (i := 124) (by decide +kernel))) rfl
theorem lo_Wr : Cond.methodLink R_Wr 1 objectInit ∈ wG := wG_of (List.mem_append_right _ (List.mem_of_getElem? (i := 151) (by decide +kernel))) rfl
theorem lo_Sq : Cond.methodLink R_Sq 3 objectInit ∈ wG := wG_of (List.mem_append_right _ (List.mem_of_getElem? (i := 180) (by decide +kernel))) rfl
theorem lq_Sq_9 : Cond.classLink R_Sq 9 R_ST ∈ wG := wG_of (List.mem_append_right _ (List.mem_of_getElem? (i := 181) (by decide +kernel))) rfl
theorem lo_Pk : Cond.methodLink R_Pk 3 objectInit ∈ wG := wG_of (List.mem_append_right _ (List.mem_of_getElem? (i := 254) (by decide +kernel))) rfl
theorem lq_Pk_9 : Cond.classLink R_Pk 9 R_Row ∈ wG := wG_of (List.mem_append_right _ (List.mem_of_getElem? (i := 255) (by decide +kernel))) rfl
theorem lq_Pk_20 : Cond.classLink R_Pk 20 R_Br ∈ wG := wG_of (List.mem_append_right _ (List.mem_of_getElem? (i := 257) (by decide +kernel))) rfl
theorem lq_Pk_27 : Cond.classLink R_Pk 27 R_Jo ∈ wG := wG_of (List.mem_append_right _ (List.mem_of_getElem? (i := 271) (by decide +kernel))) rfl
theorem lq_Pk_34 : Cond.classLink R_Pk 34 R_Tr ∈ wG := wG_of (List.mem_append_right _ (List.mem_of_getElem? (i := 292) (by decide +kernel))) rfl
theorem lq_Pk_61 : Cond.classLink R_Pk 61 R_Mf ∈ wG := wG_of (List.mem_append_right _ (List.mem_of_getElem? (i := 294) (by decide +kernel))) rfl
theorem lo_Br : Cond.methodLink R_Br 3 objectInit ∈ wG := wG_of (List.mem_append_right _ (List.mem_of_getElem? (i := 262) (by decide +kernel))) rfl
theorem lo_Jo : Cond.methodLink R_Jo 3 objectInit ∈ wG := wG_of (List.mem_append_right _ (List.mem_of_getElem? (i := 276) (by decide +kernel))) rfl
theorem lo_Mf : Cond.methodLink R_Mf 3 objectInit ∈ wG := wG_of (List.mem_append_right _ (List.mem_of_getElem? (i := 299) (by decide +kernel))) rfl
theorem lq_Mf_9 : Cond.classLink R_Mf 9 R_Row ∈ wG := wG_of (List.mem_append_right _ (List.mem_of_getElem? (i := 300) (by decide +kernel))) rfl
theorem lq_Mf_30 : Cond.classLink R_Mf 30 R_Rp ∈ wG := wG_of (List.mem_append_right _ (List.mem_of_getElem? (i := 302) (by decide +kernel))) rfl
theorem lo_Md : Cond.methodLink R_Md 1 objectInit ∈ wG := wG_of (List.mem_append_right _ (List.mem_of_getElem? (i := 824) (by decide +kernel))) rfl
theorem lz_PF : Cond.instantiable R_PF 6 ∈ wG := wG_of (List.mem_append_right _ (List.mem_of_getElem? (i := 18) (by decide +kernel))) rfl
theorem df_PF : ∀ j, j < 6 → defaultValue (ty_PF j) = vp_V [.null, .null, .null, .null, .null, .null] j := by decide +kernel
theorem lz_Row : Cond.instantiable R_Row 2 ∈ wG := wG_of (List.mem_append_right _ (List.mem_of_getElem? (i := 26) (by decide +kernel))) rfl
theorem df_Row : ∀ j, j < 2 → defaultValue (ty_Row j) = vp_V [.null, .int 0] j := by decide +kernel
theorem lz_ST : Cond.instantiable R_ST 7 ∈ wG := wG_of (List.mem_append_right _ (List.mem_of_getElem? (i := 52) (by decide +kernel))) rfl
theorem df_ST : ∀ j, j < 7 → defaultValue (ty_ST j) = vp_V [.null, .null, .null, .null, .null, .int 0, .int 0] j := by decide +kernel
theorem lz_Tr : Cond.instantiable R_Tr 5 ∈ wG := wG_of (List.mem_append_right _ (List.mem_of_getElem? (i := 120) (by decide +kernel))) rfl
theorem df_Tr : ∀ j, j < 5 → defaultValue (ty_Tr j) = vp_V [.null, .null, .null, .int 0, .int 0] j := by decide +kernel
theorem lz_Jo : Cond.instantiable R_Jo 4 ∈ wG := wG_of (List.mem_append_right _ (List.mem_of_getElem? (i := 272) (by decide +kernel))) rfl
theorem df_Jo : ∀ j, j < 4 → defaultValue (ty_Jo j) = vp_V [.null, .null, .null, .int 0] j := by decide +kernel
theorem lz_Br : Cond.instantiable R_Br 2 ∈ wG := wG_of (List.mem_append_right _ (List.mem_of_getElem? (i := 258) (by decide +kernel))) rfl
theorem df_Br : ∀ j, j < 2 → defaultValue (ty_Br j) = vp_V [.null, .int 0] j := by decide +kernel
theorem lz_Rp : Cond.instantiable R_Rp 3 ∈ wG := wG_of (List.mem_append_right _ (List.mem_of_getElem? (i := 104) (by decide +kernel))) rfl
theorem df_Rp : ∀ j, j < 3 → defaultValue (ty_Rp j) = vp_V [.int 0, .int 0, .int 0] j := by decide +kernel
theorem lz_Wr : Cond.instantiable R_Wr 6 ∈ wG := wG_of (List.mem_append_right _ (List.mem_of_getElem? (i := 147) (by decide +kernel))) rfl
theorem df_Wr : ∀ j, j < 6 → defaultValue (ty_Wr j) = vp_V [.null, .int 0, .int 0, .int 0, .int 0, .int 0] j := by decide +kernel
theorem lz_Sq : Cond.instantiable R_Sq 9 ∈ wG := wG_of (List.mem_append_right _ (List.mem_of_getElem? (i := 176) (by decide +kernel))) rfl
theorem df_Sq : ∀ j, j < 9 → defaultValue (ty_Sq j) = vp_V [.null, .null, .null, .null, .null, .int 0, .int 0, .int 0, .int 0] j := by decide +kernel
theorem lz_Fr : Cond.instantiable R_Fr 10 ∈ wG := wG_of (List.mem_append_right _ (List.mem_of_getElem? (i := 96) (by decide +kernel))) rfl
theorem df_Fr : ∀ j, j < 10 → defaultValue (ty_Fr j) = vp_V [.null, .null, .null, .null, .null, .null, .int 0, .int 0, .int 0, .int 0] j := by decide +kernel
theorem lz_Mf : Cond.instantiable R_Mf 9 ∈ wG := wG_of (List.mem_append_right _ (List.mem_of_getElem? (i := 295) (by decide +kernel))) rfl
theorem df_Mf : ∀ j, j < 9 → defaultValue (ty_Mf j) = vp_V [.null, .null, .null, .null, .null, .null, .int 0, .int 0, .int 0] j := by decide +kernel
theorem lz_Pk : Cond.instantiable R_Pk 13 ∈ wG := wG_of (List.mem_append_right _ (List.mem_of_getElem? (i := 250) (by decide +kernel))) rfl
theorem df_Pk : ∀ j, j < 13 → defaultValue (ty_Pk j) = vp_V [.null, .null, .null, .null, .null, .null, .null, .null, .null, .null, .null, .int 0, .int 0] j := by decide +kernel
theorem lz_Md : Cond.instantiable R_Md 42 ∈ wG := wG_of (List.mem_append_right _ (List.mem_of_getElem? (i := 820) (by decide +kernel))) rfl
theorem df_Md : ∀ j, j < 42 → defaultValue (ty_Md j) = vp_V [.null, .int 0, .null, .int 0, .int 0, .int 0, .int 0, .null, .int 0, .int 0, .null, .int 0, .int 0, .int 0, .null, .int 0, .int 0, .int 0, .int 0, .null, .null, .null, .null, .null, .null, .null, .null, .null, .int 0, .null, .null, .null, .null, .null, .int 0, .null, .int 0, .null, .null, .null, .null, .null] j := by decide +kernel
theorem la_I : Cond.arrayClass (newarray.typeOf .int) ∈ wG := wG_of (List.mem_append_right _ (List.mem_of_getElem? (i := 50) (by decide +kernel))) rfl
theorem la_Z : Cond.arrayClass (newarray.typeOf .boolean) ∈ wG := wG_of (List.mem_append_right _ (List.mem_of_getElem? (i := 952) (by decide +kernel))) rfl
theorem d_PF_init_0 : decode cc_PF_init 0 = .ok (.aload_n 0, 1) := by decide +kernel
theorem d_PF_init_1 : decode cc_PF_init 1 = .ok (.invokespecial 1, 3) := by decide +kernel
theorem d_PF_init_4 : decode cc_PF_init 4 = .ok (.aload_n 0, 1) := by decide +kernel
theorem d_PF_init_5 : decode cc_PF_init 5 = .ok (.new 7, 3) := by decide +kernel
theorem d_PF_init_8 : decode cc_PF_init 8 = .ok (.dup, 1) := by decide +kernel
theorem d_PF_init_9 : decode cc_PF_init 9 = .ok (.bipush (120), 2) := by decide +kernel
theorem d_PF_init_11 : decode cc_PF_init 11 = .ok (.invokespecial 11, 3) := by decide +kernel
theorem d_PF_init_14 : decode cc_PF_init 14 = .ok (.putfield 14, 3) := by decide +kernel
theorem d_PF_init_17 : decode cc_PF_init 17 = .ok (.aload_n 0, 1) := by decide +kernel
theorem d_PF_init_18 : decode cc_PF_init 18 = .ok (.new 7, 3) := by decide +kernel
theorem d_PF_init_21 : decode cc_PF_init 21 = .ok (.dup, 1) := by decide +kernel
theorem d_PF_init_22 : decode cc_PF_init 22 = .ok (.sipush (240), 3) := by decide +kernel
theorem d_PF_init_25 : decode cc_PF_init 25 = .ok (.invokespecial 11, 3) := by decide +kernel
theorem d_PF_init_28 : decode cc_PF_init 28 = .ok (.putfield 18, 3) := by decide +kernel
theorem d_PF_init_31 : decode cc_PF_init 31 = .ok (.aload_n 0, 1) := by decide +kernel
theorem d_PF_init_32 : decode cc_PF_init 32 = .ok (.new 21, 3) := by decide +kernel
theorem d_PF_init_35 : decode cc_PF_init 35 = .ok (.dup, 1) := by decide +kernel
theorem d_PF_init_36 : decode cc_PF_init 36 = .ok (.getstatic 23, 3) := by decide +kernel
theorem d_PF_init_39 : decode cc_PF_init 39 = .ok (.invokespecial 27, 3) := by decide +kernel
theorem d_PF_init_42 : decode cc_PF_init 42 = .ok (.putfield 30, 3) := by decide +kernel
theorem d_PF_init_45 : decode cc_PF_init 45 = .ok (.aload_n 0, 1) := by decide +kernel
theorem d_PF_init_46 : decode cc_PF_init 46 = .ok (.new 21, 3) := by decide +kernel
theorem d_PF_init_49 : decode cc_PF_init 49 = .ok (.dup, 1) := by decide +kernel
theorem d_PF_init_50 : decode cc_PF_init 50 = .ok (.getstatic 34, 3) := by decide +kernel
theorem d_PF_init_53 : decode cc_PF_init 53 = .ok (.invokespecial 27, 3) := by decide +kernel
theorem d_PF_init_56 : decode cc_PF_init 56 = .ok (.putfield 37, 3) := by decide +kernel
theorem d_PF_init_59 : decode cc_PF_init 59 = .ok (.aload_n 0, 1) := by decide +kernel
theorem d_PF_init_60 : decode cc_PF_init 60 = .ok (.new 40, 3) := by decide +kernel
theorem d_PF_init_63 : decode cc_PF_init 63 = .ok (.dup, 1) := by decide +kernel
theorem d_PF_init_64 : decode cc_PF_init 64 = .ok (.aload_n 0, 1) := by decide +kernel
theorem d_PF_init_65 : decode cc_PF_init 65 = .ok (.getfield 18, 3) := by decide +kernel
theorem d_PF_init_68 : decode cc_PF_init 68 = .ok (.invokespecial 42, 3) := by decide +kernel
theorem d_PF_init_71 : decode cc_PF_init 71 = .ok (.putfield 45, 3) := by decide +kernel
theorem d_PF_init_74 : decode cc_PF_init 74 = .ok (.aload_n 0, 1) := by decide +kernel
theorem d_PF_init_75 : decode cc_PF_init 75 = .ok (.new 49, 3) := by decide +kernel
theorem d_PF_init_78 : decode cc_PF_init 78 = .ok (.dup, 1) := by decide +kernel
theorem d_PF_init_79 : decode cc_PF_init 79 = .ok (.aload_n 0, 1) := by decide +kernel
theorem d_PF_init_80 : decode cc_PF_init 80 = .ok (.getfield 14, 3) := by decide +kernel
theorem d_PF_init_83 : decode cc_PF_init 83 = .ok (.aload_n 0, 1) := by decide +kernel
theorem d_PF_init_84 : decode cc_PF_init 84 = .ok (.getfield 30, 3) := by decide +kernel
theorem d_PF_init_87 : decode cc_PF_init 87 = .ok (.aload_n 0, 1) := by decide +kernel
theorem d_PF_init_88 : decode cc_PF_init 88 = .ok (.getfield 37, 3) := by decide +kernel
theorem d_PF_init_91 : decode cc_PF_init 91 = .ok (.invokespecial 51, 3) := by decide +kernel
theorem d_PF_init_94 : decode cc_PF_init 94 = .ok (.putfield 54, 3) := by decide +kernel
theorem d_PF_init_97 : decode cc_PF_init 97 = .ok (.return_, 1) := by decide +kernel
theorem d_Row_init_0 : decode cc_Row_init 0 = .ok (.aload_n 0, 1) := by decide +kernel
theorem d_Row_init_1 : decode cc_Row_init 1 = .ok (.invokespecial 3, 3) := by decide +kernel
theorem d_Row_init_4 : decode cc_Row_init 4 = .ok (.aload_n 0, 1) := by decide +kernel
theorem d_Row_init_5 : decode cc_Row_init 5 = .ok (.iload_n 1, 1) := by decide +kernel
theorem d_Row_init_6 : decode cc_Row_init 6 = .ok (.newarray .int, 2) := by decide +kernel
theorem d_Row_init_8 : decode cc_Row_init 8 = .ok (.putfield 9, 3) := by decide +kernel
theorem d_Row_init_11 : decode cc_Row_init 11 = .ok (.return_, 1) := by decide +kernel
theorem d_ST_init_0 : decode cc_ST_init 0 = .ok (.aload_n 0, 1) := by decide +kernel
theorem d_ST_init_1 : decode cc_ST_init 1 = .ok (.invokespecial 3, 3) := by decide +kernel
theorem d_ST_init_4 : decode cc_ST_init 4 = .ok (.aload_n 0, 1) := by decide +kernel
theorem d_ST_init_5 : decode cc_ST_init 5 = .ok (.bipush (16), 2) := by decide +kernel
theorem d_ST_init_7 : decode cc_ST_init 7 = .ok (.newarray .int, 2) := by decide +kernel
theorem d_ST_init_9 : decode cc_ST_init 9 = .ok (.putfield 9, 3) := by decide +kernel
theorem d_ST_init_12 : decode cc_ST_init 12 = .ok (.aload_n 0, 1) := by decide +kernel
theorem d_ST_init_13 : decode cc_ST_init 13 = .ok (.bipush (16), 2) := by decide +kernel
theorem d_ST_init_15 : decode cc_ST_init 15 = .ok (.newarray .int, 2) := by decide +kernel
theorem d_ST_init_17 : decode cc_ST_init 17 = .ok (.putfield 15, 3) := by decide +kernel
theorem d_ST_init_20 : decode cc_ST_init 20 = .ok (.aload_n 0, 1) := by decide +kernel
theorem d_ST_init_21 : decode cc_ST_init 21 = .ok (.bipush (16), 2) := by decide +kernel
theorem d_ST_init_23 : decode cc_ST_init 23 = .ok (.newarray .int, 2) := by decide +kernel
theorem d_ST_init_25 : decode cc_ST_init 25 = .ok (.putfield 18, 3) := by decide +kernel
theorem d_ST_init_28 : decode cc_ST_init 28 = .ok (.aload_n 0, 1) := by decide +kernel
theorem d_ST_init_29 : decode cc_ST_init 29 = .ok (.aload_n 1, 1) := by decide +kernel
theorem d_ST_init_30 : decode cc_ST_init 30 = .ok (.putfield 21, 3) := by decide +kernel
theorem d_ST_init_33 : decode cc_ST_init 33 = .ok (.aload_n 0, 1) := by decide +kernel
theorem d_ST_init_34 : decode cc_ST_init 34 = .ok (.aload_n 1, 1) := by decide +kernel
theorem d_ST_init_35 : decode cc_ST_init 35 = .ok (.arraylength, 1) := by decide +kernel
theorem d_ST_init_36 : decode cc_ST_init 36 = .ok (.newarray .int, 2) := by decide +kernel
theorem d_ST_init_38 : decode cc_ST_init 38 = .ok (.putfield 24, 3) := by decide +kernel
theorem d_ST_init_41 : decode cc_ST_init 41 = .ok (.aload_n 0, 1) := by decide +kernel
theorem d_ST_init_42 : decode cc_ST_init 42 = .ok (.aload_n 1, 1) := by decide +kernel
theorem d_ST_init_43 : decode cc_ST_init 43 = .ok (.aload_n 1, 1) := by decide +kernel
theorem d_ST_init_44 : decode cc_ST_init 44 = .ok (.arraylength, 1) := by decide +kernel
theorem d_ST_init_45 : decode cc_ST_init 45 = .ok (.invokevirtual 27, 3) := by decide +kernel
theorem d_ST_init_48 : decode cc_ST_init 48 = .ok (.return_, 1) := by decide +kernel
theorem d_Fr_init_0 : decode cc_Fr_init 0 = .ok (.aload_n 0, 1) := by decide +kernel
theorem d_Fr_init_1 : decode cc_Fr_init 1 = .ok (.invokespecial 3, 3) := by decide +kernel
theorem d_Fr_init_4 : decode cc_Fr_init 4 = .ok (.aload_n 0, 1) := by decide +kernel
theorem d_Fr_init_5 : decode cc_Fr_init 5 = .ok (.new 9, 3) := by decide +kernel
theorem d_Fr_init_8 : decode cc_Fr_init 8 = .ok (.dup, 1) := by decide +kernel
theorem d_Fr_init_9 : decode cc_Fr_init 9 = .ok (.bipush (120), 2) := by decide +kernel
theorem d_Fr_init_11 : decode cc_Fr_init 11 = .ok (.invokespecial 11, 3) := by decide +kernel
theorem d_Fr_init_14 : decode cc_Fr_init 14 = .ok (.putfield 14, 3) := by decide +kernel
theorem d_Fr_init_17 : decode cc_Fr_init 17 = .ok (.aload_n 0, 1) := by decide +kernel
theorem d_Fr_init_18 : decode cc_Fr_init 18 = .ok (.new 20, 3) := by decide +kernel
theorem d_Fr_init_21 : decode cc_Fr_init 21 = .ok (.dup, 1) := by decide +kernel
theorem d_Fr_init_22 : decode cc_Fr_init 22 = .ok (.invokespecial 22, 3) := by decide +kernel
theorem d_Fr_init_25 : decode cc_Fr_init 25 = .ok (.putfield 23, 3) := by decide +kernel
theorem d_Fr_init_28 : decode cc_Fr_init 28 = .ok (.aload_n 0, 1) := by decide +kernel
theorem d_Fr_init_29 : decode cc_Fr_init 29 = .ok (.new 27, 3) := by decide +kernel
theorem d_Fr_init_32 : decode cc_Fr_init 32 = .ok (.dup, 1) := by decide +kernel
theorem d_Fr_init_33 : decode cc_Fr_init 33 = .ok (.invokespecial 29, 3) := by decide +kernel
theorem d_Fr_init_36 : decode cc_Fr_init 36 = .ok (.putfield 30, 3) := by decide +kernel
theorem d_Fr_init_39 : decode cc_Fr_init 39 = .ok (.aload_n 0, 1) := by decide +kernel
theorem d_Fr_init_40 : decode cc_Fr_init 40 = .ok (.new 9, 3) := by decide +kernel
theorem d_Fr_init_43 : decode cc_Fr_init 43 = .ok (.dup, 1) := by decide +kernel
theorem d_Fr_init_44 : decode cc_Fr_init 44 = .ok (.bipush (63), 2) := by decide +kernel
theorem d_Fr_init_46 : decode cc_Fr_init 46 = .ok (.invokespecial 11, 3) := by decide +kernel
theorem d_Fr_init_49 : decode cc_Fr_init 49 = .ok (.putfield 34, 3) := by decide +kernel
theorem d_Fr_init_52 : decode cc_Fr_init 52 = .ok (.aload_n 0, 1) := by decide +kernel
theorem d_Fr_init_53 : decode cc_Fr_init 53 = .ok (.new 37, 3) := by decide +kernel
theorem d_Fr_init_56 : decode cc_Fr_init 56 = .ok (.dup, 1) := by decide +kernel
theorem d_Fr_init_57 : decode cc_Fr_init 57 = .ok (.aload_n 1, 1) := by decide +kernel
theorem d_Fr_init_58 : decode cc_Fr_init 58 = .ok (.invokespecial 39, 3) := by decide +kernel
theorem d_Fr_init_61 : decode cc_Fr_init 61 = .ok (.putfield 42, 3) := by decide +kernel
theorem d_Fr_init_64 : decode cc_Fr_init 64 = .ok (.aload_n 0, 1) := by decide +kernel
theorem d_Fr_init_65 : decode cc_Fr_init 65 = .ok (.new 46, 3) := by decide +kernel
theorem d_Fr_init_68 : decode cc_Fr_init 68 = .ok (.dup, 1) := by decide +kernel
theorem d_Fr_init_69 : decode cc_Fr_init 69 = .ok (.aload_n 0, 1) := by decide +kernel
theorem d_Fr_init_70 : decode cc_Fr_init 70 = .ok (.getfield 42, 3) := by decide +kernel
theorem d_Fr_init_73 : decode cc_Fr_init 73 = .ok (.invokespecial 48, 3) := by decide +kernel
theorem d_Fr_init_76 : decode cc_Fr_init 76 = .ok (.putfield 51, 3) := by decide +kernel
theorem d_Fr_init_79 : decode cc_Fr_init 79 = .ok (.return_, 1) := by decide +kernel
theorem d_Rp_init_0 : decode cc_Rp_init 0 = .ok (.aload_n 0, 1) := by decide +kernel
theorem d_Rp_init_1 : decode cc_Rp_init 1 = .ok (.invokespecial 1, 3) := by decide +kernel
theorem d_Rp_init_4 : decode cc_Rp_init 4 = .ok (.return_, 1) := by decide +kernel
theorem d_Tr_init_0 : decode cc_Tr_init 0 = .ok (.aload_n 0, 1) := by decide +kernel
theorem d_Tr_init_1 : decode cc_Tr_init 1 = .ok (.invokespecial 3, 3) := by decide +kernel
theorem d_Tr_init_4 : decode cc_Tr_init 4 = .ok (.aload_n 0, 1) := by decide +kernel
theorem d_Tr_init_5 : decode cc_Tr_init 5 = .ok (.bipush (17), 2) := by decide +kernel
theorem d_Tr_init_7 : decode cc_Tr_init 7 = .ok (.newarray .int, 2) := by decide +kernel
theorem d_Tr_init_9 : decode cc_Tr_init 9 = .ok (.putfield 9, 3) := by decide +kernel
theorem d_Tr_init_12 : decode cc_Tr_init 12 = .ok (.aload_n 0, 1) := by decide +kernel
theorem d_Tr_init_13 : decode cc_Tr_init 13 = .ok (.bipush (17), 2) := by decide +kernel
theorem d_Tr_init_15 : decode cc_Tr_init 15 = .ok (.newarray .int, 2) := by decide +kernel
theorem d_Tr_init_17 : decode cc_Tr_init 17 = .ok (.putfield 15, 3) := by decide +kernel
theorem d_Tr_init_20 : decode cc_Tr_init 20 = .ok (.aload_n 0, 1) := by decide +kernel
theorem d_Tr_init_21 : decode cc_Tr_init 21 = .ok (.sipush (128), 3) := by decide +kernel
theorem d_Tr_init_24 : decode cc_Tr_init 24 = .ok (.newarray .int, 2) := by decide +kernel
theorem d_Tr_init_26 : decode cc_Tr_init 26 = .ok (.putfield 18, 3) := by decide +kernel
theorem d_Tr_init_29 : decode cc_Tr_init 29 = .ok (.return_, 1) := by decide +kernel
theorem d_Wr_init_0 : decode cc_Wr_init 0 = .ok (.aload_n 0, 1) := by decide +kernel
theorem d_Wr_init_1 : decode cc_Wr_init 1 = .ok (.invokespecial 1, 3) := by decide +kernel
theorem d_Wr_init_4 : decode cc_Wr_init 4 = .ok (.aload_n 0, 1) := by decide +kernel
theorem d_Wr_init_5 : decode cc_Wr_init 5 = .ok (.aload_n 1, 1) := by decide +kernel
theorem d_Wr_init_6 : decode cc_Wr_init 6 = .ok (.putfield 7, 3) := by decide +kernel
theorem d_Wr_init_9 : decode cc_Wr_init 9 = .ok (.return_, 1) := by decide +kernel
theorem d_Sq_init_0 : decode cc_Sq_init 0 = .ok (.aload_n 0, 1) := by decide +kernel
theorem d_Sq_init_1 : decode cc_Sq_init 1 = .ok (.invokespecial 3, 3) := by decide +kernel
theorem d_Sq_init_4 : decode cc_Sq_init 4 = .ok (.aload_n 0, 1) := by decide +kernel
theorem d_Sq_init_5 : decode cc_Sq_init 5 = .ok (.new 9, 3) := by decide +kernel
theorem d_Sq_init_8 : decode cc_Sq_init 8 = .ok (.dup, 1) := by decide +kernel
theorem d_Sq_init_9 : decode cc_Sq_init 9 = .ok (.getstatic 11, 3) := by decide +kernel
theorem d_Sq_init_12 : decode cc_Sq_init 12 = .ok (.invokespecial 15, 3) := by decide +kernel
theorem d_Sq_init_15 : decode cc_Sq_init 15 = .ok (.putfield 18, 3) := by decide +kernel
theorem d_Sq_init_18 : decode cc_Sq_init 18 = .ok (.aload_n 0, 1) := by decide +kernel
theorem d_Sq_init_19 : decode cc_Sq_init 19 = .ok (.new 9, 3) := by decide +kernel
theorem d_Sq_init_22 : decode cc_Sq_init 22 = .ok (.dup, 1) := by decide +kernel
theorem d_Sq_init_23 : decode cc_Sq_init 23 = .ok (.getstatic 24, 3) := by decide +kernel
theorem d_Sq_init_26 : decode cc_Sq_init 26 = .ok (.invokespecial 15, 3) := by decide +kernel
theorem d_Sq_init_29 : decode cc_Sq_init 29 = .ok (.putfield 27, 3) := by decide +kernel
theorem d_Sq_init_32 : decode cc_Sq_init 32 = .ok (.aload_n 0, 1) := by decide +kernel
theorem d_Sq_init_33 : decode cc_Sq_init 33 = .ok (.new 9, 3) := by decide +kernel
theorem d_Sq_init_36 : decode cc_Sq_init 36 = .ok (.dup, 1) := by decide +kernel
theorem d_Sq_init_37 : decode cc_Sq_init 37 = .ok (.getstatic 11, 3) := by decide +kernel
theorem d_Sq_init_40 : decode cc_Sq_init 40 = .ok (.invokespecial 15, 3) := by decide +kernel
theorem d_Sq_init_43 : decode cc_Sq_init 43 = .ok (.putfield 30, 3) := by decide +kernel
theorem d_Sq_init_46 : decode cc_Sq_init 46 = .ok (.aload_n 0, 1) := by decide +kernel
theorem d_Sq_init_47 : decode cc_Sq_init 47 = .ok (.getstatic 11, 3) := by decide +kernel
theorem d_Sq_init_50 : decode cc_Sq_init 50 = .ok (.arraylength, 1) := by decide +kernel
theorem d_Sq_init_51 : decode cc_Sq_init 51 = .ok (.newarray .int, 2) := by decide +kernel
theorem d_Sq_init_53 : decode cc_Sq_init 53 = .ok (.putfield 33, 3) := by decide +kernel
theorem d_Sq_init_56 : decode cc_Sq_init 56 = .ok (.aload_n 0, 1) := by decide +kernel
theorem d_Sq_init_57 : decode cc_Sq_init 57 = .ok (.aload_n 1, 1) := by decide +kernel
theorem d_Sq_init_58 : decode cc_Sq_init 58 = .ok (.putfield 36, 3) := by decide +kernel
theorem d_Sq_init_61 : decode cc_Sq_init 61 = .ok (.return_, 1) := by decide +kernel
theorem d_Pk_init_0 : decode cc_Pk_init 0 = .ok (.aload_n 0, 1) := by decide +kernel
theorem d_Pk_init_1 : decode cc_Pk_init 1 = .ok (.invokespecial 3, 3) := by decide +kernel
theorem d_Pk_init_4 : decode cc_Pk_init 4 = .ok (.aload_n 0, 1) := by decide +kernel
theorem d_Pk_init_5 : decode cc_Pk_init 5 = .ok (.new 9, 3) := by decide +kernel
theorem d_Pk_init_8 : decode cc_Pk_init 8 = .ok (.dup, 1) := by decide +kernel
theorem d_Pk_init_9 : decode cc_Pk_init 9 = .ok (.sipush (256), 3) := by decide +kernel
theorem d_Pk_init_12 : decode cc_Pk_init 12 = .ok (.invokespecial 11, 3) := by decide +kernel
theorem d_Pk_init_15 : decode cc_Pk_init 15 = .ok (.putfield 14, 3) := by decide +kernel
theorem d_Pk_init_18 : decode cc_Pk_init 18 = .ok (.aload_n 0, 1) := by decide +kernel
theorem d_Pk_init_19 : decode cc_Pk_init 19 = .ok (.new 20, 3) := by decide +kernel
theorem d_Pk_init_22 : decode cc_Pk_init 22 = .ok (.dup, 1) := by decide +kernel
theorem d_Pk_init_23 : decode cc_Pk_init 23 = .ok (.invokespecial 22, 3) := by decide +kernel
theorem d_Pk_init_26 : decode cc_Pk_init 26 = .ok (.putfield 23, 3) := by decide +kernel
theorem d_Pk_init_29 : decode cc_Pk_init 29 = .ok (.aload_n 0, 1) := by decide +kernel
theorem d_Pk_init_30 : decode cc_Pk_init 30 = .ok (.new 27, 3) := by decide +kernel
theorem d_Pk_init_33 : decode cc_Pk_init 33 = .ok (.dup, 1) := by decide +kernel
theorem d_Pk_init_34 : decode cc_Pk_init 34 = .ok (.invokespecial 29, 3) := by decide +kernel
theorem d_Pk_init_37 : decode cc_Pk_init 37 = .ok (.putfield 30, 3) := by decide +kernel
theorem d_Pk_init_40 : decode cc_Pk_init 40 = .ok (.aload_n 0, 1) := by decide +kernel
theorem d_Pk_init_41 : decode cc_Pk_init 41 = .ok (.new 34, 3) := by decide +kernel
theorem d_Pk_init_44 : decode cc_Pk_init 44 = .ok (.dup, 1) := by decide +kernel
theorem d_Pk_init_45 : decode cc_Pk_init 45 = .ok (.invokespecial 36, 3) := by decide +kernel
theorem d_Pk_init_48 : decode cc_Pk_init 48 = .ok (.putfield 37, 3) := by decide +kernel
theorem d_Pk_init_51 : decode cc_Pk_init 51 = .ok (.aload_n 0, 1) := by decide +kernel
theorem d_Pk_init_52 : decode cc_Pk_init 52 = .ok (.bipush (40), 2) := by decide +kernel
theorem d_Pk_init_54 : decode cc_Pk_init 54 = .ok (.newarray .int, 2) := by decide +kernel
theorem d_Pk_init_56 : decode cc_Pk_init 56 = .ok (.putfield 41, 3) := by decide +kernel
theorem d_Pk_init_59 : decode cc_Pk_init 59 = .ok (.aload_n 0, 1) := by decide +kernel
theorem d_Pk_init_60 : decode cc_Pk_init 60 = .ok (.bipush (40), 2) := by decide +kernel
theorem d_Pk_init_62 : decode cc_Pk_init 62 = .ok (.newarray .int, 2) := by decide +kernel
theorem d_Pk_init_64 : decode cc_Pk_init 64 = .ok (.putfield 45, 3) := by decide +kernel
theorem d_Pk_init_67 : decode cc_Pk_init 67 = .ok (.aload_n 0, 1) := by decide +kernel
theorem d_Pk_init_68 : decode cc_Pk_init 68 = .ok (.bipush (40), 2) := by decide +kernel
theorem d_Pk_init_70 : decode cc_Pk_init 70 = .ok (.newarray .int, 2) := by decide +kernel
theorem d_Pk_init_72 : decode cc_Pk_init 72 = .ok (.putfield 48, 3) := by decide +kernel
theorem d_Pk_init_75 : decode cc_Pk_init 75 = .ok (.aload_n 0, 1) := by decide +kernel
theorem d_Pk_init_76 : decode cc_Pk_init 76 = .ok (.aload_n 1, 1) := by decide +kernel
theorem d_Pk_init_77 : decode cc_Pk_init 77 = .ok (.putfield 51, 3) := by decide +kernel
theorem d_Pk_init_80 : decode cc_Pk_init 80 = .ok (.aload_n 0, 1) := by decide +kernel
theorem d_Pk_init_81 : decode cc_Pk_init 81 = .ok (.aload_n 2, 1) := by decide +kernel
theorem d_Pk_init_82 : decode cc_Pk_init 82 = .ok (.putfield 54, 3) := by decide +kernel
theorem d_Pk_init_85 : decode cc_Pk_init 85 = .ok (.aload_n 0, 1) := by decide +kernel
theorem d_Pk_init_86 : decode cc_Pk_init 86 = .ok (.aload_n 3, 1) := by decide +kernel
theorem d_Pk_init_87 : decode cc_Pk_init 87 = .ok (.putfield 58, 3) := by decide +kernel
theorem d_Pk_init_90 : decode cc_Pk_init 90 = .ok (.aload_n 0, 1) := by decide +kernel
theorem d_Pk_init_91 : decode cc_Pk_init 91 = .ok (.new 61, 3) := by decide +kernel
theorem d_Pk_init_94 : decode cc_Pk_init 94 = .ok (.dup, 1) := by decide +kernel
theorem d_Pk_init_95 : decode cc_Pk_init 95 = .ok (.aload_n 1, 1) := by decide +kernel
theorem d_Pk_init_96 : decode cc_Pk_init 96 = .ok (.invokespecial 63, 3) := by decide +kernel
theorem d_Pk_init_99 : decode cc_Pk_init 99 = .ok (.putfield 66, 3) := by decide +kernel
theorem d_Pk_init_102 : decode cc_Pk_init 102 = .ok (.return_, 1) := by decide +kernel
theorem d_Br_init_0 : decode cc_Br_init 0 = .ok (.aload_n 0, 1) := by decide +kernel
theorem d_Br_init_1 : decode cc_Br_init 1 = .ok (.invokespecial 3, 3) := by decide +kernel
theorem d_Br_init_4 : decode cc_Br_init 4 = .ok (.aload_n 0, 1) := by decide +kernel
theorem d_Br_init_5 : decode cc_Br_init 5 = .ok (.sipush (1280), 3) := by decide +kernel
theorem d_Br_init_8 : decode cc_Br_init 8 = .ok (.newarray .int, 2) := by decide +kernel
theorem d_Br_init_10 : decode cc_Br_init 10 = .ok (.putfield 9, 3) := by decide +kernel
theorem d_Br_init_13 : decode cc_Br_init 13 = .ok (.return_, 1) := by decide +kernel
theorem d_Jo_init_0 : decode cc_Jo_init 0 = .ok (.aload_n 0, 1) := by decide +kernel
theorem d_Jo_init_1 : decode cc_Jo_init 1 = .ok (.invokespecial 3, 3) := by decide +kernel
theorem d_Jo_init_4 : decode cc_Jo_init 4 = .ok (.aload_n 0, 1) := by decide +kernel
theorem d_Jo_init_5 : decode cc_Jo_init 5 = .ok (.bipush (34), 2) := by decide +kernel
theorem d_Jo_init_7 : decode cc_Jo_init 7 = .ok (.newarray .int, 2) := by decide +kernel
theorem d_Jo_init_9 : decode cc_Jo_init 9 = .ok (.putfield 11, 3) := by decide +kernel
theorem d_Jo_init_12 : decode cc_Jo_init 12 = .ok (.aload_n 0, 1) := by decide +kernel
theorem d_Jo_init_13 : decode cc_Jo_init 13 = .ok (.bipush (34), 2) := by decide +kernel
theorem d_Jo_init_15 : decode cc_Jo_init 15 = .ok (.newarray .int, 2) := by decide +kernel
theorem d_Jo_init_17 : decode cc_Jo_init 17 = .ok (.putfield 15, 3) := by decide +kernel
theorem d_Jo_init_20 : decode cc_Jo_init 20 = .ok (.aload_n 0, 1) := by decide +kernel
theorem d_Jo_init_21 : decode cc_Jo_init 21 = .ok (.bipush (34), 2) := by decide +kernel
theorem d_Jo_init_23 : decode cc_Jo_init 23 = .ok (.newarray .int, 2) := by decide +kernel
theorem d_Jo_init_25 : decode cc_Jo_init 25 = .ok (.putfield 18, 3) := by decide +kernel
theorem d_Jo_init_28 : decode cc_Jo_init 28 = .ok (.return_, 1) := by decide +kernel
theorem d_Mf_init_0 : decode cc_Mf_init 0 = .ok (.aload_n 0, 1) := by decide +kernel
theorem d_Mf_init_1 : decode cc_Mf_init 1 = .ok (.invokespecial 3, 3) := by decide +kernel
theorem d_Mf_init_4 : decode cc_Mf_init 4 = .ok (.aload_n 0, 1) := by decide +kernel
theorem d_Mf_init_5 : decode cc_Mf_init 5 = .ok (.new 9, 3) := by decide +kernel
theorem d_Mf_init_8 : decode cc_Mf_init 8 = .ok (.dup, 1) := by decide +kernel
theorem d_Mf_init_9 : decode cc_Mf_init 9 = .ok (.bipush (120), 2) := by decide +kernel
theorem d_Mf_init_11 : decode cc_Mf_init 11 = .ok (.invokespecial 11, 3) := by decide +kernel
theorem d_Mf_init_14 : decode cc_Mf_init 14 = .ok (.putfield 14, 3) := by decide +kernel
theorem d_Mf_init_17 : decode cc_Mf_init 17 = .ok (.aload_n 0, 1) := by decide +kernel
theorem d_Mf_init_18 : decode cc_Mf_init 18 = .ok (.bipush (40), 2) := by decide +kernel
theorem d_Mf_init_20 : decode cc_Mf_init 20 = .ok (.newarray .int, 2) := by decide +kernel
theorem d_Mf_init_22 : decode cc_Mf_init 22 = .ok (.putfield 20, 3) := by decide +kernel
theorem d_Mf_init_25 : decode cc_Mf_init 25 = .ok (.aload_n 0, 1) := by decide +kernel
theorem d_Mf_init_26 : decode cc_Mf_init 26 = .ok (.bipush (40), 2) := by decide +kernel
theorem d_Mf_init_28 : decode cc_Mf_init 28 = .ok (.newarray .int, 2) := by decide +kernel
theorem d_Mf_init_30 : decode cc_Mf_init 30 = .ok (.putfield 24, 3) := by decide +kernel
theorem d_Mf_init_33 : decode cc_Mf_init 33 = .ok (.aload_n 0, 1) := by decide +kernel
theorem d_Mf_init_34 : decode cc_Mf_init 34 = .ok (.bipush (40), 2) := by decide +kernel
theorem d_Mf_init_36 : decode cc_Mf_init 36 = .ok (.newarray .int, 2) := by decide +kernel
theorem d_Mf_init_38 : decode cc_Mf_init 38 = .ok (.putfield 27, 3) := by decide +kernel
theorem d_Mf_init_41 : decode cc_Mf_init 41 = .ok (.aload_n 0, 1) := by decide +kernel
theorem d_Mf_init_42 : decode cc_Mf_init 42 = .ok (.new 30, 3) := by decide +kernel
theorem d_Mf_init_45 : decode cc_Mf_init 45 = .ok (.dup, 1) := by decide +kernel
theorem d_Mf_init_46 : decode cc_Mf_init 46 = .ok (.invokespecial 32, 3) := by decide +kernel
theorem d_Mf_init_49 : decode cc_Mf_init 49 = .ok (.putfield 33, 3) := by decide +kernel
theorem d_Mf_init_52 : decode cc_Mf_init 52 = .ok (.aload_n 0, 1) := by decide +kernel
theorem d_Mf_init_53 : decode cc_Mf_init 53 = .ok (.aload_n 1, 1) := by decide +kernel
theorem d_Mf_init_54 : decode cc_Mf_init 54 = .ok (.putfield 37, 3) := by decide +kernel
theorem d_Mf_init_57 : decode cc_Mf_init 57 = .ok (.return_, 1) := by decide +kernel
theorem d_Md_init_0 : decode cc_Md_init 0 = .ok (.aload_n 0, 1) := by decide +kernel
theorem d_Md_init_1 : decode cc_Md_init 1 = .ok (.invokespecial 1, 3) := by decide +kernel
theorem d_Md_init_4 : decode cc_Md_init 4 = .ok (.aload_n 0, 1) := by decide +kernel
theorem d_Md_init_5 : decode cc_Md_init 5 = .ok (.bipush (120), 2) := by decide +kernel
theorem d_Md_init_7 : decode cc_Md_init 7 = .ok (.newarray .int, 2) := by decide +kernel
theorem d_Md_init_9 : decode cc_Md_init 9 = .ok (.putfield 7, 3) := by decide +kernel
theorem d_Md_init_12 : decode cc_Md_init 12 = .ok (.aload_n 0, 1) := by decide +kernel
theorem d_Md_init_13 : decode cc_Md_init 13 = .ok (.sipush (240), 3) := by decide +kernel
theorem d_Md_init_16 : decode cc_Md_init 16 = .ok (.newarray .int, 2) := by decide +kernel
theorem d_Md_init_18 : decode cc_Md_init 18 = .ok (.putfield 13, 3) := by decide +kernel
theorem d_Md_init_21 : decode cc_Md_init 21 = .ok (.aload_n 0, 1) := by decide +kernel
theorem d_Md_init_22 : decode cc_Md_init 22 = .ok (.bipush (120), 2) := by decide +kernel
theorem d_Md_init_24 : decode cc_Md_init 24 = .ok (.newarray .int, 2) := by decide +kernel
theorem d_Md_init_26 : decode cc_Md_init 26 = .ok (.putfield 16, 3) := by decide +kernel
theorem d_Md_init_29 : decode cc_Md_init 29 = .ok (.aload_n 0, 1) := by decide +kernel
theorem d_Md_init_30 : decode cc_Md_init 30 = .ok (.iconst 3, 1) := by decide +kernel
theorem d_Md_init_31 : decode cc_Md_init 31 = .ok (.newarray .int, 2) := by decide +kernel
theorem d_Md_init_33 : decode cc_Md_init 33 = .ok (.putfield 19, 3) := by decide +kernel
theorem d_Md_init_36 : decode cc_Md_init 36 = .ok (.aload_n 0, 1) := by decide +kernel
theorem d_Md_init_37 : decode cc_Md_init 37 = .ok (.bipush (120), 2) := by decide +kernel
theorem d_Md_init_39 : decode cc_Md_init 39 = .ok (.newarray .int, 2) := by decide +kernel
theorem d_Md_init_41 : decode cc_Md_init 41 = .ok (.putfield 22, 3) := by decide +kernel
theorem d_Md_init_44 : decode cc_Md_init 44 = .ok (.aload_n 0, 1) := by decide +kernel
theorem d_Md_init_45 : decode cc_Md_init 45 = .ok (.bipush (17), 2) := by decide +kernel
theorem d_Md_init_47 : decode cc_Md_init 47 = .ok (.newarray .int, 2) := by decide +kernel
theorem d_Md_init_49 : decode cc_Md_init 49 = .ok (.putfield 25, 3) := by decide +kernel
theorem d_Md_init_52 : decode cc_Md_init 52 = .ok (.aload_n 0, 1) := by decide +kernel
theorem d_Md_init_53 : decode cc_Md_init 53 = .ok (.sipush (128), 3) := by decide +kernel
theorem d_Md_init_56 : decode cc_Md_init 56 = .ok (.newarray .int, 2) := by decide +kernel
theorem d_Md_init_58 : decode cc_Md_init 58 = .ok (.putfield 28, 3) := by decide +kernel
theorem d_Md_init_61 : decode cc_Md_init 61 = .ok (.aload_n 0, 1) := by decide +kernel
theorem d_Md_init_62 : decode cc_Md_init 62 = .ok (.iconst 3, 1) := by decide +kernel
theorem d_Md_init_63 : decode cc_Md_init 63 = .ok (.newarray .boolean, 2) := by decide +kernel
theorem d_Md_init_65 : decode cc_Md_init 65 = .ok (.putfield 31, 3) := by decide +kernel
theorem d_Md_init_68 : decode cc_Md_init 68 = .ok (.aload_n 0, 1) := by decide +kernel
theorem d_Md_init_69 : decode cc_Md_init 69 = .ok (.iconst 3, 1) := by decide +kernel
theorem d_Md_init_70 : decode cc_Md_init 70 = .ok (.newarray .boolean, 2) := by decide +kernel
theorem d_Md_init_72 : decode cc_Md_init 72 = .ok (.putfield 35, 3) := by decide +kernel
theorem d_Md_init_75 : decode cc_Md_init 75 = .ok (.aload_n 0, 1) := by decide +kernel
theorem d_Md_init_76 : decode cc_Md_init 76 = .ok (.bipush (48), 2) := by decide +kernel
theorem d_Md_init_78 : decode cc_Md_init 78 = .ok (.newarray .int, 2) := by decide +kernel
theorem d_Md_init_80 : decode cc_Md_init 80 = .ok (.putfield 38, 3) := by decide +kernel
theorem d_Md_init_83 : decode cc_Md_init 83 = .ok (.aload_n 0, 1) := by decide +kernel
theorem d_Md_init_84 : decode cc_Md_init 84 = .ok (.bipush (48), 2) := by decide +kernel
theorem d_Md_init_86 : decode cc_Md_init 86 = .ok (.newarray .int, 2) := by decide +kernel
theorem d_Md_init_88 : decode cc_Md_init 88 = .ok (.putfield 41, 3) := by decide +kernel
theorem d_Md_init_91 : decode cc_Md_init 91 = .ok (.aload_n 0, 1) := by decide +kernel
theorem d_Md_init_92 : decode cc_Md_init 92 = .ok (.bipush (48), 2) := by decide +kernel
theorem d_Md_init_94 : decode cc_Md_init 94 = .ok (.newarray .int, 2) := by decide +kernel
theorem d_Md_init_96 : decode cc_Md_init 96 = .ok (.putfield 44, 3) := by decide +kernel
theorem d_Md_init_99 : decode cc_Md_init 99 = .ok (.aload_n 0, 1) := by decide +kernel
theorem d_Md_init_100 : decode cc_Md_init 100 = .ok (.bipush (12), 2) := by decide +kernel
theorem d_Md_init_102 : decode cc_Md_init 102 = .ok (.newarray .int, 2) := by decide +kernel
theorem d_Md_init_104 : decode cc_Md_init 104 = .ok (.putfield 47, 3) := by decide +kernel
theorem d_Md_init_107 : decode cc_Md_init 107 = .ok (.aload_n 0, 1) := by decide +kernel
theorem d_Md_init_108 : decode cc_Md_init 108 = .ok (.iconst 3, 1) := by decide +kernel
theorem d_Md_init_109 : decode cc_Md_init 109 = .ok (.newarray .int, 2) := by decide +kernel
theorem d_Md_init_111 : decode cc_Md_init 111 = .ok (.putfield 50, 3) := by decide +kernel
theorem d_Md_init_114 : decode cc_Md_init 114 = .ok (.aload_n 0, 1) := by decide +kernel
theorem d_Md_init_115 : decode cc_Md_init 115 = .ok (.sipush (255), 3) := by decide +kernel
theorem d_Md_init_118 : decode cc_Md_init 118 = .ok (.newarray .int, 2) := by decide +kernel
theorem d_Md_init_120 : decode cc_Md_init 120 = .ok (.putfield 53, 3) := by decide +kernel
theorem d_Md_init_123 : decode cc_Md_init 123 = .ok (.aload_n 0, 1) := by decide +kernel
theorem d_Md_init_124 : decode cc_Md_init 124 = .ok (.sipush (255), 3) := by decide +kernel
theorem d_Md_init_127 : decode cc_Md_init 127 = .ok (.newarray .int, 2) := by decide +kernel
theorem d_Md_init_129 : decode cc_Md_init 129 = .ok (.putfield 56, 3) := by decide +kernel
theorem d_Md_init_132 : decode cc_Md_init 132 = .ok (.aload_n 0, 1) := by decide +kernel
theorem d_Md_init_133 : decode cc_Md_init 133 = .ok (.sipush (255), 3) := by decide +kernel
theorem d_Md_init_136 : decode cc_Md_init 136 = .ok (.newarray .int, 2) := by decide +kernel
theorem d_Md_init_138 : decode cc_Md_init 138 = .ok (.putfield 59, 3) := by decide +kernel
theorem d_Md_init_141 : decode cc_Md_init 141 = .ok (.aload_n 0, 1) := by decide +kernel
theorem d_Md_init_142 : decode cc_Md_init 142 = .ok (.bipush (120), 2) := by decide +kernel
theorem d_Md_init_144 : decode cc_Md_init 144 = .ok (.newarray .int, 2) := by decide +kernel
theorem d_Md_init_146 : decode cc_Md_init 146 = .ok (.putfield 62, 3) := by decide +kernel
theorem d_Md_init_149 : decode cc_Md_init 149 = .ok (.aload_n 0, 1) := by decide +kernel
theorem d_Md_init_150 : decode cc_Md_init 150 = .ok (.bipush (120), 2) := by decide +kernel
theorem d_Md_init_152 : decode cc_Md_init 152 = .ok (.newarray .int, 2) := by decide +kernel
theorem d_Md_init_154 : decode cc_Md_init 154 = .ok (.putfield 65, 3) := by decide +kernel
theorem d_Md_init_157 : decode cc_Md_init 157 = .ok (.aload_n 0, 1) := by decide +kernel
theorem d_Md_init_158 : decode cc_Md_init 158 = .ok (.sipush (700), 3) := by decide +kernel
theorem d_Md_init_161 : decode cc_Md_init 161 = .ok (.newarray .int, 2) := by decide +kernel
theorem d_Md_init_163 : decode cc_Md_init 163 = .ok (.putfield 68, 3) := by decide +kernel
theorem d_Md_init_166 : decode cc_Md_init 166 = .ok (.aload_n 0, 1) := by decide +kernel
theorem d_Md_init_167 : decode cc_Md_init 167 = .ok (.sipush (1600), 3) := by decide +kernel
theorem d_Md_init_170 : decode cc_Md_init 170 = .ok (.newarray .int, 2) := by decide +kernel
theorem d_Md_init_172 : decode cc_Md_init 172 = .ok (.putfield 71, 3) := by decide +kernel
theorem d_Md_init_175 : decode cc_Md_init 175 = .ok (.aload_n 0, 1) := by decide +kernel
theorem d_Md_init_176 : decode cc_Md_init 176 = .ok (.bipush (17), 2) := by decide +kernel
theorem d_Md_init_178 : decode cc_Md_init 178 = .ok (.newarray .int, 2) := by decide +kernel
theorem d_Md_init_180 : decode cc_Md_init 180 = .ok (.putfield 74, 3) := by decide +kernel
theorem d_Md_init_183 : decode cc_Md_init 183 = .ok (.aload_n 0, 1) := by decide +kernel
theorem d_Md_init_184 : decode cc_Md_init 184 = .ok (.bipush (17), 2) := by decide +kernel
theorem d_Md_init_186 : decode cc_Md_init 186 = .ok (.newarray .int, 2) := by decide +kernel
theorem d_Md_init_188 : decode cc_Md_init 188 = .ok (.putfield 77, 3) := by decide +kernel
theorem d_Md_init_191 : decode cc_Md_init 191 = .ok (.aload_n 0, 1) := by decide +kernel
theorem d_Md_init_192 : decode cc_Md_init 192 = .ok (.bipush (17), 2) := by decide +kernel
theorem d_Md_init_194 : decode cc_Md_init 194 = .ok (.newarray .int, 2) := by decide +kernel
theorem d_Md_init_196 : decode cc_Md_init 196 = .ok (.putfield 80, 3) := by decide +kernel
theorem d_Md_init_199 : decode cc_Md_init 199 = .ok (.aload_n 0, 1) := by decide +kernel
theorem d_Md_init_200 : decode cc_Md_init 200 = .ok (.bipush (17), 2) := by decide +kernel
theorem d_Md_init_202 : decode cc_Md_init 202 = .ok (.newarray .int, 2) := by decide +kernel
theorem d_Md_init_204 : decode cc_Md_init 204 = .ok (.putfield 83, 3) := by decide +kernel
theorem d_Md_init_207 : decode cc_Md_init 207 = .ok (.return_, 1) := by decide +kernel
/-! constructors: explicit worlds -/
abbrev kTy (cA cB : ClassId) : List (ClassId × FieldType) := [(cA, .int), (cB, .boolean)]
def mw (q : String × Nat × MethodName × String) : Cond := .methodLinkNest q.1 q.2.1 q.2.2.1 q.2.2.2
/-- the static arrays at tad, and the words of nest mates -/
def Tq (tad : Nat → Nat) (A : Nat → Prop) (U : State) : Prop := (∀ j, j < 6 → va_T .int (tad j) (tln j) (fun x => .int (tbl j x)) A U U.heap ∧ va_Z "PackFrames" (tnm j) "[I" (.ref (tad j)) A U U.heap) ∧ (∀ q ∈ nestF, va_Nw (nw q) U) ∧ ∀ q ∈ nestM, va_Nw (mw q) U
def Pk (D : va_G) (cA cB : ClassId) (tad : Nat → Nat) (w0 : va_W) (sz : Nat) (U : State) : Prop := U.heap.size = sz ∧ va_P D vwCl w0 U.heap ∧ va_K D vwCl (kTy cA cB) U ∧ va_D (fun _ => True) w0 ∧ Tq tad (va_A w0 sz) U
abbrev Qk (D : va_G) (cA cB : ClassId) (A : Nat → Prop) (w1 : (Nat → Nat) → va_W) : Array Value → State → Outcome → State → Prop := va_Qv (fun _ : Nat → Nat => True) (fun u t => va_P D vwCl (w1 u) t.heap ∧ va_K D vwCl (kTy cA cB) t ∧ va_D A (w1 u)) A
theorem Tq.moved {tad : Nat → Nat} {A B : Nat → Prop} {s U : State} {H : Heap} (h : Tq tad A s) (hW : s.WarmedH U.vm) (hU : U.heap = H) (hk : ∀ a : Nat, a < s.heap.size → ¬ A a → H[a]? = s.heap[a]?) (hAB : ∀ q, B q → A q) : Tq tad B U := by
  have hh : ∀ a : Nat, a < s.heap.size → ¬ A a → U.heap[a]? = s.heap[a]? := fun a h1 h2 => by rw [hU]; exact hk a h1 h2
  exact ⟨fun j hj => ⟨(((h.1 j hj).1.kept hh).moved hW.alike).narrow hAB, (((h.1 j hj).2.kept hh).moved hW.alike).narrow hAB⟩, fun q hq => va_Nw.warmF hW (h.2.1 q hq), fun q hq => va_Nw.warmM hW (h.2.2 q hq)⟩
theorem Tq.calls {tad : Nat → Nat} {A : Nat → Prop} {U : State} {g : JFrame} {mk : MethodId} {a : Array Value} (h : Tq tad A U) : Tq tad A (U.calling g mk a) :=
  ⟨fun j hj => ⟨(h.1 j hj).1.moved (Vm.Alike.refl U.vm), (h.1 j hj).2.moved (Vm.Alike.refl U.vm)⟩, fun q hq => va_Nw.same rfl rfl (h.2.1 q hq), fun q hq => va_Nw.same rfl rfl (h.2.2 q hq)⟩
theorem Pk.calls {D : va_G} {cA cB : ClassId} {tad : Nat → Nat} {w0 : va_W} {sz : Nat} {av : List Value} : FrameBlind (va_Pc av (Pk D cA cB tad w0 sz)) := by
  intro a U g mk q
  obtain ⟨q0, q1, qP, qK, qD, qT⟩ := q
  exact ⟨q0, q1, qP, va_K.moved (u := U) (U := U.calling g mk a) (Vm.Alike.refl U.vm) qK, qD, qT.calls⟩
theorem Pk.pre {D : va_G} {cA cB : ClassId} {tad : Nat → Nat} {A : Nat → Prop} {wc : va_W} {s U : State} {H : Heap} {locs : List Loc} (hK : va_K D vwCl (kTy cA cB) s) (hT : Tq tad A s) (hS : va_S A s.heap H locs) (hPc : va_P D vwCl wc H) (hDc : va_D A wc) (hF : ∀ q, va_A wc H.size q → A q) (hU : U.heap = H) (hW : s.WarmedH U.vm) : Pk D cA cB tad wc H.size U :=
  ⟨by rw [hU], by rw [hU]; exact hPc, va_K.moved hW.alike hK, hDc.weaken (fun _ _ _ _ => trivial), hT.moved hW hU hS.2.1 hF⟩
section WN
variable {p : Program} {l : Launch} {e : Env} {R : Room} {s : State} {m : MethodId} {args : Array Value} {below : List Frame} {meth : Method} {c : Code} {H H0 : Heap} {locs : List Loc} {cells slots : Nat} {Q : State → Prop}
variable {cc : ByteArray} {pc : Nat} {ls : Array Slot} {rest : List Value} {D : va_G} {A : Nat → Prop} {cA cB : ClassId} {ws : va_W}
theorem w_newI (hx : p.tables.exec = Jvm.exec) (hb : c.code = cc) (harr : (Cond.arrayClass (newarray.typeOf .int)).before args s = true) (hK : va_K D vwCl (kTy cA cB) s) (hP : va_P D vwCl ws H) (hD : va_D A ws) (hS : va_S A H0 H locs) (hA : ∀ q, H0.size ≤ q → A q) {n : Int32} (N : Nat) (hn : ¬ n < 0) (hN : n.toNatClampNeg = N) (hby : N * 4 ≤ 536870912) (hc : cells + 1 ≤ R.cells) (hs : slots + N ≤ R.slots) (hdg : decode cc pc = .ok (.newarray .int, 2))
    (kk : ∀ (q : Nat) (H1 : Heap), va_P D vwCl (ws ++ [(q, .inl (cA, N, .inl fun _ => 0))]) H1 → va_D A (ws ++ [(q, .inl (cA, N, .inl fun _ => 0))]) → va_S A H0 H1 locs → W p l e R s m args below meth c H1 locs (cells + 1) (slots + N) Q (F0 m (pc + 2) ls (.ref q :: rest))) : W p l e R s m args below meth c H locs cells slots Q (F0 m pc ls (.int n :: rest)) := by
  refine va_newa (ty := .int) (a0 := (N, .inl fun _ => 0)) hx hb harr rfl hK hP hD hS hA (fun cA => rfl) hn hN hby hc hs hdg ?_
  intro q c9 H1 hK1 hP1 hD1 hS1
  have e1 : s.vm.findClass ("[" ++ FieldType.int.toString) = some c9 := (hK1.2 2 _ rfl).2
  have e2 : s.vm.findClass ("[" ++ FieldType.int.toString) = some cA := (hK.2 0 _ rfl).2
  obtain rfl : c9 = cA := Option.some.inj (e1.symm.trans e2)
  exact kk q H1 hP1 hD1 hS1
theorem w_newZ (hx : p.tables.exec = Jvm.exec) (hb : c.code = cc) (harr : (Cond.arrayClass (newarray.typeOf .boolean)).before args s = true) (hK : va_K D vwCl (kTy cA cB) s) (hP : va_P D vwCl ws H) (hD : va_D A ws) (hS : va_S A H0 H locs) (hA : ∀ q, H0.size ≤ q → A q) {n : Int32} (N : Nat) (hn : ¬ n < 0) (hN : n.toNatClampNeg = N) (hby : N * 1 ≤ 536870912) (hc : cells + 1 ≤ R.cells) (hs : slots + N ≤ R.slots) (hdg : decode cc pc = .ok (.newarray .boolean, 2))
    (kk : ∀ (q : Nat) (H1 : Heap), va_P D vwCl (ws ++ [(q, .inl (cB, N, .inl fun _ => 0))]) H1 → va_D A (ws ++ [(q, .inl (cB, N, .inl fun _ => 0))]) → va_S A H0 H1 locs → W p l e R s m args below meth c H1 locs (cells + 1) (slots + N) Q (F0 m (pc + 2) ls (.ref q :: rest))) : W p l e R s m args below meth c H locs cells slots Q (F0 m pc ls (.int n :: rest)) := by
  refine va_newa (ty := .boolean) (a0 := (N, .inl fun _ => 0)) hx hb harr rfl hK hP hD hS hA (fun cA => rfl) hn hN hby hc hs hdg ?_
  intro q c9 H1 hK1 hP1 hD1 hS1
  have e1 : s.vm.findClass ("[" ++ FieldType.boolean.toString) = some c9 := (hK1.2 2 _ rfl).2
  have e2 : s.vm.findClass ("[" ++ FieldType.boolean.toString) = some cB := (hK.2 1 _ rfl).2
  obtain rfl : c9 = cB := Option.some.inj (e1.symm.trans e2)
  exact kk q H1 hP1 hD1 hS1
end WN
set_option maxHeartbeats 8000000 in
set_option maxRecDepth 100000 in
theorem k_Row_init (l : Launch) {D : va_G} {cA cB : ClassId} {tad : Nat → Nat} {G0 G1 : Mem} (hg0 : f_ST_keepCounts (lST 0) 0 5 (nI 12) fST = some G0) (hg1 : f_ST_keepCounts (lST 1) 0 6 (nI 8) fST = some G1) (h0 sz : Nat) (n1 : Nat) (hn1 : n1 < 2 ^ 27) : Met l y_Row_init w_Row_init { frames := 1, cells := 1, slots := n1, locals := 20 } (va_Pc [.ref h0, .int (nI n1)] (Pk D cA cB tad [(h0, .inr (1, [.null, .int 0]))] sz)) (Qk D cA cB (va_A [(h0, .inr (1, [.null, .int 0]))] sz) (fun u => [(h0, .inr (1, [.ref (u 0), .int 0])), ((u 0), .inl (cA, n1, .inl (fun _ => 0)))])) 1 (n1) (va_A [(h0, .inr (1, [.null, .int 0]))] sz) := by
  refine Met.ofW (cc := cc_Row_init) (maxL := 2) (ret := none) (by decide) rfl ?_
  intro p e s m args below meth c s₁ B hml hv
  obtain ⟨rfl, hsz, hP, hK, hD0, hTq⟩ := hv
  have hx := B.exec
  have hb := B.bytes
  have hr := B.returns
  have hts := atoms_spec (ws := w_Row_init) B.pre
  have hown : s.vm.findClass R_Row = some m.cls := findClass_of_methodNamed B.named
  have hlocks := B.notSynchronized
  have hin : meth.name = "<init>" := (name_of_methodNamed B.named B.method).1
  subst hsz
  have hD := hD0.self (sz := s.heap.size)
  generalize hAe : va_A [(h0, .inr (1, [.null, .int 0]))] s.heap.size = A at hD hTq ⊢
  have hA : ∀ q : Nat, s.heap.size ≤ q → A q := fun q h => by rw [← hAe]; exact Or.inr h
  have hS : va_S A s.heap s.heap [] := va_S.rf
  have hl := lv_entry ([.ref h0, .int (nI n1)]) (n := 2) (Nat.le_of_ble_eq_true rfl)
  rw [lg_entry_eq]
  generalize (lg_sl ([.ref h0, .int (nI n1)]) ++ List.replicate (2 - (lg_sl ([.ref h0, .int (nI n1)])).length) Slot.unset).toArray = ls at hl ⊢
  have hl : lv_has ls 2 [(0, .ref h0), (1, .int (nI n1))] := hl
  refine lv_aload_n hx hb d_Row_init_0 rfl (lv_at hl 0 rfl) ?_
  refine W.objInit hx hb hown (hts _ (List.mem_cons_of_mem _ lo_Row)) (hts _ (List.mem_cons_of_mem _ li_Obj)) (hts _ (List.mem_cons_of_mem _ lc_Obj)) rfl (by rw [hml]; exact hl.1) rfl d_Row_init_1 (Nat.le_of_ble_eq_true rfl) (Nat.le_of_ble_eq_true rfl) ?_
  refine W.eq (g2 := F0 m 4 ls []) rfl ?_
  refine lv_aload_n hx hb d_Row_init_4 rfl (lv_at hl 0 rfl) ?_
  refine lv_iload_n hx hb d_Row_init_5 rfl (lv_at hl 1 rfl) ?_
  refine w_newI (cA := cA) (cB := cB) hx hb (hts _ (List.mem_cons_of_mem _ la_I)) hK hP hD hS hA n1 (nI_pos (by omega)) (nI_clamp (by omega)) (by omega) (Nat.le_of_ble_eq_true rfl) (Nat.le_of_eq (Nat.zero_add _)) d_Row_init_6 (fun q6 H hP hD hS => ?_)
  have hP : va_P D vwCl [(h0, .inr (1, [.null, .int 0])), (q6, .inl (cA, n1, .inl (fun _ => 0)))] H := hP
  have hD : va_D A [(h0, .inr (1, [.null, .int 0])), (q6, .inl (cA, n1, .inl (fun _ => 0)))] := hD
  refine va_putF (D := D) (ci := 1) (v := .ref q6) (ty := .array .int) (C := R_Row) (T := T_Row) (N := 2) hx hb hts (fun w h => List.mem_cons_of_mem _ (hin_Row w h)) ty_Row tk_Row nm_Row hown hK hP hD hS 0 rfl rfl 0 (by decide) (hts _ (List.mem_cons_of_mem _ lf_Row_9)) (fun _ h9 => h9) rfl hin rfl rfl rfl rfl (Nat.le_of_ble_eq_true rfl) d_Row_init_8 (fun H locs hP hD hS => ?_)
  have hP : va_P D vwCl [(h0, .inr (1, [.ref q6, .int 0])), (q6, .inl (cA, n1, .inl (fun _ => 0)))] H := hP
  have hD : va_D A [(h0, .inr (1, [.ref q6, .int 0])), (q6, .inl (cA, n1, .inl (fun _ => 0)))] := hD
  refine W.widen (k := 1) (n := n1) (by omega) (by omega) ?_
  exact W.vret hx hb hr (fun t ht hW => ⟨⟨fun k => [q6].getD k 0, rfl, trivial, by rw [ht]; exact hP, va_K.moved hW.alike hK, hD⟩, hS.F ht⟩) hS.2.2 d_Row_init_11
set_option maxHeartbeats 8000000 in
set_option maxRecDepth 100000 in
theorem k_Rp_init (l : Launch) {D : va_G} {cA cB : ClassId} {tad : Nat → Nat} {G0 G1 : Mem} (hg0 : f_ST_keepCounts (lST 0) 0 5 (nI 12) fST = some G0) (hg1 : f_ST_keepCounts (lST 1) 0 6 (nI 8) fST = some G1) (h0 sz : Nat)  : Met l y_Rp_init w_Rp_init { frames := 1, cells := 0, slots := 0, locals := 20 } (va_Pc [.ref h0] (Pk D cA cB tad [(h0, .inr (6, [.int 0, .int 0, .int 0]))] sz)) (Qk D cA cB (va_A [(h0, .inr (6, [.int 0, .int 0, .int 0]))] sz) (fun u => [(h0, .inr (6, [.int 0, .int 0, .int 0]))])) 0 (0) (va_A [(h0, .inr (6, [.int 0, .int 0, .int 0]))] sz) := by
  refine Met.ofW (cc := cc_Rp_init) (maxL := 1) (ret := none) (by decide) rfl ?_
  intro p e s m args below meth c s₁ B hml hv
  obtain ⟨rfl, hsz, hP, hK, hD0, hTq⟩ := hv
  have hx := B.exec
  have hb := B.bytes
  have hr := B.returns
  have hts := atoms_spec (ws := w_Rp_init) B.pre
  have hown : s.vm.findClass R_Rp = some m.cls := findClass_of_methodNamed B.named
  have hlocks := B.notSynchronized
  have hin : meth.name = "<init>" := (name_of_methodNamed B.named B.method).1
  subst hsz
  have hD := hD0.self (sz := s.heap.size)
  generalize hAe : va_A [(h0, .inr (6, [.int 0, .int 0, .int 0]))] s.heap.size = A at hD hTq ⊢
  have hA : ∀ q : Nat, s.heap.size ≤ q → A q := fun q h => by rw [← hAe]; exact Or.inr h
  have hS : va_S A s.heap s.heap [] := va_S.rf
  have hl := lv_entry ([.ref h0]) (n := 1) (Nat.le_of_ble_eq_true rfl)
  rw [lg_entry_eq]
  generalize (lg_sl ([.ref h0]) ++ List.replicate (1 - (lg_sl ([.ref h0])).length) Slot.unset).toArray = ls at hl ⊢
  have hl : lv_has ls 1 [(0, .ref h0)] := hl
  refine lv_aload_n hx hb d_Rp_init_0 rfl (lv_at hl 0 rfl) ?_
  refine W.objInit hx hb hown (hts _ (List.mem_cons_of_mem _ lo_Rp)) (hts _ (List.mem_cons_of_mem _ li_Obj)) (hts _ (List.mem_cons_of_mem _ lc_Obj)) rfl (by rw [hml]; exact hl.1) rfl d_Rp_init_1 (Nat.le_of_ble_eq_true rfl) (Nat.le_of_ble_eq_true rfl) ?_
  refine W.eq (g2 := F0 m 4 ls []) rfl ?_
  refine W.widen (k := 0) (n := 0) (Nat.le_of_ble_eq_true rfl) (Nat.le_of_ble_eq_true rfl) ?_
  exact W.vret hx hb hr (fun t ht hW => ⟨⟨fun k => [].getD k 0, rfl, trivial, by rw [ht]; exact hP, va_K.moved hW.alike hK, hD⟩, hS.F ht⟩) hS.2.2 d_Rp_init_4
set_option maxHeartbeats 8000000 in
set_option maxRecDepth 100000 in
theorem k_Tr_init (l : Launch) {D : va_G} {cA cB : ClassId} {tad : Nat → Nat} {G0 G1 : Mem} (hg0 : f_ST_keepCounts (lST 0) 0 5 (nI 12) fST = some G0) (hg1 : f_ST_keepCounts (lST 1) 0 6 (nI 8) fST = some G1) (h0 sz : Nat)  : Met l y_Tr_init w_Tr_init { frames := 1, cells := 3, slots := 162, locals := 20 } (va_Pc [.ref h0] (Pk D cA cB tad [(h0, .inr (3, [.null, .null, .null, .int 0, .int 0]))] sz)) (Qk D cA cB (va_A [(h0, .inr (3, [.null, .null, .null, .int 0, .int 0]))] sz) (fun u => [(h0, .inr (3, [.ref (u 0), .ref (u 1), .ref (u 2), .int 0, .int 0])), ((u 0), .inl (cA, 17, .inl (fun _ => 0))), ((u 1), .inl (cA, 17, .inl (fun _ => 0))), ((u 2), .inl (cA, 128, .inl (fun _ => 0)))])) 3 (162) (va_A [(h0, .inr (3, [.null, .null, .null, .int 0, .int 0]))] sz) := by
  refine Met.ofW (cc := cc_Tr_init) (maxL := 1) (ret := none) (by decide) rfl ?_
  intro p e s m args below meth c s₁ B hml hv
  obtain ⟨rfl, hsz, hP, hK, hD0, hTq⟩ := hv
  have hx := B.exec
  have hb := B.bytes
  have hr := B.returns
  have hts := atoms_spec (ws := w_Tr_init) B.pre
  have hown : s.vm.findClass R_Tr = some m.cls := findClass_of_methodNamed B.named
  have hlocks := B.notSynchronized
  have hin : meth.name = "<init>" := (name_of_methodNamed B.named B.method).1
  subst hsz
  have hD := hD0.self (sz := s.heap.size)
  generalize hAe : va_A [(h0, .inr (3, [.null, .null, .null, .int 0, .int 0]))] s.heap.size = A at hD hTq ⊢
  have hA : ∀ q : Nat, s.heap.size ≤ q → A q := fun q h => by rw [← hAe]; exact Or.inr h
  have hS : va_S A s.heap s.heap [] := va_S.rf
  have hl := lv_entry ([.ref h0]) (n := 1) (Nat.le_of_ble_eq_true rfl)
  rw [lg_entry_eq]
  generalize (lg_sl ([.ref h0]) ++ List.replicate (1 - (lg_sl ([.ref h0])).length) Slot.unset).toArray = ls at hl ⊢
  have hl : lv_has ls 1 [(0, .ref h0)] := hl
  refine lv_aload_n hx hb d_Tr_init_0 rfl (lv_at hl 0 rfl) ?_
  refine W.objInit hx hb hown (hts _ (List.mem_cons_of_mem _ lo_Tr)) (hts _ (List.mem_cons_of_mem _ li_Obj)) (hts _ (List.mem_cons_of_mem _ lc_Obj)) rfl (by rw [hml]; exact hl.1) rfl d_Tr_init_1 (Nat.le_of_ble_eq_true rfl) (Nat.le_of_ble_eq_true rfl) ?_
  refine W.eq (g2 := F0 m 4 ls []) rfl ?_
  refine lv_aload_n hx hb d_Tr_init_4 rfl (lv_at hl 0 rfl) ?_
  refine lv_bipush (v := 17) hx hb d_Tr_init_5 (by decide) ?_
  refine w_newI (cA := cA) (cB := cB) hx hb (hts _ (List.mem_cons_of_mem _ la_I)) hK hP hD hS hA 17 (by decide) (by decide) (by decide) (Nat.le_of_ble_eq_true rfl) (Nat.le_of_ble_eq_true rfl) d_Tr_init_7 (fun q7 H hP hD hS => ?_)
  have hP : va_P D vwCl [(h0, .inr (3, [.null, .null, .null, .int 0, .int 0])), (q7, .inl (cA, 17, .inl (fun _ => 0)))] H := hP
  have hD : va_D A [(h0, .inr (3, [.null, .null, .null, .int 0, .int 0])), (q7, .inl (cA, 17, .inl (fun _ => 0)))] := hD
  refine va_putF (D := D) (ci := 3) (v := .ref q7) (ty := .array .int) (C := R_Tr) (T := T_Tr) (N := 5) hx hb hts (fun w h => List.mem_cons_of_mem _ (hin_Tr w h)) ty_Tr tk_Tr nm_Tr hown hK hP hD hS 0 rfl rfl 0 (by decide) (hts _ (List.mem_cons_of_mem _ lf_Tr_9)) (fun _ h9 => h9) rfl hin rfl rfl rfl rfl (Nat.le_of_ble_eq_true rfl) d_Tr_init_9 (fun H locs hP hD hS => ?_)
  have hP : va_P D vwCl [(h0, .inr (3, [.ref q7, .null, .null, .int 0, .int 0])), (q7, .inl (cA, 17, .inl (fun _ => 0)))] H := hP
  have hD : va_D A [(h0, .inr (3, [.ref q7, .null, .null, .int 0, .int 0])), (q7, .inl (cA, 17, .inl (fun _ => 0)))] := hD
  refine lv_aload_n hx hb d_Tr_init_12 rfl (lv_at hl 0 rfl) ?_
  refine lv_bipush (v := 17) hx hb d_Tr_init_13 (by decide) ?_
  refine w_newI (cA := cA) (cB := cB) hx hb (hts _ (List.mem_cons_of_mem _ la_I)) hK hP hD hS hA 17 (by decide) (by decide) (by decide) (Nat.le_of_ble_eq_true rfl) (Nat.le_of_ble_eq_true rfl) d_Tr_init_15 (fun q15 H hP hD hS => ?_)
  have hP : va_P D vwCl [(h0, .inr (3, [.ref q7, .null, .null, .int 0, .int 0])), (q7, .inl (cA, 17, .inl (fun _ => 0))), (q15, .inl (cA, 17, .inl (fun _ => 0)))] H := hP
  have hD : va_D A [(h0, .inr (3, [.ref q7, .null, .null, .int 0, .int 0])), (q7, .inl (cA, 17, .inl (fun _ => 0))), (q15, .inl (cA, 17, .inl (fun _ => 0)))] := hD
  refine va_putF (D := D) (ci := 3) (v := .ref q15) (ty := .array .int) (C := R_Tr) (T := T_Tr) (N := 5) hx hb hts (fun w h => List.mem_cons_of_mem _ (hin_Tr w h)) ty_Tr tk_Tr nm_Tr hown hK hP hD hS 0 rfl rfl 1 (by decide) (hts _ (List.mem_cons_of_mem _ lf_Tr_15)) (fun _ h9 => h9) rfl hin rfl rfl rfl rfl (Nat.le_of_ble_eq_true rfl) d_Tr_init_17 (fun H locs hP hD hS => ?_)
  have hP : va_P D vwCl [(h0, .inr (3, [.ref q7, .ref q15, .null, .int 0, .int 0])), (q7, .inl (cA, 17, .inl (fun _ => 0))), (q15, .inl (cA, 17, .inl (fun _ => 0)))] H := hP
  have hD : va_D A [(h0, .inr (3, [.ref q7, .ref q15, .null, .int 0, .int 0])), (q7, .inl (cA, 17, .inl (fun _ => 0))), (q15, .inl (cA, 17, .inl (fun _ => 0)))] := hD
  refine lv_aload_n hx hb d_Tr_init_20 rfl (lv_at hl 0 rfl) ?_
  refine lv_sipush (v := 128) hx hb d_Tr_init_21 (by decide) ?_
  refine w_newI (cA := cA) (cB := cB) hx hb (hts _ (List.mem_cons_of_mem _ la_I)) hK hP hD hS hA 128 (by decide) (by decide) (by decide) (Nat.le_of_ble_eq_true rfl) (Nat.le_of_ble_eq_true rfl) d_Tr_init_24 (fun q24 H hP hD hS => ?_)
  have hP : va_P D vwCl [(h0, .inr (3, [.ref q7, .ref q15, .null, .int 0, .int 0])), (q7, .inl (cA, 17, .inl (fun _ => 0))), (q15, .inl (cA, 17, .inl (fun _ => 0))), (q24, .inl (cA, 128, .inl (fun _ => 0)))] H := hP
  have hD : va_D A [(h0, .inr (3, [.ref q7, .ref q15, .null, .int 0, .int 0])), (q7, .inl (cA, 17, .inl (fun _ => 0))), (q15, .inl (cA, 17, .inl (fun _ => 0))), (q24, .inl (cA, 128, .inl (fun _ => 0)))] := hD
  refine va_putF (D := D) (ci := 3) (v := .ref q24) (ty := .array .int) (C := R_Tr) (T := T_Tr) (N := 5) hx hb hts (fun w h => List.mem_cons_of_mem _ (hin_Tr w h)) ty_Tr tk_Tr nm_Tr hown hK hP hD hS 0 rfl rfl 2 (by decide) (hts _ (List.mem_cons_of_mem _ lf_Tr_18)) (fun _ h9 => h9) rfl hin rfl rfl rfl rfl (Nat.le_of_ble_eq_true rfl) d_Tr_init_26 (fun H locs hP hD hS => ?_)
  have hP : va_P D vwCl [(h0, .inr (3, [.ref q7, .ref q15, .ref q24, .int 0, .int 0])), (q7, .inl (cA, 17, .inl (fun _ => 0))), (q15, .inl (cA, 17, .inl (fun _ => 0))), (q24, .inl (cA, 128, .inl (fun _ => 0)))] H := hP
  have hD : va_D A [(h0, .inr (3, [.ref q7, .ref q15, .ref q24, .int 0, .int 0])), (q7, .inl (cA, 17, .inl (fun _ => 0))), (q15, .inl (cA, 17, .inl (fun _ => 0))), (q24, .inl (cA, 128, .inl (fun _ => 0)))] := hD
  refine W.widen (k := 3) (n := 162) (Nat.le_of_ble_eq_true rfl) (Nat.le_of_ble_eq_true rfl) ?_
  exact W.vret hx hb hr (fun t ht hW => ⟨⟨fun k => [q7, q15, q24].getD k 0, rfl, trivial, by rw [ht]; exact hP, va_K.moved hW.alike hK, hD⟩, hS.F ht⟩) hS.2.2 d_Tr_init_29
set_option maxHeartbeats 8000000 in
set_option maxRecDepth 100000 in
theorem k_Jo_init (l : Launch) {D : va_G} {cA cB : ClassId} {tad : Nat → Nat} {G0 G1 : Mem} (hg0 : f_ST_keepCounts (lST 0) 0 5 (nI 12) fST = some G0) (hg1 : f_ST_keepCounts (lST 1) 0 6 (nI 8) fST = some G1) (h0 sz : Nat)  : Met l y_Jo_init w_Jo_init { frames := 1, cells := 3, slots := 102, locals := 20 } (va_Pc [.ref h0] (Pk D cA cB tad [(h0, .inr (4, [.null, .null, .null, .int 0]))] sz)) (Qk D cA cB (va_A [(h0, .inr (4, [.null, .null, .null, .int 0]))] sz) (fun u => [(h0, .inr (4, [.ref (u 0), .ref (u 1), .ref (u 2), .int 0])), ((u 0), .inl (cA, 34, .inl (fun _ => 0))), ((u 1), .inl (cA, 34, .inl (fun _ => 0))), ((u 2), .inl (cA, 34, .inl (fun _ => 0)))])) 3 (102) (va_A [(h0, .inr (4, [.null, .null, .null, .int 0]))] sz) := by
  refine Met.ofW (cc := cc_Jo_init) (maxL := 1) (ret := none) (by decide) rfl ?_
  intro p e s m args below meth c s₁ B hml hv
  obtain ⟨rfl, hsz, hP, hK, hD0, hTq⟩ := hv
  have hx := B.exec
  have hb := B.bytes
  have hr := B.returns
  have hts := atoms_spec (ws := w_Jo_init) B.pre
  have hown : s.vm.findClass R_Jo = some m.cls := findClass_of_methodNamed B.named
  have hlocks := B.notSynchronized
  have hin : meth.name = "<init>" := (name_of_methodNamed B.named B.method).1
  subst hsz
  have hD := hD0.self (sz := s.heap.size)
  generalize hAe : va_A [(h0, .inr (4, [.null, .null, .null, .int 0]))] s.heap.size = A at hD hTq ⊢
  have hA : ∀ q : Nat, s.heap.size ≤ q → A q := fun q h => by rw [← hAe]; exact Or.inr h
  have hS : va_S A s.heap s.heap [] := va_S.rf
  have hl := lv_entry ([.ref h0]) (n := 1) (Nat.le_of_ble_eq_true rfl)
  rw [lg_entry_eq]
  generalize (lg_sl ([.ref h0]) ++ List.replicate (1 - (lg_sl ([.ref h0])).length) Slot.unset).toArray = ls at hl ⊢
  have hl : lv_has ls 1 [(0, .ref h0)] := hl
  refine lv_aload_n hx hb d_Jo_init_0 rfl (lv_at hl 0 rfl) ?_
  refine W.objInit hx hb hown (hts _ (List.mem_cons_of_mem _ lo_Jo)) (hts _ (List.mem_cons_of_mem _ li_Obj)) (hts _ (List.mem_cons_of_mem _ lc_Obj)) rfl (by rw [hml]; exact hl.1) rfl d_Jo_init_1 (Nat.le_of_ble_eq_true rfl) (Nat.le_of_ble_eq_true rfl) ?_
  refine W.eq (g2 := F0 m 4 ls []) rfl ?_
  refine lv_aload_n hx hb d_Jo_init_4 rfl (lv_at hl 0 rfl) ?_
  refine lv_bipush (v := 34) hx hb d_Jo_init_5 (by decide) ?_
  refine w_newI (cA := cA) (cB := cB) hx hb (hts _ (List.mem_cons_of_mem _ la_I)) hK hP hD hS hA 34 (by decide) (by decide) (by decide) (Nat.le_of_ble_eq_true rfl) (Nat.le_of_ble_eq_true rfl) d_Jo_init_7 (fun q7 H hP hD hS => ?_)
  have hP : va_P D vwCl [(h0, .inr (4, [.null, .null, .null, .int 0])), (q7, .inl (cA, 34, .inl (fun _ => 0)))] H := hP
  have hD : va_D A [(h0, .inr (4, [.null, .null, .null, .int 0])), (q7, .inl (cA, 34, .inl (fun _ => 0)))] := hD
  refine va_putF (D := D) (ci := 4) (v := .ref q7) (ty := .array .int) (C := R_Jo) (T := T_Jo) (N := 4) hx hb hts (fun w h => List.mem_cons_of_mem _ (hin_Jo w h)) ty_Jo tk_Jo nm_Jo hown hK hP hD hS 0 rfl rfl 0 (by decide) (hts _ (List.mem_cons_of_mem _ lf_Jo_11)) (fun _ h9 => h9) rfl hin rfl rfl rfl rfl (Nat.le_of_ble_eq_true rfl) d_Jo_init_9 (fun H locs hP hD hS => ?_)
  have hP : va_P D vwCl [(h0, .inr (4, [.ref q7, .null, .null, .int 0])), (q7, .inl (cA, 34, .inl (fun _ => 0)))] H := hP
  have hD : va_D A [(h0, .inr (4, [.ref q7, .null, .null, .int 0])), (q7, .inl (cA, 34, .inl (fun _ => 0)))] := hD
  refine lv_aload_n hx hb d_Jo_init_12 rfl (lv_at hl 0 rfl) ?_
  refine lv_bipush (v := 34) hx hb d_Jo_init_13 (by decide) ?_
  refine w_newI (cA := cA) (cB := cB) hx hb (hts _ (List.mem_cons_of_mem _ la_I)) hK hP hD hS hA 34 (by decide) (by decide) (by decide) (Nat.le_of_ble_eq_true rfl) (Nat.le_of_ble_eq_true rfl) d_Jo_init_15 (fun q15 H hP hD hS => ?_)
  have hP : va_P D vwCl [(h0, .inr (4, [.ref q7, .null, .null, .int 0])), (q7, .inl (cA, 34, .inl (fun _ => 0))), (q15, .inl (cA, 34, .inl (fun _ => 0)))] H := hP
  have hD : va_D A [(h0, .inr (4, [.ref q7, .null, .null, .int 0])), (q7, .inl (cA, 34, .inl (fun _ => 0))), (q15, .inl (cA, 34, .inl (fun _ => 0)))] := hD
  refine va_putF (D := D) (ci := 4) (v := .ref q15) (ty := .array .int) (C := R_Jo) (T := T_Jo) (N := 4) hx hb hts (fun w h => List.mem_cons_of_mem _ (hin_Jo w h)) ty_Jo tk_Jo nm_Jo hown hK hP hD hS 0 rfl rfl 1 (by decide) (hts _ (List.mem_cons_of_mem _ lf_Jo_15)) (fun _ h9 => h9) rfl hin rfl rfl rfl rfl (Nat.le_of_ble_eq_true rfl) d_Jo_init_17 (fun H locs hP hD hS => ?_)
  have hP : va_P D vwCl [(h0, .inr (4, [.ref q7, .ref q15, .null, .int 0])), (q7, .inl (cA, 34, .inl (fun _ => 0))), (q15, .inl (cA, 34, .inl (fun _ => 0)))] H := hP
  have hD : va_D A [(h0, .inr (4, [.ref q7, .ref q15, .null, .int 0])), (q7, .inl (cA, 34, .inl (fun _ => 0))), (q15, .inl (cA, 34, .inl (fun _ => 0)))] := hD
  refine lv_aload_n hx hb d_Jo_init_20 rfl (lv_at hl 0 rfl) ?_
  refine lv_bipush (v := 34) hx hb d_Jo_init_21 (by decide) ?_
  refine w_newI (cA := cA) (cB := cB) hx hb (hts _ (List.mem_cons_of_mem _ la_I)) hK hP hD hS hA 34 (by decide) (by decide) (by decide) (Nat.le_of_ble_eq_true rfl) (Nat.le_of_ble_eq_true rfl) d_Jo_init_23 (fun q23 H hP hD hS => ?_)
  have hP : va_P D vwCl [(h0, .inr (4, [.ref q7, .ref q15, .null, .int 0])), (q7, .inl (cA, 34, .inl (fun _ => 0))), (q15, .inl (cA, 34, .inl (fun _ => 0))), (q23, .inl (cA, 34, .inl (fun _ => 0)))] H := hP
  have hD : va_D A [(h0, .inr (4, [.ref q7, .ref q15, .null, .int 0])), (q7, .inl (cA, 34, .inl (fun _ => 0))), (q15, .inl (cA, 34, .inl (fun _ => 0))), (q23, .inl (cA, 34, .inl (fun _ => 0)))] := hD
  refine va_putF (D := D) (ci := 4) (v := .ref q23) (ty := .array .int) (C := R_Jo) (T := T_Jo) (N := 4) hx hb hts (fun w h => List.mem_cons_of_mem _ (hin_Jo w h)) ty_Jo tk_Jo nm_Jo hown hK hP hD hS 0 rfl rfl 2 (by decide) (hts _ (List.mem_cons_of_mem _ lf_Jo_18)) (fun _ h9 => h9) rfl hin rfl rfl rfl rfl (Nat.le_of_ble_eq_true rfl) d_Jo_init_25 (fun H locs hP hD hS => ?_)
  have hP : va_P D vwCl [(h0, .inr (4, [.ref q7, .ref q15, .ref q23, .int 0])), (q7, .inl (cA, 34, .inl (fun _ => 0))), (q15, .inl (cA, 34, .inl (fun _ => 0))), (q23, .inl (cA, 34, .inl (fun _ => 0)))] H := hP
  have hD : va_D A [(h0, .inr (4, [.ref q7, .ref q15, .ref q23, .int 0])), (q7, .inl (cA, 34, .inl (fun _ => 0))), (q15, .inl (cA, 34, .inl (fun _ => 0))), (q23, .inl (cA, 34, .inl (fun _ => 0)))] := hD
  refine W.widen (k := 3) (n := 102) (Nat.le_of_ble_eq_true rfl) (Nat.le_of_ble_eq_true rfl) ?_
  exact W.vret hx hb hr (fun t ht hW => ⟨⟨fun k => [q7, q15, q23].getD k 0, rfl, trivial, by rw [ht]; exact hP, va_K.moved hW.alike hK, hD⟩, hS.F ht⟩) hS.2.2 d_Jo_init_28
set_option maxHeartbeats 8000000 in
set_option maxRecDepth 100000 in
theorem k_Br_init (l : Launch) {D : va_G} {cA cB : ClassId} {tad : Nat → Nat} {G0 G1 : Mem} (hg0 : f_ST_keepCounts (lST 0) 0 5 (nI 12) fST = some G0) (hg1 : f_ST_keepCounts (lST 1) 0 6 (nI 8) fST = some G1) (h0 sz : Nat)  : Met l y_Br_init w_Br_init { frames := 1, cells := 1, slots := 1280, locals := 20 } (va_Pc [.ref h0] (Pk D cA cB tad [(h0, .inr (5, [.null, .int 0]))] sz)) (Qk D cA cB (va_A [(h0, .inr (5, [.null, .int 0]))] sz) (fun u => [(h0, .inr (5, [.ref (u 0), .int 0])), ((u 0), .inl (cA, 1280, .inl (fun _ => 0)))])) 1 (1280) (va_A [(h0, .inr (5, [.null, .int 0]))] sz) := by
  refine Met.ofW (cc := cc_Br_init) (maxL := 1) (ret := none) (by decide) rfl ?_
  intro p e s m args below meth c s₁ B hml hv
  obtain ⟨rfl, hsz, hP, hK, hD0, hTq⟩ := hv
  have hx := B.exec
  have hb := B.bytes
  have hr := B.returns
  have hts := atoms_spec (ws := w_Br_init) B.pre
  have hown : s.vm.findClass R_Br = some m.cls := findClass_of_methodNamed B.named
  have hlocks := B.notSynchronized
  have hin : meth.name = "<init>" := (name_of_methodNamed B.named B.method).1
  subst hsz
  have hD := hD0.self (sz := s.heap.size)
  generalize hAe : va_A [(h0, .inr (5, [.null, .int 0]))] s.heap.size = A at hD hTq ⊢
  have hA : ∀ q : Nat, s.heap.size ≤ q → A q := fun q h => by rw [← hAe]; exact Or.inr h
  have hS : va_S A s.heap s.heap [] := va_S.rf
  have hl := lv_entry ([.ref h0]) (n := 1) (Nat.le_of_ble_eq_true rfl)
  rw [lg_entry_eq]
  generalize (lg_sl ([.ref h0]) ++ List.replicate (1 - (lg_sl ([.ref h0])).length) Slot.unset).toArray = ls at hl ⊢
  have hl : lv_has ls 1 [(0, .ref h0)] := hl
  refine lv_aload_n hx hb d_Br_init_0 rfl (lv_at hl 0 rfl) ?_
  refine W.objInit hx hb hown (hts _ (List.mem_cons_of_mem _ lo_Br)) (hts _ (List.mem_cons_of_mem _ li_Obj)) (hts _ (List.mem_cons_of_mem _ lc_Obj)) rfl (by rw [hml]; exact hl.1) rfl d_Br_init_1 (Nat.le_of_ble_eq_true rfl) (Nat.le_of_ble_eq_true rfl) ?_
  refine W.eq (g2 := F0 m 4 ls []) rfl ?_
  refine lv_aload_n hx hb d_Br_init_4 rfl (lv_at hl 0 rfl) ?_
  refine lv_sipush (v := 1280) hx hb d_Br_init_5 (by decide) ?_
  refine w_newI (cA := cA) (cB := cB) hx hb (hts _ (List.mem_cons_of_mem _ la_I)) hK hP hD hS hA 1280 (by decide) (by decide) (by decide) (Nat.le_of_ble_eq_true rfl) (Nat.le_of_ble_eq_true rfl) d_Br_init_8 (fun q8 H hP hD hS => ?_)
  have hP : va_P D vwCl [(h0, .inr (5, [.null, .int 0])), (q8, .inl (cA, 1280, .inl (fun _ => 0)))] H := hP
  have hD : va_D A [(h0, .inr (5, [.null, .int 0])), (q8, .inl (cA, 1280, .inl (fun _ => 0)))] := hD
  refine va_putF (D := D) (ci := 5) (v := .ref q8) (ty := .array .int) (C := R_Br) (T := T_Br) (N := 2) hx hb hts (fun w h => List.mem_cons_of_mem _ (hin_Br w h)) ty_Br tk_Br nm_Br hown hK hP hD hS 0 rfl rfl 0 (by decide) (hts _ (List.mem_cons_of_mem _ lf_Br_9)) (fun _ h9 => h9) rfl hin rfl rfl rfl rfl (Nat.le_of_ble_eq_true rfl) d_Br_init_10 (fun H locs hP hD hS => ?_)
  have hP : va_P D vwCl [(h0, .inr (5, [.ref q8, .int 0])), (q8, .inl (cA, 1280, .inl (fun _ => 0)))] H := hP
  have hD : va_D A [(h0, .inr (5, [.ref q8, .int 0])), (q8, .inl (cA, 1280, .inl (fun _ => 0)))] := hD
  refine W.widen (k := 1) (n := 1280) (Nat.le_of_ble_eq_true rfl) (Nat.le_of_ble_eq_true rfl) ?_
  exact W.vret hx hb hr (fun t ht hW => ⟨⟨fun k => [q8].getD k 0, rfl, trivial, by rw [ht]; exact hP, va_K.moved hW.alike hK, hD⟩, hS.F ht⟩) hS.2.2 d_Br_init_13
set_option maxHeartbeats 8000000 in
set_option maxRecDepth 100000 in
theorem k_Wr_init (l : Launch) {D : va_G} {cA cB : ClassId} {tad : Nat → Nat} {G0 G1 : Mem} (hg0 : f_ST_keepCounts (lST 0) 0 5 (nI 12) fST = some G0) (hg1 : f_ST_keepCounts (lST 1) 0 6 (nI 8) fST = some G1) (h0 sz : Nat) (x1 : Nat) : Met l y_Wr_init w_Wr_init { frames := 1, cells := 0, slots := 0, locals := 20 } (va_Pc [.ref h0, .ref x1] (Pk D cA cB tad [(h0, .inr (7, [.null, .int 0, .int 0, .int 0, .int 0, .int 0]))] sz)) (Qk D cA cB (va_A [(h0, .inr (7, [.null, .int 0, .int 0, .int 0, .int 0, .int 0]))] sz) (fun u => [(h0, .inr (7, [.ref x1, .int 0, .int 0, .int 0, .int 0, .int 0]))])) 0 (0) (va_A [(h0, .inr (7, [.null, .int 0, .int 0, .int 0, .int 0, .int 0]))] sz) := by
  refine Met.ofW (cc := cc_Wr_init) (maxL := 2) (ret := none) (by decide) rfl ?_
  intro p e s m args below meth c s₁ B hml hv
  obtain ⟨rfl, hsz, hP, hK, hD0, hTq⟩ := hv
  have hx := B.exec
  have hb := B.bytes
  have hr := B.returns
  have hts := atoms_spec (ws := w_Wr_init) B.pre
  have hown : s.vm.findClass R_Wr = some m.cls := findClass_of_methodNamed B.named
  have hlocks := B.notSynchronized
  have hin : meth.name = "<init>" := (name_of_methodNamed B.named B.method).1
  subst hsz
  have hD := hD0.self (sz := s.heap.size)
  generalize hAe : va_A [(h0, .inr (7, [.null, .int 0, .int 0, .int 0, .int 0, .int 0]))] s.heap.size = A at hD hTq ⊢
  have hA : ∀ q : Nat, s.heap.size ≤ q → A q := fun q h => by rw [← hAe]; exact Or.inr h
  have hS : va_S A s.heap s.heap [] := va_S.rf
  have hl := lv_entry ([.ref h0, .ref x1]) (n := 2) (Nat.le_of_ble_eq_true rfl)
  rw [lg_entry_eq]
  generalize (lg_sl ([.ref h0, .ref x1]) ++ List.replicate (2 - (lg_sl ([.ref h0, .ref x1])).length) Slot.unset).toArray = ls at hl ⊢
  have hl : lv_has ls 2 [(0, .ref h0), (1, .ref x1)] := hl
  refine lv_aload_n hx hb d_Wr_init_0 rfl (lv_at hl 0 rfl) ?_
  refine W.objInit hx hb hown (hts _ (List.mem_cons_of_mem _ lo_Wr)) (hts _ (List.mem_cons_of_mem _ li_Obj)) (hts _ (List.mem_cons_of_mem _ lc_Obj)) rfl (by rw [hml]; exact hl.1) rfl d_Wr_init_1 (Nat.le_of_ble_eq_true rfl) (Nat.le_of_ble_eq_true rfl) ?_
  refine W.eq (g2 := F0 m 4 ls []) rfl ?_
  refine lv_aload_n hx hb d_Wr_init_4 rfl (lv_at hl 0 rfl) ?_
  refine lv_aload_n hx hb d_Wr_init_5 rfl (lv_at hl 1 rfl) ?_
  refine va_putF (D := D) (ci := 7) (v := .ref x1) (ty := .object "PackFrames$Row") (C := R_Wr) (T := T_Wr) (N := 6) hx hb hts (fun w h => List.mem_cons_of_mem _ (hin_Wr w h)) ty_Wr tk_Wr nm_Wr hown hK hP hD hS 0 rfl rfl 0 (by decide) (hts _ (List.mem_cons_of_mem _ lf_Wr_7)) (fun _ h9 => h9) rfl hin rfl rfl rfl rfl (Nat.le_of_ble_eq_true rfl) d_Wr_init_6 (fun H locs hP hD hS => ?_)
  have hP : va_P D vwCl [(h0, .inr (7, [.ref x1, .int 0, .int 0, .int 0, .int 0, .int 0]))] H := hP
  have hD : va_D A [(h0, .inr (7, [.ref x1, .int 0, .int 0, .int 0, .int 0, .int 0]))] := hD
  refine W.widen (k := 0) (n := 0) (Nat.le_of_ble_eq_true rfl) (Nat.le_of_ble_eq_true rfl) ?_
  exact W.vret hx hb hr (fun t ht hW => ⟨⟨fun k => [].getD k 0, rfl, trivial, by rw [ht]; exact hP, va_K.moved hW.alike hK, hD⟩, hS.F ht⟩) hS.2.2 d_Wr_init_9
theorem aa_in {X : Xs} {L : La} {F : Mem} {A : Nat → Prop} {q : Nat} (hD : va_D A (wl X L F)) (h : AA X L q) : A q := by
  obtain ⟨k, hk, rfl⟩ := h
  exact hD.2 k _ (wl_get hk)
theorem aa_self {X : Xs} {L : La} {F : Mem} {A : Nat → Prop} (hD : va_D A (wl X L F)) : va_D (AA X L) (wl X L F) := by
  refine ⟨hD.1, fun k q hk => ?_⟩
  have h1 : k < mNc L := by
    have := (List.getElem?_eq_some_iff.mp hk).1
    rwa [wl_len] at this
  rw [wl_get h1] at hk
  cases hk
  exact ⟨k, h1, rfl⟩
theorem wt_st (j : Nat) (hj : j < 6) : WT (lST j) := by
  intro i c o hc s hs
  obtain ⟨o1, o2⟩ := o
  have h5 : i < 5 := o1
  have hk : (if i = 0 then 2 else 100) = c := o2
  have hi : i = 0 := by
    by_cases h : i = 0
    · exact h
    · rw [if_neg h] at hk
      omega
  subst hi
  have hc2 : c = 2 := hk.symm
  subst hc2
  have hs7 : s < 7 := hs
  have : s = 0 ∨ s = 1 ∨ s = 2 ∨ s = 3 ∨ s = 4 ∨ s = 5 ∨ s = 6 := by omega
  rcases this with rfl | rfl | rfl | rfl | rfl | rfl | rfl
  · exact ⟨fun _ => Or.inr ⟨j, hj, rfl⟩, fun c' h hn => absurd (show 102 = c' + 2 from h) (by omega)⟩
  · exact ⟨fun _ => Or.inl ⟨show 1 < 5 by decide, rfl⟩, fun c' h hn => absurd (show 102 = c' + 2 from h) (by omega)⟩
  · exact ⟨fun _ => Or.inl ⟨show 2 < 5 by decide, rfl⟩, fun c' h hn => absurd (show 102 = c' + 2 from h) (by omega)⟩
  · exact ⟨fun _ => Or.inl ⟨show 3 < 5 by decide, rfl⟩, fun c' h hn => absurd (show 102 = c' + 2 from h) (by omega)⟩
  · exact ⟨fun _ => Or.inl ⟨show 4 < 5 by decide, rfl⟩, fun c' h hn => absurd (show 102 = c' + 2 from h) (by omega)⟩
  · exact ⟨fun h => absurd (show 0 = 102 from h) (by omega), fun c' h hn => absurd (show 0 = c' + 2 from h) (by omega)⟩
  · exact ⟨fun h => absurd (show 0 = 102 from h) (by omega), fun c' h hn => absurd (show 0 = c' + 2 from h) (by omega)⟩
theorem wt_st0 : WT (lST 0) := wt_st 0 (by decide)
theorem wt_st1 : WT (lST 1) := wt_st 1 (by decide)
theorem tb_of {X : Xs} {L : La} {U : State} {tad : Nat → Nat} (ha : ∀ j, mAd X (mNc L + j) = tad j) (h : Tq tad (AA X L) U) : Tb X L U :=
  ⟨fun j hj => by rw [ha]; exact h.1 j hj, h.2.1⟩
theorem tb_st0 {D : va_G} {cA cB : ClassId} {tad : Nat → Nat} {h0 q1 q2 q3 q4 : Nat} {U : State} (h : Tq tad (AA (xST D cA cB tad h0 q1 q2 q3 q4) (lST 0)) U) : Tb (xST D cA cB tad h0 q1 q2 q3 q4) (lST 0) U := tb_of (fun j => by show (xST D cA cB tad h0 q1 q2 q3 q4).2.1 (5 + j) = tad j; rw [Nat.add_comm]; rfl) h
theorem tb_st1 {D : va_G} {cA cB : ClassId} {tad : Nat → Nat} {h0 q1 q2 q3 q4 : Nat} {U : State} (h : Tq tad (AA (xST D cA cB tad h0 q1 q2 q3 q4) (lST 1)) U) : Tb (xST D cA cB tad h0 q1 q2 q3 q4) (lST 1) U := tb_of (fun j => by show (xST D cA cB tad h0 q1 q2 q3 q4).2.1 (5 + j) = tad j; rw [Nat.add_comm]; rfl) h
set_option maxHeartbeats 8000000 in
set_option maxRecDepth 100000 in
theorem k_ST_init_0 (l : Launch) {D : va_G} {cA cB : ClassId} {tad : Nat → Nat} {G0 G1 : Mem} (hg0 : f_ST_keepCounts (lST 0) 0 5 (nI 12) fST = some G0) (hg1 : f_ST_keepCounts (lST 1) 0 6 (nI 8) fST = some G1) (h0 sz : Nat)  : Met l y_ST_init w_ST_init { frames := 1, cells := 4, slots := 60, locals := 26 } (va_Pc [.ref h0, .ref (tad 0)] (Pk D cA cB tad [(h0, .inr (2, [.null, .null, .null, .null, .null, .int 0, .int 0]))] sz)) (Qk D cA cB (va_A [(h0, .inr (2, [.null, .null, .null, .null, .null, .int 0, .int 0]))] sz) (fun u => [(h0, .inr (2, [.ref (tad 0), .ref (u 0), .ref (u 1), .ref (u 2), .ref (u 3), .int (G0 0 5), .int (G0 0 6)])), ((u 0), .inl (cA, 16, .inl (G0 1))), ((u 1), .inl (cA, 16, .inl (G0 2))), ((u 2), .inl (cA, 16, .inl (G0 3))), ((u 3), .inl (cA, 12, .inl (G0 4)))])) 4 (60) (va_A [(h0, .inr (2, [.null, .null, .null, .null, .null, .int 0, .int 0]))] sz) := by
  refine Met.ofW (cc := cc_ST_init) (maxL := 2) (ret := none) (by decide) rfl ?_
  intro p e s m args below meth c s₁ B hml hv
  obtain ⟨rfl, hsz, hP, hK, hD0, hTq⟩ := hv
  have hx := B.exec
  have hb := B.bytes
  have hr := B.returns
  have hts := atoms_spec (ws := w_ST_init) B.pre
  have hown : s.vm.findClass R_ST = some m.cls := findClass_of_methodNamed B.named
  have hlocks := B.notSynchronized
  have hin : meth.name = "<init>" := (name_of_methodNamed B.named B.method).1
  subst hsz
  have hD := hD0.self (sz := s.heap.size)
  generalize hAe : va_A [(h0, .inr (2, [.null, .null, .null, .null, .null, .int 0, .int 0]))] s.heap.size = A at hD hTq ⊢
  have hA : ∀ q : Nat, s.heap.size ≤ q → A q := fun q h => by rw [← hAe]; exact Or.inr h
  have hS : va_S A s.heap s.heap [] := va_S.rf
  have hl := lv_entry ([.ref h0, .ref (tad 0)]) (n := 2) (Nat.le_of_ble_eq_true rfl)
  rw [lg_entry_eq]
  generalize (lg_sl ([.ref h0, .ref (tad 0)]) ++ List.replicate (2 - (lg_sl ([.ref h0, .ref (tad 0)])).length) Slot.unset).toArray = ls at hl ⊢
  have hl : lv_has ls 2 [(0, .ref h0), (1, .ref (tad 0))] := hl
  refine lv_aload_n hx hb d_ST_init_0 rfl (lv_at hl 0 rfl) ?_
  refine W.objInit hx hb hown (hts _ (List.mem_cons_of_mem _ lo_ST)) (hts _ (List.mem_cons_of_mem _ li_Obj)) (hts _ (List.mem_cons_of_mem _ lc_Obj)) rfl (by rw [hml]; exact hl.1) rfl d_ST_init_1 (Nat.le_of_ble_eq_true rfl) (Nat.le_of_ble_eq_true rfl) ?_
  refine W.eq (g2 := F0 m 4 ls []) rfl ?_
  refine lv_aload_n hx hb d_ST_init_4 rfl (lv_at hl 0 rfl) ?_
  refine lv_bipush (v := 16) hx hb d_ST_init_5 (by decide) ?_
  refine w_newI (cA := cA) (cB := cB) hx hb (hts _ (List.mem_cons_of_mem _ la_I)) hK hP hD hS hA 16 (by decide) (by decide) (by decide) (Nat.le_of_ble_eq_true rfl) (Nat.le_of_ble_eq_true rfl) d_ST_init_7 (fun q7 H hP hD hS => ?_)
  have hP : va_P D vwCl [(h0, .inr (2, [.null, .null, .null, .null, .null, .int 0, .int 0])), (q7, .inl (cA, 16, .inl (fun _ => 0)))] H := hP
  have hD : va_D A [(h0, .inr (2, [.null, .null, .null, .null, .null, .int 0, .int 0])), (q7, .inl (cA, 16, .inl (fun _ => 0)))] := hD
  refine va_putF (D := D) (ci := 2) (v := .ref q7) (ty := .array .int) (C := R_ST) (T := T_ST) (N := 7) hx hb hts (fun w h => List.mem_cons_of_mem _ (hin_ST w h)) ty_ST tk_ST nm_ST hown hK hP hD hS 0 rfl rfl 1 (by decide) (hts _ (List.mem_cons_of_mem _ lf_ST_9)) (fun _ h9 => h9) rfl hin rfl rfl rfl rfl (Nat.le_of_ble_eq_true rfl) d_ST_init_9 (fun H locs hP hD hS => ?_)
  have hP : va_P D vwCl [(h0, .inr (2, [.null, .ref q7, .null, .null, .null, .int 0, .int 0])), (q7, .inl (cA, 16, .inl (fun _ => 0)))] H := hP
  have hD : va_D A [(h0, .inr (2, [.null, .ref q7, .null, .null, .null, .int 0, .int 0])), (q7, .inl (cA, 16, .inl (fun _ => 0)))] := hD
  refine lv_aload_n hx hb d_ST_init_12 rfl (lv_at hl 0 rfl) ?_
  refine lv_bipush (v := 16) hx hb d_ST_init_13 (by decide) ?_
  refine w_newI (cA := cA) (cB := cB) hx hb (hts _ (List.mem_cons_of_mem _ la_I)) hK hP hD hS hA 16 (by decide) (by decide) (by decide) (Nat.le_of_ble_eq_true rfl) (Nat.le_of_ble_eq_true rfl) d_ST_init_15 (fun q15 H hP hD hS => ?_)
  have hP : va_P D vwCl [(h0, .inr (2, [.null, .ref q7, .null, .null, .null, .int 0, .int 0])), (q7, .inl (cA, 16, .inl (fun _ => 0))), (q15, .inl (cA, 16, .inl (fun _ => 0)))] H := hP
  have hD : va_D A [(h0, .inr (2, [.null, .ref q7, .null, .null, .null, .int 0, .int 0])), (q7, .inl (cA, 16, .inl (fun _ => 0))), (q15, .inl (cA, 16, .inl (fun _ => 0)))] := hD
  refine va_putF (D := D) (ci := 2) (v := .ref q15) (ty := .array .int) (C := R_ST) (T := T_ST) (N := 7) hx hb hts (fun w h => List.mem_cons_of_mem _ (hin_ST w h)) ty_ST tk_ST nm_ST hown hK hP hD hS 0 rfl rfl 2 (by decide) (hts _ (List.mem_cons_of_mem _ lf_ST_15)) (fun _ h9 => h9) rfl hin rfl rfl rfl rfl (Nat.le_of_ble_eq_true rfl) d_ST_init_17 (fun H locs hP hD hS => ?_)
  have hP : va_P D vwCl [(h0, .inr (2, [.null, .ref q7, .ref q15, .null, .null, .int 0, .int 0])), (q7, .inl (cA, 16, .inl (fun _ => 0))), (q15, .inl (cA, 16, .inl (fun _ => 0)))] H := hP
  have hD : va_D A [(h0, .inr (2, [.null, .ref q7, .ref q15, .null, .null, .int 0, .int 0])), (q7, .inl (cA, 16, .inl (fun _ => 0))), (q15, .inl (cA, 16, .inl (fun _ => 0)))] := hD
  refine lv_aload_n hx hb d_ST_init_20 rfl (lv_at hl 0 rfl) ?_
  refine lv_bipush (v := 16) hx hb d_ST_init_21 (by decide) ?_
  refine w_newI (cA := cA) (cB := cB) hx hb (hts _ (List.mem_cons_of_mem _ la_I)) hK hP hD hS hA 16 (by decide) (by decide) (by decide) (Nat.le_of_ble_eq_true rfl) (Nat.le_of_ble_eq_true rfl) d_ST_init_23 (fun q23 H hP hD hS => ?_)
  have hP : va_P D vwCl [(h0, .inr (2, [.null, .ref q7, .ref q15, .null, .null, .int 0, .int 0])), (q7, .inl (cA, 16, .inl (fun _ => 0))), (q15, .inl (cA, 16, .inl (fun _ => 0))), (q23, .inl (cA, 16, .inl (fun _ => 0)))] H := hP
  have hD : va_D A [(h0, .inr (2, [.null, .ref q7, .ref q15, .null, .null, .int 0, .int 0])), (q7, .inl (cA, 16, .inl (fun _ => 0))), (q15, .inl (cA, 16, .inl (fun _ => 0))), (q23, .inl (cA, 16, .inl (fun _ => 0)))] := hD
  refine va_putF (D := D) (ci := 2) (v := .ref q23) (ty := .array .int) (C := R_ST) (T := T_ST) (N := 7) hx hb hts (fun w h => List.mem_cons_of_mem _ (hin_ST w h)) ty_ST tk_ST nm_ST hown hK hP hD hS 0 rfl rfl 3 (by decide) (hts _ (List.mem_cons_of_mem _ lf_ST_18)) (fun _ h9 => h9) rfl hin rfl rfl rfl rfl (Nat.le_of_ble_eq_true rfl) d_ST_init_25 (fun H locs hP hD hS => ?_)
  have hP : va_P D vwCl [(h0, .inr (2, [.null, .ref q7, .ref q15, .ref q23, .null, .int 0, .int 0])), (q7, .inl (cA, 16, .inl (fun _ => 0))), (q15, .inl (cA, 16, .inl (fun _ => 0))), (q23, .inl (cA, 16, .inl (fun _ => 0)))] H := hP
  have hD : va_D A [(h0, .inr (2, [.null, .ref q7, .ref q15, .ref q23, .null, .int 0, .int 0])), (q7, .inl (cA, 16, .inl (fun _ => 0))), (q15, .inl (cA, 16, .inl (fun _ => 0))), (q23, .inl (cA, 16, .inl (fun _ => 0)))] := hD
  refine lv_aload_n hx hb d_ST_init_28 rfl (lv_at hl 0 rfl) ?_
  refine lv_aload_n hx hb d_ST_init_29 rfl (lv_at hl 1 rfl) ?_
  refine va_putF (D := D) (ci := 2) (v := .ref (tad 0)) (ty := .array .int) (C := R_ST) (T := T_ST) (N := 7) hx hb hts (fun w h => List.mem_cons_of_mem _ (hin_ST w h)) ty_ST tk_ST nm_ST hown hK hP hD hS 0 rfl rfl 0 (by decide) (hts _ (List.mem_cons_of_mem _ lf_ST_21)) (fun _ h9 => h9) rfl hin rfl rfl rfl rfl (Nat.le_of_ble_eq_true rfl) d_ST_init_30 (fun H locs hP hD hS => ?_)
  have hP : va_P D vwCl [(h0, .inr (2, [.ref (tad 0), .ref q7, .ref q15, .ref q23, .null, .int 0, .int 0])), (q7, .inl (cA, 16, .inl (fun _ => 0))), (q15, .inl (cA, 16, .inl (fun _ => 0))), (q23, .inl (cA, 16, .inl (fun _ => 0)))] H := hP
  have hD : va_D A [(h0, .inr (2, [.ref (tad 0), .ref q7, .ref q15, .ref q23, .null, .int 0, .int 0])), (q7, .inl (cA, 16, .inl (fun _ => 0))), (q15, .inl (cA, 16, .inl (fun _ => 0))), (q23, .inl (cA, 16, .inl (fun _ => 0)))] := hD
  refine lv_aload_n hx hb d_ST_init_33 rfl (lv_at hl 0 rfl) ?_
  refine lv_aload_n hx hb d_ST_init_34 rfl (lv_at hl 1 rfl) ?_
  refine va_tlen (v := 12) hx hb (hTq.1 0 (by decide)).1 hS rfl d_ST_init_35 ?_
  refine w_newI (cA := cA) (cB := cB) hx hb (hts _ (List.mem_cons_of_mem _ la_I)) hK hP hD hS hA 12 (by decide) (by decide) (by decide) (Nat.le_of_ble_eq_true rfl) (Nat.le_of_ble_eq_true rfl) d_ST_init_36 (fun q36 H hP hD hS => ?_)
  have hP : va_P D vwCl [(h0, .inr (2, [.ref (tad 0), .ref q7, .ref q15, .ref q23, .null, .int 0, .int 0])), (q7, .inl (cA, 16, .inl (fun _ => 0))), (q15, .inl (cA, 16, .inl (fun _ => 0))), (q23, .inl (cA, 16, .inl (fun _ => 0))), (q36, .inl (cA, 12, .inl (fun _ => 0)))] H := hP
  have hD : va_D A [(h0, .inr (2, [.ref (tad 0), .ref q7, .ref q15, .ref q23, .null, .int 0, .int 0])), (q7, .inl (cA, 16, .inl (fun _ => 0))), (q15, .inl (cA, 16, .inl (fun _ => 0))), (q23, .inl (cA, 16, .inl (fun _ => 0))), (q36, .inl (cA, 12, .inl (fun _ => 0)))] := hD
  refine va_putF (D := D) (ci := 2) (v := .ref q36) (ty := .array .int) (C := R_ST) (T := T_ST) (N := 7) hx hb hts (fun w h => List.mem_cons_of_mem _ (hin_ST w h)) ty_ST tk_ST nm_ST hown hK hP hD hS 0 rfl rfl 4 (by decide) (hts _ (List.mem_cons_of_mem _ lf_ST_24)) (fun _ h9 => h9) rfl hin rfl rfl rfl rfl (Nat.le_of_ble_eq_true rfl) d_ST_init_38 (fun H locs hP hD hS => ?_)
  have hP : va_P D vwCl [(h0, .inr (2, [.ref (tad 0), .ref q7, .ref q15, .ref q23, .ref q36, .int 0, .int 0])), (q7, .inl (cA, 16, .inl (fun _ => 0))), (q15, .inl (cA, 16, .inl (fun _ => 0))), (q23, .inl (cA, 16, .inl (fun _ => 0))), (q36, .inl (cA, 12, .inl (fun _ => 0)))] H := hP
  have hD : va_D A [(h0, .inr (2, [.ref (tad 0), .ref q7, .ref q15, .ref q23, .ref q36, .int 0, .int 0])), (q7, .inl (cA, 16, .inl (fun _ => 0))), (q15, .inl (cA, 16, .inl (fun _ => 0))), (q23, .inl (cA, 16, .inl (fun _ => 0))), (q36, .inl (cA, 12, .inl (fun _ => 0)))] := hD
  refine lv_aload_n hx hb d_ST_init_41 rfl (lv_at hl 0 rfl) ?_
  refine lv_aload_n hx hb d_ST_init_42 rfl (lv_at hl 1 rfl) ?_
  refine lv_aload_n hx hb d_ST_init_43 rfl (lv_at hl 1 rfl) ?_
  refine va_tlen (v := 12) hx hb (hTq.1 0 (by decide)).1 hS rfl d_ST_init_44 ?_
  have eX : [(h0, .inr (2, [.ref (tad 0), .ref q7, .ref q15, .ref q23, .ref q36, .int 0, .int 0])), (q7, .inl (cA, 16, .inl (fun _ => 0))), (q15, .inl (cA, 16, .inl (fun _ => 0))), (q23, .inl (cA, 16, .inl (fun _ => 0))), (q36, .inl (cA, 12, .inl (fun _ => 0)))] = wl (xST D cA cB tad h0 q7 q15 q23 q36) (lST 0) fST := rfl
  rw [eX] at hP hD
  have hAA : ∀ q, AA (xST D cA cB tad h0 q7 q15 q23 q36) (lST 0) q → A q := fun q h => aa_in hD h
  have hTb : ∀ U : State, U.heap = H → s.WarmedH U.vm → Tb (xST D cA cB tad h0 q7 q15 q23 q36) (lST 0) U := fun U hU hW => tb_st0 (hTq.moved hW hU hS.2.1 hAA)
  refine va_callv (va_runV (C := R_ST) (As := [.ref (tad 0), .int (nI 12)]) (rest := []) ⟨hx, hb, hml, hown, hts⟩ (c_ST_keepCounts l (X := xST D cA cB tad h0 q7 q15 q23 q36) (L := lST 0) wt_st0 (i0 := 0) (i1 := 5) (x2 := nI 12) (F := fST) ⟨by decide, rfl⟩ (Or.inr ⟨0, by decide, rfl⟩) hg0) (cwV 2 hts (gd_V lc_ST_keepCounts lm_ST_27 li_ST_keepCounts ls_ST_keepCounts ln_ST) rfl rfl rfl hd_ST_keepCounts ⟨(Nat.le_of_ble_eq_true rfl), (Nat.le_of_ble_eq_true rfl)⟩) ⟨Pr.calls, va_recv hK hP (ci := 2) rfl (q0 := 0) rfl, fun U hU hW => ⟨rfl, by rw [hU]; exact hP, aa_self hD, va_K.moved hW.alike hK, hTb U hU hW⟩⟩ rfl rfl hl.1 rfl (lv_room (Nat.le_of_ble_eq_true rfl)) d_ST_init_45 ⟨(Nat.le_of_ble_eq_true rfl), (Nat.le_of_ble_eq_true rfl)⟩) hS (fun q _ h => hAA q h) hAA (fun G t H1 locs ht hvm hG hB hz1 hk1 hS => ?_)
  rw [hG] at hB
  obtain ⟨hP1, -, hD1⟩ := hB
  rw [ht] at hP1
  generalize H1 = H at hP1 hS ⊢
  have hP : va_P D vwCl [(h0, .inr (2, [.ref (tad 0), .ref q7, .ref q15, .ref q23, .ref q36, .int (G0 0 5), .int (G0 0 6)])), (q7, .inl (cA, 16, .inl (G0 1))), (q15, .inl (cA, 16, .inl (G0 2))), (q23, .inl (cA, 16, .inl (G0 3))), (q36, .inl (cA, 12, .inl (G0 4)))] H := hP1
  have hD : va_D A [(h0, .inr (2, [.ref (tad 0), .ref q7, .ref q15, .ref q23, .ref q36, .int (G0 0 5), .int (G0 0 6)])), (q7, .inl (cA, 16, .inl (G0 1))), (q15, .inl (cA, 16, .inl (G0 2))), (q23, .inl (cA, 16, .inl (G0 3))), (q36, .inl (cA, 12, .inl (G0 4)))] := hD1.weaken (fun _ _ _ h => hAA _ h)
  refine W.widen (k := 4) (n := 60) (Nat.le_of_ble_eq_true rfl) (Nat.le_of_ble_eq_true rfl) ?_
  exact W.vret hx hb hr (fun t ht hW => ⟨⟨fun k => [q7, q15, q23, q36].getD k 0, rfl, trivial, by rw [ht]; exact hP, va_K.moved hW.alike hK, hD⟩, hS.F ht⟩) hS.2.2 d_ST_init_48
set_option maxHeartbeats 8000000 in
set_option maxRecDepth 100000 in
theorem k_ST_init_1 (l : Launch) {D : va_G} {cA cB : ClassId} {tad : Nat → Nat} {G0 G1 : Mem} (hg0 : f_ST_keepCounts (lST 0) 0 5 (nI 12) fST = some G0) (hg1 : f_ST_keepCounts (lST 1) 0 6 (nI 8) fST = some G1) (h0 sz : Nat)  : Met l y_ST_init w_ST_init { frames := 1, cells := 4, slots := 56, locals := 26 } (va_Pc [.ref h0, .ref (tad 1)] (Pk D cA cB tad [(h0, .inr (2, [.null, .null, .null, .null, .null, .int 0, .int 0]))] sz)) (Qk D cA cB (va_A [(h0, .inr (2, [.null, .null, .null, .null, .null, .int 0, .int 0]))] sz) (fun u => [(h0, .inr (2, [.ref (tad 1), .ref (u 0), .ref (u 1), .ref (u 2), .ref (u 3), .int (G1 0 5), .int (G1 0 6)])), ((u 0), .inl (cA, 16, .inl (G1 1))), ((u 1), .inl (cA, 16, .inl (G1 2))), ((u 2), .inl (cA, 16, .inl (G1 3))), ((u 3), .inl (cA, 8, .inl (G1 4)))])) 4 (56) (va_A [(h0, .inr (2, [.null, .null, .null, .null, .null, .int 0, .int 0]))] sz) := by
  refine Met.ofW (cc := cc_ST_init) (maxL := 2) (ret := none) (by decide) rfl ?_
  intro p e s m args below meth c s₁ B hml hv
  obtain ⟨rfl, hsz, hP, hK, hD0, hTq⟩ := hv
  have hx := B.exec
  have hb := B.bytes
  have hr := B.returns
  have hts := atoms_spec (ws := w_ST_init) B.pre
  have hown : s.vm.findClass R_ST = some m.cls := findClass_of_methodNamed B.named
  have hlocks := B.notSynchronized
  have hin : meth.name = "<init>" := (name_of_methodNamed B.named B.method).1
  subst hsz
  have hD := hD0.self (sz := s.heap.size)
  generalize hAe : va_A [(h0, .inr (2, [.null, .null, .null, .null, .null, .int 0, .int 0]))] s.heap.size = A at hD hTq ⊢
  have hA : ∀ q : Nat, s.heap.size ≤ q → A q := fun q h => by rw [← hAe]; exact Or.inr h
  have hS : va_S A s.heap s.heap [] := va_S.rf
  have hl := lv_entry ([.ref h0, .ref (tad 1)]) (n := 2) (Nat.le_of_ble_eq_true rfl)
  rw [lg_entry_eq]
  generalize (lg_sl ([.ref h0, .ref (tad 1)]) ++ List.replicate (2 - (lg_sl ([.ref h0, .ref (tad 1)])).length) Slot.unset).toArray = ls at hl ⊢
  have hl : lv_has ls 2 [(0, .ref h0), (1, .ref (tad 1))] := hl
  refine lv_aload_n hx hb d_ST_init_0 rfl (lv_at hl 0 rfl) ?_
  refine W.objInit hx hb hown (hts _ (List.mem_cons_of_mem _ lo_ST)) (hts _ (List.mem_cons_of_mem _ li_Obj)) (hts _ (List.mem_cons_of_mem _ lc_Obj)) rfl (by rw [hml]; exact hl.1) rfl d_ST_init_1 (Nat.le_of_ble_eq_true rfl) (Nat.le_of_ble_eq_true rfl) ?_
  refine W.eq (g2 := F0 m 4 ls []) rfl ?_
  refine lv_aload_n hx hb d_ST_init_4 rfl (lv_at hl 0 rfl) ?_
  refine lv_bipush (v := 16) hx hb d_ST_init_5 (by decide) ?_
  refine w_newI (cA := cA) (cB := cB) hx hb (hts _ (List.mem_cons_of_mem _ la_I)) hK hP hD hS hA 16 (by decide) (by decide) (by decide) (Nat.le_of_ble_eq_true rfl) (Nat.le_of_ble_eq_true rfl) d_ST_init_7 (fun q7 H hP hD hS => ?_)
  have hP : va_P D vwCl [(h0, .inr (2, [.null, .null, .null, .null, .null, .int 0, .int 0])), (q7, .inl (cA, 16, .inl (fun _ => 0)))] H := hP
  have hD : va_D A [(h0, .inr (2, [.null, .null, .null, .null, .null, .int 0, .int 0])), (q7, .inl (cA, 16, .inl (fun _ => 0)))] := hD
  refine va_putF (D := D) (ci := 2) (v := .ref q7) (ty := .array .int) (C := R_ST) (T := T_ST) (N := 7) hx hb hts (fun w h => List.mem_cons_of_mem _ (hin_ST w h)) ty_ST tk_ST nm_ST hown hK hP hD hS 0 rfl rfl 1 (by decide) (hts _ (List.mem_cons_of_mem _ lf_ST_9)) (fun _ h9 => h9) rfl hin rfl rfl rfl rfl (Nat.le_of_ble_eq_true rfl) d_ST_init_9 (fun H locs hP hD hS => ?_)
  have hP : va_P D vwCl [(h0, .inr (2, [.null, .ref q7, .null, .null, .null, .int 0, .int 0])), (q7, .inl (cA, 16, .inl (fun _ => 0)))] H := hP
  have hD : va_D A [(h0, .inr (2, [.null, .ref q7, .null, .null, .null, .int 0, .int 0])), (q7, .inl (cA, 16, .inl (fun _ => 0)))] := hD
  refine lv_aload_n hx hb d_ST_init_12 rfl (lv_at hl 0 rfl) ?_
  refine lv_bipush (v := 16) hx hb d_ST_init_13 (by decide) ?_
  refine w_newI (cA := cA) (cB := cB) hx hb (hts _ (List.mem_cons_of_mem _ la_I)) hK hP hD hS hA 16 (by decide) (by decide) (by decide) (Nat.le_of_ble_eq_true rfl) (Nat.le_of_ble_eq_true rfl) d_ST_init_15 (fun q15 H hP hD hS => ?_)
  have hP : va_P D vwCl [(h0, .inr (2, [.null, .ref q7, .null, .null, .null, .int 0, .int 0])), (q7, .inl (cA, 16, .inl (fun _ => 0))), (q15, .inl (cA, 16, .inl (fun _ => 0)))] H := hP
  have hD : va_D A [(h0, .inr (2, [.null, .ref q7, .null, .null, .null, .int 0, .int 0])), (q7, .inl (cA, 16, .inl (fun _ => 0))), (q15, .inl (cA, 16, .inl (fun _ => 0)))] := hD
  refine va_putF (D := D) (ci := 2) (v := .ref q15) (ty := .array .int) (C := R_ST) (T := T_ST) (N := 7) hx hb hts (fun w h => List.mem_cons_of_mem _ (hin_ST w h)) ty_ST tk_ST nm_ST hown hK hP hD hS 0 rfl rfl 2 (by decide) (hts _ (List.mem_cons_of_mem _ lf_ST_15)) (fun _ h9 => h9) rfl hin rfl rfl rfl rfl (Nat.le_of_ble_eq_true rfl) d_ST_init_17 (fun H locs hP hD hS => ?_)
  have hP : va_P D vwCl [(h0, .inr (2, [.null, .ref q7, .ref q15, .null, .null, .int 0, .int 0])), (q7, .inl (cA, 16, .inl (fun _ => 0))), (q15, .inl (cA, 16, .inl (fun _ => 0)))] H := hP
  have hD : va_D A [(h0, .inr (2, [.null, .ref q7, .ref q15, .null, .null, .int 0, .int 0])), (q7, .inl (cA, 16, .inl (fun _ => 0))), (q15, .inl (cA, 16, .inl (fun _ => 0)))] := hD
  refine lv_aload_n hx hb d_ST_init_20 rfl (lv_at hl 0 rfl) ?_
  refine lv_bipush (v := 16) hx hb d_ST_init_21 (by decide) ?_
  refine w_newI (cA := cA) (cB := cB) hx hb (hts _ (List.mem_cons_of_mem _ la_I)) hK hP hD hS hA 16 (by decide) (by decide) (by decide) (Nat.le_of_ble_eq_true rfl) (Nat.le_of_ble_eq_true rfl) d_ST_init_23 (fun q23 H hP hD hS => ?_)
  have hP : va_P D vwCl [(h0, .inr (2, [.null, .ref q7, .ref q15, .null, .null, .int 0, .int 0])), (q7, .inl (cA, 16, .inl (fun _ => 0))), (q15, .inl (cA, 16, .inl (fun _ => 0))), (q23, .inl (cA, 16, .inl (fun _ => 0)))] H := hP
  have hD : va_D A [(h0, .inr (2, [.null, .ref q7, .ref q15, .null, .null, .int 0, .int 0])), (q7, .inl (cA, 16, .inl (fun _ => 0))), (q15, .inl (cA, 16, .inl (fun _ => 0))), (q23, .inl (cA, 16, .inl (fun _ => 0)))] := hD
  refine va_putF (D := D) (ci := 2) (v := .ref q23) (ty := .array .int) (C := R_ST) (T := T_ST) (N := 7) hx hb hts (fun w h => List.mem_cons_of_mem _ (hin_ST w h)) ty_ST tk_ST nm_ST hown hK hP hD hS 0 rfl rfl 3 (by decide) (hts _ (List.mem_cons_of_mem _ lf_ST_18)) (fun _ h9 => h9) rfl hin rfl rfl rfl rfl (Nat.le_of_ble_eq_true rfl) d_ST_init_25 (fun H locs hP hD hS => ?_)
  have hP : va_P D vwCl [(h0, .inr (2, [.null, .ref q7, .ref q15, .ref q23, .null, .int 0, .int 0])), (q7, .inl (cA, 16, .inl (fun _ => 0))), (q15, .inl (cA, 16, .inl (fun _ => 0))), (q23, .inl (cA, 16, .inl (fun _ => 0)))] H := hP
  have hD : va_D A [(h0, .inr (2, [.null, .ref q7, .ref q15, .ref q23, .null, .int 0, .int 0])), (q7, .inl (cA, 16, .inl (fun _ => 0))), (q15, .inl (cA, 16, .inl (fun _ => 0))), (q23, .inl (cA, 16, .inl (fun _ => 0)))] := hD
  refine lv_aload_n hx hb d_ST_init_28 rfl (lv_at hl 0 rfl) ?_
  refine lv_aload_n hx hb d_ST_init_29 rfl (lv_at hl 1 rfl) ?_
  refine va_putF (D := D) (ci := 2) (v := .ref (tad 1)) (ty := .array .int) (C := R_ST) (T := T_ST) (N := 7) hx hb hts (fun w h => List.mem_cons_of_mem _ (hin_ST w h)) ty_ST tk_ST nm_ST hown hK hP hD hS 0 rfl rfl 0 (by decide) (hts _ (List.mem_cons_of_mem _ lf_ST_21)) (fun _ h9 => h9) rfl hin rfl rfl rfl rfl (Nat.le_of_ble_eq_true rfl) d_ST_init_30 (fun H locs hP hD hS => ?_)
  have hP : va_P D vwCl [(h0, .inr (2, [.ref (tad 1), .ref q7, .ref q15, .ref q23, .null, .int 0, .int 0])), (q7, .inl (cA, 16, .inl (fun _ => 0))), (q15, .inl (cA, 16, .inl (fun _ => 0))), (q23, .inl (cA, 16, .inl (fun _ => 0)))] H := hP
  have hD : va_D A [(h0, .inr (2, [.ref (tad 1), .ref q7, .ref q15, .ref q23, .null, .int 0, .int 0])), (q7, .inl (cA, 16, .inl (fun _ => 0))), (q15, .inl (cA, 16, .inl (fun _ => 0))), (q23, .inl (cA, 16, .inl (fun _ => 0)))] := hD
  refine lv_aload_n hx hb d_ST_init_33 rfl (lv_at hl 0 rfl) ?_
  refine lv_aload_n hx hb d_ST_init_34 rfl (lv_at hl 1 rfl) ?_
  refine va_tlen (v := 8) hx hb (hTq.1 1 (by decide)).1 hS rfl d_ST_init_35 ?_
  refine w_newI (cA := cA) (cB := cB) hx hb (hts _ (List.mem_cons_of_mem _ la_I)) hK hP hD hS hA 8 (by decide) (by decide) (by decide) (Nat.le_of_ble_eq_true rfl) (Nat.le_of_ble_eq_true rfl) d_ST_init_36 (fun q36 H hP hD hS => ?_)
  have hP : va_P D vwCl [(h0, .inr (2, [.ref (tad 1), .ref q7, .ref q15, .ref q23, .null, .int 0, .int 0])), (q7, .inl (cA, 16, .inl (fun _ => 0))), (q15, .inl (cA, 16, .inl (fun _ => 0))), (q23, .inl (cA, 16, .inl (fun _ => 0))), (q36, .inl (cA, 8, .inl (fun _ => 0)))] H := hP
  have hD : va_D A [(h0, .inr (2, [.ref (tad 1), .ref q7, .ref q15, .ref q23, .null, .int 0, .int 0])), (q7, .inl (cA, 16, .inl (fun _ => 0))), (q15, .inl (cA, 16, .inl (fun _ => 0))), (q23, .inl (cA, 16, .inl (fun _ => 0))), (q36, .inl (cA, 8, .inl (fun _ => 0)))] := hD
  refine va_putF (D := D) (ci := 2) (v := .ref q36) (ty := .array .int) (C := R_ST) (T := T_ST) (N := 7) hx hb hts (fun w h => List.mem_cons_of_mem _ (hin_ST w h)) ty_ST tk_ST nm_ST hown hK hP hD hS 0 rfl rfl 4 (by decide) (hts _ (List.mem_cons_of_mem _ lf_ST_24)) (fun _ h9 => h9) rfl hin rfl rfl rfl rfl (Nat.le_of_ble_eq_true rfl) d_ST_init_38 (fun H locs hP hD hS => ?_)
  have hP : va_P D vwCl [(h0, .inr (2, [.ref (tad 1), .ref q7, .ref q15, .ref q23, .ref q36, .int 0, .int 0])), (q7, .inl (cA, 16, .inl (fun _ => 0))), (q15, .inl (cA, 16, .inl (fun _ => 0))), (q23, .inl (cA, 16, .inl (fun _ => 0))), (q36, .inl (cA, 8, .inl (fun _ => 0)))] H := hP
  have hD : va_D A [(h0, .inr (2, [.ref (tad 1), .ref q7, .ref q15, .ref q23, .ref q36, .int 0, .int 0])), (q7, .inl (cA, 16, .inl (fun _ => 0))), (q15, .inl (cA, 16, .inl (fun _ => 0))), (q23, .inl (cA, 16, .inl (fun _ => 0))), (q36, .inl (cA, 8, .inl (fun _ => 0)))] := hD
  refine lv_aload_n hx hb d_ST_init_41 rfl (lv_at hl 0 rfl) ?_
  refine lv_aload_n hx hb d_ST_init_42 rfl (lv_at hl 1 rfl) ?_
  refine lv_aload_n hx hb d_ST_init_43 rfl (lv_at hl 1 rfl) ?_
  refine va_tlen (v := 8) hx hb (hTq.1 1 (by decide)).1 hS rfl d_ST_init_44 ?_
  have eX : [(h0, .inr (2, [.ref (tad 1), .ref q7, .ref q15, .ref q23, .ref q36, .int 0, .int 0])), (q7, .inl (cA, 16, .inl (fun _ => 0))), (q15, .inl (cA, 16, .inl (fun _ => 0))), (q23, .inl (cA, 16, .inl (fun _ => 0))), (q36, .inl (cA, 8, .inl (fun _ => 0)))] = wl (xST D cA cB tad h0 q7 q15 q23 q36) (lST 1) fST := rfl
  rw [eX] at hP hD
  have hAA : ∀ q, AA (xST D cA cB tad h0 q7 q15 q23 q36) (lST 1) q → A q := fun q h => aa_in hD h
  have hTb : ∀ U : State, U.heap = H → s.WarmedH U.vm → Tb (xST D cA cB tad h0 q7 q15 q23 q36) (lST 1) U := fun U hU hW => tb_st1 (hTq.moved hW hU hS.2.1 hAA)
  refine va_callv (va_runV (C := R_ST) (As := [.ref (tad 1), .int (nI 8)]) (rest := []) ⟨hx, hb, hml, hown, hts⟩ (c_ST_keepCounts l (X := xST D cA cB tad h0 q7 q15 q23 q36) (L := lST 1) wt_st1 (i0 := 0) (i1 := 6) (x2 := nI 8) (F := fST) ⟨by decide, rfl⟩ (Or.inr ⟨1, by decide, rfl⟩) hg1) (cwV 2 hts (gd_V lc_ST_keepCounts lm_ST_27 li_ST_keepCounts ls_ST_keepCounts ln_ST) rfl rfl rfl hd_ST_keepCounts ⟨(Nat.le_of_ble_eq_true rfl), (Nat.le_of_ble_eq_true rfl)⟩) ⟨Pr.calls, va_recv hK hP (ci := 2) rfl (q0 := 0) rfl, fun U hU hW => ⟨rfl, by rw [hU]; exact hP, aa_self hD, va_K.moved hW.alike hK, hTb U hU hW⟩⟩ rfl rfl hl.1 rfl (lv_room (Nat.le_of_ble_eq_true rfl)) d_ST_init_45 ⟨(Nat.le_of_ble_eq_true rfl), (Nat.le_of_ble_eq_true rfl)⟩) hS (fun q _ h => hAA q h) hAA (fun G t H1 locs ht hvm hG hB hz1 hk1 hS => ?_)
  rw [hG] at hB
  obtain ⟨hP1, -, hD1⟩ := hB
  rw [ht] at hP1
  generalize H1 = H at hP1 hS ⊢
  have hP : va_P D vwCl [(h0, .inr (2, [.ref (tad 1), .ref q7, .ref q15, .ref q23, .ref q36, .int (G1 0 5), .int (G1 0 6)])), (q7, .inl (cA, 16, .inl (G1 1))), (q15, .inl (cA, 16, .inl (G1 2))), (q23, .inl (cA, 16, .inl (G1 3))), (q36, .inl (cA, 8, .inl (G1 4)))] H := hP1
  have hD : va_D A [(h0, .inr (2, [.ref (tad 1), .ref q7, .ref q15, .ref q23, .ref q36, .int (G1 0 5), .int (G1 0 6)])), (q7, .inl (cA, 16, .inl (G1 1))), (q15, .inl (cA, 16, .inl (G1 2))), (q23, .inl (cA, 16, .inl (G1 3))), (q36, .inl (cA, 8, .inl (G1 4)))] := hD1.weaken (fun _ _ _ h => hAA _ h)
  refine W.widen (k := 4) (n := 56) (Nat.le_of_ble_eq_true rfl) (Nat.le_of_ble_eq_true rfl) ?_
  exact W.vret hx hb hr (fun t ht hW => ⟨⟨fun k => [q7, q15, q23, q36].getD k 0, rfl, trivial, by rw [ht]; exact hP, va_K.moved hW.alike hK, hD⟩, hS.F ht⟩) hS.2.2 d_ST_init_48
