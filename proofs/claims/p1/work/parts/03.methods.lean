abbrev cc_PF_init : ByteArray := prog_1_method_1_code
def y_PF_init : MethodName := ⟨R_PF, "<init>", "()V"⟩
abbrev w_PF_init : List Cond := .code y_PF_init cc_PF_init 1 none :: wG
abbrev r_PF_init : Room := { frames := 4, cells := 0, slots := 0, locals := 89 }
set_option maxRecDepth 100000 in
theorem lc_PF_init : Cond.code y_PF_init cc_PF_init 1 none ∈ wG := wG_of (List.mem_append_right _ (List.mem_of_getElem? (i := 21) rfl)) rfl
theorem li_PF_init : Cond.instanceMethod y_PF_init ∈ wG := wG_of (List.mem_append_right _ (List.mem_of_getElem? (i := 20) (by decide +kernel))) rfl
theorem hd_PF_init : y_PF_init.cls = R_PF ∧ y_PF_init.cls ≠ "java/lang/invoke/MethodHandle" ∧ y_PF_init.cls ≠ "java/lang/invoke/VarHandle" ∧ (parseMethodDescriptor y_PF_init.desc).map (fun d => d.parameters.length) = some 0 := by decide +kernel
abbrev cc_Row_init : ByteArray := prog_8_method_1_code
def y_Row_init : MethodName := ⟨R_Row, "<init>", "(I)V"⟩
abbrev w_Row_init : List Cond := .code y_Row_init cc_Row_init 2 none :: wG
abbrev r_Row_init : Room := { frames := 1, cells := 0, slots := 0, locals := 20 }
set_option maxRecDepth 100000 in
theorem lc_Row_init : Cond.code y_Row_init cc_Row_init 2 none ∈ wG := wG_of (List.mem_append_right _ (List.mem_of_getElem? (i := 29) rfl)) rfl
theorem li_Row_init : Cond.instanceMethod y_Row_init ∈ wG := wG_of (List.mem_append_right _ (List.mem_of_getElem? (i := 28) (by decide +kernel))) rfl
theorem hd_Row_init : y_Row_init.cls = R_Row ∧ y_Row_init.cls ≠ "java/lang/invoke/MethodHandle" ∧ y_Row_init.cls ≠ "java/lang/invoke/VarHandle" ∧ (parseMethodDescriptor y_Row_init.desc).map (fun d => d.parameters.length) = some 1 := by decide +kernel
abbrev cc_ST_init : ByteArray := prog_10_method_1_code
def y_ST_init : MethodName := ⟨R_ST, "<init>", "([I)V"⟩
abbrev w_ST_init : List Cond := .code y_ST_init cc_ST_init 2 none :: wG
abbrev r_ST_init : Room := { frames := 1, cells := 0, slots := 0, locals := 26 }
set_option maxRecDepth 100000 in
theorem lc_ST_init : Cond.code y_ST_init cc_ST_init 2 none ∈ wG := wG_of (List.mem_append_right _ (List.mem_of_getElem? (i := 57) rfl)) rfl
theorem li_ST_init : Cond.instanceMethod y_ST_init ∈ wG := wG_of (List.mem_append_right _ (List.mem_of_getElem? (i := 56) (by decide +kernel))) rfl
theorem hd_ST_init : y_ST_init.cls = R_ST ∧ y_ST_init.cls ≠ "java/lang/invoke/MethodHandle" ∧ y_ST_init.cls ≠ "java/lang/invoke/VarHandle" ∧ (parseMethodDescriptor y_ST_init.desc).map (fun d => d.parameters.length) = some 1 := by decide +kernel
abbrev cc_ST_keepCounts : ByteArray := prog_10_method_3_code
def y_ST_keepCounts : MethodName := ⟨R_ST, "keepCounts", "([II)V"⟩
abbrev w_ST_keepCounts : List Cond := .code y_ST_keepCounts cc_ST_keepCounts 7 none :: wG
abbrev r_ST_keepCounts : Room := { frames := 0, cells := 0, slots := 0, locals := 0 }
set_option maxRecDepth 100000 in
theorem lc_ST_keepCounts : Cond.code y_ST_keepCounts cc_ST_keepCounts 7 none ∈ wG := wG_of (List.mem_append_right _ (List.mem_of_getElem? (i := 62) rfl)) rfl
theorem li_ST_keepCounts : Cond.instanceMethod y_ST_keepCounts ∈ wG := wG_of (List.mem_append_right _ (List.mem_of_getElem? (i := 60) (by decide +kernel))) rfl
theorem ls_ST_keepCounts : Cond.selects R_ST y_ST_keepCounts y_ST_keepCounts ∈ wG := wG_of (List.mem_append_right _ (List.mem_of_getElem? (i := 61) (by decide +kernel))) rfl
theorem hd_ST_keepCounts : y_ST_keepCounts.cls = R_ST ∧ y_ST_keepCounts.cls ≠ "java/lang/invoke/MethodHandle" ∧ y_ST_keepCounts.cls ≠ "java/lang/invoke/VarHandle" ∧ (parseMethodDescriptor y_ST_keepCounts.desc).map (fun d => d.parameters.length) = some 2 := by decide +kernel
abbrev cc_Fr_init : ByteArray := prog_3_method_1_code
def y_Fr_init : MethodName := ⟨R_Fr, "<init>", "(LPackFrames$Row;)V"⟩
abbrev w_Fr_init : List Cond := .code y_Fr_init cc_Fr_init 2 none :: wG
abbrev r_Fr_init : Room := { frames := 3, cells := 0, slots := 0, locals := 68 }
set_option maxRecDepth 100000 in
theorem lc_Fr_init : Cond.code y_Fr_init cc_Fr_init 2 none ∈ wG := wG_of (List.mem_append_right _ (List.mem_of_getElem? (i := 99) rfl)) rfl
theorem li_Fr_init : Cond.instanceMethod y_Fr_init ∈ wG := wG_of (List.mem_append_right _ (List.mem_of_getElem? (i := 98) (by decide +kernel))) rfl
theorem hd_Fr_init : y_Fr_init.cls = R_Fr ∧ y_Fr_init.cls ≠ "java/lang/invoke/MethodHandle" ∧ y_Fr_init.cls ≠ "java/lang/invoke/VarHandle" ∧ (parseMethodDescriptor y_Fr_init.desc).map (fun d => d.parameters.length) = some 1 := by decide +kernel
abbrev cc_Rp_init : ByteArray := prog_7_method_1_code
def y_Rp_init : MethodName := ⟨R_Rp, "<init>", "()V"⟩
abbrev w_Rp_init : List Cond := .code y_Rp_init cc_Rp_init 1 none :: wG
abbrev r_Rp_init : Room := { frames := 1, cells := 0, slots := 0, locals := 20 }
set_option maxRecDepth 100000 in
theorem lc_Rp_init : Cond.code y_Rp_init cc_Rp_init 1 none ∈ wG := wG_of (List.mem_append_right _ (List.mem_of_getElem? (i := 107) rfl)) rfl
theorem li_Rp_init : Cond.instanceMethod y_Rp_init ∈ wG := wG_of (List.mem_append_right _ (List.mem_of_getElem? (i := 106) (by decide +kernel))) rfl
theorem hd_Rp_init : y_Rp_init.cls = R_Rp ∧ y_Rp_init.cls ≠ "java/lang/invoke/MethodHandle" ∧ y_Rp_init.cls ≠ "java/lang/invoke/VarHandle" ∧ (parseMethodDescriptor y_Rp_init.desc).map (fun d => d.parameters.length) = some 0 := by decide +kernel
abbrev cc_Tr_init : ByteArray := prog_11_method_1_code
def y_Tr_init : MethodName := ⟨R_Tr, "<init>", "()V"⟩
abbrev w_Tr_init : List Cond := .code y_Tr_init cc_Tr_init 1 none :: wG
abbrev r_Tr_init : Room := { frames := 1, cells := 0, slots := 0, locals := 20 }
set_option maxRecDepth 100000 in
theorem lc_Tr_init : Cond.code y_Tr_init cc_Tr_init 1 none ∈ wG := wG_of (List.mem_append_right _ (List.mem_of_getElem? (i := 123) rfl)) rfl
theorem li_Tr_init : Cond.instanceMethod y_Tr_init ∈ wG := wG_of (List.mem_append_right _ (List.mem_of_getElem? (i := 122) (by decide +kernel))) rfl
theorem hd_Tr_init : y_Tr_init.cls = R_Tr ∧ y_Tr_init.cls ≠ "java/lang/invoke/MethodHandle" ∧ y_Tr_init.cls ≠ "java/lang/invoke/VarHandle" ∧ (parseMethodDescriptor y_Tr_init.desc).map (fun d => d.parameters.length) = some 0 := by decide +kernel
abbrev cc_Wr_init : ByteArray := prog_12_method_1_code
def y_Wr_init : MethodName := ⟨R_Wr, "<init>", "(LPackFrames$Row;)V"⟩
abbrev w_Wr_init : List Cond := .code y_Wr_init cc_Wr_init 2 none :: wG
abbrev r_Wr_init : Room := { frames := 1, cells := 0, slots := 0, locals := 20 }
set_option maxRecDepth 100000 in
theorem lc_Wr_init : Cond.code y_Wr_init cc_Wr_init 2 none ∈ wG := wG_of (List.mem_append_right _ (List.mem_of_getElem? (i := 150) rfl)) rfl
theorem li_Wr_init : Cond.instanceMethod y_Wr_init ∈ wG := wG_of (List.mem_append_right _ (List.mem_of_getElem? (i := 149) (by decide +kernel))) rfl
theorem hd_Wr_init : y_Wr_init.cls = R_Wr ∧ y_Wr_init.cls ≠ "java/lang/invoke/MethodHandle" ∧ y_Wr_init.cls ≠ "java/lang/invoke/VarHandle" ∧ (parseMethodDescriptor y_Wr_init.desc).map (fun d => d.parameters.length) = some 1 := by decide +kernel
abbrev cc_Sq_init : ByteArray := prog_9_method_1_code
def y_Sq_init : MethodName := ⟨R_Sq, "<init>", "(LPackFrames$WireReader;)V"⟩
abbrev w_Sq_init : List Cond := .code y_Sq_init cc_Sq_init 2 none :: wG
abbrev r_Sq_init : Room := { frames := 2, cells := 0, slots := 0, locals := 47 }
set_option maxRecDepth 100000 in
theorem lc_Sq_init : Cond.code y_Sq_init cc_Sq_init 2 none ∈ wG := wG_of (List.mem_append_right _ (List.mem_of_getElem? (i := 179) rfl)) rfl
theorem li_Sq_init : Cond.instanceMethod y_Sq_init ∈ wG := wG_of (List.mem_append_right _ (List.mem_of_getElem? (i := 178) (by decide +kernel))) rfl
theorem hd_Sq_init : y_Sq_init.cls = R_Sq ∧ y_Sq_init.cls ≠ "java/lang/invoke/MethodHandle" ∧ y_Sq_init.cls ≠ "java/lang/invoke/VarHandle" ∧ (parseMethodDescriptor y_Sq_init.desc).map (fun d => d.parameters.length) = some 1 := by decide +kernel
abbrev cc_Pk_init : ByteArray := prog_6_method_1_code
def y_Pk_init : MethodName := ⟨R_Pk, "<init>", "(LPackFrames$Row;LPackFrames$StateTable;LPackFrames$StateTable;)V"⟩
abbrev w_Pk_init : List Cond := .code y_Pk_init cc_Pk_init 4 none :: wG
abbrev r_Pk_init : Room := { frames := 3, cells := 0, slots := 0, locals := 62 }
set_option maxRecDepth 100000 in
theorem lc_Pk_init : Cond.code y_Pk_init cc_Pk_init 4 none ∈ wG := wG_of (List.mem_append_right _ (List.mem_of_getElem? (i := 253) rfl)) rfl
theorem li_Pk_init : Cond.instanceMethod y_Pk_init ∈ wG := wG_of (List.mem_append_right _ (List.mem_of_getElem? (i := 252) (by decide +kernel))) rfl
theorem hd_Pk_init : y_Pk_init.cls = R_Pk ∧ y_Pk_init.cls ≠ "java/lang/invoke/MethodHandle" ∧ y_Pk_init.cls ≠ "java/lang/invoke/VarHandle" ∧ (parseMethodDescriptor y_Pk_init.desc).map (fun d => d.parameters.length) = some 3 := by decide +kernel
abbrev cc_Br_init : ByteArray := prog_2_method_1_code
def y_Br_init : MethodName := ⟨R_Br, "<init>", "()V"⟩
abbrev w_Br_init : List Cond := .code y_Br_init cc_Br_init 1 none :: wG
abbrev r_Br_init : Room := { frames := 1, cells := 0, slots := 0, locals := 20 }
set_option maxRecDepth 100000 in
theorem lc_Br_init : Cond.code y_Br_init cc_Br_init 1 none ∈ wG := wG_of (List.mem_append_right _ (List.mem_of_getElem? (i := 261) rfl)) rfl
theorem li_Br_init : Cond.instanceMethod y_Br_init ∈ wG := wG_of (List.mem_append_right _ (List.mem_of_getElem? (i := 260) (by decide +kernel))) rfl
theorem hd_Br_init : y_Br_init.cls = R_Br ∧ y_Br_init.cls ≠ "java/lang/invoke/MethodHandle" ∧ y_Br_init.cls ≠ "java/lang/invoke/VarHandle" ∧ (parseMethodDescriptor y_Br_init.desc).map (fun d => d.parameters.length) = some 0 := by decide +kernel
abbrev cc_Jo_init : ByteArray := prog_4_method_1_code
def y_Jo_init : MethodName := ⟨R_Jo, "<init>", "()V"⟩
abbrev w_Jo_init : List Cond := .code y_Jo_init cc_Jo_init 1 none :: wG
abbrev r_Jo_init : Room := { frames := 1, cells := 0, slots := 0, locals := 20 }
set_option maxRecDepth 100000 in
theorem lc_Jo_init : Cond.code y_Jo_init cc_Jo_init 1 none ∈ wG := wG_of (List.mem_append_right _ (List.mem_of_getElem? (i := 275) rfl)) rfl
theorem li_Jo_init : Cond.instanceMethod y_Jo_init ∈ wG := wG_of (List.mem_append_right _ (List.mem_of_getElem? (i := 274) (by decide +kernel))) rfl
theorem hd_Jo_init : y_Jo_init.cls = R_Jo ∧ y_Jo_init.cls ≠ "java/lang/invoke/MethodHandle" ∧ y_Jo_init.cls ≠ "java/lang/invoke/VarHandle" ∧ (parseMethodDescriptor y_Jo_init.desc).map (fun d => d.parameters.length) = some 0 := by decide +kernel
abbrev cc_Mf_init : ByteArray := prog_5_method_1_code
def y_Mf_init : MethodName := ⟨R_Mf, "<init>", "(LPackFrames$Row;)V"⟩
abbrev w_Mf_init : List Cond := .code y_Mf_init cc_Mf_init 2 none :: wG
abbrev r_Mf_init : Room := { frames := 2, cells := 0, slots := 0, locals := 41 }
set_option maxRecDepth 100000 in
theorem lc_Mf_init : Cond.code y_Mf_init cc_Mf_init 2 none ∈ wG := wG_of (List.mem_append_right _ (List.mem_of_getElem? (i := 298) rfl)) rfl
theorem li_Mf_init : Cond.instanceMethod y_Mf_init ∈ wG := wG_of (List.mem_append_right _ (List.mem_of_getElem? (i := 297) (by decide +kernel))) rfl
theorem hd_Mf_init : y_Mf_init.cls = R_Mf ∧ y_Mf_init.cls ≠ "java/lang/invoke/MethodHandle" ∧ y_Mf_init.cls ≠ "java/lang/invoke/VarHandle" ∧ (parseMethodDescriptor y_Mf_init.desc).map (fun d => d.parameters.length) = some 1 := by decide +kernel
abbrev cc_PF_write : ByteArray := prog_1_method_2_code
def y_PF_write : MethodName := ⟨R_PF, "write", "(IJ)Z"⟩
abbrev w_PF_write : List Cond := .code y_PF_write cc_PF_write 4 (some .boolean) :: wG
abbrev r_PF_write : Room := { frames := 2, cells := 0, slots := 0, locals := 45 }
set_option maxRecDepth 100000 in
theorem lc_PF_write : Cond.code y_PF_write cc_PF_write 4 (some .boolean) ∈ wG := wG_of (List.mem_append_right _ (List.mem_of_getElem? (i := 402) rfl)) rfl
theorem li_PF_write : Cond.instanceMethod y_PF_write ∈ wG := wG_of (List.mem_append_right _ (List.mem_of_getElem? (i := 400) (by decide +kernel))) rfl
theorem ls_PF_write : Cond.selects R_PF y_PF_write y_PF_write ∈ wG := wG_of (List.mem_append_right _ (List.mem_of_getElem? (i := 401) (by decide +kernel))) rfl
theorem hd_PF_write : y_PF_write.cls = R_PF ∧ y_PF_write.cls ≠ "java/lang/invoke/MethodHandle" ∧ y_PF_write.cls ≠ "java/lang/invoke/VarHandle" ∧ (parseMethodDescriptor y_PF_write.desc).map (fun d => d.parameters.length) = some 2 := by decide +kernel
abbrev cc_Row_addLowest : ByteArray := prog_8_method_7_code
def y_Row_addLowest : MethodName := ⟨R_Row, "addLowest", "(IJ)Z"⟩
abbrev w_Row_addLowest : List Cond := .code y_Row_addLowest cc_Row_addLowest 5 (some .boolean) :: wG
abbrev r_Row_addLowest : Room := { frames := 1, cells := 0, slots := 0, locals := 21 }
set_option maxRecDepth 100000 in
theorem lc_Row_addLowest : Cond.code y_Row_addLowest cc_Row_addLowest 5 (some .boolean) ∈ wG := wG_of (List.mem_append_right _ (List.mem_of_getElem? (i := 406) rfl)) rfl
theorem li_Row_addLowest : Cond.instanceMethod y_Row_addLowest ∈ wG := wG_of (List.mem_append_right _ (List.mem_of_getElem? (i := 404) (by decide +kernel))) rfl
theorem ls_Row_addLowest : Cond.selects R_Row y_Row_addLowest y_Row_addLowest ∈ wG := wG_of (List.mem_append_right _ (List.mem_of_getElem? (i := 405) (by decide +kernel))) rfl
theorem hd_Row_addLowest : y_Row_addLowest.cls = R_Row ∧ y_Row_addLowest.cls ≠ "java/lang/invoke/MethodHandle" ∧ y_Row_addLowest.cls ≠ "java/lang/invoke/VarHandle" ∧ (parseMethodDescriptor y_Row_addLowest.desc).map (fun d => d.parameters.length) = some 2 := by decide +kernel
abbrev cc_Row_hasRoom : ByteArray := prog_8_method_2_code
def y_Row_hasRoom : MethodName := ⟨R_Row, "hasRoom", "(I)Z"⟩
abbrev w_Row_hasRoom : List Cond := .code y_Row_hasRoom cc_Row_hasRoom 2 (some .boolean) :: wG
abbrev r_Row_hasRoom : Room := { frames := 0, cells := 0, slots := 0, locals := 0 }
set_option maxRecDepth 100000 in
theorem lc_Row_hasRoom : Cond.code y_Row_hasRoom cc_Row_hasRoom 2 (some .boolean) ∈ wG := wG_of (List.mem_append_right _ (List.mem_of_getElem? (i := 410) rfl)) rfl
theorem li_Row_hasRoom : Cond.instanceMethod y_Row_hasRoom ∈ wG := wG_of (List.mem_append_right _ (List.mem_of_getElem? (i := 408) (by decide +kernel))) rfl
theorem ls_Row_hasRoom : Cond.selects R_Row y_Row_hasRoom y_Row_hasRoom ∈ wG := wG_of (List.mem_append_right _ (List.mem_of_getElem? (i := 409) (by decide +kernel))) rfl
theorem hd_Row_hasRoom : y_Row_hasRoom.cls = R_Row ∧ y_Row_hasRoom.cls ≠ "java/lang/invoke/MethodHandle" ∧ y_Row_hasRoom.cls ≠ "java/lang/invoke/VarHandle" ∧ (parseMethodDescriptor y_Row_hasRoom.desc).map (fun d => d.parameters.length) = some 1 := by decide +kernel
abbrev cc_Row_add : ByteArray := prog_8_method_3_code
def y_Row_add : MethodName := ⟨R_Row, "add", "(I)V"⟩
abbrev w_Row_add : List Cond := .code y_Row_add cc_Row_add 2 none :: wG
abbrev r_Row_add : Room := { frames := 0, cells := 0, slots := 0, locals := 0 }
set_option maxRecDepth 100000 in
theorem lc_Row_add : Cond.code y_Row_add cc_Row_add 2 none ∈ wG := wG_of (List.mem_append_right _ (List.mem_of_getElem? (i := 414) rfl)) rfl
theorem li_Row_add : Cond.instanceMethod y_Row_add ∈ wG := wG_of (List.mem_append_right _ (List.mem_of_getElem? (i := 412) (by decide +kernel))) rfl
theorem ls_Row_add : Cond.selects R_Row y_Row_add y_Row_add ∈ wG := wG_of (List.mem_append_right _ (List.mem_of_getElem? (i := 413) (by decide +kernel))) rfl
theorem hd_Row_add : y_Row_add.cls = R_Row ∧ y_Row_add.cls ≠ "java/lang/invoke/MethodHandle" ∧ y_Row_add.cls ≠ "java/lang/invoke/VarHandle" ∧ (parseMethodDescriptor y_Row_add.desc).map (fun d => d.parameters.length) = some 1 := by decide +kernel
abbrev cc_PF_clear : ByteArray := prog_1_method_3_code
def y_PF_clear : MethodName := ⟨R_PF, "clear", "()V"⟩
abbrev w_PF_clear : List Cond := .code y_PF_clear cc_PF_clear 1 none :: wG
abbrev r_PF_clear : Room := { frames := 0, cells := 0, slots := 0, locals := 0 }
set_option maxRecDepth 100000 in
theorem lc_PF_clear : Cond.code y_PF_clear cc_PF_clear 1 none ∈ wG := wG_of (List.mem_append_right _ (List.mem_of_getElem? (i := 418) rfl)) rfl
theorem li_PF_clear : Cond.instanceMethod y_PF_clear ∈ wG := wG_of (List.mem_append_right _ (List.mem_of_getElem? (i := 416) (by decide +kernel))) rfl
theorem ls_PF_clear : Cond.selects R_PF y_PF_clear y_PF_clear ∈ wG := wG_of (List.mem_append_right _ (List.mem_of_getElem? (i := 417) (by decide +kernel))) rfl
theorem hd_PF_clear : y_PF_clear.cls = R_PF ∧ y_PF_clear.cls ≠ "java/lang/invoke/MethodHandle" ∧ y_PF_clear.cls ≠ "java/lang/invoke/VarHandle" ∧ (parseMethodDescriptor y_PF_clear.desc).map (fun d => d.parameters.length) = some 0 := by decide +kernel
abbrev cc_PF_content : ByteArray := prog_1_method_4_code
def y_PF_content : MethodName := ⟨R_PF, "content", "(I)I"⟩
abbrev w_PF_content : List Cond := .code y_PF_content cc_PF_content 2 (some .int) :: wG
abbrev r_PF_content : Room := { frames := 1, cells := 0, slots := 0, locals := 21 }
set_option maxRecDepth 100000 in
theorem lc_PF_content : Cond.code y_PF_content cc_PF_content 2 (some .int) ∈ wG := wG_of (List.mem_append_right _ (List.mem_of_getElem? (i := 422) rfl)) rfl
theorem li_PF_content : Cond.instanceMethod y_PF_content ∈ wG := wG_of (List.mem_append_right _ (List.mem_of_getElem? (i := 420) (by decide +kernel))) rfl
theorem ls_PF_content : Cond.selects R_PF y_PF_content y_PF_content ∈ wG := wG_of (List.mem_append_right _ (List.mem_of_getElem? (i := 421) (by decide +kernel))) rfl
theorem hd_PF_content : y_PF_content.cls = R_PF ∧ y_PF_content.cls ≠ "java/lang/invoke/MethodHandle" ∧ y_PF_content.cls ≠ "java/lang/invoke/VarHandle" ∧ (parseMethodDescriptor y_PF_content.desc).map (fun d => d.parameters.length) = some 1 := by decide +kernel
abbrev cc_Row_sizeOrByte : ByteArray := prog_8_method_8_code
def y_Row_sizeOrByte : MethodName := ⟨R_Row, "sizeOrByte", "(I)I"⟩
abbrev w_Row_sizeOrByte : List Cond := .code y_Row_sizeOrByte cc_Row_sizeOrByte 2 (some .int) :: wG
abbrev r_Row_sizeOrByte : Room := { frames := 0, cells := 0, slots := 0, locals := 0 }
set_option maxRecDepth 100000 in
theorem lc_Row_sizeOrByte : Cond.code y_Row_sizeOrByte cc_Row_sizeOrByte 2 (some .int) ∈ wG := wG_of (List.mem_append_right _ (List.mem_of_getElem? (i := 426) rfl)) rfl
theorem li_Row_sizeOrByte : Cond.instanceMethod y_Row_sizeOrByte ∈ wG := wG_of (List.mem_append_right _ (List.mem_of_getElem? (i := 424) (by decide +kernel))) rfl
theorem ls_Row_sizeOrByte : Cond.selects R_Row y_Row_sizeOrByte y_Row_sizeOrByte ∈ wG := wG_of (List.mem_append_right _ (List.mem_of_getElem? (i := 425) (by decide +kernel))) rfl
theorem hd_Row_sizeOrByte : y_Row_sizeOrByte.cls = R_Row ∧ y_Row_sizeOrByte.cls ≠ "java/lang/invoke/MethodHandle" ∧ y_Row_sizeOrByte.cls ≠ "java/lang/invoke/VarHandle" ∧ (parseMethodDescriptor y_Row_sizeOrByte.desc).map (fun d => d.parameters.length) = some 1 := by decide +kernel
abbrev cc_PF_put : ByteArray := prog_1_method_5_code
def y_PF_put : MethodName := ⟨R_PF, "put", "(IJ)Z"⟩
abbrev w_PF_put : List Cond := .code y_PF_put cc_PF_put 4 (some .boolean) :: wG
abbrev r_PF_put : Room := { frames := 2, cells := 0, slots := 0, locals := 45 }
set_option maxRecDepth 100000 in
theorem lc_PF_put : Cond.code y_PF_put cc_PF_put 4 (some .boolean) ∈ wG := wG_of (List.mem_append_right _ (List.mem_of_getElem? (i := 430) rfl)) rfl
theorem li_PF_put : Cond.instanceMethod y_PF_put ∈ wG := wG_of (List.mem_append_right _ (List.mem_of_getElem? (i := 428) (by decide +kernel))) rfl
theorem ls_PF_put : Cond.selects R_PF y_PF_put y_PF_put ∈ wG := wG_of (List.mem_append_right _ (List.mem_of_getElem? (i := 429) (by decide +kernel))) rfl
theorem hd_PF_put : y_PF_put.cls = R_PF ∧ y_PF_put.cls ≠ "java/lang/invoke/MethodHandle" ∧ y_PF_put.cls ≠ "java/lang/invoke/VarHandle" ∧ (parseMethodDescriptor y_PF_put.desc).map (fun d => d.parameters.length) = some 2 := by decide +kernel
abbrev cc_PF_wipe : ByteArray := prog_1_method_6_code
def y_PF_wipe : MethodName := ⟨R_PF, "wipe", "()V"⟩
abbrev w_PF_wipe : List Cond := .code y_PF_wipe cc_PF_wipe 1 none :: wG
abbrev r_PF_wipe : Room := { frames := 0, cells := 0, slots := 0, locals := 0 }
set_option maxRecDepth 100000 in
theorem lc_PF_wipe : Cond.code y_PF_wipe cc_PF_wipe 1 none ∈ wG := wG_of (List.mem_append_right _ (List.mem_of_getElem? (i := 434) rfl)) rfl
theorem li_PF_wipe : Cond.instanceMethod y_PF_wipe ∈ wG := wG_of (List.mem_append_right _ (List.mem_of_getElem? (i := 432) (by decide +kernel))) rfl
theorem ls_PF_wipe : Cond.selects R_PF y_PF_wipe y_PF_wipe ∈ wG := wG_of (List.mem_append_right _ (List.mem_of_getElem? (i := 433) (by decide +kernel))) rfl
theorem hd_PF_wipe : y_PF_wipe.cls = R_PF ∧ y_PF_wipe.cls ≠ "java/lang/invoke/MethodHandle" ∧ y_PF_wipe.cls ≠ "java/lang/invoke/VarHandle" ∧ (parseMethodDescriptor y_PF_wipe.desc).map (fun d => d.parameters.length) = some 0 := by decide +kernel
abbrev cc_PF_wire : ByteArray := prog_1_method_7_code
def y_PF_wire : MethodName := ⟨R_PF, "wire", "(I)I"⟩
abbrev w_PF_wire : List Cond := .code y_PF_wire cc_PF_wire 2 (some .int) :: wG
abbrev r_PF_wire : Room := { frames := 1, cells := 0, slots := 0, locals := 21 }
set_option maxRecDepth 100000 in
theorem lc_PF_wire : Cond.code y_PF_wire cc_PF_wire 2 (some .int) ∈ wG := wG_of (List.mem_append_right _ (List.mem_of_getElem? (i := 438) rfl)) rfl
theorem li_PF_wire : Cond.instanceMethod y_PF_wire ∈ wG := wG_of (List.mem_append_right _ (List.mem_of_getElem? (i := 436) (by decide +kernel))) rfl
theorem ls_PF_wire : Cond.selects R_PF y_PF_wire y_PF_wire ∈ wG := wG_of (List.mem_append_right _ (List.mem_of_getElem? (i := 437) (by decide +kernel))) rfl
theorem hd_PF_wire : y_PF_wire.cls = R_PF ∧ y_PF_wire.cls ≠ "java/lang/invoke/MethodHandle" ∧ y_PF_wire.cls ≠ "java/lang/invoke/VarHandle" ∧ (parseMethodDescriptor y_PF_wire.desc).map (fun d => d.parameters.length) = some 1 := by decide +kernel
abbrev cc_PF_spoil : ByteArray := prog_1_method_8_code
def y_PF_spoil : MethodName := ⟨R_PF, "spoil", "(II)Z"⟩
abbrev w_PF_spoil : List Cond := .code y_PF_spoil cc_PF_spoil 3 (some .boolean) :: wG
abbrev r_PF_spoil : Room := { frames := 0, cells := 0, slots := 0, locals := 0 }
set_option maxRecDepth 100000 in
theorem lc_PF_spoil : Cond.code y_PF_spoil cc_PF_spoil 3 (some .boolean) ∈ wG := wG_of (List.mem_append_right _ (List.mem_of_getElem? (i := 442) rfl)) rfl
theorem li_PF_spoil : Cond.instanceMethod y_PF_spoil ∈ wG := wG_of (List.mem_append_right _ (List.mem_of_getElem? (i := 440) (by decide +kernel))) rfl
theorem ls_PF_spoil : Cond.selects R_PF y_PF_spoil y_PF_spoil ∈ wG := wG_of (List.mem_append_right _ (List.mem_of_getElem? (i := 441) (by decide +kernel))) rfl
theorem hd_PF_spoil : y_PF_spoil.cls = R_PF ∧ y_PF_spoil.cls ≠ "java/lang/invoke/MethodHandle" ∧ y_PF_spoil.cls ≠ "java/lang/invoke/VarHandle" ∧ (parseMethodDescriptor y_PF_spoil.desc).map (fun d => d.parameters.length) = some 2 := by decide +kernel
abbrev cc_PF_pack : ByteArray := prog_1_method_9_code
def y_PF_pack : MethodName := ⟨R_PF, "pack", "(Z)I"⟩
abbrev w_PF_pack : List Cond := .code y_PF_pack cc_PF_pack 3 (some .int) :: wG
abbrev r_PF_pack : Room := { frames := 6, cells := 0, slots := 0, locals := 138 }
set_option maxRecDepth 100000 in
theorem lc_PF_pack : Cond.code y_PF_pack cc_PF_pack 3 (some .int) ∈ wG := wG_of (List.mem_append_right _ (List.mem_of_getElem? (i := 446) rfl)) rfl
theorem li_PF_pack : Cond.instanceMethod y_PF_pack ∈ wG := wG_of (List.mem_append_right _ (List.mem_of_getElem? (i := 444) (by decide +kernel))) rfl
theorem ls_PF_pack : Cond.selects R_PF y_PF_pack y_PF_pack ∈ wG := wG_of (List.mem_append_right _ (List.mem_of_getElem? (i := 445) (by decide +kernel))) rfl
theorem hd_PF_pack : y_PF_pack.cls = R_PF ∧ y_PF_pack.cls ≠ "java/lang/invoke/MethodHandle" ∧ y_PF_pack.cls ≠ "java/lang/invoke/VarHandle" ∧ (parseMethodDescriptor y_PF_pack.desc).map (fun d => d.parameters.length) = some 1 := by decide +kernel
abbrev cc_Pk_chooseBlock : ByteArray := prog_6_method_2_code
def y_Pk_chooseBlock : MethodName := ⟨R_Pk, "chooseBlock", "()V"⟩
abbrev w_Pk_chooseBlock : List Cond := .code y_Pk_chooseBlock cc_Pk_chooseBlock 1 none :: wG
abbrev r_Pk_chooseBlock : Room := { frames := 5, cells := 0, slots := 0, locals := 118 }
set_option maxRecDepth 100000 in
theorem lc_Pk_chooseBlock : Cond.code y_Pk_chooseBlock cc_Pk_chooseBlock 1 none ∈ wG := wG_of (List.mem_append_right _ (List.mem_of_getElem? (i := 450) rfl)) rfl
theorem li_Pk_chooseBlock : Cond.instanceMethod y_Pk_chooseBlock ∈ wG := wG_of (List.mem_append_right _ (List.mem_of_getElem? (i := 448) (by decide +kernel))) rfl
theorem ls_Pk_chooseBlock : Cond.selects R_Pk y_Pk_chooseBlock y_Pk_chooseBlock ∈ wG := wG_of (List.mem_append_right _ (List.mem_of_getElem? (i := 449) (by decide +kernel))) rfl
theorem hd_Pk_chooseBlock : y_Pk_chooseBlock.cls = R_Pk ∧ y_Pk_chooseBlock.cls ≠ "java/lang/invoke/MethodHandle" ∧ y_Pk_chooseBlock.cls ≠ "java/lang/invoke/VarHandle" ∧ (parseMethodDescriptor y_Pk_chooseBlock.desc).map (fun d => d.parameters.length) = some 0 := by decide +kernel
abbrev cc_Row_isOneByteOnly : ByteArray := prog_8_method_9_code
def y_Row_isOneByteOnly : MethodName := ⟨R_Row, "isOneByteOnly", "()Z"⟩
abbrev w_Row_isOneByteOnly : List Cond := .code y_Row_isOneByteOnly cc_Row_isOneByteOnly 2 (some .boolean) :: wG
abbrev r_Row_isOneByteOnly : Room := { frames := 0, cells := 0, slots := 0, locals := 0 }
set_option maxRecDepth 100000 in
theorem lc_Row_isOneByteOnly : Cond.code y_Row_isOneByteOnly cc_Row_isOneByteOnly 2 (some .boolean) ∈ wG := wG_of (List.mem_append_right _ (List.mem_of_getElem? (i := 454) rfl)) rfl
theorem li_Row_isOneByteOnly : Cond.instanceMethod y_Row_isOneByteOnly ∈ wG := wG_of (List.mem_append_right _ (List.mem_of_getElem? (i := 452) (by decide +kernel))) rfl
theorem ls_Row_isOneByteOnly : Cond.selects R_Row y_Row_isOneByteOnly y_Row_isOneByteOnly ∈ wG := wG_of (List.mem_append_right _ (List.mem_of_getElem? (i := 453) (by decide +kernel))) rfl
theorem hd_Row_isOneByteOnly : y_Row_isOneByteOnly.cls = R_Row ∧ y_Row_isOneByteOnly.cls ≠ "java/lang/invoke/MethodHandle" ∧ y_Row_isOneByteOnly.cls ≠ "java/lang/invoke/VarHandle" ∧ (parseMethodDescriptor y_Row_isOneByteOnly.desc).map (fun d => d.parameters.length) = some 0 := by decide +kernel
abbrev cc_Mf_divide : ByteArray := prog_5_method_2_code
def y_Mf_divide : MethodName := ⟨R_Mf, "divide", "()V"⟩
abbrev w_Mf_divide : List Cond := .code y_Mf_divide cc_Mf_divide 3 none :: wG
abbrev r_Mf_divide : Room := { frames := 3, cells := 0, slots := 0, locals := 69 }
set_option maxRecDepth 100000 in
theorem lc_Mf_divide : Cond.code y_Mf_divide cc_Mf_divide 3 none ∈ wG := wG_of (List.mem_append_right _ (List.mem_of_getElem? (i := 459) rfl)) rfl
theorem li_Mf_divide : Cond.instanceMethod y_Mf_divide ∈ wG := wG_of (List.mem_append_right _ (List.mem_of_getElem? (i := 457) (by decide +kernel))) rfl
theorem ls_Mf_divide : Cond.selects R_Mf y_Mf_divide y_Mf_divide ∈ wG := wG_of (List.mem_append_right _ (List.mem_of_getElem? (i := 458) (by decide +kernel))) rfl
theorem hd_Mf_divide : y_Mf_divide.cls = R_Mf ∧ y_Mf_divide.cls ≠ "java/lang/invoke/MethodHandle" ∧ y_Mf_divide.cls ≠ "java/lang/invoke/VarHandle" ∧ (parseMethodDescriptor y_Mf_divide.desc).map (fun d => d.parameters.length) = some 0 := by decide +kernel
abbrev cc_Rp_begin : ByteArray := prog_7_method_2_code
def y_Rp_begin : MethodName := ⟨R_Rp, "begin", "()V"⟩
abbrev w_Rp_begin : List Cond := .code y_Rp_begin cc_Rp_begin 1 none :: wG
abbrev r_Rp_begin : Room := { frames := 0, cells := 0, slots := 0, locals := 0 }
set_option maxRecDepth 100000 in
theorem lc_Rp_begin : Cond.code y_Rp_begin cc_Rp_begin 1 none ∈ wG := wG_of (List.mem_append_right _ (List.mem_of_getElem? (i := 463) rfl)) rfl
theorem li_Rp_begin : Cond.instanceMethod y_Rp_begin ∈ wG := wG_of (List.mem_append_right _ (List.mem_of_getElem? (i := 461) (by decide +kernel))) rfl
theorem ls_Rp_begin : Cond.selects R_Rp y_Rp_begin y_Rp_begin ∈ wG := wG_of (List.mem_append_right _ (List.mem_of_getElem? (i := 462) (by decide +kernel))) rfl
theorem hd_Rp_begin : y_Rp_begin.cls = R_Rp ∧ y_Rp_begin.cls ≠ "java/lang/invoke/MethodHandle" ∧ y_Rp_begin.cls ≠ "java/lang/invoke/VarHandle" ∧ (parseMethodDescriptor y_Rp_begin.desc).map (fun d => d.parameters.length) = some 0 := by decide +kernel
abbrev cc_Mf_findLongest : ByteArray := prog_5_method_3_code
def y_Mf_findLongest : MethodName := ⟨R_Mf, "findLongest", "(I)V"⟩
abbrev w_Mf_findLongest : List Cond := .code y_Mf_findLongest cc_Mf_findLongest 4 none :: wG
abbrev r_Mf_findLongest : Room := { frames := 0, cells := 0, slots := 0, locals := 0 }
set_option maxRecDepth 100000 in
theorem lc_Mf_findLongest : Cond.code y_Mf_findLongest cc_Mf_findLongest 4 none ∈ wG := wG_of (List.mem_append_right _ (List.mem_of_getElem? (i := 467) rfl)) rfl
theorem li_Mf_findLongest : Cond.instanceMethod y_Mf_findLongest ∈ wG := wG_of (List.mem_append_right _ (List.mem_of_getElem? (i := 466) (by decide +kernel))) rfl
theorem ls_Mf_findLongest : Cond.selects R_Mf y_Mf_findLongest y_Mf_findLongest ∈ wG := wG_of (List.mem_append_left _ (List.mem_of_getElem? (i := 0) (by decide +kernel))) rfl
theorem hd_Mf_findLongest : y_Mf_findLongest.cls = R_Mf ∧ y_Mf_findLongest.cls ≠ "java/lang/invoke/MethodHandle" ∧ y_Mf_findLongest.cls ≠ "java/lang/invoke/VarHandle" ∧ (parseMethodDescriptor y_Mf_findLongest.desc).map (fun d => d.parameters.length) = some 1 := by decide +kernel
abbrev cc_Mf_addSequence : ByteArray := prog_5_method_4_code
def y_Mf_addSequence : MethodName := ⟨R_Mf, "addSequence", "(II)V"⟩
abbrev w_Mf_addSequence : List Cond := .code y_Mf_addSequence cc_Mf_addSequence 4 none :: wG
abbrev r_Mf_addSequence : Room := { frames := 2, cells := 0, slots := 0, locals := 46 }
set_option maxRecDepth 100000 in
theorem lc_Mf_addSequence : Cond.code y_Mf_addSequence cc_Mf_addSequence 4 none ∈ wG := wG_of (List.mem_append_right _ (List.mem_of_getElem? (i := 471) rfl)) rfl
theorem li_Mf_addSequence : Cond.instanceMethod y_Mf_addSequence ∈ wG := wG_of (List.mem_append_right _ (List.mem_of_getElem? (i := 470) (by decide +kernel))) rfl
theorem ls_Mf_addSequence : Cond.selects R_Mf y_Mf_addSequence y_Mf_addSequence ∈ wG := wG_of (List.mem_append_left _ (List.mem_of_getElem? (i := 1) (by decide +kernel))) rfl
theorem hd_Mf_addSequence : y_Mf_addSequence.cls = R_Mf ∧ y_Mf_addSequence.cls ≠ "java/lang/invoke/MethodHandle" ∧ y_Mf_addSequence.cls ≠ "java/lang/invoke/VarHandle" ∧ (parseMethodDescriptor y_Mf_addSequence.desc).map (fun d => d.parameters.length) = some 2 := by decide +kernel
abbrev cc_Rp_leastValueFor : ByteArray := prog_7_method_5_code
def y_Rp_leastValueFor : MethodName := ⟨R_Rp, "leastValueFor", "(II)I"⟩
abbrev w_Rp_leastValueFor : List Cond := .code y_Rp_leastValueFor cc_Rp_leastValueFor 4 (some .int) :: wG
abbrev r_Rp_leastValueFor : Room := { frames := 1, cells := 0, slots := 0, locals := 22 }
set_option maxRecDepth 100000 in
theorem lc_Rp_leastValueFor : Cond.code y_Rp_leastValueFor cc_Rp_leastValueFor 4 (some .int) ∈ wG := wG_of (List.mem_append_right _ (List.mem_of_getElem? (i := 475) rfl)) rfl
theorem li_Rp_leastValueFor : Cond.instanceMethod y_Rp_leastValueFor ∈ wG := wG_of (List.mem_append_right _ (List.mem_of_getElem? (i := 473) (by decide +kernel))) rfl
theorem ls_Rp_leastValueFor : Cond.selects R_Rp y_Rp_leastValueFor y_Rp_leastValueFor ∈ wG := wG_of (List.mem_append_right _ (List.mem_of_getElem? (i := 474) (by decide +kernel))) rfl
theorem hd_Rp_leastValueFor : y_Rp_leastValueFor.cls = R_Rp ∧ y_Rp_leastValueFor.cls ≠ "java/lang/invoke/MethodHandle" ∧ y_Rp_leastValueFor.cls ≠ "java/lang/invoke/VarHandle" ∧ (parseMethodDescriptor y_Rp_leastValueFor.desc).map (fun d => d.parameters.length) = some 2 := by decide +kernel
abbrev cc_Rp_wayFor : ByteArray := prog_7_method_3_code
def y_Rp_wayFor : MethodName := ⟨R_Rp, "wayFor", "(II)I"⟩
abbrev w_Rp_wayFor : List Cond := .code y_Rp_wayFor cc_Rp_wayFor 3 (some .int) :: wG
abbrev r_Rp_wayFor : Room := { frames := 0, cells := 0, slots := 0, locals := 0 }
set_option maxRecDepth 100000 in
theorem lc_Rp_wayFor : Cond.code y_Rp_wayFor cc_Rp_wayFor 3 (some .int) ∈ wG := wG_of (List.mem_append_right _ (List.mem_of_getElem? (i := 479) rfl)) rfl
theorem li_Rp_wayFor : Cond.instanceMethod y_Rp_wayFor ∈ wG := wG_of (List.mem_append_right _ (List.mem_of_getElem? (i := 477) (by decide +kernel))) rfl
theorem ls_Rp_wayFor : Cond.selects R_Rp y_Rp_wayFor y_Rp_wayFor ∈ wG := wG_of (List.mem_append_right _ (List.mem_of_getElem? (i := 478) (by decide +kernel))) rfl
theorem hd_Rp_wayFor : y_Rp_wayFor.cls = R_Rp ∧ y_Rp_wayFor.cls ≠ "java/lang/invoke/MethodHandle" ∧ y_Rp_wayFor.cls ≠ "java/lang/invoke/VarHandle" ∧ (parseMethodDescriptor y_Rp_wayFor.desc).map (fun d => d.parameters.length) = some 2 := by decide +kernel
abbrev cc_Rp_keepWay : ByteArray := prog_7_method_4_code
def y_Rp_keepWay : MethodName := ⟨R_Rp, "keepWay", "(II)V"⟩
abbrev w_Rp_keepWay : List Cond := .code y_Rp_keepWay cc_Rp_keepWay 5 none :: wG
abbrev r_Rp_keepWay : Room := { frames := 1, cells := 0, slots := 0, locals := 22 }
set_option maxRecDepth 100000 in
theorem lc_Rp_keepWay : Cond.code y_Rp_keepWay cc_Rp_keepWay 5 none ∈ wG := wG_of (List.mem_append_right _ (List.mem_of_getElem? (i := 483) rfl)) rfl
theorem li_Rp_keepWay : Cond.instanceMethod y_Rp_keepWay ∈ wG := wG_of (List.mem_append_right _ (List.mem_of_getElem? (i := 481) (by decide +kernel))) rfl
theorem ls_Rp_keepWay : Cond.selects R_Rp y_Rp_keepWay y_Rp_keepWay ∈ wG := wG_of (List.mem_append_right _ (List.mem_of_getElem? (i := 482) (by decide +kernel))) rfl
theorem hd_Rp_keepWay : y_Rp_keepWay.cls = R_Rp ∧ y_Rp_keepWay.cls ≠ "java/lang/invoke/MethodHandle" ∧ y_Rp_keepWay.cls ≠ "java/lang/invoke/VarHandle" ∧ (parseMethodDescriptor y_Rp_keepWay.desc).map (fun d => d.parameters.length) = some 2 := by decide +kernel
abbrev cc_Pk_addLiterals : ByteArray := prog_6_method_3_code
def y_Pk_addLiterals : MethodName := ⟨R_Pk, "addLiterals", "()V"⟩
abbrev w_Pk_addLiterals : List Cond := .code y_Pk_addLiterals cc_Pk_addLiterals 2 none :: wG
abbrev r_Pk_addLiterals : Room := { frames := 4, cells := 0, slots := 0, locals := 97 }
set_option maxRecDepth 100000 in
theorem lc_Pk_addLiterals : Cond.code y_Pk_addLiterals cc_Pk_addLiterals 2 none ∈ wG := wG_of (List.mem_append_right _ (List.mem_of_getElem? (i := 488) rfl)) rfl
theorem li_Pk_addLiterals : Cond.instanceMethod y_Pk_addLiterals ∈ wG := wG_of (List.mem_append_right _ (List.mem_of_getElem? (i := 487) (by decide +kernel))) rfl
theorem ls_Pk_addLiterals : Cond.selects R_Pk y_Pk_addLiterals y_Pk_addLiterals ∈ wG := wG_of (List.mem_append_left _ (List.mem_of_getElem? (i := 2) (by decide +kernel))) rfl
theorem hd_Pk_addLiterals : y_Pk_addLiterals.cls = R_Pk ∧ y_Pk_addLiterals.cls ≠ "java/lang/invoke/MethodHandle" ∧ y_Pk_addLiterals.cls ≠ "java/lang/invoke/VarHandle" ∧ (parseMethodDescriptor y_Pk_addLiterals.desc).map (fun d => d.parameters.length) = some 0 := by decide +kernel
abbrev cc_Pk_addedWithTree : ByteArray := prog_6_method_4_code
def y_Pk_addedWithTree : MethodName := ⟨R_Pk, "addedWithTree", "(LPackFrames$Row;)Z"⟩
abbrev w_Pk_addedWithTree : List Cond := .code y_Pk_addedWithTree cc_Pk_addedWithTree 6 (some .boolean) :: wG
abbrev r_Pk_addedWithTree : Room := { frames := 3, cells := 0, slots := 0, locals := 72 }
set_option maxRecDepth 100000 in
theorem lc_Pk_addedWithTree : Cond.code y_Pk_addedWithTree cc_Pk_addedWithTree 6 (some .boolean) ∈ wG := wG_of (List.mem_append_right _ (List.mem_of_getElem? (i := 492) rfl)) rfl
theorem li_Pk_addedWithTree : Cond.instanceMethod y_Pk_addedWithTree ∈ wG := wG_of (List.mem_append_right _ (List.mem_of_getElem? (i := 491) (by decide +kernel))) rfl
theorem ls_Pk_addedWithTree : Cond.selects R_Pk y_Pk_addedWithTree y_Pk_addedWithTree ∈ wG := wG_of (List.mem_append_left _ (List.mem_of_getElem? (i := 3) (by decide +kernel))) rfl
theorem hd_Pk_addedWithTree : y_Pk_addedWithTree.cls = R_Pk ∧ y_Pk_addedWithTree.cls ≠ "java/lang/invoke/MethodHandle" ∧ y_Pk_addedWithTree.cls ≠ "java/lang/invoke/VarHandle" ∧ (parseMethodDescriptor y_Pk_addedWithTree.desc).map (fun d => d.parameters.length) = some 1 := by decide +kernel
abbrev cc_Mth_min : ByteArray := prog_16_method_69_code
def y_Mth_min : MethodName := ⟨R_Mth, "min", "(II)I"⟩
abbrev w_Mth_min : List Cond := .code y_Mth_min cc_Mth_min 2 (some .int) :: wG
abbrev r_Mth_min : Room := { frames := 0, cells := 0, slots := 0, locals := 0 }
set_option maxRecDepth 100000 in
theorem lc_Mth_min : Cond.code y_Mth_min cc_Mth_min 2 (some .int) ∈ wG := wG_of (List.mem_append_right _ (List.mem_of_getElem? (i := 495) rfl)) rfl
theorem lst_Mth_min : Cond.static y_Mth_min ∈ wG := wG_of (List.mem_append_right _ (List.mem_of_getElem? (i := 494) (by decide +kernel))) rfl
theorem hd_Mth_min : y_Mth_min.cls = R_Mth ∧ y_Mth_min.cls ≠ "java/lang/invoke/MethodHandle" ∧ y_Mth_min.cls ≠ "java/lang/invoke/VarHandle" ∧ (parseMethodDescriptor y_Mth_min.desc).map (fun d => d.parameters.length) = some 2 := by decide +kernel
abbrev cc_Mth_max : ByteArray := prog_16_method_65_code
def y_Mth_max : MethodName := ⟨R_Mth, "max", "(II)I"⟩
abbrev w_Mth_max : List Cond := .code y_Mth_max cc_Mth_max 2 (some .int) :: wG
abbrev r_Mth_max : Room := { frames := 0, cells := 0, slots := 0, locals := 0 }
set_option maxRecDepth 100000 in
theorem lc_Mth_max : Cond.code y_Mth_max cc_Mth_max 2 (some .int) ∈ wG := wG_of (List.mem_append_right _ (List.mem_of_getElem? (i := 498) rfl)) rfl
theorem lst_Mth_max : Cond.static y_Mth_max ∈ wG := wG_of (List.mem_append_right _ (List.mem_of_getElem? (i := 497) (by decide +kernel))) rfl
theorem hd_Mth_max : y_Mth_max.cls = R_Mth ∧ y_Mth_max.cls ≠ "java/lang/invoke/MethodHandle" ∧ y_Mth_max.cls ≠ "java/lang/invoke/VarHandle" ∧ (parseMethodDescriptor y_Mth_max.desc).map (fun d => d.parameters.length) = some 2 := by decide +kernel
abbrev cc_Pk_growTree : ByteArray := prog_6_method_5_code
def y_Pk_growTree : MethodName := ⟨R_Pk, "growTree", "(LPackFrames$Row;II)Z"⟩
abbrev w_Pk_growTree : List Cond := .code y_Pk_growTree cc_Pk_growTree 6 (some .boolean) :: wG
abbrev r_Pk_growTree : Room := { frames := 2, cells := 0, slots := 0, locals := 47 }
set_option maxRecDepth 100000 in
theorem lc_Pk_growTree : Cond.code y_Pk_growTree cc_Pk_growTree 6 (some .boolean) ∈ wG := wG_of (List.mem_append_right _ (List.mem_of_getElem? (i := 502) rfl)) rfl
theorem li_Pk_growTree : Cond.instanceMethod y_Pk_growTree ∈ wG := wG_of (List.mem_append_right _ (List.mem_of_getElem? (i := 501) (by decide +kernel))) rfl
theorem ls_Pk_growTree : Cond.selects R_Pk y_Pk_growTree y_Pk_growTree ∈ wG := wG_of (List.mem_append_left _ (List.mem_of_getElem? (i := 4) (by decide +kernel))) rfl
theorem hd_Pk_growTree : y_Pk_growTree.cls = R_Pk ∧ y_Pk_growTree.cls ≠ "java/lang/invoke/MethodHandle" ∧ y_Pk_growTree.cls ≠ "java/lang/invoke/VarHandle" ∧ (parseMethodDescriptor y_Pk_growTree.desc).map (fun d => d.parameters.length) = some 3 := by decide +kernel
abbrev cc_Jo_countBytes : ByteArray := prog_4_method_2_code
def y_Jo_countBytes : MethodName := ⟨R_Jo, "countBytes", "(LPackFrames$Row;I)V"⟩
abbrev w_Jo_countBytes : List Cond := .code y_Jo_countBytes cc_Jo_countBytes 5 none :: wG
abbrev r_Jo_countBytes : Room := { frames := 1, cells := 0, slots := 0, locals := 23 }
set_option maxRecDepth 100000 in
theorem lc_Jo_countBytes : Cond.code y_Jo_countBytes cc_Jo_countBytes 5 none ∈ wG := wG_of (List.mem_append_right _ (List.mem_of_getElem? (i := 506) rfl)) rfl
theorem li_Jo_countBytes : Cond.instanceMethod y_Jo_countBytes ∈ wG := wG_of (List.mem_append_right _ (List.mem_of_getElem? (i := 504) (by decide +kernel))) rfl
theorem ls_Jo_countBytes : Cond.selects R_Jo y_Jo_countBytes y_Jo_countBytes ∈ wG := wG_of (List.mem_append_right _ (List.mem_of_getElem? (i := 505) (by decide +kernel))) rfl
theorem hd_Jo_countBytes : y_Jo_countBytes.cls = R_Jo ∧ y_Jo_countBytes.cls ≠ "java/lang/invoke/MethodHandle" ∧ y_Jo_countBytes.cls ≠ "java/lang/invoke/VarHandle" ∧ (parseMethodDescriptor y_Jo_countBytes.desc).map (fun d => d.parameters.length) = some 2 := by decide +kernel
abbrev cc_Arr_fill : ByteArray := prog_17_method_103_code
def y_Arr_fill : MethodName := ⟨R_Arr, "fill", "([II)V"⟩
abbrev w_Arr_fill : List Cond := .code y_Arr_fill cc_Arr_fill 4 none :: wG
abbrev r_Arr_fill : Room := { frames := 0, cells := 0, slots := 0, locals := 0 }
set_option maxRecDepth 100000 in
theorem lc_Arr_fill : Cond.code y_Arr_fill cc_Arr_fill 4 none ∈ wG := wG_of (List.mem_append_right _ (List.mem_of_getElem? (i := 509) rfl)) rfl
theorem lst_Arr_fill : Cond.static y_Arr_fill ∈ wG := wG_of (List.mem_append_right _ (List.mem_of_getElem? (i := 508) (by decide +kernel))) rfl
theorem hd_Arr_fill : y_Arr_fill.cls = R_Arr ∧ y_Arr_fill.cls ≠ "java/lang/invoke/MethodHandle" ∧ y_Arr_fill.cls ≠ "java/lang/invoke/VarHandle" ∧ (parseMethodDescriptor y_Arr_fill.desc).map (fun d => d.parameters.length) = some 2 := by decide +kernel
abbrev cc_Jo_findLengths : ByteArray := prog_4_method_3_code
def y_Jo_findLengths : MethodName := ⟨R_Jo, "findLengths", "()V"⟩
abbrev w_Jo_findLengths : List Cond := .code y_Jo_findLengths cc_Jo_findLengths 4 none :: wG
abbrev r_Jo_findLengths : Room := { frames := 1, cells := 0, slots := 0, locals := 23 }
set_option maxRecDepth 100000 in
theorem lc_Jo_findLengths : Cond.code y_Jo_findLengths cc_Jo_findLengths 4 none ∈ wG := wG_of (List.mem_append_right _ (List.mem_of_getElem? (i := 513) rfl)) rfl
theorem li_Jo_findLengths : Cond.instanceMethod y_Jo_findLengths ∈ wG := wG_of (List.mem_append_right _ (List.mem_of_getElem? (i := 511) (by decide +kernel))) rfl
theorem ls_Jo_findLengths : Cond.selects R_Jo y_Jo_findLengths y_Jo_findLengths ∈ wG := wG_of (List.mem_append_right _ (List.mem_of_getElem? (i := 512) (by decide +kernel))) rfl
theorem hd_Jo_findLengths : y_Jo_findLengths.cls = R_Jo ∧ y_Jo_findLengths.cls ≠ "java/lang/invoke/MethodHandle" ∧ y_Jo_findLengths.cls ≠ "java/lang/invoke/VarHandle" ∧ (parseMethodDescriptor y_Jo_findLengths.desc).map (fun d => d.parameters.length) = some 0 := by decide +kernel
abbrev cc_Jo_countThere : ByteArray := prog_4_method_4_code
def y_Jo_countThere : MethodName := ⟨R_Jo, "countThere", "()I"⟩
abbrev w_Jo_countThere : List Cond := .code y_Jo_countThere cc_Jo_countThere 3 (some .int) :: wG
abbrev r_Jo_countThere : Room := { frames := 0, cells := 0, slots := 0, locals := 0 }
set_option maxRecDepth 100000 in
theorem lc_Jo_countThere : Cond.code y_Jo_countThere cc_Jo_countThere 3 (some .int) ∈ wG := wG_of (List.mem_append_right _ (List.mem_of_getElem? (i := 517) rfl)) rfl
theorem li_Jo_countThere : Cond.instanceMethod y_Jo_countThere ∈ wG := wG_of (List.mem_append_right _ (List.mem_of_getElem? (i := 516) (by decide +kernel))) rfl
theorem ls_Jo_countThere : Cond.selects R_Jo y_Jo_countThere y_Jo_countThere ∈ wG := wG_of (List.mem_append_left _ (List.mem_of_getElem? (i := 5) (by decide +kernel))) rfl
theorem hd_Jo_countThere : y_Jo_countThere.cls = R_Jo ∧ y_Jo_countThere.cls ≠ "java/lang/invoke/MethodHandle" ∧ y_Jo_countThere.cls ≠ "java/lang/invoke/VarHandle" ∧ (parseMethodDescriptor y_Jo_countThere.desc).map (fun d => d.parameters.length) = some 0 := by decide +kernel
abbrev cc_Jo_giveAway : ByteArray := prog_4_method_5_code
def y_Jo_giveAway : MethodName := ⟨R_Jo, "giveAway", "(I)I"⟩
abbrev w_Jo_giveAway : List Cond := .code y_Jo_giveAway cc_Jo_giveAway 4 (some .int) :: wG
abbrev r_Jo_giveAway : Room := { frames := 0, cells := 0, slots := 0, locals := 0 }
set_option maxRecDepth 100000 in
theorem lc_Jo_giveAway : Cond.code y_Jo_giveAway cc_Jo_giveAway 4 (some .int) ∈ wG := wG_of (List.mem_append_right _ (List.mem_of_getElem? (i := 521) rfl)) rfl
theorem li_Jo_giveAway : Cond.instanceMethod y_Jo_giveAway ∈ wG := wG_of (List.mem_append_right _ (List.mem_of_getElem? (i := 520) (by decide +kernel))) rfl
theorem ls_Jo_giveAway : Cond.selects R_Jo y_Jo_giveAway y_Jo_giveAway ∈ wG := wG_of (List.mem_append_left _ (List.mem_of_getElem? (i := 6) (by decide +kernel))) rfl
theorem hd_Jo_giveAway : y_Jo_giveAway.cls = R_Jo ∧ y_Jo_giveAway.cls ≠ "java/lang/invoke/MethodHandle" ∧ y_Jo_giveAway.cls ≠ "java/lang/invoke/VarHandle" ∧ (parseMethodDescriptor y_Jo_giveAway.desc).map (fun d => d.parameters.length) = some 1 := by decide +kernel
abbrev cc_Tr_complete : ByteArray := prog_11_method_2_code
def y_Tr_complete : MethodName := ⟨R_Tr, "complete", "(I)Z"⟩
abbrev w_Tr_complete : List Cond := .code y_Tr_complete cc_Tr_complete 4 (some .boolean) :: wG
abbrev r_Tr_complete : Room := { frames := 1, cells := 0, slots := 0, locals := 21 }
set_option maxRecDepth 100000 in
theorem lc_Tr_complete : Cond.code y_Tr_complete cc_Tr_complete 4 (some .boolean) ∈ wG := wG_of (List.mem_append_right _ (List.mem_of_getElem? (i := 526) rfl)) rfl
theorem li_Tr_complete : Cond.instanceMethod y_Tr_complete ∈ wG := wG_of (List.mem_append_right _ (List.mem_of_getElem? (i := 524) (by decide +kernel))) rfl
theorem ls_Tr_complete : Cond.selects R_Tr y_Tr_complete y_Tr_complete ∈ wG := wG_of (List.mem_append_right _ (List.mem_of_getElem? (i := 525) (by decide +kernel))) rfl
theorem hd_Tr_complete : y_Tr_complete.cls = R_Tr ∧ y_Tr_complete.cls ≠ "java/lang/invoke/MethodHandle" ∧ y_Tr_complete.cls ≠ "java/lang/invoke/VarHandle" ∧ (parseMethodDescriptor y_Tr_complete.desc).map (fun d => d.parameters.length) = some 1 := by decide +kernel
abbrev cc_Tr_cellsOf : ByteArray := prog_11_method_3_code
def y_Tr_cellsOf : MethodName := ⟨R_Tr, "cellsOf", "(I)I"⟩
abbrev w_Tr_cellsOf : List Cond := .code y_Tr_cellsOf cc_Tr_cellsOf 2 (some .int) :: wG
abbrev r_Tr_cellsOf : Room := { frames := 0, cells := 0, slots := 0, locals := 0 }
set_option maxRecDepth 100000 in
theorem lc_Tr_cellsOf : Cond.code y_Tr_cellsOf cc_Tr_cellsOf 2 (some .int) ∈ wG := wG_of (List.mem_append_right _ (List.mem_of_getElem? (i := 530) rfl)) rfl
theorem li_Tr_cellsOf : Cond.instanceMethod y_Tr_cellsOf ∈ wG := wG_of (List.mem_append_right _ (List.mem_of_getElem? (i := 529) (by decide +kernel))) rfl
theorem ls_Tr_cellsOf : Cond.selects R_Tr y_Tr_cellsOf y_Tr_cellsOf ∈ wG := wG_of (List.mem_append_left _ (List.mem_of_getElem? (i := 7) (by decide +kernel))) rfl
theorem hd_Tr_cellsOf : y_Tr_cellsOf.cls = R_Tr ∧ y_Tr_cellsOf.cls ≠ "java/lang/invoke/MethodHandle" ∧ y_Tr_cellsOf.cls ≠ "java/lang/invoke/VarHandle" ∧ (parseMethodDescriptor y_Tr_cellsOf.desc).map (fun d => d.parameters.length) = some 1 := by decide +kernel
abbrev cc_Int_numberOfLeadingZeros : ByteArray := prog_15_method_47_code
def y_Int_numberOfLeadingZeros : MethodName := ⟨R_Int, "numberOfLeadingZeros", "(I)I"⟩
abbrev w_Int_numberOfLeadingZeros : List Cond := .code y_Int_numberOfLeadingZeros cc_Int_numberOfLeadingZeros 2 (some .int) :: wG
abbrev r_Int_numberOfLeadingZeros : Room := { frames := 0, cells := 0, slots := 0, locals := 0 }
set_option maxRecDepth 100000 in
theorem lc_Int_numberOfLeadingZeros : Cond.code y_Int_numberOfLeadingZeros cc_Int_numberOfLeadingZeros 2 (some .int) ∈ wG := wG_of (List.mem_append_right _ (List.mem_of_getElem? (i := 533) rfl)) rfl
theorem lst_Int_numberOfLeadingZeros : Cond.static y_Int_numberOfLeadingZeros ∈ wG := wG_of (List.mem_append_right _ (List.mem_of_getElem? (i := 532) (by decide +kernel))) rfl
theorem hd_Int_numberOfLeadingZeros : y_Int_numberOfLeadingZeros.cls = R_Int ∧ y_Int_numberOfLeadingZeros.cls ≠ "java/lang/invoke/MethodHandle" ∧ y_Int_numberOfLeadingZeros.cls ≠ "java/lang/invoke/VarHandle" ∧ (parseMethodDescriptor y_Int_numberOfLeadingZeros.desc).map (fun d => d.parameters.length) = some 1 := by decide +kernel
abbrev cc_Int_bitCount : ByteArray := prog_15_method_49_code
def y_Int_bitCount : MethodName := ⟨R_Int, "bitCount", "(I)I"⟩
abbrev w_Int_bitCount : List Cond := .code y_Int_bitCount cc_Int_bitCount 1 (some .int) :: wG
abbrev r_Int_bitCount : Room := { frames := 0, cells := 0, slots := 0, locals := 0 }
set_option maxRecDepth 100000 in
theorem lc_Int_bitCount : Cond.code y_Int_bitCount cc_Int_bitCount 1 (some .int) ∈ wG := wG_of (List.mem_append_right _ (List.mem_of_getElem? (i := 537) rfl)) rfl
theorem lst_Int_bitCount : Cond.static y_Int_bitCount ∈ wG := wG_of (List.mem_append_right _ (List.mem_of_getElem? (i := 536) (by decide +kernel))) rfl
theorem hd_Int_bitCount : y_Int_bitCount.cls = R_Int ∧ y_Int_bitCount.cls ≠ "java/lang/invoke/MethodHandle" ∧ y_Int_bitCount.cls ≠ "java/lang/invoke/VarHandle" ∧ (parseMethodDescriptor y_Int_bitCount.desc).map (fun d => d.parameters.length) = some 1 := by decide +kernel
abbrev cc_Tr_dealCells : ByteArray := prog_11_method_4_code
def y_Tr_dealCells : MethodName := ⟨R_Tr, "dealCells", "(I)V"⟩
abbrev w_Tr_dealCells : List Cond := .code y_Tr_dealCells cc_Tr_dealCells 6 none :: wG
abbrev r_Tr_dealCells : Room := { frames := 1, cells := 0, slots := 0, locals := 21 }
set_option maxRecDepth 100000 in
theorem lc_Tr_dealCells : Cond.code y_Tr_dealCells cc_Tr_dealCells 6 none ∈ wG := wG_of (List.mem_append_right _ (List.mem_of_getElem? (i := 544) rfl)) rfl
theorem li_Tr_dealCells : Cond.instanceMethod y_Tr_dealCells ∈ wG := wG_of (List.mem_append_right _ (List.mem_of_getElem? (i := 542) (by decide +kernel))) rfl
theorem ls_Tr_dealCells : Cond.selects R_Tr y_Tr_dealCells y_Tr_dealCells ∈ wG := wG_of (List.mem_append_right _ (List.mem_of_getElem? (i := 543) (by decide +kernel))) rfl
theorem hd_Tr_dealCells : y_Tr_dealCells.cls = R_Tr ∧ y_Tr_dealCells.cls ≠ "java/lang/invoke/MethodHandle" ∧ y_Tr_dealCells.cls ≠ "java/lang/invoke/VarHandle" ∧ (parseMethodDescriptor y_Tr_dealCells.desc).map (fun d => d.parameters.length) = some 1 := by decide +kernel
abbrev cc_Tr_addSymbol : ByteArray := prog_11_method_6_code
def y_Tr_addSymbol : MethodName := ⟨R_Tr, "addSymbol", "(ILPackFrames$BitRow;)V"⟩
abbrev w_Tr_addSymbol : List Cond := .code y_Tr_addSymbol cc_Tr_addSymbol 3 none :: wG
abbrev r_Tr_addSymbol : Room := { frames := 1, cells := 0, slots := 0, locals := 23 }
set_option maxRecDepth 100000 in
theorem lc_Tr_addSymbol : Cond.code y_Tr_addSymbol cc_Tr_addSymbol 3 none ∈ wG := wG_of (List.mem_append_right _ (List.mem_of_getElem? (i := 548) rfl)) rfl
theorem li_Tr_addSymbol : Cond.instanceMethod y_Tr_addSymbol ∈ wG := wG_of (List.mem_append_right _ (List.mem_of_getElem? (i := 546) (by decide +kernel))) rfl
theorem ls_Tr_addSymbol : Cond.selects R_Tr y_Tr_addSymbol y_Tr_addSymbol ∈ wG := wG_of (List.mem_append_right _ (List.mem_of_getElem? (i := 547) (by decide +kernel))) rfl
theorem hd_Tr_addSymbol : y_Tr_addSymbol.cls = R_Tr ∧ y_Tr_addSymbol.cls ≠ "java/lang/invoke/MethodHandle" ∧ y_Tr_addSymbol.cls ≠ "java/lang/invoke/VarHandle" ∧ (parseMethodDescriptor y_Tr_addSymbol.desc).map (fun d => d.parameters.length) = some 2 := by decide +kernel
abbrev cc_Tr_bitsOf : ByteArray := prog_11_method_5_code
def y_Tr_bitsOf : MethodName := ⟨R_Tr, "bitsOf", "(I)I"⟩
abbrev w_Tr_bitsOf : List Cond := .code y_Tr_bitsOf cc_Tr_bitsOf 2 (some .int) :: wG
abbrev r_Tr_bitsOf : Room := { frames := 0, cells := 0, slots := 0, locals := 0 }
set_option maxRecDepth 100000 in
theorem lc_Tr_bitsOf : Cond.code y_Tr_bitsOf cc_Tr_bitsOf 2 (some .int) ∈ wG := wG_of (List.mem_append_right _ (List.mem_of_getElem? (i := 552) rfl)) rfl
theorem li_Tr_bitsOf : Cond.instanceMethod y_Tr_bitsOf ∈ wG := wG_of (List.mem_append_right _ (List.mem_of_getElem? (i := 550) (by decide +kernel))) rfl
theorem ls_Tr_bitsOf : Cond.selects R_Tr y_Tr_bitsOf y_Tr_bitsOf ∈ wG := wG_of (List.mem_append_right _ (List.mem_of_getElem? (i := 551) (by decide +kernel))) rfl
theorem hd_Tr_bitsOf : y_Tr_bitsOf.cls = R_Tr ∧ y_Tr_bitsOf.cls ≠ "java/lang/invoke/MethodHandle" ∧ y_Tr_bitsOf.cls ≠ "java/lang/invoke/VarHandle" ∧ (parseMethodDescriptor y_Tr_bitsOf.desc).map (fun d => d.parameters.length) = some 1 := by decide +kernel
abbrev cc_Br_add : ByteArray := prog_2_method_2_code
def y_Br_add : MethodName := ⟨R_Br, "add", "(II)V"⟩
abbrev w_Br_add : List Cond := .code y_Br_add cc_Br_add 4 none :: wG
abbrev r_Br_add : Room := { frames := 0, cells := 0, slots := 0, locals := 0 }
set_option maxRecDepth 100000 in
theorem lc_Br_add : Cond.code y_Br_add cc_Br_add 4 none ∈ wG := wG_of (List.mem_append_right _ (List.mem_of_getElem? (i := 556) rfl)) rfl
theorem li_Br_add : Cond.instanceMethod y_Br_add ∈ wG := wG_of (List.mem_append_right _ (List.mem_of_getElem? (i := 554) (by decide +kernel))) rfl
theorem ls_Br_add : Cond.selects R_Br y_Br_add y_Br_add ∈ wG := wG_of (List.mem_append_right _ (List.mem_of_getElem? (i := 555) (by decide +kernel))) rfl
theorem hd_Br_add : y_Br_add.cls = R_Br ∧ y_Br_add.cls ≠ "java/lang/invoke/MethodHandle" ∧ y_Br_add.cls ≠ "java/lang/invoke/VarHandle" ∧ (parseMethodDescriptor y_Br_add.desc).map (fun d => d.parameters.length) = some 2 := by decide +kernel
abbrev cc_Br_bytesNeeded : ByteArray := prog_2_method_3_code
def y_Br_bytesNeeded : MethodName := ⟨R_Br, "bytesNeeded", "()I"⟩
abbrev w_Br_bytesNeeded : List Cond := .code y_Br_bytesNeeded cc_Br_bytesNeeded 1 (some .int) :: wG
abbrev r_Br_bytesNeeded : Room := { frames := 0, cells := 0, slots := 0, locals := 0 }
set_option maxRecDepth 100000 in
theorem lc_Br_bytesNeeded : Cond.code y_Br_bytesNeeded cc_Br_bytesNeeded 1 (some .int) ∈ wG := wG_of (List.mem_append_right _ (List.mem_of_getElem? (i := 560) rfl)) rfl
theorem li_Br_bytesNeeded : Cond.instanceMethod y_Br_bytesNeeded ∈ wG := wG_of (List.mem_append_right _ (List.mem_of_getElem? (i := 558) (by decide +kernel))) rfl
theorem ls_Br_bytesNeeded : Cond.selects R_Br y_Br_bytesNeeded y_Br_bytesNeeded ∈ wG := wG_of (List.mem_append_right _ (List.mem_of_getElem? (i := 559) (by decide +kernel))) rfl
theorem hd_Br_bytesNeeded : y_Br_bytesNeeded.cls = R_Br ∧ y_Br_bytesNeeded.cls ≠ "java/lang/invoke/MethodHandle" ∧ y_Br_bytesNeeded.cls ≠ "java/lang/invoke/VarHandle" ∧ (parseMethodDescriptor y_Br_bytesNeeded.desc).map (fun d => d.parameters.length) = some 0 := by decide +kernel
abbrev cc_Pk_addTree : ByteArray := prog_6_method_6_code
def y_Pk_addTree : MethodName := ⟨R_Pk, "addTree", "(I)V"⟩
abbrev w_Pk_addTree : List Cond := .code y_Pk_addTree cc_Pk_addTree 4 none :: wG
abbrev r_Pk_addTree : Room := { frames := 1, cells := 0, slots := 0, locals := 21 }
set_option maxRecDepth 100000 in
theorem lc_Pk_addTree : Cond.code y_Pk_addTree cc_Pk_addTree 4 none ∈ wG := wG_of (List.mem_append_right _ (List.mem_of_getElem? (i := 564) rfl)) rfl
theorem li_Pk_addTree : Cond.instanceMethod y_Pk_addTree ∈ wG := wG_of (List.mem_append_right _ (List.mem_of_getElem? (i := 563) (by decide +kernel))) rfl
theorem ls_Pk_addTree : Cond.selects R_Pk y_Pk_addTree y_Pk_addTree ∈ wG := wG_of (List.mem_append_left _ (List.mem_of_getElem? (i := 8) (by decide +kernel))) rfl
theorem hd_Pk_addTree : y_Pk_addTree.cls = R_Pk ∧ y_Pk_addTree.cls ≠ "java/lang/invoke/MethodHandle" ∧ y_Pk_addTree.cls ≠ "java/lang/invoke/VarHandle" ∧ (parseMethodDescriptor y_Pk_addTree.desc).map (fun d => d.parameters.length) = some 1 := by decide +kernel
abbrev cc_Br_addStreamTo : ByteArray := prog_2_method_4_code
def y_Br_addStreamTo : MethodName := ⟨R_Br, "addStreamTo", "(LPackFrames$Row;)V"⟩
abbrev w_Br_addStreamTo : List Cond := .code y_Br_addStreamTo cc_Br_addStreamTo 5 none :: wG
abbrev r_Br_addStreamTo : Room := { frames := 1, cells := 0, slots := 0, locals := 21 }
set_option maxRecDepth 100000 in
theorem lc_Br_addStreamTo : Cond.code y_Br_addStreamTo cc_Br_addStreamTo 5 none ∈ wG := wG_of (List.mem_append_right _ (List.mem_of_getElem? (i := 568) rfl)) rfl
theorem li_Br_addStreamTo : Cond.instanceMethod y_Br_addStreamTo ∈ wG := wG_of (List.mem_append_right _ (List.mem_of_getElem? (i := 566) (by decide +kernel))) rfl
theorem ls_Br_addStreamTo : Cond.selects R_Br y_Br_addStreamTo y_Br_addStreamTo ∈ wG := wG_of (List.mem_append_right _ (List.mem_of_getElem? (i := 567) (by decide +kernel))) rfl
theorem hd_Br_addStreamTo : y_Br_addStreamTo.cls = R_Br ∧ y_Br_addStreamTo.cls ≠ "java/lang/invoke/MethodHandle" ∧ y_Br_addStreamTo.cls ≠ "java/lang/invoke/VarHandle" ∧ (parseMethodDescriptor y_Br_addStreamTo.desc).map (fun d => d.parameters.length) = some 1 := by decide +kernel
abbrev cc_Br_bitOver : ByteArray := prog_2_method_5_code
def y_Br_bitOver : MethodName := ⟨R_Br, "bitOver", "(I)I"⟩
abbrev w_Br_bitOver : List Cond := .code y_Br_bitOver cc_Br_bitOver 2 (some .int) :: wG
abbrev r_Br_bitOver : Room := { frames := 0, cells := 0, slots := 0, locals := 0 }
set_option maxRecDepth 100000 in
theorem lc_Br_bitOver : Cond.code y_Br_bitOver cc_Br_bitOver 2 (some .int) ∈ wG := wG_of (List.mem_append_right _ (List.mem_of_getElem? (i := 573) rfl)) rfl
theorem li_Br_bitOver : Cond.instanceMethod y_Br_bitOver ∈ wG := wG_of (List.mem_append_right _ (List.mem_of_getElem? (i := 572) (by decide +kernel))) rfl
theorem ls_Br_bitOver : Cond.selects R_Br y_Br_bitOver y_Br_bitOver ∈ wG := wG_of (List.mem_append_left _ (List.mem_of_getElem? (i := 9) (by decide +kernel))) rfl
theorem hd_Br_bitOver : y_Br_bitOver.cls = R_Br ∧ y_Br_bitOver.cls ≠ "java/lang/invoke/MethodHandle" ∧ y_Br_bitOver.cls ≠ "java/lang/invoke/VarHandle" ∧ (parseMethodDescriptor y_Br_bitOver.desc).map (fun d => d.parameters.length) = some 1 := by decide +kernel
abbrev cc_Row_addRow : ByteArray := prog_8_method_6_code
def y_Row_addRow : MethodName := ⟨R_Row, "addRow", "(LPackFrames$Row;)V"⟩
abbrev w_Row_addRow : List Cond := .code y_Row_addRow cc_Row_addRow 3 none :: wG
abbrev r_Row_addRow : Room := { frames := 1, cells := 0, slots := 0, locals := 21 }
set_option maxRecDepth 100000 in
theorem lc_Row_addRow : Cond.code y_Row_addRow cc_Row_addRow 3 none ∈ wG := wG_of (List.mem_append_right _ (List.mem_of_getElem? (i := 578) rfl)) rfl
theorem li_Row_addRow : Cond.instanceMethod y_Row_addRow ∈ wG := wG_of (List.mem_append_right _ (List.mem_of_getElem? (i := 576) (by decide +kernel))) rfl
theorem ls_Row_addRow : Cond.selects R_Row y_Row_addRow y_Row_addRow ∈ wG := wG_of (List.mem_append_right _ (List.mem_of_getElem? (i := 577) (by decide +kernel))) rfl
theorem hd_Row_addRow : y_Row_addRow.cls = R_Row ∧ y_Row_addRow.cls ≠ "java/lang/invoke/MethodHandle" ∧ y_Row_addRow.cls ≠ "java/lang/invoke/VarHandle" ∧ (parseMethodDescriptor y_Row_addRow.desc).map (fun d => d.parameters.length) = some 1 := by decide +kernel
abbrev cc_Pk_addSequences : ByteArray := prog_6_method_7_code
def y_Pk_addSequences : MethodName := ⟨R_Pk, "addSequences", "()V"⟩
abbrev w_Pk_addSequences : List Cond := .code y_Pk_addSequences cc_Pk_addSequences 2 none :: wG
abbrev r_Pk_addSequences : Room := { frames := 3, cells := 0, slots := 0, locals := 68 }
set_option maxRecDepth 100000 in
theorem lc_Pk_addSequences : Cond.code y_Pk_addSequences cc_Pk_addSequences 2 none ∈ wG := wG_of (List.mem_append_right _ (List.mem_of_getElem? (i := 582) rfl)) rfl
theorem li_Pk_addSequences : Cond.instanceMethod y_Pk_addSequences ∈ wG := wG_of (List.mem_append_right _ (List.mem_of_getElem? (i := 581) (by decide +kernel))) rfl
theorem ls_Pk_addSequences : Cond.selects R_Pk y_Pk_addSequences y_Pk_addSequences ∈ wG := wG_of (List.mem_append_left _ (List.mem_of_getElem? (i := 10) (by decide +kernel))) rfl
theorem hd_Pk_addSequences : y_Pk_addSequences.cls = R_Pk ∧ y_Pk_addSequences.cls ≠ "java/lang/invoke/MethodHandle" ∧ y_Pk_addSequences.cls ≠ "java/lang/invoke/VarHandle" ∧ (parseMethodDescriptor y_Pk_addSequences.desc).map (fun d => d.parameters.length) = some 0 := by decide +kernel
abbrev cc_Pk_chooseStates : ByteArray := prog_6_method_8_code
def y_Pk_chooseStates : MethodName := ⟨R_Pk, "chooseStates", "()V"⟩
abbrev w_Pk_chooseStates : List Cond := .code y_Pk_chooseStates cc_Pk_chooseStates 2 none :: wG
abbrev r_Pk_chooseStates : Room := { frames := 2, cells := 0, slots := 0, locals := 47 }
set_option maxRecDepth 100000 in
theorem lc_Pk_chooseStates : Cond.code y_Pk_chooseStates cc_Pk_chooseStates 2 none ∈ wG := wG_of (List.mem_append_right _ (List.mem_of_getElem? (i := 586) rfl)) rfl
theorem li_Pk_chooseStates : Cond.instanceMethod y_Pk_chooseStates ∈ wG := wG_of (List.mem_append_right _ (List.mem_of_getElem? (i := 585) (by decide +kernel))) rfl
theorem ls_Pk_chooseStates : Cond.selects R_Pk y_Pk_chooseStates y_Pk_chooseStates ∈ wG := wG_of (List.mem_append_left _ (List.mem_of_getElem? (i := 11) (by decide +kernel))) rfl
theorem hd_Pk_chooseStates : y_Pk_chooseStates.cls = R_Pk ∧ y_Pk_chooseStates.cls ≠ "java/lang/invoke/MethodHandle" ∧ y_Pk_chooseStates.cls ≠ "java/lang/invoke/VarHandle" ∧ (parseMethodDescriptor y_Pk_chooseStates.desc).map (fun d => d.parameters.length) = some 0 := by decide +kernel
abbrev cc_Pk_codeOf : ByteArray := prog_6_method_13_code
def y_Pk_codeOf : MethodName := ⟨R_Pk, "codeOf", "([II)I"⟩
abbrev w_Pk_codeOf : List Cond := .code y_Pk_codeOf cc_Pk_codeOf 4 (some .int) :: wG
abbrev r_Pk_codeOf : Room := { frames := 0, cells := 0, slots := 0, locals := 0 }
set_option maxRecDepth 100000 in
theorem lc_Pk_codeOf : Cond.code y_Pk_codeOf cc_Pk_codeOf 4 (some .int) ∈ wG := wG_of (List.mem_append_right _ (List.mem_of_getElem? (i := 591) rfl)) rfl
theorem lst_Pk_codeOf : Cond.static y_Pk_codeOf ∈ wG := wG_of (List.mem_append_right _ (List.mem_of_getElem? (i := 590) (by decide +kernel))) rfl
theorem hd_Pk_codeOf : y_Pk_codeOf.cls = R_Pk ∧ y_Pk_codeOf.cls ≠ "java/lang/invoke/MethodHandle" ∧ y_Pk_codeOf.cls ≠ "java/lang/invoke/VarHandle" ∧ (parseMethodDescriptor y_Pk_codeOf.desc).map (fun d => d.parameters.length) = some 2 := by decide +kernel
abbrev cc_Pk_chooseState : ByteArray := prog_6_method_9_code
def y_Pk_chooseState : MethodName := ⟨R_Pk, "chooseState", "(LPackFrames$StateTable;I[II)V"⟩
abbrev w_Pk_chooseState : List Cond := .code y_Pk_chooseState cc_Pk_chooseState 5 none :: wG
abbrev r_Pk_chooseState : Room := { frames := 1, cells := 0, slots := 0, locals := 23 }
set_option maxRecDepth 100000 in
theorem lc_Pk_chooseState : Cond.code y_Pk_chooseState cc_Pk_chooseState 5 none ∈ wG := wG_of (List.mem_append_right _ (List.mem_of_getElem? (i := 595) rfl)) rfl
theorem li_Pk_chooseState : Cond.instanceMethod y_Pk_chooseState ∈ wG := wG_of (List.mem_append_right _ (List.mem_of_getElem? (i := 594) (by decide +kernel))) rfl
theorem ls_Pk_chooseState : Cond.selects R_Pk y_Pk_chooseState y_Pk_chooseState ∈ wG := wG_of (List.mem_append_left _ (List.mem_of_getElem? (i := 12) (by decide +kernel))) rfl
theorem hd_Pk_chooseState : y_Pk_chooseState.cls = R_Pk ∧ y_Pk_chooseState.cls ≠ "java/lang/invoke/MethodHandle" ∧ y_Pk_chooseState.cls ≠ "java/lang/invoke/VarHandle" ∧ (parseMethodDescriptor y_Pk_chooseState.desc).map (fun d => d.parameters.length) = some 4 := by decide +kernel
abbrev cc_ST_leastStateOf : ByteArray := prog_10_method_4_code
def y_ST_leastStateOf : MethodName := ⟨R_ST, "leastStateOf", "(I)I"⟩
abbrev w_ST_leastStateOf : List Cond := .code y_ST_leastStateOf cc_ST_leastStateOf 3 (some .int) :: wG
abbrev r_ST_leastStateOf : Room := { frames := 0, cells := 0, slots := 0, locals := 0 }
set_option maxRecDepth 100000 in
theorem lc_ST_leastStateOf : Cond.code y_ST_leastStateOf cc_ST_leastStateOf 3 (some .int) ∈ wG := wG_of (List.mem_append_right _ (List.mem_of_getElem? (i := 599) rfl)) rfl
theorem li_ST_leastStateOf : Cond.instanceMethod y_ST_leastStateOf ∈ wG := wG_of (List.mem_append_right _ (List.mem_of_getElem? (i := 597) (by decide +kernel))) rfl
theorem ls_ST_leastStateOf : Cond.selects R_ST y_ST_leastStateOf y_ST_leastStateOf ∈ wG := wG_of (List.mem_append_right _ (List.mem_of_getElem? (i := 598) (by decide +kernel))) rfl
theorem hd_ST_leastStateOf : y_ST_leastStateOf.cls = R_ST ∧ y_ST_leastStateOf.cls ≠ "java/lang/invoke/MethodHandle" ∧ y_ST_leastStateOf.cls ≠ "java/lang/invoke/VarHandle" ∧ (parseMethodDescriptor y_ST_leastStateOf.desc).map (fun d => d.parameters.length) = some 1 := by decide +kernel
abbrev cc_ST_stateBefore : ByteArray := prog_10_method_5_code
def y_ST_stateBefore : MethodName := ⟨R_ST, "stateBefore", "(II)I"⟩
abbrev w_ST_stateBefore : List Cond := .code y_ST_stateBefore cc_ST_stateBefore 4 (some .int) :: wG
abbrev r_ST_stateBefore : Room := { frames := 0, cells := 0, slots := 0, locals := 0 }
set_option maxRecDepth 100000 in
theorem lc_ST_stateBefore : Cond.code y_ST_stateBefore cc_ST_stateBefore 4 (some .int) ∈ wG := wG_of (List.mem_append_right _ (List.mem_of_getElem? (i := 603) rfl)) rfl
theorem li_ST_stateBefore : Cond.instanceMethod y_ST_stateBefore ∈ wG := wG_of (List.mem_append_right _ (List.mem_of_getElem? (i := 601) (by decide +kernel))) rfl
theorem ls_ST_stateBefore : Cond.selects R_ST y_ST_stateBefore y_ST_stateBefore ∈ wG := wG_of (List.mem_append_right _ (List.mem_of_getElem? (i := 602) (by decide +kernel))) rfl
theorem hd_ST_stateBefore : y_ST_stateBefore.cls = R_ST ∧ y_ST_stateBefore.cls ≠ "java/lang/invoke/MethodHandle" ∧ y_ST_stateBefore.cls ≠ "java/lang/invoke/VarHandle" ∧ (parseMethodDescriptor y_ST_stateBefore.desc).map (fun d => d.parameters.length) = some 2 := by decide +kernel
abbrev cc_Pk_wayCodeOf : ByteArray := prog_6_method_12_code
def y_Pk_wayCodeOf : MethodName := ⟨R_Pk, "wayCodeOf", "(I)I"⟩
abbrev w_Pk_wayCodeOf : List Cond := .code y_Pk_wayCodeOf cc_Pk_wayCodeOf 1 (some .int) :: wG
abbrev r_Pk_wayCodeOf : Room := { frames := 1, cells := 0, slots := 0, locals := 21 }
set_option maxRecDepth 100000 in
theorem lc_Pk_wayCodeOf : Cond.code y_Pk_wayCodeOf cc_Pk_wayCodeOf 1 (some .int) ∈ wG := wG_of (List.mem_append_right _ (List.mem_of_getElem? (i := 608) rfl)) rfl
theorem lst_Pk_wayCodeOf : Cond.static y_Pk_wayCodeOf ∈ wG := wG_of (List.mem_append_right _ (List.mem_of_getElem? (i := 607) (by decide +kernel))) rfl
theorem hd_Pk_wayCodeOf : y_Pk_wayCodeOf.cls = R_Pk ∧ y_Pk_wayCodeOf.cls ≠ "java/lang/invoke/MethodHandle" ∧ y_Pk_wayCodeOf.cls ≠ "java/lang/invoke/VarHandle" ∧ (parseMethodDescriptor y_Pk_wayCodeOf.desc).map (fun d => d.parameters.length) = some 1 := by decide +kernel
abbrev cc_Pk_addNextState : ByteArray := prog_6_method_10_code
def y_Pk_addNextState : MethodName := ⟨R_Pk, "addNextState", "(LPackFrames$StateTable;[II)V"⟩
abbrev w_Pk_addNextState : List Cond := .code y_Pk_addNextState cc_Pk_addNextState 5 none :: wG
abbrev r_Pk_addNextState : Room := { frames := 1, cells := 0, slots := 0, locals := 23 }
set_option maxRecDepth 100000 in
theorem lc_Pk_addNextState : Cond.code y_Pk_addNextState cc_Pk_addNextState 5 none ∈ wG := wG_of (List.mem_append_right _ (List.mem_of_getElem? (i := 614) rfl)) rfl
theorem li_Pk_addNextState : Cond.instanceMethod y_Pk_addNextState ∈ wG := wG_of (List.mem_append_right _ (List.mem_of_getElem? (i := 613) (by decide +kernel))) rfl
theorem ls_Pk_addNextState : Cond.selects R_Pk y_Pk_addNextState y_Pk_addNextState ∈ wG := wG_of (List.mem_append_left _ (List.mem_of_getElem? (i := 13) (by decide +kernel))) rfl
theorem hd_Pk_addNextState : y_Pk_addNextState.cls = R_Pk ∧ y_Pk_addNextState.cls ≠ "java/lang/invoke/MethodHandle" ∧ y_Pk_addNextState.cls ≠ "java/lang/invoke/VarHandle" ∧ (parseMethodDescriptor y_Pk_addNextState.desc).map (fun d => d.parameters.length) = some 3 := by decide +kernel
abbrev cc_Pk_addValues : ByteArray := prog_6_method_11_code
def y_Pk_addValues : MethodName := ⟨R_Pk, "addValues", "(I)V"⟩
abbrev w_Pk_addValues : List Cond := .code y_Pk_addValues cc_Pk_addValues 5 none :: wG
abbrev r_Pk_addValues : Room := { frames := 2, cells := 0, slots := 0, locals := 41 }
set_option maxRecDepth 100000 in
theorem lc_Pk_addValues : Cond.code y_Pk_addValues cc_Pk_addValues 5 none ∈ wG := wG_of (List.mem_append_right _ (List.mem_of_getElem? (i := 618) rfl)) rfl
theorem li_Pk_addValues : Cond.instanceMethod y_Pk_addValues ∈ wG := wG_of (List.mem_append_right _ (List.mem_of_getElem? (i := 617) (by decide +kernel))) rfl
theorem ls_Pk_addValues : Cond.selects R_Pk y_Pk_addValues y_Pk_addValues ∈ wG := wG_of (List.mem_append_left _ (List.mem_of_getElem? (i := 14) (by decide +kernel))) rfl
theorem hd_Pk_addValues : y_Pk_addValues.cls = R_Pk ∧ y_Pk_addValues.cls ≠ "java/lang/invoke/MethodHandle" ∧ y_Pk_addValues.cls ≠ "java/lang/invoke/VarHandle" ∧ (parseMethodDescriptor y_Pk_addValues.desc).map (fun d => d.parameters.length) = some 1 := by decide +kernel
abbrev cc_Row_addPair : ByteArray := prog_8_method_4_code
def y_Row_addPair : MethodName := ⟨R_Row, "addPair", "(I)V"⟩
abbrev w_Row_addPair : List Cond := .code y_Row_addPair cc_Row_addPair 2 none :: wG
abbrev r_Row_addPair : Room := { frames := 1, cells := 0, slots := 0, locals := 21 }
set_option maxRecDepth 100000 in
theorem lc_Row_addPair : Cond.code y_Row_addPair cc_Row_addPair 2 none ∈ wG := wG_of (List.mem_append_right _ (List.mem_of_getElem? (i := 628) rfl)) rfl
theorem li_Row_addPair : Cond.instanceMethod y_Row_addPair ∈ wG := wG_of (List.mem_append_right _ (List.mem_of_getElem? (i := 626) (by decide +kernel))) rfl
theorem ls_Row_addPair : Cond.selects R_Row y_Row_addPair y_Row_addPair ∈ wG := wG_of (List.mem_append_right _ (List.mem_of_getElem? (i := 627) (by decide +kernel))) rfl
theorem hd_Row_addPair : y_Row_addPair.cls = R_Row ∧ y_Row_addPair.cls ≠ "java/lang/invoke/MethodHandle" ∧ y_Row_addPair.cls ≠ "java/lang/invoke/VarHandle" ∧ (parseMethodDescriptor y_Row_addPair.desc).map (fun d => d.parameters.length) = some 1 := by decide +kernel
abbrev cc_Row_markFrom : ByteArray := prog_8_method_10_code
def y_Row_markFrom : MethodName := ⟨R_Row, "markFrom", "(I)I"⟩
abbrev w_Row_markFrom : List Cond := .code y_Row_markFrom cc_Row_markFrom 4 (some .int) :: wG
abbrev r_Row_markFrom : Room := { frames := 0, cells := 0, slots := 0, locals := 0 }
set_option maxRecDepth 100000 in
theorem lc_Row_markFrom : Cond.code y_Row_markFrom cc_Row_markFrom 4 (some .int) ∈ wG := wG_of (List.mem_append_right _ (List.mem_of_getElem? (i := 633) rfl)) rfl
theorem li_Row_markFrom : Cond.instanceMethod y_Row_markFrom ∈ wG := wG_of (List.mem_append_right _ (List.mem_of_getElem? (i := 631) (by decide +kernel))) rfl
theorem ls_Row_markFrom : Cond.selects R_Row y_Row_markFrom y_Row_markFrom ∈ wG := wG_of (List.mem_append_right _ (List.mem_of_getElem? (i := 632) (by decide +kernel))) rfl
theorem hd_Row_markFrom : y_Row_markFrom.cls = R_Row ∧ y_Row_markFrom.cls ≠ "java/lang/invoke/MethodHandle" ∧ y_Row_markFrom.cls ≠ "java/lang/invoke/VarHandle" ∧ (parseMethodDescriptor y_Row_markFrom.desc).map (fun d => d.parameters.length) = some 1 := by decide +kernel
abbrev cc_PF_skip : ByteArray := prog_1_method_10_code
def y_PF_skip : MethodName := ⟨R_PF, "skip", "(I)Z"⟩
abbrev w_PF_skip : List Cond := .code y_PF_skip cc_PF_skip 2 (some .boolean) :: wG
abbrev r_PF_skip : Room := { frames := 2, cells := 0, slots := 0, locals := 44 }
set_option maxRecDepth 100000 in
theorem lc_PF_skip : Cond.code y_PF_skip cc_PF_skip 2 (some .boolean) ∈ wG := wG_of (List.mem_append_right _ (List.mem_of_getElem? (i := 639) rfl)) rfl
theorem li_PF_skip : Cond.instanceMethod y_PF_skip ∈ wG := wG_of (List.mem_append_right _ (List.mem_of_getElem? (i := 637) (by decide +kernel))) rfl
theorem ls_PF_skip : Cond.selects R_PF y_PF_skip y_PF_skip ∈ wG := wG_of (List.mem_append_right _ (List.mem_of_getElem? (i := 638) (by decide +kernel))) rfl
theorem hd_PF_skip : y_PF_skip.cls = R_PF ∧ y_PF_skip.cls ≠ "java/lang/invoke/MethodHandle" ∧ y_PF_skip.cls ≠ "java/lang/invoke/VarHandle" ∧ (parseMethodDescriptor y_PF_skip.desc).map (fun d => d.parameters.length) = some 1 := by decide +kernel
abbrev cc_Row_addTimes : ByteArray := prog_8_method_5_code
def y_Row_addTimes : MethodName := ⟨R_Row, "addTimes", "(II)V"⟩
abbrev w_Row_addTimes : List Cond := .code y_Row_addTimes cc_Row_addTimes 4 none :: wG
abbrev r_Row_addTimes : Room := { frames := 1, cells := 0, slots := 0, locals := 21 }
set_option maxRecDepth 100000 in
theorem lc_Row_addTimes : Cond.code y_Row_addTimes cc_Row_addTimes 4 none ∈ wG := wG_of (List.mem_append_right _ (List.mem_of_getElem? (i := 643) rfl)) rfl
theorem li_Row_addTimes : Cond.instanceMethod y_Row_addTimes ∈ wG := wG_of (List.mem_append_right _ (List.mem_of_getElem? (i := 641) (by decide +kernel))) rfl
theorem ls_Row_addTimes : Cond.selects R_Row y_Row_addTimes y_Row_addTimes ∈ wG := wG_of (List.mem_append_right _ (List.mem_of_getElem? (i := 642) (by decide +kernel))) rfl
theorem hd_Row_addTimes : y_Row_addTimes.cls = R_Row ∧ y_Row_addTimes.cls ≠ "java/lang/invoke/MethodHandle" ∧ y_Row_addTimes.cls ≠ "java/lang/invoke/VarHandle" ∧ (parseMethodDescriptor y_Row_addTimes.desc).map (fun d => d.parameters.length) = some 2 := by decide +kernel
abbrev cc_PF_unpack : ByteArray := prog_1_method_11_code
def y_PF_unpack : MethodName := ⟨R_PF, "unpack", "()I"⟩
abbrev w_PF_unpack : List Cond := .code y_PF_unpack cc_PF_unpack 5 (some .int) :: wG
abbrev r_PF_unpack : Room := { frames := 6, cells := 0, slots := 0, locals := 142 }
set_option maxRecDepth 100000 in
theorem lc_PF_unpack : Cond.code y_PF_unpack cc_PF_unpack 5 (some .int) ∈ wG := wG_of (List.mem_append_right _ (List.mem_of_getElem? (i := 647) rfl)) rfl
theorem li_PF_unpack : Cond.instanceMethod y_PF_unpack ∈ wG := wG_of (List.mem_append_right _ (List.mem_of_getElem? (i := 645) (by decide +kernel))) rfl
theorem ls_PF_unpack : Cond.selects R_PF y_PF_unpack y_PF_unpack ∈ wG := wG_of (List.mem_append_right _ (List.mem_of_getElem? (i := 646) (by decide +kernel))) rfl
theorem hd_PF_unpack : y_PF_unpack.cls = R_PF ∧ y_PF_unpack.cls ≠ "java/lang/invoke/MethodHandle" ∧ y_PF_unpack.cls ≠ "java/lang/invoke/VarHandle" ∧ (parseMethodDescriptor y_PF_unpack.desc).map (fun d => d.parameters.length) = some 0 := by decide +kernel
abbrev cc_Fr_placeBehindFrame : ByteArray := prog_3_method_2_code
def y_Fr_placeBehindFrame : MethodName := ⟨R_Fr, "placeBehindFrame", "(I)I"⟩
abbrev w_Fr_placeBehindFrame : List Cond := .code y_Fr_placeBehindFrame cc_Fr_placeBehindFrame 8 (some .int) :: wG
abbrev r_Fr_placeBehindFrame : Room := { frames := 5, cells := 0, slots := 0, locals := 115 }
set_option maxRecDepth 100000 in
theorem lc_Fr_placeBehindFrame : Cond.code y_Fr_placeBehindFrame cc_Fr_placeBehindFrame 8 (some .int) ∈ wG := wG_of (List.mem_append_right _ (List.mem_of_getElem? (i := 651) rfl)) rfl
theorem li_Fr_placeBehindFrame : Cond.instanceMethod y_Fr_placeBehindFrame ∈ wG := wG_of (List.mem_append_right _ (List.mem_of_getElem? (i := 649) (by decide +kernel))) rfl
theorem ls_Fr_placeBehindFrame : Cond.selects R_Fr y_Fr_placeBehindFrame y_Fr_placeBehindFrame ∈ wG := wG_of (List.mem_append_right _ (List.mem_of_getElem? (i := 650) (by decide +kernel))) rfl
theorem hd_Fr_placeBehindFrame : y_Fr_placeBehindFrame.cls = R_Fr ∧ y_Fr_placeBehindFrame.cls ≠ "java/lang/invoke/MethodHandle" ∧ y_Fr_placeBehindFrame.cls ≠ "java/lang/invoke/VarHandle" ∧ (parseMethodDescriptor y_Fr_placeBehindFrame.desc).map (fun d => d.parameters.length) = some 1 := by decide +kernel
abbrev cc_Wr_begin : ByteArray := prog_12_method_2_code
def y_Wr_begin : MethodName := ⟨R_Wr, "begin", "(I)V"⟩
abbrev w_Wr_begin : List Cond := .code y_Wr_begin cc_Wr_begin 2 none :: wG
abbrev r_Wr_begin : Room := { frames := 0, cells := 0, slots := 0, locals := 0 }
set_option maxRecDepth 100000 in
theorem lc_Wr_begin : Cond.code y_Wr_begin cc_Wr_begin 2 none ∈ wG := wG_of (List.mem_append_right _ (List.mem_of_getElem? (i := 655) rfl)) rfl
theorem li_Wr_begin : Cond.instanceMethod y_Wr_begin ∈ wG := wG_of (List.mem_append_right _ (List.mem_of_getElem? (i := 653) (by decide +kernel))) rfl
theorem ls_Wr_begin : Cond.selects R_Wr y_Wr_begin y_Wr_begin ∈ wG := wG_of (List.mem_append_right _ (List.mem_of_getElem? (i := 654) (by decide +kernel))) rfl
theorem hd_Wr_begin : y_Wr_begin.cls = R_Wr ∧ y_Wr_begin.cls ≠ "java/lang/invoke/MethodHandle" ∧ y_Wr_begin.cls ≠ "java/lang/invoke/VarHandle" ∧ (parseMethodDescriptor y_Wr_begin.desc).map (fun d => d.parameters.length) = some 1 := by decide +kernel
abbrev cc_Wr_takeByte : ByteArray := prog_12_method_5_code
def y_Wr_takeByte : MethodName := ⟨R_Wr, "takeByte", "()I"⟩
abbrev w_Wr_takeByte : List Cond := .code y_Wr_takeByte cc_Wr_takeByte 1 (some .int) :: wG
abbrev r_Wr_takeByte : Room := { frames := 0, cells := 0, slots := 0, locals := 0 }
set_option maxRecDepth 100000 in
theorem lc_Wr_takeByte : Cond.code y_Wr_takeByte cc_Wr_takeByte 1 (some .int) ∈ wG := wG_of (List.mem_append_right _ (List.mem_of_getElem? (i := 659) rfl)) rfl
theorem li_Wr_takeByte : Cond.instanceMethod y_Wr_takeByte ∈ wG := wG_of (List.mem_append_right _ (List.mem_of_getElem? (i := 657) (by decide +kernel))) rfl
theorem ls_Wr_takeByte : Cond.selects R_Wr y_Wr_takeByte y_Wr_takeByte ∈ wG := wG_of (List.mem_append_right _ (List.mem_of_getElem? (i := 658) (by decide +kernel))) rfl
theorem hd_Wr_takeByte : y_Wr_takeByte.cls = R_Wr ∧ y_Wr_takeByte.cls ≠ "java/lang/invoke/MethodHandle" ∧ y_Wr_takeByte.cls ≠ "java/lang/invoke/VarHandle" ∧ (parseMethodDescriptor y_Wr_takeByte.desc).map (fun d => d.parameters.length) = some 0 := by decide +kernel
abbrev cc_Wr_takePair : ByteArray := prog_12_method_6_code
def y_Wr_takePair : MethodName := ⟨R_Wr, "takePair", "()I"⟩
abbrev w_Wr_takePair : List Cond := .code y_Wr_takePair cc_Wr_takePair 2 (some .int) :: wG
abbrev r_Wr_takePair : Room := { frames := 1, cells := 0, slots := 0, locals := 20 }
set_option maxRecDepth 100000 in
theorem lc_Wr_takePair : Cond.code y_Wr_takePair cc_Wr_takePair 2 (some .int) ∈ wG := wG_of (List.mem_append_right _ (List.mem_of_getElem? (i := 663) rfl)) rfl
theorem li_Wr_takePair : Cond.instanceMethod y_Wr_takePair ∈ wG := wG_of (List.mem_append_right _ (List.mem_of_getElem? (i := 661) (by decide +kernel))) rfl
theorem ls_Wr_takePair : Cond.selects R_Wr y_Wr_takePair y_Wr_takePair ∈ wG := wG_of (List.mem_append_right _ (List.mem_of_getElem? (i := 662) (by decide +kernel))) rfl
theorem hd_Wr_takePair : y_Wr_takePair.cls = R_Wr ∧ y_Wr_takePair.cls ≠ "java/lang/invoke/MethodHandle" ∧ y_Wr_takePair.cls ≠ "java/lang/invoke/VarHandle" ∧ (parseMethodDescriptor y_Wr_takePair.desc).map (fun d => d.parameters.length) = some 0 := by decide +kernel
abbrev cc_Fr_beginFrame : ByteArray := prog_3_method_3_code
def y_Fr_beginFrame : MethodName := ⟨R_Fr, "beginFrame", "(I)V"⟩
abbrev w_Fr_beginFrame : List Cond := .code y_Fr_beginFrame cc_Fr_beginFrame 2 none :: wG
abbrev r_Fr_beginFrame : Room := { frames := 1, cells := 0, slots := 0, locals := 20 }
set_option maxRecDepth 100000 in
theorem lc_Fr_beginFrame : Cond.code y_Fr_beginFrame cc_Fr_beginFrame 2 none ∈ wG := wG_of (List.mem_append_right _ (List.mem_of_getElem? (i := 669) rfl)) rfl
theorem li_Fr_beginFrame : Cond.instanceMethod y_Fr_beginFrame ∈ wG := wG_of (List.mem_append_right _ (List.mem_of_getElem? (i := 668) (by decide +kernel))) rfl
theorem ls_Fr_beginFrame : Cond.selects R_Fr y_Fr_beginFrame y_Fr_beginFrame ∈ wG := wG_of (List.mem_append_left _ (List.mem_of_getElem? (i := 15) (by decide +kernel))) rfl
theorem hd_Fr_beginFrame : y_Fr_beginFrame.cls = R_Fr ∧ y_Fr_beginFrame.cls ≠ "java/lang/invoke/MethodHandle" ∧ y_Fr_beginFrame.cls ≠ "java/lang/invoke/VarHandle" ∧ (parseMethodDescriptor y_Fr_beginFrame.desc).map (fun d => d.parameters.length) = some 1 := by decide +kernel
abbrev cc_Fr_readRaw : ByteArray := prog_3_method_5_code
def y_Fr_readRaw : MethodName := ⟨R_Fr, "readRaw", "(I)V"⟩
abbrev w_Fr_readRaw : List Cond := .code y_Fr_readRaw cc_Fr_readRaw 3 none :: wG
abbrev r_Fr_readRaw : Room := { frames := 1, cells := 0, slots := 0, locals := 21 }
set_option maxRecDepth 100000 in
theorem lc_Fr_readRaw : Cond.code y_Fr_readRaw cc_Fr_readRaw 3 none ∈ wG := wG_of (List.mem_append_right _ (List.mem_of_getElem? (i := 674) rfl)) rfl
theorem li_Fr_readRaw : Cond.instanceMethod y_Fr_readRaw ∈ wG := wG_of (List.mem_append_right _ (List.mem_of_getElem? (i := 673) (by decide +kernel))) rfl
theorem ls_Fr_readRaw : Cond.selects R_Fr y_Fr_readRaw y_Fr_readRaw ∈ wG := wG_of (List.mem_append_left _ (List.mem_of_getElem? (i := 16) (by decide +kernel))) rfl
theorem hd_Fr_readRaw : y_Fr_readRaw.cls = R_Fr ∧ y_Fr_readRaw.cls ≠ "java/lang/invoke/MethodHandle" ∧ y_Fr_readRaw.cls ≠ "java/lang/invoke/VarHandle" ∧ (parseMethodDescriptor y_Fr_readRaw.desc).map (fun d => d.parameters.length) = some 1 := by decide +kernel
abbrev cc_Wr_bytesLeft : ByteArray := prog_12_method_4_code
def y_Wr_bytesLeft : MethodName := ⟨R_Wr, "bytesLeft", "()I"⟩
abbrev w_Wr_bytesLeft : List Cond := .code y_Wr_bytesLeft cc_Wr_bytesLeft 1 (some .int) :: wG
abbrev r_Wr_bytesLeft : Room := { frames := 0, cells := 0, slots := 0, locals := 0 }
set_option maxRecDepth 100000 in
theorem lc_Wr_bytesLeft : Cond.code y_Wr_bytesLeft cc_Wr_bytesLeft 1 (some .int) ∈ wG := wG_of (List.mem_append_right _ (List.mem_of_getElem? (i := 678) rfl)) rfl
theorem li_Wr_bytesLeft : Cond.instanceMethod y_Wr_bytesLeft ∈ wG := wG_of (List.mem_append_right _ (List.mem_of_getElem? (i := 676) (by decide +kernel))) rfl
theorem ls_Wr_bytesLeft : Cond.selects R_Wr y_Wr_bytesLeft y_Wr_bytesLeft ∈ wG := wG_of (List.mem_append_right _ (List.mem_of_getElem? (i := 677) (by decide +kernel))) rfl
theorem hd_Wr_bytesLeft : y_Wr_bytesLeft.cls = R_Wr ∧ y_Wr_bytesLeft.cls ≠ "java/lang/invoke/MethodHandle" ∧ y_Wr_bytesLeft.cls ≠ "java/lang/invoke/VarHandle" ∧ (parseMethodDescriptor y_Wr_bytesLeft.desc).map (fun d => d.parameters.length) = some 0 := by decide +kernel
abbrev cc_Fr_fits : ByteArray := prog_3_method_4_code
def y_Fr_fits : MethodName := ⟨R_Fr, "fits", "(I)Z"⟩
abbrev w_Fr_fits : List Cond := .code y_Fr_fits cc_Fr_fits 2 (some .boolean) :: wG
abbrev r_Fr_fits : Room := { frames := 0, cells := 0, slots := 0, locals := 0 }
set_option maxRecDepth 100000 in
theorem lc_Fr_fits : Cond.code y_Fr_fits cc_Fr_fits 2 (some .boolean) ∈ wG := wG_of (List.mem_append_right _ (List.mem_of_getElem? (i := 682) rfl)) rfl
theorem li_Fr_fits : Cond.instanceMethod y_Fr_fits ∈ wG := wG_of (List.mem_append_right _ (List.mem_of_getElem? (i := 681) (by decide +kernel))) rfl
theorem ls_Fr_fits : Cond.selects R_Fr y_Fr_fits y_Fr_fits ∈ wG := wG_of (List.mem_append_left _ (List.mem_of_getElem? (i := 17) (by decide +kernel))) rfl
theorem hd_Fr_fits : y_Fr_fits.cls = R_Fr ∧ y_Fr_fits.cls ≠ "java/lang/invoke/MethodHandle" ∧ y_Fr_fits.cls ≠ "java/lang/invoke/VarHandle" ∧ (parseMethodDescriptor y_Fr_fits.desc).map (fun d => d.parameters.length) = some 1 := by decide +kernel
abbrev cc_Wr_refuse : ByteArray := prog_12_method_3_code
def y_Wr_refuse : MethodName := ⟨R_Wr, "refuse", "()V"⟩
abbrev w_Wr_refuse : List Cond := .code y_Wr_refuse cc_Wr_refuse 1 none :: wG
abbrev r_Wr_refuse : Room := { frames := 0, cells := 0, slots := 0, locals := 0 }
set_option maxRecDepth 100000 in
theorem lc_Wr_refuse : Cond.code y_Wr_refuse cc_Wr_refuse 1 none ∈ wG := wG_of (List.mem_append_right _ (List.mem_of_getElem? (i := 686) rfl)) rfl
theorem li_Wr_refuse : Cond.instanceMethod y_Wr_refuse ∈ wG := wG_of (List.mem_append_right _ (List.mem_of_getElem? (i := 684) (by decide +kernel))) rfl
theorem ls_Wr_refuse : Cond.selects R_Wr y_Wr_refuse y_Wr_refuse ∈ wG := wG_of (List.mem_append_right _ (List.mem_of_getElem? (i := 685) (by decide +kernel))) rfl
theorem hd_Wr_refuse : y_Wr_refuse.cls = R_Wr ∧ y_Wr_refuse.cls ≠ "java/lang/invoke/MethodHandle" ∧ y_Wr_refuse.cls ≠ "java/lang/invoke/VarHandle" ∧ (parseMethodDescriptor y_Wr_refuse.desc).map (fun d => d.parameters.length) = some 0 := by decide +kernel
abbrev cc_Fr_readRun : ByteArray := prog_3_method_6_code
def y_Fr_readRun : MethodName := ⟨R_Fr, "readRun", "(I)V"⟩
abbrev w_Fr_readRun : List Cond := .code y_Fr_readRun cc_Fr_readRun 3 none :: wG
abbrev r_Fr_readRun : Room := { frames := 2, cells := 0, slots := 0, locals := 44 }
set_option maxRecDepth 100000 in
theorem lc_Fr_readRun : Cond.code y_Fr_readRun cc_Fr_readRun 3 none ∈ wG := wG_of (List.mem_append_right _ (List.mem_of_getElem? (i := 691) rfl)) rfl
theorem li_Fr_readRun : Cond.instanceMethod y_Fr_readRun ∈ wG := wG_of (List.mem_append_right _ (List.mem_of_getElem? (i := 690) (by decide +kernel))) rfl
theorem ls_Fr_readRun : Cond.selects R_Fr y_Fr_readRun y_Fr_readRun ∈ wG := wG_of (List.mem_append_left _ (List.mem_of_getElem? (i := 18) (by decide +kernel))) rfl
theorem hd_Fr_readRun : y_Fr_readRun.cls = R_Fr ∧ y_Fr_readRun.cls ≠ "java/lang/invoke/MethodHandle" ∧ y_Fr_readRun.cls ≠ "java/lang/invoke/VarHandle" ∧ (parseMethodDescriptor y_Fr_readRun.desc).map (fun d => d.parameters.length) = some 1 := by decide +kernel
abbrev cc_Fr_readPack : ByteArray := prog_3_method_7_code
def y_Fr_readPack : MethodName := ⟨R_Fr, "readPack", "(I)V"⟩
abbrev w_Fr_readPack : List Cond := .code y_Fr_readPack cc_Fr_readPack 3 none :: wG
abbrev r_Fr_readPack : Room := { frames := 4, cells := 0, slots := 0, locals := 93 }
set_option maxRecDepth 100000 in
theorem lc_Fr_readPack : Cond.code y_Fr_readPack cc_Fr_readPack 3 none ∈ wG := wG_of (List.mem_append_right _ (List.mem_of_getElem? (i := 696) rfl)) rfl
theorem li_Fr_readPack : Cond.instanceMethod y_Fr_readPack ∈ wG := wG_of (List.mem_append_right _ (List.mem_of_getElem? (i := 695) (by decide +kernel))) rfl
theorem ls_Fr_readPack : Cond.selects R_Fr y_Fr_readPack y_Fr_readPack ∈ wG := wG_of (List.mem_append_left _ (List.mem_of_getElem? (i := 19) (by decide +kernel))) rfl
theorem hd_Fr_readPack : y_Fr_readPack.cls = R_Fr ∧ y_Fr_readPack.cls ≠ "java/lang/invoke/MethodHandle" ∧ y_Fr_readPack.cls ≠ "java/lang/invoke/VarHandle" ∧ (parseMethodDescriptor y_Fr_readPack.desc).map (fun d => d.parameters.length) = some 1 := by decide +kernel
abbrev cc_Fr_readLiterals : ByteArray := prog_3_method_8_code
def y_Fr_readLiterals : MethodName := ⟨R_Fr, "readLiterals", "()V"⟩
abbrev w_Fr_readLiterals : List Cond := .code y_Fr_readLiterals cc_Fr_readLiterals 4 none :: wG
abbrev r_Fr_readLiterals : Room := { frames := 3, cells := 0, slots := 0, locals := 67 }
set_option maxRecDepth 100000 in
theorem lc_Fr_readLiterals : Cond.code y_Fr_readLiterals cc_Fr_readLiterals 4 none ∈ wG := wG_of (List.mem_append_right _ (List.mem_of_getElem? (i := 700) rfl)) rfl
theorem li_Fr_readLiterals : Cond.instanceMethod y_Fr_readLiterals ∈ wG := wG_of (List.mem_append_right _ (List.mem_of_getElem? (i := 699) (by decide +kernel))) rfl
theorem ls_Fr_readLiterals : Cond.selects R_Fr y_Fr_readLiterals y_Fr_readLiterals ∈ wG := wG_of (List.mem_append_left _ (List.mem_of_getElem? (i := 20) (by decide +kernel))) rfl
theorem hd_Fr_readLiterals : y_Fr_readLiterals.cls = R_Fr ∧ y_Fr_readLiterals.cls ≠ "java/lang/invoke/MethodHandle" ∧ y_Fr_readLiterals.cls ≠ "java/lang/invoke/VarHandle" ∧ (parseMethodDescriptor y_Fr_readLiterals.desc).map (fun d => d.parameters.length) = some 0 := by decide +kernel
abbrev cc_Fr_readTree : ByteArray := prog_3_method_9_code
def y_Fr_readTree : MethodName := ⟨R_Fr, "readTree", "()V"⟩
abbrev w_Fr_readTree : List Cond := .code y_Fr_readTree cc_Fr_readTree 2 none :: wG
abbrev r_Fr_readTree : Room := { frames := 2, cells := 0, slots := 0, locals := 46 }
set_option maxRecDepth 100000 in
theorem lc_Fr_readTree : Cond.code y_Fr_readTree cc_Fr_readTree 2 none ∈ wG := wG_of (List.mem_append_right _ (List.mem_of_getElem? (i := 704) rfl)) rfl
theorem li_Fr_readTree : Cond.instanceMethod y_Fr_readTree ∈ wG := wG_of (List.mem_append_right _ (List.mem_of_getElem? (i := 703) (by decide +kernel))) rfl
theorem ls_Fr_readTree : Cond.selects R_Fr y_Fr_readTree y_Fr_readTree ∈ wG := wG_of (List.mem_append_left _ (List.mem_of_getElem? (i := 21) (by decide +kernel))) rfl
theorem hd_Fr_readTree : y_Fr_readTree.cls = R_Fr ∧ y_Fr_readTree.cls ≠ "java/lang/invoke/MethodHandle" ∧ y_Fr_readTree.cls ≠ "java/lang/invoke/VarHandle" ∧ (parseMethodDescriptor y_Fr_readTree.desc).map (fun d => d.parameters.length) = some 0 := by decide +kernel
abbrev cc_Wr_takeHalves : ByteArray := prog_12_method_7_code
def y_Wr_takeHalves : MethodName := ⟨R_Wr, "takeHalves", "([II)V"⟩
abbrev w_Wr_takeHalves : List Cond := .code y_Wr_takeHalves cc_Wr_takeHalves 5 none :: wG
abbrev r_Wr_takeHalves : Room := { frames := 0, cells := 0, slots := 0, locals := 0 }
set_option maxRecDepth 100000 in
theorem lc_Wr_takeHalves : Cond.code y_Wr_takeHalves cc_Wr_takeHalves 5 none ∈ wG := wG_of (List.mem_append_right _ (List.mem_of_getElem? (i := 708) rfl)) rfl
theorem li_Wr_takeHalves : Cond.instanceMethod y_Wr_takeHalves ∈ wG := wG_of (List.mem_append_right _ (List.mem_of_getElem? (i := 706) (by decide +kernel))) rfl
theorem ls_Wr_takeHalves : Cond.selects R_Wr y_Wr_takeHalves y_Wr_takeHalves ∈ wG := wG_of (List.mem_append_right _ (List.mem_of_getElem? (i := 707) (by decide +kernel))) rfl
theorem hd_Wr_takeHalves : y_Wr_takeHalves.cls = R_Wr ∧ y_Wr_takeHalves.cls ≠ "java/lang/invoke/MethodHandle" ∧ y_Wr_takeHalves.cls ≠ "java/lang/invoke/VarHandle" ∧ (parseMethodDescriptor y_Wr_takeHalves.desc).map (fun d => d.parameters.length) = some 2 := by decide +kernel
abbrev cc_Fr_readSymbols : ByteArray := prog_3_method_10_code
def y_Fr_readSymbols : MethodName := ⟨R_Fr, "readSymbols", "(I)V"⟩
abbrev w_Fr_readSymbols : List Cond := .code y_Fr_readSymbols cc_Fr_readSymbols 4 none :: wG
abbrev r_Fr_readSymbols : Room := { frames := 2, cells := 0, slots := 0, locals := 43 }
set_option maxRecDepth 100000 in
theorem lc_Fr_readSymbols : Cond.code y_Fr_readSymbols cc_Fr_readSymbols 4 none ∈ wG := wG_of (List.mem_append_right _ (List.mem_of_getElem? (i := 714) rfl)) rfl
theorem li_Fr_readSymbols : Cond.instanceMethod y_Fr_readSymbols ∈ wG := wG_of (List.mem_append_right _ (List.mem_of_getElem? (i := 713) (by decide +kernel))) rfl
theorem ls_Fr_readSymbols : Cond.selects R_Fr y_Fr_readSymbols y_Fr_readSymbols ∈ wG := wG_of (List.mem_append_left _ (List.mem_of_getElem? (i := 22) (by decide +kernel))) rfl
theorem hd_Fr_readSymbols : y_Fr_readSymbols.cls = R_Fr ∧ y_Fr_readSymbols.cls ≠ "java/lang/invoke/MethodHandle" ∧ y_Fr_readSymbols.cls ≠ "java/lang/invoke/VarHandle" ∧ (parseMethodDescriptor y_Fr_readSymbols.desc).map (fun d => d.parameters.length) = some 1 := by decide +kernel
abbrev cc_Wr_beginStream : ByteArray := prog_12_method_8_code
def y_Wr_beginStream : MethodName := ⟨R_Wr, "beginStream", "(I)V"⟩
abbrev w_Wr_beginStream : List Cond := .code y_Wr_beginStream cc_Wr_beginStream 3 none :: wG
abbrev r_Wr_beginStream : Room := { frames := 1, cells := 0, slots := 0, locals := 21 }
set_option maxRecDepth 100000 in
theorem lc_Wr_beginStream : Cond.code y_Wr_beginStream cc_Wr_beginStream 3 none ∈ wG := wG_of (List.mem_append_right _ (List.mem_of_getElem? (i := 718) rfl)) rfl
theorem li_Wr_beginStream : Cond.instanceMethod y_Wr_beginStream ∈ wG := wG_of (List.mem_append_right _ (List.mem_of_getElem? (i := 716) (by decide +kernel))) rfl
theorem ls_Wr_beginStream : Cond.selects R_Wr y_Wr_beginStream y_Wr_beginStream ∈ wG := wG_of (List.mem_append_right _ (List.mem_of_getElem? (i := 717) (by decide +kernel))) rfl
theorem hd_Wr_beginStream : y_Wr_beginStream.cls = R_Wr ∧ y_Wr_beginStream.cls ≠ "java/lang/invoke/MethodHandle" ∧ y_Wr_beginStream.cls ≠ "java/lang/invoke/VarHandle" ∧ (parseMethodDescriptor y_Wr_beginStream.desc).map (fun d => d.parameters.length) = some 1 := by decide +kernel
abbrev cc_Wr_nextBits : ByteArray := prog_12_method_10_code
def y_Wr_nextBits : MethodName := ⟨R_Wr, "nextBits", "(I)I"⟩
abbrev w_Wr_nextBits : List Cond := .code y_Wr_nextBits cc_Wr_nextBits 5 (some .int) :: wG
abbrev r_Wr_nextBits : Room := { frames := 0, cells := 0, slots := 0, locals := 0 }
set_option maxRecDepth 100000 in
theorem lc_Wr_nextBits : Cond.code y_Wr_nextBits cc_Wr_nextBits 5 (some .int) ∈ wG := wG_of (List.mem_append_right _ (List.mem_of_getElem? (i := 724) rfl)) rfl
theorem li_Wr_nextBits : Cond.instanceMethod y_Wr_nextBits ∈ wG := wG_of (List.mem_append_right _ (List.mem_of_getElem? (i := 722) (by decide +kernel))) rfl
theorem ls_Wr_nextBits : Cond.selects R_Wr y_Wr_nextBits y_Wr_nextBits ∈ wG := wG_of (List.mem_append_right _ (List.mem_of_getElem? (i := 723) (by decide +kernel))) rfl
theorem hd_Wr_nextBits : y_Wr_nextBits.cls = R_Wr ∧ y_Wr_nextBits.cls ≠ "java/lang/invoke/MethodHandle" ∧ y_Wr_nextBits.cls ≠ "java/lang/invoke/VarHandle" ∧ (parseMethodDescriptor y_Wr_nextBits.desc).map (fun d => d.parameters.length) = some 1 := by decide +kernel
abbrev cc_Wr_dropBits : ByteArray := prog_12_method_11_code
def y_Wr_dropBits : MethodName := ⟨R_Wr, "dropBits", "(I)V"⟩
abbrev w_Wr_dropBits : List Cond := .code y_Wr_dropBits cc_Wr_dropBits 2 none :: wG
abbrev r_Wr_dropBits : Room := { frames := 0, cells := 0, slots := 0, locals := 0 }
set_option maxRecDepth 100000 in
theorem lc_Wr_dropBits : Cond.code y_Wr_dropBits cc_Wr_dropBits 2 none ∈ wG := wG_of (List.mem_append_right _ (List.mem_of_getElem? (i := 729) rfl)) rfl
theorem li_Wr_dropBits : Cond.instanceMethod y_Wr_dropBits ∈ wG := wG_of (List.mem_append_right _ (List.mem_of_getElem? (i := 727) (by decide +kernel))) rfl
theorem ls_Wr_dropBits : Cond.selects R_Wr y_Wr_dropBits y_Wr_dropBits ∈ wG := wG_of (List.mem_append_right _ (List.mem_of_getElem? (i := 728) (by decide +kernel))) rfl
theorem hd_Wr_dropBits : y_Wr_dropBits.cls = R_Wr ∧ y_Wr_dropBits.cls ≠ "java/lang/invoke/MethodHandle" ∧ y_Wr_dropBits.cls ≠ "java/lang/invoke/VarHandle" ∧ (parseMethodDescriptor y_Wr_dropBits.desc).map (fun d => d.parameters.length) = some 1 := by decide +kernel
abbrev cc_Wr_endStream : ByteArray := prog_12_method_9_code
def y_Wr_endStream : MethodName := ⟨R_Wr, "endStream", "()V"⟩
abbrev w_Wr_endStream : List Cond := .code y_Wr_endStream cc_Wr_endStream 1 none :: wG
abbrev r_Wr_endStream : Room := { frames := 0, cells := 0, slots := 0, locals := 0 }
set_option maxRecDepth 100000 in
theorem lc_Wr_endStream : Cond.code y_Wr_endStream cc_Wr_endStream 1 none ∈ wG := wG_of (List.mem_append_right _ (List.mem_of_getElem? (i := 733) rfl)) rfl
theorem li_Wr_endStream : Cond.instanceMethod y_Wr_endStream ∈ wG := wG_of (List.mem_append_right _ (List.mem_of_getElem? (i := 731) (by decide +kernel))) rfl
theorem ls_Wr_endStream : Cond.selects R_Wr y_Wr_endStream y_Wr_endStream ∈ wG := wG_of (List.mem_append_right _ (List.mem_of_getElem? (i := 732) (by decide +kernel))) rfl
theorem hd_Wr_endStream : y_Wr_endStream.cls = R_Wr ∧ y_Wr_endStream.cls ≠ "java/lang/invoke/MethodHandle" ∧ y_Wr_endStream.cls ≠ "java/lang/invoke/VarHandle" ∧ (parseMethodDescriptor y_Wr_endStream.desc).map (fun d => d.parameters.length) = some 0 := by decide +kernel
abbrev cc_Sq_takeTables : ByteArray := prog_9_method_2_code
def y_Sq_takeTables : MethodName := ⟨R_Sq, "takeTables", "()V"⟩
abbrev w_Sq_takeTables : List Cond := .code y_Sq_takeTables cc_Sq_takeTables 2 none :: wG
abbrev r_Sq_takeTables : Room := { frames := 3, cells := 0, slots := 0, locals := 72 }
set_option maxRecDepth 100000 in
theorem lc_Sq_takeTables : Cond.code y_Sq_takeTables cc_Sq_takeTables 2 none ∈ wG := wG_of (List.mem_append_right _ (List.mem_of_getElem? (i := 737) rfl)) rfl
theorem li_Sq_takeTables : Cond.instanceMethod y_Sq_takeTables ∈ wG := wG_of (List.mem_append_right _ (List.mem_of_getElem? (i := 735) (by decide +kernel))) rfl
theorem ls_Sq_takeTables : Cond.selects R_Sq y_Sq_takeTables y_Sq_takeTables ∈ wG := wG_of (List.mem_append_right _ (List.mem_of_getElem? (i := 736) (by decide +kernel))) rfl
theorem hd_Sq_takeTables : y_Sq_takeTables.cls = R_Sq ∧ y_Sq_takeTables.cls ≠ "java/lang/invoke/MethodHandle" ∧ y_Sq_takeTables.cls ≠ "java/lang/invoke/VarHandle" ∧ (parseMethodDescriptor y_Sq_takeTables.desc).map (fun d => d.parameters.length) = some 0 := by decide +kernel
abbrev cc_Sq_takeTable : ByteArray := prog_9_method_3_code
def y_Sq_takeTable : MethodName := ⟨R_Sq, "takeTable", "(LPackFrames$StateTable;I)V"⟩
abbrev w_Sq_takeTable : List Cond := .code y_Sq_takeTable cc_Sq_takeTable 3 none :: wG
abbrev r_Sq_takeTable : Room := { frames := 2, cells := 0, slots := 0, locals := 50 }
set_option maxRecDepth 100000 in
theorem lc_Sq_takeTable : Cond.code y_Sq_takeTable cc_Sq_takeTable 3 none ∈ wG := wG_of (List.mem_append_right _ (List.mem_of_getElem? (i := 743) rfl)) rfl
theorem li_Sq_takeTable : Cond.instanceMethod y_Sq_takeTable ∈ wG := wG_of (List.mem_append_right _ (List.mem_of_getElem? (i := 742) (by decide +kernel))) rfl
theorem ls_Sq_takeTable : Cond.selects R_Sq y_Sq_takeTable y_Sq_takeTable ∈ wG := wG_of (List.mem_append_left _ (List.mem_of_getElem? (i := 23) (by decide +kernel))) rfl
theorem hd_Sq_takeTable : y_Sq_takeTable.cls = R_Sq ∧ y_Sq_takeTable.cls ≠ "java/lang/invoke/MethodHandle" ∧ y_Sq_takeTable.cls ≠ "java/lang/invoke/VarHandle" ∧ (parseMethodDescriptor y_Sq_takeTable.desc).map (fun d => d.parameters.length) = some 2 := by decide +kernel
abbrev cc_Sq_takeOneCode : ByteArray := prog_9_method_4_code
def y_Sq_takeOneCode : MethodName := ⟨R_Sq, "takeOneCode", "(LPackFrames$StateTable;)V"⟩
abbrev w_Sq_takeOneCode : List Cond := .code y_Sq_takeOneCode cc_Sq_takeOneCode 3 none :: wG
abbrev r_Sq_takeOneCode : Room := { frames := 1, cells := 0, slots := 0, locals := 21 }
set_option maxRecDepth 100000 in
theorem lc_Sq_takeOneCode : Cond.code y_Sq_takeOneCode cc_Sq_takeOneCode 3 none ∈ wG := wG_of (List.mem_append_right _ (List.mem_of_getElem? (i := 748) rfl)) rfl
theorem li_Sq_takeOneCode : Cond.instanceMethod y_Sq_takeOneCode ∈ wG := wG_of (List.mem_append_right _ (List.mem_of_getElem? (i := 747) (by decide +kernel))) rfl
theorem ls_Sq_takeOneCode : Cond.selects R_Sq y_Sq_takeOneCode y_Sq_takeOneCode ∈ wG := wG_of (List.mem_append_left _ (List.mem_of_getElem? (i := 24) (by decide +kernel))) rfl
theorem hd_Sq_takeOneCode : y_Sq_takeOneCode.cls = R_Sq ∧ y_Sq_takeOneCode.cls ≠ "java/lang/invoke/MethodHandle" ∧ y_Sq_takeOneCode.cls ≠ "java/lang/invoke/VarHandle" ∧ (parseMethodDescriptor y_Sq_takeOneCode.desc).map (fun d => d.parameters.length) = some 1 := by decide +kernel
abbrev cc_ST_keepOne : ByteArray := prog_10_method_2_code
def y_ST_keepOne : MethodName := ⟨R_ST, "keepOne", "(I)V"⟩
abbrev w_ST_keepOne : List Cond := .code y_ST_keepOne cc_ST_keepOne 2 none :: wG
abbrev r_ST_keepOne : Room := { frames := 0, cells := 0, slots := 0, locals := 0 }
set_option maxRecDepth 100000 in
theorem lc_ST_keepOne : Cond.code y_ST_keepOne cc_ST_keepOne 2 none ∈ wG := wG_of (List.mem_append_right _ (List.mem_of_getElem? (i := 752) rfl)) rfl
theorem li_ST_keepOne : Cond.instanceMethod y_ST_keepOne ∈ wG := wG_of (List.mem_append_right _ (List.mem_of_getElem? (i := 750) (by decide +kernel))) rfl
theorem ls_ST_keepOne : Cond.selects R_ST y_ST_keepOne y_ST_keepOne ∈ wG := wG_of (List.mem_append_right _ (List.mem_of_getElem? (i := 751) (by decide +kernel))) rfl
theorem hd_ST_keepOne : y_ST_keepOne.cls = R_ST ∧ y_ST_keepOne.cls ≠ "java/lang/invoke/MethodHandle" ∧ y_ST_keepOne.cls ≠ "java/lang/invoke/VarHandle" ∧ (parseMethodDescriptor y_ST_keepOne.desc).map (fun d => d.parameters.length) = some 1 := by decide +kernel
abbrev cc_Sq_takeCounts : ByteArray := prog_9_method_5_code
def y_Sq_takeCounts : MethodName := ⟨R_Sq, "takeCounts", "(LPackFrames$StateTable;)V"⟩
abbrev w_Sq_takeCounts : List Cond := .code y_Sq_takeCounts cc_Sq_takeCounts 5 none :: wG
abbrev r_Sq_takeCounts : Room := { frames := 1, cells := 0, slots := 0, locals := 26 }
set_option maxRecDepth 100000 in
theorem lc_Sq_takeCounts : Cond.code y_Sq_takeCounts cc_Sq_takeCounts 5 none ∈ wG := wG_of (List.mem_append_right _ (List.mem_of_getElem? (i := 756) rfl)) rfl
theorem li_Sq_takeCounts : Cond.instanceMethod y_Sq_takeCounts ∈ wG := wG_of (List.mem_append_right _ (List.mem_of_getElem? (i := 755) (by decide +kernel))) rfl
theorem ls_Sq_takeCounts : Cond.selects R_Sq y_Sq_takeCounts y_Sq_takeCounts ∈ wG := wG_of (List.mem_append_left _ (List.mem_of_getElem? (i := 25) (by decide +kernel))) rfl
theorem hd_Sq_takeCounts : y_Sq_takeCounts.cls = R_Sq ∧ y_Sq_takeCounts.cls ≠ "java/lang/invoke/MethodHandle" ∧ y_Sq_takeCounts.cls ≠ "java/lang/invoke/VarHandle" ∧ (parseMethodDescriptor y_Sq_takeCounts.desc).map (fun d => d.parameters.length) = some 1 := by decide +kernel
abbrev cc_Fr_readSequences : ByteArray := prog_3_method_11_code
def y_Fr_readSequences : MethodName := ⟨R_Fr, "readSequences", "(I)V"⟩
abbrev w_Fr_readSequences : List Cond := .code y_Fr_readSequences cc_Fr_readSequences 3 none :: wG
abbrev r_Fr_readSequences : Room := { frames := 3, cells := 0, slots := 0, locals := 69 }
set_option maxRecDepth 100000 in
theorem lc_Fr_readSequences : Cond.code y_Fr_readSequences cc_Fr_readSequences 3 none ∈ wG := wG_of (List.mem_append_right _ (List.mem_of_getElem? (i := 761) rfl)) rfl
theorem li_Fr_readSequences : Cond.instanceMethod y_Fr_readSequences ∈ wG := wG_of (List.mem_append_right _ (List.mem_of_getElem? (i := 760) (by decide +kernel))) rfl
theorem ls_Fr_readSequences : Cond.selects R_Fr y_Fr_readSequences y_Fr_readSequences ∈ wG := wG_of (List.mem_append_left _ (List.mem_of_getElem? (i := 26) (by decide +kernel))) rfl
theorem hd_Fr_readSequences : y_Fr_readSequences.cls = R_Fr ∧ y_Fr_readSequences.cls ≠ "java/lang/invoke/MethodHandle" ∧ y_Fr_readSequences.cls ≠ "java/lang/invoke/VarHandle" ∧ (parseMethodDescriptor y_Fr_readSequences.desc).map (fun d => d.parameters.length) = some 1 := by decide +kernel
abbrev cc_Sq_takeFirstStates : ByteArray := prog_9_method_6_code
def y_Sq_takeFirstStates : MethodName := ⟨R_Sq, "takeFirstStates", "()V"⟩
abbrev w_Sq_takeFirstStates : List Cond := .code y_Sq_takeFirstStates cc_Sq_takeFirstStates 1 none :: wG
abbrev r_Sq_takeFirstStates : Room := { frames := 2, cells := 0, slots := 0, locals := 46 }
set_option maxRecDepth 100000 in
theorem lc_Sq_takeFirstStates : Cond.code y_Sq_takeFirstStates cc_Sq_takeFirstStates 1 none ∈ wG := wG_of (List.mem_append_right _ (List.mem_of_getElem? (i := 765) rfl)) rfl
theorem li_Sq_takeFirstStates : Cond.instanceMethod y_Sq_takeFirstStates ∈ wG := wG_of (List.mem_append_right _ (List.mem_of_getElem? (i := 763) (by decide +kernel))) rfl
theorem ls_Sq_takeFirstStates : Cond.selects R_Sq y_Sq_takeFirstStates y_Sq_takeFirstStates ∈ wG := wG_of (List.mem_append_right _ (List.mem_of_getElem? (i := 764) (by decide +kernel))) rfl
theorem hd_Sq_takeFirstStates : y_Sq_takeFirstStates.cls = R_Sq ∧ y_Sq_takeFirstStates.cls ≠ "java/lang/invoke/MethodHandle" ∧ y_Sq_takeFirstStates.cls ≠ "java/lang/invoke/VarHandle" ∧ (parseMethodDescriptor y_Sq_takeFirstStates.desc).map (fun d => d.parameters.length) = some 0 := by decide +kernel
abbrev cc_Wr_takeBits : ByteArray := prog_12_method_12_code
def y_Wr_takeBits : MethodName := ⟨R_Wr, "takeBits", "(I)I"⟩
abbrev w_Wr_takeBits : List Cond := .code y_Wr_takeBits cc_Wr_takeBits 3 (some .int) :: wG
abbrev r_Wr_takeBits : Room := { frames := 1, cells := 0, slots := 0, locals := 24 }
set_option maxRecDepth 100000 in
theorem lc_Wr_takeBits : Cond.code y_Wr_takeBits cc_Wr_takeBits 3 (some .int) ∈ wG := wG_of (List.mem_append_right _ (List.mem_of_getElem? (i := 769) rfl)) rfl
theorem li_Wr_takeBits : Cond.instanceMethod y_Wr_takeBits ∈ wG := wG_of (List.mem_append_right _ (List.mem_of_getElem? (i := 767) (by decide +kernel))) rfl
theorem ls_Wr_takeBits : Cond.selects R_Wr y_Wr_takeBits y_Wr_takeBits ∈ wG := wG_of (List.mem_append_right _ (List.mem_of_getElem? (i := 768) (by decide +kernel))) rfl
theorem hd_Wr_takeBits : y_Wr_takeBits.cls = R_Wr ∧ y_Wr_takeBits.cls ≠ "java/lang/invoke/MethodHandle" ∧ y_Wr_takeBits.cls ≠ "java/lang/invoke/VarHandle" ∧ (parseMethodDescriptor y_Wr_takeBits.desc).map (fun d => d.parameters.length) = some 1 := by decide +kernel
abbrev cc_Sq_takeNextStates : ByteArray := prog_9_method_7_code
def y_Sq_takeNextStates : MethodName := ⟨R_Sq, "takeNextStates", "()V"⟩
abbrev w_Sq_takeNextStates : List Cond := .code y_Sq_takeNextStates cc_Sq_takeNextStates 1 none :: wG
abbrev r_Sq_takeNextStates : Room := { frames := 2, cells := 0, slots := 0, locals := 46 }
set_option maxRecDepth 100000 in
theorem lc_Sq_takeNextStates : Cond.code y_Sq_takeNextStates cc_Sq_takeNextStates 1 none ∈ wG := wG_of (List.mem_append_right _ (List.mem_of_getElem? (i := 775) rfl)) rfl
theorem li_Sq_takeNextStates : Cond.instanceMethod y_Sq_takeNextStates ∈ wG := wG_of (List.mem_append_right _ (List.mem_of_getElem? (i := 773) (by decide +kernel))) rfl
theorem ls_Sq_takeNextStates : Cond.selects R_Sq y_Sq_takeNextStates y_Sq_takeNextStates ∈ wG := wG_of (List.mem_append_right _ (List.mem_of_getElem? (i := 774) (by decide +kernel))) rfl
theorem hd_Sq_takeNextStates : y_Sq_takeNextStates.cls = R_Sq ∧ y_Sq_takeNextStates.cls ≠ "java/lang/invoke/MethodHandle" ∧ y_Sq_takeNextStates.cls ≠ "java/lang/invoke/VarHandle" ∧ (parseMethodDescriptor y_Sq_takeNextStates.desc).map (fun d => d.parameters.length) = some 0 := by decide +kernel
abbrev cc_ST_width : ByteArray := prog_10_method_7_code
def y_ST_width : MethodName := ⟨R_ST, "width", "()I"⟩
abbrev w_ST_width : List Cond := .code y_ST_width cc_ST_width 1 (some .int) :: wG
abbrev r_ST_width : Room := { frames := 0, cells := 0, slots := 0, locals := 0 }
set_option maxRecDepth 100000 in
theorem lc_ST_width : Cond.code y_ST_width cc_ST_width 1 (some .int) ∈ wG := wG_of (List.mem_append_right _ (List.mem_of_getElem? (i := 779) rfl)) rfl
theorem li_ST_width : Cond.instanceMethod y_ST_width ∈ wG := wG_of (List.mem_append_right _ (List.mem_of_getElem? (i := 777) (by decide +kernel))) rfl
theorem ls_ST_width : Cond.selects R_ST y_ST_width y_ST_width ∈ wG := wG_of (List.mem_append_right _ (List.mem_of_getElem? (i := 778) (by decide +kernel))) rfl
theorem hd_ST_width : y_ST_width.cls = R_ST ∧ y_ST_width.cls ≠ "java/lang/invoke/MethodHandle" ∧ y_ST_width.cls ≠ "java/lang/invoke/VarHandle" ∧ (parseMethodDescriptor y_ST_width.desc).map (fun d => d.parameters.length) = some 0 := by decide +kernel
abbrev cc_ST_goOn : ByteArray := prog_10_method_8_code
def y_ST_goOn : MethodName := ⟨R_ST, "goOn", "(I)V"⟩
abbrev w_ST_goOn : List Cond := .code y_ST_goOn cc_ST_goOn 2 none :: wG
abbrev r_ST_goOn : Room := { frames := 0, cells := 0, slots := 0, locals := 0 }
set_option maxRecDepth 100000 in
theorem lc_ST_goOn : Cond.code y_ST_goOn cc_ST_goOn 2 none ∈ wG := wG_of (List.mem_append_right _ (List.mem_of_getElem? (i := 783) rfl)) rfl
theorem li_ST_goOn : Cond.instanceMethod y_ST_goOn ∈ wG := wG_of (List.mem_append_right _ (List.mem_of_getElem? (i := 781) (by decide +kernel))) rfl
theorem ls_ST_goOn : Cond.selects R_ST y_ST_goOn y_ST_goOn ∈ wG := wG_of (List.mem_append_right _ (List.mem_of_getElem? (i := 782) (by decide +kernel))) rfl
theorem hd_ST_goOn : y_ST_goOn.cls = R_ST ∧ y_ST_goOn.cls ≠ "java/lang/invoke/MethodHandle" ∧ y_ST_goOn.cls ≠ "java/lang/invoke/VarHandle" ∧ (parseMethodDescriptor y_ST_goOn.desc).map (fun d => d.parameters.length) = some 1 := by decide +kernel
abbrev cc_Sq_takeSequence : ByteArray := prog_9_method_8_code
def y_Sq_takeSequence : MethodName := ⟨R_Sq, "takeSequence", "()V"⟩
abbrev w_Sq_takeSequence : List Cond := .code y_Sq_takeSequence cc_Sq_takeSequence 4 none :: wG
abbrev r_Sq_takeSequence : Room := { frames := 2, cells := 0, slots := 0, locals := 46 }
set_option maxRecDepth 100000 in
theorem lc_Sq_takeSequence : Cond.code y_Sq_takeSequence cc_Sq_takeSequence 4 none ∈ wG := wG_of (List.mem_append_right _ (List.mem_of_getElem? (i := 787) rfl)) rfl
theorem li_Sq_takeSequence : Cond.instanceMethod y_Sq_takeSequence ∈ wG := wG_of (List.mem_append_right _ (List.mem_of_getElem? (i := 785) (by decide +kernel))) rfl
theorem ls_Sq_takeSequence : Cond.selects R_Sq y_Sq_takeSequence y_Sq_takeSequence ∈ wG := wG_of (List.mem_append_right _ (List.mem_of_getElem? (i := 786) (by decide +kernel))) rfl
theorem hd_Sq_takeSequence : y_Sq_takeSequence.cls = R_Sq ∧ y_Sq_takeSequence.cls ≠ "java/lang/invoke/MethodHandle" ∧ y_Sq_takeSequence.cls ≠ "java/lang/invoke/VarHandle" ∧ (parseMethodDescriptor y_Sq_takeSequence.desc).map (fun d => d.parameters.length) = some 0 := by decide +kernel
abbrev cc_ST_code : ByteArray := prog_10_method_6_code
def y_ST_code : MethodName := ⟨R_ST, "code", "()I"⟩
abbrev w_ST_code : List Cond := .code y_ST_code cc_ST_code 1 (some .int) :: wG
abbrev r_ST_code : Room := { frames := 0, cells := 0, slots := 0, locals := 0 }
set_option maxRecDepth 100000 in
theorem lc_ST_code : Cond.code y_ST_code cc_ST_code 1 (some .int) ∈ wG := wG_of (List.mem_append_right _ (List.mem_of_getElem? (i := 791) rfl)) rfl
theorem li_ST_code : Cond.instanceMethod y_ST_code ∈ wG := wG_of (List.mem_append_right _ (List.mem_of_getElem? (i := 789) (by decide +kernel))) rfl
theorem ls_ST_code : Cond.selects R_ST y_ST_code y_ST_code ∈ wG := wG_of (List.mem_append_right _ (List.mem_of_getElem? (i := 790) (by decide +kernel))) rfl
theorem hd_ST_code : y_ST_code.cls = R_ST ∧ y_ST_code.cls ≠ "java/lang/invoke/MethodHandle" ∧ y_ST_code.cls ≠ "java/lang/invoke/VarHandle" ∧ (parseMethodDescriptor y_ST_code.desc).map (fun d => d.parameters.length) = some 0 := by decide +kernel
abbrev cc_Fr_putLiterals : ByteArray := prog_3_method_12_code
def y_Fr_putLiterals : MethodName := ⟨R_Fr, "putLiterals", "(I)V"⟩
abbrev w_Fr_putLiterals : List Cond := .code y_Fr_putLiterals cc_Fr_putLiterals 3 none :: wG
abbrev r_Fr_putLiterals : Room := { frames := 1, cells := 0, slots := 0, locals := 21 }
set_option maxRecDepth 100000 in
theorem lc_Fr_putLiterals : Cond.code y_Fr_putLiterals cc_Fr_putLiterals 3 none ∈ wG := wG_of (List.mem_append_right _ (List.mem_of_getElem? (i := 799) rfl)) rfl
theorem li_Fr_putLiterals : Cond.instanceMethod y_Fr_putLiterals ∈ wG := wG_of (List.mem_append_right _ (List.mem_of_getElem? (i := 798) (by decide +kernel))) rfl
theorem ls_Fr_putLiterals : Cond.selects R_Fr y_Fr_putLiterals y_Fr_putLiterals ∈ wG := wG_of (List.mem_append_left _ (List.mem_of_getElem? (i := 27) (by decide +kernel))) rfl
theorem hd_Fr_putLiterals : y_Fr_putLiterals.cls = R_Fr ∧ y_Fr_putLiterals.cls ≠ "java/lang/invoke/MethodHandle" ∧ y_Fr_putLiterals.cls ≠ "java/lang/invoke/VarHandle" ∧ (parseMethodDescriptor y_Fr_putLiterals.desc).map (fun d => d.parameters.length) = some 1 := by decide +kernel
abbrev cc_Fr_putMatch : ByteArray := prog_3_method_13_code
def y_Fr_putMatch : MethodName := ⟨R_Fr, "putMatch", "()V"⟩
abbrev w_Fr_putMatch : List Cond := .code y_Fr_putMatch cc_Fr_putMatch 3 none :: wG
abbrev r_Fr_putMatch : Room := { frames := 2, cells := 0, slots := 0, locals := 46 }
set_option maxRecDepth 100000 in
theorem lc_Fr_putMatch : Cond.code y_Fr_putMatch cc_Fr_putMatch 3 none ∈ wG := wG_of (List.mem_append_right _ (List.mem_of_getElem? (i := 803) rfl)) rfl
theorem li_Fr_putMatch : Cond.instanceMethod y_Fr_putMatch ∈ wG := wG_of (List.mem_append_right _ (List.mem_of_getElem? (i := 802) (by decide +kernel))) rfl
theorem ls_Fr_putMatch : Cond.selects R_Fr y_Fr_putMatch y_Fr_putMatch ∈ wG := wG_of (List.mem_append_left _ (List.mem_of_getElem? (i := 28) (by decide +kernel))) rfl
theorem hd_Fr_putMatch : y_Fr_putMatch.cls = R_Fr ∧ y_Fr_putMatch.cls ≠ "java/lang/invoke/MethodHandle" ∧ y_Fr_putMatch.cls ≠ "java/lang/invoke/VarHandle" ∧ (parseMethodDescriptor y_Fr_putMatch.desc).map (fun d => d.parameters.length) = some 0 := by decide +kernel
abbrev cc_PF_placeBehindSkip : ByteArray := prog_1_method_12_code
def y_PF_placeBehindSkip : MethodName := ⟨R_PF, "placeBehindSkip", "(I)I"⟩
abbrev w_PF_placeBehindSkip : List Cond := .code y_PF_placeBehindSkip cc_PF_placeBehindSkip 3 (some .int) :: wG
abbrev r_PF_placeBehindSkip : Room := { frames := 0, cells := 0, slots := 0, locals := 0 }
set_option maxRecDepth 100000 in
theorem lc_PF_placeBehindSkip : Cond.code y_PF_placeBehindSkip cc_PF_placeBehindSkip 3 (some .int) ∈ wG := wG_of (List.mem_append_right _ (List.mem_of_getElem? (i := 810) rfl)) rfl
theorem li_PF_placeBehindSkip : Cond.instanceMethod y_PF_placeBehindSkip ∈ wG := wG_of (List.mem_append_right _ (List.mem_of_getElem? (i := 809) (by decide +kernel))) rfl
theorem ls_PF_placeBehindSkip : Cond.selects R_PF y_PF_placeBehindSkip y_PF_placeBehindSkip ∈ wG := wG_of (List.mem_append_left _ (List.mem_of_getElem? (i := 29) (by decide +kernel))) rfl
theorem hd_PF_placeBehindSkip : y_PF_placeBehindSkip.cls = R_PF ∧ y_PF_placeBehindSkip.cls ≠ "java/lang/invoke/MethodHandle" ∧ y_PF_placeBehindSkip.cls ≠ "java/lang/invoke/VarHandle" ∧ (parseMethodDescriptor y_PF_placeBehindSkip.desc).map (fun d => d.parameters.length) = some 1 := by decide +kernel
abbrev cc_PF_mark : ByteArray := prog_1_method_13_code
def y_PF_mark : MethodName := ⟨R_PF, "mark", "()I"⟩
abbrev w_PF_mark : List Cond := .code y_PF_mark cc_PF_mark 1 (some .int) :: wG
abbrev r_PF_mark : Room := { frames := 1, cells := 0, slots := 0, locals := 23 }
set_option maxRecDepth 100000 in
theorem lc_PF_mark : Cond.code y_PF_mark cc_PF_mark 1 (some .int) ∈ wG := wG_of (List.mem_append_right _ (List.mem_of_getElem? (i := 814) rfl)) rfl
theorem li_PF_mark : Cond.instanceMethod y_PF_mark ∈ wG := wG_of (List.mem_append_right _ (List.mem_of_getElem? (i := 812) (by decide +kernel))) rfl
theorem ls_PF_mark : Cond.selects R_PF y_PF_mark y_PF_mark ∈ wG := wG_of (List.mem_append_right _ (List.mem_of_getElem? (i := 813) (by decide +kernel))) rfl
theorem hd_PF_mark : y_PF_mark.cls = R_PF ∧ y_PF_mark.cls ≠ "java/lang/invoke/MethodHandle" ∧ y_PF_mark.cls ≠ "java/lang/invoke/VarHandle" ∧ (parseMethodDescriptor y_PF_mark.desc).map (fun d => d.parameters.length) = some 0 := by decide +kernel
abbrev cc_PF_usual : ByteArray := prog_1_method_14_code
def y_PF_usual : MethodName := ⟨R_PF, "usual", "(III)I"⟩
abbrev w_PF_usual : List Cond := .code y_PF_usual cc_PF_usual 5 (some .int) :: wG
abbrev r_PF_usual : Room := { frames := 0, cells := 0, slots := 0, locals := 0 }
set_option maxRecDepth 100000 in
theorem lc_PF_usual : Cond.code y_PF_usual cc_PF_usual 5 (some .int) ∈ wG := wG_of (List.mem_append_right _ (List.mem_of_getElem? (i := 818) rfl)) rfl
theorem li_PF_usual : Cond.instanceMethod y_PF_usual ∈ wG := wG_of (List.mem_append_right _ (List.mem_of_getElem? (i := 816) (by decide +kernel))) rfl
theorem ls_PF_usual : Cond.selects R_PF y_PF_usual y_PF_usual ∈ wG := wG_of (List.mem_append_right _ (List.mem_of_getElem? (i := 817) (by decide +kernel))) rfl
theorem hd_PF_usual : y_PF_usual.cls = R_PF ∧ y_PF_usual.cls ≠ "java/lang/invoke/MethodHandle" ∧ y_PF_usual.cls ≠ "java/lang/invoke/VarHandle" ∧ (parseMethodDescriptor y_PF_usual.desc).map (fun d => d.parameters.length) = some 3 := by decide +kernel
abbrev cc_Md_init : ByteArray := prog_14_method_1_code
def y_Md_init : MethodName := ⟨R_Md, "<init>", "()V"⟩
abbrev w_Md_init : List Cond := .code y_Md_init cc_Md_init 1 none :: wG
abbrev r_Md_init : Room := { frames := 1, cells := 0, slots := 0, locals := 20 }
set_option maxRecDepth 100000 in
theorem lc_Md_init : Cond.code y_Md_init cc_Md_init 1 none ∈ wG := wG_of (List.mem_append_right _ (List.mem_of_getElem? (i := 823) rfl)) rfl
theorem li_Md_init : Cond.instanceMethod y_Md_init ∈ wG := wG_of (List.mem_append_right _ (List.mem_of_getElem? (i := 822) (by decide +kernel))) rfl
theorem hd_Md_init : y_Md_init.cls = R_Md ∧ y_Md_init.cls ≠ "java/lang/invoke/MethodHandle" ∧ y_Md_init.cls ≠ "java/lang/invoke/VarHandle" ∧ (parseMethodDescriptor y_Md_init.desc).map (fun d => d.parameters.length) = some 0 := by decide +kernel
abbrev cc_Md_write : ByteArray := prog_14_method_2_code
def y_Md_write : MethodName := ⟨R_Md, "write", "(IJ)Z"⟩
abbrev w_Md_write : List Cond := .code y_Md_write cc_Md_write 5 (some .boolean) :: wG
abbrev r_Md_write : Room := { frames := 0, cells := 0, slots := 0, locals := 0 }
set_option maxRecDepth 100000 in
theorem lc_Md_write : Cond.code y_Md_write cc_Md_write 5 (some .boolean) ∈ wG := wG_of (List.mem_append_right _ (List.mem_of_getElem? (i := 956) rfl)) rfl
theorem li_Md_write : Cond.instanceMethod y_Md_write ∈ wG := wG_of (List.mem_append_right _ (List.mem_of_getElem? (i := 954) (by decide +kernel))) rfl
theorem ls_Md_write : Cond.selects R_Md y_Md_write y_Md_write ∈ wG := wG_of (List.mem_append_right _ (List.mem_of_getElem? (i := 955) (by decide +kernel))) rfl
theorem hd_Md_write : y_Md_write.cls = R_Md ∧ y_Md_write.cls ≠ "java/lang/invoke/MethodHandle" ∧ y_Md_write.cls ≠ "java/lang/invoke/VarHandle" ∧ (parseMethodDescriptor y_Md_write.desc).map (fun d => d.parameters.length) = some 2 := by decide +kernel
abbrev cc_Md_clear : ByteArray := prog_14_method_3_code
def y_Md_clear : MethodName := ⟨R_Md, "clear", "()V"⟩
abbrev w_Md_clear : List Cond := .code y_Md_clear cc_Md_clear 1 none :: wG
abbrev r_Md_clear : Room := { frames := 0, cells := 0, slots := 0, locals := 0 }
set_option maxRecDepth 100000 in
theorem lc_Md_clear : Cond.code y_Md_clear cc_Md_clear 1 none ∈ wG := wG_of (List.mem_append_right _ (List.mem_of_getElem? (i := 960) rfl)) rfl
theorem li_Md_clear : Cond.instanceMethod y_Md_clear ∈ wG := wG_of (List.mem_append_right _ (List.mem_of_getElem? (i := 958) (by decide +kernel))) rfl
theorem ls_Md_clear : Cond.selects R_Md y_Md_clear y_Md_clear ∈ wG := wG_of (List.mem_append_right _ (List.mem_of_getElem? (i := 959) (by decide +kernel))) rfl
theorem hd_Md_clear : y_Md_clear.cls = R_Md ∧ y_Md_clear.cls ≠ "java/lang/invoke/MethodHandle" ∧ y_Md_clear.cls ≠ "java/lang/invoke/VarHandle" ∧ (parseMethodDescriptor y_Md_clear.desc).map (fun d => d.parameters.length) = some 0 := by decide +kernel
abbrev cc_Md_content : ByteArray := prog_14_method_4_code
def y_Md_content : MethodName := ⟨R_Md, "content", "(I)I"⟩
abbrev w_Md_content : List Cond := .code y_Md_content cc_Md_content 2 (some .int) :: wG
abbrev r_Md_content : Room := { frames := 0, cells := 0, slots := 0, locals := 0 }
set_option maxRecDepth 100000 in
theorem lc_Md_content : Cond.code y_Md_content cc_Md_content 2 (some .int) ∈ wG := wG_of (List.mem_append_right _ (List.mem_of_getElem? (i := 964) rfl)) rfl
theorem li_Md_content : Cond.instanceMethod y_Md_content ∈ wG := wG_of (List.mem_append_right _ (List.mem_of_getElem? (i := 962) (by decide +kernel))) rfl
theorem ls_Md_content : Cond.selects R_Md y_Md_content y_Md_content ∈ wG := wG_of (List.mem_append_right _ (List.mem_of_getElem? (i := 963) (by decide +kernel))) rfl
theorem hd_Md_content : y_Md_content.cls = R_Md ∧ y_Md_content.cls ≠ "java/lang/invoke/MethodHandle" ∧ y_Md_content.cls ≠ "java/lang/invoke/VarHandle" ∧ (parseMethodDescriptor y_Md_content.desc).map (fun d => d.parameters.length) = some 1 := by decide +kernel
abbrev cc_Md_put : ByteArray := prog_14_method_5_code
def y_Md_put : MethodName := ⟨R_Md, "put", "(IJ)Z"⟩
abbrev w_Md_put : List Cond := .code y_Md_put cc_Md_put 5 (some .boolean) :: wG
abbrev r_Md_put : Room := { frames := 0, cells := 0, slots := 0, locals := 0 }
set_option maxRecDepth 100000 in
theorem lc_Md_put : Cond.code y_Md_put cc_Md_put 5 (some .boolean) ∈ wG := wG_of (List.mem_append_right _ (List.mem_of_getElem? (i := 968) rfl)) rfl
theorem li_Md_put : Cond.instanceMethod y_Md_put ∈ wG := wG_of (List.mem_append_right _ (List.mem_of_getElem? (i := 966) (by decide +kernel))) rfl
theorem ls_Md_put : Cond.selects R_Md y_Md_put y_Md_put ∈ wG := wG_of (List.mem_append_right _ (List.mem_of_getElem? (i := 967) (by decide +kernel))) rfl
theorem hd_Md_put : y_Md_put.cls = R_Md ∧ y_Md_put.cls ≠ "java/lang/invoke/MethodHandle" ∧ y_Md_put.cls ≠ "java/lang/invoke/VarHandle" ∧ (parseMethodDescriptor y_Md_put.desc).map (fun d => d.parameters.length) = some 2 := by decide +kernel
abbrev cc_Md_wipe : ByteArray := prog_14_method_6_code
def y_Md_wipe : MethodName := ⟨R_Md, "wipe", "()V"⟩
abbrev w_Md_wipe : List Cond := .code y_Md_wipe cc_Md_wipe 1 none :: wG
abbrev r_Md_wipe : Room := { frames := 0, cells := 0, slots := 0, locals := 0 }
set_option maxRecDepth 100000 in
theorem lc_Md_wipe : Cond.code y_Md_wipe cc_Md_wipe 1 none ∈ wG := wG_of (List.mem_append_right _ (List.mem_of_getElem? (i := 972) rfl)) rfl
theorem li_Md_wipe : Cond.instanceMethod y_Md_wipe ∈ wG := wG_of (List.mem_append_right _ (List.mem_of_getElem? (i := 970) (by decide +kernel))) rfl
theorem ls_Md_wipe : Cond.selects R_Md y_Md_wipe y_Md_wipe ∈ wG := wG_of (List.mem_append_right _ (List.mem_of_getElem? (i := 971) (by decide +kernel))) rfl
theorem hd_Md_wipe : y_Md_wipe.cls = R_Md ∧ y_Md_wipe.cls ≠ "java/lang/invoke/MethodHandle" ∧ y_Md_wipe.cls ≠ "java/lang/invoke/VarHandle" ∧ (parseMethodDescriptor y_Md_wipe.desc).map (fun d => d.parameters.length) = some 0 := by decide +kernel
abbrev cc_Md_wire : ByteArray := prog_14_method_7_code
def y_Md_wire : MethodName := ⟨R_Md, "wire", "(I)I"⟩
abbrev w_Md_wire : List Cond := .code y_Md_wire cc_Md_wire 2 (some .int) :: wG
abbrev r_Md_wire : Room := { frames := 0, cells := 0, slots := 0, locals := 0 }
set_option maxRecDepth 100000 in
theorem lc_Md_wire : Cond.code y_Md_wire cc_Md_wire 2 (some .int) ∈ wG := wG_of (List.mem_append_right _ (List.mem_of_getElem? (i := 976) rfl)) rfl
theorem li_Md_wire : Cond.instanceMethod y_Md_wire ∈ wG := wG_of (List.mem_append_right _ (List.mem_of_getElem? (i := 974) (by decide +kernel))) rfl
theorem ls_Md_wire : Cond.selects R_Md y_Md_wire y_Md_wire ∈ wG := wG_of (List.mem_append_right _ (List.mem_of_getElem? (i := 975) (by decide +kernel))) rfl
theorem hd_Md_wire : y_Md_wire.cls = R_Md ∧ y_Md_wire.cls ≠ "java/lang/invoke/MethodHandle" ∧ y_Md_wire.cls ≠ "java/lang/invoke/VarHandle" ∧ (parseMethodDescriptor y_Md_wire.desc).map (fun d => d.parameters.length) = some 1 := by decide +kernel
abbrev cc_Md_spoil : ByteArray := prog_14_method_8_code
def y_Md_spoil : MethodName := ⟨R_Md, "spoil", "(II)Z"⟩
abbrev w_Md_spoil : List Cond := .code y_Md_spoil cc_Md_spoil 3 (some .boolean) :: wG
abbrev r_Md_spoil : Room := { frames := 0, cells := 0, slots := 0, locals := 0 }
set_option maxRecDepth 100000 in
theorem lc_Md_spoil : Cond.code y_Md_spoil cc_Md_spoil 3 (some .boolean) ∈ wG := wG_of (List.mem_append_right _ (List.mem_of_getElem? (i := 980) rfl)) rfl
theorem li_Md_spoil : Cond.instanceMethod y_Md_spoil ∈ wG := wG_of (List.mem_append_right _ (List.mem_of_getElem? (i := 978) (by decide +kernel))) rfl
theorem ls_Md_spoil : Cond.selects R_Md y_Md_spoil y_Md_spoil ∈ wG := wG_of (List.mem_append_right _ (List.mem_of_getElem? (i := 979) (by decide +kernel))) rfl
theorem hd_Md_spoil : y_Md_spoil.cls = R_Md ∧ y_Md_spoil.cls ≠ "java/lang/invoke/MethodHandle" ∧ y_Md_spoil.cls ≠ "java/lang/invoke/VarHandle" ∧ (parseMethodDescriptor y_Md_spoil.desc).map (fun d => d.parameters.length) = some 2 := by decide +kernel
abbrev cc_Md_mark : ByteArray := prog_14_method_10_code
def y_Md_mark : MethodName := ⟨R_Md, "mark", "()I"⟩
abbrev w_Md_mark : List Cond := .code y_Md_mark cc_Md_mark 3 (some .int) :: wG
abbrev r_Md_mark : Room := { frames := 1, cells := 0, slots := 0, locals := 21 }
set_option maxRecDepth 100000 in
theorem lc_Md_mark : Cond.code y_Md_mark cc_Md_mark 3 (some .int) ∈ wG := wG_of (List.mem_append_right _ (List.mem_of_getElem? (i := 984) rfl)) rfl
theorem li_Md_mark : Cond.instanceMethod y_Md_mark ∈ wG := wG_of (List.mem_append_right _ (List.mem_of_getElem? (i := 982) (by decide +kernel))) rfl
theorem ls_Md_mark : Cond.selects R_Md y_Md_mark y_Md_mark ∈ wG := wG_of (List.mem_append_right _ (List.mem_of_getElem? (i := 983) (by decide +kernel))) rfl
theorem hd_Md_mark : y_Md_mark.cls = R_Md ∧ y_Md_mark.cls ≠ "java/lang/invoke/MethodHandle" ∧ y_Md_mark.cls ≠ "java/lang/invoke/VarHandle" ∧ (parseMethodDescriptor y_Md_mark.desc).map (fun d => d.parameters.length) = some 0 := by decide +kernel
abbrev cc_Md_mixed : ByteArray := prog_14_method_9_code
def y_Md_mixed : MethodName := ⟨R_Md, "mixed", "(II)I"⟩
abbrev w_Md_mixed : List Cond := .code y_Md_mixed cc_Md_mixed 2 (some .int) :: wG
abbrev r_Md_mixed : Room := { frames := 0, cells := 0, slots := 0, locals := 0 }
set_option maxRecDepth 100000 in
theorem lc_Md_mixed : Cond.code y_Md_mixed cc_Md_mixed 2 (some .int) ∈ wG := wG_of (List.mem_append_right _ (List.mem_of_getElem? (i := 987) rfl)) rfl
theorem lst_Md_mixed : Cond.static y_Md_mixed ∈ wG := wG_of (List.mem_append_right _ (List.mem_of_getElem? (i := 986) (by decide +kernel))) rfl
theorem hd_Md_mixed : y_Md_mixed.cls = R_Md ∧ y_Md_mixed.cls ≠ "java/lang/invoke/MethodHandle" ∧ y_Md_mixed.cls ≠ "java/lang/invoke/VarHandle" ∧ (parseMethodDescriptor y_Md_mixed.desc).map (fun d => d.parameters.length) = some 2 := by decide +kernel
abbrev cc_Md_unpack : ByteArray := prog_14_method_16_code
def y_Md_unpack : MethodName := ⟨R_Md, "unpack", "()I"⟩
abbrev w_Md_unpack : List Cond := .code y_Md_unpack cc_Md_unpack 4 (some .int) :: wG
abbrev r_Md_unpack : Room := { frames := 6, cells := 0, slots := 0, locals := 152 }
set_option maxRecDepth 100000 in
theorem lc_Md_unpack : Cond.code y_Md_unpack cc_Md_unpack 4 (some .int) ∈ wG := wG_of (List.mem_append_right _ (List.mem_of_getElem? (i := 993) rfl)) rfl
theorem li_Md_unpack : Cond.instanceMethod y_Md_unpack ∈ wG := wG_of (List.mem_append_right _ (List.mem_of_getElem? (i := 991) (by decide +kernel))) rfl
theorem ls_Md_unpack : Cond.selects R_Md y_Md_unpack y_Md_unpack ∈ wG := wG_of (List.mem_append_right _ (List.mem_of_getElem? (i := 992) (by decide +kernel))) rfl
theorem hd_Md_unpack : y_Md_unpack.cls = R_Md ∧ y_Md_unpack.cls ≠ "java/lang/invoke/MethodHandle" ∧ y_Md_unpack.cls ≠ "java/lang/invoke/VarHandle" ∧ (parseMethodDescriptor y_Md_unpack.desc).map (fun d => d.parameters.length) = some 0 := by decide +kernel
abbrev cc_Md_next : ByteArray := prog_14_method_11_code
def y_Md_next : MethodName := ⟨R_Md, "next", "(I)I"⟩
abbrev w_Md_next : List Cond := .code y_Md_next cc_Md_next 2 (some .int) :: wG
abbrev r_Md_next : Room := { frames := 0, cells := 0, slots := 0, locals := 0 }
set_option maxRecDepth 100000 in
theorem lc_Md_next : Cond.code y_Md_next cc_Md_next 2 (some .int) ∈ wG := wG_of (List.mem_append_right _ (List.mem_of_getElem? (i := 997) rfl)) rfl
theorem li_Md_next : Cond.instanceMethod y_Md_next ∈ wG := wG_of (List.mem_append_right _ (List.mem_of_getElem? (i := 996) (by decide +kernel))) rfl
theorem ls_Md_next : Cond.selects R_Md y_Md_next y_Md_next ∈ wG := wG_of (List.mem_append_left _ (List.mem_of_getElem? (i := 30) (by decide +kernel))) rfl
theorem hd_Md_next : y_Md_next.cls = R_Md ∧ y_Md_next.cls ≠ "java/lang/invoke/MethodHandle" ∧ y_Md_next.cls ≠ "java/lang/invoke/VarHandle" ∧ (parseMethodDescriptor y_Md_next.desc).map (fun d => d.parameters.length) = some 1 := by decide +kernel
abbrev cc_Md_frame : ByteArray := prog_14_method_17_code
def y_Md_frame : MethodName := ⟨R_Md, "frame", "()V"⟩
abbrev w_Md_frame : List Cond := .code y_Md_frame cc_Md_frame 7 none :: wG
abbrev r_Md_frame : Room := { frames := 5, cells := 0, slots := 0, locals := 126 }
set_option maxRecDepth 100000 in
theorem lc_Md_frame : Cond.code y_Md_frame cc_Md_frame 7 none ∈ wG := wG_of (List.mem_append_right _ (List.mem_of_getElem? (i := 1001) rfl)) rfl
theorem li_Md_frame : Cond.instanceMethod y_Md_frame ∈ wG := wG_of (List.mem_append_right _ (List.mem_of_getElem? (i := 1000) (by decide +kernel))) rfl
theorem ls_Md_frame : Cond.selects R_Md y_Md_frame y_Md_frame ∈ wG := wG_of (List.mem_append_left _ (List.mem_of_getElem? (i := 31) (by decide +kernel))) rfl
theorem hd_Md_frame : y_Md_frame.cls = R_Md ∧ y_Md_frame.cls ≠ "java/lang/invoke/MethodHandle" ∧ y_Md_frame.cls ≠ "java/lang/invoke/VarHandle" ∧ (parseMethodDescriptor y_Md_frame.desc).map (fun d => d.parameters.length) = some 0 := by decide +kernel
abbrev cc_Md_block : ByteArray := prog_14_method_18_code
def y_Md_block : MethodName := ⟨R_Md, "block", "(I)V"⟩
abbrev w_Md_block : List Cond := .code y_Md_block cc_Md_block 6 none :: wG
abbrev r_Md_block : Room := { frames := 4, cells := 0, slots := 0, locals := 101 }
set_option maxRecDepth 100000 in
theorem lc_Md_block : Cond.code y_Md_block cc_Md_block 6 none ∈ wG := wG_of (List.mem_append_right _ (List.mem_of_getElem? (i := 1005) rfl)) rfl
theorem li_Md_block : Cond.instanceMethod y_Md_block ∈ wG := wG_of (List.mem_append_right _ (List.mem_of_getElem? (i := 1004) (by decide +kernel))) rfl
theorem ls_Md_block : Cond.selects R_Md y_Md_block y_Md_block ∈ wG := wG_of (List.mem_append_left _ (List.mem_of_getElem? (i := 32) (by decide +kernel))) rfl
theorem hd_Md_block : y_Md_block.cls = R_Md ∧ y_Md_block.cls ≠ "java/lang/invoke/MethodHandle" ∧ y_Md_block.cls ≠ "java/lang/invoke/VarHandle" ∧ (parseMethodDescriptor y_Md_block.desc).map (fun d => d.parameters.length) = some 1 := by decide +kernel
abbrev cc_Md_emit : ByteArray := prog_14_method_12_code
def y_Md_emit : MethodName := ⟨R_Md, "emit", "(I)V"⟩
abbrev w_Md_emit : List Cond := .code y_Md_emit cc_Md_emit 2 none :: wG
abbrev r_Md_emit : Room := { frames := 0, cells := 0, slots := 0, locals := 0 }
set_option maxRecDepth 100000 in
theorem lc_Md_emit : Cond.code y_Md_emit cc_Md_emit 2 none ∈ wG := wG_of (List.mem_append_right _ (List.mem_of_getElem? (i := 1009) rfl)) rfl
theorem li_Md_emit : Cond.instanceMethod y_Md_emit ∈ wG := wG_of (List.mem_append_right _ (List.mem_of_getElem? (i := 1008) (by decide +kernel))) rfl
theorem ls_Md_emit : Cond.selects R_Md y_Md_emit y_Md_emit ∈ wG := wG_of (List.mem_append_left _ (List.mem_of_getElem? (i := 33) (by decide +kernel))) rfl
theorem hd_Md_emit : y_Md_emit.cls = R_Md ∧ y_Md_emit.cls ≠ "java/lang/invoke/MethodHandle" ∧ y_Md_emit.cls ≠ "java/lang/invoke/VarHandle" ∧ (parseMethodDescriptor y_Md_emit.desc).map (fun d => d.parameters.length) = some 1 := by decide +kernel
abbrev cc_Md_readLiterals : ByteArray := prog_14_method_19_code
def y_Md_readLiterals : MethodName := ⟨R_Md, "readLiterals", "(I)V"⟩
abbrev w_Md_readLiterals : List Cond := .code y_Md_readLiterals cc_Md_readLiterals 6 none :: wG
abbrev r_Md_readLiterals : Room := { frames := 3, cells := 0, slots := 0, locals := 71 }
set_option maxRecDepth 100000 in
theorem lc_Md_readLiterals : Cond.code y_Md_readLiterals cc_Md_readLiterals 6 none ∈ wG := wG_of (List.mem_append_right _ (List.mem_of_getElem? (i := 1013) rfl)) rfl
theorem li_Md_readLiterals : Cond.instanceMethod y_Md_readLiterals ∈ wG := wG_of (List.mem_append_right _ (List.mem_of_getElem? (i := 1012) (by decide +kernel))) rfl
theorem ls_Md_readLiterals : Cond.selects R_Md y_Md_readLiterals y_Md_readLiterals ∈ wG := wG_of (List.mem_append_left _ (List.mem_of_getElem? (i := 34) (by decide +kernel))) rfl
theorem hd_Md_readLiterals : y_Md_readLiterals.cls = R_Md ∧ y_Md_readLiterals.cls ≠ "java/lang/invoke/MethodHandle" ∧ y_Md_readLiterals.cls ≠ "java/lang/invoke/VarHandle" ∧ (parseMethodDescriptor y_Md_readLiterals.desc).map (fun d => d.parameters.length) = some 1 := by decide +kernel
abbrev cc_Md_readTree : ByteArray := prog_14_method_21_code
def y_Md_readTree : MethodName := ⟨R_Md, "readTree", "(I)V"⟩
abbrev w_Md_readTree : List Cond := .code y_Md_readTree cc_Md_readTree 6 none :: wG
abbrev r_Md_readTree : Room := { frames := 1, cells := 0, slots := 0, locals := 24 }
set_option maxRecDepth 100000 in
theorem lc_Md_readTree : Cond.code y_Md_readTree cc_Md_readTree 6 none ∈ wG := wG_of (List.mem_append_right _ (List.mem_of_getElem? (i := 1017) rfl)) rfl
theorem li_Md_readTree : Cond.instanceMethod y_Md_readTree ∈ wG := wG_of (List.mem_append_right _ (List.mem_of_getElem? (i := 1016) (by decide +kernel))) rfl
theorem ls_Md_readTree : Cond.selects R_Md y_Md_readTree y_Md_readTree ∈ wG := wG_of (List.mem_append_left _ (List.mem_of_getElem? (i := 35) (by decide +kernel))) rfl
theorem hd_Md_readTree : y_Md_readTree.cls = R_Md ∧ y_Md_readTree.cls ≠ "java/lang/invoke/MethodHandle" ∧ y_Md_readTree.cls ≠ "java/lang/invoke/VarHandle" ∧ (parseMethodDescriptor y_Md_readTree.desc).map (fun d => d.parameters.length) = some 1 := by decide +kernel
abbrev cc_Md_plant : ByteArray := prog_14_method_22_code
def y_Md_plant : MethodName := ⟨R_Md, "plant", "()V"⟩
abbrev w_Md_plant : List Cond := .code y_Md_plant cc_Md_plant 5 none :: wG
abbrev r_Md_plant : Room := { frames := 0, cells := 0, slots := 0, locals := 0 }
set_option maxRecDepth 100000 in
theorem lc_Md_plant : Cond.code y_Md_plant cc_Md_plant 5 none ∈ wG := wG_of (List.mem_append_right _ (List.mem_of_getElem? (i := 1021) rfl)) rfl
theorem li_Md_plant : Cond.instanceMethod y_Md_plant ∈ wG := wG_of (List.mem_append_right _ (List.mem_of_getElem? (i := 1020) (by decide +kernel))) rfl
theorem ls_Md_plant : Cond.selects R_Md y_Md_plant y_Md_plant ∈ wG := wG_of (List.mem_append_left _ (List.mem_of_getElem? (i := 36) (by decide +kernel))) rfl
theorem hd_Md_plant : y_Md_plant.cls = R_Md ∧ y_Md_plant.cls ≠ "java/lang/invoke/MethodHandle" ∧ y_Md_plant.cls ≠ "java/lang/invoke/VarHandle" ∧ (parseMethodDescriptor y_Md_plant.desc).map (fun d => d.parameters.length) = some 0 := by decide +kernel
abbrev cc_Md_readSymbols : ByteArray := prog_14_method_20_code
def y_Md_readSymbols : MethodName := ⟨R_Md, "readSymbols", "(I)V"⟩
abbrev w_Md_readSymbols : List Cond := .code y_Md_readSymbols cc_Md_readSymbols 6 none :: wG
abbrev r_Md_readSymbols : Room := { frames := 2, cells := 0, slots := 0, locals := 46 }
set_option maxRecDepth 100000 in
theorem lc_Md_readSymbols : Cond.code y_Md_readSymbols cc_Md_readSymbols 6 none ∈ wG := wG_of (List.mem_append_right _ (List.mem_of_getElem? (i := 1025) rfl)) rfl
theorem li_Md_readSymbols : Cond.instanceMethod y_Md_readSymbols ∈ wG := wG_of (List.mem_append_right _ (List.mem_of_getElem? (i := 1024) (by decide +kernel))) rfl
theorem ls_Md_readSymbols : Cond.selects R_Md y_Md_readSymbols y_Md_readSymbols ∈ wG := wG_of (List.mem_append_left _ (List.mem_of_getElem? (i := 37) (by decide +kernel))) rfl
theorem hd_Md_readSymbols : y_Md_readSymbols.cls = R_Md ∧ y_Md_readSymbols.cls ≠ "java/lang/invoke/MethodHandle" ∧ y_Md_readSymbols.cls ≠ "java/lang/invoke/VarHandle" ∧ (parseMethodDescriptor y_Md_readSymbols.desc).map (fun d => d.parameters.length) = some 1 := by decide +kernel
abbrev cc_Md_openStream : ByteArray := prog_14_method_13_code
def y_Md_openStream : MethodName := ⟨R_Md, "openStream", "(II)V"⟩
abbrev w_Md_openStream : List Cond := .code y_Md_openStream cc_Md_openStream 4 none :: wG
abbrev r_Md_openStream : Room := { frames := 0, cells := 0, slots := 0, locals := 0 }
set_option maxRecDepth 100000 in
theorem lc_Md_openStream : Cond.code y_Md_openStream cc_Md_openStream 4 none ∈ wG := wG_of (List.mem_append_right _ (List.mem_of_getElem? (i := 1029) rfl)) rfl
theorem li_Md_openStream : Cond.instanceMethod y_Md_openStream ∈ wG := wG_of (List.mem_append_right _ (List.mem_of_getElem? (i := 1028) (by decide +kernel))) rfl
theorem ls_Md_openStream : Cond.selects R_Md y_Md_openStream y_Md_openStream ∈ wG := wG_of (List.mem_append_left _ (List.mem_of_getElem? (i := 38) (by decide +kernel))) rfl
theorem hd_Md_openStream : y_Md_openStream.cls = R_Md ∧ y_Md_openStream.cls ≠ "java/lang/invoke/MethodHandle" ∧ y_Md_openStream.cls ≠ "java/lang/invoke/VarHandle" ∧ (parseMethodDescriptor y_Md_openStream.desc).map (fun d => d.parameters.length) = some 2 := by decide +kernel
abbrev cc_Md_look : ByteArray := prog_14_method_14_code
def y_Md_look : MethodName := ⟨R_Md, "look", "(I)I"⟩
abbrev w_Md_look : List Cond := .code y_Md_look cc_Md_look 5 (some .int) :: wG
abbrev r_Md_look : Room := { frames := 0, cells := 0, slots := 0, locals := 0 }
set_option maxRecDepth 100000 in
theorem lc_Md_look : Cond.code y_Md_look cc_Md_look 5 (some .int) ∈ wG := wG_of (List.mem_append_right _ (List.mem_of_getElem? (i := 1033) rfl)) rfl
theorem li_Md_look : Cond.instanceMethod y_Md_look ∈ wG := wG_of (List.mem_append_right _ (List.mem_of_getElem? (i := 1032) (by decide +kernel))) rfl
theorem ls_Md_look : Cond.selects R_Md y_Md_look y_Md_look ∈ wG := wG_of (List.mem_append_left _ (List.mem_of_getElem? (i := 39) (by decide +kernel))) rfl
theorem hd_Md_look : y_Md_look.cls = R_Md ∧ y_Md_look.cls ≠ "java/lang/invoke/MethodHandle" ∧ y_Md_look.cls ≠ "java/lang/invoke/VarHandle" ∧ (parseMethodDescriptor y_Md_look.desc).map (fun d => d.parameters.length) = some 1 := by decide +kernel
abbrev cc_Md_take : ByteArray := prog_14_method_15_code
def y_Md_take : MethodName := ⟨R_Md, "take", "(I)I"⟩
abbrev w_Md_take : List Cond := .code y_Md_take cc_Md_take 3 (some .int) :: wG
abbrev r_Md_take : Room := { frames := 1, cells := 0, slots := 0, locals := 24 }
set_option maxRecDepth 100000 in
theorem lc_Md_take : Cond.code y_Md_take cc_Md_take 3 (some .int) ∈ wG := wG_of (List.mem_append_right _ (List.mem_of_getElem? (i := 1037) rfl)) rfl
theorem li_Md_take : Cond.instanceMethod y_Md_take ∈ wG := wG_of (List.mem_append_right _ (List.mem_of_getElem? (i := 1036) (by decide +kernel))) rfl
theorem ls_Md_take : Cond.selects R_Md y_Md_take y_Md_take ∈ wG := wG_of (List.mem_append_left _ (List.mem_of_getElem? (i := 40) (by decide +kernel))) rfl
theorem hd_Md_take : y_Md_take.cls = R_Md ∧ y_Md_take.cls ≠ "java/lang/invoke/MethodHandle" ∧ y_Md_take.cls ≠ "java/lang/invoke/VarHandle" ∧ (parseMethodDescriptor y_Md_take.desc).map (fun d => d.parameters.length) = some 1 := by decide +kernel
abbrev cc_Md_readSequences : ByteArray := prog_14_method_23_code
def y_Md_readSequences : MethodName := ⟨R_Md, "readSequences", "(I)V"⟩
abbrev w_Md_readSequences : List Cond := .code y_Md_readSequences cc_Md_readSequences 6 none :: wG
abbrev r_Md_readSequences : Room := { frames := 3, cells := 0, slots := 0, locals := 76 }
set_option maxRecDepth 100000 in
theorem lc_Md_readSequences : Cond.code y_Md_readSequences cc_Md_readSequences 6 none ∈ wG := wG_of (List.mem_append_right _ (List.mem_of_getElem? (i := 1041) rfl)) rfl
theorem li_Md_readSequences : Cond.instanceMethod y_Md_readSequences ∈ wG := wG_of (List.mem_append_right _ (List.mem_of_getElem? (i := 1040) (by decide +kernel))) rfl
theorem ls_Md_readSequences : Cond.selects R_Md y_Md_readSequences y_Md_readSequences ∈ wG := wG_of (List.mem_append_left _ (List.mem_of_getElem? (i := 41) (by decide +kernel))) rfl
theorem hd_Md_readSequences : y_Md_readSequences.cls = R_Md ∧ y_Md_readSequences.cls ≠ "java/lang/invoke/MethodHandle" ∧ y_Md_readSequences.cls ≠ "java/lang/invoke/VarHandle" ∧ (parseMethodDescriptor y_Md_readSequences.desc).map (fun d => d.parameters.length) = some 1 := by decide +kernel
abbrev cc_Md_readTable : ByteArray := prog_14_method_29_code
def y_Md_readTable : MethodName := ⟨R_Md, "readTable", "(III)V"⟩
abbrev w_Md_readTable : List Cond := .code y_Md_readTable cc_Md_readTable 9 none :: wG
abbrev r_Md_readTable : Room := { frames := 2, cells := 0, slots := 0, locals := 48 }
set_option maxRecDepth 100000 in
theorem lc_Md_readTable : Cond.code y_Md_readTable cc_Md_readTable 9 none ∈ wG := wG_of (List.mem_append_right _ (List.mem_of_getElem? (i := 1045) rfl)) rfl
theorem li_Md_readTable : Cond.instanceMethod y_Md_readTable ∈ wG := wG_of (List.mem_append_right _ (List.mem_of_getElem? (i := 1044) (by decide +kernel))) rfl
theorem ls_Md_readTable : Cond.selects R_Md y_Md_readTable y_Md_readTable ∈ wG := wG_of (List.mem_append_left _ (List.mem_of_getElem? (i := 42) (by decide +kernel))) rfl
theorem hd_Md_readTable : y_Md_readTable.cls = R_Md ∧ y_Md_readTable.cls ≠ "java/lang/invoke/MethodHandle" ∧ y_Md_readTable.cls ≠ "java/lang/invoke/VarHandle" ∧ (parseMethodDescriptor y_Md_readTable.desc).map (fun d => d.parameters.length) = some 3 := by decide +kernel
abbrev cc_Md_setUsual : ByteArray := prog_14_method_30_code
def y_Md_setUsual : MethodName := ⟨R_Md, "setUsual", "(I)V"⟩
abbrev w_Md_setUsual : List Cond := .code y_Md_setUsual cc_Md_setUsual 3 none :: wG
abbrev r_Md_setUsual : Room := { frames := 1, cells := 0, slots := 0, locals := 26 }
set_option maxRecDepth 100000 in
theorem lc_Md_setUsual : Cond.code y_Md_setUsual cc_Md_setUsual 3 none ∈ wG := wG_of (List.mem_append_right _ (List.mem_of_getElem? (i := 1049) rfl)) rfl
theorem li_Md_setUsual : Cond.instanceMethod y_Md_setUsual ∈ wG := wG_of (List.mem_append_right _ (List.mem_of_getElem? (i := 1048) (by decide +kernel))) rfl
theorem ls_Md_setUsual : Cond.selects R_Md y_Md_setUsual y_Md_setUsual ∈ wG := wG_of (List.mem_append_left _ (List.mem_of_getElem? (i := 43) (by decide +kernel))) rfl
theorem hd_Md_setUsual : y_Md_setUsual.cls = R_Md ∧ y_Md_setUsual.cls ≠ "java/lang/invoke/MethodHandle" ∧ y_Md_setUsual.cls ≠ "java/lang/invoke/VarHandle" ∧ (parseMethodDescriptor y_Md_setUsual.desc).map (fun d => d.parameters.length) = some 1 := by decide +kernel
abbrev cc_Md_spread : ByteArray := prog_14_method_31_code
def y_Md_spread : MethodName := ⟨R_Md, "spread", "(I)V"⟩
abbrev w_Md_spread : List Cond := .code y_Md_spread cc_Md_spread 7 none :: wG
abbrev r_Md_spread : Room := { frames := 0, cells := 0, slots := 0, locals := 0 }
set_option maxRecDepth 100000 in
theorem lc_Md_spread : Cond.code y_Md_spread cc_Md_spread 7 none ∈ wG := wG_of (List.mem_append_right _ (List.mem_of_getElem? (i := 1053) rfl)) rfl
theorem li_Md_spread : Cond.instanceMethod y_Md_spread ∈ wG := wG_of (List.mem_append_right _ (List.mem_of_getElem? (i := 1052) (by decide +kernel))) rfl
theorem ls_Md_spread : Cond.selects R_Md y_Md_spread y_Md_spread ∈ wG := wG_of (List.mem_append_left _ (List.mem_of_getElem? (i := 44) (by decide +kernel))) rfl
theorem hd_Md_spread : y_Md_spread.cls = R_Md ∧ y_Md_spread.cls ≠ "java/lang/invoke/MethodHandle" ∧ y_Md_spread.cls ≠ "java/lang/invoke/VarHandle" ∧ (parseMethodDescriptor y_Md_spread.desc).map (fun d => d.parameters.length) = some 1 := by decide +kernel
abbrev cc_Md_matchBase : ByteArray := prog_14_method_25_code
def y_Md_matchBase : MethodName := ⟨R_Md, "matchBase", "(I)I"⟩
abbrev w_Md_matchBase : List Cond := .code y_Md_matchBase cc_Md_matchBase 1 (some .int) :: wG
abbrev r_Md_matchBase : Room := { frames := 0, cells := 0, slots := 0, locals := 0 }
set_option maxRecDepth 100000 in
theorem lc_Md_matchBase : Cond.code y_Md_matchBase cc_Md_matchBase 1 (some .int) ∈ wG := wG_of (List.mem_append_right _ (List.mem_of_getElem? (i := 1056) rfl)) rfl
theorem lst_Md_matchBase : Cond.static y_Md_matchBase ∈ wG := wG_of (List.mem_append_right _ (List.mem_of_getElem? (i := 1055) (by decide +kernel))) rfl
theorem hd_Md_matchBase : y_Md_matchBase.cls = R_Md ∧ y_Md_matchBase.cls ≠ "java/lang/invoke/MethodHandle" ∧ y_Md_matchBase.cls ≠ "java/lang/invoke/VarHandle" ∧ (parseMethodDescriptor y_Md_matchBase.desc).map (fun d => d.parameters.length) = some 1 := by decide +kernel
abbrev cc_Md_matchBits : ByteArray := prog_14_method_26_code
def y_Md_matchBits : MethodName := ⟨R_Md, "matchBits", "(I)I"⟩
abbrev w_Md_matchBits : List Cond := .code y_Md_matchBits cc_Md_matchBits 1 (some .int) :: wG
abbrev r_Md_matchBits : Room := { frames := 0, cells := 0, slots := 0, locals := 0 }
set_option maxRecDepth 100000 in
theorem lc_Md_matchBits : Cond.code y_Md_matchBits cc_Md_matchBits 1 (some .int) ∈ wG := wG_of (List.mem_append_right _ (List.mem_of_getElem? (i := 1059) rfl)) rfl
theorem lst_Md_matchBits : Cond.static y_Md_matchBits ∈ wG := wG_of (List.mem_append_right _ (List.mem_of_getElem? (i := 1058) (by decide +kernel))) rfl
theorem hd_Md_matchBits : y_Md_matchBits.cls = R_Md ∧ y_Md_matchBits.cls ≠ "java/lang/invoke/MethodHandle" ∧ y_Md_matchBits.cls ≠ "java/lang/invoke/VarHandle" ∧ (parseMethodDescriptor y_Md_matchBits.desc).map (fun d => d.parameters.length) = some 1 := by decide +kernel
abbrev cc_Md_aheadBase : ByteArray := prog_14_method_27_code
def y_Md_aheadBase : MethodName := ⟨R_Md, "aheadBase", "(I)I"⟩
abbrev w_Md_aheadBase : List Cond := .code y_Md_aheadBase cc_Md_aheadBase 1 (some .int) :: wG
abbrev r_Md_aheadBase : Room := { frames := 0, cells := 0, slots := 0, locals := 0 }
set_option maxRecDepth 100000 in
theorem lc_Md_aheadBase : Cond.code y_Md_aheadBase cc_Md_aheadBase 1 (some .int) ∈ wG := wG_of (List.mem_append_right _ (List.mem_of_getElem? (i := 1062) rfl)) rfl
theorem lst_Md_aheadBase : Cond.static y_Md_aheadBase ∈ wG := wG_of (List.mem_append_right _ (List.mem_of_getElem? (i := 1061) (by decide +kernel))) rfl
theorem hd_Md_aheadBase : y_Md_aheadBase.cls = R_Md ∧ y_Md_aheadBase.cls ≠ "java/lang/invoke/MethodHandle" ∧ y_Md_aheadBase.cls ≠ "java/lang/invoke/VarHandle" ∧ (parseMethodDescriptor y_Md_aheadBase.desc).map (fun d => d.parameters.length) = some 1 := by decide +kernel
abbrev cc_Md_aheadBits : ByteArray := prog_14_method_28_code
def y_Md_aheadBits : MethodName := ⟨R_Md, "aheadBits", "(I)I"⟩
abbrev w_Md_aheadBits : List Cond := .code y_Md_aheadBits cc_Md_aheadBits 1 (some .int) :: wG
abbrev r_Md_aheadBits : Room := { frames := 0, cells := 0, slots := 0, locals := 0 }
set_option maxRecDepth 100000 in
theorem lc_Md_aheadBits : Cond.code y_Md_aheadBits cc_Md_aheadBits 1 (some .int) ∈ wG := wG_of (List.mem_append_right _ (List.mem_of_getElem? (i := 1065) rfl)) rfl
theorem lst_Md_aheadBits : Cond.static y_Md_aheadBits ∈ wG := wG_of (List.mem_append_right _ (List.mem_of_getElem? (i := 1064) (by decide +kernel))) rfl
theorem hd_Md_aheadBits : y_Md_aheadBits.cls = R_Md ∧ y_Md_aheadBits.cls ≠ "java/lang/invoke/MethodHandle" ∧ y_Md_aheadBits.cls ≠ "java/lang/invoke/VarHandle" ∧ (parseMethodDescriptor y_Md_aheadBits.desc).map (fun d => d.parameters.length) = some 1 := by decide +kernel
abbrev cc_Md_step : ByteArray := prog_14_method_24_code
def y_Md_step : MethodName := ⟨R_Md, "step", "(I)V"⟩
abbrev w_Md_step : List Cond := .code y_Md_step cc_Md_step 3 none :: wG
abbrev r_Md_step : Room := { frames := 2, cells := 0, slots := 0, locals := 46 }
set_option maxRecDepth 100000 in
theorem lc_Md_step : Cond.code y_Md_step cc_Md_step 3 none ∈ wG := wG_of (List.mem_append_right _ (List.mem_of_getElem? (i := 1069) rfl)) rfl
theorem li_Md_step : Cond.instanceMethod y_Md_step ∈ wG := wG_of (List.mem_append_right _ (List.mem_of_getElem? (i := 1068) (by decide +kernel))) rfl
theorem ls_Md_step : Cond.selects R_Md y_Md_step y_Md_step ∈ wG := wG_of (List.mem_append_left _ (List.mem_of_getElem? (i := 45) (by decide +kernel))) rfl
theorem hd_Md_step : y_Md_step.cls = R_Md ∧ y_Md_step.cls ≠ "java/lang/invoke/MethodHandle" ∧ y_Md_step.cls ≠ "java/lang/invoke/VarHandle" ∧ (parseMethodDescriptor y_Md_step.desc).map (fun d => d.parameters.length) = some 1 := by decide +kernel
abbrev cc_Md_perform : ByteArray := prog_14_method_33_code
def y_Md_perform : MethodName := ⟨R_Md, "perform", "()V"⟩
abbrev w_Md_perform : List Cond := .code y_Md_perform cc_Md_perform 5 none :: wG
abbrev r_Md_perform : Room := { frames := 1, cells := 0, slots := 0, locals := 24 }
set_option maxRecDepth 100000 in
theorem lc_Md_perform : Cond.code y_Md_perform cc_Md_perform 5 none ∈ wG := wG_of (List.mem_append_right _ (List.mem_of_getElem? (i := 1073) rfl)) rfl
theorem li_Md_perform : Cond.instanceMethod y_Md_perform ∈ wG := wG_of (List.mem_append_right _ (List.mem_of_getElem? (i := 1072) (by decide +kernel))) rfl
theorem ls_Md_perform : Cond.selects R_Md y_Md_perform y_Md_perform ∈ wG := wG_of (List.mem_append_left _ (List.mem_of_getElem? (i := 46) (by decide +kernel))) rfl
theorem hd_Md_perform : y_Md_perform.cls = R_Md ∧ y_Md_perform.cls ≠ "java/lang/invoke/MethodHandle" ∧ y_Md_perform.cls ≠ "java/lang/invoke/VarHandle" ∧ (parseMethodDescriptor y_Md_perform.desc).map (fun d => d.parameters.length) = some 0 := by decide +kernel
abbrev cc_Md_wayBack : ByteArray := prog_14_method_32_code
def y_Md_wayBack : MethodName := ⟨R_Md, "wayBack", "(II)I"⟩
abbrev w_Md_wayBack : List Cond := .code y_Md_wayBack cc_Md_wayBack 5 (some .int) :: wG
abbrev r_Md_wayBack : Room := { frames := 0, cells := 0, slots := 0, locals := 0 }
set_option maxRecDepth 100000 in
theorem lc_Md_wayBack : Cond.code y_Md_wayBack cc_Md_wayBack 5 (some .int) ∈ wG := wG_of (List.mem_append_right _ (List.mem_of_getElem? (i := 1077) rfl)) rfl
theorem li_Md_wayBack : Cond.instanceMethod y_Md_wayBack ∈ wG := wG_of (List.mem_append_right _ (List.mem_of_getElem? (i := 1076) (by decide +kernel))) rfl
theorem ls_Md_wayBack : Cond.selects R_Md y_Md_wayBack y_Md_wayBack ∈ wG := wG_of (List.mem_append_left _ (List.mem_of_getElem? (i := 47) (by decide +kernel))) rfl
theorem hd_Md_wayBack : y_Md_wayBack.cls = R_Md ∧ y_Md_wayBack.cls ≠ "java/lang/invoke/MethodHandle" ∧ y_Md_wayBack.cls ≠ "java/lang/invoke/VarHandle" ∧ (parseMethodDescriptor y_Md_wayBack.desc).map (fun d => d.parameters.length) = some 2 := by decide +kernel
abbrev cc_Md_pack : ByteArray := prog_14_method_51_code
def y_Md_pack : MethodName := ⟨R_Md, "pack", "(Z)I"⟩
abbrev w_Md_pack : List Cond := .code y_Md_pack cc_Md_pack 7 (some .int) :: wG
abbrev r_Md_pack : Room := { frames := 5, cells := 0, slots := 0, locals := 119 }
set_option maxRecDepth 100000 in
theorem lc_Md_pack : Cond.code y_Md_pack cc_Md_pack 7 (some .int) ∈ wG := wG_of (List.mem_append_right _ (List.mem_of_getElem? (i := 1081) rfl)) rfl
theorem li_Md_pack : Cond.instanceMethod y_Md_pack ∈ wG := wG_of (List.mem_append_right _ (List.mem_of_getElem? (i := 1079) (by decide +kernel))) rfl
theorem ls_Md_pack : Cond.selects R_Md y_Md_pack y_Md_pack ∈ wG := wG_of (List.mem_append_right _ (List.mem_of_getElem? (i := 1080) (by decide +kernel))) rfl
theorem hd_Md_pack : y_Md_pack.cls = R_Md ∧ y_Md_pack.cls ≠ "java/lang/invoke/MethodHandle" ∧ y_Md_pack.cls ≠ "java/lang/invoke/VarHandle" ∧ (parseMethodDescriptor y_Md_pack.desc).map (fun d => d.parameters.length) = some 1 := by decide +kernel
abbrev cc_Md_allSame : ByteArray := prog_14_method_49_code
def y_Md_allSame : MethodName := ⟨R_Md, "allSame", "(Z)Z"⟩
abbrev w_Md_allSame : List Cond := .code y_Md_allSame cc_Md_allSame 5 (some .boolean) :: wG
abbrev r_Md_allSame : Room := { frames := 0, cells := 0, slots := 0, locals := 0 }
set_option maxRecDepth 100000 in
theorem lc_Md_allSame : Cond.code y_Md_allSame cc_Md_allSame 5 (some .boolean) ∈ wG := wG_of (List.mem_append_right _ (List.mem_of_getElem? (i := 1085) rfl)) rfl
theorem li_Md_allSame : Cond.instanceMethod y_Md_allSame ∈ wG := wG_of (List.mem_append_right _ (List.mem_of_getElem? (i := 1084) (by decide +kernel))) rfl
theorem ls_Md_allSame : Cond.selects R_Md y_Md_allSame y_Md_allSame ∈ wG := wG_of (List.mem_append_left _ (List.mem_of_getElem? (i := 48) (by decide +kernel))) rfl
theorem hd_Md_allSame : y_Md_allSame.cls = R_Md ∧ y_Md_allSame.cls ≠ "java/lang/invoke/MethodHandle" ∧ y_Md_allSame.cls ≠ "java/lang/invoke/VarHandle" ∧ (parseMethodDescriptor y_Md_allSame.desc).map (fun d => d.parameters.length) = some 1 := by decide +kernel
abbrev cc_Md_makePack : ByteArray := prog_14_method_50_code
def y_Md_makePack : MethodName := ⟨R_Md, "makePack", "()V"⟩
abbrev w_Md_makePack : List Cond := .code y_Md_makePack cc_Md_makePack 2 none :: wG
abbrev r_Md_makePack : Room := { frames := 4, cells := 0, slots := 0, locals := 98 }
set_option maxRecDepth 100000 in
theorem lc_Md_makePack : Cond.code y_Md_makePack cc_Md_makePack 2 none ∈ wG := wG_of (List.mem_append_right _ (List.mem_of_getElem? (i := 1089) rfl)) rfl
theorem li_Md_makePack : Cond.instanceMethod y_Md_makePack ∈ wG := wG_of (List.mem_append_right _ (List.mem_of_getElem? (i := 1088) (by decide +kernel))) rfl
theorem ls_Md_makePack : Cond.selects R_Md y_Md_makePack y_Md_makePack ∈ wG := wG_of (List.mem_append_left _ (List.mem_of_getElem? (i := 49) (by decide +kernel))) rfl
theorem hd_Md_makePack : y_Md_makePack.cls = R_Md ∧ y_Md_makePack.cls ≠ "java/lang/invoke/MethodHandle" ∧ y_Md_makePack.cls ≠ "java/lang/invoke/VarHandle" ∧ (parseMethodDescriptor y_Md_makePack.desc).map (fun d => d.parameters.length) = some 0 := by decide +kernel
abbrev cc_Md_parse : ByteArray := prog_14_method_38_code
def y_Md_parse : MethodName := ⟨R_Md, "parse", "()V"⟩
abbrev w_Md_parse : List Cond := .code y_Md_parse cc_Md_parse 7 none :: wG
abbrev r_Md_parse : Room := { frames := 2, cells := 0, slots := 0, locals := 50 }
set_option maxRecDepth 100000 in
theorem lc_Md_parse : Cond.code y_Md_parse cc_Md_parse 7 none ∈ wG := wG_of (List.mem_append_right _ (List.mem_of_getElem? (i := 1093) rfl)) rfl
theorem li_Md_parse : Cond.instanceMethod y_Md_parse ∈ wG := wG_of (List.mem_append_right _ (List.mem_of_getElem? (i := 1092) (by decide +kernel))) rfl
theorem ls_Md_parse : Cond.selects R_Md y_Md_parse y_Md_parse ∈ wG := wG_of (List.mem_append_left _ (List.mem_of_getElem? (i := 50) (by decide +kernel))) rfl
theorem hd_Md_parse : y_Md_parse.cls = R_Md ∧ y_Md_parse.cls ≠ "java/lang/invoke/MethodHandle" ∧ y_Md_parse.cls ≠ "java/lang/invoke/VarHandle" ∧ (parseMethodDescriptor y_Md_parse.desc).map (fun d => d.parameters.length) = some 0 := by decide +kernel
abbrev cc_Md_run : ByteArray := prog_14_method_37_code
def y_Md_run : MethodName := ⟨R_Md, "run", "(II)I"⟩
abbrev w_Md_run : List Cond := .code y_Md_run cc_Md_run 4 (some .int) :: wG
abbrev r_Md_run : Room := { frames := 0, cells := 0, slots := 0, locals := 0 }
set_option maxRecDepth 100000 in
theorem lc_Md_run : Cond.code y_Md_run cc_Md_run 4 (some .int) ∈ wG := wG_of (List.mem_append_right _ (List.mem_of_getElem? (i := 1097) rfl)) rfl
theorem li_Md_run : Cond.instanceMethod y_Md_run ∈ wG := wG_of (List.mem_append_right _ (List.mem_of_getElem? (i := 1096) (by decide +kernel))) rfl
theorem ls_Md_run : Cond.selects R_Md y_Md_run y_Md_run ∈ wG := wG_of (List.mem_append_left _ (List.mem_of_getElem? (i := 51) (by decide +kernel))) rfl
theorem hd_Md_run : y_Md_run.cls = R_Md ∧ y_Md_run.cls ≠ "java/lang/invoke/MethodHandle" ∧ y_Md_run.cls ≠ "java/lang/invoke/VarHandle" ∧ (parseMethodDescriptor y_Md_run.desc).map (fun d => d.parameters.length) = some 2 := by decide +kernel
abbrev cc_Md_valueOf : ByteArray := prog_14_method_39_code
def y_Md_valueOf : MethodName := ⟨R_Md, "valueOf", "(II)I"⟩
abbrev w_Md_valueOf : List Cond := .code y_Md_valueOf cc_Md_valueOf 7 (some .int) :: wG
abbrev r_Md_valueOf : Room := { frames := 1, cells := 0, slots := 0, locals := 24 }
set_option maxRecDepth 100000 in
theorem lc_Md_valueOf : Cond.code y_Md_valueOf cc_Md_valueOf 7 (some .int) ∈ wG := wG_of (List.mem_append_right _ (List.mem_of_getElem? (i := 1101) rfl)) rfl
theorem li_Md_valueOf : Cond.instanceMethod y_Md_valueOf ∈ wG := wG_of (List.mem_append_right _ (List.mem_of_getElem? (i := 1100) (by decide +kernel))) rfl
theorem ls_Md_valueOf : Cond.selects R_Md y_Md_valueOf y_Md_valueOf ∈ wG := wG_of (List.mem_append_left _ (List.mem_of_getElem? (i := 52) (by decide +kernel))) rfl
theorem hd_Md_valueOf : y_Md_valueOf.cls = R_Md ∧ y_Md_valueOf.cls ≠ "java/lang/invoke/MethodHandle" ∧ y_Md_valueOf.cls ≠ "java/lang/invoke/VarHandle" ∧ (parseMethodDescriptor y_Md_valueOf.desc).map (fun d => d.parameters.length) = some 2 := by decide +kernel
abbrev cc_Md_add : ByteArray := prog_14_method_34_code
def y_Md_add : MethodName := ⟨R_Md, "add", "(I)V"⟩
abbrev w_Md_add : List Cond := .code y_Md_add cc_Md_add 2 none :: wG
abbrev r_Md_add : Room := { frames := 0, cells := 0, slots := 0, locals := 0 }
set_option maxRecDepth 100000 in
theorem lc_Md_add : Cond.code y_Md_add cc_Md_add 2 none ∈ wG := wG_of (List.mem_append_right _ (List.mem_of_getElem? (i := 1105) rfl)) rfl
theorem li_Md_add : Cond.instanceMethod y_Md_add ∈ wG := wG_of (List.mem_append_right _ (List.mem_of_getElem? (i := 1104) (by decide +kernel))) rfl
theorem ls_Md_add : Cond.selects R_Md y_Md_add y_Md_add ∈ wG := wG_of (List.mem_append_left _ (List.mem_of_getElem? (i := 53) (by decide +kernel))) rfl
theorem hd_Md_add : y_Md_add.cls = R_Md ∧ y_Md_add.cls ≠ "java/lang/invoke/MethodHandle" ∧ y_Md_add.cls ≠ "java/lang/invoke/VarHandle" ∧ (parseMethodDescriptor y_Md_add.desc).map (fun d => d.parameters.length) = some 1 := by decide +kernel
abbrev cc_Md_addTree : ByteArray := prog_14_method_43_code
def y_Md_addTree : MethodName := ⟨R_Md, "addTree", "()Z"⟩
abbrev w_Md_addTree : List Cond := .code y_Md_addTree cc_Md_addTree 6 (some .boolean) :: wG
abbrev r_Md_addTree : Room := { frames := 3, cells := 0, slots := 0, locals := 73 }
set_option maxRecDepth 100000 in
theorem lc_Md_addTree : Cond.code y_Md_addTree cc_Md_addTree 6 (some .boolean) ∈ wG := wG_of (List.mem_append_right _ (List.mem_of_getElem? (i := 1109) rfl)) rfl
theorem li_Md_addTree : Cond.instanceMethod y_Md_addTree ∈ wG := wG_of (List.mem_append_right _ (List.mem_of_getElem? (i := 1108) (by decide +kernel))) rfl
theorem ls_Md_addTree : Cond.selects R_Md y_Md_addTree y_Md_addTree ∈ wG := wG_of (List.mem_append_left _ (List.mem_of_getElem? (i := 54) (by decide +kernel))) rfl
theorem hd_Md_addTree : y_Md_addTree.cls = R_Md ∧ y_Md_addTree.cls ≠ "java/lang/invoke/MethodHandle" ∧ y_Md_addTree.cls ≠ "java/lang/invoke/VarHandle" ∧ (parseMethodDescriptor y_Md_addTree.desc).map (fun d => d.parameters.length) = some 0 := by decide +kernel
abbrev cc_Md_grow : ByteArray := prog_14_method_45_code
def y_Md_grow : MethodName := ⟨R_Md, "grow", "()I"⟩
abbrev w_Md_grow : List Cond := .code y_Md_grow cc_Md_grow 5 (some .int) :: wG
abbrev r_Md_grow : Room := { frames := 2, cells := 0, slots := 0, locals := 49 }
set_option maxRecDepth 100000 in
theorem lc_Md_grow : Cond.code y_Md_grow cc_Md_grow 5 (some .int) ∈ wG := wG_of (List.mem_append_right _ (List.mem_of_getElem? (i := 1113) rfl)) rfl
theorem li_Md_grow : Cond.instanceMethod y_Md_grow ∈ wG := wG_of (List.mem_append_right _ (List.mem_of_getElem? (i := 1112) (by decide +kernel))) rfl
theorem ls_Md_grow : Cond.selects R_Md y_Md_grow y_Md_grow ∈ wG := wG_of (List.mem_append_left _ (List.mem_of_getElem? (i := 55) (by decide +kernel))) rfl
theorem hd_Md_grow : y_Md_grow.cls = R_Md ∧ y_Md_grow.cls ≠ "java/lang/invoke/MethodHandle" ∧ y_Md_grow.cls ≠ "java/lang/invoke/VarHandle" ∧ (parseMethodDescriptor y_Md_grow.desc).map (fun d => d.parameters.length) = some 0 := by decide +kernel
abbrev cc_Md_leastGroup : ByteArray := prog_14_method_47_code
def y_Md_leastGroup : MethodName := ⟨R_Md, "leastGroup", "(I)I"⟩
abbrev w_Md_leastGroup : List Cond := .code y_Md_leastGroup cc_Md_leastGroup 7 (some .int) :: wG
abbrev r_Md_leastGroup : Room := { frames := 1, cells := 0, slots := 0, locals := 23 }
set_option maxRecDepth 100000 in
theorem lc_Md_leastGroup : Cond.code y_Md_leastGroup cc_Md_leastGroup 7 (some .int) ∈ wG := wG_of (List.mem_append_right _ (List.mem_of_getElem? (i := 1117) rfl)) rfl
theorem li_Md_leastGroup : Cond.instanceMethod y_Md_leastGroup ∈ wG := wG_of (List.mem_append_right _ (List.mem_of_getElem? (i := 1116) (by decide +kernel))) rfl
theorem ls_Md_leastGroup : Cond.selects R_Md y_Md_leastGroup y_Md_leastGroup ∈ wG := wG_of (List.mem_append_left _ (List.mem_of_getElem? (i := 56) (by decide +kernel))) rfl
theorem hd_Md_leastGroup : y_Md_leastGroup.cls = R_Md ∧ y_Md_leastGroup.cls ≠ "java/lang/invoke/MethodHandle" ∧ y_Md_leastGroup.cls ≠ "java/lang/invoke/VarHandle" ∧ (parseMethodDescriptor y_Md_leastGroup.desc).map (fun d => d.parameters.length) = some 1 := by decide +kernel
abbrev cc_Md_countOf : ByteArray := prog_14_method_46_code
def y_Md_countOf : MethodName := ⟨R_Md, "countOf", "(I)I"⟩
abbrev w_Md_countOf : List Cond := .code y_Md_countOf cc_Md_countOf 4 (some .int) :: wG
abbrev r_Md_countOf : Room := { frames := 0, cells := 0, slots := 0, locals := 0 }
set_option maxRecDepth 100000 in
theorem lc_Md_countOf : Cond.code y_Md_countOf cc_Md_countOf 4 (some .int) ∈ wG := wG_of (List.mem_append_right _ (List.mem_of_getElem? (i := 1121) rfl)) rfl
theorem li_Md_countOf : Cond.instanceMethod y_Md_countOf ∈ wG := wG_of (List.mem_append_right _ (List.mem_of_getElem? (i := 1120) (by decide +kernel))) rfl
theorem ls_Md_countOf : Cond.selects R_Md y_Md_countOf y_Md_countOf ∈ wG := wG_of (List.mem_append_left _ (List.mem_of_getElem? (i := 57) (by decide +kernel))) rfl
theorem hd_Md_countOf : y_Md_countOf.cls = R_Md ∧ y_Md_countOf.cls ≠ "java/lang/invoke/MethodHandle" ∧ y_Md_countOf.cls ≠ "java/lang/invoke/VarHandle" ∧ (parseMethodDescriptor y_Md_countOf.desc).map (fun d => d.parameters.length) = some 1 := by decide +kernel
abbrev cc_Md_join : ByteArray := prog_14_method_48_code
def y_Md_join : MethodName := ⟨R_Md, "join", "(III)V"⟩
abbrev w_Md_join : List Cond := .code y_Md_join cc_Md_join 6 none :: wG
abbrev r_Md_join : Room := { frames := 0, cells := 0, slots := 0, locals := 0 }
set_option maxRecDepth 100000 in
theorem lc_Md_join : Cond.code y_Md_join cc_Md_join 6 none ∈ wG := wG_of (List.mem_append_right _ (List.mem_of_getElem? (i := 1125) rfl)) rfl
theorem li_Md_join : Cond.instanceMethod y_Md_join ∈ wG := wG_of (List.mem_append_right _ (List.mem_of_getElem? (i := 1124) (by decide +kernel))) rfl
theorem ls_Md_join : Cond.selects R_Md y_Md_join y_Md_join ∈ wG := wG_of (List.mem_append_left _ (List.mem_of_getElem? (i := 58) (by decide +kernel))) rfl
theorem hd_Md_join : y_Md_join.cls = R_Md ∧ y_Md_join.cls ≠ "java/lang/invoke/MethodHandle" ∧ y_Md_join.cls ≠ "java/lang/invoke/VarHandle" ∧ (parseMethodDescriptor y_Md_join.desc).map (fun d => d.parameters.length) = some 3 := by decide +kernel
abbrev cc_Md_placeOf : ByteArray := prog_14_method_44_code
def y_Md_placeOf : MethodName := ⟨R_Md, "placeOf", "(I)I"⟩
abbrev w_Md_placeOf : List Cond := .code y_Md_placeOf cc_Md_placeOf 3 (some .int) :: wG
abbrev r_Md_placeOf : Room := { frames := 0, cells := 0, slots := 0, locals := 0 }
set_option maxRecDepth 100000 in
theorem lc_Md_placeOf : Cond.code y_Md_placeOf cc_Md_placeOf 3 (some .int) ∈ wG := wG_of (List.mem_append_right _ (List.mem_of_getElem? (i := 1129) rfl)) rfl
theorem li_Md_placeOf : Cond.instanceMethod y_Md_placeOf ∈ wG := wG_of (List.mem_append_right _ (List.mem_of_getElem? (i := 1128) (by decide +kernel))) rfl
theorem ls_Md_placeOf : Cond.selects R_Md y_Md_placeOf y_Md_placeOf ∈ wG := wG_of (List.mem_append_left _ (List.mem_of_getElem? (i := 59) (by decide +kernel))) rfl
theorem hd_Md_placeOf : y_Md_placeOf.cls = R_Md ∧ y_Md_placeOf.cls ≠ "java/lang/invoke/MethodHandle" ∧ y_Md_placeOf.cls ≠ "java/lang/invoke/VarHandle" ∧ (parseMethodDescriptor y_Md_placeOf.desc).map (fun d => d.parameters.length) = some 1 := by decide +kernel
abbrev cc_Md_push : ByteArray := prog_14_method_35_code
def y_Md_push : MethodName := ⟨R_Md, "push", "(II)V"⟩
abbrev w_Md_push : List Cond := .code y_Md_push cc_Md_push 4 none :: wG
abbrev r_Md_push : Room := { frames := 0, cells := 0, slots := 0, locals := 0 }
set_option maxRecDepth 100000 in
theorem lc_Md_push : Cond.code y_Md_push cc_Md_push 4 none ∈ wG := wG_of (List.mem_append_right _ (List.mem_of_getElem? (i := 1133) rfl)) rfl
theorem li_Md_push : Cond.instanceMethod y_Md_push ∈ wG := wG_of (List.mem_append_right _ (List.mem_of_getElem? (i := 1132) (by decide +kernel))) rfl
theorem ls_Md_push : Cond.selects R_Md y_Md_push y_Md_push ∈ wG := wG_of (List.mem_append_left _ (List.mem_of_getElem? (i := 60) (by decide +kernel))) rfl
theorem hd_Md_push : y_Md_push.cls = R_Md ∧ y_Md_push.cls ≠ "java/lang/invoke/MethodHandle" ∧ y_Md_push.cls ≠ "java/lang/invoke/VarHandle" ∧ (parseMethodDescriptor y_Md_push.desc).map (fun d => d.parameters.length) = some 2 := by decide +kernel
abbrev cc_Md_addStream : ByteArray := prog_14_method_36_code
def y_Md_addStream : MethodName := ⟨R_Md, "addStream", "()V"⟩
abbrev w_Md_addStream : List Cond := .code y_Md_addStream cc_Md_addStream 5 none :: wG
abbrev r_Md_addStream : Room := { frames := 1, cells := 0, slots := 0, locals := 21 }
set_option maxRecDepth 100000 in
theorem lc_Md_addStream : Cond.code y_Md_addStream cc_Md_addStream 5 none ∈ wG := wG_of (List.mem_append_right _ (List.mem_of_getElem? (i := 1137) rfl)) rfl
theorem li_Md_addStream : Cond.instanceMethod y_Md_addStream ∈ wG := wG_of (List.mem_append_right _ (List.mem_of_getElem? (i := 1136) (by decide +kernel))) rfl
theorem ls_Md_addStream : Cond.selects R_Md y_Md_addStream y_Md_addStream ∈ wG := wG_of (List.mem_append_left _ (List.mem_of_getElem? (i := 61) (by decide +kernel))) rfl
theorem hd_Md_addStream : y_Md_addStream.cls = R_Md ∧ y_Md_addStream.cls ≠ "java/lang/invoke/MethodHandle" ∧ y_Md_addStream.cls ≠ "java/lang/invoke/VarHandle" ∧ (parseMethodDescriptor y_Md_addStream.desc).map (fun d => d.parameters.length) = some 0 := by decide +kernel
abbrev cc_Md_addSequences : ByteArray := prog_14_method_40_code
def y_Md_addSequences : MethodName := ⟨R_Md, "addSequences", "()V"⟩
abbrev w_Md_addSequences : List Cond := .code y_Md_addSequences cc_Md_addSequences 4 none :: wG
abbrev r_Md_addSequences : Room := { frames := 2, cells := 0, slots := 0, locals := 48 }
set_option maxRecDepth 100000 in
theorem lc_Md_addSequences : Cond.code y_Md_addSequences cc_Md_addSequences 4 none ∈ wG := wG_of (List.mem_append_right _ (List.mem_of_getElem? (i := 1141) rfl)) rfl
theorem li_Md_addSequences : Cond.instanceMethod y_Md_addSequences ∈ wG := wG_of (List.mem_append_right _ (List.mem_of_getElem? (i := 1140) (by decide +kernel))) rfl
theorem ls_Md_addSequences : Cond.selects R_Md y_Md_addSequences y_Md_addSequences ∈ wG := wG_of (List.mem_append_left _ (List.mem_of_getElem? (i := 62) (by decide +kernel))) rfl
theorem hd_Md_addSequences : y_Md_addSequences.cls = R_Md ∧ y_Md_addSequences.cls ≠ "java/lang/invoke/MethodHandle" ∧ y_Md_addSequences.cls ≠ "java/lang/invoke/VarHandle" ∧ (parseMethodDescriptor y_Md_addSequences.desc).map (fun d => d.parameters.length) = some 0 := by decide +kernel
abbrev cc_Md_choose : ByteArray := prog_14_method_42_code
def y_Md_choose : MethodName := ⟨R_Md, "choose", "(I)V"⟩
abbrev w_Md_choose : List Cond := .code y_Md_choose cc_Md_choose 8 none :: wG
abbrev r_Md_choose : Room := { frames := 0, cells := 0, slots := 0, locals := 0 }
set_option maxRecDepth 100000 in
theorem lc_Md_choose : Cond.code y_Md_choose cc_Md_choose 8 none ∈ wG := wG_of (List.mem_append_right _ (List.mem_of_getElem? (i := 1145) rfl)) rfl
theorem li_Md_choose : Cond.instanceMethod y_Md_choose ∈ wG := wG_of (List.mem_append_right _ (List.mem_of_getElem? (i := 1144) (by decide +kernel))) rfl
theorem ls_Md_choose : Cond.selects R_Md y_Md_choose y_Md_choose ∈ wG := wG_of (List.mem_append_left _ (List.mem_of_getElem? (i := 63) (by decide +kernel))) rfl
theorem hd_Md_choose : y_Md_choose.cls = R_Md ∧ y_Md_choose.cls ≠ "java/lang/invoke/MethodHandle" ∧ y_Md_choose.cls ≠ "java/lang/invoke/VarHandle" ∧ (parseMethodDescriptor y_Md_choose.desc).map (fun d => d.parameters.length) = some 1 := by decide +kernel
abbrev cc_Md_pushStep : ByteArray := prog_14_method_41_code
def y_Md_pushStep : MethodName := ⟨R_Md, "pushStep", "(II)V"⟩
abbrev w_Md_pushStep : List Cond := .code y_Md_pushStep cc_Md_pushStep 4 none :: wG
abbrev r_Md_pushStep : Room := { frames := 1, cells := 0, slots := 0, locals := 23 }
set_option maxRecDepth 100000 in
theorem lc_Md_pushStep : Cond.code y_Md_pushStep cc_Md_pushStep 4 none ∈ wG := wG_of (List.mem_append_right _ (List.mem_of_getElem? (i := 1149) rfl)) rfl
theorem li_Md_pushStep : Cond.instanceMethod y_Md_pushStep ∈ wG := wG_of (List.mem_append_right _ (List.mem_of_getElem? (i := 1148) (by decide +kernel))) rfl
theorem ls_Md_pushStep : Cond.selects R_Md y_Md_pushStep y_Md_pushStep ∈ wG := wG_of (List.mem_append_left _ (List.mem_of_getElem? (i := 64) (by decide +kernel))) rfl
theorem hd_Md_pushStep : y_Md_pushStep.cls = R_Md ∧ y_Md_pushStep.cls ≠ "java/lang/invoke/MethodHandle" ∧ y_Md_pushStep.cls ≠ "java/lang/invoke/VarHandle" ∧ (parseMethodDescriptor y_Md_pushStep.desc).map (fun d => d.parameters.length) = some 2 := by decide +kernel
abbrev cc_Md_append : ByteArray := prog_14_method_52_code
def y_Md_append : MethodName := ⟨R_Md, "append", "(I)V"⟩
abbrev w_Md_append : List Cond := .code y_Md_append cc_Md_append 2 none :: wG
abbrev r_Md_append : Room := { frames := 0, cells := 0, slots := 0, locals := 0 }
set_option maxRecDepth 100000 in
theorem lc_Md_append : Cond.code y_Md_append cc_Md_append 2 none ∈ wG := wG_of (List.mem_append_right _ (List.mem_of_getElem? (i := 1153) rfl)) rfl
theorem li_Md_append : Cond.instanceMethod y_Md_append ∈ wG := wG_of (List.mem_append_right _ (List.mem_of_getElem? (i := 1152) (by decide +kernel))) rfl
theorem ls_Md_append : Cond.selects R_Md y_Md_append y_Md_append ∈ wG := wG_of (List.mem_append_left _ (List.mem_of_getElem? (i := 65) (by decide +kernel))) rfl
theorem hd_Md_append : y_Md_append.cls = R_Md ∧ y_Md_append.cls ≠ "java/lang/invoke/MethodHandle" ∧ y_Md_append.cls ≠ "java/lang/invoke/VarHandle" ∧ (parseMethodDescriptor y_Md_append.desc).map (fun d => d.parameters.length) = some 1 := by decide +kernel
abbrev cc_Md_skip : ByteArray := prog_14_method_53_code
def y_Md_skip : MethodName := ⟨R_Md, "skip", "(I)Z"⟩
abbrev w_Md_skip : List Cond := .code y_Md_skip cc_Md_skip 3 (some .boolean) :: wG
abbrev r_Md_skip : Room := { frames := 1, cells := 0, slots := 0, locals := 21 }
set_option maxRecDepth 100000 in
theorem lc_Md_skip : Cond.code y_Md_skip cc_Md_skip 3 (some .boolean) ∈ wG := wG_of (List.mem_append_right _ (List.mem_of_getElem? (i := 1158) rfl)) rfl
theorem li_Md_skip : Cond.instanceMethod y_Md_skip ∈ wG := wG_of (List.mem_append_right _ (List.mem_of_getElem? (i := 1156) (by decide +kernel))) rfl
theorem ls_Md_skip : Cond.selects R_Md y_Md_skip y_Md_skip ∈ wG := wG_of (List.mem_append_right _ (List.mem_of_getElem? (i := 1157) (by decide +kernel))) rfl
theorem hd_Md_skip : y_Md_skip.cls = R_Md ∧ y_Md_skip.cls ≠ "java/lang/invoke/MethodHandle" ∧ y_Md_skip.cls ≠ "java/lang/invoke/VarHandle" ∧ (parseMethodDescriptor y_Md_skip.desc).map (fun d => d.parameters.length) = some 1 := by decide +kernel
abbrev cc_Md_usual : ByteArray := prog_14_method_54_code
def y_Md_usual : MethodName := ⟨R_Md, "usual", "(III)I"⟩
abbrev w_Md_usual : List Cond := .code y_Md_usual cc_Md_usual 5 (some .int) :: wG
abbrev r_Md_usual : Room := { frames := 2, cells := 0, slots := 0, locals := 48 }
set_option maxRecDepth 100000 in
theorem lc_Md_usual : Cond.code y_Md_usual cc_Md_usual 5 (some .int) ∈ wG := wG_of (List.mem_append_right _ (List.mem_of_getElem? (i := 1162) rfl)) rfl
theorem li_Md_usual : Cond.instanceMethod y_Md_usual ∈ wG := wG_of (List.mem_append_right _ (List.mem_of_getElem? (i := 1160) (by decide +kernel))) rfl
theorem ls_Md_usual : Cond.selects R_Md y_Md_usual y_Md_usual ∈ wG := wG_of (List.mem_append_right _ (List.mem_of_getElem? (i := 1161) (by decide +kernel))) rfl
theorem hd_Md_usual : y_Md_usual.cls = R_Md ∧ y_Md_usual.cls ≠ "java/lang/invoke/MethodHandle" ∧ y_Md_usual.cls ≠ "java/lang/invoke/VarHandle" ∧ (parseMethodDescriptor y_Md_usual.desc).map (fun d => d.parameters.length) = some 3 := by decide +kernel
theorem lm_Br_19 : Cond.methodLink R_Br 19 y_Br_bytesNeeded ∈ wG := wG_of (List.mem_append_right _ (List.mem_of_getElem? (i := 569) (by decide +kernel))) rfl
theorem lm_Br_23 : Cond.methodLink R_Br 23 y_Br_bitOver ∈ wG := wG_of (List.mem_append_right _ (List.mem_of_getElem? (i := 570) (by decide +kernel))) rfl
theorem lm_Br_27 : Cond.methodLink R_Br 27 y_Row_add ∈ wG := wG_of (List.mem_append_right _ (List.mem_of_getElem? (i := 574) (by decide +kernel))) rfl
theorem lm_Fr_11 : Cond.methodLink R_Fr 11 y_Row_init ∈ wG := wG_of (List.mem_append_right _ (List.mem_of_getElem? (i := 102) (by decide +kernel))) rfl
theorem lm_Fr_111 : Cond.methodLink R_Fr 111 y_Rp_begin ∈ wG := wG_of (List.mem_append_right _ (List.mem_of_getElem? (i := 670) (by decide +kernel))) rfl
theorem lm_Fr_113 : Cond.methodLink R_Fr 113 y_Wr_bytesLeft ∈ wG := wG_of (List.mem_append_right _ (List.mem_of_getElem? (i := 675) (by decide +kernel))) rfl
theorem lm_Fr_116 : Cond.methodLink R_Fr 116 y_Fr_fits ∈ wG := wG_of (List.mem_append_right _ (List.mem_of_getElem? (i := 679) (by decide +kernel))) rfl
theorem lm_Fr_119 : Cond.methodLink R_Fr 119 y_Row_add ∈ wG := wG_of (List.mem_append_right _ (List.mem_of_getElem? (i := 687) (by decide +kernel))) rfl
theorem lm_Fr_122 : Cond.methodLink R_Fr 122 y_Row_addTimes ∈ wG := wG_of (List.mem_append_right _ (List.mem_of_getElem? (i := 692) (by decide +kernel))) rfl
theorem lm_Fr_129 : Cond.methodLink R_Fr 129 y_Fr_readLiterals ∈ wG := wG_of (List.mem_append_right _ (List.mem_of_getElem? (i := 697) (by decide +kernel))) rfl
theorem lm_Fr_132 : Cond.methodLink R_Fr 132 y_Sq_takeTables ∈ wG := wG_of (List.mem_append_right _ (List.mem_of_getElem? (i := 734) (by decide +kernel))) rfl
theorem lm_Fr_135 : Cond.methodLink R_Fr 135 y_Fr_readSequences ∈ wG := wG_of (List.mem_append_right _ (List.mem_of_getElem? (i := 758) (by decide +kernel))) rfl
theorem lm_Fr_141 : Cond.methodLink R_Fr 141 y_Fr_putLiterals ∈ wG := wG_of (List.mem_append_right _ (List.mem_of_getElem? (i := 796) (by decide +kernel))) rfl
theorem lm_Fr_147 : Cond.methodLink R_Fr 147 y_Fr_readTree ∈ wG := wG_of (List.mem_append_right _ (List.mem_of_getElem? (i := 701) (by decide +kernel))) rfl
theorem lm_Fr_150 : Cond.methodLink R_Fr 150 y_Fr_readSymbols ∈ wG := wG_of (List.mem_append_right _ (List.mem_of_getElem? (i := 711) (by decide +kernel))) rfl
theorem lm_Fr_160 : Cond.methodLink R_Fr 160 y_Wr_takeHalves ∈ wG := wG_of (List.mem_append_right _ (List.mem_of_getElem? (i := 705) (by decide +kernel))) rfl
theorem lm_Fr_164 : Cond.methodLink R_Fr 164 y_Tr_complete ∈ wG := wG_of (List.mem_append_right _ (List.mem_of_getElem? (i := 709) (by decide +kernel))) rfl
theorem lm_Fr_167 : Cond.methodLink R_Fr 167 y_Tr_dealCells ∈ wG := wG_of (List.mem_append_right _ (List.mem_of_getElem? (i := 710) (by decide +kernel))) rfl
theorem lm_Fr_170 : Cond.methodLink R_Fr 170 y_Wr_beginStream ∈ wG := wG_of (List.mem_append_right _ (List.mem_of_getElem? (i := 715) (by decide +kernel))) rfl
theorem lm_Fr_179 : Cond.methodLink R_Fr 179 y_Wr_nextBits ∈ wG := wG_of (List.mem_append_right _ (List.mem_of_getElem? (i := 721) (by decide +kernel))) rfl
theorem lm_Fr_182 : Cond.methodLink R_Fr 182 y_Tr_bitsOf ∈ wG := wG_of (List.mem_append_right _ (List.mem_of_getElem? (i := 725) (by decide +kernel))) rfl
theorem lm_Fr_185 : Cond.methodLink R_Fr 185 y_Wr_dropBits ∈ wG := wG_of (List.mem_append_right _ (List.mem_of_getElem? (i := 726) (by decide +kernel))) rfl
theorem lm_Fr_188 : Cond.methodLink R_Fr 188 y_Wr_endStream ∈ wG := wG_of (List.mem_append_right _ (List.mem_of_getElem? (i := 730) (by decide +kernel))) rfl
theorem lm_Fr_191 : Cond.methodLink R_Fr 191 y_Sq_takeFirstStates ∈ wG := wG_of (List.mem_append_right _ (List.mem_of_getElem? (i := 762) (by decide +kernel))) rfl
theorem lm_Fr_194 : Cond.methodLink R_Fr 194 y_Sq_takeNextStates ∈ wG := wG_of (List.mem_append_right _ (List.mem_of_getElem? (i := 772) (by decide +kernel))) rfl
theorem lm_Fr_197 : Cond.methodLink R_Fr 197 y_Sq_takeSequence ∈ wG := wG_of (List.mem_append_right _ (List.mem_of_getElem? (i := 784) (by decide +kernel))) rfl
theorem lm_Fr_202 : Cond.methodLink R_Fr 202 y_Fr_putMatch ∈ wG := wG_of (List.mem_append_right _ (List.mem_of_getElem? (i := 800) (by decide +kernel))) rfl
theorem lm_Fr_211 : Cond.methodLink R_Fr 211 y_Rp_wayFor ∈ wG := wG_of (List.mem_append_right _ (List.mem_of_getElem? (i := 804) (by decide +kernel))) rfl
theorem lm_Fr_218 : Cond.methodLink R_Fr 218 y_Rp_keepWay ∈ wG := wG_of (List.mem_append_right _ (List.mem_of_getElem? (i := 805) (by decide +kernel))) rfl
theorem lm_Fr_39 : Cond.methodLink R_Fr 39 y_Wr_init ∈ wG := wG_of (List.mem_append_right _ (List.mem_of_getElem? (i := 148) (by decide +kernel))) rfl
theorem lm_Fr_48 : Cond.methodLink R_Fr 48 y_Sq_init ∈ wG := wG_of (List.mem_append_right _ (List.mem_of_getElem? (i := 177) (by decide +kernel))) rfl
theorem lm_Fr_55 : Cond.methodLink R_Fr 55 y_Wr_begin ∈ wG := wG_of (List.mem_append_right _ (List.mem_of_getElem? (i := 652) (by decide +kernel))) rfl
theorem lm_Fr_58 : Cond.methodLink R_Fr 58 y_Wr_takeByte ∈ wG := wG_of (List.mem_append_right _ (List.mem_of_getElem? (i := 656) (by decide +kernel))) rfl
theorem lm_Fr_62 : Cond.methodLink R_Fr 62 y_Wr_takePair ∈ wG := wG_of (List.mem_append_right _ (List.mem_of_getElem? (i := 660) (by decide +kernel))) rfl
theorem lm_Fr_65 : Cond.methodLink R_Fr 65 y_Row_hasRoom ∈ wG := wG_of (List.mem_append_right _ (List.mem_of_getElem? (i := 665) (by decide +kernel))) rfl
theorem lm_Fr_69 : Cond.methodLink R_Fr 69 y_Fr_beginFrame ∈ wG := wG_of (List.mem_append_right _ (List.mem_of_getElem? (i := 666) (by decide +kernel))) rfl
theorem lm_Fr_76 : Cond.methodLink R_Fr 76 y_Fr_readRaw ∈ wG := wG_of (List.mem_append_right _ (List.mem_of_getElem? (i := 671) (by decide +kernel))) rfl
theorem lm_Fr_79 : Cond.methodLink R_Fr 79 y_Fr_readRun ∈ wG := wG_of (List.mem_append_right _ (List.mem_of_getElem? (i := 688) (by decide +kernel))) rfl
theorem lm_Fr_82 : Cond.methodLink R_Fr 82 y_Fr_readPack ∈ wG := wG_of (List.mem_append_right _ (List.mem_of_getElem? (i := 693) (by decide +kernel))) rfl
theorem lm_Fr_85 : Cond.methodLink R_Fr 85 y_Wr_refuse ∈ wG := wG_of (List.mem_append_right _ (List.mem_of_getElem? (i := 683) (by decide +kernel))) rfl
theorem lm_Fr_98 : Cond.methodLink R_Fr 98 y_Row_markFrom ∈ wG := wG_of (List.mem_append_right _ (List.mem_of_getElem? (i := 806) (by decide +kernel))) rfl
theorem lm_Jo_21 : Cond.methodLink R_Jo 21 y_Arr_fill ∈ wG := wG_of (List.mem_append_right _ (List.mem_of_getElem? (i := 507) (by decide +kernel))) rfl
theorem lm_Jo_36 : Cond.methodLink R_Jo 36 y_Jo_countThere ∈ wG := wG_of (List.mem_append_right _ (List.mem_of_getElem? (i := 514) (by decide +kernel))) rfl
theorem lm_Jo_40 : Cond.methodLink R_Jo 40 y_Jo_giveAway ∈ wG := wG_of (List.mem_append_right _ (List.mem_of_getElem? (i := 518) (by decide +kernel))) rfl
theorem lm_Jo_47 : Cond.methodLink R_Jo 47 y_Mth_max ∈ wG := wG_of (List.mem_append_right _ (List.mem_of_getElem? (i := 522) (by decide +kernel))) rfl
theorem lm_Mf_11 : Cond.methodLink R_Mf 11 y_Row_init ∈ wG := wG_of (List.mem_append_right _ (List.mem_of_getElem? (i := 301) (by decide +kernel))) rfl
theorem lm_Mf_47 : Cond.methodLink R_Mf 47 y_Rp_begin ∈ wG := wG_of (List.mem_append_right _ (List.mem_of_getElem? (i := 460) (by decide +kernel))) rfl
theorem lm_Mf_50 : Cond.methodLink R_Mf 50 y_Mf_findLongest ∈ wG := wG_of (List.mem_append_right _ (List.mem_of_getElem? (i := 464) (by decide +kernel))) rfl
theorem lm_Mf_59 : Cond.methodLink R_Mf 59 y_Mf_addSequence ∈ wG := wG_of (List.mem_append_right _ (List.mem_of_getElem? (i := 468) (by decide +kernel))) rfl
theorem lm_Mf_66 : Cond.methodLink R_Mf 66 y_Row_add ∈ wG := wG_of (List.mem_append_right _ (List.mem_of_getElem? (i := 484) (by decide +kernel))) rfl
theorem lm_Mf_69 : Cond.methodLink R_Mf 69 y_Rp_leastValueFor ∈ wG := wG_of (List.mem_append_right _ (List.mem_of_getElem? (i := 472) (by decide +kernel))) rfl
theorem lm_Mf_73 : Cond.methodLink R_Mf 73 y_Rp_keepWay ∈ wG := wG_of (List.mem_append_right _ (List.mem_of_getElem? (i := 480) (by decide +kernel))) rfl
theorem lm_Pk_102 : Cond.methodLink R_Pk 102 y_Row_addRow ∈ wG := wG_of (List.mem_append_right _ (List.mem_of_getElem? (i := 575) (by decide +kernel))) rfl
theorem lm_Pk_105 : Cond.methodLink R_Pk 105 y_Pk_addedWithTree ∈ wG := wG_of (List.mem_append_right _ (List.mem_of_getElem? (i := 489) (by decide +kernel))) rfl
theorem lm_Pk_109 : Cond.methodLink R_Pk 109 y_Mth_min ∈ wG := wG_of (List.mem_append_right _ (List.mem_of_getElem? (i := 493) (by decide +kernel))) rfl
theorem lm_Pk_11 : Cond.methodLink R_Pk 11 y_Row_init ∈ wG := wG_of (List.mem_append_right _ (List.mem_of_getElem? (i := 256) (by decide +kernel))) rfl
theorem lm_Pk_115 : Cond.methodLink R_Pk 115 y_Mth_max ∈ wG := wG_of (List.mem_append_right _ (List.mem_of_getElem? (i := 496) (by decide +kernel))) rfl
theorem lm_Pk_118 : Cond.methodLink R_Pk 118 y_Pk_growTree ∈ wG := wG_of (List.mem_append_right _ (List.mem_of_getElem? (i := 499) (by decide +kernel))) rfl
theorem lm_Pk_123 : Cond.methodLink R_Pk 123 y_Tr_addSymbol ∈ wG := wG_of (List.mem_append_right _ (List.mem_of_getElem? (i := 545) (by decide +kernel))) rfl
theorem lm_Pk_127 : Cond.methodLink R_Pk 127 y_Br_bytesNeeded ∈ wG := wG_of (List.mem_append_right _ (List.mem_of_getElem? (i := 557) (by decide +kernel))) rfl
theorem lm_Pk_131 : Cond.methodLink R_Pk 131 y_Pk_addTree ∈ wG := wG_of (List.mem_append_right _ (List.mem_of_getElem? (i := 561) (by decide +kernel))) rfl
theorem lm_Pk_134 : Cond.methodLink R_Pk 134 y_Br_addStreamTo ∈ wG := wG_of (List.mem_append_right _ (List.mem_of_getElem? (i := 565) (by decide +kernel))) rfl
theorem lm_Pk_137 : Cond.methodLink R_Pk 137 y_Jo_countBytes ∈ wG := wG_of (List.mem_append_right _ (List.mem_of_getElem? (i := 503) (by decide +kernel))) rfl
theorem lm_Pk_141 : Cond.methodLink R_Pk 141 y_Jo_findLengths ∈ wG := wG_of (List.mem_append_right _ (List.mem_of_getElem? (i := 510) (by decide +kernel))) rfl
theorem lm_Pk_155 : Cond.methodLink R_Pk 155 y_Tr_complete ∈ wG := wG_of (List.mem_append_right _ (List.mem_of_getElem? (i := 523) (by decide +kernel))) rfl
theorem lm_Pk_159 : Cond.methodLink R_Pk 159 y_Tr_dealCells ∈ wG := wG_of (List.mem_append_right _ (List.mem_of_getElem? (i := 541) (by decide +kernel))) rfl
theorem lm_Pk_165 : Cond.methodLink R_Pk 165 y_Pk_chooseStates ∈ wG := wG_of (List.mem_append_right _ (List.mem_of_getElem? (i := 583) (by decide +kernel))) rfl
theorem lm_Pk_168 : Cond.methodLink R_Pk 168 y_Br_add ∈ wG := wG_of (List.mem_append_right _ (List.mem_of_getElem? (i := 610) (by decide +kernel))) rfl
theorem lm_Pk_171 : Cond.methodLink R_Pk 171 y_Pk_addNextState ∈ wG := wG_of (List.mem_append_right _ (List.mem_of_getElem? (i := 611) (by decide +kernel))) rfl
theorem lm_Pk_175 : Cond.methodLink R_Pk 175 y_Pk_addValues ∈ wG := wG_of (List.mem_append_right _ (List.mem_of_getElem? (i := 615) (by decide +kernel))) rfl
theorem lm_Pk_184 : Cond.methodLink R_Pk 184 y_Pk_codeOf ∈ wG := wG_of (List.mem_append_right _ (List.mem_of_getElem? (i := 589) (by decide +kernel))) rfl
theorem lm_Pk_188 : Cond.methodLink R_Pk 188 y_Pk_chooseState ∈ wG := wG_of (List.mem_append_right _ (List.mem_of_getElem? (i := 592) (by decide +kernel))) rfl
theorem lm_Pk_201 : Cond.methodLink R_Pk 201 y_Pk_wayCodeOf ∈ wG := wG_of (List.mem_append_right _ (List.mem_of_getElem? (i := 606) (by decide +kernel))) rfl
theorem lm_Pk_205 : Cond.methodLink R_Pk 205 y_ST_leastStateOf ∈ wG := wG_of (List.mem_append_right _ (List.mem_of_getElem? (i := 596) (by decide +kernel))) rfl
theorem lm_Pk_210 : Cond.methodLink R_Pk 210 y_ST_stateBefore ∈ wG := wG_of (List.mem_append_right _ (List.mem_of_getElem? (i := 600) (by decide +kernel))) rfl
theorem lm_Pk_225 : Cond.methodLink R_Pk 225 y_Int_numberOfLeadingZeros ∈ wG := wG_of (List.mem_append_right _ (List.mem_of_getElem? (i := 609) (by decide +kernel))) rfl
theorem lm_Pk_63 : Cond.methodLink R_Pk 63 y_Mf_init ∈ wG := wG_of (List.mem_append_right _ (List.mem_of_getElem? (i := 296) (by decide +kernel))) rfl
theorem lm_Pk_77 : Cond.methodLink R_Pk 77 y_Row_isOneByteOnly ∈ wG := wG_of (List.mem_append_right _ (List.mem_of_getElem? (i := 451) (by decide +kernel))) rfl
theorem lm_Pk_87 : Cond.methodLink R_Pk 87 y_Row_add ∈ wG := wG_of (List.mem_append_right _ (List.mem_of_getElem? (i := 455) (by decide +kernel))) rfl
theorem lm_Pk_90 : Cond.methodLink R_Pk 90 y_Mf_divide ∈ wG := wG_of (List.mem_append_right _ (List.mem_of_getElem? (i := 456) (by decide +kernel))) rfl
theorem lm_Pk_96 : Cond.methodLink R_Pk 96 y_Pk_addLiterals ∈ wG := wG_of (List.mem_append_right _ (List.mem_of_getElem? (i := 485) (by decide +kernel))) rfl
theorem lm_Pk_99 : Cond.methodLink R_Pk 99 y_Pk_addSequences ∈ wG := wG_of (List.mem_append_right _ (List.mem_of_getElem? (i := 579) (by decide +kernel))) rfl
theorem lm_Rp_19 : Cond.methodLink R_Rp 19 y_Rp_wayFor ∈ wG := wG_of (List.mem_append_right _ (List.mem_of_getElem? (i := 476) (by decide +kernel))) rfl
theorem lm_Row_19 : Cond.methodLink R_Row 19 y_Row_add ∈ wG := wG_of (List.mem_append_right _ (List.mem_of_getElem? (i := 411) (by decide +kernel))) rfl
theorem lm_Row_23 : Cond.methodLink R_Row 23 y_Row_hasRoom ∈ wG := wG_of (List.mem_append_right _ (List.mem_of_getElem? (i := 407) (by decide +kernel))) rfl
theorem lm_Sq_15 : Cond.methodLink R_Sq 15 y_ST_init ∈ wG := wG_of (List.mem_append_right _ (List.mem_of_getElem? (i := 183) (by decide +kernel))) rfl
theorem lm_Sq_40 : Cond.methodLink R_Sq 40 y_Wr_takeByte ∈ wG := wG_of (List.mem_append_right _ (List.mem_of_getElem? (i := 738) (by decide +kernel))) rfl
theorem lm_Sq_46 : Cond.methodLink R_Sq 46 y_Wr_refuse ∈ wG := wG_of (List.mem_append_right _ (List.mem_of_getElem? (i := 739) (by decide +kernel))) rfl
theorem lm_Sq_49 : Cond.methodLink R_Sq 49 y_Sq_takeTable ∈ wG := wG_of (List.mem_append_right _ (List.mem_of_getElem? (i := 740) (by decide +kernel))) rfl
theorem lm_Sq_60 : Cond.methodLink R_Sq 60 y_ST_keepCounts ∈ wG := wG_of (List.mem_append_right _ (List.mem_of_getElem? (i := 744) (by decide +kernel))) rfl
theorem lm_Sq_64 : Cond.methodLink R_Sq 64 y_Sq_takeOneCode ∈ wG := wG_of (List.mem_append_right _ (List.mem_of_getElem? (i := 745) (by decide +kernel))) rfl
theorem lm_Sq_68 : Cond.methodLink R_Sq 68 y_Sq_takeCounts ∈ wG := wG_of (List.mem_append_right _ (List.mem_of_getElem? (i := 753) (by decide +kernel))) rfl
theorem lm_Sq_71 : Cond.methodLink R_Sq 71 y_ST_keepOne ∈ wG := wG_of (List.mem_append_right _ (List.mem_of_getElem? (i := 749) (by decide +kernel))) rfl
theorem lm_Sq_75 : Cond.methodLink R_Sq 75 y_Wr_takeHalves ∈ wG := wG_of (List.mem_append_right _ (List.mem_of_getElem? (i := 757) (by decide +kernel))) rfl
theorem lm_Sq_82 : Cond.methodLink R_Sq 82 y_Wr_takeBits ∈ wG := wG_of (List.mem_append_right _ (List.mem_of_getElem? (i := 766) (by decide +kernel))) rfl
theorem lm_Sq_89 : Cond.methodLink R_Sq 89 y_ST_width ∈ wG := wG_of (List.mem_append_right _ (List.mem_of_getElem? (i := 776) (by decide +kernel))) rfl
theorem lm_Sq_92 : Cond.methodLink R_Sq 92 y_ST_goOn ∈ wG := wG_of (List.mem_append_right _ (List.mem_of_getElem? (i := 780) (by decide +kernel))) rfl
theorem lm_Sq_95 : Cond.methodLink R_Sq 95 y_ST_code ∈ wG := wG_of (List.mem_append_right _ (List.mem_of_getElem? (i := 788) (by decide +kernel))) rfl
theorem lm_ST_27 : Cond.methodLink R_ST 27 y_ST_keepCounts ∈ wG := wG_of (List.mem_append_right _ (List.mem_of_getElem? (i := 59) (by decide +kernel))) rfl
theorem lm_Tr_21 : Cond.methodLink R_Tr 21 y_Tr_cellsOf ∈ wG := wG_of (List.mem_append_right _ (List.mem_of_getElem? (i := 527) (by decide +kernel))) rfl
theorem lm_Tr_25 : Cond.methodLink R_Tr 25 y_Int_numberOfLeadingZeros ∈ wG := wG_of (List.mem_append_right _ (List.mem_of_getElem? (i := 531) (by decide +kernel))) rfl
theorem lm_Tr_34 : Cond.methodLink R_Tr 34 y_Int_bitCount ∈ wG := wG_of (List.mem_append_right _ (List.mem_of_getElem? (i := 535) (by decide +kernel))) rfl
theorem lm_Tr_37 : Cond.methodLink R_Tr 37 y_Tr_bitsOf ∈ wG := wG_of (List.mem_append_right _ (List.mem_of_getElem? (i := 549) (by decide +kernel))) rfl
theorem lm_Tr_40 : Cond.methodLink R_Tr 40 y_Br_add ∈ wG := wG_of (List.mem_append_right _ (List.mem_of_getElem? (i := 553) (by decide +kernel))) rfl
theorem lm_Wr_36 : Cond.methodLink R_Wr 36 y_Wr_takeByte ∈ wG := wG_of (List.mem_append_right _ (List.mem_of_getElem? (i := 664) (by decide +kernel))) rfl
theorem lm_Wr_40 : Cond.methodLink R_Wr 40 y_Wr_bytesLeft ∈ wG := wG_of (List.mem_append_right _ (List.mem_of_getElem? (i := 719) (by decide +kernel))) rfl
theorem lm_Wr_46 : Cond.methodLink R_Wr 46 y_Int_numberOfLeadingZeros ∈ wG := wG_of (List.mem_append_right _ (List.mem_of_getElem? (i := 720) (by decide +kernel))) rfl
theorem lm_Wr_52 : Cond.methodLink R_Wr 52 y_Wr_nextBits ∈ wG := wG_of (List.mem_append_right _ (List.mem_of_getElem? (i := 770) (by decide +kernel))) rfl
theorem lm_Wr_55 : Cond.methodLink R_Wr 55 y_Wr_dropBits ∈ wG := wG_of (List.mem_append_right _ (List.mem_of_getElem? (i := 771) (by decide +kernel))) rfl
theorem lm_PF_101 : Cond.methodLink R_PF 101 y_Row_addTimes ∈ wG := wG_of (List.mem_append_right _ (List.mem_of_getElem? (i := 640) (by decide +kernel))) rfl
theorem lm_PF_108 : Cond.methodLink R_PF 108 y_Fr_placeBehindFrame ∈ wG := wG_of (List.mem_append_right _ (List.mem_of_getElem? (i := 648) (by decide +kernel))) rfl
theorem lm_PF_11 : Cond.methodLink R_PF 11 y_Row_init ∈ wG := wG_of (List.mem_append_right _ (List.mem_of_getElem? (i := 27) (by decide +kernel))) rfl
theorem lm_PF_111 : Cond.methodLink R_PF 111 y_PF_placeBehindSkip ∈ wG := wG_of (List.mem_append_right _ (List.mem_of_getElem? (i := 807) (by decide +kernel))) rfl
theorem lm_PF_27 : Cond.methodLink R_PF 27 y_ST_init ∈ wG := wG_of (List.mem_append_right _ (List.mem_of_getElem? (i := 55) (by decide +kernel))) rfl
theorem lm_PF_42 : Cond.methodLink R_PF 42 y_Fr_init ∈ wG := wG_of (List.mem_append_right _ (List.mem_of_getElem? (i := 97) (by decide +kernel))) rfl
theorem lm_PF_51 : Cond.methodLink R_PF 51 y_Pk_init ∈ wG := wG_of (List.mem_append_right _ (List.mem_of_getElem? (i := 251) (by decide +kernel))) rfl
theorem lm_PF_58 : Cond.methodLink R_PF 58 y_Row_addLowest ∈ wG := wG_of (List.mem_append_right _ (List.mem_of_getElem? (i := 403) (by decide +kernel))) rfl
theorem lm_PF_66 : Cond.methodLink R_PF 66 y_Row_sizeOrByte ∈ wG := wG_of (List.mem_append_right _ (List.mem_of_getElem? (i := 423) (by decide +kernel))) rfl
theorem lm_PF_73 : Cond.methodLink R_PF 73 y_Pk_chooseBlock ∈ wG := wG_of (List.mem_append_right _ (List.mem_of_getElem? (i := 447) (by decide +kernel))) rfl
theorem lm_PF_79 : Cond.methodLink R_PF 79 y_Row_hasRoom ∈ wG := wG_of (List.mem_append_right _ (List.mem_of_getElem? (i := 623) (by decide +kernel))) rfl
theorem lm_PF_83 : Cond.methodLink R_PF 83 y_Row_add ∈ wG := wG_of (List.mem_append_right _ (List.mem_of_getElem? (i := 624) (by decide +kernel))) rfl
theorem lm_PF_86 : Cond.methodLink R_PF 86 y_Row_addPair ∈ wG := wG_of (List.mem_append_right _ (List.mem_of_getElem? (i := 625) (by decide +kernel))) rfl
theorem lm_PF_95 : Cond.methodLink R_PF 95 y_Row_addRow ∈ wG := wG_of (List.mem_append_right _ (List.mem_of_getElem? (i := 629) (by decide +kernel))) rfl
theorem lm_PF_98 : Cond.methodLink R_PF 98 y_Row_markFrom ∈ wG := wG_of (List.mem_append_right _ (List.mem_of_getElem? (i := 630) (by decide +kernel))) rfl
theorem lm_Md_121 : Cond.methodLink R_Md 121 y_Md_look ∈ wG := wG_of (List.mem_append_right _ (List.mem_of_getElem? (i := 1030) (by decide +kernel))) rfl
theorem lm_Md_125 : Cond.methodLink R_Md 125 y_Md_next ∈ wG := wG_of (List.mem_append_right _ (List.mem_of_getElem? (i := 994) (by decide +kernel))) rfl
theorem lm_Md_128 : Cond.methodLink R_Md 128 y_Md_frame ∈ wG := wG_of (List.mem_append_right _ (List.mem_of_getElem? (i := 998) (by decide +kernel))) rfl
theorem lm_Md_134 : Cond.methodLink R_Md 134 y_Md_block ∈ wG := wG_of (List.mem_append_right _ (List.mem_of_getElem? (i := 1002) (by decide +kernel))) rfl
theorem lm_Md_138 : Cond.methodLink R_Md 138 y_Md_emit ∈ wG := wG_of (List.mem_append_right _ (List.mem_of_getElem? (i := 1006) (by decide +kernel))) rfl
theorem lm_Md_141 : Cond.methodLink R_Md 141 y_Md_readLiterals ∈ wG := wG_of (List.mem_append_right _ (List.mem_of_getElem? (i := 1010) (by decide +kernel))) rfl
theorem lm_Md_144 : Cond.methodLink R_Md 144 y_Md_readSequences ∈ wG := wG_of (List.mem_append_right _ (List.mem_of_getElem? (i := 1038) (by decide +kernel))) rfl
theorem lm_Md_147 : Cond.methodLink R_Md 147 y_Md_perform ∈ wG := wG_of (List.mem_append_right _ (List.mem_of_getElem? (i := 1070) (by decide +kernel))) rfl
theorem lm_Md_153 : Cond.methodLink R_Md 153 y_Md_readTree ∈ wG := wG_of (List.mem_append_right _ (List.mem_of_getElem? (i := 1014) (by decide +kernel))) rfl
theorem lm_Md_156 : Cond.methodLink R_Md 156 y_Md_readSymbols ∈ wG := wG_of (List.mem_append_right _ (List.mem_of_getElem? (i := 1022) (by decide +kernel))) rfl
theorem lm_Md_159 : Cond.methodLink R_Md 159 y_Md_openStream ∈ wG := wG_of (List.mem_append_right _ (List.mem_of_getElem? (i := 1026) (by decide +kernel))) rfl
theorem lm_Md_169 : Cond.methodLink R_Md 169 y_Md_take ∈ wG := wG_of (List.mem_append_right _ (List.mem_of_getElem? (i := 1034) (by decide +kernel))) rfl
theorem lm_Md_175 : Cond.methodLink R_Md 175 y_Md_plant ∈ wG := wG_of (List.mem_append_right _ (List.mem_of_getElem? (i := 1018) (by decide +kernel))) rfl
theorem lm_Md_181 : Cond.methodLink R_Md 181 y_Md_readTable ∈ wG := wG_of (List.mem_append_right _ (List.mem_of_getElem? (i := 1042) (by decide +kernel))) rfl
theorem lm_Md_185 : Cond.methodLink R_Md 185 y_Md_matchBase ∈ wG := wG_of (List.mem_append_right _ (List.mem_of_getElem? (i := 1054) (by decide +kernel))) rfl
theorem lm_Md_188 : Cond.methodLink R_Md 188 y_Md_matchBits ∈ wG := wG_of (List.mem_append_right _ (List.mem_of_getElem? (i := 1057) (by decide +kernel))) rfl
theorem lm_Md_191 : Cond.methodLink R_Md 191 y_Md_aheadBase ∈ wG := wG_of (List.mem_append_right _ (List.mem_of_getElem? (i := 1060) (by decide +kernel))) rfl
theorem lm_Md_194 : Cond.methodLink R_Md 194 y_Md_aheadBits ∈ wG := wG_of (List.mem_append_right _ (List.mem_of_getElem? (i := 1063) (by decide +kernel))) rfl
theorem lm_Md_197 : Cond.methodLink R_Md 197 y_Md_step ∈ wG := wG_of (List.mem_append_right _ (List.mem_of_getElem? (i := 1066) (by decide +kernel))) rfl
theorem lm_Md_200 : Cond.methodLink R_Md 200 y_Md_setUsual ∈ wG := wG_of (List.mem_append_right _ (List.mem_of_getElem? (i := 1046) (by decide +kernel))) rfl
theorem lm_Md_203 : Cond.methodLink R_Md 203 y_Md_spread ∈ wG := wG_of (List.mem_append_right _ (List.mem_of_getElem? (i := 1050) (by decide +kernel))) rfl
theorem lm_Md_206 : Cond.methodLink R_Md 206 y_Md_wayBack ∈ wG := wG_of (List.mem_append_right _ (List.mem_of_getElem? (i := 1074) (by decide +kernel))) rfl
theorem lm_Md_215 : Cond.methodLink R_Md 215 y_Md_add ∈ wG := wG_of (List.mem_append_right _ (List.mem_of_getElem? (i := 1102) (by decide +kernel))) rfl
theorem lm_Md_218 : Cond.methodLink R_Md 218 y_Md_run ∈ wG := wG_of (List.mem_append_right _ (List.mem_of_getElem? (i := 1094) (by decide +kernel))) rfl
theorem lm_Md_221 : Cond.methodLink R_Md 221 y_Md_valueOf ∈ wG := wG_of (List.mem_append_right _ (List.mem_of_getElem? (i := 1098) (by decide +kernel))) rfl
theorem lm_Md_224 : Cond.methodLink R_Md 224 y_Md_choose ∈ wG := wG_of (List.mem_append_right _ (List.mem_of_getElem? (i := 1142) (by decide +kernel))) rfl
theorem lm_Md_227 : Cond.methodLink R_Md 227 y_Md_push ∈ wG := wG_of (List.mem_append_right _ (List.mem_of_getElem? (i := 1130) (by decide +kernel))) rfl
theorem lm_Md_230 : Cond.methodLink R_Md 230 y_Md_pushStep ∈ wG := wG_of (List.mem_append_right _ (List.mem_of_getElem? (i := 1146) (by decide +kernel))) rfl
theorem lm_Md_233 : Cond.methodLink R_Md 233 y_Md_addStream ∈ wG := wG_of (List.mem_append_right _ (List.mem_of_getElem? (i := 1134) (by decide +kernel))) rfl
theorem lm_Md_236 : Cond.methodLink R_Md 236 y_Md_grow ∈ wG := wG_of (List.mem_append_right _ (List.mem_of_getElem? (i := 1110) (by decide +kernel))) rfl
theorem lm_Md_240 : Cond.methodLink R_Md 240 y_Md_placeOf ∈ wG := wG_of (List.mem_append_right _ (List.mem_of_getElem? (i := 1126) (by decide +kernel))) rfl
theorem lm_Md_243 : Cond.methodLink R_Md 243 y_Md_leastGroup ∈ wG := wG_of (List.mem_append_right _ (List.mem_of_getElem? (i := 1114) (by decide +kernel))) rfl
theorem lm_Md_246 : Cond.methodLink R_Md 246 y_Md_join ∈ wG := wG_of (List.mem_append_right _ (List.mem_of_getElem? (i := 1122) (by decide +kernel))) rfl
theorem lm_Md_249 : Cond.methodLink R_Md 249 y_Md_countOf ∈ wG := wG_of (List.mem_append_right _ (List.mem_of_getElem? (i := 1118) (by decide +kernel))) rfl
theorem lm_Md_252 : Cond.methodLink R_Md 252 y_Md_parse ∈ wG := wG_of (List.mem_append_right _ (List.mem_of_getElem? (i := 1090) (by decide +kernel))) rfl
theorem lm_Md_255 : Cond.methodLink R_Md 255 y_Md_allSame ∈ wG := wG_of (List.mem_append_right _ (List.mem_of_getElem? (i := 1082) (by decide +kernel))) rfl
theorem lm_Md_259 : Cond.methodLink R_Md 259 y_Md_addTree ∈ wG := wG_of (List.mem_append_right _ (List.mem_of_getElem? (i := 1106) (by decide +kernel))) rfl
theorem lm_Md_263 : Cond.methodLink R_Md 263 y_Md_addSequences ∈ wG := wG_of (List.mem_append_right _ (List.mem_of_getElem? (i := 1138) (by decide +kernel))) rfl
theorem lm_Md_266 : Cond.methodLink R_Md 266 y_Md_makePack ∈ wG := wG_of (List.mem_append_right _ (List.mem_of_getElem? (i := 1086) (by decide +kernel))) rfl
theorem lm_Md_269 : Cond.methodLink R_Md 269 y_Md_append ∈ wG := wG_of (List.mem_append_right _ (List.mem_of_getElem? (i := 1150) (by decide +kernel))) rfl
theorem lm_Md_272 : Cond.methodLink R_Md 272 y_Md_mark ∈ wG := wG_of (List.mem_append_right _ (List.mem_of_getElem? (i := 1154) (by decide +kernel))) rfl
theorem lm_Md_94 : Cond.methodLink R_Md 94 y_Md_mixed ∈ wG := wG_of (List.mem_append_right _ (List.mem_of_getElem? (i := 985) (by decide +kernel))) rfl
