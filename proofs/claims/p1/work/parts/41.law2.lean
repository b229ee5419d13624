/-! the law: two worlds, both made by it -/
def A0 (s : State) : Nat → Prop := fun q => s.heap.size ≤ q
def Jv (Y1 Y2 : Xs) (s : State) (H : Heap) (locs : List Loc) (F G : Mem) : Prop := va_P Y1.1 vwCl (wl Y1 L1 F) H ∧ va_D (A0 s) (wl Y1 L1 F) ∧ va_P Y2.1 vwCl (wl Y2 L2 G) H ∧ va_D (A0 s) (wl Y2 L2 G) ∧ (∀ q, AA Y1 L1 q → AA Y2 L2 q → False) ∧ va_S (A0 s) s.heap H locs
def Lc (Y1 Y2 : Xs) (tad : Nat → Nat) (p : Program) (s : State) (m : MethodId) (meth : Method) (c : Code) (b Ln : Nat) (xs : Nat → Int32) : Prop :=
  CallFix p m c code 4 s #[Value.ref b] lw_tbl R_law ∧ meth.sig.returnType = ret ∧ meth.locks = false ∧ va_X b Ln xs s s.heap ∧ b < s.heap.size ∧ va_K Y1.1 vwCl (mTy Y1) s ∧ va_K Y2.1 vwCl (mTy Y2) s ∧ Tq tad (A0 s) s ∧ (∀ j, mAd Y1 (mNc L1 + j) = tad j) ∧ (∀ j, mAd Y2 (mNc L2 + j) = tad j)
theorem gd_L {c1 : Cond} {own C : String} {idx : Nat} {y : MethodName} (h : c1 ∈ wG) (h1 : Cond.methodLink own idx y ∈ wG) (h2 : Cond.instanceMethod y ∈ wG) (h3 : Cond.selects C y y ∈ wG) (h4 : Cond.initialized C ∈ wG) : GoodIn lw_tbl (wsV own idx C y (c1 :: wG)) := by
  have hs : ∀ w ∈ wsV own idx C y (c1 :: wG), w ∈ wG := by
    intro w hw
    simp only [wsV, List.cons_append, List.nil_append, List.mem_cons] at hw
    rcases hw with rfl | rfl | rfl | rfl | rfl | hw <;> assumption
  exact fun w hw => ⟨(List.mem_filter.mp (hs w hw)).1, wG_good w (hs w hw)⟩
theorem wl_addr {X : Xs} {L : La} {F : Mem} {k : Nat} {x : Nat × va_E} (h : (wl X L F)[k]? = some x) : AA X L x.1 := by
  have h1 : k < mNc L := by
    have := (List.getElem?_eq_some_iff.mp h).1
    rwa [wl_len] at this
  rw [wl_get h1] at h
  cases h
  exact ⟨k, h1, rfl⟩
section JW
variable {p : Program} {l : Launch} {e : Env} {s : State} {m : MethodId} {below : List Frame} {meth : Method} {c : Code} {H : Heap} {locs : List Loc} {cells slots : Nat} {Q : State → Prop} {b Ln : Nat} {xs : Nat → Int32}
variable {pc : Nat} {ls : Array Slot} {rest st : List Value} {Y1 Y2 : Xs} {F G : Mem} {tad : Nat → Nat} {rt : Option FieldType}
theorem j_pre1 {U : State} (C : Lc Y1 Y2 tad p s m meth c b Ln xs) (J : Jv Y1 Y2 s H locs F G) (hU : U.heap = H) (hW : s.WarmedH U.vm) : Pr Y1 L1 F U :=
  ⟨by rw [hU]; exact J.1, aa_self J.2.1, va_K.moved hW.alike C.2.2.2.2.2.1, tb_of C.2.2.2.2.2.2.2.2.1 (C.2.2.2.2.2.2.2.1.moved hW hU J.2.2.2.2.2.2.1 (fun q h => aa_in J.2.1 h))⟩
theorem j_pre2 {U : State} (C : Lc Y1 Y2 tad p s m meth c b Ln xs) (J : Jv Y1 Y2 s H locs F G) (hU : U.heap = H) (hW : s.WarmedH U.vm) : Pr Y2 L2 G U :=
  ⟨by rw [hU]; exact J.2.2.1, aa_self J.2.2.2.1, va_K.moved hW.alike C.2.2.2.2.2.2.1, tb_of C.2.2.2.2.2.2.2.2.2 (C.2.2.2.2.2.2.2.1.moved hW hU J.2.2.2.2.2.2.1 (fun q h => aa_in J.2.2.2.1 h))⟩
theorem j_to1 {H1 : Heap} {locs1 : List Loc} {F1 : Mem} {t : State} (J : Jv Y1 Y2 s H locs F G) (ht : t.heap = H1) (hB : Wo Y1 L1 F1 t) (hk : ∀ q : Nat, q < H.size → ¬ AA Y1 L1 q → H1[q]? = H[q]?) (hS : va_S (A0 s) s.heap H1 locs1) : Jv Y1 Y2 s H1 locs1 F1 G :=
  ⟨by rw [← ht]; exact hB.1, hB.2.2.weaken (fun _ _ _ h => aa_in J.2.1 h), J.2.2.1.kept (fun k x hx => hk x.1 (J.2.2.1 k x hx).lt (fun h => J.2.2.2.2.1 _ h (wl_addr hx))), J.2.2.2.1, J.2.2.2.2.1, hS⟩
theorem j_to2 {H1 : Heap} {locs1 : List Loc} {G1 : Mem} {t : State} (J : Jv Y1 Y2 s H locs F G) (ht : t.heap = H1) (hB : Wo Y2 L2 G1 t) (hk : ∀ q : Nat, q < H.size → ¬ AA Y2 L2 q → H1[q]? = H[q]?) (hS : va_S (A0 s) s.heap H1 locs1) : Jv Y1 Y2 s H1 locs1 F G1 :=
  ⟨J.1.kept (fun k x hx => hk x.1 (J.1 k x hx).lt (fun h => J.2.2.2.2.1 _ (wl_addr hx) h)), J.2.1, by rw [← ht]; exact hB.1, hB.2.2.weaken (fun _ _ _ h => aa_in J.2.2.2.1 h), J.2.2.2.2.1, hS⟩
theorem j_c1i {y : MethodName} {bytes : ByteArray} {maxL n index : Nat} {ws : List Cond} {rm : Room} {As : List Value} {out : Int32 × Mem} (C : Lc Y1 Y2 tad p s m meth c b Ln xs) (J : Jv Y1 Y2 s H locs F G)
    (hM : Met l y ws rm (va_Pc (.ref (mAd Y1 0) :: As) (Pr Y1 L1 F)) (QI Y1 L1 out) 0 0 (AA Y1 L1)) (cw : CallW room_1 s #[Value.ref b] R_law R_PF index y bytes maxL rt ws rm 0 0 n) (hn : As.length = n) (hst : st = As.reverse ++ .ref (mAd Y1 0) :: rest) (hsize : ls.size = 4)
    (hrest : (rest.map fun v => v.category).sum ≤ 8) (hdg : decode code pc = .ok (.invokevirtual index, 3)) (hf : cells ≤ room_1.cells ∧ slots ≤ room_1.slots) (kk : ∀ (H1 : Heap) (locs1 : List Loc), Jv Y1 Y2 s H1 locs1 out.2 G → W p l e room_1 s m #[Value.ref b] below meth c H1 locs1 cells slots Q (F0 m (pc + 3) ls (.int out.1 :: rest))) :
    W p l e room_1 s m #[Value.ref b] below meth c H locs cells slots Q (F0 m pc ls st) := by
  refine va_calli (va_runV C.1 hM cw ⟨Pr.calls, va_recv (ci := 0) (q0 := 0) C.2.2.2.2.2.1 J.1 rfl (wl_get (by decide)), fun U hU hW => ⟨rfl, j_pre1 C J hU hW⟩⟩ rfl hn hsize hst (lv_room hrest) hdg hf) J.2.2.2.2.2 (fun _ _ h => aa_in J.2.1 h) (fun _ h => aa_in J.2.1 h) ?_
  intro r u t H1 locs1 ht hvm hp hB hz1 hk1 hS
  obtain ⟨rfl, rfl⟩ := hp
  exact kk H1 locs1 (j_to1 J ht hB hk1 hS)
theorem j_c1v {y : MethodName} {bytes : ByteArray} {maxL n index : Nat} {ws : List Cond} {rm : Room} {As : List Value} {out : Mem} (C : Lc Y1 Y2 tad p s m meth c b Ln xs) (J : Jv Y1 Y2 s H locs F G)
    (hM : Met l y ws rm (va_Pc (.ref (mAd Y1 0) :: As) (Pr Y1 L1 F)) (QV Y1 L1 out) 0 0 (AA Y1 L1)) (cw : CallW room_1 s #[Value.ref b] R_law R_PF index y bytes maxL rt ws rm 0 0 n) (hn : As.length = n) (hst : st = As.reverse ++ .ref (mAd Y1 0) :: rest) (hsize : ls.size = 4)
    (hrest : (rest.map fun v => v.category).sum ≤ 8) (hdg : decode code pc = .ok (.invokevirtual index, 3)) (hf : cells ≤ room_1.cells ∧ slots ≤ room_1.slots) (kk : ∀ (H1 : Heap) (locs1 : List Loc), Jv Y1 Y2 s H1 locs1 out G → W p l e room_1 s m #[Value.ref b] below meth c H1 locs1 cells slots Q (F0 m (pc + 3) ls rest)) :
    W p l e room_1 s m #[Value.ref b] below meth c H locs cells slots Q (F0 m pc ls st) := by
  refine va_callv (va_runV C.1 hM cw ⟨Pr.calls, va_recv (ci := 0) (q0 := 0) C.2.2.2.2.2.1 J.1 rfl (wl_get (by decide)), fun U hU hW => ⟨rfl, j_pre1 C J hU hW⟩⟩ rfl hn hsize hst (lv_room hrest) hdg hf) J.2.2.2.2.2 (fun _ _ h => aa_in J.2.1 h) (fun _ h => aa_in J.2.1 h) ?_
  intro u t H1 locs1 ht hvm hp hB hz1 hk1 hS
  obtain rfl := hp
  exact kk H1 locs1 (j_to1 J ht hB hk1 hS)
theorem j_c2i {y : MethodName} {bytes : ByteArray} {maxL n index : Nat} {ws : List Cond} {rm : Room} {As : List Value} {out : Int32 × Mem} (C : Lc Y1 Y2 tad p s m meth c b Ln xs) (J : Jv Y1 Y2 s H locs F G)
    (hM : Met l y ws rm (va_Pc (.ref (mAd Y2 0) :: As) (Pr Y2 L2 G)) (QI Y2 L2 out) 0 0 (AA Y2 L2)) (cw : CallW room_1 s #[Value.ref b] R_law R_Md index y bytes maxL rt ws rm 0 0 n) (hn : As.length = n) (hst : st = As.reverse ++ .ref (mAd Y2 0) :: rest) (hsize : ls.size = 4)
    (hrest : (rest.map fun v => v.category).sum ≤ 8) (hdg : decode code pc = .ok (.invokevirtual index, 3)) (hf : cells ≤ room_1.cells ∧ slots ≤ room_1.slots) (kk : ∀ (H1 : Heap) (locs1 : List Loc), Jv Y1 Y2 s H1 locs1 F out.2 → W p l e room_1 s m #[Value.ref b] below meth c H1 locs1 cells slots Q (F0 m (pc + 3) ls (.int out.1 :: rest))) :
    W p l e room_1 s m #[Value.ref b] below meth c H locs cells slots Q (F0 m pc ls st) := by
  refine va_calli (va_runV C.1 hM cw ⟨Pr.calls, va_recv (ci := 12) (q0 := 0) C.2.2.2.2.2.2.1 J.2.2.1 rfl (wl_get (by decide)), fun U hU hW => ⟨rfl, j_pre2 C J hU hW⟩⟩ rfl hn hsize hst (lv_room hrest) hdg hf) J.2.2.2.2.2 (fun _ _ h => aa_in J.2.2.2.1 h) (fun _ h => aa_in J.2.2.2.1 h) ?_
  intro r u t H1 locs1 ht hvm hp hB hz1 hk1 hS
  obtain ⟨rfl, rfl⟩ := hp
  exact kk H1 locs1 (j_to2 J ht hB hk1 hS)
theorem j_c2v {y : MethodName} {bytes : ByteArray} {maxL n index : Nat} {ws : List Cond} {rm : Room} {As : List Value} {out : Mem} (C : Lc Y1 Y2 tad p s m meth c b Ln xs) (J : Jv Y1 Y2 s H locs F G)
    (hM : Met l y ws rm (va_Pc (.ref (mAd Y2 0) :: As) (Pr Y2 L2 G)) (QV Y2 L2 out) 0 0 (AA Y2 L2)) (cw : CallW room_1 s #[Value.ref b] R_law R_Md index y bytes maxL rt ws rm 0 0 n) (hn : As.length = n) (hst : st = As.reverse ++ .ref (mAd Y2 0) :: rest) (hsize : ls.size = 4)
    (hrest : (rest.map fun v => v.category).sum ≤ 8) (hdg : decode code pc = .ok (.invokevirtual index, 3)) (hf : cells ≤ room_1.cells ∧ slots ≤ room_1.slots) (kk : ∀ (H1 : Heap) (locs1 : List Loc), Jv Y1 Y2 s H1 locs1 F out → W p l e room_1 s m #[Value.ref b] below meth c H1 locs1 cells slots Q (F0 m (pc + 3) ls rest)) :
    W p l e room_1 s m #[Value.ref b] below meth c H locs cells slots Q (F0 m pc ls st) := by
  refine va_callv (va_runV C.1 hM cw ⟨Pr.calls, va_recv (ci := 12) (q0 := 0) C.2.2.2.2.2.2.1 J.2.2.1 rfl (wl_get (by decide)), fun U hU hW => ⟨rfl, j_pre2 C J hU hW⟩⟩ rfl hn hsize hst (lv_room hrest) hdg hf) J.2.2.2.2.2 (fun _ _ h => aa_in J.2.2.2.1 h) (fun _ h => aa_in J.2.2.2.1 h) ?_
  intro u t H1 locs1 ht hvm hp hB hz1 hk1 hS
  obtain rfl := hp
  exact kk H1 locs1 (j_to2 J ht hB hk1 hS)
theorem j_sld (C : Lc Y1 Y2 tad p s m meth c b Ln xs) (J : Jv Y1 Y2 s H locs F G) {i : Int32} (hz : ¬ inb i Ln) (hdg : decode code pc = .ok (.iaload, 1))
    (kk : W p l e room_1 s m #[Value.ref b] below meth c H locs cells slots Q (F0 m (pc + 1) ls (.int (xs i.toNatClampNeg) :: rest))) : W p l e room_1 s m #[Value.ref b] below meth c H locs cells slots Q (F0 m pc ls (.int i :: .ref b :: rest)) :=
  va_sld C.1.1 C.1.2.1 C.2.2.2.1 C.2.2.2.2.1 (Nat.not_le.mpr C.2.2.2.2.1) J.2.2.2.2.2 hz hdg kk
theorem j_slen (C : Lc Y1 Y2 tad p s m meth c b Ln xs) (J : Jv Y1 Y2 s H locs F G) (hdg : decode code pc = .ok (.arraylength, 1))
    (kk : W p l e room_1 s m #[Value.ref b] below meth c H locs cells slots Q (F0 m (pc + 1) ls (.int (nI Ln) :: rest))) : W p l e room_1 s m #[Value.ref b] below meth c H locs cells slots Q (F0 m pc ls (.ref b :: rest)) :=
  va_slen C.1.1 C.1.2.1 C.2.2.2.1 C.2.2.2.2.1 (Nat.not_le.mpr C.2.2.2.2.1) J.2.2.2.2.2 hdg kk
theorem j_ret (C : Lc Y1 Y2 tad p s m meth c b Ln xs) (J : Jv Y1 Y2 s H locs F G) (hc : cells ≤ 600000) (hs : slots ≤ 7302250) (hdg : decode code pc = .ok (.ireturn, 1)) : W p l e room_1 s m #[Value.ref b] below meth c H locs cells slots (lw_Z below #[Value.ref b] s) (F0 m pc ls [.int 1]) :=
  va_forget (fun q hq => J.2.2.2.2.2.2.2 q hq) (W.widen hc hs (lw_ret C.1.1 C.1.2.1 C.2.1 C.2.2.1 hdg))
end JW
section
variable {p : Program} {l : Launch} {e : Env} {s : State} {m : MethodId} {below : List Frame} {meth : Method} {c : Code} {b Ln : Nat} {xs : Nat → Int32} {Y1 Y2 : Xs} {tad : Nat → Nat}
def b_Law_454 (Ln : Nat) (xs : Nat → Int32) (k18 : Int32 → Mem → Mem → Option Unit) (x3 : Int32) (F G : Mem) : Option Unit :=
  k18 (x3 + (4 : Int32)) F G
set_option maxHeartbeats 8000000 in
theorem t_Law_454 (hC : Lc Y1 Y2 tad p s m meth c b Ln xs) {k18 : Int32 → Mem → Mem → Option Unit} {out : Unit} (hk18 : ∀ (x3 : Int32) (F G : Mem) (H : Heap) (locs : List Loc) (ls : Array Slot), Jv Y1 Y2 s H locs F G → lv_has ls 4 [(0, .ref b), (1, .ref (mAd Y1 0)), (2, .ref (mAd Y2 0)), (3, .int x3)] → k18 x3 F G = some out → W p l e room_1 s m #[Value.ref b] below meth c H locs 92 7619 (lw_Z below #[Value.ref b] s) (F0 m 18 ls [])) {x3 : Int32} {F G : Mem} {H : Heap} {locs : List Loc} {ls : Array Slot} (J : Jv Y1 Y2 s H locs F G) (hl : lv_has ls 4 [(0, .ref b), (1, .ref (mAd Y1 0)), (2, .ref (mAd Y2 0)), (3, .int x3)]) (h : b_Law_454 Ln xs k18 x3 F G = some out) : W p l e room_1 s m #[Value.ref b] below meth c H locs 92 7619 (lw_Z below #[Value.ref b] s) (F0 m 454 ls []) := by
  unfold b_Law_454 at h
  have hx := hC.1.1
  have hb := hC.1.2.1
  have hown := hC.1.2.2.2.1
  have hts := hC.1.2.2.2.2
  refine lv_iinc (k := 3) (v := x3 + (4 : Int32)) (lv' := [(3, .int (x3 + (4 : Int32))), (0, .ref b), (1, .ref (mAd Y1 0)), (2, .ref (mAd Y2 0))]) hx hb d_law_454 hl rfl rfl (by decide) rfl (fun ls hl => ?_)
  refine lv_goto (tgt := 18) hx hb d_law_457 rfl ?_
  exact hk18 _ _ _ _ _ _ J (lv_sub hl [1, 2, 3, 0] rfl) h
def b_Law_354 (Ln : Nat) (xs : Nat → Int32) (k18 : Int32 → Mem → Mem → Option Unit) (x3 : Int32) (y0 : Int32) (y2 : Int32) (F G : Mem) : Option Unit :=
  (f_Md_pack L2 0 y2 G).bind fun q1 =>
  if y0 = q1.1 then
    b_Law_454 Ln xs k18 x3 F q1.2
  else
    none
set_option maxHeartbeats 8000000 in
theorem t_Law_354 (hC : Lc Y1 Y2 tad p s m meth c b Ln xs) {k18 : Int32 → Mem → Mem → Option Unit} {out : Unit} (hk18 : ∀ (x3 : Int32) (F G : Mem) (H : Heap) (locs : List Loc) (ls : Array Slot), Jv Y1 Y2 s H locs F G → lv_has ls 4 [(0, .ref b), (1, .ref (mAd Y1 0)), (2, .ref (mAd Y2 0)), (3, .int x3)] → k18 x3 F G = some out → W p l e room_1 s m #[Value.ref b] below meth c H locs 92 7619 (lw_Z below #[Value.ref b] s) (F0 m 18 ls [])) {x3 : Int32} {y0 : Int32} {y2 : Int32} {F G : Mem} {H : Heap} {locs : List Loc} {ls : Array Slot} (J : Jv Y1 Y2 s H locs F G) (hl : lv_has ls 4 [(0, .ref b), (1, .ref (mAd Y1 0)), (2, .ref (mAd Y2 0)), (3, .int x3)]) (h : b_Law_354 Ln xs k18 x3 y0 y2 F G = some out) : W p l e room_1 s m #[Value.ref b] below meth c H locs 92 7619 (lw_Z below #[Value.ref b] s) (F0 m 354 ls [.int y2, .ref (mAd Y2 0), .int y0]) := by
  unfold b_Law_354 at h
  have hx := hC.1.1
  have hb := hC.1.2.1
  have hown := hC.1.2.2.2.1
  have hts := hC.1.2.2.2.2
  obtain ⟨q1, e2, h⟩ := un_bi h
  refine j_c2i (As := [.int y2]) (rest := [.int y0]) hC J (c_Md_pack l wt2 (i0 := 0) ⟨by decide, rfl⟩ e2) (cwV 1 hts (gd_L lc_Md_pack lm_Law_50 li_Md_pack ls_Md_pack ln_Md) rfl rfl rfl hd_Md_pack ⟨(Nat.le_of_ble_eq_true rfl), (Nat.le_of_ble_eq_true rfl)⟩) rfl rfl hl.1 (Nat.le_of_ble_eq_true rfl) d_law_354 ⟨by decide, by decide⟩ (fun H locs J => ?_)
  refine lv_icmp_eq (tgt := 454) hx hb d_law_357 rfl (fun hc => ?_) (fun hc => ?_)
  · replace h := (if_pos hc).symm.trans h
    exact t_Law_454 hC hk18 J hl h
  · replace h := (if_neg hc).symm.trans h
    refine lv_iconst (v := 0) hx hb d_law_360 rfl ?_
    cases h
def b_Law_337 (Ln : Nat) (xs : Nat → Int32) (k18 : Int32 → Mem → Mem → Option Unit) (x3 : Int32) (y1 : Int32) (F G : Mem) : Option Unit :=
  (f_PF_pack L1 0 y1 F).bind fun q1 =>
  if inb (x3 + (1 : Int32)) Ln then none else
  if (xs (x3 + (1 : Int32)).toNatClampNeg) = 0 then
    b_Law_354 Ln xs k18 x3 q1.1 (0 : Int32) q1.2 G
  else
    b_Law_354 Ln xs k18 x3 q1.1 (1 : Int32) q1.2 G
set_option maxHeartbeats 8000000 in
theorem t_Law_337 (hC : Lc Y1 Y2 tad p s m meth c b Ln xs) {k18 : Int32 → Mem → Mem → Option Unit} {out : Unit} (hk18 : ∀ (x3 : Int32) (F G : Mem) (H : Heap) (locs : List Loc) (ls : Array Slot), Jv Y1 Y2 s H locs F G → lv_has ls 4 [(0, .ref b), (1, .ref (mAd Y1 0)), (2, .ref (mAd Y2 0)), (3, .int x3)] → k18 x3 F G = some out → W p l e room_1 s m #[Value.ref b] below meth c H locs 92 7619 (lw_Z below #[Value.ref b] s) (F0 m 18 ls [])) {x3 : Int32} {y1 : Int32} {F G : Mem} {H : Heap} {locs : List Loc} {ls : Array Slot} (J : Jv Y1 Y2 s H locs F G) (hl : lv_has ls 4 [(0, .ref b), (1, .ref (mAd Y1 0)), (2, .ref (mAd Y2 0)), (3, .int x3)]) (h : b_Law_337 Ln xs k18 x3 y1 F G = some out) : W p l e room_1 s m #[Value.ref b] below meth c H locs 92 7619 (lw_Z below #[Value.ref b] s) (F0 m 337 ls [.int y1, .ref (mAd Y1 0)]) := by
  unfold b_Law_337 at h
  have hx := hC.1.1
  have hb := hC.1.2.1
  have hown := hC.1.2.2.2.1
  have hts := hC.1.2.2.2.2
  obtain ⟨q1, e2, h⟩ := un_bi h
  refine j_c1i (As := [.int y1]) (rest := []) hC J (c_PF_pack l wt1 (i0 := 0) ⟨by decide, rfl⟩ e2) (cwV 1 hts (gd_L lc_PF_pack lm_Law_46 li_PF_pack ls_PF_pack ln_PF) rfl rfl rfl hd_PF_pack ⟨(Nat.le_of_ble_eq_true rfl), (Nat.le_of_ble_eq_true rfl)⟩) rfl rfl hl.1 (Nat.le_of_ble_eq_true rfl) d_law_337 ⟨by decide, by decide⟩ (fun H locs J => ?_)
  refine lv_aload_n hx hb d_law_340 rfl (lv_at hl 2 rfl) ?_
  refine lv_aload_n hx hb d_law_341 rfl (lv_at hl 0 rfl) ?_
  refine lv_iload_n hx hb d_law_342 rfl (lv_at hl 3 rfl) ?_
  refine lv_iconst (v := 1) hx hb d_law_343 rfl ?_
  refine lv_iadd hx hb d_law_344 ?_
  obtain ⟨z3, h⟩ := un_if h
  refine j_sld hC J z3 d_law_345 ?_
  refine lv_if_eq (tgt := 353) hx hb d_law_346 rfl (fun hc => ?_) (fun hc => ?_)
  · replace h := (if_pos hc).symm.trans h
    refine lv_iconst (v := 0) hx hb d_law_353 rfl ?_
    exact t_Law_354 hC hk18 J hl h
  · replace h := (if_neg hc).symm.trans h
    refine lv_iconst (v := 1) hx hb d_law_349 rfl ?_
    refine lv_goto (tgt := 354) hx hb d_law_350 rfl ?_
    exact t_Law_354 hC hk18 J hl h
def b_Law_18 (Ln : Nat) (xs : Nat → Int32) (k18 : Int32 → Mem → Mem → Option Unit) (x3 : Int32) (F G : Mem) : Option Unit :=
  if ((nI Ln) - (4 : Int32)) < x3 then
    some ()
  else
    if inb x3 Ln then none else
    if ((xs x3.toNatClampNeg) &&& (15 : Int32)) = 0 then
      if inb (x3 + (1 : Int32)) Ln then none else
      if inb (x3 + (2 : Int32)) Ln then none else
      if inb (x3 + (3 : Int32)) Ln then none else
      (f_PF_write L1 0 (xs (x3 + (1 : Int32)).toNatClampNeg) ((jlshl ((xs (x3 + (2 : Int32)).toNatClampNeg).toInt64) (32 : Int32)) ||| (((xs (x3 + (3 : Int32)).toNatClampNeg).toInt64) &&& (4294967295 : Int64))) F).bind fun q5 =>
      if inb (x3 + (1 : Int32)) Ln then none else
      if inb (x3 + (2 : Int32)) Ln then none else
      if inb (x3 + (3 : Int32)) Ln then none else
      (f_Md_write L2 0 (xs (x3 + (1 : Int32)).toNatClampNeg) ((jlshl ((xs (x3 + (2 : Int32)).toNatClampNeg).toInt64) (32 : Int32)) ||| (((xs (x3 + (3 : Int32)).toNatClampNeg).toInt64) &&& (4294967295 : Int64))) G).bind fun q10 =>
      if q5.1 = q10.1 then
        b_Law_454 Ln xs k18 x3 q5.2 q10.2
      else
        none
    else
      if ((xs x3.toNatClampNeg) &&& (15 : Int32)) = 1 then
        (f_PF_clear L1 0  F).bind fun F13 =>
        (f_Md_clear L2 0  G).bind fun F15 =>
        b_Law_454 Ln xs k18 x3 F13 F15
      else
        if ((xs x3.toNatClampNeg) &&& (15 : Int32)) = 2 then
          if inb (x3 + (1 : Int32)) Ln then none else
          (f_PF_content L1 0 (xs (x3 + (1 : Int32)).toNatClampNeg) F).bind fun q19 =>
          if inb (x3 + (1 : Int32)) Ln then none else
          (f_Md_content L2 0 (xs (x3 + (1 : Int32)).toNatClampNeg) G).bind fun q22 =>
          if q19.1 = q22.1 then
            b_Law_454 Ln xs k18 x3 q19.2 q22.2
          else
            none
        else
          if ((xs x3.toNatClampNeg) &&& (15 : Int32)) = 3 then
            if inb (x3 + (1 : Int32)) Ln then none else
            if inb (x3 + (2 : Int32)) Ln then none else
            if inb (x3 + (3 : Int32)) Ln then none else
            (f_PF_put L1 0 (xs (x3 + (1 : Int32)).toNatClampNeg) ((jlshl ((xs (x3 + (2 : Int32)).toNatClampNeg).toInt64) (32 : Int32)) ||| (((xs (x3 + (3 : Int32)).toNatClampNeg).toInt64) &&& (4294967295 : Int64))) F).bind fun q28 =>
            if inb (x3 + (1 : Int32)) Ln then none else
            if inb (x3 + (2 : Int32)) Ln then none else
            if inb (x3 + (3 : Int32)) Ln then none else
            (f_Md_put L2 0 (xs (x3 + (1 : Int32)).toNatClampNeg) ((jlshl ((xs (x3 + (2 : Int32)).toNatClampNeg).toInt64) (32 : Int32)) ||| (((xs (x3 + (3 : Int32)).toNatClampNeg).toInt64) &&& (4294967295 : Int64))) G).bind fun q33 =>
            if q28.1 = q33.1 then
              b_Law_454 Ln xs k18 x3 q28.2 q33.2
            else
              none
          else
            if ((xs x3.toNatClampNeg) &&& (15 : Int32)) = 4 then
              (f_PF_wipe L1 0  F).bind fun F36 =>
              (f_Md_wipe L2 0  G).bind fun F38 =>
              b_Law_454 Ln xs k18 x3 F36 F38
            else
              if ((xs x3.toNatClampNeg) &&& (15 : Int32)) = 5 then
                if inb (x3 + (1 : Int32)) Ln then none else
                (f_PF_wire L1 0 (xs (x3 + (1 : Int32)).toNatClampNeg) F).bind fun q42 =>
                if inb (x3 + (1 : Int32)) Ln then none else
                (f_Md_wire L2 0 (xs (x3 + (1 : Int32)).toNatClampNeg) G).bind fun q45 =>
                if q42.1 = q45.1 then
                  b_Law_454 Ln xs k18 x3 q42.2 q45.2
                else
                  none
              else
                if ((xs x3.toNatClampNeg) &&& (15 : Int32)) = 6 then
                  if inb (x3 + (1 : Int32)) Ln then none else
                  if inb (x3 + (2 : Int32)) Ln then none else
                  (f_PF_spoil L1 0 (xs (x3 + (1 : Int32)).toNatClampNeg) (xs (x3 + (2 : Int32)).toNatClampNeg) F).bind fun q50 =>
                  if inb (x3 + (1 : Int32)) Ln then none else
                  if inb (x3 + (2 : Int32)) Ln then none else
                  (f_Md_spoil L2 0 (xs (x3 + (1 : Int32)).toNatClampNeg) (xs (x3 + (2 : Int32)).toNatClampNeg) G).bind fun q54 =>
                  if q50.1 = q54.1 then
                    b_Law_454 Ln xs k18 x3 q50.2 q54.2
                  else
                    none
                else
                  if ((xs x3.toNatClampNeg) &&& (15 : Int32)) = 7 then
                    if inb (x3 + (1 : Int32)) Ln then none else
                    if (xs (x3 + (1 : Int32)).toNatClampNeg) = 0 then
                      b_Law_337 Ln xs k18 x3 (0 : Int32) F G
                    else
                      b_Law_337 Ln xs k18 x3 (1 : Int32) F G
                  else
                    if ((xs x3.toNatClampNeg) &&& (15 : Int32)) = 8 then
                      if inb (x3 + (1 : Int32)) Ln then none else
                      (f_PF_skip L1 0 (xs (x3 + (1 : Int32)).toNatClampNeg) F).bind fun q60 =>
                      if inb (x3 + (1 : Int32)) Ln then none else
                      (f_Md_skip L2 0 (xs (x3 + (1 : Int32)).toNatClampNeg) G).bind fun q63 =>
                      if q60.1 = q63.1 then
                        b_Law_454 Ln xs k18 x3 q60.2 q63.2
                      else
                        none
                    else
                      if ((xs x3.toNatClampNeg) &&& (15 : Int32)) = 9 then
                        (f_PF_unpack L1 0  F).bind fun q66 =>
                        (f_Md_unpack L2 0  G).bind fun q68 =>
                        if q66.1 = q68.1 then
                          b_Law_454 Ln xs k18 x3 q66.2 q68.2
                        else
                          none
                      else
                        if ((xs x3.toNatClampNeg) &&& (15 : Int32)) = 10 then
                          (f_PF_mark L1 0  F).bind fun q71 =>
                          (f_Md_mark L2 0  G).bind fun q73 =>
                          if q71.1 = q73.1 then
                            b_Law_454 Ln xs k18 x3 q71.2 q73.2
                          else
                            none
                        else
                          if ((xs x3.toNatClampNeg) &&& (15 : Int32)) = 11 then
                            if inb (x3 + (1 : Int32)) Ln then none else
                            if inb (x3 + (2 : Int32)) Ln then none else
                            if inb (x3 + (3 : Int32)) Ln then none else
                            (f_PF_usual L1 0 (xs (x3 + (1 : Int32)).toNatClampNeg) (xs (x3 + (2 : Int32)).toNatClampNeg) (xs (x3 + (3 : Int32)).toNatClampNeg) F).bind fun q79 =>
                            if inb (x3 + (1 : Int32)) Ln then none else
                            if inb (x3 + (2 : Int32)) Ln then none else
                            if inb (x3 + (3 : Int32)) Ln then none else
                            (f_Md_usual L2 0 (xs (x3 + (1 : Int32)).toNatClampNeg) (xs (x3 + (2 : Int32)).toNatClampNeg) (xs (x3 + (3 : Int32)).toNatClampNeg) G).bind fun q84 =>
                            if q79.1 = q84.1 then
                              b_Law_454 Ln xs k18 x3 q79.2 q84.2
                            else
                              none
                          else
                            b_Law_454 Ln xs k18 x3 F G
set_option maxHeartbeats 8000000 in
theorem t_Law_18 (hC : Lc Y1 Y2 tad p s m meth c b Ln xs) {k18 : Int32 → Mem → Mem → Option Unit} {out : Unit} (hk18 : ∀ (x3 : Int32) (F G : Mem) (H : Heap) (locs : List Loc) (ls : Array Slot), Jv Y1 Y2 s H locs F G → lv_has ls 4 [(0, .ref b), (1, .ref (mAd Y1 0)), (2, .ref (mAd Y2 0)), (3, .int x3)] → k18 x3 F G = some out → W p l e room_1 s m #[Value.ref b] below meth c H locs 92 7619 (lw_Z below #[Value.ref b] s) (F0 m 18 ls [])) {x3 : Int32} {F G : Mem} {H : Heap} {locs : List Loc} {ls : Array Slot} (J : Jv Y1 Y2 s H locs F G) (hl : lv_has ls 4 [(0, .ref b), (1, .ref (mAd Y1 0)), (2, .ref (mAd Y2 0)), (3, .int x3)]) (h : b_Law_18 Ln xs k18 x3 F G = some out) : W p l e room_1 s m #[Value.ref b] below meth c H locs 92 7619 (lw_Z below #[Value.ref b] s) (F0 m 18 ls []) := by
  unfold b_Law_18 at h
  have hx := hC.1.1
  have hb := hC.1.2.1
  have hown := hC.1.2.2.2.1
  have hts := hC.1.2.2.2.2
  refine lv_iload_n hx hb d_law_18 rfl (lv_at hl 3 rfl) ?_
  refine lv_aload_n hx hb d_law_19 rfl (lv_at hl 0 rfl) ?_
  refine j_slen hC J d_law_20 ?_
  refine lv_iconst (v := 4) hx hb d_law_21 rfl ?_
  refine lv_isub hx hb d_law_22 ?_
  refine lv_icmp_gt (tgt := 460) hx hb d_law_23 rfl (fun hc => ?_) (fun hc => ?_)
  · replace h := (if_pos hc).symm.trans h
    refine lv_iconst (v := 1) hx hb d_law_460 rfl ?_
    exact j_ret hC J (by decide) (by decide) d_law_461
  · replace h := (if_neg hc).symm.trans h
    refine lv_aload_n hx hb d_law_26 rfl (lv_at hl 0 rfl) ?_
    refine lv_iload_n hx hb d_law_27 rfl (lv_at hl 3 rfl) ?_
    obtain ⟨z1, h⟩ := un_if h
    refine j_sld hC J z1 d_law_28 ?_
    refine lv_bipush (v := 15) hx hb d_law_29 (by decide) ?_
    refine lv_iand hx hb d_law_31 ?_
    by_cases e12 : ((xs x3.toNatClampNeg) &&& (15 : Int32)) = 0
    · replace h := (if_pos e12).symm.trans h
      refine lv_tableIn (x := ((xs x3.toNatClampNeg) &&& (15 : Int32))) (off := 64) (tgt := 96) hx hb d_law_32 (by rw [e12]; decide) (by rw [e12]; decide) (by rw [e12]; rfl) rfl ?_
      refine lv_aload_n hx hb d_law_96 rfl (lv_at hl 1 rfl) ?_
      refine lv_aload_n hx hb d_law_97 rfl (lv_at hl 0 rfl) ?_
      refine lv_iload_n hx hb d_law_98 rfl (lv_at hl 3 rfl) ?_
      refine lv_iconst (v := 1) hx hb d_law_99 rfl ?_
      refine lv_iadd hx hb d_law_100 ?_
      obtain ⟨z2, h⟩ := un_if h
      refine j_sld hC J z2 d_law_101 ?_
      refine lv_aload_n hx hb d_law_102 rfl (lv_at hl 0 rfl) ?_
      refine lv_iload_n hx hb d_law_103 rfl (lv_at hl 3 rfl) ?_
      refine lv_iconst (v := 2) hx hb d_law_104 rfl ?_
      refine lv_iadd hx hb d_law_105 ?_
      obtain ⟨z3, h⟩ := un_if h
      refine j_sld hC J z3 d_law_106 ?_
      refine lv_i2l hx hb d_law_107 rfl ?_
      refine lv_bipush (v := 32) hx hb d_law_108 (by decide) ?_
      refine lv_lshl hx hb d_law_110 rfl ?_
      refine lv_aload_n hx hb d_law_111 rfl (lv_at hl 0 rfl) ?_
      refine lv_iload_n hx hb d_law_112 rfl (lv_at hl 3 rfl) ?_
      refine lv_iconst (v := 3) hx hb d_law_113 rfl ?_
      refine lv_iadd hx hb d_law_114 ?_
      obtain ⟨z4, h⟩ := un_if h
      refine j_sld hC J z4 d_law_115 ?_
      refine lv_i2l hx hb d_law_116 rfl ?_
      refine lv_ldc2 (own := R_law) (index := 13) (v := 4294967295) hx hb hown (hts _ (List.mem_filter.mp lk_Law_13).1) d_law_117 ?_
      refine lv_land hx hb d_law_120 ?_
      refine lv_lor hx hb d_law_121 ?_
      obtain ⟨q5, e6, h⟩ := un_bi h
      refine j_c1i (As := [.int (xs (x3 + (1 : Int32)).toNatClampNeg), .long ((jlshl ((xs (x3 + (2 : Int32)).toNatClampNeg).toInt64) (32 : Int32)) ||| (((xs (x3 + (3 : Int32)).toNatClampNeg).toInt64) &&& (4294967295 : Int64)))]) (rest := []) hC J (c_PF_write l wt1 (i0 := 0) ⟨by decide, rfl⟩ e6) (cwV 2 hts (gd_L lc_PF_write lm_Law_15 li_PF_write ls_PF_write ln_PF) rfl rfl rfl hd_PF_write ⟨(Nat.le_of_ble_eq_true rfl), (Nat.le_of_ble_eq_true rfl)⟩) rfl rfl hl.1 (Nat.le_of_ble_eq_true rfl) d_law_122 ⟨by decide, by decide⟩ (fun H locs J => ?_)
      refine lv_aload_n hx hb d_law_125 rfl (lv_at hl 2 rfl) ?_
      refine lv_aload_n hx hb d_law_126 rfl (lv_at hl 0 rfl) ?_
      refine lv_iload_n hx hb d_law_127 rfl (lv_at hl 3 rfl) ?_
      refine lv_iconst (v := 1) hx hb d_law_128 rfl ?_
      refine lv_iadd hx hb d_law_129 ?_
      obtain ⟨z7, h⟩ := un_if h
      refine j_sld hC J z7 d_law_130 ?_
      refine lv_aload_n hx hb d_law_131 rfl (lv_at hl 0 rfl) ?_
      refine lv_iload_n hx hb d_law_132 rfl (lv_at hl 3 rfl) ?_
      refine lv_iconst (v := 2) hx hb d_law_133 rfl ?_
      refine lv_iadd hx hb d_law_134 ?_
      obtain ⟨z8, h⟩ := un_if h
      refine j_sld hC J z8 d_law_135 ?_
      refine lv_i2l hx hb d_law_136 rfl ?_
      refine lv_bipush (v := 32) hx hb d_law_137 (by decide) ?_
      refine lv_lshl hx hb d_law_139 rfl ?_
      refine lv_aload_n hx hb d_law_140 rfl (lv_at hl 0 rfl) ?_
      refine lv_iload_n hx hb d_law_141 rfl (lv_at hl 3 rfl) ?_
      refine lv_iconst (v := 3) hx hb d_law_142 rfl ?_
      refine lv_iadd hx hb d_law_143 ?_
      obtain ⟨z9, h⟩ := un_if h
      refine j_sld hC J z9 d_law_144 ?_
      refine lv_i2l hx hb d_law_145 rfl ?_
      refine lv_ldc2 (own := R_law) (index := 13) (v := 4294967295) hx hb hown (hts _ (List.mem_filter.mp lk_Law_13).1) d_law_146 ?_
      refine lv_land hx hb d_law_149 ?_
      refine lv_lor hx hb d_law_150 ?_
      obtain ⟨q10, e11, h⟩ := un_bi h
      refine j_c2i (As := [.int (xs (x3 + (1 : Int32)).toNatClampNeg), .long ((jlshl ((xs (x3 + (2 : Int32)).toNatClampNeg).toInt64) (32 : Int32)) ||| (((xs (x3 + (3 : Int32)).toNatClampNeg).toInt64) &&& (4294967295 : Int64)))]) (rest := [.int q5.1]) hC J (c_Md_write l wt2 (i0 := 0) ⟨by decide, rfl⟩ e11) (cwV 2 hts (gd_L lc_Md_write lm_Law_19 li_Md_write ls_Md_write ln_Md) rfl rfl rfl hd_Md_write ⟨(Nat.le_of_ble_eq_true rfl), (Nat.le_of_ble_eq_true rfl)⟩) rfl rfl hl.1 (Nat.le_of_ble_eq_true rfl) d_law_151 ⟨by decide, by decide⟩ (fun H locs J => ?_)
      refine lv_icmp_eq (tgt := 454) hx hb d_law_154 rfl (fun hc => ?_) (fun hc => ?_)
      · replace h := (if_pos hc).symm.trans h
        exact t_Law_454 hC hk18 J hl h
      · replace h := (if_neg hc).symm.trans h
        refine lv_iconst (v := 0) hx hb d_law_157 rfl ?_
        cases h
    replace h := (if_neg e12).symm.trans h
    by_cases e17 : ((xs x3.toNatClampNeg) &&& (15 : Int32)) = 1
    · replace h := (if_pos e17).symm.trans h
      refine lv_tableIn (x := ((xs x3.toNatClampNeg) &&& (15 : Int32))) (off := 127) (tgt := 159) hx hb d_law_32 (by rw [e17]; decide) (by rw [e17]; decide) (by rw [e17]; rfl) rfl ?_
      refine lv_aload_n hx hb d_law_159 rfl (lv_at hl 1 rfl) ?_
      obtain ⟨F13, e14, h⟩ := un_bi h
      refine j_c1v (As := []) (rest := []) hC J (c_PF_clear l wt1 (i0 := 0) ⟨by decide, rfl⟩ e14) (cwV 0 hts (gd_L lc_PF_clear lm_Law_20 li_PF_clear ls_PF_clear ln_PF) rfl rfl rfl hd_PF_clear ⟨(Nat.le_of_ble_eq_true rfl), (Nat.le_of_ble_eq_true rfl)⟩) rfl rfl hl.1 (Nat.le_of_ble_eq_true rfl) d_law_160 ⟨by decide, by decide⟩ (fun H locs J => ?_)
      refine lv_aload_n hx hb d_law_163 rfl (lv_at hl 2 rfl) ?_
      obtain ⟨F15, e16, h⟩ := un_bi h
      refine j_c2v (As := []) (rest := []) hC J (c_Md_clear l wt2 (i0 := 0) ⟨by decide, rfl⟩ e16) (cwV 0 hts (gd_L lc_Md_clear lm_Law_23 li_Md_clear ls_Md_clear ln_Md) rfl rfl rfl hd_Md_clear ⟨(Nat.le_of_ble_eq_true rfl), (Nat.le_of_ble_eq_true rfl)⟩) rfl rfl hl.1 (Nat.le_of_ble_eq_true rfl) d_law_164 ⟨by decide, by decide⟩ (fun H locs J => ?_)
      refine lv_goto (tgt := 454) hx hb d_law_167 rfl ?_
      exact t_Law_454 hC hk18 J hl h
    replace h := (if_neg e17).symm.trans h
    by_cases e24 : ((xs x3.toNatClampNeg) &&& (15 : Int32)) = 2
    · replace h := (if_pos e24).symm.trans h
      refine lv_tableIn (x := ((xs x3.toNatClampNeg) &&& (15 : Int32))) (off := 138) (tgt := 170) hx hb d_law_32 (by rw [e24]; decide) (by rw [e24]; decide) (by rw [e24]; rfl) rfl ?_
      refine lv_aload_n hx hb d_law_170 rfl (lv_at hl 1 rfl) ?_
      refine lv_aload_n hx hb d_law_171 rfl (lv_at hl 0 rfl) ?_
      refine lv_iload_n hx hb d_law_172 rfl (lv_at hl 3 rfl) ?_
      refine lv_iconst (v := 1) hx hb d_law_173 rfl ?_
      refine lv_iadd hx hb d_law_174 ?_
      obtain ⟨z18, h⟩ := un_if h
      refine j_sld hC J z18 d_law_175 ?_
      obtain ⟨q19, e20, h⟩ := un_bi h
      refine j_c1i (As := [.int (xs (x3 + (1 : Int32)).toNatClampNeg)]) (rest := []) hC J (c_PF_content l wt1 (i0 := 0) ⟨by decide, rfl⟩ e20) (cwV 1 hts (gd_L lc_PF_content lm_Law_24 li_PF_content ls_PF_content ln_PF) rfl rfl rfl hd_PF_content ⟨(Nat.le_of_ble_eq_true rfl), (Nat.le_of_ble_eq_true rfl)⟩) rfl rfl hl.1 (Nat.le_of_ble_eq_true rfl) d_law_176 ⟨by decide, by decide⟩ (fun H locs J => ?_)
      refine lv_aload_n hx hb d_law_179 rfl (lv_at hl 2 rfl) ?_
      refine lv_aload_n hx hb d_law_180 rfl (lv_at hl 0 rfl) ?_
      refine lv_iload_n hx hb d_law_181 rfl (lv_at hl 3 rfl) ?_
      refine lv_iconst (v := 1) hx hb d_law_182 rfl ?_
      refine lv_iadd hx hb d_law_183 ?_
      obtain ⟨z21, h⟩ := un_if h
      refine j_sld hC J z21 d_law_184 ?_
      obtain ⟨q22, e23, h⟩ := un_bi h
      refine j_c2i (As := [.int (xs (x3 + (1 : Int32)).toNatClampNeg)]) (rest := [.int q19.1]) hC J (c_Md_content l wt2 (i0 := 0) ⟨by decide, rfl⟩ e23) (cwV 1 hts (gd_L lc_Md_content lm_Law_28 li_Md_content ls_Md_content ln_Md) rfl rfl rfl hd_Md_content ⟨(Nat.le_of_ble_eq_true rfl), (Nat.le_of_ble_eq_true rfl)⟩) rfl rfl hl.1 (Nat.le_of_ble_eq_true rfl) d_law_185 ⟨by decide, by decide⟩ (fun H locs J => ?_)
      refine lv_icmp_eq (tgt := 454) hx hb d_law_188 rfl (fun hc => ?_) (fun hc => ?_)
      · replace h := (if_pos hc).symm.trans h
        exact t_Law_454 hC hk18 J hl h
      · replace h := (if_neg hc).symm.trans h
        refine lv_iconst (v := 0) hx hb d_law_191 rfl ?_
        cases h
    replace h := (if_neg e24).symm.trans h
    by_cases e35 : ((xs x3.toNatClampNeg) &&& (15 : Int32)) = 3
    · replace h := (if_pos e35).symm.trans h
      refine lv_tableIn (x := ((xs x3.toNatClampNeg) &&& (15 : Int32))) (off := 161) (tgt := 193) hx hb d_law_32 (by rw [e35]; decide) (by rw [e35]; decide) (by rw [e35]; rfl) rfl ?_
      refine lv_aload_n hx hb d_law_193 rfl (lv_at hl 1 rfl) ?_
      refine lv_aload_n hx hb d_law_194 rfl (lv_at hl 0 rfl) ?_
      refine lv_iload_n hx hb d_law_195 rfl (lv_at hl 3 rfl) ?_
      refine lv_iconst (v := 1) hx hb d_law_196 rfl ?_
      refine lv_iadd hx hb d_law_197 ?_
      obtain ⟨z25, h⟩ := un_if h
      refine j_sld hC J z25 d_law_198 ?_
      refine lv_aload_n hx hb d_law_199 rfl (lv_at hl 0 rfl) ?_
      refine lv_iload_n hx hb d_law_200 rfl (lv_at hl 3 rfl) ?_
      refine lv_iconst (v := 2) hx hb d_law_201 rfl ?_
      refine lv_iadd hx hb d_law_202 ?_
      obtain ⟨z26, h⟩ := un_if h
      refine j_sld hC J z26 d_law_203 ?_
      refine lv_i2l hx hb d_law_204 rfl ?_
      refine lv_bipush (v := 32) hx hb d_law_205 (by decide) ?_
      refine lv_lshl hx hb d_law_207 rfl ?_
      refine lv_aload_n hx hb d_law_208 rfl (lv_at hl 0 rfl) ?_
      refine lv_iload_n hx hb d_law_209 rfl (lv_at hl 3 rfl) ?_
      refine lv_iconst (v := 3) hx hb d_law_210 rfl ?_
      refine lv_iadd hx hb d_law_211 ?_
      obtain ⟨z27, h⟩ := un_if h
      refine j_sld hC J z27 d_law_212 ?_
      refine lv_i2l hx hb d_law_213 rfl ?_
      refine lv_ldc2 (own := R_law) (index := 13) (v := 4294967295) hx hb hown (hts _ (List.mem_filter.mp lk_Law_13).1) d_law_214 ?_
      refine lv_land hx hb d_law_217 ?_
      refine lv_lor hx hb d_law_218 ?_
      obtain ⟨q28, e29, h⟩ := un_bi h
      refine j_c1i (As := [.int (xs (x3 + (1 : Int32)).toNatClampNeg), .long ((jlshl ((xs (x3 + (2 : Int32)).toNatClampNeg).toInt64) (32 : Int32)) ||| (((xs (x3 + (3 : Int32)).toNatClampNeg).toInt64) &&& (4294967295 : Int64)))]) (rest := []) hC J (c_PF_put l wt1 (i0 := 0) ⟨by decide, rfl⟩ e29) (cwV 2 hts (gd_L lc_PF_put lm_Law_29 li_PF_put ls_PF_put ln_PF) rfl rfl rfl hd_PF_put ⟨(Nat.le_of_ble_eq_true rfl), (Nat.le_of_ble_eq_true rfl)⟩) rfl rfl hl.1 (Nat.le_of_ble_eq_true rfl) d_law_219 ⟨by decide, by decide⟩ (fun H locs J => ?_)
      refine lv_aload_n hx hb d_law_222 rfl (lv_at hl 2 rfl) ?_
      refine lv_aload_n hx hb d_law_223 rfl (lv_at hl 0 rfl) ?_
      refine lv_iload_n hx hb d_law_224 rfl (lv_at hl 3 rfl) ?_
      refine lv_iconst (v := 1) hx hb d_law_225 rfl ?_
      refine lv_iadd hx hb d_law_226 ?_
      obtain ⟨z30, h⟩ := un_if h
      refine j_sld hC J z30 d_law_227 ?_
      refine lv_aload_n hx hb d_law_228 rfl (lv_at hl 0 rfl) ?_
      refine lv_iload_n hx hb d_law_229 rfl (lv_at hl 3 rfl) ?_
      refine lv_iconst (v := 2) hx hb d_law_230 rfl ?_
      refine lv_iadd hx hb d_law_231 ?_
      obtain ⟨z31, h⟩ := un_if h
      refine j_sld hC J z31 d_law_232 ?_
      refine lv_i2l hx hb d_law_233 rfl ?_
      refine lv_bipush (v := 32) hx hb d_law_234 (by decide) ?_
      refine lv_lshl hx hb d_law_236 rfl ?_
      refine lv_aload_n hx hb d_law_237 rfl (lv_at hl 0 rfl) ?_
      refine lv_iload_n hx hb d_law_238 rfl (lv_at hl 3 rfl) ?_
      refine lv_iconst (v := 3) hx hb d_law_239 rfl ?_
      refine lv_iadd hx hb d_law_240 ?_
      obtain ⟨z32, h⟩ := un_if h
      refine j_sld hC J z32 d_law_241 ?_
      refine lv_i2l hx hb d_law_242 rfl ?_
      refine lv_ldc2 (own := R_law) (index := 13) (v := 4294967295) hx hb hown (hts _ (List.mem_filter.mp lk_Law_13).1) d_law_243 ?_
      refine lv_land hx hb d_law_246 ?_
      refine lv_lor hx hb d_law_247 ?_
      obtain ⟨q33, e34, h⟩ := un_bi h
      refine j_c2i (As := [.int (xs (x3 + (1 : Int32)).toNatClampNeg), .long ((jlshl ((xs (x3 + (2 : Int32)).toNatClampNeg).toInt64) (32 : Int32)) ||| (((xs (x3 + (3 : Int32)).toNatClampNeg).toInt64) &&& (4294967295 : Int64)))]) (rest := [.int q28.1]) hC J (c_Md_put l wt2 (i0 := 0) ⟨by decide, rfl⟩ e34) (cwV 2 hts (gd_L lc_Md_put lm_Law_32 li_Md_put ls_Md_put ln_Md) rfl rfl rfl hd_Md_put ⟨(Nat.le_of_ble_eq_true rfl), (Nat.le_of_ble_eq_true rfl)⟩) rfl rfl hl.1 (Nat.le_of_ble_eq_true rfl) d_law_248 ⟨by decide, by decide⟩ (fun H locs J => ?_)
      refine lv_icmp_eq (tgt := 454) hx hb d_law_251 rfl (fun hc => ?_) (fun hc => ?_)
      · replace h := (if_pos hc).symm.trans h
        exact t_Law_454 hC hk18 J hl h
      · replace h := (if_neg hc).symm.trans h
        refine lv_iconst (v := 0) hx hb d_law_254 rfl ?_
        cases h
    replace h := (if_neg e35).symm.trans h
    by_cases e40 : ((xs x3.toNatClampNeg) &&& (15 : Int32)) = 4
    · replace h := (if_pos e40).symm.trans h
      refine lv_tableIn (x := ((xs x3.toNatClampNeg) &&& (15 : Int32))) (off := 224) (tgt := 256) hx hb d_law_32 (by rw [e40]; decide) (by rw [e40]; decide) (by rw [e40]; rfl) rfl ?_
      refine lv_aload_n hx hb d_law_256 rfl (lv_at hl 1 rfl) ?_
      obtain ⟨F36, e37, h⟩ := un_bi h
      refine j_c1v (As := []) (rest := []) hC J (c_PF_wipe l wt1 (i0 := 0) ⟨by decide, rfl⟩ e37) (cwV 0 hts (gd_L lc_PF_wipe lm_Law_33 li_PF_wipe ls_PF_wipe ln_PF) rfl rfl rfl hd_PF_wipe ⟨(Nat.le_of_ble_eq_true rfl), (Nat.le_of_ble_eq_true rfl)⟩) rfl rfl hl.1 (Nat.le_of_ble_eq_true rfl) d_law_257 ⟨by decide, by decide⟩ (fun H locs J => ?_)
      refine lv_aload_n hx hb d_law_260 rfl (lv_at hl 2 rfl) ?_
      obtain ⟨F38, e39, h⟩ := un_bi h
      refine j_c2v (As := []) (rest := []) hC J (c_Md_wipe l wt2 (i0 := 0) ⟨by decide, rfl⟩ e39) (cwV 0 hts (gd_L lc_Md_wipe lm_Law_36 li_Md_wipe ls_Md_wipe ln_Md) rfl rfl rfl hd_Md_wipe ⟨(Nat.le_of_ble_eq_true rfl), (Nat.le_of_ble_eq_true rfl)⟩) rfl rfl hl.1 (Nat.le_of_ble_eq_true rfl) d_law_261 ⟨by decide, by decide⟩ (fun H locs J => ?_)
      refine lv_goto (tgt := 454) hx hb d_law_264 rfl ?_
      exact t_Law_454 hC hk18 J hl h
    replace h := (if_neg e40).symm.trans h
    by_cases e47 : ((xs x3.toNatClampNeg) &&& (15 : Int32)) = 5
    · replace h := (if_pos e47).symm.trans h
      refine lv_tableIn (x := ((xs x3.toNatClampNeg) &&& (15 : Int32))) (off := 235) (tgt := 267) hx hb d_law_32 (by rw [e47]; decide) (by rw [e47]; decide) (by rw [e47]; rfl) rfl ?_
      refine lv_aload_n hx hb d_law_267 rfl (lv_at hl 1 rfl) ?_
      refine lv_aload_n hx hb d_law_268 rfl (lv_at hl 0 rfl) ?_
      refine lv_iload_n hx hb d_law_269 rfl (lv_at hl 3 rfl) ?_
      refine lv_iconst (v := 1) hx hb d_law_270 rfl ?_
      refine lv_iadd hx hb d_law_271 ?_
      obtain ⟨z41, h⟩ := un_if h
      refine j_sld hC J z41 d_law_272 ?_
      obtain ⟨q42, e43, h⟩ := un_bi h
      refine j_c1i (As := [.int (xs (x3 + (1 : Int32)).toNatClampNeg)]) (rest := []) hC J (c_PF_wire l wt1 (i0 := 0) ⟨by decide, rfl⟩ e43) (cwV 1 hts (gd_L lc_PF_wire lm_Law_37 li_PF_wire ls_PF_wire ln_PF) rfl rfl rfl hd_PF_wire ⟨(Nat.le_of_ble_eq_true rfl), (Nat.le_of_ble_eq_true rfl)⟩) rfl rfl hl.1 (Nat.le_of_ble_eq_true rfl) d_law_273 ⟨by decide, by decide⟩ (fun H locs J => ?_)
      refine lv_aload_n hx hb d_law_276 rfl (lv_at hl 2 rfl) ?_
      refine lv_aload_n hx hb d_law_277 rfl (lv_at hl 0 rfl) ?_
      refine lv_iload_n hx hb d_law_278 rfl (lv_at hl 3 rfl) ?_
      refine lv_iconst (v := 1) hx hb d_law_279 rfl ?_
      refine lv_iadd hx hb d_law_280 ?_
      obtain ⟨z44, h⟩ := un_if h
      refine j_sld hC J z44 d_law_281 ?_
      obtain ⟨q45, e46, h⟩ := un_bi h
      refine j_c2i (As := [.int (xs (x3 + (1 : Int32)).toNatClampNeg)]) (rest := [.int q42.1]) hC J (c_Md_wire l wt2 (i0 := 0) ⟨by decide, rfl⟩ e46) (cwV 1 hts (gd_L lc_Md_wire lm_Law_40 li_Md_wire ls_Md_wire ln_Md) rfl rfl rfl hd_Md_wire ⟨(Nat.le_of_ble_eq_true rfl), (Nat.le_of_ble_eq_true rfl)⟩) rfl rfl hl.1 (Nat.le_of_ble_eq_true rfl) d_law_282 ⟨by decide, by decide⟩ (fun H locs J => ?_)
      refine lv_icmp_eq (tgt := 454) hx hb d_law_285 rfl (fun hc => ?_) (fun hc => ?_)
      · replace h := (if_pos hc).symm.trans h
        exact t_Law_454 hC hk18 J hl h
      · replace h := (if_neg hc).symm.trans h
        refine lv_iconst (v := 0) hx hb d_law_288 rfl ?_
        cases h
    replace h := (if_neg e47).symm.trans h
    by_cases e56 : ((xs x3.toNatClampNeg) &&& (15 : Int32)) = 6
    · replace h := (if_pos e56).symm.trans h
      refine lv_tableIn (x := ((xs x3.toNatClampNeg) &&& (15 : Int32))) (off := 258) (tgt := 290) hx hb d_law_32 (by rw [e56]; decide) (by rw [e56]; decide) (by rw [e56]; rfl) rfl ?_
      refine lv_aload_n hx hb d_law_290 rfl (lv_at hl 1 rfl) ?_
      refine lv_aload_n hx hb d_law_291 rfl (lv_at hl 0 rfl) ?_
      refine lv_iload_n hx hb d_law_292 rfl (lv_at hl 3 rfl) ?_
      refine lv_iconst (v := 1) hx hb d_law_293 rfl ?_
      refine lv_iadd hx hb d_law_294 ?_
      obtain ⟨z48, h⟩ := un_if h
      refine j_sld hC J z48 d_law_295 ?_
      refine lv_aload_n hx hb d_law_296 rfl (lv_at hl 0 rfl) ?_
      refine lv_iload_n hx hb d_law_297 rfl (lv_at hl 3 rfl) ?_
      refine lv_iconst (v := 2) hx hb d_law_298 rfl ?_
      refine lv_iadd hx hb d_law_299 ?_
      obtain ⟨z49, h⟩ := un_if h
      refine j_sld hC J z49 d_law_300 ?_
      obtain ⟨q50, e51, h⟩ := un_bi h
      refine j_c1i (As := [.int (xs (x3 + (1 : Int32)).toNatClampNeg), .int (xs (x3 + (2 : Int32)).toNatClampNeg)]) (rest := []) hC J (c_PF_spoil l wt1 (i0 := 0) ⟨by decide, rfl⟩ e51) (cwV 2 hts (gd_L lc_PF_spoil lm_Law_41 li_PF_spoil ls_PF_spoil ln_PF) rfl rfl rfl hd_PF_spoil ⟨(Nat.le_of_ble_eq_true rfl), (Nat.le_of_ble_eq_true rfl)⟩) rfl rfl hl.1 (Nat.le_of_ble_eq_true rfl) d_law_301 ⟨by decide, by decide⟩ (fun H locs J => ?_)
      refine lv_aload_n hx hb d_law_304 rfl (lv_at hl 2 rfl) ?_
      refine lv_aload_n hx hb d_law_305 rfl (lv_at hl 0 rfl) ?_
      refine lv_iload_n hx hb d_law_306 rfl (lv_at hl 3 rfl) ?_
      refine lv_iconst (v := 1) hx hb d_law_307 rfl ?_
      refine lv_iadd hx hb d_law_308 ?_
      obtain ⟨z52, h⟩ := un_if h
      refine j_sld hC J z52 d_law_309 ?_
      refine lv_aload_n hx hb d_law_310 rfl (lv_at hl 0 rfl) ?_
      refine lv_iload_n hx hb d_law_311 rfl (lv_at hl 3 rfl) ?_
      refine lv_iconst (v := 2) hx hb d_law_312 rfl ?_
      refine lv_iadd hx hb d_law_313 ?_
      obtain ⟨z53, h⟩ := un_if h
      refine j_sld hC J z53 d_law_314 ?_
      obtain ⟨q54, e55, h⟩ := un_bi h
      refine j_c2i (As := [.int (xs (x3 + (1 : Int32)).toNatClampNeg), .int (xs (x3 + (2 : Int32)).toNatClampNeg)]) (rest := [.int q50.1]) hC J (c_Md_spoil l wt2 (i0 := 0) ⟨by decide, rfl⟩ e55) (cwV 2 hts (gd_L lc_Md_spoil lm_Law_45 li_Md_spoil ls_Md_spoil ln_Md) rfl rfl rfl hd_Md_spoil ⟨(Nat.le_of_ble_eq_true rfl), (Nat.le_of_ble_eq_true rfl)⟩) rfl rfl hl.1 (Nat.le_of_ble_eq_true rfl) d_law_315 ⟨by decide, by decide⟩ (fun H locs J => ?_)
      refine lv_icmp_eq (tgt := 454) hx hb d_law_318 rfl (fun hc => ?_) (fun hc => ?_)
      · replace h := (if_pos hc).symm.trans h
        exact t_Law_454 hC hk18 J hl h
      · replace h := (if_neg hc).symm.trans h
        refine lv_iconst (v := 0) hx hb d_law_321 rfl ?_
        cases h
    replace h := (if_neg e56).symm.trans h
    by_cases e58 : ((xs x3.toNatClampNeg) &&& (15 : Int32)) = 7
    · replace h := (if_pos e58).symm.trans h
      refine lv_tableIn (x := ((xs x3.toNatClampNeg) &&& (15 : Int32))) (off := 291) (tgt := 323) hx hb d_law_32 (by rw [e58]; decide) (by rw [e58]; decide) (by rw [e58]; rfl) rfl ?_
      refine lv_aload_n hx hb d_law_323 rfl (lv_at hl 1 rfl) ?_
      refine lv_aload_n hx hb d_law_324 rfl (lv_at hl 0 rfl) ?_
      refine lv_iload_n hx hb d_law_325 rfl (lv_at hl 3 rfl) ?_
      refine lv_iconst (v := 1) hx hb d_law_326 rfl ?_
      refine lv_iadd hx hb d_law_327 ?_
      obtain ⟨z57, h⟩ := un_if h
      refine j_sld hC J z57 d_law_328 ?_
      refine lv_if_eq (tgt := 336) hx hb d_law_329 rfl (fun hc => ?_) (fun hc => ?_)
      · replace h := (if_pos hc).symm.trans h
        refine lv_iconst (v := 0) hx hb d_law_336 rfl ?_
        exact t_Law_337 hC hk18 J hl h
      · replace h := (if_neg hc).symm.trans h
        refine lv_iconst (v := 1) hx hb d_law_332 rfl ?_
        refine lv_goto (tgt := 337) hx hb d_law_333 rfl ?_
        exact t_Law_337 hC hk18 J hl h
    replace h := (if_neg e58).symm.trans h
    by_cases e65 : ((xs x3.toNatClampNeg) &&& (15 : Int32)) = 8
    · replace h := (if_pos e65).symm.trans h
      refine lv_tableIn (x := ((xs x3.toNatClampNeg) &&& (15 : Int32))) (off := 330) (tgt := 362) hx hb d_law_32 (by rw [e65]; decide) (by rw [e65]; decide) (by rw [e65]; rfl) rfl ?_
      refine lv_aload_n hx hb d_law_362 rfl (lv_at hl 1 rfl) ?_
      refine lv_aload_n hx hb d_law_363 rfl (lv_at hl 0 rfl) ?_
      refine lv_iload_n hx hb d_law_364 rfl (lv_at hl 3 rfl) ?_
      refine lv_iconst (v := 1) hx hb d_law_365 rfl ?_
      refine lv_iadd hx hb d_law_366 ?_
      obtain ⟨z59, h⟩ := un_if h
      refine j_sld hC J z59 d_law_367 ?_
      obtain ⟨q60, e61, h⟩ := un_bi h
      refine j_c1i (As := [.int (xs (x3 + (1 : Int32)).toNatClampNeg)]) (rest := []) hC J (c_PF_skip l wt1 (i0 := 0) ⟨by decide, rfl⟩ e61) (cwV 1 hts (gd_L lc_PF_skip lm_Law_51 li_PF_skip ls_PF_skip ln_PF) rfl rfl rfl hd_PF_skip ⟨(Nat.le_of_ble_eq_true rfl), (Nat.le_of_ble_eq_true rfl)⟩) rfl rfl hl.1 (Nat.le_of_ble_eq_true rfl) d_law_368 ⟨by decide, by decide⟩ (fun H locs J => ?_)
      refine lv_aload_n hx hb d_law_371 rfl (lv_at hl 2 rfl) ?_
      refine lv_aload_n hx hb d_law_372 rfl (lv_at hl 0 rfl) ?_
      refine lv_iload_n hx hb d_law_373 rfl (lv_at hl 3 rfl) ?_
      refine lv_iconst (v := 1) hx hb d_law_374 rfl ?_
      refine lv_iadd hx hb d_law_375 ?_
      obtain ⟨z62, h⟩ := un_if h
      refine j_sld hC J z62 d_law_376 ?_
      obtain ⟨q63, e64, h⟩ := un_bi h
      refine j_c2i (As := [.int (xs (x3 + (1 : Int32)).toNatClampNeg)]) (rest := [.int q60.1]) hC J (c_Md_skip l wt2 (i0 := 0) ⟨by decide, rfl⟩ e64) (cwV 1 hts (gd_L lc_Md_skip lm_Law_55 li_Md_skip ls_Md_skip ln_Md) rfl rfl rfl hd_Md_skip ⟨(Nat.le_of_ble_eq_true rfl), (Nat.le_of_ble_eq_true rfl)⟩) rfl rfl hl.1 (Nat.le_of_ble_eq_true rfl) d_law_377 ⟨by decide, by decide⟩ (fun H locs J => ?_)
      refine lv_icmp_eq (tgt := 454) hx hb d_law_380 rfl (fun hc => ?_) (fun hc => ?_)
      · replace h := (if_pos hc).symm.trans h
        exact t_Law_454 hC hk18 J hl h
      · replace h := (if_neg hc).symm.trans h
        refine lv_iconst (v := 0) hx hb d_law_383 rfl ?_
        cases h
    replace h := (if_neg e65).symm.trans h
    by_cases e70 : ((xs x3.toNatClampNeg) &&& (15 : Int32)) = 9
    · replace h := (if_pos e70).symm.trans h
      refine lv_tableIn (x := ((xs x3.toNatClampNeg) &&& (15 : Int32))) (off := 353) (tgt := 385) hx hb d_law_32 (by rw [e70]; decide) (by rw [e70]; decide) (by rw [e70]; rfl) rfl ?_
      refine lv_aload_n hx hb d_law_385 rfl (lv_at hl 1 rfl) ?_
      obtain ⟨q66, e67, h⟩ := un_bi h
      refine j_c1i (As := []) (rest := []) hC J (c_PF_unpack l wt1 (i0 := 0) ⟨by decide, rfl⟩ e67) (cwV 0 hts (gd_L lc_PF_unpack lm_Law_56 li_PF_unpack ls_PF_unpack ln_PF) rfl rfl rfl hd_PF_unpack ⟨(Nat.le_of_ble_eq_true rfl), (Nat.le_of_ble_eq_true rfl)⟩) rfl rfl hl.1 (Nat.le_of_ble_eq_true rfl) d_law_386 ⟨by decide, by decide⟩ (fun H locs J => ?_)
      refine lv_aload_n hx hb d_law_389 rfl (lv_at hl 2 rfl) ?_
      obtain ⟨q68, e69, h⟩ := un_bi h
      refine j_c2i (As := []) (rest := [.int q66.1]) hC J (c_Md_unpack l wt2 (i0 := 0) ⟨by decide, rfl⟩ e69) (cwV 0 hts (gd_L lc_Md_unpack lm_Law_60 li_Md_unpack ls_Md_unpack ln_Md) rfl rfl rfl hd_Md_unpack ⟨(Nat.le_of_ble_eq_true rfl), (Nat.le_of_ble_eq_true rfl)⟩) rfl rfl hl.1 (Nat.le_of_ble_eq_true rfl) d_law_390 ⟨by decide, by decide⟩ (fun H locs J => ?_)
      refine lv_icmp_eq (tgt := 454) hx hb d_law_393 rfl (fun hc => ?_) (fun hc => ?_)
      · replace h := (if_pos hc).symm.trans h
        exact t_Law_454 hC hk18 J hl h
      · replace h := (if_neg hc).symm.trans h
        refine lv_iconst (v := 0) hx hb d_law_396 rfl ?_
        cases h
    replace h := (if_neg e70).symm.trans h
    by_cases e75 : ((xs x3.toNatClampNeg) &&& (15 : Int32)) = 10
    · replace h := (if_pos e75).symm.trans h
      refine lv_tableIn (x := ((xs x3.toNatClampNeg) &&& (15 : Int32))) (off := 366) (tgt := 398) hx hb d_law_32 (by rw [e75]; decide) (by rw [e75]; decide) (by rw [e75]; rfl) rfl ?_
      refine lv_aload_n hx hb d_law_398 rfl (lv_at hl 1 rfl) ?_
      obtain ⟨q71, e72, h⟩ := un_bi h
      refine j_c1i (As := []) (rest := []) hC J (c_PF_mark l wt1 (i0 := 0) ⟨by decide, rfl⟩ e72) (cwV 0 hts (gd_L lc_PF_mark lm_Law_61 li_PF_mark ls_PF_mark ln_PF) rfl rfl rfl hd_PF_mark ⟨(Nat.le_of_ble_eq_true rfl), (Nat.le_of_ble_eq_true rfl)⟩) rfl rfl hl.1 (Nat.le_of_ble_eq_true rfl) d_law_399 ⟨by decide, by decide⟩ (fun H locs J => ?_)
      refine lv_aload_n hx hb d_law_402 rfl (lv_at hl 2 rfl) ?_
      obtain ⟨q73, e74, h⟩ := un_bi h
      refine j_c2i (As := []) (rest := [.int q71.1]) hC J (c_Md_mark l wt2 (i0 := 0) ⟨by decide, rfl⟩ e74) (cwV 0 hts (gd_L lc_Md_mark lm_Law_64 li_Md_mark ls_Md_mark ln_Md) rfl rfl rfl hd_Md_mark ⟨(Nat.le_of_ble_eq_true rfl), (Nat.le_of_ble_eq_true rfl)⟩) rfl rfl hl.1 (Nat.le_of_ble_eq_true rfl) d_law_403 ⟨by decide, by decide⟩ (fun H locs J => ?_)
      refine lv_icmp_eq (tgt := 454) hx hb d_law_406 rfl (fun hc => ?_) (fun hc => ?_)
      · replace h := (if_pos hc).symm.trans h
        exact t_Law_454 hC hk18 J hl h
      · replace h := (if_neg hc).symm.trans h
        refine lv_iconst (v := 0) hx hb d_law_409 rfl ?_
        cases h
    replace h := (if_neg e75).symm.trans h
    by_cases e86 : ((xs x3.toNatClampNeg) &&& (15 : Int32)) = 11
    · replace h := (if_pos e86).symm.trans h
      refine lv_tableIn (x := ((xs x3.toNatClampNeg) &&& (15 : Int32))) (off := 379) (tgt := 411) hx hb d_law_32 (by rw [e86]; decide) (by rw [e86]; decide) (by rw [e86]; rfl) rfl ?_
      refine lv_aload_n hx hb d_law_411 rfl (lv_at hl 1 rfl) ?_
      refine lv_aload_n hx hb d_law_412 rfl (lv_at hl 0 rfl) ?_
      refine lv_iload_n hx hb d_law_413 rfl (lv_at hl 3 rfl) ?_
      refine lv_iconst (v := 1) hx hb d_law_414 rfl ?_
      refine lv_iadd hx hb d_law_415 ?_
      obtain ⟨z76, h⟩ := un_if h
      refine j_sld hC J z76 d_law_416 ?_
      refine lv_aload_n hx hb d_law_417 rfl (lv_at hl 0 rfl) ?_
      refine lv_iload_n hx hb d_law_418 rfl (lv_at hl 3 rfl) ?_
      refine lv_iconst (v := 2) hx hb d_law_419 rfl ?_
      refine lv_iadd hx hb d_law_420 ?_
      obtain ⟨z77, h⟩ := un_if h
      refine j_sld hC J z77 d_law_421 ?_
      refine lv_aload_n hx hb d_law_422 rfl (lv_at hl 0 rfl) ?_
      refine lv_iload_n hx hb d_law_423 rfl (lv_at hl 3 rfl) ?_
      refine lv_iconst (v := 3) hx hb d_law_424 rfl ?_
      refine lv_iadd hx hb d_law_425 ?_
      obtain ⟨z78, h⟩ := un_if h
      refine j_sld hC J z78 d_law_426 ?_
      obtain ⟨q79, e80, h⟩ := un_bi h
      refine j_c1i (As := [.int (xs (x3 + (1 : Int32)).toNatClampNeg), .int (xs (x3 + (2 : Int32)).toNatClampNeg), .int (xs (x3 + (3 : Int32)).toNatClampNeg)]) (rest := []) hC J (c_PF_usual l wt1 (i0 := 0) ⟨by decide, rfl⟩ e80) (cwV 3 hts (gd_L lc_PF_usual lm_Law_65 li_PF_usual ls_PF_usual ln_PF) rfl rfl rfl hd_PF_usual ⟨(Nat.le_of_ble_eq_true rfl), (Nat.le_of_ble_eq_true rfl)⟩) rfl rfl hl.1 (Nat.le_of_ble_eq_true rfl) d_law_427 ⟨by decide, by decide⟩ (fun H locs J => ?_)
      refine lv_aload_n hx hb d_law_430 rfl (lv_at hl 2 rfl) ?_
      refine lv_aload_n hx hb d_law_431 rfl (lv_at hl 0 rfl) ?_
      refine lv_iload_n hx hb d_law_432 rfl (lv_at hl 3 rfl) ?_
      refine lv_iconst (v := 1) hx hb d_law_433 rfl ?_
      refine lv_iadd hx hb d_law_434 ?_
      obtain ⟨z81, h⟩ := un_if h
      refine j_sld hC J z81 d_law_435 ?_
      refine lv_aload_n hx hb d_law_436 rfl (lv_at hl 0 rfl) ?_
      refine lv_iload_n hx hb d_law_437 rfl (lv_at hl 3 rfl) ?_
      refine lv_iconst (v := 2) hx hb d_law_438 rfl ?_
      refine lv_iadd hx hb d_law_439 ?_
      obtain ⟨z82, h⟩ := un_if h
      refine j_sld hC J z82 d_law_440 ?_
      refine lv_aload_n hx hb d_law_441 rfl (lv_at hl 0 rfl) ?_
      refine lv_iload_n hx hb d_law_442 rfl (lv_at hl 3 rfl) ?_
      refine lv_iconst (v := 3) hx hb d_law_443 rfl ?_
      refine lv_iadd hx hb d_law_444 ?_
      obtain ⟨z83, h⟩ := un_if h
      refine j_sld hC J z83 d_law_445 ?_
      obtain ⟨q84, e85, h⟩ := un_bi h
      refine j_c2i (As := [.int (xs (x3 + (1 : Int32)).toNatClampNeg), .int (xs (x3 + (2 : Int32)).toNatClampNeg), .int (xs (x3 + (3 : Int32)).toNatClampNeg)]) (rest := [.int q79.1]) hC J (c_Md_usual l wt2 (i0 := 0) ⟨by decide, rfl⟩ e85) (cwV 3 hts (gd_L lc_Md_usual lm_Law_69 li_Md_usual ls_Md_usual ln_Md) rfl rfl rfl hd_Md_usual ⟨(Nat.le_of_ble_eq_true rfl), (Nat.le_of_ble_eq_true rfl)⟩) rfl rfl hl.1 (Nat.le_of_ble_eq_true rfl) d_law_446 ⟨by decide, by decide⟩ (fun H locs J => ?_)
      refine lv_icmp_eq (tgt := 454) hx hb d_law_449 rfl (fun hc => ?_) (fun hc => ?_)
      · replace h := (if_pos hc).symm.trans h
        exact t_Law_454 hC hk18 J hl h
      · replace h := (if_neg hc).symm.trans h
        refine lv_iconst (v := 0) hx hb d_law_452 rfl ?_
        cases h
    replace h := (if_neg e86).symm.trans h
    refine lv_tableOut (x := ((xs x3.toNatClampNeg) &&& (15 : Int32))) (tgt := 454) hx hb d_law_32 (by have ne12 := lv_neT (a := 0) e12 (by decide); have ne17 := lv_neT (a := 1) e17 (by decide); have ne24 := lv_neT (a := 2) e24 (by decide); have ne35 := lv_neT (a := 3) e35 (by decide); have ne40 := lv_neT (a := 4) e40 (by decide); have ne47 := lv_neT (a := 5) e47 (by decide); have ne56 := lv_neT (a := 6) e56 (by decide); have ne58 := lv_neT (a := 7) e58 (by decide); have ne65 := lv_neT (a := 8) e65 (by decide); have ne70 := lv_neT (a := 9) e70 (by decide); have ne75 := lv_neT (a := 10) e75 (by decide); have ne86 := lv_neT (a := 11) e86 (by decide); omega) rfl ?_
    exact t_Law_454 hC hk18 J hl h
def f_Law_18 (Ln : Nat) (xs : Nat → Int32) : Nat → Int32 → Mem → Mem → Option Unit
  | 0 => fun _ _ _ => none
  | n + 1 => b_Law_18 Ln xs (f_Law_18 Ln xs n)
theorem tf_Law_18 (hC : Lc Y1 Y2 tad p s m meth c b Ln xs) {out : Unit} (n : Nat) : ∀ (x3 : Int32) (F G : Mem) (H : Heap) (locs : List Loc) (ls : Array Slot), Jv Y1 Y2 s H locs F G → lv_has ls 4 [(0, .ref b), (1, .ref (mAd Y1 0)), (2, .ref (mAd Y2 0)), (3, .int x3)] → f_Law_18 Ln xs n x3 F G = some out → W p l e room_1 s m #[Value.ref b] below meth c H locs 92 7619 (lw_Z below #[Value.ref b] s) (F0 m 18 ls []) := by
  induction n with
  | zero => intro x3 F G H locs ls J hl h; cases h
  | succ n ih => intro x3 F G H locs ls J hl h; exact t_Law_18 hC ih J hl h
end
