/-! THE CLAIM OUT OF ONE WALK OF THE LAW'S BODY. Your part is whole_start (and what it stands on); all else here is the same for every law, but numbers. -/
def R_law : String := "PackFramesLaw"
def lw_P (b : Addr) (xs : List Int32) (args : Array Value) (s : State) : Prop := args = #[.ref b] ∧ s.IntsAt b xs ∧ xs.length ≤ 4 ∧ (Jvm.Cond.and given_1 narrow_1).before args s = true
def lw_Q (_ : Array Value) (s : State) (o : Outcome) (t : State) : Prop := o = .returned (some (.int 1)) ∧ Framed s o t [] 600000 7302250
def lw_Z (below : List Frame) (a : Array Value) (s : State) : State → Prop := fun t => ∃ o, t.status = .running ∧ Ended t below o ∧ lw_Q a s o t
/-- the law's own end, with 1 on the stack, nothing written that was there before, its room as the claim has it -/
theorem lw_ret {p : Program} {l : Launch} {e : Env} {s : State} {m : MethodId} {below : List Frame} {meth : Method} {c : Code} {b : Nat} (hx : p.tables.exec = Jvm.exec) (hb : c.code = code) (hr : meth.sig.returnType = ret) (hlocks : meth.locks = false) {pc : Nat} {H : Heap} {ls : Array Slot} (hdg : decode code pc = .ok (.ireturn, 1)) : W p l e room_1 s m #[Value.ref b] below meth c H [] 600000 7302250 (lw_Z below #[Value.ref b] s) (F0 m pc ls [.int 1]) := by
  intro T hT X
  obtain ⟨fs, hret, hrun, hended, hW, hframe⟩ := X.leave (v := some (.int 1)) (hlocks := hlocks) (fun h => by rw [hr] at h; cases h)
  have hmeth' : T.vm.method? m = some meth := X.method'
  refine ⟨T.setFrames fs, ?_, .returned (some (.int 1)), hrun, hended, rfl, ⟨_, rfl⟩, hW, hframe⟩
  jvm_step X.here [X.here.top, hx, hb, hdg, hmeth', hr, ret, narrow_b1]
  (try refine ⟨rfl, ?_⟩); (try refine ⟨rfl, ?_⟩)
  first | (intro acts; rw [hret _ acts rfl rfl rfl]) | rw [hret _ _ rfl rfl rfl]
  exact Steps.refl _
/-- what holds at the law's entry: the machine, the code, the tables' words (any of lw_tbl by 'hts w (by decide +kernel)'), the script of L ints xs at the cell b, what the Statement gives of the start (any of its parts by flat_of_before) -/
def lw_At (p : Program) (s : State) (m : MethodId) (meth : Method) (c : Code) (b L : Nat) (xs : Nat → Int32) : Prop :=
  p.tables.exec = Jvm.exec ∧ c.code = code ∧ meth.sig.returnType = ret ∧ c.maxLocals = 4 ∧ s.vm.findClass R_law = some m.cls ∧ (∀ w ∈ lw_tbl, w.before #[Value.ref b] s = true) ∧ va_X b L xs s s.heap ∧ b < s.heap.size ∧ meth.locks = false ∧ (Jvm.Cond.and given_1 narrow_1).before #[Value.ref b] s = true

def wtb (L : La) : Bool := (List.range (mNc L)).all fun i => (List.range (ft (mKd L i)).length).all fun s =>
  if (ft (mKd L i)).getD s 0 = 102 then (decide (mRf L i s < mNc L) && decide (mKd L (mRf L i s) = 100)) || (decide (mNc L ≤ mRf L i s) && decide (mRf L i s < mNc L + 6))
  else decide ((ft (mKd L i)).getD s 0 < 2) || (decide (mRf L i s < mNc L) && decide (mKd L (mRf L i s) + 2 = (ft (mKd L i)).getD s 0))
theorem wt_of {L : La} (h : wtb L = true) : WT L := by
  intro i c o hc s hs
  obtain ⟨o1, rfl⟩ := o
  have h1 := List.all_eq_true.mp (List.all_eq_true.mp h i (List.mem_range.mpr o1)) s (List.mem_range.mpr hs)
  refine ⟨fun h2 => ?_, fun c' h2 hn => ?_⟩
  · rw [if_pos h2] at h1
    simp only [Bool.or_eq_true, Bool.and_eq_true, decide_eq_true_eq] at h1
    rcases h1 with h1 | h1
    · exact Or.inl h1
    · exact Or.inr ⟨mRf L i s - mNc L, by omega, by omega⟩
  · rw [if_neg (by omega)] at h1
    simp only [Bool.or_eq_true, Bool.and_eq_true, decide_eq_true_eq] at h1
    rcases h1 with h1 | h1
    · omega
    · exact ⟨h1.1, by omega⟩
def kd1 : Nat → Nat := fun k => [0, 1, 100, 1, 100, 2, 100, 100, 100, 100, 2, 100, 100, 100, 100, 9, 1, 100, 6, 3, 100, 100, 100, 1, 100, 7, 8, 2, 100, 100, 100, 100, 2, 100, 100, 100, 100, 2, 100, 100, 100, 100, 100, 11, 1, 100, 5, 100, 4, 100, 100, 100, 3, 100, 100, 100, 100, 100, 100, 10, 1, 100, 100, 100, 100, 6].getD k 0
def ln1 : Nat → Nat := fun k => [0, 0, 120, 0, 240, 0, 16, 16, 16, 12, 0, 16, 16, 16, 8, 0, 0, 120, 0, 0, 17, 17, 128, 0, 63, 0, 0, 0, 16, 16, 16, 12, 0, 16, 16, 16, 8, 0, 16, 16, 16, 12, 12, 0, 0, 256, 0, 1280, 0, 34, 34, 34, 0, 17, 17, 128, 40, 40, 40, 0, 0, 120, 40, 40, 40, 0].getD k 0
def rf1 : Nat → Nat → Nat := fun i s => ([[1, 3, 5, 10, 15, 43], [2, 0], [], [4, 0], [], [66, 6, 7, 8, 9, 0, 0], [], [], [], [], [67, 11, 12, 13, 14, 0, 0], [], [], [], [], [16, 25, 26, 18, 19, 23, 0, 0, 0, 0], [17, 0], [], [0, 0, 0], [20, 21, 22, 0, 0], [], [], [], [24, 0], [], [3, 0, 0, 0, 0, 0], [25, 27, 32, 37, 42, 0, 0, 0, 0], [66, 28, 29, 30, 31, 0, 0], [], [], [], [], [67, 33, 34, 35, 36, 0, 0], [], [], [], [], [66, 38, 39, 40, 41, 0, 0], [], [], [], [], [], [1, 59, 5, 10, 44, 46, 48, 52, 56, 57, 58, 0, 0], [45, 0], [], [47, 0], [], [49, 50, 51, 0], [], [], [], [53, 54, 55, 0, 0], [], [], [], [], [], [], [1, 60, 62, 63, 64, 65, 0, 0, 0], [61, 0], [], [], [], [], [0, 0, 0]].getD i []).getD s 0
def L1 : La := (66, kd1, ln1, rf1)
def F1 (G0 G1 : Mem) : Mem := fun i => match i with
  | 5 => G0 0
  | 6 => G0 1
  | 7 => G0 2
  | 8 => G0 3
  | 9 => G0 4
  | 10 => G1 0
  | 11 => G1 1
  | 12 => G1 2
  | 13 => G1 3
  | 14 => G1 4
  | 27 => G0 0
  | 28 => G0 1
  | 29 => G0 2
  | 30 => G0 3
  | 31 => G0 4
  | 32 => G1 0
  | 33 => G1 1
  | 34 => G1 2
  | 35 => G1 3
  | 36 => G1 4
  | 37 => G0 0
  | 38 => G0 1
  | 39 => G0 2
  | 40 => G0 3
  | 41 => G0 4
  | _ => fun _ => 0
def X1 (D : va_G) (cA cB : ClassId) (tad : Nat → Nat) (h0 : Nat) (u : Nat → Nat) : Xs := (D, fun k => match k with | 0 => h0 | k + 1 => if k < 65 then u k else tad (k - 65), cA, cB)
set_option maxRecDepth 100000 in
set_option maxHeartbeats 8000000 in
theorem eX1 {D : va_G} {cA cB : ClassId} {tad : Nat → Nat} {h0 : Nat} {u : Nat → Nat} {G0 G1 : Mem} : ([(h0, .inr (0, [.ref (u 0), .ref (u 2), .ref (u 4), .ref (u 9), .ref (u 14), .ref (u 42)])), ((u 0), .inr (1, [.ref (u 1), .int 0])), ((u 1), .inl (cA, 120, .inl (fun _ => 0))), ((u 2), .inr (1, [.ref (u 3), .int 0])), ((u 3), .inl (cA, 240, .inl (fun _ => 0))), ((u 4), .inr (2, [.ref (tad 0), .ref (u 5), .ref (u 6), .ref (u 7), .ref (u 8), .int (G0 0 5), .int (G0 0 6)])), ((u 5), .inl (cA, 16, .inl (G0 1))), ((u 6), .inl (cA, 16, .inl (G0 2))), ((u 7), .inl (cA, 16, .inl (G0 3))), ((u 8), .inl (cA, 12, .inl (G0 4))), ((u 9), .inr (2, [.ref (tad 1), .ref (u 10), .ref (u 11), .ref (u 12), .ref (u 13), .int (G1 0 5), .int (G1 0 6)])), ((u 10), .inl (cA, 16, .inl (G1 1))), ((u 11), .inl (cA, 16, .inl (G1 2))), ((u 12), .inl (cA, 16, .inl (G1 3))), ((u 13), .inl (cA, 8, .inl (G1 4))), ((u 14), .inr (9, [.ref (u 15), .ref (u 24), .ref (u 25), .ref (u 17), .ref (u 18), .ref (u 22), .int 0, .int 0, .int 0, .int 0])), ((u 15), .inr (1, [.ref (u 16), .int 0])), ((u 16), .inl (cA, 120, .inl (fun _ => 0))), ((u 17), .inr (6, [.int 0, .int 0, .int 0])), ((u 18), .inr (3, [.ref (u 19), .ref (u 20), .ref (u 21), .int 0, .int 0])), ((u 19), .inl (cA, 17, .inl (fun _ => 0))), ((u 20), .inl (cA, 17, .inl (fun _ => 0))), ((u 21), .inl (cA, 128, .inl (fun _ => 0))), ((u 22), .inr (1, [.ref (u 23), .int 0])), ((u 23), .inl (cA, 63, .inl (fun _ => 0))), ((u 24), .inr (7, [.ref (u 2), .int 0, .int 0, .int 0, .int 0, .int 0])), ((u 25), .inr (8, [.ref (u 24), .ref (u 26), .ref (u 31), .ref (u 36), .ref (u 41), .int 0, .int 0, .int 0, .int 0])), ((u 26), .inr (2, [.ref (tad 0), .ref (u 27), .ref (u 28), .ref (u 29), .ref (u 30), .int (G0 0 5), .int (G0 0 6)])), ((u 27), .inl (cA, 16, .inl (G0 1))), ((u 28), .inl (cA, 16, .inl (G0 2))), ((u 29), .inl (cA, 16, .inl (G0 3))), ((u 30), .inl (cA, 12, .inl (G0 4))), ((u 31), .inr (2, [.ref (tad 1), .ref (u 32), .ref (u 33), .ref (u 34), .ref (u 35), .int (G1 0 5), .int (G1 0 6)])), ((u 32), .inl (cA, 16, .inl (G1 1))), ((u 33), .inl (cA, 16, .inl (G1 2))), ((u 34), .inl (cA, 16, .inl (G1 3))), ((u 35), .inl (cA, 8, .inl (G1 4))), ((u 36), .inr (2, [.ref (tad 0), .ref (u 37), .ref (u 38), .ref (u 39), .ref (u 40), .int (G0 0 5), .int (G0 0 6)])), ((u 37), .inl (cA, 16, .inl (G0 1))), ((u 38), .inl (cA, 16, .inl (G0 2))), ((u 39), .inl (cA, 16, .inl (G0 3))), ((u 40), .inl (cA, 12, .inl (G0 4))), ((u 41), .inl (cA, 12, .inl (fun _ => 0))), ((u 42), .inr (11, [.ref (u 0), .ref (u 58), .ref (u 4), .ref (u 9), .ref (u 43), .ref (u 45), .ref (u 47), .ref (u 51), .ref (u 55), .ref (u 56), .ref (u 57), .int 0, .int 0])), ((u 43), .inr (1, [.ref (u 44), .int 0])), ((u 44), .inl (cA, 256, .inl (fun _ => 0))), ((u 45), .inr (5, [.ref (u 46), .int 0])), ((u 46), .inl (cA, 1280, .inl (fun _ => 0))), ((u 47), .inr (4, [.ref (u 48), .ref (u 49), .ref (u 50), .int 0])), ((u 48), .inl (cA, 34, .inl (fun _ => 0))), ((u 49), .inl (cA, 34, .inl (fun _ => 0))), ((u 50), .inl (cA, 34, .inl (fun _ => 0))), ((u 51), .inr (3, [.ref (u 52), .ref (u 53), .ref (u 54), .int 0, .int 0])), ((u 52), .inl (cA, 17, .inl (fun _ => 0))), ((u 53), .inl (cA, 17, .inl (fun _ => 0))), ((u 54), .inl (cA, 128, .inl (fun _ => 0))), ((u 55), .inl (cA, 40, .inl (fun _ => 0))), ((u 56), .inl (cA, 40, .inl (fun _ => 0))), ((u 57), .inl (cA, 40, .inl (fun _ => 0))), ((u 58), .inr (10, [.ref (u 0), .ref (u 59), .ref (u 61), .ref (u 62), .ref (u 63), .ref (u 64), .int 0, .int 0, .int 0])), ((u 59), .inr (1, [.ref (u 60), .int 0])), ((u 60), .inl (cA, 120, .inl (fun _ => 0))), ((u 61), .inl (cA, 40, .inl (fun _ => 0))), ((u 62), .inl (cA, 40, .inl (fun _ => 0))), ((u 63), .inl (cA, 40, .inl (fun _ => 0))), ((u 64), .inr (6, [.int 0, .int 0, .int 0]))] : va_W) = wl (X1 D cA cB tad h0 u) L1 (F1 G0 G1) := by
  rfl
theorem tX1 {D : va_G} {cA cB : ClassId} {tad : Nat → Nat} {h0 : Nat} {u : Nat → Nat} (j : Nat) : mAd (X1 D cA cB tad h0 u) (mNc L1 + j) = tad j := by
  show (X1 D cA cB tad h0 u).2.1 (66 + j) = tad j
  rw [show 66 + j = (65 + j) + 1 by omega]
  show (if 65 + j < 65 then u (65 + j) else tad (65 + j - 65)) = tad j
  rw [if_neg (by omega), Nat.add_sub_cancel_left]
theorem wt1 : WT L1 := wt_of (by decide +kernel)
def kd2 : Nat → Nat := fun k => [12, 100, 100, 100, 100, 100, 100, 100, 101, 101, 100, 100, 100, 100, 100, 100, 100, 100, 100, 100, 100, 100, 100, 100, 100, 100].getD k 0
def ln2 : Nat → Nat := fun k => [0, 120, 240, 120, 3, 120, 17, 128, 3, 3, 48, 48, 48, 12, 3, 255, 255, 255, 120, 120, 700, 1600, 17, 17, 17, 17].getD k 0
def rf2 : Nat → Nat → Nat := fun i s => ([[1, 0, 2, 0, 0, 0, 0, 3, 0, 0, 4, 0, 0, 0, 5, 0, 0, 0, 0, 6, 7, 8, 9, 10, 11, 12, 13, 14, 0, 15, 16, 17, 18, 19, 0, 20, 0, 21, 22, 23, 24, 25], [], [], [], [], [], [], [], [], [], [], [], [], [], [], [], [], [], [], [], [], [], [], [], [], []].getD i []).getD s 0
def L2 : La := (26, kd2, ln2, rf2)
def F2 : Mem := fun _ _ => 0
def X2 (D : va_G) (cA cB : ClassId) (tad : Nat → Nat) (h0 : Nat) (u : Nat → Nat) : Xs := (D, fun k => match k with | 0 => h0 | k + 1 => if k < 25 then u k else tad (k - 25), cA, cB)
set_option maxRecDepth 100000 in
set_option maxHeartbeats 8000000 in
theorem eX2 {D : va_G} {cA cB : ClassId} {tad : Nat → Nat} {h0 : Nat} {u : Nat → Nat} : ([(h0, .inr (12, [.ref (u 0), .int 0, .ref (u 1), .int 0, .int 0, .int 0, .int 0, .ref (u 2), .int 0, .int 0, .ref (u 3), .int 0, .int 0, .int 0, .ref (u 4), .int 0, .int 0, .int 0, .int 0, .ref (u 5), .ref (u 6), .ref (u 7), .ref (u 8), .ref (u 9), .ref (u 10), .ref (u 11), .ref (u 12), .ref (u 13), .int 0, .ref (u 14), .ref (u 15), .ref (u 16), .ref (u 17), .ref (u 18), .int 0, .ref (u 19), .int 0, .ref (u 20), .ref (u 21), .ref (u 22), .ref (u 23), .ref (u 24)])), ((u 0), .inl (cA, 120, .inl (fun _ => 0))), ((u 1), .inl (cA, 240, .inl (fun _ => 0))), ((u 2), .inl (cA, 120, .inl (fun _ => 0))), ((u 3), .inl (cA, 3, .inl (fun _ => 0))), ((u 4), .inl (cA, 120, .inl (fun _ => 0))), ((u 5), .inl (cA, 17, .inl (fun _ => 0))), ((u 6), .inl (cA, 128, .inl (fun _ => 0))), ((u 7), .inl (cB, 3, .inl (fun _ => 0))), ((u 8), .inl (cB, 3, .inl (fun _ => 0))), ((u 9), .inl (cA, 48, .inl (fun _ => 0))), ((u 10), .inl (cA, 48, .inl (fun _ => 0))), ((u 11), .inl (cA, 48, .inl (fun _ => 0))), ((u 12), .inl (cA, 12, .inl (fun _ => 0))), ((u 13), .inl (cA, 3, .inl (fun _ => 0))), ((u 14), .inl (cA, 255, .inl (fun _ => 0))), ((u 15), .inl (cA, 255, .inl (fun _ => 0))), ((u 16), .inl (cA, 255, .inl (fun _ => 0))), ((u 17), .inl (cA, 120, .inl (fun _ => 0))), ((u 18), .inl (cA, 120, .inl (fun _ => 0))), ((u 19), .inl (cA, 700, .inl (fun _ => 0))), ((u 20), .inl (cA, 1600, .inl (fun _ => 0))), ((u 21), .inl (cA, 17, .inl (fun _ => 0))), ((u 22), .inl (cA, 17, .inl (fun _ => 0))), ((u 23), .inl (cA, 17, .inl (fun _ => 0))), ((u 24), .inl (cA, 17, .inl (fun _ => 0)))] : va_W) = wl (X2 D cA cB tad h0 u) L2 F2 := by
  rfl
theorem tX2 {D : va_G} {cA cB : ClassId} {tad : Nat → Nat} {h0 : Nat} {u : Nat → Nat} (j : Nat) : mAd (X2 D cA cB tad h0 u) (mNc L2 + j) = tad j := by
  show (X2 D cA cB tad h0 u).2.1 (26 + j) = tad j
  rw [show 26 + j = (25 + j) + 1 by omega]
  show (if 25 + j < 25 then u (25 + j) else tad (25 + j - 25)) = tad j
  rw [if_neg (by omega), Nat.add_sub_cancel_left]
theorem wt2 : WT L2 := wt_of (by decide +kernel)
theorem ln_Law : Cond.initialized R_law ∈ wG := wG_of (List.mem_append_right _ (List.mem_of_getElem? (i := 0) (by decide +kernel))) rfl
theorem lm_Law_12 : Cond.methodLink R_law 12 y_Md_init ∈ wG := wG_of (List.mem_append_right _ (List.mem_of_getElem? (i := 821) (by decide +kernel))) rfl
theorem lm_Law_15 : Cond.methodLink R_law 15 y_PF_write ∈ wG := wG_of (List.mem_append_right _ (List.mem_of_getElem? (i := 399) (by decide +kernel))) rfl
theorem lm_Law_19 : Cond.methodLink R_law 19 y_Md_write ∈ wG := wG_of (List.mem_append_right _ (List.mem_of_getElem? (i := 953) (by decide +kernel))) rfl
theorem lm_Law_20 : Cond.methodLink R_law 20 y_PF_clear ∈ wG := wG_of (List.mem_append_right _ (List.mem_of_getElem? (i := 415) (by decide +kernel))) rfl
theorem lm_Law_23 : Cond.methodLink R_law 23 y_Md_clear ∈ wG := wG_of (List.mem_append_right _ (List.mem_of_getElem? (i := 957) (by decide +kernel))) rfl
theorem lm_Law_24 : Cond.methodLink R_law 24 y_PF_content ∈ wG := wG_of (List.mem_append_right _ (List.mem_of_getElem? (i := 419) (by decide +kernel))) rfl
theorem lm_Law_28 : Cond.methodLink R_law 28 y_Md_content ∈ wG := wG_of (List.mem_append_right _ (List.mem_of_getElem? (i := 961) (by decide +kernel))) rfl
theorem lm_Law_29 : Cond.methodLink R_law 29 y_PF_put ∈ wG := wG_of (List.mem_append_right _ (List.mem_of_getElem? (i := 427) (by decide +kernel))) rfl
theorem lm_Law_32 : Cond.methodLink R_law 32 y_Md_put ∈ wG := wG_of (List.mem_append_right _ (List.mem_of_getElem? (i := 965) (by decide +kernel))) rfl
theorem lm_Law_33 : Cond.methodLink R_law 33 y_PF_wipe ∈ wG := wG_of (List.mem_append_right _ (List.mem_of_getElem? (i := 431) (by decide +kernel))) rfl
theorem lm_Law_36 : Cond.methodLink R_law 36 y_Md_wipe ∈ wG := wG_of (List.mem_append_right _ (List.mem_of_getElem? (i := 969) (by decide +kernel))) rfl
theorem lm_Law_37 : Cond.methodLink R_law 37 y_PF_wire ∈ wG := wG_of (List.mem_append_right _ (List.mem_of_getElem? (i := 435) (by decide +kernel))) rfl
theorem lm_Law_40 : Cond.methodLink R_law 40 y_Md_wire ∈ wG := wG_of (List.mem_append_right _ (List.mem_of_getElem? (i := 973) (by decide +kernel))) rfl
theorem lm_Law_41 : Cond.methodLink R_law 41 y_PF_spoil ∈ wG := wG_of (List.mem_append_right _ (List.mem_of_getElem? (i := 439) (by decide +kernel))) rfl
theorem lm_Law_45 : Cond.methodLink R_law 45 y_Md_spoil ∈ wG := wG_of (List.mem_append_right _ (List.mem_of_getElem? (i := 977) (by decide +kernel))) rfl
theorem lm_Law_46 : Cond.methodLink R_law 46 y_PF_pack ∈ wG := wG_of (List.mem_append_right _ (List.mem_of_getElem? (i := 443) (by decide +kernel))) rfl
theorem lm_Law_50 : Cond.methodLink R_law 50 y_Md_pack ∈ wG := wG_of (List.mem_append_right _ (List.mem_of_getElem? (i := 1078) (by decide +kernel))) rfl
theorem lm_Law_51 : Cond.methodLink R_law 51 y_PF_skip ∈ wG := wG_of (List.mem_append_right _ (List.mem_of_getElem? (i := 636) (by decide +kernel))) rfl
theorem lm_Law_55 : Cond.methodLink R_law 55 y_Md_skip ∈ wG := wG_of (List.mem_append_right _ (List.mem_of_getElem? (i := 1155) (by decide +kernel))) rfl
theorem lm_Law_56 : Cond.methodLink R_law 56 y_PF_unpack ∈ wG := wG_of (List.mem_append_right _ (List.mem_of_getElem? (i := 644) (by decide +kernel))) rfl
theorem lm_Law_60 : Cond.methodLink R_law 60 y_Md_unpack ∈ wG := wG_of (List.mem_append_right _ (List.mem_of_getElem? (i := 990) (by decide +kernel))) rfl
theorem lm_Law_61 : Cond.methodLink R_law 61 y_PF_mark ∈ wG := wG_of (List.mem_append_right _ (List.mem_of_getElem? (i := 811) (by decide +kernel))) rfl
theorem lm_Law_64 : Cond.methodLink R_law 64 y_Md_mark ∈ wG := wG_of (List.mem_append_right _ (List.mem_of_getElem? (i := 981) (by decide +kernel))) rfl
theorem lm_Law_65 : Cond.methodLink R_law 65 y_PF_usual ∈ wG := wG_of (List.mem_append_right _ (List.mem_of_getElem? (i := 815) (by decide +kernel))) rfl
theorem lm_Law_69 : Cond.methodLink R_law 69 y_Md_usual ∈ wG := wG_of (List.mem_append_right _ (List.mem_of_getElem? (i := 1159) (by decide +kernel))) rfl
theorem lm_Law_9 : Cond.methodLink R_law 9 y_PF_init ∈ wG := wG_of (List.mem_append_right _ (List.mem_of_getElem? (i := 19) (by decide +kernel))) rfl
theorem lk_Law_13 : Cond.constantLong R_law 13 4294967295 ∈ wG := wG_of (List.mem_append_right _ (List.mem_of_getElem? (i := 1163) (by decide +kernel))) rfl
theorem lq_Law_7 : Cond.classLink R_law 7 R_PF ∈ wG := wG_of (List.mem_append_right _ (List.mem_of_getElem? (i := 17) (by decide +kernel))) rfl
theorem lq_Law_10 : Cond.classLink R_law 10 R_Md ∈ wG := wG_of (List.mem_append_right _ (List.mem_of_getElem? (i := 819) (by decide +kernel))) rfl
theorem d_law_0 : decode code 0 = .ok (.new 7, 3) := by decide +kernel
theorem d_law_3 : decode code 3 = .ok (.dup, 1) := by decide +kernel
theorem d_law_4 : decode code 4 = .ok (.invokespecial 9, 3) := by decide +kernel
theorem d_law_7 : decode code 7 = .ok (.astore_n 1, 1) := by decide +kernel
theorem d_law_8 : decode code 8 = .ok (.new 10, 3) := by decide +kernel
theorem d_law_11 : decode code 11 = .ok (.dup, 1) := by decide +kernel
theorem d_law_12 : decode code 12 = .ok (.invokespecial 12, 3) := by decide +kernel
theorem d_law_15 : decode code 15 = .ok (.astore_n 2, 1) := by decide +kernel
theorem d_law_16 : decode code 16 = .ok (.iconst 0, 1) := by decide +kernel
theorem d_law_17 : decode code 17 = .ok (.istore_n 3, 1) := by decide +kernel
theorem d_law_18 : decode code 18 = .ok (.iload_n 3, 1) := by decide +kernel
theorem d_law_19 : decode code 19 = .ok (.aload_n 0, 1) := by decide +kernel
theorem d_law_20 : decode code 20 = .ok (.arraylength, 1) := by decide +kernel
theorem d_law_21 : decode code 21 = .ok (.iconst 4, 1) := by decide +kernel
theorem d_law_22 : decode code 22 = .ok (.isub, 1) := by decide +kernel
theorem d_law_23 : decode code 23 = .ok (.if_icmp .gt (437), 3) := by decide +kernel
theorem d_law_26 : decode code 26 = .ok (.aload_n 0, 1) := by decide +kernel
theorem d_law_27 : decode code 27 = .ok (.iload_n 3, 1) := by decide +kernel
theorem d_law_28 : decode code 28 = .ok (.iaload, 1) := by decide +kernel
theorem d_law_29 : decode code 29 = .ok (.bipush (15), 2) := by decide +kernel
theorem d_law_31 : decode code 31 = .ok (.iand, 1) := by decide +kernel
theorem d_law_32 : decode code 32 = .ok (.tableswitch (422) (0) (11) #[64, 127, 138, 161, 224, 235, 258, 291, 330, 353, 366, 379], 64) := by decide +kernel
theorem d_law_96 : decode code 96 = .ok (.aload_n 1, 1) := by decide +kernel
theorem d_law_97 : decode code 97 = .ok (.aload_n 0, 1) := by decide +kernel
theorem d_law_98 : decode code 98 = .ok (.iload_n 3, 1) := by decide +kernel
theorem d_law_99 : decode code 99 = .ok (.iconst 1, 1) := by decide +kernel
theorem d_law_100 : decode code 100 = .ok (.iadd, 1) := by decide +kernel
theorem d_law_101 : decode code 101 = .ok (.iaload, 1) := by decide +kernel
theorem d_law_102 : decode code 102 = .ok (.aload_n 0, 1) := by decide +kernel
theorem d_law_103 : decode code 103 = .ok (.iload_n 3, 1) := by decide +kernel
theorem d_law_104 : decode code 104 = .ok (.iconst 2, 1) := by decide +kernel
theorem d_law_105 : decode code 105 = .ok (.iadd, 1) := by decide +kernel
theorem d_law_106 : decode code 106 = .ok (.iaload, 1) := by decide +kernel
theorem d_law_107 : decode code 107 = .ok (.i2l, 1) := by decide +kernel
theorem d_law_108 : decode code 108 = .ok (.bipush (32), 2) := by decide +kernel
theorem d_law_110 : decode code 110 = .ok (.lshl, 1) := by decide +kernel
theorem d_law_111 : decode code 111 = .ok (.aload_n 0, 1) := by decide +kernel
theorem d_law_112 : decode code 112 = .ok (.iload_n 3, 1) := by decide +kernel
theorem d_law_113 : decode code 113 = .ok (.iconst 3, 1) := by decide +kernel
theorem d_law_114 : decode code 114 = .ok (.iadd, 1) := by decide +kernel
theorem d_law_115 : decode code 115 = .ok (.iaload, 1) := by decide +kernel
theorem d_law_116 : decode code 116 = .ok (.i2l, 1) := by decide +kernel
theorem d_law_117 : decode code 117 = .ok (.ldc2_w 13, 3) := by decide +kernel
theorem d_law_120 : decode code 120 = .ok (.land, 1) := by decide +kernel
theorem d_law_121 : decode code 121 = .ok (.lor, 1) := by decide +kernel
theorem d_law_122 : decode code 122 = .ok (.invokevirtual 15, 3) := by decide +kernel
theorem d_law_125 : decode code 125 = .ok (.aload_n 2, 1) := by decide +kernel
theorem d_law_126 : decode code 126 = .ok (.aload_n 0, 1) := by decide +kernel
theorem d_law_127 : decode code 127 = .ok (.iload_n 3, 1) := by decide +kernel
theorem d_law_128 : decode code 128 = .ok (.iconst 1, 1) := by decide +kernel
theorem d_law_129 : decode code 129 = .ok (.iadd, 1) := by decide +kernel
theorem d_law_130 : decode code 130 = .ok (.iaload, 1) := by decide +kernel
theorem d_law_131 : decode code 131 = .ok (.aload_n 0, 1) := by decide +kernel
theorem d_law_132 : decode code 132 = .ok (.iload_n 3, 1) := by decide +kernel
theorem d_law_133 : decode code 133 = .ok (.iconst 2, 1) := by decide +kernel
theorem d_law_134 : decode code 134 = .ok (.iadd, 1) := by decide +kernel
theorem d_law_135 : decode code 135 = .ok (.iaload, 1) := by decide +kernel
theorem d_law_136 : decode code 136 = .ok (.i2l, 1) := by decide +kernel
theorem d_law_137 : decode code 137 = .ok (.bipush (32), 2) := by decide +kernel
theorem d_law_139 : decode code 139 = .ok (.lshl, 1) := by decide +kernel
theorem d_law_140 : decode code 140 = .ok (.aload_n 0, 1) := by decide +kernel
theorem d_law_141 : decode code 141 = .ok (.iload_n 3, 1) := by decide +kernel
theorem d_law_142 : decode code 142 = .ok (.iconst 3, 1) := by decide +kernel
theorem d_law_143 : decode code 143 = .ok (.iadd, 1) := by decide +kernel
theorem d_law_144 : decode code 144 = .ok (.iaload, 1) := by decide +kernel
theorem d_law_145 : decode code 145 = .ok (.i2l, 1) := by decide +kernel
theorem d_law_146 : decode code 146 = .ok (.ldc2_w 13, 3) := by decide +kernel
theorem d_law_149 : decode code 149 = .ok (.land, 1) := by decide +kernel
theorem d_law_150 : decode code 150 = .ok (.lor, 1) := by decide +kernel
theorem d_law_151 : decode code 151 = .ok (.invokevirtual 19, 3) := by decide +kernel
theorem d_law_154 : decode code 154 = .ok (.if_icmp .eq (300), 3) := by decide +kernel
theorem d_law_157 : decode code 157 = .ok (.iconst 0, 1) := by decide +kernel
theorem d_law_158 : decode code 158 = .ok (.ireturn, 1) := by decide +kernel
theorem d_law_159 : decode code 159 = .ok (.aload_n 1, 1) := by decide +kernel
theorem d_law_160 : decode code 160 = .ok (.invokevirtual 20, 3) := by decide +kernel
theorem d_law_163 : decode code 163 = .ok (.aload_n 2, 1) := by decide +kernel
theorem d_law_164 : decode code 164 = .ok (.invokevirtual 23, 3) := by decide +kernel
theorem d_law_167 : decode code 167 = .ok (.goto (287), 3) := by decide +kernel
theorem d_law_170 : decode code 170 = .ok (.aload_n 1, 1) := by decide +kernel
theorem d_law_171 : decode code 171 = .ok (.aload_n 0, 1) := by decide +kernel
theorem d_law_172 : decode code 172 = .ok (.iload_n 3, 1) := by decide +kernel
theorem d_law_173 : decode code 173 = .ok (.iconst 1, 1) := by decide +kernel
theorem d_law_174 : decode code 174 = .ok (.iadd, 1) := by decide +kernel
theorem d_law_175 : decode code 175 = .ok (.iaload, 1) := by decide +kernel
theorem d_law_176 : decode code 176 = .ok (.invokevirtual 24, 3) := by decide +kernel
theorem d_law_179 : decode code 179 = .ok (.aload_n 2, 1) := by decide +kernel
theorem d_law_180 : decode code 180 = .ok (.aload_n 0, 1) := by decide +kernel
theorem d_law_181 : decode code 181 = .ok (.iload_n 3, 1) := by decide +kernel
theorem d_law_182 : decode code 182 = .ok (.iconst 1, 1) := by decide +kernel
theorem d_law_183 : decode code 183 = .ok (.iadd, 1) := by decide +kernel
theorem d_law_184 : decode code 184 = .ok (.iaload, 1) := by decide +kernel
theorem d_law_185 : decode code 185 = .ok (.invokevirtual 28, 3) := by decide +kernel
theorem d_law_188 : decode code 188 = .ok (.if_icmp .eq (266), 3) := by decide +kernel
theorem d_law_191 : decode code 191 = .ok (.iconst 0, 1) := by decide +kernel
theorem d_law_192 : decode code 192 = .ok (.ireturn, 1) := by decide +kernel
theorem d_law_193 : decode code 193 = .ok (.aload_n 1, 1) := by decide +kernel
theorem d_law_194 : decode code 194 = .ok (.aload_n 0, 1) := by decide +kernel
theorem d_law_195 : decode code 195 = .ok (.iload_n 3, 1) := by decide +kernel
theorem d_law_196 : decode code 196 = .ok (.iconst 1, 1) := by decide +kernel
theorem d_law_197 : decode code 197 = .ok (.iadd, 1) := by decide +kernel
theorem d_law_198 : decode code 198 = .ok (.iaload, 1) := by decide +kernel
theorem d_law_199 : decode code 199 = .ok (.aload_n 0, 1) := by decide +kernel
theorem d_law_200 : decode code 200 = .ok (.iload_n 3, 1) := by decide +kernel
theorem d_law_201 : decode code 201 = .ok (.iconst 2, 1) := by decide +kernel
theorem d_law_202 : decode code 202 = .ok (.iadd, 1) := by decide +kernel
theorem d_law_203 : decode code 203 = .ok (.iaload, 1) := by decide +kernel
theorem d_law_204 : decode code 204 = .ok (.i2l, 1) := by decide +kernel
theorem d_law_205 : decode code 205 = .ok (.bipush (32), 2) := by decide +kernel
theorem d_law_207 : decode code 207 = .ok (.lshl, 1) := by decide +kernel
theorem d_law_208 : decode code 208 = .ok (.aload_n 0, 1) := by decide +kernel
theorem d_law_209 : decode code 209 = .ok (.iload_n 3, 1) := by decide +kernel
theorem d_law_210 : decode code 210 = .ok (.iconst 3, 1) := by decide +kernel
theorem d_law_211 : decode code 211 = .ok (.iadd, 1) := by decide +kernel
theorem d_law_212 : decode code 212 = .ok (.iaload, 1) := by decide +kernel
theorem d_law_213 : decode code 213 = .ok (.i2l, 1) := by decide +kernel
theorem d_law_214 : decode code 214 = .ok (.ldc2_w 13, 3) := by decide +kernel
theorem d_law_217 : decode code 217 = .ok (.land, 1) := by decide +kernel
theorem d_law_218 : decode code 218 = .ok (.lor, 1) := by decide +kernel
theorem d_law_219 : decode code 219 = .ok (.invokevirtual 29, 3) := by decide +kernel
theorem d_law_222 : decode code 222 = .ok (.aload_n 2, 1) := by decide +kernel
theorem d_law_223 : decode code 223 = .ok (.aload_n 0, 1) := by decide +kernel
theorem d_law_224 : decode code 224 = .ok (.iload_n 3, 1) := by decide +kernel
theorem d_law_225 : decode code 225 = .ok (.iconst 1, 1) := by decide +kernel
theorem d_law_226 : decode code 226 = .ok (.iadd, 1) := by decide +kernel
theorem d_law_227 : decode code 227 = .ok (.iaload, 1) := by decide +kernel
theorem d_law_228 : decode code 228 = .ok (.aload_n 0, 1) := by decide +kernel
theorem d_law_229 : decode code 229 = .ok (.iload_n 3, 1) := by decide +kernel
theorem d_law_230 : decode code 230 = .ok (.iconst 2, 1) := by decide +kernel
theorem d_law_231 : decode code 231 = .ok (.iadd, 1) := by decide +kernel
theorem d_law_232 : decode code 232 = .ok (.iaload, 1) := by decide +kernel
theorem d_law_233 : decode code 233 = .ok (.i2l, 1) := by decide +kernel
theorem d_law_234 : decode code 234 = .ok (.bipush (32), 2) := by decide +kernel
theorem d_law_236 : decode code 236 = .ok (.lshl, 1) := by decide +kernel
theorem d_law_237 : decode code 237 = .ok (.aload_n 0, 1) := by decide +kernel
theorem d_law_238 : decode code 238 = .ok (.iload_n 3, 1) := by decide +kernel
theorem d_law_239 : decode code 239 = .ok (.iconst 3, 1) := by decide +kernel
theorem d_law_240 : decode code 240 = .ok (.iadd, 1) := by decide +kernel
theorem d_law_241 : decode code 241 = .ok (.iaload, 1) := by decide +kernel
theorem d_law_242 : decode code 242 = .ok (.i2l, 1) := by decide +kernel
theorem d_law_243 : decode code 243 = .ok (.ldc2_w 13, 3) := by decide +kernel
theorem d_law_246 : decode code 246 = .ok (.land, 1) := by decide +kernel
theorem d_law_247 : decode code 247 = .ok (.lor, 1) := by decide +kernel
theorem d_law_248 : decode code 248 = .ok (.invokevirtual 32, 3) := by decide +kernel
theorem d_law_251 : decode code 251 = .ok (.if_icmp .eq (203), 3) := by decide +kernel
theorem d_law_254 : decode code 254 = .ok (.iconst 0, 1) := by decide +kernel
theorem d_law_255 : decode code 255 = .ok (.ireturn, 1) := by decide +kernel
theorem d_law_256 : decode code 256 = .ok (.aload_n 1, 1) := by decide +kernel
theorem d_law_257 : decode code 257 = .ok (.invokevirtual 33, 3) := by decide +kernel
theorem d_law_260 : decode code 260 = .ok (.aload_n 2, 1) := by decide +kernel
theorem d_law_261 : decode code 261 = .ok (.invokevirtual 36, 3) := by decide +kernel
theorem d_law_264 : decode code 264 = .ok (.goto (190), 3) := by decide +kernel
theorem d_law_267 : decode code 267 = .ok (.aload_n 1, 1) := by decide +kernel
theorem d_law_268 : decode code 268 = .ok (.aload_n 0, 1) := by decide +kernel
theorem d_law_269 : decode code 269 = .ok (.iload_n 3, 1) := by decide +kernel
theorem d_law_270 : decode code 270 = .ok (.iconst 1, 1) := by decide +kernel
theorem d_law_271 : decode code 271 = .ok (.iadd, 1) := by decide +kernel
theorem d_law_272 : decode code 272 = .ok (.iaload, 1) := by decide +kernel
theorem d_law_273 : decode code 273 = .ok (.invokevirtual 37, 3) := by decide +kernel
theorem d_law_276 : decode code 276 = .ok (.aload_n 2, 1) := by decide +kernel
theorem d_law_277 : decode code 277 = .ok (.aload_n 0, 1) := by decide +kernel
theorem d_law_278 : decode code 278 = .ok (.iload_n 3, 1) := by decide +kernel
theorem d_law_279 : decode code 279 = .ok (.iconst 1, 1) := by decide +kernel
theorem d_law_280 : decode code 280 = .ok (.iadd, 1) := by decide +kernel
theorem d_law_281 : decode code 281 = .ok (.iaload, 1) := by decide +kernel
theorem d_law_282 : decode code 282 = .ok (.invokevirtual 40, 3) := by decide +kernel
theorem d_law_285 : decode code 285 = .ok (.if_icmp .eq (169), 3) := by decide +kernel
theorem d_law_288 : decode code 288 = .ok (.iconst 0, 1) := by decide +kernel
theorem d_law_289 : decode code 289 = .ok (.ireturn, 1) := by decide +kernel
theorem d_law_290 : decode code 290 = .ok (.aload_n 1, 1) := by decide +kernel
theorem d_law_291 : decode code 291 = .ok (.aload_n 0, 1) := by decide +kernel
theorem d_law_292 : decode code 292 = .ok (.iload_n 3, 1) := by decide +kernel
theorem d_law_293 : decode code 293 = .ok (.iconst 1, 1) := by decide +kernel
theorem d_law_294 : decode code 294 = .ok (.iadd, 1) := by decide +kernel
theorem d_law_295 : decode code 295 = .ok (.iaload, 1) := by decide +kernel
theorem d_law_296 : decode code 296 = .ok (.aload_n 0, 1) := by decide +kernel
theorem d_law_297 : decode code 297 = .ok (.iload_n 3, 1) := by decide +kernel
theorem d_law_298 : decode code 298 = .ok (.iconst 2, 1) := by decide +kernel
theorem d_law_299 : decode code 299 = .ok (.iadd, 1) := by decide +kernel
theorem d_law_300 : decode code 300 = .ok (.iaload, 1) := by decide +kernel
theorem d_law_301 : decode code 301 = .ok (.invokevirtual 41, 3) := by decide +kernel
theorem d_law_304 : decode code 304 = .ok (.aload_n 2, 1) := by decide +kernel
theorem d_law_305 : decode code 305 = .ok (.aload_n 0, 1) := by decide +kernel
theorem d_law_306 : decode code 306 = .ok (.iload_n 3, 1) := by decide +kernel
theorem d_law_307 : decode code 307 = .ok (.iconst 1, 1) := by decide +kernel
theorem d_law_308 : decode code 308 = .ok (.iadd, 1) := by decide +kernel
theorem d_law_309 : decode code 309 = .ok (.iaload, 1) := by decide +kernel
theorem d_law_310 : decode code 310 = .ok (.aload_n 0, 1) := by decide +kernel
theorem d_law_311 : decode code 311 = .ok (.iload_n 3, 1) := by decide +kernel
theorem d_law_312 : decode code 312 = .ok (.iconst 2, 1) := by decide +kernel
theorem d_law_313 : decode code 313 = .ok (.iadd, 1) := by decide +kernel
theorem d_law_314 : decode code 314 = .ok (.iaload, 1) := by decide +kernel
theorem d_law_315 : decode code 315 = .ok (.invokevirtual 45, 3) := by decide +kernel
theorem d_law_318 : decode code 318 = .ok (.if_icmp .eq (136), 3) := by decide +kernel
theorem d_law_321 : decode code 321 = .ok (.iconst 0, 1) := by decide +kernel
theorem d_law_322 : decode code 322 = .ok (.ireturn, 1) := by decide +kernel
theorem d_law_323 : decode code 323 = .ok (.aload_n 1, 1) := by decide +kernel
theorem d_law_324 : decode code 324 = .ok (.aload_n 0, 1) := by decide +kernel
theorem d_law_325 : decode code 325 = .ok (.iload_n 3, 1) := by decide +kernel
theorem d_law_326 : decode code 326 = .ok (.iconst 1, 1) := by decide +kernel
theorem d_law_327 : decode code 327 = .ok (.iadd, 1) := by decide +kernel
theorem d_law_328 : decode code 328 = .ok (.iaload, 1) := by decide +kernel
theorem d_law_329 : decode code 329 = .ok (.ifCond .eq (7), 3) := by decide +kernel
theorem d_law_332 : decode code 332 = .ok (.iconst 1, 1) := by decide +kernel
theorem d_law_333 : decode code 333 = .ok (.goto (4), 3) := by decide +kernel
theorem d_law_336 : decode code 336 = .ok (.iconst 0, 1) := by decide +kernel
theorem d_law_337 : decode code 337 = .ok (.invokevirtual 46, 3) := by decide +kernel
theorem d_law_340 : decode code 340 = .ok (.aload_n 2, 1) := by decide +kernel
theorem d_law_341 : decode code 341 = .ok (.aload_n 0, 1) := by decide +kernel
theorem d_law_342 : decode code 342 = .ok (.iload_n 3, 1) := by decide +kernel
theorem d_law_343 : decode code 343 = .ok (.iconst 1, 1) := by decide +kernel
theorem d_law_344 : decode code 344 = .ok (.iadd, 1) := by decide +kernel
theorem d_law_345 : decode code 345 = .ok (.iaload, 1) := by decide +kernel
theorem d_law_346 : decode code 346 = .ok (.ifCond .eq (7), 3) := by decide +kernel
theorem d_law_349 : decode code 349 = .ok (.iconst 1, 1) := by decide +kernel
theorem d_law_350 : decode code 350 = .ok (.goto (4), 3) := by decide +kernel
theorem d_law_353 : decode code 353 = .ok (.iconst 0, 1) := by decide +kernel
theorem d_law_354 : decode code 354 = .ok (.invokevirtual 50, 3) := by decide +kernel
theorem d_law_357 : decode code 357 = .ok (.if_icmp .eq (97), 3) := by decide +kernel
theorem d_law_360 : decode code 360 = .ok (.iconst 0, 1) := by decide +kernel
theorem d_law_361 : decode code 361 = .ok (.ireturn, 1) := by decide +kernel
theorem d_law_362 : decode code 362 = .ok (.aload_n 1, 1) := by decide +kernel
theorem d_law_363 : decode code 363 = .ok (.aload_n 0, 1) := by decide +kernel
theorem d_law_364 : decode code 364 = .ok (.iload_n 3, 1) := by decide +kernel
theorem d_law_365 : decode code 365 = .ok (.iconst 1, 1) := by decide +kernel
theorem d_law_366 : decode code 366 = .ok (.iadd, 1) := by decide +kernel
theorem d_law_367 : decode code 367 = .ok (.iaload, 1) := by decide +kernel
theorem d_law_368 : decode code 368 = .ok (.invokevirtual 51, 3) := by decide +kernel
theorem d_law_371 : decode code 371 = .ok (.aload_n 2, 1) := by decide +kernel
theorem d_law_372 : decode code 372 = .ok (.aload_n 0, 1) := by decide +kernel
theorem d_law_373 : decode code 373 = .ok (.iload_n 3, 1) := by decide +kernel
theorem d_law_374 : decode code 374 = .ok (.iconst 1, 1) := by decide +kernel
theorem d_law_375 : decode code 375 = .ok (.iadd, 1) := by decide +kernel
theorem d_law_376 : decode code 376 = .ok (.iaload, 1) := by decide +kernel
theorem d_law_377 : decode code 377 = .ok (.invokevirtual 55, 3) := by decide +kernel
theorem d_law_380 : decode code 380 = .ok (.if_icmp .eq (74), 3) := by decide +kernel
theorem d_law_383 : decode code 383 = .ok (.iconst 0, 1) := by decide +kernel
theorem d_law_384 : decode code 384 = .ok (.ireturn, 1) := by decide +kernel
theorem d_law_385 : decode code 385 = .ok (.aload_n 1, 1) := by decide +kernel
theorem d_law_386 : decode code 386 = .ok (.invokevirtual 56, 3) := by decide +kernel
theorem d_law_389 : decode code 389 = .ok (.aload_n 2, 1) := by decide +kernel
theorem d_law_390 : decode code 390 = .ok (.invokevirtual 60, 3) := by decide +kernel
theorem d_law_393 : decode code 393 = .ok (.if_icmp .eq (61), 3) := by decide +kernel
theorem d_law_396 : decode code 396 = .ok (.iconst 0, 1) := by decide +kernel
theorem d_law_397 : decode code 397 = .ok (.ireturn, 1) := by decide +kernel
theorem d_law_398 : decode code 398 = .ok (.aload_n 1, 1) := by decide +kernel
theorem d_law_399 : decode code 399 = .ok (.invokevirtual 61, 3) := by decide +kernel
theorem d_law_402 : decode code 402 = .ok (.aload_n 2, 1) := by decide +kernel
theorem d_law_403 : decode code 403 = .ok (.invokevirtual 64, 3) := by decide +kernel
theorem d_law_406 : decode code 406 = .ok (.if_icmp .eq (48), 3) := by decide +kernel
theorem d_law_409 : decode code 409 = .ok (.iconst 0, 1) := by decide +kernel
theorem d_law_410 : decode code 410 = .ok (.ireturn, 1) := by decide +kernel
theorem d_law_411 : decode code 411 = .ok (.aload_n 1, 1) := by decide +kernel
theorem d_law_412 : decode code 412 = .ok (.aload_n 0, 1) := by decide +kernel
theorem d_law_413 : decode code 413 = .ok (.iload_n 3, 1) := by decide +kernel
theorem d_law_414 : decode code 414 = .ok (.iconst 1, 1) := by decide +kernel
theorem d_law_415 : decode code 415 = .ok (.iadd, 1) := by decide +kernel
theorem d_law_416 : decode code 416 = .ok (.iaload, 1) := by decide +kernel
theorem d_law_417 : decode code 417 = .ok (.aload_n 0, 1) := by decide +kernel
theorem d_law_418 : decode code 418 = .ok (.iload_n 3, 1) := by decide +kernel
theorem d_law_419 : decode code 419 = .ok (.iconst 2, 1) := by decide +kernel
theorem d_law_420 : decode code 420 = .ok (.iadd, 1) := by decide +kernel
theorem d_law_421 : decode code 421 = .ok (.iaload, 1) := by decide +kernel
theorem d_law_422 : decode code 422 = .ok (.aload_n 0, 1) := by decide +kernel
theorem d_law_423 : decode code 423 = .ok (.iload_n 3, 1) := by decide +kernel
theorem d_law_424 : decode code 424 = .ok (.iconst 3, 1) := by decide +kernel
theorem d_law_425 : decode code 425 = .ok (.iadd, 1) := by decide +kernel
theorem d_law_426 : decode code 426 = .ok (.iaload, 1) := by decide +kernel
theorem d_law_427 : decode code 427 = .ok (.invokevirtual 65, 3) := by decide +kernel
theorem d_law_430 : decode code 430 = .ok (.aload_n 2, 1) := by decide +kernel
theorem d_law_431 : decode code 431 = .ok (.aload_n 0, 1) := by decide +kernel
theorem d_law_432 : decode code 432 = .ok (.iload_n 3, 1) := by decide +kernel
theorem d_law_433 : decode code 433 = .ok (.iconst 1, 1) := by decide +kernel
theorem d_law_434 : decode code 434 = .ok (.iadd, 1) := by decide +kernel
theorem d_law_435 : decode code 435 = .ok (.iaload, 1) := by decide +kernel
theorem d_law_436 : decode code 436 = .ok (.aload_n 0, 1) := by decide +kernel
theorem d_law_437 : decode code 437 = .ok (.iload_n 3, 1) := by decide +kernel
theorem d_law_438 : decode code 438 = .ok (.iconst 2, 1) := by decide +kernel
theorem d_law_439 : decode code 439 = .ok (.iadd, 1) := by decide +kernel
theorem d_law_440 : decode code 440 = .ok (.iaload, 1) := by decide +kernel
theorem d_law_441 : decode code 441 = .ok (.aload_n 0, 1) := by decide +kernel
theorem d_law_442 : decode code 442 = .ok (.iload_n 3, 1) := by decide +kernel
theorem d_law_443 : decode code 443 = .ok (.iconst 3, 1) := by decide +kernel
theorem d_law_444 : decode code 444 = .ok (.iadd, 1) := by decide +kernel
theorem d_law_445 : decode code 445 = .ok (.iaload, 1) := by decide +kernel
theorem d_law_446 : decode code 446 = .ok (.invokevirtual 69, 3) := by decide +kernel
theorem d_law_449 : decode code 449 = .ok (.if_icmp .eq (5), 3) := by decide +kernel
theorem d_law_452 : decode code 452 = .ok (.iconst 0, 1) := by decide +kernel
theorem d_law_453 : decode code 453 = .ok (.ireturn, 1) := by decide +kernel
theorem d_law_454 : decode code 454 = .ok (.iinc 3 (4), 3) := by decide +kernel
theorem d_law_457 : decode code 457 = .ok (.goto (-439), 3) := by decide +kernel
theorem d_law_460 : decode code 460 = .ok (.iconst 1, 1) := by decide +kernel
theorem d_law_461 : decode code 461 = .ok (.ireturn, 1) := by decide +kernel
