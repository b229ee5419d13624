/-! memory: cell, place -> int; a layout: how many cells, their kinds, lengths, references; a world out of both -/
abbrev Mem : Type := Nat → Nat → Int32
def u2 (F : Mem) (i j : Nat) (v : Int32) : Mem := fun a b => if a = i ∧ b = j then v else F a b
theorem u2_ne {F : Mem} {i j k : Nat} {v : Int32} (h : k ≠ i) : u2 F i j v k = F k := by
  funext b
  simp [u2, h]
theorem u2_eq {F : Mem} {i j : Nat} {v : Int32} : u2 F i j v i = upd (F i) j v := by
  funext b
  simp [u2, upd]
abbrev La : Type := Nat × (Nat → Nat) × (Nat → Nat) × (Nat → Nat → Nat)
def mNc (L : La) : Nat := L.1
def mKd (L : La) : Nat → Nat := L.2.1
def mLn (L : La) : Nat → Nat := L.2.2.1
def mRf (L : La) : Nat → Nat → Nat := L.2.2.2
abbrev Xs : Type := va_G × (Nat → Nat) × ClassId × ClassId
def mAd (X : Xs) : Nat → Nat := X.2.1
def mCI (X : Xs) : ClassId := X.2.2.1
def mCZ (X : Xs) : ClassId := X.2.2.2
abbrev mTy (X : Xs) : List (ClassId × FieldType) := [(mCI X, .int), (mCZ X, .boolean)]
def fv (X : Xs) (L : La) (F : Mem) (i t s : Nat) : Value := if t < 2 then .int (F i s) else .ref (mAd X (mRf L i s))
def fl (X : Xs) (L : La) (F : Mem) (i : Nat) (ts : List Nat) : List Value := (List.range ts.length).map (fun s => fv X L F i (ts.getD s 0) s)
theorem fl_len {X : Xs} {L : La} {F : Mem} {i : Nat} {ts : List Nat} : (fl X L F i ts).length = ts.length := by simp [fl]
theorem fl_get {X : Xs} {L : La} {F : Mem} {i s : Nat} {ts : List Nat} (h : s < ts.length) : (fl X L F i ts)[s]? = some (fv X L F i (ts.getD s 0) s) := by
  rw [fl, List.getElem?_map, List.getElem?_range h]
  rfl
theorem fl_set {X : Xs} {L : La} {F : Mem} {i s : Nat} {ts : List Nat} {v : Int32} (ht : ts.getD s 0 < 2) : (fl X L F i ts).set s (.int v) = fl X L (u2 F i s v) i ts := by
  apply List.ext_getElem?
  intro k
  by_cases hk : k < ts.length
  · rw [fl_get hk]
    by_cases hs : k = s
    · subst hs
      rw [List.getElem?_set_self (by rw [fl_len]; exact hk)]
      rw [fv, if_pos ht]
      simp [u2]
    · rw [List.getElem?_set_ne (fun q => hs q.symm), fl_get hk]
      simp [fv, u2, hs]
  · rw [List.getElem?_eq_none (by rw [List.length_set, fl_len]; omega), List.getElem?_eq_none (by rw [fl_len]; omega)]
def ce (X : Xs) (L : La) (F : Mem) (i : Nat) : va_E := if mKd L i = 100 then .inl (mCI X, mLn L i, .inl (F i)) else if mKd L i = 101 then .inl (mCZ X, mLn L i, .inl (F i)) else .inr (mKd L i, fl X L F i (ft (mKd L i)))
theorem ce_kept {X : Xs} {L : La} {F G : Mem} {i : Nat} (h : F i = G i) : ce X L F i = ce X L G i := by
  simp only [ce, fl, fv, h]
theorem ce_i {X : Xs} {L : La} {F : Mem} {i : Nat} (h : mKd L i = 100) : ce X L F i = .inl (mCI X, mLn L i, .inl (F i)) := if_pos h
theorem ce_z {X : Xs} {L : La} {F : Mem} {i : Nat} (h : mKd L i = 101) : ce X L F i = .inl (mCZ X, mLn L i, .inl (F i)) := by
  unfold ce
  rw [if_neg (by rw [h]; decide), if_pos h]
theorem ce_o {X : Xs} {L : La} {F : Mem} {i c : Nat} (h : mKd L i = c) (hc : c < 100) : ce X L F i = .inr (c, fl X L F i (ft c)) := by
  unfold ce
  rw [if_neg (by omega), if_neg (by omega), h]
def wl (X : Xs) (L : La) (F : Mem) : va_W := (List.range (mNc L)).map (fun i => (mAd X i, ce X L F i))
theorem wl_len {X : Xs} {L : La} {F : Mem} : (wl X L F).length = mNc L := by simp [wl]
theorem wl_get {X : Xs} {L : La} {F : Mem} {i : Nat} (h : i < mNc L) : (wl X L F)[i]? = some (mAd X i, ce X L F i) := by
  rw [wl, List.getElem?_map, List.getElem?_range h]
  rfl
theorem wl_set {X : Xs} {L : La} {F G : Mem} {i : Nat} {e : va_E} (he : e = ce X L G i) (ho : ∀ k, k ≠ i → G k = F k) : (wl X L F).set i (mAd X i, e) = wl X L G := by
  apply List.ext_getElem?
  intro k
  by_cases hk : k < mNc L
  · rw [wl_get hk]
    by_cases hs : k = i
    · subst hs
      rw [List.getElem?_set_self (by rw [wl_len]; exact hk), he]
    · rw [List.getElem?_set_ne (fun q => hs q.symm), wl_get hk, ce_kept (ho k hs)]
  · rw [List.getElem?_eq_none (by rw [List.length_set, wl_len]; omega), List.getElem?_eq_none (by rw [wl_len]; omega)]
def AA (X : Xs) (L : La) : Nat → Prop := fun q => ∃ k, k < mNc L ∧ q = mAd X k
/-- what stands while a method runs: the world holds F, since s only the world's cells have changed -/
def Iv (X : Xs) (L : La) (s : State) (H : Heap) (locs : List Loc) (F : Mem) : Prop := va_P X.1 vwCl (wl X L F) H ∧ va_D (AA X L) (wl X L F) ∧ va_S (AA X L) s.heap H locs
/-- the static arrays: tables behind the cells -/
def Tb (X : Xs) (L : La) (U : State) : Prop := (∀ j, j < 6 → va_T .int (mAd X (mNc L + j)) (tln j) (fun x => .int (tbl j x)) (AA X L) U U.heap ∧ va_Z "PackFrames" (tnm j) "[I" (.ref (mAd X (mNc L + j))) (AA X L) U U.heap) ∧ ∀ q ∈ nestF, va_Nw (nw q) U
def mGa (L : La) (F : Mem) (k j : Nat) : Int32 := if k < mNc L then F k j else tbl (k - mNc L) j
def mGl (L : La) (k : Nat) : Nat := if k < mNc L then mLn L k else tln (k - mNc L)
def oO (L : La) (c i : Nat) : Prop := i < mNc L ∧ mKd L i = c
def oA (L : La) (i : Nat) : Prop := oO L 100 i ∨ ∃ j, j < 6 ∧ i = mNc L + j
theorem oA_t {L : La} {j : Nat} (h : j < 6) : oA L (mNc L + j) := Or.inr ⟨j, h, rfl⟩
/-- every reference of the layout leads to a cell of its kind -/
def WT (L : La) : Prop := ∀ i c, oO L c i → c < 100 → ∀ s, s < (ft c).length → ((ft c).getD s 0 = 102 → oA L (mRf L i s)) ∧ (∀ c', (ft c).getD s 0 = c' + 2 → c' ≠ 100 → oO L c' (mRf L i s))
theorem wt_a {L : La} (h : WT L) {i c : Nat} (o : oO L c i) (s : Nat) (hc : (ft c).getD s 0 = 102) (hl : s < (ft c).length) (hlt : c < 100) : oA L (mRf L i s) := (h i c o hlt s hl).1 hc
theorem wt_o {L : La} (h : WT L) {i c : Nat} (o : oO L c i) (s c' : Nat) (hc : (ft c).getD s 0 = c' + 2) (hl : s < (ft c).length) (hlt : c < 100) (hn : c' ≠ 100) : oO L c' (mRf L i s) := (h i c o hlt s hl).2 c' hc hn
abbrev inb (i : Int32) (n : Nat) : Prop := i < 0 ∨ n ≤ i.toNatClampNeg
def mFU : Nat := 4096
abbrev jshl (x y : Int32) : Int32 := x <<< (y &&& 31)
abbrev jshr (x y : Int32) : Int32 := x >>> (y &&& 31)
abbrev jushr (x y : Int32) : Int32 := (x.toUInt32 >>> (y.toUInt32 &&& Int32.toUInt32 31)).toInt32
abbrev jrem (x y : Int32) : Int32 := x - x / y * y
abbrev jlshl (x : Int64) (y : Int32) : Int64 := x <<< (y.toInt64 &&& 63)
abbrev jlshr (x : Int64) (y : Int32) : Int64 := x >>> (y.toInt64 &&& 63)
abbrev jlushr (x : Int64) (y : Int32) : Int64 := (x.toUInt64 >>> (y.toInt64.toUInt64 &&& Int64.toUInt64 63)).toInt64
def lt' {α β : Type} (a : α) (k : α → β) : β := k a
theorem un_lt {α β : Type} {a : α} {k : α → β} {o : β} (h : lt' a k = o) (b : α) (e : b = a) : k b = o := by rw [e]; exact h
theorem un_if {c : Prop} [Decidable c] {α : Type} {t : Option α} {o : α} (h : (if c then none else t) = some o) : ¬ c ∧ t = some o := by
  by_cases hc : c
  · rw [if_pos hc] at h
    cases h
  · rw [if_neg hc] at h
    exact ⟨hc, h⟩
theorem un_bi {α β : Type} {a : Option α} {k : α → Option β} {o : β} (h : a.bind k = some o) : ∃ q, a = some q ∧ k q = some o := by
  cases a with
  | none => cases h
  | some q => exact ⟨q, rfl, h⟩
theorem un_z {x : Int32} (h : ¬ ¬ (x = 0 ∨ x = 1)) : x = 0 ∨ x = 1 := Classical.not_not.mp h
/-- a method's start -/
def Pr (X : Xs) (L : La) (F : Mem) (U : State) : Prop := va_P X.1 vwCl (wl X L F) U.heap ∧ va_D (AA X L) (wl X L F) ∧ va_K X.1 vwCl (mTy X) U ∧ Tb X L U
abbrev Wo (X : Xs) (L : La) (F : Mem) (t : State) : Prop := va_P X.1 vwCl (wl X L F) t.heap ∧ va_K X.1 vwCl (mTy X) t ∧ va_D (AA X L) (wl X L F)
/-- a method's end: an int, or nothing -/
abbrev QI (X : Xs) (L : La) (out : Int32 × Mem) : Array Value → State → Outcome → State → Prop := va_Qi (fun (r : Int32) (G : Mem) => r = out.1 ∧ G = out.2) (Wo X L) (AA X L)
abbrev QV (X : Xs) (L : La) (out : Mem) : Array Value → State → Outcome → State → Prop := va_Qv (fun (G : Mem) => G = out) (Wo X L) (AA X L)
/-- what stands through a method's body -/
def Cx (X : Xs) (L : La) (p : Program) (s : State) (m : MethodId) (args : Array Value) (meth : Method) (c : Code) (cc : ByteArray) (nL : Nat) (Ts : List Cond) (own : String) (ret : Option FieldType) : Prop :=
  CallFix p m c cc nL s args Ts own ∧ va_K X.1 vwCl (mTy X) s ∧ Tb X L s ∧ WT L ∧ meth.sig.returnType = ret ∧ meth.locks = false
theorem Tb.moved {X : Xs} {L : La} {u U : State} (hvm : u.vm.Alike U.vm) (hh : ∀ a : Nat, a < u.heap.size → ¬ AA X L a → U.heap[a]? = u.heap[a]?) (hN : ∀ q ∈ nestF, va_Nw (nw q) u → va_Nw (nw q) U) (h : Tb X L u) : Tb X L U :=
  ⟨fun j hj => ⟨((h.1 j hj).1.kept hh).moved hvm, ((h.1 j hj).2.kept hh).moved hvm⟩, fun q hq => hN q hq (h.2 q hq)⟩
theorem Pr.calls {X : Xs} {L : La} {F : Mem} {av : List Value} : FrameBlind (va_Pc av (Pr X L F)) := by
  intro a U g mk q
  obtain ⟨q0, qP, qD, qK, qT⟩ := q
  exact ⟨q0, qP, qD, va_K.moved (u := U) (U := U.calling g mk a) (Vm.Alike.refl U.vm) qK, Tb.moved (u := U) (U := U.calling g mk a) (Vm.Alike.refl U.vm) (fun _ _ _ => rfl) (fun q _ h => va_Nw.same rfl rfl h) qT⟩
section WR
variable {p : Program} {l : Launch} {e : Env} {R : Room} {s : State} {m : MethodId} {args : Array Value} {below : List Frame} {meth : Method} {c : Code} {H : Heap} {locs : List Loc} {cells slots : Nat} {Q : State → Prop}
variable {cc : ByteArray} {pc nL : Nat} {ls : Array Slot} {rest st : List Value} {X : Xs} {L : La} {F : Mem} {c0 : Cond} {own : String} {ret : Option FieldType}
theorem w_getI (S : CallFix p m c cc nL s args (c0 :: wG) own) (hK : va_K X.1 vwCl (mTy X) s) (hI : Iv X L s H locs F) {i ci : Nat} (o : oO L ci i) {C : String} {T : u_T} {n index : Nat} (hc : vwCl[ci]? = some (C, T, n)) (hin : ∀ w ∈ u_ws C T n, w ∈ wG) (k : Nat)
    (hd : k < n ∧ k < (ft ci).length ∧ (ft ci).getD k 0 < 2 ∧ ci < 100) (hlink : Cond.fieldLink own index (T k).1 (T k).2.1 (T k).2.2.1 ∈ wG) (hdg : decode cc pc = .ok (.getfield index, 3))
    (kk : W p l e R s m args below meth c H locs cells slots Q (F0 m (pc + 3) ls (.int (F i k) :: rest))) : W p l e R s m args below meth c H locs cells slots Q (F0 m pc ls (.ref (mAd X i) :: rest)) := by
  refine va_get S.1 S.2.1 S.2.2.2.2 (fun w h => List.mem_cons_of_mem _ (hin w h)) S.2.2.2.1 hK hI.1 i ((wl_get o.1).trans (by rw [ce_o o.2 hd.2.2.2])) hc k hd.1 (S.2.2.2.2 _ (List.mem_cons_of_mem _ hlink)) (fun _ h => h) (v := .int (F i k)) ?_ hdg kk
  rw [fl_get hd.2.1, fv, if_pos hd.2.2.1]
theorem w_getR (S : CallFix p m c cc nL s args (c0 :: wG) own) (hK : va_K X.1 vwCl (mTy X) s) (hI : Iv X L s H locs F) {i ci : Nat} (o : oO L ci i) {C : String} {T : u_T} {n index : Nat} (hc : vwCl[ci]? = some (C, T, n)) (hin : ∀ w ∈ u_ws C T n, w ∈ wG) (k : Nat)
    (hd : k < n ∧ k < (ft ci).length ∧ ¬ (ft ci).getD k 0 < 2 ∧ ci < 100) (hlink : Cond.fieldLink own index (T k).1 (T k).2.1 (T k).2.2.1 ∈ wG) (hdg : decode cc pc = .ok (.getfield index, 3))
    (kk : W p l e R s m args below meth c H locs cells slots Q (F0 m (pc + 3) ls (.ref (mAd X (mRf L i k)) :: rest))) : W p l e R s m args below meth c H locs cells slots Q (F0 m pc ls (.ref (mAd X i) :: rest)) := by
  refine va_get S.1 S.2.1 S.2.2.2.2 (fun w h => List.mem_cons_of_mem _ (hin w h)) S.2.2.2.1 hK hI.1 i ((wl_get o.1).trans (by rw [ce_o o.2 hd.2.2.2])) hc k hd.1 (S.2.2.2.2 _ (List.mem_cons_of_mem _ hlink)) (fun _ h => h) (v := .ref (mAd X (mRf L i k))) ?_ hdg kk
  rw [fl_get hd.2.1, fv, if_neg hd.2.2.1]
theorem w_put (S : CallFix p m c cc nL s args (c0 :: wG) own) (hK : va_K X.1 vwCl (mTy X) s) (hI : Iv X L s H locs F) {i ci : Nat} (o : oO L ci i) {C : String} {T : u_T} {n index : Nat} (hc : vwCl[ci]? = some (C, T, n)) (hin : ∀ w ∈ u_ws C T n, w ∈ wG) (ty0 : Nat → FieldType) (hty : ∀ k, k < n → parseFieldDescriptor (T k).2.2.1 = some (ty0 k)) (hnm : ∀ a, a < n → ∀ b, b < n → a ≠ b → (T a).2.1 ≠ (T b).2.1) (k : Nat)
    (hd : k < n ∧ k < (ft ci).length ∧ (ft ci).getD k 0 < 2 ∧ ci < 100 ∧ (T k).2.2.2 = false) (hlink : Cond.fieldLink own index (T k).1 (T k).2.1 (T k).2.2.1 ∈ wG) {ty : FieldType} {v : Int32} (hp : parseFieldDescriptor (T k).2.2.1 = some ty) (hn : narrow ty (.int v) = .int v) (hfit : fits ty (.int v) = true) (hdg : decode cc pc = .ok (.putfield index, 3))
    (kk : ∀ (H1 : Heap) (locs1 : List Loc) (G : Mem), G = u2 F i k v → Iv X L s H1 locs1 G → W p l e R s m args below meth c H1 locs1 cells slots Q (F0 m (pc + 3) ls rest)) : W p l e R s m args below meth c H locs cells slots Q (F0 m pc ls (.int v :: .ref (mAd X i) :: rest)) := by
  refine va_put S.1 S.2.1 S.2.2.2.2 (fun w h => List.mem_cons_of_mem _ (hin w h)) ty0 hty hnm S.2.2.2.1 hK hI.1 hI.2.1 hI.2.2 i ((wl_get o.1).trans (by rw [ce_o o.2 hd.2.2.2.1])) hc k hd.1 (S.2.2.2.2 _ (List.mem_cons_of_mem _ hlink)) (fun _ h => h) hd.2.2.2.2 hp hn hfit (by rw [fl_len]; exact hd.2.1) hdg ?_
  intro H1 locs1 hP hD hS
  have e1 : (wl X L F).set i (mAd X i, .inr (ci, (fl X L F i (ft ci)).set k (.int v))) = wl X L (u2 F i k v) := wl_set (by rw [ce_o o.2 hd.2.2.2.1, fl_set hd.2.2.1]) (fun q hq => u2_ne hq)
  rw [e1] at hP hD
  exact kk H1 locs1 _ rfl ⟨hP, hD, hS⟩
theorem w_putI (S : CallFix p m c cc nL s args (c0 :: wG) own) (hK : va_K X.1 vwCl (mTy X) s) (hI : Iv X L s H locs F) {i ci : Nat} (o : oO L ci i) {C : String} {T : u_T} {n index : Nat} (hc : vwCl[ci]? = some (C, T, n)) (hin : ∀ w ∈ u_ws C T n, w ∈ wG) (ty0 : Nat → FieldType) (hty : ∀ k, k < n → parseFieldDescriptor (T k).2.2.1 = some (ty0 k)) (hnm : ∀ a, a < n → ∀ b, b < n → a ≠ b → (T a).2.1 ≠ (T b).2.1) (k : Nat)
    (hd : k < n ∧ k < (ft ci).length ∧ (ft ci).getD k 0 < 2 ∧ ci < 100 ∧ (T k).2.2.2 = false) (hlink : Cond.fieldLink own index (T k).1 (T k).2.1 (T k).2.2.1 ∈ wG) {v : Int32} (hp : parseFieldDescriptor (T k).2.2.1 = some .int) (hdg : decode cc pc = .ok (.putfield index, 3))
    (kk : ∀ (H1 : Heap) (locs1 : List Loc) (G : Mem), G = u2 F i k v → Iv X L s H1 locs1 G → W p l e R s m args below meth c H1 locs1 cells slots Q (F0 m (pc + 3) ls rest)) : W p l e R s m args below meth c H locs cells slots Q (F0 m pc ls (.int v :: .ref (mAd X i) :: rest)) :=
  w_put S hK hI o hc hin ty0 hty hnm k hd hlink hp rfl rfl hdg kk
theorem w_putZ (S : CallFix p m c cc nL s args (c0 :: wG) own) (hK : va_K X.1 vwCl (mTy X) s) (hI : Iv X L s H locs F) {i ci : Nat} (o : oO L ci i) {C : String} {T : u_T} {n index : Nat} (hc : vwCl[ci]? = some (C, T, n)) (hin : ∀ w ∈ u_ws C T n, w ∈ wG) (ty0 : Nat → FieldType) (hty : ∀ k, k < n → parseFieldDescriptor (T k).2.2.1 = some (ty0 k)) (hnm : ∀ a, a < n → ∀ b, b < n → a ≠ b → (T a).2.1 ≠ (T b).2.1) (k : Nat)
    (hd : k < n ∧ k < (ft ci).length ∧ (ft ci).getD k 0 < 2 ∧ ci < 100 ∧ (T k).2.2.2 = false) (hlink : Cond.fieldLink own index (T k).1 (T k).2.1 (T k).2.2.1 ∈ wG) {v : Int32} (hp : parseFieldDescriptor (T k).2.2.1 = some .boolean) (hz : ¬ ¬ (v = 0 ∨ v = 1)) (hdg : decode cc pc = .ok (.putfield index, 3))
    (kk : ∀ (H1 : Heap) (locs1 : List Loc) (G : Mem), G = u2 F i k v → Iv X L s H1 locs1 G → W p l e R s m args below meth c H1 locs1 cells slots Q (F0 m (pc + 3) ls rest)) : W p l e R s m args below meth c H locs cells slots Q (F0 m pc ls (.int v :: .ref (mAd X i) :: rest)) :=
  w_put S hK hI o hc hin ty0 hty hnm k hd hlink hp (by rcases un_z hz with rfl | rfl <;> rfl) (by rcases un_z hz with rfl | rfl <;> rfl) hdg kk
theorem w_iald (S : CallFix p m c cc nL s args (c0 :: wG) own) (hK : va_K X.1 vwCl (mTy X) s) (hI : Iv X L s H locs F) (hT : Tb X L s) {a : Nat} (o : oA L a) {i : Int32} (hz : ¬ inb i (mGl L a)) (hdg : decode cc pc = .ok (.iaload, 1))
    (kk : W p l e R s m args below meth c H locs cells slots Q (F0 m (pc + 1) ls (.int (mGa L F a i.toNatClampNeg) :: rest))) : W p l e R s m args below meth c H locs cells slots Q (F0 m pc ls (.int i :: .ref (mAd X a) :: rest)) := by
  rcases o with o | ⟨j, hj, rfl⟩
  · rw [mGl, if_pos o.1] at hz
    rw [mGa, if_pos o.1] at kk
    exact va_iald S.1 S.2.1 hK hI.1 a 0 ((wl_get o.1).trans (by rw [ce_i o.2])) rfl hz hdg kk
  · rw [mGl, if_neg (by omega), Nat.add_sub_cancel_left] at hz
    rw [mGa, if_neg (by omega), Nat.add_sub_cancel_left] at kk
    exact va_ti S.1 S.2.1 (hT.1 j hj).1 hI.2.2 hz rfl hdg kk
theorem w_alen (S : CallFix p m c cc nL s args (c0 :: wG) own) (hK : va_K X.1 vwCl (mTy X) s) (hI : Iv X L s H locs F) (hT : Tb X L s) {a : Nat} (o : oA L a) (hdg : decode cc pc = .ok (.arraylength, 1))
    (kk : W p l e R s m args below meth c H locs cells slots Q (F0 m (pc + 1) ls (.int (nI (mGl L a)) :: rest))) : W p l e R s m args below meth c H locs cells slots Q (F0 m pc ls (.ref (mAd X a) :: rest)) := by
  rcases o with o | ⟨j, hj, rfl⟩
  · rw [mGl, if_pos o.1] at kk
    exact va_alen (x := (mLn L a, .inl (F a))) (v := nI (mLn L a)) S.1 S.2.1 hK hI.1 a 0 ((wl_get o.1).trans (by rw [ce_i o.2])) rfl rfl hdg kk
  · rw [mGl, if_neg (by omega), Nat.add_sub_cancel_left] at kk
    exact va_tlen S.1 S.2.1 (hT.1 j hj).1 hI.2.2 rfl hdg kk
theorem w_zald (S : CallFix p m c cc nL s args (c0 :: wG) own) (hK : va_K X.1 vwCl (mTy X) s) (hI : Iv X L s H locs F) {a : Nat} (o : oO L 101 a) {i : Int32} (hz : ¬ inb i (mLn L a)) (hdg : decode cc pc = .ok (.baload, 1))
    (kk : W p l e R s m args below meth c H locs cells slots Q (F0 m (pc + 1) ls (.int (F a i.toNatClampNeg) :: rest))) : W p l e R s m args below meth c H locs cells slots Q (F0 m pc ls (.int i :: .ref (mAd X a) :: rest)) :=
  va_zald S.1 S.2.1 hK hI.1 a 1 ((wl_get o.1).trans (by rw [ce_z o.2])) rfl hz hdg kk
theorem w_iast (S : CallFix p m c cc nL s args (c0 :: wG) own) (hK : va_K X.1 vwCl (mTy X) s) (hI : Iv X L s H locs F) {a : Nat} (o : oA L a) {i v : Int32} (hz : ¬ (inb i (mLn L a) ∨ ¬ a < mNc L)) (hdg : decode cc pc = .ok (.iastore, 1))
    (kk : ∀ (H1 : Heap) (locs1 : List Loc) (G : Mem), G = u2 F a i.toNatClampNeg v → Iv X L s H1 locs1 G → W p l e R s m args below meth c H1 locs1 cells slots Q (F0 m (pc + 1) ls rest)) : W p l e R s m args below meth c H locs cells slots Q (F0 m pc ls (.int v :: .int i :: .ref (mAd X a) :: rest)) := by
  have hn : a < mNc L := Classical.not_not.mp fun q => hz (Or.inr q)
  have o : oO L 100 a := by
    rcases o with o | ⟨j, hj, rfl⟩
    · exact o
    · omega
  refine va_iast S.1 S.2.1 hK hI.1 hI.2.1 hI.2.2 a 0 ((wl_get o.1).trans (by rw [ce_i o.2])) rfl (fun q => hz (Or.inl q)) hdg ?_
  intro H1 locs1 hP hD hS
  have e1 : (wl X L F).set a (mAd X a, .inl (mCI X, mLn L a, .inl (upd (F a) i.toNatClampNeg v))) = wl X L (u2 F a i.toNatClampNeg v) := wl_set (by rw [ce_i o.2, u2_eq]) (fun q hq => u2_ne hq)
  rw [e1] at hP hD
  exact kk H1 locs1 _ rfl ⟨hP, hD, hS⟩
theorem w_zast (S : CallFix p m c cc nL s args (c0 :: wG) own) (hK : va_K X.1 vwCl (mTy X) s) (hI : Iv X L s H locs F) {a : Nat} (o : oO L 101 a) {i v : Int32} (hz : ¬ (inb i (mLn L a) ∨ ¬ (v = 0 ∨ v = 1))) (hdg : decode cc pc = .ok (.bastore, 1))
    (kk : ∀ (H1 : Heap) (locs1 : List Loc) (G : Mem), G = u2 F a i.toNatClampNeg v → Iv X L s H1 locs1 G → W p l e R s m args below meth c H1 locs1 cells slots Q (F0 m (pc + 1) ls rest)) : W p l e R s m args below meth c H locs cells slots Q (F0 m pc ls (.int v :: .int i :: .ref (mAd X a) :: rest)) := by
  have hv : vp_nar .boolean v = v := by rcases un_z (fun q => hz (Or.inr q)) with rfl | rfl <;> rfl
  refine va_zast S.1 S.2.1 hK hI.1 hI.2.1 hI.2.2 a 1 ((wl_get o.1).trans (by rw [ce_z o.2])) rfl (fun q => hz (Or.inl q)) hdg ?_
  intro H1 locs1 hP hD hS
  rw [hv] at hP hD
  have e1 : (wl X L F).set a (mAd X a, .inl (mCZ X, mLn L a, .inl (upd (F a) i.toNatClampNeg v))) = wl X L (u2 F a i.toNatClampNeg v) := wl_set (by rw [ce_z o.2, u2_eq]) (fun q hq => u2_ne hq)
  rw [e1] at hP hD
  exact kk H1 locs1 _ rfl ⟨hP, hD, hS⟩
theorem w_iret (S : CallFix p m c cc nL s args (c0 :: wG) own) (hK : va_K X.1 vwCl (mTy X) s) (hr : meth.sig.returnType = some .int) (hlk : meth.locks = false) (hI : Iv X L s H locs F) {v : Int32} {out : Int32 × Mem} (hdg : decode cc pc = .ok (.ireturn, 1)) (h : some (v, F) = some out) :
    W p l e R s m args below meth c H locs cells slots (MQ below (QI X L out) args s cells slots (AA X L)) (F0 m pc ls [.int v]) := by
  obtain rfl := Option.some.inj h
  exact W.iret S.1 S.2.1 hr (fun t ht hW => ⟨⟨v, F, rfl, ⟨rfl, rfl⟩, by rw [ht]; exact hI.1, va_K.moved hW.alike hK, hI.2.1⟩, hI.2.2.F ht⟩) hI.2.2.2.2 hdg hlk
theorem w_zret (S : CallFix p m c cc nL s args (c0 :: wG) own) (hK : va_K X.1 vwCl (mTy X) s) (hr : meth.sig.returnType = some .boolean) (hlk : meth.locks = false) (hI : Iv X L s H locs F) {v : Int32} {out : Int32 × Mem} (hdg : decode cc pc = .ok (.ireturn, 1)) (h : (if v = 0 ∨ v = 1 then some (v, F) else none) = some out) :
    W p l e R s m args below meth c H locs cells slots (MQ below (QI X L out) args s cells slots (AA X L)) (F0 m pc ls [.int v]) := by
  by_cases hv : v = 0 ∨ v = 1
  · rw [if_pos hv] at h
    obtain rfl := Option.some.inj h
    exact W.zret S.1 S.2.1 hr (by rcases hv with rfl | rfl <;> rfl) (fun t ht hW => ⟨⟨v, F, rfl, ⟨rfl, rfl⟩, by rw [ht]; exact hI.1, va_K.moved hW.alike hK, hI.2.1⟩, hI.2.2.F ht⟩) hI.2.2.2.2 hdg hlk
  · rw [if_neg hv] at h
    cases h
theorem w_vret (S : CallFix p m c cc nL s args (c0 :: wG) own) (hK : va_K X.1 vwCl (mTy X) s) (hr : meth.sig.returnType = none) (hlk : meth.locks = false) (hI : Iv X L s H locs F) {out : Mem} (hdg : decode cc pc = .ok (.return_, 1)) (h : some F = some out) :
    W p l e R s m args below meth c H locs cells slots (MQ below (QV X L out) args s cells slots (AA X L)) (F0 m pc ls []) := by
  obtain rfl := Option.some.inj h
  exact W.vret S.1 S.2.1 hr (fun t ht hW => ⟨⟨F, rfl, rfl, by rw [ht]; exact hI.1, va_K.moved hW.alike hK, hI.2.1⟩, hI.2.2.F ht⟩) hI.2.2.2.2 hdg hlk
theorem w_pre {U : State} (hK : va_K X.1 vwCl (mTy X) s) (hI : Iv X L s H locs F) (hT : Tb X L s) (hU : U.heap = H) (hW : s.WarmedH U.vm) : Pr X L F U :=
  ⟨by rw [hU]; exact hI.1, hI.2.1, va_K.moved hW.alike hK, Tb.moved hW.alike (fun a ha hn => by rw [hU]; exact hI.2.2.2.1 a ha hn) (fun q _ h => va_Nw.warmF hW h) hT⟩
theorem w_callVi {y : MethodName} {bytes : ByteArray} {maxL n index : Nat} {ws : List Cond} {rm : Room} {As : List Value} {i ci : Nat} {q : vw_C} {out : Int32 × Mem} (S : CallFix p m c cc nL s args (c0 :: wG) own) (hK : va_K X.1 vwCl (mTy X) s) (hI : Iv X L s H locs F) (hT : Tb X L s)
    (hM : Met l y ws rm (va_Pc (.ref (mAd X i) :: As) (Pr X L F)) (QI X L out) 0 0 (AA X L)) (cw : CallW R s args own q.1 index y bytes maxL ret ws rm 0 0 n) (o : oO L ci i) (hq : vwCl[ci]? = some q) (hlt : ci < 100) (hn : As.length = n) (hst : st = As.reverse ++ .ref (mAd X i) :: rest) (hsize : ls.size = nL)
    (hrest : (rest.map fun v => v.category).sum ≤ 8) (hdg : decode cc pc = .ok (.invokevirtual index, 3)) (hf : cells ≤ R.cells ∧ slots ≤ R.slots) (kk : ∀ (H1 : Heap) (locs1 : List Loc), Iv X L s H1 locs1 out.2 → W p l e R s m args below meth c H1 locs1 cells slots Q (F0 m (pc + 3) ls (.int out.1 :: rest))) :
    W p l e R s m args below meth c H locs cells slots Q (F0 m pc ls st) := by
  refine va_calli (va_runV S hM cw ⟨Pr.calls, va_recv hK hI.1 hq ((wl_get o.1).trans (by rw [ce_o o.2 hlt])), fun U hU hW => ⟨rfl, w_pre hK hI hT hU hW⟩⟩ rfl hn hsize hst (lv_room hrest) hdg hf) hI.2.2 (fun _ _ h => h) (fun _ h => h) ?_
  intro r u t H1 locs1 ht hvm hp hB hz1 hk1 hS
  obtain ⟨rfl, rfl⟩ := hp
  obtain ⟨hP1, hK1, hD1⟩ := hB
  rw [ht] at hP1
  exact kk H1 locs1 ⟨hP1, hD1, hS⟩
theorem w_callVv {y : MethodName} {bytes : ByteArray} {maxL n index : Nat} {ws : List Cond} {rm : Room} {As : List Value} {i ci : Nat} {q : vw_C} {out : Mem} (S : CallFix p m c cc nL s args (c0 :: wG) own) (hK : va_K X.1 vwCl (mTy X) s) (hI : Iv X L s H locs F) (hT : Tb X L s)
    (hM : Met l y ws rm (va_Pc (.ref (mAd X i) :: As) (Pr X L F)) (QV X L out) 0 0 (AA X L)) (cw : CallW R s args own q.1 index y bytes maxL ret ws rm 0 0 n) (o : oO L ci i) (hq : vwCl[ci]? = some q) (hlt : ci < 100) (hn : As.length = n) (hst : st = As.reverse ++ .ref (mAd X i) :: rest) (hsize : ls.size = nL)
    (hrest : (rest.map fun v => v.category).sum ≤ 8) (hdg : decode cc pc = .ok (.invokevirtual index, 3)) (hf : cells ≤ R.cells ∧ slots ≤ R.slots) (kk : ∀ (H1 : Heap) (locs1 : List Loc), Iv X L s H1 locs1 out → W p l e R s m args below meth c H1 locs1 cells slots Q (F0 m (pc + 3) ls rest)) :
    W p l e R s m args below meth c H locs cells slots Q (F0 m pc ls st) := by
  refine va_callv (va_runV S hM cw ⟨Pr.calls, va_recv hK hI.1 hq ((wl_get o.1).trans (by rw [ce_o o.2 hlt])), fun U hU hW => ⟨rfl, w_pre hK hI hT hU hW⟩⟩ rfl hn hsize hst (lv_room hrest) hdg hf) hI.2.2 (fun _ _ h => h) (fun _ h => h) ?_
  intro u t H1 locs1 ht hvm hp hB hz1 hk1 hS
  obtain rfl := hp
  obtain ⟨hP1, hK1, hD1⟩ := hB
  rw [ht] at hP1
  exact kk H1 locs1 ⟨hP1, hD1, hS⟩
theorem w_callSi {y : MethodName} {bytes : ByteArray} {maxL n index : Nat} {ws : List Cond} {rm : Room} {As : List Value} {out : Int32 × Mem} (S : CallFix p m c cc nL s args (c0 :: wG) own) (hK : va_K X.1 vwCl (mTy X) s) (hI : Iv X L s H locs F) (hT : Tb X L s)
    (hM : Met l y ws rm (va_Pc As (Pr X L F)) (QI X L out) 0 0 (AA X L)) (cw : CallB R s args own index y bytes maxL ret ws rm 0 0 n ∧ (Cond.static y).before args s = true) (hn : As.length = n) (hst : st = As.reverse ++ rest) (hsize : ls.size = nL)
    (hrest : (rest.map fun v => v.category).sum ≤ 8) (hdg : decode cc pc = .ok (.invokestatic index, 3)) (hf : cells ≤ R.cells ∧ slots ≤ R.slots) (kk : ∀ (H1 : Heap) (locs1 : List Loc), Iv X L s H1 locs1 out.2 → W p l e R s m args below meth c H1 locs1 cells slots Q (F0 m (pc + 3) ls (.int out.1 :: rest))) :
    W p l e R s m args below meth c H locs cells slots Q (F0 m pc ls st) := by
  refine va_calli (va_runS S hM cw ⟨Pr.calls, fun U hU hW => ⟨rfl, w_pre hK hI hT hU hW⟩⟩ rfl hn hsize hst (lv_room hrest) hdg hf) hI.2.2 (fun _ _ h => h) (fun _ h => h) ?_
  intro r u t H1 locs1 ht hvm hp hB hz1 hk1 hS
  obtain ⟨rfl, rfl⟩ := hp
  obtain ⟨hP1, hK1, hD1⟩ := hB
  rw [ht] at hP1
  exact kk H1 locs1 ⟨hP1, hD1, hS⟩
theorem w_callSv {y : MethodName} {bytes : ByteArray} {maxL n index : Nat} {ws : List Cond} {rm : Room} {As : List Value} {out : Mem} (S : CallFix p m c cc nL s args (c0 :: wG) own) (hK : va_K X.1 vwCl (mTy X) s) (hI : Iv X L s H locs F) (hT : Tb X L s)
    (hM : Met l y ws rm (va_Pc As (Pr X L F)) (QV X L out) 0 0 (AA X L)) (cw : CallB R s args own index y bytes maxL ret ws rm 0 0 n ∧ (Cond.static y).before args s = true) (hn : As.length = n) (hst : st = As.reverse ++ rest) (hsize : ls.size = nL)
    (hrest : (rest.map fun v => v.category).sum ≤ 8) (hdg : decode cc pc = .ok (.invokestatic index, 3)) (hf : cells ≤ R.cells ∧ slots ≤ R.slots) (kk : ∀ (H1 : Heap) (locs1 : List Loc), Iv X L s H1 locs1 out → W p l e R s m args below meth c H1 locs1 cells slots Q (F0 m (pc + 3) ls rest)) :
    W p l e R s m args below meth c H locs cells slots Q (F0 m pc ls st) := by
  refine va_callv (va_runS S hM cw ⟨Pr.calls, fun U hU hW => ⟨rfl, w_pre hK hI hT hU hW⟩⟩ rfl hn hsize hst (lv_room hrest) hdg hf) hI.2.2 (fun _ _ h => h) (fun _ h => h) ?_
  intro u t H1 locs1 ht hvm hp hB hz1 hk1 hS
  obtain rfl := hp
  obtain ⟨hP1, hK1, hD1⟩ := hB
  rw [ht] at hP1
  exact kk H1 locs1 ⟨hP1, hD1, hS⟩
theorem w_gets (S : CallFix p m c cc nL s args (c0 :: wG) own) (hI : Iv X L s H locs F) (hT : Tb X L s) {j index : Nat} (hj : j < 6) (hlink : (Cond.fieldLink own index "PackFrames" (tnm j) "[I").before args s = true) (hdg : decode cc pc = .ok (.getstatic index, 3))
    (kk : W p l e R s m args below meth c H locs cells slots Q (F0 m (pc + 3) ls (.ref (mAd X (mNc L + j)) :: rest))) : W p l e R s m args below meth c H locs cells slots Q (F0 m pc ls rest) :=
  va_gets S.1 S.2.1 (hT.1 j hj).2 hI.2.2 S.2.2.2.1 hlink (fun _ h => h) hdg kk
theorem w_getsN (S : CallFix p m c cc nL s args (c0 :: wG) own) (hI : Iv X L s H locs F) (hT : Tb X L s) {j index : Nat} {host : String} (hj : j < 6) (hlink : (Cond.fieldLinkNest own index "PackFrames" (tnm j) "[I" host).before args s = true) (hdg : decode cc pc = .ok (.getstatic index, 3))
    (kk : W p l e R s m args below meth c H locs cells slots Q (F0 m (pc + 3) ls (.ref (mAd X (mNc L + j)) :: rest))) : W p l e R s m args below meth c H locs cells slots Q (F0 m pc ls rest) :=
  va_getsN S.1 S.2.1 (hT.1 j hj).2 hI.2.2 S.2.2.2.1 hlink (fun _ h => h) hdg kk
end WR
/-- a contract out of the walk of a body -/
theorem mk_met {l : Launch} {y : MethodName} {cc : ByteArray} {maxL : Nat} {ret : Option FieldType} {w ws' : List Cond} {rm : Room} {X : Xs} {L : La} {F : Mem} {av : List Value} {Qc : Array Value → State → Outcome → State → Prop} (hy : plainName y.cls = true) (hw : w = Cond.code y cc maxL ret :: ws') (hsl : (lg_sl av).length ≤ maxL) (hL : WT L)
    (body : ∀ (p : Program) (e : Env) (s : State) (m : MethodId) (args : Array Value) (below : List Frame) (meth : Method) (c : Code) (ls : Array Slot), Cx X L p s m args meth c cc maxL w y.cls ret → Iv X L s s.heap [] F → lv_has ls maxL (lv_args 0 av) →
      W p l e (headSpec w rm).room s m args below meth c s.heap [] 0 0 (MQ below Qc args s 0 0 (AA X L)) (F0 m 0 ls [])) : Met l y w rm (va_Pc av (Pr X L F)) Qc 0 0 (AA X L) := by
  refine Met.ofW (cc := cc) (maxL := maxL) (ret := ret) hy hw ?_
  intro p e s m args below meth c s₁ B hml hv
  obtain ⟨rfl, hP, hD, hK, hT⟩ := hv
  have hts := atoms_spec (ws := w) B.pre
  have hl := lv_entry av (n := maxL) hsl
  rw [lg_entry_eq]
  exact body p e s m _ below meth c _ ⟨⟨B.exec, B.bytes, hml, findClass_of_methodNamed B.named, hts⟩, hK, hT, hL, B.returns, B.notSynchronized⟩ ⟨hP, hD, va_S.rf⟩ hl

