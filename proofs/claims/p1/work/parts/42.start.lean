theorem gd_bL {c1 : Cond} (h : c1 ∈ wG) : GoodIn lw_tbl (c1 :: wG) := by
  intro w hw
  have h1 : w ∈ wG := (List.mem_cons.mp hw).elim (fun e => e ▸ h) id
  exact ⟨(List.mem_filter.mp h1).1, wG_good w h1⟩
theorem wGm {w : Cond} (h : w ∈ wG) : w ∈ lw_tbl := (List.mem_filter.mp h).1
theorem vP_l {D : va_G} {cl : List vw_C} {w1 w2 : va_W} {H : Heap} (h : va_P D cl (w1 ++ w2) H) : va_P D cl w1 H := fun k q hk => h k q (by rw [List.getElem?_append_left (List.getElem?_eq_some_iff.mp hk).1]; exact hk)
theorem vP_r {D : va_G} {cl : List vw_C} {w1 w2 : va_W} {H : Heap} (h : va_P D cl (w1 ++ w2) H) : va_P D cl w2 H := fun k q hk => h (w1.length + k) q (by rw [List.getElem?_append_right (by omega), Nat.add_sub_cancel_left]; exact hk)
theorem vD_l {A : Nat → Prop} {w1 w2 : va_W} (h : va_D A (w1 ++ w2)) : va_D A w1 := by
  have e : ∀ (k : Nat) (q : Nat × va_E), w1[k]? = some q → (w1 ++ w2)[k]? = some q := fun k q hk => by rw [List.getElem?_append_left (List.getElem?_eq_some_iff.mp hk).1]; exact hk
  exact ⟨fun i j p q hp hq hpq => h.1 i j p q (e i p hp) (e j q hq) hpq, fun k q hk => h.2 k q (e k q hk)⟩
theorem vD_r {A : Nat → Prop} {w1 w2 : va_W} (h : va_D A (w1 ++ w2)) : va_D A w2 := by
  have e : ∀ (k : Nat) (q : Nat × va_E), w2[k]? = some q → (w1 ++ w2)[w1.length + k]? = some q := fun k q hk => by rw [List.getElem?_append_right (by omega), Nat.add_sub_cancel_left]; exact hk
  exact ⟨fun i j p q hp hq hpq => by have := h.1 _ _ p q (e i p hp) (e j q hq) hpq; omega, fun k q hk => h.2 _ q (e k q hk)⟩
theorem vD_x {A : Nat → Prop} {w1 w2 : va_W} (h : va_D A (w1 ++ w2)) {i j : Nat} {p q : Nat × va_E} (hp : w1[i]? = some p) (hq : w2[j]? = some q) : p.1 ≠ q.1 := by
  intro hpq
  have hi := (List.getElem?_eq_some_iff.mp hp).1
  have := h.1 i (w1.length + j) p q (by rw [List.getElem?_append_left hi]; exact hp) (by rw [List.getElem?_append_right (by omega), Nat.add_sub_cancel_left]; exact hq) hpq
  omega
theorem a1_of {w : Nat × va_E} {sz q : Nat} (h : va_A [w] sz q) : q = w.1 ∨ sz ≤ q := by
  rcases h with ⟨k, e, h⟩ | h
  · have hz : k < 1 := (List.getElem?_eq_some_iff.mp h).1
    rw [show k = 0 by omega] at h
    cases h
    exact Or.inl rfl
  · exact Or.inr h
/-! what the start gives: the classes, the arrays, the tables -/
theorem st_K {args : Array Value} {s : State} (hts : ∀ w ∈ lw_tbl, w.before args s = true) : ∃ (D : va_G) (cA cB : ClassId), va_K D vwCl (kTy cA cB) s := by
  have h : ∀ c : Nat, ∃ p : ClassId × (Nat → Nat), ∀ q, vwCl[c]? = some q → u_Kn s q.1 q.2.1 q.2.2 p.1 p.2 := by
    intro c
    match c with
    | 0 =>
      obtain ⟨cC, iS, h⟩ := u_known (T := T_PF) hts (fun w h => wGm (hin_PF w h)) (hts _ (wGm lz_PF))
      exact ⟨(cC, iS), fun q hq => by cases hq; exact h⟩
    | 1 =>
      obtain ⟨cC, iS, h⟩ := u_known (T := T_Row) hts (fun w h => wGm (hin_Row w h)) (hts _ (wGm lz_Row))
      exact ⟨(cC, iS), fun q hq => by cases hq; exact h⟩
    | 2 =>
      obtain ⟨cC, iS, h⟩ := u_known (T := T_ST) hts (fun w h => wGm (hin_ST w h)) (hts _ (wGm lz_ST))
      exact ⟨(cC, iS), fun q hq => by cases hq; exact h⟩
    | 3 =>
      obtain ⟨cC, iS, h⟩ := u_known (T := T_Tr) hts (fun w h => wGm (hin_Tr w h)) (hts _ (wGm lz_Tr))
      exact ⟨(cC, iS), fun q hq => by cases hq; exact h⟩
    | 4 =>
      obtain ⟨cC, iS, h⟩ := u_known (T := T_Jo) hts (fun w h => wGm (hin_Jo w h)) (hts _ (wGm lz_Jo))
      exact ⟨(cC, iS), fun q hq => by cases hq; exact h⟩
    | 5 =>
      obtain ⟨cC, iS, h⟩ := u_known (T := T_Br) hts (fun w h => wGm (hin_Br w h)) (hts _ (wGm lz_Br))
      exact ⟨(cC, iS), fun q hq => by cases hq; exact h⟩
    | 6 =>
      obtain ⟨cC, iS, h⟩ := u_known (T := T_Rp) hts (fun w h => wGm (hin_Rp w h)) (hts _ (wGm lz_Rp))
      exact ⟨(cC, iS), fun q hq => by cases hq; exact h⟩
    | 7 =>
      obtain ⟨cC, iS, h⟩ := u_known (T := T_Wr) hts (fun w h => wGm (hin_Wr w h)) (hts _ (wGm lz_Wr))
      exact ⟨(cC, iS), fun q hq => by cases hq; exact h⟩
    | 8 =>
      obtain ⟨cC, iS, h⟩ := u_known (T := T_Sq) hts (fun w h => wGm (hin_Sq w h)) (hts _ (wGm lz_Sq))
      exact ⟨(cC, iS), fun q hq => by cases hq; exact h⟩
    | 9 =>
      obtain ⟨cC, iS, h⟩ := u_known (T := T_Fr) hts (fun w h => wGm (hin_Fr w h)) (hts _ (wGm lz_Fr))
      exact ⟨(cC, iS), fun q hq => by cases hq; exact h⟩
    | 10 =>
      obtain ⟨cC, iS, h⟩ := u_known (T := T_Mf) hts (fun w h => wGm (hin_Mf w h)) (hts _ (wGm lz_Mf))
      exact ⟨(cC, iS), fun q hq => by cases hq; exact h⟩
    | 11 =>
      obtain ⟨cC, iS, h⟩ := u_known (T := T_Pk) hts (fun w h => wGm (hin_Pk w h)) (hts _ (wGm lz_Pk))
      exact ⟨(cC, iS), fun q hq => by cases hq; exact h⟩
    | 12 =>
      obtain ⟨cC, iS, h⟩ := u_known (T := T_Md) hts (fun w h => wGm (hin_Md w h)) (hts _ (wGm lz_Md))
      exact ⟨(cC, iS), fun q hq => by cases hq; exact h⟩
    | k + 13 => exact ⟨(0, fun _ => 0), fun q hq => by cases hq⟩
  obtain ⟨f, hf⟩ := Classical.axiomOfChoice h
  obtain ⟨cA, kA, comp, h1, h2, h3⟩ := Cond.arrayClass_spec (hts _ (wGm la_I))
  obtain ⟨cB, kB, comp', g1, g2, g3⟩ := Cond.arrayClass_spec (hts _ (wGm la_Z))
  refine ⟨(fun c => (f c).1, fun c => (f c).2), cA, cB, fun c q hq => hf c q hq, fun k q hk => ?_⟩
  match k with
  | 0 => cases hk; exact ⟨fun n z => ⟨fun k h => (by cases h), kA, h2, comp, h3⟩, h1⟩
  | 1 => cases hk; exact ⟨fun n z => ⟨fun k h => (by cases h), kB, g2, comp', g3⟩, g1⟩
  | k + 2 => cases hk
theorem st_T0 {args : Array Value} {s : State} (hts : ∀ w ∈ lw_tbl, w.before args s = true) (hg : (Jvm.Cond.and given_1 narrow_1).before args s = true) : ∃ t, va_T .int t (tln 0) (fun x => .int (tbl 0 x)) (A0 s) s s.heap ∧ va_Z "PackFrames" (tnm 0) "[I" (.ref t) (A0 s) s s.heap := by
  have hs := flat_of_before _ hg
  have hA : ∀ a : Nat, a < s.heap.size → ¬ A0 s a := fun a h => Nat.not_le.mpr h
  have hm : ∀ x, x < 12 → Cond.eq (.elem (Term.static "PackFrames" "USUAL_LENGTHS" "[I") (.int (Int32.ofNat x))) (.int (tbl 0 x)) ∈ flatC (Jvm.Cond.and given_1 narrow_1) := by decide +kernel
  obtain ⟨t, ht, hT⟩ := va_Tof (N := 12) (f := fun x => .int (tbl 0 x)) (A := A0 s) (by decide) (hs (Cond.arrayOf (Term.static "PackFrames" "USUAL_LENGTHS" "[I") .int) (by decide +kernel)) (va_eqt (hs (Cond.eq (.length (Term.static "PackFrames" "USUAL_LENGTHS" "[I")) (.int 12)) (by decide +kernel))) (fun x hx => va_eqt (hs _ (hm x hx))) hA
  exact ⟨t, hT, va_Zref (hts _ (List.mem_append_right _ (List.mem_of_getElem? (i := 54) (by decide +kernel)))) (hts _ (wGm ln_PF)) ht hA⟩
theorem st_T1 {args : Array Value} {s : State} (hts : ∀ w ∈ lw_tbl, w.before args s = true) (hg : (Jvm.Cond.and given_1 narrow_1).before args s = true) : ∃ t, va_T .int t (tln 1) (fun x => .int (tbl 1 x)) (A0 s) s s.heap ∧ va_Z "PackFrames" (tnm 1) "[I" (.ref t) (A0 s) s s.heap := by
  have hs := flat_of_before _ hg
  have hA : ∀ a : Nat, a < s.heap.size → ¬ A0 s a := fun a h => Nat.not_le.mpr h
  have hm : ∀ x, x < 8 → Cond.eq (.elem (Term.static "PackFrames" "USUAL_WAYS" "[I") (.int (Int32.ofNat x))) (.int (tbl 1 x)) ∈ flatC (Jvm.Cond.and given_1 narrow_1) := by decide +kernel
  obtain ⟨t, ht, hT⟩ := va_Tof (N := 8) (f := fun x => .int (tbl 1 x)) (A := A0 s) (by decide) (hs (Cond.arrayOf (Term.static "PackFrames" "USUAL_WAYS" "[I") .int) (by decide +kernel)) (va_eqt (hs (Cond.eq (.length (Term.static "PackFrames" "USUAL_WAYS" "[I")) (.int 8)) (by decide +kernel))) (fun x hx => va_eqt (hs _ (hm x hx))) hA
  exact ⟨t, hT, va_Zref (hts _ (List.mem_append_right _ (List.mem_of_getElem? (i := 94) (by decide +kernel)))) (hts _ (wGm ln_PF)) ht hA⟩
theorem st_T2 {args : Array Value} {s : State} (hts : ∀ w ∈ lw_tbl, w.before args s = true) (hg : (Jvm.Cond.and given_1 narrow_1).before args s = true) : ∃ t, va_T .int t (tln 2) (fun x => .int (tbl 2 x)) (A0 s) s s.heap ∧ va_Z "PackFrames" (tnm 2) "[I" (.ref t) (A0 s) s s.heap := by
  have hs := flat_of_before _ hg
  have hA : ∀ a : Nat, a < s.heap.size → ¬ A0 s a := fun a h => Nat.not_le.mpr h
  have hm : ∀ x, x < 12 → Cond.eq (.elem (Term.static "PackFrames" "LITERAL_BASES" "[I") (.int (Int32.ofNat x))) (.int (tbl 2 x)) ∈ flatC (Jvm.Cond.and given_1 narrow_1) := by decide +kernel
  obtain ⟨t, ht, hT⟩ := va_Tof (N := 12) (f := fun x => .int (tbl 2 x)) (A := A0 s) (by decide) (hs (Cond.arrayOf (Term.static "PackFrames" "LITERAL_BASES" "[I") .int) (by decide +kernel)) (va_eqt (hs (Cond.eq (.length (Term.static "PackFrames" "LITERAL_BASES" "[I")) (.int 12)) (by decide +kernel))) (fun x hx => va_eqt (hs _ (hm x hx))) hA
  exact ⟨t, hT, va_Zref (hts _ (List.mem_append_right _ (List.mem_of_getElem? (i := 588) (by decide +kernel)))) (hts _ (wGm ln_PF)) ht hA⟩
theorem st_T3 {args : Array Value} {s : State} (hts : ∀ w ∈ lw_tbl, w.before args s = true) (hg : (Jvm.Cond.and given_1 narrow_1).before args s = true) : ∃ t, va_T .int t (tln 3) (fun x => .int (tbl 3 x)) (A0 s) s s.heap ∧ va_Z "PackFrames" (tnm 3) "[I" (.ref t) (A0 s) s s.heap := by
  have hs := flat_of_before _ hg
  have hA : ∀ a : Nat, a < s.heap.size → ¬ A0 s a := fun a h => Nat.not_le.mpr h
  have hm : ∀ x, x < 12 → Cond.eq (.elem (Term.static "PackFrames" "LITERAL_BITS" "[I") (.int (Int32.ofNat x))) (.int (tbl 3 x)) ∈ flatC (Jvm.Cond.and given_1 narrow_1) := by decide +kernel
  obtain ⟨t, ht, hT⟩ := va_Tof (N := 12) (f := fun x => .int (tbl 3 x)) (A := A0 s) (by decide) (hs (Cond.arrayOf (Term.static "PackFrames" "LITERAL_BITS" "[I") .int) (by decide +kernel)) (va_eqt (hs (Cond.eq (.length (Term.static "PackFrames" "LITERAL_BITS" "[I")) (.int 12)) (by decide +kernel))) (fun x hx => va_eqt (hs _ (hm x hx))) hA
  exact ⟨t, hT, va_Zref (hts _ (List.mem_append_right _ (List.mem_of_getElem? (i := 622) (by decide +kernel)))) (hts _ (wGm ln_PF)) ht hA⟩
theorem st_T4 {args : Array Value} {s : State} (hts : ∀ w ∈ lw_tbl, w.before args s = true) (hg : (Jvm.Cond.and given_1 narrow_1).before args s = true) : ∃ t, va_T .int t (tln 4) (fun x => .int (tbl 4 x)) (A0 s) s s.heap ∧ va_Z "PackFrames" (tnm 4) "[I" (.ref t) (A0 s) s s.heap := by
  have hs := flat_of_before _ hg
  have hA : ∀ a : Nat, a < s.heap.size → ¬ A0 s a := fun a h => Nat.not_le.mpr h
  have hm : ∀ x, x < 12 → Cond.eq (.elem (Term.static "PackFrames" "MATCH_BASES" "[I") (.int (Int32.ofNat x))) (.int (tbl 4 x)) ∈ flatC (Jvm.Cond.and given_1 narrow_1) := by decide +kernel
  obtain ⟨t, ht, hT⟩ := va_Tof (N := 12) (f := fun x => .int (tbl 4 x)) (A := A0 s) (by decide) (hs (Cond.arrayOf (Term.static "PackFrames" "MATCH_BASES" "[I") .int) (by decide +kernel)) (va_eqt (hs (Cond.eq (.length (Term.static "PackFrames" "MATCH_BASES" "[I")) (.int 12)) (by decide +kernel))) (fun x hx => va_eqt (hs _ (hm x hx))) hA
  exact ⟨t, hT, va_Zref (hts _ (List.mem_append_right _ (List.mem_of_getElem? (i := 605) (by decide +kernel)))) (hts _ (wGm ln_PF)) ht hA⟩
theorem st_T5 {args : Array Value} {s : State} (hts : ∀ w ∈ lw_tbl, w.before args s = true) (hg : (Jvm.Cond.and given_1 narrow_1).before args s = true) : ∃ t, va_T .int t (tln 5) (fun x => .int (tbl 5 x)) (A0 s) s s.heap ∧ va_Z "PackFrames" (tnm 5) "[I" (.ref t) (A0 s) s s.heap := by
  have hs := flat_of_before _ hg
  have hA : ∀ a : Nat, a < s.heap.size → ¬ A0 s a := fun a h => Nat.not_le.mpr h
  have hm : ∀ x, x < 12 → Cond.eq (.elem (Term.static "PackFrames" "MATCH_BITS" "[I") (.int (Int32.ofNat x))) (.int (tbl 5 x)) ∈ flatC (Jvm.Cond.and given_1 narrow_1) := by decide +kernel
  obtain ⟨t, ht, hT⟩ := va_Tof (N := 12) (f := fun x => .int (tbl 5 x)) (A := A0 s) (by decide) (hs (Cond.arrayOf (Term.static "PackFrames" "MATCH_BITS" "[I") .int) (by decide +kernel)) (va_eqt (hs (Cond.eq (.length (Term.static "PackFrames" "MATCH_BITS" "[I")) (.int 12)) (by decide +kernel))) (fun x hx => va_eqt (hs _ (hm x hx))) hA
  exact ⟨t, hT, va_Zref (hts _ (List.mem_append_right _ (List.mem_of_getElem? (i := 620) (by decide +kernel)))) (hts _ (wGm ln_PF)) ht hA⟩
theorem st_Q {args : Array Value} {s : State} (hts : ∀ w ∈ lw_tbl, w.before args s = true) (hg : (Jvm.Cond.and given_1 narrow_1).before args s = true) : ∃ tad : Nat → Nat, Tq tad (A0 s) s := by
  have h : ∀ j : Nat, ∃ t : Nat, j < 6 → va_T .int t (tln j) (fun x => .int (tbl j x)) (A0 s) s s.heap ∧ va_Z "PackFrames" (tnm j) "[I" (.ref t) (A0 s) s s.heap := by
    intro j
    match j with
    | 0 => obtain ⟨t, h⟩ := st_T0 hts hg; exact ⟨t, fun _ => h⟩
    | 1 => obtain ⟨t, h⟩ := st_T1 hts hg; exact ⟨t, fun _ => h⟩
    | 2 => obtain ⟨t, h⟩ := st_T2 hts hg; exact ⟨t, fun _ => h⟩
    | 3 => obtain ⟨t, h⟩ := st_T3 hts hg; exact ⟨t, fun _ => h⟩
    | 4 => obtain ⟨t, h⟩ := st_T4 hts hg; exact ⟨t, fun _ => h⟩
    | 5 => obtain ⟨t, h⟩ := st_T5 hts hg; exact ⟨t, fun _ => h⟩
    | k + 6 => exact ⟨0, fun h => absurd h (by omega)⟩
  obtain ⟨tad, ht⟩ := Classical.axiomOfChoice h
  have n1 : ∀ q ∈ nestF, nw q ∈ lw_tbl := by decide +kernel
  have n2 : ∀ q ∈ nestM, mw q ∈ lw_tbl := by decide +kernel
  exact ⟨tad, ht, fun q hq => va_Nw.of rfl (hts _ (n1 q hq)), fun q hq => va_Nw.of rfl (hts _ (n2 q hq))⟩
set_option maxHeartbeats 16000000 in
set_option maxRecDepth 100000 in
/-- from the entry to the loop: the two objects are made; then the loop's walk -/
theorem law_start {p : Program} {e : Env} {s : State} {m : MethodId} {below : List Frame} {meth : Method} {c : Code} (l : Launch) {b Ln : Nat} {xs : Nat → Int32} {G0 G1 : Mem} (hg0 : f_ST_keepCounts (lST 0) 0 5 (nI 12) fST = some G0) (hg1 : f_ST_keepCounts (lST 1) 0 6 (nI 8) fST = some G1) (h : f_Law_18 Ln xs mFU 0 (F1 G0 G1) F2 = some ()) (C0 : lw_At p s m meth c b Ln xs) : W p l e room_1 s m #[Value.ref b] below meth c s.heap [] 0 0 (lw_Z below #[Value.ref b] s) (entryFrame m ([Value.ref b] : List Value).toArray 4) := by
  obtain ⟨hx, hb, hr, hml, hown, hts, hX, hbl, hlk, hgv⟩ := C0
  obtain ⟨D, cA, cB, hK⟩ := st_K hts
  obtain ⟨tad, hTq⟩ := st_Q hts hgv
  have hl := lv_entry ([.ref b]) (n := 4) (Nat.le_of_ble_eq_true rfl)
  rw [lg_entry_eq]
  generalize (lg_sl ([.ref b]) ++ List.replicate (4 - (lg_sl ([.ref b])).length) Slot.unset).toArray = ls at hl ⊢
  have hl : lv_has ls 4 [(0, .ref b)] := hl
  have hP : va_P D vwCl [] s.heap := fun k q h => by simp at h
  have hD : va_D (A0 s) [] := ⟨fun i j p q h => by simp at h, fun k q h => by simp at h⟩
  have hS : va_S (A0 s) s.heap s.heap [] := va_S.rf
  have hA : ∀ q : Nat, s.heap.size ≤ q → A0 s q := fun q h => h
  refine va_new (ci := 0) (fs := [.null, .null, .null, .null, .null, .null]) (C := R_PF) (T := T_PF) (N := 6) hx hb hts (fun w h => wGm (hin_PF w h)) ty_PF tk_PF hown (hts _ (wGm lq_Law_7)) (hts _ (wGm lz_PF)) (hts _ (wGm ln_PF)) hK hP hD hS hA rfl df_PF (Nat.le_of_ble_eq_true rfl) (Nat.le_of_ble_eq_true rfl) d_law_0 (fun a1 H hP hD hS => ?_)
  have hP : va_P D vwCl [(a1, .inr (0, [.null, .null, .null, .null, .null, .null]))] H := hP
  have hD : va_D (A0 s) [(a1, .inr (0, [.null, .null, .null, .null, .null, .null]))] := hD
  refine lv_dup hx hb d_law_3 rfl ?_
  have hFc : ∀ q, va_A [(a1, .inr (0, [.null, .null, .null, .null, .null, .null]))] H.size q → A0 s q := fun q h => by
    rcases a1_of h with rfl | h
    · exact hD.2 0 _ rfl
    · exact Nat.le_trans hS.1 h
  refine va_callv (va_runI (As := []) (rest := [.ref a1]) ⟨hx, hb, hml, hown, hts⟩ (k_PF_init l (D := D) (cA := cA) (cB := cB) (tad := tad) hg0 hg1 a1 H.size) (cwI 0 hts (gd_bL lc_PF_init) rfl rfl rfl (hts _ (wGm ln_PF)) (hts _ (wGm lm_Law_9)) (hts _ (wGm li_PF_init)) rfl hd_PF_init.2 ⟨(Nat.le_of_ble_eq_true rfl), (Nat.le_of_ble_eq_true rfl)⟩) ⟨Pk.calls, fun U hU hW => ⟨rfl, Pk.pre hK hTq hS hP hD hFc hU hW⟩⟩ rfl rfl hl.1 rfl (lv_room (Nat.le_of_ble_eq_true rfl)) d_law_4 ⟨(Nat.le_of_ble_eq_true rfl), (Nat.le_of_ble_eq_true rfl)⟩) hS (fun q _ h => hFc q h) hFc (fun u1 t H1 locs ht hvm _ hB hz1 hk1 hS => ?_)
  obtain ⟨hP1, -, hD1⟩ := hB
  rw [ht] at hP1
  have hP1 : va_P D vwCl (wl (X1 D cA cB tad a1 u1) L1 (F1 G0 G1)) H1 := by rw [← eX1]; exact hP1
  have hD1 : va_D (A0 s) (wl (X1 D cA cB tad a1 u1) L1 (F1 G0 G1)) := by rw [← eX1]; exact hD1.weaken (fun _ _ _ h => hFc _ h)
  clear hP hD hFc
  generalize hY1 : X1 D cA cB tad a1 u1 = Y1 at hP1 hD1
  have hK1 : va_K Y1.1 vwCl (mTy Y1) s := by rw [← hY1]; exact hK
  have ha1 : mAd Y1 0 = a1 := by rw [← hY1]; rfl
  have ht1 : ∀ j, mAd Y1 (mNc L1 + j) = tad j := fun j => by rw [← hY1]; exact tX1 j
  have hDY : Y1.1 = D := by rw [← hY1]; rfl
  refine lv_astore_n (lv' := [(1, .ref a1), (0, .ref b)]) hx hb d_law_7 rfl hl (by decide) rfl (fun ls hl => ?_)
  refine va_new (ci := 12) (fs := [.null, .int 0, .null, .int 0, .int 0, .int 0, .int 0, .null, .int 0, .int 0, .null, .int 0, .int 0, .int 0, .null, .int 0, .int 0, .int 0, .int 0, .null, .null, .null, .null, .null, .null, .null, .null, .null, .int 0, .null, .null, .null, .null, .null, .int 0, .null, .int 0, .null, .null, .null, .null, .null]) (C := R_Md) (T := T_Md) (N := 42) hx hb hts (fun w h => wGm (hin_Md w h)) ty_Md tk_Md hown (hts _ (wGm lq_Law_10)) (hts _ (wGm lz_Md)) (hts _ (wGm ln_Md)) hK hP1 hD1 hS hA rfl df_Md (Nat.le_of_ble_eq_true rfl) (Nat.le_of_ble_eq_true rfl) d_law_8 (fun a2 H hP hD hS => ?_)
  refine lv_dup hx hb d_law_11 rfl ?_
  have hPc := vP_r hP
  have hDc := vD_r hD
  have hFc : ∀ q, va_A [(a2, .inr (12, [.null, .int 0, .null, .int 0, .int 0, .int 0, .int 0, .null, .int 0, .int 0, .null, .int 0, .int 0, .int 0, .null, .int 0, .int 0, .int 0, .int 0, .null, .null, .null, .null, .null, .null, .null, .null, .null, .int 0, .null, .null, .null, .null, .null, .int 0, .null, .int 0, .null, .null, .null, .null, .null]))] H.size q → A0 s q := fun q h => by
    rcases a1_of h with rfl | h
    · exact hDc.2 0 _ rfl
    · exact Nat.le_trans hS.1 h
  refine va_callv (va_runI (As := []) (rest := [.ref a2]) ⟨hx, hb, hml, hown, hts⟩ (k_Md_init l (D := D) (cA := cA) (cB := cB) (tad := tad) hg0 hg1 a2 H.size) (cwI 0 hts (gd_bL lc_Md_init) rfl rfl rfl (hts _ (wGm ln_Md)) (hts _ (wGm lm_Law_12)) (hts _ (wGm li_Md_init)) rfl hd_Md_init.2 ⟨(Nat.le_of_ble_eq_true rfl), (Nat.le_of_ble_eq_true rfl)⟩) ⟨Pk.calls, fun U hU hW => ⟨rfl, Pk.pre hK hTq hS hPc hDc hFc hU hW⟩⟩ rfl rfl hl.1 rfl (lv_room (Nat.le_of_ble_eq_true rfl)) d_law_12 ⟨(Nat.le_of_ble_eq_true rfl), (Nat.le_of_ble_eq_true rfl)⟩) hS (fun q _ h => hFc q h) hFc (fun u2 t H2 locs ht hvm _ hB hz2 hk2 hS => ?_)
  obtain ⟨hP2, -, hD2⟩ := hB
  rw [ht] at hP2
  have hP2 : va_P D vwCl (wl (X2 D cA cB tad a2 u2) L2 F2) H2 := by rw [← eX2]; exact hP2
  replace hD2 : va_D (va_A [(a2, .inr (12, [.null, .int 0, .null, .int 0, .int 0, .int 0, .int 0, .null, .int 0, .int 0, .null, .int 0, .int 0, .int 0, .null, .int 0, .int 0, .int 0, .int 0, .null, .null, .null, .null, .null, .null, .null, .null, .null, .int 0, .null, .null, .null, .null, .null, .int 0, .null, .int 0, .null, .null, .null, .null, .null]))] H.size) (wl (X2 D cA cB tad a2 u2) L2 F2) := by rw [← eX2]; exact hD2
  have hout : ∀ (k : Nat) (x : Nat × va_E), (wl Y1 L1 (F1 G0 G1))[k]? = some x → x.1 < H.size ∧ ¬ va_A [(a2, .inr (12, [.null, .int 0, .null, .int 0, .int 0, .int 0, .int 0, .null, .int 0, .int 0, .null, .int 0, .int 0, .int 0, .null, .int 0, .int 0, .int 0, .int 0, .null, .null, .null, .null, .null, .null, .null, .null, .null, .int 0, .null, .null, .null, .null, .null, .int 0, .null, .int 0, .null, .null, .null, .null, .null]))] H.size x.1 := fun k x hx => by
    refine ⟨(vP_l hP k x hx).lt, fun h => ?_⟩
    rcases a1_of h with h | h
    · exact vD_x hD hx (j := 0) (q := (a2, .inr (12, [.null, .int 0, .null, .int 0, .int 0, .int 0, .int 0, .null, .int 0, .int 0, .null, .int 0, .int 0, .int 0, .null, .int 0, .int 0, .int 0, .int 0, .null, .null, .null, .null, .null, .null, .null, .null, .null, .int 0, .null, .null, .null, .null, .null, .int 0, .null, .int 0, .null, .null, .null, .null, .null]))) rfl h
    · exact absurd (vP_l hP k x hx).lt (by omega)
  have hP1' := (vP_l hP).kept (fun k x hx => hk2 x.1 (hout k x hx).1 (hout k x hx).2)
  generalize hY2 : X2 D cA cB tad a2 u2 = Y2 at hP2 hD2
  have hK2 : va_K Y2.1 vwCl (mTy Y2) s := by rw [← hY2]; exact hK
  have ha2 : mAd Y2 0 = a2 := by rw [← hY2]; rfl
  have ht2 : ∀ j, mAd Y2 (mNc L2 + j) = tad j := fun j => by rw [← hY2]; exact tX2 j
  have hDY2 : Y2.1 = D := by rw [← hY2]; rfl
  have J : Jv Y1 Y2 s H2 locs (F1 G0 G1) F2 := by
    refine ⟨by rw [hDY]; exact hP1', vD_l hD, by rw [hDY2]; exact hP2, hD2.weaken (fun _ _ _ h => hFc _ h), fun q q1 q2 => ?_, hS⟩
    obtain ⟨k, hk, rfl⟩ := q1
    obtain ⟨k', hk', e'⟩ := q2
    have g1 := hout k _ (wl_get hk)
    have g2 := hD2.2 k' _ (wl_get hk')
    rw [← e'] at g2
    exact g1.2 g2
  have hC : Lc Y1 Y2 tad p s m meth c b Ln xs := ⟨⟨hx, hb, hml, hown, hts⟩, hr, hlk, hX, hbl, hK1, hK2, hTq, ht1, ht2⟩
  rw [← ha1] at hl
  rw [← ha2]
  refine lv_astore_n (lv' := [(2, .ref (mAd Y2 0)), (1, .ref (mAd Y1 0)), (0, .ref b)]) hx hb d_law_15 rfl hl (by decide) rfl (fun ls hl => ?_)
  refine lv_iconst (v := 0) hx hb d_law_16 rfl ?_
  refine lv_istore_n (lv' := [(3, .int 0), (2, .ref (mAd Y2 0)), (1, .ref (mAd Y1 0)), (0, .ref b)]) hx hb d_law_17 rfl hl (by decide) rfl (fun ls hl => ?_)
  exact tf_Law_18 hC mFU 0 _ _ _ _ _ J (lv_sub hl [3, 2, 1, 0] rfl) h
