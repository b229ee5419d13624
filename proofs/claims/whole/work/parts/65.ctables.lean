/-! pure: the class takes a table -/
abbrev TT : Type := Nat ⊕ (Nat → Nat)
def TC (F : Mem) (i0 a1 a2 a3 : Nat) (t : TT) : Prop := match t with
  | .inl c => F i0 5 = nI 0 ∧ F a1 0 = nI c ∧ F a2 0 = nI 0 ∧ F a3 0 = nI 0
  | .inr c => TD F i0 a1 a2 a3 c 12
def sumh (c : Nat → Nat) : Nat → Nat
  | 0 => 0
  | n + 1 => sumh c n + c n
theorem exl_sum (c : Nat → Nat) : ∀ n, (exl c n).length = sumh c n
  | 0 => rfl
  | n + 1 => by simp [exl, sumh, exl_sum c n]
theorem exl_cong {c d : Nat → Nat} : ∀ n, (∀ k, k < n → c k = d k) → exl c n = exl d n
  | 0, _ => rfl
  | n + 1, h => by
    show exl c n ++ List.replicate (c n) n = exl d n ++ List.replicate (d n) n
    rw [exl_cong n (fun k hk => h k (by omega)), h n (by omega)]
theorem exl_z {c : Nat → Nat} {n : Nat} : ∀ m, n ≤ m → (∀ k, n ≤ k → c k = 0) → exl c m = exl c n := by
  intro m hm hz
  induction m with
  | zero => rw [show n = 0 by omega]
  | succ m ih =>
    rcases Nat.eq_or_lt_of_le hm with rfl | hm
    · rfl
    · show exl c m ++ List.replicate (c m) m = _
      rw [hz m (by omega), ih (by omega)]
      simp
theorem TD.ext {F : Mem} {i0 a1 a2 a3 n : Nat} {c : Nat → Nat} (h : TD F i0 a1 a2 a3 c n) (hn : n ≤ 12) (hz : ∀ k, n ≤ k → c k = 0) : TD F i0 a1 a2 a3 c 12 := by
  have e1 : tcd c 12 = tcd c n := by funext s; unfold tcd; rw [exl_z 12 hn hz]
  have e2 : tx c 12 = tx c n := by funext s; unfold tx; rw [e1]
  refine ⟨h.1, fun s hs => ?_⟩
  rw [e1, e2]
  exact h.2 s hs
/-- the counts that n halves from p on give -/
def hc (w : List Nat) (p n k : Nat) : Nat := if k < n then hv w p k else 0
/-- a table as it stands on the wire: its kind, where the reader stands, the table of the kind before -/
def tabS (w : List Nat) (lim most : Nat) (us : Nat → Nat) (kn : Option TT) (how p : Nat) : Option (TT × Nat) :=
  if how = 0 then some (.inr us, p)
  else if how = 1 then (if p < lim ∧ w.getD p 0 < most then some (.inl (w.getD p 0), p + 1) else none)
  else if how = 2 then (if p < lim ∧ 1 ≤ w.getD p 0 ∧ w.getD p 0 ≤ most ∧ p + 1 + (w.getD p 0 + 1) / 2 ≤ lim ∧ (w.getD p 0 % 2 = 0 ∨ w.getD (p + 1 + w.getD p 0 / 2) 0 % 16 = 0) ∧ sumh (hc w (p + 1) (w.getD p 0)) 12 = 16 then some (.inr (hc w (p + 1) (w.getD p 0)), p + 1 + (w.getD p 0 + 1) / 2) else none)
  else kn.map (fun t => (t, p))
/-- a table of the reader's: where it lies -/
def TI (i1 src most a1 a2 a3 a4 : Nat) (us : Nat → Nat) : Prop := SK L1 i1 src most a1 a2 a3 a4 ∧ (∀ n, n ≤ most → SK L1 i1 42 n a1 a2 a3 a4) ∧ mRf L1 i1 0 = src ∧ mGl L1 src = most ∧ most ≤ 12 ∧ (exl us most).length = 16 ∧ (∀ k, us k ≤ 16) ∧ (∀ (F : Mem) k, k < most → mGa L1 F src k = nI (us k)) ∧ (∀ k, most ≤ k → us k = 0) ∧ (∀ q ∈ [i1, a1, a2, a3, a4], q ≠ 3 ∧ q ≠ 4 ∧ q ≠ 25 ∧ q ≠ 26 ∧ q ≠ 42)
theorem keep_us {F : Mem} {w : List Nat} {p lim ss bl : Nat} {ok : Bool} {i1 src most a1 a2 a3 a4 : Nat} {us : Nat → Nat} (T : TI i1 src most a1 a2 a3 a4 us) (h : CR F w p lim ss bl ok) : ∃ G, f_ST_keepCounts L1 i1 src (nI most) F = some G ∧ CR G w p lim ss bl ok ∧ TC G i1 a1 a2 a3 (.inr us) ∧ Fr [25, 42, i1, a1, a2, a3, a4] F G := by
  obtain ⟨S, -, -, -, hm, h16, hle, hg, hz, hd⟩ := T
  obtain ⟨G, e, t, -, f⟩ := st_keep S us h16 hm (fun k _ => hle k) (fun k hk => hg F k hk)
  have fr : Fr [i1, a1, a2, a3, a4] F G := fun k hk => by
    simp only [List.mem_cons, List.not_mem_nil, or_false, not_or] at hk
    exact f k hk.1 hk.2.1 hk.2.2.1 hk.2.2.2.1 hk.2.2.2.2
  refine ⟨G, e, ?_, t.ext hm hz, fr.up (by simp_all)⟩
  obtain ⟨h1, ha, h2⟩ := h
  have n3 : 3 ∉ [i1, a1, a2, a3, a4] := fun q => (hd 3 q).1 rfl
  have n4 : 4 ∉ [i1, a1, a2, a3, a4] := fun q => (hd 4 q).2.1 rfl
  have n25 : 25 ∉ [i1, a1, a2, a3, a4] := fun q => (hd 25 q).2.2.1 rfl
  refine ⟨h1.fr fr n3 n4, ?_, h2⟩
  rw [fr 25 n25]
  exact ha
