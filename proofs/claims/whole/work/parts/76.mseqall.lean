/-! pure: the model's readSequences -/
/-- the model's tables of the frame, where they are known -/
def MK (G : Mem) (kn : Option T3) : Prop := (∀ k, k < 3 → G 8 k = if kn.isSome then 1 else 0) ∧ ∀ t, kn = some t → (TMt G 0 t.1 ∧ TMt G 1 t.2.1 ∧ TMt G 2 t.2.2) ∧ TG3 t
theorem MK.fm {G H : Mem} {kn : Option T3} {sl cs : List Nat} (h : MK G kn) (f : Fm sl cs G H) (n : ∀ q, 8 ≤ q → q ≤ 12 → q ∉ cs) : MK H kn := by
  refine ⟨fun k hk => by rw [f.1 8 (by decide) (n 8 (by decide) (by decide))]; exact h.1 k hk, fun t e => ?_⟩
  obtain ⟨⟨h1, h2, h3⟩, g⟩ := h.2 t e
  have n' : ∀ q, 9 ≤ q → q ≤ 12 → q ∉ cs := fun q h1 h2 => n q (by omega) h2
  exact ⟨⟨h1.fm f n', h2.fm f n', h3.fm f n'⟩, g⟩
/-- how many sequences, the tables, the sequences: they, the place behind, the tables known then -/
def seqsM (w : List Nat) (e : Nat) (kn : Option T3) (p : Nat) : Option (List N3 × Nat × Option T3) :=
  if p < e then (if w.getD p 0 = 0 then some ([], p + 1, kn) else (tabsS w e kn (p + 1)).bind fun q => (readS w e q.1 (w.getD p 0) q.2).bind fun qs => some (qs, e, some q.1)) else none
theorem usT2 : usT 2 = usT 0 := by
  funext c
  unfold usT usC
  rfl
theorem mo_0 : mo 0 = 12 := rfl
theorem mo_1 : mo 1 = 8 := rfl
theorem mo_2 : mo 2 = 12 := rfl
theorem TF.m {k : Nat} {G H : Mem} (f : TF k G H) : Fm [4, 5, 11, 12, 28] [8, 9, 10, 11, 12, 13, 14, 15, 16, 17] G H := f.1.up (by simp) (by simp)
/-- three tables, from the byte of their kinds on -/
theorem md_tables {G : Mem} {w : List Nat} {p e m : Nat} {ok : Bool} {kn : Option T3} (h : MN G w p ok) (he : e ≤ w.length) (hp : p ≤ e) (hm : m < 256) (hk : ok = true → MK G kn) :
    ∃ A B C, f_Md_readTable L2 0 (nI 0) (nI (m / 64)) (nI e) G = some A ∧ f_Md_readTable L2 0 (nI 1) (nI (m / 16 % 4)) (nI e) A = some B ∧ f_Md_readTable L2 0 (nI 2) (nI (m / 4 % 4)) (nI e) B = some C ∧
      ∃ p' ok', MN C w p' ok' ∧ p' ≤ e ∧ (ok' = true → ok = true ∧ ∃ t, ((tabS w e 12 (usT 0) (kn.map (fun t => t.1)) (m / 64) p).bind fun q1 => (tabS w e 8 (usT 1) (kn.map (fun t => t.2.1)) (m / 16 % 4) q1.2).bind fun q2 => (tabS w e 12 (usT 0) (kn.map (fun t => t.2.2)) (m / 4 % 4) q2.2).bind fun q3 => some ((q1.1, q2.1, q3.1), q3.2)) = some (t, p') ∧ TMt C 0 t.1 ∧ TMt C 1 t.2.1 ∧ TMt C 2 t.2.2) ∧
        (ok = true → ((tabS w e 12 (usT 0) (kn.map (fun t => t.1)) (m / 64) p).bind fun q1 => (tabS w e 8 (usT 1) (kn.map (fun t => t.2.1)) (m / 16 % 4) q1.2).bind fun q2 => (tabS w e 12 (usT 0) (kn.map (fun t => t.2.2)) (m / 4 % 4) q2.2).bind fun q3 => some ((q1.1, q2.1, q3.1), q3.2)) ≠ none → ok' = true) ∧ (∀ k, k < 3 → C 8 k = 1) ∧ Fm [4, 5, 11, 12, 28] [8, 9, 10, 11, 12, 13, 14, 15, 16, 17] G C ∧ C 0 28 = G 0 28 := by
  obtain ⟨A, eA, ⟨pA, okA, mA, lA, gA, nA, fA⟩, hA⟩ := md_table h he hp (k := 0) (by decide) (kn.map (fun t => t.1)) (fun o => ⟨by rw [(hk o).1 0 (by decide), Option.isSome_map], fun t e => by
    obtain ⟨t', e', rfl⟩ := Option.map_eq_some_iff.mp e
    exact ((hk o).2 t' e').1.1⟩) (how := m / 64) (by omega)
  obtain ⟨B, eB, ⟨pB, okB, mB, lB, gB, nB, fB⟩, hB⟩ := md_table mA he lA (k := 1) (by decide) (kn.map (fun t => t.2.1)) (fun o => ⟨by rw [(fA.2.1 1 (by decide)).1, (hk (gA o).1).1 1 (by decide), Option.isSome_map], fun t e => by
    obtain ⟨t', e', rfl⟩ := Option.map_eq_some_iff.mp e
    exact ((hk (gA o).1).2 t' e').1.2.1.tf fA (by decide)⟩) (how := m / 16 % 4) (by omega)
  obtain ⟨C, eC, ⟨pC, okC, mC, lC, gC, nC, fC⟩, hC⟩ := md_table mB he lB (k := 2) (by decide) (kn.map (fun t => t.2.2)) (fun o => ⟨by rw [(fB.2.1 2 (by decide)).1, (fA.2.1 2 (by decide)).1, (hk (gA (gB o).1).1).1 2 (by decide), Option.isSome_map], fun t e => by
    obtain ⟨t', e', rfl⟩ := Option.map_eq_some_iff.mp e
    exact (((hk (gA (gB o).1).1).2 t' e').1.2.2.tf fA (by decide)).tf fB (by decide)⟩) (how := m / 4 % 4) (by omega)
  rw [mo_0] at gA nA
  rw [mo_1] at gB nB
  rw [mo_2, usT2] at gC nC
  refine ⟨A, B, C, eA, eB, eC, pC, okC, mC, lC, fun o => ?_, fun o s => ?_, fun k hk => ?_, (fA.m.tr fB.m).tr fC.m, ?_⟩
  · obtain ⟨oB, t3, s3, d3⟩ := gC o
    obtain ⟨oA, t2, s2, d2⟩ := gB oB
    obtain ⟨o1, t1, s1, d1⟩ := gA oA
    refine ⟨o1, (t1, t2, t3), ?_, (d1.tf fB (by decide)).tf fC (by decide), d2.tf fC (by decide), d3⟩
    rw [s1]
    dsimp only [Option.bind_some]
    rw [s2]
    dsimp only [Option.bind_some]
    rw [s3]
    rfl
  · cases e1 : tabS w e 12 (usT 0) (kn.map (fun t => t.1)) (m / 64) p with
    | none => rw [e1] at s; exact absurd rfl s
    | some v1 =>
      have oA := nA o (by rw [e1]; simp)
      obtain ⟨-, t1, s1, d1⟩ := gA oA
      rw [s1] at s
      dsimp only [Option.bind_some] at s
      cases e2 : tabS w e 8 (usT 1) (kn.map (fun t => t.2.1)) (m / 16 % 4) pA with
      | none => rw [e2] at s; exact absurd rfl s
      | some v2 =>
        have oB := nB oA (by rw [e2]; simp)
        obtain ⟨-, t2, s2, d2⟩ := gB oB
        rw [s2] at s
        dsimp only [Option.bind_some] at s
        refine nC oB (fun e3 => ?_)
        rw [e3] at s
        exact absurd rfl s
  · have : k = 0 ∨ k = 1 ∨ k = 2 := by omega
    rcases this with rfl | rfl | rfl
    · rw [(fC.2.1 0 (by decide)).1, (fB.2.1 0 (by decide)).1]; exact hA
    · rw [(fC.2.1 1 (by decide)).1]; exact hB
    · exact hC
  · rw [fC.1.2 28 (by decide), fB.1.2 28 (by decide), fA.1.2 28 (by decide)]
theorem md_seqs {G : Mem} {w : List Nat} {p e : Nat} {ok : Bool} {kn : Option T3} (h : MN G w p ok) (he : e ≤ w.length) (hp : ok = true → p ≤ e) (hk : ok = true → MK G kn) :
    ∃ H p' qs kn' ok', f_Md_readSequences L2 0 (nI e) G = some H ∧ MN H w p' ok' ∧ (ok' = true → ok = true ∧ seqsM w e kn p = some (qs, p', kn') ∧ p' ≤ e ∧ H 0 28 = nI qs.length ∧ qs.length ≤ 255 ∧ MSq H 0 qs ∧ (∀ q ∈ qs, QB q) ∧ MK H kn') ∧ (ok = true → seqsM w e kn p ≠ none → ok' = true) ∧ Fm [4, 5, 11, 12, 28] [8, 9, 10, 11, 12, 13, 14, 15, 16, 17] G H := by
  have hw := h.2.2.2.2.2
  obtain ⟨A, eA, mA, fA⟩ := mn_next h he
  obtain ⟨c, hc⟩ : ∃ c, c = (if p < e then w.getD p 0 else 0) := ⟨_, rfl⟩
  have hc2 : c < 256 := by have := nI_byte hw p; rw [hc]; split <;> omega
  rw [← hc] at eA
  have f1 : Fm [28] [] A (u2 A 0 28 (nI c)) := Fm.us (by simp)
  obtain ⟨A1, hA1⟩ : ∃ A1, A1 = u2 A 0 28 (nI c) := ⟨_, rfl⟩
  rw [← hA1] at f1
  have mA1 := mA.fm f1 (by decide) (by decide) (by decide) (by decide)
  have fGA : Fm [4, 5, 11, 12, 28] [8, 9, 10, 11, 12, 13, 14, 15, 16, 17] G A1 := (fA.up (by simp) (by simp)).tr (f1.up (by simp) (by simp))
  have v28 : A1 0 28 = nI c := by rw [hA1, u2_s]
  unfold f_Md_readSequences b_Md_readSequences_23
  rw [eA]
  dsimp only [Option.bind_some]
  rw [ld, ← hA1]
  by_cases q0 : ok = true ∧ p < e
  · obtain ⟨o, hpe⟩ := q0
    subst o
    rw [if_pos hpe] at mA1 hc
    have mA2 : MN A1 w (p + 1) true := by simpa [hpe] using mA1
    have kA : MK A1 kn := ((hk rfl).fm fA (by simp)).fm f1 (by simp)
    rw [if_pos mA2.b0, v28]
    by_cases q1 : c = 0
    · rw [q1, if_pos (show nI 0 = (0 : Int32) from rfl)]
      refine ⟨A1, p + 1, [], kn, true, rfl, mA2, fun _ => ⟨rfl, ?_, by omega, by rw [v28, q1]; rfl, by decide, fun i hi => absurd hi (by simp), fun q hq => absurd hq (by simp), kA⟩, fun _ _ => rfl, fGA⟩
      unfold seqsM
      rw [if_pos hpe, if_pos (by omega)]
    · rw [if_neg (show ¬ nI c = (0 : Int32) from nne (b := 0) q1 (by omega) (by omega))]
      have esq : seqsM w e kn p = (tabsS w e kn (p + 1)).bind fun q => (readS w e q.1 (w.getD p 0) q.2).bind fun qs => some (qs, e, some q.1) := by
        unfold seqsM
        rw [if_pos hpe, if_neg (by omega)]
      obtain ⟨B, eB, mB, fB⟩ := mn_next mA2 he
      obtain ⟨m, hm⟩ : ∃ m, m = (if p + 1 < e then w.getD (p + 1) 0 else 0) := ⟨_, rfl⟩
      have hm2 : m < 256 := by have := nI_byte hw (p + 1); rw [hm]; split <;> omega
      rw [← hm] at eB
      obtain ⟨pB, hpB⟩ : ∃ q, q = (if p + 1 < e then p + 1 + 1 else p + 1) := ⟨_, rfl⟩
      rw [← hpB] at mB
      have lpB : pB ≤ e := by rw [hpB]; split <;> omega
      rw [eB]
      dsimp only [Option.bind_some]
      rw [show nI m &&& 3 = nI (m % 4) from pk_andN (by omega) 2 rfl]
      -- behind the kinds
      have main : ∀ ok1 : Bool, MN B w pB (true && decide (p + 1 < e)) → ok1 = (decide (p + 1 < e) && decide (m % 4 = 0)) → ∃ H p' qs kn' ok', b_Md_readSequences_49 L2 0 (nI e) (nI m) 0 (if ok1 then 0 else 1) B = some H ∧ MN H w p' ok' ∧ (ok' = true → true = true ∧ seqsM w e kn p = some (qs, p', kn') ∧ p' ≤ e ∧ H 0 28 = nI qs.length ∧ qs.length ≤ 255 ∧ MSq H 0 qs ∧ (∀ q ∈ qs, QB q) ∧ MK H kn') ∧ (true = true → seqsM w e kn p ≠ none → ok' = true) ∧ Fm [4, 5, 11, 12, 28] [8, 9, 10, 11, 12, 13, 14, 15, 16, 17] G H := by
        intro ok1 mB ho
        obtain ⟨B1, hB1⟩ : ∃ B1, B1 = u2 B 0 5 (if ok1 then 0 else 1) := ⟨_, rfl⟩
        have f2 : Fm [5] [] B B1 := by rw [hB1]; exact Fm.us (by simp)
        have mB1 : MN B1 w pB ok1 := by
          rw [hB1]
          cases ok1 with
          | false => exact mB.bad
          | true =>
            have : (true && decide (p + 1 < e)) = true := by
              have := ho.symm
              simp at this
              simp [this.1]
            rw [this] at mB
            exact mB.set
        have kB : MK B1 kn := (kA.fm fB (by simp)).fm f2 (by simp)
        obtain ⟨T0, T1, T2, e0, e1, e2, pT, okT, mT, lT, gT, nT, hT, fT, vT⟩ := md_tables mB1 he lpB hm2 (fun _ => kB)
        have et : okT = true → ∃ t, tabsS w e kn (p + 1) = some (t, pT) ∧ (TMt T2 0 t.1 ∧ TMt T2 1 t.2.1 ∧ TMt T2 2 t.2.2) := fun o => by
          obtain ⟨o1, t, s1, s2⟩ := gT o
          rw [ho] at o1
          have q : p + 1 < e ∧ m % 4 = 0 := by simpa using o1
          rw [if_pos q.1] at hm hpB
          subst hm hpB
          refine ⟨t, ?_, s2⟩
          unfold tabsS
          rw [if_pos q]
          exact s1
        have tg : okT = true → ∀ t p', tabsS w e kn (p + 1) = some (t, p') → TG3 t := fun _ t p' s => (tabsS_good hw s (fun t e => (kA.2 t e).2)).1
        -- the table, or any
        obtain ⟨t, ht⟩ : ∃ t : T3, okT = true → tabsS w e kn (p + 1) = some (t, pT) ∧ (TMt T2 0 t.1 ∧ TMt T2 1 t.2.1 ∧ TMt T2 2 t.2.2) := by
          cases okT with
          | false => exact ⟨(.inl 0, .inl 0, .inl 0), fun q => absurd q (by decide)⟩
          | true =>
            obtain ⟨t, q⟩ := et rfl
            exact ⟨t, fun _ => q⟩
        have v28T : T2 0 28 = nI c := by rw [vT, f2.2 28 (by decide), fB.2 28 (by decide)]; exact v28
        obtain ⟨H, p', qs, ok', eH, mH, gH, nH, fH⟩ := md_str (n := c) (t := t) mT he lT (by omega) (fun o => ⟨(ht o).2, tg o t pT (ht o).1⟩) v28T
        refine ⟨H, p', qs, some t, ok', ?_, mH, fun o => ?_, fun _ hs => ?_, ((fGA.tr (fB.up (by simp) (by simp))).tr (f2.up (by simp) (by simp))).tr (fT.tr (fH.up (by simp) (by simp)))⟩
        · unfold b_Md_readSequences_49
          rw [if_neg (show ¬ ¬ ((if ok1 = true then (0 : Int32) else 1) = 0 ∨ (if ok1 = true then (0 : Int32) else 1) = 1) by cases ok1; exact fun q => q zb1; exact fun q => q zb0), ld, ← hB1, show jshr (nI m) 6 = nI (m / 64) by rw [l6, jshr_n (by omega) (by omega)], show jshr (nI m) 4 &&& 3 = nI (m / 16 % 4) by rw [l4, jshr_n (by omega) (by omega), pk_andN (by omega) 2 rfl], show jshr (nI m) 2 &&& 3 = nI (m / 4 % 4) by rw [l2, jshr_n (by omega) (by omega), pk_andN (by omega) 2 rfl]]
          rw [show f_Md_readTable L2 0 (0 : Int32) (nI (m / 64)) (nI e) B1 = some T0 from e0]
          dsimp only [Option.bind_some]
          rw [show f_Md_readTable L2 0 (1 : Int32) (nI (m / 16 % 4)) (nI e) T0 = some T1 from e1]
          dsimp only [Option.bind_some]
          rw [show f_Md_readTable L2 0 (2 : Int32) (nI (m / 4 % 4)) (nI e) T1 = some T2 from e2]
          dsimp only [Option.bind_some]
          rw [mT.2.1, pk_sub lT]
          exact eH
        · obtain ⟨oT, j1, j2, j3, j4, j5⟩ := gH o
          obtain ⟨s1, s2⟩ := ht oT
          refine ⟨rfl, ?_, by omega, ?_, by omega, j4, j5, fun k hk => ?_, fun t' e' => ?_⟩
          · rw [esq, s1]
            dsimp only [Option.bind_some]
            rw [← hc, j2]
            dsimp only [Option.bind_some]
            rw [j1]
          · rw [fH.2 28 (by decide), v28T, j3]
          · rw [fH.1 8 (by decide) (by decide), hT k hk]
            rfl
          · injection e' with e'
            subst e'
            have n4 : ∀ q, 9 ≤ q → q ≤ 12 → q ∉ [14, 15, 16, 17] := by simp; omega
            exact ⟨⟨s2.1.fm fH n4, s2.2.1.fm fH n4, s2.2.2.fm fH n4⟩, tg oT t pT s1⟩
        · rw [esq] at hs
          cases e3 : tabsS w e kn (p + 1) with
          | none => rw [e3] at hs; exact absurd rfl hs
          | some z =>
            have q : p + 1 < e ∧ w.getD (p + 1) 0 % 4 = 0 := by
              unfold tabsS at e3
              by_cases q : p + 1 < e ∧ w.getD (p + 1) 0 % 4 = 0
              · exact q
              · rw [if_neg q] at e3
                exact absurd e3 (by simp)
            have em : m = w.getD (p + 1) 0 := by rw [hm, if_pos q.1]
            have ep : pB = p + 1 + 1 := by rw [hpB, if_pos q.1]
            have o1 : ok1 = true := by rw [ho, em, decide_eq_true q.1, decide_eq_true q.2]; rfl
            have oT : okT = true := nT o1 (by
              unfold tabsS at e3
              rw [if_pos q] at e3
              rw [em, ep, e3]
              simp)
            obtain ⟨s1, s2⟩ := ht oT
            rw [s1] at hs
            dsimp only [Option.bind_some] at hs
            refine nH oT (fun e4 => ?_)
            rw [← hc, e4] at hs
            exact absurd rfl hs
      have mBb := mB
      by_cases q2 : p + 1 < e
      · have b0 : B 0 5 = 0 := by
          have : (true && decide (p + 1 < e)) = true := by simp [q2]
          rw [this] at mB
          exact mB.b0
        rw [if_pos b0]
        by_cases q3 : m % 4 = 0
        · rw [q3, if_pos (show nI 0 = (0 : Int32) from rfl)]
          exact main true mBb (by simp [q2, q3])
        · rw [if_neg (show ¬ nI (m % 4) = (0 : Int32) from nne (b := 0) q3 (by omega) (by omega))]
          exact main false mBb (by simp [q3])
      · have b1 : ¬ B 0 5 = 0 := by
          have : (true && decide (p + 1 < e)) = false := by simp [q2]
          rw [this] at mB
          exact mB.b1
        rw [if_neg b1]
        exact main false mBb (by simp [q2])
  · have mA2 : MN A1 w (if p < e then p + 1 else p) false := by
      have : (ok && decide (p < e)) = false := by
        cases ok with
        | false => rfl
        | true =>
          have : ¬ p < e := fun q => q0 ⟨rfl, q⟩
          simp [this]
      rw [this] at mA1
      exact mA1
    rw [if_neg mA2.b1]
    refine ⟨A1, _, [], kn, false, rfl, mA2, fun q => absurd q (by decide), fun o hs => ?_, fGA⟩
    unfold seqsM at hs
    rw [if_neg (fun q => q0 ⟨o, q⟩)] at hs
    exact absurd rfl hs
