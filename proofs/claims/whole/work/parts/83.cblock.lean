/-! pure: the class reads a block -/
abbrev BSt : Type := List Nat × N3 × Option T4 × Option T3
def packS (w : List Nat) (e fs fe : Nat) (p : Nat) (b : BSt) : Option BSt :=
  (litsS w e b.2.2.1 p).bind fun l => (seqsM w e b.2.2.2 l.2.1).bind fun q => if q.2.1 = e then (finS fs fe l.1 q.1 (b.1, 0, b.2.1)).bind fun z => some (z.1, z.2, l.2.2, q.2.2) else none
def blockS (w : List Nat) (fs fe ty n p : Nat) (b : BSt) : Option (Nat × BSt) :=
  if ty = 0 then (if p + n ≤ w.length ∧ b.1.length + n ≤ fe then some (p + n, b.1 ++ (w.drop p).take n, b.2) else none)
  else if ty = 1 then (if p < w.length ∧ b.1.length + n ≤ fe then some (p + 1, b.1 ++ List.replicate n (w.getD p 0), b.2) else none)
  else if ty = 2 then (if p + n ≤ w.length then (packS w (p + n) fs fe p b).bind fun c => some (p + n, c) else none)
  else none
theorem symsS_le {w : List Nat} {lim : Nat} {T : T4} {c p p' : Nat} {l : List Nat} (h : symsS w lim T c p = some (l, p')) : p' ≤ lim := by
  unfold symsS at h
  split at h
  · rename_i q
    cases e : symS w (p + 1) T c (8 * (w.getD p 0 - 1) + Nat.log2 (w.getD (p + w.getD p 0) 0)) with
    | none => rw [e] at h; exact absurd h (by simp)
    | some z =>
      rw [e] at h
      dsimp only [Option.bind_some] at h
      split at h
      · injection h with h
        injection h with h1 h2
        omega
      · exact absurd h (by simp)
  · exact absurd h (by simp)
theorem litsS_le {w : List Nat} {lim : Nat} {kt kt' : Option T4} {p p' : Nat} {l : List Nat} (h : litsS w lim kt p = some (l, p', kt')) : p' ≤ lim := by
  unfold litsS at h
  split at h
  · split at h
    · split at h
      · injection h with h
        injection h with h1 h2
        injection h2 with h2 h3
        omega
      · exact absurd h (by simp)
    · split at h
      · split at h
        · injection h with h
          injection h with h1 h2
          injection h2 with h2 h3
          omega
        · exact absurd h (by simp)
      · split at h
        · cases e : treeS w lim (p + 1) with
          | none => rw [e] at h; exact absurd h (by simp)
          | some q =>
            rw [e] at h
            dsimp only [Option.bind_some] at h
            cases e2 : symsS w lim q.1 (w.getD p 0 / 4) q.2 with
            | none => rw [e2] at h; exact absurd h (by simp)
            | some z =>
              rw [e2] at h
              dsimp only [Option.bind_some] at h
              injection h with h
              injection h with h1 h2
              injection h2 with h2 h3
              rw [← h2]
              exact symsS_le (l := z.1) e2
        · cases kt with
          | none => exact absurd h (by simp)
          | some T =>
            dsimp only [Option.bind_some] at h
            cases e2 : symsS w lim T (w.getD p 0 / 4) (p + 1) with
            | none => rw [e2] at h; exact absurd h (by simp)
            | some z =>
              rw [e2] at h
              dsimp only [Option.bind_some] at h
              injection h with h
              injection h with h1 h2
              injection h2 with h2 h3
              rw [← h2]
              exact symsS_le (l := z.1) e2
  · exact absurd h (by simp)
def KN (F : Mem) (kn : Option T3) : Prop := F 26 5 = (if kn.isSome then 1 else 0) ∧ ∀ t, kn = some t → CTs F t ∧ TG3 t
def CB (F : Mem) (fs fe : Nat) (o : List Nat) (r : N3) : Prop := CO F fs fe o ∧ CRp F r ∧ WB F ∧ CT F ∧ CSb F
theorem CTs.fr {F G : Mem} {t : T3} {S : List Nat} (h : CTs F t) (f : Fr S F G) (n : ∀ k, 27 ≤ k → k ≤ 40 → k ∉ S) : CTs G t :=
  ⟨h.1.fr f (n _ (by decide) (by decide)) (n _ (by decide) (by decide)) (n _ (by decide) (by decide)) (n _ (by decide) (by decide)), h.2.1.fr f (n _ (by decide) (by decide)) (n _ (by decide) (by decide)) (n _ (by decide) (by decide)) (n _ (by decide) (by decide)), h.2.2.fr f (n _ (by decide) (by decide)) (n _ (by decide) (by decide)) (n _ (by decide) (by decide)) (n _ (by decide) (by decide))⟩
theorem KN.fr {F G : Mem} {kn : Option T3} {S : List Nat} (h : KN F kn) (f : Fr S F G) (n : ∀ k, 26 ≤ k → k ≤ 40 → k ∉ S) : KN G kn := ⟨by rw [f 26 (n 26 (by decide) (by decide))]; exact h.1, fun t e => ⟨(h.2 t e).1.fr f (fun k h1 h2 => n k (by omega) h2), (h.2 t e).2⟩⟩
theorem KT.fr {F G : Mem} {kt : Option T4} {S : List Nat} (h : KT F kt) (f : Fr S F G) (n1 : 19 ∉ S) (n2 : 20 ∉ S) (n3 : 22 ∉ S) (e : G 15 6 = F 15 6) : KT G kt := ⟨by rw [e]; exact h.1, fun T q => (h.2 T q).fr f n1 n2 n3⟩
theorem CSb.fr {F G : Mem} {S : List Nat} (h : CSb F) (f : Fr S F G) (n1 : 27 ∉ S) (n2 : 32 ∉ S) (n3 : 37 ∉ S) : CSb G := by
  unfold CSb at *
  rw [f 27 n1, f 32 n2, f 37 n3]
  exact h
theorem WB.fr {F G : Mem} {S : List Nat} (h : WB F) (f : Fr S F G) (n1 : 20 ∉ S) : WB G := fun i hi => by rw [f 20 n1]; exact h i hi
theorem CO.eq {F G : Mem} {fs fe : Nat} {o : List Nat} {S : List Nat} (h : CO F fs fe o) (f : Fr S F G) (n2 : 16 ∉ S) (n3 : 17 ∉ S) (e8 : G 15 8 = F 15 8) (e9 : G 15 9 = F 15 9) : CO G fs fe o := ⟨h.1.fr f n2 n3, by rw [e8]; exact h.2.1, by rw [e9]; exact h.2.2.1, h.2.2.2⟩
/-- the cells that reading a frame may change -/
abbrev FS : List Nat := [15, 16, 17, 18, 19, 20, 21, 22, 23, 24, 25, 26, 27, 28, 29, 30, 31, 32, 33, 34, 35, 36, 37, 38, 39, 40, 41, 42]
theorem raw29 {w : List Nat} {lim ss bl fs fe n : Nat} {ok : Bool} (hn : n < 2 ^ 20) : ∀ (d i : Nat) (F : Mem) (p : Nat) (o : List Nat) (fu : Nat), d + i = n → d < fu → p + d ≤ lim → o.length + d ≤ fe → CR F w p lim ss bl ok → CO F fs fe o →
    ∃ G, f_Fr_readRaw_29 L1 fu 15 (nI n) (nI i) F = some G ∧ CR G w (p + d) lim ss bl ok ∧ CO G fs fe (o ++ (w.drop p).take d) ∧ Fr [16, 17, 25] F G := by
  intro d
  induction d with
  | zero =>
    intro i F p o fu hd hf hp hl h ho
    obtain ⟨fu, rfl⟩ : ∃ k, fu = k + 1 := ⟨fu - 1, by omega⟩
    refine ⟨F, ?_, h, by simpa using ho, Fr.rf⟩
    show b_Fr_readRaw_29 L1 (f_Fr_readRaw_29 L1 fu) 15 (nI n) (nI i) F = _
    unfold b_Fr_readRaw_29
    rw [ile (by omega) (by omega)]
  | succ d ih =>
    intro i F p o fu hd hf hp hl h ho
    obtain ⟨fu, rfl⟩ : ∃ k, fu = k + 1 := ⟨fu - 1, by omega⟩
    have hw := h.2.2.2.2.2.2
    have hlw := h.2.2.2.1
    have q : p < lim := by omega
    obtain ⟨A, eA, cA, fA⟩ := wr_byte h
    rw [if_pos q] at eA cA
    rw [decide_eq_true q, Bool.and_true] at cA
    obtain ⟨h1, h2, h3, h4, h5, h6, h7⟩ := ho.fr fA (by decide) (by decide) (by decide)
    have hy : w.getD p 0 < 256 := nI_byte hw p
    obtain ⟨B, eB, dB, fB⟩ := row_add rs16 h1 (by omega) (x := nI (w.getD p 0)) _ (byte_255 hy)
    have ho1 : CO B fs fe (o ++ [w.getD p 0]) := ⟨dB, by rw [fB 15 (by decide)]; exact h2, by rw [fB 15 (by decide)]; exact h3, by simp; omega, by simp; omega, h6, fun b q => (List.mem_append.mp q).elim (h7 b) (fun q => by rw [List.mem_singleton] at q; omega)⟩
    obtain ⟨G, e, cG, oG, f⟩ := ih (i + 1) B (p + 1) _ fu (by omega) (by omega) (by omega) (by simp; omega) (cA.fr fB (by decide) (by decide) (by decide)) ho1
    refine ⟨G, ?_, by rw [show p + (d + 1) = p + 1 + d by omega]; exact cG, ?_, ((fA.up (by simp)).tr (fB.up (by simp))).tr f⟩
    · show b_Fr_readRaw_29 L1 (f_Fr_readRaw_29 L1 fu) 15 (nI n) (nI i) F = _
      unfold b_Fr_readRaw_29
      rw [ilen (by omega) (by omega), r151, r150, eA]
      dsimp only [Option.bind_some]
      rw [eB]
      dsimp only [Option.bind_some]
      rw [nI_1]
      exact e
    · rw [take_drop_succ (by omega)]
      simpa using oG
theorem fr_raw {F : Mem} {w : List Nat} {p ss bl fs fe n : Nat} {ok : Bool} {o : List Nat} (h : CR F w p w.length ss bl ok) (ho : CO F fs fe o) (hn : n < 2 ^ 20) :
    ∃ G p' ok' o', f_Fr_readRaw L1 15 (nI n) F = some G ∧ CR G w p' w.length ss bl ok' ∧ CO G fs fe o' ∧ (ok' = true → ok = true ∧ (p + n ≤ w.length ∧ o.length + n ≤ fe) ∧ p' = p + n ∧ o' = o ++ (w.drop p).take n) ∧ (ok = true → (p + n ≤ w.length ∧ o.length + n ≤ fe) → ok' = true) ∧ Fr [16, 17, 25] F G := by
  have h5 := h.2.2.2.2.2.1
  have hp := h.2.2.1
  obtain ⟨A, eA, cA, fA⟩ := wr_refuse h
  have b19 : b_Fr_readRaw_19 L1 15 F = some A := by
    unfold b_Fr_readRaw_19
    rw [r151, eA]
    rfl
  have bad : ¬ (p + n ≤ w.length ∧ o.length + n ≤ fe) → ∃ G p' ok' o', b_Fr_readRaw_19 L1 15 F = some G ∧ CR G w p' w.length ss bl ok' ∧ CO G fs fe o' ∧ (ok' = true → ok = true ∧ (p + n ≤ w.length ∧ o.length + n ≤ fe) ∧ p' = p + n ∧ o' = o ++ (w.drop p).take n) ∧ (ok = true → (p + n ≤ w.length ∧ o.length + n ≤ fe) → ok' = true) ∧ Fr [16, 17, 25] F G := fun q => ⟨A, p, false, o, b19, cA, ho.fr fA (by decide) (by decide) (by decide), fun o => absurd o (by decide), fun _ c => absurd c q, fA.up (by simp)⟩
  unfold f_Fr_readRaw
  rw [r151, wr_left h]
  dsimp only [Option.bind_some]
  by_cases q1 : p + n ≤ w.length
  · rw [iltn (by omega) (by omega), fr_fits ho hn]
    dsimp only [Option.bind_some]
    by_cases q2 : o.length + n ≤ fe
    · rw [if_pos q2, if_neg (by decide)]
      have h6 := ho.2.2.2.2.2.1
      obtain ⟨G, e, cG, oG, f⟩ := raw29 (n := n) hn n 0 F p o mFU (by omega) (by unfold mFU; omega) q1 q2 h ho
      exact ⟨G, _, ok, _, e, cG, oG, fun o => ⟨o, ⟨q1, q2⟩, rfl, rfl⟩, fun o _ => o, f⟩
    · rw [if_neg q2, if_pos rfl]
      exact bad (fun c => q2 c.2)
  · rw [ilt (by omega) (by omega)]
    exact bad (fun c => q1 c.1)
theorem fr_run {F : Mem} {w : List Nat} {p ss bl fs fe n : Nat} {ok : Bool} {o : List Nat} (h : CR F w p w.length ss bl ok) (ho : CO F fs fe o) (hn : n < 2 ^ 20) :
    ∃ G p' ok' o', f_Fr_readRun L1 15 (nI n) F = some G ∧ CR G w p' w.length ss bl ok' ∧ CO G fs fe o' ∧ (ok' = true → ok = true ∧ (p < w.length ∧ o.length + n ≤ fe) ∧ p' = p + 1 ∧ o' = o ++ List.replicate n (w.getD p 0)) ∧ (ok = true → (p < w.length ∧ o.length + n ≤ fe) → ok' = true) ∧ Fr [16, 17, 25] F G := by
  have hw := h.2.2.2.2.2.2
  obtain ⟨A, eA, cA, fA⟩ := wr_byte h
  obtain ⟨x, hx⟩ : ∃ x, x = (if p < w.length then w.getD p 0 else 0) := ⟨_, rfl⟩
  have hx2 : x < 256 := by have := nI_byte hw p; rw [hx]; split <;> omega
  rw [← hx] at eA
  have oA := ho.fr fA (by decide) (by decide) (by decide)
  unfold f_Fr_readRun b_Fr_readRun_35
  rw [r151, r150, eA]
  dsimp only [Option.bind_some]
  rw [fr_fits oA hn]
  dsimp only [Option.bind_some]
  by_cases q2 : o.length + n ≤ fe
  · rw [if_pos q2, if_neg (by decide)]
    obtain ⟨h1, h2, h3, h4, h5, h6, h7⟩ := oA
    obtain ⟨B, eB, dB, fB⟩ := row_addTimes rs16 h1 (x := nI x) x (byte_255 hx2) n (by omega) (by omega)
    rw [eB]
    refine ⟨B, _, _, o ++ List.replicate n x, rfl, cA.fr fB (by decide) (by decide) (by decide), ⟨dB, by rw [fB 15 (by decide)]; exact h2, by rw [fB 15 (by decide)]; exact h3, by simp; omega, by simp; omega, h6, fun b q => (List.mem_append.mp q).elim (h7 b) (fun q => by have := (List.mem_replicate.mp q).2; omega)⟩, fun o' => ?_, fun o' c => ?_, (fA.up (by simp)).tr (fB.up (by simp))⟩
    · have q : ok = true ∧ p < w.length := by simpa using o'
      rw [if_pos q.2] at hx ⊢
      exact ⟨q.1, ⟨q.2, q2⟩, rfl, by rw [hx]⟩
    · rw [o', decide_eq_true c.1]; rfl
  · rw [if_neg q2, if_pos rfl]
    obtain ⟨B, eB, cB, fB⟩ := wr_refuse cA
    rw [eB]
    exact ⟨B, _, false, o, rfl, cB, oA.fr fB (by decide) (by decide) (by decide), fun o => absurd o (by decide), fun _ c => absurd c.2 q2, (fA.up (by simp)).tr (fB.up (by simp))⟩
theorem CR.lim {F : Mem} {w : List Nat} {p lim ss bl : Nat} {ok : Bool} (h : CR F w p lim ss bl ok) {e : Nat} (h1 : p ≤ e) (h2 : e ≤ w.length) : CR (u2 F 25 2 (nI e)) w p e ss bl ok := by
  obtain ⟨k1, ⟨a1, a2, a3, a4, a5⟩, k2, k3, k4, k5, k6⟩ := h
  exact ⟨k1.fr (Fr.u (S := [25]) (by simp)) (by decide) (by decide), ⟨by rw [u2_p (by decide)]; exact a1, u2_s, by rw [u2_p (by decide)]; exact a3, by rw [u2_p (by decide)]; exact a4, by rw [u2_p (by decide)]; exact a5⟩, h1, h2, k4, k5, k6⟩
/-- the rest of the literals, and whether all was read -/
theorem fr_pack63 {F : Mem} {w : List Nat} {p e ss bl fs fe : Nat} {ok : Bool} {lits : List Nat} {x : ES} (h : CR F w p e ss bl ok) (k : CK F fs fe lits x) :
    ∃ G ok' o', b_Fr_readPack_63 L1 15 F = some G ∧ CR G w p w.length ss bl ok' ∧ CO G fs fe o' ∧ CRp G x.2.2 ∧ (ok' = true → ok = true ∧ p = e ∧ litS fe lits (lits.length - x.2.1) x.1 x.2.1 = some o') ∧ (ok = true → p = e → litS fe lits (lits.length - x.2.1) x.1 x.2.1 ≠ none → ok' = true) ∧ Fr [15, 16, 17, 25] F G ∧ G 15 6 = F 15 6 := by
  obtain ⟨k1, k2, k3⟩ := k
  have h5 := h.2.2.2.2.2.1
  have hpe := h.2.2.1
  have hew := h.2.2.2.1
  obtain ⟨A, oA, uA, eA, cA, coA, clA, rA, fA, tA⟩ := fr_lits h k1 k2 (n := lits.length - x.2.1) (by have := k2.2.2.2.1; omega)
  have e96 : ∀ (B : Mem) (ok1 : Bool), CR B w p e ss bl ok1 → b_Fr_readPack_96 L1 15 B = some (u2 B 25 2 (nI w.length)) := fun B ok1 c => by
    unfold b_Fr_readPack_96
    rw [r151, r250, ld, c.1.1]
  unfold b_Fr_readPack_63
  rw [r151, r155, k2.1.1, k2.2.1, pk_sub k2.2.2.1, eA]
  dsimp only [Option.bind_some]
  rw [wr_left cA]
  dsimp only [Option.bind_some]
  have fin : ∀ (B : Mem) (ok1 : Bool), CR B w p e ss bl ok1 → Fr [25] A B → (ok1 = true → (ok && (litS fe lits (lits.length - x.2.1) x.1 x.2.1).isSome) = true ∧ p = e) → ((ok && (litS fe lits (lits.length - x.2.1) x.1 x.2.1).isSome) = true → p = e → ok1 = true) → ∃ G ok' o', b_Fr_readPack_96 L1 15 B = some G ∧ CR G w p w.length ss bl ok' ∧ CO G fs fe o' ∧ CRp G x.2.2 ∧ (ok' = true → ok = true ∧ p = e ∧ litS fe lits (lits.length - x.2.1) x.1 x.2.1 = some o') ∧ (ok = true → p = e → litS fe lits (lits.length - x.2.1) x.1 x.2.1 ≠ none → ok' = true) ∧ Fr [15, 16, 17, 25] F G ∧ G 15 6 = F 15 6 := by
    intro B ok1 c f g1 g2
    have fu : Fr [25] B (u2 B 25 2 (nI w.length)) := Fr.u (by simp)
    have fAB : Fr [25] A (u2 B 25 2 (nI w.length)) := f.tr fu
    refine ⟨_, ok1, oA, e96 B ok1 c, c.lim (by omega) (Nat.le_refl _), coA.fr fAB (by decide) (by decide) (by decide), (k3.fr fA (by decide)).fr fAB (by decide), fun o => ?_, fun o q s => ?_, fA.tr (fAB.up (by simp)), by rw [fAB 15 (by decide), tA]⟩
    · obtain ⟨q1, q2⟩ := g1 o
      have q3 : ok = true ∧ (litS fe lits (lits.length - x.2.1) x.1 x.2.1).isSome = true := by simpa using q1
      obtain ⟨z, hz⟩ := Option.isSome_iff_exists.mp q3.2
      refine ⟨q3.1, q2, ?_⟩
      rw [hz, (rA z hz).1]
    · obtain ⟨z, hz⟩ := Option.ne_none_iff_exists'.mp s
      exact g2 (by rw [o, hz]; rfl) q
  by_cases q : p = e
  · rw [if_pos (show nI (e - p) = 0 by rw [q, Nat.sub_self]; rfl)]
    exact fin A _ cA Fr.rf (fun o => ⟨o, q⟩) (fun o _ => o)
  · rw [if_neg (show ¬ nI (e - p) = 0 from nne (b := 0) (by omega) (by omega) (by omega))]
    obtain ⟨B, eB, cB, fB⟩ := wr_refuse cA
    rw [eB]
    dsimp only [Option.bind_some]
    exact fin B false cB fB (fun o => absurd o (by decide)) (fun _ c => absurd c q)
theorem fr_pack {F : Mem} {w : List Nat} {p ss bl fs fe n : Nat} {ok : Bool} {b : BSt} (h : CR F w p w.length ss bl ok) (cb : CB F fs fe b.1 b.2.1) (k : ok = true → KT F b.2.2.1 ∧ KN F b.2.2.2) (hn : n < 2 ^ 20) :
    ∃ G p' ss' bl' ok' b', f_Fr_readPack L1 15 (nI n) F = some G ∧ CR G w p' w.length ss' bl' ok' ∧ CB G fs fe b'.1 b'.2.1 ∧ (ok' = true → ok = true ∧ p + n ≤ w.length ∧ packS w (p + n) fs fe p b = some b' ∧ p' = p + n ∧ KT G b'.2.2.1 ∧ KN G b'.2.2.2) ∧ (ok = true → p + n ≤ w.length → packS w (p + n) fs fe p b ≠ none → ok' = true) ∧ Fr FS F G := by
  have hp := h.2.2.1
  have h5 := h.2.2.2.2.2.1
  have hw := h.2.2.2.2.2.2
  obtain ⟨co, crp, wb, ct, csb⟩ := id cb
  unfold f_Fr_readPack
  rw [r151, r152, wr_left h]
  dsimp only [Option.bind_some]
  by_cases q : p + n ≤ w.length
  · rw [ile (by omega) (by omega)]
    obtain ⟨A, hA⟩ : ∃ A, A = u2 F 25 2 (nI (p + n)) := ⟨_, rfl⟩
    have cA : CR A w p (p + n) ss bl ok := by rw [hA]; exact h.lim (by omega) q
    have fA : Fr [25] F A := by rw [hA]; exact Fr.u (by simp)
    rw [h.2.1.1, nI_add, ld, ← hA]
    -- the literals
    obtain ⟨B, pB, ssB, blB, okB, lits, kt', eB, cB, clB, wbB, gB, nB, fB, jB⟩ := fr_literals cA (wb.fr fA (by decide)) (fun o => (k o).1.fr fA (by decide) (by decide) (by decide) (by rw [fA 15 (by decide)]))
    rw [eB]
    dsimp only [Option.bind_some]
    have fFB : Fr [15, 19, 20, 21, 22, 23, 24, 25] F B := (fA.up (by simp)).tr fB
    have e15 : ∀ j, j ≠ 6 → j ≠ 7 → B 15 j = F 15 j := fun j h6 h7 => by rw [jB j h6 h7, fA 15 (by decide)]
    have coB : CO B fs fe b.1 := co.eq fFB (by decide) (by decide) (e15 8 (by decide) (by decide)) (e15 9 (by decide) (by decide))
    have rpB : CRp B b.2.1 := crp.fr fFB (by decide)
    have ctB : CT B := ct.fr fFB (by decide)
    have csB : CSb B := csb.fr fFB (by decide) (by decide) (by decide)
    have knB : okB = true → KN B b.2.2.2 := fun o => (k (gB o).1).2.fr fFB (by simp; omega)
    -- how many sequences
    obtain ⟨C, eC, cC, fC⟩ := wr_byte cB
    obtain ⟨c, hc⟩ : ∃ c, c = (if pB < p + n then w.getD pB 0 else 0) := ⟨_, rfl⟩
    have hc2 : c < 256 := by have := nI_byte hw pB; rw [hc]; split <;> omega
    rw [← hc] at eC
    rw [eC]
    dsimp only [Option.bind_some]
    obtain ⟨okC, hokC⟩ : ∃ o, o = (okB && decide (pB < p + n)) := ⟨_, rfl⟩
    rw [← hokC] at cC
    obtain ⟨pC, hpC⟩ : ∃ q, q = (if pB < p + n then pB + 1 else pB) := ⟨_, rfl⟩
    rw [← hpC] at cC
    have hC1 : okC = true → okB = true ∧ pB < p + n ∧ c = w.getD pB 0 ∧ pC = pB + 1 := fun o => by
      rw [hokC] at o
      have : okB = true ∧ pB < p + n := by simpa using o
      rw [if_pos this.2] at hc hpC
      exact ⟨this.1, this.2, hc, hpC⟩
    have hC2 : okB = true → pB < p + n → okC = true := fun o q => by rw [hokC, o, decide_eq_true q]; rfl
    have ckC : CK C fs fe lits (b.1, 0, b.2.1) := ⟨coB.fr fC (by decide) (by decide) (by decide), clB.fr fC (by decide) (by decide) (by decide), rpB.fr fC (by decide)⟩
    -- the end, from the sequences put
    have fin : ∀ (D : Mem) (pD ssD blD : Nat) (okD : Bool) (x : ES) (kn' : Option T3), CR D w pD (p + n) ssD blD okD → CK D fs fe lits x → Fr FS C D → D 15 6 = C 15 6 → 20 ∉ ([] : List Nat) → D 20 = C 20 → D 19 = C 19 → D 22 = C 22 → CT D → CSb D → (okD = true → okC = true ∧ KN D kn' ∧ ∃ qs, seqsM w (p + n) b.2.2.2 pB = some (qs, pD, kn') ∧ exsS fs fe lits qs (b.1, 0, b.2.1) = some x) → (okC = true → ∀ qs kn'', seqsM w (p + n) b.2.2.2 pB = some (qs, p + n, kn'') → exsS fs fe lits qs (b.1, 0, b.2.1) ≠ none → okD = true ∧ pD = p + n) →
        ∃ G p' ss' bl' ok' b', b_Fr_readPack_63 L1 15 D = some G ∧ CR G w p' w.length ss' bl' ok' ∧ CB G fs fe b'.1 b'.2.1 ∧ (ok' = true → ok = true ∧ p + n ≤ w.length ∧ packS w (p + n) fs fe p b = some b' ∧ p' = p + n ∧ KT G b'.2.2.1 ∧ KN G b'.2.2.2) ∧ (ok = true → p + n ≤ w.length → packS w (p + n) fs fe p b ≠ none → ok' = true) ∧ Fr FS F G := by
      intro D pD ssD blD okD x kn' cD ckD fD d6 _ d20 d19 d22 ctD csD g1 g2
      obtain ⟨G, ok', o', eG, cG, coG, crG, k1, k2, fG, t6⟩ := fr_pack63 cD ckD
      have wG : WB G := fun i hi => by rw [fG 20 (by decide), d20, fC 20 (by decide)]; exact wbB i hi
      refine ⟨G, pD, ssD, blD, ok', (o', x.2.2, kt', kn'), eG, cG, ⟨coG, crG, wG, ctD.fr fG (by decide), csD.fr fG (by decide) (by decide) (by decide)⟩, fun o => ?_, fun o _ hs => ?_, ((fFB.up (by simp)).tr (fC.up (by simp))).tr (fD.tr (fG.up (by simp)))⟩
      · obtain ⟨oD, eD, lD⟩ := k1 o
        obtain ⟨oC, knD, qs, s1, s2⟩ := g1 oD
        obtain ⟨oB, -⟩ := hC1 oC
        obtain ⟨o1, l1, kt1⟩ := gB oB
        refine ⟨o1, q, ?_, eD, ?_, knD.fr fG (by simp; omega)⟩
        · unfold packS
          rw [l1]
          dsimp only [Option.bind_some]
          rw [s1]
          dsimp only [Option.bind_some]
          rw [if_pos eD]
          unfold finS
          rw [s2]
          dsimp only [Option.bind_some]
          rw [lD]
          rfl
        · refine ⟨by rw [t6, d6, fC 15 (by decide)]; exact kt1.1, fun T eT => ?_⟩
          have := (kt1.2 T eT).fr fC (by decide) (by decide) (by decide)
          unfold CTr OW at *
          rw [fG 19 (by decide), fG 20 (by decide), fG 22 (by decide), d19, d20, d22]
          exact this
      · unfold packS at hs
        cases e1 : litsS w (p + n) b.2.2.1 p with
        | none => rw [e1] at hs; exact absurd rfl hs
        | some l =>
          have oB := nB o (by rw [e1]; simp)
          obtain ⟨-, l1, -⟩ := gB oB
          rw [l1] at hs
          dsimp only [Option.bind_some] at hs
          cases e2 : seqsM w (p + n) b.2.2.2 pB with
          | none => rw [e2] at hs; exact absurd rfl hs
          | some z =>
            rw [e2] at hs
            dsimp only [Option.bind_some] at hs
            by_cases qz : z.2.1 = p + n
            · rw [if_pos qz] at hs
              have pBn : pB < p + n := by
                unfold seqsM at e2
                by_cases c : pB < p + n
                · exact c
                · rw [if_neg c] at e2
                  exact absurd e2 (by simp)
              have oC := hC2 oB pBn
              have e2' : seqsM w (p + n) b.2.2.2 pB = some (z.1, p + n, z.2.2) := by rw [e2, ← qz]
              unfold finS at hs
              cases e3 : exsS fs fe lits z.1 (b.1, 0, b.2.1) with
              | none => rw [e3] at hs; exact absurd rfl hs
              | some y =>
                obtain ⟨oD, eD⟩ := g2 oC z.1 z.2.2 e2' (by rw [e3]; simp)
                obtain ⟨-, -, qs, s1, s2⟩ := g1 oD
                rw [e2'] at s1
                injection s1 with s1
                injection s1 with s1 _
                subst s1
                rw [e3] at s2
                injection s2 with s2
                subst s2
                rw [e3] at hs
                dsimp only [Option.bind_some] at hs
                refine k2 oD eD (fun e4 => ?_)
                rw [e4] at hs
                exact absurd rfl hs
            · rw [if_neg qz] at hs
              exact absurd rfl hs
    by_cases q0 : c = 0
    · rw [if_pos (show nI c ≤ 0 by rw [q0]; decide)]
      refine fin C pC ssB blB okC (b.1, 0, b.2.1) b.2.2.2 cC ckC Fr.rf rfl (by simp) rfl rfl rfl (ctB.fr fC (by decide)) (csB.fr fC (by decide) (by decide) (by decide)) (fun o => ?_) (fun o qs kn'' s1 s2 => ?_)
      · obtain ⟨oB, h1, h2, h3⟩ := hC1 o
        refine ⟨o, (knB oB).fr fC (by simp; omega), [], ?_, rfl⟩
        unfold seqsM
        rw [if_pos h1, ← h2, if_pos q0, h3]
      · obtain ⟨oB, h1, h2, h3⟩ := hC1 o
        unfold seqsM at s1
        rw [if_pos h1, ← h2, if_pos q0] at s1
        injection s1 with s1
        injection s1 with s1 s3
        injection s3 with s3 s4
        exact ⟨o, by omega⟩
    · rw [if_neg (show ¬ nI c ≤ 0 from fun q => absurd ((nI_leI (b := 0) (by omega) (by omega)).mp q) (by omega))]
      have hks : okC = true → C 26 5 = (if (b.2.2.2).isSome then 1 else 0) ∧ ∀ t, b.2.2.2 = some t → CTs C t := fun o => by
        have := (knB (hC1 o).1).fr fC (by simp; omega)
        exact ⟨this.1, fun t e => (this.2 t e).1⟩
      obtain ⟨D, pD, okD, eD, cD, g1, g2, d5, ctD, csD, fD⟩ := take_tables b.2.2.2 (ctB.fr fC (by decide)) (csB.fr fC (by decide) (by decide) (by decide)) cC hks
      rw [eD]
      dsimp only [Option.bind_some]
      obtain ⟨t, ht⟩ : ∃ t : T3, okD = true → tabsS w (p + n) b.2.2.2 pC = some (t, pD) ∧ CTs D t := by
        cases okD with
        | false => exact ⟨(.inl 0, .inl 0, .inl 0), fun o => absurd o (by decide)⟩
        | true =>
          obtain ⟨-, t, q⟩ := g1 rfl
          exact ⟨t, fun _ => q⟩
      have tg : okD = true → TG3 t := fun o => (tabsS_good hw (ht o).1 (fun t e => ((knB (hC1 (g1 o).1).1).2 t e).2)).1
      obtain ⟨E, pE, ssE, blE, okE, xE, eE, cE, ckE, csE, k1, k2, fE, t6, t5⟩ := fr_seqs (t := t) (c := c) cD (by omega) hc2 csD (fun o => ⟨(ht o).2, tg o⟩) (ckC.fr fD (by simp))
      rw [eE]
      dsimp only [Option.bind_some]
      refine fin E pE ssE blE okE xE (some t) cE ckE ((fD.up (by simp)).tr (fE.up (by simp))) (by rw [t6, fD 15 (by decide)]) (by simp) (by rw [fE 20 (by decide), fD 20 (by decide)]) (by rw [fE 19 (by decide), fD 19 (by decide)]) (by rw [fE 22 (by decide), fD 22 (by decide)]) (ctD.fr fE (by decide)) csE (fun o => ?_) (fun o qs kn'' s1 s2 => ?_)
      · obtain ⟨oD, e1, e2, e3⟩ := k1 o
        obtain ⟨oC, -⟩ := g1 oD
        obtain ⟨oB, h1, h2, h3⟩ := hC1 oC
        rw [str_read] at e2
        cases e4 : readS w (p + n) t c pD with
        | none => rw [e4] at e2; exact absurd e2 (by simp)
        | some qs =>
          rw [e4] at e2
          refine ⟨oC, ⟨by rw [t5, d5]; rfl, fun t' e' => by injection e' with e'; subst e'; exact ⟨e3, tg oD⟩⟩, qs, ?_, e2⟩
          unfold seqsM
          rw [if_pos h1, ← h2, if_neg q0, ← h3, (ht oD).1]
          dsimp only [Option.bind_some]
          rw [e4, e1]
          rfl
      · obtain ⟨oB, h1, h2, h3⟩ := hC1 o
        unfold seqsM at s1
        rw [if_pos h1, ← h2, if_neg q0, ← h3] at s1
        cases e3 : tabsS w (p + n) b.2.2.2 pC with
        | none => rw [e3] at s1; exact absurd s1 (by simp)
        | some z =>
          have oD := g2 o (by rw [e3]; simp)
          rw [(ht oD).1] at s1
          dsimp only [Option.bind_some] at s1
          cases e4 : readS w (p + n) t c pD with
          | none => rw [e4] at s1; exact absurd s1 (by simp)
          | some qs' =>
            rw [e4] at s1
            dsimp only [Option.bind_some] at s1
            injection s1 with s1
            injection s1 with s1 s3
            subst s1
            have oE := k2 oD (by rw [str_read, e4]; exact s2)
            exact ⟨oE, (k1 oE).2.1⟩
  · rw [ilen (by omega) (by omega)]
    obtain ⟨A, eA, cA, fA⟩ := wr_refuse h
    rw [eA]
    refine ⟨A, p, ss, bl, false, b, rfl, cA, ⟨co.fr fA (by decide) (by decide) (by decide), crp.fr fA (by decide), wb.fr fA (by decide), ct.fr fA (by decide), csb.fr fA (by decide) (by decide) (by decide)⟩, fun o => absurd o (by decide), fun _ c => absurd c q, fA.up (by simp)⟩
