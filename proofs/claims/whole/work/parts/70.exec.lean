/-! pure: literals and matches are put; the class -/
/-- n bytes, each the one w places back -/
def copyM (w : Nat) : Nat → List Nat → List Nat
  | 0, o => o
  | n + 1, o => copyM w n (o ++ [o.getD (o.length - w) 0])
def iS (v a : Nat) : Nat := if a = 0 then v + 1 else v
def wayS (v a : Nat) (r : N3) : Nat := if 3 < v then v - 3 else if iS v a = 1 then r.1 else if iS v a = 2 then r.2.1 else if iS v a = 3 then r.2.2 else r.1 - 1
def keepS (v a y : Nat) (r : N3) : N3 := if iS v a = 1 then r else if iS v a = 2 then (y, r.1, r.2.2) else (y, r.1, r.2.1)
abbrev ES : Type := List Nat × Nat × N3
def litS (fe : Nat) (lits : List Nat) (n : Nat) (o : List Nat) (u : Nat) : Option (List Nat) := if u + n ≤ lits.length ∧ o.length + n ≤ fe then some (o ++ (lits.drop u).take n) else none
def matS (fs fe v m a : Nat) (o : List Nat) (r : N3) : Option (List Nat × N3) := if 1 ≤ wayS v a r ∧ wayS v a r ≤ o.length - fs ∧ o.length + m ≤ fe then some (copyM (wayS v a r) m o, keepS v a (wayS v a r) r) else none
def exS (fs fe : Nat) (lits : List Nat) (q : N3) (x : ES) : Option ES := (litS fe lits q.2.2 x.1 x.2.1).bind fun o => (matS fs fe q.1 q.2.1 q.2.2 o x.2.2).bind fun z => some (z.1, x.2.1 + q.2.2, z.2)
theorem copyM_len (w : Nat) : ∀ n o, (copyM w n o).length = o.length + n
  | 0, o => rfl
  | n + 1, o => by
    show (copyM w n (o ++ [o.getD (o.length - w) 0])).length = _
    rw [copyM_len w n, List.length_append]
    simp
    omega
theorem copyM_byte (w : Nat) : ∀ n o, (∀ b ∈ o, b < 256) → ∀ b ∈ copyM w n o, b < 256
  | 0, o, h => h
  | n + 1, o, h => by
    refine copyM_byte w n (o ++ [o.getD (o.length - w) 0]) (fun b hb => ?_)
    rcases List.mem_append.mp hb with q | q
    · exact h b q
    · rw [List.mem_singleton] at q
      rw [q]
      exact nI_byte h _
/-- OUT, its frame from fs to fe -/
def CO (F : Mem) (fs fe : Nat) (o : List Nat) : Prop := RD F 16 17 o ∧ F 15 8 = nI fs ∧ F 15 9 = nI fe ∧ fs ≤ o.length ∧ o.length ≤ fe ∧ fe ≤ 120 ∧ ∀ b ∈ o, b < 256
def CL (F : Mem) (lits : List Nat) (u : Nat) : Prop := RD F 23 24 lits ∧ F 15 7 = nI u ∧ u ≤ lits.length ∧ lits.length ≤ 63 ∧ ∀ b ∈ lits, b < 256
def CRp (F : Mem) (r : N3) : Prop := (F 18 0 = nI r.1 ∧ F 18 1 = nI r.2.1 ∧ F 18 2 = nI r.2.2) ∧ (1 ≤ r.1 ∧ r.1 ≤ 255) ∧ (1 ≤ r.2.1 ∧ r.2.1 ≤ 255) ∧ (1 ≤ r.2.2 ∧ r.2.2 ≤ 255)
theorem rs16 : RS L1 16 17 120 := ⟨rfl, by decide, rfl, by decide, by decide⟩
theorem rs23 : RS L1 23 24 63 := ⟨rfl, by decide, rfl, by decide, by decide⟩
theorem r150 : mRf L1 15 0 = 16 := rfl
theorem r151 : mRf L1 15 1 = 25 := rfl
theorem r152 : mRf L1 15 2 = 26 := rfl
theorem r153 : mRf L1 15 3 = 18 := rfl
theorem r154 : mRf L1 15 4 = 19 := rfl
theorem r155 : mRf L1 15 5 = 23 := rfl
theorem CO.fr {F G : Mem} {fs fe : Nat} {o : List Nat} {S : List Nat} (h : CO F fs fe o) (f : Fr S F G) (n1 : 15 ∉ S) (n2 : 16 ∉ S) (n3 : 17 ∉ S) : CO G fs fe o := ⟨h.1.fr f n2 n3, by rw [f 15 n1]; exact h.2.1, by rw [f 15 n1]; exact h.2.2.1, h.2.2.2⟩
theorem CL.fr {F G : Mem} {lits : List Nat} {u : Nat} {S : List Nat} (h : CL F lits u) (f : Fr S F G) (n1 : 15 ∉ S) (n2 : 23 ∉ S) (n3 : 24 ∉ S) : CL G lits u := ⟨h.1.fr f n2 n3, by rw [f 15 n1]; exact h.2.1, h.2.2⟩
theorem CRp.fr {F G : Mem} {r : N3} {S : List Nat} (h : CRp F r) (f : Fr S F G) (n1 : 18 ∉ S) : CRp G r := ⟨by rw [f 18 n1]; exact h.1, h.2⟩
theorem fr_fits {F : Mem} {fs fe : Nat} {o : List Nat} (h : CO F fs fe o) {n : Nat} (hn : n < 2 ^ 20) : f_Fr_fits L1 15 (nI n) F = some (if o.length + n ≤ fe then 1 else 0, F) := by
  obtain ⟨h1, h2, h3, h4, h5, h6, h7⟩ := h
  unfold f_Fr_fits b_Fr_fits_21
  rw [r150, h3, h1.1, pk_sub h5]
  by_cases q : o.length + n ≤ fe
  · rw [iltn (by omega) (by omega), if_pos zb1, if_pos q]
  · rw [ilt (by omega) (by omega), if_pos zb0, if_neg q]
theorem take_drop_succ {l : List Nat} {u d : Nat} (h : u < l.length) : (l.drop u).take (d + 1) = l.getD u 0 :: (l.drop (u + 1)).take d := by
  rw [List.drop_eq_getElem_cons h, List.take_succ_cons, List.getD_eq_getElem?_getD, List.getElem?_eq_getElem h]
  rfl
theorem put34 {lits : List Nat} {n u fs fe : Nat} (hl : lits.length ≤ 63) (hu : u + n ≤ lits.length) : ∀ (d i : Nat) (F : Mem) (o : List Nat) (fu : Nat), d + i = n → d < fu → CO F fs fe o → RD F 23 24 lits → (∀ b ∈ lits, b < 256) → F 15 7 = nI u → o.length + d ≤ fe →
    ∃ G, f_Fr_putLiterals_34 L1 fu 15 (nI n) (nI i) F = some G ∧ CO G fs fe (o ++ (lits.drop (u + i)).take d) ∧ G 15 7 = nI (u + n) ∧ Fr [15, 16, 17] F G ∧ G 15 6 = F 15 6 := by
  intro d
  induction d with
  | zero =>
    intro i F o fu hd hf ho hr hb h7 hc
    obtain ⟨fu, rfl⟩ : ∃ k, fu = k + 1 := ⟨fu - 1, by omega⟩
    obtain rfl : i = n := by omega
    refine ⟨u2 F 15 7 (nI (u + i)), ?_, ?_, u2_s, Fr.u (by simp), u2_p (by decide)⟩
    · show b_Fr_putLiterals_34 L1 (f_Fr_putLiterals_34 L1 fu) 15 (nI i) (nI i) F = _
      unfold b_Fr_putLiterals_34
      rw [ile (Nat.le_refl _) (by omega), h7, nI_add, ld]
    · rw [List.take_zero, List.append_nil]
      obtain ⟨h1, h2, h3, h4⟩ := ho
      exact ⟨h1.fr (Fr.u (S := [15]) (by simp)) (by decide) (by decide), by rw [u2_p (by decide)]; exact h2, by rw [u2_p (by decide)]; exact h3, h4⟩
  | succ d ih =>
    intro i F o fu hd hf ho hr hb h7 hc
    obtain ⟨fu, rfl⟩ : ∃ k, fu = k + 1 := ⟨fu - 1, by omega⟩
    obtain ⟨h1, h2, h3, h4, h5, h6, h8⟩ := id ho
    have hy : lits.getD (u + i) 0 < 256 := nI_byte hb _
    obtain ⟨G1, e1, d1, f1⟩ := row_add rs16 h1 (by omega) (x := nI (lits.getD (u + i) 0)) _ (byte_255 hy)
    have ho1 : CO G1 fs fe (o ++ [lits.getD (u + i) 0]) := ⟨d1, by rw [f1 15 (by decide)]; exact h2, by rw [f1 15 (by decide)]; exact h3, by simp; omega, by simp; omega, h6, fun b q => (List.mem_append.mp q).elim (h8 b) (fun q => by rw [List.mem_singleton] at q; omega)⟩
    obtain ⟨G2, e2, c2, k2, f2, t2⟩ := ih (i + 1) G1 _ fu (by omega) (by omega) ho1 (hr.fr f1 (by decide) (by decide)) hb (by rw [f1 15 (by decide)]; exact h7) (by simp; omega)
    refine ⟨G2, ?_, ?_, k2, (f1.up (by simp)).tr f2, by rw [t2, f1 15 (by decide)]⟩
    · show b_Fr_putLiterals_34 L1 (f_Fr_putLiterals_34 L1 fu) 15 (nI n) (nI i) F = _
      unfold b_Fr_putLiterals_34
      rw [ilen (by omega) (by omega), h7, nI_add, r150, r155, rs23.1, rs23.gl, if_neg (inb_no (by omega) (by omega)), rs23.ga, nI_clamp (by omega), hr.2 _ (by omega), e1]
      dsimp only [Option.bind_some]
      rw [nI_1]
      exact e2
    · rw [take_drop_succ (by omega)]
      simpa [Nat.add_assoc] using c2
theorem fr_lits {F : Mem} {w : List Nat} {p lim ss bl : Nat} {ok : Bool} {fs fe u n : Nat} {o lits : List Nat} (h : CR F w p lim ss bl ok) (ho : CO F fs fe o) (hl : CL F lits u) (hn : n < 2 ^ 20) :
    ∃ G o' u', f_Fr_putLiterals L1 15 (nI n) F = some G ∧ CR G w p lim ss bl (ok && (litS fe lits n o u).isSome) ∧ CO G fs fe o' ∧ CL G lits u' ∧ (∀ z, litS fe lits n o u = some z → z = o' ∧ u' = u + n) ∧ Fr [15, 16, 17, 25] F G ∧ G 15 6 = F 15 6 := by
  obtain ⟨h1, h2, h3, h4, h5⟩ := id hl
  obtain ⟨A, eA, cA, fA⟩ := wr_refuse h
  have no : ¬ (u + n ≤ lits.length ∧ o.length + n ≤ fe) → litS fe lits n o u = none := fun q => if_neg q
  have b24 : b_Fr_putLiterals_24 L1 15 F = some A := by
    unfold b_Fr_putLiterals_24
    rw [r151, eA]
    rfl
  unfold f_Fr_putLiterals
  rw [r155, h1.1, h2, pk_sub h3]
  by_cases q1 : u + n ≤ lits.length
  · rw [iltn (by omega) (by omega), fr_fits ho hn]
    dsimp only [Option.bind_some]
    by_cases q2 : o.length + n ≤ fe
    · obtain ⟨G, e, c, k, f, t⟩ := put34 h4 q1 n 0 F o mFU (by omega) (by unfold mFU; omega) ho h1 h5 h2 q2
      have e' : litS fe lits n o u = some (o ++ (lits.drop u).take n) := if_pos ⟨q1, q2⟩
      refine ⟨G, _, u + n, ?_, ?_, c, ⟨h1.fr f (by decide) (by decide), k, q1, h4, h5⟩, fun z hz => ?_, f.up (by simp), t⟩
      · rw [if_pos q2, if_neg (by decide)]
        exact e
      · rw [e']
        simpa using h.fr f (by decide) (by decide) (by decide)
      · rw [e'] at hz
        injection hz with hz
        exact ⟨hz.symm, rfl⟩
    · refine ⟨A, o, u, by rw [if_neg q2, if_pos rfl]; exact b24, ?_, ho.fr fA (by decide) (by decide) (by decide), hl.fr fA (by decide) (by decide) (by decide), fun z hz => ?_, fA.up (by simp), by rw [fA 15 (by decide)]⟩
      · rw [no (by omega)]; simpa using cA
      · rw [no (by omega)] at hz; exact absurd hz (by simp)
  · rw [ilt (by omega) (by omega)]
    refine ⟨A, o, u, b24, ?_, ho.fr fA (by decide) (by decide) (by decide), hl.fr fA (by decide) (by decide) (by decide), fun z hz => ?_, fA.up (by simp), by rw [fA 15 (by decide)]⟩
    · rw [no (by omega)]; simpa using cA
    · rw [no (by omega)] at hz; exact absurd hz (by simp)
theorem rp_i {α : Type} {v a : Nat} (hv : v < 256) (ha : a < 2 ^ 20) (k : Int32 → α) : (if nI a = 0 then k (nI v + 1) else k (nI v)) = k (nI (iS v a)) := by
  unfold iS
  by_cases h : a = 0
  · subst h
    rw [if_pos (show nI 0 = (0 : Int32) from rfl), if_pos rfl, nI_1]
  · rw [if_neg (show ¬ nI a = (0 : Int32) from nne (b := 0) h (by omega) (by omega)), if_neg h]
theorem rp_way {F : Mem} {r : N3} (h : CRp F r) {v a : Nat} (hv : v < 256) (ha : a < 2 ^ 20) : f_Rp_wayFor L1 18 (nI v) (nI a) F = some (nI (wayS v a r), F) ∧ wayS v a r ≤ 255 := by
  obtain ⟨⟨h1, h2, h3⟩, ⟨k1, k1'⟩, ⟨k2, k2'⟩, ⟨k3, k3'⟩⟩ := h
  have hi : iS v a < 2 ^ 20 := by unfold iS; split <;> omega
  unfold f_Rp_wayFor
  rw [rp_i hv ha (fun y => b_Rp_wayFor_20 L1 18 y F)]
  unfold b_Rp_wayFor_20 wayS
  by_cases q : 3 < v
  · rw [l3, ilen q (by omega), pk_sub (by omega), if_pos q]
    exact ⟨rfl, by omega⟩
  · rw [l3, ile (by omega) (by omega), if_neg q, l1, l2, h1, h2, h3]
    by_cases q1 : iS v a = 1
    · rw [ieq q1, if_pos q1]
      exact ⟨rfl, k1'⟩
    · rw [ieqn q1 (by omega) (by omega), if_neg q1]
      by_cases q2 : iS v a = 2
      · rw [ieq q2, if_pos q2]
        exact ⟨rfl, k2'⟩
      · rw [ieqn q2 (by omega) (by omega), if_neg q2]
        by_cases q3 : iS v a = 3
        · rw [ieq q3, if_pos q3]
          exact ⟨rfl, k3'⟩
        · rw [ieqn q3 (by omega) (by omega), if_neg q3, pk_sub k1]
          exact ⟨rfl, by omega⟩
theorem rp_keep {F : Mem} {r : N3} (h : CRp F r) {v a : Nat} (hv1 : 1 ≤ v) (hv : v < 256) (ha : a < 2 ^ 20) (hw : 1 ≤ wayS v a r) : ∃ G, f_Rp_keepWay L1 18 (nI v) (nI a) F = some G ∧ CRp G (keepS v a (wayS v a r) r) ∧ Fr [18] F G := by
  obtain ⟨ew, hy⟩ := rp_way h hv ha
  obtain ⟨⟨h1, h2, h3⟩, ⟨k1, k1'⟩, ⟨k2, k2'⟩, ⟨k3, k3'⟩⟩ := id h
  have hi : iS v a < 2 ^ 20 := by unfold iS; split <;> omega
  have hi1 : 1 ≤ iS v a := by unfold iS; split <;> omega
  obtain ⟨y, ey⟩ : ∃ y, y = wayS v a r := ⟨_, rfl⟩
  rw [← ey] at ew hy hw ⊢
  unfold f_Rp_keepWay
  rw [ew]
  dsimp only [Option.bind_some]
  rw [rp_i hv ha (fun z => b_Rp_keepWay_18 L1 18 (nI y) z F)]
  unfold b_Rp_keepWay_18 b_Rp_keepWay_41 keepS
  by_cases q1 : iS v a = 1
  · rw [l1, ieq q1, if_pos q1]
    exact ⟨F, rfl, h, Fr.rf⟩
  · rw [l1, ieqn q1 (by omega) (by omega), if_neg q1, l2]
    by_cases q2 : iS v a = 2
    · rw [ile (by omega) (by omega), if_pos q2, ld, ld]
      refine ⟨_, rfl, ⟨⟨u2_s, ?_, ?_⟩, ⟨hw, hy⟩, ⟨k1, k1'⟩, ⟨k3, k3'⟩⟩, (Fr.u (by simp)).tr (Fr.u (by simp))⟩
      · rw [u2_p (by decide), u2_s]; exact h1
      · rw [u2_p (by decide), u2_p (by decide)]; exact h3
    · rw [ilen (by omega) (by omega), if_neg q2, ld, ld, ld]
      refine ⟨_, rfl, ⟨⟨u2_s, ?_, ?_⟩, ⟨hw, hy⟩, ⟨k1, k1'⟩, ⟨k2, k2'⟩⟩, ((Fr.u (by simp)).tr (Fr.u (by simp))).tr (Fr.u (by simp))⟩
      · rw [u2_p (by decide), u2_s, u2_p (by decide)]; exact h1
      · rw [u2_p (by decide), u2_p (by decide), u2_s]; exact h2
theorem put88 {fs fe m y : Nat} (hm : m < 2 ^ 20) (hy : 1 ≤ y) : ∀ (d i : Nat) (F : Mem) (o : List Nat) (fu : Nat), d + i = m → d < fu → CO F fs fe o → F 26 8 = nI m → y ≤ o.length → o.length + d ≤ fe →
    ∃ G, f_Fr_putMatch_88 L1 fu 15 (nI y) (nI i) F = some G ∧ CO G fs fe (copyM y d o) ∧ Fr [16, 17] F G := by
  intro d
  induction d with
  | zero =>
    intro i F o fu hd hf ho h8 hyo hc
    obtain ⟨fu, rfl⟩ : ∃ k, fu = k + 1 := ⟨fu - 1, by omega⟩
    refine ⟨F, ?_, ho, Fr.rf⟩
    show b_Fr_putMatch_88 L1 (f_Fr_putMatch_88 L1 fu) 15 (nI y) (nI i) F = _
    unfold b_Fr_putMatch_88
    rw [r152, h8, ile (by omega) (by omega)]
  | succ d ih =>
    intro i F o fu hd hf ho h8 hyo hc
    obtain ⟨fu, rfl⟩ : ∃ k, fu = k + 1 := ⟨fu - 1, by omega⟩
    obtain ⟨h1, h2, h3, h4, h5, h6, h7⟩ := id ho
    have hz : o.getD (o.length - y) 0 < 256 := nI_byte h7 _
    obtain ⟨G1, e1, d1, f1⟩ := row_add rs16 h1 (by omega) (x := nI (o.getD (o.length - y) 0)) _ (byte_255 hz)
    have ho1 : CO G1 fs fe (o ++ [o.getD (o.length - y) 0]) := ⟨d1, by rw [f1 15 (by decide)]; exact h2, by rw [f1 15 (by decide)]; exact h3, by simp; omega, by simp; omega, h6, fun b q => (List.mem_append.mp q).elim (h7 b) (fun q => by rw [List.mem_singleton] at q; omega)⟩
    obtain ⟨G2, e2, c2, f2⟩ := ih (i + 1) G1 _ fu (by omega) (by omega) ho1 (by rw [f1 26 (by decide)]; exact h8) (by simp; omega) (by simp; omega)
    refine ⟨G2, ?_, c2, f1.tr f2⟩
    show b_Fr_putMatch_88 L1 (f_Fr_putMatch_88 L1 fu) 15 (nI y) (nI i) F = _
    unfold b_Fr_putMatch_88
    rw [r152, r150, h8, ilen (by omega) (by omega), h1.1, pk_sub hyo, rs16.1, rs16.gl, if_neg (inb_no (by omega) (by omega)), rs16.ga, nI_clamp (by omega), h1.2 _ (by omega), e1]
    dsimp only [Option.bind_some]
    rw [nI_1]
    exact e2
theorem fr_match {F : Mem} {w : List Nat} {p lim ss bl : Nat} {ok : Bool} {fs fe v m a : Nat} {o : List Nat} {r : N3} (h : CR F w p lim ss bl ok) (ho : CO F fs fe o) (hr : CRp F r) (hs : F 26 7 = nI v ∧ F 26 8 = nI m ∧ F 26 6 = nI a) (hb : 1 ≤ v ∧ v < 256 ∧ 3 ≤ m ∧ m < 153 ∧ a < 80) :
    ∃ G o' r', f_Fr_putMatch L1 15 F = some G ∧ CR G w p lim ss bl (ok && (matS fs fe v m a o r).isSome) ∧ CO G fs fe o' ∧ CRp G r' ∧ (∀ z, matS fs fe v m a o r = some z → z = (o', r')) ∧ Fr [16, 17, 18, 25] F G := by
  obtain ⟨h1, h2, h3, h4, h5, h6, h7⟩ := id ho
  obtain ⟨s1, s2, s3⟩ := hs
  obtain ⟨b1, b2, b3, b4, b5⟩ := hb
  obtain ⟨ew, hy⟩ := rp_way hr b2 (show a < 2 ^ 20 by omega)
  obtain ⟨A, eA, cA, fA⟩ := wr_refuse h
  have no : ¬ (1 ≤ wayS v a r ∧ wayS v a r ≤ o.length - fs ∧ o.length + m ≤ fe) → matS fs fe v m a o r = none := fun q => if_neg q
  have b57 : b_Fr_putMatch_57 L1 15 F = some A := by
    unfold b_Fr_putMatch_57
    rw [r151, eA]
    rfl
  have bad : ¬ (1 ≤ wayS v a r ∧ wayS v a r ≤ o.length - fs ∧ o.length + m ≤ fe) → ∃ G o' r', b_Fr_putMatch_57 L1 15 F = some G ∧ CR G w p lim ss bl (ok && (matS fs fe v m a o r).isSome) ∧ CO G fs fe o' ∧ CRp G r' ∧ (∀ z, matS fs fe v m a o r = some z → z = (o', r')) ∧ Fr [16, 17, 18, 25] F G := fun q => by
    refine ⟨A, o, r, b57, ?_, ho.fr fA (by decide) (by decide) (by decide), hr.fr fA (by decide), fun z hz => ?_, fA.up (by simp)⟩
    · rw [no q]; simpa using cA
    · rw [no q] at hz; exact absurd hz (by simp)
  unfold f_Fr_putMatch
  rw [r150, r152, r153, s1, s3, ew]
  dsimp only [Option.bind_some]
  rw [l1]
  by_cases q1 : 1 ≤ wayS v a r
  · rw [iltn q1 (by omega)]
    have el : F 16 1 - F 15 8 = nI (o.length - fs) := by rw [h1.1, h2, pk_sub h4]
    by_cases q2 : wayS v a r ≤ o.length - fs
    · rw [if_neg (show ¬ F 16 1 - F 15 8 < nI (wayS v a r) by rw [el]; exact fun q => absurd ((nI_ltI (by omega) (by omega)).mp q) (by omega)), s2, fr_fits ho (by omega)]
      dsimp only [Option.bind_some]
      by_cases q3 : o.length + m ≤ fe
      · obtain ⟨B, eB, cB, fB⟩ := rp_keep hr b1 b2 (show a < 2 ^ 20 by omega) q1
        obtain ⟨C, eC, cC, fC⟩ := put88 (m := m) (by omega) q1 m 0 B o mFU (by omega) (by unfold mFU; omega) (ho.fr fB (by decide) (by decide) (by decide)) (by rw [fB 26 (by decide)]; exact s2) (by omega) q3
        have e' : matS fs fe v m a o r = some (copyM (wayS v a r) m o, keepS v a (wayS v a r) r) := if_pos ⟨q1, q2, q3⟩
        refine ⟨C, _, _, ?_, ?_, cC, cB.fr fC (by decide), fun z hz => ?_, (fB.up (by simp)).tr (fC.up (by simp))⟩
        · rw [if_pos q3, if_neg (by decide), s1, s3, eB]
          dsimp only [Option.bind_some]
          exact eC
        · rw [e']
          simpa using (h.fr fB (by decide) (by decide) (by decide)).fr fC (by decide) (by decide) (by decide)
        · rw [e'] at hz
          injection hz with hz
          exact hz.symm
      · rw [if_neg q3, if_pos rfl]
        exact bad (by omega)
    · rw [if_pos (show F 16 1 - F 15 8 < nI (wayS v a r) by rw [el]; exact nI_lt (by omega) (by omega))]
      exact bad (by omega)
  · rw [ilt (by omega) (by omega)]
    exact bad (by omega)
