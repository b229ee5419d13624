/-! pure: the class packs -/
theorem app_d {a b : List Nat} (ha : ∀ x ∈ a, x < 256) (hb : ∀ x ∈ b, x < 256) : ∀ x ∈ a ++ b, x < 256 := fun x h => (List.mem_append.mp h).elim (ha x) (hb x)
theorem seqBy_len {q : List N3} (hn : q.length ≤ 40) (hp : ∀ x ∈ q, PQ x) : (seqBy q).length ≤ 200 := by
  unfold seqBy
  have h := cB_len hp q.length (Nat.le_refl _)
  split
  · simp
  · rw [List.length_append, strmS_len, List.length_append, preB_len]
    simp
    omega
theorem prL_b {wt : Nat → Nat} {n : Nat} (hw : ∀ s, s ≤ n → wt s ≤ 7) : ∀ d k, 2 * (k + d) ≤ n + 1 → ∀ b ∈ prL wt n k d, b < 256
  | 0, k, h, b, hb => absurd hb (by simp [prL])
  | d + 1, k, h, b, hb => by
    rcases List.mem_cons.mp (show b ∈ (16 * wt (2 * k) + (if 2 * k + 1 < n then wt (2 * k + 1) else 0)) :: prL wt n (k + 1) d from hb) with e | e
    · have h1 := hw (2 * k) (by omega)
      rw [e]
      split
      · have := hw (2 * k + 1) (by omega)
        omega
      · omega
    · exact prL_b hw d (k + 1) (by omega) b e
theorem lowL_b (xs : List Nat) : ∀ m, lowL xs m ≤ 255
  | 0 => Nat.le_refl _
  | m + 1 => by
    have := lowL_b xs m
    show min _ _ ≤ 255
    omega
theorem litBy_b {xs : List Nat} (hby : ∀ b ∈ xs, b < 256) (h63 : xs.length ≤ 63) : ∀ b ∈ litBy xs, b < 256 := by
  unfold litBy
  have y := nI_byte hby 0
  split
  · intro b hb
    simp only [List.mem_cons, List.not_mem_nil, or_false] at hb
    omega
  · split
    · rename_i t
      obtain ⟨t1, t2, t3, t4, t5⟩ := of_decide_eq_true t
      have h := lh_of hby t1 (by omega) t3 t2
      obtain ⟨jf, -⟩ := jfin_all h
      have wb : ∀ s, s ≤ nS xs → wtE xs s ≤ 7 := fun s hs => by have := (wtE_b h jf hs).1; omega
      have l := lowL_b xs xs.length
      have l' : loS xs ≤ 255 := l
      unfold treeBy
      refine app_d (app_d (app_d ?_ ?_) ?_) ?_
      · intro b hb
        simp only [List.mem_cons, List.not_mem_nil, or_false] at hb
        omega
      · exact prL_b wb _ _ (by omega)
      · intro b hb
        simp only [List.mem_cons, List.not_mem_nil, or_false] at hb
        omega
      · exact strmS_b (sbL_b xs _) _ _
    · intro b hb
      rcases List.mem_cons.mp hb with e | e
      · omega
      · exact hby b e
theorem seqBy_b {q : List N3} (hn : q.length ≤ 40) : ∀ b ∈ seqBy q, b < 256 := by
  unfold seqBy
  split
  · intro b hb
    simp only [List.mem_cons, List.not_mem_nil, or_false] at hb
    omega
  · refine app_d ?_ (strmS_b (app_b (preB_b q) (cB_b q _)) _ _)
    intro b hb
    simp only [List.mem_cons, List.not_mem_nil, or_false] at hb
    omega
/-- the packed body, the block's type, its length and its body -/
def pkS (c : List Nat) : List Nat := litBy (parsed c).1 ++ seqBy (parsed c).2.1
def tyS (c : List Nat) : Nat := if 0 < c.length ∧ smL c c.length = true then 1 else if (parsed c).1.length ≤ 63 ∧ (pkS c).length < c.length then 2 else 0
def blS (c : List Nat) : Nat := if tyS c = 2 then (pkS c).length else c.length
def boS (c : List Nat) : List Nat := if tyS c = 1 then [c.getD 0 0] else if tyS c = 2 then pkS c else c
theorem tyS_3 (c : List Nat) : tyS c < 3 := by
  unfold tyS
  split
  · omega
  · split <;> omega
theorem parsed_b {c : List Nat} (hc : c.length ≤ 120) (hby : ∀ b ∈ c, b < 256) : (parsed c).1.length + 3 * (parsed c).2.1.length ≤ 120 ∧ (∀ b ∈ (parsed c).1, b < 256) ∧ ∀ q ∈ (parsed c).2.1, PQ q := by
  obtain ⟨p', l', pi⟩ := parse_pi hc hby c.length 0 0 _ (by omega) (pi0 c)
  have pi' : PI c p' l' (parsed c) := pi
  obtain ⟨p1, p2, -, p4, p5, -⟩ := pi'
  exact ⟨by omega, p4, p5⟩
theorem bo_b {c : List Nat} (hc : c.length ≤ 120) (hby : ∀ b ∈ c, b < 256) : (∀ b ∈ boS c, b < 256) ∧ (boS c).length ≤ 120 ∧ blS c ≤ 120 := by
  obtain ⟨h1, h2, h3⟩ := parsed_b hc hby
  have y := nI_byte hby 0
  by_cases q1 : tyS c = 1
  · unfold boS blS
    rw [if_pos q1, if_neg (by omega)]
    exact ⟨fun b hb => by simp only [List.mem_cons, List.not_mem_nil, or_false] at hb; omega, by simp, hc⟩
  · by_cases q2 : tyS c = 2
    · unfold boS blS
      rw [if_neg q1, if_pos q2, if_pos q2]
      unfold tyS at q2
      split at q2
      · omega
      · split at q2
        · rename_i k
          exact ⟨app_d (litBy_b h2 k.1) (seqBy_b (by omega)), by omega, by omega⟩
        · omega
    · unfold boS blS
      rw [if_neg q1, if_neg q2, if_neg q2]
      exact ⟨hby, hc, hc⟩
theorem pk_blk {c : List Nat} (hc : c.length ≤ 120) (hby : ∀ b ∈ c, b < 256) {F : Mem} (hd : RD F 1 2 c) (u : UC F) : ∃ G, f_Pk_chooseBlock L1 43 F = some G ∧ RD G 44 45 (boS c) ∧ G 43 11 = nI (tyS c) ∧ G 43 12 = nI (blS c) ∧ Fr [43, 44, 45, 46, 47, 48, 49, 50, 51, 52, 53, 54, 55, 56, 57, 58, 59, 60, 61, 62, 63, 64, 65] F G := by
  obtain ⟨h1, h2, h3⟩ := parsed_b hc hby
  obtain ⟨A, hA⟩ : ∃ A, A = u2 (u2 F 44 1 0) 43 12 (nI c.length) := ⟨_, rfl⟩
  have fA : Fr [43, 44] F A := by rw [hA]; exact (Fr.u (by simp)).tr (Fr.u (by simp))
  have dA : RD A 1 2 c := hd.fr fA (by decide) (by decide)
  have bA : RD A 44 45 [] := ⟨by rw [hA, u2_c (by decide), u2_s]; rfl, fun j hj => absurd hj (by simp)⟩
  have a12 : A 43 12 = nI c.length := by rw [hA, u2_s]
  have eA : f_Pk_chooseBlock L1 43 F = (f_Row_isOneByteOnly L1 1 A).bind fun q8 =>
      if q8.1 = 0 then
        (f_Mf_divide L1 59 q8.2).bind fun F11 =>
        if (63 : Int32) < (F11 60 1) then b_Pk_chooseBlock_115 L1 43 F11
        else
          (f_Pk_addLiterals L1 43 F11).bind fun F15 =>
          (f_Pk_addSequences L1 43 F15).bind fun F17 =>
          if (F17 1 1) ≤ (F17 44 1) then b_Pk_chooseBlock_115 L1 43 F17
          else
            lt' (u2 F17 43 11 (2 : Int32)) fun F21 =>
            lt' (u2 F21 43 12 (F21 44 1)) fun F24 =>
            some F24
      else
        lt' (u2 q8.2 43 11 (1 : Int32)) fun F26 =>
        if inb (0 : Int32) (mGl L1 2) then none else
        (f_Row_add L1 44 (mGa L1 F26 2 (0 : Int32).toNatClampNeg) F26).bind fun F32 =>
        some F32 := by
    unfold f_Pk_chooseBlock
    rw [r434, r430, r431, r591, show mRf L1 1 0 = 2 from rfl, ld, ld, u2_c (show (1 : Nat) ≠ 44 by decide), hd.1, ← hA]
  rw [eA, row_same rs1 dA hc hby (by omega), Option.bind_some]
  dsimp only
  by_cases q1 : 0 < c.length ∧ smL c c.length = true
  · have ty : tyS c = 1 := by unfold tyS; rw [if_pos q1]
    obtain ⟨B, hB⟩ : ∃ B, B = u2 A 43 11 1 := ⟨_, rfl⟩
    have fB : Fr [43] A B := by rw [hB]; exact Fr.u (by simp)
    have dB := dA.fr fB (by decide) (by decide)
    have y := nI_byte hby 0
    obtain ⟨C, eC, dC, fC⟩ := row_add rs44 (bA.fr fB (by decide) (by decide)) (by simp) (x := nI (c.getD 0 0)) _ (byte_255 y)
    rw [if_pos q1, if_neg (show ¬ (1 : Int32) = 0 by decide), ld, ← hB, rs1.gl, if_neg (show ¬ inb (0 : Int32) 120 from inb_no (n := 0) (by omega) (by omega)), show mGa L1 B 2 (0 : Int32).toNatClampNeg = nI (c.getD 0 0) by rw [rs1.ga]; exact dB.2 0 (by omega), eC, Option.bind_some]
    refine ⟨C, rfl, ?_, ?_, ?_, ((fA.up (by simp)).tr (fB.up (by simp))).tr (fC.up (by simp))⟩
    · unfold boS
      rw [if_pos ty]
      exact dC
    · rw [fC 43 (by decide), hB, u2_s, ty]
      rfl
    · rw [fC 43 (by decide), hB, u2_p (by decide), a12]
      unfold blS
      rw [if_neg (by omega)]
  · rw [if_neg q1, if_pos (show (0 : Int32) = 0 from rfl)]
    obtain ⟨B, eB, xB, qB, fB⟩ := mf_divide hc hby dA
    have dB := dA.fr fB (by decide) (by decide)
    rw [eB, Option.bind_some, xB.1]
    have plain : ∀ K : Mem, tyS c = 0 → RD K 1 2 c → K 43 12 = nI c.length → Fr [43, 44, 45, 46, 47, 48, 49, 50, 51, 52, 53, 54, 55, 56, 57, 58, 59, 60, 61, 62, 63, 64, 65] F K → ∃ G, b_Pk_chooseBlock_115 L1 43 K = some G ∧ RD G 44 45 (boS c) ∧ G 43 11 = nI (tyS c) ∧ G 43 12 = nI (blS c) ∧ Fr [43, 44, 45, 46, 47, 48, 49, 50, 51, 52, 53, 54, 55, 56, 57, 58, 59, 60, 61, 62, 63, 64, 65] F G := fun K ty dK k12 fK => by
      obtain ⟨M, hM⟩ : ∃ M, M = u2 (u2 K 43 11 0) 44 1 0 := ⟨_, rfl⟩
      have fM : Fr [43, 44] K M := by rw [hM]; exact (Fr.u (by simp)).tr (Fr.u (by simp))
      have bM : RD M 44 45 [] := ⟨by rw [hM, u2_s]; rfl, fun j hj => absurd hj (by simp)⟩
      obtain ⟨N, eN, dN, fN⟩ := row_addRow rs44 rs1 (by decide) (by decide) (by decide) (by decide) bM (dK.fr fM (by decide) (by decide)) hby hc (by omega) (by simp; omega)
      unfold b_Pk_chooseBlock_115
      rw [r434, r430, ld, ld, ← hM, eN, Option.bind_some]
      refine ⟨N, rfl, ?_, ?_, ?_, (fK.tr (fM.up (by simp))).tr (fN.up (by simp))⟩
      · unfold boS
        rw [if_neg (by omega), if_neg (by omega)]
        simpa using dN
      · rw [fN 43 (by decide), hM, u2_c (by decide), u2_s, ty]
        rfl
      · rw [fN 43 (by decide), hM, u2_c (by decide), u2_p (by decide), k12]
        unfold blS
        rw [if_neg (by omega)]
    have fFB : Fr [43, 44, 45, 46, 47, 48, 49, 50, 51, 52, 53, 54, 55, 56, 57, 58, 59, 60, 61, 62, 63, 64, 65] F B := (fA.up (by simp)).tr (fB.up (by simp))
    have b12 : B 43 12 = nI c.length := by rw [fB 43 (by decide), a12]
    by_cases q2 : (parsed c).1.length ≤ 63
    · rw [if_neg (show ¬ (63 : Int32) < nI (parsed c).1.length from fun k => absurd ((nI_ltI (a := 63) (by omega) (by omega)).mp k) (by omega))]
      obtain ⟨C, eC, dC, fC⟩ := pk_lits h2 q2 xB (bA.fr fB (by decide) (by decide))
      have ll := litBy_len (parsed c).1
      have uC : UC C := u.fr ((fFB.tr (fC.up (by simp)))) (by simp; omega)
      obtain ⟨D, eD, dD, fD⟩ := pk_addSeqs (q := (parsed c).2.1) (by omega) h3 (by omega) uC (qB.fr fC (by decide) (by decide) (by decide) (by rw [fC 59 (by decide)])) dC
      have fFD : Fr [43, 44, 45, 46, 47, 48, 49, 50, 51, 52, 53, 54, 55, 56, 57, 58, 59, 60, 61, 62, 63, 64, 65] F D := (fFB.tr (fC.up (by simp))).tr (fD.up (by simp))
      have dD1 : RD D 1 2 c := hd.fr fFD (by decide) (by decide)
      have d12 : D 43 12 = nI c.length := by rw [fD 43 (by decide), fC 43 (by decide), b12]
      have dD' : RD D 44 45 (pkS c) := dD
      rw [eC, Option.bind_some, eD, Option.bind_some, dD1.1, dD'.1]
      by_cases q3 : (pkS c).length < c.length
      · have ty : tyS c = 2 := by unfold tyS; rw [if_neg q1, if_pos ⟨q2, q3⟩]
        obtain ⟨E, hE⟩ : ∃ E, E = u2 (u2 D 43 11 2) 43 12 (nI (pkS c).length) := ⟨_, rfl⟩
        have fE : Fr [43] D E := by rw [hE]; exact (Fr.u (by simp)).tr (Fr.u (by simp))
        rw [ilen q3 (by omega), ld, ld, u2_c (show (44 : Nat) ≠ 43 by decide), dD'.1, ← hE]
        refine ⟨E, rfl, ?_, ?_, ?_, fFD.tr (fE.up (by simp))⟩
        · unfold boS
          rw [if_neg (by omega), if_pos ty]
          exact dD'.fr fE (by decide) (by decide)
        · rw [hE, u2_p (by decide), u2_s, ty]
          rfl
        · rw [hE, u2_s]
          unfold blS
          rw [if_pos ty]
      · have hl : (pkS c).length < 2 ^ 31 := by
          have e := seqBy_len (q := (parsed c).2.1) (by omega) h3
          unfold pkS
          rw [List.length_append]
          omega
        rw [ile (by omega) hl]
        exact plain D (by unfold tyS; rw [if_neg q1, if_neg (fun k => q3 k.2)]) dD1 d12 fFD
    · rw [if_pos (show (63 : Int32) < nI (parsed c).1.length from nI_lt (a := 63) (by omega) (by omega))]
      exact plain B (by unfold tyS; rw [if_neg q1, if_neg (fun k => q2 k.1)]) dB b12 fFB
