/-! pure: the class adds the sequences -/
theorem r430 : mRf L1 43 0 = 1 := rfl
theorem r431 : mRf L1 43 1 = 59 := rfl
theorem r432 : mRf L1 43 2 = 5 := rfl
theorem r433 : mRf L1 43 3 = 10 := rfl
theorem r434 : mRf L1 43 4 = 44 := rfl
theorem r435 : mRf L1 43 5 = 46 := rfl
theorem r436 : mRf L1 43 6 = 48 := rfl
theorem r437 : mRf L1 43 7 = 52 := rfl
theorem r438 : mRf L1 43 8 = 56 := rfl
theorem r439 : mRf L1 43 9 = 57 := rfl
theorem r4310 : mRf L1 43 10 = 58 := rfl
theorem uo0 : UO 0 5 6 7 8 := Or.inl ⟨rfl, rfl, rfl, rfl, rfl⟩
theorem uo1 : UO 1 10 11 12 13 := Or.inr ⟨rfl, rfl, rfl, rfl, rfl⟩
theorem g_le {qs : List N3} (h : ∀ q ∈ qs, PQ q) {i : Nat} (hi : i < qs.length) : PQ (qs.getD i (0, 0, 0)) := h _ (by rw [List.getD_eq_getElem?_getD, List.getElem?_eq_getElem hi]; exact List.getElem_mem _)
theorem pk_choose {k i a1 a2 a3 : Nat} (o : UO k i a1 a2 a3) {F : Mem} (u : UC F) {cd : Nat → Nat} {n j arr : Nat} (ha : arr = 56 ∨ arr = 57 ∨ arr = 58) (hn : n ≤ 40) (h6 : F 59 6 = nI n) (hj : j < n) (hc : cd j < 2 ^ 20) (hs : j + 1 < n → F arr (j + 1) = nI (stF k cd n (j + 1))) : f_Pk_chooseState L1 43 i (nI (cd j)) arr (nI j) F = some (u2 F arr j (nI (stF k cd n j))) := by
  have e1 : mLn L1 arr = 40 ∧ mGl L1 arr = 40 ∧ arr < mNc L1 := by
    rcases ha with rfl | rfl | rfl <;> exact ⟨rfl, rfl, by decide⟩
  obtain ⟨z1, z2, z3⟩ := e1
  unfold f_Pk_chooseState b_Pk_chooseState_41
  rw [r431, h6, l1, pk_sub (by omega)]
  by_cases q : j + 1 = n
  · rw [ieq (by omega)]
    have := st_least o u hc 16 0 mFU (by omega) (by unfold mFU; omega)
    rw [show f_ST_leastStateOf L1 i (nI (cd j)) F = some (nI (lstS k (cd j)), F) from this]
    dsimp only [Option.bind_some]
    rw [z1, if_neg (in_w (n := j) (by omega) (by omega) z3), ld, nI_clamp (by omega), stF_last k cd q]
  · rw [ieqn (by omega) (by omega) (by omega), nI_add, z2, if_neg (inb_no (n := j + 1) (by omega) (by omega)), mGa_n z3, show F arr (nI (j + 1)).toNatClampNeg = nI (stF k cd n (j + 1)) by rw [nI_clamp (by omega)]; exact hs (by omega)]
    have := st_before o u hc (stF_lt k cd n (j + 1)) 16 0 mFU (by omega) (by unfold mFU; omega)
    rw [show f_ST_stateBefore L1 i (nI (cd j)) (nI (stF k cd n (j + 1))) F = some (nI (befS k (cd j) (stF k cd n (j + 1))), F) from this]
    dsimp only [Option.bind_some]
    rw [z1, if_neg (in_w (n := j) (by omega) (by omega) z3), ld, nI_clamp (by omega), stF_step k cd (show j + 1 < n by omega)]
theorem pk_states10 {qs : List N3} (hn : qs.length ≤ 40) (hp : ∀ q ∈ qs, PQ q) : ∀ (m : Nat) (F : Mem) (fu : Nat), m ≤ qs.length → m < fu → UC F → CQ F qs → (∀ j, m ≤ j → j < qs.length → F 56 j = nI (sA qs j) ∧ F 57 j = nI (sW qs j) ∧ F 58 j = nI (sM qs j)) →
    ∃ G, f_Pk_chooseStates_10 L1 fu 43 (nI m - 1) F = some G ∧ (∀ j, j < qs.length → G 56 j = nI (sA qs j) ∧ G 57 j = nI (sW qs j) ∧ G 58 j = nI (sM qs j)) ∧ Fr [56, 57, 58] F G := by
  intro m
  induction m with
  | zero =>
    intro F fu hm hf u q hs
    obtain ⟨fu, rfl⟩ : ∃ k, fu = k + 1 := ⟨fu - 1, by omega⟩
    refine ⟨F, ?_, fun j hj => hs j (by omega) hj, Fr.rf⟩
    show b_Pk_chooseStates_10 L1 (f_Pk_chooseStates_10 L1 fu) 43 (nI 0 - 1) F = _
    unfold b_Pk_chooseStates_10
    rw [if_pos (by decide)]
  | succ m ih =>
    intro F fu hm hf u q hs
    obtain ⟨fu, rfl⟩ : ∃ k, fu = k + 1 := ⟨fu - 1, by omega⟩
    have pm := g_le hp (i := m) (by omega)
    obtain ⟨q1, q2, q3⟩ := q.2 m (by omega)
    have ha : qA qs m < 2 ^ 20 := by have := pm.2.2; unfold qA; omega
    have hm' : qM qs m < 2 ^ 20 := by have := pm.2.1.2; unfold qM; omega
    have hv : 0 < qV qs m ∧ qV qs m < 256 := by have := pm.1; unfold qV; omega
    have hlg : Nat.log2 (qV qs m) < 8 := (Nat.log2_lt (by omega)).mpr hv.2
    have c1 := pk_choose uo0 u (cd := fun j => acS (qA qs j)) (n := qs.length) (j := m) (arr := 56) (by omega) hn q.1 (by omega) (by have := acS_lt (qA qs m); omega) (fun h => (hs (m + 1) (by omega) h).1)
    obtain ⟨A, hA⟩ : ∃ A, A = u2 F 56 m (nI (sA qs m)) := ⟨_, rfl⟩
    have fA : Fr [56] F A := by rw [hA]; exact Fr.u (by simp)
    have uA := u.fr fA (by simp; omega)
    have c2 := pk_choose uo0 uA (cd := fun j => mcS (qM qs j)) (n := qs.length) (j := m) (arr := 58) (by omega) hn (by rw [fA 59 (by decide)]; exact q.1) (by omega) (by have := mcS_lt (qM qs m); omega) (fun h => by rw [fA 58 (by decide)]; exact (hs (m + 1) (by omega) h).2.2)
    obtain ⟨B, hB⟩ : ∃ B, B = u2 A 58 m (nI (sM qs m)) := ⟨_, rfl⟩
    have fB : Fr [58] A B := by rw [hB]; exact Fr.u (by simp)
    have uB := uA.fr fB (by simp; omega)
    have c3 := pk_choose uo1 uB (cd := fun j => Nat.log2 (qV qs j)) (n := qs.length) (j := m) (arr := 57) (by omega) hn (by rw [fB 59 (by decide), fA 59 (by decide)]; exact q.1) (by omega) (by omega) (fun h => by rw [fB 57 (by decide), fA 57 (by decide)]; exact (hs (m + 1) (by omega) h).2.1)
    obtain ⟨C, hC⟩ : ∃ C, C = u2 B 57 m (nI (sW qs m)) := ⟨_, rfl⟩
    have fC : Fr [57] B C := by rw [hC]; exact Fr.u (by simp)
    have uC := uB.fr fC (by simp; omega)
    have fFC : Fr [56, 57, 58] F C := ((fA.up (by simp)).tr (fB.up (by simp))).tr (fC.up (by simp))
    obtain ⟨G, eG, g1, fG⟩ := ih C fu (by omega) (by omega) uC (q.fr fFC (by decide) (by decide) (by decide) (by rw [fFC 59 (by decide)])) (fun j h1 h2 => by
      rcases Nat.eq_or_lt_of_le h1 with rfl | h1
      · refine ⟨?_, ?_, ?_⟩
        · rw [fC 56 (by decide), fB 56 (by decide), hA, u2_s]
        · rw [hC, u2_s]
        · rw [fC 58 (by decide), hB, u2_s]
      · obtain ⟨s1, s2, s3⟩ := hs j (by omega) h2
        refine ⟨?_, ?_, ?_⟩
        · rw [fC 56 (by decide), fB 56 (by decide), hA, u2_p (by omega)]; exact s1
        · rw [hC, u2_p (by omega), fB 57 (by decide), fA 57 (by decide)]; exact s2
        · rw [fC 58 (by decide), hB, u2_p (by omega), fA 58 (by decide)]; exact s3)
    refine ⟨G, ?_, g1, fFC.tr fG⟩
    show b_Pk_chooseStates_10 L1 (f_Pk_chooseStates_10 L1 fu) 43 (nI (m + 1) - 1) F = _
    unfold b_Pk_chooseStates_10
    have e62 : mGa L1 F 62 (nI m).toNatClampNeg = nI (qA qs m) := by rw [mGa_n (show 62 < mNc L1 by decide), nI_clamp (by omega)]; exact q3
    have e64 : mGa L1 A 64 (nI m).toNatClampNeg = nI (qM qs m) := by rw [mGa_n (show 64 < mNc L1 by decide), nI_clamp (by omega), fA 64 (by decide)]; exact q2
    have e63 : mGa L1 B 63 (nI m).toNatClampNeg = nI (qV qs m) := by rw [mGa_n (show 63 < mNc L1 by decide), nI_clamp (by omega), fB 63 (by decide), fA 63 (by decide)]; exact q1
    rw [nI_pred, if_neg (nI_pos (by omega)), r431, r592, r593, r594, r432, r433, r438, r439, r4310, show mGl L1 62 = 40 from rfl, show mGl L1 63 = 40 from rfl, show mGl L1 64 = 40 from rfl, show mNc L1 + 2 = 68 from rfl, show mNc L1 + 4 = 70 from rfl, if_neg (inb_no (n := m) (by omega) (by omega)), e62, pk_acode F ha]
    dsimp only [Option.bind_some]
    rw [show f_Pk_chooseState L1 43 5 (nI (acS (qA qs m))) 56 (nI m) F = some A by rw [hA]; exact c1]
    dsimp only [Option.bind_some]
    rw [if_neg (inb_no (n := m) (by omega) (by omega)), e64, pk_mcode A hm']
    dsimp only [Option.bind_some]
    rw [show f_Pk_chooseState L1 43 5 (nI (mcS (qM qs m))) 58 (nI m) A = some B by rw [hB]; exact c2]
    dsimp only [Option.bind_some]
    rw [if_neg (inb_no (n := m) (by omega) (by omega)), e63, pk_wcode B hv.1 hv.2]
    dsimp only [Option.bind_some]
    rw [show f_Pk_chooseState L1 43 10 (nI (Nat.log2 (qV qs m))) 57 (nI m) B = some C by rw [hC]; exact c3]
    dsimp only [Option.bind_some]
    rw [← Int32.sub_eq_add_neg]
    exact eG
/-- the states stand in the class's arrays -/
def CSt (F : Mem) (qs : List N3) : Prop := ∀ j, j < qs.length → F 56 j = nI (sA qs j) ∧ F 57 j = nI (sW qs j) ∧ F 58 j = nI (sM qs j)
theorem CSt.fr {F G : Mem} {qs : List N3} {S : List Nat} (h : CSt F qs) (f : Fr S F G) (n1 : 56 ∉ S) (n2 : 57 ∉ S) (n3 : 58 ∉ S) : CSt G qs := by
  unfold CSt at *
  rw [f 56 n1, f 57 n2, f 58 n3]
  exact h
theorem pk_next {k i a1 a2 a3 : Nat} (o : UO k i a1 a2 a3) {F : Mem} (u : UC F) {bs : List Nat} (hb : RD F 46 47 bs) (hl : bs.length + 4 ≤ 1280) {arr j n s s' : Nat} (ha : arr = 56 ∨ arr = 57 ∨ arr = 58) (hn : n ≤ 40) (hj1 : 1 ≤ j) (hj : j < n) (h1 : F arr (j - 1) = nI s) (h2 : F arr j = nI s') (hs : s < 16) : ∃ G, f_Pk_addNextState L1 43 i arr (nI j) F = some G ∧ RD G 46 47 (bs ++ bitsS (nI s' - nI (ubs k s)) (uwd k s)) ∧ Fr [46, 47] F G := by
  have e1 : mGl L1 arr = 40 ∧ arr < mNc L1 := by
    rcases ha with rfl | rfl | rfl <;> exact ⟨rfl, by decide⟩
  obtain ⟨z2, z3⟩ := e1
  obtain ⟨⟨r1, r2, r3⟩, ⟨y1, y2, y3⟩, ⟨n1, n2, n3⟩, hk⟩ := o.f
  obtain ⟨g1, g2, g3⟩ := o.g u hs
  have tw := uwd_le k s
  obtain ⟨G, eG, gG, fG⟩ := br_add hb (nI s' - nI (ubs k s)) (n := uwd k s) (by omega) (by omega)
  refine ⟨G, ?_, gG, fG⟩
  unfold f_Pk_addNextState
  have ea : mGa L1 F arr (nI (j - 1)).toNatClampNeg = nI s := by rw [mGa_n z3, nI_clamp (by omega), h1]
  have eb : mGa L1 F arr (nI j).toNatClampNeg = nI s' := by rw [mGa_n z3, nI_clamp (by omega), h2]
  have ec : mGa L1 F a3 (nI s).toNatClampNeg = nI (ubs k s) := by rw [mGa_n n3, nI_clamp (by omega), g3]
  have ed : mGa L1 F a2 (nI s).toNatClampNeg = nI (uwd k s) := by rw [mGa_n n2, nI_clamp (by omega), g2]
  rw [l1, pk_sub hj1, z2, if_neg (inb_no (n := j - 1) (by omega) (by omega)), if_neg (inb_no (n := j) (by omega) (by omega)), ea, eb, r2, r3, y2, y3, if_neg (inb_no (n := s) (by omega) (by omega)), if_neg (inb_no (n := s) (by omega) (by omega)), ec, ed, r435, eG]
  rfl
theorem pk_vals {F : Mem} {qs bs : List Nat} {q : List N3} (hq : CQ F q) (hn : q.length ≤ 40) (hp : ∀ x ∈ q, PQ x) (hb : RD F 46 47 bs) (hl : bs.length + 19 ≤ 1280) {i : Nat} (hi : i < q.length) : ∃ G, f_Pk_addValues L1 43 (nI i) F = some G ∧ RD G 46 47 (bs ++ valB q i) ∧ Fr [46, 47] F G := by
  have pm := g_le hp hi
  obtain ⟨q1, q2, q3⟩ := hq.2 i hi
  have ha : qA q i < 2 ^ 20 := by have := pm.2.2; unfold qA; omega
  have hm' : qM q i < 2 ^ 20 := by have := pm.2.1.2; unfold qM; omega
  have hv : 0 < qV q i ∧ qV q i < 128 := by have := pm.1; unfold qV; omega
  have hlg : Nat.log2 (qV q i) < 7 := (Nat.log2_lt (by omega)).mpr hv.2
  have h1 := mb_le _ (mcS_lt (qM q i))
  have h2 := mb_le _ (acS_lt (qA q i))
  have c1 := mcS_lt (qM q i)
  have c2 := acS_lt (qA q i)
  obtain ⟨A, eA, dA, fA⟩ := br_add hb (nI (qV q i) - nI (2 ^ Nat.log2 (qV q i))) (n := Nat.log2 (qV q i)) (by omega) (by omega)
  obtain ⟨B, eB, dB, fB⟩ := br_add dA (nI (qM q i) - nI (mB (mcS (qM q i)))) (n := mb (mcS (qM q i))) (by omega) (by simp only [List.length_append, bitsS_len]; omega)
  obtain ⟨C, eC, dC, fC⟩ := br_add dB (nI (qA q i) - nI (aB (acS (qA q i)))) (n := ab (acS (qA q i))) (by omega) (by simp only [List.length_append, bitsS_len]; omega)
  refine ⟨C, ?_, ?_, (fA.tr fB).tr fC⟩
  · unfold f_Pk_addValues
    have e63 : mGa L1 F 63 (nI i).toNatClampNeg = nI (qV q i) := by rw [mGa_n (show 63 < mNc L1 by decide), nI_clamp (by omega)]; exact q1
    have e64 : mGa L1 A 64 (nI i).toNatClampNeg = nI (qM q i) := by rw [mGa_n (show 64 < mNc L1 by decide), nI_clamp (by omega), fA 64 (by decide)]; exact q2
    have e62 : mGa L1 B 62 (nI i).toNatClampNeg = nI (qA q i) := by rw [mGa_n (show 62 < mNc L1 by decide), nI_clamp (by omega), fB 62 (by decide), fA 62 (by decide)]; exact q3
    rw [r431, r592, r593, r594, r435, show mGl L1 62 = 40 from rfl, show mGl L1 63 = 40 from rfl, show mGl L1 64 = 40 from rfl, show mNc L1 + 2 = 68 from rfl, show mNc L1 + 4 = 70 from rfl, show mNc L1 + 3 = 69 from rfl, show mNc L1 + 5 = 71 from rfl, show mGl L1 68 = 12 from rfl, show mGl L1 69 = 12 from rfl, show mGl L1 70 = 12 from rfl, show mGl L1 71 = 12 from rfl, if_neg (inb_no (n := i) (by omega) (by omega)), e63, pk_wcode F hv.1 (by omega)]
    dsimp only [Option.bind_some]
    rw [if_neg (inb_no (n := i) (by omega) (by omega)), e63, show jshl (1 : Int32) (nI (Nat.log2 (qV q i))) = nI (2 ^ Nat.log2 (qV q i)) by rw [l1, jshl_n (by omega) (by have : 2 ^ Nat.log2 (qV q i) ≤ 2 ^ 7 := Nat.pow_le_pow_right (by decide) (by omega); omega), Nat.one_mul], eA]
    dsimp only [Option.bind_some]
    rw [if_neg (inb_no (n := i) (by omega) (by omega)), e64, pk_mcode A hm']
    dsimp only [Option.bind_some]
    rw [if_neg (inb_no (n := i) (by omega) (by omega)), e64, if_neg (inb_no (n := mcS (qM q i)) (by omega) (by omega)), if_neg (inb_no (n := mcS (qM q i)) (by omega) (by omega)), show mGa L1 A 70 (nI (mcS (qM q i))).toNatClampNeg = nI (mB (mcS (qM q i))) by rw [nI_clamp (by omega)]; exact s70 A c1, show mGa L1 A 71 (nI (mcS (qM q i))).toNatClampNeg = nI (mb (mcS (qM q i))) by rw [nI_clamp (by omega)]; exact s71 A c1, eB]
    dsimp only [Option.bind_some]
    rw [if_neg (inb_no (n := i) (by omega) (by omega)), e62, pk_acode B ha]
    dsimp only [Option.bind_some]
    rw [if_neg (inb_no (n := i) (by omega) (by omega)), e62, if_neg (inb_no (n := acS (qA q i)) (by omega) (by omega)), if_neg (inb_no (n := acS (qA q i)) (by omega) (by omega)), show mGa L1 B 68 (nI (acS (qA q i))).toNatClampNeg = nI (aB (acS (qA q i))) by rw [nI_clamp (by omega)]; exact s68 B c2, show mGa L1 B 69 (nI (acS (qA q i))).toNatClampNeg = nI (ab (acS (qA q i))) by rw [nI_clamp (by omega)]; exact s69 B c2, eC]
    rfl
  · unfold valB
    rw [List.append_assoc, List.append_assoc] at *
    simpa [List.append_assoc] using dC
theorem pk_seq89 {q : List N3} (hn : q.length ≤ 40) (hp : ∀ x ∈ q, PQ x) {xs : List Nat} (hx : xs.length ≤ 70) : ∀ (d i : Nat) (F : Mem) (fu : Nat), d + i = q.length → d < fu → UC F → CQ F q → CSt F q → RD F 44 45 xs → RD F 46 47 (preB q ++ cB q i) →
    ∃ G, f_Pk_addSequences_89 L1 fu 43 (nI i) F = some G ∧ RD G 44 45 (xs ++ strmS (preB q ++ cB q q.length)) ∧ Fr [44, 45, 46, 47] F G := by
  have tot : ∀ i, i ≤ q.length → (preB q ++ cB q i).length ≤ 12 + 31 * i := fun i hi => by
    rw [List.length_append, preB_len]
    have := cB_len hp i hi
    omega
  have bb : ∀ i, ∀ x ∈ preB q ++ cB q i, x < 2 := fun i => app_b (preB_b q) (cB_b q i)
  intro d
  induction d with
  | zero =>
    intro i F fu hd hf u hq st hb hs
    obtain ⟨fu, rfl⟩ : ∃ k, fu = k + 1 := ⟨fu - 1, by omega⟩
    obtain rfl : i = q.length := by omega
    have t := tot q.length (Nat.le_refl _)
    obtain ⟨G, e, g1, f⟩ := br_stream (bb _) (by omega) hs hb (by omega)
    refine ⟨G, ?_, g1, f.up (by simp)⟩
    show b_Pk_addSequences_89 L1 (f_Pk_addSequences_89 L1 fu) 43 (nI q.length) F = _
    unfold b_Pk_addSequences_89
    rw [r431, hq.1, ile (Nat.le_refl _) (by omega), r435, r434, e]
    rfl
  | succ d ih =>
    intro i F fu hd hf u hq st hb hs
    obtain ⟨fu, rfl⟩ : ∃ k, fu = k + 1 := ⟨fu - 1, by omega⟩
    have t := tot i (by omega)
    -- the values, and on
    have go : ∀ (A : Mem) (bs : List Nat), Fr [46, 47] F A → RD A 46 47 bs → bs = preB q ++ cB q i ++ (if 0 < i then stpB q (i - 1) else []) → ∃ G, b_Pk_addSequences_143 L1 (f_Pk_addSequences_89 L1 fu) 43 (nI i) A = some G ∧ RD G 44 45 (xs ++ strmS (preB q ++ cB q q.length)) ∧ Fr [44, 45, 46, 47] F G := by
      intro A bs fA dA eb
      have hbl : bs.length ≤ 12 + 31 * i + 12 := by
        rw [eb, List.length_append]
        have : (if 0 < i then stpB q (i - 1) else []).length ≤ 12 := by
          split
          · exact stpB_len q _
          · exact Nat.zero_le _
        omega
      obtain ⟨B, eB, dB, fB⟩ := pk_vals (qs := []) (hq.fr fA (by decide) (by decide) (by decide) (by rw [fA 59 (by decide)])) hn hp dA (by omega) (i := i) (by omega)
      have fFB : Fr [46, 47] F B := fA.tr fB
      have es : bs ++ valB q i = preB q ++ cB q (i + 1) := by
        rw [eb]
        simp only [cB, List.append_assoc]
      rw [es] at dB
      obtain ⟨G, eG, g1, fG⟩ := ih (i + 1) B fu (by omega) (by omega) (u.fr fFB (by simp; omega)) (hq.fr fFB (by decide) (by decide) (by decide) (by rw [fFB 59 (by decide)])) (st.fr fFB (by decide) (by decide) (by decide)) (hb.fr fFB (by decide) (by decide)) dB
      refine ⟨G, ?_, g1, (fFB.up (by simp)).tr fG⟩
      unfold b_Pk_addSequences_143
      rw [eB]
      dsimp only [Option.bind_some]
      rw [nI_1]
      exact eG
    show ∃ G, b_Pk_addSequences_89 L1 (f_Pk_addSequences_89 L1 fu) 43 (nI i) F = _ ∧ _
    unfold b_Pk_addSequences_89
    rw [r431, hq.1, ilen (by omega) (by omega)]
    by_cases q0 : i = 0
    · rw [if_pos (show nI i ≤ 0 by rw [q0]; decide)]
      exact go F _ Fr.rf hs (by rw [if_neg (by omega), List.append_nil])
    · rw [if_neg (show ¬ nI i ≤ 0 from fun c => absurd ((nI_leI (b := 0) (by omega) (by omega)).mp c) (by omega)), r432, r433, r438, r439, r4310]
      obtain ⟨s1, s2, s3⟩ := st (i - 1) (by omega)
      obtain ⟨t1, t2, t3⟩ := st i (by omega)
      have w1 := uwd_le 0 (sA q (i - 1))
      have w2 := uwd_le 0 (sM q (i - 1))
      obtain ⟨A, eA, dA, fA⟩ := pk_next uo0 u hs (by omega) (arr := 56) (j := i) (n := q.length) (s := sA q (i - 1)) (by omega) hn (by omega) (by omega) s1 t1 (stF_lt _ _ _ _)
      have uA := u.fr fA (by simp; omega)
      obtain ⟨B, eB, dB, fB⟩ := pk_next uo0 uA dA (by simp only [List.length_append, bitsS_len] at t ⊢; omega) (arr := 58) (j := i) (n := q.length) (s := sM q (i - 1)) (by omega) hn (by omega) (by omega) (by rw [fA 58 (by decide)]; exact s3) (by rw [fA 58 (by decide)]; exact t3) (stF_lt _ _ _ _)
      have uB := uA.fr fB (by simp; omega)
      obtain ⟨C, eC, dC, fC⟩ := pk_next uo1 uB dB (by simp only [List.length_append, bitsS_len] at t ⊢; omega) (arr := 57) (j := i) (n := q.length) (s := sW q (i - 1)) (by omega) hn (by omega) (by omega) (by rw [fB 57 (by decide), fA 57 (by decide)]; exact s2) (by rw [fB 57 (by decide), fA 57 (by decide)]; exact t2) (stF_lt _ _ _ _)
      rw [eA]
      dsimp only [Option.bind_some]
      rw [eB]
      dsimp only [Option.bind_some]
      rw [eC]
      dsimp only [Option.bind_some]
      refine go C _ ((fA.tr fB).tr fC) dC ?_
      rw [if_pos (by omega)]
      unfold stpB
      rw [show i - 1 + 1 = i by omega]
      simp only [List.append_assoc]
def seqBy (q : List N3) : List Nat := if q.length = 0 then [0] else [q.length, 0] ++ strmS (preB q ++ cB q q.length)
theorem pk_addSeqs {F : Mem} {q : List N3} (hn : q.length ≤ 40) (hp : ∀ x ∈ q, PQ x) {xs : List Nat} (hx : xs.length ≤ 64) (u : UC F) (hq : CQ F q) (hb : RD F 44 45 xs) : ∃ G, f_Pk_addSequences L1 43 F = some G ∧ RD G 44 45 (xs ++ seqBy q) ∧ Fr [44, 45, 46, 47, 56, 57, 58] F G := by
  obtain ⟨A, eA, dA, fA⟩ := row_add rs44 hb (by omega) (x := nI q.length) q.length (byte_255 (by omega))
  have hqA : CQ A q := hq.fr fA (by decide) (by decide) (by decide) (by rw [fA 59 (by decide)])
  unfold f_Pk_addSequences seqBy
  rw [r431, r434, hq.1, eA]
  dsimp only [Option.bind_some]
  by_cases q0 : q.length = 0
  · rw [if_pos (show A 59 6 = 0 by rw [hqA.1, q0]; rfl), if_pos q0]
    rw [q0] at dA
    exact ⟨A, rfl, dA, fA.up (by simp)⟩
  · rw [if_neg (show ¬ A 59 6 = 0 by rw [hqA.1]; exact nne (b := 0) q0 (by omega) (by omega)), if_neg q0]
    obtain ⟨B, eB, dB, fB⟩ := row_add rs44 dA (by simp; omega) (x := 0) 0 (by decide)
    rw [eB]
    dsimp only [Option.bind_some]
    have fFB : Fr [44, 45] F B := fA.tr fB
    have hqB : CQ B q := hq.fr fFB (by decide) (by decide) (by decide) (by rw [fFB 59 (by decide)])
    obtain ⟨C, eC, sC, fC⟩ := pk_states10 hn hp q.length B mFU (Nat.le_refl _) (by unfold mFU; omega) (u.fr fFB (by simp; omega)) hqB (fun j h1 h2 => absurd h1 (by omega))
    have eC' : f_Pk_chooseStates L1 43 B = some C := by
      unfold f_Pk_chooseStates
      rw [r431, hqB.1]
      exact eC
    rw [eC', Option.bind_some]
    have stC : CSt C q := sC
    obtain ⟨D, hD⟩ : ∃ D, D = u2 C 46 1 0 := ⟨_, rfl⟩
    have fD : Fr [46] C D := by rw [hD]; exact Fr.u (by simp)
    have d0 : RD D 46 47 [] := ⟨by rw [hD, u2_s]; rfl, fun j hj => absurd hj (by simp)⟩
    have stD' := stC.fr fD (by decide) (by decide) (by decide)
    obtain ⟨s1, s2, s3⟩ := stD' 0 (by omega)
    obtain ⟨A1, e1, d1, f1⟩ := br_add d0 (nI (sA q 0)) (n := 4) (by omega) (by rw [List.length_nil]; omega)
    obtain ⟨A2, e2, d2, f2⟩ := br_add d1 (nI (sW q 0)) (n := 4) (by omega) (by rw [List.length_append, bitsS_len, List.length_nil]; omega)
    obtain ⟨A3, e3, d3, f3⟩ := br_add d2 (nI (sM q 0)) (n := 4) (by omega) (by rw [List.length_append, List.length_append, bitsS_len, bitsS_len, List.length_nil]; omega)
    have fB3 : Fr [46, 47, 56, 57, 58] B A3 := ((((fC.up (by simp)).tr (fD.up (by simp))).tr (f1.up (by simp))).tr (f2.up (by simp))).tr (f3.up (by simp))
    have fF3 : Fr [44, 45, 46, 47, 56, 57, 58] F A3 := (fFB.up (by simp)).tr (fB3.up (by simp))
    have fD3 : Fr [46, 47] D A3 := (f1.tr f2).tr f3
    have n0 : (0 : Int32).toNatClampNeg = 0 := rfl
    rw [ld, r435, r438, r439, r4310, ← hD, show mGl L1 56 = 40 from rfl, show mGl L1 57 = 40 from rfl, show mGl L1 58 = 40 from rfl, if_neg (show ¬ inb (0 : Int32) 40 from inb_no (n := 0) (by decide) (by decide)), show mGa L1 D 56 (0 : Int32).toNatClampNeg = nI (sA q 0) by rw [mGa_n (show 56 < mNc L1 by decide), n0, s1], show f_Br_add L1 46 (nI (sA q 0)) (4 : Int32) D = some A1 by rw [l4]; exact e1, Option.bind_some]
    rw [if_neg (show ¬ inb (0 : Int32) 40 from inb_no (n := 0) (by decide) (by decide)), show mGa L1 A1 57 (0 : Int32).toNatClampNeg = nI (sW q 0) by rw [mGa_n (show 57 < mNc L1 by decide), n0, f1 57 (by decide), s2], show f_Br_add L1 46 (nI (sW q 0)) (4 : Int32) A1 = some A2 by rw [l4]; exact e2, Option.bind_some]
    rw [if_neg (show ¬ inb (0 : Int32) 40 from inb_no (n := 0) (by decide) (by decide)), show mGa L1 A2 58 (0 : Int32).toNatClampNeg = nI (sM q 0) by rw [mGa_n (show 58 < mNc L1 by decide), n0, f2 58 (by decide), f1 58 (by decide), s3], show f_Br_add L1 46 (nI (sM q 0)) (4 : Int32) A2 = some A3 by rw [l4]; exact e3, Option.bind_some]
    obtain ⟨G, eG, g1, fG⟩ := pk_seq89 hn hp (xs := xs ++ [q.length] ++ [0]) (by simp; omega) q.length 0 A3 mFU (by omega) (by unfold mFU; omega) (u.fr fF3 (by simp; omega)) (hq.fr fF3 (by decide) (by decide) (by decide) (by rw [fF3 59 (by decide)])) (stD'.fr fD3 (by decide) (by decide) (by decide)) (dB.fr fB3 (by decide) (by decide)) (by unfold preB cB; simpa using d3)
    refine ⟨G, ?_, ?_, fF3.tr (fG.up (by simp))⟩
    · rw [l0]
      exact eG
    · rw [List.append_assoc, List.append_assoc] at g1
      exact g1
