/-! pure: both pack alike -/
theorem fin_n (h : Int32) : ∃ k, k < 65536 ∧ finh h = nI k := pk_andE _ 16 rfl
def hdS (c : List Nat) : Nat := blS c % 32 * 8 + tyS c * 2 + 1
def totN (c : List Nat) (x : Nat) : Nat := 6 + (boS c).length + 2 * x
def outW (w c : List Nat) (x mk : Nat) : List Nat := (((((w ++ [90]) ++ [x]) ++ [c.length % 256, c.length / 256]) ++ [hdS c]) ++ [blS c / 32]) ++ boS c ++ (if x = 0 then [] else [mk % 256, mk / 256])
theorem outW_len (w c : List Nat) {x : Nat} (hx : x = 0 ∨ x = 1) (mk : Nat) : (outW w c x mk).length = w.length + totN c x := by
  unfold outW totN
  rcases hx with rfl | rfl
  · simp
    omega
  · simp
    omega
theorem outW_b {w c : List Nat} (h : CW c w) {x : Nat} (hx : x = 0 ∨ x = 1) {mk : Nat} (hk : mk < 65536) : ∀ b ∈ outW w c x mk, b < 256 := by
  obtain ⟨b1, b2, b3⟩ := bo_b h.1 h.2.2.1
  have t := tyS_3 c
  have hc := h.1
  have hd : hdS c < 256 := by unfold hdS; omega
  unfold outW
  refine app_d (app_d (app_d (app_d (app_d (app_d (app_d h.2.2.2 ?_) ?_) ?_) ?_) ?_) b1) ?_
  · intro b hb; simp only [List.mem_cons, List.not_mem_nil, or_false] at hb; omega
  · intro b hb; simp only [List.mem_cons, List.not_mem_nil, or_false] at hb; omega
  · intro b hb; simp only [List.mem_cons, List.not_mem_nil, or_false] at hb; omega
  · intro b hb; simp only [List.mem_cons, List.not_mem_nil, or_false] at hb; omega
  · intro b hb; simp only [List.mem_cons, List.not_mem_nil, or_false] at hb; omega
  · split
    · intro b hb; exact absurd hb (by simp)
    · intro b hb; simp only [List.mem_cons, List.not_mem_nil, or_false] at hb; omega
theorem hd_or {n t : Nat} (hn : n ≤ 120) (ht : t < 3) : ((jshl (nI n &&& 31) 3 ||| jshl (nI t) 1) ||| 1) = nI (n % 32 * 8 + t * 2 + 1) := by
  rw [pk_andN (by omega) 5 rfl, l3, jshl_n (by omega) (by omega), l1, jshl_n (by omega) (by omega), or_lo (k := 3) (by omega) (by omega), show n % 2 ^ 5 * 2 ^ 3 + t * 2 ^ 1 = (n % 32 * 4 + t) * 2 ^ 1 by omega, or_lo (k := 1) (by omega) (by omega), show (n % 32 * 4 + t) * 2 ^ 1 + 1 = n % 32 * 8 + t * 2 + 1 by omega]
theorem pf_pack {U F : Mem} {c w : List Nat} (u : UC F) (h : CW c w) (hp : RP U F c w) {x : Nat} (hx : x = 0 ∨ x = 1) {mk : Nat} (hm : finh (mixh (nI c.length) c) = nI mk) (hk : mk < 65536) :
    ∃ F', (w.length + totN c x ≤ 240 → f_PF_pack L1 0 (nI x) F = some (nI (totN c x), F') ∧ RP U F' c (outW w c x mk)) ∧ (¬ w.length + totN c x ≤ 240 → f_PF_pack L1 0 (nI x) F = some (-2, F') ∧ RP U F' c w) := by
  obtain ⟨h1, h2, h3, h4⟩ := id h
  obtain ⟨b1, b2, b3⟩ := bo_b h1 h3
  have t3 := tyS_3 c
  have hd : hdS c < 256 := by unfold hdS; omega
  have ht : totN c x ≤ 128 := by unfold totN; omega
  obtain ⟨A, eA, bA, a11, a12, fA⟩ := pk_blk h1 h3 hp.1 u
  have cA : RD A 1 2 c := hp.1.fr fA (by decide) (by decide)
  have wA : RD A 3 4 w := hp.2.1.fr fA (by decide) (by decide)
  have sA' : Sf U A := hp.2.2.fr fA (by simp; omega)
  have s29 : f_PF_pack L1 0 (nI x) F = b_PF_pack_29 L1 0 (nI x) (nI (6 + (boS c).length)) (nI (2 * x)) A := by
    unfold f_PF_pack
    rw [show mRf L1 0 5 = 43 from rfl, r434, eA, Option.bind_some, bA.1, show (6 : Int32) + nI (boS c).length = nI (6 + (boS c).length) by rw [l6, nI_add]]
    rcases hx with rfl | rfl
    · exact if_pos rfl
    · exact if_neg (by decide)
  have s2 : ∀ K : Mem, (if nI x = 0 then b_PF_pack_67 L1 0 (nI x) (nI (totN c x)) 3 0 K else b_PF_pack_67 L1 0 (nI x) (nI (totN c x)) 3 1 K) = b_PF_pack_67 L1 0 (nI x) (nI (totN c x)) 3 (nI x) K := fun K => by
    rcases hx with rfl | rfl
    · exact if_pos rfl
    · exact if_neg (by decide)
  rw [s29]
  unfold b_PF_pack_29
  rw [r001, nI_add, show 6 + (boS c).length + 2 * x = totN c x from rfl, row_room rs3 wA h2 (totN c x) (by omega), Option.bind_some]
  dsimp only
  by_cases q : w.length + totN c x ≤ 240
  · have ht6 : 6 + (boS c).length + 2 * x = totN c x := rfl
    obtain ⟨B, eB, dB, fB⟩ := row_add rs3 wA (by omega) (x := 90) 90 (by decide)
    obtain ⟨C, eC, dC, fC⟩ := row_add rs3 dB (by simp; omega) (x := nI x) x (byte_255 (by omega))
    obtain ⟨D, eD, dD, fD⟩ := row_pair rs3 dC (by simp; omega) c.length (by omega)
    obtain ⟨E, eE, dE, fE⟩ := row_add rs3 dD (by simp; omega) (x := nI (hdS c)) (hdS c) (byte_255 hd)
    obtain ⟨H, eH, dH, fH⟩ := row_add rs3 dE (by simp; omega) (x := nI (blS c / 32)) (blS c / 32) (byte_255 (by omega))
    have fAH : Fr [3, 4] A H := (((fB.tr fC).tr fD).tr fE).tr fH
    obtain ⟨I, eI, dI, fI⟩ := row_addRow rs3 rs44 (by decide) (by decide) (by decide) (by decide) dH (bA.fr fAH (by decide) (by decide)) b1 (by omega) (by omega) (by simp; omega)
    have fAI : Fr [3, 4] A I := fAH.tr fI
    have fAD : Fr [3, 4] A D := (fB.tr fC).tr fD
    have e67 : b_PF_pack_67 L1 0 (nI x) (nI (totN c x)) 3 (nI x) B = if nI x = 0 then b_PF_pack_164 L1 (nI (totN c x)) I else (f_Row_markFrom L1 1 (0 : Int32) I).bind fun q23 => (f_Row_addPair L1 3 q23.1 q23.2).bind fun F25 => b_PF_pack_164 L1 (nI (totN c x)) F25 := by
      unfold b_PF_pack_67
      rw [eC, Option.bind_some, r000, r001, (cA.fr (fB.tr fC) (by decide) (by decide)).1, eD, Option.bind_some, show mRf L1 0 5 = 43 from rfl, fAD 43 (by decide), a12, a11, hd_or b3 t3, show blS c % 32 * 8 + tyS c * 2 + 1 = hdS c from rfl, eE, Option.bind_some, fE 43 (by decide), fAD 43 (by decide), a12, l5, jshr_n (by omega) (by omega), show blS c / 2 ^ 5 = blS c / 32 from rfl, eH, Option.bind_some, r434, eI, Option.bind_some]
    rw [if_pos q, if_neg (show ¬ (1 : Int32) = 0 by decide), eB, Option.bind_some, s2, e67]
    rcases hx with rfl | rfl
    · refine ⟨I, fun _ => ⟨if_pos rfl, cA.fr fAI (by decide) (by decide), ?_, sA'.fr fAI (by simp; omega)⟩, fun c' => absurd q c'⟩
      unfold outW
      rw [if_pos rfl, List.append_nil]
      exact dI
    · obtain ⟨J, eJ, dJ, fJ⟩ := row_pair rs3 dI (by simp; omega) mk hk
      have cI : RD I 1 2 c := cA.fr fAI (by decide) (by decide)
      have em := row_mark rs1 cI h1 (by omega) 0 (by omega)
      rw [Nat.sub_zero, List.drop_zero, hm, ← l0] at em
      have fAJ : Fr [3, 4] A J := fAI.tr fJ
      refine ⟨J, fun _ => ⟨?_, cA.fr fAJ (by decide) (by decide), ?_, sA'.fr fAJ (by simp; omega)⟩, fun c' => absurd q c'⟩
      · rw [if_neg (show ¬ nI 1 = (0 : Int32) by decide), em, Option.bind_some, eJ, Option.bind_some]
        rfl
      · unfold outW
        rw [if_neg (show ¬ (1 : Nat) = 0 by decide)]
        exact dJ
  · refine ⟨A, fun c' => absurd c' q, fun _ => ⟨?_, cA, wA, sA'⟩⟩
    rw [if_neg q, if_pos (show (0 : Int32) = 0 from rfl)]
/-- where the model's block comes from -/
def MBo (H : Mem) (c : List Nat) : Prop := MD H 1 1 c ∧ (tyS c = 2 → MD H 34 20 (boS c)) ∧ (tyS c = 1 → boS c = [c.getD 0 0] ∧ 1 ≤ c.length) ∧ (tyS c = 0 → boS c = c)
theorem MBo.fm {H K : Mem} {c : List Nat} (h : MBo H c) (f : Fm [3] [2] H K) : MBo K c := ⟨h.1.fm f (by decide) (by decide) (by decide), fun t => (h.2.1 t).fm f (by decide) (by decide) (by decide), h.2.2.1, h.2.2.2⟩
theorem lim_n {c : List Nat} (hc : c.length ≤ 120) (hby : ∀ b ∈ c, b < 256) : (if nI (tyS c) = (1 : Int32) then (1 : Int32) else nI (blS c)) = nI (boS c).length := by
  have t3 := tyS_3 c
  by_cases q : tyS c = 1
  · rw [if_pos (show nI (tyS c) = (1 : Int32) by rw [q]; rfl)]
    unfold boS
    rw [if_pos q]
    rfl
  · rw [if_neg (show ¬ nI (tyS c) = (1 : Int32) from nne (b := 1) q (by omega) (by omega))]
    unfold boS blS
    rw [if_neg q]
    split <;> rfl
theorem md_p190 {c : List Nat} (hc : c.length ≤ 120) (hby : ∀ b ∈ c, b < 256) (x t : Int32) : ∀ (d m : Nat) (H : Mem) (ws : List Nat) (fu : Nat), d + m = (boS c).length → d < fu → MBo H c → MD H 3 2 ws → ws.length + d ≤ 240 →
    ∃ K, f_Md_pack_190 L2 fu 0 x (nI (tyS c)) (nI (blS c)) t (nI m) H = (if x = 0 then b_Md_pack_267 L2 t K else (f_Md_mark L2 0 K).bind fun q1 => (f_Md_append L2 0 (q1.1 &&& (255 : Int32)) q1.2).bind fun F3 => (f_Md_append L2 0 (jshr q1.1 (8 : Int32)) F3).bind fun F5 => b_Md_pack_267 L2 t F5) ∧ MD K 3 2 (ws ++ (boS c).drop m) ∧ Fm [3] [2] H K := by
  obtain ⟨b1, b2, b3⟩ := bo_b hc hby
  have t3 := tyS_3 c
  have st : ∀ (k : Nat → Int32 → Int32 → Int32 → Int32 → Int32 → Mem → Option (Int32 × Mem)) (m : Nat) (H : Mem), b_Md_pack_190 L2 k 0 x (nI (tyS c)) (nI (blS c)) t (nI m) H = b_Md_pack_203 L2 k 0 x (nI (tyS c)) (nI (blS c)) t (nI m) (nI m) (nI (boS c).length) H := fun k m H => by
    rw [← lim_n hc hby]
    unfold b_Md_pack_190
    split <;> rfl
  intro d
  induction d with
  | zero =>
    intro m H ws fu hd hf hb hw hl
    obtain ⟨fu, rfl⟩ : ∃ k, fu = k + 1 := ⟨fu - 1, by omega⟩
    refine ⟨H, ?_, by rw [List.drop_of_length_le (by omega)]; simpa using hw, Fm.rf⟩
    show b_Md_pack_190 L2 (f_Md_pack_190 L2 fu) 0 x (nI (tyS c)) (nI (blS c)) t (nI m) H = _
    rw [st]
    unfold b_Md_pack_203
    rw [ile (by omega) (by omega)]
  | succ d ih =>
    intro m H ws fu hd hf hb hw hl
    obtain ⟨fu, rfl⟩ : ∃ k, fu = k + 1 := ⟨fu - 1, by omega⟩
    have hm : m < (boS c).length := by omega
    obtain ⟨A, eA, dA, fA⟩ := md_append hw (by omega) ((boS c).getD m 0)
    obtain ⟨K, eK, dK, fK⟩ := ih (m + 1) A _ fu (by omega) (by omega) (hb.fm fA) dA (by simp; omega)
    refine ⟨K, ?_, ?_, fA.tr fK⟩
    · show b_Md_pack_190 L2 (f_Md_pack_190 L2 fu) 0 x (nI (tyS c)) (nI (blS c)) t (nI m) H = _
      rw [st]
      unfold b_Md_pack_203 b_Md_pack_229
      rw [ilen hm (by omega)]
      obtain ⟨k1, k2, k3, k4⟩ := hb
      by_cases q : tyS c = 2
      · rw [if_pos (show nI (tyS c) = (2 : Int32) by rw [q]; rfl), r035, gl20, if_neg (inb_no (n := m) (by omega) (by omega)), show mGa L2 H 20 (nI m).toNatClampNeg = nI ((boS c).getD m 0) by rw [ga20, nI_clamp (by omega), (k2 q).2 m hm], eA, Option.bind_some, nI_1]
        exact eK
      · have rd : m < 120 ∧ H 1 m = nI ((boS c).getD m 0) := by
          refine ⟨by omega, ?_⟩
          by_cases q1 : tyS c = 1
          · obtain ⟨e1, e2⟩ := k3 q1
            rw [e1] at hm ⊢
            obtain rfl : m = 0 := by simpa using hm
            exact k1.2 0 (by omega)
          · have e0 := k4 (by omega)
            rw [e0] at hm ⊢
            exact k1.2 m hm
        rw [if_neg (show ¬ nI (tyS c) = (2 : Int32) from nne (b := 2) q (by omega) (by omega)), r00', show mGl L2 1 = 120 from rfl, if_neg (inb_no (n := m) (by omega) (by omega)), show mGa L2 H 1 (nI m).toNatClampNeg = nI ((boS c).getD m 0) by rw [show mGa L2 H 1 (nI m).toNatClampNeg = H 1 (nI m).toNatClampNeg from if_pos (by decide), nI_clamp (by omega), rd.2], eA, Option.bind_some, nI_1]
        exact eK
    · rw [List.drop_eq_getElem_cons hm]
      simpa [List.getD_eq_getElem?_getD, hm] using dK
theorem md_packs {G : Mem} {c w : List Nat} (h : CW c w) (hg : RM G c w) {x : Nat} (hx : x = 0 ∨ x = 1) {mk : Nat} (hm : finh (mixh (nI c.length) c) = nI mk) (hk : mk < 65536) :
    ∃ G', (w.length + totN c x ≤ 240 → f_Md_pack L2 0 (nI x) G = some (nI (totN c x), G') ∧ RM G' c (outW w c x mk)) ∧ (¬ w.length + totN c x ≤ 240 → f_Md_pack L2 0 (nI x) G = some (-2, G') ∧ RM G' c w) := by
  obtain ⟨h1, h2, h3, h4⟩ := id h
  obtain ⟨b1, b2, b3⟩ := bo_b h1 h3
  obtain ⟨pl, pb, pq⟩ := parsed_b h1 h3
  have t3 := tyS_3 c
  have ht : totN c x ≤ 128 := by unfold totN; omega
  have sl := seqBy_len (q := (parsed c).2.1) (by omega) pq
  have ll := litBy_len (parsed c).1
  have kl : (pkS c).length ≤ 400 := by unfold pkS; rw [List.length_append]; omega
  obtain ⟨H, eH, dH, h13, fH⟩ := md_makePack h1 h3 hg.1
  have dH' : MD H 34 20 (pkS c) := dH
  have cH : MD H 1 1 c := hg.1.fm fH (by decide) (by decide) (by decide)
  have wH : MD H 3 2 w := hg.2.fm fH (by decide) (by decide) (by decide)
  have e20 : f_Md_pack L2 0 (nI x) G = b_Md_pack_20 L2 0 (nI x) (if 0 < c.length ∧ smL c c.length = true then 1 else 0) G := by
    unfold f_Md_pack b_Md_pack_19
    rw [hg.1.1]
    by_cases q0 : 0 < c.length
    · rw [if_neg (show ¬ nI c.length ≤ (0 : Int32) from fun k => absurd ((nI_leI (b := 0) (by omega) (by omega)).mp k) (by omega)), md_same h1 h3 q0 (Or.inl ⟨rfl, rfl, rfl⟩) hg.1, Option.bind_some]
      dsimp only
      by_cases q1 : smL c c.length = true
      · rw [if_pos q1, if_pos (⟨q0, q1⟩ : 0 < c.length ∧ smL c c.length = true), if_neg (show ¬ (1 : Int32) = 0 by decide)]
      · rw [if_neg q1, if_neg (show ¬ (0 < c.length ∧ smL c c.length = true) from fun k => q1 k.2), if_pos (show (0 : Int32) = 0 from rfl)]
    · rw [if_pos (show nI c.length ≤ (0 : Int32) from nI_le (b := 0) (by omega) (by omega)), if_neg (show ¬ (0 < c.length ∧ smL c c.length = true) from fun k => q0 k.1)]
  have e58 : f_Md_pack L2 0 (nI x) G = b_Md_pack_58 L2 0 (nI x) (nI (tyS c)) H := by
    rw [e20]
    unfold b_Md_pack_20 b_Md_pack_57 tyS
    rw [eH, Option.bind_some, h13, cH.1, dH'.1]
    by_cases q1 : 0 < c.length ∧ smL c c.length = true
    · rw [if_pos q1, if_pos q1, if_neg (show ¬ (1 : Int32) = 0 by decide)]
      rfl
    · rw [if_neg q1, if_neg q1, if_pos (show (0 : Int32) = 0 from rfl)]
      by_cases q2 : (parsed c).1.length ≤ 63
      · rw [if_neg (show ¬ (63 : Int32) < nI (parsed c).1.length from fun k => absurd ((nI_ltI (a := 63) (by omega) (by omega)).mp k) (by omega))]
        by_cases q3 : (pkS c).length < c.length
        · rw [ilen q3 (by omega), if_pos (⟨q2, q3⟩ : (parsed c).1.length ≤ 63 ∧ (pkS c).length < c.length)]
          rfl
        · rw [ile (by omega) (by omega), if_neg (show ¬ ((parsed c).1.length ≤ 63 ∧ (pkS c).length < c.length) from fun k => q3 k.2)]
          rfl
      · rw [if_pos (show (63 : Int32) < nI (parsed c).1.length from nI_lt (a := 63) (by omega) (by omega)), if_neg (show ¬ ((parsed c).1.length ≤ 63 ∧ (pkS c).length < c.length) from fun k => q2 k.1)]
        rfl
  have e75 : b_Md_pack_58 L2 0 (nI x) (nI (tyS c)) H = b_Md_pack_75 L2 0 (nI x) (nI (tyS c)) (nI (blS c)) H := by
    unfold b_Md_pack_58 blS
    rw [cH.1, dH'.1]
    by_cases q : tyS c = 2
    · rw [if_pos (show nI (tyS c) = (2 : Int32) by rw [q]; rfl), if_pos q]
    · rw [if_neg (show ¬ nI (tyS c) = (2 : Int32) from nne (b := 2) q (by omega) (by omega)), if_neg q]
  have e90 : b_Md_pack_75 L2 0 (nI x) (nI (tyS c)) (nI (blS c)) H = b_Md_pack_90 L2 0 (nI x) (nI (tyS c)) (nI (blS c)) 6 (nI (boS c).length) H := by
    rw [← lim_n h1 h3]
    unfold b_Md_pack_75
    split <;> rfl
  have e100 : b_Md_pack_90 L2 0 (nI x) (nI (tyS c)) (nI (blS c)) 6 (nI (boS c).length) H = b_Md_pack_100 L2 0 (nI x) (nI (tyS c)) (nI (blS c)) (nI (6 + (boS c).length)) (nI (2 * x)) H := by
    unfold b_Md_pack_90
    rw [show (6 : Int32) + nI (boS c).length = nI (6 + (boS c).length) by rw [l6, nI_add]]
    rcases hx with rfl | rfl
    · exact if_pos rfl
    · exact if_neg (by decide)
  have s135 : ∀ K : Mem, (if nI x = 0 then b_Md_pack_135 L2 0 (nI x) (nI (tyS c)) (nI (blS c)) (nI (totN c x)) 0 0 K else b_Md_pack_135 L2 0 (nI x) (nI (tyS c)) (nI (blS c)) (nI (totN c x)) 0 1 K) = b_Md_pack_135 L2 0 (nI x) (nI (tyS c)) (nI (blS c)) (nI (totN c x)) 0 (nI x) K := fun K => by
    rcases hx with rfl | rfl
    · exact if_pos rfl
    · exact if_neg (by decide)
  have bo : MBo H c := by
    refine ⟨cH, fun t => ?_, fun t => ?_, fun t => ?_⟩
    · unfold boS
      rw [if_neg (by omega), if_pos t]
      exact dH'
    · refine ⟨by unfold boS; rw [if_pos t], ?_⟩
      unfold tyS at t
      split at t
      · rename_i k
        exact k.1
      · split at t <;> omega
    · unfold boS
      rw [if_neg (by omega), if_neg (by omega)]
  rw [e58, e75, e90, e100]
  unfold b_Md_pack_100
  rw [nI_add (a := 6 + (boS c).length), show 6 + (boS c).length + 2 * x = totN c x from rfl, wH.1, nI_add]
  by_cases q : w.length + totN c x ≤ 240
  · have ht6 : 6 + (boS c).length + 2 * x = totN c x := rfl
    obtain ⟨A, eA, dA, fA⟩ := md_append wH (by omega) 90
    obtain ⟨B, eB, dB, fB⟩ := md_append dA (by simp; omega) x
    obtain ⟨C, eC, dC, fC⟩ := md_append dB (by simp; omega) (c.length % 256)
    obtain ⟨D, eD, dD, fD⟩ := md_append dC (by simp; omega) (c.length / 256)
    obtain ⟨E, eE, dE, fE⟩ := md_append dD (by simp; omega) (hdS c)
    obtain ⟨I, eI, dI, fI⟩ := md_append dE (by simp; omega) (blS c / 32)
    have fHI : Fm [3] [2] H I := ((((fA.tr fB).tr fC).tr fD).tr fE).tr fI
    obtain ⟨K, eK, dK, fK⟩ := md_p190 h1 h3 (nI x) (nI (totN c x)) (boS c).length 0 I _ mFU (by omega) (by unfold mFU; omega) (bo.fm fHI) dI (by simp; omega)
    rw [← l0] at eK
    have fHK : Fm [3] [2] H K := fHI.tr fK
    have cK : MD K 1 1 c := cH.fm fHK (by decide) (by decide) (by decide)
    have dK' : MD K 3 2 ((((((w ++ [90]) ++ [x]) ++ [c.length % 256, c.length / 256]) ++ [hdS c]) ++ [blS c / 32]) ++ boS c) := by
      rw [List.drop_zero, List.append_assoc (w ++ [90] ++ [x]) [c.length % 256]] at dK
      exact dK
    have e135 : b_Md_pack_135 L2 0 (nI x) (nI (tyS c)) (nI (blS c)) (nI (totN c x)) 0 (nI x) A = f_Md_pack_190 L2 mFU 0 (nI x) (nI (tyS c)) (nI (blS c)) (nI (totN c x)) (0 : Int32) I := by
      unfold b_Md_pack_135
      rw [eB, Option.bind_some, (cH.fm (fA.tr fB) (by decide) (by decide) (by decide)).1, pk_andN (by omega) 8 rfl, show c.length % 2 ^ 8 = c.length % 256 from rfl, eC, Option.bind_some, (cH.fm ((fA.tr fB).tr fC) (by decide) (by decide) (by decide)).1, l8, jshr_n (by omega) (by omega), show c.length / 2 ^ 8 = c.length / 256 from rfl, eD, Option.bind_some, show (1 : Int32) + (2 : Int32) * nI (tyS c) + nI 8 * (nI (blS c) &&& 31) = nI (hdS c) by
        rw [pk_andN (by omega) 5 rfl, l2, pk_mul, pk_mul, l1, nI_add, nI_add]
        unfold hdS
        congr 1
        omega, eE, Option.bind_some, l5, jshr_n (by omega) (by omega), show blS c / 2 ^ 5 = blS c / 32 from rfl, eI, Option.bind_some]
    rw [if_pos (show nI (w.length + totN c x) ≤ (240 : Int32) from nI_le (b := 240) q (by omega)), show (90 : Int32) = nI 90 from rfl, eA, Option.bind_some, s135, e135, eK]
    rcases hx with rfl | rfl
    · refine ⟨K, fun _ => ⟨if_pos rfl, cK, ?_⟩, fun c' => absurd q c'⟩
      unfold outW
      rw [if_pos rfl, List.append_nil]
      exact dK'
    · obtain ⟨M, eM, dM, fM⟩ := md_append dK' (by simp; omega) (mk % 256)
      obtain ⟨N, eN, dN, fN⟩ := md_append dM (by simp; omega) (mk / 256)
      refine ⟨N, fun _ => ⟨?_, cK.fm (fM.tr fN) (by decide) (by decide) (by decide), ?_⟩, fun c' => absurd q c'⟩
      · rw [if_neg (show ¬ nI 1 = (0 : Int32) by decide), md_mark cK h1, Option.bind_some]
        dsimp only
        rw [hm, pk_andN (by omega) 8 rfl, show mk % 2 ^ 8 = mk % 256 from rfl, eM, Option.bind_some, l8, jshr_n (by omega) (by omega), show mk / 2 ^ 8 = mk / 256 from rfl, eN, Option.bind_some]
        rfl
      · unfold outW
        rw [if_neg (show ¬ (1 : Nat) = 0 by decide)]
        rw [List.append_assoc] at dN
        exact dN
  · refine ⟨H, fun c' => absurd c' q, fun _ => ⟨?_, cH, wH⟩⟩
    rw [if_neg (show ¬ nI (w.length + totN c x) ≤ (240 : Int32) from fun k => absurd ((nI_leI (b := 240) (by omega) (by omega)).mp k) (by omega))]
theorem op_pack {U F G : Mem} (hU : UT U) {c w : List Nat} {x : Int32} (hx : x = 0 ∨ x = 1) (h : CW c w) (hp : RP U F c w) (hm : RM G c w) : ∃ r F' G' c' w', f_PF_pack L1 0 x F = some (r, F') ∧ f_Md_pack L2 0 x G = some (r, G') ∧ CW c' w' ∧ RP U F' c' w' ∧ RM G' c' w' := by
  obtain ⟨n, hn, rfl⟩ : ∃ n : Nat, (n = 0 ∨ n = 1) ∧ x = nI n := by
    rcases hx with e | e
    · exact ⟨0, Or.inl rfl, e⟩
    · exact ⟨1, Or.inr rfl, e⟩
  obtain ⟨mk, hk, e⟩ := fin_n (mixh (nI c.length) c)
  obtain ⟨F', a1, a2⟩ := pf_pack (UC.of hU hp.2.2.1) h hp hn e hk
  obtain ⟨G', b1, b2⟩ := md_packs h hm hn e hk
  by_cases q : w.length + totN c n ≤ 240
  · obtain ⟨e1, p1⟩ := a1 q
    obtain ⟨e2, p2⟩ := b1 q
    exact ⟨_, F', G', c, outW w c n mk, e1, e2, ⟨h.1, by rw [outW_len w c hn]; exact q, h.2.2.1, outW_b h hn hk⟩, p1, p2⟩
  · obtain ⟨e1, p1⟩ := a2 q
    obtain ⟨e2, p2⟩ := b2 q
    exact ⟨_, F', G', c, w, e1, e2, h, p1, p2⟩
