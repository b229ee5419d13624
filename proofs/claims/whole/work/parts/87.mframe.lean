/-! pure: the model reads a frame, and unpacks -/
theorem md_blocks {w : List Nat} {bg due : Nat} (x1 : Int32) : ∀ (k : Nat) (G : Mem) (p : Nat) (ok : Bool) (b : BSt) (fu : Nat), k < fu → (ok = true → w.length < p + k ∧ p ≤ w.length) → MN G w p ok → MX G bg due b.1 → (ok = true → MBs G b) →
    ∃ H p' ok' b', f_Md_frame_114 L2 fu 0 x1 0 G = b_Md_frame_158 L2 0 x1 H ∧ MN H w p' ok' ∧ MX H bg due b'.1 ∧ (ok' = true → ok = true ∧ blocksS w bg (mcap bg due) k p b = some (p', b')) ∧ (ok = true → blocksS w bg (mcap bg due) k p b ≠ none → ok' = true) ∧ Fm FL FC G H := by
  have ex : ∀ (G : Mem) (p fu : Nat) (x : Int32), MN G w p false → f_Md_frame_114 L2 (fu + 1) 0 x1 x G = b_Md_frame_158 L2 0 x1 G := fun G p fu x h => by
    show b_Md_frame_114 L2 (f_Md_frame_114 L2 fu) 0 x1 x G = _
    unfold b_Md_frame_114
    rw [if_neg h.b1]
    split <;> rfl
  intro k
  induction k with
  | zero =>
    intro G p ok b fu hf hk h x hb
    obtain ⟨fu, rfl⟩ : ∃ k, fu = k + 1 := ⟨fu - 1, by omega⟩
    cases ok with
    | true =>
      have := hk rfl
      omega
    | false => exact ⟨G, p, false, b, ex G p fu 0 h, h, x, fun o => absurd o (by decide), fun o => absurd o (by decide), Fm.rf⟩
  | succ k ih =>
    intro G p ok b fu hf hk h x hb
    obtain ⟨fu, rfl⟩ : ∃ k, fu = k + 1 := ⟨fu - 1, by omega⟩
    cases ok with
    | false => exact ⟨G, p, false, b, ex G p fu 0 h, h, x, fun o => absurd o (by decide), fun o => absurd o (by decide), Fm.rf⟩
    | true =>
      have hw := h.2.2.2.2.2
      obtain ⟨hk1, hk2⟩ := hk rfl
      obtain ⟨A, eA, mA, fA⟩ := mn_next h (Nat.le_refl w.length)
      obtain ⟨y, hy⟩ : ∃ y, y = (if p < w.length then w.getD p 0 else 0) := ⟨_, rfl⟩
      have hy2 : y < 256 := by have := nI_byte hw p; rw [hy]; split <;> omega
      rw [← hy] at eA
      have xA : MX A bg due b.1 := x.fm fA (by decide) (by decide) (by decide) (by simp)
      have kA : MBs A b := by
        obtain ⟨k1, k2, k3, k4⟩ := hb rfl
        refine ⟨?_, k2, k3.fm fA (by decide) (by decide) (by decide) (by decide) (by simp) (by simp), k4.fm fA (by simp)⟩
        unfold MRp at *
        rw [fA.1 4 (by decide) (by simp)]
        exact k1
      obtain ⟨B, pB, okB, bB, eB, mB, xB, g1, g2, fB, -, -⟩ := md_block mA hy2 xA (fun _ => kA)
      have fGB : Fm FL FC G B := (fA.up (by simp) (by simp)).tr fB
      have st : f_Md_frame_114 L2 (fu + 1) 0 x1 0 G = f_Md_frame_114 L2 fu 0 x1 (if y % 2 = 1 then 1 else 0) B := by
        show b_Md_frame_114 L2 (f_Md_frame_114 L2 fu) 0 x1 0 G = _
        unfold b_Md_frame_114 b_Md_frame_148
        rw [if_pos rfl, if_pos h.b0, h.1.1, eA]
        dsimp only [Option.bind_some]
        rw [show nI y &&& 1 = nI (y % 2) from pk_andN (by omega) 1 rfl, eB]
        by_cases q : y % 2 = 1
        · rw [if_pos (show nI (y % 2) = (1 : Int32) by rw [q]; rfl), if_pos q]
          rfl
        · rw [if_neg (show ¬ nI (y % 2) = (1 : Int32) from nne (b := 1) q (by omega) (by omega)), if_neg q]
          rfl
      have es : p + 1 < w.length → blocksS w bg (mcap bg due) (k + 1) p b = (blockS w bg (mcap bg due) (y / 2 % 4) (y / 8 + 32 * w.getD (p + 1) 0) (p + 1 + 1) b).bind fun q => if y % 2 = 1 then some q else blocksS w bg (mcap bg due) k q.1 q.2 := fun q => by
        show (if p + 1 < w.length then _ else none) = _
        rw [if_pos q, hy, if_pos (by omega)]
      have es' : ¬ p + 1 < w.length → blocksS w bg (mcap bg due) (k + 1) p b = none := fun q => by
        show (if p + 1 < w.length then _ else none) = _
        rw [if_neg q]
      -- where the first byte was there
      have gd : okB = true → p + 1 < w.length ∧ blockS w bg (mcap bg due) (y / 2 % 4) (y / 8 + 32 * w.getD (p + 1) 0) (p + 1 + 1) b = some (pB, bB) ∧ MBs B bB := fun o => by
        obtain ⟨o1, o2, o3, o4⟩ := g1 o
        have hp : p < w.length := by simpa using o1
        rw [if_pos hp] at o2 o3
        exact ⟨o2, o3, o4⟩
      have gn : p + 1 < w.length → blockS w bg (mcap bg due) (y / 2 % 4) (y / 8 + 32 * w.getD (p + 1) 0) (p + 1 + 1) b ≠ none → okB = true := fun c s => by
        rw [if_pos (show p < w.length by omega)] at g2
        exact g2 (by simp; omega) c s
      by_cases q : y % 2 = 1
      · refine ⟨B, pB, okB, bB, ?_, mB, xB, fun o => ?_, fun _ hs => ?_, fGB⟩
        · rw [st, if_pos q]
          obtain ⟨fu, rfl⟩ : ∃ k, fu = k + 1 := ⟨fu - 1, by omega⟩
          show b_Md_frame_114 L2 (f_Md_frame_114 L2 fu) 0 x1 1 B = _
          unfold b_Md_frame_114
          rw [if_neg (by decide)]
        · obtain ⟨o1, o2, o3⟩ := gd o
          refine ⟨rfl, ?_⟩
          rw [es o1, o2]
          dsimp only [Option.bind_some]
          rw [if_pos q]
        · by_cases c : p + 1 < w.length
          · rw [es c] at hs
            refine gn c (fun e4 => ?_)
            rw [e4] at hs
            exact absurd rfl hs
          · exact absurd (es' c) hs
      · obtain ⟨H, p', ok', b', e, mH, xH, k1, k2, f⟩ := ih B pB okB bB fu (by omega) (fun o => by
          obtain ⟨o1, o2, o3⟩ := gd o
          have h1 := blockS_ge o2
          have h2 := blockS_le o2
          dsimp only at h1 h2
          exact ⟨by omega, h2⟩) mB xB (fun o => (gd o).2.2)
        refine ⟨H, p', ok', b', ?_, mH, xH, fun o => ?_, fun _ hs => ?_, fGB.tr f⟩
        · rw [st, if_neg q]
          exact e
        · obtain ⟨o1, o2⟩ := k1 o
          obtain ⟨o3, o4, o5⟩ := gd o1
          refine ⟨rfl, ?_⟩
          rw [es o3, o4]
          dsimp only [Option.bind_some]
          rw [if_neg q]
          exact o2
        · by_cases c : p + 1 < w.length
          · rw [es c] at hs
            cases e4 : blockS w bg (mcap bg due) (y / 2 % 4) (y / 8 + 32 * w.getD (p + 1) 0) (p + 1 + 1) b with
            | none => rw [e4] at hs; exact absurd rfl hs
            | some z =>
              have oB := gn c (by rw [e4]; simp)
              obtain ⟨-, o4, -⟩ := gd oB
              rw [o4] at hs
              dsimp only [Option.bind_some] at hs
              rw [if_neg q] at hs
              exact k2 oB hs
          · exact absurd (es' c) hs
/-- the check at the end of a frame -/
theorem md_f219 {w o : List Nat} {p : Nat} (hl : o.length ≤ 120) {G : Mem} (h : MN G w p true) (x : MD G 6 3 o) : ∀ (d m : Nat) (v : Int32) (fu : Nat), d + m = o.length → d < fu → ∃ H p' ok', f_Md_frame_219 L2 fu 0 v (nI m) G = some H ∧ MN H w p' ok' ∧ (ok' = true → (p + 1 < w.length ∧ nI (w.getD p 0 + 256 * w.getD (p + 1) 0) = finh (mixh v (o.drop m))) ∧ p' = p + 2) ∧ ((p + 1 < w.length ∧ nI (w.getD p 0 + 256 * w.getD (p + 1) 0) = finh (mixh v (o.drop m))) → ok' = true) ∧ Fm [4, 5] [] G H := by
  intro d
  induction d with
  | zero =>
    intro m v fu hd hf
    obtain ⟨fu, rfl⟩ : ∃ k, fu = k + 1 := ⟨fu - 1, by omega⟩
    obtain rfl : m = o.length := by omega
    have hw := h.2.2.2.2.2
    obtain ⟨A, eA, mA, fA⟩ := mn_next h (Nat.le_refl w.length)
    obtain ⟨a, ha⟩ : ∃ a, a = (if p < w.length then w.getD p 0 else 0) := ⟨_, rfl⟩
    rw [← ha] at eA
    obtain ⟨p1, hp1⟩ : ∃ q, q = (if p < w.length then p + 1 else p) := ⟨_, rfl⟩
    rw [← hp1] at mA
    obtain ⟨B, eB, mB, fB⟩ := mn_next mA (Nat.le_refl w.length)
    obtain ⟨c, hc⟩ : ∃ c, c = (if p1 < w.length then w.getD p1 0 else 0) := ⟨_, rfl⟩
    rw [← hc] at eB
    have fGB : Fm [4, 5] [] G B := fA.tr fB
    rw [List.drop_of_length_le (Nat.le_refl _), show mixh v [] = v from rfl]
    have st : f_Md_frame_219 L2 (fu + 1) 0 v (nI o.length) G = if B 0 5 = 0 then (if nI a + 256 * nI c = finh v then b_Md_frame_304 L2 0 0 B else b_Md_frame_299 L2 0 B) else b_Md_frame_299 L2 0 B := by
      show b_Md_frame_219 L2 (f_Md_frame_219 L2 fu) 0 v (nI o.length) G = _
      unfold b_Md_frame_219
      rw [x.1, ile (Nat.le_refl _) (by omega), h.1.1, eA]
      dsimp only [Option.bind_some]
      rw [mA.1.1, eB]
      rfl
    rw [st]
    have bad : ∀ (p3 : Nat) (ok3 : Bool), MN B w p3 ok3 → ¬ (p + 1 < w.length ∧ nI (w.getD p 0 + 256 * w.getD (p + 1) 0) = finh v) → ∃ H p' ok', b_Md_frame_299 L2 0 B = some H ∧ MN H w p' ok' ∧ (ok' = true → (p + 1 < w.length ∧ nI (w.getD p 0 + 256 * w.getD (p + 1) 0) = finh v) ∧ p' = p + 2) ∧ ((p + 1 < w.length ∧ nI (w.getD p 0 + 256 * w.getD (p + 1) 0) = finh v) → ok' = true) ∧ Fm [4, 5] [] G H := by
      intro p3 ok3 m3 q
      refine ⟨u2 B 0 5 1, p3, false, ?_, m3.bad, fun o => absurd o (by decide), fun c => absurd c q, fGB.tr (Fm.us (by simp))⟩
      unfold b_Md_frame_299 b_Md_frame_304 b_Md_frame_307
      rw [if_neg (fun q => q zb1), ld]
    by_cases q : p + 1 < w.length
    · rw [if_pos (show p < w.length by omega)] at ha hp1
      subst hp1
      rw [if_pos q] at hc mB
      rw [Bool.true_and, decide_eq_true (show p < w.length by omega), decide_eq_true q] at mB
      rw [if_pos mB.b0, show nI a + 256 * nI c = nI (w.getD p 0 + 256 * w.getD (p + 1) 0) by rw [l256, pk_mul, nI_add, ha, hc]]
      by_cases q2 : nI (w.getD p 0 + 256 * w.getD (p + 1) 0) = finh v
      · rw [if_pos q2]
        refine ⟨u2 B 0 5 0, _, true, ?_, mB.set, fun _ => ⟨⟨q, q2⟩, by omega⟩, fun _ => rfl, fGB.tr (Fm.us (by simp))⟩
        unfold b_Md_frame_304 b_Md_frame_307
        rw [if_neg (fun q => q zb0), ld]
      · rw [if_neg q2]
        exact bad _ _ mB (fun c => q2 c.2)
    · have mB2 : MN B w (if p1 < w.length then p1 + 1 else p1) false := by
        have : (true && decide (p < w.length) && decide (p1 < w.length)) = false := by
          by_cases c : p < w.length
          · rw [if_pos c] at hp1
            rw [decide_eq_false (show ¬ p1 < w.length by omega), Bool.and_false]
          · rw [decide_eq_false c]
            rfl
        rw [this] at mB
        exact mB
      rw [if_neg mB2.b1]
      exact bad _ _ mB2 (fun c => q c.1)
  | succ d ih =>
    intro m v fu hd hf
    obtain ⟨fu, rfl⟩ : ∃ k, fu = k + 1 := ⟨fu - 1, by omega⟩
    obtain ⟨H, p', ok', e, r⟩ := ih (m + 1) ((v ^^^ nI (o.getD m 0)) * 16777619) fu (by omega) (by omega)
    have em : mixh v (o.drop m) = mixh ((v ^^^ nI (o.getD m 0)) * 16777619) (o.drop (m + 1)) := by
      rw [getD_drop (show m < o.length by omega)]
      rfl
    rw [em]
    refine ⟨H, p', ok', ?_, r⟩
    show b_Md_frame_219 L2 (f_Md_frame_219 L2 fu) 0 v (nI m) G = _
    unfold b_Md_frame_219 f_Md_mixed
    rw [x.1, ilen (by omega) (by omega), r07, gl3, if_neg (inb_no (n := m) (by omega) (by omega)), show mGa L2 G 3 (nI m).toNatClampNeg = nI (o.getD m 0) by rw [ga3, nI_clamp (by omega), x.2 m (by omega)]]
    dsimp only [Option.bind_some]
    rw [nI_1]
    exact e
theorem md_frame {G : Mem} {w o : List Nat} {p : Nat} (h : MN G w p true) (hl : o.length ≤ 120) (hp : p ≤ w.length) (x : MD G 6 3 o) :
    ∃ H p' ok' o', f_Md_frame L2 0 G = some H ∧ MN H w p' ok' ∧ (ok' = true → frameS w p o = some (p', o') ∧ MD H 6 3 o') ∧ (frameS w p o ≠ none → ok' = true) ∧ Fm FL FC G H := by
  have hw := h.2.2.2.2.2
  have h5 := h.2.2.2.2.1
  obtain ⟨A, eA, mA, fA⟩ := mn_next h (Nat.le_refl w.length)
  obtain ⟨ck, hck⟩ : ∃ a, a = (if p < w.length then w.getD p 0 else 0) := ⟨_, rfl⟩
  have hck2 : ck < 256 := by have := nI_byte hw p; rw [hck]; split <;> omega
  rw [← hck] at eA
  obtain ⟨p1, hp1⟩ : ∃ q, q = (if p < w.length then p + 1 else p) := ⟨_, rfl⟩
  rw [← hp1] at mA
  obtain ⟨B, eB, mB, fB⟩ := mn_next mA (Nat.le_refl w.length)
  obtain ⟨lo, hlo⟩ : ∃ a, a = (if p1 < w.length then w.getD p1 0 else 0) := ⟨_, rfl⟩
  have hlo2 : lo < 256 := by have := nI_byte hw p1; rw [hlo]; split <;> omega
  rw [← hlo] at eB
  obtain ⟨p2, hp2⟩ : ∃ q, q = (if p1 < w.length then p1 + 1 else p1) := ⟨_, rfl⟩
  rw [← hp2] at mB
  obtain ⟨C, eC, mC, fC⟩ := mn_next mB (Nat.le_refl w.length)
  obtain ⟨hi, hhi⟩ : ∃ a, a = (if p2 < w.length then w.getD p2 0 else 0) := ⟨_, rfl⟩
  have hhi2 : hi < 256 := by have := nI_byte hw p2; rw [hhi]; split <;> omega
  rw [← hhi] at eC
  obtain ⟨p3, hp3⟩ : ∃ q, q = (if p2 < w.length then p2 + 1 else p2) := ⟨_, rfl⟩
  rw [← hp3] at mC
  obtain ⟨okC, hokC⟩ : ∃ k, k = (true && decide (p < w.length) && decide (p1 < w.length) && decide (p2 < w.length)) := ⟨_, rfl⟩
  rw [← hokC] at mC
  have three : p + 2 < w.length → ck = w.getD p 0 ∧ lo = w.getD (p + 1) 0 ∧ hi = w.getD (p + 2) 0 ∧ p3 = p + 3 ∧ okC = true := fun q => by
    rw [if_pos (by omega)] at hck hp1
    subst hp1
    rw [if_pos (by omega)] at hlo hp2
    subst hp2
    rw [if_pos (by omega)] at hhi hp3
    exact ⟨hck, hlo, hhi, by omega, by rw [hokC, decide_eq_true (show p < w.length by omega), decide_eq_true (show p + 1 < w.length by omega), decide_eq_true (show p + 1 + 1 < w.length by omega)]; rfl⟩
  have three' : okC = true → p + 2 < w.length := fun q => by
    rw [hokC] at q
    have : (p < w.length ∧ p1 < w.length) ∧ p2 < w.length := by simpa using q
    obtain ⟨⟨q1, q2⟩, q3⟩ := this
    rw [if_pos q1] at hp1
    rw [if_pos q2] at hp2
    omega
  obtain ⟨due, hdue⟩ : ∃ d, d = lo + 256 * hi := ⟨_, rfl⟩
  have fGC : Fm [4, 5] [] G C := (fA.tr fB).tr fC
  have e0 : f_Md_frame L2 0 G = if (u2 C 0 9 (nI due)) 0 5 = 0 then (if nI ck ≤ (1 : Int32) then b_Md_frame_54 L2 0 (nI ck) 0 0 (u2 C 0 9 (nI due)) else b_Md_frame_49 L2 0 (nI ck) 0 (u2 C 0 9 (nI due))) else b_Md_frame_49 L2 0 (nI ck) 0 (u2 C 0 9 (nI due)) := by
    unfold f_Md_frame
    rw [h.1.1, eA]
    dsimp only [Option.bind_some]
    rw [mA.1.1, eB]
    dsimp only [Option.bind_some]
    rw [mB.1.1, eC]
    dsimp only [Option.bind_some]
    rw [show nI lo + 256 * nI hi = nI due by rw [l256, pk_mul, nI_add, hdue], ld]
  -- the frame begins
  have main : ∀ okD : Bool, (okD = true → okC = true ∧ ck ≤ 1) → (okC = true → ck ≤ 1 → okD = true) → ∃ H p' ok' o', b_Md_frame_54 L2 0 (nI ck) 0 (if okD = true then 0 else 1) (u2 C 0 9 (nI due)) = some H ∧ MN H w p' ok' ∧ (ok' = true → frameS w p o = some (p', o') ∧ MD H 6 3 o') ∧ (frameS w p o ≠ none → ok' = true) ∧ Fm FL FC G H := by
    intro okD c1 c2
    obtain ⟨D, hD⟩ : ∃ D, D = u2 (u2 (u2 (u2 (u2 (u2 (u2 (u2 C 0 9 (nI due)) 0 5 (if okD = true then 0 else 1)) 0 8 (nI o.length)) 4 0 1) 4 1 4) 4 2 8) 0 15 0) 8 0 0 := ⟨_, rfl⟩
    obtain ⟨E, hE⟩ : ∃ E, E = u2 (u2 D 8 1 0) 8 2 0 := ⟨_, rfl⟩
    have fCE : Fm [5, 8, 9, 15] [4, 8] C E := by
      rw [hE, hD]
      exact ((((((((((Fm.us (by simp)).tr (Fm.us (by simp))).tr (Fm.us (by simp))).tr (Fm.uc (by simp) (by decide))).tr (Fm.uc (by simp) (by decide))).tr (Fm.uc (by simp) (by decide))).tr (Fm.us (by simp))).tr (Fm.uc (by simp) (by decide))).tr (Fm.uc (by simp) (by decide))).tr (Fm.uc (by simp) (by decide)))
    have xC : MD C 6 3 o := x.fm fGC (by decide) (by simp) (by decide)
    have xE0 : MD E 6 3 o := xC.fm fCE (by decide) (by decide) (by decide)
    have e05 : E 0 5 = (if okD = true then 0 else 1) := by
      rw [hE, u2_c (by decide), u2_c (by decide), hD, u2_c (by decide), u2_p (by decide), u2_c (by decide), u2_c (by decide), u2_c (by decide), u2_p (by decide), u2_s]
    have e08 : E 0 8 = nI o.length := by
      rw [hE, u2_c (by decide), u2_c (by decide), hD, u2_c (by decide), u2_p (by decide), u2_c (by decide), u2_c (by decide), u2_c (by decide), u2_s]
    have e09 : E 0 9 = nI due := by
      rw [hE, u2_c (by decide), u2_c (by decide), hD, u2_c (by decide), u2_p (by decide), u2_c (by decide), u2_c (by decide), u2_c (by decide), u2_p (by decide), u2_p (by decide), u2_s]
    have e15 : E 0 15 = 0 := by
      rw [hE, u2_c (by decide), u2_c (by decide), hD, u2_c (by decide), u2_s]
    have e8 : ∀ k, k < 3 → E 8 k = 0 := fun k hk => by
      have : k = 0 ∨ k = 1 ∨ k = 2 := by omega
      rcases this with rfl | rfl | rfl
      · rw [hE, u2_p (by decide), u2_p (by decide), hD, u2_s]
      · rw [hE, u2_p (by decide), u2_s]
      · rw [hE, u2_s]
    have rpE : MRp E (1, 4, 8) := by
      refine ⟨?_, ?_, ?_⟩
      · rw [hE, u2_c (by decide), u2_c (by decide), hD, u2_c (by decide), u2_c (by decide), u2_p (by decide), u2_p (by decide), u2_s]; rfl
      · rw [hE, u2_c (by decide), u2_c (by decide), hD, u2_c (by decide), u2_c (by decide), u2_p (by decide), u2_s]; rfl
      · rw [hE, u2_c (by decide), u2_c (by decide), hD, u2_c (by decide), u2_c (by decide), u2_s]; rfl
    have mE : MN E w p3 okD := ⟨mC.1.fm fCE (by decide) (by decide) (by decide), by rw [fCE.2 4 (by decide)]; exact mC.2.1, by rw [e05], mC.2.2.2⟩
    have xE : MX E o.length due o := ⟨xE0, e08, e09, Nat.le_refl _, by unfold mcap; omega, by omega⟩
    have rb0 : RB (1, 4, 8) := ⟨⟨by decide, by decide⟩, ⟨by decide, by decide⟩, ⟨by decide, by decide⟩⟩
    have kE : MBs E (o, (1, 4, 8), none, none) := ⟨rpE, rb0, ⟨e15, fun T e => absurd e (by simp)⟩, ⟨fun k hk => e8 k hk, fun t e => absurd e (by simp)⟩⟩
    have fGE : Fm FL FC G E := (fGC.up (by simp) (by simp)).tr (fCE.up (by simp) (by simp))
    have e54 : b_Md_frame_54 L2 0 (nI ck) 0 (if okD = true then 0 else 1) (u2 C 0 9 (nI due)) = f_Md_frame_114 L2 mFU 0 (nI ck) 0 E := by
      have n0 : (0 : Int32).toNatClampNeg = 0 := rfl
      have n1 : (1 : Int32).toNatClampNeg = 1 := rfl
      have n2 : (2 : Int32).toNatClampNeg = 2 := rfl
      have j0 : ¬ (inb (0 : Int32) 3 ∨ ¬ 4 < mNc L2) := in_w (n := 0) (by decide) (by decide) (by decide)
      have j1 : ¬ (inb (1 : Int32) 3 ∨ ¬ 4 < mNc L2) := in_w (n := 1) (by decide) (by decide) (by decide)
      have j2 : ¬ (inb (2 : Int32) 3 ∨ ¬ 4 < mNc L2) := in_w (n := 2) (by decide) (by decide) (by decide)
      have i0 : ¬ (inb (0 : Int32) 3 ∨ ¬ ((0 : Int32) = 0 ∨ (0 : Int32) = 1)) := in_w (n := 0) (by decide) (by decide) zb0
      have i1 : ¬ (inb (1 : Int32) 3 ∨ ¬ ((0 : Int32) = 0 ∨ (0 : Int32) = 1)) := in_w (n := 1) (by decide) (by decide) zb0
      have i2 : ¬ (inb (2 : Int32) 3 ∨ ¬ ((0 : Int32) = 0 ∨ (0 : Int32) = 1)) := in_w (n := 2) (by decide) (by decide) zb0
      have s94 : ∀ (k4 : Nat → Int32 → Int32 → Mem → Option Mem) (K : Mem), b_Md_frame_94 L2 k4 0 (nI ck) 0 K = k4 0 (nI ck) 1 (u2 K 8 0 0) := fun k4 K => by
        unfold b_Md_frame_94
        rw [if_neg (by decide), r021, m8, if_neg i0, ld, n0]
        rfl
      have s94' : ∀ (k4 : Nat → Int32 → Int32 → Mem → Option Mem) (K : Mem), b_Md_frame_94 L2 k4 0 (nI ck) 1 K = k4 0 (nI ck) 2 (u2 K 8 1 0) := fun k4 K => by
        unfold b_Md_frame_94
        rw [if_neg (by decide), r021, m8, if_neg i1, ld, n1]
        rfl
      have s94'' : ∀ (k4 : Nat → Int32 → Int32 → Mem → Option Mem) (K : Mem), b_Md_frame_94 L2 k4 0 (nI ck) 2 K = k4 0 (nI ck) 3 (u2 K 8 2 0) := fun k4 K => by
        unfold b_Md_frame_94
        rw [if_neg (by decide), r021, m8, if_neg i2, ld, n2]
        rfl
      have s94e : ∀ (k4 : Nat → Int32 → Int32 → Mem → Option Mem) (K : Mem), b_Md_frame_94 L2 k4 0 (nI ck) 3 K = f_Md_frame_114 L2 mFU 0 (nI ck) 0 K := fun k4 K => by
        unfold b_Md_frame_94
        rw [if_pos (by decide)]
      have a94 : ∀ K : Mem, f_Md_frame_94 L2 mFU 0 (nI ck) 0 K = f_Md_frame_114 L2 mFU 0 (nI ck) 0 (u2 (u2 (u2 K 8 0 0) 8 1 0) 8 2 0) := fun K => by
        show b_Md_frame_94 L2 (f_Md_frame_94 L2 4095) 0 (nI ck) 0 K = _
        rw [s94]
        show b_Md_frame_94 L2 (f_Md_frame_94 L2 4094) 0 (nI ck) 1 _ = _
        rw [s94']
        show b_Md_frame_94 L2 (f_Md_frame_94 L2 4093) 0 (nI ck) 2 _ = _
        rw [s94'']
        show b_Md_frame_94 L2 (f_Md_frame_94 L2 4092) 0 (nI ck) 3 _ = _
        rw [s94e]
      unfold b_Md_frame_54
      rw [if_neg (show ¬ ¬ ((if okD = true then (0 : Int32) else 1) = 0 ∨ (if okD = true then (0 : Int32) else 1) = 1) by cases okD; exact fun q => q zb1; exact fun q => q zb0), ld, ld, r010, m4, if_neg j0, ld, if_neg j1, ld, if_neg j2, ld, if_neg (fun q => q zb0), ld, a94, n0, n1, n2, u2_p (show (6 : Nat) ≠ 5 by decide), u2_p (show (6 : Nat) ≠ 9 by decide), xC.1, hE, hD]
    rw [e54]
    obtain ⟨K, pK, okK, bK, eK, mK, xK, g1, g2, fK⟩ := md_blocks (w := w) (bg := o.length) (due := due) (nI ck) 240 E p3 okD (o, (1, 4, 8), none, none) mFU (by unfold mFU; omega) (fun o' => by
      have q := three' (c1 o').1
      obtain ⟨-, -, -, t4, -⟩ := three q
      omega) mE xE (fun _ => kE)
    rw [eK]
    have fGK : Fm FL FC G K := fGE.tr fK
    have hKl := xK.len
    have hKb := xK.2.2.2.1
    have hdue2 : due < 65536 := by omega
    -- the spec, where the head is whole
    have sp : okD = true → frameS w p o = if o.length + due ≤ 120 then (blocksS w o.length (o.length + due) 240 p3 (o, (1, 4, 8), none, none)).bind (fun q => if q.2.1.length = o.length + due then (if ck = 1 then (if q.1 + 1 < w.length ∧ nI (w.getD q.1 0 + 256 * w.getD (q.1 + 1) 0) = finh (mixh (nI (q.2.1.length - o.length)) (q.2.1.drop o.length)) then some (q.1 + 2, q.2.1) else none) else some (q.1, q.2.1)) else none) else none := fun o' => by
      obtain ⟨oC, hc1⟩ := c1 o'
      have q := three' oC
      obtain ⟨t1, t2, t3, t4, -⟩ := three q
      unfold frameS
      rw [← t1, ← t2, ← t3, ← hdue, ← t4]
      by_cases c : o.length + due ≤ 120
      · rw [if_pos ⟨q, hc1, c⟩, if_pos c]
      · rw [if_neg (fun c' => c c'.2.2), if_neg c]
    have spn : okD = false → frameS w p o = none := fun o' => by
      unfold frameS
      rw [if_neg (fun c => ?_)]
      obtain ⟨t1, t2, t3, t4, t5⟩ := three c.1
      have := c2 t5 (by rw [t1]; exact c.2.1)
      rw [o'] at this
      exact absurd this (by decide)
    have ecap : o.length + due ≤ 120 → mcap o.length due = o.length + due := fun c => by unfold mcap; omega
    -- refused
    have bad : ∀ (M : Mem) (pM : Nat) (okM : Bool), MN M w pM okM → Fm FL FC G M → frameS w p o = none → ∃ H p' ok' o', b_Md_frame_182 L2 0 (nI ck) 0 M = some H ∧ MN H w p' ok' ∧ (ok' = true → frameS w p o = some (p', o') ∧ MD H 6 3 o') ∧ (frameS w p o ≠ none → ok' = true) ∧ Fm FL FC G H := by
      intro M pM okM mM fM qn
      refine ⟨u2 M 0 5 1, pM, false, o, ?_, mM.bad, fun o => absurd o (by decide), fun s => absurd qn s, fM.tr (Fm.us (by simp))⟩
      unfold b_Md_frame_182 b_Md_frame_187 b_Md_frame_307
      rw [if_neg (fun q => q zb1), ld, u2_s, if_neg (show ¬ (1 : Int32) = 0 by decide)]
      split <;> rfl
    unfold b_Md_frame_158
    cases okK with
    | false =>
      rw [if_neg mK.b1]
      refine bad K pK false mK fGK ?_
      cases okD with
      | false => exact spn rfl
      | true =>
        rw [sp rfl]
        by_cases c : o.length + due ≤ 120
        · rw [if_pos c]
          rw [ecap c] at g2
          cases e4 : blocksS w o.length (o.length + due) 240 p3 (o, (1, 4, 8), none, none) with
          | none => rfl
          | some z => exact absurd (g2 rfl (by rw [e4]; simp)) (by decide)
        · rw [if_neg c]
    | true =>
      obtain ⟨oD, sb⟩ := g1 rfl
      rw [if_pos mK.b0, xK.1.1, xK.2.1, xK.2.2.1, pk_sub hKb]
      by_cases q1 : bK.1.length - o.length = due
      · rw [ieq q1]
        have c : o.length + due ≤ 120 := by omega
        have sp' := sp oD
        rw [if_pos c] at sp'
        rw [ecap c] at sb
        rw [sb] at sp'
        dsimp only [Option.bind_some] at sp'
        rw [if_pos (show bK.1.length = o.length + due by omega)] at sp'
        unfold b_Md_frame_187 b_Md_frame_307
        rw [if_neg (fun q => q zb0), ld]
        have f0 : Fm [5] [] K (u2 K 0 5 0) := Fm.us (by simp)
        have m0 := mK.set
        have x0 : MD (u2 K 0 5 0) 6 3 bK.1 := xK.1.fm f0 (by decide) (by simp) (by decide)
        by_cases q2 : ck = 1
        · rw [if_pos (show nI ck = (1 : Int32) by rw [q2]; rfl), if_pos m0.b0, u2_p (show (6 : Nat) ≠ 5 by decide), u2_p (show (8 : Nat) ≠ 5 by decide), xK.1.1, xK.2.1, pk_sub hKb]
          rw [if_pos q2] at sp'
          obtain ⟨H, p', ok', eH, mH, k1, k2, fH⟩ := md_f219 hKl m0 x0 (bK.1.length - o.length) o.length (nI (bK.1.length - o.length)) mFU (by omega) (by unfold mFU; omega)
          refine ⟨H, p', ok', bK.1, eH, mH, fun o' => ?_, fun hs => ?_, (fGK.tr (f0.up (by simp) (by simp))).tr (fH.up (by simp) (by simp))⟩
          · obtain ⟨j1, j2⟩ := k1 o'
            rw [if_pos j1] at sp'
            exact ⟨by rw [sp', j2], x0.fm fH (by decide) (by simp) (by decide)⟩
          · refine k2 ?_
            by_cases j : pK + 1 < w.length ∧ nI (w.getD pK 0 + 256 * w.getD (pK + 1) 0) = finh (mixh (nI (bK.1.length - o.length)) (bK.1.drop o.length))
            · exact j
            · rw [sp', if_neg j] at hs
              exact absurd rfl hs
        · rw [if_neg (show ¬ nI ck = (1 : Int32) from nne (b := 1) q2 (by omega) (by omega))]
          rw [if_neg q2] at sp'
          exact ⟨u2 K 0 5 0, pK, true, bK.1, rfl, m0, fun _ => ⟨sp', x0⟩, fun _ => rfl, fGK.tr (f0.up (by simp) (by simp))⟩
      · rw [ieqn q1 (by omega) (by omega)]
        refine bad K pK true mK fGK ?_
        rw [sp oD]
        by_cases c : o.length + due ≤ 120
        · rw [if_pos c]
          rw [ecap c] at sb
          rw [sb]
          dsimp only [Option.bind_some]
          rw [if_neg (show ¬ bK.1.length = o.length + due by omega)]
        · rw [if_neg c]
  rw [e0]
  have e5 : (u2 C 0 9 (nI due)) 0 5 = C 0 5 := u2_p (by decide)
  cases okC with
  | false =>
    rw [if_neg (show ¬ (u2 C 0 9 (nI due)) 0 5 = 0 by rw [e5]; exact mC.b1)]
    exact main false (fun o => absurd o (by decide)) (fun o => absurd o (by decide))
  | true =>
    rw [if_pos (show (u2 C 0 9 (nI due)) 0 5 = 0 by rw [e5]; exact mC.b0)]
    by_cases q : ck ≤ 1
    · rw [if_pos (show nI ck ≤ (1 : Int32) from nI_le (b := 1) q (by omega))]
      exact main true (fun _ => ⟨rfl, q⟩) (fun _ _ => rfl)
    · rw [if_neg (show ¬ nI ck ≤ (1 : Int32) from fun c => absurd ((nI_leI (b := 1) (by omega) (by omega)).mp c) (by omega))]
      exact main false (fun o => absurd o (by decide)) (fun _ c => absurd c q)
