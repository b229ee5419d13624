/-! pure: the class reads a frame -/
def blocksS (w : List Nat) (fs fe : Nat) : Nat → Nat → BSt → Option (Nat × BSt)
  | 0, _, _ => none
  | k + 1, p, b => if p + 1 < w.length then (blockS w fs fe (w.getD p 0 / 2 % 4) (w.getD p 0 / 8 + 32 * w.getD (p + 1) 0) (p + 2) b).bind fun q => if w.getD p 0 % 2 = 1 then some q else blocksS w fs fe k q.1 q.2 else none
def frameS (w : List Nat) (p : Nat) (o : List Nat) : Option (Nat × List Nat) :=
  if p + 2 < w.length ∧ w.getD p 0 ≤ 1 ∧ o.length + (w.getD (p + 1) 0 + 256 * w.getD (p + 2) 0) ≤ 120 then
    (blocksS w o.length (o.length + (w.getD (p + 1) 0 + 256 * w.getD (p + 2) 0)) 240 (p + 3) (o, (1, 4, 8), none, none)).bind fun q =>
      if q.2.1.length = o.length + (w.getD (p + 1) 0 + 256 * w.getD (p + 2) 0) then
        (if w.getD p 0 = 1 then
          (if q.1 + 1 < w.length ∧ nI (w.getD q.1 0 + 256 * w.getD (q.1 + 1) 0) = finh (mixh (nI (q.2.1.length - o.length)) (q.2.1.drop o.length)) then some (q.1 + 2, q.2.1) else none)
        else some (q.1, q.2.1))
      else none
  else none
theorem blockS_ge {w : List Nat} {fs fe ty n p : Nat} {b : BSt} {z : Nat × BSt} (h : blockS w fs fe ty n p b = some z) : p ≤ z.1 := by
  unfold blockS at h
  split at h
  · split at h
    · injection h with h
      subst h
      dsimp only
      omega
    · exact absurd h (by simp)
  · split at h
    · split at h
      · injection h with h
        subst h
        dsimp only
        omega
      · exact absurd h (by simp)
    · split at h
      · split at h
        · cases e : packS w (p + n) fs fe p b with
          | none => rw [e] at h; exact absurd h (by simp)
          | some c =>
            rw [e] at h
            injection h with h
            subst h
            dsimp only
            omega
        · exact absurd h (by simp)
      · exact absurd h (by simp)
theorem blocksS_ge {w : List Nat} {fs fe : Nat} : ∀ {k p : Nat} {b : BSt} {z : Nat × BSt}, blocksS w fs fe k p b = some z → p + 2 ≤ z.1
  | 0, p, b, z, h => absurd h (by simp [blocksS])
  | k + 1, p, b, z, h => by
    unfold blocksS at h
    split at h
    · cases e : blockS w fs fe (w.getD p 0 / 2 % 4) (w.getD p 0 / 8 + 32 * w.getD (p + 1) 0) (p + 2) b with
      | none => rw [e] at h; exact absurd h (by simp)
      | some q =>
        rw [e] at h
        dsimp only [Option.bind_some] at h
        have := blockS_ge e
        split at h
        · injection h with h
          subst h
          exact this
        · have := blocksS_ge h
          omega
    · exact absurd h (by simp)
theorem frameS_ge {w : List Nat} {p : Nat} {o : List Nat} {z : Nat × List Nat} (h : frameS w p o = some z) : p + 2 ≤ z.1 := by
  unfold frameS at h
  split at h
  · cases e : blocksS w o.length (o.length + (w.getD (p + 1) 0 + 256 * w.getD (p + 2) 0)) 240 (p + 3) (o, (1, 4, 8), none, none) with
    | none => rw [e] at h; exact absurd h (by simp)
    | some q =>
      rw [e] at h
      dsimp only [Option.bind_some] at h
      have := blocksS_ge e
      split at h
      · split at h
        · split at h
          · injection h with h
            subst h
            dsimp only
            omega
          · exact absurd h (by simp)
        · injection h with h
          subst h
          dsimp only
          omega
      · exact absurd h (by simp)
  · exact absurd h (by simp)
theorem CB.fr {F G : Mem} {fs fe : Nat} {o o' : List Nat} {r : N3} (h : CB F fs fe o r) (f : Fr [16, 17, 25] F G) (ho : CO G fs fe o') : CB G fs fe o' r := ⟨ho, h.2.1.fr f (by decide), h.2.2.1.fr f (by decide), h.2.2.2.1.fr f (by decide), h.2.2.2.2.fr f (by decide) (by decide) (by decide)⟩
theorem fr_block {F : Mem} {w : List Nat} {p ss bl fs fe n x i : Nat} {ok : Bool} {b : BSt} (h : CR F w p w.length ss bl ok) (cb : CB F fs fe b.1 b.2.1) (k : ok = true → KT F b.2.2.1 ∧ KN F b.2.2.2) (hn : n < 2 ^ 20) (hx : x < 256) (x2 y0 : Int32) (kk : Nat → Int32 → Int32 → Int32 → Mem → Option (Int32 × Mem)) :
    ∃ G p' ss' bl' ok' b', b_Fr_placeBehindFrame_117 L1 kk 15 x2 (nI i) (nI x) (nI n) y0 F = kk 15 x2 y0 (nI (i + 1)) G ∧ CR G w p' w.length ss' bl' ok' ∧ CB G fs fe b'.1 b'.2.1 ∧ (ok' = true → ok = true ∧ blockS w fs fe (x / 2 % 4) n p b = some (p', b') ∧ KT G b'.2.2.1 ∧ KN G b'.2.2.2) ∧ (ok = true → blockS w fs fe (x / 2 % 4) n p b ≠ none → ok' = true) ∧ Fr FS F G := by
  unfold b_Fr_placeBehindFrame_117 b_Fr_placeBehindFrame_186
  rw [show jshr (nI x) 1 &&& 3 = nI (x / 2 % 4) by rw [l1, jshr_n (by omega) (by omega), pk_andN (by omega) 2 rfl]]
  by_cases q0 : x / 2 % 4 = 0
  · rw [if_pos (show nI (x / 2 % 4) = 0 by rw [q0]; rfl), q0]
    obtain ⟨G, p', ok', o', e, cG, oG, g1, g2, f⟩ := fr_raw h cb.1 hn
    rw [e]
    dsimp only [Option.bind_some]
    rw [nI_1]
    refine ⟨G, p', ss, bl, ok', (o', b.2), rfl, cG, cb.fr f oG, fun o => ?_, fun o hs => ?_, f.up (by simp)⟩
    · obtain ⟨o1, o2, o3, o4⟩ := g1 o
      refine ⟨o1, ?_, (k o1).1.fr f (by decide) (by decide) (by decide) (by rw [f 15 (by decide)]), (k o1).2.fr f (by simp; omega)⟩
      unfold blockS
      rw [if_pos rfl, if_pos o2, o3, o4]
    · unfold blockS at hs
      rw [if_pos rfl] at hs
      by_cases c : p + n ≤ w.length ∧ b.1.length + n ≤ fe
      · exact g2 o c
      · rw [if_neg c] at hs
        exact absurd rfl hs
  · rw [if_neg (show ¬ nI (x / 2 % 4) = 0 from nne (b := 0) q0 (by omega) (by omega))]
    by_cases q1 : x / 2 % 4 = 1
    · rw [if_pos (show nI (x / 2 % 4) = 1 by rw [q1]; rfl), q1]
      obtain ⟨G, p', ok', o', e, cG, oG, g1, g2, f⟩ := fr_run h cb.1 hn
      rw [e]
      dsimp only [Option.bind_some]
      rw [nI_1]
      refine ⟨G, p', ss, bl, ok', (o', b.2), rfl, cG, cb.fr f oG, fun o => ?_, fun o hs => ?_, f.up (by simp)⟩
      · obtain ⟨o1, o2, o3, o4⟩ := g1 o
        refine ⟨o1, ?_, (k o1).1.fr f (by decide) (by decide) (by decide) (by rw [f 15 (by decide)]), (k o1).2.fr f (by simp; omega)⟩
        unfold blockS
        rw [if_neg (by decide), if_pos rfl, if_pos o2, o3, o4]
      · unfold blockS at hs
        rw [if_neg (by decide), if_pos rfl] at hs
        by_cases c : p < w.length ∧ b.1.length + n ≤ fe
        · exact g2 o c
        · rw [if_neg c] at hs
          exact absurd rfl hs
    · rw [if_neg (show ¬ nI (x / 2 % 4) = 1 from nne (b := 1) q1 (by omega) (by omega))]
      by_cases q2 : x / 2 % 4 = 2
      · rw [if_pos (show nI (x / 2 % 4) = 2 by rw [q2]; rfl), q2]
        obtain ⟨G, p', ss', bl', ok', b', e, cG, bG, g1, g2, f⟩ := fr_pack h cb k hn
        rw [e]
        dsimp only [Option.bind_some]
        rw [nI_1]
        refine ⟨G, p', ss', bl', ok', b', rfl, cG, bG, fun o => ?_, fun o hs => ?_, f⟩
        · obtain ⟨o1, o2, o3, o4, o5⟩ := g1 o
          refine ⟨o1, ?_, o5⟩
          unfold blockS
          rw [if_neg (by decide), if_neg (by decide), if_pos rfl, if_pos o2, o3, o4]
          rfl
        · unfold blockS at hs
          rw [if_neg (by decide), if_neg (by decide), if_pos rfl] at hs
          by_cases c : p + n ≤ w.length
          · rw [if_pos c] at hs
            refine g2 o c (fun e4 => ?_)
            rw [e4] at hs
            exact absurd rfl hs
          · rw [if_neg c] at hs
            exact absurd rfl hs
      · rw [if_neg (show ¬ nI (x / 2 % 4) = 2 from nne (b := 2) q2 (by omega) (by omega)), r151]
        obtain ⟨G, e, cG, f⟩ := wr_refuse h
        rw [e]
        dsimp only [Option.bind_some]
        rw [nI_1]
        have f' : Fr [16, 17, 25] F G := f.up (by simp)
        refine ⟨G, p, ss, bl, false, b, rfl, cG, cb.fr f' (cb.1.fr f (by decide) (by decide) (by decide)), fun o => absurd o (by decide), fun o hs => ?_, f.up (by simp)⟩
        unfold blockS at hs
        rw [if_neg q0, if_neg q1, if_neg q2] at hs
        exact absurd rfl hs
theorem fr_blocks {w : List Nat} {fs fe : Nat} (x2 : Int32) : ∀ (k i : Nat) (F : Mem) (p ss bl : Nat) (ok : Bool) (b : BSt) (fu : Nat), k + i = 240 → k < fu → CR F w p w.length ss bl ok → CB F fs fe b.1 b.2.1 → (ok = true → KT F b.2.2.1 ∧ KN F b.2.2.2) →
    ∃ G p' ss' bl' ok' b' la, f_Fr_placeBehindFrame_55 L1 fu 15 x2 0 (nI i) F = b_Fr_placeBehindFrame_192 L1 15 x2 (if la then 1 else 0) G ∧ CR G w p' w.length ss' bl' ok' ∧ CB G fs fe b'.1 b'.2.1 ∧ (la = true → ok' = true → ok = true ∧ blocksS w fs fe k p b = some (p', b')) ∧ (ok = true → blocksS w fs fe k p b ≠ none → la = true ∧ ok' = true) ∧ Fr FS F G := by
  intro k
  induction k with
  | zero =>
    intro i F p ss bl ok b fu hd hf h cb hk
    obtain ⟨fu, rfl⟩ : ∃ k, fu = k + 1 := ⟨fu - 1, by omega⟩
    obtain rfl : i = 240 := by omega
    refine ⟨F, p, ss, bl, ok, b, false, ?_, h, cb, fun q => absurd q (by decide), fun _ q => absurd rfl q, Fr.rf⟩
    show b_Fr_placeBehindFrame_55 L1 (f_Fr_placeBehindFrame_55 L1 fu) 15 x2 0 (nI 240) F = _
    unfold b_Fr_placeBehindFrame_55
    rw [if_pos (show (240 : Int32) ≤ nI 240 by decide)]
    rfl
  | succ k ih =>
    intro i F p ss bl ok b fu hd hf h cb hk
    obtain ⟨fu, rfl⟩ : ∃ k, fu = k + 1 := ⟨fu - 1, by omega⟩
    have e240 : ¬ (240 : Int32) ≤ nI i := fun q => absurd ((nI_leI (a := 240) (by omega) (by omega)).mp q) (by omega)
    cases ok with
    | false =>
      refine ⟨F, p, ss, bl, false, b, false, ?_, h, cb, fun q => absurd q (by decide), fun q => absurd q (by decide), Fr.rf⟩
      show b_Fr_placeBehindFrame_55 L1 (f_Fr_placeBehindFrame_55 L1 fu) 15 x2 0 (nI i) F = _
      unfold b_Fr_placeBehindFrame_55
      rw [if_neg e240, if_pos rfl, r151, if_pos h.s0]
      rfl
    | true =>
      have hw := h.2.2.2.2.2.2
      obtain ⟨A, eA, cA, fA⟩ := wr_byte h
      obtain ⟨x, hx⟩ : ∃ x, x = (if p < w.length then w.getD p 0 else 0) := ⟨_, rfl⟩
      have hx2 : x < 256 := by have := nI_byte hw p; rw [hx]; split <;> omega
      rw [← hx] at eA
      obtain ⟨p1, hp1⟩ : ∃ q, q = (if p < w.length then p + 1 else p) := ⟨_, rfl⟩
      rw [← hp1] at cA
      obtain ⟨B, eB, cB, fB⟩ := wr_byte cA
      obtain ⟨y, hy⟩ : ∃ y, y = (if p1 < w.length then w.getD p1 0 else 0) := ⟨_, rfl⟩
      have hy2 : y < 256 := by have := nI_byte hw p1; rw [hy]; split <;> omega
      rw [← hy] at eB
      obtain ⟨p2, hp2⟩ : ∃ q, q = (if p1 < w.length then p1 + 1 else p1) := ⟨_, rfl⟩
      rw [← hp2] at cB
      obtain ⟨okB, hokB⟩ : ∃ o, o = (true && decide (p < w.length) && decide (p1 < w.length)) := ⟨_, rfl⟩
      rw [← hokB] at cB
      have two : p + 1 < w.length → p1 = p + 1 ∧ x = w.getD p 0 ∧ y = w.getD (p + 1) 0 ∧ p2 = p + 2 ∧ okB = true := fun q => by
        rw [if_pos (by omega)] at hx hp1
        subst hp1
        rw [if_pos q] at hy hp2
        exact ⟨rfl, hx, hy, by omega, by rw [hokB, decide_eq_true (show p < w.length by omega), decide_eq_true q]; rfl⟩
      have two' : okB = true → p + 1 < w.length := fun q => by
        rw [hokB] at q
        have : p < w.length ∧ p1 < w.length := by simpa using q
        rw [if_pos this.1] at hp1
        omega
      have fFB : Fr [25] F B := fA.tr fB
      have f3 : Fr [16, 17, 25] F B := fFB.up (by simp)
      have cbB : CB B fs fe b.1 b.2.1 := cb.fr f3 (cb.1.fr fFB (by decide) (by decide) (by decide))
      have kB : okB = true → KT B b.2.2.1 ∧ KN B b.2.2.2 := fun _ => ⟨(hk rfl).1.fr fFB (by decide) (by decide) (by decide) (by rw [fFB 15 (by decide)]), (hk rfl).2.fr fFB (by simp; omega)⟩
      -- behind the block
      have st : ∀ y0 : Int32, (y0 = if x % 2 = 1 then 1 else 0) → f_Fr_placeBehindFrame_55 L1 (fu + 1) 15 x2 0 (nI i) F = b_Fr_placeBehindFrame_117 L1 (f_Fr_placeBehindFrame_55 L1 fu) 15 x2 (nI i) (nI x) (nI (x / 8 + 32 * y)) y0 B := fun y0 hy0 => by
        show b_Fr_placeBehindFrame_55 L1 (f_Fr_placeBehindFrame_55 L1 fu) 15 x2 0 (nI i) F = _
        unfold b_Fr_placeBehindFrame_55
        rw [if_neg e240, if_pos rfl, r151, if_neg h.s1, eA]
        dsimp only [Option.bind_some]
        rw [eB]
        dsimp only [Option.bind_some]
        rw [show nI x &&& 1 = nI (x % 2) from pk_andN (by omega) 1 rfl, show jshr (nI x) 3 + 32 * nI y = nI (x / 8 + 32 * y) by rw [l3, jshr_n (by omega) (by omega), l32, pk_mul, nI_add]]
        by_cases q : x % 2 = 1
        · rw [if_pos (show nI (x % 2) = 1 by rw [q]; rfl), hy0, if_pos q]
        · rw [if_neg (show ¬ nI (x % 2) = 1 from nne (b := 1) q (by omega) (by omega)), hy0, if_neg q]
      have es : p + 1 < w.length → blocksS w fs fe (k + 1) p b = (blockS w fs fe (x / 2 % 4) (x / 8 + 32 * y) p2 b).bind fun q => if x % 2 = 1 then some q else blocksS w fs fe k q.1 q.2 := fun q => by
        obtain ⟨t1, t2, t3, t4, -⟩ := two q
        show (if p + 1 < w.length then _ else none) = _
        rw [if_pos q, ← t2, ← t3, ← t4]
      have es' : ¬ p + 1 < w.length → blocksS w fs fe (k + 1) p b = none := fun q => by
        show (if p + 1 < w.length then _ else none) = _
        rw [if_neg q]
      obtain ⟨C, pC, ssC, blC, okC, bC, eC, cC, cbC, g1, g2, fC⟩ := fr_block (i := i) (n := x / 8 + 32 * y) cB cbB kB (by omega) hx2 x2 (if x % 2 = 1 then 1 else 0) (f_Fr_placeBehindFrame_55 L1 fu)
      have fFC : Fr FS F C := (fFB.up (by simp)).tr fC
      by_cases q : x % 2 = 1
      · refine ⟨C, pC, ssC, blC, okC, bC, true, ?_, cC, cbC, fun _ o => ?_, fun _ hs => ?_, fFC⟩
        · rw [st _ rfl, eC, if_pos q, if_pos rfl]
          obtain ⟨fu, rfl⟩ : ∃ k, fu = k + 1 := ⟨fu - 1, by omega⟩
          show b_Fr_placeBehindFrame_55 L1 (f_Fr_placeBehindFrame_55 L1 fu) 15 x2 1 (nI (i + 1)) C = _
          unfold b_Fr_placeBehindFrame_55
          rw [if_neg (show ¬ (1 : Int32) = 0 by decide)]
          split <;> rfl
        · obtain ⟨o1, o2, o3⟩ := g1 o
          refine ⟨rfl, ?_⟩
          rw [es (two' o1), o2]
          dsimp only [Option.bind_some]
          rw [if_pos q]
        · by_cases c : p + 1 < w.length
          · rw [es c] at hs
            refine ⟨rfl, g2 (two c).2.2.2.2 (fun e4 => ?_)⟩
            rw [e4] at hs
            exact absurd rfl hs
          · exact absurd (es' c) hs
      · obtain ⟨G, p', ss', bl', ok', b', la, e, cG, cbG, k1, k2, f⟩ := ih (i + 1) C pC ssC blC okC bC fu (by omega) (by omega) cC cbC (fun o => (g1 o).2.2)
        refine ⟨G, p', ss', bl', ok', b', la, ?_, cG, cbG, fun h1 h2 => ?_, fun _ hs => ?_, fFC.tr f⟩
        · rw [st _ rfl, eC, if_neg q]
          exact e
        · obtain ⟨o1, o2⟩ := k1 h1 h2
          obtain ⟨o3, o4, o5⟩ := g1 o1
          refine ⟨rfl, ?_⟩
          rw [es (two' o3), o4]
          dsimp only [Option.bind_some]
          rw [if_neg q]
          exact o2
        · by_cases c : p + 1 < w.length
          · rw [es c] at hs
            cases e4 : blockS w fs fe (x / 2 % 4) (x / 8 + 32 * y) p2 b with
            | none => rw [e4] at hs; exact absurd rfl hs
            | some z =>
              have oC := g2 (two c).2.2.2.2 (by rw [e4]; simp)
              obtain ⟨-, o4, -⟩ := g1 oC
              rw [o4] at hs
              dsimp only [Option.bind_some] at hs
              rw [if_neg q] at hs
              exact k2 oC hs
          · exact absurd (es' c) hs
/-- what holds of the reader between two items -/
def UI (F : Mem) (w o : List Nat) : Prop := RD F 3 4 w ∧ RD F 16 17 o ∧ o.length ≤ 120 ∧ (∀ b ∈ o, b < 256) ∧ WB F ∧ CT F ∧ CSb F
theorem fr_frame {F : Mem} {w o : List Nat} {p : Nat} (h : UI F w o) (h5 : w.length ≤ 240) (h6 : ∀ b ∈ w, b < 256) (hp : p < w.length) :
    ∃ G r o', f_Fr_placeBehindFrame L1 15 (nI p) F = some (r, G) ∧ UI G w o' ∧ Fr FS F G ∧ (∀ z, frameS w (p + 1) o = some z → r = nI z.1 ∧ o' = z.2 ∧ z.1 ≤ w.length) ∧ (frameS w (p + 1) o = none → r = -1) := by
  obtain ⟨u1, u2', u3, u4, u5, u6, u7⟩ := h
  obtain ⟨A, ss, eA, cA, fA⟩ := wr_begin u1 h5 h6 (p := p + 1) (by omega)
  obtain ⟨B, eB, cB, fB⟩ := wr_byte cA
  obtain ⟨x, hx⟩ : ∃ x, x = (if p + 1 < w.length then w.getD (p + 1) 0 else 0) := ⟨_, rfl⟩
  have hx2 : x < 256 := by have := nI_byte h6 (p + 1); rw [hx]; split <;> omega
  rw [← hx] at eB
  obtain ⟨p1, hp1⟩ : ∃ q, q = (if p + 1 < w.length then p + 1 + 1 else p + 1) := ⟨_, rfl⟩
  rw [← hp1] at cB
  obtain ⟨C, v, eC, hv, g1, g2, fC⟩ := wr_pair cB
  have fFC : Fr [25] F C := (fA.tr fB).tr fC
  have ui : ∀ (G : Mem) (o' : List Nat), RD G 3 4 w → RD G 16 17 o' → o'.length ≤ 120 → (∀ b ∈ o', b < 256) → WB G → CT G → CSb G → UI G w o' := fun G o' a b c d e f g => ⟨a, b, c, d, e, f, g⟩
  have uC : UI C w o := ui C o (u1.fr fFC (by decide) (by decide)) (u2'.fr fFC (by decide) (by decide)) u3 u4 (u5.fr fFC (by decide)) (u6.fr fFC (by decide)) (u7.fr fFC (by decide) (by decide) (by decide))
  have n42 : ∀ (D : Mem), UI D w o → Fr FS F D → frameS w (p + 1) o = none → ∃ G r o', some ((-1 : Int32), D) = some (r, G) ∧ UI G w o' ∧ Fr FS F G ∧ (∀ z, frameS w (p + 1) o = some z → r = nI z.1 ∧ o' = z.2 ∧ z.1 ≤ w.length) ∧ (frameS w (p + 1) o = none → r = -1) := fun D a b c => ⟨D, -1, o, rfl, a, b, fun z hz => absurd (c.symm.trans hz) (by simp), fun _ => rfl⟩
  have three : p + 3 < w.length → x = w.getD (p + 1) 0 ∧ v = w.getD (p + 1 + 1) 0 + 256 * w.getD (p + 1 + 2) 0 ∧ CR C w (p + 1 + 3) w.length ss 0 true := fun q => by
    rw [if_pos (by omega)] at hx hp1
    obtain ⟨a, b⟩ := g1 (by omega)
    rw [hp1] at a b
    refine ⟨hx, by rw [a], ?_⟩
    rw [decide_eq_true (show p + 1 < w.length by omega)] at b
    exact b
  have three' : ¬ p + 3 < w.length → ∃ p', CR C w p' w.length ss 0 false := fun q => by
    by_cases c : p1 + 1 < w.length
    · have hq : ¬ p + 1 < w.length := by
        intro c2
        rw [if_pos c2] at hp1
        omega
      obtain ⟨a, b⟩ := g1 c
      rw [decide_eq_false hq, Bool.and_false] at b
      exact ⟨_, b⟩
    · obtain ⟨p', -, b⟩ := g2 c
      exact ⟨p', b⟩
  have hfn : ¬ (p + 1 + 2 < w.length ∧ w.getD (p + 1) 0 ≤ 1 ∧ o.length + (w.getD (p + 1 + 1) 0 + 256 * w.getD (p + 1 + 2) 0) ≤ 120) → frameS w (p + 1) o = none := fun q => if_neg q
  unfold f_Fr_placeBehindFrame b_Fr_placeBehindFrame_42
  rw [r151, r150, nI_1, eA]
  dsimp only [Option.bind_some]
  rw [eB]
  dsimp only [Option.bind_some]
  rw [eC]
  dsimp only [Option.bind_some]
  by_cases q1 : x ≤ 1
  · rw [if_neg (show ¬ (1 : Int32) < nI x from fun q => absurd ((nI_ltI (a := 1) (by omega) (by omega)).mp q) (by omega)), row_room rs16 uC.2.1 u3 v (by omega)]
    dsimp only [Option.bind_some]
    by_cases q2 : o.length + v ≤ 120
    · rw [if_pos q2, if_neg (by decide)]
      -- the frame begins
      obtain ⟨D, hD⟩ : ∃ D, D = u2 (u2 (u2 (u2 (u2 (u2 (u2 C 15 8 (nI o.length)) 15 9 (nI (o.length + v))) 15 6 0) 26 5 0) 18 0 1) 18 1 4) 18 2 8 := ⟨_, rfl⟩
      have eD : f_Fr_beginFrame L1 15 (nI v) C = some D := by
        unfold f_Fr_beginFrame f_Rp_begin
        rw [r150, r152, r153, ld, ld, uC.2.1.1, u2_c (show (16 : Nat) ≠ 15 by decide), uC.2.1.1, nI_add, if_neg (fun q => q zb0), ld, if_neg (fun q => q zb0), ld, ld, ld, ld, hD]
        rfl
      have fD : Fr [15, 26, 18] C D := by
        rw [hD]
        exact ((((((Fr.u (by simp)).tr (Fr.u (by simp))).tr (Fr.u (by simp))).tr (Fr.u (by simp))).tr (Fr.u (by simp))).tr (Fr.u (by simp))).tr (Fr.u (by simp))
      have d158 : D 15 8 = nI o.length := by rw [hD, u2_c (by decide), u2_c (by decide), u2_c (by decide), u2_c (by decide), u2_p (by decide), u2_p (by decide), u2_s]
      have d159 : D 15 9 = nI (o.length + v) := by rw [hD, u2_c (by decide), u2_c (by decide), u2_c (by decide), u2_c (by decide), u2_p (by decide), u2_s]
      have d156 : D 15 6 = 0 := by rw [hD, u2_c (by decide), u2_c (by decide), u2_c (by decide), u2_c (by decide), u2_s]
      have d265 : D 26 5 = 0 := by rw [hD, u2_c (by decide), u2_c (by decide), u2_c (by decide), u2_s]
      have cbD : CB D o.length (o.length + v) o (1, 4, 8) := by
        refine ⟨⟨uC.2.1.fr fD (by decide) (by decide), d158, d159, Nat.le_refl _, by omega, q2, u4⟩, ⟨⟨?_, ?_, ?_⟩, ⟨by decide, by decide⟩, ⟨by decide, by decide⟩, ⟨by decide, by decide⟩⟩, uC.2.2.2.2.1.fr fD (by decide), uC.2.2.2.2.2.1.fr fD (by decide), uC.2.2.2.2.2.2.fr fD (by decide) (by decide) (by decide)⟩
        · rw [hD, u2_p (by decide), u2_p (by decide), u2_s]; rfl
        · rw [hD, u2_p (by decide), u2_s]; rfl
        · rw [hD, u2_s]; rfl
      have kD : KT D none ∧ KN D none := ⟨⟨d156, fun T e => absurd e (by simp)⟩, ⟨d265, fun T e => absurd e (by simp)⟩⟩
      rw [eD]
      dsimp only [Option.bind_some]
      have fFD : Fr FS F D := (fFC.up (by simp)).tr (fD.up (by simp))
      -- where the frame's head was whole or not
      have fin : ∀ (pD : Nat) (okD : Bool), CR D w pD w.length ss 0 okD → (okD = true → p + 3 < w.length ∧ pD = p + 1 + 3) → (p + 3 < w.length → okD = true) → ∃ G r o', f_Fr_placeBehindFrame_55 L1 mFU 15 (nI x) 0 0 D = some (r, G) ∧ UI G w o' ∧ Fr FS F G ∧ (∀ z, frameS w (p + 1) o = some z → r = nI z.1 ∧ o' = z.2 ∧ z.1 ≤ w.length) ∧ (frameS w (p + 1) o = none → r = -1) := by
        intro pD okD cD c1 c2
        obtain ⟨G, p', ss', bl', ok', b', la, e, cG, cbG, k1, k2, f⟩ := fr_blocks (nI x) 240 0 D pD ss 0 okD (o, (1, 4, 8), none, none) mFU (by omega) (by unfold mFU; omega) cD cbD (fun _ => kD)
        have e' : f_Fr_placeBehindFrame_55 L1 mFU 15 (nI x) 0 0 D = b_Fr_placeBehindFrame_192 L1 15 (nI x) (if la = true then 1 else 0) G := e
        rw [e']
        obtain ⟨coG, crG, wbG, ctG, csG⟩ := id cbG
        obtain ⟨m1, m2, m3, m4, m5', m6', m7'⟩ := id coG
        have uG : UI G w b'.1 := ui G b'.1 cG.1 m1 (by omega) m7' wbG ctG csG
        have fFG : Fr FS F G := fFD.tr f
        have hp' := cG.2.2.1
        have no : ∀ H : Mem, UI H w b'.1 → Fr FS F H → frameS w (p + 1) o = none → ∃ G r o', some ((-1 : Int32), H) = some (r, G) ∧ UI G w o' ∧ Fr FS F G ∧ (∀ z, frameS w (p + 1) o = some z → r = nI z.1 ∧ o' = z.2 ∧ z.1 ≤ w.length) ∧ (frameS w (p + 1) o = none → r = -1) := fun H a b c => ⟨H, -1, b'.1, rfl, a, b, fun z hz => absurd (c.symm.trans hz) (by simp), fun _ => rfl⟩
        -- the spec, with the head whole
        have sp : p + 3 < w.length → frameS w (p + 1) o = (blocksS w o.length (o.length + v) 240 (p + 1 + 3) (o, (1, 4, 8), none, none)).bind fun q => if q.2.1.length = o.length + v then (if x = 1 then (if q.1 + 1 < w.length ∧ nI (w.getD q.1 0 + 256 * w.getD (q.1 + 1) 0) = finh (mixh (nI (q.2.1.length - o.length)) (q.2.1.drop o.length)) then some (q.1 + 2, q.2.1) else none) else some (q.1, q.2.1)) else none := fun q => by
          obtain ⟨t1, t2, -⟩ := three q
          unfold frameS
          rw [← t1, ← t2, if_pos ⟨by omega, q1, q2⟩]
        have sp' : ¬ p + 3 < w.length → frameS w (p + 1) o = none := fun q => hfn (fun c => q (by omega))
        -- refused or not the last block
        have bno : ¬ (la = true ∧ ok' = true) → frameS w (p + 1) o = none := fun q => by
          by_cases c : p + 3 < w.length
          · rw [sp c]
            have od := c2 c
            obtain ⟨-, epD⟩ := c1 od
            rw [epD] at k2
            cases e4 : blocksS w o.length (o.length + v) 240 (p + 1 + 3) (o, (1, 4, 8), none, none) with
            | none => rfl
            | some z => exact absurd (k2 od (by rw [e4]; simp)) q
          · exact sp' c
        unfold b_Fr_placeBehindFrame_192 b_Fr_placeBehindFrame_211 b_Fr_placeBehindFrame_241 b_Fr_placeBehindFrame_262
        cases la with
        | false =>
          rw [if_pos (show (if false = true then (1 : Int32) else 0) = 0 from rfl)]
          exact no G uG fFG (bno (fun c => absurd c.1 (by decide)))
        | true =>
          rw [if_neg (show ¬ (if true = true then (1 : Int32) else 0) = 0 by decide), r150, r151, m1.1, m3]
          -- the blocks, where all was sound
          have bsome : ok' = true → p + 3 < w.length ∧ blocksS w o.length (o.length + v) 240 (p + 1 + 3) (o, (1, 4, 8), none, none) = some (p', b') := fun o' => by
            obtain ⟨o1, o2⟩ := k1 rfl o'
            obtain ⟨o3, o4⟩ := c1 o1
            rw [o4] at o2
            exact ⟨o3, o2⟩
          by_cases q3 : b'.1.length = o.length + v
          · rw [ieq q3]
            by_cases q4 : x = 1
            · rw [if_pos (show nI x = 1 by rw [q4]; rfl)]
              obtain ⟨H, vm, eH, hvm, h1, h2, fH⟩ := wr_pair cG
              rw [eH]
              dsimp only [Option.bind_some]
              have uH : UI H w b'.1 := ui H b'.1 (cG.1.fr fH (by decide) (by decide)) (m1.fr fH (by decide) (by decide)) (by omega) m7' (wbG.fr fH (by decide)) (ctG.fr fH (by decide)) (csG.fr fH (by decide) (by decide) (by decide))
              have fFH : Fr FS F H := fFG.tr (fH.up (by simp))
              rw [fH 15 (by decide), m2, row_mark rs16 uH.2.1 (by omega) (by omega) o.length (by omega)]
              dsimp only [Option.bind_some]
              by_cases q5 : nI vm = finh (mixh (nI (b'.1.length - o.length)) (b'.1.drop o.length))
              · rw [if_pos q5]
                by_cases q6 : p' + 1 < w.length
                · obtain ⟨h3, h4⟩ := h1 q6
                  cases ok' with
                  | false =>
                    rw [if_pos h4.s0]
                    exact no H uH fFH (bno (fun c => absurd c.2 (by decide)))
                  | true =>
                    rw [if_neg h4.s1, h4.2.1.1]
                    obtain ⟨o3, o4⟩ := bsome rfl
                    refine ⟨H, nI (p' + 2), b'.1, rfl, uH, fFH, fun z hz => ?_, fun hz => ?_⟩
                    · rw [sp o3, o4] at hz
                      dsimp only [Option.bind_some] at hz
                      rw [if_pos q3, if_pos q4, if_pos ⟨q6, by rw [← h3]; exact q5⟩] at hz
                      injection hz with hz
                      subst hz
                      exact ⟨rfl, rfl, h4.2.2.1⟩
                    · rw [sp o3, o4] at hz
                      dsimp only [Option.bind_some] at hz
                      rw [if_pos q3, if_pos q4, if_pos ⟨q6, by rw [← h3]; exact q5⟩] at hz
                      exact absurd hz (by simp)
                · obtain ⟨p3, -, h4⟩ := h2 q6
                  rw [if_pos h4.s0]
                  refine no H uH fFH ?_
                  cases ok' with
                  | false => exact bno (fun c => absurd c.2 (by decide))
                  | true =>
                    obtain ⟨o3, o4⟩ := bsome rfl
                    rw [sp o3, o4]
                    dsimp only [Option.bind_some]
                    rw [if_pos q3, if_pos q4, if_neg (fun c => q6 c.1)]
              · rw [if_neg q5]
                refine no H uH fFH ?_
                cases ok' with
                | false => exact bno (fun c => absurd c.2 (by decide))
                | true =>
                  obtain ⟨o3, o4⟩ := bsome rfl
                  rw [sp o3, o4]
                  dsimp only [Option.bind_some]
                  rw [if_pos q3, if_pos q4, if_neg (fun c => q5 (by rw [(h1 c.1).1]; exact c.2))]
            · rw [if_neg (show ¬ nI x = 1 from nne (b := 1) q4 (by omega) (by omega))]
              cases ok' with
              | false =>
                rw [if_pos cG.s0]
                exact no G uG fFG (bno (fun c => absurd c.2 (by decide)))
              | true =>
                rw [if_neg cG.s1, cG.2.1.1]
                obtain ⟨o3, o4⟩ := bsome rfl
                refine ⟨G, nI p', b'.1, rfl, uG, fFG, fun z hz => ?_, fun hz => ?_⟩
                · rw [sp o3, o4] at hz
                  dsimp only [Option.bind_some] at hz
                  rw [if_pos q3, if_neg q4] at hz
                  injection hz with hz
                  subst hz
                  exact ⟨rfl, rfl, hp'⟩
                · rw [sp o3, o4] at hz
                  dsimp only [Option.bind_some] at hz
                  rw [if_pos q3, if_neg q4] at hz
                  exact absurd hz (by simp)
          · rw [ieqn q3 (by omega) (by omega)]
            refine no G uG fFG ?_
            cases ok' with
            | false => exact bno (fun c => absurd c.2 (by decide))
            | true =>
              obtain ⟨o3, o4⟩ := bsome rfl
              rw [sp o3, o4]
              dsimp only [Option.bind_some]
              rw [if_neg q3]
      by_cases q : p + 3 < w.length
      · obtain ⟨-, -, t3⟩ := three q
        exact fin (p + 1 + 3) true (t3.fr fD (by decide) (by decide) (by decide)) (fun _ => ⟨q, rfl⟩) (fun _ => rfl)
      · obtain ⟨p', t3⟩ := three' q
        exact fin p' false (t3.fr fD (by decide) (by decide) (by decide)) (fun o => absurd o (by decide)) (fun c => absurd c q)
    · rw [if_neg q2, if_pos rfl]
      refine n42 C uC (fFC.up (by simp)) (hfn (fun c => ?_))
      obtain ⟨t1, t2, -⟩ := three (by omega)
      rw [← t2] at c
      exact q2 c.2.2
  · rw [if_pos (show (1 : Int32) < nI x from nI_lt (a := 1) (by omega) (by omega))]
    refine n42 C uC (fFC.up (by simp)) (hfn (fun c => ?_))
    obtain ⟨t1, -, -⟩ := three (by omega)
    rw [← t1] at c
    exact q1 c.2.1
