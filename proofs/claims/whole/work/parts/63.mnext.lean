/-! pure: the model's bytes without its stream; the stream by itself -/
def MN (G : Mem) (w : List Nat) (p : Nat) (ok : Bool) : Prop := MD G 3 2 w ∧ G 0 4 = nI p ∧ G 0 5 = (if ok then 0 else 1) ∧ p < 2 ^ 20 ∧ w.length ≤ 240 ∧ ∀ b ∈ w, b < 256
/-- a stream from ss on with bl bits left -/
def SM (G : Mem) (w : List Nat) (ss bl : Nat) : Prop := G 0 11 = nI ss ∧ G 0 12 = nI bl ∧ (0 < bl → ss + (bl + 7) / 8 ≤ w.length)
/-- a stream from which at most t times too much was taken -/
def SB (G : Mem) (w : List Nat) (t : Nat) : Prop := ∃ ss bl m, G 0 11 = nI ss ∧ G 0 12 = nI bl - nI m ∧ bl ≤ 2000 ∧ m ≤ 16 * t ∧ (m < bl → ss + (bl + 7) / 8 ≤ w.length)
theorem MN.fm {G H : Mem} {w : List Nat} {p : Nat} {ok : Bool} {sl cs : List Nat} (h : MN G w p ok) (f : Fm sl cs G H) (h3 : 3 ∉ sl) (h4 : 4 ∉ sl) (h5 : 5 ∉ sl) (h2 : 2 ∉ cs) : MN H w p ok := ⟨h.1.fm f h3 h2 (by decide), by rw [f.2 4 h4]; exact h.2.1, by rw [f.2 5 h5]; exact h.2.2.1, h.2.2.2⟩
theorem SM.fm {G H : Mem} {w : List Nat} {ss bl : Nat} {sl cs : List Nat} (h : SM G w ss bl) (f : Fm sl cs G H) (h1 : 11 ∉ sl) (h2 : 12 ∉ sl) : SM H w ss bl := ⟨by rw [f.2 11 h1]; exact h.1, by rw [f.2 12 h2]; exact h.2.1, h.2.2⟩
theorem SB.fm {G H : Mem} {w : List Nat} {t : Nat} {sl cs : List Nat} (h : SB G w t) (f : Fm sl cs G H) (h1 : 11 ∉ sl) (h2 : 12 ∉ sl) : SB H w t := by
  obtain ⟨ss, bl, m, q1, q2, q3⟩ := h
  exact ⟨ss, bl, m, by rw [f.2 11 h1]; exact q1, by rw [f.2 12 h2]; exact q2, q3⟩
theorem MR.of {G : Mem} {w : List Nat} {p ss bl : Nat} {ok : Bool} (h : MN G w p ok) (s : SM G w ss bl) : MR G w p ss bl ok := ⟨h.1, ⟨h.2.1, h.2.2.1, s.1, s.2.1⟩, h.2.2.2.1, s.2.2, h.2.2.2.2⟩
theorem MR.mn {G : Mem} {w : List Nat} {p ss bl : Nat} {ok : Bool} (h : MR G w p ss bl ok) : MN G w p ok := ⟨h.1, h.2.1.1, h.2.1.2.1, h.2.2.1, h.2.2.2.2⟩
theorem MR.sm {G : Mem} {w : List Nat} {p ss bl : Nat} {ok : Bool} (h : MR G w p ss bl ok) : SM G w ss bl := ⟨h.2.1.2.2.1, h.2.1.2.2.2, h.2.2.2.1⟩
theorem SM.sb {G : Mem} {w : List Nat} {ss bl : Nat} (h : SM G w ss bl) (hw : w.length ≤ 240) : SB G w 0 := by
  refine ⟨ss, bl, 0, h.1, by rw [h.2.1, nI_0, Int32.sub_zero], ?_, by omega, h.2.2⟩
  rcases Nat.eq_zero_or_pos bl with q | q
  · omega
  · have := h.2.2 q
    omega
theorem MN.bad {G : Mem} {w : List Nat} {p : Nat} {ok : Bool} (h : MN G w p ok) : MN (u2 G 0 5 1) w p false := ⟨h.1.fm (Fm.us (sl := [5]) (cs := []) (by simp)) (by decide) (by decide) (by decide), by rw [u2_p (by decide)]; exact h.2.1, by rw [u2_s]; rfl, h.2.2.2⟩
theorem mn_next {G : Mem} {w : List Nat} {p : Nat} {ok : Bool} (h : MN G w p ok) {e : Nat} (he : e ≤ w.length) : ∃ H, f_Md_next L2 0 (nI e) G = some (nI (if p < e then w.getD p 0 else 0), H) ∧ MN H w (if p < e then p + 1 else p) (ok && decide (p < e)) ∧ Fm [4, 5] [] G H := by
  obtain ⟨h1, a1, a2, h2, h5, h6⟩ := id h
  unfold f_Md_next
  rw [r02, g2', a1]
  by_cases hp : p < e
  · refine ⟨u2 G 0 4 (nI (p + 1)), ?_, ?_, Fm.us (by simp)⟩
    · rw [if_pos (nI_lt hp (by omega)), ld, nI_1, u2_s, nI_pred, if_neg (inb_no (by omega) (by omega)), a2', nI_clamp (by omega), u2_c (by decide), h1.2 p (by omega), if_pos hp]
    · rw [if_pos hp]
      exact ⟨h1.fm (Fm.us (sl := [4]) (cs := []) (by simp)) (by decide) (by decide) (by decide), u2_s, by rw [u2_p (by decide), a2]; simp [hp], by omega, h5, h6⟩
  · refine ⟨u2 G 0 5 1, ?_, ?_, Fm.us (by simp)⟩
    · rw [if_neg (fun q => hp ((nI_ltI (by omega) (by omega)).mp q)), if_neg (fun q => q zb1), ld, if_neg hp]
      rfl
    · rw [if_neg hp]
      have := h.bad
      simpa [hp] using this
theorem mn_look {G : Mem} {w : List Nat} {p t : Nat} {ok : Bool} (h : MN G w p ok) (s : SB G w t) (ht : t ≤ 1000) {n : Nat} (hn : n ≤ 16) : ∃ v, v < 2 ^ n ∧ f_Md_look L2 0 (nI n) G = some (nI v, G) := by
  obtain ⟨ss, bl, m, q1, q2, q3, q4, q5⟩ := s
  refine ⟨nbits w ss (bl - m) n, nbits_lt _ _ _ _, ?_⟩
  exact md_look4 h.1 h.2.2.2.2.1 h.2.2.2.2.2 q1 q2 q3 (by omega) q5 hn n 0 mFU (by omega) (by unfold mFU; omega)
/-- take, whatever was refused before -/
theorem mn_take {G : Mem} {w : List Nat} {p t : Nat} {ok : Bool} (h : MN G w p ok) (s : SB G w t) (ht : t ≤ 1000) {n : Nat} (hn : n ≤ 16) : ∃ v H ok', v < 2 ^ n ∧ f_Md_take L2 0 (nI n) G = some (nI v, H) ∧ MN H w p ok' ∧ (ok' = true → ok = true) ∧ SB H w (t + 1) ∧ Fm [5, 12] [] G H := by
  obtain ⟨v, hv, e⟩ := mn_look h s ht hn
  obtain ⟨ss, bl, m, q1, q2, q3, q4, q5⟩ := s
  obtain ⟨h1, a1, a2, h2, h5, h6⟩ := id h
  have f1 : Fm [5, 12] [] G (u2 G 0 12 (nI bl - nI (m + n))) := Fm.us (by simp)
  have eL : nI bl - nI m - nI n = nI bl - nI (m + n) := by rw [Int32.sub_sub, nI_add]
  have fin : ∀ (b : Bool), (b = true → ok = true) → ∃ H, b_Md_take_36 L2 (nI v) 0 (if b then 0 else 1) (u2 G 0 12 (nI bl - nI (m + n))) = some (nI v, H) ∧ MN H w p b ∧ SB H w (t + 1) ∧ Fm [5, 12] [] G H := by
    intro b _
    have f2 : Fm [5, 12] [] G (u2 (u2 G 0 12 (nI bl - nI (m + n))) 0 5 (if b then 0 else 1)) := f1.tr (Fm.us (by simp))
    refine ⟨_, ?_, ⟨h1.fm f2 (by decide) (by decide) (by decide), by rw [f2.2 4 (by decide)]; exact a1, u2_s, h2, h5, h6⟩, ⟨ss, bl, m + n, by rw [f2.2 11 (by decide)]; exact q1, by rw [u2_p (by decide), u2_s], q3, by omega, fun q => q5 (by omega)⟩, f2⟩
    unfold b_Md_take_36
    cases b with
    | true => rw [if_neg (fun q => q zb0), ld]
    | false => rw [if_neg (fun q => q zb1), ld]
  unfold f_Md_take b_Md_take_31
  rw [e]
  dsimp only [Option.bind_some]
  rw [ld, u2_p (show 5 ≠ 12 by decide), u2_s, q2, a2, eL]
  cases ok with
  | true =>
    rw [show (if (true = true) then (0 : Int32) else 1) = 0 from rfl, if_pos (show (0 : Int32) = 0 from rfl)]
    by_cases hz : 0 ≤ nI bl - nI (m + n)
    · obtain ⟨H, k1, k2, k3, k4⟩ := fin true (fun _ => rfl)
      exact ⟨v, H, true, hv, by rw [if_pos hz]; exact k1, k2, fun _ => rfl, k3, k4⟩
    · obtain ⟨H, k1, k2, k3, k4⟩ := fin false (fun q => absurd q (by decide))
      exact ⟨v, H, false, hv, by rw [if_neg hz]; exact k1, k2, fun q => absurd q (by decide), k3, k4⟩
  | false =>
    rw [show (if (false = true) then (0 : Int32) else 1) = 1 from rfl, if_neg (show ¬ (1 : Int32) = 0 by decide)]
    obtain ⟨H, k1, k2, k3, k4⟩ := fin false (fun q => absurd q (by decide))
    exact ⟨v, H, false, hv, k1, k2, fun q => absurd q (by decide), k3, k4⟩
/-- take, with nothing refused before -/
theorem mn_takeG {G : Mem} {w : List Nat} {p ss bl : Nat} (h : MN G w p true) (s : SM G w ss bl) {n : Nat} (hn : n ≤ 16) : ∃ H, f_Md_take L2 0 (nI n) G = some (nI (nbits w ss bl n), H) ∧ (if n ≤ bl then MN H w p true ∧ SM H w ss (bl - n) else MN H w p false ∧ SB H w 1) ∧ Fm [5, 12] [] G H := by
  obtain ⟨H, e, c, f⟩ := md_take (MR.of h s) hn
  refine ⟨H, e, ?_, f⟩
  by_cases hk : n ≤ bl
  · rw [if_pos hk] at c ⊢
    exact ⟨c.mn, c.sm⟩
  · rw [if_neg hk] at c ⊢
    obtain ⟨v, H', ok', -, e', m', o', s', -⟩ := mn_take h (s.sb h.2.2.2.2.1) (by omega) hn
    have : H' = H := by
      have := e'.symm.trans e
      injection this with this
      injection this
    subst this
    cases ok' with
    | false => exact ⟨m', s'⟩
    | true =>
      have q1 := c.2.1
      have q2 := m'.2.2.1
      rw [q1] at q2
      exact absurd q2 (by decide)
/-- the next n bytes become the stream -/
theorem mn_open {G : Mem} {w : List Nat} {p : Nat} {ok : Bool} (h : MN G w p ok) {n e : Nat} (hn : n < 2 ^ 19) (he : e ≤ w.length) : ∃ H, f_Md_openStream L2 0 (nI n) (nI e) G = some H ∧ (if ok = true ∧ 1 ≤ n ∧ p + n ≤ e ∧ w.getD (p + n - 1) 0 ≠ 0 then MN H w (p + n) true ∧ SM H w p (8 * (n - 1) + Nat.log2 (w.getD (p + n - 1) 0)) else (∃ p', p' < 2 ^ 20 ∧ MN H w p' false) ∧ SB H w 0) ∧ Fm [4, 5, 11, 12] [] G H := by
  obtain ⟨h1, a1, a2, h2, h5, h6⟩ := id h
  have f0 : Fm [4, 5, 11, 12] [] G (u2 (u2 G 0 12 0) 0 11 (nI p)) := (Fm.us (by simp)).tr (Fm.us (by simp))
  have z : MR (u2 (u2 G 0 12 0) 0 11 (nI p)) w p p 0 ok := ⟨h1.fm f0 (by decide) (by decide) (by decide), ⟨by rw [u2_p (by decide), u2_p (by decide)]; exact a1, by rw [u2_p (by decide), u2_p (by decide)]; exact a2, u2_s, by rw [u2_p (by decide), u2_s]; rfl⟩, h2, fun q => absurd q (by omega), h5, h6⟩
  have b35 : b_Md_openStream_35 L2 0 (u2 (u2 G 0 12 0) 0 11 (nI p)) = some (u2 (u2 (u2 G 0 12 0) 0 11 (nI p)) 0 5 1) := by
    unfold b_Md_openStream_35
    rw [if_neg (fun q => q zb1), ld]
  unfold f_Md_openStream
  rw [ld, ld, u2_p (show 4 ≠ 12 by decide), a1, r02, g2', z.2.1.2.1, z.2.1.1]
  cases ok with
  | false =>
    refine ⟨_, by rw [show (if (false = true) then (0 : Int32) else 1) = 1 from rfl, if_neg (show ¬ (1 : Int32) = 0 by decide), b35], ?_, f0.tr (Fm.us (by simp))⟩
    rw [if_neg (by simp)]
    exact ⟨⟨p, h2, z.bad.mn⟩, z.bad.sm.sb h5⟩
  | true =>
    rw [show (if (true = true) then (0 : Int32) else 1) = 0 from rfl, if_pos (show (0 : Int32) = 0 from rfl)]
    by_cases c1 : 1 ≤ n
    · rw [show (1 : Int32) = nI 1 from rfl, if_neg (fun q => absurd ((nI_ltI (by omega) (by omega)).mp q) (by omega)), nI_add]
      by_cases c2 : p + n ≤ e
      · have hi : p + n - 1 < w.length := by omega
        have hy := h6 _ (getD_mem hi)
        have f1 : Fm [4, 5, 11, 12] [] G (u2 (u2 (u2 G 0 12 0) 0 11 (nI p)) 0 4 (nI (p + n))) := f0.tr (Fm.us (by simp))
        have e2 : mGa L2 (u2 (u2 (u2 G 0 12 0) 0 11 (nI p)) 0 4 (nI (p + n))) 2 (nI (p + n - 1)).toNatClampNeg = nI (w.getD (p + n - 1) 0) := by rw [a2', nI_clamp (by omega), f1.1 2 (by decide) (by simp), h1.2 _ hi]
        rw [if_pos (nI_le c2 (by omega)), ld, u2_s, pk_sub (by omega), if_neg (inb_no (by omega) (by omega)), e2]
        have key : ∀ (F : Mem), Fm [4, 5, 11, 12] [] G F → F 0 4 = nI (p + n) → F 0 11 = nI p → ∃ H, b_Md_openStream_72 L2 0 (nI n) (nI (w.getD (p + n - 1) 0)) F = some H ∧ H 0 12 = nI (8 * (n - 1) + Nat.log2 (w.getD (p + n - 1) 0)) ∧ Fm [12] [] F H := by
          intro F _ _ _
          unfold b_Md_openStream_72
          rw [ld, show (8 : Int32) = nI 8 from rfl, show (1 : Int32) = nI 1 from rfl, pk_mul, pk_sub (by omega)]
          obtain ⟨H, e, q1, q2⟩ := md_open82 c1 (by omega) hy 7 (u2 F 0 12 (nI (8 * n - 1))) mFU (by unfold mFU; omega) (by omega) hy (by rw [u2_s]; congr 1; omega)
          exact ⟨H, e, q1, (Fm.us (by simp)).tr q2⟩
        have hlg : Nat.log2 (w.getD (p + n - 1) 0) < 8 := by
          by_cases c : w.getD (p + n - 1) 0 = 0
          · rw [c]; decide
          · exact (Nat.log2_lt c).mpr hy
        by_cases c3 : w.getD (p + n - 1) 0 = 0
        · rw [if_pos (show nI (w.getD (p + n - 1) 0) = 0 by rw [c3]; rfl), if_neg (fun q => q zb1), ld]
          obtain ⟨H, eh, q1, q2⟩ := key (u2 (u2 (u2 (u2 G 0 12 0) 0 11 (nI p)) 0 4 (nI (p + n))) 0 5 1) (f1.tr (Fm.us (by simp))) (by rw [u2_p (by decide), u2_s]) (by rw [u2_p (by decide), u2_p (by decide), u2_s])
          have f2 : Fm [4, 5, 11, 12] [] G H := (f1.tr (Fm.us (by simp))).tr (q2.up (by simp) (by simp))
          refine ⟨H, eh, ?_, f2⟩
          rw [if_neg (by omega)]
          exact ⟨⟨p + n, by omega, h1.fm f2 (by decide) (by decide) (by decide), by rw [q2.2 4 (by decide), u2_p (by decide), u2_s], by rw [q2.2 5 (by decide), u2_s]; rfl, by omega, h5, h6⟩, ⟨p, 8 * (n - 1) + Nat.log2 (w.getD (p + n - 1) 0), 0, by rw [q2.2 11 (by decide), u2_p (by decide), u2_p (by decide), u2_s], by rw [q1, nI_0, Int32.sub_zero], by omega, by omega, fun _ => by omega⟩⟩
        · rw [if_neg (fun q => c3 (nI_inj (by omega) (by omega) (q.trans nI_0.symm)))]
          obtain ⟨H, eh, q1, q2⟩ := key _ f1 u2_s (by rw [u2_p (by decide), u2_s])
          have f2 : Fm [4, 5, 11, 12] [] G H := f1.tr (q2.up (by simp) (by simp))
          refine ⟨H, eh, ?_, f2⟩
          rw [if_pos ⟨rfl, c1, c2, c3⟩]
          exact ⟨⟨h1.fm f2 (by decide) (by decide) (by decide), by rw [q2.2 4 (by decide), u2_s], by rw [q2.2 5 (by decide), u2_p (by decide)]; exact z.2.1.2.1, by omega, h5, h6⟩, by rw [q2.2 11 (by decide), u2_p (by decide), u2_s], q1, fun _ => by omega⟩
      · refine ⟨_, by rw [if_neg (fun q => c2 ((nI_leI (by omega) (by omega)).mp q)), b35], ?_, f0.tr (Fm.us (by simp))⟩
        rw [if_neg (by omega)]
        exact ⟨⟨p, h2, z.bad.mn⟩, z.bad.sm.sb h5⟩
    · refine ⟨_, by rw [show (1 : Int32) = nI 1 from rfl, if_pos (nI_lt (by omega) (by omega)), b35], ?_, f0.tr (Fm.us (by simp))⟩
      rw [if_neg (by omega)]
      exact ⟨⟨p, h2, z.bad.mn⟩, z.bad.sm.sb h5⟩
