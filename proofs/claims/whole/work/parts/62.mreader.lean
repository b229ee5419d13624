/-! pure: the model's reader: places 3 length, 4 at, 5 bad, 11 source, 12 left of cell 0 -/
def MR (G : Mem) (w : List Nat) (p ss bl : Nat) (ok : Bool) : Prop := MD G 3 2 w ∧ (G 0 4 = nI p ∧ G 0 5 = (if ok then 0 else 1) ∧ G 0 11 = nI ss ∧ G 0 12 = nI bl) ∧ p < 2 ^ 20 ∧ (0 < bl → ss + (bl + 7) / 8 ≤ w.length) ∧ w.length ≤ 240 ∧ ∀ b ∈ w, b < 256
/-- the same, where something was refused: left may have gone below 0 -/
def MB (G : Mem) (w : List Nat) : Prop := MD G 3 2 w ∧ G 0 5 = 1 ∧ (∃ p, p < 2 ^ 20 ∧ G 0 4 = nI p) ∧ (∃ ss bl m, G 0 11 = nI ss ∧ G 0 12 = nI bl - nI m ∧ bl ≤ 2000 ∧ m < 2 ^ 20 ∧ (m < bl → ss + (bl + 7) / 8 ≤ w.length)) ∧ w.length ≤ 240 ∧ ∀ b ∈ w, b < 256
theorem MR.bl {G : Mem} {w : List Nat} {p ss bl : Nat} {ok : Bool} (h : MR G w p ss bl ok) : bl ≤ 2000 := by
  obtain ⟨h1, ha, h2, h4, h5, h6⟩ := h
  rcases Nat.eq_zero_or_pos bl with q | q
  · omega
  · have := h4 q
    omega
theorem MR.bad {G : Mem} {w : List Nat} {p ss bl : Nat} {ok : Bool} (h : MR G w p ss bl ok) : MR (u2 G 0 5 1) w p ss bl false := by
  obtain ⟨h1, ⟨a1, a2, a3, a4⟩, h2⟩ := h
  exact ⟨h1.fm (Fm.us (sl := [5]) (cs := []) (by simp)) (by decide) (by decide) (by decide), ⟨by rw [u2_p (by decide)]; exact a1, by rw [u2_s]; rfl, by rw [u2_p (by decide)]; exact a3, by rw [u2_p (by decide)]; exact a4⟩, h2⟩
theorem MR.mb {G : Mem} {w : List Nat} {p ss bl : Nat} (h : MR G w p ss bl false) : MB G w := by
  have hb := h.bl
  obtain ⟨h1, ⟨a1, a2, a3, a4⟩, h2, h3, h4, h5⟩ := h
  exact ⟨h1, a2, ⟨p, h2, a1⟩, ⟨ss, bl, 0, a3, by rw [a4, nI_0, Int32.sub_zero], hb, by omega, h3⟩, h4, h5⟩
theorem r02 : mRf L2 0 2 = 2 := rfl
theorem g2' : mGl L2 2 = 240 := rfl
theorem a2' (F : Mem) (j : Nat) : mGa L2 F 2 j = F 2 j := if_pos (by decide)
theorem md_next {G : Mem} {w : List Nat} {p ss bl : Nat} {ok : Bool} (h : MR G w p ss bl ok) {e : Nat} (he : e ≤ w.length) : ∃ H, f_Md_next L2 0 (nI e) G = some (nI (if p < e then w.getD p 0 else 0), H) ∧ MR H w (if p < e then p + 1 else p) ss bl (ok && decide (p < e)) ∧ Fm [4, 5] [] G H := by
  obtain ⟨h1, ⟨a1, a2, a3, a4⟩, h2, h3, h5, h6⟩ := id h
  unfold f_Md_next
  rw [r02, g2', a1]
  by_cases hp : p < e
  · refine ⟨u2 G 0 4 (nI (p + 1)), ?_, ?_, Fm.us (by simp)⟩
    · rw [if_pos (nI_lt hp (by omega)), ld, nI_1, u2_s, nI_pred, if_neg (inb_no (by omega) (by omega)), a2', nI_clamp (by omega), u2_c (by decide), h1.2 p (by omega), if_pos hp]
    · rw [if_pos hp]
      exact ⟨h1.fm (Fm.us (sl := [4]) (cs := []) (by simp)) (by decide) (by decide) (by decide), ⟨u2_s, by rw [u2_p (by decide), a2]; simp [hp], by rw [u2_p (by decide)]; exact a3, by rw [u2_p (by decide)]; exact a4⟩, by omega, h3, h5, h6⟩
  · refine ⟨u2 G 0 5 1, ?_, ?_, Fm.us (by simp)⟩
    · rw [if_neg (fun q => hp ((nI_ltI (by omega) (by omega)).mp q)), if_neg (fun q => q zb1), ld, if_neg hp]
      rfl
    · rw [if_neg hp]
      have := h.bad
      simpa [hp] using this
theorem m_rem8 {a : Nat} (ha : a < 2 ^ 31) : jrem (nI a) 8 = nI (a % 8) := pk_rem ha (by decide) (by decide)
theorem m_div8 {a : Nat} (ha : a < 2 ^ 31) : nI a / 8 = nI (a / 8) := pk_div ha (by decide) (by decide)
/-- look, also where left has gone below 0: left is bl - m -/
theorem md_look4 {G : Mem} {w : List Nat} (h1 : MD G 3 2 w) (h5 : w.length ≤ 240) (h6 : ∀ b ∈ w, b < 256) {ss bl m : Nat} (a3 : G 0 11 = nI ss) (a4 : G 0 12 = nI bl - nI m) (hb : bl ≤ 2000) (hm : m < 2 ^ 20) (h3 : m < bl → ss + (bl + 7) / 8 ≤ w.length) {n : Nat} (hn : n ≤ 16) : ∀ (d k fu : Nat), d + k = n → d < fu → f_Md_look_4 L2 fu 0 (nI n) (nI (nbits w ss (bl - m) k)) (nI (k + 1)) G = some (nI (nbits w ss (bl - m) n), G) := by
  intro d
  induction d with
  | zero =>
    intro k fu hd hf
    obtain ⟨fu, rfl⟩ : ∃ k, fu = k + 1 := ⟨fu - 1, by omega⟩
    obtain rfl : k = n := by omega
    show b_Md_look_4 L2 (f_Md_look_4 L2 fu) 0 (nI k) _ _ G = _
    unfold b_Md_look_4
    rw [if_pos (nI_lt (by omega) (by omega))]
  | succ d ih =>
    intro k fu hd hf
    obtain ⟨fu, rfl⟩ : ∃ k, fu = k + 1 := ⟨fu - 1, by omega⟩
    have hlt := nbits_lt w ss (bl - m) k
    have h20 : nbits w ss (bl - m) k < 2 ^ 20 := Nat.lt_of_lt_of_le hlt (Nat.pow_le_pow_right (by decide) (by omega))
    have := ih (k + 1) fu (by omega) (by omega)
    show b_Md_look_4 L2 (f_Md_look_4 L2 fu) 0 (nI n) _ _ G = _
    unfold b_Md_look_4 b_Md_look_52
    have e1 : nI bl - nI m - nI (k + 1) = nI bl - nI (m + k + 1) := by rw [Int32.sub_sub, nI_add, Nat.add_assoc]
    rw [if_neg (fun q => absurd ((nI_ltI (by omega) (by omega)).mp q) (by omega)), a4, e1, nI_1]
    by_cases hk : m + k + 1 ≤ bl
    · have e2 : nI bl - nI (m + k + 1) = nI (bl - m - 1 - k) := by rw [pk_sub hk]; congr 1; omega
      have h3' := h3 (by omega)
      have hi : ss + (bl - m - 1 - k) / 8 < w.length := by omega
      have hy := h6 _ (getD_mem hi)
      have h8 : (bl - m - 1 - k) % 8 < 8 := Nat.mod_lt _ (by decide)
      rw [if_pos ((ge_sub (by omega) (by omega)).mpr hk), e2, r02, g2', a3, m_div8 (by omega), m_rem8 (by omega), nI_add, if_neg (inb_no (by omega) (by omega)), nI_clamp (by omega), a2', h1.2 _ hi, byte_bit hy h8, show (2 : Int32) = nI 2 from rfl, pk_mul, nI_add]
      have e3 : nbits w ss (bl - m) (k + 1) = 2 * nbits w ss (bl - m) k + w.getD (ss + (bl - m - 1 - k) / 8) 0 / 2 ^ ((bl - m - 1 - k) % 8) % 2 := by
        show 2 * nbits w ss (bl - m) k + (if k < bl - m then bitAt w ss (bl - m - 1 - k) else 0) = _
        rw [if_pos (by omega)]
        rfl
      rw [← e3]
      exact this
    · have e3 : nbits w ss (bl - m) (k + 1) = 2 * nbits w ss (bl - m) k + 0 := by
        show 2 * nbits w ss (bl - m) k + (if k < bl - m then bitAt w ss (bl - m - 1 - k) else 0) = _
        rw [if_neg (by omega)]
      rw [if_neg (fun q => hk ((ge_sub (by omega) (by omega)).mp q)), show (2 : Int32) = nI 2 from rfl, show (0 : Int32) = nI 0 from rfl, pk_mul, nI_add, ← e3]
      exact this
theorem md_look {G : Mem} {w : List Nat} {p ss bl : Nat} {ok : Bool} (h : MR G w p ss bl ok) {n : Nat} (hn : n ≤ 16) : f_Md_look L2 0 (nI n) G = some (nI (nbits w ss bl n), G) := by
  have hb := h.bl
  obtain ⟨h1, ⟨a1, a2, a3, a4⟩, h2, h3, h5, h6⟩ := id h
  unfold f_Md_look
  have := md_look4 h1 h5 h6 a3 (m := 0) (by rw [a4, nI_0, Int32.sub_zero]) hb (by omega) h3 hn n 0 mFU (by omega) (by unfold mFU; omega)
  rw [Nat.sub_zero] at this
  exact this
theorem md_take {G : Mem} {w : List Nat} {p ss bl : Nat} {ok : Bool} (h : MR G w p ss bl ok) {n : Nat} (hn : n ≤ 16) : ∃ H, f_Md_take L2 0 (nI n) G = some (nI (nbits w ss bl n), H) ∧ (if n ≤ bl then MR H w p ss (bl - n) ok else MB H w) ∧ Fm [5, 12] [] G H := by
  have hb := h.bl
  obtain ⟨h1, ⟨a1, a2, a3, a4⟩, h2, h3, h5, h6⟩ := id h
  unfold f_Md_take b_Md_take_31 b_Md_take_36
  rw [md_look h hn]
  dsimp only [Option.bind_some]
  rw [ld, u2_p (show 5 ≠ 12 by decide), u2_s, a4, a2]
  by_cases hk : n ≤ bl
  · simp only [if_pos hk]
    rw [pk_sub hk]
    cases ok with
    | true =>
      refine ⟨u2 (u2 G 0 12 (nI (bl - n))) 0 5 0, ?_, ⟨?_, ⟨?_, ?_, ?_, ?_⟩, h2, fun q => by have := h3 (by omega); omega, h5, h6⟩, (Fm.us (by simp)).tr (Fm.us (by simp))⟩
      · rw [show (if (true = true) then (0 : Int32) else 1) = 0 from rfl, if_pos (show (0 : Int32) = 0 from rfl), if_pos (nI_pos' (by omega)), if_neg (by simp), ld]
      · exact h1.fm ((Fm.us (sl := [5, 12]) (cs := []) (by simp)).tr (Fm.us (by simp))) (by decide) (by decide) (by decide)
      · rw [u2_p (by decide), u2_p (by decide)]; exact a1
      · rw [u2_s]; rfl
      · rw [u2_p (by decide), u2_p (by decide)]; exact a3
      · rw [u2_p (by decide), u2_s]
    | false =>
      refine ⟨u2 (u2 G 0 12 (nI (bl - n))) 0 5 1, ?_, ⟨?_, ⟨?_, ?_, ?_, ?_⟩, h2, fun q => by have := h3 (by omega); omega, h5, h6⟩, (Fm.us (by simp)).tr (Fm.us (by simp))⟩
      · rw [show (if (false = true) then (0 : Int32) else 1) = 1 from rfl, if_neg (show ¬ (1 : Int32) = 0 by decide), if_neg (by simp), ld]
      · exact h1.fm ((Fm.us (sl := [5, 12]) (cs := []) (by simp)).tr (Fm.us (by simp))) (by decide) (by decide) (by decide)
      · rw [u2_p (by decide), u2_p (by decide)]; exact a1
      · rw [u2_s]; rfl
      · rw [u2_p (by decide), u2_p (by decide)]; exact a3
      · rw [u2_p (by decide), u2_s]
  · simp only [if_neg hk]
    have hn0 : ¬ 0 ≤ nI bl - nI n := fun q => hk ((ge_sub (by omega) (by omega)).mp q)
    refine ⟨u2 (u2 G 0 12 (nI bl - nI n)) 0 5 1, ?_, ⟨?_, u2_s, ⟨p, h2, ?_⟩, ⟨ss, bl, n, ?_, ?_, hb, by omega, fun q => absurd q (by omega)⟩, h5, h6⟩, (Fm.us (by simp)).tr (Fm.us (by simp))⟩
    · cases ok with
      | true => rw [show (if (true = true) then (0 : Int32) else 1) = 0 from rfl, if_pos (show (0 : Int32) = 0 from rfl), if_neg hn0, if_neg (by simp), ld]
      | false => rw [show (if (false = true) then (0 : Int32) else 1) = 1 from rfl, if_neg (show ¬ (1 : Int32) = 0 by decide), if_neg (by simp), ld]
    · exact h1.fm ((Fm.us (sl := [5, 12]) (cs := []) (by simp)).tr (Fm.us (by simp))) (by decide) (by decide) (by decide)
    · rw [u2_p (by decide), u2_p (by decide)]; exact a1
    · rw [u2_p (by decide), u2_p (by decide)]; exact a3
    · rw [u2_p (by decide), u2_s]
theorem sub_add' (a b c : Int32) : a - b + c = a + c - b := by
  rw [Int32.sub_eq_add_neg, Int32.sub_eq_add_neg, Int32.add_assoc, Int32.add_comm (-b) c, ← Int32.add_assoc]
theorem md_open82 {n t : Nat} (hn : 1 ≤ n) (hn2 : n ≤ 240) (ht : t < 256) : ∀ (j : Nat) (F : Mem) (fu : Nat), j < fu → j ≤ 7 → t < 2 ^ (j + 1) → F 0 12 = nI (8 * (n - 1) + j) → ∃ H, f_Md_openStream_82 L2 fu 0 (nI n) (nI t) F = some H ∧ H 0 12 = nI (8 * (n - 1) + Nat.log2 t) ∧ Fm [12] [] F H := by
  intro j
  induction j with
  | zero =>
    intro F fu hf h7 hlt hF
    obtain ⟨fu, rfl⟩ : ∃ k, fu = k + 1 := ⟨fu - 1, by omega⟩
    refine ⟨F, ?_, ?_, Fm.rf⟩
    · show b_Md_openStream_82 L2 (f_Md_openStream_82 L2 fu) 0 (nI n) (nI t) F = _
      unfold b_Md_openStream_82 b_Md_openStream_126
      rw [hF, show (8 : Int32) = nI 8 from rfl, pk_mul, pk_sub (by omega), if_pos (nI_le (by omega) (by omega))]
    · have : t = 0 ∨ t = 1 := by omega
      rcases this with rfl | rfl <;> exact hF
  | succ j ih =>
    intro F fu hf h7 hlt hF
    obtain ⟨fu, rfl⟩ : ∃ k, fu = k + 1 := ⟨fu - 1, by omega⟩
    show ∃ H, b_Md_openStream_82 L2 (f_Md_openStream_82 L2 fu) 0 (nI n) (nI t) F = some H ∧ _
    unfold b_Md_openStream_82 b_Md_openStream_126
    have e1 : nI (8 * (n - 1) + (j + 1)) - nI (8 * n) + nI 8 = nI (j + 1) := by
      rw [sub_add', nI_add, pk_sub (by omega)]
      congr 1
      omega
    rw [hF, show (8 : Int32) = nI 8 from rfl, pk_mul, e1, pk_sub (by omega), if_neg (fun q => absurd ((nI_leI (by omega) (by omega)).mp q) (by omega)), jshr_n (by omega) (by omega)]
    by_cases h0 : t < 2 ^ (j + 1)
    · obtain ⟨H, e, h2, f⟩ := ih (u2 F 0 12 (nI (8 * (n - 1) + j))) fu (by omega) (by omega) h0 u2_s
      refine ⟨H, ?_, h2, (Fm.us (by simp)).tr f⟩
      rw [if_pos (by rw [Nat.div_eq_of_lt h0]; rfl), ld, show nI (8 * (n - 1) + (j + 1)) - 1 = nI (8 * (n - 1) + j) from nI_pred _, e]
    · refine ⟨F, ?_, ?_, Fm.rf⟩
      · have hge : 2 ^ (j + 1) ≤ t := by omega
        have h1 : 1 ≤ t / 2 ^ (j + 1) := (Nat.one_le_div_iff (Nat.two_pow_pos _)).mpr hge
        have h2 : t / 2 ^ (j + 1) ≤ t := Nat.div_le_self _ _
        rw [if_neg (fun q => absurd (nI_inj (by omega) (by omega) (q.trans nI_0.symm)) (by omega))]
      · have hge : 2 ^ (j + 1) ≤ t := by omega
        have : Nat.log2 t = j + 1 := by
          have h1 : t ≠ 0 := by have := Nat.two_pow_pos (j + 1); omega
          have h2 := (Nat.log2_lt h1).mpr hlt
          have h3 := (Nat.le_log2 h1).mpr hge
          omega
        rw [this]
        exact hF
