/-! pure: pairs of bytes, halves of bytes -/
theorem wr_pair {F : Mem} {w : List Nat} {p lim ss bl : Nat} {ok : Bool} (h : CR F w p lim ss bl ok) : ∃ G v, f_Wr_takePair L1 25 F = some (nI v, G) ∧ v < 65536 ∧ (p + 1 < lim → v = w.getD p 0 + 256 * w.getD (p + 1) 0 ∧ CR G w (p + 2) lim ss bl ok) ∧ (¬ p + 1 < lim → ∃ p', p' ≤ lim ∧ CR G w p' lim ss bl false) ∧ Fr [25] F G := by
  obtain ⟨G1, e1, c1, f1⟩ := wr_byte h
  obtain ⟨G2, e2, c2, f2⟩ := wr_byte c1
  have hb : ∀ j, w.getD j 0 < 256 := fun j => by
    by_cases q : j < w.length
    · exact h.2.2.2.2.2.2 _ (getD_mem q)
    · rw [List.getD_eq_getElem?_getD, List.getElem?_eq_none (by omega)]
      decide
  have e : f_Wr_takePair L1 25 F = some (nI ((if p < lim then w.getD p 0 else 0) + 256 * (if (if p < lim then p + 1 else p) < lim then w.getD (if p < lim then p + 1 else p) 0 else 0)), G2) := by
    unfold f_Wr_takePair
    rw [e1]
    dsimp only [Option.bind_some]
    rw [e2]
    dsimp only [Option.bind_some]
    rw [show (256 : Int32) = nI 256 from rfl, pk_mul, nI_add]
  refine ⟨G2, _, e, ?_, fun q => ?_, fun q => ?_, f1.tr f2⟩
  · have h1 := hb p
    have h2 := hb (if p < lim then p + 1 else p)
    have h3 : (if p < lim then w.getD p 0 else 0) < 256 := by split <;> omega
    have h4 : (if (if p < lim then p + 1 else p) < lim then w.getD (if p < lim then p + 1 else p) 0 else 0) < 256 := by
      generalize (if p < lim then p + 1 else p) = q at h2 ⊢
      split <;> omega
    omega
  · have q0 : p < lim := by omega
    rw [if_pos q0] at c2 c1 ⊢
    rw [if_pos q0, if_pos q]
    rw [if_pos q] at c2
    refine ⟨rfl, ?_⟩
    simpa [q0, q] using c2
  · refine ⟨_, c2.2.2.1, ?_⟩
    have : (ok && decide (p < lim) && decide ((if p < lim then p + 1 else p) < lim)) = false := by
      by_cases q0 : p < lim
      · simp [q0, q]
      · simp [q0]
    rw [this] at c2
    exact c2
def hv (w : List Nat) (p i : Nat) : Nat := if i % 2 = 0 then w.getD (p + i / 2) 0 / 16 else w.getD (p + i / 2) 0 % 16
theorem j_div2 {a : Nat} (ha : a < 2 ^ 31) : nI a / 2 = nI (a / 2) := pk_div ha (by decide) (by decide)
theorem j_rem2 {a : Nat} (ha : a < 2 ^ 31) : jrem (nI a) 2 = nI (a % 2) := pk_rem ha (by decide) (by decide)
theorem wr_h25 {w : List Nat} {p lim ss bl : Nat} {n a : Nat} (hn : n ≤ 17) (ha : a < 66) (hl : n ≤ mLn L1 a) (hl2 : mLn L1 a < 2 ^ 20) (h3 : a ≠ 3) (h4 : a ≠ 4) (h25 : a ≠ 25) (hp : p + (n + 1) / 2 ≤ lim) : ∀ (d i : Nat) (F : Mem) (ok : Bool) (fu : Nat), d + i = n → d < fu → CR F w p lim ss bl ok →
    ∃ G, f_Wr_takeHalves_25 L1 fu 25 a (nI n) (nI i) F = some G ∧ CR G w (p + (n + 1) / 2) lim ss bl (ok && decide (n % 2 = 0 ∨ w.getD (p + n / 2) 0 % 16 = 0)) ∧ (∀ j, i ≤ j → j < n → G a j = nI (hv w p j)) ∧ (∀ j, ¬ (i ≤ j ∧ j < n) → G a j = F a j) ∧ Fr [25, a] F G := by
  intro d
  induction d with
  | zero =>
    intro i F ok fu hd hf h
    obtain ⟨fu, rfl⟩ : ∃ k, fu = k + 1 := ⟨fu - 1, by omega⟩
    obtain rfl : i = n := by omega
    obtain ⟨h1, ⟨a1, a2, a3, a4', a5⟩, gg2, gg3, gg4, gg5, gg6⟩ := id h
    show ∃ G, b_Wr_takeHalves_25 L1 (f_Wr_takeHalves_25 L1 fu) 25 a (nI i) (nI i) F = some G ∧ _
    unfold b_Wr_takeHalves_25 b_Wr_takeHalves_109
    have fin : ∀ (F' : Mem) (ok' : Bool), CR F' w p lim ss bl ok' → Fr [25] F F' → CR (u2 F' 25 1 (nI (p + (i + 1) / 2))) w (p + (i + 1) / 2) lim ss bl ok' ∧ (∀ j, (u2 F' 25 1 (nI (p + (i + 1) / 2))) a j = F a j) ∧ Fr [25, a] F (u2 F' 25 1 (nI (p + (i + 1) / 2))) := by
      intro F' ok' h' f'
      obtain ⟨k1, ⟨b1, b2, b3, b4, b5⟩, k2, k3, k4, k5, k6⟩ := h'
      refine ⟨⟨k1.fr (Fr.u (S := [25]) (by simp)) (by decide) (by decide), ⟨u2_s, by rw [u2_p (by decide)]; exact b2, by rw [u2_p (by decide)]; exact b3, by rw [u2_p (by decide)]; exact b4, by rw [u2_p (by decide)]; exact b5⟩, hp, k3, k4, k5, k6⟩, fun j => by rw [u2_c h25, f' a (by simpa using h25)], (f'.up (by simp)).tr (Fr.u (by simp))⟩
    rw [if_pos (nI_le (Nat.le_refl _) (by omega)), j_rem2 (by omega), j_div2 (by omega), show (1 : Int32) = nI 1 from rfl, nI_add, j_div2 (by omega), a1, nI_add, nI_add]
    by_cases hodd : i % 2 = 1
    · have hi : p + i / 2 < w.length := by omega
      have hy := gg6 _ (getD_mem hi)
      have e2 : mGa L1 F 4 (nI (p + i / 2)).toNatClampNeg = nI (w.getD (p + i / 2) 0) := by rw [a4, nI_clamp (by omega), h1.2 _ hi]
      rw [if_pos (by rw [hodd]), r250, r30, g4, if_neg (inb_no (by omega) (by omega)), e2, pk_andN (by omega) 4 rfl]
      by_cases hz : w.getD (p + i / 2) 0 % 16 = 0
      · obtain ⟨k1, k2, k3⟩ := fin F ok h Fr.rf
        refine ⟨_, by rw [if_pos (by rw [hz]; rfl), ld], ?_, fun j q1 q2 => absurd q2 (by omega), fun j _ => k2 j, k3⟩
        rw [decide_eq_true (Or.inr hz), Bool.and_true]
        exact k1
      · obtain ⟨k1, k2, k3⟩ := fin (u2 F 25 3 0) false h.bad (Fr.u (by simp))
        refine ⟨_, by rw [if_neg (fun q => hz (nI_inj (by omega) (by omega) (q.trans nI_0.symm))), if_neg (fun q => q zb0), ld, ld, u2_p (show 1 ≠ 3 by decide), a1, nI_add], ?_, fun j q1 q2 => absurd q2 (by omega), fun j _ => k2 j, k3⟩
        rw [decide_eq_false (fun q => q.elim (by omega) hz), Bool.and_false]
        exact k1
    · obtain ⟨k1, k2, k3⟩ := fin F ok h Fr.rf
      refine ⟨_, by rw [if_neg (fun q => hodd (nI_inj (by omega) (by omega) q)), ld], ?_, fun j q1 q2 => absurd q2 (by omega), fun j _ => k2 j, k3⟩
      have : i % 2 = 0 := by omega
      rw [decide_eq_true (Or.inl this), Bool.and_true]
      exact k1
  | succ d ih =>
    intro i F ok fu hd hf h
    obtain ⟨fu, rfl⟩ : ∃ k, fu = k + 1 := ⟨fu - 1, by omega⟩
    obtain ⟨h1, ⟨a1, a2, a3, a4', a5⟩, gg2, gg3, gg4, gg5, gg6⟩ := id h
    have hi : p + i / 2 < w.length := by omega
    have hy := gg6 _ (getD_mem hi)
    have e2 : mGa L1 F 4 (nI (p + i / 2)).toNatClampNeg = nI (w.getD (p + i / 2) 0) := by rw [a4, nI_clamp (by omega), h1.2 _ hi]
    have fr : Fr [25, a] F (u2 F a i (nI (hv w p i))) := Fr.u (by simp)
    have h' : CR (u2 F a i (nI (hv w p i))) w p lim ss bl ok := ⟨h1.fr (Fr.u (S := [a]) (by simp)) (by simpa using fun q => h3 q.symm) (by simpa using fun q => h4 q.symm), ⟨by rw [u2_c (Ne.symm h25)]; exact a1, by rw [u2_c (Ne.symm h25)]; exact a2, by rw [u2_c (Ne.symm h25)]; exact a3, by rw [u2_c (Ne.symm h25)]; exact a4', by rw [u2_c (Ne.symm h25)]; exact a5⟩, gg2, gg3, gg4, gg5, gg6⟩
    obtain ⟨G, e, k1, k2, k3, k4⟩ := ih (i + 1) _ ok fu (by omega) (by omega) h'
    have st : b_Wr_takeHalves_68 L1 (f_Wr_takeHalves_25 L1 fu) 25 a (nI n) (nI i) a (nI i) (nI (hv w p i)) F = some G := by
      unfold b_Wr_takeHalves_68
      rw [if_neg (in_l (m := 0) (by omega) hl2 (by omega) (show a < mNc L1 from ha)), ld, nI_clamp (by omega), nI_1]
      exact e
    refine ⟨G, ?_, k1, fun j q1 q2 => ?_, fun j q => ?_, fr.tr k4⟩
    · show b_Wr_takeHalves_25 L1 (f_Wr_takeHalves_25 L1 fu) 25 a (nI n) (nI i) F = _
      unfold b_Wr_takeHalves_25
      rw [if_neg (fun q => absurd ((nI_leI (by omega) (by omega)).mp q) (by omega)), j_div2 (by omega), j_rem2 (by omega), a1, nI_add, r250, r30, g4, if_neg (inb_no (by omega) (by omega)), e2, show (4 : Int32) = nI 4 from rfl, jshr_n (by omega) (by omega), pk_andN (by omega) 4 rfl]
      by_cases hz : i % 2 = 0
      · rw [if_pos (by rw [hz]; rfl)]
        have : hv w p i = w.getD (p + i / 2) 0 / 2 ^ 4 := by unfold hv; rw [if_pos hz]
        rw [this] at st
        exact st
      · rw [if_neg (fun q => hz (nI_inj (by omega) (by omega) (q.trans nI_0.symm)))]
        have : hv w p i = w.getD (p + i / 2) 0 % 2 ^ 4 := by unfold hv; rw [if_neg hz]
        rw [this] at st
        exact st
    · rcases Nat.eq_or_lt_of_le q1 with rfl | q1
      · rw [k3 i (by omega), u2_s]
      · exact k2 j (by omega) q2
    · rw [k3 j (by omega), u2_p (by omega)]
theorem wr_halves {F : Mem} {w : List Nat} {p lim ss bl : Nat} {ok : Bool} (h : CR F w p lim ss bl ok) {n a : Nat} (hn : n ≤ 17) (ha : a < 66) (hl : n ≤ mLn L1 a) (hl2 : mLn L1 a < 2 ^ 20) (h3 : a ≠ 3) (h4 : a ≠ 4) (h25 : a ≠ 25) :
    ∃ G, f_Wr_takeHalves L1 25 a (nI n) F = some G ∧ (if p + (n + 1) / 2 ≤ lim then CR G w (p + (n + 1) / 2) lim ss bl (ok && decide (n % 2 = 0 ∨ w.getD (p + n / 2) 0 % 16 = 0)) ∧ (∀ j, j < n → G a j = nI (hv w p j)) ∧ (∀ j, n ≤ j → G a j = F a j) else CR G w p lim ss bl false ∧ ∀ j, G a j = F a j) ∧ Fr [25, a] F G := by
  obtain ⟨h1, ⟨a1, a2, a3, a4', a5⟩, gg2, gg3, gg4, gg5, gg6⟩ := id h
  unfold f_Wr_takeHalves
  rw [show (1 : Int32) = nI 1 from rfl, nI_add, j_div2 (by omega), a1, a2, pk_sub gg2]
  by_cases hp : p + (n + 1) / 2 ≤ lim
  · obtain ⟨G, e, k1, k2, k3, k4⟩ := wr_h25 hn ha hl hl2 h3 h4 h25 hp n 0 F ok mFU (by omega) (by unfold mFU; omega) h
    refine ⟨G, by rw [if_pos (nI_le (by omega) (by omega))]; exact e, ?_, k4⟩
    rw [if_pos hp]
    exact ⟨k1, fun j hj => k2 j (by omega) hj, fun j hj => k3 j (by omega)⟩
  · refine ⟨u2 F 25 3 0, by rw [if_neg (fun q => absurd ((nI_leI (by omega) (by omega)).mp q) (by omega)), if_neg (fun q => q zb0), ld], ?_, Fr.u (by simp)⟩
    rw [if_neg hp]
    exact ⟨h.bad, fun j => u2_c h25⟩
