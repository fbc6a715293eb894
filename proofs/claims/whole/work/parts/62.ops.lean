/-! CALLS, 21: about the tub -/
section OP
variable {t : Nat} {I : MI} {L : ML} {R : MR} {S : MS} {D : TD} {C : TC} {P Q : PR} {Z : AX}
theorem sas_b (N k : Nat) : sas P N / 2 ^ k % 2 = if k < N ∧ P (5 * k + 2) < 0 then 1 else 0 := by
  have h := sas_bit (P := P) N k
  rw [tb, decide_eq_true_eq] at h
  have hb : sas P N / 2 ^ k % 2 < 2 := Nat.mod_lt _ (by omega)
  by_cases g : k < N ∧ P (5 * k + 2) < 0
  · rw [if_pos g]; exact h.mpr g
  · rw [if_neg g]
    have : ¬ sas P N / 2 ^ k % 2 = 1 := fun e => g (h.mp e)
    omega
theorem pcn_sas (N : Nat) : ∀ k, k ≤ N → pcn (sas P N) k = scnt P k
  | 0, _ => rfl
  | k + 1, h => by
    have ih := pcn_sas N k (by omega)
    simp only [pcn, scnt]
    rw [ih, sas_b]
    by_cases g : P (5 * k + 2) < 0
    · rw [if_pos g, if_pos ⟨by omega, g⟩]
    · rw [if_neg g, if_neg (fun e => g e.2)]
theorem pcn_sas2 (N : Nat) : ∀ j, pcn (sas P N) (N + j) = scnt P N
  | 0 => pcn_sas N N (Nat.le_refl _)
  | j + 1 => by
    rw [← Nat.add_assoc]
    simp only [pcn]
    rw [pcn_sas2 N j, sas_b, if_neg (by omega)]; rfl
theorem pc_sas {N : Nat} (hN : N ≤ 10) : pc (sas P N) = scnt P N := by
  rw [← pcn_10]
  have := pcn_sas2 (P := P) N (10 - N)
  rwa [show N + (10 - N) = 10 by omega] at this
/-- how many are in the tub, as the class counts -/
theorem c_cnt (hD : OkD D C) (hT : Td I t D C) (hR : Rl D true I 47 P) (J : MI) : x10_afloatSet t I = some (Int32.ofNat (sas P (nA D))) ∧ j6_bitCount_0f7a4 (Int32.ofNat (sas P (nA D))) J = some (Int32.ofNat (scnt P (nA D))) := by
  have h := sas_lt P (nA D)
  have := pow_le hD.a
  exact ⟨c_as hD hT hR, by rw [cnt_n (by omega), pc_sas hD.a]⟩
theorem op_about (h : INV t I L R S D C P Z) (p : Int32) : ∃ r I2, x10_about t p I = some r ∧ x11_about p I = some (r, I2) ∧ INV t I2 L R S D C P Z := by
  obtain ⟨hS, hc, hm, ha, hw⟩ := id h
  have hD := ha.1
  obtain ⟨I1, m1, m2, m3⟩ := m_loadN hm.2.1
  have f1 : Fm I I1 := Fm.of137 m3
  have h2 := h.q Kc.refl f1.kr
  have hr := h2.2.2.1
  obtain ⟨cA, cB⟩ := c_cnt hD hc.1 hc.2.1 I
  have mA := m_cnt hD hr.1 m2
  obtain ⟨od, -, -, e592, e593, -⟩ := hc.2.2.2.2.2.2.2.1
  by_cases g0 : p = 0
  · subst g0
    have a : I t 0 = D 0 0 := hc.1.1.1
    have b : I1 102 56 = D 0 0 := hr.1.1.1
    refine ⟨D 0 0, I1, ?_, ?_, h2⟩
    · simp only [x10_about]
      rw [if_pos trivial, a]
    · simp only [x11_about, m1, q_b1]
      rw [if_pos trivial, b]
  by_cases g1 : p = 1
  · subst g1
    have a : I t 1 = D 0 1 := hc.1.1.2.1
    have b : I1 102 57 = D 0 1 := hr.1.1.2.1
    refine ⟨D 0 1, I1, ?_, ?_, h2⟩
    · simp only [x10_about]
      rw [if_neg (by decide), if_pos trivial, a]
    · simp only [x11_about, m1, q_b1]
      rw [if_neg (by decide), if_pos trivial, b]
  by_cases g2 : p = 2
  · subst g2
    have a : I t 4 = Int32.ofNat (nA D) := by rw [hc.1.1.2.2.2.2.1, hD.2.1.1.1]
    have b : I1 102 60 = Int32.ofNat (nA D) := by rw [hr.1.1.2.2.2.1, hD.2.1.1.1]
    refine ⟨Int32.ofNat (nA D), I1, ?_, ?_, h2⟩
    · simp only [x10_about]
      rw [if_neg (by decide), if_neg (by decide), if_pos trivial, a]
    · simp only [x11_about, m1, q_b1]
      rw [if_neg (by decide), if_neg (by decide), if_pos trivial, b]
  by_cases g3 : p = 3
  · subst g3
    refine ⟨Int32.ofNat (scnt P (nA D)), I1, ?_, ?_, h2⟩
    · simp only [x10_about]
      rw [if_neg (by decide), if_neg (by decide), if_neg (by decide), if_pos trivial]; simp only [cA, cB, QB]
    · simp only [x11_about, m1, QB]
      rw [if_neg (by decide), if_neg (by decide), if_neg (by decide), if_pos trivial]; simp only [mA, QB]
  by_cases g4 : p = 4
  · subst g4
    have a : I t 11 = Int32.ofNat (nB D) := by rw [hc.1.1.2.2.2.2.2.1, hD.2.1.2.1.1]
    have b : I1 102 61 = Int32.ofNat (nB D) := by rw [hr.1.1.2.2.2.2.1, hD.2.1.2.1.1]
    refine ⟨Int32.ofNat (nB D), I1, ?_, ?_, h2⟩
    · simp only [x10_about]
      rw [if_neg (by decide), if_neg (by decide), if_neg (by decide), if_neg (by decide), if_pos trivial, a]
    · simp only [x11_about, m1, q_b1]
      rw [if_neg (by decide), if_neg (by decide), if_neg (by decide), if_neg (by decide), if_pos trivial, b]
  by_cases g5 : p = 5
  · subst g5
    have a : I t 18 = Int32.ofNat (nR D) := by rw [hc.1.1.2.2.2.2.2.2, hD.2.1.2.2.1]
    have b : I1 102 59 = Int32.ofNat (nR D) := by rw [hr.1.1.2.2.2.2.2, hD.2.1.2.2.1]
    refine ⟨Int32.ofNat (nR D), I1, ?_, ?_, h2⟩
    · simp only [x10_about]
      rw [if_neg (by decide), if_neg (by decide), if_neg (by decide), if_neg (by decide), if_neg (by decide), if_pos trivial, a]
    · simp only [x11_about, m1, q_b1]
      rw [if_neg (by decide), if_neg (by decide), if_neg (by decide), if_neg (by decide), if_neg (by decide), if_pos trivial, b]
  by_cases g6 : p = 6
  · subst g6
    have a : I 47 11 = P 62 := hc.2.1.2.2.1
    have b : I1 138 (ix 62) = P 62 := hr.2.1.1 62 (by omega)
    refine ⟨P 62, I1, ?_, ?_, h2⟩
    · simp only [x10_about]
      rw [if_neg (by decide), if_neg (by decide), if_neg (by decide), if_neg (by decide), if_neg (by decide), if_neg (by decide), if_pos trivial, a]
    · simp only [x11_about, m1, q_b1]
      rw [if_neg (by decide), if_neg (by decide), if_neg (by decide), if_neg (by decide), if_neg (by decide), if_neg (by decide), if_pos trivial, b]
  by_cases g7 : p = 7
  · subst g7
    have a : I 59 2 = Int32.ofNat (zB Z) := e592
    have b : I1 102 71 = Int32.ofNat (zB Z) := hr.2.2.2.2.2.2.2.1.1
    refine ⟨Int32.ofNat (zB Z), I1, ?_, ?_, h2⟩
    · simp only [x10_about]
      rw [if_neg (by decide), if_neg (by decide), if_neg (by decide), if_neg (by decide), if_neg (by decide), if_neg (by decide), if_neg (by decide), if_pos trivial, a]
    · simp only [x11_about, m1, q_b1]
      rw [if_neg (by decide), if_neg (by decide), if_neg (by decide), if_neg (by decide), if_neg (by decide), if_neg (by decide), if_neg (by decide), if_pos trivial, b]
  by_cases g8 : p = 8
  · subst g8
    have a : I 59 3 = Int32.ofNat (zA Z) := e593
    have b : I1 102 72 = Int32.ofNat (zA Z) := hr.2.2.2.2.2.2.2.1.2.1
    refine ⟨Int32.ofNat (zA Z), I1, ?_, ?_, h2⟩
    · simp only [x10_about]
      rw [if_neg (by decide), if_neg (by decide), if_neg (by decide), if_neg (by decide), if_neg (by decide), if_neg (by decide), if_neg (by decide), if_neg (by decide), if_pos trivial, a]
    · simp only [x11_about, m1, q_b1]
      rw [if_neg (by decide), if_neg (by decide), if_neg (by decide), if_neg (by decide), if_neg (by decide), if_neg (by decide), if_neg (by decide), if_neg (by decide), if_pos trivial, b]
  by_cases g9 : p = 9
  · subst g9
    have a : I 83 6 = Int32.ofNat (zP Z) := hc.2.2.2.2.2.2.1.1
    have b : I1 102 91 = Int32.ofNat (zP Z) := hr.2.2.2.2.2.2.1.1
    refine ⟨Int32.ofNat (zP Z), I1, ?_, ?_, h2⟩
    · simp only [x10_about]
      rw [if_neg (by decide), if_neg (by decide), if_neg (by decide), if_neg (by decide), if_neg (by decide), if_neg (by decide), if_neg (by decide), if_neg (by decide), if_neg (by decide), if_pos trivial, a]
    · simp only [x11_about, m1, q_b1]
      rw [if_neg (by decide), if_neg (by decide), if_neg (by decide), if_neg (by decide), if_neg (by decide), if_neg (by decide), if_neg (by decide), if_neg (by decide), if_neg (by decide), if_pos trivial, b]
  by_cases g10 : p = 10
  · subst g10
    have a : I 0 12 = Int32.ofNat (zM Z) := hc.2.2.2.2.1
    have b : I1 102 92 = Int32.ofNat (zM Z) := hr.2.2.2.2.1
    refine ⟨Int32.ofNat (zM Z), I1, ?_, ?_, h2⟩
    · simp only [x10_about]
      rw [if_neg (by decide), if_neg (by decide), if_neg (by decide), if_neg (by decide), if_neg (by decide), if_neg (by decide), if_neg (by decide), if_neg (by decide), if_neg (by decide), if_neg (by decide), if_pos trivial, a]
    · simp only [x11_about, m1, q_b1]
      rw [if_neg (by decide), if_neg (by decide), if_neg (by decide), if_neg (by decide), if_neg (by decide), if_neg (by decide), if_neg (by decide), if_neg (by decide), if_neg (by decide), if_neg (by decide), if_pos trivial, b]
  by_cases g11 : p = 11
  · subst g11
    have a : I 0 1 = Int32.ofNat (zN Z) := hc.2.2.1.1
    have b : I1 102 1 = Int32.ofNat (zN Z) := hr.2.2.1.1
    refine ⟨Int32.ofNat (zN Z), I1, ?_, ?_, h2⟩
    · simp only [x10_about]
      rw [if_neg (by decide), if_neg (by decide), if_neg (by decide), if_neg (by decide), if_neg (by decide), if_neg (by decide), if_neg (by decide), if_neg (by decide), if_neg (by decide), if_neg (by decide), if_neg (by decide), if_pos trivial, a]
    · simp only [x11_about, m1, q_b1]
      rw [if_neg (by decide), if_neg (by decide), if_neg (by decide), if_neg (by decide), if_neg (by decide), if_neg (by decide), if_neg (by decide), if_neg (by decide), if_neg (by decide), if_neg (by decide), if_neg (by decide), if_pos trivial, b]
  by_cases g12 : p = 12
  · subst g12
    have a : I (t + 13) 5 = zU Z := hc.2.2.2.2.2.2.2.2.2
    have b : I1 102 21 = zU Z := hr.2.2.2.2.2.2.2.2.2
    refine ⟨zU Z, I1, ?_, ?_, h2⟩
    · simp only [x10_about]
      rw [if_neg (by decide), if_neg (by decide), if_neg (by decide), if_neg (by decide), if_neg (by decide), if_neg (by decide), if_neg (by decide), if_neg (by decide), if_neg (by decide), if_neg (by decide), if_neg (by decide), if_neg (by decide), if_pos trivial, a]
    · simp only [x11_about, m1, q_b1]
      rw [if_neg (by decide), if_neg (by decide), if_neg (by decide), if_neg (by decide), if_neg (by decide), if_neg (by decide), if_neg (by decide), if_neg (by decide), if_neg (by decide), if_neg (by decide), if_neg (by decide), if_neg (by decide), if_pos trivial, b]
  by_cases g13 : p = 13
  · subst g13
    have a : I 0 14 = Int32.ofNat (zL' Z).length := hc.2.2.2.2.2.1.1
    have b : I1 102 85 = Int32.ofNat (zL' Z).length := hr.2.2.2.2.2.1.1
    refine ⟨Int32.ofNat (zL' Z).length, I1, ?_, ?_, h2⟩
    · simp only [x10_about]
      rw [if_neg (by decide), if_neg (by decide), if_neg (by decide), if_neg (by decide), if_neg (by decide), if_neg (by decide), if_neg (by decide), if_neg (by decide), if_neg (by decide), if_neg (by decide), if_neg (by decide), if_neg (by decide), if_neg (by decide), if_pos trivial, a]
    · simp only [x11_about, m1, q_b1]
      rw [if_neg (by decide), if_neg (by decide), if_neg (by decide), if_neg (by decide), if_neg (by decide), if_neg (by decide), if_neg (by decide), if_neg (by decide), if_neg (by decide), if_neg (by decide), if_neg (by decide), if_neg (by decide), if_neg (by decide), if_pos trivial, b]
  exact ⟨-1, I1, by simp only [x10_about]; rw [if_neg g0, if_neg g1, if_neg g2, if_neg g3, if_neg g4, if_neg g5, if_neg g6, if_neg g7, if_neg g8, if_neg g9, if_neg g10, if_neg g11, if_neg g12, if_neg g13], by simp only [x11_about, m1, q_b1]; rw [if_neg g0, if_neg g1, if_neg g2, if_neg g3, if_neg g4, if_neg g5, if_neg g6, if_neg g7, if_neg g8, if_neg g9, if_neg g10, if_neg g11, if_neg g12, if_neg g13], h2⟩
end OP
