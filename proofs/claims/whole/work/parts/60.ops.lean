/-! CALLS, 19: fits and nearest -/
section OP
variable {t : Nat} {I : MI} {L : ML} {R : MR} {S : MS} {D : TD} {C : TC} {P Q : PR} {Z : AX}
theorem c_fiL {p : Int32} (ht : isT t) (hD : OkD D C) (ha : AI D C P Z) : ∀ (j w n : Nat) (I : MI), w + j = nR D → j < n → Td I t D C → PC I Z → ∃ I', x10_fits_L4 t p n (Int32.ofNat (sfi D C Z p w)) (Int32.ofNat w) I = some (Int32.ofNat (sfi D C Z p (nR D)), I') ∧ Ft t I I' := by
  have hR6 := hD.r
  have h30 := ha.2.2.2.2.2.2.1.1
  intro j
  induction j with
  | zero =>
    intro w n I hw hn hT hP
    obtain ⟨n, rfl⟩ : ∃ n', n = n' + 1 := ⟨n - 1, by omega⟩
    obtain rfl : w = nR D := by omega
    refine ⟨I, ?_, Ft.refl⟩
    simp (disch := omega) only [x10_fits_L4, x10_fits_L4s, hT.1.2.2.2.2.2.2, hD.2.1.2.2.1, QN]
    simp
  | succ j ih =>
    intro w n I hw hn hT hP
    obtain ⟨n, rfl⟩ : ∃ n', n = n' + 1 := ⟨n - 1, by omega⟩
    have hwr : w < nR D := by omega
    obtain ⟨I1, c1, c2⟩ := c_mf ht hD ha hwr hT hP p
    obtain ⟨I2, k1, k2⟩ := ih (w + 1) n I1 (by omega) (by omega) (c2.td ht hT) (hP.fr ht c2)
    have hl : sfi D C Z p w < 1024 := Nat.lt_of_lt_of_le (sfi_lt w) (pow_le (by omega))
    have hs := smf_le (D := D) (C := C) (Z := Z) (r := w) (p := p) (zP Z)
    refine ⟨I2, ?_, c2.trans k2⟩
    have e0 : (Int32.ofNat (smf D C Z w p (zP Z)) = 0) = (smf D C Z w p (zP Z) = 0) := by rw [show (0 : Int32) = Int32.ofNat 0 from rfl, q_eq (by omega) (by omega)]
    simp only [x10_fits_L4, x10_fits_L4s, hT.1.2.2.2.2.2.2, hD.2.1.2.2.1, q_lt (show w < 2147483648 by omega) (show nR D < 2147483648 by omega), QB, if_pos hwr, c1, e0, or_n hl (show w < 10 by omega), q_addn]
    simp only [sfi] at k1
    by_cases g : smf D C Z w p (zP Z) = 0
    · rw [if_pos g] at k1 ⊢; exact k1
    · rw [if_neg g] at k1 ⊢; exact k1
theorem m_fiL {p : Int32} (hD : OkD D C) (ha : AI D C P Z) (hQ : Pt D Q) : ∀ (j w n : Nat) (I : MI), w + j = nR D → j < n → Rd I D C → Wr I Q → PM I Z → ∃ I', x11_fits_L8 p n (Int32.ofNat (sfi D C Z p w)) (Int32.ofNat w) I = some (Int32.ofNat (sfi D C Z p (nR D)), I') ∧ Fq I I' := by
  have hR6 := hD.r
  have h30 := ha.2.2.2.2.2.2.1.1
  intro j
  induction j with
  | zero =>
    intro w n I hw hn hR hW hP
    obtain ⟨n, rfl⟩ : ∃ n', n = n' + 1 := ⟨n - 1, by omega⟩
    obtain rfl : w = nR D := by omega
    refine ⟨I, ?_, Fq.refl⟩
    simp (disch := omega) only [x11_fits_L8, x11_fits_L8s, hR.1.2.2.2.2.2, hD.2.1.2.2.1, QN]
    simp
  | succ j ih =>
    intro w n I hw hn hR hW hP
    obtain ⟨n, rfl⟩ : ∃ n', n = n' + 1 := ⟨n - 1, by omega⟩
    have hwr : w < nR D := by omega
    obtain ⟨I1, c1, c2⟩ := m_fitL (p := p) hD ha hwr hQ (zP Z) 0 FU I (by omega) (by unfold FU; omega) hR hW hP
    obtain ⟨I2, k1, k2⟩ := ih (w + 1) n I1 (by omega) (by omega) (c2.m.rd hR) (c2.wr hW) (hP.fr c2.m)
    have hl : sfi D C Z p w < 1024 := Nat.lt_of_lt_of_le (sfi_lt w) (pow_le (by omega))
    have hz : ∀ x : Int32, x ||| 0 = x := fun x => Int32.or_zero
    rw [show sfl01 D C Z w p 0 = 1 from rfl, show Int32.ofNat 0 = 0 from rfl] at c1
    refine ⟨I2, ?_, c2.trans k2⟩
    simp only [x11_fits_L8, x11_fits_L8s, hR.1.2.2.2.2.2, hD.2.1.2.2.1, q_lt (show w < 2147483648 by omega) (show nR D < 2147483648 by omega), QB, if_pos hwr, c1, or_n hl (show w < 10 by omega), q_addn, hz]
    simp only [sfi] at k1
    by_cases g : smf D C Z w p (zP Z) = 0
    · have e : sfl01 D C Z w p (zP Z) = 1 := if_pos g
      rw [if_pos g] at k1
      simp only [e, show ((1 : Int32) = 0) = False from eq_false (by decide), if_false]; exact k1
    · have e : sfl01 D C Z w p (zP Z) = 0 := if_neg g
      rw [if_neg g] at k1
      simp only [e, if_true]; exact k1
theorem op_fits (h : INV t I L R S D C P Z) (p : Int32) : ∃ r I1 I2, x10_fits t p I = some (r, I1) ∧ x11_fits p I1 = some (r, I2) ∧ INV t I2 L R S D C P Z := by
  have hS := h.1
  have ht := hS.2.2.2.1
  have hD := h.2.2.2.1.1
  have hR6 := hD.r
  obtain ⟨I1, c1, c2⟩ := c_fiL (p := p) ht hD h.2.2.2.1 (nR D) 0 FU I (by omega) (by unfold FU; omega) h.2.1.1 h.2.1.2.2.2.2.2.2.1
  have h2 := h.q (c2.kc hS) Kr.refl
  obtain ⟨I2, m1, ⟨Q, m2, m3⟩, m4⟩ := m_lt h2.2.2.1 h2.2.2.2.1
  have f2 : Fm I1 I2 := Fm.of137 m4
  obtain ⟨I3, k1, k2⟩ := m_fiL (p := p) hD h2.2.2.2.1 m3 (nR D) 0 FU I2 (by omega) (by unfold FU; omega) (f2.rd h2.2.2.1.1) m2 (PM.fr h2.2.2.1.2.2.2.2.2.2.1 f2)
  rw [show sfi D C Z p 0 = 0 from rfl, show Int32.ofNat 0 = 0 from rfl] at c1 k1
  exact ⟨Int32.ofNat (sfi D C Z p (nR D)), I1, I3, by simp only [x10_fits, QB, c1], by simp only [x11_fits, QB, m1, k1], h2.q Kc.refl (f2.trans k2.m).kr⟩
theorem c_neL {p : Int32} (ht : isT t) (hD : OkD D C) (ha : AI D C P Z) : ∀ (j w n : Nat) (I : MI), w + 1 + j = nR D → j < n → Td I t D C → PC I Z → ∃ I', x10_nearest_L40 t p n (Int32.ofNat (sne D C Z p w)) (Int32.ofNat (smf D C Z (sne D C Z p w) p (zP Z))) (Int32.ofNat (w + 1)) I = some (Int32.ofNat (sne D C Z p (nR D - 1)), Int32.ofNat (smf D C Z (sne D C Z p (nR D - 1)) p (zP Z)), I') ∧ Ft t I I' := by
  have hR6 := hD.r
  have h30 := ha.2.2.2.2.2.2.1.1
  intro j
  induction j with
  | zero =>
    intro w n I hw hn hT hP
    obtain ⟨n, rfl⟩ : ∃ n', n = n' + 1 := ⟨n - 1, by omega⟩
    have e : w = nR D - 1 := by omega
    refine ⟨I, ?_, Ft.refl⟩
    simp (disch := omega) only [x10_nearest_L40, x10_nearest_L40s, hT.1.2.2.2.2.2.2, hD.2.1.2.2.1, QN]
    rw [if_neg (by omega), e]
  | succ j ih =>
    intro w n I hw hn hT hP
    obtain ⟨n, rfl⟩ : ∃ n', n = n' + 1 := ⟨n - 1, by omega⟩
    have hwr : w + 1 < nR D := by omega
    obtain ⟨I1, c1, c2⟩ := c_mf ht hD ha hwr hT hP p
    obtain ⟨I2, k1, k2⟩ := ih (w + 1) n I1 (by omega) (by omega) (c2.td ht hT) (hP.fr ht c2)
    have hs := smf_le (D := D) (C := C) (Z := Z) (r := w + 1) (p := p) (zP Z)
    have hs2 := smf_le (D := D) (C := C) (Z := Z) (r := sne D C Z p w) (p := p) (zP Z)
    refine ⟨I2, ?_, c2.trans k2⟩
    simp only [x10_nearest_L40, x10_nearest_L40s, hT.1.2.2.2.2.2.2, hD.2.1.2.2.1, q_lt (show w + 1 < 2147483648 by omega) (show nR D < 2147483648 by omega), QB, if_pos hwr, c1, q_addn, q_lt (show smf D C Z (w + 1) p (zP Z) < 2147483648 by omega) (show smf D C Z (sne D C Z p w) p (zP Z) < 2147483648 by omega)]
    simp only [sne] at k1
    by_cases g : smf D C Z (w + 1) p (zP Z) < smf D C Z (sne D C Z p w) p (zP Z)
    · rw [if_pos g] at k1 ⊢; exact k1
    · rw [if_neg g] at k1 ⊢; exact k1
theorem m_neL {p : Int32} (hD : OkD D C) (ha : AI D C P Z) (hQ : Pt D Q) : ∀ (j w n : Nat) (I : MI), w + 1 + j = nR D → j < n → Rd I D C → Wr I Q → PM I Z → ∃ I', x11_nearest_L27 p n (Int32.ofNat (sne D C Z p w)) (Int32.ofNat (w + 1)) I = some (Int32.ofNat (sne D C Z p (nR D - 1)), I') ∧ Fq I I' := by
  have hR6 := hD.r
  have h30 := ha.2.2.2.2.2.2.1.1
  intro j
  induction j with
  | zero =>
    intro w n I hw hn hR hW hP
    obtain ⟨n, rfl⟩ : ∃ n', n = n' + 1 := ⟨n - 1, by omega⟩
    have e : w = nR D - 1 := by omega
    refine ⟨I, ?_, Fq.refl⟩
    simp (disch := omega) only [x11_nearest_L27, x11_nearest_L27s, hR.1.2.2.2.2.2, hD.2.1.2.2.1, QN]
    rw [if_neg (by omega), e]
  | succ j ih =>
    intro w n I hw hn hR hW hP
    obtain ⟨n, rfl⟩ : ∃ n', n = n' + 1 := ⟨n - 1, by omega⟩
    have hwr : w + 1 < nR D := by omega
    have hsw := sne_le (D := D) (C := C) (Z := Z) (p := p) w
    obtain ⟨I1, c1, c2⟩ := m_mf hD ha hwr hQ hR hW hP p
    have hP1 := hP.fr c2.m
    obtain ⟨I1', d1, d2⟩ := m_mf hD ha (show sne D C Z p w < nR D by omega) hQ (c2.m.rd hR) (c2.wr hW) hP1 p
    have f := c2.trans d2
    obtain ⟨I2, k1, k2⟩ := ih (w + 1) n I1' (by omega) (by omega) (f.m.rd hR) (f.wr hW) (hP.fr f.m)
    have hs := smf_le (D := D) (C := C) (Z := Z) (r := w + 1) (p := p) (zP Z)
    have hs2 := smf_le (D := D) (C := C) (Z := Z) (r := sne D C Z p w) (p := p) (zP Z)
    refine ⟨I2, ?_, f.trans k2⟩
    simp only [x11_nearest_L27, x11_nearest_L27s, hR.1.2.2.2.2.2, hD.2.1.2.2.1, q_lt (show w + 1 < 2147483648 by omega) (show nR D < 2147483648 by omega), QB, if_pos hwr, c1, d1, q_addn, q_lt (show smf D C Z (w + 1) p (zP Z) < 2147483648 by omega) (show smf D C Z (sne D C Z p w) p (zP Z) < 2147483648 by omega)]
    simp only [sne] at k1
    by_cases g : smf D C Z (w + 1) p (zP Z) < smf D C Z (sne D C Z p w) p (zP Z)
    · rw [if_pos g] at k1 ⊢; exact k1
    · rw [if_neg g] at k1 ⊢; exact k1
end OP
