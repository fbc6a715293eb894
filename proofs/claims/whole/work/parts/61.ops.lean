/-! CALLS, 20: nearest -/
section OP
variable {t : Nat} {I : MI} {L : ML} {R : MR} {S : MS} {D : TD} {C : TC} {P Q : PR} {Z : AX}
theorem op_nearest (h : INV t I L R S D C P Z) (w p : Int32) : ∃ r I1 I2, x10_nearest t w p I = some (r, I1) ∧ x11_nearest w p I1 = some (r, I2) ∧ INV t I2 L R S D C P Z := by
  have hS := h.1
  have ht := hS.2.2.2.1
  have hD := h.2.2.2.1.1
  have hR6 := hD.r
  have h30 := h.2.2.2.1.2.2.2.2.2.2.1.1
  have e1 : ∀ J, x11_isIn w 0 1 J = some (b2i (isu w 1)) := fun J => m_isu w 1 (by omega)
  have hw1 : (isu w 1 = true) = ¬ (w < 0 ∨ 1 < w) := isu_c (by omega)
  have e0 : (Int32.ofNat (nR D) = 0) = (nR D = 0) := by rw [show (0 : Int32) = Int32.ofNat 0 from rfl, q_eq (by omega) (by omega)]
  have ct : I t 18 = Int32.ofNat (nR D) := by rw [h.2.1.1.1.2.2.2.2.2.2, hD.2.1.2.2.1]
  have mt : ∀ J, Rd J D C → J 102 59 = Int32.ofNat (nR D) := fun J hJ => by rw [hJ.1.2.2.2.2.2, hD.2.1.2.2.1]
  by_cases h0 : nR D = 0
  · refine ⟨-1, I, I, ?_, ?_, h⟩
    · simp only [x10_nearest, ct]
      rw [if_pos (by rw [e0]; exact h0)]
    · simp only [x11_nearest, mt I h.2.2.1.1]
      rw [if_pos (by rw [e0]; exact h0)]
  · by_cases h3 : isu w 1 = true
    · have h3' := h3
      rw [hw1] at h3'
      obtain ⟨I1, c1, c2⟩ := c_mf (r := 0) ht hD h.2.2.2.1 (by omega) h.2.1.1 h.2.1.2.2.2.2.2.2.1 p
      obtain ⟨I2, d1, d2⟩ := c_neL (p := p) ht hD h.2.2.2.1 (nR D - 1) 0 FU I1 (by omega) (by unfold FU; omega) (c2.td ht h.2.1.1) (PC.fr h.2.1.2.2.2.2.2.2.1 ht c2)
      have h2 := h.q ((c2.trans d2).kc hS) Kr.refl
      obtain ⟨I3, m1, ⟨Q, m2, m3⟩, m4⟩ := m_lt h2.2.2.1 h2.2.2.2.1
      have f3 : Fm I2 I3 := Fm.of137 m4
      have hP3 := PM.fr h2.2.2.1.2.2.2.2.2.2.1 f3
      obtain ⟨I4, k1, k2⟩ := m_neL (p := p) hD h2.2.2.2.1 m3 (nR D - 1) 0 FU I3 (by omega) (by unfold FU; omega) (f3.rd h2.2.2.1.1) m2 hP3
      have hsn := sne_le (D := D) (C := C) (Z := Z) (p := p) (nR D - 1)
      obtain ⟨I5, n1, n2⟩ := m_mf (r := sne D C Z p (nR D - 1)) hD h2.2.2.2.1 (by omega) m3 (k2.m.rd (f3.rd h2.2.2.1.1)) (k2.wr m2) (hP3.fr k2.m) p
      rw [show sne D C Z p 0 = 0 from rfl, show Int32.ofNat 0 = 0 from rfl, show Int32.ofNat (0 + 1) = 1 from rfl] at d1
      rw [show sne D C Z p 0 = 0 from rfl, show Int32.ofNat 0 = 0 from rfl, show Int32.ofNat (0 + 1) = 1 from rfl] at k1
      rw [show Int32.ofNat 0 = 0 from rfl] at c1
      have hc : x10_nearest t w p I = if w = 0 then some (Int32.ofNat (sne D C Z p (nR D - 1)), I2) else some (Int32.ofNat (smf D C Z (sne D C Z p (nR D - 1)) p (zP Z)), I2) := by
        simp only [x10_nearest, ct, c1, d1, QB]
        rw [if_neg (by rw [e0]; exact h0), if_neg (fun g => h3' (Or.inl g)), if_neg (fun g => h3' (Or.inr g))]
      have hm : x11_nearest w p I2 = if w = 0 then some (Int32.ofNat (sne D C Z p (nR D - 1)), I4) else some (Int32.ofNat (smf D C Z (sne D C Z p (nR D - 1)) p (zP Z)), I5) := by
        simp only [x11_nearest, mt I2 h2.2.2.1.1, e1, h3, m1, k1, n1, QB, b2i_0, not_true, if_false]
        rw [if_neg (by rw [e0]; exact h0)]
      by_cases hw0 : w = 0
      · rw [if_pos hw0] at hc hm
        exact ⟨_, I2, I4, hc, hm, h2.q Kc.refl (f3.trans k2.m).kr⟩
      · rw [if_neg hw0] at hc hm
        exact ⟨_, I2, I5, hc, hm, h2.q Kc.refl ((f3.trans k2.m).trans n2.m).kr⟩
    · have h3' : isu w 1 = false := by simpa using h3
      refine ⟨-1, I, I, ?_, ?_, h⟩
      · rw [hw1, Classical.not_not] at h3
        simp only [x10_nearest, ct]
        rw [if_neg (by rw [e0]; exact h0)]
        rcases h3 with g | g
        · rw [if_pos g]
        · by_cases h0 : w < 0
          · rw [if_pos h0]
          · rw [if_neg h0, if_pos g]
      · simp only [x11_nearest, mt I h.2.2.1.1, e1, h3', QB, b2i_0]
        rw [if_neg (by rw [e0]; exact h0)]
        simp
end OP
