/-! CALLS, 13: picks taken back -/
section OP
variable {t : Nat} {I : MI} {L : ML} {R : MR} {S : MS} {D : TD} {C : TC} {P : PR} {Z : AX}
theorem op_untell (h : INV t I L R S D C P Z) (p : Int32) : ∃ r I1 I2 Z', x10_untell p I = some (r, I1) ∧ x11_untell p I1 = some (r, I2) ∧ INV t I2 L R S D C P Z' := by
  obtain ⟨hS, hc, hm, ha, hw⟩ := id h
  have c7 := hc.2.2.2.2.2.2.1
  have m7 := hm.2.2.2.2.2.2.1
  have hpk := ha.2.2.2.2.2.2.1
  have hM := ha.2.2.2.2.1
  have c5 := hc.2.2.2.2.1
  have m5 := hm.2.2.2.2.1
  have hp30 := hpk.1
  by_cases h1 : isn p (zP Z) = true
  · obtain ⟨i, hi, rfl⟩ := isn_t (by omega) h1
    have ci := c7.2 i 4 hi (by omega)
    have mi := m7.2 i 4 hi (by omega)
    rw [show 84 + 4 = 88 from rfl] at ci
    rw [show 151 + 4 = 155 from rfl] at mi
    have e := isn_in (p := Int32.ofNat i) (n := zP Z) (by omega)
    rw [h1] at e
    rcases (hpk.2 i hi).2.2.2.2 with z | ⟨u, hu, z⟩
    · rw [z] at ci mi
      have hpk2 := hpk.2
      refine ⟨1, wI I 88 i (Int32.ofNat (zM Z)), wI (wI I 88 i (Int32.ofNat (zM Z))) 155 i (Int32.ofNat (zM Z)), zset Z (zN Z) (zT Z) (zM Z) (zL' Z) (zP Z) (fun j k => if j = 4 ∧ k = i then Int32.ofNat (zM Z) else zK Z j k), ?_, ?_, h.mod ?_ ?_ ha.2.2.2.1 hM ha.2.2.2.2.2.1 ⟨hp30, fun k hk => ?_⟩ ?_ ?_ ?_ ?_ ?_ ?_ ?_ ?_⟩
      · simp (disch := omega) only [x10_untell, x4_takeBack, c7.1, QN, QB, hi, if_true, q_neg, if_false, ci, c5]
        exact ck_pos (Or.inr trivial)
      · have m91 : wI I 88 i (Int32.ofNat (zM Z)) 102 91 = Int32.ofNat (zP Z) := by rw [wI_c (by omega)]; exact m7.1
        have m92 : wI I 88 i (Int32.ofNat (zM Z)) 102 92 = Int32.ofNat (zM Z) := by rw [wI_c (by omega)]; exact m5
        have m4 : wI I 88 i (Int32.ofNat (zM Z)) 155 i = -1 := by rw [wI_c (by omega)]; exact mi
        rw [x11_untell, m91, m_isIn, e]
        simp (disch := omega) only [b2i_0, QB, not_true, if_false, QN, m4, m92]
        rw [if_pos (show (-1 : Int32) < 0 by decide)]
      · intro c hc; rw [wI_c (by unfold zce at hc; omega), wI_c (by unfold zce at hc; omega)]
      · intro j _ _ _ _ _ _ _; rw [wI_ne (by omega), wI_ne (by omega)]
      · obtain ⟨q1, q2, q3, q4, q5⟩ := hpk2 k hk
        refine ⟨q1, q2, q3, q4, ?_⟩
        by_cases ek : k = i
        · exact Or.inr ⟨zM Z, hM, if_pos ⟨rfl, ek⟩⟩
        · have e4 : (if 4 = 4 ∧ k = i then Int32.ofNat (zM Z) else zK Z 4 k) = zK Z 4 k := if_neg (fun g => ek g.2)
          show (if 4 = 4 ∧ k = i then Int32.ofNat (zM Z) else zK Z 4 k) = -1 ∨ ∃ u, u ≤ 100000 ∧ (if 4 = 4 ∧ k = i then Int32.ofNat (zM Z) else zK Z 4 k) = Int32.ofNat u
          rw [e4]; exact q5
      · refine ⟨?_, fun i hi => ?_⟩
        · rw [wI_ne (by omega), wI_ne (by omega)]; exact hc.2.2.1.1
        · rw [wI_ne (by omega), wI_ne (by omega)]; exact hc.2.2.1.2 i hi
      · rw [wI_ne (by omega), wI_ne (by omega)]; exact c5
      · refine ⟨?_, fun i hi => ?_⟩
        · rw [wI_ne (by omega), wI_ne (by omega)]; exact hc.2.2.2.2.2.1.1
        · rw [wI_ne (by omega), wI_ne (by omega)]; exact hc.2.2.2.2.2.1.2 i hi
      · refine ⟨?_, fun k j hk hj => ?_⟩
        · rw [wI_ne (by omega), wI_ne (by omega)]; exact c7.1
        · rw [wI_ne (by omega)]
          by_cases ek : j = 4 ∧ k = i
          · rw [if_pos ek, ek.1, ek.2, show 84 + 4 = 88 from rfl, wI_at]
          · rw [if_neg ek, wI_ne (by omega)]; exact c7.2 k j hk hj
      · refine ⟨?_, fun i hi => ?_⟩
        · rw [wI_ne (by omega), wI_ne (by omega)]; exact hm.2.2.1.1
        · rw [wI_ne (by omega), wI_ne (by omega)]; exact hm.2.2.1.2 i hi
      · rw [wI_ne (by omega), wI_ne (by omega)]; exact m5
      · refine ⟨?_, fun i hi => ?_⟩
        · rw [wI_ne (by omega), wI_ne (by omega)]; exact hm.2.2.2.2.2.1.1
        · rw [wI_ne (by omega), wI_ne (by omega)]; exact hm.2.2.2.2.2.1.2 i hi
      · refine ⟨?_, fun k j hk hj => ?_⟩
        · rw [wI_ne (by omega), wI_ne (by omega)]; exact m7.1
        · by_cases ek : j = 4 ∧ k = i
          · rw [if_pos ek, ek.1, ek.2, show 151 + 4 = 155 from rfl, wI_at]
          · rw [if_neg ek, wI_ne (by omega), wI_ne (by omega)]; exact m7.2 k j hk hj
    · rw [z] at ci mi
      refine ⟨0, I, I, Z, ?_, ?_, h⟩
      · simp (disch := omega) only [x10_untell, x4_takeBack, c7.1, QN, QB, hi, if_true, q_neg, if_false, ci]
        exact ck_pos (Or.inl trivial)
      · rw [x11_untell, m7.1, m_isIn, e]
        simp (disch := omega) only [b2i_0, QB, not_true, if_false, QN, mi, q_neg]
  · have h1' : isn p (zP Z) = false := by simpa using h1
    refine ⟨0, I, I, Z, ?_, ?_, h⟩
    · simp only [x10_untell, x4_takeBack, c7.1]
      by_cases h0 : p < 0
      · rw [if_pos h0]; simp only [QB]; exact ck_pos (Or.inl trivial)
      · rw [if_neg h0, if_neg]
        · simp only [QB]; exact ck_pos (Or.inl trivial)
        · intro h2
          exact h1 (by simp only [isn, Bool.and_eq_true, decide_eq_true_eq]; exact ⟨h0, h2⟩)
    · have e := isn_in (p := p) (n := zP Z) (by omega)
      rw [h1'] at e
      rw [x11_untell, m7.1, m_isIn, e]
      simp only [b2i_0, QB]
      simp
end OP
