/-! CALLS, 1: who there is; what is told of apples and bobbers -/
def isn (p : Int32) (n : Nat) : Bool := decide (¬ p < 0) && decide (p < Int32.ofNat n)
theorem isn_t {p : Int32} {n : Nat} (hn : n < 2147483648) (h : isn p n = true) : ∃ k, k < n ∧ p = Int32.ofNat k := by
  simp only [isn, Bool.and_eq_true, decide_eq_true_eq] at h
  exact exn h.1 h.2 hn
theorem isn_n {k n : Nat} (hn : n < 2147483648) (hk : k < n) : isn (Int32.ofNat k) n = true := by
  simp only [isn, q_neg (show k < 2147483648 by omega), q_lt (show k < 2147483648 by omega) hn, hk]; rfl
theorem isn_in {p : Int32} {n : Nat} (hn : n < 2147483648) : decide ((0 : Int32) ≤ p ∧ p ≤ Int32.ofNat n - 1) = isn p n := by
  simp only [isn, q_lpre hn, ← Int32.not_lt]
  by_cases h1 : p < 0 <;> by_cases h2 : p < Int32.ofNat n <;> simp [h1, h2]
theorem isn_c (p : Int32) (n : Nat) : (if p < 0 then some (0 : Int32) else if p < Int32.ofNat n then some 1 else some 0) = some (b2i (isn p n)) := by
  by_cases h1 : p < 0 <;> by_cases h2 : p < Int32.ofNat n <;> simp [isn, h1, h2, b2i]
/-- small numbers -/
def isu (p : Int32) (n : Nat) : Bool := isn p (n + 1)
theorem isu_in {p : Int32} {n : Nat} (hn : n < 2147483647) : decide ((0 : Int32) ≤ p ∧ p ≤ Int32.ofNat n) = isu p n := by
  rw [isu, ← isn_in (by omega), q_ps]
theorem isu_c {p : Int32} {n : Nat} (hn : n < 2147483647) : (isu p n = true) = ¬ (p < 0 ∨ Int32.ofNat n < p) := by
  rw [← isu_in hn]
  simp only [decide_eq_true_eq, not_or, Int32.not_lt]
section OP
variable {t : Nat} {I : MI} {L : ML} {R : MR} {S : MS} {D : TD} {C : TC} {P : PR} {Z : AX}
theorem c_isA (hD : OkD D C) (hT : Td I t D C) (p : Int32) : x10_isApple t p I = some (b2i (isn p (nA D))) := by
  rw [x10_isApple, hT.1.2.2.2.2.1, hD.2.1.1.1, isn_c]
theorem c_isB (hD : OkD D C) (hT : Td I t D C) (p : Int32) : x10_isBobber t p I = some (b2i (isn p (nB D))) := by
  rw [x10_isBobber, hT.1.2.2.2.2.2.1, hD.2.1.2.1.1, isn_c]
theorem c_isR (hD : OkD D C) (hT : Td I t D C) (p : Int32) : x10_isRule t p I = some (b2i (isn p (nR D))) := by
  rw [x10_isRule, hT.1.2.2.2.2.2.2, hD.2.1.2.2.1, isn_c]
theorem c_isK (p : Int32) : x10_isKind p I = some (b2i (isn p 5)) := by
  rw [x10_isKind]; exact isn_c p 5
theorem m_isA (hD : OkD D C) (hR : Rd I D C) (p : Int32) : x11_isApple p I = some (b2i (isn p (nA D))) := by
  have := hD.a
  simp only [x11_isApple, m_isIn, QB, hR.1.2.2.2.1, hD.2.1.1.1, isn_in (n := nA D) (by omega), b2i_or]
theorem m_isB (hD : OkD D C) (hR : Rd I D C) (p : Int32) : x11_isBobber p I = some (b2i (isn p (nB D))) := by
  have := hD.b
  simp only [x11_isBobber, m_isIn, QB, hR.1.2.2.2.2.1, hD.2.1.2.1.1, isn_in (n := nB D) (by omega), b2i_or]
theorem m_isR (hD : OkD D C) (hR : Rd I D C) (p : Int32) : x11_isRule p I = some (b2i (isn p (nR D))) := by
  have := hD.r
  simp only [x11_isRule, m_isIn, QB, hR.1.2.2.2.2.2, hD.2.1.2.2.1, isn_in (n := nR D) (by omega), b2i_or]
theorem m_isu (p : Int32) (n : Nat) (hn : n < 2147483647) : x11_isIn p 0 (Int32.ofNat n) I = some (b2i (isu p n)) := by
  rw [m_isIn, isu_in hn]
/-! the told things -/
theorem op_fault (h : INV t I L R S D C P Z) (p : Int32) : ∃ r, x10_fault p I = some r ∧ x11_fault p I = some r := by
  obtain ⟨-, hc, hm, -, -⟩ := h
  simp only [x10_fault, x11_fault, hc.2.2.2.1.1, hc.2.2.2.1.2, hm.2.2.2.1.1, hm.2.2.2.1.2]
  by_cases h0 : p = 0
  · exact ⟨zF Z, by simp [h0], by simp [h0]⟩
  · by_cases h1 : p = 1
    · exact ⟨zG Z, by simp [h1], by simp [h1]⟩
    · exact ⟨-1, by simp [h0, h1], by simp [h0, h1]⟩
theorem op_apple (h : INV t I L R S D C P Z) (p w : Int32) : ∃ r, x10_apple t p w I = some r ∧ x11_apple p w I = some r := by
  obtain ⟨-, hc, hm, ha, -⟩ := h
  have hD := ha.1
  have hA := hD.a
  simp only [x10_apple, x11_apple, c_isA hD hc.1, m_isA hD hm.1, QB, b2i_0]
  by_cases h1 : isn p (nA D) = true
  · obtain ⟨a, ha', rfl⟩ := isn_t (by omega) h1
    have e4 : x11_isIn w 0 4 I = some (b2i (isu w 4)) := m_isu w 4 (by omega)
    simp only [h1, if_true, e4, QB, b2i_0]
    have r1 := hc.2.1.1 a ha'
    have r2 := (hc.2.1.2.2.2 rfl).1 a ha'
    simp only [show 47 + 1 = 48 from rfl, show 47 + 2 = 49 from rfl, show 47 + 3 = 50 from rfl, show 47 + 4 = 51 from rfl, show 47 + 5 = 52 from rfl] at r1 r2
    by_cases h2 : isu w 4 = true
    · obtain ⟨k, hk, rfl⟩ := isn_t (by omega) h2
      have hk5 : k = 0 ∨ k = 1 ∨ k = 2 ∨ k = 3 ∨ k = 4 := by omega
      simp only [h2, if_true]
      refine ⟨P (5 * a + k), ?_, ?_⟩
      · rcases hk5 with rfl | rfl | rfl | rfl | rfl <;> simp (disch := omega) only [QB, QN, r1.1, r1.2.1, r1.2.2.2.1, r1.2.2.2.2, r2] <;> simp
      · simp (disch := omega) only [QB, QN, hm.2.1.1]
    · have h2' : isu w 4 = false := by simpa using h2
      refine ⟨-2, ?_, by simp [h2']⟩
      have hne : ∀ k, k < 5 → w ≠ Int32.ofNat k := fun k hk e => h2 (by rw [e]; exact isn_n (by omega) hk)
      rw [if_neg (show ¬ w = 0 from hne 0 (by omega)), if_neg (show ¬ w = 1 from hne 1 (by omega)), if_neg (show ¬ w = 2 from hne 2 (by omega)), if_neg (show ¬ w = 3 from hne 3 (by omega)), if_neg (show ¬ w = 4 from hne 4 (by omega))]
  · have h1' : isn p (nA D) = false := by simpa using h1
    exact ⟨-2, by simp [h1'], by simp [h1']⟩
theorem op_bobber (h : INV t I L R S D C P Z) (p w : Int32) : ∃ r, x10_bobber t p w I = some r ∧ x11_bobber p w I = some r := by
  obtain ⟨-, hc, hm, ha, -⟩ := h
  have hD := ha.1
  have hB := hD.b
  simp only [x10_bobber, x11_bobber, c_isB hD hc.1, m_isB hD hm.1, QB, b2i_0]
  by_cases h1 : isn p (nB D) = true
  · obtain ⟨b, hb, rfl⟩ := isn_t (by omega) h1
    have e4 : x11_isIn w 0 2 I = some (b2i (isu w 2)) := m_isu w 2 (by omega)
    simp only [h1, if_true, e4, QB, b2i_0]
    have r1 := hc.2.1.2.1 b hb
    have r2 := (hc.2.1.2.2.2 rfl).2.1 b hb
    simp only [show 47 + 8 = 55 from rfl, show 47 + 9 = 56 from rfl, show 47 + 10 = 57 from rfl] at r1 r2
    by_cases h2 : isu w 2 = true
    · obtain ⟨k, hk, rfl⟩ := isn_t (by omega) h2
      have hk5 : k = 0 ∨ k = 1 ∨ k = 2 := by omega
      simp only [h2, if_true]
      refine ⟨P (50 + 3 * b + k), ?_, ?_⟩
      · rcases hk5 with rfl | rfl | rfl <;> simp (disch := omega) only [QB, QN, r1.2.2, r2.1, r2.2]
        · simp
        · rw [show 50 + 3 * b + 1 = 51 + 3 * b by omega]; simp
        · rw [show 50 + 3 * b + 2 = 52 + 3 * b by omega]; simp
      · simp (disch := omega) only [QB, QN, hm.2.1.1]
    · have h2' : isu w 2 = false := by simpa using h2
      refine ⟨-1, ?_, by simp [h2']⟩
      have hne : ∀ k, k < 3 → w ≠ Int32.ofNat k := fun k hk e => h2 (by rw [e]; exact isn_n (by omega) hk)
      rw [if_neg (show ¬ w = 0 from hne 0 (by omega)), if_neg (show ¬ w = 1 from hne 1 (by omega)), if_neg (show ¬ w = 2 from hne 2 (by omega))]
  · have h1' : isn p (nB D) = false := by simpa using h1
    exact ⟨-1, by simp [h1'], by simp [h1']⟩
theorem op_record (h : INV t I L R S D C P Z) (p k w : Int32) : ∃ r, x10_record t p k w I = some r ∧ x11_record p k w I = some r := by
  obtain ⟨-, hc, hm, ha, -⟩ := h
  have hD := ha.1
  have hB := hD.b
  have e4 : x11_isIn k 0 4 I = some (b2i (isu k 4)) := m_isu k 4 (by omega)
  have e2 : x11_isIn w 0 2 I = some (b2i (isu w 2)) := m_isu w 2 (by omega)
  simp only [x10_record, x11_record, c_isB hD hc.1, m_isB hD hm.1, c_isK, e4, e2, QB, b2i_0]
  by_cases h1 : isn p (nB D) = true
  · by_cases h2 : isn k 5 = true
    · have hw : (if w < 0 then (0 : Int32) else if w < 3 then 1 else 0) = b2i (isu w 2) := by
        have := isn_c w 3
        simp only [q_si] at this
        exact Option.some.inj this
      by_cases h3 : isu w 2 = true
      · obtain ⟨b, hb, rfl⟩ := isn_t (by omega) h1
        obtain ⟨kk, hk, rfl⟩ := isn_t (by omega) h2
        obtain ⟨j, hj, rfl⟩ := isn_t (by omega) h3
        have r := (hc.2.1.2.2.2 rfl).2.2 b (3 * kk + j) hb (by omega)
        have h2' : isu (Int32.ofNat kk) 4 = true := h2
        rw [show 47 + 11 = 58 from rfl, show 15 * b + (3 * kk + j) = (b * 5 + kk) * 3 + j by omega, show 63 + 15 * b + (3 * kk + j) = 63 + 15 * b + 3 * kk + j by omega] at r
        refine ⟨P (63 + 15 * b + 3 * kk + j), ?_, ?_⟩
        · simp only [h1, h2, if_true]
          simp (disch := omega) only [QB, QN, x7_recordAt, if_false, if_pos (show j < 3 by omega), r]
        · simp only [h1, h2', h3, if_true]
          simp (disch := omega) only [QB, QN, hm.2.1.1]
      · have h3' : isu w 2 = false := by simpa using h3
        refine ⟨-1, ?_, ?_⟩
        · simp only [h1, h2, if_true]
          rw [h3'] at hw
          by_cases g1 : w < 0
          · simp [g1]
          · by_cases g2 : w < 3
            · simp [g1, g2, b2i] at hw
            · simp [g1, g2]
        · have h2' : isu k 4 = true := h2
          simp [h1, h2', h3']
    · have h2' : isn k 5 = false := by simpa using h2
      have h2'' : isu k 4 = false := h2'
      exact ⟨-1, by simp [h1, h2'], by simp [h1, h2'']⟩
  · have h1' : isn p (nB D) = false := by simpa using h1
    exact ⟨-1, by simp [h1'], by simp [h1']⟩
end OP
