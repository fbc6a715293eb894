/-! CALLS, 18: which rules the picks fit, which is nearest -/
/-- a pick that this rule wouldn't have taken -/
def smi (D : TD) (C : TC) (Z : AX) (r : Nat) (p : Int32) (w : Nat) : Bool := kn Z w p && !decide (wi (swt D C (pkb Z w) (pks Z w) r (nA D)) = zK Z 2 w)
def smf (D : TD) (C : TC) (Z : AX) (r : Nat) (p : Int32) : Nat → Nat
  | 0 => 0
  | n + 1 => smf D C Z r p n + if smi D C Z r p n = true then 1 else 0
theorem smf_le {D : TD} {C : TC} {Z : AX} {r : Nat} {p : Int32} : ∀ n, smf D C Z r p n ≤ n
  | 0 => Nat.le_refl _
  | n + 1 => by
    have := smf_le (D := D) (C := C) (Z := Z) (r := r) (p := p) n
    simp only [smf]
    split <;> omega
def sfi (D : TD) (C : TC) (Z : AX) (p : Int32) : Nat → Nat
  | 0 => 0
  | n + 1 => if smf D C Z n p (zP Z) = 0 then sfi D C Z p n ||| 2 ^ n else sfi D C Z p n
theorem sfi_lt {D : TD} {C : TC} {Z : AX} {p : Int32} : ∀ n, sfi D C Z p n < 2 ^ n
  | 0 => by simp [sfi]
  | n + 1 => by
    have h := sfi_lt (D := D) (C := C) (Z := Z) (p := p) n
    simp only [sfi]
    split
    · exact or_lt h
    · rw [Nat.pow_succ]; omega
def sne (D : TD) (C : TC) (Z : AX) (p : Int32) : Nat → Nat
  | 0 => 0
  | n + 1 => if smf D C Z (n + 1) p (zP Z) < smf D C Z (sne D C Z p n) p (zP Z) then n + 1 else sne D C Z p n
theorem sne_le {D : TD} {C : TC} {Z : AX} {p : Int32} : ∀ n, sne D C Z p n ≤ n
  | 0 => Nat.le_refl _
  | n + 1 => by
    have := sne_le (D := D) (C := C) (Z := Z) (p := p) n
    simp only [sne]
    split <;> omega
section OP
variable {t : Nat} {I : MI} {L : ML} {R : MR} {S : MS} {D : TD} {C : TC} {P Q : PR} {Z : AX}
theorem c_mfL {r : Nat} {p : Int32} (ht : isT t) (hD : OkD D C) (ha : AI D C P Z) (hr : r < nR D) : ∀ (j w n : Nat) (I : MI), w + j = zP Z → j < n → Td I t D C → PC I Z → ∃ I', x4_misfits_L5 t (Int32.ofNat r) p n (Int32.ofNat (smf D C Z r p w)) (Int32.ofNat w) I = some (Int32.ofNat (smf D C Z r p (zP Z)), I') ∧ Ft t I I' := by
  have h30 := ha.2.2.2.2.2.2.1.1
  intro j
  induction j with
  | zero =>
    intro w n I hw hn hT hP
    obtain ⟨n, rfl⟩ : ∃ n', n = n' + 1 := ⟨n - 1, by omega⟩
    obtain rfl : w = zP Z := by omega
    refine ⟨I, ?_, Ft.refl⟩
    simp (disch := omega) only [x4_misfits_L5, x4_misfits_L5s, hP.1, QN]
    simp
  | succ j ih =>
    intro w n I hw hn hT hP
    obtain ⟨n, rfl⟩ : ∃ n', n = n' + 1 := ⟨n - 1, by omega⟩
    have hwz : w < zP Z := by omega
    obtain ⟨s1, s2⟩ := pks_ok ha hwz
    obtain ⟨t1, t2⟩ := pkb_ok ha hwz
    have p0 := hP.2 w 0 hwz (by omega)
    have p1 := hP.2 w 1 hwz (by omega)
    have p2 := hP.2 w 2 hwz (by omega)
    rw [show 84 + 0 = 84 from rfl, t1] at p0
    rw [show 84 + 1 = 85 from rfl, s1] at p1
    rw [show 84 + 2 = 86 from rfl] at p2
    simp (disch := omega) only [x4_misfits_L5, x4_misfits_L5s, hP.1, QN, QB, if_pos hwz, c_kn' hP ha hwz p, b2i_0, p0, p1, p2]
    by_cases g : kn Z w p = true
    · obtain ⟨I1, c1, c2⟩ := c_wt (C := C) ht hD t2 s2 hr hT (zK Z 2 w)
      obtain ⟨I2, k1, k2⟩ := ih (w + 1) n I1 (by omega) (by omega) (c2.td ht hT) (hP.fr ht c2)
      refine ⟨I2, ?_, c2.trans k2⟩
      simp only [smf, smi, g, Bool.true_and] at k1
      simp only [g, if_true, c1, QB, b2i_0]
      by_cases g2 : wi (swt D C (pkb Z w) (pks Z w) r (nA D)) = zK Z 2 w
      · simp only [g2, decide_true, if_true, Bool.not_true, Bool.false_eq_true, if_false, Nat.add_zero] at k1 ⊢; exact k1
      · simp only [g2, decide_false, Bool.false_eq_true, if_false, Bool.not_false, if_true] at k1 ⊢; exact k1
    · have g' : kn Z w p = false := by simpa using g
      obtain ⟨I2, k1, k2⟩ := ih (w + 1) n I (by omega) (by omega) hT hP
      refine ⟨I2, ?_, k2⟩
      simp only [smf, smi, g', Bool.false_and, Bool.false_eq_true, if_false, Nat.add_zero] at k1
      simp only [g', Bool.false_eq_true, if_false]; exact k1
theorem c_mf {r : Nat} (ht : isT t) (hD : OkD D C) (ha : AI D C P Z) (hr : r < nR D) (hT : Td I t D C) (hP : PC I Z) (p : Int32) : ∃ I', x4_misfits t (Int32.ofNat r) p I = some (Int32.ofNat (smf D C Z r p (zP Z)), I') ∧ Ft t I I' := by
  have h30 := ha.2.2.2.2.2.2.1.1
  obtain ⟨I2, k1, k2⟩ := c_mfL (p := p) ht hD ha hr (zP Z) 0 FU I (by omega) (by unfold FU; omega) hT hP
  rw [show smf D C Z r p 0 = 0 from rfl, show Int32.ofNat 0 = 0 from rfl] at k1
  exact ⟨I2, by simp only [x4_misfits, QB, k1], k2⟩
theorem m_mfL {r : Nat} {p : Int32} (hD : OkD D C) (ha : AI D C P Z) (hr : r < nR D) (hQ : Pt D Q) : ∀ (j w n : Nat) (I : MI), w + j = zP Z → j < n → Rd I D C → Wr I Q → PM I Z → ∃ I', x11_falseBy_L5 (Int32.ofNat r) p n (Int32.ofNat (smf D C Z r p w)) (Int32.ofNat w) I = some (Int32.ofNat (smf D C Z r p (zP Z)), I') ∧ Fq I I' := by
  have h30 := ha.2.2.2.2.2.2.1.1
  intro j
  induction j with
  | zero =>
    intro w n I hw hn hR hW hP
    obtain ⟨n, rfl⟩ : ∃ n', n = n' + 1 := ⟨n - 1, by omega⟩
    obtain rfl : w = zP Z := by omega
    refine ⟨I, ?_, Fq.refl⟩
    simp (disch := omega) only [x11_falseBy_L5, x11_falseBy_L5s, hP.1, QN]
    simp
  | succ j ih =>
    intro w n I hw hn hR hW hP
    obtain ⟨n, rfl⟩ : ∃ n', n = n' + 1 := ⟨n - 1, by omega⟩
    have hwz : w < zP Z := by omega
    have hz : ∀ x : Int32, x + 0 = x := fun x => Int32.add_zero x
    simp (disch := omega) only [x11_falseBy_L5, x11_falseBy_L5s, hP.1, QN, QB, if_pos hwz, m_kn' hP ha hwz p, b2i_0, hz]
    by_cases g : kn Z w p = true
    · obtain ⟨I1, c1, c2⟩ := m_wt hD ha hwz hr hQ hR hW hP
      have hP1 := hP.fr c2.m
      obtain ⟨I2, k1, k2⟩ := ih (w + 1) n I1 (by omega) (by omega) (c2.m.rd hR) (c2.wr hW) hP1
      refine ⟨I2, ?_, c2.trans k2⟩
      have p2 := hP1.2 w 2 hwz (by omega)
      rw [show 151 + 2 = 153 from rfl] at p2
      simp only [smf, smi, g, Bool.true_and] at k1
      simp only [g, if_true, c1, QB, p2]
      by_cases g2 : wi (swt D C (pkb Z w) (pks Z w) r (nA D)) = zK Z 2 w
      · simp only [g2, decide_true, if_true, Bool.not_true, Bool.false_eq_true, if_false, Nat.add_zero] at k1 ⊢; exact k1
      · simp only [g2, decide_false, Bool.false_eq_true, if_false, Bool.not_false, if_true] at k1 ⊢; exact k1
    · have g' : kn Z w p = false := by simpa using g
      obtain ⟨I2, k1, k2⟩ := ih (w + 1) n I (by omega) (by omega) hR hW hP
      refine ⟨I2, ?_, k2⟩
      simp only [smf, smi, g', Bool.false_and, Bool.false_eq_true, if_false, Nat.add_zero] at k1
      simp only [g', Bool.false_eq_true, if_false]; exact k1
theorem m_mf {r : Nat} (hD : OkD D C) (ha : AI D C P Z) (hr : r < nR D) (hQ : Pt D Q) (hR : Rd I D C) (hW : Wr I Q) (hP : PM I Z) (p : Int32) : ∃ I', x11_falseBy (Int32.ofNat r) p I = some (Int32.ofNat (smf D C Z r p (zP Z)), I') ∧ Fq I I' := by
  have h30 := ha.2.2.2.2.2.2.1.1
  obtain ⟨I2, k1, k2⟩ := m_mfL (p := p) hD ha hr hQ (zP Z) 0 FU I (by omega) (by unfold FU; omega) hR hW hP
  rw [show smf D C Z r p 0 = 0 from rfl, show Int32.ofNat 0 = 0 from rfl] at k1
  exact ⟨I2, by simp only [x11_falseBy, QB, k1], k2⟩
/-- the reference's flag: none so far that wouldn't have been taken -/
def sfl01 (D : TD) (C : TC) (Z : AX) (r : Nat) (p : Int32) (w : Nat) : Int32 := if smf D C Z r p w = 0 then 1 else 0
theorem m_fitL {r : Nat} {p : Int32} (hD : OkD D C) (ha : AI D C P Z) (hr : r < nR D) (hQ : Pt D Q) : ∀ (j w n : Nat) (I : MI), w + j = zP Z → j < n → Rd I D C → Wr I Q → PM I Z → ∃ I', x11_fits_L22 p (Int32.ofNat r) n (sfl01 D C Z r p w) (Int32.ofNat w) I = some (sfl01 D C Z r p (zP Z), I') ∧ Fq I I' := by
  have h30 := ha.2.2.2.2.2.2.1.1
  intro j
  induction j with
  | zero =>
    intro w n I hw hn hR hW hP
    obtain ⟨n, rfl⟩ : ∃ n', n = n' + 1 := ⟨n - 1, by omega⟩
    obtain rfl : w = zP Z := by omega
    refine ⟨I, ?_, Fq.refl⟩
    simp (disch := omega) only [x11_fits_L22, x11_fits_L22s, hP.1, QN]
    simp
  | succ j ih =>
    intro w n I hw hn hR hW hP
    obtain ⟨n, rfl⟩ : ∃ n', n = n' + 1 := ⟨n - 1, by omega⟩
    have hwz : w < zP Z := by omega
    simp (disch := omega) only [x11_fits_L22, x11_fits_L22s, hP.1, QN, QB, if_pos hwz, m_kn' hP ha hwz p, b2i_0]
    by_cases g0 : smf D C Z r p w = 0
    · have e0 : sfl01 D C Z r p w = 1 := by simp only [sfl01, g0, if_true]
      simp only [e0, show ((1 : Int32) = 0) = False from eq_false (by decide), if_false]
      by_cases g : kn Z w p = true
      · obtain ⟨I1, c1, c2⟩ := m_wt hD ha hwz hr hQ hR hW hP
        have hP1 := hP.fr c2.m
        obtain ⟨I2, k1, k2⟩ := ih (w + 1) n I1 (by omega) (by omega) (c2.m.rd hR) (c2.wr hW) hP1
        refine ⟨I2, ?_, c2.trans k2⟩
        have p2 := hP1.2 w 2 hwz (by omega)
        rw [show 151 + 2 = 153 from rfl] at p2
        simp only [sfl01, smf, smi, g, Bool.true_and, g0, Nat.zero_add] at k1
        simp only [g, if_true, c1, QB, p2]
        by_cases g2 : wi (swt D C (pkb Z w) (pks Z w) r (nA D)) = zK Z 2 w
        · simp only [g2, decide_true, if_true, Bool.not_true, Bool.false_eq_true, if_false] at k1 ⊢; exact k1
        · simp only [g2, decide_false, Bool.false_eq_true, if_false, Bool.not_false, if_true, show (1 = 0) = False from eq_false (by omega)] at k1 ⊢; exact k1
      · have g' : kn Z w p = false := by simpa using g
        obtain ⟨I2, k1, k2⟩ := ih (w + 1) n I (by omega) (by omega) hR hW hP
        refine ⟨I2, ?_, k2⟩
        simp only [sfl01, smf, smi, g', Bool.false_and, Bool.false_eq_true, if_false, Nat.add_zero, g0, if_true] at k1
        simp only [g', Bool.false_eq_true, if_false]; exact k1
    · have e0 : sfl01 D C Z r p w = 0 := by simp only [sfl01, g0, if_false]
      obtain ⟨I2, k1, k2⟩ := ih (w + 1) n I (by omega) (by omega) hR hW hP
      refine ⟨I2, ?_, k2⟩
      have hge : ¬ smf D C Z r p (w + 1) = 0 := by
        have : smf D C Z r p w ≤ smf D C Z r p (w + 1) := Nat.le_add_right _ _
        omega
      have e1 : sfl01 D C Z r p (w + 1) = 0 := if_neg hge
      rw [e1] at k1
      simp only [e0, if_true]; exact k1
end OP
