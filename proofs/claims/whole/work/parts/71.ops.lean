/-! CALLS, 30: go, breathe, wave, party -/
def spar (D : TD) (C : TC) (P : PR) : Nat → Int32 × PR
  | 0 => (0, P)
  | n + 1 => ((spar D C P n).1 + (sall D C (nB D) (spar D C P n).2).1, (sall D C (nB D) (spar D C P n).2).2)
section OP
variable {t : Nat} {I : MI} {L : ML} {R : MR} {S : MS} {D : TD} {C : TC} {P : PR} {Z : AX}
theorem op_go (h : INV t I L R S D C P Z) (p a k : Int32) : ∃ r I1 L1 R1 S1 I2 P' Z', x10_go p a k I L R S = some (r, I1, L1, R1, S1) ∧ x11_go p a k I1 = some (r, I2) ∧ INV t I2 L1 R1 S1 D C P' Z' ∧ Gr R S R1 S1 := by
  obtain ⟨I1, c1, c2⟩ := c_may h p a k
  have hS := h.1
  have hD := h.2.2.2.1.1
  have hA := hD.a
  have hB := hD.b
  have hP := h.2.2.2.1.2.1
  have h1 := h.q (c2.kc hS) Kr.refl
  by_cases hs : smay D P p a k = true
  · obtain ⟨b, a', k', hb, ha', hk', rfl, rfl, rfl, hsc⟩ := smay_t hD hs
    obtain ⟨I2, c3, c4, c5⟩ := c_try (C := C) hD h1.2.1.1 h1.2.1.2.1 hP hS.sq hb ha' hk' (scan_fl hsc)
    obtain ⟨I3, L', R', S', k1, k2, k3, k4, k5, k6, k7⟩ := h1.keep (hP.trye hD hb ha' hk') (SK.trye hA hB hb ha' hk' SK.refl) c4 c5
    obtain ⟨J0, m1, m2, m3⟩ := m_may hD k5 k6 (Int32.ofNat b) (Int32.ofNat a') (Int32.ofNat k')
    obtain ⟨J1, n1, n2, n3, n4, n5⟩ := k7 J0 m3
    obtain ⟨J2, o1, o2, o3⟩ := m_tries (C := C) hD n2 (n4 m2) hP hb ha' hk' (scan_fl hsc)
    obtain ⟨J3, Z', u1, u2⟩ := n5 J2 o2 o3
    refine ⟨b2i (stry D C P b a' k').1, I3, L', R', S', J3, _, Z', ?_, ?_, u2, k2⟩
    · simp only [x10_go, ck_pos hS.1, hS.2.2.1, QB, ck_pos hS.2.2.2.1, c1, b2i_0, hs, if_true, c3, k1]
      cases (stry D C P b a' k').1 <;> simp [b2i]
    · simp only [x11_go, m1, QB, b2i_0, hs, if_true, n1, o1, u1]
      cases (stry D C P b a' k').1 <;> simp [b2i]
  · have hs' : smay D P p a k = false := by simpa using hs
    obtain ⟨I3, m1, m2, m3⟩ := m_may hD h1.2.2.1.1 h1.2.2.1.2.1 p a k
    refine ⟨-1, I1, L, R, S, I3, P, Z, ?_, ?_, h1.q Kc.refl m3.kr, Gr.refl⟩
    · simp only [x10_go, ck_pos hS.1, hS.2.2.1, QB, ck_pos hS.2.2.2.1, c1, b2i_0, hs', Bool.false_eq_true, if_false]
    · simp only [x11_go, m1, QB, b2i_0, hs', Bool.false_eq_true, if_false]
theorem op_breathe (h : INV t I L R S D C P Z) (p : Int32) : ∃ r I1 L1 R1 S1 I2 P' Z', x10_breathe p I L R S = some (r, I1, L1, R1, S1) ∧ x11_breathe p I1 = some (r, I2) ∧ INV t I2 L1 R1 S1 D C P' Z' ∧ Gr R S R1 S1 := by
  have hS := h.1
  have hD := h.2.2.2.1.1
  have hA := hD.a
  have hB := hD.b
  have hP := h.2.2.2.1.2.1
  by_cases hs : isn p (nB D) = true
  · obtain ⟨b, hb, rfl⟩ := isn_t (by omega) hs
    obtain ⟨I2, c3, c4, c5⟩ := c_breath hD h.2.1.1 h.2.1.2.1 hb
    obtain ⟨I3, L', R', S', k1, k2, k3, k4, k5, k6, k7⟩ := h.keep (hP.brea hA hB hb) (SK.brea hB hb SK.refl) c4 c5
    obtain ⟨J1, n1, n2, n3, n4, n5⟩ := k7 I3 Fm.refl
    obtain ⟨J2, l1, l2, l3⟩ := m_loadN n3
    have f2 : Fm J1 J2 := Fm.of137 l3
    obtain ⟨J3, o1, o2, o3⟩ := m_breathes hD (f2.rd n2) l2 hb
    obtain ⟨J4, Z', u1, u2⟩ := n5 J3 o2 (f2.trans o3)
    have e55 : I3 55 b = D 10 b := by
      have e := (k4.2.1 b hb).2.2
      rw [show (47 + 8 : Nat) = 55 from rfl] at e
      rw [e, sbrea, upd_ne (by omega), upd_at]
    have e133 : J4 133 b = D 10 b := (u2.2.2.1.1.2.2.1 b hb).2.1
    refine ⟨D 10 b, I3, L', R', S', J4, _, Z', ?_, ?_, u2, k2⟩
    · simp (disch := omega) only [x10_breathe, ck_pos hS.1, hS.2.2.1, QB, QN, ck_pos hS.2.2.2.1, c_isB hD h.2.1.1, b2i_0, hs, if_true, c3, k1, ck_pos k3, e55]
    · simp (disch := omega) only [x11_breathe, m_isB hD k5, QB, QN, b2i_0, hs, if_true, n1, l1, o1, u1, e133]
  · have hs' : isn p (nB D) = false := by simpa using hs
    refine ⟨-1, I, L, R, S, I, P, Z, ?_, ?_, h, Gr.refl⟩
    · simp only [x10_breathe, ck_pos hS.1, hS.2.2.1, QB, ck_pos hS.2.2.2.1, c_isB hD h.2.1.1, b2i_0, hs', Bool.false_eq_true, if_false]
    · simp only [x11_breathe, m_isB hD h.2.2.1.1, QB, b2i_0, hs', Bool.false_eq_true, if_false]
theorem op_wave (h : INV t I L R S D C P Z) (p : Int32) : ∃ r I1 L1 R1 S1 I2 P' Z', x10_wave p I L R S = some (r, I1, L1, R1, S1) ∧ x11_wave p I1 = some (r, I2) ∧ INV t I2 L1 R1 S1 D C P' Z' ∧ Gr R S R1 S1 := by
  have hS := h.1
  have hD := h.2.2.2.1.1
  have hA := hD.a
  have hP := h.2.2.2.1.2.1
  have e3 : ∀ J, x11_isIn p 0 3 J = some (b2i (isu p 3)) := fun J => m_isu p 3 (by omega)
  by_cases hs : isu p 3 = true
  · obtain ⟨s, hs4, rfl⟩ := isn_t (by omega) hs
    obtain ⟨I2, c3, c4, c5⟩ := c_rock hD h.2.1.1 h.2.1.2.1 hP hS.sq hs4
    obtain ⟨I3, L', R', S', k1, k2, k3, k4, k5, k6, k7⟩ := h.keep (OkP.wv hD hs4 5 (0, P) (Nat.le_refl _) hP) (SK.wv hA 5 (0, P) SK.refl) c4 c5
    obtain ⟨J1, n1, n2, n3, n4, n5⟩ := k7 I3 Fm.refl
    obtain ⟨J2, l1, l2, l3⟩ := m_loadN n3
    have f2 : Fm J1 J2 := Fm.of137 l3
    obtain ⟨J3, o1, o2, o3⟩ := m_waves hD (f2.rd n2) l2 hP hs4
    obtain ⟨J4, Z', u1, u2⟩ := n5 J3 o2 (f2.trans o3)
    refine ⟨(swv D s 5 (0, P)).1, I3, L', R', S', J4, _, Z', ?_, ?_, u2, k2⟩
    · simp (disch := omega) only [x10_wave, q_neg, QB, QN, if_pos hs4, if_false, ck_pos hS.1, hS.2.2.1, ck_pos hS.2.2.2.1, c3, k1]
    · simp only [x11_wave, e3, QB, b2i_0, hs, if_true, n1, l1, o1, u1]
  · have hs' : isu p 3 = false := by simpa using hs
    refine ⟨-1, I, L, R, S, I, P, Z, ?_, ?_, h, Gr.refl⟩
    · rw [isu_c (by omega)] at hs
      simp only [x10_wave]
      by_cases h0 : p < 0
      · rw [if_pos h0]
      · rw [if_neg h0, if_neg]
        intro h4
        obtain ⟨s, hs4, rfl⟩ := exn h0 (n := 4) h4 (by omega)
        exact hs (fun hh => by
          rcases hh with hh | hh
          · exact h0 hh
          · rw [q_lt (by omega) (by omega)] at hh; omega)
    · simp only [x11_wave, e3, QB, b2i_0, hs', Bool.false_eq_true, if_false]
theorem OkP.par (hD : OkD D C) (hP : OkP D P) : ∀ n, OkP D (spar D C P n).2
  | 0 => hP
  | n + 1 => (OkP.par hD hP n).all hD _ (Nat.le_refl _)
theorem SK.par {Q : PR} (hA : nA D ≤ 10) (hB : nB D ≤ 4) (h : SK Q P) : ∀ n, SK Q (spar D C P n).2
  | 0 => h
  | n + 1 => SK.all hA hB (SK.par hA hB h n) _ (Nat.le_refl _)
theorem c_parL {N : Nat} (hN : N ≤ 20) (hS : RS t R S) (hD : OkD D C) (hP : OkP D P) : ∀ (j w n : Nat) (I : MI), w + j = N → j < n → Td I t D C → Rl D true I 47 (spar D C P w).2 → ∃ I', x10_party_L16 (Int32.ofNat N) R S n (spar D C P w).1 (Int32.ofNat w) I = some ((spar D C P N).1, I') ∧ Rl D true I' 47 (spar D C P N).2 ∧ Fc t 47 I I' := by
  intro j
  induction j with
  | zero =>
    intro w n I hw hn hT hR
    obtain ⟨n, rfl⟩ : ∃ n', n = n' + 1 := ⟨n - 1, by omega⟩
    obtain rfl : w = N := by omega
    refine ⟨I, ?_, hR, Fc.refl⟩
    simp (disch := omega) only [x10_party_L16, x10_party_L16s, QN]
    rw [if_neg (by omega)]
  | succ j ih =>
    intro w n I hw hn hT hR
    obtain ⟨n, rfl⟩ : ∃ n', n = n' + 1 := ⟨n - 1, by omega⟩
    obtain ⟨I1, a1, a2, a3⟩ := c_all (C := C) hD hT hR (OkP.par hD hP w) hS.sq
    obtain ⟨I2, b1', b2', b3'⟩ := ih (w + 1) n I1 (by omega) (by omega) (hT.fr hS.sq a3) a2
    refine ⟨I2, ?_, b2', a3.trans b3'⟩
    simp (disch := omega) only [x10_party_L16, x10_party_L16s, QN, QB, if_pos (show w < N by omega), ck_pos hS.1, hS.2.2.1, ck_pos hS.2.2.2.1, a1]
    exact b1'
theorem m_parB (hD : OkD D C) (c : Int32) : ∀ (j w n : Nat) (I : MI) (P : PR), w + j = nB D → j < n → Rd I D C → Wr I (sall D C w P).2 → OkP D P → ∃ I', x11_party_L32 n (c + (sall D C w P).1) (Int32.ofNat w) I = some (c + (sall D C (nB D) P).1, I') ∧ Wr I' (sall D C (nB D) P).2 ∧ Fm I I' := by
  have hB := hD.b
  intro j
  induction j with
  | zero =>
    intro w n I P hw hn hR hW hP
    obtain ⟨n, rfl⟩ : ∃ n', n = n' + 1 := ⟨n - 1, by omega⟩
    obtain rfl : w = nB D := by omega
    refine ⟨I, ?_, hW, Fm.refl⟩
    simp (disch := omega) only [x11_party_L32, x11_party_L32s, hR.1.2.2.2.2.1, hD.2.1.2.1.1, QN]
    rw [if_neg (by omega)]
  | succ j ih =>
    intro w n I P hw hn hR hW hP
    obtain ⟨n, rfl⟩ : ∃ n', n = n' + 1 := ⟨n - 1, by omega⟩
    obtain ⟨I1, a1, a2, a3⟩ := m_acts (C := C) hD hR hW (hP.all hD w (by omega)) (show w < nB D by omega) (sby_ok hD (show w < nB D by omega))
    obtain ⟨I2, b1', b2', b3'⟩ := ih (w + 1) n I1 P (by omega) (by omega) (a3.rd hR) a2 hP
    refine ⟨I2, ?_, b2', a3.trans b3'⟩
    have hst : (sall D C (w + 1) P).1 = (sall D C w P).1 + b2i (sturn D C (sall D C w P).2 w (sby D w)).1 := rfl
    rw [hst, ← Int32.add_assoc] at b1'
    simp (disch := omega) only [x11_party_L32, x11_party_L32s, hR.1.2.2.2.2.1, hD.2.1.2.1.1, QN, QB, if_pos (show w < nB D by omega), m_rule hD hR (show w < nB D by omega), a1, b2i_0]
    cases hg : (sturn D C (sall D C w P).2 w (sby D w)).1 with
    | false => rw [hg] at b1'; exact b1'
    | true => rw [hg] at b1'; exact b1'
theorem m_parL {N : Nat} (hN : N ≤ 20) (hD : OkD D C) (hP : OkP D P) : ∀ (j w n : Nat) (I : MI), w + j = N → j < n → Rd I D C → Wr I (spar D C P w).2 → ∃ I', x11_party_L24 (Int32.ofNat N) n (spar D C P w).1 (Int32.ofNat w) I = some ((spar D C P N).1, I') ∧ Wr I' (spar D C P N).2 ∧ Fm I I' := by
  have hB := hD.b
  intro j
  induction j with
  | zero =>
    intro w n I hw hn hR hW
    obtain ⟨n, rfl⟩ : ∃ n', n = n' + 1 := ⟨n - 1, by omega⟩
    obtain rfl : w = N := by omega
    refine ⟨I, ?_, hW, Fm.refl⟩
    simp (disch := omega) only [x11_party_L24, x11_party_L24s, QN]
    rw [if_neg (by omega)]
  | succ j ih =>
    intro w n I hw hn hR hW
    obtain ⟨n, rfl⟩ : ∃ n', n = n' + 1 := ⟨n - 1, by omega⟩
    obtain ⟨I1, a1, a2, a3⟩ := m_parB (C := C) hD (spar D C P w).1 (nB D) 0 FU I (spar D C P w).2 (by omega) (by unfold FU; omega) hR hW (OkP.par hD hP w)
    obtain ⟨I2, b1', b2', b3'⟩ := ih (w + 1) n I1 (by omega) (by omega) (a3.rd hR) a2
    refine ⟨I2, ?_, b2', a3.trans b3'⟩
    rw [show (spar D C P w).1 + (sall D C 0 (spar D C P w).2).1 = (spar D C P w).1 from Int32.add_zero _, show Int32.ofNat 0 = 0 from rfl] at a1
    simp (disch := omega) only [x11_party_L24, x11_party_L24s, QN, QB, if_pos (show w < N by omega), a1]
    exact b1'
theorem op_party (h : INV t I L R S D C P Z) (p : Int32) : ∃ r I1 L1 R1 S1 I2 P' Z', x10_party p I L R S = some (r, I1, L1, R1, S1) ∧ x11_party p I1 = some (r, I2) ∧ INV t I2 L1 R1 S1 D C P' Z' ∧ Gr R S R1 S1 := by
  have hS := h.1
  have hD := h.2.2.2.1.1
  have hA := hD.a
  have hB := hD.b
  have hP := h.2.2.2.1.2.1
  have e3 : ∀ J, x11_isIn p 0 20 J = some (b2i (isu p 20)) := fun J => m_isu p 20 (by omega)
  by_cases hs : isu p 20 = true
  · obtain ⟨N, hN, rfl⟩ := isn_t (by omega) hs
    obtain ⟨I2, c3, c4, c5⟩ := c_parL (N := N) (C := C) (by omega) hS hD hP N 0 FU I (by omega) (by unfold FU; omega) h.2.1.1 h.2.1.2.1
    obtain ⟨I3, L', R', S', k1, k2, k3, k4, k5, k6, k7⟩ := h.keep (OkP.par hD hP N) (SK.par hA hB SK.refl N) c4 c5
    obtain ⟨J1, n1, n2, n3, n4, n5⟩ := k7 I3 Fm.refl
    obtain ⟨J2, l1, l2, l3⟩ := m_loadN n3
    have f2 : Fm J1 J2 := Fm.of137 l3
    obtain ⟨J3, o1, o2, o3⟩ := m_parL (N := N) (C := C) (by omega) hD hP N 0 FU J2 (by omega) (by unfold FU; omega) (f2.rd n2) l2
    obtain ⟨J4, Z', u1, u2⟩ := n5 J3 o2 (f2.trans o3)
    rw [show (spar D C P 0).1 = 0 from rfl, show Int32.ofNat 0 = 0 from rfl] at c3 o1
    refine ⟨(spar D C P N).1, I3, L', R', S', J4, _, Z', ?_, ?_, u2, k2⟩
    · simp (disch := omega) only [x10_party, q_neg, QB, QN, if_neg (show ¬ 20 < N by omega), if_false, c3, ck_pos hS.1, k1]
    · simp only [x11_party, e3, QB, b2i_0, hs, if_true, n1, l1, o1, u1]
  · have hs' : isu p 20 = false := by simpa using hs
    refine ⟨-1, I, L, R, S, I, P, Z, ?_, ?_, h, Gr.refl⟩
    · rw [isu_c (by omega)] at hs
      simp only [x10_party]
      by_cases h0 : p < 0
      · rw [if_pos h0]
      · rw [if_neg h0]
        have h20 : (20 : Int32) < p := (Classical.not_not.mp hs).resolve_left h0
        rw [if_pos h20]
    · simp only [x11_party, e3, QB, b2i_0, hs', Bool.false_eq_true, if_false]
end OP
