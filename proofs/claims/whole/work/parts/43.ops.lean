/-! CALLS, 2: odds, choices, easier, matches -/
section OP
variable {t : Nat} {I : MI} {L : ML} {R : MR} {S : MS} {D : TD} {C : TC} {P : PR} {Z : AX}
theorem RS.sq (h : RS t R S) : isq t 47 := ⟨h.2.2.2.1, by omega⟩
theorem Fg.kc {I' : MI} (h : Fg t I I') (hS : RS t R S) : Kc t R I I' := h.t.kc hS
/-- whether he can try it now -/
def smay (D : TD) (P : PR) (p a k : Int32) : Bool := isn p (nB D) && isn a (nA D) && isn k 5 && scan D P p.toNatClampNeg a.toNatClampNeg k.toNatClampNeg
theorem c_may (h : INV t I L R S D C P Z) (p a k : Int32) : ∃ I', x10_canTryNow t p a k I = some (b2i (smay D P p a k), I') ∧ Fg t I I' := by
  obtain ⟨hS, hc, hm, ha, -⟩ := h
  have hD := ha.1
  have hA := hD.a
  have hB := hD.b
  simp only [x10_canTryNow, c_isA hD hc.1, c_isB hD hc.1, c_isK, QB, b2i_0, smay]
  by_cases h1 : isn p (nB D) = true
  · by_cases h2 : isn a (nA D) = true
    · by_cases h3 : isn k 5 = true
      · obtain ⟨b, hb, rfl⟩ := isn_t (by omega) h1
        obtain ⟨a', ha', rfl⟩ := isn_t (by omega) h2
        obtain ⟨k', hk', rfl⟩ := isn_t (by omega) h3
        obtain ⟨I', g1, g2⟩ := c_canTry hD hc.1 hc.2.1 ha.2.1 hS.sq hb ha' hk'
        refine ⟨I', ?_, fun c h _ _ => g2 c h⟩
        simp only [h1, h2, h3, if_true, g1, QB, b2i_0, q_ix (show b < 2147483648 by omega), q_ix (show a' < 2147483648 by omega), q_ix (show k' < 2147483648 by omega), Bool.true_and]
        cases scan D P b a' k' <;> simp [b2i]
      · have h3' : isn k 5 = false := by simpa using h3
        exact ⟨I, by simp [h1, h2, h3', b2i], Fg.refl⟩
    · have h2' : isn a (nA D) = false := by simpa using h2
      exact ⟨I, by simp [h1, h2', b2i], Fg.refl⟩
  · have h1' : isn p (nB D) = false := by simpa using h1
    exact ⟨I, by simp [h1', b2i], Fg.refl⟩
theorem m_may (hD : OkD D C) (hR : Rd I D C) (hN : Nw I P) (p a k : Int32) : ∃ I', x11_mayTry p a k I = some (b2i (smay D P p a k), I') ∧ Wr I' P ∧ Fm I I' := by
  have hA := hD.a
  have hB := hD.b
  obtain ⟨I1, l1, l2, l3⟩ := m_loadN hN
  have f1 : Fm I I1 := Fm.of137 l3
  have hR1 := f1.rd hR
  have e4 : x11_isIn k 0 4 I1 = some (b2i (isu k 4)) := m_isu k 4 (by omega)
  simp only [x11_mayTry, l1, m_isA hD hR1, m_isB hD hR1, e4, QB, b2i_0, smay]
  by_cases h1 : isn p (nB D) = true
  · by_cases h2 : isn a (nA D) = true
    · by_cases h3 : isn k 5 = true
      · have h3' : isu k 4 = true := h3
        obtain ⟨b, hb, rfl⟩ := isn_t (by omega) h1
        obtain ⟨a', ha', rfl⟩ := isn_t (by omega) h2
        obtain ⟨k', hk', rfl⟩ := isn_t (by omega) h3
        obtain ⟨I', g1, g2⟩ := m_canTry hD hR1 l2 hb ha' hk'
        refine ⟨I', ?_, g2.wr l2, f1.trans g2.m⟩
        simp only [h1, h2, h3, h3', if_true, g1, QB, b2i_0, q_ix (show b < 2147483648 by omega), q_ix (show a' < 2147483648 by omega), q_ix (show k' < 2147483648 by omega), Bool.true_and]
        cases scan D P b a' k' <;> simp [b2i]
      · have h3' : isn k 5 = false := by simpa using h3
        have h3'' : isu k 4 = false := h3'
        exact ⟨I1, by simp [h1, h2, h3', h3'', b2i], l2, f1⟩
    · have h2' : isn a (nA D) = false := by simpa using h2
      exact ⟨I1, by simp [h1, h2', b2i], l2, f1⟩
  · have h1' : isn p (nB D) = false := by simpa using h1
    exact ⟨I1, by simp [h1', b2i], l2, f1⟩
theorem smay_t {p a k : Int32} (hD : OkD D C) (h : smay D P p a k = true) : ∃ b a' k', b < nB D ∧ a' < nA D ∧ k' < 5 ∧ p = Int32.ofNat b ∧ a = Int32.ofNat a' ∧ k = Int32.ofNat k' ∧ scan D P b a' k' = true := by
  have hA := hD.a
  have hB := hD.b
  simp only [smay, Bool.and_eq_true] at h
  obtain ⟨⟨⟨h1, h2⟩, h3⟩, h4⟩ := h
  obtain ⟨b, hb, rfl⟩ := isn_t (by omega) h1
  obtain ⟨a', ha', rfl⟩ := isn_t (by omega) h2
  obtain ⟨k', hk', rfl⟩ := isn_t (by omega) h3
  rw [q_ix (show b < 2147483648 by omega), q_ix (show a' < 2147483648 by omega), q_ix (show k' < 2147483648 by omega)] at h4
  exact ⟨b, a', k', hb, ha', hk', rfl, rfl, rfl, h4⟩
theorem op_odds (h : INV t I L R S D C P Z) (p a k : Int32) : ∃ r I1 I2, x10_odds t p a k I = some (r, I1) ∧ x11_odds p a k I1 = some (r, I2) ∧ INV t I2 L R S D C P Z := by
  obtain ⟨I1, c1, c2⟩ := c_may h p a k
  have hS := h.1
  have hD := h.2.2.2.1.1
  have h1 := h.q (c2.kc hS) Kr.refl
  by_cases hs : smay D P p a k = true
  · obtain ⟨b, a', k', hb, ha', hk', rfl, rfl, rfl, hsc⟩ := smay_t hD hs
    obtain ⟨I2, c3, c4⟩ := c_odds hD h1.2.1.1 h1.2.1.2.1 hS.sq hb ha' hk'
    have h2 := h1.q (c4.kc hS) Kr.refl
    obtain ⟨I3, m1, m2, m3⟩ := m_may hD h2.2.2.1.1 h2.2.2.1.2.1 (Int32.ofNat b) (Int32.ofNat a') (Int32.ofNat k')
    obtain ⟨I4, m4, m5⟩ := m_odds hD (m3.rd h2.2.2.1.1) m2 hb ha' hk'
    refine ⟨sodds D C P b a' k', I2, I4, ?_, ?_, h2.q Kc.refl (m3.trans m5.m).kr⟩
    · simp only [x10_odds, c1, QB, b2i_0, hs, if_true, c3]
    · simp only [x11_odds, m1, QB, b2i_0, hs, if_true, m4]
  · have hs' : smay D P p a k = false := by simpa using hs
    obtain ⟨I3, m1, m2, m3⟩ := m_may hD h1.2.2.1.1 h1.2.2.1.2.1 p a k
    refine ⟨-1, I1, I3, ?_, ?_, h1.q Kc.refl m3.kr⟩
    · simp only [x10_odds, c1, QB, b2i_0, hs', Bool.false_eq_true, if_false]
    · simp only [x11_odds, m1, QB, b2i_0, hs', Bool.false_eq_true, if_false]
theorem op_chooses (h : INV t I L R S D C P Z) (p : Int32) : ∃ r I1 I2, x10_chooses t p I = some (r, I1) ∧ x11_chooses p I1 = some (r, I2) ∧ INV t I2 L R S D C P Z := by
  have hS := h.1
  have hD := h.2.2.2.1.1
  have hP := h.2.2.2.1.2.1
  have hB := hD.b
  have hA := hD.a
  by_cases h1 : isn p (nB D) = true
  · obtain ⟨b, hb, rfl⟩ := isn_t (by omega) h1
    obtain ⟨I1, c1, c2⟩ := c_choose (C := C) hD h.2.1.1 h.2.1.2.1 hP hS.sq hb (sby_ok hD hb)
    have h2 := h.q (c2.kc hS) Kr.refl
    obtain ⟨I2, m1, m2, m3⟩ := m_loadN h2.2.2.1.2.1
    have f2 : Fm I1 I2 := Fm.of137 m3
    obtain ⟨I3, m4, m5⟩ := m_choice (C := C) hD (f2.rd h2.2.2.1.1) m2 hb (sby_ok hD hb)
    refine ⟨cw (schs D C P b (sby D b) (5 * nA D)), I1, I3, ?_, ?_, h2.q Kc.refl (f2.trans m5.m).kr⟩
    · simp only [x10_chooses, c_isB hD h.2.1.1, QB, b2i_0, h1, if_true, c_rul hD h.2.1.1 hb, c1]
    · simp (disch := omega) only [x11_chooses, m_isB hD h2.2.2.1.1, QB, QN, b2i_0, h1, if_true, m1, m_rule hD (f2.rd h2.2.2.1.1) hb, m4]
      simp only [x11_told10]
      cases hs : schs D C P b (sby D b) (5 * nA D) with
      | none => simp [mw, cw, QB]
      | some q =>
        obtain ⟨u, v⟩ := q
        have hu := schs_lt hs
        simp (disch := omega) only [mw, cw, QN, QB, if_false]
  · have h1' : isn p (nB D) = false := by simpa using h1
    refine ⟨-2, I, I, ?_, ?_, h⟩
    · simp [x10_chooses, c_isB hD h.2.1.1, QB, b2i_0, h1']
    · simp [x11_chooses, m_isB hD h.2.2.1.1, QB, b2i_0, h1']
/-- how many of the first n are easier -/
def seas (D : TD) (C : TC) (P : PR) (b : Nat) (od : Int32) : Nat → Nat
  | 0 => 0
  | n + 1 => seas D C P b od n + if scan D P b n 0 = true ∧ od < sodds D C P b n 0 then 1 else 0
theorem c_easL {b : Nat} {od : Int32} (hS : RS t R S) (hD : OkD D C) (hP : OkP D P) (hb : b < nB D) : ∀ (j w n : Nat) (I : MI), w + j = nA D → j < n → Td I t D C → Rl D true I 47 P → ∃ I', x10_easier_L33 t (Int32.ofNat b) od n (Int32.ofNat (seas D C P b od w)) (Int32.ofNat w) I = some (Int32.ofNat (seas D C P b od (nA D)), I') ∧ Fg t I I' := by
  have hA := hD.a
  intro j
  induction j with
  | zero =>
    intro w n I hw hn hT hR
    obtain ⟨n, rfl⟩ : ∃ n', n = n' + 1 := ⟨n - 1, by omega⟩
    obtain rfl : w = nA D := by omega
    refine ⟨I, ?_, Fg.refl⟩
    simp (disch := omega) only [x10_easier_L33, x10_easier_L33s, hT.1.2.2.2.2.1, hD.2.1.1.1, QN]
    simp
  | succ j ih =>
    intro w n I hw hn hT hR
    obtain ⟨n, rfl⟩ : ∃ n', n = n' + 1 := ⟨n - 1, by omega⟩
    obtain ⟨I1, g1, g2⟩ := c_canTry (k := 0) hD hT hR hP hS.sq hb (show w < nA D by omega) (by omega)
    have f1 : Fg t I I1 := fun c h _ _ => g2 c h
    rw [show Int32.ofNat 0 = 0 from rfl] at g1
    have hst : seas D C P b od (w + 1) = seas D C P b od w + if scan D P b w 0 = true ∧ od < sodds D C P b w 0 then 1 else 0 := rfl
    simp (disch := omega) only [x10_easier_L33, x10_easier_L33s, hT.1.2.2.2.2.1, hD.2.1.1.1, QB, QN, if_pos (show w < nA D by omega), g1, b2i_0]
    by_cases hs : scan D P b w 0 = true
    · obtain ⟨I2, k1, k2⟩ := c_odds (k := 0) hD (hT.fg hS.sq f1) (hR.fg hS.sq f1) hS.sq hb (show w < nA D by omega) (by omega)
      rw [show Int32.ofNat 0 = 0 from rfl] at k1
      obtain ⟨I3, r1, r2⟩ := ih (w + 1) n I2 (by omega) (by omega) (hT.fg hS.sq (f1.trans k2)) (hR.fg hS.sq (f1.trans k2))
      refine ⟨I3, ?_, (f1.trans k2).trans r2⟩
      rw [hst] at r1
      simp only [hs, if_true, k1, QB]
      by_cases ho : od < sodds D C P b w 0
      · rw [if_pos ho]; rw [if_pos ⟨hs, ho⟩] at r1; exact r1
      · rw [if_neg ho]; rw [if_neg (fun h => ho h.2)] at r1; exact r1
    · obtain ⟨I3, r1, r2⟩ := ih (w + 1) n I1 (by omega) (by omega) (hT.fg hS.sq f1) (hR.fg hS.sq f1)
      refine ⟨I3, ?_, f1.trans r2⟩
      rw [hst, if_neg (fun h => hs h.1)] at r1
      simp only [hs, Bool.false_eq_true, if_false]
      exact r1
theorem m_easL {b a : Nat} (hD : OkD D C) (hb : b < nB D) (ha : a < nA D) : ∀ (j w n : Nat) (I : MI), w + j = nA D → j < n → Rd I D C → Wr I P → ∃ I', x11_easier_L17 (Int32.ofNat b) (Int32.ofNat a) n (Int32.ofNat (seas D C P b (sodds D C P b a 0) w)) (Int32.ofNat w) I = some (Int32.ofNat (seas D C P b (sodds D C P b a 0) (nA D)), I') ∧ Fm I I' := by
  have hA := hD.a
  intro j
  induction j with
  | zero =>
    intro w n I hw hn hR hW
    obtain ⟨n, rfl⟩ : ∃ n', n = n' + 1 := ⟨n - 1, by omega⟩
    obtain rfl : w = nA D := by omega
    refine ⟨I, ?_, Fm.refl⟩
    simp (disch := omega) only [x11_easier_L17, x11_easier_L17s, hR.1.2.2.2.1, hD.2.1.1.1, QN]
    simp
  | succ j ih =>
    intro w n I hw hn hR hW
    obtain ⟨n, rfl⟩ : ∃ n', n = n' + 1 := ⟨n - 1, by omega⟩
    obtain ⟨I1, g1, f1⟩ := m_canTry (k := 0) hD hR hW hb (show w < nA D by omega) (by omega)
    rw [show Int32.ofNat 0 = 0 from rfl] at g1
    have hst : seas D C P b (sodds D C P b a 0) (w + 1) = seas D C P b (sodds D C P b a 0) w + if scan D P b w 0 = true ∧ sodds D C P b a 0 < sodds D C P b w 0 then 1 else 0 := rfl
    simp (disch := omega) only [x11_easier_L17, x11_easier_L17s, hR.1.2.2.2.1, hD.2.1.1.1, QB, QN, if_pos (show w < nA D by omega), g1, b2i_0, Int32.add_zero]
    by_cases hs : scan D P b w 0 = true
    · obtain ⟨I2, k1, k2⟩ := m_odds (k := 0) hD (f1.m.rd hR) (f1.wr hW) hb (show w < nA D by omega) (by omega)
      rw [show Int32.ofNat 0 = 0 from rfl] at k1
      obtain ⟨I2', k1', k2'⟩ := m_odds (k := 0) hD ((f1.trans k2).m.rd hR) ((f1.trans k2).wr hW) hb ha (by omega)
      rw [show Int32.ofNat 0 = 0 from rfl] at k1'
      have f3 := (f1.trans k2).trans k2'
      obtain ⟨I3, r1, r2⟩ := ih (w + 1) n I2' (by omega) (by omega) (f3.m.rd hR) (f3.wr hW)
      refine ⟨I3, ?_, f3.m.trans r2⟩
      rw [hst] at r1
      simp only [hs, if_true, k1, k1', QB]
      by_cases ho : sodds D C P b a 0 < sodds D C P b w 0
      · rw [if_pos ho]; rw [if_pos ⟨hs, ho⟩] at r1; exact r1
      · rw [if_neg ho]; rw [if_neg (fun h => ho h.2)] at r1; exact r1
    · obtain ⟨I3, r1, r2⟩ := ih (w + 1) n I1 (by omega) (by omega) (f1.m.rd hR) (f1.wr hW)
      refine ⟨I3, ?_, f1.m.trans r2⟩
      rw [hst, if_neg (fun h => hs h.1)] at r1
      simp only [hs, Bool.false_eq_true, if_false]
      exact r1
theorem op_easier (h : INV t I L R S D C P Z) (p a : Int32) : ∃ r I1 I2, x10_easier t p a I = some (r, I1) ∧ x11_easier p a I1 = some (r, I2) ∧ INV t I2 L R S D C P Z := by
  obtain ⟨I1, c1, c2⟩ := c_may h p a 0
  have hS := h.1
  have hD := h.2.2.2.1.1
  have hA := hD.a
  have hP := h.2.2.2.1.2.1
  have h1 := h.q (c2.kc hS) Kr.refl
  by_cases hs : smay D P p a 0 = true
  · obtain ⟨b, a', k', hb, ha', hk', rfl, rfl, e0, hsc⟩ := smay_t hD hs
    obtain ⟨I2, c3, c4⟩ := c_odds (k := 0) hD h1.2.1.1 h1.2.1.2.1 hS.sq hb ha' (by omega)
    rw [show Int32.ofNat 0 = 0 from rfl] at c3
    have h2 := h1.q (c4.kc hS) Kr.refl
    obtain ⟨I3, c5, c6⟩ := c_easL (od := sodds D C P b a' 0) hS hD hP hb (nA D) 0 FU I2 (by omega) (by unfold FU; omega) h2.2.1.1 h2.2.1.2.1
    have h3 := h2.q (c6.kc hS) Kr.refl
    obtain ⟨I4, m1, m2, m3⟩ := m_may hD h3.2.2.1.1 h3.2.2.1.2.1 (Int32.ofNat b) (Int32.ofNat a') 0
    obtain ⟨I5, m4, m5⟩ := m_easL (P := P) hD hb ha' (nA D) 0 FU I4 (by omega) (by unfold FU; omega) (m3.rd h3.2.2.1.1) m2
    rw [show Int32.ofNat (seas D C P b (sodds D C P b a' 0) 0) = 0 from rfl, show Int32.ofNat 0 = 0 from rfl] at c5 m4
    refine ⟨Int32.ofNat (seas D C P b (sodds D C P b a' 0) (nA D)), I3, I5, ?_, ?_, h3.q Kc.refl (m3.trans m5).kr⟩
    · simp only [x10_easier, c1, QB, b2i_0, hs, if_true, c3, c5]
    · simp only [x11_easier, m1, QB, b2i_0, hs, if_true, m4]
  · have hs' : smay D P p a 0 = false := by simpa using hs
    obtain ⟨I3, m1, m2, m3⟩ := m_may hD h1.2.2.1.1 h1.2.2.1.2.1 p a 0
    refine ⟨-1, I1, I3, ?_, ?_, h1.q Kc.refl m3.kr⟩
    · simp only [x10_easier, c1, QB, b2i_0, hs', Bool.false_eq_true, if_false]
    · simp only [x11_easier, m1, QB, b2i_0, hs', Bool.false_eq_true, if_false]
theorem op_match (h : INV t I L R S D C P Z) (p w : Int32) : ∃ r I1 I2, x10_match t p w I = some (r, I1) ∧ x11_match p w I1 = some (r, I2) ∧ INV t I2 L R S D C P Z := by
  have hS := h.1
  have hD := h.2.2.2.1.1
  have hR6 := hD.r
  have hB := hD.b
  have hP := h.2.2.2.1.2.1
  simp only [x10_match, c_isR hD h.2.1.1, QB, b2i_0, h.2.1.1.1.2.2.2.2.2.1, hD.2.1.2.1.1]
  by_cases hb2 : nB D < 2
  · refine ⟨-1000000, I, I, ?_, ?_, h⟩
    · simp (disch := omega) only [QN, hb2, if_true]
    · simp only [x11_match, m_isR hD h.2.2.1.1, QB, b2i_0, h.2.2.1.1.1.2.2.2.2.1, hD.2.1.2.1.1]
      have e : ¬ (1 < nB D) := by omega
      cases isn p (nR D) <;> cases isn w (nR D) <;> simp (disch := omega) only [Bool.false_eq_true, if_true, if_false, QN, e]
  · have hb2' : ¬ Int32.ofNat (nB D) < 2 := by
      rw [show (2 : Int32) = Int32.ofNat 2 from rfl, q_lt (by omega) (by omega)]; exact hb2
    by_cases h1 : isn p (nR D) = true
    · by_cases h2 : isn w (nR D) = true
      · obtain ⟨o, ho, rfl⟩ := isn_t (by omega) h1
        obtain ⟨u, hu, rfl⟩ := isn_t (by omega) h2
        obtain ⟨I1, c1, c2⟩ := c_lead hD hS.2.2.2.1 h.2.1.1 h.2.1.2.1 hP (by omega) ho hu
        have h3 := h.q (c2.kc hS) Kr.refl
        obtain ⟨I2, m1, m2⟩ := m_mat hD h3.2.2.1.1 h3.2.2.1.2.1 hP (by omega) ho hu
        refine ⟨(smat D C P o u 10).1, I1, I2, ?_, ?_, h3.q Kc.refl m2.kr⟩
        · simp only [hb2', if_false, h1, h2, if_true, c1]
          rfl
        · simp only [x11_match, m_isR hD h3.2.2.1.1, QB, b2i_0, h3.2.2.1.1.1.2.2.2.2.1, hD.2.1.2.1.1, h1, h2, if_true, m1]
          rw [if_pos (show (1 : Int32) < Int32.ofNat (nB D) by rw [show (1 : Int32) = Int32.ofNat 1 from rfl, q_lt (by omega) (by omega)]; omega)]
      · have h2' : isn w (nR D) = false := by simpa using h2
        refine ⟨-1000000, I, I, ?_, ?_, h⟩
        · simp [hb2', h1, h2']
        · simp [x11_match, m_isR hD h.2.2.1.1, QB, b2i_0, h1, h2']
    · have h1' : isn p (nR D) = false := by simpa using h1
      refine ⟨-1000000, I, I, ?_, ?_, h⟩
      · simp [hb2', h1']
      · simp [x11_match, m_isR hD h.2.2.1.1, QB, b2i_0, h1']
end OP
