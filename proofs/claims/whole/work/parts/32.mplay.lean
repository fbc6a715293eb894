/-! THE REFERENCE'S PLAY, 4: missed, a try, a turn, how many are afloat -/
section MR
variable {D : TD} {C : TC} {P : PR} {I : MI} {b a k : Nat}
theorem spsec_ne {i : Nat} (h : i ≠ 52 + 3 * b) : spsec P b k i = P i := upd_ne h
theorem m_miss (hD : OkD D C) (hR : Rd I D C) (hW : Wr I P) (hP : OkP D P) (hb : b < nB D) (ha : a < nA D) (hk : k < 5) (haf : P (5 * a + 2) < 0) : ∃ I', x11_miss (Int32.ofNat b) (Int32.ofNat a) (Int32.ofNat k) I = some I' ∧ Wr I' (smiss D (spsec P b k) b a k) ∧ Fm I I' := by
  have hA := hD.a
  have hB := hD.b
  obtain ⟨I1, h1, h2, h3⟩ := m_spend hD hW hb hk
  have hR1 := h3.rd hR
  have hQ : OkP D (spsec P b k) := hP.psec hA hB hb
  have e1 : spsec P b k (50 + 3 * b) = P (50 + 3 * b) := upd_ne (by omega)
  have e3 : spsec P b k (5 * a + 3) = P (5 * a + 3) := upd_ne (by omega)
  have e4 : spsec P b k (5 * a + 4) = P (5 * a + 4) := upd_ne (by omega)
  have e2 : spsec P b k (5 * a + 2) = P (5 * a + 2) := upd_ne (by omega)
  rw [← e1] at h2
  have v3 : I1 137 (5 * a + 3) = spsec P b k (5 * a + 3) := by rw [h2.1 _ (by omega), upd_ne (by omega)]
  have w1 : Wr (wI I1 137 (5 * a + 3) (spsec P b k (5 * a + 3) + 1)) (smi1 (spsec P b k) b a k) := h2.w (by omega)
  have f1 : Fm I (wI I1 137 (5 * a + 3) (spsec P b k (5 * a + 3) + 1)) := h3.w
  have hP1 : OkP D (smi1 (spsec P b k) b a k) := hQ.mi1 hA hB hb ha
  have q4 : smi1 (spsec P b k) b a k (5 * a + 4) = spsec P b k (5 * a + 4) := smi1_ne (by omega) (by omega)
  have q2 : smi1 (spsec P b k) b a k (5 * a + 2) = spsec P b k (5 * a + 2) := smi1_ne (by omega) (by omega)
  have c126 : (126 : Nat) ≠ 137 := by omega
  have c102 : (102 : Nat) ≠ 137 := by omega
  have c134 : (134 : Nat) ≠ 137 := by omega
  have r4 := (hR1.2.1 a ha).2.2.2.1
  have r11 := (hR1.2.2.1 b hb).2.2.1
  have r3 := hR1.1.2.2.1
  generalize hQe : spsec P b k = Q at *
  have haf' : Q (5 * a + 2) < 0 := by rw [e2]; exact haf
  have hpos : 0 < Q (5 * a + 4) := by
    obtain ⟨-, -, z, z1, z2, z3⟩ := hQ.1 a ha
    rw [z2, q_nlt (show z < 2147483648 by omega) (by omega)]
    have := z3 haf'; omega
  have tail : ∀ (J : MI) (Q' : PR), Wr J Q' → Fm I J → OkP D Q' → Q' (5 * a + 2) < 0 → ∃ I', (b1 (x11_isAfloat (Int32.ofNat a) J) fun r17 => if r17 = 0 then some J else b1 (x11_push (Int32.ofNat b) (Int32.ofNat a) J) fun I18 => some I18) = some I' ∧ Wr I' (spush D Q' b a) ∧ Fm I I' := by
    intro J Q' j1 j2 j3 j4
    obtain ⟨I', k1, k2, k3⟩ := m_push hD (j2.rd hR) j1 j3 hb ha
    refine ⟨I', ?_, k2, j2.trans k3⟩
    simp only [m_fl hD j1 ha, QB, b2i_0, j4, decide_true, if_true, k1]
  have hs4 : ∀ v, (wI (wI I1 137 (5 * a + 3) (Q (5 * a + 3) + 1)) 137 (5 * a + 4) v) 137 (5 * a + 4) = v := fun v => wI_at
  simp (disch := omega) only [x11_miss, h1, QB, QN, v3, wI_c c126, wI_c c102, wI_c c134, r4, r11, r3, w1.1, q4]
  simp only [smiss]
  by_cases hk0 : k = 0
  · subst hk0
    simp only [if_true, true_and]
    by_cases hs : D 4 a < D 0 3
    · simp only [hs, not_true, if_true, if_false, QB, w1.1 (5 * a + 4) (by omega), q4, hpos]
      exact tail _ _ w1 f1 hP1 (by rw [q2]; exact haf')
    · simp only [hs, not_false_eq_true, if_true, if_false, QB, hs4]
      by_cases hv : 0 < Q (5 * a + 4) - (D 11 b + 1)
      · simp only [if_pos hv, QB]
        obtain ⟨z, z1, z2, ez⟩ := bite_nat hD hQ hb ha hv
        exact tail _ _ (w1.w (by omega)) f1.w (by rw [ez]; exact hP1.uz hA ha z2 (fun _ => z1)) (by rw [upd_ne (by omega), q2]; exact haf')
      · simp only [if_neg hv, QB]
        have w5 := (w1.w (k := 5 * a + 4) (v := Q (5 * a + 4) - (D 11 b + 1)) (by omega)).w (k := 5 * a + 4) (v := 0) (by omega)
        have w6 := w5.w (k := 5 * a + 2) (v := 9) (by omega)
        rw [upd_same] at w6
        refine ⟨_, ?_, w6, f1.w.w.w⟩
        rw [m_fl hD w6 ha, upd_at]
        rfl
  · simp only [hk0, if_false, false_and, QB, w1.1 (5 * a + 4) (by omega), q4, hpos, if_true]
    by_cases hk1 : k < 2
    · simp only [hk1, if_true]
      exact tail _ _ w1 f1 hP1 (by rw [q2]; exact haf')
    · simp only [hk1, if_false]
      exact ⟨_, rfl, w1, f1⟩
theorem m_breathes (hD : OkD D C) (hR : Rd I D C) (hW : Wr I P) (hb : b < nB D) : ∃ I', x11_breathes (Int32.ofNat b) I = some I' ∧ Wr I' (sbrea D P b) ∧ Fm I I' := by
  have hB := hD.b
  have r10 := (hR.2.2.1 b hb).2.1
  have e : 52 + 3 * b ≠ 50 + 3 * b := by omega
  simp (disch := omega) only [x11_breathes, QB, QN, r10, wI_ne (Or.inr e), hW.1]
  exact ⟨_, rfl, (hW.w (by omega)).w (by omega), Fm.refl.w.w⟩
theorem m_tries (hD : OkD D C) (hR : Rd I D C) (hW : Wr I P) (hP : OkP D P) (hb : b < nB D) (ha : a < nA D) (hk : k < 5) (haf : P (5 * a + 2) < 0) : ∃ I', x11_tries (Int32.ofNat b) (Int32.ofNat a) (Int32.ofNat k) I = some (b2i (stry D C P b a k).1, I') ∧ Wr I' (stry D C P b a k).2 ∧ Fm I I' := by
  have hA := hD.a
  have hB := hD.b
  obtain ⟨I1, h1, h2⟩ := m_odds (C := C) hD hR hW hb ha hk
  have hW1 := h2.wr hW
  have hR1 := h2.m.rd hR
  have e62 : I1 137 62 = P 62 := hW1.1 62 (by omega)
  have ess : P 62 * 137 + 71 - (P 62 * 137 + 71) / 1000 * 1000 = sseed (P 62) := rfl
  have i1 : (63 + 15 * Int32.ofNat b) + 3 * Int32.ofNat k = Int32.ofNat (63 + 15 * b + 3 * k) := by
    rw [show (15 : Int32) * Int32.ofNat b = Int32.ofNat (15 * b) from q_nmul, show (3 : Int32) * Int32.ofNat k = Int32.ofNat (3 * k) from q_nmul, show (63 : Int32) + Int32.ofNat (15 * b) = Int32.ofNat (63 + 15 * b) from q_nadd, q_add]
  have i62 : (62 : Int32).toNatClampNeg = 62 := rfl
  have eg : (if sseed (P 62) / 10 < sodds D C P b a k then (1 : Int32) else 0) = if sgets D C P b a k then 1 else 0 := by simp [sgets]
  have n1 : 63 + 15 * b + 3 * k ≠ 62 := by omega
  have n2 : 63 + 15 * b + 3 * k + 1 ≠ 62 := by omega
  have n3 : 63 + 15 * b + 3 * k + 2 ≠ 62 := by omega
  have n4 : 63 + 15 * b + 3 * k + 1 ≠ 63 + 15 * b + 3 * k := by omega
  have n5 : 63 + 15 * b + 3 * k + 2 ≠ 63 + 15 * b + 3 * k := by omega
  have n6 : 63 + 15 * b + 3 * k + 2 ≠ 63 + 15 * b + 3 * k + 1 := by omega
  have sp : ∀ i, i ≠ 52 + 3 * b → spsec (upd P 62 (sseed (P 62))) b k i = upd P 62 (sseed (P 62)) i := fun i hi => upd_ne hi
  -- the row behind the seed and the records, ahead of the seconds
  have hst0 : stry0 D C P b a k = spsec (srec (upd P 62 (sseed (P 62))) (63 + 15 * b + 3 * k) (if sgets D C P b a k then 1 else 0) (sodds D C P b a k)) b k := by
    simp only [stry0, srec]
    rw [sp _ (by omega), sp _ (by omega), sp _ (by omega)]
    simp only [spsec]
    rw [upd_ne (f := upd _ _ _) (k := 63 + 15 * b + 3 * k + 2) (j := 52 + 3 * b) (by omega), upd_ne (f := upd _ _ _) (k := 63 + 15 * b + 3 * k + 1) (j := 52 + 3 * b) (by omega), upd_ne (k := 63 + 15 * b + 3 * k) (j := 52 + 3 * b) (by omega)]
    rw [upd_comm (i := 52 + 3 * b) (j := 63 + 15 * b + 3 * k) (by omega), upd_comm (i := 52 + 3 * b) (j := 63 + 15 * b + 3 * k + 1) (by omega), upd_comm (i := 52 + 3 * b) (j := 63 + 15 * b + 3 * k + 2) (by omega)]
  have hP0 : OkP D (srec (upd P 62 (sseed (P 62))) (63 + 15 * b + 3 * k) (if sgets D C P b a k then 1 else 0) (sodds D C P b a k)) := (((hP.up (i := 62) hA (by omega) (by omega)).up hA (by omega) (by omega)).up hA (by omega) (by omega)).up hA (by omega) (by omega)
  have haf0 : srec (upd P 62 (sseed (P 62))) (63 + 15 * b + 3 * k) (if sgets D C P b a k then 1 else 0) (sodds D C P b a k) (5 * a + 2) < 0 := by
    simp only [srec]
    rw [upd_ne (by omega), upd_ne (by omega), upd_ne (by omega), upd_ne (by omega)]
    exact haf
  have st : ∀ J, Wr J (srec (upd P 62 (sseed (P 62))) (63 + 15 * b + 3 * k) (if sgets D C P b a k then 1 else 0) (sodds D C P b a k)) → Fm I J → (∃ I', (if sseed (P 62) / 10 < sodds D C P b a k then b1 (x11_get (Int32.ofNat b) (Int32.ofNat a) (Int32.ofNat k) J) fun I27 => ck (¬ sseed (P 62) / 10 < sodds D C P b a k ∨ (if sgets D C P b a k = true then (1 : Int32) else 0) = 1) (some (if sgets D C P b a k = true then (1 : Int32) else 0, I27)) else b1 (x11_miss (Int32.ofNat b) (Int32.ofNat a) (Int32.ofNat k) J) fun I25 => ck (¬ sseed (P 62) / 10 < sodds D C P b a k ∨ (if sgets D C P b a k = true then (1 : Int32) else 0) = 1) (some (if sgets D C P b a k = true then (1 : Int32) else 0, I25))) = some (b2i (stry D C P b a k).1, I') ∧ Wr I' (stry D C P b a k).2 ∧ Fm I I') := by
    intro J j1 j2
    by_cases hg : sseed (P 62) / 10 < sodds D C P b a k
    · have hg' : sgets D C P b a k = true := by simp [sgets, hg]
      obtain ⟨I', k1, k2, k3⟩ := m_get hD j1 hb ha hk
      rw [← hst0] at k2
      refine ⟨I', ?_, ?_, j2.trans k3⟩
      · rw [if_pos hg, k1]
        simp [QB, hg', stry, b2i]
      · simp only [stry, hg', if_true]; exact k2
    · have hg' : sgets D C P b a k = false := by simp [sgets, hg]
      obtain ⟨I', k1, k2, k3⟩ := m_miss hD (j2.rd hR) j1 hP0 hb ha hk haf0
      rw [← hst0] at k2
      refine ⟨I', ?_, ?_, j2.trans k3⟩
      · rw [if_neg hg, k1]
        simp [QB, hg', hg, stry, b2i]
      · simp only [stry, hg', Bool.false_eq_true, if_false]; exact k2
  simp (disch := omega) only [x11_tries, h1, QB, QN, e62, ess, wI_at, eg, i62, i1, wI_ne (Or.inr n1), wI_ne (Or.inr n2), wI_ne (Or.inr n3), wI_ne (Or.inr n4), wI_ne (Or.inr n5), wI_ne (Or.inr n6), hW1.1]
  refine st _ ?_ h2.m.w.w.w.w
  have u1 : upd P 62 (sseed (P 62)) (63 + 15 * b + 3 * k) = P (63 + 15 * b + 3 * k) := upd_ne (by omega)
  have u2 : upd P 62 (sseed (P 62)) (63 + 15 * b + 3 * k + 1) = P (63 + 15 * b + 3 * k + 1) := upd_ne (by omega)
  have u3 : upd P 62 (sseed (P 62)) (63 + 15 * b + 3 * k + 2) = P (63 + 15 * b + 3 * k + 2) := upd_ne (by omega)
  rw [srec, u1, u2, u3]
  exact (((hW1.w (by omega)).w (by omega)).w (by omega)).w (by omega)
theorem m_acts {r : Nat} (hD : OkD D C) (hR : Rd I D C) (hW : Wr I P) (hP : OkP D P) (hb : b < nB D) (hr : r < nR D ∨ nR D = 0) : ∃ I', x11_actsBy (Int32.ofNat b) (Int32.ofNat r) I = some (b2i (sturn D C P b r).1, I') ∧ Wr I' (sturn D C P b r).2 ∧ Fm I I' := by
  have hA := hD.a
  obtain ⟨I1, h1, h2⟩ := m_choice (C := C) hD hR hW hb hr
  have hW1 := h2.wr hW
  have hR1 := h2.m.rd hR
  simp only [x11_actsBy, h1, QB, sturn]
  cases hs : schs D C P b r (5 * nA D) with
  | none =>
    obtain ⟨I2, k1, k2, k3⟩ := m_breathes (C := C) hD hR1 hW1 hb
    rw [if_pos (show mw none < 0 from by decide), k1]
    exact ⟨I2, rfl, k2, h2.m.trans k3⟩
  | some p =>
    obtain ⟨u, v⟩ := p
    have hu := schs_lt hs
    have hsc := schs_scan hs
    obtain ⟨I2, k1, k2, k3⟩ := m_tries (C := C) (k := u % 5) hD hR1 hW1 hP hb (show u / 5 < nA D by omega) (by omega) (scan_fl hsc)
    simp (disch := omega) only [mw, QB, QN, if_false, k1, b2i_or]
    exact ⟨I2, rfl, k2, h2.m.trans k3⟩
theorem m_rule (hD : OkD D C) (hR : Rd I D C) (hb : b < nB D) : I 135 b = Int32.ofNat (sby D b) := by
  have e12 := (hR.2.2.1 b hb).2.2.2
  obtain ⟨-, -, -, -, -, z, e1, e2⟩ := hD.2.2.2.2.1 b hb
  have h6 := hD.r
  rw [e12, sby, e1, q_ix (by omega)]
theorem m_cntL (hD : OkD D C) (hR : Rd I D C) (hW : Wr I P) : ∀ (j w n : Nat), w + j = nA D → j < n → x11_afloatAll_L4 I n (Int32.ofNat (scnt P w)) (Int32.ofNat w) = some (Int32.ofNat (scnt P (nA D))) := by
  have hA := hD.a
  intro j
  induction j with
  | zero =>
    intro w n hw hn
    obtain ⟨n, rfl⟩ : ∃ n', n = n' + 1 := ⟨n - 1, by omega⟩
    obtain rfl : w = nA D := by omega
    simp (disch := omega) only [x11_afloatAll_L4, x11_afloatAll_L4s, hR.1.2.2.2.1, hD.2.1.1.1, QN]
    simp
  | succ j ih =>
    intro w n hw hn
    obtain ⟨n, rfl⟩ : ∃ n', n = n' + 1 := ⟨n - 1, by omega⟩
    have hi := ih (w + 1) n (by omega) (by omega)
    simp only [scnt] at hi
    simp (disch := omega) only [x11_afloatAll_L4, x11_afloatAll_L4s, hR.1.2.2.2.1, hD.2.1.1.1, QB, QN, if_pos (show w < nA D by omega), m_fl hD hW (show w < nA D by omega), b2i_0, decide_eq_true_eq, Int32.add_zero]
    by_cases g : P (5 * w + 2) < 0
    · rw [if_pos g] at hi ⊢; exact hi
    · rw [if_neg g] at hi ⊢; exact hi
theorem m_cnt (hD : OkD D C) (hR : Rd I D C) (hW : Wr I P) : x11_afloatAll I = some (Int32.ofNat (scnt P (nA D))) := by
  have h := m_cntL hD hR hW (nA D) 0 FU (by omega) (by have := hD.a; unfold FU; omega)
  rw [show scnt P 0 = 0 from rfl, show Int32.ofNat 0 = 0 from rfl] at h
  simp only [x11_afloatAll, QB, h]
end MR
