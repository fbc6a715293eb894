/-! CALLS, 46: best -/
section RB
variable {t : Nat} {I : MI} {L : ML} {R : MR} {S : MS} {D : TD} {C : TC} {P : PR} {Z : AX} {b : Nat}
theorem bfold_fst {re : Nat → PR → BA} {left u : Nat} : ∀ T, (bfold re D C b left P T).2.1 = some u → u < T
  | 0, h => by cases h
  | T + 1, h => by
    have ih := bfold_fst (re := re) (left := left) (u := u) T
    simp only [bfold, bstep] at h
    split at h
    · split at h
      · simp only [badd] at h
        split at h
        · cases h; omega
        · have := ih h; omega
      · simp only [badd] at h
        split at h
        · cases h; omega
        · have := ih h; omega
    · have := ih h; omega
theorem bs_fst {u : Nat} : ∀ f left, (bs D C b f left P).2.1 = some u → u ≤ 50
  | 0, _, h => by cases h
  | f + 1, left, h => by
    have := bfold_fst 51 h
    omega
theorem m_layBest (hD : OkD D C) (hb : b < nB D) {n : Nat} (hn : n ≤ 8) (hP : OkP D P) (hR : Rd I D C) (hN : Nw I P) : ∃ I', Kr I I' ∧ (((bs D C b 8 n P).2.2 ≤ 20000 ∧ x11_layBest (Int32.ofNat b) (Int32.ofNat n) I = some (1, I') ∧ I' 145 0 = Int32.ofNat (bs D C b 8 n P).1 ∧ I' 146 0 = br (bs D C b 8 n P).2.1) ∨ (20000 < (bs D C b 8 n P).2.2 ∧ x11_layBest (Int32.ofNat b) (Int32.ofNat n) I = some (0, I'))) := by
  have f0 : Fbe 0 I (wI I 102 80 0) := Fbe.refl.w80
  have hN0 : Nw (wI I 102 80 0) P := ⟨fun k hk => by rw [wI_c (by omega)]; exact hN.1 k hk, fun b hb => by rw [wI_c (by omega)]; exact hN.2.1 b hb, fun b hb => by rw [wI_c (by omega)]; exact hN.2.2 b hb⟩
  obtain ⟨I1, l1, l2, l3⟩ := m_loadN hN0
  have f1 : Fm (wI I 102 80 0) I1 := Fm.of137 l3
  obtain ⟨I2, d1, d2, d3, d4⟩ := m_deep (d := 0) (left := n) (by omega) l2
  have f2 : Fbe 0 I I2 := (f0.trans f1.fbe).trans d4
  have e80 : I2 102 80 = Int32.ofNat (0 + 1) := by rw [d3, l3 102 (by omega), wI_at]; rfl
  rw [show Int32.ofNat 0 = 0 from rfl] at d1
  rcases m_frm hD hb 8 n 0 0 P I2 0 hn (by omega) hP (f2.rd hR) d2 e80 (by omega) with ⟨z1, s, I3, z2, z3, z4, z5, z6, z7⟩ | ⟨z1, s, I3, z2, z3, z4, z5⟩
  · have hF : ∃ k, FU = (k + 1) + s := ⟨FU - s - 1, by unfold FU; omega⟩
    obtain ⟨k, hk⟩ := hF
    have hrun : x11_layBest_L20 (Int32.ofNat b) FU 0 0 I2 = some I3 := by
      have := z3 (k + 1)
      rw [show Int32.ofNat 0 = 0 from rfl] at this
      rw [hk, this]
      simp only [x11_layBest_L20, x11_layBest_L20s]
      rw [if_pos (by decide)]
    have e3 : ¬ (20000 : Int32) < I3 102 80 := by rw [z6, show (20000 : Int32) = Int32.ofNat 20000 from rfl, q_lt (by omega) (by omega)]; omega
    refine ⟨I3, (f2.trans z7).kr, Or.inl ⟨by omega, ?_, z4, z5⟩⟩
    simp only [x11_layBest, QB, l1, d1, hrun, if_neg e3]
  · have hF : ∃ k, FU = k + s + 1 := ⟨FU - s - 1, by unfold FU; omega⟩
    obtain ⟨k, hk⟩ := hF
    have hrun : x11_layBest_L20 (Int32.ofNat b) FU 0 0 I2 = some I3 := by
      have := z3 k
      rw [show Int32.ofNat 0 = 0 from rfl] at this
      rw [hk, this]
    have e3 : (20000 : Int32) < I3 102 80 := by rw [z4]; decide
    refine ⟨I3, (f2.trans z5).kr, Or.inr ⟨by omega, ?_⟩⟩
    simp only [x11_layBest, QB, l1, d1, hrun, if_pos e3]
theorem op_best (h : INV t I L R S D C P Z) (p n w : Int32) : ∃ r I1 L1 R1 S1 I2, x10_best p n w I L R S = some (r, I1, L1, R1, S1) ∧ x11_best p n w I1 = some (r, I2) ∧ INV t I2 L1 R1 S1 D C P Z ∧ Gr R S R1 S1 := by
  have hS := h.1
  have ht := hS.2.2.2.1
  have hD := h.2.2.2.1.1
  have hB := hD.b
  have hP := h.2.2.2.1.2.1
  have e8 : ∀ J, x11_isIn n 0 8 J = some (b2i (isu n 8)) := fun J => m_isu n 8 (by omega)
  have e2 : ∀ J, x11_isIn w 0 2 J = some (b2i (isu w 2)) := fun J => m_isu w 2 (by omega)
  by_cases h1 : isn p (nB D) = true
  · by_cases h2 : isu n 8 = true
    · by_cases h3 : isu w 2 = true
      · obtain ⟨b, hb, rfl⟩ := isn_t (by omega) h1
        obtain ⟨n', hn, rfl⟩ := isn_t (by omega) h2
        obtain ⟨w', hw, rfl⟩ := isn_t (by omega) h3
        obtain ⟨r, I1, L1, R1, S1, c1, c2, c3, c4, c5⟩ := c_bestA hD hb (show n' ≤ 8 by omega) hP hS h.2.1.1 h.2.1.2.1 L
        have hi := h.lv c4 c2 c3
        obtain ⟨I2, m1, m2⟩ := m_layBest hD hb (show n' ≤ 8 by omega) hP hi.2.2.1.1 hi.2.2.1.2.1
        have hi2 := hi.q Kc.refl m1
        rcases c5 with ⟨z1, z2, z3, z4⟩ | ⟨z1, z2⟩
        · rcases m2 with ⟨y1, y2, y3, y4⟩ | ⟨y1, y2⟩
          · have hcl : ∀ o, (if w' = 0 then some (r, I1, L1, R1, S1) else if w' = 1 then (if I1 63 4 < 0 then some (-1, I1, L1, R1, S1) else some (I1 63 4, I1, L1, R1, S1)) else if I1 63 4 = -2 then some (1, I1, L1, R1, S1) else some (0, I1, L1, R1, S1)) = o → x10_best (Int32.ofNat b) (Int32.ofNat n') (Int32.ofNat w') I L R S = o := by
              intro o ho
              rw [← ho]
              simp (disch := omega) only [x10_best, ck_pos hS.1, hS.2.2.1, QB, ck_pos ht, c_isB hD h.2.1.1, b2i_0, h1, if_true, q_neg, if_false, QN, if_neg (show ¬ 8 < n' by omega), if_neg (show ¬ 2 < w' by omega), c1, ck_pos c2.1, z3]
            have hrf : ∀ o, (if w' = 0 then some (I2 145 0, I2) else if w' = 1 then (if I2 146 0 = 50 then some (-1, I2) else b1 (x11_told10 (I2 146 0) I2) (fun r8 => some (r8, I2))) else if I2 146 0 = 50 then some (1, I2) else some (0, I2)) = o → x11_best (Int32.ofNat b) (Int32.ofNat n') (Int32.ofNat w') I1 = o := by
              intro o ho
              rw [← ho]
              have e10 : ((1 : Int32) = 0) = False := by simp
              have ei : (no_index (OfNat.ofNat 0) : Nat) = 0 := rfl
              simp (disch := omega) only [x11_best, m_isB hD hi.2.2.1.1, QB, b2i_0, h1, if_true, e8, h2, e2, h3, y2, e10, if_false, QN, m_truth]
            by_cases w0 : w' = 0
            · exact ⟨r, I1, L1, R1, S1, I2, hcl _ (by rw [if_pos w0]), hrf _ (by rw [if_pos w0, y3, z2]), hi2, c3⟩
            · by_cases w1 : w' = 1
              · cases hf : (bs D C b 8 n' P).2.1 with
                | none =>
                  rw [hf] at z4 y4
                  refine ⟨-1, I1, L1, R1, S1, I2, hcl _ ?_, hrf _ ?_, hi2, c3⟩
                  · rw [if_neg w0, if_pos w1, z4, if_pos (by decide)]
                  · rw [if_neg w0, if_pos w1, y4, if_neg (by decide)]
                    simp only [x11_told10]
                    rw [if_pos (by decide)]; rfl
                | some u =>
                  have hu := bs_fst 8 n' hf
                  rw [hf] at z4 y4
                  by_cases u50 : u = 50
                  · subst u50
                    refine ⟨-1, I1, L1, R1, S1, I2, hcl _ ?_, hrf _ ?_, hi2, c3⟩
                    · rw [if_neg w0, if_pos w1, z4, if_pos (by decide)]
                    · rw [if_neg w0, if_pos w1, y4, if_pos (by decide)]
                  · have ez : I1 63 4 = Int32.ofNat (10 * (u / 5) + u % 5) := by rw [z4]; simp only [bc, Option.elim, if_neg u50]
                    have ey : I2 146 0 = Int32.ofNat u := y4
                    refine ⟨Int32.ofNat (10 * (u / 5) + u % 5), I1, L1, R1, S1, I2, hcl _ ?_, hrf _ ?_, hi2, c3⟩
                    · rw [if_neg w0, if_pos w1, ez, if_neg (by rw [q_neg (by omega)]; exact id)]
                    · rw [if_neg w0, if_pos w1, ey, if_neg (by rw [show (50 : Int32) = Int32.ofNat 50 from rfl, q_eq (by omega) (by omega)]; exact u50)]
                      simp (disch := omega) only [x11_told10, q_neg, if_false, QN, QB]
              · cases hf : (bs D C b 8 n' P).2.1 with
                | none =>
                  rw [hf] at z4 y4
                  refine ⟨0, I1, L1, R1, S1, I2, hcl _ ?_, hrf _ ?_, hi2, c3⟩
                  · rw [if_neg w0, if_neg w1, z4, if_neg (by decide)]
                  · rw [if_neg w0, if_neg w1, y4, if_neg (by decide)]
                | some u =>
                  have hu := bs_fst 8 n' hf
                  rw [hf] at z4 y4
                  by_cases u50 : u = 50
                  · subst u50
                    refine ⟨1, I1, L1, R1, S1, I2, hcl _ ?_, hrf _ ?_, hi2, c3⟩
                    · rw [if_neg w0, if_neg w1, z4, if_pos (by decide)]
                    · rw [if_neg w0, if_neg w1, y4, if_pos (by decide)]
                  · have ez : I1 63 4 = Int32.ofNat (10 * (u / 5) + u % 5) := by rw [z4]; simp only [bc, Option.elim, if_neg u50]
                    have ey : I2 146 0 = Int32.ofNat u := y4
                    refine ⟨0, I1, L1, R1, S1, I2, hcl _ ?_, hrf _ ?_, hi2, c3⟩
                    · rw [if_neg w0, if_neg w1, ez, if_neg]
                      intro hh
                      have := q_neg (show 10 * (u / 5) + u % 5 < 2147483648 by omega)
                      rw [hh] at this
                      exact absurd this (by decide)
                    · rw [if_neg w0, if_neg w1, ey, if_neg (by rw [show (50 : Int32) = Int32.ofNat 50 from rfl, q_eq (by omega) (by omega)]; exact u50)]
          · omega
        · rcases m2 with ⟨y1, y2, y3, y4⟩ | ⟨y1, y2⟩
          · omega
          · have e10 : ((1 : Int32) = 0) = False := by simp
            refine ⟨-2, I1, L1, R1, S1, I2, ?_, ?_, hi2, c3⟩
            · simp (disch := omega) only [x10_best, ck_pos hS.1, hS.2.2.1, QB, ck_pos ht, c_isB hD h.2.1.1, b2i_0, h1, if_true, q_neg, if_false, QN, if_neg (show ¬ 8 < n' by omega), if_neg (show ¬ 2 < w' by omega), c1, ck_pos c2.1, z2]
            · simp only [x11_best, m_isB hD hi.2.2.1.1, QB, b2i_0, h1, if_true, e8, h2, e2, h3, y2]
      · have h3' : isu w 2 = false := by simpa using h3
        obtain ⟨b, hb, rfl⟩ := isn_t (by omega) h1
        obtain ⟨n', hn, rfl⟩ := isn_t (by omega) h2
        refine ⟨-1, I, L, R, S, I, ?_, ?_, h, Gr.refl⟩
        · rw [isu_c (by omega)] at h3
          have h3 := Classical.not_not.mp h3
          simp (disch := omega) only [x10_best, ck_pos hS.1, hS.2.2.1, QB, ck_pos ht, c_isB hD h.2.1.1, b2i_0, h1, if_true, q_neg, if_false, QN, if_neg (show ¬ 8 < n' by omega)]
          by_cases g : w < 0
          · rw [if_pos g]
          · rw [if_neg g]
            have g2 : (2 : Int32) < w := h3.resolve_left g
            rw [if_pos g2]
        · simp only [x11_best, m_isB hD h.2.2.1.1, QB, b2i_0, h1, if_true, e8, h2, e2, h3', Bool.false_eq_true, if_false]
    · have h2' : isu n 8 = false := by simpa using h2
      refine ⟨-1, I, L, R, S, I, ?_, ?_, h, Gr.refl⟩
      · rw [isu_c (by omega)] at h2
        have h2 := Classical.not_not.mp h2
        simp only [x10_best, ck_pos hS.1, hS.2.2.1, QB, ck_pos ht, c_isB hD h.2.1.1, b2i_0, h1, if_true]
        by_cases g : n < 0
        · rw [if_pos g]
        · rw [if_neg g]
          have g2 : (8 : Int32) < n := h2.resolve_left g
          rw [if_pos g2]
      · simp only [x11_best, m_isB hD h.2.2.1.1, QB, b2i_0, h1, if_true, e8, h2', Bool.false_eq_true, if_false]
  · have h1' : isn p (nB D) = false := by simpa using h1
    refine ⟨-1, I, L, R, S, I, ?_, ?_, h, Gr.refl⟩
    · simp only [x10_best, ck_pos hS.1, hS.2.2.1, QB, ck_pos ht, c_isB hD h.2.1.1, b2i_0, h1', Bool.false_eq_true, if_false]
    · simp only [x11_best, m_isB hD h.2.2.1.1, QB, b2i_0, h1', Bool.false_eq_true, if_false]
end RB
