/-! CALLS, 43: the best alone, the class's whole search -/
section NF
variable {t : Nat} {I : MI} {L : ML} {R : MR} {S : MS} {D : TD} {C : TC} {P : PR} {b : Nat}
theorem c_bf (hD : OkD D C) (hb : b < nB D) : ∀ (f m : Nat), BFok t D C b f m := by
  have hA := hD.a
  have hB := hD.b
  intro f
  induction f with
  | zero =>
    intro m left d I L R S P q k hl hdl hm hP h h6 h2 h3 hk hd4
    obtain ⟨m, rfl⟩ : ∃ m', m = m' + 1 := ⟨m - 1, by omega⟩
    obtain rfl : left = 0 := by omega
    have e2 : I 63 2 + 1 = Int32.ofNat (k + 1) := by rw [h2, q_addn]
    have e3 : ∀ v, wI I 63 2 v 63 3 = 0 := fun v => by rw [wI_ne (by omega)]; exact h3
    by_cases hsp : 20000 < k + 1
    · refine ⟨0, wI (wI I 63 2 (Int32.ofNat (k + 1))) 63 3 1, L, R, S, ?_, ((Nf.refl h.1).w (by omega)).w (by omega), Or.inr ⟨?_, wI_at⟩, fun _ e => by rw [wI_at] at e; cases e⟩
      · simp (disch := omega) only [x6_BF, x6_bestFrom, ck_pos h.1.1, QB, QN, e2, e3, if_true, wI_at, if_pos hsp, if_false]
        exact ck_pos (Or.inr trivial)
      · rw [bs_0]; show 20000 < k + 1; omega
    · refine ⟨0, wI (wI I 63 2 (Int32.ofNat (k + 1))) 63 3 0, L, R, S, ?_, ((Nf.refl h.1).w (by omega)).w (by omega), Or.inl ⟨?_, ?_, ?_, wI_at⟩, fun e _ => ?_⟩
      · simp (disch := omega) only [x6_BF, x6_bestFrom, ck_pos h.1.1, QB, QN, e2, e3, if_true, wI_at, if_neg hsp, Nat.lt_irrefl, if_false]
        exact ck_pos (Or.inl trivial)
      · rw [bs_0]; show k + 1 ≤ 20000; omega
      · rw [bs_0]; rfl
      · rw [bs_0, wI_ne (by omega), wI_at]
      · rw [bs_0, wI_ne (by omega), wI_ne (by omega)]; exact hd4 e
  | succ f ih =>
    intro m left d I L R S P q k hl hdl hm hP h h6 h2 h3 hk hd4
    obtain ⟨m, rfl⟩ : ∃ m', m = m' + 1 := ⟨m - 1, by omega⟩
    have e2 : I 63 2 + 1 = Int32.ofNat (k + 1) := by rw [h2, q_addn]
    have e3 : ∀ v, wI I 63 2 v 63 3 = 0 := fun v => by rw [wI_ne (by omega)]; exact h3
    by_cases hsp : 20000 < k + 1
    · refine ⟨0, wI (wI I 63 2 (Int32.ofNat (k + 1))) 63 3 1, L, R, S, ?_, ((Nf.refl h.1).w (by omega)).w (by omega), Or.inr ⟨?_, wI_at⟩, fun _ e => by rw [wI_at] at e; cases e⟩
      · simp (disch := omega) only [x6_BF, x6_bestFrom, ck_pos h.1.1, QB, QN, e2, e3, if_true, wI_at, if_pos hsp, if_false]
        exact ck_pos (Or.inr trivial)
      · have := bs_1 (D := D) (C := C) (b := b) (f + 1) left P
        omega
    by_cases hl0 : left = 0
    · subst hl0
      refine ⟨0, wI (wI I 63 2 (Int32.ofNat (k + 1))) 63 3 0, L, R, S, ?_, ((Nf.refl h.1).w (by omega)).w (by omega), Or.inl ⟨?_, ?_, ?_, wI_at⟩, fun e _ => ?_⟩
      · simp (disch := omega) only [x6_BF, x6_bestFrom, ck_pos h.1.1, QB, QN, e2, e3, if_true, wI_at, if_neg hsp, Nat.lt_irrefl, if_false]
        exact ck_pos (Or.inl trivial)
      · rw [bs_0]; show k + 1 ≤ 20000; omega
      · rw [bs_0]; rfl
      · rw [bs_0, wI_ne (by omega), wI_at]
      · rw [bs_0, wI_ne (by omega), wI_ne (by omega)]; exact hd4 e
    · have h4 : Sd t d q D C P (wI (wI I 63 2 (Int32.ofNat (k + 1))) 63 3 0) R S := (h.w (by omega)).w (by omega)
      have N4 : Nf t (d + 1) I L R S (wI (wI I 63 2 (Int32.ofNat (k + 1))) 63 3 0) L R S := ((Nf.refl h.1).w (by omega)).w (by omega)
      have h46 : wI (wI I 63 2 (Int32.ofNat (k + 1))) 63 3 0 63 6 = Int32.ofNat b := by rw [N4.2.2.2]; exact h6
      obtain ⟨x1, y1, I1, L1, R1, S1, a1, a2, a3⟩ := c_L70 (k := k) hD hb hP (ih m) hl hdl (by omega) (nA D) 0 FU _ L R S (by omega) (by unfold FU; omega) h4 h46 (show k + 1 ≤ 20000 by omega) (by rw [wI_ne (by omega), wI_at]; rfl) wI_at
      rw [show Int32.ofNat 0 = 0 from rfl, show Int32.ofNat (bfold (bs D C b f) D C b left P (5 * 0)).1 = 0 from rfl, show bc (bfold (bs D C b f) D C b left P (5 * 0)).2.1 = -1 from rfl] at a1
      have hsk := bfold_skip (re := bs D C b f) (D := D) (C := C) (b := b) (left := left) (P := P) (t := 5 * nA D) (50 - 5 * nA D) (fun u g1 g2 => bok_hi g1 (by omega))
      rw [show 5 * nA D + (50 - 5 * nA D) = 50 by omega] at hsk
      rw [← hsk] at a3
      have N1 := N4.trans a2
      have g1 := h.nf N1 (by omega)
      have h16 : I1 63 6 = Int32.ofNat b := by rw [N1.2.2.2]; exact h6
      have hbs : bs D C b (f + 1) left P = bstep (bs D C b f) D C b left P 50 (bfold (bs D C b f) D C b left P 50) := rfl
      have hst1 := g1.stt (show d < 9 by omega)
      -- the end, from what comes of breathing
      have fin : ∀ (x y : Int32) (I2 : MI) (L2 : ML) (R2 : MR) (S2 : MS), Nf t (d + 1) I L R S I2 L2 R2 S2 → BL k (bs D C b (f + 1) left P) x y I2 → (∀ o, (if d = 0 then some (x, wI I2 63 4 y, L2, R2, S2) else some (x, wI I2 63 4 (I2 63 4), L2, R2, S2)) = o → x6_BF (m + 1) (Int32.ofNat d) (Int32.ofNat left) I L R S = o) → ∃ r I' L' R' S', x6_BF (m + 1) (Int32.ofNat d) (Int32.ofNat left) I L R S = some (r, I', L', R', S') ∧ Nf t (d + 1) I L R S I' L' R' S' ∧ BR k (bs D C b (f + 1) left P).2.2 (Int32.ofNat (bs D C b (f + 1) left P).1) r I' ∧ (d = 0 → I' 63 3 = 0 → I' 63 4 = bc (bs D C b (f + 1) left P).2.1) := by
        intro x y I2 L2 R2 S2 n2 bl hrun
        have hBR : ∀ v, BR k (bs D C b (f + 1) left P).2.2 (Int32.ofNat (bs D C b (f + 1) left P).1) x (wI I2 63 4 v) := fun v => by
          rcases bl with ⟨z1, z2, z3, z4, z5⟩ | ⟨z1, z2⟩
          · exact Or.inl ⟨z1, z2, by rw [wI_ne (by omega)]; exact z4, by rw [wI_ne (by omega)]; exact z5⟩
          · exact Or.inr ⟨z1, by rw [wI_ne (by omega)]; exact z2⟩
        by_cases hd0 : d = 0
        · refine ⟨x, wI I2 63 4 y, L2, R2, S2, hrun _ (if_pos hd0), n2.w (by omega), hBR _, fun _ e => ?_⟩
          rw [wI_ne (by omega)] at e
          rcases bl with ⟨z1, z2, z3, z4, z5⟩ | ⟨z1, z2⟩
          · rw [wI_at]; exact z3
          · rw [z2] at e; cases e
        · exact ⟨x, wI I2 63 4 (I2 63 4), L2, R2, S2, hrun _ (if_neg hd0), n2.w (by omega), hBR _, fun e => absurd e hd0⟩
      by_cases hl2 : left < 2
      · have hno : bok D b left P 50 = false := by simp only [bok, if_true, decide_eq_false_iff_not]; omega
        have hb51 : bs D C b (f + 1) left P = bfold (bs D C b f) D C b left P 50 := bfold_no hno
        refine fin x1 y1 I1 L1 R1 S1 N1 (by rw [hb51]; exact a3) (fun o ho => ?_)
        rw [← ho]
        simp (disch := omega) only [x6_BF, x6_bestFrom, ck_pos h.1.1, QB, QN, e2, e3, if_true, wI_at, if_neg hsp, if_pos (show 0 < left by omega), if_pos (show d < 8 by omega), c_lev h.1 (show d < 9 by omega) h.2.2.1, a1, if_pos hl2, ck_pos a2.1.1]
        refine (ck_pos (Or.inl trivial)).trans ?_
        by_cases hd0 : d = 0 <;> simp only [hd0, if_true, if_false]
      · have h10 : I1 (t + 10) b = D 10 b := g1.2.1.2.2.1 10 b (by omega) (by omega) hb
        have h58 : I1 (q + 8) b = P (50 + 3 * b) := (g1.2.2.2.2.1 b hb).2.2
        by_cases hbr : P (50 + 3 * b) < D 10 b
        · have hyes : bok D b left P 50 = true := by simp only [bok, if_true, decide_eq_true_eq]; exact ⟨by omega, hbr⟩
          have hb51 : bs D C b (f + 1) left P = badd (bfold (bs D C b f) D C b left P 50) 50 (bs D C b f (left - 2) (sbrea D P b)).1 (bs D C b f (left - 2) (sbrea D P b)).2.2 := by
            rw [hbs]
            simp only [bstep, hyes, if_true]
          obtain ⟨q', I2, L2, R2, S2, c1, c2, c3, c4⟩ := c_nx g1 hD (by omega) L1
          obtain ⟨I3, d1, d2, d3⟩ := c_breath (t := t) hD c3.2.1 c3.2.2.2 hb
          obtain ⟨g3, n3, e5⟩ := c3.fc (by omega) d3 d2 L2
          have N3 := (N1.trans c2).trans n3
          have hkk : (k + (bfold (bs D C b f) D C b left P 50).2.2 ≤ 20000 ∧ I3 63 2 = Int32.ofNat (k + (bfold (bs D C b f) D C b left P 50).2.2) ∧ I3 63 3 = 0) ∨ (20000 < k + (bfold (bs D C b f) D C b left P 50).2.2 ∧ I3 63 3 = 1) := by
            rw [e5, c4]
            rcases a3 with ⟨z1, z2, z3, z4, z5⟩ | ⟨z1, z2⟩
            · exact Or.inl ⟨z1, z4, z5⟩
            · exact Or.inr ⟨z1, z2⟩
          obtain ⟨r4, I4, L4, R4, S4, u1, u2, u3⟩ := c_rc (left := left - 2) (k := k + (bfold (bs D C b f) D C b left P 50).2.2) (ih m) (by omega) (by omega) (by omega) (hP.brea hA hB hb) g3 (by rw [N3.2.2.2]; exact h6) (by omega) hkk L2
          have N4' := N3.trans (u2.mono (by omega))
          have h26 : I2 63 6 = Int32.ofNat b := by rw [c4]; exact h16
          have esub : Int32.ofNat left - 2 = Int32.ofNat (left - 2) := q_subn (show (OfNat.ofNat 2 : Nat) ≤ left by show 2 ≤ left; omega)
          refine fin (if x1 < r4 then r4 else x1) (if x1 < r4 then -2 else y1) I4 L4 R4 S4 N4' ?_ (fun o ho => ?_)
          · have hv9 : (bs D C b f (left - 2) (sbrea D P b)).1 < 2147483648 := by
              have l1 := bs_le (D := D) (C := C) (b := b) f (left - 2) (sbrea D P b)
              have l3 : (left - 2) * 1000000 ≤ 8 * 1000000 := Nat.mul_le_mul_right _ (by omega)
              have := Nat.le_trans l1 l3
              omega
            have hm9 : (bfold (bs D C b f) D C b left P 50).1 < 2147483648 := by
              have l1 := bfold_le (re := bs D C b f) (D := D) (C := C) (b := b) (left := left) (P := P) (fun l P _ => bs_le f l P) 50
              have l3 : left * 1000000 ≤ 8 * 1000000 := Nat.mul_le_mul_right _ (by omega)
              have := Nat.le_trans l1 l3
              omega
            rw [hb51]
            rcases u3 with ⟨z1, z2, z3, z4⟩ | ⟨z1, z2⟩
            · rcases a3 with ⟨w1, w2, w3, w4, w5⟩ | ⟨w1, w2⟩
              · refine Or.inl ⟨by simp only [badd]; omega, ?_, ?_, by rw [z3, Nat.add_assoc]; rfl, z4⟩
                · rw [w2, z2]
                  simp only [q_lt hm9 hv9, badd]
                  split <;> rfl
                · rw [w2, z2, w3]
                  simp only [q_lt hm9 hv9, badd]
                  split <;> rfl
              · omega
            · exact Or.inr ⟨by simp only [badd]; omega, z2⟩
          · rw [← ho]
            simp (disch := omega) only [x6_BF, x6_bestFrom, x6_bestByBreathing, ck_pos h.1.1, QB, QN, e2, e3, if_true, wI_at, if_neg hsp, if_pos (show 0 < left by omega), if_pos (show d < 8 by omega), c_lev h.1 (show d < 9 by omega) h.2.2.1, a1, if_neg hl2, ck_pos a2.1.1, ck_pos hst1, ck_pos hst1.2.1, h16, g1.1.2.2.1, ck_pos g1.1.2.2.2.1, h10, h58, if_pos hbr, c1, ck_pos c2.1.1, c2.1.2.2.1, ck_pos (c3.stt (show d + 1 < 9 by omega)), h26, d1, esub, u1]
            refine (ck_pos (Or.inl trivial)).trans ?_
            by_cases hx : x1 < r4
            · simp only [if_pos hx, ck_pos u2.1.1, q_b5]
              by_cases hd0 : d = 0 <;> simp only [hd0, if_true, if_false]
            · simp only [if_neg hx, ck_pos u2.1.1]
              by_cases hd0 : d = 0 <;> simp only [hd0, if_true, if_false]
        · have hno : bok D b left P 50 = false := by simp only [bok, if_true, decide_eq_false_iff_not]; exact fun hh => hbr hh.2
          have hb51 : bs D C b (f + 1) left P = bfold (bs D C b f) D C b left P 50 := bfold_no hno
          refine fin x1 y1 I1 L1 R1 S1 N1 (by rw [hb51]; exact a3) (fun o ho => ?_)
          rw [← ho]
          simp (disch := omega) only [x6_BF, x6_bestFrom, ck_pos h.1.1, QB, QN, e2, e3, if_true, wI_at, if_neg hsp, if_pos (show 0 < left by omega), if_pos (show d < 8 by omega), c_lev h.1 (show d < 9 by omega) h.2.2.1, a1, if_neg hl2, ck_pos a2.1.1, ck_pos hst1, ck_pos hst1.2.1, h16, g1.1.2.2.1, ck_pos g1.1.2.2.2.1, h10, h58, if_neg hbr]
          refine (ck_pos (Or.inl trivial)).trans ?_
          by_cases hd0 : d = 0 <;> simp only [hd0, if_true, if_false]
theorem c_bestA (hD : OkD D C) (hb : b < nB D) {n : Nat} (hn : n ≤ 8) (hP : OkP D P) (hS : RS t R S) (hT : Td I t D C) (hR : Rl D true I 47 P) (L : ML) : ∃ r I' L' R' S', x6_bestAlone 47 (Int32.ofNat b) (Int32.ofNat n) I L R S = some (r, I', L', R', S') ∧ RS t R' S' ∧ Gr R S R' S' ∧ FrL t 0 I I' L L' S R' ∧ (((bs D C b 8 n P).2.2 ≤ 20000 ∧ r = Int32.ofNat (bs D C b 8 n P).1 ∧ I' 63 3 = 0 ∧ I' 63 4 = bc (bs D C b 8 n P).2.1) ∨ (20000 < (bs D C b 8 n P).2.2 ∧ I' 63 3 = 1)) := by
  have h158 := hS.l158
  obtain ⟨q, I1, L1, R1, S1, a1, a2, a3, a4, a5, -⟩ := c_level hS (d := 0) (by omega) I L
  rw [show Int32.ofNat 0 = 0 from rfl] at a1
  have h90 := a2.q90 (dyn64 (show 0 < 9 by omega)) a5
  have hR1 : Rl D true I1 47 P := hR.fr (fun c x y => (a4 c (by omega)).1)
  obtain ⟨I2, b1', b2', b3'⟩ := c_copyPlay (q0 := q) (C := C) hD hR1 (by omega)
  have hst := (a2.2.2.2.2.2.2.1 64 0 q (dyn64 (by omega)) a5).1
  have F1 : FrL t 0 I I1 L L1 S R1 := FrL.old a4
  have F2 : FrL t 0 I1 I2 L1 L1 S1 R1 := FrL.fc (q := q) (fun c g1 g2 g3 g4 => b3' c (by omega)) a5 (by omega)
  have F3 := F1.trans F2 a3.1 Gr.refl
  have s2 : Sd t 0 q D C P I2 R1 S1 := ⟨a2, F3.td hS a2 a3 hT, a5, b2'⟩
  have s3 : Sd t 0 q D C P (wI (wI (wI (wI I2 63 6 (Int32.ofNat b)) 63 2 0) 63 3 0) 63 4 (-1)) R1 S1 := (((s2.w (by omega)).w (by omega)).w (by omega)).w (by omega)
  have F4 : FrL t 0 I (wI (wI (wI (wI I2 63 6 (Int32.ofNat b)) 63 2 0) 63 3 0) 63 4 (-1)) L L1 S R1 := FrL.w (Or.inl rfl) (FrL.w (Or.inl rfl) (FrL.w (Or.inl rfl) (FrL.w (Or.inl rfl) F3)))
  obtain ⟨r, I5, L5, R5, S5, c1, c2, c3, c4⟩ := c_bf (t := t) hD hb 8 12 n 0 _ L1 R1 S1 P q 0 hn (by omega) (by omega) hP s3 (by rw [wI_ne (by omega), wI_ne (by omega), wI_ne (by omega), wI_at]) (by rw [wI_ne (by omega), wI_ne (by omega), wI_at]; rfl) (by rw [wI_ne (by omega), wI_at]) (by omega) (fun _ => wI_at)
  rw [show Int32.ofNat 0 = 0 from rfl] at c1
  refine ⟨r, I5, L5, R5, S5, ?_, c2.1, a3.trans c2.2.1, F4.trans (c2.2.2.1.mono (by omega)) a3.1 c2.2.1, ?_⟩
  · simp only [x6_bestAlone, ck_pos hS.1, a1, QB, ck_pos hst, ck_pos (st_47 a2.1), ck_pos a2.1, ck_pos hst.2.1, b1', c1]
  · rcases c3 with ⟨z1, z2, z3, z4⟩ | ⟨z1, z2⟩
    · exact Or.inl ⟨by omega, z2, z4, c4 rfl z4⟩
    · exact Or.inr ⟨by omega, z2⟩
end NF
