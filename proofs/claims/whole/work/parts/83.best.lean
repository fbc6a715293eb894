/-! CALLS, 42: the best alone, the class's loops -/
section NF
variable {t d q : Nat} {I I1 I2 I' : MI} {L L1 L2 L' : ML} {R R1 R2 R' : MR} {S S1 S2 S' : MS} {D : TD} {C : TC} {P P' : PR} {b f m : Nat}
theorem c_ktry (hD : OkD D C) (hb : b < nB D) (hP : OkP D P) (h : Sd t d q D C P I R S) (hd : d < 9) {a k : Nat} (ha : a < nA D) (hk : k < 5) (L : ML) : ∃ I', x1_canTry t q (Int32.ofNat b) (Int32.ofNat a) (Int32.ofNat k) I = some (b2i (scan D P b a k), I') ∧ Sd t d q D C P I' R S ∧ Nf t (d + 1) I L R S I' L R S ∧ I' 63 = I 63 := by
  obtain ⟨I', a1, a2⟩ := c_canTry hD h.2.1 h.2.2.2 hP (h.qq hd) hb ha hk
  obtain ⟨g, n, e⟩ := h.fg (d' := d + 1) hd (fun c g1 _ _ => a2 c g1) L
  exact ⟨I', a1, g, n, e⟩
/-- kinds, when all is spent -/
theorem c_L95s (hD : OkD D C) (hb : b < nB D) (hP : OkP D P) (hd : d < 9) {left a : Nat} (hl : left ≤ 8) (ha : a < nA D) : ∀ (j w fu : Nat) (x y : Int32) (I : MI) (L : ML) (R : MR) (S : MS), w + j = 5 → j < fu → Sd t d q D C P I R S → I 63 6 = Int32.ofNat b → I 63 3 = 1 → ∃ x' y' I' L' R' S', x6_bestFrom_L95 (x6_BF m) (Int32.ofNat d) (Int32.ofNat left) (Int32.ofNat a) q fu x y (Int32.ofNat w) I L R S = some (x', y', I', L', R', S') ∧ Nf t (d + 1) I L R S I' L' R' S' ∧ I' 63 3 = 1 := by
  have hA := hD.a
  intro j
  induction j with
  | zero =>
    intro w fu x y I L R S hw hfu h h6 h3
    obtain ⟨fu, rfl⟩ : ∃ n', fu = n' + 1 := ⟨fu - 1, by omega⟩
    obtain rfl : w = 5 := by omega
    refine ⟨x, y, I, L, R, S, ?_, Nf.refl h.1, h3⟩
    simp only [x6_bestFrom_L95, x6_bestFrom_L95s]
    rw [if_neg (by decide)]
  | succ j ih =>
    intro w fu x y I L R S hw hfu h h6 h3
    obtain ⟨fu, rfl⟩ : ∃ n', fu = n' + 1 := ⟨fu - 1, by omega⟩
    have hw5 : w < 5 := by omega
    obtain ⟨s1, s2, s3⟩ := secn_k hw5
    have esec : ([1, 1, 2, 3, 1] : List Int32).getD w 0 = Int32.ofNat (secn w) := s1
    by_cases hs : left < secn w
    · obtain ⟨x', y', I', L', R', S', a1, a2, a3⟩ := ih (w + 1) fu x y I L R S (by omega) (by omega) h h6 h3
      refine ⟨x', y', I', L', R', S', ?_, a2, a3⟩
      simp (disch := omega) only [x6_bestFrom_L95, x6_bestFrom_L95s, QN, QB, if_pos hw5, esec, if_pos hs]
      exact a1
    · obtain ⟨I0, o1, g0, n0, e0⟩ := c_ktry hD hb hP h hd ha hw5 L
      have z3 : I0 63 3 = 1 := by rw [e0]; exact h3
      by_cases hsc : scan D P b a w = true
      · have hrun : ∀ o, x6_bestFrom_L95 (x6_BF m) (Int32.ofNat d) (Int32.ofNat left) (Int32.ofNat a) q fu (if x < 0 then 0 else x) (if x < 0 then 10 * Int32.ofNat a + Int32.ofNat w else y) (Int32.ofNat (w + 1)) I0 L R S = o → x6_bestFrom_L95 (x6_BF m) (Int32.ofNat d) (Int32.ofNat left) (Int32.ofNat a) q (fu + 1) x y (Int32.ofNat w) I L R S = o := by
          intro o ho
          rw [← ho]
          have hbt : x6_bestByTry (x6_BF m) (Int32.ofNat d) (Int32.ofNat left) (Int32.ofNat a) (Int32.ofNat w) I0 L R S = some (0, I0, L, R, S) := by
            simp only [x6_bestByTry, ck_pos h.1.1, z3, QB, if_false]
          have e10 : (10 : Int32) * Int32.ofNat a + Int32.ofNat w = Int32.ofNat (10 * a + w) := by rw [q_nmul, q_add]
          simp (disch := omega) only [x6_bestFrom_L95, x6_bestFrom_L95s, QN, QB, if_pos hw5, esec, if_neg hs, ck_pos h.1.1, h.1.2.2.1, ck_pos h.1.2.2.2.1, ck_pos (h.stt hd), h6, o1, b2i_0, hsc, if_true, hbt]
          by_cases hx : x < 0
          · simp only [if_pos hx]
          · simp only [if_neg hx]
        obtain ⟨x', y', I', L', R', S', a1, a2, a3⟩ := ih (w + 1) fu (if x < 0 then 0 else x) (if x < 0 then 10 * Int32.ofNat a + Int32.ofNat w else y) I0 L R S (by omega) (by omega) g0 (by rw [e0]; exact h6) z3
        exact ⟨x', y', I', L', R', S', hrun _ a1, n0.trans a2, a3⟩
      · have hsc' : scan D P b a w = false := by simpa using hsc
        obtain ⟨x', y', I', L', R', S', a1, a2, a3⟩ := ih (w + 1) fu x y I0 L R S (by omega) (by omega) g0 (by rw [e0]; exact h6) z3
        refine ⟨x', y', I', L', R', S', ?_, n0.trans a2, a3⟩
        simp (disch := omega) only [x6_bestFrom_L95, x6_bestFrom_L95s, QN, QB, if_pos hw5, esec, if_neg hs, ck_pos h.1.1, h.1.2.2.1, ck_pos h.1.2.2.2.1, ck_pos (h.stt hd), h6, o1, b2i_0, hsc', Bool.false_eq_true, if_false]
        exact a1
theorem c_L95 (hD : OkD D C) (hb : b < nB D) (hP : OkP D P) (hIH : BFok t D C b f m) {left a k : Nat} (hlf : left ≤ f + 1) (hdl : d + left ≤ 8) (hm : left ≤ m) (ha : a < nA D) : ∀ (j w fu : Nat) (I : MI) (L : ML) (R : MR) (S : MS), w + j = 5 → j < fu → Sd t d q D C P I R S → I 63 6 = Int32.ofNat b → k + (bfold (bs D C b f) D C b left P (5 * a + w)).2.2 ≤ 20000 → I 63 2 = Int32.ofNat (k + (bfold (bs D C b f) D C b left P (5 * a + w)).2.2) → I 63 3 = 0 → ∃ x' y' I' L' R' S', x6_bestFrom_L95 (x6_BF m) (Int32.ofNat d) (Int32.ofNat left) (Int32.ofNat a) q fu (Int32.ofNat (bfold (bs D C b f) D C b left P (5 * a + w)).1) (bc (bfold (bs D C b f) D C b left P (5 * a + w)).2.1) (Int32.ofNat w) I L R S = some (x', y', I', L', R', S') ∧ Nf t (d + 1) I L R S I' L' R' S' ∧ BL k (bfold (bs D C b f) D C b left P (5 * (a + 1))) x' y' I' := by
  have hA := hD.a
  intro j
  induction j with
  | zero =>
    intro w fu I L R S hw hfu h h6 hk h2 h3
    obtain ⟨fu, rfl⟩ : ∃ n', fu = n' + 1 := ⟨fu - 1, by omega⟩
    obtain rfl : w = 5 := by omega
    refine ⟨_, _, I, L, R, S, ?_, Nf.refl h.1, Or.inl ⟨hk, rfl, rfl, h2, h3⟩⟩
    simp only [x6_bestFrom_L95, x6_bestFrom_L95s]
    rw [if_neg (by decide)]
    rfl
  | succ j ih =>
    intro w fu I L R S hw hfu h h6 hk h2 h3
    obtain ⟨fu, rfl⟩ : ∃ n', fu = n' + 1 := ⟨fu - 1, by omega⟩
    have hw5 : w < 5 := by omega
    obtain ⟨s1, s2, s3⟩ := secn_k hw5
    have esec : ([1, 1, 2, 3, 1] : List Int32).getD w 0 = Int32.ofNat (secn w) := s1
    have eT1 : (5 * a + w) / 5 = a := by omega
    have eT2 : (5 * a + w) % 5 = w := by omega
    have n50 : ¬ 5 * a + w = 50 := by omega
    by_cases hs : left < secn w
    · have hno : bok D b left P (5 * a + w) = false := by
        simp only [bok, if_neg n50, eT1, eT2, Bool.and_eq_false_iff, decide_eq_false_iff_not]; left; omega
      have hf := bfold_no (re := bs D C b f) (C := C) hno
      rw [show 5 * a + w + 1 = 5 * a + (w + 1) by omega] at hf
      obtain ⟨x', y', I', L', R', S', a1, a2, a3⟩ := ih (w + 1) fu I L R S (by omega) (by omega) h h6 (by rw [hf]; exact hk) (by rw [hf]; exact h2) h3
      refine ⟨x', y', I', L', R', S', ?_, a2, a3⟩
      rw [hf] at a1
      simp (disch := omega) only [x6_bestFrom_L95, x6_bestFrom_L95s, QN, QB, if_pos hw5, esec, if_pos hs]
      exact a1
    · obtain ⟨I0, o1, g0, n0, e0⟩ := c_ktry hD hb hP h (by omega) ha hw5 L
      by_cases hsc : scan D P b a w = true
      · have hyes : bok D b left P (5 * a + w) = true := by
          simp only [bok, if_neg n50, eT1, eT2, hsc, Bool.and_true, decide_eq_true_eq]; omega
        obtain ⟨r, I1, L1, R1, S1, c1, c2, c3⟩ := c_bbt (T := 5 * a + w) hD hb hIH hlf hdl hm hP g0 (by rw [e0]; exact h6) (by rw [e0]; exact h2) (by rw [e0]; exact h3) hk (by rw [eT1]; exact ha) (by rw [eT2]; omega) (by rw [eT1, eT2]; exact hsc) L
        have hst : bfold (bs D C b f) D C b left P (5 * a + (w + 1)) = badd (bfold (bs D C b f) D C b left P (5 * a + w)) (5 * a + w) (bval (bodd D C P b (5 * a + w)) (bs D C b f (left - secn ((5 * a + w) % 5)) (bG P b (5 * a + w))).1 (bs D C b f (left - secn ((5 * a + w) % 5)) (bM D P b (5 * a + w))).1) ((bs D C b f (left - secn ((5 * a + w) % 5)) (bG P b (5 * a + w))).2.2 + (bs D C b f (left - secn ((5 * a + w) % 5)) (bM D P b (5 * a + w))).2.2) := by
          show bstep (bs D C b f) D C b left P (5 * a + w) _ = _
          simp only [bstep, hyes, if_true, if_neg n50]
          rfl
        rw [eT1, eT2] at c1
        rw [eT2] at hst c3
        generalize hv : bval (bodd D C P b (5 * a + w)) (bs D C b f (left - secn w) (bG P b (5 * a + w))).1 (bs D C b f (left - secn w) (bM D P b (5 * a + w))).1 = v at hst c3
        generalize hn : (bs D C b f (left - secn w) (bG P b (5 * a + w))).2.2 + (bs D C b f (left - secn w) (bM D P b (5 * a + w))).2.2 = n at hst c3
        have N1 := n0.trans c2
        have hv9 : v < 2147483648 := by
          have l1 := bs_le (D := D) (C := C) (b := b) f (left - secn w) (bG P b (5 * a + w))
          have l2 := bs_le (D := D) (C := C) (b := b) f (left - secn w) (bM D P b (5 * a + w))
          have l3 : (left - secn w) * 1000000 ≤ 8 * 1000000 := Nat.mul_le_mul_right _ (by omega)
          have l4 := Nat.le_trans l1 l3
          have l5 := Nat.le_trans l2 l3
          have := (bval_le (o := bodd D C P b (5 * a + w)) (X := 9000000) bodd_n.2 (show 1000000 + (bs D C b f (left - secn w) (bG P b (5 * a + w))).1 ≤ 9000000 by omega) (show (bs D C b f (left - secn w) (bM D P b (5 * a + w))).1 ≤ 9000000 by omega)).1
          rw [hv] at this
          omega
        have hm9 : (bfold (bs D C b f) D C b left P (5 * a + w)).1 < 2147483648 := by
          have l1 := bfold_le (re := bs D C b f) (D := D) (C := C) (b := b) (left := left) (P := P) (fun l P _ => bs_le f l P) (5 * a + w)
          have l3 : left * 1000000 ≤ 8 * 1000000 := Nat.mul_le_mul_right _ (by omega)
          have l4 := Nat.le_trans l1 l3
          omega
        have hrun : ∀ o, (if Int32.ofNat (bfold (bs D C b f) D C b left P (5 * a + w)).1 < r then x6_bestFrom_L95 (x6_BF m) (Int32.ofNat d) (Int32.ofNat left) (Int32.ofNat a) q fu r (Int32.ofNat (10 * a + w)) (Int32.ofNat (w + 1)) I1 L1 R1 S1 else x6_bestFrom_L95 (x6_BF m) (Int32.ofNat d) (Int32.ofNat left) (Int32.ofNat a) q fu (Int32.ofNat (bfold (bs D C b f) D C b left P (5 * a + w)).1) (bc (bfold (bs D C b f) D C b left P (5 * a + w)).2.1) (Int32.ofNat (w + 1)) I1 L1 R1 S1) = o → x6_bestFrom_L95 (x6_BF m) (Int32.ofNat d) (Int32.ofNat left) (Int32.ofNat a) q (fu + 1) (Int32.ofNat (bfold (bs D C b f) D C b left P (5 * a + w)).1) (bc (bfold (bs D C b f) D C b left P (5 * a + w)).2.1) (Int32.ofNat w) I L R S = o := by
          intro o ho
          rw [← ho]
          simp (disch := omega) only [x6_bestFrom_L95, x6_bestFrom_L95s, QN, QB, if_pos hw5, esec, if_neg hs, ck_pos h.1.1, h.1.2.2.1, ck_pos h.1.2.2.2.1, ck_pos (h.stt (show d < 9 by omega)), h6, o1, b2i_0, hsc, if_true, c1]
        have g1 := h.nf N1 (by omega)
        have h61 : I1 63 6 = Int32.ofNat b := by rw [N1.2.2.2]; exact h6
        rcases c3 with ⟨z1, z2, z3, z4⟩ | ⟨z1, z2⟩
        · have elk : (bfold (bs D C b f) D C b left P (5 * a + (w + 1))).2.2 = (bfold (bs D C b f) D C b left P (5 * a + w)).2.2 + n := by rw [hst]; rfl
          obtain ⟨x', y', I', L', R', S', a1, a2, a3⟩ := ih (w + 1) fu I1 L1 R1 S1 (by omega) (by omega) g1 h61 (by rw [elk]; omega) (by rw [elk, z3, Nat.add_assoc]) z4
          refine ⟨x', y', I', L', R', S', hrun _ ?_, N1.trans a2, a3⟩
          rw [hst] at a1
          rw [z2]
          simp only [q_lt hm9 hv9]
          simp only [badd] at a1
          by_cases hlt : (bfold (bs D C b f) D C b left P (5 * a + w)).1 < v
          · rw [if_pos hlt]
            rw [if_pos hlt, if_pos hlt] at a1
            rw [show Int32.ofNat (10 * a + w) = bc (some (5 * a + w)) by simp only [bc, Option.elim, if_neg n50, eT1, eT2]]
            exact a1
          · rw [if_neg hlt]
            rw [if_neg hlt, if_neg hlt] at a1
            exact a1
        · have hsp : ∀ x y, ∃ x' y' I' L' R' S', x6_bestFrom_L95 (x6_BF m) (Int32.ofNat d) (Int32.ofNat left) (Int32.ofNat a) q fu x y (Int32.ofNat (w + 1)) I1 L1 R1 S1 = some (x', y', I', L', R', S') ∧ Nf t (d + 1) I1 L1 R1 S1 I' L' R' S' ∧ I' 63 3 = 1 := fun x y => c_L95s hD hb hP (by omega) (by omega) ha j (w + 1) fu x y I1 L1 R1 S1 (by omega) (by omega) g1 h61 z2
          have hbig : 20000 < k + (bfold (bs D C b f) D C b left P (5 * (a + 1))).2.2 := by
            have l1 := bfold_mono (re := bs D C b f) (D := D) (C := C) (b := b) (left := left) (P := P) (5 * a + (w + 1)) (5 - (w + 1))
            rw [show 5 * a + (w + 1) + (5 - (w + 1)) = 5 * (a + 1) by omega, hst] at l1
            simp only [badd] at l1
            omega
          by_cases hlt : Int32.ofNat (bfold (bs D C b f) D C b left P (5 * a + w)).1 < r
          · obtain ⟨x', y', I', L', R', S', a1, a2, a3⟩ := hsp r (Int32.ofNat (10 * a + w))
            exact ⟨x', y', I', L', R', S', hrun _ (by rw [if_pos hlt]; exact a1), N1.trans a2, Or.inr ⟨hbig, a3⟩⟩
          · obtain ⟨x', y', I', L', R', S', a1, a2, a3⟩ := hsp (Int32.ofNat (bfold (bs D C b f) D C b left P (5 * a + w)).1) (bc (bfold (bs D C b f) D C b left P (5 * a + w)).2.1)
            exact ⟨x', y', I', L', R', S', hrun _ (by rw [if_neg hlt]; exact a1), N1.trans a2, Or.inr ⟨hbig, a3⟩⟩
      · have hsc' : scan D P b a w = false := by simpa using hsc
        have hno : bok D b left P (5 * a + w) = false := by
          simp only [bok, if_neg n50, eT1, eT2, hsc', Bool.and_false]
        have hf := bfold_no (re := bs D C b f) (C := C) hno
        rw [show 5 * a + w + 1 = 5 * a + (w + 1) by omega] at hf
        obtain ⟨x', y', I', L', R', S', a1, a2, a3⟩ := ih (w + 1) fu I0 L R S (by omega) (by omega) g0 (by rw [e0]; exact h6) (by rw [hf]; exact hk) (by rw [hf, e0]; exact h2) (by rw [e0]; exact h3)
        refine ⟨x', y', I', L', R', S', ?_, n0.trans a2, a3⟩
        rw [hf] at a1
        simp (disch := omega) only [x6_bestFrom_L95, x6_bestFrom_L95s, QN, QB, if_pos hw5, esec, if_neg hs, ck_pos h.1.1, h.1.2.2.1, ck_pos h.1.2.2.2.1, ck_pos (h.stt (show d < 9 by omega)), h6, o1, b2i_0, hsc', Bool.false_eq_true, if_false]
        exact a1
theorem c_L70 (hD : OkD D C) (hb : b < nB D) (hP : OkP D P) (hIH : BFok t D C b f m) {left k : Nat} (hlf : left ≤ f + 1) (hdl : d + left ≤ 8) (hm : left ≤ m) : ∀ (j w fu : Nat) (I : MI) (L : ML) (R : MR) (S : MS), w + j = nA D → j < fu → Sd t d q D C P I R S → I 63 6 = Int32.ofNat b → k + (bfold (bs D C b f) D C b left P (5 * w)).2.2 ≤ 20000 → I 63 2 = Int32.ofNat (k + (bfold (bs D C b f) D C b left P (5 * w)).2.2) → I 63 3 = 0 → ∃ x' y' I' L' R' S', x6_bestFrom_L70 (x6_BF m) (Int32.ofNat d) (Int32.ofNat left) q fu (Int32.ofNat (bfold (bs D C b f) D C b left P (5 * w)).1) (bc (bfold (bs D C b f) D C b left P (5 * w)).2.1) (Int32.ofNat w) I L R S = some (x', y', I', L', R', S') ∧ Nf t (d + 1) I L R S I' L' R' S' ∧ BL k (bfold (bs D C b f) D C b left P (5 * nA D)) x' y' I' := by
  have hA := hD.a
  intro j
  induction j with
  | zero =>
    intro w fu I L R S hw hfu h h6 hk h2 h3
    obtain ⟨fu, rfl⟩ : ∃ n', fu = n' + 1 := ⟨fu - 1, by omega⟩
    obtain rfl : w = nA D := by omega
    refine ⟨_, _, I, L, R, S, ?_, Nf.refl h.1, Or.inl ⟨hk, rfl, rfl, h2, h3⟩⟩
    simp (disch := omega) only [x6_bestFrom_L70, x6_bestFrom_L70s, ck_pos h.1.1, h.1.2.2.1, QB, ck_pos h.1.2.2.2.1, h.2.1.1.2.2.2.2.1, hD.2.1.1.1, QN, Nat.lt_irrefl, if_false]
  | succ j ih =>
    intro w fu I L R S hw hfu h h6 hk h2 h3
    obtain ⟨fu, rfl⟩ : ∃ n', fu = n' + 1 := ⟨fu - 1, by omega⟩
    have hwA : w < nA D := by omega
    obtain ⟨x1, y1, I1, L1, R1, S1, a1, a2, a3⟩ := c_L95 hD hb hP hIH hlf hdl hm hwA 5 0 FU I L R S (by omega) (by unfold FU; omega) h h6 hk h2 h3
    rw [show Int32.ofNat 0 = 0 from rfl, show 5 * w + 0 = 5 * w from rfl] at a1
    have g1 := h.nf a2 (by omega)
    have hrun : ∀ o, x6_bestFrom_L70 (x6_BF m) (Int32.ofNat d) (Int32.ofNat left) q fu x1 y1 (Int32.ofNat (w + 1)) I1 L1 R1 S1 = o → x6_bestFrom_L70 (x6_BF m) (Int32.ofNat d) (Int32.ofNat left) q (fu + 1) (Int32.ofNat (bfold (bs D C b f) D C b left P (5 * w)).1) (bc (bfold (bs D C b f) D C b left P (5 * w)).2.1) (Int32.ofNat w) I L R S = o := by
      intro o ho
      rw [← ho]
      simp (disch := omega) only [x6_bestFrom_L70, x6_bestFrom_L70s, ck_pos h.1.1, h.1.2.2.1, QB, ck_pos h.1.2.2.2.1, h.2.1.1.2.2.2.2.1, hD.2.1.1.1, QN, if_pos hwA, h3, if_true, a1]
    rcases a3 with ⟨z1, z2, z3, z4, z5⟩ | ⟨z1, z2⟩
    · obtain ⟨x', y', I', L', R', S', c1, c2, c3⟩ := ih (w + 1) fu I1 L1 R1 S1 (by omega) (by omega) g1 (by rw [a2.2.2.2]; exact h6) z1 z4 z5
      exact ⟨x', y', I', L', R', S', hrun _ (by rw [z2, z3]; exact c1), a2.trans c2, c3⟩
    · obtain ⟨fu, rfl⟩ : ∃ n', fu = n' + 1 := ⟨fu - 1, by omega⟩
      refine ⟨x1, y1, I1, L1, R1, S1, hrun _ ?_, a2, Or.inr ⟨?_, z2⟩⟩
      · simp only [x6_bestFrom_L70, x6_bestFrom_L70s, ck_pos g1.1.1, g1.1.2.2.1, QB, ck_pos g1.1.2.2.2.1, z2, if_false]
        split <;> rfl
      · have l1 := bfold_mono (re := bs D C b f) (D := D) (C := C) (b := b) (left := left) (P := P) (5 * (w + 1)) (5 * nA D - 5 * (w + 1))
        rw [show 5 * (w + 1) + (5 * nA D - 5 * (w + 1)) = 5 * nA D by omega] at l1
        omega
end NF
