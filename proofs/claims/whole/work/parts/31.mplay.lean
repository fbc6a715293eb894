/-! THE REFERENCE'S PLAY, 3: choice, got, pushed, missed, a try, a turn -/
def mw (o : Option (Nat × Int32)) : Int32 := match o with
  | none => -1
  | some (t, _) => Int32.ofNat t
theorem pos_ne0 : ∀ j, j < 8 → ∀ k, k < 8 → (j = k ∨ ¬ Int32.ofNat j * 1 = Int32.ofNat k * 1) ∧ (j = k ∨ ¬ Int32.ofNat j * (-1) = Int32.ofNat k * (-1)) := by decide +kernel
theorem i_cancel {x u v : Int32} (h : x + u = x + v) : u = v := by
  have := congrArg (fun z => z - x) h
  simpa [Int32.add_comm x u, Int32.add_comm x v, Int32.add_sub_cancel] using this
theorem pos_ne {x y sx sy : Int32} (h : isw sx sy) {j k : Nat} (hj : j < 8) (hk : k < 8) (hjk : j ≠ k) : ¬ (x + Int32.ofNat j * sx = x + Int32.ofNat k * sx ∧ y + Int32.ofNat j * sy = y + Int32.ofNat k * sy) := by
  intro ⟨h1, h2⟩
  have h1 := i_cancel h1
  have h2 := i_cancel h2
  obtain ⟨p1, p2⟩ := pos_ne0 j hj k hk
  rcases h with ⟨e1, e2⟩ | ⟨e1, e2⟩ | ⟨e1, e2⟩ | ⟨e1, e2⟩ <;> subst e1 <;> subst e2
  · rcases p1 with p | p
    · exact hjk p
    · exact p h1
  · rcases p2 with p | p
    · exact hjk p
    · exact p h1
  · rcases p1 with p | p
    · exact hjk p
    · exact p h2
  · rcases p2 with p | p
    · exact hjk p
    · exact p h2
theorem i_back (x s : Int32) (n : Nat) : x + Int32.ofNat (n + 1) * s - s = x + Int32.ofNat n * s := by
  rw [i_step, Int32.add_sub_cancel]
section MR
variable {D : TD} {C : TC} {P : PR} {I : MI} {b a k : Nat}
theorem m_choiceL {r : Nat} (hD : OkD D C) (hb : b < nB D) (hr : r < nR D ∨ nR D = 0) : ∀ (j w n : Nat) (I : MI), w + j = 5 * nA D → j < n → Rd I D C → Wr I P →
    ∃ I', x11_choice_L8 (Int32.ofNat b) (Int32.ofNat r) n (mw (schs D C P b r w)) (cm (schs D C P b r w)) (Int32.ofNat w) I = some (mw (schs D C P b r (5 * nA D)), I') ∧ Fq I I' := by
  have hA := hD.a
  have hR6 := hD.r
  intro j
  induction j with
  | zero =>
    intro w n I hw hn hR hW
    obtain ⟨n, rfl⟩ : ∃ n', n = n' + 1 := ⟨n - 1, by omega⟩
    obtain rfl : w = 5 * nA D := by omega
    refine ⟨I, ?_, Fq.refl⟩
    simp (disch := omega) only [x11_choice_L8, x11_choice_L8s, hR.1.2.2.2.1, hD.2.1.1.1, QN]
    simp
  | succ j ih =>
    intro w n I hw hn hR hW
    obtain ⟨n, rfl⟩ : ∃ n', n = n' + 1 := ⟨n - 1, by omega⟩
    obtain ⟨I1, g1, f1⟩ := m_canTry (k := w % 5) hD hR hW hb (show w / 5 < nA D by omega) (by omega)
    have hR1 := f1.m.rd hR
    have hW1 := f1.wr hW
    have hst : schs D C P b r (w + 1) = if scan D P b (w / 5) (w % 5) then sbet (schs D C P b r w) w (sworth D C P b (w / 5) (w % 5) r) else schs D C P b r w := rfl
    simp (disch := omega) only [x11_choice_L8, x11_choice_L8s, hR.1.2.2.2.1, hD.2.1.1.1, QB, QN, if_pos (show w < 5 * nA D by omega), g1, b2i_0]
    by_cases hc : scan D P b (w / 5) (w % 5) = true
    · simp only [hc, if_true] at hst ⊢
      have hwo : ∃ I2, (if I1 102 59 = 0 then some ((0 : Int32), I1) else b2 (x11_oddsOf (Int32.ofNat b) (Int32.ofNat (w / 5)) (Int32.ofNat (w % 5)) I1) fun r7 I8 => b2 (x11_worked (Int32.ofNat (5 + r)) (Int32.ofNat b) (Int32.ofNat (w / 5)) (Int32.ofNat (w % 5)) r7 I8) fun r9 I10 => some (r9, I10)) = some (sworth D C P b (w / 5) (w % 5) r, I2) ∧ Fq I1 I2 := by
        rw [hR1.1.2.2.2.2.2, hD.2.1.2.2.1]
        simp (disch := omega) only [q_eqn]
        by_cases h0 : nR D = 0
        · exact ⟨I1, by rw [if_pos h0, sworth, if_pos h0], Fq.refl⟩
        · have hr' : r < nR D := by omega
          obtain ⟨I2, k1, k2⟩ := m_odds (k := w % 5) hD hR1 hW1 hb (show w / 5 < nA D by omega) (by omega)
          obtain ⟨I3, k3, k4⟩ := m_worked (kd := Int32.ofNat (w % 5)) (od := sodds D C P b (w / 5) (w % 5)) hD (k2.m.rd hR1) (k2.wr hW1) hb (show w / 5 < nA D by omega) (show 5 + r < 11 by omega) ((k2.m.rd hR1).2.2.2.2 r hr') (hD.2.2.2.2.2.2.2 r hr')
          refine ⟨I3, ?_, k2.trans ⟨fun c h _ => k4 c h, fun j _ _ => by rw [k4 102 (by omega)]⟩⟩
          rw [if_neg h0, k1, q_b2, k3, q_b2, sworth, if_neg h0]
      obtain ⟨I2, w1, w2⟩ := hwo
      rw [w1, q_b1]
      have f2 := f1.trans w2
      obtain ⟨I3, k1, k2⟩ := ih (w + 1) n I2 (by omega) (by omega) (f2.m.rd hR) (f2.wr hW)
      refine ⟨I3, ?_, f2.trans k2⟩
      rw [hst] at k1
      cases ho : schs D C P b r w with
      | none =>
        simp only [ho, sbet] at k1 ⊢
        rw [if_pos (show mw none < 0 from by decide)]
        exact k1
      | some p =>
        obtain ⟨u, v⟩ := p
        have hu := schs_lt ho
        simp only [ho, sbet] at k1 ⊢
        rw [if_neg (show ¬ mw (some (u, v)) < 0 from by simp only [mw, q_neg (show u < 2147483648 by omega)]; exact id)]
        by_cases hv : v < sworth D C P b (w / 5) (w % 5) r
        · rw [if_pos hv] at k1
          rw [if_pos (show cm (some (u, v)) < sworth D C P b (w / 5) (w % 5) r from hv)]
          exact k1
        · rw [if_neg hv] at k1
          rw [if_neg (show ¬ cm (some (u, v)) < sworth D C P b (w / 5) (w % 5) r from hv)]
          exact k1
    · have hc' : scan D P b (w / 5) (w % 5) = false := by simpa using hc
      simp only [hc', Bool.false_eq_true, if_false] at hst ⊢
      obtain ⟨I3, k1, k2⟩ := ih (w + 1) n I1 (by omega) (by omega) hR1 hW1
      refine ⟨I3, ?_, f1.trans k2⟩
      rw [hst] at k1
      exact k1
theorem m_choice {r : Nat} (hD : OkD D C) (hR : Rd I D C) (hW : Wr I P) (hb : b < nB D) (hr : r < nR D ∨ nR D = 0) : ∃ I', x11_choice (Int32.ofNat b) (Int32.ofNat r) I = some (mw (schs D C P b r (5 * nA D)), I') ∧ Fq I I' := by
  have hA := hD.a
  obtain ⟨I', k1, k2⟩ := m_choiceL (P := P) (C := C) hD hb hr (5 * nA D) 0 FU I (by omega) (by unfold FU; omega) hR hW
  refine ⟨I', ?_, k2⟩
  rw [show mw (schs D C P b r 0) = -1 from rfl, show cm (schs D C P b r 0) = 0 from rfl, show Int32.ofNat 0 = 0 from rfl] at k1
  simp only [x11_choice, QB, k1]
/-! got, missed -/
theorem m_spend (hD : OkD D C) (hW : Wr I P) (hb : b < nB D) (hk : k < 5) : ∃ I', x11_spend (Int32.ofNat b) (Int32.ofNat k) I = some I' ∧ Wr I' (upd (spsec P b k) (50 + 3 * b) (P (50 + 3 * b) - sbr k)) ∧ Fm I I' := by
  have hB := hD.b
  have e : (52 + 3 * b ≠ 50 + 3 * b) := by omega
  simp (disch := omega) only [x11_spend, QB, QN, hW.1, m_br hk, m_sec hk, wI_ne (Or.inr e)]
  refine ⟨_, rfl, ?_, Fm.refl.w.w⟩
  rw [spsec, ← upd_comm (by omega)]
  exact (hW.w (by omega)).w (by omega)
theorem m_get (hD : OkD D C) (hW : Wr I P) (hb : b < nB D) (ha : a < nA D) (hk : k < 5) : ∃ I', x11_get (Int32.ofNat b) (Int32.ofNat a) (Int32.ofNat k) I = some I' ∧ Wr I' (sget (spsec P b k) b a k) ∧ Fm I I' := by
  have hA := hD.a
  have hB := hD.b
  obtain ⟨I1, h1, h2, h3⟩ := m_spend hD hW hb hk
  have e : 51 + 3 * b ≠ 5 * a + 2 := by omega
  simp (disch := omega) only [x11_get, h1, QB, QN, wI_ne (Or.inr e), h2.1]
  refine ⟨_, rfl, ?_, h3.w.w⟩
  have e1 : spsec P b k (50 + 3 * b) = P (50 + 3 * b) := upd_ne (by omega)
  have e2 : spsec P b k (51 + 3 * b) = P (51 + 3 * b) := upd_ne (by omega)
  rw [sget, e1, e2]
  have e3 : upd (spsec P b k) (50 + 3 * b) (P (50 + 3 * b) - sbr k) (51 + 3 * b) = P (51 + 3 * b) := by rw [upd_ne (by omega), e2]
  rw [e3]
  exact (h2.w (by omega)).w (by omega)
theorem m_rowL (hD : OkD D C) (hR : Rd I D C) (hW : Wr I P) {x y sx sy : Int32} (hx : I 102 68 = sx) (hy : I 102 69 = sy) (h6 : scell D (x + Int32.ofNat 6 * sx) (y + Int32.ofNat 6 * sy) = false) : ∀ (j w n : Nat), w + j = 6 → j < n → x11_push_L34 I n (x + Int32.ofNat w * sx) (y + Int32.ofNat w * sy) (Int32.ofNat w) = some (x + Int32.ofNat (srow D P x y sx sy (j + 1) w) * sx, y + Int32.ofNat (srow D P x y sx sy (j + 1) w) * sy, Int32.ofNat (srow D P x y sx sy (j + 1) w)) := by
  have hA := hD.a
  intro j
  induction j with
  | zero =>
    intro w n hw hn
    obtain ⟨n, rfl⟩ : ∃ n', n = n' + 1 := ⟨n - 1, by omega⟩
    obtain rfl : w = 6 := by omega
    simp only [x11_push_L34, x11_push_L34s, m_cell hD hR, QB, b2i_0, h6, srow, Bool.false_and, Bool.false_eq_true, if_false]
  | succ j ih =>
    intro w n hw hn
    obtain ⟨n, rfl⟩ : ∃ n', n = n' + 1 := ⟨n - 1, by omega⟩
    have hi := ih (w + 1) n (by omega) (by omega)
    rw [i_step, i_step] at hi
    rw [srow]
    simp only [x11_push_L34, x11_push_L34s, m_cell hD hR, m_afloat hD hR hW, QB, b2i_0]
    simp only [oi_lt0 (P := P) (x := x + Int32.ofNat w * sx) (y := y + Int32.ofNat w * sy) hA, hx, hy]
    cases hs : scell D (x + Int32.ofNat w * sx) (y + Int32.ofNat w * sy) with
    | false => simp
    | true =>
      cases hs2 : sat P (x + Int32.ofNat w * sx) (y + Int32.ofNat w * sy) (nA D) with
      | none => simp
      | some c =>
        simp only [if_true, Option.isSome_some, Bool.true_eq_false, if_false, Bool.and_self]
        rw [show Int32.ofNat w + 1 = Int32.ofNat (w + 1) from q_addn]
        exact hi
theorem m_pshL (hD : OkD D C) {x y sx sy : Int32} (hw : isw sx sy) {r : Nat} (hr : r ≤ 6) : ∀ (k n : Nat) (P : PR) (I : MI), k < n → k ≤ r → Rd I D C → Wr I P → OkP D P → I 102 68 = sx → I 102 69 = sy → sat P (x + Int32.ofNat k * sx) (y + Int32.ofNat k * sy) (nA D) = none → (∀ j, j ≤ k → scell D (x + Int32.ofNat j * sx) (y + Int32.ofNat j * sy) = true) → (∀ j, j < k → (sat P (x + Int32.ofNat j * sx) (y + Int32.ofNat j * sy) (nA D)).isSome = true) →
    ∃ I', x11_push_L90 (Int32.ofNat r) n (x + Int32.ofNat k * sx) (y + Int32.ofNat k * sy) (Int32.ofNat (r - k)) I = some I' ∧ Wr I' (spsh D x y sx sy k P) ∧ Fm I I' := by
  have hA := hD.a
  intro k
  induction k with
  | zero =>
    intro n P I hn hk hR hW hP hx hy h1 h2 h3
    obtain ⟨n, rfl⟩ : ∃ n', n = n' + 1 := ⟨n - 1, by omega⟩
    refine ⟨I, ?_, hW, Fm.refl⟩
    simp (disch := omega) only [x11_push_L90, x11_push_L90s, QN]
    rw [if_neg (by omega)]
  | succ k ih =>
    intro n P I hn hk hR hW hP hx hy h1 h2 h3
    obtain ⟨n, rfl⟩ : ∃ n', n = n' + 1 := ⟨n - 1, by omega⟩
    have hsm := h3 k (by omega)
    cases hs : sat P (x + Int32.ofNat k * sx) (y + Int32.ofNat k * sy) (nA D) with
    | none => rw [hs] at hsm; cases hsm
    | some p =>
      obtain ⟨g1, g2, g3, g4⟩ := sat_some hs
      obtain ⟨⟨x1, hx1, e1⟩, ⟨y1, hy1, e2⟩⟩ := scell_i hD (h2 (k + 1) (by omega))
      have hn := sat_left hP g1 g2 (x := x + Int32.ofNat (k + 1) * sx) (y := y + Int32.ofNat (k + 1) * sy) (by
        rw [g3, g4, i_step, i_step]
        exact step_ne hw)
      rw [g3, g4] at hn
      have hP1 : OkP D (smv P p (x + Int32.ofNat (k + 1) * sx) (y + Int32.ofNat (k + 1) * sy)) := by
        rw [e1, e2] at h1 ⊢
        exact hP.mv g1 hD.a hx1 hy1 h1
      have f1 : Fm I (wI (wI I 137 (5 * p) (x + Int32.ofNat (k + 1) * sx)) 137 (5 * p + 1) (y + Int32.ofNat (k + 1) * sy)) := Fm.refl.w.w
      have hW1 : Wr (wI (wI I 137 (5 * p) (x + Int32.ofNat (k + 1) * sx)) 137 (5 * p + 1) (y + Int32.ofNat (k + 1) * sy)) (smv P p (x + Int32.ofNat (k + 1) * sx) (y + Int32.ofNat (k + 1) * sy)) := (hW.w (by omega)).w (by omega)
      obtain ⟨I', k1, k2, k3⟩ := ih n _ _ (by omega) (by omega) (f1.rd hR) hW1 hP1 (by rw [wI_c (by omega), wI_c (by omega)]; exact hx) (by rw [wI_c (by omega), wI_c (by omega)]; exact hy) hn (fun j hj => h2 j (by omega)) (fun j hj => by
        have := h3 j (by omega)
        cases hs2 : sat P (x + Int32.ofNat j * sx) (y + Int32.ofNat j * sy) (nA D) with
        | none => rw [hs2] at this; cases this
        | some c =>
          obtain ⟨c1, c2, c3, c4⟩ := sat_some hs2
          have hcp : c ≠ p := fun e => by
            subst e
            exact pos_ne hw (j := j) (k := k) (by omega) (by omega) (by omega) ⟨c3.symm.trans g3, c4.symm.trans g4⟩
          rw [hP1.fnd c1 (by rw [smv_o (by omega) (by omega)]; exact c2) (by rw [smv_x, if_neg hcp]; exact c3) (by rw [smv_y, if_neg hcp]; exact c4)]
          rfl)
      refine ⟨I', ?_, ?_, f1.trans k3⟩
      · have er : Int32.ofNat (r - (k + 1)) + 1 = Int32.ofNat (r - k) := by rw [show Int32.ofNat (r - (k + 1)) + 1 = Int32.ofNat (r - (k + 1) + 1) from q_addn]; congr 1; omega
        have c1 : (102 : Nat) ≠ 137 := by omega
        simp (disch := omega) only [x11_push_L90, x11_push_L90s, hx, hy, i_back, m_afloat hD hR hW, hs, oi, QB, wI_c c1]
        rw [if_pos (by rw [q_lt (by omega) (by omega)]; omega)]
        simp (disch := omega) only [QN, QB, er]
        exact k1
      · simp only [spsh, hs]
        exact k2
theorem srow_some (x y sx sy : Int32) : ∀ (f n : Nat), (∀ j, j < n → (sat P (x + Int32.ofNat j * sx) (y + Int32.ofNat j * sy) (nA D)).isSome = true) → ∀ j, j < srow D P x y sx sy f n → (sat P (x + Int32.ofNat j * sx) (y + Int32.ofNat j * sy) (nA D)).isSome = true
  | 0, n, h => h
  | f + 1, n, h => by
    simp only [srow]
    by_cases hc : (scell D (x + Int32.ofNat n * sx) (y + Int32.ofNat n * sy) && (sat P (x + Int32.ofNat n * sx) (y + Int32.ofNat n * sy) (nA D)).isSome) = true
    · rw [if_pos hc]
      exact srow_some x y sx sy f (n + 1) (fun j hj => by
        by_cases e : j = n
        · subst e; simp only [Bool.and_eq_true] at hc; exact hc.2
        · exact h j (by omega))
    · rw [if_neg hc]; exact h
theorem m_push (hD : OkD D C) (hR : Rd I D C) (hW : Wr I P) (hP : OkP D P) (hb : b < nB D) (ha : a < nA D) : ∃ I', x11_push (Int32.ofNat b) (Int32.ofNat a) I = some I' ∧ Wr I' (spush D P b a) ∧ Fm I I' := by
  have hA := hD.a
  have f1 : Fq I (wI (wI I 102 68 (swx P b a)) 102 69 (swy P b a)) := (Fq.refl.w102 (Or.inl rfl)).w102 (Or.inr rfl)
  have hW1 := f1.wr hW
  have hR1 := f1.m.rd hR
  by_cases h0 : sdx P b a = 0 ∧ sdy P b a = 0
  · refine ⟨_, ?_, ?_, f1.m⟩
    · simp only [x11_push, m_way hD hW hb ha, QB, b2i_0, h0, and_self, not_true, decide_false, Bool.false_eq_true, if_false]
    · rw [spush, if_pos h0]; exact hW1
  · have hw := sway_isw hD hP hb ha h0
    obtain ⟨⟨x, hx1, e1⟩, ⟨y, hy1, e2⟩, -⟩ := hP.1 a ha
    have c6 := cell6 hD hx1 hy1 hw
    rw [← e1, ← e2] at c6
    obtain ⟨r1, r2, r3⟩ := srow_7 hD hP hb ha h0 _ rfl
    have w2 : wI (wI I 102 68 (swx P b a)) 102 69 (swy P b a) 102 68 = swx P b a := by simp [wI]
    have w3 : wI (wI I 102 68 (swx P b a)) 102 69 (swy P b a) 102 69 = swy P b a := by simp [wI]
    have hL := m_rowL hD hR1 hW1 w2 w3 c6 6 0 FU (by omega) (by unfold FU; omega)
    rw [i_zero, i_zero, show Int32.ofNat 0 = 0 from rfl] at hL
    have r6 := srow_some (D := D) (P := P) (P (5 * a)) (P (5 * a + 1)) (swx P b a) (swy P b a) 7 0 (fun j hj => by omega)
    simp only [spush, if_neg h0]
    generalize hr : srow D P (P (5 * a)) (P (5 * a + 1)) (swx P b a) (swy P b a) 7 0 = r at *
    simp (disch := omega) only [x11_push, m_way hD hW hb ha, QB, QN, b2i_0, h0, not_false_eq_true, decide_true, if_true, hW1.1, hL, hr, m_cell hD hR1]
    by_cases hc : scell D (P (5 * a) + Int32.ofNat r * swx P b a) (P (5 * a + 1) + Int32.ofNat r * swy P b a) = true
    · simp only [hc, if_true]
      obtain ⟨r4, r5⟩ := r3 hc
      obtain ⟨I', k1, k2, k3⟩ := m_pshL hD hw r1 r FU P _ (by unfold FU; omega) (Nat.le_refl _) hR1 hW1 hP w2 w3 r5 (fun j hj => by
        by_cases e : j = r
        · rw [e]; exact hc
        · exact r2 j (by omega)) r6
      rw [show r - r = 0 by omega, show Int32.ofNat 0 = 0 from rfl] at k1
      rw [k1]
      exact ⟨I', rfl, k2, f1.m.trans k3⟩
    · simp only [hc, Bool.false_eq_true, if_false]
      exact ⟨_, rfl, hW1, f1.m⟩
end MR
