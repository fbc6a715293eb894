/-! CALLS, 34: waves that bring an apple to a cell, in the reference; the call -/
def wrun (D : TD) : List Nat → PR → PR
  | [], P => P
  | c :: l, P => wrun D l (swv D c 5 (0, P)).2
section WV
variable {t : Nat} {I I' : MI} {L : ML} {R : MR} {S : MS} {D : TD} {C : TC} {P : PR} {Z : AX} {a x y : Nat}
theorem grun_w : ∀ (l : List Nat) (P : PR), grun (wF D) (wG a x y) l P = wG a x y (wrun D l P)
  | [], _ => rfl
  | c :: l, P => by
    show ((wF D c P).elim false (fun Q => grun (wF D) (wG a x y) l Q)) = _
    exact grun_w l _
theorem pow4 : ∀ k, k < 7 → 4 ^ k ≤ 4096 ∧ 4 ^ k = 2 ^ (2 * k) := by decide
theorem m_comL {num : Nat} (hn : num < 4096) (hD : OkD D C) : ∀ (k fu : Nat) (I : MI) (P : PR), k < fu → k ≤ 6 → Rd I D C → Wr I P → OkP D P → ∃ I', x11_comes_L10 (Int32.ofNat num) fu (Int32.ofNat k - 1) I = some I' ∧ Wr I' (wrun D (odl 4 k num) P) ∧ Fm I I' := by
  intro k
  induction k with
  | zero =>
    intro fu I P hfu hk hR hW hP
    obtain ⟨fu, rfl⟩ : ∃ n', fu = n' + 1 := ⟨fu - 1, by omega⟩
    refine ⟨I, ?_, hW, Fm.refl⟩
    simp only [x11_comes_L10, x11_comes_L10s]
    rw [if_pos (by decide)]
  | succ k ih =>
    intro fu I P hfu hk hR hW hP
    obtain ⟨fu, rfl⟩ : ∃ n', fu = n' + 1 := ⟨fu - 1, by omega⟩
    have hc : num / 4 ^ k % 4 < 4 := Nat.mod_lt _ (by omega)
    obtain ⟨I1, a1, a2, a3⟩ := m_waves hD hR hW hP hc
    obtain ⟨I2, b1', b2', b3'⟩ := ih fu I1 _ (by omega) (by omega) (a3.rd hR) a2 (OkP.wv hD hc 5 (0, P) (Nat.le_refl _) hP)
    refine ⟨I2, ?_, by rw [odl_s]; exact b2', a3.trans b3'⟩
    simp (disch := omega) only [x11_comes_L10, x11_comes_L10s, q_ps, q_neg, if_false, q_nmul, two_n hn (show k < 6 by omega), a1, QB, q_pm]
    exact b1'
theorem m_comes {num n : Nat} (hn : num < 4096) (hn6 : n ≤ 6) (hD : OkD D C) (ha : a < nA D) (hR : Rd I D C) (hN : Nw I P) (hP : OkP D P) : ∃ I', x11_comes (Int32.ofNat a) (Int32.ofNat x) (Int32.ofNat y) (Int32.ofNat n) (Int32.ofNat num) I = some (b2i (grun (wF D) (wG a x y) (odl 4 n num) P), I') ∧ Fm I I' := by
  have hA := hD.a
  obtain ⟨I1, l1, l2, l3⟩ := m_loadN hN
  have f1 : Fm I I1 := Fm.of137 l3
  obtain ⟨I2, a1, a2, a3⟩ := m_comL hn hD n FU I1 P (by unfold FU; omega) hn6 (f1.rd hR) l2 hP
  refine ⟨I2, ?_, f1.trans a3⟩
  have e1 : I2 137 (5 * a) = wrun D (odl 4 n num) P (5 * a) := a2.1 _ (by omega)
  have e2 : I2 137 (5 * a + 1) = wrun D (odl 4 n num) P (5 * a + 1) := a2.1 _ (by omega)
  rw [grun_w]
  simp (disch := omega) only [x11_comes, l1, QB, a1, QN, e1, e2]
  by_cases h1 : wrun D (odl 4 n num) P (5 * a) = Int32.ofNat x
  · by_cases h2 : wrun D (odl 4 n num) P (5 * a + 1) = Int32.ofNat y
    · simp [wG, h1, h2, b2i]
    · simp [wG, h1, h2, b2i]
  · simp [wG, h1, b2i]
theorem m_wlL {num n : Nat} (hn : num < 4096) (hn6 : n ≤ 6) : ∀ (j w fu : Nat) (I : MI), w + j = n → j < fu → (∀ i, i < w → I 149 i = Int32.ofNat ((odl 4 n num).getD i 0)) → ∃ I', x11_waves_L81 (Int32.ofNat n) (Int32.ofNat num) fu (Int32.ofNat w) I = some I' ∧ (∀ i, i < n → I' 149 i = Int32.ofNat ((odl 4 n num).getD i 0)) ∧ ∀ c, c ≠ 149 → I' c = I c := by
  intro j
  induction j with
  | zero =>
    intro w fu I hw hfu h
    obtain ⟨fu, rfl⟩ : ∃ n', fu = n' + 1 := ⟨fu - 1, by omega⟩
    obtain rfl : w = n := by omega
    refine ⟨I, ?_, h, fun _ _ => rfl⟩
    simp (disch := omega) only [x11_waves_L81, x11_waves_L81s, QN]
    rw [if_neg (by omega)]
  | succ j ih =>
    intro w fu I hw hfu h
    obtain ⟨fu, rfl⟩ : ∃ n', fu = n' + 1 := ⟨fu - 1, by omega⟩
    obtain ⟨I', h1, h2, h3⟩ := ih (w + 1) fu (wI I 149 w (Int32.ofNat (num / 4 ^ (n - 1 - w) % 4))) (by omega) (by omega) (fun i hi => by
      by_cases e : i = w
      · subst e; rw [wI_at, odl_at (by omega)]
      · rw [wI_ne (by omega)]; exact h i (by omega))
    refine ⟨I', ?_, h2, fun c hc => by rw [h3 c hc, wI_c hc]⟩
    have e : Int32.ofNat n - 1 = Int32.ofNat (n - 1) := by rw [q_subn (show (OfNat.ofNat 1 : Nat) ≤ n by show 1 ≤ n; omega)]
    simp (disch := omega) only [x11_waves_L81, x11_waves_L81s, QN, QB, if_pos (show w < n by omega), e, q_sub (show w ≤ n - 1 by omega), two_n hn (show n - 1 - w < 6 by omega)]
    exact h1
theorem m_wnL {n : Nat} (hn6 : n ≤ 6) (hD : OkD D C) (ha : a < nA D) (hP : OkP D P) : ∀ (j w fu : Nat) (I : MI), w + j = 4 ^ n → j < fu → Rd I D C → Nw I P → gfst (fun num => glist (wF D) (wG a x y) P (odl 4 n num)) w = none → ∃ I', (gfst (fun num => glist (wF D) (wG a x y) P (odl 4 n num)) (4 ^ n) = none ∧ x11_waves_L50 (Int32.ofNat a) (Int32.ofNat x) (Int32.ofNat y) (Int32.ofNat n) fu (Int32.ofNat w) I = some (.inl I') ∧ Fm I I') ∨ (∃ l, gfst (fun num => glist (wF D) (wG a x y) P (odl 4 n num)) (4 ^ n) = some l ∧ x11_waves_L50 (Int32.ofNat a) (Int32.ofNat x) (Int32.ofNat y) (Int32.ofNat n) fu (Int32.ofNat w) I = some (.inr (Int32.ofNat n, I')) ∧ I' 102 85 = Int32.ofNat n ∧ (∀ i, i < n → I' 149 i = Int32.ofNat (l.getD i 0)) ∧ Kr' I I') := by
  have hp := pow4 n (by omega)
  intro j
  induction j with
  | zero =>
    intro w fu I hw hfu hR hN hg
    obtain ⟨fu, rfl⟩ : ∃ n', fu = n' + 1 := ⟨fu - 1, by omega⟩
    obtain rfl : w = 4 ^ n := by omega
    refine ⟨I, Or.inl ⟨hg, ?_, Fm.refl⟩⟩
    simp (disch := omega) only [x11_waves_L50, x11_waves_L50s, q_nmul, shl_n (2 * n) (by omega), ← hp.2, q_lt]
    rw [if_neg (by omega)]
  | succ j ih =>
    intro w fu I hw hfu hR hN hg
    obtain ⟨fu, rfl⟩ : ∃ n', fu = n' + 1 := ⟨fu - 1, by omega⟩
    obtain ⟨I1, a1, a2⟩ := m_comes (x := x) (y := y) (show w < 4096 by omega) hn6 hD ha hR hN hP
    cases hgr : grun (wF D) (wG a x y) (odl 4 n w) P with
    | false =>
      have hg1 : gfst (fun num => glist (wF D) (wG a x y) P (odl 4 n num)) (w + 1) = none := gfst_n1 hg (by simp only [glist, hgr]; rfl)
      obtain ⟨I2, h2⟩ := ih (w + 1) fu I1 (by omega) (by omega) (a2.rd hR) (a2.nw hN) hg1
      have hrun : x11_waves_L50 (Int32.ofNat a) (Int32.ofNat x) (Int32.ofNat y) (Int32.ofNat n) (fu + 1) (Int32.ofNat w) I = x11_waves_L50 (Int32.ofNat a) (Int32.ofNat x) (Int32.ofNat y) (Int32.ofNat n) fu (Int32.ofNat (w + 1)) I1 := by
        rw [hgr] at a1
        simp (disch := omega) only [x11_waves_L50, x11_waves_L50s, q_nmul, shl_n (2 * n) (by omega), ← hp.2, q_lt, if_pos (show w < 4 ^ n by omega), a1, QB, b2i_0, Bool.false_eq_true, if_false, q_addn]
      rw [hrun]
      rcases h2 with ⟨g1, g2, g3⟩ | ⟨l, g1, g2, g3, g4, g5⟩
      · exact ⟨I2, Or.inl ⟨g1, g2, a2.trans g3⟩⟩
      · exact ⟨I2, Or.inr ⟨l, g1, g2, g3, g4, a2.kr.k'.trans g5⟩⟩
    | true =>
      rw [hgr] at a1
      obtain ⟨I2, b1', b2', b3'⟩ := m_wlL (show w < 4096 by omega) hn6 n 0 FU I1 (by omega) (by unfold FU; omega) (fun i hi => by omega)
      rw [show Int32.ofNat 0 = 0 from rfl] at b1'
      refine ⟨wI I2 102 85 (Int32.ofNat n), Or.inr ⟨odl 4 n w, gfst_at hg (by simp only [glist, hgr, if_true]) _ (by omega), ?_, wI_at, fun i hi => by rw [wI_c (by omega)]; exact b2' i hi, a2.kr.k'.trans ⟨fun c hc => by rw [wI_c (by omega), b3' c (by omega)], fun j h1 h2 h3 h4 => by rw [wI_ne (Or.inr h4), b3' 102 (by omega)]⟩⟩⟩
      simp (disch := omega) only [x11_waves_L50, x11_waves_L50s, q_nmul, shl_n (2 * n) (by omega), ← hp.2, q_lt, if_pos (show w < 4 ^ n by omega), a1, QB, b2i_0, if_true, b1']
theorem m_wfL (hD : OkD D C) (ha : a < nA D) (hP : OkP D P) : ∀ (j n fu : Nat) (I : MI), n + j = 7 → j < fu → Rd I D C → Nw I P → gfst (fun n => wfind D a x y n P) n = none → ∃ I', (gfst (fun n => wfind D a x y n P) 7 = none ∧ x11_waves_L40 (Int32.ofNat a) (Int32.ofNat x) (Int32.ofNat y) fu (Int32.ofNat n) I = some (.inl I') ∧ Fm I I') ∨ (∃ l, gfst (fun n => wfind D a x y n P) 7 = some l ∧ l.length ≤ 6 ∧ x11_waves_L40 (Int32.ofNat a) (Int32.ofNat x) (Int32.ofNat y) fu (Int32.ofNat n) I = some (.inr (Int32.ofNat l.length, I')) ∧ I' 102 85 = Int32.ofNat l.length ∧ (∀ i, i < l.length → I' 149 i = Int32.ofNat (l.getD i 0)) ∧ Kr' I I') := by
  intro j
  induction j with
  | zero =>
    intro n fu I hn hfu hR hN hg
    obtain ⟨fu, rfl⟩ : ∃ n', fu = n' + 1 := ⟨fu - 1, by omega⟩
    obtain rfl : n = 7 := by omega
    refine ⟨I, Or.inl ⟨hg, ?_, Fm.refl⟩⟩
    simp only [x11_waves_L40, x11_waves_L40s]
    rw [if_pos (by decide)]
  | succ j ih =>
    intro n fu I hn hfu hR hN hg
    obtain ⟨fu, rfl⟩ : ∃ n', fu = n' + 1 := ⟨fu - 1, by omega⟩
    have hp := pow4 n (by omega)
    obtain ⟨I1, h1⟩ := m_wnL (a := a) (x := x) (y := y) (n := n) (by omega) hD ha hP (4 ^ n) 0 FU I (by omega) (by unfold FU; omega) hR hN rfl
    have hw : wfind D a x y n P = gfst (fun num => glist (wF D) (wG a x y) P (odl 4 n num)) (4 ^ n) := gfind_num (by omega) n P
    rw [← hw, show Int32.ofNat 0 = 0 from rfl] at h1
    rcases h1 with ⟨g1, g2, g3⟩ | ⟨l, g1, g2, g3, g4, g5⟩
    · obtain ⟨I2, h2⟩ := ih (n + 1) fu I1 (by omega) (by omega) (g3.rd hR) (g3.nw hN) (gfst_n1 hg g1)
      have hrun : x11_waves_L40 (Int32.ofNat a) (Int32.ofNat x) (Int32.ofNat y) (fu + 1) (Int32.ofNat n) I = x11_waves_L40 (Int32.ofNat a) (Int32.ofNat x) (Int32.ofNat y) fu (Int32.ofNat (n + 1)) I1 := by
        simp (disch := omega) only [x11_waves_L40, x11_waves_L40s, QN, if_neg (show ¬ 6 < n by omega), QB, g2, bF]
      rw [hrun]
      rcases h2 with ⟨u1, u2, u3⟩ | ⟨l, u1, u2, u3, u4, u5, u6⟩
      · exact ⟨I2, Or.inl ⟨u1, u2, g3.trans u3⟩⟩
      · exact ⟨I2, Or.inr ⟨l, u1, u2, u3, u4, u5, g3.kr.k'.trans u6⟩⟩
    · have hl : l.length = n := gfind_len g1
      refine ⟨I1, Or.inr ⟨l, gfst_at hg g1 7 (by omega), by omega, ?_, by rw [hl]; exact g3, fun i hi => g4 i (by omega), g5⟩⟩
      simp (disch := omega) only [x11_waves_L40, x11_waves_L40s, QN, if_neg (show ¬ 6 < n by omega), QB, g2, bF, hl]
end WV
