/-! CALLS, 38: misses that drive an apple, in the reference -/
def drun (D : TD) (b : Nat) : List Nat → PR → Option PR
  | [], P => some P
  | c :: l, P => (dF D b c P).bind (fun Q => drun D b l Q)
/-- what such a trial of the reference's may change -/
def Fdv (I I' : MI) : Prop := (∀ c, c ≠ 137 → c ≠ 111 → c ≠ 102 → c ≠ 148 → I' c = I c) ∧ (∀ j, j ≠ 68 → j ≠ 69 → I' 102 j = I 102 j)
section DV
variable {t : Nat} {I I' I'' : MI} {L : ML} {R : MR} {S : MS} {D : TD} {C : TC} {P : PR} {Z : AX} {a b o : Nat}
theorem Fdv.refl : Fdv I I := ⟨fun _ _ _ _ _ => rfl, fun _ _ _ => rfl⟩
theorem Fdv.trans (h : Fdv I I') (k : Fdv I' I'') : Fdv I I'' := ⟨fun c h1 h2 h3 h4 => (k.1 c h1 h2 h3 h4).trans (h.1 c h1 h2 h3 h4), fun j h1 h2 => (k.2 j h1 h2).trans (h.2 j h1 h2)⟩
theorem Fm.fv (h : Fm I I') : Fdv I I' := ⟨fun c h1 h2 h3 _ => h.1 c h1 h2 h3, h.2⟩
theorem Fdv.rd (h : Fdv I I') (hR : Rd I D C) : Rd I' D C := Rd.fr3 (fun c hc => h.1 c (by omega) (by omega) (by omega) (by omega)) (fun j h1 h2 => h.2 j (by omega) (by omega)) hR
theorem Fdv.nw (h : Fdv I I') (hN : Nw I P) : Nw I' P := ⟨fun k hk => by rw [h.1 138 (by omega) (by omega) (by omega) (by omega)]; exact hN.1 k hk, fun b hb => by rw [h.1 130 (by omega) (by omega) (by omega) (by omega)]; exact hN.2.1 b hb, fun b hb => by rw [h.1 131 (by omega) (by omega) (by omega) (by omega)]; exact hN.2.2 b hb⟩
theorem Fdv.kr' (h : Fdv I I') : Kr' I I' := ⟨fun c hc => h.1 c (by omega) (by omega) (by omega) (by omega), fun j h1 h2 _ _ => h.2 j h1 h2⟩
theorem grun_d : ∀ (l : List Nat) (P : PR), grun (dF D b) (dG D o a) l P = (drun D b l P).elim false (fun Q => dG D o a Q)
  | [], _ => rfl
  | c :: l, P => by
    show ((dF D b c P).elim false (fun Q => grun (dF D b) (dG D o a) l Q)) = ((dF D b c P).bind (fun Q => drun D b l Q)).elim false (fun Q => dG D o a Q)
    cases dF D b c P with
    | none => rfl
    | some Q => exact grun_d l Q
theorem m_drL (hA : nA D ≤ 10) (hA1 : 0 < nA D) : ∀ (k fu v : Nat) (I : MI), k < fu → k ≤ 4 → v < 100000 → I 102 60 = Int32.ofNat (nA D) → ∃ I', x11_doesDrive_L14 fu (Int32.ofNat v) (Int32.ofNat k - 1) I = some I' ∧ (∀ i, i < k → I' 148 i = Int32.ofNat (v / nA D ^ (k - 1 - i) % nA D)) ∧ (∀ i, k ≤ i → I' 148 i = I 148 i) ∧ ∀ c, c ≠ 148 → I' c = I c := by
  intro k
  induction k with
  | zero =>
    intro fu v I hfu hk hv h60
    obtain ⟨fu, rfl⟩ : ∃ n', fu = n' + 1 := ⟨fu - 1, by omega⟩
    refine ⟨I, ?_, fun i hi => by omega, fun _ _ => rfl, fun _ _ => rfl⟩
    rw [show Int32.ofNat 0 - 1 = -1 from rfl]
    simp only [x11_doesDrive_L14, x11_doesDrive_L14s]
    rw [if_pos (by decide)]
  | succ k ih =>
    intro fu v I hfu hk hv h60
    obtain ⟨fu, rfl⟩ : ∃ n', fu = n' + 1 := ⟨fu - 1, by omega⟩
    have hd : v % nA D < nA D := Nat.mod_lt _ hA1
    have hv' : v / nA D < 100000 := Nat.lt_of_le_of_lt (Nat.div_le_self _ _) hv
    obtain ⟨I', h1, h2, h3, h4⟩ := ih fu (v / nA D) (wI I 148 k (Int32.ofNat (v % nA D))) (by omega) (by omega) hv' (by rw [wI_c (by omega)]; exact h60)
    refine ⟨I', ?_, fun i hi => ?_, fun i hi => ?_, fun c hc => by rw [h4 c hc, wI_c hc]⟩
    · have e0 : (Int32.ofNat (nA D) = 0) = False := by
        rw [show (0 : Int32) = Int32.ofNat 0 from rfl, q_eq (by omega) (by omega)]; exact eq_false (by omega)
      have e60 : wI I 148 k (Int32.ofNat (v % nA D)) 102 60 = Int32.ofNat (nA D) := by rw [wI_c (by omega)]; exact h60
      rw [q_ps]
      simp (disch := omega) only [x11_doesDrive_L14, x11_doesDrive_L14s, QN, QB, if_false, h60, e0, not_false_eq_true, q_rm, e60, q_div, q_pm]
      exact h1
    · by_cases e : i = k
      · subst e; rw [h3 i (Nat.le_refl _), wI_at, show i + 1 - 1 - i = 0 by omega, Nat.pow_zero, Nat.div_one]
      · rw [h2 i (by omega), Nat.div_div_eq_div_mul, ← Nat.pow_succ', show (k - 1 - i).succ = k + 1 - 1 - i by omega]
    · rw [h3 i (by omega), wI_ne (by omega)]
theorem m_dvsL (hD : OkD D C) (hb : b < nB D) {n : Nat} (hn : n ≤ 4) : ∀ (l : List Nat) (k fu : Nat) (I : MI) (P : PR), k + l.length = n → l.length < fu → (∀ i, i < l.length → I 148 (k + i) = Int32.ofNat (l.getD i 0)) → (∀ c, c ∈ l → c < nA D) → Rd I D C → Wr I P → OkP D P → ∃ I', ((drun D b l P = none ∧ x11_doesDrive_L51 (Int32.ofNat b) (Int32.ofNat n) fu (Int32.ofNat k) I = some (.inr (0, I'))) ∨ (∃ Q, drun D b l P = some Q ∧ x11_doesDrive_L51 (Int32.ofNat b) (Int32.ofNat n) fu (Int32.ofNat k) I = some (.inl I') ∧ Wr I' Q ∧ OkP D Q)) ∧ Fm I I' := by
  have hA := hD.a
  have hB := hD.b
  intro l
  induction l with
  | nil =>
    intro k fu I P hk hfu h148 hl hR hW hP
    obtain ⟨fu, rfl⟩ : ∃ n', fu = n' + 1 := ⟨fu - 1, by have : 0 < fu := hfu; omega⟩
    have hk' : k = n := by simpa using hk
    subst hk'
    refine ⟨I, Or.inr ⟨P, rfl, ?_, hW, hP⟩, Fm.refl⟩
    simp (disch := omega) only [x11_doesDrive_L51, x11_doesDrive_L51s, QN, Nat.lt_irrefl, if_false]
  | cons c l ih =>
    intro k fu I P hk hfu h148 hl hR hW hP
    obtain ⟨fu, rfl⟩ : ∃ n', fu = n' + 1 := ⟨fu - 1, by omega⟩
    have hk' : k + (l.length + 1) = n := by simpa using hk
    have hfu' : l.length < fu := by simpa using hfu
    have hc : c < nA D := hl c (by simp)
    have e0 : I 148 k = Int32.ofNat c := by
      have := h148 0 (by simp)
      simpa using this
    obtain ⟨I1, a1, a2⟩ := m_canTry (k := 0) hD hR hW hb hc (by omega)
    rw [show Int32.ofNat 0 = 0 from rfl] at a1
    by_cases hs : scan D P b c 0 = true
    · obtain ⟨I2, b1', b2', b3'⟩ := m_miss (k := 0) hD (a2.m.rd hR) (a2.wr hW) hP hb hc (by omega) (scan_fl hs)
      rw [show Int32.ofNat 0 = 0 from rfl] at b1'
      have f2 := a2.m.trans b3'
      have hQ : OkP D (smiss D (spsec P b 0) b c 0) := (hP.psec hA hB hb).miss hD hb hc
      obtain ⟨I3, c1, c2⟩ := ih (k + 1) fu I2 (smiss D (spsec P b 0) b c 0) (by omega) hfu' (fun i hi => by
        rw [f2.1 148 (by omega) (by omega) (by omega)]
        have := h148 (i + 1) (by simpa using hi)
        rw [show k + 1 + i = k + (i + 1) by omega, this]; rfl) (fun c' hc' => hl c' (by simp [hc'])) (f2.rd hR) b2' hQ
      have hF : dF D b c P = some (smiss D (spsec P b 0) b c 0) := if_pos hs
      have hd : drun D b (c :: l) P = drun D b l (smiss D (spsec P b 0) b c 0) := by
        show (dF D b c P).bind _ = _
        rw [hF]; rfl
      have e1 : I1 148 k = Int32.ofNat c := by rw [a2.1 148 (by omega) (by omega)]; exact e0
      have hrun : x11_doesDrive_L51 (Int32.ofNat b) (Int32.ofNat n) (fu + 1) (Int32.ofNat k) I = x11_doesDrive_L51 (Int32.ofNat b) (Int32.ofNat n) fu (Int32.ofNat (k + 1)) I2 := by
        simp (disch := omega) only [x11_doesDrive_L51, x11_doesDrive_L51s, QN, QB, if_pos (show k < n by omega), e0, a1, b2i_0, hs, if_true, e1, b1']
      rw [hd, hrun]
      exact ⟨I3, c1, f2.trans c2⟩
    · have hs' : scan D P b c 0 = false := by simpa using hs
      have hF : dF D b c P = none := if_neg hs
      refine ⟨I1, Or.inl ⟨by show (dF D b c P).bind _ = _; rw [hF]; rfl, ?_⟩, a2.m⟩
      simp (disch := omega) only [x11_doesDrive_L51, x11_doesDrive_L51s, QN, QB, if_pos (show k < n by omega), e0, a1, b2i_0, hs', Bool.false_eq_true, if_false]
theorem odl_len {q n c : Nat} : (odl q n c).length = n := by simp [odl]
theorem odl_mem {q n c x : Nat} (hq : 0 < q) (h : x ∈ odl q n c) : x < q := by
  simp only [odl, List.mem_map] at h
  obtain ⟨i, -, rfl⟩ := h
  exact Nat.mod_lt _ hq
theorem m_does {num n : Nat} (hn : num < 100000) (hn4 : n ≤ 4) (hD : OkD D C) (hb : b < nB D) (ho : o < nB D) (ha : a < nA D) (hR : Rd I D C) (hN : Nw I P) (hP : OkP D P) : ∃ I', x11_doesDrive (Int32.ofNat b) (Int32.ofNat o) (Int32.ofNat a) (Int32.ofNat n) (Int32.ofNat num) I = some (b2i (grun (dF D b) (dG D o a) (odl (nA D) n num) P), I') ∧ (∀ i, i < n → I' 148 i = Int32.ofNat ((odl (nA D) n num).getD i 0)) ∧ Fdv I I' := by
  have hA := hD.a
  obtain ⟨I1, l1, l2, l3⟩ := m_loadN hN
  have f1 : Fm I I1 := Fm.of137 l3
  have hR1 := f1.rd hR
  obtain ⟨I2, a1, a2, -, a3⟩ := m_drL hA (show 0 < nA D by omega) n FU num I1 (by unfold FU; omega) hn4 hn (by rw [hR1.1.2.2.2.1]; exact hD.2.1.1.1)
  have fv2 : Fdv I1 I2 := ⟨fun c _ _ _ h4 => a3 c h4, fun j _ _ => by rw [a3 102 (by omega)]⟩
  have hW2 : Wr I2 P := ⟨fun k hk => by rw [a3 137 (by omega)]; exact l2.1 k hk, fun b hb => by rw [a3 130 (by omega)]; exact l2.2.1 b hb, fun b hb => by rw [a3 131 (by omega)]; exact l2.2.2 b hb⟩
  have e148 : ∀ i, i < n → I2 148 i = Int32.ofNat ((odl (nA D) n num).getD i 0) := fun i hi => by rw [a2 i hi, odl_at hi]
  obtain ⟨I3, c1, c2⟩ := m_dvsL hD hb hn4 (odl (nA D) n num) 0 FU I2 P (by rw [odl_len]; omega) (by rw [odl_len]; unfold FU; omega) (fun i hi => by rw [Nat.zero_add]; exact e148 i (by rw [odl_len] at hi; exact hi)) (fun c hc => odl_mem (by omega) hc) (fv2.rd hR1) hW2 hP
  rw [show Int32.ofNat 0 = 0 from rfl] at c1
  have F3 := (f1.fv.trans fv2).trans c2.fv
  rw [grun_d]
  rcases c1 with ⟨g1, g2⟩ | ⟨Q, g1, g2, g3, g4⟩
  · refine ⟨I3, ?_, fun i hi => by rw [c2.1 148 (by omega) (by omega) (by omega)]; exact e148 i hi, F3⟩
    rw [g1]
    simp only [x11_doesDrive, l1, QB, a1, g2]
    rfl
  · obtain ⟨I4, d1, d2⟩ := m_canTry (k := 0) hD (c2.rd (fv2.rd hR1)) g3 ho ha (by omega)
    rw [show Int32.ofNat 0 = 0 from rfl] at d1
    refine ⟨I4, ?_, fun i hi => by rw [d2.1 148 (by omega) (by omega), c2.1 148 (by omega) (by omega) (by omega)]; exact e148 i hi, F3.trans d2.m.fv⟩
    rw [g1]
    simp only [x11_doesDrive, l1, QB, a1, g2, d1, b2i_or]
    rfl
theorem m_dlL {n : Nat} (hn4 : n ≤ 4) : ∀ (j w fu : Nat) (I : MI), w + j = n → j < fu → (∀ i, i < w → I 149 i = I 148 i) → ∃ I', x11_drives_L91 (Int32.ofNat n) fu (Int32.ofNat w) I = some I' ∧ (∀ i, i < n → I' 149 i = I 148 i) ∧ ∀ c, c ≠ 149 → I' c = I c := by
  intro j
  induction j with
  | zero =>
    intro w fu I hw hfu h
    obtain ⟨fu, rfl⟩ : ∃ n', fu = n' + 1 := ⟨fu - 1, by omega⟩
    obtain rfl : w = n := by omega
    refine ⟨I, ?_, h, fun _ _ => rfl⟩
    simp (disch := omega) only [x11_drives_L91, x11_drives_L91s, QN, Nat.lt_irrefl, if_false]
  | succ j ih =>
    intro w fu I hw hfu h
    obtain ⟨fu, rfl⟩ : ∃ n', fu = n' + 1 := ⟨fu - 1, by omega⟩
    obtain ⟨I', h1, h2, h3⟩ := ih (w + 1) fu (wI I 149 w (I 148 w)) (by omega) (by omega) (fun i hi => by
      rw [wI_c (show (148 : Nat) ≠ 149 by omega)]
      by_cases e : i = w
      · subst e; rw [wI_at]
      · rw [wI_ne (by omega)]; exact h i (by omega))
    refine ⟨I', ?_, fun i hi => by rw [h2 i hi, wI_c (by omega)], fun c hc => by rw [h3 c hc, wI_c hc]⟩
    simp (disch := omega) only [x11_drives_L91, x11_drives_L91s, QN, QB, if_pos (show w < n by omega)]
    exact h1
theorem pow10 {k : Nat} (hk : k ≤ 10) : ∀ n, n < 6 → k ^ n ≤ 100000 := fun n hn => Nat.le_trans (Nat.pow_le_pow_left hk n) (Nat.le_trans (Nat.pow_le_pow_right (by omega) (show n ≤ 5 by omega)) (by decide))
theorem m_dnL {n : Nat} (hn4 : n ≤ 4) (hD : OkD D C) (hb : b < nB D) (ho : o < nB D) (ha : a < nA D) (hP : OkP D P) : ∀ (j w fu : Nat) (I : MI), w + j = nA D ^ n → j < fu → Rd I D C → Nw I P → gfst (fun num => glist (dF D b) (dG D o a) P (odl (nA D) n num)) w = none → ∃ I', (gfst (fun num => glist (dF D b) (dG D o a) P (odl (nA D) n num)) (nA D ^ n) = none ∧ x11_drives_L64 (Int32.ofNat b) (Int32.ofNat o) (Int32.ofNat a) (Int32.ofNat (nA D ^ n)) (Int32.ofNat n) fu (Int32.ofNat w) I = some (.inl I') ∧ Fdv I I') ∨ (∃ l, gfst (fun num => glist (dF D b) (dG D o a) P (odl (nA D) n num)) (nA D ^ n) = some l ∧ x11_drives_L64 (Int32.ofNat b) (Int32.ofNat o) (Int32.ofNat a) (Int32.ofNat (nA D ^ n)) (Int32.ofNat n) fu (Int32.ofNat w) I = some (.inr (Int32.ofNat n, I')) ∧ I' 102 85 = Int32.ofNat n ∧ (∀ i, i < n → I' 149 i = Int32.ofNat (l.getD i 0)) ∧ Kr' I I') := by
  have hA := hD.a
  have hp := pow10 hA n (by omega)
  intro j
  induction j with
  | zero =>
    intro w fu I hw hfu hR hN hg
    obtain ⟨fu, rfl⟩ : ∃ n', fu = n' + 1 := ⟨fu - 1, by omega⟩
    obtain rfl : w = nA D ^ n := by omega
    refine ⟨I, Or.inl ⟨hg, ?_, Fdv.refl⟩⟩
    simp (disch := omega) only [x11_drives_L64, x11_drives_L64s, q_lt, Nat.lt_irrefl, if_false]
  | succ j ih =>
    intro w fu I hw hfu hR hN hg
    obtain ⟨fu, rfl⟩ : ∃ n', fu = n' + 1 := ⟨fu - 1, by omega⟩
    obtain ⟨I1, a1, a3, a2⟩ := m_does (num := w) (n := n) (by omega) hn4 hD hb ho ha hR hN hP
    cases hgr : grun (dF D b) (dG D o a) (odl (nA D) n w) P with
    | false =>
      have hg1 : gfst (fun num => glist (dF D b) (dG D o a) P (odl (nA D) n num)) (w + 1) = none := gfst_n1 hg (by simp only [glist, hgr]; rfl)
      obtain ⟨I2, h2⟩ := ih (w + 1) fu I1 (by omega) (by omega) (a2.rd hR) (a2.nw hN) hg1
      have hrun : x11_drives_L64 (Int32.ofNat b) (Int32.ofNat o) (Int32.ofNat a) (Int32.ofNat (nA D ^ n)) (Int32.ofNat n) (fu + 1) (Int32.ofNat w) I = x11_drives_L64 (Int32.ofNat b) (Int32.ofNat o) (Int32.ofNat a) (Int32.ofNat (nA D ^ n)) (Int32.ofNat n) fu (Int32.ofNat (w + 1)) I1 := by
        rw [hgr] at a1
        simp (disch := omega) only [x11_drives_L64, x11_drives_L64s, q_lt, if_pos (show w < nA D ^ n by omega), a1, QB, b2i_0, Bool.false_eq_true, if_false, q_addn]
      rw [hrun]
      rcases h2 with ⟨g1, g2, g3⟩ | ⟨l, g1, g2, g3, g4, g5⟩
      · exact ⟨I2, Or.inl ⟨g1, g2, a2.trans g3⟩⟩
      · exact ⟨I2, Or.inr ⟨l, g1, g2, g3, g4, a2.kr'.trans g5⟩⟩
    | true =>
      rw [hgr] at a1
      obtain ⟨I2, b1', b2', b3'⟩ := m_dlL hn4 n 0 FU I1 (by omega) (by unfold FU; omega) (fun i hi => by omega)
      rw [show Int32.ofNat 0 = 0 from rfl] at b1'
      refine ⟨wI I2 102 85 (Int32.ofNat n), Or.inr ⟨odl (nA D) n w, gfst_at hg (by simp only [glist, hgr, if_true]) _ (by omega), ?_, wI_at, fun i hi => by rw [wI_c (by omega), b2' i hi]; exact a3 i hi, a2.kr'.trans ⟨fun c hc => by rw [wI_c (by omega), b3' c (by omega)], fun j h1 h2 h3 h4 => by rw [wI_ne (Or.inr h4), b3' 102 (by omega)]⟩⟩⟩
      simp (disch := omega) only [x11_drives_L64, x11_drives_L64s, q_lt, if_pos (show w < nA D ^ n by omega), a1, QB, b2i_0, if_true, b1']
theorem m_dfL (hD : OkD D C) (hb : b < nB D) (ho : o < nB D) (ha : a < nA D) (hP : OkP D P) : ∀ (j n fu : Nat) (I : MI), n + j = 5 → j < fu → Rd I D C → Nw I P → gfst (fun n => dfind D b o a n P) n = none → ∃ I', (gfst (fun n => dfind D b o a n P) 5 = none ∧ x11_drives_L55 (Int32.ofNat b) (Int32.ofNat o) (Int32.ofNat a) fu (Int32.ofNat (nA D ^ n)) (Int32.ofNat n) I = some (.inl I') ∧ Fdv I I') ∨ (∃ l, gfst (fun n => dfind D b o a n P) 5 = some l ∧ l.length ≤ 4 ∧ x11_drives_L55 (Int32.ofNat b) (Int32.ofNat o) (Int32.ofNat a) fu (Int32.ofNat (nA D ^ n)) (Int32.ofNat n) I = some (.inr (Int32.ofNat l.length, I')) ∧ I' 102 85 = Int32.ofNat l.length ∧ (∀ i, i < l.length → I' 149 i = Int32.ofNat (l.getD i 0)) ∧ Kr' I I') := by
  have hA := hD.a
  intro j
  induction j with
  | zero =>
    intro n fu I hn hfu hR hN hg
    obtain ⟨fu, rfl⟩ : ∃ n', fu = n' + 1 := ⟨fu - 1, by omega⟩
    obtain rfl : n = 5 := by omega
    refine ⟨I, Or.inl ⟨hg, ?_, Fdv.refl⟩⟩
    simp only [x11_drives_L55, x11_drives_L55s]
    rw [if_pos (by decide)]
  | succ j ih =>
    intro n fu I hn hfu hR hN hg
    obtain ⟨fu, rfl⟩ : ∃ n', fu = n' + 1 := ⟨fu - 1, by omega⟩
    have hp := pow10 hA n (by omega)
    obtain ⟨I1, h1⟩ := m_dnL (b := b) (o := o) (a := a) (n := n) (by omega) hD hb ho ha hP (nA D ^ n) 0 FU I (by omega) (by unfold FU; omega) hR hN rfl
    have hw : dfind D b o a n P = gfst (fun num => glist (dF D b) (dG D o a) P (odl (nA D) n num)) (nA D ^ n) := gfind_num (by omega) n P
    rw [← hw, show Int32.ofNat 0 = 0 from rfl] at h1
    rcases h1 with ⟨g1, g2, g3⟩ | ⟨l, g1, g2, g3, g4, g5⟩
    · obtain ⟨I2, h2⟩ := ih (n + 1) fu I1 (by omega) (by omega) (g3.rd hR) (g3.nw hN) (gfst_n1 hg g1)
      have e60 : I1 102 60 = Int32.ofNat (nA D) := by rw [(g3.rd hR).1.2.2.2.1]; exact hD.2.1.1.1
      have hrun : x11_drives_L55 (Int32.ofNat b) (Int32.ofNat o) (Int32.ofNat a) (fu + 1) (Int32.ofNat (nA D ^ n)) (Int32.ofNat n) I = x11_drives_L55 (Int32.ofNat b) (Int32.ofNat o) (Int32.ofNat a) fu (Int32.ofNat (nA D ^ (n + 1))) (Int32.ofNat (n + 1)) I1 := by
        simp (disch := omega) only [x11_drives_L55, x11_drives_L55s, QN, if_neg (show ¬ 4 < n by omega), QB, g2, bF, e60, q_mul, Nat.pow_succ]
      rw [hrun]
      rcases h2 with ⟨u1, u2, u3⟩ | ⟨l, u1, u2, u3, u4, u5, u6⟩
      · exact ⟨I2, Or.inl ⟨u1, u2, g3.trans u3⟩⟩
      · exact ⟨I2, Or.inr ⟨l, u1, u2, u3, u4, u5, g3.kr'.trans u6⟩⟩
    · have hl : l.length = n := gfind_len g1
      refine ⟨I1, Or.inr ⟨l, gfst_at hg g1 5 (by omega), by omega, ?_, by rw [hl]; exact g3, fun i hi => g4 i (by omega), g5⟩⟩
      simp (disch := omega) only [x11_drives_L55, x11_drives_L55s, QN, if_neg (show ¬ 4 < n by omega), QB, g2, bF, hl]
end DV
