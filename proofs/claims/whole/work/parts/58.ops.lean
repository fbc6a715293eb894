/-! CALLS, 17: what a bobber of a rule would have taken -/
def swt (D : TD) (C : TC) (b s r : Nat) : Nat → Option (Nat × Int32)
  | 0 => none
  | n + 1 => if s / 2 ^ n % 2 = 1 then sbet (swt D C b s r n) n (sworth D C (tro D) b n 0 r) else swt D C b s r n
def wi (o : Option (Nat × Int32)) : Int32 := match o with
  | none => -1
  | some (u, _) => Int32.ofNat u
def pkb (Z : AX) (w : Nat) : Nat := (zK Z 0 w).toNatClampNeg
/-- picks in the class's memory, and in the reference's -/
def PC (I : MI) (Z : AX) : Prop := I 83 6 = Int32.ofNat (zP Z) ∧ ∀ i j, i < zP Z → j < 5 → I (84 + j) i = zK Z j i
def PM (I : MI) (Z : AX) : Prop := I 102 91 = Int32.ofNat (zP Z) ∧ ∀ i j, i < zP Z → j < 5 → I (151 + j) i = zK Z j i
section OP
variable {t : Nat} {I I' : MI} {L : ML} {R : MR} {S : MS} {D : TD} {C : TC} {P Q : PR} {Z : AX}
theorem pkb_ok (ha : AI D C P Z) {w : Nat} (hw : w < zP Z) : zK Z 0 w = Int32.ofNat (pkb Z w) ∧ pkb Z w < nB D := by
  obtain ⟨s, h1, h2⟩ := (ha.2.2.2.2.2.2.1.2 w hw).1
  have := ha.1.b
  have : pkb Z w = s := by rw [pkb, h2, q_ix (by omega)]
  rw [this]; exact ⟨h2, h1⟩
theorem PC.fr (h : PC I Z) (ht : isT t) (hf : Ft t I I') : PC I' Z := by
  have f : ∀ c, 83 ≤ c → c ≤ 88 → I' c = I c := fun c _ _ => hf c (by omega) (by omega) (by rcases ht with h | h <;> omega) (by omega)
  exact ⟨by rw [f 83 (by omega) (by omega)]; exact h.1, fun i j hi hj => by rw [f _ (by omega) (by omega)]; exact h.2 i j hi hj⟩
theorem PM.fr (h : PM I Z) (hf : Fm I I') : PM I' Z := ⟨by rw [hf.2 91 (by omega) (by omega)]; exact h.1, fun i j hi hj => by rw [hf.1 _ (by omega) (by omega) (by omega)]; exact h.2 i j hi hj⟩
theorem c_kn' (hc : PC I Z) (ha : AI D C P Z) {w : Nat} (hw : w < zP Z) (p : Int32) : x4_isKnown (Int32.ofNat w) p I = some (b2i (kn Z w p)) := by
  have h30 := ha.2.2.2.2.2.2.1.1
  have e3 := hc.2 w 3 hw (by omega)
  have e4 := hc.2 w 4 hw (by omega)
  rw [show 84 + 3 = 87 from rfl] at e3
  rw [show 84 + 4 = 88 from rfl] at e4
  simp (disch := omega) only [x4_isKnown, QN, QB, e3, e4, kn]
  by_cases g1 : p < zK Z 3 w <;> by_cases g2 : zK Z 4 w = -1 <;> by_cases g3 : p < zK Z 4 w <;> simp [g1, g2, g3, b2i]
theorem m_kn' (hm : PM I Z) (ha : AI D C P Z) {w : Nat} (hw : w < zP Z) (p : Int32) : x11_counts (Int32.ofNat w) p I = some (b2i (kn Z w p)) := by
  have h30 := ha.2.2.2.2.2.2.1.1
  have e3 := hm.2 w 3 hw (by omega)
  have e4 := hm.2 w 4 hw (by omega)
  rw [show 151 + 3 = 154 from rfl] at e3
  rw [show 151 + 4 = 155 from rfl] at e4
  have hz : (zK Z 4 w < 0) = (zK Z 4 w = -1) := by
    rcases (ha.2.2.2.2.2.2.1.2 w hw).2.2.2.2 with z | ⟨u, hu, z⟩
    · rw [z]; simp
    · rw [z, q_neg (by omega), q_m1 (by omega)]
  simp (disch := omega) only [x11_counts, QN, QB, e3, e4, kn, hz]
  by_cases g1 : p < zK Z 3 w <;> by_cases g2 : zK Z 4 w = -1 <;> by_cases g3 : p < zK Z 4 w <;> simp [g1, g2, g3, b2i]
theorem swt_lt {b s r : Nat} : ∀ n u v, swt D C b s r n = some (u, v) → u < n
  | 0, u, v, h => by cases h
  | n + 1, u, v, h => by
    simp only [swt] at h
    split at h
    · cases hs : swt D C b s r n with
      | none => rw [hs] at h; simp only [sbet, Option.some.injEq, Prod.mk.injEq] at h; omega
      | some q =>
        obtain ⟨x, y⟩ := q
        have := swt_lt n x y hs
        rw [hs] at h
        simp only [sbet] at h
        split at h <;> simp only [Option.some.injEq, Prod.mk.injEq] at h <;> omega
    · have := swt_lt n u v h; omega
theorem c_wtL {b s r : Nat} (ht : isT t) (hD : OkD D C) (hb : b < nB D) (hs : s < 1024) (hr : r < nR D) : ∀ (j w n : Nat) (I : MI), w + j = nA D → j < n → Td I t D C → Rl D true I 67 (tro D) → ∃ I', x9_wouldTake_L23 t (Int32.ofNat r) (Int32.ofNat b) (Int32.ofNat s) n (wi (swt D C b s r w)) (cm (swt D C b s r w)) (Int32.ofNat w) I = some (wi (swt D C b s r (nA D)), I') ∧ Fg t I I' := by
  have hA := hD.a
  intro j
  induction j with
  | zero =>
    intro w n I hw hn hT hR
    obtain ⟨n, rfl⟩ : ∃ n', n = n' + 1 := ⟨n - 1, by omega⟩
    obtain rfl : w = nA D := by omega
    refine ⟨I, ?_, Fg.refl⟩
    simp (disch := omega) only [x9_wouldTake_L23, x9_wouldTake_L23s, hT.1.2.2.2.2.1, hD.2.1.1.1, QN]
    simp
  | succ j ih =>
    intro w n I hw hn hT hR
    obtain ⟨n, rfl⟩ : ∃ n', n = n' + 1 := ⟨n - 1, by omega⟩
    have hq : isq t 67 := ⟨ht, by omega⟩
    have hbl : s / 2 ^ w % 2 < 2147483648 := by omega
    have e1 : (Int32.ofNat (s / 2 ^ w % 2) = 1) = (s / 2 ^ w % 2 = 1) := by rw [show (1 : Int32) = Int32.ofNat 1 from rfl, q_eq hbl (by omega)]
    simp only [x9_wouldTake_L23, x9_wouldTake_L23s, hT.1.2.2.2.2.1, hD.2.1.1.1, q_lt (show w < 2147483648 by omega) (show nA D < 2147483648 by omega), if_pos (show w < nA D by omega), bit_n hs (show w < 10 by omega), e1, q_addn, QB]
    by_cases g : s / 2 ^ w % 2 = 1
    · obtain ⟨I1, l1, l2, l3⟩ := c_look (C := C) hD hT hR hq hb (show w < nA D by omega)
      have f1 : Fg t I I1 := fun c _ h2 _ => l3 c h2
      obtain ⟨I2, k1, k2, k3⟩ := c_worthSeen (C := C) (k := 0) (r := r) hD (hT.fg hq f1) hq (by omega) (Or.inl hr) l2
      rw [rul_n hr, show Int32.ofNat 0 = 0 from rfl] at k1
      have f2 := f1.trans k3
      obtain ⟨I3, c1, c2⟩ := ih (w + 1) n I2 (by omega) (by omega) (hT.fg hq f2) (hR.fr (fun c h1 h2 => f2 c (by omega) (by omega) (by rcases ht with h | h <;> omega)))
      refine ⟨I3, ?_, f2.trans c2⟩
      rw [if_pos g]
      simp only [x1_worthOf, l1, k1, QB]
      simp only [swt, if_pos g] at c1
      cases ho : swt D C b s r w with
      | none =>
        rw [ho] at c1
        simp only [wi, cm, sbet, if_true] at c1 ⊢
        exact c1
      | some q =>
        obtain ⟨u, v⟩ := q
        have hu := swt_lt w u v ho
        rw [ho] at c1
        simp only [wi, cm, sbet, q_m1 (show u < 2147483648 by omega), if_false] at c1 ⊢
        by_cases gv : v < sworth D C (tro D) b w 0 r
        · simp only [gv, if_true] at c1 ⊢; exact c1
        · simp only [gv, if_false] at c1 ⊢; exact c1
    · obtain ⟨I3, c1, c2⟩ := ih (w + 1) n I (by omega) (by omega) hT hR
      refine ⟨I3, ?_, c2⟩
      simp only [swt, if_neg g] at c1
      rw [if_neg g]; exact c1
theorem c_wt {b s r : Nat} (ht : isT t) (hD : OkD D C) (hb : b < nB D) (hs : s < 1024) (hr : r < nR D) (hT : Td I t D C) (p : Int32) : ∃ I', x9_wouldTake t (Int32.ofNat r) (Int32.ofNat b) (Int32.ofNat s) p I = some (b2i (decide (wi (swt D C b s r (nA D)) = p)), I') ∧ Ft t I I' := by
  have hA := hD.a
  obtain ⟨I1, g1, g2, g3⟩ := c_begin (q0 := 67) hD hT ⟨ht, by omega⟩ (tro_pt hA hD.b) (tro_pt2 hD.b)
  have f1 : Ft t I I1 := fun c _ _ _ h => g3 c (by omega)
  obtain ⟨I2, k1, k2⟩ := c_wtL (C := C) ht hD hb hs hr (nA D) 0 FU I1 (by omega) (by unfold FU; omega) (f1.td ht hT) g2
  rw [show swt D C b s r 0 = none from rfl, show wi none = -1 from rfl, show cm none = 0 from rfl, show Int32.ofNat 0 = 0 from rfl] at k1
  refine ⟨I2, ?_, f1.trans k2.t⟩
  simp only [x9_wouldTake, g1, QB, k1]
  by_cases g : wi (swt D C b s r (nA D)) = p <;> simp [g, b2i]
theorem m_wtL {w r : Nat} (hD : OkD D C) (ha : AI D C P Z) (hw : w < zP Z) (hr : r < nR D) (hQ : Pt D Q) : ∀ (j a n : Nat) (I : MI), a + j = nA D → j < n → Rd I D C → Wr I Q → PM I Z → ∃ I', x11_takenBy_L8 (Int32.ofNat r) (Int32.ofNat w) n (wi (swt D C (pkb Z w) (pks Z w) r a)) (cm (swt D C (pkb Z w) (pks Z w) r a)) (Int32.ofNat a) I = some (wi (swt D C (pkb Z w) (pks Z w) r (nA D)), I') ∧ Fq I I' := by
  have hA := hD.a
  have hR6 := hD.r
  obtain ⟨s1, s2⟩ := pks_ok ha hw
  obtain ⟨t1, t2⟩ := pkb_ok ha hw
  have h30 := ha.2.2.2.2.2.2.1.1
  intro j
  induction j with
  | zero =>
    intro a n I hw hn hR hW hP
    obtain ⟨n, rfl⟩ : ∃ n', n = n' + 1 := ⟨n - 1, by omega⟩
    obtain rfl : a = nA D := by omega
    refine ⟨I, ?_, Fq.refl⟩
    simp (disch := omega) only [x11_takenBy_L8, x11_takenBy_L8s, hR.1.2.2.2.1, hD.2.1.1.1, QN]
    simp
  | succ j ih =>
    intro a n I hwj hn hR hW hP
    obtain ⟨n, rfl⟩ : ∃ n', n = n' + 1 := ⟨n - 1, by omega⟩
    have hbl : pks Z w / 2 ^ a % 2 < 2147483648 := by omega
    have e0 : (Int32.ofNat (pks Z w / 2 ^ a % 2) = 0) = (pks Z w / 2 ^ a % 2 = 0) := by rw [show (0 : Int32) = Int32.ofNat 0 from rfl, q_eq hbl (by omega)]
    have p1 := hP.2 w 1 hw (by omega)
    have p0 := hP.2 w 0 hw (by omega)
    rw [show 151 + 1 = 152 from rfl, s1] at p1
    rw [show 151 + 0 = 151 from rfl, t1] at p0
    simp only [x11_takenBy_L8, x11_takenBy_L8s, hR.1.2.2.2.1, hD.2.1.1.1, q_lt (show a < 2147483648 by omega) (show nA D < 2147483648 by omega), if_pos (show a < nA D by omega), q_in (show w < 30 by omega) (show w < 2147483648 by omega), q_ix (show w < 2147483648 by omega), p1, p0, bit_n s2 (show a < 10 by omega), e0, q_addn, q_nadd, QB]
    by_cases g : pks Z w / 2 ^ a % 2 = 0
    · obtain ⟨I3, c1, c2⟩ := ih (a + 1) n I (by omega) (by omega) hR hW hP
      refine ⟨I3, ?_, c2⟩
      simp only [swt, if_neg (show ¬ pks Z w / 2 ^ a % 2 = 1 by omega)] at c1
      rw [if_pos g]; exact c1
    · obtain ⟨I1, l1, l2⟩ := m_odds (k := 0) hD hR hW t2 (show a < nA D by omega) (by omega)
      have hR1 := l2.m.rd hR
      obtain ⟨I2, k1, k2⟩ := m_worked (C := C) (s := 5 + r) (kd := 0) (od := sodds D C Q (pkb Z w) a 0) hD hR1 (l2.wr hW) t2 (show a < nA D by omega) (by omega) (hR1.2.2.2.2 r hr) (hD.2.2.2.2.2.2.2 r hr)
      have f2 : Fq I I2 := l2.trans ⟨fun c h1 _ => k2 c h1, fun j _ _ => by rw [k2 102 (by omega)]⟩
      obtain ⟨I3, c1, c2⟩ := ih (a + 1) n I2 (by omega) (by omega) (f2.m.rd hR) (f2.wr hW) (hP.fr f2.m)
      have hv : sval (C (5 + r)) (sight D Q (pkb Z w) a 0 (sodds D C Q (pkb Z w) a 0)) = sworth D C (tro D) (pkb Z w) a 0 r := by
        rw [sworth_pt (tro_pt hA hD.b) hQ (show a < nA D by omega) t2, sworth, if_neg (by omega)]; rfl
      rw [show Int32.ofNat 0 = 0 from rfl] at l1
      rw [hv] at k1
      refine ⟨I3, ?_, f2.trans c2⟩
      rw [if_neg g]
      simp only [l1, k1, QB]
      simp only [swt, if_pos (show pks Z w / 2 ^ a % 2 = 1 by omega)] at c1
      cases ho : swt D C (pkb Z w) (pks Z w) r a with
      | none =>
        rw [ho] at c1
        simp only [wi, cm, sbet] at c1 ⊢
        simp only [show ((-1 : Int32) < 0) = True from eq_true (by decide), if_true]
        exact c1
      | some q =>
        obtain ⟨u, v⟩ := q
        have hu := swt_lt a u v ho
        rw [ho] at c1
        simp only [wi, cm, sbet, q_neg (show u < 2147483648 by omega), if_false] at c1 ⊢
        by_cases gv : v < sworth D C (tro D) (pkb Z w) a 0 r
        · simp only [gv, if_true] at c1 ⊢; exact c1
        · simp only [gv, if_false] at c1 ⊢; exact c1
theorem m_wt {w r : Nat} (hD : OkD D C) (ha : AI D C P Z) (hw : w < zP Z) (hr : r < nR D) (hQ : Pt D Q) (hR : Rd I D C) (hW : Wr I Q) (hP : PM I Z) : ∃ I', x11_takenBy (Int32.ofNat r) (Int32.ofNat w) I = some (wi (swt D C (pkb Z w) (pks Z w) r (nA D)), I') ∧ Fq I I' := by
  have hA := hD.a
  obtain ⟨I2, k1, k2⟩ := m_wtL hD ha hw hr hQ (nA D) 0 FU I (by omega) (by unfold FU; omega) hR hW hP
  rw [show swt D C (pkb Z w) (pks Z w) r 0 = none from rfl, show wi none = -1 from rfl, show cm none = 0 from rfl, show Int32.ofNat 0 = 0 from rfl] at k1
  exact ⟨I2, by simp only [x11_takenBy, QB, k1], k2⟩
end OP
