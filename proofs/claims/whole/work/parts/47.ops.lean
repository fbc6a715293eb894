/-! CALLS, 6: seats, the reference's -/
theorem nest4 {α : Type} (c1 c2 c3 c4 : Prop) [Decidable c1] [Decidable c2] [Decidable c3] [Decidable c4] (A B : α) : (if c1 then (if c2 then (if c3 then (if c4 then A else B) else B) else B) else B) = if c1 ∧ c2 ∧ c3 ∧ c4 then A else B := by
  by_cases h1 : c1 <;> by_cases h2 : c2 <;> by_cases h3 : c3 <;> by_cases h4 : c4 <;> simp [h1, h2, h3, h4]
section OP
variable {t : Nat} {I : MI} {L : ML} {R : MR} {S : MS} {D : TD} {C : TC} {P : PR} {Z : AX}
def Nx (I : MI) (P : PR) (b : Nat) : Prop := (∀ k, k < 123 → I 138 k = P k) ∧ (∀ b', b' < 4 → b' ≠ b → I 130 b' = P (123 + b') ∧ I 131 b' = P (127 + b'))
def Fse (b : Nat) (I I' : MI) : Prop := (∀ c, c ≠ 137 → c ≠ 111 → c ≠ 102 → c ≠ 130 → c ≠ 131 → I' c = I c) ∧ (∀ j, j ≠ 68 → j ≠ 69 → I' 102 j = I 102 j) ∧ ∀ j, j ≠ b → I' 130 j = I 130 j ∧ I' 131 j = I 131 j
theorem Fse.refl {b : Nat} : Fse b I I := ⟨fun _ _ _ _ _ _ => rfl, fun _ _ _ => rfl, fun _ _ => ⟨rfl, rfl⟩⟩
theorem Fse.trans {b : Nat} {I' I'' : MI} (h : Fse b I I') (k : Fse b I' I'') : Fse b I I'' := ⟨fun c h1 h2 h3 h4 h5 => (k.1 c h1 h2 h3 h4 h5).trans (h.1 c h1 h2 h3 h4 h5), fun j h1 h2 => (k.2.1 j h1 h2).trans (h.2.1 j h1 h2), fun j hj => ⟨((k.2.2 j hj).1).trans (h.2.2 j hj).1, ((k.2.2 j hj).2).trans (h.2.2 j hj).2⟩⟩
theorem Fm.fse {b : Nat} {I' : MI} (h : Fm I I') : Fse b I I' := ⟨fun c h1 h2 h3 _ _ => h.1 c h1 h2 h3, h.2, fun j _ => by rw [h.1 130 (by omega) (by omega) (by omega), h.1 131 (by omega) (by omega) (by omega)]; exact ⟨rfl, rfl⟩⟩
theorem Fse.rd {b : Nat} {I' : MI} (h : Fse b I I') (hR : Rd I D C) : Rd I' D C := by
  obtain ⟨⟨a1, a2, a3, a4, a5, a6⟩, b2, b3, b4, b5⟩ := hR
  obtain ⟨f1, f2, -⟩ := h
  refine ⟨⟨?_, ?_, ?_, ?_, ?_, ?_⟩, fun a ha => ?_, fun b hb => ?_, fun s hs => ?_, fun r hr => ?_⟩
  · rw [f2 56 (by omega) (by omega)]; exact a1
  · rw [f2 57 (by omega) (by omega)]; exact a2
  · rw [f2 65 (by omega) (by omega)]; exact a3
  · rw [f2 60 (by omega) (by omega)]; exact a4
  · rw [f2 61 (by omega) (by omega)]; exact a5
  · rw [f2 59 (by omega) (by omega)]; exact a6
  · simp (disch := omega) only [f1]; exact b2 a ha
  · simp (disch := omega) only [f1]; exact b3 b hb
  · rw [f2 58 (by omega) (by omega)]
    rcases b4 s hs with ⟨g1, g2⟩ | g
    · exact Or.inl ⟨g1, g2.fr (by simp (disch := omega) only [f1]) (by simp (disch := omega) only [f1]) (by simp (disch := omega) only [f1])⟩
    · exact Or.inr g
  · exact (b5 r hr).fr (by simp (disch := omega) only [f1]) (by simp (disch := omega) only [f1]) (by simp (disch := omega) only [f1])
theorem Fse.nx {b : Nat} {I' : MI} (h : Fse b I I') (hN : Nx I P b) : Nx I' P b := ⟨fun k hk => by rw [h.1 138 (by omega) (by omega) (by omega) (by omega) (by omega)]; exact hN.1 k hk, fun b' h1 h2 => by rw [(h.2.2 b' h2).1, (h.2.2 b' h2).2]; exact hN.2 b' h1 h2⟩
theorem m_gets (hD : OkD D C) {b N x y : Nat} (hN : N ≤ 10) (hR : Rd I D C) (hNx : Nx I P b) (hP : OkP D P) (hb : b < nB D) (hx : x < nW D) (hy : y < nH D) : ∃ I', x11_getsAlone (Int32.ofNat b) (Int32.ofNat N) (wI (wI I 130 b (Int32.ofNat x)) 131 b (Int32.ofNat y)) = some ((sgts D C (Pk P b x y) b N).1, I') ∧ Fse b I I' := by
  have hA := hD.a
  have hB := hD.b
  have f0 : Fse b I (wI (wI I 130 b (Int32.ofNat x)) 131 b (Int32.ofNat y)) := ⟨fun c _ _ _ h4 h5 => by rw [wI_c h5, wI_c h4], fun j _ _ => by rw [wI_c (by omega), wI_c (by omega)], fun j hj => ⟨by rw [wI_c (by omega), wI_ne (Or.inr hj)], by rw [wI_ne (Or.inr hj), wI_c (by omega)]⟩⟩
  have hN1 : Nw (wI (wI I 130 b (Int32.ofNat x)) 131 b (Int32.ofNat y)) (Pk P b x y) := by
    refine ⟨fun k hk => ?_, fun b' hb' => ?_, fun b' hb' => ?_⟩
    · rw [wI_c (by omega), wI_c (by omega), Pk, upd_ne (by omega), upd_ne (by omega)]; exact hNx.1 k hk
    · rw [wI_c (by omega)]
      by_cases e : b' = b
      · subst e; rw [wI_at, Pk, upd_ne (by omega), upd_at]
      · rw [wI_ne (Or.inr e), Pk, upd_ne (by omega), upd_ne (by omega)]; exact (hNx.2 b' hb' e).1
    · by_cases e : b' = b
      · subst e; rw [wI_at, Pk, upd_at]
      · rw [wI_ne (Or.inr e), wI_c (by omega), Pk, upd_ne (by omega), upd_ne (by omega)]; exact (hNx.2 b' hb' e).2
  obtain ⟨I1, h1, h2, h3⟩ := m_loadN hN1
  have f1 : Fm (wI (wI I 130 b (Int32.ofNat x)) 131 b (Int32.ofNat y)) I1 := Fm.of137 h3
  obtain ⟨I2, k1, k2⟩ := m_getsL (P := Pk P b x y) hD hb hN N 0 FU I1 (by omega) (by unfold FU; omega) (f1.rd (f0.rd hR)) h2 (hP.kn hA hB hb hx hy)
  refine ⟨I2, ?_, f0.trans (f1.trans k2).fse⟩
  rw [show (sgts D C (Pk P b x y) b 0).1 = 0 from rfl, show Int32.ofNat 0 = 0 from rfl] at k1
  simp only [x11_getsAlone, h1, QB, k1]
def sbst (D : TD) (C : TC) (P : PR) (b N c : Nat) : Int32 := if c = 0 then -1 else Int32.ofNat (ssea D C P b N c).2
theorem m_seaL {b N : Nat} (hD : OkD D C) (hN : N ≤ 10) (hP : OkP D P) (hb : b < nB D) (hW1 : 1 ≤ nW D) (hH1 : 1 ≤ nH D) : ∀ (j c n : Nat) (I : MI), c + j = nW D * nH D → j < n → Rd I D C → Nx I P b → ∃ I', x11_seat_L54 (Int32.ofNat b) (Int32.ofNat N) n (sbst D C P b N c) (ssea D C P b N c).1 (Int32.ofNat c) I = some (sbst D C P b N (nW D * nH D), (ssea D C P b N (nW D * nH D)).1, I') ∧ Fse b I I' := by
  have hw := hD.w
  have hh := hD.h
  have hB := hD.b
  have h36 : nW D * nH D ≤ 6 * 6 := Nat.mul_le_mul hw hh
  intro j
  induction j with
  | zero =>
    intro c n I hc hn hR hNx
    obtain ⟨n, rfl⟩ : ∃ n', n = n' + 1 := ⟨n - 1, by omega⟩
    obtain rfl : c = nW D * nH D := by omega
    refine ⟨I, ?_, Fse.refl⟩
    simp (disch := omega) only [x11_seat_L54, x11_seat_L54s, hR.1.1, hR.1.2.1, (nWH hD).1, (nWH hD).2, q_mul, QN]
    simp
  | succ j ih =>
    intro c n I hc hn hR hNx
    obtain ⟨n, rfl⟩ : ∃ n', n = n' + 1 := ⟨n - 1, by omega⟩
    have hx : c % nW D < nW D := Nat.mod_lt _ (by omega)
    have hy : c / nW D < nH D := by rw [Nat.div_lt_iff_lt_mul (by omega)]; rw [Nat.mul_comm]; omega
    have e0 : (Int32.ofNat (nW D) = 0) = False := by rw [show (0 : Int32) = Int32.ofNat 0 from rfl, q_eq (by omega) (by omega)]; exact eq_false (by omega)
    have hst : ssea D C P b N (c + 1) = if srm D c = true ∧ (ssea D C P b N c).1 < sval' D C P b N c then (sval' D C P b N c, c) else ssea D C P b N c := rfl
    have hst2 : sbst D C P b N (c + 1) = if srm D c = true ∧ (ssea D C P b N c).1 < sval' D C P b N c then Int32.ofNat c else sbst D C P b N c := by
      simp only [sbst, if_neg (show ¬ c + 1 = 0 by omega), hst]
      by_cases hcc : srm D c = true ∧ (ssea D C P b N c).1 < sval' D C P b N c
      · rw [if_pos hcc, if_pos hcc]
      · rw [if_neg hcc, if_neg hcc]
        by_cases h0 : c = 0
        · subst h0; exact absurd ⟨srm_0 hD, sval_pos hN⟩ hcc
        · rw [if_neg h0]
    have hrm : (srm D c = true) ↔ ¬ (0 < c % nW D ∧ c % nW D < nW D - 1 ∧ 0 < c / nW D ∧ c / nW D < nH D - 1) := by
      have p1 : Int32.ofNat (nW D) - 1 = Int32.ofNat (nW D - 1) := (Int32.ofNat_sub (nW D) 1 (by omega)).symm
      have p2 : Int32.ofNat (nH D) - 1 = Int32.ofNat (nH D - 1) := (Int32.ofNat_sub (nH D) 1 (by omega)).symm
      simp only [srm, srim, (nWH hD).1, (nWH hD).2, p1, p2, decide_eq_true_eq]
      generalize c % nW D = x at hx ⊢
      generalize c / nW D = y at hy ⊢
      rw [show (0 : Int32) = Int32.ofNat 0 from rfl, q_eq (by omega) (by omega), q_eq (by omega) (by omega), q_eq (by omega) (by omega), q_eq (by omega) (by omega)]
      omega
    simp (disch := omega) only [x11_seat_L54, x11_seat_L54s, hR.1.1, hR.1.2.1, (nWH hD).1, (nWH hD).2, q_mul, QN, QB, if_pos (show c < nW D * nH D by omega), e0, not_false_eq_true, q_rm, q_div, q_subn, nest4]
    by_cases hr : srm D c = true
    · obtain ⟨I1, m1, m2⟩ := m_gets (C := C) hD hN hR hNx hP hb hx hy
      rw [if_neg (hrm.mp hr), m1]
      obtain ⟨I2, r1, r2⟩ := ih (c + 1) n I1 (by omega) (by omega) (m2.rd hR) (m2.nx hNx)
      refine ⟨I2, ?_, m2.trans r2⟩
      rw [show (sgts D C (Pk P b (c % nW D) (c / nW D)) b N).1 = sval' D C P b N c from rfl]
      simp only [QB]
      by_cases hv : (ssea D C P b N c).1 < sval' D C P b N c
      · rw [hst, hst2, if_pos ⟨hr, hv⟩, if_pos ⟨hr, hv⟩] at r1
        rw [if_pos hv]; exact r1
      · rw [hst, hst2, if_neg (fun h => hv h.2), if_neg (fun h => hv h.2)] at r1
        rw [if_neg hv]; exact r1
    · have hr' : (0 < c % nW D ∧ c % nW D < nW D - 1 ∧ 0 < c / nW D ∧ c / nW D < nH D - 1) := by
        by_cases h : (0 < c % nW D ∧ c % nW D < nW D - 1 ∧ 0 < c / nW D ∧ c / nW D < nH D - 1)
        · exact h
        · exact absurd (hrm.mpr h) hr
      rw [if_pos hr']
      obtain ⟨I2, r1, r2⟩ := ih (c + 1) n I (by omega) (by omega) hR hNx
      rw [hst, hst2, if_neg (fun h => hr h.1), if_neg (fun h => hr h.1)] at r1
      exact ⟨I2, r1, r2⟩
theorem op_seat (h : INV t I L R S D C P Z) (p n w : Int32) : ∃ r I1 I2, x10_seat t p n w I = some (r, I1) ∧ x11_seat p n w I1 = some (r, I2) ∧ INV t I2 L R S D C P Z := by
  have hS := h.1
  have ht := hS.2.2.2.1
  have hD := h.2.2.2.1.1
  have hB := hD.b
  have hw := hD.w
  have hh := hD.h
  have hP := h.2.2.2.1.2.1
  have e2 : ∀ J, x11_isIn w 0 2 J = some (b2i (isu w 2)) := fun J => m_isu w 2 (by omega)
  have hw2 : (isu w 2 = true) = ¬ (w < 0 ∨ 2 < w) := isu_c (by omega)
  by_cases h1 : isn p (nB D) = true
  · by_cases h2 : (isn n 11 && decide (n ≠ 0)) = true
    · by_cases h3 : isu w 2 = true
      · obtain ⟨b, hb, rfl⟩ := isn_t (by omega) h1
        obtain ⟨N, h1N, hN, rfl⟩ := trn_t h2
        obtain ⟨⟨x0, hx0, -⟩, ⟨y0, hy0, -⟩⟩ := hP.2.2 b hb
        obtain ⟨I1, c1, c2, c3⟩ := c_seat (b := b) hD ht hN h.2.1.1 h.2.1.2.1 hP hb
        have hi := h.q (c3.kc hS) Kr.refl
        obtain ⟨I2, m1, m2⟩ := m_seaL (b := b) (C := C) hD hN hP hb (by omega) (by omega) (nW D * nH D) 0 FU I1 (by omega) (by have : nW D * nH D ≤ 6 * 6 := Nat.mul_le_mul hw hh; unfold FU; omega) hi.2.2.1.1 ⟨hi.2.2.1.2.1.1, fun b' hb' _ => ⟨hi.2.2.1.2.1.2.1 b' hb', hi.2.2.1.2.1.2.2 b' hb'⟩⟩
        rw [show sbst D C P b N 0 = -1 from rfl, show (ssea D C P b N 0).1 = -1 from rfl, show Int32.ofNat 0 = 0 from rfl] at m1
        have hpos : 0 < nW D * nH D := Nat.mul_pos (by omega) (by omega)
        have h36 : nW D * nH D ≤ 6 * 6 := Nat.mul_le_mul hw hh
        have hbl := ssea_lt (D := D) (C := C) (P := P) (b := b) (N := N) (srm_0 hD) hN _ hpos
        have hsb : sbst D C P b N (nW D * nH D) = Int32.ofNat (ssea D C P b N (nW D * nH D)).2 := by rw [sbst, if_neg (by omega)]
        have hc : nH D * nW D = nW D * nH D := Nat.mul_comm _ _
        rw [hc] at c2
        have c2' := c2.2 hpos
        have hf : Kr I1 (wI (wI I2 130 b (I1 130 b)) 131 b (I1 131 b)) := by
          refine ⟨fun c hc => ?_, fun j h1 h2 _ => by rw [wI_c (by omega), wI_c (by omega)]; exact m2.2.1 j h1 h2⟩
          by_cases e1 : c = 130
          · subst e1
            rw [wI_c (by omega)]
            funext j
            by_cases ej : j = b
            · subst ej; rw [wI_at]
            · rw [wI_ne (Or.inr ej)]; exact (m2.2.2 j ej).1
          · by_cases e2 : c = 131
            · subst e2
              funext j
              by_cases ej : j = b
              · subst ej; rw [wI_at]
              · rw [wI_ne (Or.inr ej), wI_c (by omega)]; exact (m2.2.2 j ej).2
            · rw [wI_c e2, wI_c e1]; exact m2.1 c (by omega) (by omega) (by omega) e1 e2
        have h102 : (wI (wI I2 130 b (I1 130 b)) 131 b (I1 131 b)) 102 56 = Int32.ofNat (nW D) := by
          rw [wI_c (by omega), wI_c (by omega), m2.2.1 56 (by omega) (by omega), hi.2.2.1.1.1.1, (nWH hD).1]
        have e0 : (Int32.ofNat (nW D) = 0) = False := by rw [show (0 : Int32) = Int32.ofNat 0 from rfl, q_eq (by omega) (by omega)]; exact eq_false (by omega)
        obtain ⟨k, hk, rfl⟩ := isn_t (by omega) h3
        have n1 : (131 : Nat) ≠ 130 := by omega
        have hv : I2 130 = I2 130 := rfl
        refine ⟨if k = 0 then Int32.ofNat ((ssea D C P b N (nW D * nH D)).2 % nW D) else if k = 1 then Int32.ofNat ((ssea D C P b N (nW D * nH D)).2 / nW D) else (ssea D C P b N (nW D * nH D)).1, I1, wI (wI I2 130 b (I1 130 b)) 131 b (I1 131 b), ?_, ?_, hi.q Kc.refl hf⟩
        · have hk3 : k = 0 ∨ k = 1 ∨ k = 2 := by omega
          simp only [x10_seat, c_isB hD h.2.1.1, QB, b2i_0, h1, h2, if_true, c_trn, c1]
          rw [hw2] at h3
          rw [if_neg (fun h => h3 (Or.inl h)), if_neg (fun h => h3 (Or.inr h))]
          rcases hk3 with rfl | rfl | rfl
          · simp [c2'.1]
          · simp [c2'.2]
          · simp [c2.1]
        · have hk3 : k = 0 ∨ k = 1 ∨ k = 2 := by omega
          simp (disch := omega) only [x11_seat, m_isB hD hi.2.2.1.1, QB, QN, b2i_0, h1, h2, h3, if_true, m_trn, e2, m1, h102, e0, not_false_eq_true, hsb, q_rm, q_div]
          rcases hk3 with rfl | rfl | rfl <;> simp
      · have h3' : isu w 2 = false := by simpa using h3
        refine ⟨-1, I, I, ?_, ?_, h⟩
        · simp only [x10_seat, c_isB hD h.2.1.1, QB, b2i_0, h1, h2, if_true, c_trn]
          rw [hw2, Classical.not_not] at h3
          rcases h3 with h3 | h3
          · rw [if_pos h3]
          · by_cases h0 : w < 0
            · rw [if_pos h0]
            · rw [if_neg h0, if_pos h3]
        · simp [x11_seat, m_isB hD h.2.2.1.1, QB, b2i_0, h1, h2, h3', m_trn, e2]
    · have h2' : (isn n 11 && decide (n ≠ 0)) = false := by simpa using h2
      refine ⟨-1, I, I, ?_, ?_, h⟩
      · simp only [x10_seat, c_isB hD h.2.1.1, QB, b2i_0, h1, h2', if_true, c_trn, Bool.false_eq_true, if_false]
      · simp only [x11_seat, m_isB hD h.2.2.1.1, QB, b2i_0, h1, h2', if_true, m_trn, Bool.false_eq_true, if_false]
  · have h1' : isn p (nB D) = false := by simpa using h1
    refine ⟨-1, I, I, ?_, ?_, h⟩
    · simp [x10_seat, c_isB hD h.2.1.1, QB, b2i_0, h1']
    · simp [x11_seat, m_isB hD h.2.2.1.1, QB, b2i_0, h1']
end OP
