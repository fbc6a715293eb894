/-! CALLS, 41: the best alone, in the class -/
def Nf (t d : Nat) (I : MI) (L : ML) (R : MR) (S : MS) (I' : MI) (L' : ML) (R' : MR) (S' : MS) : Prop := RS t R' S' ∧ Gr R S R' S' ∧ FrL t d I I' L L' S R' ∧ I' 63 6 = I 63 6
def Sd (t d q : Nat) (D : TD) (C : TC) (P : PR) (I : MI) (R : MR) (S : MS) : Prop := RS t R S ∧ Td I t D C ∧ R 64 d = some q ∧ Rl D false I q P
def bc (o : Option Nat) : Int32 := o.elim (-1) (fun t => if t = 50 then -2 else Int32.ofNat (10 * (t / 5) + t % 5))
/-- what comes of n looks behind k: v, or spent -/
def BR (k n : Nat) (v r : Int32) (I' : MI) : Prop := (k + n ≤ 20000 ∧ r = v ∧ I' 63 2 = Int32.ofNat (k + n) ∧ I' 63 3 = 0) ∨ (20000 < k + n ∧ I' 63 3 = 1)
def BL (k : Nat) (a : BA) (x y : Int32) (I' : MI) : Prop := (k + a.2.2 ≤ 20000 ∧ x = Int32.ofNat a.1 ∧ y = bc a.2.1 ∧ I' 63 2 = Int32.ofNat (k + a.2.2) ∧ I' 63 3 = 0) ∨ (20000 < k + a.2.2 ∧ I' 63 3 = 1)
def BFok (t : Nat) (D : TD) (C : TC) (b f m : Nat) : Prop := ∀ (left d : Nat) (I : MI) (L : ML) (R : MR) (S : MS) (P : PR) (q k : Nat), left ≤ f → d + left ≤ 8 → left < m → OkP D P → Sd t d q D C P I R S → I 63 6 = Int32.ofNat b → I 63 2 = Int32.ofNat k → I 63 3 = 0 → k ≤ 20000 → (d = 0 → I 63 4 = -1) → ∃ r I' L' R' S', x6_BF m (Int32.ofNat d) (Int32.ofNat left) I L R S = some (r, I', L', R', S') ∧ Nf t (d + 1) I L R S I' L' R' S' ∧ BR k (bs D C b f left P).2.2 (Int32.ofNat (bs D C b f left P).1) r I' ∧ (d = 0 → I' 63 3 = 0 → I' 63 4 = bc (bs D C b f left P).2.1)
section NF
variable {t d q : Nat} {I I1 I2 I' : MI} {L L1 L2 L' : ML} {R R1 R2 R' : MR} {S S1 S2 S' : MS} {D : TD} {C : TC} {P P' : PR} {b f m : Nat}
theorem Nf.refl (hS : RS t R S) : Nf t d I L R S I L R S := ⟨hS, Gr.refl, FrL.refl, rfl⟩
theorem Nf.trans (h : Nf t d I L R S I1 L1 R1 S1) (k : Nf t d I1 L1 R1 S1 I2 L2 R2 S2) : Nf t d I L R S I2 L2 R2 S2 := ⟨k.1, h.2.1.trans k.2.1, h.2.2.1.trans k.2.2.1 h.2.1.1 k.2.1, k.2.2.2.trans h.2.2.2⟩
theorem Nf.mono {d' : Nat} (h : Nf t d I L R S I' L' R' S') (hd : d' ≤ d) : Nf t d' I L R S I' L' R' S' := ⟨h.1, h.2.1, h.2.2.1.mono hd, h.2.2.2⟩
theorem Nf.w {i : Nat} {v : Int32} (h : Nf t d I L R S I' L' R' S') (hi : i ≠ 6) : Nf t d I L R S (wI I' 63 i v) L' R' S' := ⟨h.1, h.2.1, h.2.2.1.w (Or.inl rfl), by rw [wI_ne (by omega)]; exact h.2.2.2⟩
theorem Sd.nf (h : Sd t d q D C P I R S) (k : Nf t (d + 1) I L R S I' L' R' S') (hd : d < 9) : Sd t d q D C P I' R' S' := ⟨k.1, k.2.2.1.td h.1 k.1 k.2.1 h.2.1, k.2.1.2 64 d q (dyn64 hd) h.2.2.1, k.2.2.1.rl h.1 k.1 k.2.1 hd h.2.2.1 h.2.2.2⟩
theorem Sd.stt (h : Sd t d q D C P I R S) (hd : d < 9) : isSt R S q := (h.1.2.2.2.2.2.2.1 64 d q (dyn64 hd) h.2.2.1).1
theorem Sd.qq (h : Sd t d q D C P I R S) (hd : d < 9) : isq t q := ⟨h.1.2.2.2.1, by have := h.1.q90 (dyn64 hd) h.2.2.1; omega⟩
theorem Sd.fc (h : Sd t d q D C P I R S) (hd : d < 9) (k : Fc t q I I') (hR : Rl D false I' q P') (L : ML) : Sd t d q D C P' I' R S ∧ Nf t d I L R S I' L R S ∧ I' 63 = I 63 := by
  have h90 := h.1.q90 (dyn64 hd) h.2.2.1
  have ht := h.1.2.2.2.1
  have F : FrL t d I I' L L S R := FrL.fc' k h.2.2.1 hd
  have e : I' 63 = I 63 := k 63 (by omega) (by omega) (by rcases ht with h | h <;> omega) (by omega)
  exact ⟨⟨h.1, F.td h.1 h.1 Gr.refl h.2.1, h.2.2.1, hR⟩, ⟨h.1, Gr.refl, F, by rw [e]⟩, e⟩
theorem Sd.fg {d' : Nat} (h : Sd t d q D C P I R S) (hd : d < 9) (k : Fg t I I') (L : ML) : Sd t d q D C P I' R S ∧ Nf t d' I L R S I' L R S ∧ I' 63 = I 63 := by
  have ht := h.1.2.2.2.1
  have F : FrL t d' I I' L L S R := FrL.fg k
  have e : I' 63 = I 63 := k 63 (by omega) (by omega) (by rcases ht with h | h <;> omega)
  exact ⟨⟨h.1, F.td h.1 h.1 Gr.refl h.2.1, h.2.2.1, h.2.2.2.fg (h.qq hd) k⟩, ⟨h.1, Gr.refl, F, by rw [e]⟩, e⟩
theorem Sd.w {i : Nat} {v : Int32} (h : Sd t d q D C P I R S) (hd : d < 9) : Sd t d q D C P (wI I 63 i v) R S := by
  have h90 := h.1.q90 (dyn64 hd) h.2.2.1
  have F : FrL t (d + 1) I (wI I 63 i v) (fun _ _ => 0) (fun _ _ => 0) S R := FrL.w (Or.inl rfl) FrL.refl
  exact ⟨h.1, F.td h.1 h.1 Gr.refl h.2.1, h.2.2.1, h.2.2.2.fr (fun c a b => wI_c (by omega))⟩
theorem c_nx (h : Sd t d q D C P I R S) (hD : OkD D C) (hd : d < 8) (L : ML) : ∃ q' I' L' R' S', x6_nextLevel (Int32.ofNat d) I L R S = some (q', I', L', R', S') ∧ Nf t (d + 1) I L R S I' L' R' S' ∧ Sd t (d + 1) q' D C P I' R' S' ∧ I' 63 = I 63 := by
  obtain ⟨q', I', L', R', S', a1, a2, a3, a4, a5, a6, a7, a8, a9, a10⟩ := c_next (C := C) h.1 hD hd h.2.2.1 h.2.2.2 L
  exact ⟨q', I', L', R', S', a1, ⟨a2, a3, a8, by rw [a9]⟩, ⟨a2, a8.td h.1 a2 a3 h.2.1, a4, a5⟩, a9⟩
theorem c_spent {d' l' : Int32} (hS : RS t R S) (h3 : I 63 3 = 1) (L : ML) : x6_BF (m + 1) d' l' I L R S = some (0, wI (wI I 63 2 (I 63 2 + 1)) 63 3 1, L, R, S) := by
  have e : wI I 63 2 (I 63 2 + 1) 63 3 = 1 := by rw [wI_ne (by omega)]; exact h3
  simp only [x6_BF, x6_bestFrom, ck_pos hS.1, QB, e, if_false, wI_at]
  exact ck_pos (Or.inr trivial)
/-- a look deeper, spent or not -/
theorem c_rc (hIH : BFok t D C b f m) {left k : Nat} (hl : left ≤ f) (hdl : d + left ≤ 8) (hm : left < m) (hP : OkP D P) (h : Sd t d q D C P I R S) (h6 : I 63 6 = Int32.ofNat b) (hd0 : d ≠ 0) (hk : (k ≤ 20000 ∧ I 63 2 = Int32.ofNat k ∧ I 63 3 = 0) ∨ (20000 < k ∧ I 63 3 = 1)) (L : ML) : ∃ r I' L' R' S', x6_BF m (Int32.ofNat d) (Int32.ofNat left) I L R S = some (r, I', L', R', S') ∧ Nf t (d + 1) I L R S I' L' R' S' ∧ BR k (bs D C b f left P).2.2 (Int32.ofNat (bs D C b f left P).1) r I' := by
  rcases hk with ⟨k1, k2, k3⟩ | ⟨k1, k2⟩
  · obtain ⟨r, I', L', R', S', a1, a2, a3, -⟩ := hIH left d I L R S P q k hl hdl hm hP h h6 k2 k3 k1 (fun e => absurd e hd0)
    exact ⟨r, I', L', R', S', a1, a2, a3⟩
  · obtain ⟨m, rfl⟩ : ∃ m', m = m' + 1 := ⟨m - 1, by omega⟩
    exact ⟨0, _, L, R, S, c_spent h.1 k2 L, ((Nf.refl h.1).w (by omega)).w (by omega), Or.inr ⟨by omega, wI_at⟩⟩
theorem BR.st {k n : Nat} {v r : Int32} (h : BR k n v r I) : (k + n ≤ 20000 ∧ I 63 2 = Int32.ofNat (k + n) ∧ I 63 3 = 0) ∨ (20000 < k + n ∧ I 63 3 = 1) := by
  rcases h with ⟨a, b, c, d⟩ | h
  · exact Or.inl ⟨a, c, d⟩
  · exact Or.inr h
theorem c_bbt (hD : OkD D C) (hb : b < nB D) (hIH : BFok t D C b f m) {left T K : Nat} (hl : left ≤ f + 1) (hdl : d + left ≤ 8) (hm : left ≤ m) (hP : OkP D P) (h : Sd t d q D C P I R S) (h6 : I 63 6 = Int32.ofNat b) (h2 : I 63 2 = Int32.ofNat K) (h3 : I 63 3 = 0) (hK : K ≤ 20000) (hT : T / 5 < nA D) (hs : secn (T % 5) ≤ left) (hsc : scan D P b (T / 5) (T % 5) = true) (L : ML) : ∃ r I' L' R' S', x6_bestByTry (x6_BF m) (Int32.ofNat d) (Int32.ofNat left) (Int32.ofNat (T / 5)) (Int32.ofNat (T % 5)) I L R S = some (r, I', L', R', S') ∧ Nf t (d + 1) I L R S I' L' R' S' ∧ BR K ((bs D C b f (left - secn (T % 5)) (bG P b T)).2.2 + (bs D C b f (left - secn (T % 5)) (bM D P b T)).2.2) (Int32.ofNat (bval (bodd D C P b T) (bs D C b f (left - secn (T % 5)) (bG P b T)).1 (bs D C b f (left - secn (T % 5)) (bM D P b T)).1)) r I' := by
  have hA := hD.a
  have hB := hD.b
  have hk5 : T % 5 < 5 := Nat.mod_lt T (by omega)
  obtain ⟨s1, s2, s3⟩ := secn_k hk5
  obtain ⟨I0, o1, o2⟩ := c_odds hD h.2.1 h.2.2.2 (h.qq (by omega)) hb hT hk5
  obtain ⟨g0, n0, e0⟩ := h.fg (d' := d + 1) (by omega) o2 L
  have hsp0 : OkP D (spsec P b (T % 5)) := hP.psec hA hB hb
  obtain ⟨q1, I1, L1, R1, S1, a1, a2, a3, a4⟩ := c_nx g0 hD (by omega) L
  have a3' : Rl D false I1 q1 (spsec P b (T % 5)) := a3.2.2.2.p10 hA hB _ (show b < 4 by omega)
  obtain ⟨I2, b1', b2', b3'⟩ := c_getBy (t := t) hD a3' hb hT hk5
  obtain ⟨g2, n2, e2⟩ := a3.fc (by omega) b3' b2' L1
  have N2 := (n0.trans a2).trans (n2.mono (Nat.le_refl _))
  obtain ⟨r3, I3, L3, R3, S3, c1, c2, c3⟩ := c_rc (left := left - secn (T % 5)) (k := K) hIH (by omega) (by omega) (by omega) (hsp0.get hA hB hb hT) g2 (by rw [e2, a4, e0]; exact h6) (by omega) (Or.inl ⟨hK, by rw [e2, a4, e0]; exact h2, by rw [e2, a4, e0]; exact h3⟩) L1
  have N3 := N2.trans (c2.mono (by omega))
  have g3 := h.nf N3 (by omega)
  obtain ⟨q4, I4, L4, R4, S4, d1, d2, d3, d4⟩ := c_nx g3 hD (by omega) L3
  have d3' : Rl D false I4 q4 (spsec P b (T % 5)) := d3.2.2.2.p10 hA hB _ (show b < 4 by omega)
  obtain ⟨I5, x1, x2, x3⟩ := c_missBy hD d3.2.1 d3' hsp0 (d3.qq (by omega)) hb hT hk5 (by rw [spsec_ne (by omega)]; exact scan_fl hsc)
  obtain ⟨g5, n5, e5⟩ := d3.fc (by omega) x3 x2 L4
  have N5 := (N3.trans d2).trans (n5.mono (Nat.le_refl _))
  have h65 : I5 63 6 = Int32.ofNat b := by rw [N5.2.2.2]; exact h6
  have hst := c3.st
  obtain ⟨r6, I6, L6, R6, S6, y1, y2, y3⟩ := c_rc (left := left - secn (T % 5)) (k := K + (bs D C b f (left - secn (T % 5)) (bG P b T)).2.2) hIH (by omega) (by omega) (by omega) (hsp0.miss hD hb hT) g5 h65 (by omega) (by rw [e5, d4]; exact hst) L4
  have N6 := N5.trans (y2.mono (by omega))
  refine ⟨((((sodds D C P b (T / 5) (T % 5)).toInt64 * (1000000 + r3.toInt64)) + ((100 - sodds D C P b (T / 5) (T % 5)).toInt64 * r6.toInt64)) / 100).toInt32, I6, L6, R6, S6, ?_, N6, ?_⟩
  · have h61 : I1 63 6 = Int32.ofNat b := by rw [a4, e0]; exact h6
    have h64 : I4 63 6 = Int32.ofNat b := by rw [(N3.trans d2).2.2.2]; exact h6
    have esec : Int32.ofNat left - ([1, 1, 2, 3, 1] : List Int32).getD (T % 5) 0 = Int32.ofNat (left - secn (T % 5)) := by
      rw [show ([1, 1, 2, 3, 1] : List Int32).getD (T % 5) 0 = ssec (T % 5) from rfl, s1, q_sub hs]
    simp (disch := omega) only [x6_bestByTry, ck_pos h.1.1, h3, if_true, c_lev h.1 (show d < 9 by omega) h.2.2.1, QB, QN, h.1.2.2.1, ck_pos h.1.2.2.2.1, ck_pos (h.stt (by omega)), h6, o1, esec, a1, ck_pos a3.1.1, ck_pos (a3.stt (by omega)), h61, b1', c1, ck_pos c2.1.1, d1, ck_pos d3.1.1, d3.1.2.2.1, ck_pos (d3.stt (by omega)), h64, x1, y1]
  · change BR _ (bs D C b f (left - secn (T % 5)) (bM D P b T)).2.2 (Int32.ofNat (bs D C b f (left - secn (T % 5)) (bM D P b T)).1) r6 I6 at y3
    change BR _ (bs D C b f (left - secn (T % 5)) (bG P b T)).2.2 (Int32.ofNat (bs D C b f (left - secn (T % 5)) (bG P b T)).1) r3 I3 at c3
    rcases y3 with ⟨z1, z2, z3, z4⟩ | ⟨z1, z2⟩
    · refine Or.inl ⟨by omega, ?_, by rw [z3, Nat.add_assoc], z4⟩
      rcases c3 with ⟨w1, w2, w3, w4⟩ | ⟨w1, w2⟩
      · have l1 := bs_le (D := D) (C := C) (b := b) f (left - secn (T % 5)) (bG P b T)
        have l2 := bs_le (D := D) (C := C) (b := b) f (left - secn (T % 5)) (bM D P b T)
        have l3 : (left - secn (T % 5)) * 1000000 ≤ 8 * 1000000 := Nat.mul_le_mul_right _ (by omega)
        have l4 := Nat.le_trans l1 l3
        have l5 := Nat.le_trans l2 l3
        rw [w2, z2, bodd_n.1]
        exact bval_64 bodd_n.2 l4 l5
      · omega
    · exact Or.inr ⟨by omega, z2⟩
end NF
