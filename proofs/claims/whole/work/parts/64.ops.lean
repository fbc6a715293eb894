/-! CALLS, 23: an image -/
section OP
variable {t : Nat} {I : MI} {L : ML} {R : MR} {S : MS} {D : TD} {C : TC} {P : PR} {Z : AX}
theorem c_img (h : INV t I L R S D C P Z) {b q : Nat} (hb : b < 3) (hq : R 61 b = some q) : ∃ I1, x7_copyAll q 47 I = some I1 ∧ (∀ c, (c < q ∨ q + 11 < c) → c ≠ 62 → (wI I1 62 b 1) c = I c) ∧ Rl D true (wI I1 62 b 1) q P ∧ wI I1 62 b 1 62 b = 1 ∧ (∀ j, j ≠ b → wI I1 62 b 1 62 j = I 62 j) ∧ x10_afloatSet t (wI I1 62 b 1) = some (Int32.ofNat (sas P (nA D))) ∧ RI (wI I1 62 b 1) D C P Z := by
  obtain ⟨hS, hc, hm, ha, hw⟩ := id h
  have ht := hS.2.2.2.1
  have hD := ha.1
  have hdb : dyn 61 b := Or.inr (Or.inl ⟨rfl, hb⟩)
  have hq90 := hS.q90 hdb hq
  obtain ⟨I1, c1, c2, c3⟩ := c_copyAll (q0 := q) (C := C) hD hc.2.1 (by omega)
  have f : ∀ c, (c < q ∨ q + 11 < c) → c ≠ 62 → (wI I1 62 b 1) c = I c := fun c h1 h2 => by rw [wI_c h2]; exact c3 c h1
  have h47 : Rl D true (wI I1 62 b 1) 47 P := hc.2.1.fr (fun c h1 h2 => f c (by omega) (by omega))
  have hT : Td (wI I1 62 b 1) t D C := hc.1.ag (fun j hj => f _ (by rcases ht with h | h <;> omega) (by rcases ht with h | h <;> omega))
  refine ⟨I1, c1, f, c2.fr (fun c h1 h2 => wI_c (by omega)), wI_at, fun j hj => by rw [wI_ne (Or.inr hj)]; rw [c3 62 (by omega)], (c_cnt hD hT h47 I).1, hm.kc (fun c r1 r2 => f c (by omega) (by omega))⟩
theorem Rd.fr2 {I' : MI} (f : ∀ c, (c = 102 ∨ (107 ≤ c ∧ c ≤ 109) ∨ (125 ≤ c ∧ c ≤ 136)) → I' c = I c) (h : Rd I D C) : Rd I' D C := by
  obtain ⟨⟨a1, a2, a3, a4, a5, a6⟩, b2, b3, b4, b5⟩ := h
  have f3 : I' 102 = I 102 := f 102 (by omega)
  refine ⟨⟨by rw [f3]; exact a1, by rw [f3]; exact a2, by rw [f3]; exact a3, by rw [f3]; exact a4, by rw [f3]; exact a5, by rw [f3]; exact a6⟩, fun a ha => ?_, fun b hb => ?_, fun s hs => ?_, fun r hr => ?_⟩
  · simp (disch := omega) only [f]; exact b2 a ha
  · simp (disch := omega) only [f]; exact b3 b hb
  · rw [f3]
    rcases b4 s hs with ⟨g1, g2⟩ | g
    · exact Or.inl ⟨g1, g2.fr (by simp (disch := omega) only [f]) (by simp (disch := omega) only [f]) (by simp (disch := omega) only [f])⟩
    · exact Or.inr g
  · exact (b5 r hr).fr (by simp (disch := omega) only [f]) (by simp (disch := omega) only [f]) (by simp (disch := omega) only [f])
theorem m_img (hD : OkD D C) (hm : RI I D C P Z) {b : Nat} (hb : b < 3) : ∃ I2, x11_image (Int32.ofNat b) I = some (Int32.ofNat (scnt P (nA D)), I2) ∧ (∀ c, c ≠ 137 → c ≠ 156 → c ≠ 157 → I2 c = I c) ∧ I2 156 b = 1 ∧ (∀ j, j ≠ b → I2 156 j = I 156 j) ∧ (∀ k, k < 123 → I2 157 (128 * b + k) = P k) ∧ (∀ i, (∀ k, k < 123 → i ≠ 128 * b + k) → I2 157 i = I 157 i) := by
  have hN : Nw (wI I 156 b 1) P := ⟨fun k hk => by rw [wI_c (by omega)]; exact hm.2.1.1 k hk, fun j hj => by rw [wI_c (by omega)]; exact hm.2.1.2.1 j hj, fun j hj => by rw [wI_c (by omega)]; exact hm.2.1.2.2 j hj⟩
  obtain ⟨I3, l1, l2, l3⟩ := m_loadN hN
  obtain ⟨I4, k1, k2, k3, k4⟩ := m_imageL hb 123 0 FU I3 (by omega) (by unfold FU; omega)
  rw [show Int32.ofNat 0 = 0 from rfl] at k1
  have f : ∀ c, c ≠ 137 → c ≠ 156 → c ≠ 157 → I4 c = I c := fun c h1 h2 h3 => by rw [k4 c h3, l3 c h1, wI_c h2]
  have hR : Rd I4 D C := hm.1.fr2 (fun c hc => f c (by omega) (by omega) (by omega))
  have hW : Wr I4 P := ⟨fun k hk => by rw [k4 137 (by omega)]; exact l2.1 k hk, fun j hj => by rw [k4 130 (by omega)]; exact l2.2.1 j hj, fun j hj => by rw [k4 131 (by omega)]; exact l2.2.2 j hj⟩
  have hz : zb (1 : Int32) = 1 := rfl
  refine ⟨I4, ?_, f, ?_, fun j hj => ?_, fun k hk => ?_, fun i hi => ?_⟩
  · simp (disch := omega) only [x11_image, x11_isBox, q_neg, QN, QB, if_pos hb, if_false, hz, l1, k1, m_cnt hD hR hW]
  · rw [k4 156 (by omega), l3 156 (by omega), wI_at]
  · rw [k4 156 (by omega), l3 156 (by omega), wI_ne (Or.inr hj)]
  · rw [k2 k (by omega) hk]; exact l2.1 k hk
  · rw [k3 i (fun k _ hk => hi k hk), l3 157 (by omega), wI_c (by omega)]
theorem op_image (h : INV t I L R S D C P Z) (p : Int32) : ∃ r I1 L1 R1 S1 I2 Z', x10_image p I L R S = some (r, I1, L1, R1, S1) ∧ x11_image p I1 = some (r, I2) ∧ INV t I2 L1 R1 S1 D C P Z' ∧ Gr R S R1 S1 := by
  obtain ⟨hS, hc, hm, ha, hw⟩ := id h
  have ht := hS.2.2.2.1
  have hD := ha.1
  have hz : zb (1 : Int32) = 1 := rfl
  by_cases h0 : p < 0
  · exact ⟨-1, I, L, R, S, I, Z, by simp only [x10_image, if_pos h0], by simp only [x11_image, x11_isBox, if_pos h0, QB]; rfl, h, Gr.refl⟩
  · by_cases h3 : p < 3
    · obtain ⟨b, hb, rfl⟩ := exn h0 (n := 3) h3 (by omega)
      have hdb : dyn 61 b := Or.inr (Or.inl ⟨rfl, hb⟩)
      have cB : ∀ J, j6_bitCount_0f7a4 (Int32.ofNat (sas P (nA D))) J = some (Int32.ofNat (scnt P (nA D))) := fun J => (c_cnt hD hc.1 hc.2.1 J).2
      cases hr : R 61 b with
      | none =>
        obtain ⟨I', L', R', n1, n2, n3, n4, n5, n6, n7, n8⟩ := hS.new I L hdb hr
        have hg := h.grow n4 n5 n6
        obtain ⟨I1, c1, c2, c3, c4, c5, c6, c7⟩ := c_img hg hb n7
        obtain ⟨I2, m1, m2, m3, m4, m5, m6⟩ := m_img hD c7 hb
        have hst := (n4.2.2.2.2.2.2.1 61 b S.length hdb n7).1
        refine ⟨Int32.ofNat (scnt P (nA D)), wI I1 62 b 1, L', wR R' 61 b (some S.length), S ++ stk, I2, _, ?_, m1, hg.box hb n7 c2 c3 c4 c5 m2 m3 m4 m5 m6, n5⟩
        simp (disch := omega) only [x10_image, q_neg, QN, QB, if_pos hb, if_false, ck_pos hS.1, hr, Option.isNone_none, if_true, al, n1, ck_pos n2, ck_pos n3, ck_pos n4.1, n7, ck_pos hst, c1, hz, n4.2.2.1, ck_pos ht, c6, cB]
      | some q =>
        obtain ⟨I1, c1, c2, c3, c4, c5, c6, c7⟩ := c_img h hb hr
        obtain ⟨I2, m1, m2, m3, m4, m5, m6⟩ := m_img hD c7 hb
        have hst := (hS.2.2.2.2.2.2.1 61 b q hdb hr).1
        refine ⟨Int32.ofNat (scnt P (nA D)), wI I1 62 b 1, L, R, S, I2, _, ?_, m1, h.box hb hr c2 c3 c4 c5 m2 m3 m4 m5 m6, Gr.refl⟩
        simp (disch := omega) only [x10_image, q_neg, QN, QB, if_pos hb, if_false, ck_pos hS.1, hr, Option.isNone_some, Bool.false_eq_true, ck_pos hst, ck_pos hst.2.1, c1, hz, hS.2.2.1, ck_pos ht, c6, cB]
    · exact ⟨-1, I, L, R, S, I, Z, by simp only [x10_image, if_neg h0, if_neg h3], by simp only [x11_image, x11_isBox, if_neg h0, if_neg h3, QB]; rfl, h, Gr.refl⟩
end OP
