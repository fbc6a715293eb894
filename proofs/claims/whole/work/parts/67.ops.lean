/-! CALLS, 26: back to an image -/
section IN
variable {t : Nat} {I I1 K : MI} {L L' : ML} {R R' : MR} {S S' : MS} {D : TD} {C : TC} {P P' : PR} {Z : AX}
/-- the ring's first state, which the start makes, is carried along beside INV -/
def R0 (R : MR) : Prop := R 60 0 = some 90
theorem R0.gr (h : R0 R) (k : Gr R S R' S') : R0 R' := k.2 60 0 90 (Or.inl ⟨rfl, by omega⟩) h
theorem op_back (h : INV t I L R S D C P Z) (r0 : R0 R) (p : Int32) : ∃ r I1 I2 P' Z', x10_back p I L R S = some (r, I1, L, R, S) ∧ x11_back p I1 = some (r, I2) ∧ INV t I2 L R S D C P' Z' := by
  obtain ⟨hS, hc, hm, ha, hw⟩ := id h
  have ht := hS.2.2.2.1
  have hD := ha.1
  by_cases h0 : p < 0
  · exact ⟨-1, I, I, P, Z, by simp only [x10_back, if_pos h0], by simp only [x11_back, x11_isBox, if_pos h0, QB]; rfl, h⟩
  · by_cases h3 : p < 3
    · obtain ⟨b, hb, rfl⟩ := exn h0 (n := 3) h3 (by omega)
      have hdb : dyn 61 b := Or.inr (Or.inl ⟨rfl, hb⟩)
      have hd0 : dyn 60 0 := Or.inl ⟨rfl, by omega⟩
      rcases hc.2.2.2.2.2.2.2.2.1 b hb with ⟨z1, z2⟩ | ⟨Q, q, z1, z2, z3, z4⟩
      · rcases hm.2.2.2.2.2.2.2.2.1 b hb with ⟨y1, y2⟩ | ⟨Q, y1, -⟩
        · refine ⟨-1, I, I, P, Z, ?_, ?_, h⟩
          · simp (disch := omega) only [x10_back, q_neg, QN, QB, if_pos hb, if_false, ck_pos hS.1, z2, if_true]
          · simp (disch := omega) only [x11_back, x11_isBox, q_neg, QN, QB, if_pos hb, if_false, y2, if_true]
        · rw [z1] at y1; cases y1
      · rcases hm.2.2.2.2.2.2.2.2.1 b hb with ⟨y1, y2⟩ | ⟨Q', y1, y2, y3⟩
        · rw [z1] at y1; cases y1
        rw [z1] at y1
        obtain rfl : Q = Q' := by cases y1; rfl
        obtain ⟨oQ, sQ⟩ := ha.2.2.2.2.2.2.2.2 b Q hb z1
        have hq90 := hS.q90 hdb z3
        have hst := (hS.2.2.2.2.2.2.1 61 b q hdb z3).1
        have r0 : R 60 0 = some 90 := r0
        have hap := hS.apart hdb hd0 z3 r0 (by omega)
        obtain ⟨I1, a1, a2, a3⟩ := c_copyAll (q0 := 47) (C := C) hD z4 (by omega)
        have hR4 : Rl D true (wI (wI (wI I1 59 1 0) 59 2 0) 59 3 0) 47 Q := a2.fr (fun c h1 h2 => by rw [wI_c (by omega), wI_c (by omega), wI_c (by omega)])
        obtain ⟨I2, b1', b2', b3'⟩ := c_copyAll (q0 := 90) (C := C) hD hR4 (by omega)
        have hh : x2_atHand (wI (wI (wI I1 59 1 0) 59 2 0) 59 3 0) L R S = some (90, wI (wI (wI I1 59 1 0) 59 2 0) 59 3 0, L, R, S) := c_hand hS.1 (od := 0) (B := 0) (by rw [wI_ne (by omega), wI_ne (by omega), wI_at]; rfl) (by rw [wI_ne (by omega), wI_at]; rfl) (by omega) (by omega) r0
        have f : ∀ c, (c < 47 ∨ (59 < c ∧ c < 90) ∨ 101 < c) → I2 c = I c := fun c hc => by rw [b3' c (by omega), wI_c (by omega), wI_c (by omega), wI_c (by omega), a3 c (by omega)]
        have h47 : Rl D true I2 47 Q := hR4.fr (fun c h1 h2 => b3' c (by omega))
        have hT : Td I2 t D C := hc.1.ag (fun j hj => f _ (by rcases ht with h | h <;> omega))
        have hst90 := (hS.2.2.2.2.2.2.1 60 0 90 hd0 r0).1
        obtain ⟨cA, cB⟩ := c_cnt hD hT h47 I2
        obtain ⟨K1, k1, k2, k3, k4⟩ := m_backL hb 123 0 FU I2 (by omega) (by unfold FU; omega)
        rw [show Int32.ofNat 0 = 0 from rfl] at k1
        have hN : Nw (wI (wI K1 102 71 0) 102 72 0) Q := ⟨fun k hk => by rw [wI_c (by omega), wI_c (by omega), k2 k (by omega) hk, f 157 (by omega)]; exact y3 k hk, fun j hj => by rw [wI_c (by omega), wI_c (by omega), k4 130 (by omega), f 130 (by omega), hm.2.1.2.1 j hj, sQ (123 + j) (by omega) (by omega)], fun j hj => by rw [wI_c (by omega), wI_c (by omega), k4 131 (by omega), f 131 (by omega), hm.2.1.2.2 j hj, sQ (127 + j) (by omega) (by omega)]⟩
        obtain ⟨K2, l1, l2, l3⟩ := m_loadN hN
        have g : ∀ c, (c < 47 ∨ (59 < c ∧ c < 90) ∨ 101 < c) → c ≠ 102 → c ≠ 137 → c ≠ 138 → K2 c = I c := fun c hc h1 h2 h3 => by rw [l3 c h2, wI_c h1, wI_c h1, k4 c h3]; exact f c hc
        have g2 : ∀ c, c ≠ 102 → c ≠ 137 → c ≠ 138 → K2 c = I2 c := fun c h1 h2 h3 => by rw [l3 c h2, wI_c h1, wI_c h1, k4 c h3]
        have g102 : ∀ j, j ≠ 71 → j ≠ 72 → K2 102 j = I 102 j := fun j h1 h2 => by rw [l3 102 (by omega), wI_ne (Or.inr h2), wI_ne (Or.inr h1), k4 102 (by omega), f 102 (by omega)]
        have hfin : INV t K2 L R S D C Q (zhi Z 0 0 (fun _ => Q)) := by
          refine h.hist oQ sQ (by omega) (fun i _ => ⟨oQ, sQ⟩) (fun k => rfl) (fun c hc => g c (by omega) (by omega) (by omega) (by omega)) (fun b' q' d hb' hq' h1 h2 => ?_) (fun j _ _ h3 h4 _ => g102 j h3 h4) (h47.fr (fun c h1 h2 => g2 c (by omega) (by omega) (by omega))) ⟨0, by omega, ?_, ?_, ?_, fun i hi => ?_⟩ ⟨fun k hk => by rw [l3 138 (by omega)]; exact hN.1 k hk, fun j hj => by rw [l3 130 (by omega)]; exact hN.2.1 j hj, fun j hj => by rw [l3 131 (by omega)]; exact hN.2.2 j hj⟩ ⟨?_, ?_, fun i k hi _ => absurd hi (Nat.not_lt_zero _), fun i k _ hi _ => absurd hi (Nat.not_lt_zero _)⟩
          · have h61 : dyn 61 b' := Or.inr (Or.inl ⟨rfl, hb'⟩)
            have := hS.apart h61 hd0 hq' r0 (by omega)
            have := hS.q90 h61 hq'
            exact g d (by omega) (by omega) (by omega) (by omega)
          · rw [g2 59 (by omega) (by omega) (by omega), b3' 59 (by omega), wI_ne (by omega), wI_ne (by omega), wI_at]; rfl
          · rw [g2 59 (by omega) (by omega) (by omega), b3' 59 (by omega), wI_ne (by omega), wI_at]; rfl
          · rw [g2 59 (by omega) (by omega) (by omega), b3' 59 (by omega), wI_at]; rfl
          · have hi' : i ≤ 0 + 0 := hi
            obtain rfl : i = 0 := by omega
            exact ⟨90, r0, b2'.fr (fun c h1 h2 => g2 c (by omega) (by omega) (by omega))⟩
          · rw [l3 102 (by omega), wI_ne (by omega), wI_at]; rfl
          · rw [l3 102 (by omega), wI_at]; rfl
        refine ⟨Int32.ofNat (scnt Q (nA D)), I2, K2, Q, zhi Z 0 0 (fun _ => Q), ?_, ?_, hfin⟩
        · simp (disch := omega) only [x10_back, q_neg, QN, QB, if_pos hb, if_false, ck_pos hS.1, z2, z3, Option.isNone_some, Bool.false_eq_true, ck_pos hst, a1, x2_start, hh, ck_pos hst90, ck_pos (st_47 hS.1), ck_pos hst90.2.1, b1', hS.2.2.1, ck_pos ht, cA, cB]
        · have y2' : I2 156 b = 1 := by rw [f 156 (by omega)]; exact y2
          simp (disch := omega) only [x11_back, x11_isBox, q_neg, QN, QB, if_pos hb, if_false, y2', k1, l1, m_cnt hD hfin.2.2.1.1 l2]
    · exact ⟨-1, I, I, P, Z, by simp only [x10_back, if_neg h0, if_neg h3], by simp only [x11_back, x11_isBox, if_neg h0, if_neg h3, QB]; rfl, h⟩
/-- the state at hand, made if there was none -/
theorem c_handN {od B : Nat} (h : RS t R S) (h1 : I 59 1 = Int32.ofNat od) (h2 : I 59 2 = Int32.ofNat B) (ho : od < 41) (hB : B ≤ 41) : ∃ q I' L' R' S', x2_atHand I L R S = some (q, I', L', R', S') ∧ RS t R' S' ∧ Gr R S R' S' ∧ Old S.length I L I' L' ∧ R' 60 ((od + B) % 41) = some q := by
  have hm : (od + B) % 41 < 41 := Nat.mod_lt _ (by omega)
  have hm2 : (od + B) % 41 < 2147483648 := by omega
  have hd : dyn 60 ((od + B) % 41) := Or.inl ⟨rfl, hm⟩
  cases hr : R 60 ((od + B) % 41) with
  | none =>
    obtain ⟨I', L', R', n1, n2, n3, n4, n5, n6, n7, n8⟩ := h.new I L hd hr
    refine ⟨S.length, I', L', wR R' 60 ((od + B) % 41) (some S.length), S ++ stk, ?_, n4, n5, n6, n7⟩
    simp only [x2_atHand, ck_pos h.1, h1, h2, q_add, c_fm (show od + B < 100 by omega), QB, q_in hm hm2, q_ix hm2, hr, Option.isNone_none, if_true, al, n1, ck_pos n2, ck_pos n3, ck_pos n4.1, n7]
  | some q =>
    refine ⟨q, I, L, R, S, ?_, h, Gr.refl, Old.refl, hr⟩
    simp only [x2_atHand, ck_pos h.1, h1, h2, q_add, c_fm (show od + B < 100 by omega), QB, q_in hm hm2, q_ix hm2, hr, Option.isNone_some, Bool.false_eq_true, if_false]
end IN
