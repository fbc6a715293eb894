/-! CALLS, 12: picks -/
def pkv (p1 p2 p3 m : Int32) : Nat → Int32
  | 0 => p1
  | 1 => p2
  | 2 => p3
  | 3 => m
  | _ => -1
def pkM (a c k n : Nat) (v : Nat → Int32) (I : MI) : MI := wI (wI (wI (wI (wI (wI I a n (v 0)) (a + 1) n (v 1)) (a + 2) n (v 2)) (a + 3) n (v 3)) (a + 4) n (v 4)) c k (Int32.ofNat (n + 1))
section PK
variable {a c k n : Nat} {v : Nat → Int32} {I : MI}
theorem pkM_o {b : Nat} (h : (b < a ∨ a + 4 < b) ∧ b ≠ c) : pkM a c k n v I b = I b := by
  unfold pkM
  rw [wI_c (by omega), wI_c (by omega), wI_c (by omega), wI_c (by omega), wI_c (by omega), wI_c (by omega)]
theorem pkM_i {b i : Nat} (h : b ≠ c) (hi : i ≠ n) : pkM a c k n v I b i = I b i := by
  unfold pkM
  rw [wI_ne (by omega), wI_ne (by omega), wI_ne (by omega), wI_ne (by omega), wI_ne (by omega), wI_ne (by omega)]
theorem pkM_n {j : Nat} (h : c < a ∨ a + 4 < c) (hj : j < 5) : pkM a c k n v I (a + j) n = v j := by
  unfold pkM
  rw [wI_ne (by omega)]
  by_cases h4 : j = 4
  · subst h4; rw [wI_at]
  rw [wI_ne (by omega)]
  by_cases h3 : j = 3
  · subst h3; rw [wI_at]
  rw [wI_ne (by omega)]
  by_cases h2 : j = 2
  · subst h2; rw [wI_at]
  rw [wI_ne (by omega)]
  by_cases h1 : j = 1
  · subst h1; rw [wI_at]
  rw [wI_ne (by omega)]
  obtain rfl : j = 0 := by omega
  rw [Nat.add_zero, wI_at]
theorem pkM_c : pkM a c k n v I c k = Int32.ofNat (n + 1) := by unfold pkM; rw [wI_at]
theorem pkM_k {k' : Nat} (h : c < a ∨ a + 4 < c) (hk : k' ≠ k) : pkM a c k n v I c k' = I c k' := by
  unfold pkM
  rw [wI_ne (by omega), wI_ne (by omega), wI_ne (by omega), wI_ne (by omega), wI_ne (by omega), wI_ne (by omega)]
end PK
theorem is1n {p : Int32} {n : Nat} (hn : n < 2147483648) : decide ((1 : Int32) ≤ p ∧ p ≤ Int32.ofNat n - 1) = (isn p n && !decide (p = 0)) := by
  have e := isn_in (p := p) hn
  by_cases h : isn p n = true
  · obtain ⟨k, hk, rfl⟩ := isn_t hn h
    rw [h] at e
    have e := of_decide_eq_true e
    have e1 : ((1 : Int32) ≤ Int32.ofNat k) = (1 ≤ k) := by rw [show (1 : Int32) = Int32.ofNat 1 from rfl, q_le (by omega) (by omega)]
    have e0 : (Int32.ofNat k = 0) = (k = 0) := by rw [show (0 : Int32) = Int32.ofNat 0 from rfl, q_eq (by omega) (by omega)]
    rw [h, Bool.true_and]
    by_cases hk0 : k = 0
    · rw [decide_eq_false (by rw [e1]; omega), decide_eq_true (by rw [e0]; exact hk0)]; rfl
    · rw [decide_eq_true ⟨by rw [e1]; omega, e.2⟩, decide_eq_false (by rw [e0]; exact hk0)]; rfl
  · have h' : isn p n = false := by simpa using h
    rw [h'] at e ⊢
    have e := of_decide_eq_false e
    rw [Bool.false_and, decide_eq_false]
    exact fun g => e ⟨Int32.le_trans (by decide) g.1, g.2⟩
section OP
variable {t : Nat} {I : MI} {L : ML} {R : MR} {S : MS} {D : TD} {C : TC} {P : PR} {Z : AX}
theorem c_tell {n m : Nat} {p1 p2 p3 : Int32} (h6 : I 83 6 = Int32.ofNat n) (hn : n < 30) : x4_tell p1 p2 p3 (Int32.ofNat m) I = some (Int32.ofNat n, pkM 84 83 6 n (pkv p1 p2 p3 (Int32.ofNat m)) I) := by
  simp (disch := omega) only [x4_tell, h6, QN, QB, wI_ne, wI_at, hn, if_true, Nat.add_sub_cancel]
  rfl
theorem op_pick (h : INV t I L R S D C P Z) (p s a : Int32) : ∃ r I1 I2 Z', x10_pick t p s a I = some (r, I1) ∧ x11_pick p s a I1 = some (r, I2) ∧ INV t I2 L R S D C P Z' := by
  have hD := h.2.2.2.1.1
  obtain ⟨hS, hc, hm, ha, hw⟩ := id h
  have c7 := hc.2.2.2.2.2.2.1
  have m7 := hm.2.2.2.2.2.2.1
  have hpk := ha.2.2.2.2.2.2.1
  have hM := ha.2.2.2.2.1
  have hA := hD.a
  have hB := hD.b
  have h10 : 2 ^ nA D ≤ 1024 := pow_le hA
  by_cases h1 : isn p (nB D) = true
  · by_cases h2 : isn s (2 ^ nA D) = true
    · by_cases h3 : isn a (nA D) = true
      · have hz : ∀ J, x11_isIn s 1 (Int32.ofNat (2 ^ nA D) - 1) J = some (b2i (!decide (s = 0))) := fun J => by
          rw [m_isIn, is1n (by omega), h2, Bool.true_and]
        obtain ⟨b, hb, rfl⟩ := isn_t (by omega) h1
        obtain ⟨s, hs, rfl⟩ := isn_t (by omega) h2
        obtain ⟨a, ha', rfl⟩ := isn_t (by omega) h3
        have e0 : ∀ x, x < 2147483648 → (Int32.ofNat x = 0) = (x = 0) := fun x hx => by rw [show (0 : Int32) = Int32.ofNat 0 from rfl, q_eq hx (by omega)]
        have hbt := bit_n (s := s) (by omega) (show a < 10 by omega)
        have hbl : s / 2 ^ a % 2 < 2147483648 := by omega
        by_cases g : s / 2 ^ a % 2 = 0
        · refine ⟨-1, I, I, Z, ?_, ?_, h⟩
          · simp only [x10_pick, c_isB hD h.2.1.1, c_isSet hD h.2.1.1, c_isA hD h.2.1.1, QB, b2i_0, h1, h2, h3, hbt, e0 _ hbl, g, not_true, if_false]
            exact if_pos (show Int32.ofNat 0 = 0 from rfl)
          · simp only [x11_pick, m_isB hD h.2.2.1.1, m_isA hD h.2.2.1.1, h.2.2.1.1.1.2.2.2.1, hD.2.1.1.1, shl_n (nA D) (by omega), hz, QB, b2i_0, h1, h3, hbt, e0 _ hbl, g, not_true, if_false, if_true]
            simp
        · have hs0 : s ≠ 0 := by
            rintro rfl
            rw [Nat.zero_div] at g; exact g rfl
          have hd0 : (!decide (Int32.ofNat s = 0)) = true := by rw [decide_eq_false (by rw [e0 _ (by omega)]; exact hs0)]; rfl
          rw [hd0] at hz
          by_cases g30 : zP Z = 30
          · refine ⟨-1, I, I, Z, ?_, ?_, h⟩
            · have hng : ¬ zP Z < 30 := by omega
              simp (disch := omega) only [x10_pick, c_isB hD h.2.1.1, c_isSet hD h.2.1.1, c_isA hD h.2.1.1, QB, b2i_0, h1, h2, h3, hbt, e0 _ hbl, g, not_true, if_false, x4_tell, c7.1, QN, hng]
            · simp only [x11_pick, m_isB hD h.2.2.1.1, m_isA hD h.2.2.1.1, h.2.2.1.1.1.2.2.2.1, hD.2.1.1.1, shl_n (nA D) (by omega), hz, QB, b2i_0, h1, h3, hbt, e0 _ hbl, g, not_true, if_false]
              rw [if_pos (show I 102 91 = 30 by rw [m7.1, g30]; rfl)]
          · have h30 : zP Z < 30 := by have := hpk.1; omega
            have hm1 : RI (pkM 84 83 6 (zP Z) (pkv (Int32.ofNat b) (Int32.ofNat s) (Int32.ofNat a) (Int32.ofNat (zM Z))) I) D C P Z := hm.kc (fun c r1 r2 => pkM_o (by omega))
            have c5 := hc.2.2.2.2.1
            refine ⟨Int32.ofNat (zP Z), pkM 84 83 6 (zP Z) (pkv (Int32.ofNat b) (Int32.ofNat s) (Int32.ofNat a) (Int32.ofNat (zM Z))) I, pkM 151 102 91 (zP Z) (pkv (Int32.ofNat b) (Int32.ofNat s) (Int32.ofNat a) (Int32.ofNat (zM Z))) (pkM 84 83 6 (zP Z) (pkv (Int32.ofNat b) (Int32.ofNat s) (Int32.ofNat a) (Int32.ofNat (zM Z))) I), zset Z (zN Z) (zT Z) (zM Z) (zL' Z) (zP Z + 1) (fun j i => if i = zP Z then pkv (Int32.ofNat b) (Int32.ofNat s) (Int32.ofNat a) (Int32.ofNat (zM Z)) j else zK Z j i), ?_, ?_, h.mod ?_ ?_ ha.2.2.2.1 hM ha.2.2.2.2.2.1 ⟨by omega, fun i hi => ?_⟩ ?_ ?_ ?_ ?_ ?_ ?_ ?_ ?_⟩
            · simp only [x10_pick, c_isB hD h.2.1.1, c_isSet hD h.2.1.1, c_isA hD h.2.1.1, QB, b2i_0, h1, h2, h3, hbt, e0 _ hbl, g, not_true, if_false, c5, c_tell c7.1 h30]
            · have q92 := hm1.2.2.2.2.1
              have q91 := hm1.2.2.2.2.2.2.1.1
              have q4 := hm1.1.1.2.2.2.1
              have qB := m_isB hD hm1.1
              have qA := m_isA hD hm1.1
              generalize pkM 84 83 6 (zP Z) (pkv (Int32.ofNat b) (Int32.ofNat s) (Int32.ofNat a) (Int32.ofNat (zM Z))) I = J at q92 q91 q4 qB qA ⊢
              simp only [x11_pick, qB, qA, q4, hD.2.1.1.1, shl_n (nA D) (by omega), hz, QB, b2i_0, h1, h3, hbt, e0 _ hbl, g, not_true, if_false]
              rw [if_neg (show ¬ J 102 91 = 30 by rw [q91, show (30 : Int32) = Int32.ofNat 30 from rfl, q_eq (by omega) (by omega)]; omega)]
              simp (disch := omega) only [q91, q92, QN, QB, wI_ne, wI_at, Nat.add_sub_cancel]
              rfl
            · intro c hc; rw [pkM_o (by unfold zce at hc; omega), pkM_o (by unfold zce at hc; omega)]
            · intro j _ _ _ _ _ _ _; rw [pkM_k (by omega) (by omega), pkM_o (by omega)]
            · by_cases e : i = zP Z
              · simp only [if_pos e]
                exact ⟨⟨b, hb, rfl⟩, ⟨s, hs, rfl⟩, ⟨a, ha', rfl⟩, ⟨zM Z, hM, rfl⟩, Or.inl rfl⟩
              · simp only [if_neg e]
                exact hpk.2 i (by omega)
            · refine ⟨?_, fun i hi => ?_⟩
              · rw [pkM_o (by omega), pkM_o (by omega)]; exact hc.2.2.1.1
              · rw [pkM_o (by omega), pkM_o (by omega)]; exact hc.2.2.1.2 i hi
            · rw [pkM_o (by omega), pkM_o (by omega)]; exact c5
            · refine ⟨?_, fun i hi => ?_⟩
              · rw [pkM_o (by omega), pkM_o (by omega)]; exact hc.2.2.2.2.2.1.1
              · rw [pkM_o (by omega), pkM_o (by omega)]; exact hc.2.2.2.2.2.1.2 i hi
            · refine ⟨?_, fun i j hi hj => ?_⟩
              · rw [pkM_o (by omega), pkM_c]
              · rw [pkM_o (by omega)]
                by_cases e : i = zP Z
                · rw [if_pos e, e, pkM_n (by omega) hj]
                · rw [if_neg e, pkM_i (by omega) e]; exact c7.2 i j (by omega) hj
            · refine ⟨?_, fun i hi => ?_⟩
              · rw [pkM_k (by omega) (by omega), pkM_o (by omega)]; exact hm.2.2.1.1
              · rw [pkM_o (by omega), pkM_o (by omega)]; exact hm.2.2.1.2 i hi
            · rw [pkM_k (by omega) (by omega), pkM_o (by omega)]; exact hm.2.2.2.2.1
            · refine ⟨?_, fun i hi => ?_⟩
              · rw [pkM_k (by omega) (by omega), pkM_o (by omega)]; exact hm.2.2.2.2.2.1.1
              · rw [pkM_o (by omega), pkM_o (by omega)]; exact hm.2.2.2.2.2.1.2 i hi
            · refine ⟨pkM_c, fun i j hi hj => ?_⟩
              by_cases e : i = zP Z
              · rw [if_pos e, e, pkM_n (by omega) hj]
              · rw [if_neg e, pkM_i (by omega) e, pkM_o (by omega)]; exact m7.2 i j (by omega) hj
      · have h3' : isn a (nA D) = false := by simpa using h3
        refine ⟨-1, I, I, Z, ?_, ?_, h⟩
        · simp [x10_pick, c_isB hD h.2.1.1, c_isSet hD h.2.1.1, c_isA hD h.2.1.1, QB, b2i_0, h1, h2, h3']
        · simp only [x11_pick, m_isB hD h.2.2.1.1, m_isA hD h.2.2.1.1, m_isIn, QB, b2i_0, h1, h3']
          simp
    · have h2' : isn s (2 ^ nA D) = false := by simpa using h2
      refine ⟨-1, I, I, Z, ?_, ?_, h⟩
      · simp [x10_pick, c_isB hD h.2.1.1, c_isSet hD h.2.1.1, QB, b2i_0, h1, h2']
      · simp only [x11_pick, m_isB hD h.2.2.1.1, m_isIn, h.2.2.1.1.1.2.2.2.1, hD.2.1.1.1, shl_n (nA D) (by omega), is1n (n := 2 ^ nA D) (p := s) (by omega), h2', QB, b2i_0, h1]
        simp
  · have h1' : isn p (nB D) = false := by simpa using h1
    refine ⟨-1, I, I, Z, ?_, ?_, h⟩
    · simp [x10_pick, c_isB hD h.2.1.1, QB, b2i_0, h1']
    · simp [x11_pick, m_isB hD h.2.2.1.1, QB, b2i_0, h1']
end OP
