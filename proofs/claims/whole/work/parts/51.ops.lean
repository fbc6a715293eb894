/-! CALLS, 10: a coin, what lies -/
def sodn (D : TD) (a : Nat) : Nat := (D 6 a).toNatClampNeg
def sco (D : TD) (P : PR) : Nat → Nat
  | 0 => 0
  | n + 1 => if P (5 * n + 2) < 0 then sco D P n + sodn D n else sco D P n
theorem sodn_ok {D : TD} {C : TC} (hD : OkD D C) {a : Nat} (ha : a < nA D) : D 6 a = Int32.ofNat (sodn D a) ∧ sodn D a ≤ 99 := by
  obtain ⟨z, z1, z2⟩ := (hD.2.2.1 a ha).2.2.2.2.2
  have : sodn D a = z := by rw [sodn, z2, q_ix (by omega)]
  rw [this]; exact ⟨z2, z1⟩
theorem sco_le {D : TD} {C : TC} {P : PR} (hD : OkD D C) : ∀ n, n ≤ nA D → sco D P n ≤ 99 * n
  | 0, _ => Nat.le_refl _
  | n + 1, h => by
    have h1 := sco_le (P := P) hD n (by omega)
    have h2 := (sodn_ok hD (show n < nA D by omega)).2
    simp only [sco]
    split <;> omega
theorem sco_ge {D : TD} {P : PR} {a : Nat} (hf : P (5 * a + 2) < 0) : ∀ n, a < n → sodn D a ≤ sco D P n
  | 0, h => absurd h (Nat.not_lt_zero _)
  | n + 1, h => by
    simp only [sco]
    by_cases e : a = n
    · subst e; rw [if_pos hf]; omega
    · have := sco_ge (D := D) hf n (by omega)
      split <;> omega
/-- the greatest that divides both, from k down -/
def sdv (a b : Nat) : Nat → Nat
  | 0 => 1
  | k + 1 => if 1 < k + 1 ∧ a % (k + 1) = 0 ∧ b % (k + 1) = 0 then k + 1 else sdv a b k
theorem sdv_gcd {a b : Nat} (ha : 1 ≤ b) : ∀ k, (∀ d, d ∣ a → d ∣ b → d ≤ k) → sdv a b k = Nat.gcd a b
  | 0, h => by
    have := h 1 (Nat.one_dvd _) (Nat.one_dvd _)
    omega
  | k + 1, h => by
    simp only [sdv]
    by_cases g : 1 < k + 1 ∧ a % (k + 1) = 0 ∧ b % (k + 1) = 0
    · rw [if_pos g]
      have h1 : k + 1 ∣ Nat.gcd a b := Nat.dvd_gcd (Nat.dvd_of_mod_eq_zero g.2.1) (Nat.dvd_of_mod_eq_zero g.2.2)
      have h2 := h _ (Nat.gcd_dvd_left a b) (Nat.gcd_dvd_right a b)
      have h3 : 0 < Nat.gcd a b := Nat.gcd_pos_of_pos_right a ha
      have := Nat.le_of_dvd h3 h1
      omega
    · rw [if_neg g]
      by_cases hk : k = 0
      · subst hk
        have h2 := h _ (Nat.gcd_dvd_left a b) (Nat.gcd_dvd_right a b)
        have h3 : 0 < Nat.gcd a b := Nat.gcd_pos_of_pos_right a ha
        simp only [sdv]; omega
      · refine sdv_gcd ha k (fun d d1 d2 => ?_)
        have := h d d1 d2
        by_cases e : d = k + 1
        · subst e
          exact absurd ⟨by omega, Nat.mod_eq_zero_of_dvd d1, Nat.mod_eq_zero_of_dvd d2⟩ g
        · omega
theorem c_dvL {a b : Nat} (ha : a < 2000) (hb : b < 2000) : ∀ (j n : Nat), j < 2000 → j < n → (x10_commonDivisor_L2 (Int32.ofNat a) (Int32.ofNat b) n (Int32.ofNat j) = some (.inr (Int32.ofNat (sdv a b j))) ∧ 1 < sdv a b j) ∨ (x10_commonDivisor_L2 (Int32.ofNat a) (Int32.ofNat b) n (Int32.ofNat j) = some (.inl ()) ∧ sdv a b j = 1) := by
  intro j
  induction j with
  | zero =>
    intro n _ hn
    obtain ⟨n, rfl⟩ : ∃ n', n = n' + 1 := ⟨n - 1, by omega⟩
    refine Or.inr ⟨?_, rfl⟩
    simp (disch := omega) only [x10_commonDivisor_L2, x10_commonDivisor_L2s, q_nlt]
    simp
  | succ j ih =>
    intro n hj hn
    obtain ⟨n, rfl⟩ : ∃ n', n = n' + 1 := ⟨n - 1, by omega⟩
    have hi := ih n (by omega) (by omega)
    simp (disch := omega) only [x10_commonDivisor_L2, x10_commonDivisor_L2s, q_nlt, sdv, rm, q_rm, q_dec, q_eqn, QB]
    have hm1 : a % (j + 1) < 2147483648 := Nat.lt_of_le_of_lt (Nat.mod_le _ _) (by omega)
    have hm2 : b % (j + 1) < 2147483648 := Nat.lt_of_le_of_lt (Nat.mod_le _ _) (by omega)
    have e0 : ∀ x, x < 2147483648 → (Int32.ofNat x = 0) = (x = 0) := fun x hx => by rw [show (0 : Int32) = Int32.ofNat 0 from rfl, q_eq hx (by omega)]
    simp only [e0 _ hm1, e0 _ hm2]
    by_cases g : 1 < j + 1
    · rw [if_pos g]
      rw [ck_pos (show ¬ j + 1 = 0 by omega)]
      by_cases g1 : a % (j + 1) = 0
      · rw [if_pos g1, ck_pos (show ¬ j + 1 = 0 by omega)]
        by_cases g2 : b % (j + 1) = 0
        · rw [if_pos g2, if_pos ⟨g, g1, g2⟩]
          exact Or.inl ⟨rfl, g⟩
        · rw [if_neg g2, if_neg (fun h => g2 h.2.2)]; exact hi
      · rw [if_neg g1, if_neg (fun h => g1 h.2.1)]; exact hi
    · rw [if_neg g, if_neg (fun h => g h.1)]
      obtain rfl : j = 0 := by omega
      exact Or.inr ⟨rfl, rfl⟩
theorem c_dv {a b : Nat} {I : MI} (ha : a < 2000) (hb : b < 2000) (h1 : 1 ≤ b) : x10_commonDivisor (Int32.ofNat a) (Int32.ofNat b) I = some (Int32.ofNat (Nat.gcd a b)) := by
  have hg := sdv_gcd (a := a) h1 b (fun d _ h => Nat.le_of_dvd h1 h)
  rw [← hg]
  rcases c_dvL ha hb b FU hb (by unfold FU; omega) with ⟨h, h2⟩ | ⟨h, h2⟩
  · simp only [x10_commonDivisor, h, QB]
  · simp only [x10_commonDivisor, h, QB, h2]; rfl
theorem m_dvL : ∀ (b a n : Nat), a < 2000 → b < 2000 → b < n → x11_common_L4 n (Int32.ofNat a) (Int32.ofNat b) = some (Int32.ofNat (Nat.gcd a b)) := by
  intro b
  induction b using Nat.strongRecOn with
  | ind b ih =>
    intro a n ha hb hn
    obtain ⟨n, rfl⟩ : ∃ n', n = n' + 1 := ⟨n - 1, by omega⟩
    have e0 : ∀ x, x < 2147483648 → (Int32.ofNat x = 0) = (x = 0) := fun x hx => by rw [show (0 : Int32) = Int32.ofNat 0 from rfl, q_eq hx (by omega)]
    have e1 : ((0 : Int32) < Int32.ofNat b) = (0 < b) := by rw [show (0 : Int32) = Int32.ofNat 0 from rfl, q_lt (by omega) (by omega)]
    simp only [x11_common_L4, x11_common_L4s, QB, rm, e1]
    by_cases g : 0 < b
    · have hm : a % b < b := Nat.mod_lt _ g
      rw [if_pos g, e0 b (by omega), ck_pos (show ¬ b = 0 by omega), q_rm (by omega) (by omega), ih (a % b) hm b n hb (by omega) (by omega), Nat.gcd_comm a b, Nat.gcd_rec b a, Nat.gcd_comm]
    · obtain rfl : b = 0 := by omega
      rw [if_neg g, Nat.gcd_zero_right]
theorem m_dv {a b : Nat} {I : MI} (ha : a < 2000) (hb : b < 2000) : x11_common (Int32.ofNat a) (Int32.ofNat b) I = some (Int32.ofNat (Nat.gcd a b)) := by
  simp only [x11_common, QB, m_dvL b a FU ha hb (by unfold FU; omega)]
section OP
variable {t : Nat} {I : MI} {L : ML} {R : MR} {S : MS} {D : TD} {C : TC} {P : PR} {Z : AX}
theorem c_coinL (hD : OkD D C) (hT : Td I t D C) (hR : Rl D true I 47 P) : ∀ (j w n : Nat), w + j = nA D → j < n → x10_coin_L24 t I n (Int32.ofNat (sco D P w)) (Int32.ofNat w) = some (Int32.ofNat (sco D P (nA D))) := by
  have hA := hD.a
  intro j
  induction j with
  | zero =>
    intro w n hw hn
    obtain ⟨n, rfl⟩ : ∃ n', n = n' + 1 := ⟨n - 1, by omega⟩
    obtain rfl : w = nA D := by omega
    simp (disch := omega) only [x10_coin_L24, x10_coin_L24s, hT.1.2.2.2.2.1, hD.2.1.1.1, QN]
    simp
  | succ j ih =>
    intro w n hw hn
    obtain ⟨n, rfl⟩ : ∃ n', n = n' + 1 := ⟨n - 1, by omega⟩
    have hi := ih (w + 1) n (by omega) (by omega)
    simp only [sco] at hi
    simp (disch := omega) only [x10_coin_L24, x10_coin_L24s, hT.1.2.2.2.2.1, hD.2.1.1.1, QB, QN, if_pos (show w < nA D by omega), c_isAf hD hT hR (show w < nA D by omega), b2i_0, decide_eq_true_eq, hT.2.1 6 w (by omega) (by omega) (show w < nA D by omega), (sodn_ok hD (show w < nA D by omega)).1]
    by_cases g : P (5 * w + 2) < 0
    · rw [if_pos g] at hi ⊢; exact hi
    · rw [if_neg g] at hi ⊢; exact hi
theorem m_coinL (hD : OkD D C) (hR : Rd I D C) (hW : Wr I P) : ∀ (j w n : Nat), w + j = nA D → j < n → x11_coin_L28 I n (Int32.ofNat (sco D P w)) (Int32.ofNat w) = some (Int32.ofNat (sco D P (nA D))) := by
  have hA := hD.a
  intro j
  induction j with
  | zero =>
    intro w n hw hn
    obtain ⟨n, rfl⟩ : ∃ n', n = n' + 1 := ⟨n - 1, by omega⟩
    obtain rfl : w = nA D := by omega
    simp (disch := omega) only [x11_coin_L28, x11_coin_L28s, hR.1.2.2.2.1, hD.2.1.1.1, QN]
    simp
  | succ j ih =>
    intro w n hw hn
    obtain ⟨n, rfl⟩ : ∃ n', n = n' + 1 := ⟨n - 1, by omega⟩
    have hi := ih (w + 1) n (by omega) (by omega)
    have hz : ∀ x : Int32, x + 0 = x := fun x => Int32.add_zero x
    simp only [sco] at hi
    simp (disch := omega) only [x11_coin_L28, x11_coin_L28s, hR.1.2.2.2.1, hD.2.1.1.1, QB, QN, if_pos (show w < nA D by omega), m_fl hD hW (show w < nA D by omega), b2i_0, decide_eq_true_eq, hz, (hR.2.1 w (by omega)).2.2.2.2.2, (sodn_ok hD (show w < nA D by omega)).1]
    by_cases g : P (5 * w + 2) < 0
    · rw [if_pos g] at hi ⊢; exact hi
    · rw [if_neg g] at hi ⊢; exact hi
theorem q_mx1 {g : Nat} (h : 1 ≤ g) (hg : g < 2147483648) : (if (1 : Int32) < Int32.ofNat g then Int32.ofNat g else 1) = Int32.ofNat g := by
  have e : ((1 : Int32) < Int32.ofNat g) = (1 < g) := by rw [show (1 : Int32) = Int32.ofNat 1 from rfl, q_lt (by omega) hg]
  by_cases h1 : 1 < g
  · rw [if_pos (by rw [e]; exact h1)]
  · rw [if_neg (by rw [e]; exact h1)]
    obtain rfl : g = 1 := by omega
    rfl
theorem op_coin (h : INV t I L R S D C P Z) (p w : Int32) : ∃ r I2, x10_coin t p w I = some r ∧ x11_coin p w I = some (r, I2) ∧ INV t I2 L R S D C P Z := by
  have hD := h.2.2.2.1.1
  have hP := h.2.2.2.1.2.1
  have hA := hD.a
  have e1 : ∀ J, x11_isIn w 0 1 J = some (b2i (isu w 1)) := fun J => m_isu w 1 (by omega)
  have hw1 : (isu w 1 = true) = ¬ (w < 0 ∨ 1 < w) := isu_c (by omega)
  by_cases h1 : isn p (nA D) = true
  · by_cases h3 : isu w 1 = true
    · have h3' := h3
      rw [hw1] at h3'
      obtain ⟨a, ha, rfl⟩ := isn_t (by omega) h1
      obtain ⟨I2, m1, m2, m3⟩ := m_loadN h.2.2.1.2.1
      have f2 : Fm I I2 := Fm.of137 m3
      have hR2 := f2.rd h.2.2.1.1
      have hc := c_coinL (P := P) hD h.2.1.1 h.2.1.2.1 (nA D) 0 FU (by omega) (by unfold FU; omega)
      have hm := m_coinL (P := P) hD hR2 m2 (nA D) 0 FU (by omega) (by unfold FU; omega)
      rw [show sco D P 0 = 0 from rfl, show Int32.ofNat 0 = 0 from rfl] at hc hm
      have hs := sco_le (P := P) hD (nA D) (Nat.le_refl _)
      obtain ⟨o1, o2⟩ := sodn_ok hD ha
      have hfl := m_fl hD m2 ha
      have e0 : ∀ x, x < 2147483648 → (Int32.ofNat x = 0) = (x = 0) := fun x hx => by rw [show (0 : Int32) = Int32.ofNat 0 from rfl, q_eq hx (by omega)]
      obtain ⟨k, hk, rfl⟩ := isn_t (by omega) h3
      have hck : x10_coin t (Int32.ofNat a) (Int32.ofNat k) I = b1 (if ¬ P (5 * a + 2) < 0 then some (0 : Int32) else some (Int32.ofNat (sodn D a))) (fun v13 => if v13 = 0 then some (Int32.ofNat k) else b1 (x10_commonDivisor (Int32.ofNat (sco D P (nA D))) v13 I) fun v15 => if Int32.ofNat k = 0 then ck (¬ (if (1 : Int32) < v15 then v15 else 1) = 0) (some (v13 / (if (1 : Int32) < v15 then v15 else 1))) else ck (¬ (if (1 : Int32) < v15 then v15 else 1) = 0) (some (Int32.ofNat (sco D P (nA D)) / (if (1 : Int32) < v15 then v15 else 1)))) := by
        have d6 := h.2.1.1.2.1 6 a (by omega) (by omega) ha
        simp (disch := omega) only [x10_coin, c_isA hD h.2.1.1, h1, b2i_0, QB, QN, not_true, if_false, hc, c_isAf hD h.2.1.1 h.2.1.2.1 ha, decide_eq_true_eq, d6, o1]
        rw [if_neg (show ¬ 1 < k by omega)]
      have hmk : x11_coin (Int32.ofNat a) (Int32.ofNat k) I = if ¬ P (5 * a + 2) < 0 then some (Int32.ofNat k, I2) else if Int32.ofNat (sco D P (nA D)) = 0 then some (Int32.ofNat k, I2) else if Int32.ofNat k = 0 then ck (¬ Int32.ofNat (Nat.gcd (sodn D a) (sco D P (nA D))) = 0) (some (Int32.ofNat (sodn D a) / Int32.ofNat (Nat.gcd (sodn D a) (sco D P (nA D))), I2)) else ck (¬ Int32.ofNat (Nat.gcd (sodn D a) (sco D P (nA D))) = 0) (some (Int32.ofNat (sco D P (nA D)) / Int32.ofNat (Nat.gcd (sodn D a) (sco D P (nA D))), I2)) := by
        simp (disch := omega) only [x11_coin, m_isA hD h.2.2.1.1, h1, b2i_0, QB, QN, not_true, if_false, e1, h3, m1, hm, hfl, decide_eq_true_eq, (hR2.2.1 a ha).2.2.2.2.2, o1, m_dv (I := I2) (show sodn D a < 2000 by omega) (show sco D P (nA D) < 2000 by omega)]
      have hend : ∃ r, x10_coin t (Int32.ofNat a) (Int32.ofNat k) I = some r ∧ x11_coin (Int32.ofNat a) (Int32.ofNat k) I = some (r, I2) := by
        rw [hck, hmk]
        by_cases hf : P (5 * a + 2) < 0
        · rw [if_neg (fun g => g hf), if_neg (fun g => g hf)]
          simp only [QB]
          simp only [e0 _ (show sco D P (nA D) < 2147483648 by omega)]
          have hge := sco_ge (D := D) hf (nA D) ha
          have hgle : Nat.gcd (sodn D a) (sco D P (nA D)) ≤ 990 ∨ sco D P (nA D) = 0 := by
            by_cases z : sco D P (nA D) = 0
            · exact Or.inr z
            · exact Or.inl (Nat.le_trans (Nat.le_of_dvd (by omega) (Nat.gcd_dvd_right _ _)) (by omega))
          by_cases z : sodn D a = 0
          · rw [z]
            refine ⟨Int32.ofNat k, if_pos (show Int32.ofNat 0 = 0 from rfl), ?_⟩
            by_cases z2 : sco D P (nA D) = 0
            · rw [if_pos z2]
            · rw [if_neg z2, Nat.gcd_zero_left]
              simp only [e0 _ (show sco D P (nA D) < 2147483648 by omega), e0 _ (show k < 2147483648 by omega)]
              by_cases hk0 : k = 0
              · rw [if_pos hk0, ck_pos z2, q_div (by omega) (by omega), Nat.zero_div, hk0]
              · obtain rfl : k = 1 := by omega
                rw [if_neg hk0, ck_pos z2, q_div (by omega) (by omega), Nat.div_self (by omega)]
          · have hgp : 1 ≤ Nat.gcd (sodn D a) (sco D P (nA D)) := Nat.gcd_pos_of_pos_left _ (by omega)
            have hg9 : Nat.gcd (sodn D a) (sco D P (nA D)) ≤ 990 := by omega
            have hn0 : ¬ Int32.ofNat (Nat.gcd (sodn D a) (sco D P (nA D))) = 0 := by rw [e0 _ (by omega)]; omega
            rw [if_neg (show ¬ sco D P (nA D) = 0 by omega), if_neg (show ¬ Int32.ofNat (sodn D a) = 0 by rw [e0 _ (by omega)]; exact z), c_dv (show sco D P (nA D) < 2000 by omega) (show sodn D a < 2000 by omega) (by omega), Nat.gcd_comm (sco D P (nA D))]
            simp only [QB, q_mx1 hgp (show Nat.gcd (sodn D a) (sco D P (nA D)) < 2147483648 by omega), ck_pos hn0]
            by_cases hk0 : Int32.ofNat k = 0
            · simp only [if_pos hk0]
              exact ⟨_, rfl, rfl⟩
            · simp only [if_neg hk0]
              exact ⟨_, rfl, rfl⟩
        · rw [if_pos hf, if_pos hf]
          exact ⟨Int32.ofNat k, rfl, rfl⟩
      obtain ⟨r, r1, r2⟩ := hend
      exact ⟨r, I2, r1, r2, h.q Kc.refl f2.kr⟩
    · have h3' : isu w 1 = false := by simpa using h3
      refine ⟨-1, I, ?_, ?_, h⟩
      · rw [hw1, Classical.not_not] at h3
        simp only [x10_coin, c_isA hD h.2.1.1, QB, b2i_0, h1, if_true]
        rcases h3 with g | g
        · rw [if_pos g]
        · by_cases h0 : w < 0
          · rw [if_pos h0]
          · rw [if_neg h0, if_pos g]
      · simp [x11_coin, m_isA hD h.2.2.1.1, e1, h1, h3', QB, b2i_0]
  · have h1' : isn p (nA D) = false := by simpa using h1
    refine ⟨-1, I, ?_, ?_, h⟩
    · simp [x10_coin, c_isA hD h.2.1.1, QB, b2i_0, h1']
    · simp [x11_coin, m_isA hD h.2.2.1.1, QB, b2i_0, h1']
theorem op_lies (h : INV t I L R S D C P Z) (p : Int32) : ∃ r, x10_lies p I = some r ∧ x11_lies p I = some r := by
  obtain ⟨hS, hc, hm, ha, hw⟩ := h
  obtain ⟨c1, c2⟩ := hc.2.2.2.2.2.1
  obtain ⟨m1, m2⟩ := hm.2.2.2.2.2.1
  have hl := ha.2.2.2.2.2.1
  by_cases h1 : isn p (zL' Z).length = true
  · obtain ⟨i, hi, rfl⟩ := isn_t (by omega) h1
    refine ⟨(zL' Z)[i], ?_, ?_⟩
    · simp (disch := omega) only [x10_lies, c1, q_neg, QN, QB, hi, if_true, if_false, c2 i hi]
    · have e := isn_in (p := Int32.ofNat i) (n := (zL' Z).length) (by omega)
      rw [h1] at e
      rw [x11_lies, m1, m_isIn, e]
      simp (disch := omega) only [b2i_0, QN, QB, not_true, if_false, m2 i hi]
  · refine ⟨-1, ?_, ?_⟩
    · simp only [x10_lies, c1]
      by_cases h0 : p < 0
      · rw [if_pos h0]
      · rw [if_neg h0, if_neg]
        intro h2
        exact h1 (by simp only [isn, Bool.and_eq_true, decide_eq_true_eq]; exact ⟨h0, h2⟩)
    · have h1' : isn p (zL' Z).length = false := by simpa using h1
      simp (disch := omega) only [x11_lies, m1, m_isIn, isn_in, h1', b2i_0, QB]
      rfl
end OP
