/-! CALLS, 15: the chance of picks -/
/-- is pick w known at that time -/
def kn (Z : AX) (w : Nat) (p : Int32) : Bool := decide (¬ p < zK Z 3 w ∧ (zK Z 4 w = -1 ∨ p < zK Z 4 w))
def pks (Z : AX) (w : Nat) : Nat := (zK Z 1 w).toNatClampNeg
def cap (x : Int64) : Int64 := if x < 1000000000000000 then x else 1000000000000000
def sch (Z : AX) (p : Int32) : Nat → Int64
  | 0 => 1
  | n + 1 => if kn Z n p = true then cap (sch Z p n * (Int32.ofNat (pc (pks Z n))).toInt64) else sch Z p n
theorem cap_cmp (x : Int64) : (if 0 < lg_cmp x 1000000000000000 then (1000000000000000 : Int64) else x) = cap x := by
  have e : (0 < lg_cmp x 1000000000000000) = (1000000000000000 < x) := by
    simp only [lg_cmp]
    by_cases g1 : x < 1000000000000000
    · have : ¬ (1000000000000000 : Int64) < x := fun g => by
        rw [Int64.lt_iff_toInt_lt] at g g1; omega
      simp [g1, this]
      split <;> decide
    · by_cases g2 : x = 1000000000000000
      · simp [g2]
      · have : (1000000000000000 : Int64) < x := by
          rw [Int64.lt_iff_toInt_lt] at g1 ⊢
          have h3 : x.toInt ≠ (1000000000000000 : Int64).toInt := fun h => g2 (Int64.toInt_inj.mp h)
          omega
        simp [g1, g2, this]
  simp only [e, cap]
  by_cases g1 : x < 1000000000000000
  · have : ¬ (1000000000000000 : Int64) < x := fun g => by
      rw [Int64.lt_iff_toInt_lt] at g g1; omega
    simp [g1, this]
  · by_cases g2 : x = 1000000000000000
    · simp [g2]
    · have : (1000000000000000 : Int64) < x := by
        rw [Int64.lt_iff_toInt_lt] at g1 ⊢
        have h3 : x.toInt ≠ (1000000000000000 : Int64).toInt := fun h => g2 (Int64.toInt_inj.mp h)
        omega
      simp [g1, this]
section OP
variable {t : Nat} {I : MI} {L : ML} {R : MR} {S : MS} {D : TD} {C : TC} {P : PR} {Z : AX}
theorem pks_ok (ha : AI D C P Z) {w : Nat} (hw : w < zP Z) : zK Z 1 w = Int32.ofNat (pks Z w) ∧ pks Z w < 1024 := by
  obtain ⟨s, h1, h2⟩ := (ha.2.2.2.2.2.2.1.2 w hw).2.1
  have h10 : 2 ^ nA D ≤ 1024 := pow_le ha.1.a
  have : pks Z w = s := by rw [pks, h2, q_ix (by omega)]
  rw [this]; exact ⟨h2, by omega⟩
theorem c_kn (hc : CI t I R D C P Z) (ha : AI D C P Z) {w : Nat} (hw : w < zP Z) (p : Int32) : x4_isKnown (Int32.ofNat w) p I = some (b2i (kn Z w p)) := by
  have h30 := ha.2.2.2.2.2.2.1.1
  have c7 := hc.2.2.2.2.2.2.1.2 w
  have e3 := c7 3 hw (by omega)
  have e4 := c7 4 hw (by omega)
  rw [show 84 + 3 = 87 from rfl] at e3
  rw [show 84 + 4 = 88 from rfl] at e4
  simp (disch := omega) only [x4_isKnown, QN, QB, e3, e4, kn]
  by_cases g1 : p < zK Z 3 w <;> by_cases g2 : zK Z 4 w = -1 <;> by_cases g3 : p < zK Z 4 w <;> simp [g1, g2, g3, b2i]
theorem m_kn (hm : RI I D C P Z) (ha : AI D C P Z) {w : Nat} (hw : w < zP Z) (p : Int32) : x11_counts (Int32.ofNat w) p I = some (b2i (kn Z w p)) := by
  have h30 := ha.2.2.2.2.2.2.1.1
  have m7 := hm.2.2.2.2.2.2.1.2 w
  have e3 := m7 3 hw (by omega)
  have e4 := m7 4 hw (by omega)
  rw [show 151 + 3 = 154 from rfl] at e3
  rw [show 151 + 4 = 155 from rfl] at e4
  have hz : (zK Z 4 w < 0) = (zK Z 4 w = -1) := by
    rcases (ha.2.2.2.2.2.2.1.2 w hw).2.2.2.2 with z | ⟨u, hu, z⟩
    · rw [z]; simp
    · rw [z, q_neg (by omega), q_m1 (by omega)]
  simp (disch := omega) only [x11_counts, QN, QB, e3, e4, kn, hz]
  by_cases g1 : p < zK Z 3 w <;> by_cases g2 : zK Z 4 w = -1 <;> by_cases g3 : p < zK Z 4 w <;> simp [g1, g2, g3, b2i]
theorem c_chL {p : Int32} (hc : CI t I R D C P Z) (ha : AI D C P Z) : ∀ (j w n : Nat), w + j = zP Z → j < n → x4_oneIn_L5 p I n (sch Z p w) (Int32.ofNat w) = some (sch Z p (zP Z)) := by
  have h30 := ha.2.2.2.2.2.2.1.1
  intro j
  induction j with
  | zero =>
    intro w n hw hn
    obtain ⟨n, rfl⟩ : ∃ n', n = n' + 1 := ⟨n - 1, by omega⟩
    obtain rfl : w = zP Z := by omega
    simp (disch := omega) only [x4_oneIn_L5, x4_oneIn_L5s, hc.2.2.2.2.2.2.1.1, QN]
    simp
  | succ j ih =>
    intro w n hw hn
    obtain ⟨n, rfl⟩ : ∃ n', n = n' + 1 := ⟨n - 1, by omega⟩
    have hi := ih (w + 1) n (by omega) (by omega)
    obtain ⟨k1, k2⟩ := pks_ok ha (show w < zP Z by omega)
    have e1 := hc.2.2.2.2.2.2.1.2 w 1 (by omega) (by omega)
    rw [show 84 + 1 = 85 from rfl, k1] at e1
    simp only [sch] at hi
    simp (disch := omega) only [x4_oneIn_L5, x4_oneIn_L5s, hc.2.2.2.2.2.2.1.1, QN, QB, if_pos (show w < zP Z by omega), c_kn hc ha (show w < zP Z by omega), b2i_0, e1, cnt_n k2]
    by_cases g : kn Z w p = true
    · rw [if_pos g] at hi
      rw [if_pos g]; exact hi
    · rw [if_neg g] at hi
      rw [if_neg g]; exact hi
theorem m_chL {p : Int32} (hm : RI I D C P Z) (ha : AI D C P Z) : ∀ (j w n : Nat), w + j = zP Z → j < n → x11_chance_L5 p I n (sch Z p w) (Int32.ofNat w) = some (sch Z p (zP Z)) := by
  have h30 := ha.2.2.2.2.2.2.1.1
  intro j
  induction j with
  | zero =>
    intro w n hw hn
    obtain ⟨n, rfl⟩ : ∃ n', n = n' + 1 := ⟨n - 1, by omega⟩
    obtain rfl : w = zP Z := by omega
    simp (disch := omega) only [x11_chance_L5, x11_chance_L5s, hm.2.2.2.2.2.2.1.1, QN]
    simp
  | succ j ih =>
    intro w n hw hn
    obtain ⟨n, rfl⟩ : ∃ n', n = n' + 1 := ⟨n - 1, by omega⟩
    have hi := ih (w + 1) n (by omega) (by omega)
    obtain ⟨k1, k2⟩ := pks_ok ha (show w < zP Z by omega)
    have e1 := hm.2.2.2.2.2.2.1.2 w 1 (by omega) (by omega)
    rw [show 151 + 1 = 152 from rfl, k1] at e1
    simp only [sch] at hi
    simp (disch := omega) only [x11_chance_L5, x11_chance_L5s, hm.2.2.2.2.2.2.1.1, QN, QB, if_pos (show w < zP Z by omega), m_kn hm ha (show w < zP Z by omega), b2i_0, e1, m_mem k2]
    by_cases g : kn Z w p = true
    · rw [if_pos g, ← cap_cmp] at hi
      rw [if_pos g]
      by_cases g2 : 0 < lg_cmp (sch Z p w * (Int32.ofNat (pc (pks Z w))).toInt64) 1000000000000000
      · rw [if_pos g2] at hi ⊢; exact hi
      · rw [if_neg g2] at hi ⊢; exact hi
    · rw [if_neg g] at hi
      rw [if_neg g]; exact hi
theorem op_chance (h : INV t I L R S D C P Z) (p : Int32) : ∃ r, x10_chance p I = some r ∧ x11_chance p I = some r := by
  obtain ⟨hS, hc, hm, ha, hw⟩ := h
  have h30 := ha.2.2.2.2.2.2.1.1
  have c := c_chL (p := p) hc ha (zP Z) 0 FU (by omega) (by unfold FU; omega)
  have m := m_chL (p := p) hm ha (zP Z) 0 FU (by omega) (by unfold FU; omega)
  rw [show sch Z p 0 = 1 from rfl, show Int32.ofNat 0 = 0 from rfl] at c m
  exact ⟨sch Z p (zP Z), by simp only [x10_chance, x4_oneIn, QB, c], by simp only [x11_chance, QB, m]⟩
end OP
