/-! CALLS, 14: feeding the tape -/
def byt (p : Int32) (s : Nat) : Nat := ((p >>> (Int32.ofNat s &&& 31)) &&& 255).toNatClampNeg
def updN (T : Nat → Nat) (n v : Nat) : Nat → Nat := fun i => if i = n then v else T i
def fext (T : Nat → Nat) (n : Nat) (p : Int32) : Nat → Nat → Nat
  | 0 => T
  | k + 1 => fext (updN T n (byt p (8 * k))) (n + 1) p k
theorem and255 (x : Int32) : ∃ b, b < 256 ∧ x &&& 255 = Int32.ofNat b := by
  refine ⟨x.toBitVec.toNat % 256, Nat.mod_lt _ (by omega), ?_⟩
  apply Int32.toBitVec_inj.mp
  apply BitVec.eq_of_toNat_eq
  rw [Int32.toBitVec_and]
  simp only [BitVec.toNat_and]
  show x.toBitVec.toNat &&& 255 = (x.toBitVec.toNat % 256) % 2 ^ 32
  rw [Nat.mod_eq_of_lt (show x.toBitVec.toNat % 256 < 2 ^ 32 by omega)]
  exact Nat.and_two_pow_sub_one_eq_mod _ 8
theorem b255 : ∀ i, i < 8 → ((255 : Int32).toBitVec).getLsbD i = true := by decide
theorem t8 (x : Int32) : (x &&& 255).toInt8 = x.toInt8 := by
  apply Int8.toBitVec_inj.mp
  apply BitVec.eq_of_getLsbD_eq
  intro i hi
  rw [Int32.toBitVec_toInt8, Int32.toBitVec_toInt8, BitVec.getLsbD_signExtend, BitVec.getLsbD_signExtend, if_pos (show i < 32 by omega), if_pos (show i < 32 by omega), Int32.toBitVec_and, BitVec.getLsbD_and, b255 i hi, Bool.and_true]
theorem byt_ok (p : Int32) (s : Nat) : byt p s < 256 ∧ (p >>> (Int32.ofNat s &&& 31)) &&& 255 = Int32.ofNat (byt p s) ∧ ((p >>> (Int32.ofNat s &&& 31))).toInt8.toInt32.toInt8.toInt32 = sx8 (byt p s) := by
  obtain ⟨b, hb, e⟩ := and255 (p >>> (Int32.ofNat s &&& 31))
  have hb' : byt p s = b := by rw [byt, e, q_ix (by omega)]
  rw [hb']
  refine ⟨hb, e, ?_⟩
  rw [sx8, ← e, t8, Int8.toInt8_toInt32]
theorem fext_lt {p : Int32} : ∀ (k n : Nat) (T : Nat → Nat), (∀ i, i < n → T i < 256) → ∀ i, i < n + k → fext T n p k i < 256
  | 0, n, T, h => fun i hi => h i hi
  | k + 1, n, T, h => fun i hi => by
    simp only [fext]
    refine fext_lt k (n + 1) _ (fun j hj => ?_) i (by omega)
    simp only [updN]
    split
    · exact (byt_ok p (8 * k)).1
    · exact h j (by omega)
def Ffd (a c k : Nat) (g : Nat → Int32) (J : MI) (n : Nat) (T : Nat → Nat) : Prop := J c k = Int32.ofNat n ∧ ∀ i, i < n → J a i = g (T i)
theorem Ffd.step {a c k n : Nat} {g : Nat → Int32} {J : MI} {T : Nat → Nat} {v : Nat} (hac : a ≠ c) (h : Ffd a c k g J n T) : Ffd a c k g (wI (wI J a n (g v)) c k (Int32.ofNat (n + 1))) (n + 1) (updN T n v) := by
  refine ⟨by rw [wI_at], fun i hi => ?_⟩
  rw [wI_c hac]
  by_cases e : i = n
  · rw [e, wI_at, updN, if_pos rfl]
  · rw [wI_ne (by omega), updN, if_neg e]; exact h.2 i (by omega)
theorem w8 {k : Nat} : Int32.ofNat (8 * (k + 1)) + (-8) = Int32.ofNat (8 * k) := by
  rw [show 8 * (k + 1) = 8 * k + 8 by omega, Int32.ofNat_add, Int32.add_assoc]
  exact Int32.add_zero _
theorem c_fourL {p : Int32} : ∀ (k fu : Nat) (J : MI) (n : Nat) (T : Nat → Nat), k < fu → k ≤ 4 → n + k ≤ 1600 → Ffd 1 0 1 sx8 J n T → ∃ J', x10_append_L3 p fu (Int32.ofNat (8 * k) + (-8)) J = some J' ∧ Ffd 1 0 1 sx8 J' (n + k) (fext T n p k) ∧ (∀ c, c ≠ 0 → c ≠ 1 → J' c = J c) ∧ ∀ j, j ≠ 1 → J' 0 j = J 0 j := by
  intro k
  induction k with
  | zero =>
    intro fu J n T hf _ _ hF
    obtain ⟨fu, rfl⟩ : ∃ n', fu = n' + 1 := ⟨fu - 1, by omega⟩
    refine ⟨J, ?_, hF, fun c _ _ => rfl, fun j _ => rfl⟩
    simp only [x10_append_L3, x10_append_L3s]
    rw [if_pos (show Int32.ofNat (8 * 0) + (-8) < 0 by decide)]
  | succ k ih =>
    intro fu J n T hf hk hn hF
    obtain ⟨fu, rfl⟩ : ∃ n', fu = n' + 1 := ⟨fu - 1, by omega⟩
    obtain ⟨J', r1, r2, r3, r4⟩ := ih fu _ (n + 1) _ (by omega) (by omega) (by omega) (hF.step (v := byt p (8 * k)) (by omega))
    refine ⟨J', ?_, by rw [show n + (k + 1) = n + 1 + k by omega]; exact r2, fun c h0 h1 => ?_, fun j hj => ?_⟩
    · simp (disch := omega) only [x10_append_L3, x10_append_L3s, w8, q_neg, if_false, hF.1, QN, QB, (byt_ok p (8 * k)).2.2, wI_ne, if_pos (show n < 1600 by omega)]
      exact r1
    · rw [r3 c h0 h1, wI_c h0, wI_c h1]
    · rw [r4 j hj, wI_ne (by omega), wI_ne (by omega)]
theorem m_fourL {p : Int32} : ∀ (k fu : Nat) (J : MI) (n : Nat) (T : Nat → Nat), k < fu → k ≤ 4 → n + k ≤ 1600 → Ffd 103 102 1 Int32.ofNat J n T → ∃ J', x11_four_L3 p fu (Int32.ofNat (8 * k) + (-8)) J = some J' ∧ Ffd 103 102 1 Int32.ofNat J' (n + k) (fext T n p k) ∧ (∀ c, c ≠ 102 → c ≠ 103 → J' c = J c) ∧ ∀ j, j ≠ 1 → J' 102 j = J 102 j := by
  intro k
  induction k with
  | zero =>
    intro fu J n T hf _ _ hF
    obtain ⟨fu, rfl⟩ : ∃ n', fu = n' + 1 := ⟨fu - 1, by omega⟩
    refine ⟨J, ?_, hF, fun c _ _ => rfl, fun j _ => rfl⟩
    simp only [x11_four_L3, x11_four_L3s]
    rw [if_pos (show Int32.ofNat (8 * 0) + (-8) < 0 by decide)]
  | succ k ih =>
    intro fu J n T hf hk hn hF
    obtain ⟨fu, rfl⟩ : ∃ n', fu = n' + 1 := ⟨fu - 1, by omega⟩
    obtain ⟨J', r1, r2, r3, r4⟩ := ih fu _ (n + 1) _ (by omega) (by omega) (by omega) (hF.step (v := byt p (8 * k)) (by omega))
    refine ⟨J', ?_, by rw [show n + (k + 1) = n + 1 + k by omega]; exact r2, fun c h0 h1 => ?_, fun j hj => ?_⟩
    · simp (disch := omega) only [x11_four_L3, x11_four_L3s, w8, q_neg, if_false, hF.1, QN, QB, (byt_ok p (8 * k)).2.1, wI_ne]
      exact r1
    · rw [r3 c h0 h1, wI_c h0, wI_c h1]
    · rw [r4 j hj, wI_ne (by omega), wI_ne (by omega)]
theorem c_four {p : Int32} {J : MI} {n : Nat} {T : Nat → Nat} (hn : n + 4 ≤ 1600) (hF : Ffd 1 0 1 sx8 J n T) : ∃ J', x10_append p J = some J' ∧ Ffd 1 0 1 sx8 J' (n + 4) (fext T n p 4) ∧ (∀ c, c ≠ 0 → c ≠ 1 → J' c = J c) ∧ ∀ j, j ≠ 1 → J' 0 j = J 0 j := by
  obtain ⟨J', r1, r2⟩ := c_fourL (p := p) 4 FU J n T (by unfold FU; omega) (by omega) hn hF
  rw [show Int32.ofNat (8 * 4) + (-8) = 24 by decide] at r1
  exact ⟨J', by simp only [x10_append, QB, r1], r2⟩
theorem m_four {p : Int32} {J : MI} {n : Nat} {T : Nat → Nat} (hn : n + 4 ≤ 1600) (hF : Ffd 103 102 1 Int32.ofNat J n T) : ∃ J', x11_four p J = some J' ∧ Ffd 103 102 1 Int32.ofNat J' (n + 4) (fext T n p 4) ∧ (∀ c, c ≠ 102 → c ≠ 103 → J' c = J c) ∧ ∀ j, j ≠ 1 → J' 102 j = J 102 j := by
  obtain ⟨J', r1, r2⟩ := m_fourL (p := p) 4 FU J n T (by unfold FU; omega) (by omega) hn hF
  rw [show Int32.ofNat (8 * 4) + (-8) = 24 by decide] at r1
  exact ⟨J', by simp only [x11_four, QB, r1], r2⟩
section OP
variable {t : Nat} {I : MI} {L : ML} {R : MR} {S : MS} {D : TD} {C : TC} {P : PR} {Z : AX}
theorem INV.tape (h : INV t I L R S D C P Z) {N : Nat} {T : Nat → Nat} {J K : MI} (hN : N ≤ 1600 ∧ ∀ i, i < N → T i < 256) (c1 : Ffd 1 0 1 sx8 J N T) (c2 : ∀ c, c ≠ 0 → c ≠ 1 → J c = I c) (c3 : ∀ j, j ≠ 1 → J 0 j = I 0 j) (k1 : Ffd 103 102 1 Int32.ofNat K N T) (k2 : ∀ c, c ≠ 102 → c ≠ 103 → K c = J c) (k3 : ∀ j, j ≠ 1 → K 102 j = J 102 j) : INV t K L R S D C P (zset Z N T (zM Z) (zL' Z) (zP Z) (zK Z)) := by
  obtain ⟨hS, hc, hm, ha, hw⟩ := id h
  have f : ∀ c, c ≠ 0 → c ≠ 1 → c ≠ 102 → c ≠ 103 → K c = I c := fun c a1 a2 a3 a4 => (k2 c a3 a4).trans (c2 c a1 a2)
  have f0 : ∀ j, j ≠ 1 → K 0 j = I 0 j := fun j hj => by rw [k2 0 (by omega) (by omega)]; exact c3 j hj
  have f2 : ∀ j, j ≠ 1 → K 102 j = I 102 j := fun j hj => by rw [k3 j hj, c2 102 (by omega) (by omega)]
  refine h.mod (fun c hc => f c (by unfold zce at hc; omega) (by unfold zce at hc; omega) (by unfold zce at hc; omega) (by unfold zce at hc; omega)) (fun j h1 _ _ _ _ _ _ => f2 j h1) hN ha.2.2.2.2.1 ha.2.2.2.2.2.1 ha.2.2.2.2.2.2.1 ⟨?_, fun i hi => ?_⟩ ?_ ⟨?_, fun i hi => ?_⟩ ⟨?_, fun i j hi hj => ?_⟩ k1 ?_ ⟨?_, fun i hi => ?_⟩ ⟨?_, fun i j hi hj => ?_⟩
  · rw [k2 0 (by omega) (by omega)]; exact c1.1
  · rw [k2 1 (by omega) (by omega)]; exact c1.2 i hi
  · rw [f0 12 (by omega)]; exact hc.2.2.2.2.1
  · rw [f0 14 (by omega)]; exact hc.2.2.2.2.2.1.1
  · rw [f 89 (by omega) (by omega) (by omega) (by omega)]; exact hc.2.2.2.2.2.1.2 i hi
  · rw [f 83 (by omega) (by omega) (by omega) (by omega)]; exact hc.2.2.2.2.2.2.1.1
  · rw [f _ (by omega) (by omega) (by omega) (by omega)]; exact hc.2.2.2.2.2.2.1.2 i j hi hj
  · rw [f2 92 (by omega)]; exact hm.2.2.2.2.1
  · rw [f2 85 (by omega)]; exact hm.2.2.2.2.2.1.1
  · rw [f 149 (by omega) (by omega) (by omega) (by omega)]; exact hm.2.2.2.2.2.1.2 i hi
  · rw [f2 91 (by omega)]; exact hm.2.2.2.2.2.2.1.1
  · rw [f _ (by omega) (by omega) (by omega) (by omega)]; exact hm.2.2.2.2.2.2.1.2 i j hi hj
theorem op_end (h : INV t I L R S D C P Z) (p : Int32) : ∃ r I1 I2 Z', x10_end p I = some (r, I1) ∧ x11_end p I1 = some (r, I2) ∧ INV t I2 L R S D C P Z' := by
  obtain ⟨hS, hc, hm, ha, hw⟩ := id h
  have hN := ha.2.2.2.1
  by_cases h0 : p < 0
  · exact ⟨-1, I, I, Z, by simp only [x10_end, if_pos h0], by simp only [x11_end, if_pos h0], h⟩
  · by_cases h1 : Int32.ofNat (zN Z) < p
    · exact ⟨-1, I, I, Z, by simp only [x10_end, if_neg h0, hc.2.2.1.1, if_pos h1], by simp only [x11_end, if_neg h0, hm.2.2.1.1, if_pos h1], h⟩
    · have hk : isu p (zN Z) = true := by rw [isu_c (by omega)]; exact fun g => g.elim h0 h1
      obtain ⟨k, hk', rfl⟩ := isn_t (by omega) hk
      have m1 : wI I 0 1 (Int32.ofNat k) 102 1 = Int32.ofNat (zN Z) := by rw [wI_c (by omega)]; exact hm.2.2.1.1
      refine ⟨Int32.ofNat k, wI I 0 1 (Int32.ofNat k), wI (wI I 0 1 (Int32.ofNat k)) 102 1 (Int32.ofNat k), _, by simp only [x10_end, if_neg h0, hc.2.2.1.1, if_neg h1, QB], by simp only [x11_end, if_neg h0, m1, if_neg h1, QB], h.tape (N := k) (T := zT Z) ⟨by omega, fun i hi => hN.2 i (by omega)⟩ ⟨by rw [wI_at], fun i hi => ?_⟩ (fun c a b => wI_c a) (fun j hj => wI_ne (by omega)) ⟨by rw [wI_at], fun i hi => ?_⟩ (fun c a b => wI_c a) (fun j hj => wI_ne (by omega))⟩
      · rw [wI_c (by omega)]; exact hc.2.2.1.2 i (by omega)
      · rw [wI_c (by omega), wI_c (by omega)]; exact hm.2.2.1.2 i (by omega)
theorem op_feed (h : INV t I L R S D C P Z) (p1 p2 p3 p4 p5 : Int32) : ∃ r I1 I2 Z', x10_feed p1 p2 p3 p4 p5 I = some (r, I1) ∧ x11_feed p1 p2 p3 p4 p5 I1 = some (r, I2) ∧ INV t I2 L R S D C P Z' := by
  obtain ⟨hS, hc, hm, ha, hw⟩ := id h
  obtain ⟨hN, hT⟩ := ha.2.2.2.1
  have m0 := hm.2.2.1
  by_cases h1 : 1580 < zN Z
  · refine ⟨-1, I, I, Z, ?_, ?_, h⟩
    · simp (disch := omega) only [x10_feed, hc.2.2.1.1, QN, h1, if_true]
    · simp (disch := omega) only [x11_feed, m0.1, QN]
      rw [if_pos (show 1600 < zN Z + 20 by omega)]
  · obtain ⟨J1, a1, b1', c1, d1⟩ := c_four (p := p1) (J := I) (n := zN Z) (T := zT Z) (by omega) hc.2.2.1
    obtain ⟨J2, a2, b2', c2, d2⟩ := c_four (p := p2) (by omega) b1'
    obtain ⟨J3, a3, b3', c3, d3⟩ := c_four (p := p3) (by omega) b2'
    obtain ⟨J4, a4, b4', c4, d4⟩ := c_four (p := p4) (by omega) b3'
    obtain ⟨J5, a5, b5', c5, d5⟩ := c_four (p := p5) (by omega) b4'
    have cJ : ∀ c, c ≠ 0 → c ≠ 1 → J5 c = I c := fun c x y => (c5 c x y).trans ((c4 c x y).trans ((c3 c x y).trans ((c2 c x y).trans (c1 c x y))))
    have dJ : ∀ j, j ≠ 1 → J5 0 j = I 0 j := fun j x => (d5 j x).trans ((d4 j x).trans ((d3 j x).trans ((d2 j x).trans (d1 j x))))
    have m0' : Ffd 103 102 1 Int32.ofNat J5 (zN Z) (zT Z) := ⟨by rw [cJ 102 (by omega) (by omega)]; exact m0.1, fun i hi => by rw [cJ 103 (by omega) (by omega)]; exact m0.2 i hi⟩
    obtain ⟨K1, e1, f1, g1, h1'⟩ := m_four (p := p1) (by omega) m0'
    obtain ⟨K2, e2, f2, g2, h2'⟩ := m_four (p := p2) (by omega) f1
    obtain ⟨K3, e3, f3, g3, h3'⟩ := m_four (p := p3) (by omega) f2
    obtain ⟨K4, e4, f4, g4, h4'⟩ := m_four (p := p4) (by omega) f3
    obtain ⟨K5, e5, f5, g5, h5'⟩ := m_four (p := p5) (by omega) f4
    have cK : ∀ c, c ≠ 102 → c ≠ 103 → K5 c = J5 c := fun c x y => (g5 c x y).trans ((g4 c x y).trans ((g3 c x y).trans ((g2 c x y).trans (g1 c x y))))
    have dK : ∀ j, j ≠ 1 → K5 102 j = J5 102 j := fun j x => (h5' j x).trans ((h4' j x).trans ((h3' j x).trans ((h2' j x).trans (h1' j x))))
    have l1 := fext_lt (p := p1) 4 _ _ hT
    have l2 := fext_lt (p := p2) 4 _ _ l1
    have l3 := fext_lt (p := p3) 4 _ _ l2
    have l4 := fext_lt (p := p4) 4 _ _ l3
    have l5 := fext_lt (p := p5) 4 _ _ l4
    refine ⟨Int32.ofNat (zN Z + 4 + 4 + 4 + 4 + 4), J5, K5, _, ?_, ?_, h.tape ⟨by omega, l5⟩ b5' cJ dJ f5 cK dK⟩
    · simp (disch := omega) only [x10_feed, hc.2.2.1.1, QN, h1, if_false, a1, a2, a3, a4, a5, QB, b5'.1]
    · simp (disch := omega) only [x11_feed, m0'.1, QN]
      rw [if_neg (show ¬ 1600 < zN Z + 20 by omega)]
      simp only [e1, e2, e3, e4, e5, QB, f5.1]
end OP
