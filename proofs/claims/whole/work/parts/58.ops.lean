/-! CALLS, 17: what a bobber of a rule would have taken -/
def swt (D : TD) (C : TC) (b s r : Nat) : Nat → Option (Nat × Int32)
  | 0 => none
  | n + 1 => if s / 2 ^ n % 2 = 1 then sbet (swt D C b s r n) n (sworth D C (tro D) b n 0 r) else swt D C b s r n
def pkb (Z : AX) (w : Nat) : Nat := (zK Z 0 w).toNatClampNeg
/-- picks in the class's memory, and in the reference's -/
def PC (I : MI) (Z : AX) : Prop := I 83 6 = Int32.ofNat (zP Z) ∧ ∀ i j, i < zP Z → j < 5 → I (84 + j) i = zK Z j i
def PM (I : MI) (Z : AX) : Prop := I 102 91 = Int32.ofNat (zP Z) ∧ ∀ i j, i < zP Z → j < 5 → I (151 + j) i = zK Z j i
section OP
variable {t : Nat} {I I' : MI} {L : ML} {R : MR} {S : MS} {D : TD} {C : TC} {P Q : PR} {Z : AX}
theorem pkb_ok (ha : AI D C P Z) {w : Nat} (hw : w < zP Z) : zK Z 0 w = Int32.ofNat (pkb Z w) ∧ pkb Z w < nB D := by
  obtain ⟨s, h1, h2⟩ := (ha.2.2.2.2.2.2.1.2 w hw).1
  have := ha.1.b
  have : pkb Z w = s := by rw [pkb, h2, q_ix (by omega)]
  rw [this]; exact ⟨h2, h1⟩
theorem PC.fr (h : PC I Z) (ht : isT t) (hf : Ft t I I') : PC I' Z := by
  have f : ∀ c, 83 ≤ c → c ≤ 88 → I' c = I c := fun c _ _ => hf c (by omega) (by omega) (by rcases ht with h | h <;> omega) (by omega)
  exact ⟨by rw [f 83 (by omega) (by omega)]; exact h.1, fun i j hi hj => by rw [f _ (by omega) (by omega)]; exact h.2 i j hi hj⟩
theorem PM.fr (h : PM I Z) (hf : Fm I I') : PM I' Z := ⟨by rw [hf.2 91 (by omega) (by omega)]; exact h.1, fun i j hi hj => by rw [hf.1 _ (by omega) (by omega) (by omega)]; exact h.2 i j hi hj⟩
theorem c_kn' (hc : PC I Z) (ha : AI D C P Z) {w : Nat} (hw : w < zP Z) (p : Int32) : x4_isKnown (Int32.ofNat w) p I = some (b2i (kn Z w p)) := by
  have h30 := ha.2.2.2.2.2.2.1.1
  have e3 := hc.2 w 3 hw (by omega)
  have e4 := hc.2 w 4 hw (by omega)
  rw [show 84 + 3 = 87 from rfl] at e3
  rw [show 84 + 4 = 88 from rfl] at e4
  simp (disch := omega) only [x4_isKnown, QN, QB, e3, e4, kn]
  by_cases g1 : p < zK Z 3 w <;> by_cases g2 : zK Z 4 w = -1 <;> by_cases g3 : p < zK Z 4 w <;> simp [g1, g2, g3, b2i]
theorem m_kn' (hm : PM I Z) (ha : AI D C P Z) {w : Nat} (hw : w < zP Z) (p : Int32) : x11_counts (Int32.ofNat w) p I = some (b2i (kn Z w p)) := by
  have h30 := ha.2.2.2.2.2.2.1.1
  have e3 := hm.2 w 3 hw (by omega)
  have e4 := hm.2 w 4 hw (by omega)
  rw [show 151 + 3 = 154 from rfl] at e3
  rw [show 151 + 4 = 155 from rfl] at e4
  have hz : (zK Z 4 w < 0) = (zK Z 4 w = -1) := by
    rcases (ha.2.2.2.2.2.2.1.2 w hw).2.2.2.2 with z | ⟨u, hu, z⟩
    · rw [z]; simp
    · rw [z, q_neg (by omega), q_m1 (by omega)]
  simp (disch := omega) only [x11_counts, QN, QB, e3, e4, kn, hz]
  by_cases g1 : p < zK Z 3 w <;> by_cases g2 : zK Z 4 w = -1 <;> by_cases g3 : p < zK Z 4 w <;> simp [g1, g2, g3, b2i]
theorem swt_lt {b s r : Nat} : ∀ n u v, swt D C b s r n = some (u, v) → u < n
  | 0, u, v, h => by cases h
  | n + 1, u, v, h => by
    simp only [swt] at h
    split at h
    · cases hs : swt D C b s r n with
      | none => rw [hs] at h; simp only [sbet, Option.some.injEq, Prod.mk.injEq] at h; omega
      | some q =>
        obtain ⟨x, y⟩ := q
        have := swt_lt n x y hs
        rw [hs] at h
        simp only [sbet] at h
        split at h <;> simp only [Option.some.injEq, Prod.mk.injEq] at h <;> omega
    · have := swt_lt n u v h; omega
theorem c_wtL {b s r : Nat} (ht : isT t) (hD : OkD D C) (hb : b < nB D) (hs : s < 1024) (hr : r < nR D) : ∀ (j w n : Nat) (I : MI), w + j = nA D → j < n → Td I t D C → Rl D true I 67 (tro D) → ∃ I' x, x9_wouldTake_L23 t (Int32.ofNat r) (Int32.ofNat b) (Int32.ofNat s) n (cw (swt D C b s r w)) x (Int32.ofNat w) I = some (cw (swt D C b s r (nA D)), I') ∧ Fg t I I' := by
  sorry
end OP
