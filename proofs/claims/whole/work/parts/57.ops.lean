/-! CALLS, 16: which rules the picks fit: the told row -/
def tro (D : TD) : PR := fun k => if k < 50 then (if k % 5 = 0 then D 1 (k / 5) else if k % 5 = 1 then D 2 (k / 5) else if k % 5 = 2 then -1 else if k % 5 = 3 then 0 else D 3 (k / 5)) else if k < 62 then (if (k - 50) % 3 = 0 then D 10 ((k - 50) / 3) else 0) else if k = 62 then D 0 2 else if k < 123 then 0 else if k < 127 then D 7 (k - 123) else D 8 (k - 127)
theorem tro_pt {D : TD} (hA : nA D ≤ 10) (hB : nB D ≤ 4) : Pt D (tro D) := by
  refine ⟨fun a ha => ⟨?_, ?_, ?_, ?_, ?_⟩, fun b hb => ⟨?_, ?_, ?_, ?_, ?_⟩⟩
  · simp only [tro]; rw [if_pos (by omega), if_pos (by omega), show 5 * a / 5 = a by omega]
  · simp only [tro]; rw [if_pos (by omega), if_neg (by omega), if_pos (by omega), show (5 * a + 1) / 5 = a by omega]
  · simp only [tro]; rw [if_pos (by omega), if_neg (by omega), if_neg (by omega), if_pos (by omega)]
  · simp only [tro]; rw [if_pos (by omega), if_neg (by omega), if_neg (by omega), if_neg (by omega), if_pos (by omega)]
  · simp only [tro]; rw [if_pos (by omega), if_neg (by omega), if_neg (by omega), if_neg (by omega), if_neg (by omega), show (5 * a + 4) / 5 = a by omega]
  · simp only [tro]; rw [if_neg (by omega), if_pos (by omega), if_pos (by omega), show (50 + 3 * b - 50) / 3 = b by omega]
  · simp only [tro]; rw [if_neg (by omega), if_pos (by omega), if_neg (by omega)]
  · simp only [tro]; rw [if_neg (by omega), if_pos (by omega), if_neg (by omega)]
  · simp only [tro]; rw [if_neg (by omega), if_neg (by omega), if_neg (by omega), if_neg (by omega), if_pos (by omega), show 123 + b - 123 = b by omega]
  · simp only [tro]; rw [if_neg (by omega), if_neg (by omega), if_neg (by omega), if_neg (by omega), if_neg (by omega), show 127 + b - 127 = b by omega]
theorem tro_pt2 {D : TD} (hB : nB D ≤ 4) : Pt2 D (tro D) := by
  refine ⟨?_, fun b i hb hi => ?_⟩
  · rfl
  · simp only [tro]; rw [if_neg (by omega), if_neg (by omega), if_neg (by omega), if_pos (by omega)]
theorem sight_pt {D : TD} {P Q : PR} {a b : Nat} (hP : Pt D P) (hQ : Pt D Q) (ha : a < nA D) (hb : b < nB D) (kd od : Int32) : sight D P b a kd od = sight D Q b a kd od := by
  obtain ⟨p0, p1, p2, p3, p4⟩ := hP.1 a ha
  obtain ⟨q0, q1, q2, q3, q4⟩ := hQ.1 a ha
  obtain ⟨r0, r1, r2, r3, r4⟩ := hP.2 b hb
  obtain ⟨s0, s1, s2, s3, s4⟩ := hQ.2 b hb
  have e : sfar P b a = sfar Q b a := by simp only [sfar, sdx, sdy, p0, p1, q0, q1, r3, r4, s3, s4]
  funext i
  simp only [sight, e, p0, p1, p3, p4, q0, q1, q3, q4, r0, s0]
theorem sworth_pt {D : TD} {C : TC} {P Q : PR} {a b k r : Nat} (hP : Pt D P) (hQ : Pt D Q) (ha : a < nA D) (hb : b < nB D) : sworth D C P b a k r = sworth D C Q b a k r := by
  have e : sodds D C P b a k = sodds D C Q b a k := by simp only [sodds, sight_pt hP hQ ha hb]
  simp only [sworth, e, sight_pt hP hQ ha hb]
theorem m_ltL : ∀ (j w n : Nat) (I : MI), w + j = 10 → j < n → ∃ I', x11_layTold_L2 n (Int32.ofNat w) I = some I' ∧ (∀ a, w ≤ a → a < 10 → I' 137 (5 * a) = I 127 a ∧ I' 137 (5 * a + 1) = I 128 a ∧ I' 137 (5 * a + 2) = -1 ∧ I' 137 (5 * a + 3) = 0 ∧ I' 137 (5 * a + 4) = I 125 a) ∧ (∀ i, i < 5 * w ∨ 50 ≤ i → I' 137 i = I 137 i) ∧ ∀ c, c ≠ 137 → I' c = I c := by
  intro j
  induction j with
  | zero =>
    intro w n I hw hn
    obtain ⟨n, rfl⟩ : ∃ n', n = n' + 1 := ⟨n - 1, by omega⟩
    refine ⟨I, ?_, fun k h1 h2 => by omega, fun _ _ => rfl, fun _ _ => rfl⟩
    simp (disch := omega) only [x11_layTold_L2, x11_layTold_L2s, QN]
    rw [if_neg (by omega)]
  | succ j ih =>
    intro w n I hw hn
    obtain ⟨n, rfl⟩ : ∃ n', n = n' + 1 := ⟨n - 1, by omega⟩
    obtain ⟨I', h1, h2, h3, h4⟩ := ih (w + 1) n (wI (wI (wI (wI (wI I 137 (5 * w) (I 127 w)) 137 (5 * w + 1) (I 128 w)) 137 (5 * w + 2) (-1)) 137 (5 * w + 3) 0) 137 (5 * w + 4) (I 125 w)) (by omega) (by omega)
    refine ⟨I', ?_, fun a g1 g2 => ?_, fun i hi => ?_, fun c hc => by rw [h4 c hc, wI_c hc, wI_c hc, wI_c hc, wI_c hc, wI_c hc]⟩
    · simp (disch := omega) only [x11_layTold_L2, x11_layTold_L2s, QN, QB, if_pos (show w < 10 by omega), wI_ne]
      exact h1
    · by_cases e : a = w
      · subst e
        refine ⟨?_, ?_, ?_, ?_, ?_⟩
        · rw [h3 _ (by omega), wI_ne (by omega), wI_ne (by omega), wI_ne (by omega), wI_ne (by omega), wI_at]
        · rw [h3 _ (by omega), wI_ne (by omega), wI_ne (by omega), wI_ne (by omega), wI_at]
        · rw [h3 _ (by omega), wI_ne (by omega), wI_ne (by omega), wI_at]
        · rw [h3 _ (by omega), wI_ne (by omega), wI_at]
        · rw [h3 _ (by omega), wI_at]
      · have := h2 a (by omega) g2
        rwa [wI_c (by omega), wI_c (by omega), wI_c (by omega), wI_c (by omega), wI_c (by omega), wI_c (by omega), wI_c (by omega), wI_c (by omega), wI_c (by omega), wI_c (by omega), wI_c (by omega), wI_c (by omega), wI_c (by omega), wI_c (by omega), wI_c (by omega)] at this
    · rw [h3 i (by omega), wI_ne (by omega), wI_ne (by omega), wI_ne (by omega), wI_ne (by omega), wI_ne (by omega)]
theorem m_ltM : ∀ (j w n : Nat) (I : MI), w + j = 4 → j < n → ∃ I', x11_layTold_L84 n (Int32.ofNat w) I = some I' ∧ (∀ b, w ≤ b → b < 4 → I' 137 (50 + 3 * b) = I 133 b ∧ I' 137 (51 + 3 * b) = 0 ∧ I' 137 (52 + 3 * b) = 0) ∧ (∀ i, i < 50 + 3 * w ∨ 62 ≤ i → I' 137 i = I 137 i) ∧ ∀ c, c ≠ 137 → I' c = I c := by
  intro j
  induction j with
  | zero =>
    intro w n I hw hn
    obtain ⟨n, rfl⟩ : ∃ n', n = n' + 1 := ⟨n - 1, by omega⟩
    refine ⟨I, ?_, fun k h1 h2 => by omega, fun _ _ => rfl, fun _ _ => rfl⟩
    simp (disch := omega) only [x11_layTold_L84, x11_layTold_L84s, QN]
    rw [if_neg (by omega)]
  | succ j ih =>
    intro w n I hw hn
    obtain ⟨n, rfl⟩ : ∃ n', n = n' + 1 := ⟨n - 1, by omega⟩
    obtain ⟨I', h1, h2, h3, h4⟩ := ih (w + 1) n (wI (wI (wI I 137 (50 + 3 * w) (I 133 w)) 137 (51 + 3 * w) 0) 137 (52 + 3 * w) 0) (by omega) (by omega)
    refine ⟨I', ?_, fun a g1 g2 => ?_, fun i hi => ?_, fun c hc => by rw [h4 c hc, wI_c hc, wI_c hc, wI_c hc]⟩
    · simp (disch := omega) only [x11_layTold_L84, x11_layTold_L84s, QN, QB, if_pos (show w < 4 by omega), wI_ne]
      exact h1
    · by_cases e : a = w
      · subst e
        refine ⟨?_, ?_, ?_⟩
        · rw [h3 _ (by omega), wI_ne (by omega), wI_ne (by omega), wI_at]
        · rw [h3 _ (by omega), wI_ne (by omega), wI_at]
        · rw [h3 _ (by omega), wI_at]
      · have := h2 a (by omega) g2
        rwa [wI_c (by omega), wI_c (by omega), wI_c (by omega)] at this
    · rw [h3 i (by omega), wI_ne (by omega), wI_ne (by omega), wI_ne (by omega)]
/-- the row in the reference's memory -/
def mrw (J : MI) : PR := fun k => if k < 123 then J 137 k else if k < 127 then J 130 (k - 123) else J 131 (k - 127)
section OP
variable {t : Nat} {I : MI} {L : ML} {R : MR} {S : MS} {D : TD} {C : TC} {P : PR} {Z : AX}
theorem m_lt (hm : RI I D C P Z) (ha : AI D C P Z) : ∃ I', x11_layTold I = some I' ∧ (∃ Q, Wr I' Q ∧ Pt D Q) ∧ ∀ c, c ≠ 137 → I' c = I c := by
  have hA := ha.1.a
  have hB := ha.1.b
  obtain ⟨I1, a1, a2, a3, a4⟩ := m_ltL 10 0 FU I (by omega) (by unfold FU; omega)
  obtain ⟨I2, b1', b2', b3', b4'⟩ := m_ltM 4 0 FU I1 (by omega) (by unfold FU; omega)
  have f : ∀ c, c ≠ 137 → I2 c = I c := fun c hc => (b4' c hc).trans (a4 c hc)
  rw [show Int32.ofNat 0 = 0 from rfl] at a1 b1'
  refine ⟨I2, by simp only [x11_layTold, QB, a1, b1'], ⟨mrw I2, ⟨fun k hk => ?_, fun b hb => ?_, fun b hb => ?_⟩, fun a ha' => ?_, fun b hb => ?_⟩, f⟩
  · simp only [mrw, if_pos hk]
  · simp only [mrw]; rw [if_neg (by omega), if_pos (by omega), show 123 + b - 123 = b by omega]
  · simp only [mrw]; rw [if_neg (by omega), if_neg (by omega), show 127 + b - 127 = b by omega]
  · obtain ⟨e0, e1, e2, e3, e4⟩ := a2 a (by omega) (by omega)
    obtain ⟨r1, r2, r3, -⟩ := hm.1.2.1 a ha'
    simp only [mrw]
    rw [if_pos (by omega), if_pos (by omega), if_pos (by omega), if_pos (by omega), if_pos (by omega), b3' _ (by omega), b3' _ (by omega), b3' _ (by omega), b3' _ (by omega), b3' _ (by omega), e0, e1, e2, e3, e4, r1, r2, r3]
    exact ⟨rfl, rfl, rfl, rfl, rfl⟩
  · obtain ⟨e0, e1, e2⟩ := b2' b (by omega) (by omega)
    obtain ⟨r1, r2, -⟩ := hm.1.2.2.1 b hb
    obtain ⟨k1, k2⟩ := ha.2.2.1 b hb
    simp only [mrw]
    rw [if_pos (by omega), if_pos (by omega), if_pos (by omega), if_neg (by omega), if_pos (by omega), if_neg (by omega), if_neg (by omega), show 123 + b - 123 = b by omega, show 127 + b - 127 = b by omega, e0, e1, e2, a4 133 (by omega), r2, f 130 (by omega), f 131 (by omega), hm.2.1.2.1 b (by omega), hm.2.1.2.2 b (by omega), k1, k2]
    exact ⟨rfl, rfl, rfl, rfl, rfl⟩
end OP
