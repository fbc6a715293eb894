/-! CALLS, 24: what was -/
def zhi (Z : AX) (B A : Nat) (H : Nat → PR) : AX := (Z.1, Z.2.1, Z.2.2.1, Z.2.2.2.1, (B, A, H), Z.2.2.2.2.2)
section IN
variable {t : Nat} {I I' I2 : MI} {L L' : ML} {R R' : MR} {S S' : MS} {D : TD} {C : TC} {P P' : PR} {Z : AX}
theorem SK.trans' {P Q Q' : PR} (h : SK P Q) (k : SK P Q') : SK Q Q' := fun i h1 h2 => by rw [k i h1 h2, h i h1 h2]
theorem INV.hist (h : INV t I L R S D C P Z) {B A : Nat} {H : Nat → PR} (hP : OkP D P') (hk : SK P P') (hBA : B + A ≤ 40) (hH : ∀ i, i ≤ B + A → OkP D (H i) ∧ SK P (H i)) (hHB : ∀ k, H B k = P' k) (f1 : ∀ c, (c < 47 ∨ (59 < c ∧ c < 90) ∨ (102 < c ∧ c < 137) ∨ (139 < c ∧ c < 158)) → I2 c = I c) (f61 : ∀ b q d, b < 3 → R 61 b = some q → q ≤ d → d ≤ q + 11 → I2 d = I d) (f102 : ∀ j, j ≠ 68 → j ≠ 69 → j ≠ 71 → j ≠ 72 → j ≠ 80 → I2 102 j = I 102 j) (n1 : Rl D true I2 47 P') (n2 : CH D I2 R (zhi Z B A H)) (m1 : Nw I2 P') (m2 : I2 102 71 = Int32.ofNat B ∧ I2 102 72 = Int32.ofNat A ∧ (∀ i k, i < B → k < 123 → I2 139 (128 * i + k) = H i k) ∧ (∀ i k, B ≤ i → i < B + A → k < 123 → I2 139 (128 * i + k) = H (i + 1) k)) : INV t I2 L R S D C P' (zhi Z B A H) := by
  obtain ⟨hS, hc, hm, ha, hw⟩ := h
  have ht := hS.2.2.2.1
  have hB4 := ha.1.b
  refine ⟨hS, ?_, ?_, ⟨ha.1, hP, fun b hb => ?_, ha.2.2.2.1, ha.2.2.2.2.1, ha.2.2.2.2.2.1, ha.2.2.2.2.2.2.1, ⟨hBA, fun i hi => ⟨(hH i hi).1, hk.trans' (hH i hi).2⟩, hHB⟩, fun j Q hj hQ => ⟨(ha.2.2.2.2.2.2.2.2 j Q hj hQ).1, hk.trans' (ha.2.2.2.2.2.2.2.2 j Q hj hQ).2⟩⟩, hw.1, hw.2.c (f1 106 (by omega))⟩
  · obtain ⟨g1, g2, g3, g4, g5, g6, g7, g8, g9, g10⟩ := hc
    have e : ∀ j, j ≤ 16 → I2 (t + j) = I (t + j) := fun j hj => f1 _ (by rcases ht with h | h <;> omega)
    have e0 : I2 t = I t := e 0 (by omega)
    obtain ⟨k1, k2, k3, k4, k5⟩ := g1
    have hc : ∀ s c, Cd I t s c → Cd I2 t s c := by
      intro s c ⟨st, g1, g2, g3, g4⟩
      exact ⟨st, by rw [e 15 (by omega)]; exact g1, by rw [e 16 (by omega)]; exact g2, g3, fun i h => by rw [e 14 (by omega)]; exact g4 i h⟩
    refine ⟨⟨by rw [e0]; exact k1, fun j a j1 j2 ha => by rw [e j (by omega)]; exact k2 j a j1 j2 ha, fun j b j1 j2 hb => by rw [e j (by omega)]; exact k3 j b j1 j2 hb, fun s hs => hc _ _ (k4 s hs), fun r hr => hc _ _ (k5 r hr)⟩, n1, ⟨by rw [f1 0 (by omega)]; exact g3.1, fun i hi => by rw [f1 1 (by omega)]; exact g3.2 i hi⟩, by rw [f1 20 (by omega)]; exact g4, by rw [f1 0 (by omega)]; exact g5, ⟨by rw [f1 0 (by omega)]; exact g6.1, fun i hi => by rw [f1 89 (by omega)]; exact g6.2 i hi⟩, ⟨by rw [f1 83 (by omega)]; exact g7.1, fun i j hi hj => by rw [f1 _ (by omega)]; exact g7.2 i j hi hj⟩, n2, fun j hj => ?_, by rw [e 13 (by omega)]; exact g10⟩
    rcases g9 j hj with ⟨r1, r2⟩ | ⟨Q, q', r1, r2, r3, r4⟩
    · exact Or.inl ⟨r1, by rw [f1 62 (by omega)]; exact r2⟩
    · exact Or.inr ⟨Q, q', r1, by rw [f1 62 (by omega)]; exact r2, r3, r4.fr (fun c s1 s2 => f61 j q' c hj r3 s1 s2)⟩
  · obtain ⟨g1, g2, g3, g4, g5, g6, g7, g8, g9, g10⟩ := hm
    obtain ⟨⟨a1, a2, a3, a4, a5, a6⟩, b2, b3, b4, b5⟩ := g1
    have f3 : ∀ j, (j = 1 ∨ j = 2 ∨ j = 3 ∨ j = 21 ∨ (56 ≤ j ∧ j ≤ 65) ∨ (85 ≤ j ∧ j ≤ 92)) → I2 102 j = I 102 j := fun j hj => f102 j (by omega) (by omega) (by omega) (by omega) (by omega)
    refine ⟨⟨⟨by rw [f3 56 (by omega)]; exact a1, by rw [f3 57 (by omega)]; exact a2, by rw [f3 65 (by omega)]; exact a3, by rw [f3 60 (by omega)]; exact a4, by rw [f3 61 (by omega)]; exact a5, by rw [f3 59 (by omega)]; exact a6⟩, fun a ha => ?_, fun b hb => ?_, fun s hs => ?_, fun r hr => ?_⟩, m1, ⟨by rw [f3 1 (by omega)]; exact g3.1, fun i hi => by rw [f1 103 (by omega)]; exact g3.2 i hi⟩, by rw [f3 2 (by omega), f3 3 (by omega)]; exact g4, by rw [f3 92 (by omega)]; exact g5, ⟨by rw [f3 85 (by omega)]; exact g6.1, fun i hi => by rw [f1 149 (by omega)]; exact g6.2 i hi⟩, ⟨by rw [f3 91 (by omega)]; exact g7.1, fun i j hi hj => by rw [f1 _ (by omega)]; exact g7.2 i j hi hj⟩, m2, fun j hj => by rw [f1 156 (by omega), f1 157 (by omega)]; exact g9 j hj, by rw [f3 21 (by omega)]; exact g10⟩
    · simp (disch := omega) only [f1]; exact b2 a ha
    · simp (disch := omega) only [f1]; exact b3 b hb
    · rw [f3 58 (by omega)]
      rcases b4 s hs with ⟨g1, g2⟩ | g
      · exact Or.inl ⟨g1, g2.fr (by simp (disch := omega) only [f1]) (by simp (disch := omega) only [f1]) (by simp (disch := omega) only [f1])⟩
      · exact Or.inr g
    · exact (b5 r hr).fr (by simp (disch := omega) only [f1]) (by simp (disch := omega) only [f1]) (by simp (disch := omega) only [f1])
  · obtain ⟨k1, k2⟩ := ha.2.2.1 b hb
    rw [hk (123 + b) (by omega) (by omega), hk (127 + b) (by omega) (by omega)]
    exact ⟨k1, k2⟩
theorem m_exL {d : Nat} (hd : d < 40) : ∀ (j w n : Nat) (I : MI), w + j = 123 → j < n → ∃ I', x11_exchange_L2 (Int32.ofNat (128 * d)) n (Int32.ofNat w) I = some I' ∧ (∀ k, w ≤ k → k < 123 → I' 138 k = I 139 (128 * d + k) ∧ I' 139 (128 * d + k) = I 138 k) ∧ (∀ i, (∀ k, w ≤ k → k < 123 → i ≠ k) → I' 138 i = I 138 i) ∧ (∀ i, (∀ k, w ≤ k → k < 123 → i ≠ 128 * d + k) → I' 139 i = I 139 i) ∧ ∀ c, c ≠ 138 → c ≠ 139 → I' c = I c := by
  intro j
  induction j with
  | zero =>
    intro w n I hw hn
    obtain ⟨n, rfl⟩ : ∃ n', n = n' + 1 := ⟨n - 1, by omega⟩
    refine ⟨I, ?_, fun k h1 h2 => by omega, fun _ _ => rfl, fun _ _ => rfl, fun _ _ _ => rfl⟩
    simp (disch := omega) only [x11_exchange_L2, x11_exchange_L2s, QN]
    rw [if_neg (by omega)]
  | succ j ih =>
    intro w n I hw hn
    obtain ⟨n, rfl⟩ : ∃ n', n = n' + 1 := ⟨n - 1, by omega⟩
    obtain ⟨I', h1, h2, h3, h5, h4⟩ := ih (w + 1) n (wI (wI I 139 (128 * d + w) (I 138 w)) 138 w (I 139 (128 * d + w))) (by omega) (by omega)
    refine ⟨I', ?_, fun k g1 g2 => ?_, fun i hi => ?_, fun i hi => ?_, fun c hc hc2 => by rw [h4 c hc hc2, wI_c hc, wI_c hc2]⟩
    · simp (disch := omega) only [x11_exchange_L2, x11_exchange_L2s, QN, QB, if_pos (show w < 123 by omega)]
      exact h1
    · by_cases e : k = w
      · subst e
        refine ⟨?_, ?_⟩
        · rw [h3 _ (fun k' a b => by omega), wI_at]
        · rw [h5 _ (fun k' a b => by omega), wI_c (by omega), wI_at]
      · obtain ⟨x1, x2⟩ := h2 k (by omega) g2
        rw [x1, x2, wI_c (by omega), wI_ne (by omega), wI_ne (by omega), wI_c (by omega)]
        exact ⟨rfl, rfl⟩
    · rw [h3 i (fun k a b => hi k (by omega) b), wI_ne (Or.inr (hi w (Nat.le_refl _) (by omega))), wI_c (by omega)]
    · rw [h5 i (fun k a b => hi k (by omega) b), wI_c (by omega), wI_ne (Or.inr (hi w (Nat.le_refl _) (by omega)))]
theorem m_ex {d : Nat} (hd : d < 40) (I : MI) : ∃ I', x11_exchange (Int32.ofNat (128 * d)) I = some I' ∧ (∀ k, k < 123 → I' 138 k = I 139 (128 * d + k) ∧ I' 139 (128 * d + k) = I 138 k) ∧ (∀ i, (∀ k, k < 123 → i ≠ 128 * d + k) → I' 139 i = I 139 i) ∧ ∀ c, c ≠ 138 → c ≠ 139 → I' c = I c := by
  obtain ⟨I', h1, h2, -, h4, h5⟩ := m_exL hd 123 0 FU I (by omega) (by unfold FU; omega)
  rw [show Int32.ofNat 0 = 0 from rfl] at h1
  exact ⟨I', by simp only [x11_exchange, QB, h1], fun k hk => h2 k (by omega) hk, fun i hi => h4 i (fun k _ hk => hi k hk), h5⟩
end IN
