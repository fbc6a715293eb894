/-! CALLS, 11: picks and the time -/
/-- tape, time, what lies and picks anew -/
def zset (Z : AX) (N : Nat) (T : Nat → Nat) (M : Nat) (l : List Int32) (pn : Nat) (pk : Nat → Nat → Int32) : AX := ((N, T, Z.1.2.2), M, l, (pn, pk), Z.2.2.2.2)
/-- the cells of which that speaks -/
def zce (c : Nat) : Prop := c = 0 ∨ c = 1 ∨ (83 ≤ c ∧ c ≤ 89) ∨ c = 102 ∨ c = 103 ∨ c = 149 ∨ (151 ≤ c ∧ c ≤ 155)
/-- of the picks: what holds of all -/
def pko (D : TD) (pn : Nat) (pk : Nat → Nat → Int32) : Prop := pn ≤ 30 ∧ ∀ i, i < pn → (∃ b, b < nB D ∧ pk 0 i = Int32.ofNat b) ∧ (∃ s, s < 2 ^ nA D ∧ pk 1 i = Int32.ofNat s) ∧ (∃ a, a < nA D ∧ pk 2 i = Int32.ofNat a) ∧ (∃ u, u ≤ 100000 ∧ pk 3 i = Int32.ofNat u) ∧ (pk 4 i = -1 ∨ ∃ u, u ≤ 100000 ∧ pk 4 i = Int32.ofNat u)
section IN
variable {t : Nat} {I I' I'' : MI} {L : ML} {R : MR} {S : MS} {D : TD} {C : TC} {P : PR} {Z : AX}
theorem INV.mod (h : INV t I L R S D C P Z) {N : Nat} {T : Nat → Nat} {M : Nat} {l : List Int32} {pn : Nat} {pk : Nat → Nat → Int32} (f1 : ∀ c, ¬ zce c → I' c = I c) (f2 : ∀ j, j ≠ 1 → j ≠ 68 → j ≠ 69 → j ≠ 80 → j ≠ 85 → j ≠ 91 → j ≠ 92 → I' 102 j = I 102 j) (hN : N ≤ 1600 ∧ ∀ i, i < N → T i < 256) (hM : M ≤ 100000) (hl : l.length ≤ 36) (hp : pko D pn pk) (n1 : I' 0 1 = Int32.ofNat N ∧ ∀ i, i < N → I' 1 i = sx8 (T i)) (n2 : I' 0 12 = Int32.ofNat M) (n3 : Ly 0 89 14 I' l) (n4 : I' 83 6 = Int32.ofNat pn ∧ ∀ i j, i < pn → j < 5 → I' (84 + j) i = pk j i) (m1 : I' 102 1 = Int32.ofNat N ∧ ∀ i, i < N → I' 103 i = Int32.ofNat (T i)) (m2 : I' 102 92 = Int32.ofNat M) (m3 : Ly 102 149 85 I' l) (m4 : I' 102 91 = Int32.ofNat pn ∧ ∀ i j, i < pn → j < 5 → I' (151 + j) i = pk j i) : INV t I' L R S D C P (zset Z N T M l pn pk) := by
  obtain ⟨hS, hc, hm, ha, hw⟩ := h
  have ht := hS.2.2.2.1
  have f : ∀ c, ((2 ≤ c ∧ c < 83) ∨ (90 ≤ c ∧ c < 102) ∨ 158 ≤ c ∨ (104 ≤ c ∧ c < 149) ∨ c = 156 ∨ c = 157) → I' c = I c := fun c hc => f1 c (by unfold zce; omega)
  refine ⟨hS, ?_, ?_, ⟨ha.1, ha.2.1, ha.2.2.1, hN, hM, hl, hp, ha.2.2.2.2.2.2.2⟩, hw.1, hw.2.c (f 106 (by omega))⟩
  · obtain ⟨g1, g2, g3, g4, g5, g6, g7, g8, g9, g10⟩ := hc
    have fd : ∀ c i q d, (c = 60 ∨ c = 61) → dyn c i → R c i = some q → q ≤ d → d ≤ q + 11 → I' d = I d := fun c i q d r1 r2 r3 r4 r5 => by
      have := hS.q90 r2 r3
      exact f d (by omega)
    have e : ∀ j, j ≤ 16 → I' (t + j) = I (t + j) := fun j hj => f _ (by rcases ht with h | h <;> omega)
    have e0 : I' t = I t := e 0 (by omega)
    obtain ⟨k1, k2, k3, k4, k5⟩ := g1
    have hc : ∀ s c, Cd I t s c → Cd I' t s c := by
      intro s c ⟨st, g1, g2, g3, g4⟩
      exact ⟨st, by rw [e 15 (by omega)]; exact g1, by rw [e 16 (by omega)]; exact g2, g3, fun i h => by rw [e 14 (by omega)]; exact g4 i h⟩
    refine ⟨⟨by rw [e0]; exact k1, fun j a j1 j2 ha => by rw [e j (by omega)]; exact k2 j a j1 j2 ha, fun j b j1 j2 hb => by rw [e j (by omega)]; exact k3 j b j1 j2 hb, fun s hs => hc _ _ (k4 s hs), fun r hr => hc _ _ (k5 r hr)⟩, g2.fr (fun c r1 r2 => f c (by omega)), n1, by rw [f 20 (by omega)]; exact g4, n2, n3, n4, ?_, ?_, by rw [e 13 (by omega)]; exact g10⟩
    · obtain ⟨od, r1, r2, r3, r4, r5⟩ := g8
      refine ⟨od, r1, by rw [f 59 (by omega)]; exact r2, by rw [f 59 (by omega)]; exact r3, by rw [f 59 (by omega)]; exact r4, fun i hi => ?_⟩
      obtain ⟨q, q1, q2⟩ := r5 i hi
      exact ⟨q, q1, q2.fr (fun c s1 s2 => fd 60 _ q c (Or.inl rfl) (Or.inl ⟨rfl, Nat.mod_lt _ (by omega)⟩) q1 s1 s2)⟩
    · intro b hb
      rcases g9 b hb with ⟨r1, r2⟩ | ⟨Q, q, r1, r2, r3, r4⟩
      · exact Or.inl ⟨r1, by rw [f 62 (by omega)]; exact r2⟩
      · exact Or.inr ⟨Q, q, r1, by rw [f 62 (by omega)]; exact r2, r3, r4.fr (fun c s1 s2 => fd 61 b q c (Or.inr rfl) (Or.inr (Or.inl ⟨rfl, hb⟩)) r3 s1 s2)⟩
  · obtain ⟨g1, g2, g3, g4, g5, g6, g7, g8, g9, g10⟩ := hm
    have f3 : ∀ j, (j = 2 ∨ j = 3 ∨ j = 21 ∨ (56 ≤ j ∧ j ≤ 65) ∨ j = 71 ∨ j = 72) → I' 102 j = I 102 j := fun j hj => f2 j (by omega) (by omega) (by omega) (by omega) (by omega) (by omega) (by omega)
    obtain ⟨⟨a1, a2, a3, a4, a5, a6⟩, b2, b3, b4, b5⟩ := g1
    refine ⟨⟨⟨?_, ?_, ?_, ?_, ?_, ?_⟩, fun a ha => ?_, fun b hb => ?_, fun s hs => ?_, fun r hr => ?_⟩, ⟨fun k hk => by rw [f 138 (by omega)]; exact g2.1 k hk, fun b hb => by rw [f 130 (by omega)]; exact g2.2.1 b hb, fun b hb => by rw [f 131 (by omega)]; exact g2.2.2 b hb⟩, m1, by rw [f3 2 (by omega), f3 3 (by omega)]; exact g4, m2, m3, m4, ⟨by rw [f3 71 (by omega)]; exact g8.1, by rw [f3 72 (by omega)]; exact g8.2.1, fun i k hi hk => by rw [f 139 (by omega)]; exact g8.2.2.1 i k hi hk, fun i k hi hi2 hk => by rw [f 139 (by omega)]; exact g8.2.2.2 i k hi hi2 hk⟩, fun b hb => by rw [f 156 (by omega), f 157 (by omega)]; exact g9 b hb, by rw [f3 21 (by omega)]; exact g10⟩
    · rw [f3 56 (by omega)]; exact a1
    · rw [f3 57 (by omega)]; exact a2
    · rw [f3 65 (by omega)]; exact a3
    · rw [f3 60 (by omega)]; exact a4
    · rw [f3 61 (by omega)]; exact a5
    · rw [f3 59 (by omega)]; exact a6
    · simp (disch := omega) only [f]; exact b2 a ha
    · simp (disch := omega) only [f]; exact b3 b hb
    · rw [f3 58 (by omega)]
      rcases b4 s hs with ⟨g1, g2⟩ | g
      · exact Or.inl ⟨g1, g2.fr (by simp (disch := omega) only [f]) (by simp (disch := omega) only [f]) (by simp (disch := omega) only [f])⟩
      · exact Or.inr g
    · exact (b5 r hr).fr (by simp (disch := omega) only [f]) (by simp (disch := omega) only [f]) (by simp (disch := omega) only [f])
end IN
section OP
variable {t : Nat} {I : MI} {L : ML} {R : MR} {S : MS} {D : TD} {C : TC} {P : PR} {Z : AX}
theorem op_later (h : INV t I L R S D C P Z) (p : Int32) : ∃ r I1 I2 Z', x10_later p I = some (r, I1) ∧ x11_later p I1 = some (r, I2) ∧ INV t I2 L R S D C P Z' := by
  have hD := h.2.2.2.1.1
  obtain ⟨hS, hc, hm, ha, hw⟩ := id h
  have c5 := hc.2.2.2.2.1
  have m5 := hm.2.2.2.2.1
  have hM := ha.2.2.2.2.1
  by_cases h0 : p < 0
  · refine ⟨-1, I, I, Z, ?_, ?_, h⟩
    · simp only [x10_later, if_pos h0]
    · simp only [x11_later, if_pos h0]
  · by_cases h1 : (1000 : Int32) < p
    · refine ⟨-1, I, I, Z, ?_, ?_, h⟩
      · simp only [x10_later, if_neg h0, if_pos h1]
      · simp only [x11_later, if_neg h0, if_pos h1]
    · have hk : isu p 1000 = true := by rw [isu_c (by omega)]; exact fun g => g.elim h0 h1
      obtain ⟨k, hk', rfl⟩ := isn_t (by omega) hk
      have hx : ¬ 1000 < k := by omega
      by_cases h2 : 100000 < zM Z + k
      · refine ⟨-1, I, I, Z, ?_, ?_, h⟩
        · simp (disch := omega) only [x10_later, c5, QN, hx, h2, if_true, if_false]
        · simp (disch := omega) only [x11_later, m5, QN, hx, h2, if_true, if_false]
      · have e1 : x10_later (Int32.ofNat k) I = some (Int32.ofNat (zM Z + k), wI I 0 12 (Int32.ofNat (zM Z + k))) := by
          simp (disch := omega) only [x10_later, c5, QN, QB, hx, h2, if_false, wI_at]
        have e2 : x11_later (Int32.ofNat k) (wI I 0 12 (Int32.ofNat (zM Z + k))) = some (Int32.ofNat (zM Z + k), wI (wI I 0 12 (Int32.ofNat (zM Z + k))) 102 92 (Int32.ofNat (zM Z + k))) := by
          have : wI I 0 12 (Int32.ofNat (zM Z + k)) 102 92 = Int32.ofNat (zM Z) := by rw [wI_c (by omega)]; exact m5
          simp (disch := omega) only [x11_later, this, QN, QB, hx, h2, if_false, wI_at]
        refine ⟨Int32.ofNat (zM Z + k), _, _, zset Z (zN Z) (zT Z) (zM Z + k) (zL' Z) (zP Z) (zK Z), e1, e2, h.mod ?_ ?_ ha.2.2.2.1 (by omega) ha.2.2.2.2.2.1 ha.2.2.2.2.2.2.1 ?_ ?_ ?_ ?_ ?_ ?_ ?_ ?_⟩
        · intro c hc; rw [wI_c (by unfold zce at hc; omega), wI_c (by unfold zce at hc; omega)]
        · intro j _ _ _ _ _ _ _; rw [wI_ne (by omega), wI_ne (by omega)]
        · refine ⟨?_, fun i hi => ?_⟩
          · rw [wI_ne (by omega), wI_ne (by omega)]; exact hc.2.2.1.1
          · rw [wI_ne (by omega), wI_ne (by omega)]; exact hc.2.2.1.2 i hi
        · rw [wI_ne (by omega), wI_at]
        · refine ⟨?_, fun i hi => ?_⟩
          · rw [wI_ne (by omega), wI_ne (by omega)]; exact hc.2.2.2.2.2.1.1
          · rw [wI_ne (by omega), wI_ne (by omega)]; exact hc.2.2.2.2.2.1.2 i hi
        · refine ⟨?_, fun i j hi hj => ?_⟩
          · rw [wI_ne (by omega), wI_ne (by omega)]; exact hc.2.2.2.2.2.2.1.1
          · rw [wI_ne (by omega), wI_ne (by omega)]; exact hc.2.2.2.2.2.2.1.2 i j hi hj
        · refine ⟨?_, fun i hi => ?_⟩
          · rw [wI_ne (by omega), wI_ne (by omega)]; exact hm.2.2.1.1
          · rw [wI_ne (by omega), wI_ne (by omega)]; exact hm.2.2.1.2 i hi
        · rw [wI_at]
        · refine ⟨?_, fun i hi => ?_⟩
          · rw [wI_ne (by omega), wI_ne (by omega)]; exact hm.2.2.2.2.2.1.1
          · rw [wI_ne (by omega), wI_ne (by omega)]; exact hm.2.2.2.2.2.1.2 i hi
        · refine ⟨?_, fun i j hi hj => ?_⟩
          · rw [wI_ne (by omega), wI_ne (by omega)]; exact hm.2.2.2.2.2.2.1.1
          · rw [wI_ne (by omega), wI_ne (by omega)]; exact hm.2.2.2.2.2.2.1.2 i j hi hj
end OP
