/-! THE TEXT: lines: an apple told -/
section LNX
variable {T : Nat → Nat} {N t b q U k n r : Nat} {C : TC} {D D' : TD} {ws : Nat → Nat → List Nat} {I I' I'' : MI} {L L' L'' : ML} {J J' J'' : MI} {M M' M'' : ML}
theorem OkD.ap (h : OkD D C) (hn : nA D = n) (hn10 : n < 10) (hD : ∀ j a, ¬ (j = 0 ∧ a = 4) → ¬ (1 ≤ j ∧ j ≤ 6 ∧ a = n) → D' j a = D j a) (e : D' 0 4 = Int32.ofNat (n + 1)) (v1 : ∃ x, x < nW D ∧ D' 1 n = Int32.ofNat x) (v2 : ∃ x, x < nH D ∧ D' 2 n = Int32.ofNat x) (v3 : ∃ x, 1 ≤ x ∧ x ≤ 99 ∧ D' 3 n = Int32.ofNat x) (v4 : ∃ x, x ≤ 9 ∧ D' 4 n = Int32.ofNat x) (v5 : D' 5 n = 0 ∨ D' 5 n = 1) (v6 : ∃ x, x ≤ 99 ∧ D' 6 n = Int32.ofNat x) (hf : ∀ a, a < n → ¬ (D 1 a = D' 1 n ∧ D 2 a = D' 2 n)) : OkD D' C ∧ nA D' = n + 1 := by
  have eW : nW D' = nW D := by simp only [nW, hD 0 0 (by omega) (by omega)]
  have eH : nH D' = nH D := by simp only [nH, hD 0 1 (by omega) (by omega)]
  have eA : nA D' = n + 1 := by rw [nA, e, q_ix (by omega)]
  have eB : nB D' = nB D := by simp only [nB, hD 0 11 (by omega) (by omega)]
  have eR : nR D' = nR D := by simp only [nR, hD 0 18 (by omega) (by omega)]
  obtain ⟨⟨h1, h2⟩, ⟨h3, h4, h5⟩, h6, h7, h8, h9, h10, h11⟩ := h
  refine ⟨⟨⟨by rw [eW, hD 0 0 (by omega) (by omega)]; exact h1, by rw [eH, hD 0 1 (by omega) (by omega)]; exact h2⟩, ⟨by rw [eA]; exact ⟨e, by omega⟩, by rw [eB, hD 0 11 (by omega) (by omega)]; exact h4, by rw [eR, hD 0 18 (by omega) (by omega)]; exact h5⟩, fun a ha => ?_, fun a c ha hc => ?_, fun b hb => ?_, by rw [hD 0 3 (by omega) (by omega)]; exact h9, h10, fun r hr => h11 r (by rw [← eR]; exact hr)⟩, eA⟩
  · rw [eW, eH]
    by_cases ea : a = n
    · subst ea
      exact ⟨v1, v2, v3, v4, v5, v6⟩
    · rw [hD 1 a (by omega) (by omega), hD 2 a (by omega) (by omega), hD 3 a (by omega) (by omega), hD 4 a (by omega) (by omega), hD 5 a (by omega) (by omega), hD 6 a (by omega) (by omega)]
      exact h6 a (by omega)
  · by_cases ea : a = n
    · by_cases ec : c = n
      · intro _ _; omega
      · intro g1 g2
        rw [ea, hD 1 c (by omega) (by omega)] at g1
        rw [ea, hD 2 c (by omega) (by omega)] at g2
        exact absurd ⟨g1.symm, g2.symm⟩ (hf c (by omega))
    · by_cases ec : c = n
      · intro g1 g2
        rw [ec, hD 1 a (by omega) (by omega)] at g1
        rw [ec, hD 2 a (by omega) (by omega)] at g2
        exact absurd ⟨g1, g2⟩ (hf a (by omega))
      · rw [hD 1 a (by omega) (by omega), hD 2 a (by omega) (by omega), hD 1 c (by omega) (by omega), hD 2 c (by omega) (by omega)]
        exact h7 a c (by omega) (by omega)
  · rw [eW, eH, eR, hD 7 b (by omega) (by omega), hD 8 b (by omega) (by omega), hD 9 b (by omega) (by omega), hD 10 b (by omega) (by omega), hD 11 b (by omega) (by omega), hD 12 b (by omega) (by omega)]
    exact h8 b (by rw [← eB]; exact hb)
/-- an apple told -/
theorem LK.ap (ht : t = 2 ∨ t = 28) (h : LK t b k C ws I L J M) (hn : nA (OD t I) = n) (hn10 : n < 10) (h1 : ∀ x, (t + 7 ≤ x ∧ x ≤ t + 12) ∨ (t + 14 ≤ x ∧ x ≤ t + 16) → I' x = I x) (h7 : ∀ j a, 1 ≤ j → j ≤ 6 → a ≠ n → I' (t + j) a = I (t + j) a) (h0 : ∀ j, j ≠ 4 → I' t j = I t j) (e : I' t 4 = Int32.ofNat (n + 1)) (h20 : I' 20 5 = I 20 5 ∧ I' 20 6 = I 20 6)
    (v1 : ∃ x, x < nW (OD t I) ∧ I' (t + 1) n = Int32.ofNat x ∧ J' 115 n = Int32.ofNat x) (v2 : ∃ x, x < nH (OD t I) ∧ I' (t + 2) n = Int32.ofNat x ∧ J' 116 n = Int32.ofNat x) (v3 : ∃ x, 1 ≤ x ∧ x ≤ 99 ∧ I' (t + 3) n = Int32.ofNat x ∧ J' 113 n = Int32.ofNat x) (v4 : ∃ x, x ≤ 9 ∧ I' (t + 4) n = Int32.ofNat x ∧ J' 114 n = Int32.ofNat x) (v5 : (I' (t + 5) n = 0 ∨ I' (t + 5) n = 1) ∧ J' 124 n = I' (t + 5) n) (v6 : ∃ x, x ≤ 99 ∧ I' (t + 6) n = Int32.ofNat x ∧ J' 117 n = Int32.ofNat x)
    (hf : ∀ a, a < n → ¬ (I (t + 1) a = I' (t + 1) n ∧ I (t + 2) a = I' (t + 2) n))
    (j1 : ∀ x, (104 ≤ x ∧ x ≤ 106) ∨ (118 ≤ x ∧ x ≤ 123) → J' x = J x) (j2 : ∀ x a, ((113 ≤ x ∧ x ≤ 117) ∨ x = 124) → a ≠ n → J' x a = J x a) (j3 : ∀ j, 49 ≤ j → j ≤ 64 → j ≠ 53 → J' 102 j = J 102 j) (j4 : J' 102 53 = Int32.ofNat (n + 1)) (l1 : L' 24 = L 24 ∧ L' 26 = L 26) {w' : Nat → List Nat} (hN : Nm 25 6 (n + 1) w' L' M') (m1 : ∀ i, i ≠ 6 + n → M' 112 i = M 112 i) : LK t b k C (fun i => if i = 1 then w' else ws i) I' L' J' M' := by
  have hD : ∀ j a, ¬ (j = 0 ∧ a = 4) → ¬ (1 ≤ j ∧ j ≤ 6 ∧ a = n) → OD t I' j a = OD t I j a := by
    intro j a hja hjb
    simp only [OD]
    split
    · by_cases e : j = 0
      · subst e; exact h0 a (by omega)
      · by_cases e7 : j ≤ 6
        · exact h7 j a (by omega) e7 (by omega)
        · rw [h1 (t + j) (by omega)]
    · rfl
  have eW : nW (OD t I') = nW (OD t I) := by simp only [nW, hD 0 0 (by omega) (by omega)]
  have eH : nH (OD t I') = nH (OD t I) := by simp only [nH, hD 0 1 (by omega) (by omega)]
  have eB : nB (OD t I') = nB (OD t I) := by simp only [nB, hD 0 11 (by omega) (by omega)]
  have eR : nR (OD t I') = nR (OD t I) := by simp only [nR, hD 0 18 (by omega) (by omega)]
  obtain ⟨k1, k2, k3, k4, k5, k6, k7, k8, k9⟩ := h
  obtain ⟨x1, a1, b1', c1⟩ := v1
  obtain ⟨x2, a2, b2', c2⟩ := v2
  obtain ⟨x3, a3, a3', b3', c3⟩ := v3
  obtain ⟨x4, a4, b4', c4⟩ := v4
  obtain ⟨x6, a6, b6', c6⟩ := v6
  obtain ⟨o1, eA⟩ := k1.1.ap hn hn10 hD e ⟨x1, a1, b1'⟩ ⟨x2, a2, b2'⟩ ⟨x3, a3, a3', b3'⟩ ⟨x4, a4, b4'⟩ v5.1 ⟨x6, a6, b6'⟩ hf
  have hB : ∀ {i c0}, CdB I t b i c0 → CdB I' t b i c0 := fun ⟨st, g1, g2, g3, g4⟩ => ⟨st, by rw [h1 (t + 15) (by omega)]; exact g1, by rw [h1 (t + 16) (by omega)]; exact g2, g3, fun i hi => by rw [h1 (t + 14) (by omega)]; exact g4 i hi⟩
  have hA : ∀ {c0 i}, CdA c0 i J → CdA c0 i J' := fun g => g.c (j1 104 (by omega)) (j1 105 (by omega)) (j1 106 (by omega))
  have hn6 := k1.1.2.1.2.2.2
  have hn4 := k1.1.2.1.2.1.2
  rw [LK, eW, eH, eA, eB, eR]
  refine ⟨⟨o1, k1.2.1, by rw [h0 2 (by omega)]; exact k1.2.2⟩, ?_, fun a ha => ?_, fun a ha => ?_, ⟨k5.1, by rw [j3 51 (by omega) (by omega) (by omega)]; exact k5.2⟩, fun i hi => ?_, fun r hr => ⟨hB (k7 r hr).1, hA (k7 r hr).2.1, (k7 r hr).2.2⟩, ⟨⟨fun i hi => ?_, k8.1.2⟩, hN, ⟨fun i hi => ?_, k8.2.2.2⟩⟩, by rw [j3 62 (by omega) (by omega) (by omega), j3 63 (by omega) (by omega) (by omega), h20.1, h20.2]; exact k9⟩
  · rw [j3 49 (by omega) (by omega) (by omega), j3 50 (by omega) (by omega) (by omega), j3 52 (by omega) (by omega) (by omega), j3 54 (by omega) (by omega) (by omega), j3 55 (by omega) (by omega) (by omega), j3 64 (by omega) (by omega) (by omega), h0 0 (by omega), h0 1 (by omega), h0 18 (by omega), h0 11 (by omega), h0 2 (by omega), h0 3 (by omega), e, j4]
    exact ⟨k2.1, k2.2.1, k2.2.2.1, rfl, k2.2.2.2.2⟩
  · by_cases ea : a = n
    · subst ea
      exact ⟨by rw [b1', c1], by rw [b2', c2], by rw [b3', c3], by rw [b4', c4], v5.2, by rw [b6', c6]⟩
    · rw [j2 115 a (by omega) ea, j2 116 a (by omega) ea, j2 113 a (by omega) ea, j2 114 a (by omega) ea, j2 124 a (by omega) ea, j2 117 a (by omega) ea, h7 1 a (by omega) (by omega) ea, h7 2 a (by omega) (by omega) ea, h7 3 a (by omega) (by omega) ea, h7 4 a (by omega) (by omega) ea, h7 5 a (by omega) (by omega) ea, h7 6 a (by omega) (by omega) ea]
      exact k3 a (by omega)
  · rw [j1 118 (by omega), j1 119 (by omega), j1 120 (by omega), j1 121 (by omega), j1 122 (by omega), j1 123 (by omega), h1 (t + 7) (by omega), h1 (t + 8) (by omega), h1 (t + 9) (by omega), h1 (t + 10) (by omega), h1 (t + 11) (by omega), h1 (t + 12) (by omega)]; exact k4 a ha
  · refine ⟨hB (k6 i hi).1, ?_⟩
    rw [h1 (t + 15) (by omega)]
    rcases (k6 i hi).2 with ⟨m1, m2, m3, m4⟩ | m
    · exact Or.inl ⟨m1, hA m2, m3, m4⟩
    · exact Or.inr m
  · simp only [if_neg (show ¬ (0 : Nat) = 1 by omega)]
    rw [l1.1, m1 (0 + i) (by omega)]; exact k8.1.1 i hi
  · simp only [if_neg (show ¬ (2 : Nat) = 1 by omega)]
    rw [l1.2, m1 (16 + i) (by omega)]; exact k8.2.2.1 i hi
end LNX
