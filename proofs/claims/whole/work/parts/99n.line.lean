/-! THE TEXT: lines: bobber, the class's stages and what is told -/
noncomputable def cb6 (r : Nat) (v1 v10 v15 v20 v25 v30 : Int32) (I : MI) (L : ML) : Option (Int32 × MI × ML) :=
if v30 = (-1) then (
some ((0 : Int32), I, L)) else
ck (vp_in v1 4) <|
lt (wI I (r + 7) (ix v1) v10) fun I31 =>
ck (vp_in v1 4) <|
lt (wI I31 (r + 8) (ix v1) v15) fun I33 =>
ck (vp_in v1 4) <|
lt (wI I33 (r + 9) (ix v1) v20) fun I35 =>
ck (vp_in v1 4) <|
lt (wI I35 (r + 10) (ix v1) v25) fun I37 =>
ck (vp_in v1 4) <|
lt (wI I37 (r + 11) (ix v1) v30) fun I39 =>
ck (vp_in v1 4) <|
lt (wI I39 (r + 12) (ix v1) (0 : Int32)) fun I41 =>
lt (wI I41 r 11 ((I41 r 11) + 1)) fun I43 =>
b3 (x5_optional (1 : Int32) I43 L) fun r44 I45 L46 =>
if r44 = 0 then (
some ((1 : Int32), I45, L46)) else
b3 (x5_ruleToldAhead r v1 I45 L46) fun r47 I48 L49 =>
if r47 = 0 then (
some ((0 : Int32), I48, L49)) else
some ((1 : Int32), I48, L49)
noncomputable def cb5 (r : Nat) (v1 v10 v15 v20 v25 : Int32) (I : MI) (L : ML) : Option (Int32 × MI × ML) :=
b1 (
if v25 = (-1) then (
some ((-1 : Int32), I, L)) else
b3 (x5_numberBehind (17 : Int32) (0 : Int32) (9 : Int32) I L) fun r27 I28 L29 =>
some (r27, I28, L29)) fun e26 =>
lt e26.1 fun v30 => cb6 r v1 v10 v15 v20 v25 v30 e26.2.1 e26.2.2
noncomputable def cb4 (r : Nat) (v1 v10 v15 v20 : Int32) (I : MI) (L : ML) : Option (Int32 × MI × ML) :=
b1 (
if v20 = (-1) then (
some ((-1 : Int32), I, L)) else
b3 (x5_numberBehind (16 : Int32) (0 : Int32) (20 : Int32) I L) fun r27 I28 L29 =>
some (r27, I28, L29)) fun e26 =>
lt e26.1 fun v30 => cb5 r v1 v10 v15 v20 v30 e26.2.1 e26.2.2
noncomputable def cb3 (r : Nat) (v1 v10 v15 : Int32) (I : MI) (L : ML) : Option (Int32 × MI × ML) :=
b1 (
if v15 = (-1) then (
some ((-1 : Int32), I, L)) else
b3 (x5_numberBehind (15 : Int32) (0 : Int32) (5 : Int32) I L) fun r27 I28 L29 =>
some (r27, I28, L29)) fun e26 =>
lt e26.1 fun v30 => cb4 r v1 v10 v15 v30 e26.2.1 e26.2.2
noncomputable def cb2 (r : Nat) (v1 v10 : Int32) (I : MI) (L : ML) : Option (Int32 × MI × ML) :=
b1 (
if v10 = (-1) then (
some ((-1 : Int32), I, L)) else
b3 (x5_number (0 : Int32) ((I r 1) - 1) I L) fun r27 I28 L29 =>
some (r27, I28, L29)) fun e26 =>
lt e26.1 fun v30 => cb3 r v1 v10 v30 e26.2.1 e26.2.2
section LNX
variable {T : Nat → Nat} {N t b q U k n r : Nat} {C : TC} {D D' : TD} {ws : Nat → Nat → List Nat} {I I' I'' : MI} {L L' L'' : ML} {J J' J'' : MI} {M M' M'' : ML}
theorem cb_eq : x5_bobberLine r I L = (lt (I r 11) fun v1 => if v1 < 4 then (b2 (x3_next I L) fun I2 L3 => b3 (x5_newName 26 4 v1 I2 L3) fun r4 I5 L6 => if r4 = 0 then some ((0 : Int32), I5, L6) else b3 (x5_numberBehind (10 : Int32) (0 : Int32) ((I5 r 0) - 1) I5 L6) fun r7 I8 L9 => lt r7 fun v10 => cb2 r v1 v10 I8 L9) else b2 (x5_fail (2 : Int32) I) fun r50 I51 => ck (r50 = 0 ∨ r50 = 1) (some (r50, I51, L))) := rfl
theorem cb5_f {v1 v10 v15 v20 : Int32} : cb5 r v1 v10 v15 v20 (-1) I L = some (0, I, L) := by rw [cb5, if_pos rfl, q_b1, q_l, cb6, if_pos rfl]
theorem cb4_f {v1 v10 v15 : Int32} : cb4 r v1 v10 v15 (-1) I L = some (0, I, L) := by rw [cb4, if_pos rfl, q_b1, q_l, cb5_f]
theorem cb3_f {v1 v10 : Int32} : cb3 r v1 v10 (-1) I L = some (0, I, L) := by rw [cb3, if_pos rfl, q_b1, q_l, cb4_f]
theorem cb2_f {v1 : Int32} : cb2 r v1 (-1) I L = some (0, I, L) := by rw [cb2, if_pos rfl, q_b1, q_l, cb3_f]
theorem Q24.g (h : Q24 J J') : Gs t I L J M I L J' M := ⟨fun _ _ _ _ => rfl, fun _ _ _ => rfl, ⟨fun x _ _ _ h4 => h x h4, fun j _ => by rw [h 102 (by omega)]⟩, fun _ _ _ => rfl⟩
theorem FBt.q24 (h : FBt I J) (g : Q24 J J') : FBt I J' := by rw [FBt, g 102 (by omega)]; exact h
theorem OkD.bo (h : OkD D C) (hn : nB D = n) (hn4 : n < 4) (hD : ∀ j a, ¬ (j = 0 ∧ a = 11) → ¬ (7 ≤ j ∧ j ≤ 12 ∧ a = n) → D' j a = D j a) (e : D' 0 11 = Int32.ofNat (n + 1)) (v7 : ∃ x, x < nW D ∧ D' 7 n = Int32.ofNat x) (v8 : ∃ x, x < nH D ∧ D' 8 n = Int32.ofNat x) (v9 : ∃ x, x ≤ 5 ∧ D' 9 n = Int32.ofNat x) (v10 : ∃ x, x ≤ 20 ∧ D' 10 n = Int32.ofNat x) (v11 : ∃ x, x ≤ 9 ∧ D' 11 n = Int32.ofNat x) (v12 : ∃ z, D' 12 n = Int32.ofNat z ∧ (z < nR D ∨ (nR D = 0 ∧ z = 0))) : OkD D' C ∧ nB D' = n + 1 := by
  have eW : nW D' = nW D := by simp only [nW, hD 0 0 (by omega) (by omega)]
  have eH : nH D' = nH D := by simp only [nH, hD 0 1 (by omega) (by omega)]
  have eA : nA D' = nA D := by simp only [nA, hD 0 4 (by omega) (by omega)]
  have eB : nB D' = n + 1 := by rw [nB, e, q_ix (by omega)]
  have eR : nR D' = nR D := by simp only [nR, hD 0 18 (by omega) (by omega)]
  obtain ⟨⟨h1, h2⟩, ⟨h3, h4, h5⟩, h6, h7, h8, h9, h10, h11⟩ := h
  refine ⟨⟨⟨by rw [eW, hD 0 0 (by omega) (by omega)]; exact h1, by rw [eH, hD 0 1 (by omega) (by omega)]; exact h2⟩, ⟨by rw [eA, hD 0 4 (by omega) (by omega)]; exact h3, by rw [eB]; exact ⟨e, by omega⟩, by rw [eR, hD 0 18 (by omega) (by omega)]; exact h5⟩, fun a ha => ?_, fun a c ha hc => ?_, fun b hb => ?_, by rw [hD 0 3 (by omega) (by omega)]; exact h9, h10, fun r hr => h11 r (by rw [← eR]; exact hr)⟩, eB⟩
  · rw [eW, eH, hD 1 a (by omega) (by omega), hD 2 a (by omega) (by omega), hD 3 a (by omega) (by omega), hD 4 a (by omega) (by omega), hD 5 a (by omega) (by omega), hD 6 a (by omega) (by omega)]
    exact h6 a (by rw [← eA]; exact ha)
  · rw [hD 1 a (by omega) (by omega), hD 2 a (by omega) (by omega), hD 1 c (by omega) (by omega), hD 2 c (by omega) (by omega)]
    exact h7 a c (by rw [← eA]; exact ha) (by rw [← eA]; exact hc)
  · rw [eW, eH, eR]
    by_cases eb : b = n
    · subst eb
      exact ⟨v7, v8, v9, v10, v11, v12⟩
    · rw [hD 7 b (by omega) (by omega), hD 8 b (by omega) (by omega), hD 9 b (by omega) (by omega), hD 10 b (by omega) (by omega), hD 11 b (by omega) (by omega), hD 12 b (by omega) (by omega)]
      exact h8 b (by omega)
/-- a bobber told -/
theorem LK.bo (ht : t = 2 ∨ t = 28) (h : LK t b k C ws I L J M) (hn : nB (OD t I) = n) (hn4 : n < 4) (h1 : ∀ x, (t < x ∧ x ≤ t + 6) ∨ (t + 14 ≤ x ∧ x ≤ t + 16) → I' x = I x) (h7 : ∀ j a, 7 ≤ j → j ≤ 12 → a ≠ n → I' (t + j) a = I (t + j) a) (h0 : ∀ j, j ≠ 11 → I' t j = I t j) (e : I' t 11 = Int32.ofNat (n + 1)) (h20 : I' 20 5 = I 20 5 ∧ I' 20 6 = I 20 6)
    (v7 : ∃ x, x < nW (OD t I) ∧ I' (t + 7) n = Int32.ofNat x ∧ J' 118 n = Int32.ofNat x) (v8 : ∃ x, x < nH (OD t I) ∧ I' (t + 8) n = Int32.ofNat x ∧ J' 119 n = Int32.ofNat x) (v9 : ∃ x, x ≤ 5 ∧ I' (t + 9) n = Int32.ofNat x ∧ J' 120 n = Int32.ofNat x) (v10 : ∃ x, x ≤ 20 ∧ I' (t + 10) n = Int32.ofNat x ∧ J' 121 n = Int32.ofNat x) (v11 : ∃ x, x ≤ 9 ∧ I' (t + 11) n = Int32.ofNat x ∧ J' 122 n = Int32.ofNat x) (v12 : ∃ z, I' (t + 12) n = Int32.ofNat z ∧ J' 123 n = Int32.ofNat z ∧ (z < nR (OD t I) ∨ (nR (OD t I) = 0 ∧ z = 0)))
    (j1 : ∀ x, (104 ≤ x ∧ x ≤ 106) ∨ (113 ≤ x ∧ x ≤ 117) ∨ x = 124 → J' x = J x) (j2 : ∀ x a, 118 ≤ x → x ≤ 123 → a ≠ n → J' x a = J x a) (j3 : ∀ j, 49 ≤ j → j ≤ 64 → j ≠ 54 → J' 102 j = J 102 j) (j4 : J' 102 54 = Int32.ofNat (n + 1)) (l1 : ∀ x, 24 ≤ x → x ≤ 25 → L' x = L x) {w' : Nat → List Nat} (hN : Nm 26 16 (n + 1) w' L' M') (m1 : ∀ i, i ≠ 16 + n → M' 112 i = M 112 i) : LK t b k C (fun i => if i = 2 then w' else ws i) I' L' J' M' := by
  have hD : ∀ j a, ¬ (j = 0 ∧ a = 11) → ¬ (7 ≤ j ∧ j ≤ 12 ∧ a = n) → OD t I' j a = OD t I j a := by
    intro j a hja hjb
    simp only [OD]
    split
    · by_cases e : j = 0
      · subst e; exact h0 a (by omega)
      · by_cases e7 : 7 ≤ j
        · exact h7 j a e7 (by omega) (by omega)
        · rw [h1 (t + j) (by omega)]
    · rfl
  have eW : nW (OD t I') = nW (OD t I) := by simp only [nW, hD 0 0 (by omega) (by omega)]
  have eH : nH (OD t I') = nH (OD t I) := by simp only [nH, hD 0 1 (by omega) (by omega)]
  have eA : nA (OD t I') = nA (OD t I) := by simp only [nA, hD 0 4 (by omega) (by omega)]
  have eR : nR (OD t I') = nR (OD t I) := by simp only [nR, hD 0 18 (by omega) (by omega)]
  obtain ⟨k1, k2, k3, k4, k5, k6, k7, k8, k9⟩ := h
  obtain ⟨x7, a7, b7, c7⟩ := v7
  obtain ⟨x8, a8, b8, c8⟩ := v8
  obtain ⟨x9, a9, b9, c9⟩ := v9
  obtain ⟨x10, a10, b10, c10⟩ := v10
  obtain ⟨x11, a11, b11, c11⟩ := v11
  obtain ⟨x12, b12, c12, a12⟩ := v12
  obtain ⟨o1, eB⟩ := k1.1.bo hn hn4 hD e ⟨x7, a7, b7⟩ ⟨x8, a8, b8⟩ ⟨x9, a9, b9⟩ ⟨x10, a10, b10⟩ ⟨x11, a11, b11⟩ ⟨x12, b12, a12⟩
  have hB : ∀ {i c0}, CdB I t b i c0 → CdB I' t b i c0 := fun ⟨st, g1, g2, g3, g4⟩ => ⟨st, by rw [h1 (t + 15) (by omega)]; exact g1, by rw [h1 (t + 16) (by omega)]; exact g2, g3, fun i hi => by rw [h1 (t + 14) (by omega)]; exact g4 i hi⟩
  have hA : ∀ {c0 i}, CdA c0 i J → CdA c0 i J' := fun g => g.c (j1 104 (by omega)) (j1 105 (by omega)) (j1 106 (by omega))
  have hn6 := k1.1.2.1.2.2.2
  have hn10 := k1.1.2.1.1.2
  rw [LK, eW, eH, eA, eB, eR]
  refine ⟨⟨o1, k1.2.1, by rw [h0 2 (by omega)]; exact k1.2.2⟩, ?_, fun a ha => ?_, fun a ha => ?_, ⟨k5.1, by rw [j3 51 (by omega) (by omega) (by omega)]; exact k5.2⟩, fun i hi => ?_, fun r hr => ⟨hB (k7 r hr).1, hA (k7 r hr).2.1, (k7 r hr).2.2⟩, ⟨⟨fun i hi => ?_, k8.1.2⟩, ⟨fun i hi => ?_, k8.2.1.2⟩, hN⟩, by rw [j3 62 (by omega) (by omega) (by omega), j3 63 (by omega) (by omega) (by omega), h20.1, h20.2]; exact k9⟩
  · rw [j3 49 (by omega) (by omega) (by omega), j3 50 (by omega) (by omega) (by omega), j3 52 (by omega) (by omega) (by omega), j3 53 (by omega) (by omega) (by omega), j3 55 (by omega) (by omega) (by omega), j3 64 (by omega) (by omega) (by omega), h0 0 (by omega), h0 1 (by omega), h0 18 (by omega), h0 4 (by omega), h0 2 (by omega), h0 3 (by omega), e, j4]
    exact ⟨k2.1, k2.2.1, k2.2.2.1, k2.2.2.2.1, rfl, k2.2.2.2.2.2⟩
  · rw [j1 115 (by omega), j1 116 (by omega), j1 113 (by omega), j1 114 (by omega), j1 124 (by omega), j1 117 (by omega), h1 (t + 1) (by omega), h1 (t + 2) (by omega), h1 (t + 3) (by omega), h1 (t + 4) (by omega), h1 (t + 5) (by omega), h1 (t + 6) (by omega)]; exact k3 a ha
  · by_cases ea : a = n
    · subst ea
      exact ⟨by rw [b7, c7], by rw [b8, c8], by rw [b9, c9], by rw [b10, c10], by rw [b11, c11], by rw [b12, c12]⟩
    · rw [j2 118 a (by omega) (by omega) ea, j2 119 a (by omega) (by omega) ea, j2 120 a (by omega) (by omega) ea, j2 121 a (by omega) (by omega) ea, j2 122 a (by omega) (by omega) ea, j2 123 a (by omega) (by omega) ea, h7 7 a (by omega) (by omega) ea, h7 8 a (by omega) (by omega) ea, h7 9 a (by omega) (by omega) ea, h7 10 a (by omega) (by omega) ea, h7 11 a (by omega) (by omega) ea, h7 12 a (by omega) (by omega) ea]
      exact k4 a (by omega)
  · refine ⟨hB (k6 i hi).1, ?_⟩
    rw [h1 (t + 15) (by omega)]
    rcases (k6 i hi).2 with ⟨m1, m2, m3, m4⟩ | m
    · exact Or.inl ⟨m1, hA m2, m3, m4⟩
    · exact Or.inr m
  · simp only [if_neg (show ¬ (0 : Nat) = 2 by omega)]
    rw [l1 24 (by omega) (by omega), m1 (0 + i) (by omega)]; exact k8.1.1 i hi
  · simp only [if_neg (show ¬ (1 : Nat) = 2 by omega)]
    rw [l1 25 (by omega) (by omega), m1 (6 + i) (by omega)]; exact k8.2.1.1 i hi
end LNX
