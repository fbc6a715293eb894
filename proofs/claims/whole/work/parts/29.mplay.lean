/-! THE REFERENCE'S PLAY does what the row's functions say -/
/-- scratch alone changes -/
def Fq (I I' : MI) : Prop := (∀ c, c ≠ 111 → c ≠ 102 → I' c = I c) ∧ (∀ j, j ≠ 68 → j ≠ 69 → I' 102 j = I 102 j)
theorem Fq.refl {I : MI} : Fq I I := ⟨fun _ _ _ => rfl, fun _ _ _ => rfl⟩
theorem Fq.trans {I I' I'' : MI} (h : Fq I I') (k : Fq I' I'') : Fq I I'' := ⟨fun c h1 h2 => (k.1 c h1 h2).trans (h.1 c h1 h2), fun j h1 h2 => (k.2 j h1 h2).trans (h.2 j h1 h2)⟩
theorem Fm.refl {I : MI} : Fm I I := ⟨fun _ _ _ _ => rfl, fun _ _ _ => rfl⟩
theorem Fm.trans {I I' I'' : MI} (h : Fm I I') (k : Fm I' I'') : Fm I I'' := ⟨fun c h1 h2 h3 => (k.1 c h1 h2 h3).trans (h.1 c h1 h2 h3), fun j h1 h2 => (k.2 j h1 h2).trans (h.2 j h1 h2)⟩
theorem Fq.m {I I' : MI} (h : Fq I I') : Fm I I' := ⟨fun c _ h2 h3 => h.1 c h2 h3, h.2⟩
theorem Fq.wr {I I' : MI} {P : PR} (h : Fq I I') (hW : Wr I P) : Wr I' P := ⟨fun k hk => by rw [h.1 137 (by omega) (by omega)]; exact hW.1 k hk, fun b hb => by rw [h.1 130 (by omega) (by omega)]; exact hW.2.1 b hb, fun b hb => by rw [h.1 131 (by omega) (by omega)]; exact hW.2.2 b hb⟩
theorem Fm.w {I I' : MI} (h : Fm I I') {k : Nat} {v : Int32} : Fm I (wI I' 137 k v) := ⟨fun c h1 h2 h3 => by rw [wI_c h1]; exact h.1 c h1 h2 h3, fun j h1 h2 => by rw [wI_c (by omega)]; exact h.2 j h1 h2⟩
theorem Fq.w111 {I I' : MI} (h : Fq I I') {k : Nat} {v : Int32} : Fq I (wI I' 111 k v) := ⟨fun c h1 h2 => by rw [wI_c h1]; exact h.1 c h1 h2, fun j h1 h2 => by rw [wI_c (by omega)]; exact h.2 j h1 h2⟩
theorem Fq.w102 {I I' : MI} (h : Fq I I') {k : Nat} {v : Int32} (hk : k = 68 ∨ k = 69) : Fq I (wI I' 102 k v) := ⟨fun c h1 h2 => by rw [wI_c h2]; exact h.1 c h1 h2, fun j h1 h2 => by rw [wI_ne (by omega)]; exact h.2 j h1 h2⟩
theorem Cm.fr {I I' : MI} {s : Nat} {c : List Int32} (h : Cm I s c) (h1 : I' 109 = I 109) (h2 : I' 107 = I 107) (h3 : I' 108 = I 108) : Cm I' s c := by
  obtain ⟨g1, g2, g3⟩ := h
  exact ⟨by rw [h1]; exact g1, g2, fun i hi => by rw [h2, h3]; exact g3 i hi⟩
theorem Fm.rd {I I' : MI} {D : TD} {C : TC} (h : Fm I I') (hR : Rd I D C) : Rd I' D C := by
  obtain ⟨⟨a1, a2, a3, a4, a5, a6⟩, h2, h3, h4, h5⟩ := hR
  obtain ⟨f1, f2⟩ := h
  have e : ∀ c, c ≠ 137 → c ≠ 111 → c ≠ 102 → I' c = I c := f1
  refine ⟨⟨?_, ?_, ?_, ?_, ?_, ?_⟩, fun a ha => ?_, fun b hb => ?_, fun s hs => ?_, fun r hr => ?_⟩
  · rw [f2 56 (by omega) (by omega)]; exact a1
  · rw [f2 57 (by omega) (by omega)]; exact a2
  · rw [f2 65 (by omega) (by omega)]; exact a3
  · rw [f2 60 (by omega) (by omega)]; exact a4
  · rw [f2 61 (by omega) (by omega)]; exact a5
  · rw [f2 59 (by omega) (by omega)]; exact a6
  · rw [e 127 (by omega) (by omega) (by omega), e 128 (by omega) (by omega) (by omega), e 125 (by omega) (by omega) (by omega), e 126 (by omega) (by omega) (by omega), e 136 (by omega) (by omega) (by omega), e 129 (by omega) (by omega) (by omega)]; exact h2 a ha
  · rw [e 132 (by omega) (by omega) (by omega), e 133 (by omega) (by omega) (by omega), e 134 (by omega) (by omega) (by omega), e 135 (by omega) (by omega) (by omega)]; exact h3 b hb
  · rw [f2 58 (by omega) (by omega)]
    rcases h4 s hs with ⟨g1, g2⟩ | g
    · exact Or.inl ⟨g1, g2.fr (e 109 (by omega) (by omega) (by omega)) (e 107 (by omega) (by omega) (by omega)) (e 108 (by omega) (by omega) (by omega))⟩
    · exact Or.inr g
  · exact (h5 r hr).fr (e 109 (by omega) (by omega) (by omega)) (e 107 (by omega) (by omega) (by omega)) (e 108 (by omega) (by omega) (by omega))
theorem Wr.w {I : MI} {P : PR} (hW : Wr I P) {k : Nat} {v : Int32} (hk : k < 123) : Wr (wI I 137 k v) (upd P k v) := by
  refine ⟨fun j hj => ?_, fun b hb => ?_, fun b hb => ?_⟩
  · by_cases e : j = k
    · subst e; rw [wI_at, upd_at]
    · rw [wI_ne (Or.inr e), upd_ne e]; exact hW.1 j hj
  · rw [wI_c (by omega), upd_ne (by omega)]; exact hW.2.1 b hb
  · rw [wI_c (by omega), upd_ne (by omega)]; exact hW.2.2 b hb
theorem q_lpre {x : Int32} {w : Nat} (h : w < 2147483648) : (x ≤ Int32.ofNat w - 1) = (x < Int32.ofNat w) := by
  rw [Int32.le_iff_toInt_le, Int32.lt_iff_toInt_lt, q_pre h, Int32.toInt_ofNat_of_lt (by omega)]
  exact propext ⟨fun h => by omega, fun h => by omega⟩
section MR
variable {D : TD} {C : TC} {P : PR} {I : MI} {b a k : Nat}
theorem m_amount (x : Int32) (I : MI) : x11_amount x I = some (iabs x) := by
  simp only [x11_amount, q_si, iabs]
theorem m_far (hD : OkD D C) (hW : Wr I P) (hb : b < nB D) (ha : a < nA D) : x11_far (Int32.ofNat b) (Int32.ofNat a) I = some (sfar P b a) := by
  have hA := hD.a
  have hB := hD.b
  simp (disch := omega) only [x11_far, QB, QN, hW.1, hW.2.1, hW.2.2, m_amount]
  rfl
theorem m_rim (hD : OkD D C) (hR : Rd I D C) (hW : Wr I P) (ha : a < nA D) : x11_isRim (Int32.ofNat a) I = some (b2i (srim D (P (5 * a)) (P (5 * a + 1)))) := by
  have hA := hD.a
  simp (disch := omega) only [x11_isRim, QB, QN, hW.1, hR.1.1, hR.1.2.1, srim]
  by_cases g1 : P (5 * a) = 0 <;> by_cases g2 : P (5 * a) = D 0 0 - 1 <;> by_cases g3 : P (5 * a + 1) = 0 <;> by_cases g4 : P (5 * a + 1) = D 0 1 - 1 <;> simp [g1, g2, g3, g4, b2i]
theorem m_fl (hD : OkD D C) (hW : Wr I P) (ha : a < nA D) : x11_isAfloat (Int32.ofNat a) I = some (b2i (decide (P (5 * a + 2) < 0))) := by
  have hA := hD.a
  simp (disch := omega) only [x11_isAfloat, QB, QN, hW.1]
  by_cases g : P (5 * a + 2) < 0 <;> simp [g, b2i]
theorem m_isIn (v l h : Int32) (I : MI) : x11_isIn v l h I = some (b2i (decide (l ≤ v ∧ v ≤ h))) := by
  simp only [x11_isIn, ← Int32.not_lt]
  by_cases g1 : v < l <;> by_cases g2 : h < v <;> simp [g1, g2, b2i]
theorem m_cell (hD : OkD D C) (hR : Rd I D C) (x y : Int32) : x11_isCell x y I = some (b2i (scell D x y)) := by
  have hw := hD.w
  have hh := hD.h
  simp (disch := omega) only [x11_isCell, m_isIn, QB, hR.1.1, hR.1.2.1, (nWH hD).1, (nWH hD).2, q_lpre, b2i_0, scell]
  by_cases g1 : 0 ≤ x <;> by_cases g2 : x < Int32.ofNat (nW D) <;> by_cases g3 : 0 ≤ y <;> by_cases g4 : y < Int32.ofNat (nH D) <;> simp [g1, g2, g3, g4, b2i]
theorem m_afL (hD : OkD D C) (hR : Rd I D C) (hW : Wr I P) (x y : Int32) : ∀ (j w n : Nat), w + j = nA D → j < n → x11_afloat_L5 x y I n (oi (sat P x y w)) (Int32.ofNat w) = some (oi (sat P x y (nA D))) := by
  have hA := hD.a
  intro j
  induction j with
  | zero =>
    intro w n hw hn
    obtain ⟨n, rfl⟩ : ∃ n', n = n' + 1 := ⟨n - 1, by omega⟩
    obtain rfl : w = nA D := by omega
    simp (disch := omega) only [x11_afloat_L5, x11_afloat_L5s, hR.1.2.2.2.1, hD.2.1.1.1, QN]
    simp
  | succ j ih =>
    intro w n hw hn
    obtain ⟨n, rfl⟩ : ∃ n', n = n' + 1 := ⟨n - 1, by omega⟩
    have hi := ih (w + 1) n (by omega) (by omega)
    simp (disch := omega) only [x11_afloat_L5, x11_afloat_L5s, hR.1.2.2.2.1, hD.2.1.1.1, QB, QN, if_pos (show w < nA D by omega), m_fl hD hW (show w < nA D by omega), b2i_0, hW.1, decide_eq_true_eq]
    simp only [sat] at hi
    by_cases g1 : P (5 * w + 2) < 0 <;> by_cases g2 : P (5 * w) = x <;> by_cases g3 : P (5 * w + 1) = y <;> simp only [g1, g2, g3, if_true, if_false, true_and, and_true, and_false, false_and, and_self, oi] at hi ⊢ <;> exact hi
theorem m_afloat (hD : OkD D C) (hR : Rd I D C) (hW : Wr I P) (x y : Int32) : x11_afloat x y I = some (oi (sat P x y (nA D))) := by
  have h := m_afL hD hR hW x y (nA D) 0 FU (by omega) (by have := hD.a; unfold FU; omega)
  rw [show oi (sat P x y 0) = -1 from rfl, show Int32.ofNat 0 = 0 from rfl] at h
  simp only [x11_afloat, QB, h]
theorem oi_lt0 {n : Nat} {x y : Int32} (hn : n ≤ 10) : (oi (sat P x y n) < 0) = ((sat P x y n).isSome = false) := by
  cases h : sat P x y n with
  | none => simp [oi]
  | some c =>
    have := (sat_some h).1
    simp only [oi, q_neg (show c < 2147483648 by omega)]
    simp
theorem m_sec (hk : k < 5) (I : MI) : x11_seconds (Int32.ofNat k) I = some (ssec k) := by
  have : k = 0 ∨ k = 1 ∨ k = 2 ∨ k = 3 ∨ k = 4 := by omega
  rcases this with rfl | rfl | rfl | rfl | rfl <;> rfl
theorem m_br (hk : k < 5) (I : MI) : x11_takesBreath (Int32.ofNat k) I = some (sbr k) := by
  have : k = 0 ∨ k = 1 ∨ k = 2 ∨ k = 3 ∨ k = 4 := by omega
  rcases this with rfl | rfl | rfl | rfl | rfl <;> rfl
theorem m_way (hD : OkD D C) (hW : Wr I P) (hb : b < nB D) (ha : a < nA D) : x11_layWay (Int32.ofNat b) (Int32.ofNat a) I = some (b2i (decide (¬ (sdx P b a = 0 ∧ sdy P b a = 0))), wI (wI I 102 68 (swx P b a)) 102 69 (swy P b a)) := by
  have hA := hD.a
  have hB := hD.b
  simp (disch := omega) only [x11_layWay, QB, QN, hW.1, hW.2.1, hW.2.2, m_amount]
  rw [show P (5 * a) - P (123 + b) = sdx P b a from rfl, show P (5 * a + 1) - P (127 + b) = sdy P b a from rfl]
  simp only [swx, swy]
  by_cases g1 : iabs (sdx P b a) < iabs (sdy P b a) <;> by_cases g2 : sdx P b a = 0 <;> by_cases g3 : sdy P b a = 0 <;> by_cases g4 : sdx P b a < 0 <;> by_cases g5 : sdy P b a < 0 <;> simp [g1, g2, g3, g4, g5, b2i]
theorem m_leans (hD : OkD D C) (hR : Rd I D C) (hW : Wr I P) (hb : b < nB D) (ha : a < nA D) : ∃ I', x11_leans (Int32.ofNat b) (Int32.ofNat a) I = some (b2i (slean D P b a), I') ∧ Fq I I' := by
  have hA := hD.a
  have f1 : Fq I (wI (wI I 102 68 (swx P b a)) 102 69 (swy P b a)) := (Fq.refl.w102 (Or.inl rfl)).w102 (Or.inr rfl)
  refine ⟨_, ?_, f1⟩
  have hW1 := f1.wr hW
  simp (disch := omega) only [x11_leans, m_way hD hW hb ha, QB, QN, hW1.1, m_afloat hD (f1.m.rd hR) hW1, b2i_0]
  rw [show wI (wI I 102 68 (swx P b a)) 102 69 (swy P b a) 102 68 = swx P b a by simp [wI], show wI (wI I 102 68 (swx P b a)) 102 69 (swy P b a) 102 69 = swy P b a by simp [wI]]
  simp only [oi_lt0 (P := P) (x := P (5 * a) + swx P b a) (y := P (5 * a + 1) + swy P b a) hA]
  by_cases g : sdx P b a = 0 ∧ sdy P b a = 0
  · simp [g, slean, b2i]
  · simp only [g, not_false_eq_true, decide_true, if_true, slean, Bool.true_and]
    cases (sat P (P (5 * a) + swx P b a) (P (5 * a + 1) + swy P b a) (nA D)).isSome <;> simp [b2i]
theorem m_canTry (hD : OkD D C) (hR : Rd I D C) (hW : Wr I P) (hb : b < nB D) (ha : a < nA D) (hk : k < 5) : ∃ I', x11_canTry (Int32.ofNat b) (Int32.ofNat a) (Int32.ofNat k) I = some (b2i (scan D P b a k), I') ∧ Fq I I' := by
  have hA := hD.a
  have hB := hD.b
  obtain ⟨I1, l1, l2⟩ := m_leans hD hR hW hb ha
  have e9 := (hR.2.2.1 b hb).1
  have e5 := (hR.2.1 a ha).2.2.2.2.1
  have h5 : D 5 a = 0 ∨ D 5 a = 1 := (hD.2.2.1 a ha).2.2.2.2.1
  have hk5 : k = 0 ∨ k = 1 ∨ k = 2 ∨ k = 3 ∨ k = 4 := by omega
  have hu : x11_canTry (Int32.ofNat b) (Int32.ofNat a) (Int32.ofNat k) I = if P (5 * a + 2) < 0 then (if D 9 b < sfar P b a then some (0, I) else if P (50 + 3 * b) < sbr k then some (0, I) else if k = 1 then (if D 5 a = 0 then some (0, I) else some (1, I)) else if k = 2 then some (b2i (srim D (P (5 * a)) (P (5 * a + 1))), I) else if k = 4 then some (b2i (slean D P b a), I1) else some (1, I)) else some (0, I) := by
    rw [x11_canTry, m_fl hD hW ha, q_b1]
    by_cases g1 : P (5 * a + 2) < 0
    · rw [if_neg (show ¬ b2i (decide (P (5 * a + 2) < 0)) = 0 by simp [g1, b2i]), m_far hD hW hb ha, q_b1, if_pos g1]
      simp (disch := omega) only [QN, QB, e9, m_br hk, hW.1]
      by_cases g2 : D 9 b < sfar P b a
      · simp only [if_pos g2]
      · by_cases g3 : P (50 + 3 * b) < sbr k
        · simp only [if_neg g2, if_pos g3]
        · simp only [if_neg g2, if_neg g3]
          rcases hk5 with rfl | rfl | rfl | rfl | rfl
          · simp
          · simp (disch := omega) only [QN, QB, e5]
            rcases h5 with h5 | h5 <;> simp [h5]
          · simp (disch := omega) only [QN, QB, m_rim hD hR hW ha, b2i_0]
            cases srim D (P (5 * a)) (P (5 * a + 1)) <;> simp [b2i]
          · simp
          · simp (disch := omega) only [QN, QB, l1, b2i_0]
            cases slean D P b a <;> simp [b2i]
    · rw [if_pos (show b2i (decide (P (5 * a + 2) < 0)) = 0 by simp [g1, b2i]), if_neg g1]
  rw [hu]
  by_cases g1 : P (5 * a + 2) < 0
  · by_cases g2 : D 9 b < sfar P b a
    · exact ⟨I, by simp [g1, g2, scan, b2i], Fq.refl⟩
    · by_cases g3 : P (50 + 3 * b) < sbr k
      · exact ⟨I, by simp [g1, g2, g3, scan, b2i], Fq.refl⟩
      · rcases hk5 with rfl | rfl | rfl | rfl | rfl
        · exact ⟨I, by simp [g1, g2, g3, scan, b2i], Fq.refl⟩
        · refine ⟨I, ?_, Fq.refl⟩
          rcases h5 with h5 | h5 <;> simp [g1, g2, g3, scan, b2i, h5]
        · refine ⟨I, ?_, Fq.refl⟩
          cases h6 : srim D (P (5 * a)) (P (5 * a + 1)) <;> simp [g1, g2, g3, scan, b2i, h6]
        · exact ⟨I, by simp [g1, g2, g3, scan, b2i], Fq.refl⟩
        · refine ⟨I1, ?_, l2⟩
          cases h6 : slean D P b a <;> simp [g1, g2, g3, scan, b2i, h6]
  · exact ⟨I, by simp [g1, scan, b2i], Fq.refl⟩
end MR
