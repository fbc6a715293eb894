/-! THE CLASS'S PLAY does what the row's functions say -/
theorem Fc.refl {t q : Nat} {I : MI} : Fc t q I I := fun _ _ _ _ _ => rfl
theorem Fc.trans {t q : Nat} {I I' I'' : MI} (h : Fc t q I I') (k : Fc t q I' I'') : Fc t q I I'' := fun c h1 h2 h3 h4 => (k c h1 h2 h3 h4).trans (h c h1 h2 h3 h4)
theorem Fc.w {t q : Nat} {I I' : MI} (h : Fc t q I I') {c i : Nat} {v : Int32} (hc : c = 27 ∨ c = 46 ∨ c = t + 17 ∨ (q ≤ c ∧ c ≤ q + 11)) : Fc t q I (wI I' c i v) := fun d h1 h2 h3 h4 => by
  rw [wI_c (by omega)]
  exact h d h1 h2 h3 h4
theorem Td.fr {D : TD} {C : TC} {t q : Nat} {I I' : MI} (h : Td I t D C) (hq : isq t q) (hf : Fc t q I I') : Td I' t D C := by
  obtain ⟨ht, hq⟩ := hq
  have e : ∀ j, j ≤ 16 → I' (t + j) = I (t + j) := fun j hj => hf _ (by rcases ht with h | h <;> omega) (by rcases ht with h | h <;> omega) (by omega) (by rcases ht with h | h <;> omega)
  obtain ⟨h1, h2, h3, h4, h5⟩ := h
  have e0 : I' t = I t := e 0 (by omega)
  have hc : ∀ s c, Cd I t s c → Cd I' t s c := by
    intro s c ⟨st, g1, g2, g3, g4⟩
    exact ⟨st, by rw [e 15 (by omega)]; exact g1, by rw [e 16 (by omega)]; exact g2, g3, fun i h => by rw [e 14 (by omega)]; exact g4 i h⟩
  exact ⟨by rw [e0]; exact h1, fun j a j1 j2 ha => by rw [e j (by omega)]; exact h2 j a j1 j2 ha, fun j b j1 j2 hb => by rw [e j (by omega)]; exact h3 j b j1 j2 hb, fun s hs => hc _ _ (h4 s hs), fun r hr => hc _ _ (h5 r hr)⟩
theorem Rl.fr {D : TD} {m : Bool} {q : Nat} {P : PR} {I I' : MI} (h : Rl D m I q P) (hf : ∀ c, q ≤ c → c ≤ q + 11 → I' c = I c) : Rl D m I' q P := by
  have e : ∀ j, j ≤ 11 → I' (q + j) = I (q + j) := fun j hj => hf _ (by omega) (by omega)
  have e0 : I' q = I q := e 0 (by omega)
  obtain ⟨h1, h2, h3, h4⟩ := h
  refine ⟨fun a ha => ?_, fun b hb => ?_, by rw [e0]; exact h3, fun hm => ?_⟩
  · rw [e 1 (by omega), e 2 (by omega), e 3 (by omega), e 4 (by omega), e 5 (by omega)]; exact h1 a ha
  · rw [e 6 (by omega), e 7 (by omega), e 8 (by omega)]; exact h2 b hb
  · rw [e 3 (by omega), e 9 (by omega), e 10 (by omega), e 11 (by omega)]; exact h4 hm
section RLW
variable {D : TD} {m : Bool} {q : Nat} {P : PR} {I : MI}
theorem Rl.w1 (h : Rl D m I q P) (hA : nA D ≤ 10) (hB : nB D ≤ 4) {a : Nat} (v : Int32) (ha : a < 10) : Rl D m (wI I (q + 1) (a) v) q (upd P (5 * a) v) := by
  obtain ⟨h1, h2, h3, h4⟩ := h
  refine ⟨fun c hc => ?_, fun b hb => ?_, ?_, fun hm => ⟨fun c hc => ?_, fun b hb => ?_, fun b i hb hi => ?_⟩⟩
  · obtain ⟨k1, k2, k3, k4, k5⟩ := h1 c hc; clear h1 h2 h4; refine ⟨?_, ?_, ?_, ?_, ?_⟩ <;> grind [wI, upd]
  · obtain ⟨k1, k2, k3⟩ := h2 b hb; clear h1 h2 h4; refine ⟨?_, ?_, ?_⟩ <;> grind [wI, upd]
  · grind [wI, upd]
  · have := (h4 hm).1 c hc; grind [wI, upd]
  · have := (h4 hm).2.1 b hb; grind [wI, upd]
  · have := (h4 hm).2.2 b i hb hi; grind [wI, upd]
theorem Rl.w2 (h : Rl D m I q P) (hA : nA D ≤ 10) (hB : nB D ≤ 4) {a : Nat} (v : Int32) (ha : a < 10) : Rl D m (wI I (q + 2) (a) v) q (upd P (5 * a + 1) v) := by
  obtain ⟨h1, h2, h3, h4⟩ := h
  refine ⟨fun c hc => ?_, fun b hb => ?_, ?_, fun hm => ⟨fun c hc => ?_, fun b hb => ?_, fun b i hb hi => ?_⟩⟩
  · obtain ⟨k1, k2, k3, k4, k5⟩ := h1 c hc; clear h1 h2 h4; refine ⟨?_, ?_, ?_, ?_, ?_⟩ <;> grind [wI, upd]
  · obtain ⟨k1, k2, k3⟩ := h2 b hb; clear h1 h2 h4; refine ⟨?_, ?_, ?_⟩ <;> grind [wI, upd]
  · grind [wI, upd]
  · have := (h4 hm).1 c hc; grind [wI, upd]
  · have := (h4 hm).2.1 b hb; grind [wI, upd]
  · have := (h4 hm).2.2 b i hb hi; grind [wI, upd]
theorem Rl.w3 (h : Rl D m I q P) (hA : nA D ≤ 10) (hB : nB D ≤ 4) {a : Nat} (v : Int32) (ha : a < 10) (hv : (v = -1) = (v < 0)) : Rl D m (wI I (q + 3) (a) v) q (upd P (5 * a + 2) v) := by
  obtain ⟨h1, h2, h3, h4⟩ := h
  refine ⟨fun c hc => ?_, fun b hb => ?_, ?_, fun hm => ⟨fun c hc => ?_, fun b hb => ?_, fun b i hb hi => ?_⟩⟩
  · obtain ⟨k1, k2, k3, k4, k5⟩ := h1 c hc; clear h1 h2 h4; refine ⟨?_, ?_, ?_, ?_, ?_⟩ <;> grind [wI, upd]
  · obtain ⟨k1, k2, k3⟩ := h2 b hb; clear h1 h2 h4; refine ⟨?_, ?_, ?_⟩ <;> grind [wI, upd]
  · grind [wI, upd]
  · have := (h4 hm).1 c hc; grind [wI, upd]
  · have := (h4 hm).2.1 b hb; grind [wI, upd]
  · have := (h4 hm).2.2 b i hb hi; grind [wI, upd]
theorem Rl.w4 (h : Rl D m I q P) (hA : nA D ≤ 10) (hB : nB D ≤ 4) {a : Nat} (v : Int32) (ha : a < 10) : Rl D m (wI I (q + 4) (a) v) q (upd P (5 * a + 3) v) := by
  obtain ⟨h1, h2, h3, h4⟩ := h
  refine ⟨fun c hc => ?_, fun b hb => ?_, ?_, fun hm => ⟨fun c hc => ?_, fun b hb => ?_, fun b i hb hi => ?_⟩⟩
  · obtain ⟨k1, k2, k3, k4, k5⟩ := h1 c hc; clear h1 h2 h4; refine ⟨?_, ?_, ?_, ?_, ?_⟩ <;> grind [wI, upd]
  · obtain ⟨k1, k2, k3⟩ := h2 b hb; clear h1 h2 h4; refine ⟨?_, ?_, ?_⟩ <;> grind [wI, upd]
  · grind [wI, upd]
  · have := (h4 hm).1 c hc; grind [wI, upd]
  · have := (h4 hm).2.1 b hb; grind [wI, upd]
  · have := (h4 hm).2.2 b i hb hi; grind [wI, upd]
theorem Rl.w5 (h : Rl D m I q P) (hA : nA D ≤ 10) (hB : nB D ≤ 4) {a : Nat} (v : Int32) (ha : a < 10) : Rl D m (wI I (q + 5) (a) v) q (upd P (5 * a + 4) v) := by
  obtain ⟨h1, h2, h3, h4⟩ := h
  refine ⟨fun c hc => ?_, fun b hb => ?_, ?_, fun hm => ⟨fun c hc => ?_, fun b hb => ?_, fun b i hb hi => ?_⟩⟩
  · obtain ⟨k1, k2, k3, k4, k5⟩ := h1 c hc; clear h1 h2 h4; refine ⟨?_, ?_, ?_, ?_, ?_⟩ <;> grind [wI, upd]
  · obtain ⟨k1, k2, k3⟩ := h2 b hb; clear h1 h2 h4; refine ⟨?_, ?_, ?_⟩ <;> grind [wI, upd]
  · grind [wI, upd]
  · have := (h4 hm).1 c hc; grind [wI, upd]
  · have := (h4 hm).2.1 b hb; grind [wI, upd]
  · have := (h4 hm).2.2 b i hb hi; grind [wI, upd]
theorem Rl.w6 (h : Rl D m I q P) (hA : nA D ≤ 10) (hB : nB D ≤ 4) {a : Nat} (v : Int32) (ha : a < 4) : Rl D m (wI I (q + 6) (a) v) q (upd P (123 + a) v) := by
  obtain ⟨h1, h2, h3, h4⟩ := h
  refine ⟨fun c hc => ?_, fun b hb => ?_, ?_, fun hm => ⟨fun c hc => ?_, fun b hb => ?_, fun b i hb hi => ?_⟩⟩
  · obtain ⟨k1, k2, k3, k4, k5⟩ := h1 c hc; clear h1 h2 h4; refine ⟨?_, ?_, ?_, ?_, ?_⟩ <;> grind [wI, upd]
  · obtain ⟨k1, k2, k3⟩ := h2 b hb; clear h1 h2 h4; refine ⟨?_, ?_, ?_⟩ <;> grind [wI, upd]
  · grind [wI, upd]
  · have := (h4 hm).1 c hc; grind [wI, upd]
  · have := (h4 hm).2.1 b hb; grind [wI, upd]
  · have := (h4 hm).2.2 b i hb hi; grind [wI, upd]
theorem Rl.w7 (h : Rl D m I q P) (hA : nA D ≤ 10) (hB : nB D ≤ 4) {a : Nat} (v : Int32) (ha : a < 4) : Rl D m (wI I (q + 7) (a) v) q (upd P (127 + a) v) := by
  obtain ⟨h1, h2, h3, h4⟩ := h
  refine ⟨fun c hc => ?_, fun b hb => ?_, ?_, fun hm => ⟨fun c hc => ?_, fun b hb => ?_, fun b i hb hi => ?_⟩⟩
  · obtain ⟨k1, k2, k3, k4, k5⟩ := h1 c hc; clear h1 h2 h4; refine ⟨?_, ?_, ?_, ?_, ?_⟩ <;> grind [wI, upd]
  · obtain ⟨k1, k2, k3⟩ := h2 b hb; clear h1 h2 h4; refine ⟨?_, ?_, ?_⟩ <;> grind [wI, upd]
  · grind [wI, upd]
  · have := (h4 hm).1 c hc; grind [wI, upd]
  · have := (h4 hm).2.1 b hb; grind [wI, upd]
  · have := (h4 hm).2.2 b i hb hi; grind [wI, upd]
theorem Rl.w8 (h : Rl D m I q P) (hA : nA D ≤ 10) (hB : nB D ≤ 4) {a : Nat} (v : Int32) (ha : a < 4) : Rl D m (wI I (q + 8) (a) v) q (upd P (50 + 3 * a) v) := by
  obtain ⟨h1, h2, h3, h4⟩ := h
  refine ⟨fun c hc => ?_, fun b hb => ?_, ?_, fun hm => ⟨fun c hc => ?_, fun b hb => ?_, fun b i hb hi => ?_⟩⟩
  · obtain ⟨k1, k2, k3, k4, k5⟩ := h1 c hc; clear h1 h2 h4; refine ⟨?_, ?_, ?_, ?_, ?_⟩ <;> grind [wI, upd]
  · obtain ⟨k1, k2, k3⟩ := h2 b hb; clear h1 h2 h4; refine ⟨?_, ?_, ?_⟩ <;> grind [wI, upd]
  · grind [wI, upd]
  · have := (h4 hm).1 c hc; grind [wI, upd]
  · have := (h4 hm).2.1 b hb; grind [wI, upd]
  · have := (h4 hm).2.2 b i hb hi; grind [wI, upd]
theorem Rl.w9 (h : Rl D m I q P) (hA : nA D ≤ 10) (hB : nB D ≤ 4) {a : Nat} (v v' : Int32) (ha : a < 4) (hv : m = true → v = v') : Rl D m (wI I (q + 9) (a) v) q (upd P (51 + 3 * a) v') := by
  obtain ⟨h1, h2, h3, h4⟩ := h
  refine ⟨fun c hc => ?_, fun b hb => ?_, ?_, fun hm => ⟨fun c hc => ?_, fun b hb => ?_, fun b i hb hi => ?_⟩⟩
  · obtain ⟨k1, k2, k3, k4, k5⟩ := h1 c hc; clear h1 h2 h4; refine ⟨?_, ?_, ?_, ?_, ?_⟩ <;> grind [wI, upd]
  · obtain ⟨k1, k2, k3⟩ := h2 b hb; clear h1 h2 h4; refine ⟨?_, ?_, ?_⟩ <;> grind [wI, upd]
  · grind [wI, upd]
  · have := (h4 hm).1 c hc; grind [wI, upd]
  · have := (h4 hm).2.1 b hb; have := hv hm; grind [wI, upd]
  · have := (h4 hm).2.2 b i hb hi; have := hv hm; grind [wI, upd]
theorem Rl.w10 (h : Rl D m I q P) (hA : nA D ≤ 10) (hB : nB D ≤ 4) {a : Nat} (v v' : Int32) (ha : a < 4) (hv : m = true → v = v') : Rl D m (wI I (q + 10) (a) v) q (upd P (52 + 3 * a) v') := by
  obtain ⟨h1, h2, h3, h4⟩ := h
  refine ⟨fun c hc => ?_, fun b hb => ?_, ?_, fun hm => ⟨fun c hc => ?_, fun b hb => ?_, fun b i hb hi => ?_⟩⟩
  · obtain ⟨k1, k2, k3, k4, k5⟩ := h1 c hc; clear h1 h2 h4; refine ⟨?_, ?_, ?_, ?_, ?_⟩ <;> grind [wI, upd]
  · obtain ⟨k1, k2, k3⟩ := h2 b hb; clear h1 h2 h4; refine ⟨?_, ?_, ?_⟩ <;> grind [wI, upd]
  · grind [wI, upd]
  · have := (h4 hm).1 c hc; grind [wI, upd]
  · have := (h4 hm).2.1 b hb; have := hv hm; grind [wI, upd]
  · have := (h4 hm).2.2 b i hb hi; have := hv hm; grind [wI, upd]
theorem Rl.w11 (h : Rl D m I q P) (hA : nA D ≤ 10) (hB : nB D ≤ 4) {a : Nat} (v v' : Int32) (ha : a < 60) (hv : m = true → v = v') : Rl D m (wI I (q + 11) (a) v) q (upd P (63 + a) v') := by
  obtain ⟨h1, h2, h3, h4⟩ := h
  refine ⟨fun c hc => ?_, fun b hb => ?_, ?_, fun hm => ⟨fun c hc => ?_, fun b hb => ?_, fun b i hb hi => ?_⟩⟩
  · obtain ⟨k1, k2, k3, k4, k5⟩ := h1 c hc; clear h1 h2 h4; refine ⟨?_, ?_, ?_, ?_, ?_⟩ <;> grind [wI, upd]
  · obtain ⟨k1, k2, k3⟩ := h2 b hb; clear h1 h2 h4; refine ⟨?_, ?_, ?_⟩ <;> grind [wI, upd]
  · grind [wI, upd]
  · have := (h4 hm).1 c hc; grind [wI, upd]
  · have := (h4 hm).2.1 b hb; have := hv hm; grind [wI, upd]
  · have := (h4 hm).2.2 b i hb hi; have := hv hm; grind [wI, upd]
theorem Rl.w0 (h : Rl D m I q P) (hA : nA D ≤ 10) (hB : nB D ≤ 4) (v : Int32) : Rl D m (wI I q 11 v) q (upd P 62 v) := by
  obtain ⟨h1, h2, h3, h4⟩ := h
  refine ⟨fun c hc => ?_, fun b hb => ?_, ?_, fun hm => ⟨fun c hc => ?_, fun b hb => ?_, fun b i hb hi => ?_⟩⟩
  · obtain ⟨k1, k2, k3, k4, k5⟩ := h1 c hc; clear h1 h2 h4; refine ⟨?_, ?_, ?_, ?_, ?_⟩ <;> grind [wI, upd]
  · obtain ⟨k1, k2, k3⟩ := h2 b hb; clear h1 h2 h4; refine ⟨?_, ?_, ?_⟩ <;> grind [wI, upd]
  · grind [wI, upd]
  · have := (h4 hm).1 c hc; grind [wI, upd]
  · have := (h4 hm).2.1 b hb; grind [wI, upd]
  · have := (h4 hm).2.2 b i hb hi; grind [wI, upd]
theorem Rl.p10 (h : Rl D false I q P) (hA : nA D ≤ 10) (hB : nB D ≤ 4) {a : Nat} (v : Int32) (ha : a < 4) : Rl D false I q (upd P (52 + 3 * a) v) := by
  obtain ⟨h1, h2, h3, h4⟩ := h
  refine ⟨fun c hc => ?_, fun b hb => ?_, ?_, fun hm => by cases hm⟩
  · obtain ⟨k1, k2, k3, k4, k5⟩ := h1 c hc; clear h1 h2 h4; refine ⟨?_, ?_, ?_, ?_, ?_⟩ <;> grind [upd]
  · obtain ⟨k1, k2, k3⟩ := h2 b hb; clear h1 h2 h4; refine ⟨?_, ?_, ?_⟩ <;> grind [upd]
  · grind [upd]
end RLW
/-! reading -/
section CR
variable {D : TD} {C : TC} {m : Bool} {t q : Nat} {P : PR} {I : MI} {b a k : Nat}
theorem c_far (hD : OkD D C) (hR : Rl D m I q P) (hb : b < nB D) (ha : a < nA D) : x1_far q (Int32.ofNat b) (Int32.ofNat a) I = some (sfar P b a) := by
  have ra := hR.1 a ha
  have rb := hR.2.1 b hb
  have h1 := hD.a
  have h2 := hD.b
  simp (disch := omega) only [x1_far, QB, QN, ra.1, ra.2.1, rb.1, rb.2.1, iabs_c]
  rw [imax]
  rfl
theorem c_reaches (hD : OkD D C) (hT : Td I t D C) (hR : Rl D m I q P) (hb : b < nB D) (ha : a < nA D) : x1_reaches t q (Int32.ofNat b) (Int32.ofNat a) I = some (b2i (decide (P (5 * a + 2) < 0) && decide (¬ D 9 b < sfar P b a))) := by
  have ra := hR.1 a ha
  have h1 := hD.a
  have h2 := hD.b
  have e := hT.2.2.1 9 b (by omega) (by omega) hb
  simp (disch := omega) only [x1_reaches, QB, QN, ra.2.2.1, c_far hD hR hb ha, e]
  by_cases g1 : P (5 * a + 2) < 0 <;> by_cases g2 : D 9 b < sfar P b a <;> simp [g1, g2, b2i]
theorem c_rim (hT : Td I t D C) (x y : Int32) : x8_isRim t x y I = some (b2i (srim D x y)) := by
  simp only [x8_isRim, srim, hT.1.1, hT.1.2.1]
  by_cases g1 : x = 0 <;> by_cases g2 : x = D 0 0 - 1 <;> by_cases g3 : y = 0 <;> by_cases g4 : y = D 0 1 - 1 <;> simp [g1, g2, g3, g4, b2i]
theorem c_cell (hT : Td I t D C) (x y : Int32) : x8_isCell t x y I = some (b2i (scell D x y)) := by
  simp only [x8_isCell, scell, hT.1.1, hT.1.2.1, ← Int32.not_lt]
  by_cases g1 : x < 0 <;> by_cases g2 : x < D 0 0 <;> by_cases g3 : y < 0 <;> by_cases g4 : y < D 0 1 <;> simp [g1, g2, g3, g4, b2i]
/-- from w on, of k the first -/
def saf (P : PR) (x y : Int32) : Nat → Nat → Option Nat
  | _, 0 => none
  | w, k + 1 => if P (5 * w + 2) < 0 ∧ P (5 * w) = x ∧ P (5 * w + 1) = y then some w else saf P x y (w + 1) k
theorem saf_some {x y : Int32} : ∀ {k w c : Nat}, saf P x y w k = some c → w ≤ c ∧ c < w + k ∧ P (5 * c + 2) < 0 ∧ P (5 * c) = x ∧ P (5 * c + 1) = y
  | 0, w, c, h => by simp [saf] at h
  | k + 1, w, c, h => by
    simp only [saf] at h
    split at h
    · next hm => cases h; exact ⟨by omega, by omega, hm⟩
    · have := saf_some h
      exact ⟨by omega, by omega, this.2.2⟩
theorem saf_none {x y : Int32} : ∀ {k w : Nat}, saf P x y w k = none → ∀ c, w ≤ c → c < w + k → ¬ (P (5 * c + 2) < 0 ∧ P (5 * c) = x ∧ P (5 * c + 1) = y)
  | 0, w, h, c, h1, h2 => by omega
  | k + 1, w, h, c, h1, h2 => by
    simp only [saf] at h
    split at h
    · cases h
    · next hm =>
      by_cases e : c = w
      · subst e; exact hm
      · exact saf_none h c (by omega) (by omega)
theorem saf_sat (hP : OkP D P) {x y : Int32} : saf P x y 0 (nA D) = sat P x y (nA D) := by
  cases h : saf P x y 0 (nA D) with
  | some c =>
    obtain ⟨-, h1, h2, h3, h4⟩ := saf_some h
    exact (hP.fnd (by omega) h2 h3 h4).symm
  | none =>
    cases h' : sat P x y (nA D) with
    | none => rfl
    | some c =>
      obtain ⟨h1, h2⟩ := sat_some h'
      exact absurd h2 (saf_none h c (by omega) (by omega))
theorem c_ainL (hD : OkD D C) (hT : Td I t D C) (hR : Rl D m I q P) (x y : Int32) : ∀ (k w n : Nat), w + k = nA D → k < n → x1_appleIn_L3 t q x y I n (Int32.ofNat w) = some (match saf P x y w k with | some c => .inr (Int32.ofNat c) | none => .inl ()) := by
  have h1 := hD.a
  intro k
  induction k with
  | zero =>
    intro w n hw hn
    obtain ⟨n, rfl⟩ : ∃ n', n = n' + 1 := ⟨n - 1, by omega⟩
    simp (disch := omega) only [x1_appleIn_L3, x1_appleIn_L3s, hT.1.2.2.2.2.1, hD.2.1.1.1, QN, saf, if_neg (show ¬ w < nA D by omega)]
  | succ k ih =>
    intro w n hw hn
    obtain ⟨n, rfl⟩ : ∃ n', n = n' + 1 := ⟨n - 1, by omega⟩
    have ra := hR.1 w (by omega)
    have hi := ih (w + 1) n (by omega) (by omega)
    simp (disch := omega) only [x1_appleIn_L3, x1_appleIn_L3s, hT.1.2.2.2.2.1, hD.2.1.1.1, QB, QN, saf, if_pos (show w < nA D by omega), ra.1, ra.2.1, ra.2.2.1, hi]
    by_cases g1 : P (5 * w + 2) < 0 <;> by_cases g2 : P (5 * w) = x <;> by_cases g3 : P (5 * w + 1) = y <;> simp [g1, g2, g3, -Int32.ofNat_add]
theorem c_appleIn (hD : OkD D C) (hT : Td I t D C) (hR : Rl D m I q P) (hP : OkP D P) (x y : Int32) : x1_appleIn t q x y I = some (oi (sat P x y (nA D))) := by
  have h1 := hD.a
  have e := c_ainL hD hT hR x y (nA D) 0 FU (by omega) (by unfold FU; omega)
  rw [show Int32.ofNat 0 = 0 from rfl] at e
  simp only [x1_appleIn, QB, e, saf_sat hP]
  cases sat P x y (nA D) <;> rfl
theorem oi_m1 {n : Nat} {x y : Int32} (hn : n ≤ 10) : (oi (sat P x y n) = -1) = ((sat P x y n).isSome = false) := by
  cases h : sat P x y n with
  | none => simp [oi]
  | some c =>
    have := (sat_some h).1
    simp only [oi, q_m1 (show c < 2147483648 by omega)]
    simp
theorem c_signum {D : TD} {C : TC} (hD : OkD D C) (hP : OkP D P) (hb : b < nB D) (ha : a < nA D) (I : MI) : j6_signum_0f7a4 (sdx P b a) I = some (if sdx P b a = 0 then 0 else if sdx P b a < 0 then -1 else 1) ∧ j6_signum_0f7a4 (sdy P b a) I = some (if sdy P b a = 0 then 0 else if sdy P b a < 0 then -1 else 1) := by
  obtain ⟨⟨x, hx, e1⟩, ⟨y, hy, e2⟩, -⟩ := hP.1 a ha
  obtain ⟨⟨x', hx', e3⟩, ⟨y', hy', e4⟩⟩ := hP.2.2 b hb
  have h1 := hD.w
  have h2 := hD.h
  simp only [sdx, sdy, e1, e2, e3, e4, j6_signum_0f7a4]
  exact ⟨congrArg some (q_sg x (by omega) x' (by omega)), congrArg some (q_sg y (by omega) y' (by omega))⟩
theorem c_aim (hD : OkD D C) (hR : Rl D m I q P) (hP : OkP D P) (hb : b < nB D) (ha : a < nA D) : x1_aim q (Int32.ofNat b) (Int32.ofNat a) I = some (wI (wI I 27 2 (swx P b a)) 27 3 (swy P b a)) := by
  have ra := hR.1 a ha
  have rb := hR.2.1 b hb
  have h1 := hD.a
  have h2 := hD.b
  have hs := c_signum hD hP hb ha
  have hw := sway_all
  simp (disch := omega) only [x1_aim, QB, QN, ra.1, ra.2.1, rb.1, rb.2.1, iabs_c]
  rw [show P (5 * a) - P (123 + b) = sdx P b a from rfl, show P (5 * a + 1) - P (127 + b) = sdy P b a from rfl]
  simp only [(hs _).1, (hs _).2, QB, swx, swy]
  by_cases g1 : iabs (sdx P b a) < iabs (sdy P b a)
  · have g2 : ¬ sdy P b a = 0 := by
      obtain ⟨⟨x, hx, e1⟩, ⟨y, hy, e2⟩, -⟩ := hP.1 a ha
      obtain ⟨⟨x', hx', e3⟩, ⟨y', hy', e4⟩⟩ := hP.2.2 b hb
      have h1 := hD.w
      have h2 := hD.h
      have := (sway_all x (by omega) x' (by omega) y (by omega) y' (by omega)).1
      simp only [sdx, sdy, e1, e2, e3, e4] at g1 ⊢
      exact this g1
    simp [g1, g2, QB]
  · simp [g1, QB]
end CR
