/-! THE CLASS'S PLAY does what the row's functions say -/
theorem Fc.refl {t q : Nat} {I : MI} : Fc t q I I := fun _ _ _ _ _ => rfl
theorem Fc.trans {t q : Nat} {I I' I'' : MI} (h : Fc t q I I') (k : Fc t q I' I'') : Fc t q I I'' := fun c h1 h2 h3 h4 => (k c h1 h2 h3 h4).trans (h c h1 h2 h3 h4)
theorem Fc.w {t q : Nat} {I I' : MI} (h : Fc t q I I') {c i : Nat} {v : Int32} (hc : c = 27 ∨ c = 46 ∨ c = t + 17 ∨ (q ≤ c ∧ c ≤ q + 11)) : Fc t q I (wI I' c i v) := fun d h1 h2 h3 h4 => by
  rw [wI_c (by omega)]
  exact h d h1 h2 h3 h4
theorem Td.fr {D : TD} {C : TC} {t q : Nat} {I I' : MI} (h : Td I t D C) (hq : isq t q) (hf : Fc t q I I') : Td I' t D C := by
  obtain ⟨ht, hq⟩ := hq
  have e : ∀ j, j ≤ 16 → I' (t + j) = I (t + j) := fun j hj => hf _ (by rcases ht with h | h <;> omega) (by rcases ht with h | h <;> omega) (by omega) (by rcases ht with h | h <;> omega)
  obtain ⟨h1, h2, h3, h4, h5⟩ := h
  have e0 : I' t = I t := e 0 (by omega)
  have hc : ∀ s c, Cd I t s c → Cd I' t s c := by
    intro s c ⟨st, g1, g2, g3, g4⟩
    exact ⟨st, by rw [e 15 (by omega)]; exact g1, by rw [e 16 (by omega)]; exact g2, g3, fun i h => by rw [e 14 (by omega)]; exact g4 i h⟩
  exact ⟨by rw [e0]; exact h1, fun j a j1 j2 ha => by rw [e j (by omega)]; exact h2 j a j1 j2 ha, fun j b j1 j2 hb => by rw [e j (by omega)]; exact h3 j b j1 j2 hb, fun s hs => hc _ _ (h4 s hs), fun r hr => hc _ _ (h5 r hr)⟩
theorem Rl.fr {D : TD} {m : Bool} {q : Nat} {P : PR} {I I' : MI} (h : Rl D m I q P) (hf : ∀ c, q ≤ c → c ≤ q + 11 → I' c = I c) : Rl D m I' q P := by
  have e : ∀ j, j ≤ 11 → I' (q + j) = I (q + j) := fun j hj => hf _ (by omega) (by omega)
  have e0 : I' q = I q := e 0 (by omega)
  obtain ⟨h1, h2, h3, h4⟩ := h
  refine ⟨fun a ha => ?_, fun b hb => ?_, by rw [e0]; exact h3, fun hm => ?_⟩
  · rw [e 1 (by omega), e 2 (by omega), e 3 (by omega), e 4 (by omega), e 5 (by omega)]; exact h1 a ha
  · rw [e 6 (by omega), e 7 (by omega), e 8 (by omega)]; exact h2 b hb
  · rw [e 3 (by omega), e 9 (by omega), e 10 (by omega), e 11 (by omega)]; exact h4 hm
section RLW
variable {D : TD} {m : Bool} {q : Nat} {P : PR} {I : MI}
theorem Rl.w1 (h : Rl D m I q P) (hA : nA D ≤ 10) {a : Nat} (v : Int32) (ha : a < 10) : Rl D m (wI I (q + 1) a v) q (upd P (5 * a) v) := by
  obtain ⟨h1, h2, h3, h4⟩ := h
  refine ⟨fun c hc => ?_, fun b hb => ?_, ?_, fun hm => ⟨fun c hc => ?_, fun b hb => ?_, fun b i hb hi => ?_⟩⟩
  · have := h1 c hc; grind [wI, upd]
  · have := h2 b hb; grind [wI, upd]
  · grind [wI, upd]
  · have := (h4 hm).1 c hc; grind [wI, upd]
  · have := (h4 hm).2.1 b hb; grind [wI, upd]
  · have := (h4 hm).2.2 b i hb hi; grind [wI, upd]
end RLW
