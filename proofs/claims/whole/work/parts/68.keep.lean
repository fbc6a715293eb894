/-! CALLS, 27: keeping what was, in the class's ring -/
section IN
variable {t : Nat} {I J : MI} {L : ML} {R : MR} {S : MS} {D : TD} {C : TC} {P P' : PR}
theorem c_keepC {od B : Nat} {H : Nat → PR} (h : RS t R S) (hD : OkD D C) (h1 : J 59 1 = Int32.ofNat od) (h2 : J 59 2 = Int32.ofNat B) (ho : od < 41) (hB : B ≤ 40) (hR : Rl D true J 47 P') (hq : ∀ i, i < B → ∃ q, R 60 ((od + i) % 41) = some q ∧ Rl D true J q (H i)) : ∃ q I1 L' R' S' I', x2_atHand J L R S = some (q, I1, L', R', S') ∧ x7_copyAll q 47 I1 = some I' ∧ isSt R' S' q ∧ RS t R' S' ∧ Gr R S R' S' ∧ Old S.length J L I1 L' ∧ R' 60 ((od + B) % 41) = some q ∧ (∀ i, i < B → ∃ q', R' 60 ((od + i) % 41) = some q' ∧ Rl D true I' q' (H i)) ∧ Rl D true I' q P' ∧ ∀ c, (c < q ∨ q + 11 < c) → I' c = I1 c := by
  obtain ⟨q, I1, L', R', S', k1, k2, k3, k4, k5⟩ := c_handN (L := L) h h1 h2 ho (by omega)
  have hl := h.l158
  have hd : ∀ i, dyn 60 ((od + i) % 41) := fun i => Or.inl ⟨rfl, Nat.mod_lt _ (by omega)⟩
  have h90 := k2.q90 (hd B) k5
  have hR1 : Rl D true I1 47 P' := hR.fr (fun c a b => (k4 c (by omega)).1)
  obtain ⟨I', c1, c2, c3⟩ := c_copyAll (q0 := q) (C := C) hD hR1 (by omega)
  refine ⟨q, I1, L', R', S', I', k1, c1, (k2.2.2.2.2.2.2.1 60 _ q (hd B) k5).1, k2, k3, k4, k5, fun i hi => ?_, c2, c3⟩
  obtain ⟨q', e1, e2⟩ := hq i hi
  have e3 := k3.2 60 _ q' (hd i) e1
  have hne : ¬ (60 = 60 ∧ (od + i) % 41 = (od + B) % 41) := by omega
  have hap := k2.apart (hd i) (hd B) e3 k5 hne
  have hen := h.end12 (hd i) e1
  exact ⟨q', e3, e2.fr (fun c a b => (c3 c (by omega)).trans (k4 c (by omega)).1)⟩
end IN
