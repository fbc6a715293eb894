/-! CALLS, 22: boxes; new states -/
def zbx (Z : AX) (b : Nat) (o : Option PR) : AX := (Z.1, Z.2.1, Z.2.2.1, Z.2.2.2.1, Z.2.2.2.2.1, (fun j => if j = b then o else zX Z j), Z.2.2.2.2.2.2)
section IN
variable {t : Nat} {I I' I1 I2 : MI} {L L' : ML} {R R' : MR} {S S' : MS} {D : TD} {C : TC} {P : PR} {Z : AX}
theorem RS.l158 (h : RS t R S) : 158 ≤ S.length := by
  obtain ⟨-, -, -, -, -, ⟨k, h6⟩, -⟩ := h
  omega
theorem RS.end12 (h : RS t R S) {c i q : Nat} (hd : dyn c i) (hq : R c i = some q) : q + 12 ≤ S.length := (h.2.2.2.2.2.2.1 c i q hd hq).2.2
/-- more states, the old ones as they were: all stands -/
theorem INV.grow (h : INV t I L R S D C P Z) (h1 : RS t R' S') (h2 : Gr R S R' S') (h3 : Old S.length I L I' L') : INV t I' L' R' S' D C P Z := by
  have hS := h.1
  have ht := hS.2.2.2.1
  have hl := hS.l158
  have hk : Kc t R I I' := ⟨fun c hc => (h3 c (by rcases ht with h | h <;> omega)).1, fun c i q d a1 a2 a3 a4 a5 => (h3 d (by have := hS.end12 a2 a3; omega)).1⟩
  obtain ⟨-, hc, hm, ha, hw⟩ := h.q hk Kr.refl
  obtain ⟨g1, g2, g3, g4, g5, g6, g7, g8, g9, g10⟩ := hc
  refine ⟨h1, ⟨g1, g2, g3, g4, g5, g6, g7, ?_, ?_, g10⟩, hm, ha, fun i hi => by rw [(h3 22 (by omega)).2]; exact hw.1 i hi, hw.2⟩
  · obtain ⟨od, r1, r2, r3, r4, r5⟩ := g8
    refine ⟨od, r1, r2, r3, r4, fun i hi => ?_⟩
    obtain ⟨q, q1, q2⟩ := r5 i hi
    exact ⟨q, h2.2 60 _ q (Or.inl ⟨rfl, Nat.mod_lt _ (by omega)⟩) q1, q2⟩
  · intro b hb
    rcases g9 b hb with ⟨r1, r2⟩ | ⟨Q, q, r1, r2, r3, r4⟩
    · exact Or.inl ⟨r1, r2⟩
    · exact Or.inr ⟨Q, q, r1, r2, h2.2 61 b q (Or.inr (Or.inl ⟨rfl, hb⟩)) r3, r4⟩
theorem INV.box (h : INV t I L R S D C P Z) {b q : Nat} (hb : b < 3) (hq : R 61 b = some q) (f1 : ∀ c, (c < q ∨ q + 11 < c) → c ≠ 62 → I1 c = I c) (n1 : Rl D true I1 q P) (n2 : I1 62 b = 1) (n3 : ∀ j, j ≠ b → I1 62 j = I 62 j) (f2 : ∀ c, c ≠ 137 → c ≠ 156 → c ≠ 157 → I2 c = I1 c) (m1 : I2 156 b = 1) (m2 : ∀ j, j ≠ b → I2 156 j = I1 156 j) (m3 : ∀ k, k < 123 → I2 157 (128 * b + k) = P k) (m4 : ∀ i, (∀ k, k < 123 → i ≠ 128 * b + k) → I2 157 i = I1 157 i) : INV t I2 L R S D C P (zbx Z b (some P)) := by
  obtain ⟨hS, hc, hm, ha, hw⟩ := h
  have ht := hS.2.2.2.1
  have hdb : dyn 61 b := Or.inr (Or.inl ⟨rfl, hb⟩)
  have hq90 := hS.q90 hdb hq
  have f : ∀ c, (c < 62 ∨ (62 < c ∧ c < 90) ∨ (102 ≤ c ∧ c < 137) ∨ (137 < c ∧ c < 156)) → I2 c = I c := fun c hc => (f2 c (by omega) (by omega) (by omega)).trans (f1 c (by omega) (by omega))
  have fd : ∀ c i q' d, (c = 60 ∨ c = 61) → dyn c i → R c i = some q' → ¬ (c = 61 ∧ i = b) → q' ≤ d → d ≤ q' + 11 → I2 d = I d := fun c i q' d r1 r2 r3 r6 r4 r5 => by
    have h90 := hS.q90 r2 r3
    have := hS.apart r2 hdb r3 hq r6
    exact (f2 d (by omega) (by omega) (by omega)).trans (f1 d (by omega) (by omega))
  have fq : ∀ d, q ≤ d → d ≤ q + 11 → I2 d = I1 d := fun d _ _ => f2 d (by omega) (by omega) (by omega)
  refine ⟨hS, ?_, ?_, ⟨ha.1, ha.2.1, ha.2.2.1, ha.2.2.2.1, ha.2.2.2.2.1, ha.2.2.2.2.2.1, ha.2.2.2.2.2.2.1, ha.2.2.2.2.2.2.2.1, fun j Q hj hQ => ?_⟩, hw.1, hw.2.c (f 106 (by omega))⟩
  · obtain ⟨g1, g2, g3, g4, g5, g6, g7, g8, g9, g10⟩ := hc
    have e : ∀ j, j ≤ 16 → I2 (t + j) = I (t + j) := fun j hj => f _ (by rcases ht with h | h <;> omega)
    have e0 : I2 t = I t := e 0 (by omega)
    obtain ⟨k1, k2, k3, k4, k5⟩ := g1
    have hc : ∀ s c, Cd I t s c → Cd I2 t s c := by
      intro s c ⟨st, g1, g2, g3, g4⟩
      exact ⟨st, by rw [e 15 (by omega)]; exact g1, by rw [e 16 (by omega)]; exact g2, g3, fun i h => by rw [e 14 (by omega)]; exact g4 i h⟩
    refine ⟨⟨by rw [e0]; exact k1, fun j a j1 j2 ha => by rw [e j (by omega)]; exact k2 j a j1 j2 ha, fun j b j1 j2 hb => by rw [e j (by omega)]; exact k3 j b j1 j2 hb, fun s hs => hc _ _ (k4 s hs), fun r hr => hc _ _ (k5 r hr)⟩, g2.fr (fun c r1 r2 => f c (by omega)), ⟨by rw [f 0 (by omega)]; exact g3.1, fun i hi => by rw [f 1 (by omega)]; exact g3.2 i hi⟩, by rw [f 20 (by omega)]; exact g4, by rw [f 0 (by omega)]; exact g5, ⟨by rw [f 0 (by omega)]; exact g6.1, fun i hi => by rw [f 89 (by omega)]; exact g6.2 i hi⟩, ⟨by rw [f 83 (by omega)]; exact g7.1, fun i j hi hj => by rw [f _ (by omega)]; exact g7.2 i j hi hj⟩, ?_, ?_, by rw [e 13 (by omega)]; exact g10⟩
    · obtain ⟨od, r1, r2, r3, r4, r5⟩ := g8
      refine ⟨od, r1, by rw [f 59 (by omega)]; exact r2, by rw [f 59 (by omega)]; exact r3, by rw [f 59 (by omega)]; exact r4, fun i hi => ?_⟩
      obtain ⟨q', q1, q2⟩ := r5 i hi
      exact ⟨q', q1, q2.fr (fun c s1 s2 => fd 60 _ q' c (Or.inl rfl) (Or.inl ⟨rfl, Nat.mod_lt _ (by omega)⟩) q1 (by omega) s1 s2)⟩
    · intro j hj
      have e62 : I2 62 = I1 62 := f2 62 (by omega) (by omega) (by omega)
      by_cases ej : j = b
      · subst ej
        exact Or.inr ⟨P, q, if_pos rfl, by rw [e62]; exact n2, hq, n1.fr (fun c s1 s2 => fq c s1 s2)⟩
      · have ez : zX (zbx Z b (some P)) j = zX Z j := if_neg ej
        rw [ez, e62, n3 j ej]
        rcases g9 j hj with ⟨r1, r2⟩ | ⟨Q, q', r1, r2, r3, r4⟩
        · exact Or.inl ⟨r1, r2⟩
        · exact Or.inr ⟨Q, q', r1, r2, r3, r4.fr (fun c s1 s2 => fd 61 j q' c (Or.inr rfl) (Or.inr (Or.inl ⟨rfl, hj⟩)) r3 (by omega) s1 s2)⟩
  · obtain ⟨g1, g2, g3, g4, g5, g6, g7, g8, g9, g10⟩ := hm
    obtain ⟨⟨a1, a2, a3, a4, a5, a6⟩, b2, b3, b4, b5⟩ := g1
    have f3 : I2 102 = I 102 := f 102 (by omega)
    have fb : ∀ c, c = 156 ∨ c = 157 → I1 c = I c := fun c hc => by
      by_cases hqc : c < q ∨ q + 11 < c
      · exact f1 c hqc (by omega)
      · omega
    refine ⟨⟨⟨by rw [f3]; exact a1, by rw [f3]; exact a2, by rw [f3]; exact a3, by rw [f3]; exact a4, by rw [f3]; exact a5, by rw [f3]; exact a6⟩, fun a ha => ?_, fun b hb => ?_, fun s hs => ?_, fun r hr => ?_⟩, ⟨fun k hk => by rw [f 138 (by omega)]; exact g2.1 k hk, fun b hb => by rw [f 130 (by omega)]; exact g2.2.1 b hb, fun b hb => by rw [f 131 (by omega)]; exact g2.2.2 b hb⟩, ⟨by rw [f3]; exact g3.1, fun i hi => by rw [f 103 (by omega)]; exact g3.2 i hi⟩, by rw [f3]; exact g4, by rw [f3]; exact g5, ⟨by rw [f3]; exact g6.1, fun i hi => by rw [f 149 (by omega)]; exact g6.2 i hi⟩, ⟨by rw [f3]; exact g7.1, fun i j hi hj => by rw [f _ (by omega)]; exact g7.2 i j hi hj⟩, ⟨by rw [f3]; exact g8.1, by rw [f3]; exact g8.2.1, fun i k hi hk => by rw [f 139 (by omega)]; exact g8.2.2.1 i k hi hk, fun i k hi hi2 hk => by rw [f 139 (by omega)]; exact g8.2.2.2 i k hi hi2 hk⟩, fun j hj => ?_, by rw [f3]; exact g10⟩
    · simp (disch := omega) only [f]; exact b2 a ha
    · simp (disch := omega) only [f]; exact b3 b hb
    · rw [f3]
      rcases b4 s hs with ⟨g1, g2⟩ | g
      · exact Or.inl ⟨g1, g2.fr (by simp (disch := omega) only [f]) (by simp (disch := omega) only [f]) (by simp (disch := omega) only [f])⟩
      · exact Or.inr g
    · exact (b5 r hr).fr (by simp (disch := omega) only [f]) (by simp (disch := omega) only [f]) (by simp (disch := omega) only [f])
    · by_cases ej : j = b
      · subst ej
        exact Or.inr ⟨P, if_pos rfl, m1, m3⟩
      · have ez : zX (zbx Z b (some P)) j = zX Z j := if_neg ej
        rw [ez, m2 j ej, fb 156 (Or.inl rfl)]
        rcases g9 j hj with r | ⟨Q, r1, r2, r3⟩
        · exact Or.inl r
        · exact Or.inr ⟨Q, r1, r2, fun k hk => by rw [m4 _ (fun k' hk' => by omega), fb 157 (Or.inr rfl)]; exact r3 k hk⟩
  · by_cases ej : j = b
    · have ez : zX (zbx Z b (some P)) j = some P := if_pos ej
      rw [ez] at hQ
      cases hQ
      exact ⟨ha.2.1, fun k _ _ => rfl⟩
    · have ez : zX (zbx Z b (some P)) j = zX Z j := if_neg ej
      rw [ez] at hQ
      exact ha.2.2.2.2.2.2.2.2 j Q hj hQ
end IN
