/-! COPIES: states, levels, the ring -/
theorem cpI_ne {I : MI} {a0 a b : Nat} {sp dp n : Int32} (h : b ≠ a) : cpI I a0 a sp dp n b = I b := by funext j; simp [cpI, h]
theorem cpI_at {I : MI} {a0 a j : Nat} {n : Int32} (h : j < n.toNatClampNeg) : cpI I a0 a 0 0 n a j = I a0 j := by
  have e0 : (0 : Int32).toNatClampNeg = 0 := rfl
  simp only [cpI, if_true, va_cpy, e0, Nat.zero_le, true_and, Nat.zero_add, Nat.sub_zero, if_pos h]
theorem RS.apart {t : Nat} {R : MR} {S : MS} (h : RS t R S) {c i c' i' q q' : Nat} (hd : dyn c i) (hd' : dyn c' i') (hq : R c i = some q) (hq' : R c' i' = some q') (hne : ¬ (c = c' ∧ i = i')) : q + 12 ≤ q' ∨ q' + 12 ≤ q := by
  obtain ⟨-, -, -, -, -, -, h7, h8, -⟩ := h
  have h1 := (h7 c i q hd hq).2.1
  have h2 := (h7 c' i' q' hd' hq').2.1
  have h3 : q ≠ q' := fun e => hne (h8 c i c' i' q hd hd' hq (by rw [e]; exact hq'))
  rcases h1 with rfl | ⟨k, rfl⟩ <;> rcases h2 with rfl | ⟨k', rfl⟩ <;> first | exact absurd rfl h3 | omega
section CP
variable {D : TD} {C : TC} {m : Bool} {P : PR} {I : MI} {q0 q1 : Nat}
theorem c_cpPlay (I : MI) (ha : q0 + 12 ≤ q1 ∨ q1 + 12 ≤ q0) : ∃ I', x7_copyPlay q0 q1 I = some I' ∧ (∀ j i, 1 ≤ j → j ≤ 5 → i < 10 → I' (q0 + j) i = I (q1 + j) i) ∧ (∀ j i, 6 ≤ j → j ≤ 10 → i < 4 → I' (q0 + j) i = I (q1 + j) i) ∧ I' q0 11 = I q1 11 ∧ ∀ c, (c < q0 ∨ q0 + 10 < c) → I' c = I c := by
  have e10 : (10 : Int32).toNatClampNeg = 10 := rfl
  have e4 : (4 : Int32).toNatClampNeg = 4 := rfl
  refine ⟨_, rfl, fun j i h1 h2 h3 => ?_, fun j i h1 h2 h3 => ?_, ?_, fun c hc => ?_⟩
  · have hh : j = 1 ∨ j = 2 ∨ j = 3 ∨ j = 4 ∨ j = 5 := by omega
    rcases hh with rfl | rfl | rfl | rfl | rfl <;> simp (disch := omega) only [wI_c, cpI_ne, cpI_at, e10]
  · have hh : j = 6 ∨ j = 7 ∨ j = 8 ∨ j = 9 ∨ j = 10 := by omega
    rcases hh with rfl | rfl | rfl | rfl | rfl <;> simp (disch := omega) only [wI_c, cpI_ne, cpI_at, e4]
  · rw [wI_at]
    simp (disch := omega) only [cpI_ne]
  · simp (disch := omega) only [wI_c, cpI_ne]
theorem c_copyPlay (hD : OkD D C) (hR : Rl D m I q1 P) (ha : q0 + 12 ≤ q1 ∨ q1 + 12 ≤ q0) : ∃ I', x7_copyPlay q0 q1 I = some I' ∧ Rl D false I' q0 P ∧ ∀ c, (c < q0 ∨ q0 + 10 < c) → I' c = I c := by
  have hA := hD.a
  have hB := hD.b
  obtain ⟨I', h1, h2, h3, h4, h5⟩ := c_cpPlay I ha
  refine ⟨I', h1, ⟨fun a ha => ?_, fun b hb => ?_, by rw [h4]; exact hR.2.2.1, fun h => by cases h⟩, h5⟩
  · rw [h2 1 a (by omega) (by omega) (by omega), h2 2 a (by omega) (by omega) (by omega), h2 3 a (by omega) (by omega) (by omega), h2 4 a (by omega) (by omega) (by omega), h2 5 a (by omega) (by omega) (by omega)]
    exact hR.1 a ha
  · rw [h3 6 b (by omega) (by omega) (by omega), h3 7 b (by omega) (by omega) (by omega), h3 8 b (by omega) (by omega) (by omega)]
    exact hR.2.1 b hb
theorem c_copyAll (hD : OkD D C) (hR : Rl D true I q1 P) (ha : q0 + 12 ≤ q1 ∨ q1 + 12 ≤ q0) : ∃ I', x7_copyAll q0 q1 I = some I' ∧ Rl D true I' q0 P ∧ ∀ c, (c < q0 ∨ q0 + 11 < c) → I' c = I c := by
  have hA := hD.a
  have hB := hD.b
  have e60 : (60 : Int32).toNatClampNeg = 60 := rfl
  obtain ⟨I', h1, h2, h3, h4, h5⟩ := c_cpPlay I ha
  refine ⟨cpI I' (q1 + 11) (q0 + 11) 0 0 60, by rw [x7_copyAll, h1]; rfl, ⟨fun a ha => ?_, fun b hb => ?_, ?_, fun _ => ⟨fun a ha => ?_, fun b hb => ?_, fun b i hb hi => ?_⟩⟩, fun c hc => ?_⟩
  · simp (disch := omega) only [cpI_ne]
    rw [h2 1 a (by omega) (by omega) (by omega), h2 2 a (by omega) (by omega) (by omega), h2 3 a (by omega) (by omega) (by omega), h2 4 a (by omega) (by omega) (by omega), h2 5 a (by omega) (by omega) (by omega)]
    exact hR.1 a ha
  · simp (disch := omega) only [cpI_ne]
    rw [h3 6 b (by omega) (by omega) (by omega), h3 7 b (by omega) (by omega) (by omega), h3 8 b (by omega) (by omega) (by omega)]
    exact hR.2.1 b hb
  · simp (disch := omega) only [cpI_ne]
    rw [h4]; exact hR.2.2.1
  · simp (disch := omega) only [cpI_ne]
    rw [h2 3 a (by omega) (by omega) (by omega)]
    exact (hR.2.2.2 rfl).1 a ha
  · simp (disch := omega) only [cpI_ne]
    rw [h3 9 b (by omega) (by omega) (by omega), h3 10 b (by omega) (by omega) (by omega)]
    exact (hR.2.2.2 rfl).2.1 b hb
  · rw [cpI_at (by rw [e60]; omega), h5 _ (by omega)]
    exact (hR.2.2.2 rfl).2.2 b i hb hi
  · rw [cpI_ne (by omega), h5 _ (by omega)]
/-! all as told -/
def Pt (D : TD) (P : PR) : Prop := (∀ a, a < nA D → P (5 * a) = D 1 a ∧ P (5 * a + 1) = D 2 a ∧ P (5 * a + 2) = -1 ∧ P (5 * a + 3) = 0 ∧ P (5 * a + 4) = D 3 a) ∧ (∀ b, b < nB D → P (50 + 3 * b) = D 10 b ∧ P (51 + 3 * b) = 0 ∧ P (52 + 3 * b) = 0 ∧ P (123 + b) = D 7 b ∧ P (127 + b) = D 8 b)
def Pt2 (D : TD) (P : PR) : Prop := P 62 = D 0 2 ∧ ∀ b i, b < nB D → i < 15 → P (63 + 15 * b + i) = 0
theorem j_fillL {a0 ln0 : Nat} {v : Int32} (hl : ln0 < 100) : ∀ (j w n : Nat) (I : MI), w + j = ln0 → j < n → ∃ I', j7_fill_53178_L5 a0 ln0 v (Int32.ofNat ln0) n (Int32.ofNat w) I = some I' ∧ (∀ i, w ≤ i → i < ln0 → I' a0 i = v) ∧ (∀ i, i < w → I' a0 i = I a0 i) ∧ ∀ c, c ≠ a0 → I' c = I c := by
  intro j
  induction j with
  | zero =>
    intro w n I hw hn
    obtain ⟨n, rfl⟩ : ∃ n', n = n' + 1 := ⟨n - 1, by omega⟩
    refine ⟨I, ?_, fun i h1 h2 => by omega, fun _ _ => rfl, fun _ _ => rfl⟩
    simp (disch := omega) only [j7_fill_53178_L5, j7_fill_53178_L5s, QN]
    rw [if_neg (by omega)]
  | succ j ih =>
    intro w n I hw hn
    obtain ⟨n, rfl⟩ : ∃ n', n = n' + 1 := ⟨n - 1, by omega⟩
    obtain ⟨I', h1, h2, h3, h4⟩ := ih (w + 1) n (wI I a0 w v) (by omega) (by omega)
    refine ⟨I', ?_, fun i g1 g2 => ?_, fun i hi => ?_, fun c hc => by rw [h4 c hc, wI_c hc]⟩
    · simp (disch := omega) only [j7_fill_53178_L5, j7_fill_53178_L5s, QN, QB, if_pos (show w < ln0 by omega)]
      exact h1
    · by_cases e : i = w
      · subst e; rw [h3 i (by omega), wI_at]
      · exact h2 i (by omega) g2
    · rw [h3 i (by omega), wI_ne (by omega)]
theorem j_fill {a0 ln0 : Nat} {v : Int32} (hl : ln0 < 100) (I : MI) : ∃ I', j7_fill_53178 a0 ln0 v I = some I' ∧ (∀ i, i < ln0 → I' a0 i = v) ∧ ∀ c, c ≠ a0 → I' c = I c := by
  obtain ⟨I', h1, h2, -, h4⟩ := j_fillL (a0 := a0) (v := v) hl ln0 0 FU I (by omega) (by unfold FU; omega)
  refine ⟨I', ?_, fun i hi => h2 i (by omega) hi, h4⟩
  rw [show Int32.ofNat 0 = 0 from rfl] at h1
  simp only [j7_fill_53178, QB, h1]
theorem c_begin {t : Nat} (hD : OkD D C) (hT : Td I t D C) (hq : isq t q0) (hp1 : Pt D P) (hp2 : Pt2 D P) : ∃ I', x7_begin q0 t I = some I' ∧ Rl D true I' q0 P ∧ ∀ c, (c < q0 ∨ q0 + 11 < c) → I' c = I c := by
  have hA := hD.a
  have hB := hD.b
  have e10 : (10 : Int32).toNatClampNeg = 10 := rfl
  have e4 : (4 : Int32).toNatClampNeg = 4 := rfl
  obtain ⟨ht, hq47⟩ := hq
  have ht28 : t ≤ 28 := by rcases ht with h | h <;> omega
  simp only [x7_begin, QB]
  obtain ⟨I3, f1, f2, f3⟩ := j_fill (a0 := q0 + 3) (ln0 := 10) (v := -1) (by omega) (cpI (cpI I (t + 1) (q0 + 1) 0 0 10) (t + 2) (q0 + 2) 0 0 10)
  simp only [f1, QB]
  obtain ⟨I4, g1, g2, g3⟩ := j_fill (a0 := q0 + 4) (ln0 := 10) (v := 0) (by omega) I3
  simp only [g1, QB]
  obtain ⟨I9, h1, h2, h3⟩ := j_fill (a0 := q0 + 9) (ln0 := 4) (v := 0) (by omega) (cpI (cpI (cpI (cpI I4 (t + 3) (q0 + 5) 0 0 10) (t + 7) (q0 + 6) 0 0 4) (t + 8) (q0 + 7) 0 0 4) (t + 10) (q0 + 8) 0 0 4)
  simp only [h1, QB]
  obtain ⟨I10, k1, k2, k3⟩ := j_fill (a0 := q0 + 10) (ln0 := 4) (v := 0) (by omega) I9
  simp only [k1, QB]
  obtain ⟨I11, l1, l2, l3⟩ := j_fill (a0 := q0 + 11) (ln0 := 60) (v := 0) (by omega) I10
  simp only [l1, QB]
  have up : ∀ c, (c < q0 ∨ q0 + 11 < c) → I11 c = I c := fun c hc => by
    rw [l3 c (by omega), k3 c (by omega), h3 c (by omega)]
    simp (disch := omega) only [cpI_ne]
    rw [g3 c (by omega), f3 c (by omega)]
    simp (disch := omega) only [cpI_ne]
  refine ⟨_, rfl, ⟨fun a ha => ?_, fun b hb => ?_, ?_, fun _ => ⟨fun a ha => ?_, fun b hb => ?_, fun b i hb hi => ?_⟩⟩, fun c hc => by rw [wI_c (by omega)]; exact up c hc⟩
  · obtain ⟨p1, p2, p3, p4, p5⟩ := hp1.1 a ha
    rw [p1, p2, p3, p4, p5]
    have t1 := hT.2.1 1 a (by omega) (by omega) ha
    have t2 := hT.2.1 2 a (by omega) (by omega) ha
    have t3 := hT.2.1 3 a (by omega) (by omega) ha
    refine ⟨?_, ?_, ?_, ?_, ?_⟩
    · rw [wI_c (by omega), l3 _ (by omega), k3 _ (by omega), h3 _ (by omega)]
      simp (disch := omega) only [cpI_ne]
      rw [g3 _ (by omega), f3 _ (by omega)]
      simp (disch := omega) only [cpI_ne, cpI_at, e10]
      exact t1
    · rw [wI_c (by omega), l3 _ (by omega), k3 _ (by omega), h3 _ (by omega)]
      simp (disch := omega) only [cpI_ne]
      rw [g3 _ (by omega), f3 _ (by omega)]
      simp (disch := omega) only [cpI_ne, cpI_at, e10]
      exact t2
    · rw [wI_c (by omega), l3 _ (by omega), k3 _ (by omega), h3 _ (by omega)]
      simp (disch := omega) only [cpI_ne]
      rw [g3 _ (by omega), f2 a (by omega)]
      simp
    · rw [wI_c (by omega), l3 _ (by omega), k3 _ (by omega), h3 _ (by omega)]
      simp (disch := omega) only [cpI_ne]
      rw [g2 a (by omega)]
    · rw [wI_c (by omega), l3 _ (by omega), k3 _ (by omega), h3 _ (by omega)]
      simp (disch := omega) only [cpI_ne, cpI_at, e10]
      rw [g3 _ (by omega), f3 _ (by omega)]
      simp (disch := omega) only [cpI_ne]
      exact t3
  · obtain ⟨p1, p2, p3, p4, p5⟩ := hp1.2 b hb
    rw [p1, p4, p5]
    have t1 := hT.2.2.1 7 b (by omega) (by omega) hb
    have t2 := hT.2.2.1 8 b (by omega) (by omega) hb
    have t3 := hT.2.2.1 10 b (by omega) (by omega) hb
    refine ⟨?_, ?_, ?_⟩
    · rw [wI_c (by omega), l3 _ (by omega), k3 _ (by omega), h3 _ (by omega)]
      simp (disch := omega) only [cpI_ne, cpI_at, e4]
      rw [g3 _ (by omega), f3 _ (by omega)]
      simp (disch := omega) only [cpI_ne]
      exact t1
    · rw [wI_c (by omega), l3 _ (by omega), k3 _ (by omega), h3 _ (by omega)]
      simp (disch := omega) only [cpI_ne, cpI_at, e4]
      rw [g3 _ (by omega), f3 _ (by omega)]
      simp (disch := omega) only [cpI_ne]
      exact t2
    · rw [wI_c (by omega), l3 _ (by omega), k3 _ (by omega), h3 _ (by omega)]
      simp (disch := omega) only [cpI_ne, cpI_at, e4]
      rw [g3 _ (by omega), f3 _ (by omega)]
      simp (disch := omega) only [cpI_ne]
      exact t3
  · rw [wI_at, up t (by omega), hT.1.2.2.1]
    exact hp2.1.symm
  · rw [(hp1.1 a ha).2.2.1, wI_c (by omega), l3 _ (by omega), k3 _ (by omega), h3 _ (by omega)]
    simp (disch := omega) only [cpI_ne]
    rw [g3 _ (by omega), f2 a (by omega)]
  · obtain ⟨p1, p2, p3, p4, p5⟩ := hp1.2 b hb
    rw [p2, p3]
    refine ⟨?_, ?_⟩
    · rw [wI_c (by omega), l3 _ (by omega), k3 _ (by omega), h2 b (by omega)]
    · rw [wI_c (by omega), l3 _ (by omega), k2 b (by omega)]
  · rw [hp2.2 b i hb hi, wI_c (by omega), l2 _ (by omega)]
end CP
