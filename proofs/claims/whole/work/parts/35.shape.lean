/-! THE SHAPE: which states there are, where, and what room is left -/
def dyn (c i : Nat) : Prop := (c = 60 ∧ i < 41) ∨ (c = 61 ∧ i < 3) ∨ (c = 64 ∧ i < 9)
def nlr (f : Nat → Option Nat) : Nat → Nat
  | 0 => 0
  | n + 1 => nlr f n + if (f n).isNone = true then 1 else 0
def nl (R : MR) : Nat := nlr (R 60) 41 + nlr (R 61) 3 + nlr (R 64) 9
def stk : MS := [(7, 12), (13, 10), (13, 10), (13, 10), (13, 10), (13, 10), (13, 4), (13, 4), (13, 4), (13, 4), (13, 4), (13, 60)]
def RS (t : Nat) (R : MR) (S : MS) : Prop :=
  okr R S ∧ okm R S ∧ R 27 0 = some t ∧ isT t ∧ R 0 2 = some (30 - t) ∧ (∃ k, S.length = 158 + 12 * k) ∧
  (∀ c i q, dyn c i → R c i = some q → isSt R S q ∧ (q = 90 ∨ ∃ k, q = 158 + 12 * k) ∧ q + 12 ≤ S.length) ∧
  (∀ c i c' i' q, dyn c i → dyn c' i' → R c i = some q → R c' i' = some q → c = c' ∧ i = i') ∧
  S.length + 12 * nl R = 782 ∧ tb_sz S + 142 * nl R = tb_sz (tb_S0 ++ stk ++ tb_SM) + 142 * 52
/-- more states, the old ones where they were -/
def Gr (R : MR) (S : MS) (R' : MR) (S' : MS) : Prop := S.length ≤ S'.length ∧ ∀ c i q, dyn c i → R c i = some q → R' c i = some q
/-- old cells as they were -/
def Old (n : Nat) (I : MI) (L : ML) (I' : MI) (L' : ML) : Prop := ∀ a, a < n → I' a = I a ∧ L' a = L a
theorem Gr.refl {R : MR} {S : MS} : Gr R S R S := ⟨Nat.le_refl _, fun _ _ _ _ h => h⟩
theorem Gr.trans {R R' R'' : MR} {S S' S'' : MS} (h : Gr R S R' S') (k : Gr R' S' R'' S'') : Gr R S R'' S'' := ⟨Nat.le_trans h.1 k.1, fun c i q hd hq => k.2 c i q hd (h.2 c i q hd hq)⟩
theorem Old.refl {n : Nat} {I : MI} {L : ML} : Old n I L I L := fun _ _ => ⟨rfl, rfl⟩
theorem Old.trans {n m : Nat} {I I' I'' : MI} {L L' L'' : ML} (h : Old n I L I' L') (k : Old m I' L' I'' L'') (hnm : n ≤ m) : Old n I L I'' L'' := fun a ha => ⟨(k a (by omega)).1.trans (h a ha).1, (k a (by omega)).2.trans (h a ha).2⟩
theorem nlr_set {f g : Nat → Option Nat} {i : Nat} (hi : (f i).isNone = true) (hg : (g i).isNone = false) (ho : ∀ j, j ≠ i → g j = f j) : ∀ n, (i < n → nlr g n + 1 = nlr f n) ∧ (n ≤ i → nlr g n = nlr f n)
  | 0 => ⟨fun h => by omega, fun _ => rfl⟩
  | n + 1 => by
    obtain ⟨h1, h2⟩ := nlr_set hi hg ho n
    refine ⟨fun h => ?_, fun h => ?_⟩
    · simp only [nlr]
      by_cases e : n = i
      · subst e
        rw [hi, hg, h2 (Nat.le_refl _)]; simp
      · rw [ho n e]
        have := h1 (by omega)
        omega
    · simp only [nlr]
      rw [ho n (by omega), h2 (by omega)]
theorem nlr_congr {f g : Nat → Option Nat} (h : ∀ j, g j = f j) : ∀ n, nlr g n = nlr f n
  | 0 => rfl
  | n + 1 => by simp only [nlr, nlr_congr h n, h n]
theorem tb_sz_app (S S' : MS) : tb_sz (S ++ S') = tb_sz S + tb_sz S' := by simp [tb_sz]
theorem zI_c {I : MI} {a b : Nat} (h : b ≠ a) : zI I a b = I b := by funext j; simp [zI, h]
theorem zL_c {L : ML} {a b : Nat} (h : b ≠ a) : zL L a b = L b := by funext j; simp [zL, h]
theorem zR_c {R : MR} {a b : Nat} (h : b ≠ a) : zR R a b = R b := by funext j; simp [zR, h]
theorem st_new (I : MI) (L : ML) (R : MR) (S : MS) : ∃ I' L' R', x7_init S.length (zI I S.length) (zL L S.length) (zR R S.length) (S ++ [(7, 12)]) = some (I', L', R', S ++ stk) ∧ (∀ a, a < S.length → I' a = I a ∧ L' a = L a ∧ R' a = R a) ∧ (∀ j, j < 11 → R' S.length j = some (S.length + 1 + j)) := by
  have h7 : ∀ (r : MS), (S ++ ((7, 12) :: r))[S.length]? = some (7, 12) := fun r => by simp
  simp only [x7_init, al, List.append_assoc, List.cons_append, List.nil_append, h7, QB, List.length_append, List.length_cons, List.length_nil]
  refine ⟨_, _, _, rfl, fun a ha => ⟨?_, ?_, ?_⟩, fun j hj => ?_⟩
  · simp (disch := omega) only [zI_c]
  · simp (disch := omega) only [zL_c]
  · simp (disch := omega) only [zR_c, wR_off]
  · have hh : j = 0 ∨ j = 1 ∨ j = 2 ∨ j = 3 ∨ j = 4 ∨ j = 5 ∨ j = 6 ∨ j = 7 ∨ j = 8 ∨ j = 9 ∨ j = 10 := by omega
    rcases hh with rfl | rfl | rfl | rfl | rfl | rfl | rfl | rfl | rfl | rfl | rfl <;> simp [wR, zR]
/-- the lists of the static cells, in the first ones -/
theorem tb_S0_len : tb_S0.length = 90 := by decide +kernel
theorem tb_R0_cells : ∀ e ∈ tb_R0, e.1 < 90 ∧ ¬ (e.1 = 61) ∧ ¬ (e.1 = 64) ∧ ¬ (e.1 = 60 ∧ 0 < e.2.1) := by decide +kernel
theorem tb_RM_cells : ∀ e ∈ tb_RM, e.1 = 102 := by decide +kernel
theorem tb_SM_len : tb_SM.length = 56 := by decide +kernel
theorem isSt.ext {R R' : MR} {S : MS} {S' : MS} {q : Nat} (h : isSt R S q) (hq : R' q = R q) : isSt R' (S ++ S') q := by
  obtain ⟨h1, h2, h3, h4, h5⟩ := h
  have e : ∀ a kn, S[a]? = some kn → (S ++ S')[a]? = some kn := fun a kn ha => by
    rw [List.getElem?_append_left (List.getElem?_eq_some_iff.mp ha).1]; exact ha
  exact ⟨fun j hj => by rw [hq]; exact h1 j hj, e _ _ h2, fun j hj => e _ _ (h3 j hj), fun j hj => e _ _ (h4 j hj), e _ _ h5⟩
theorem isSt.lt {R : MR} {S : MS} {q : Nat} (h : isSt R S q) : q < S.length := (List.getElem?_eq_some_iff.mp h.2.1).1
/-- a state is made where there was none -/
theorem RS.new {t : Nat} {R : MR} {S : MS} (h : RS t R S) (I : MI) (L : ML) {c i : Nat} (hd : dyn c i) (hn : R c i = none) : ∃ I' L' R', x7_init S.length (zI I S.length) (zL L S.length) (zR R S.length) (S ++ [(7, 12)]) = some (I', L', R', S ++ stk) ∧ okr R' (S ++ stk) ∧ (S ++ stk)[S.length]? = some (7, 12) ∧ RS t (wR R' c i (some S.length)) (S ++ stk) ∧ Gr R S (wR R' c i (some S.length)) (S ++ stk) ∧ Old S.length I L I' L' ∧ (wR R' c i (some S.length)) c i = some S.length ∧ 158 ≤ S.length := by
  obtain ⟨h1, h2, h3, h4, h5, ⟨k, h6⟩, h7, h8, h9, h10⟩ := h
  obtain ⟨I', L', R', g1, g2, g3⟩ := st_new I L R S
  have hS0 : tb_S0 <+: S := h1.1
  have hc : c < 158 := by rcases hd with h | h | h <;> omega
  have hRo : ∀ a, a < S.length → R' a = R a := fun a ha => (g2 a ha).2.2
  have hr' : okr R' (S ++ stk) := ⟨List.IsPrefix.trans hS0 (List.prefix_append _ _), fun e he => by rw [hRo _ (by have := (tb_R0_cells e he).1; omega)]; exact h1.2 e he⟩
  have hwne : ∀ a j, (a ≠ c ∨ j ≠ i) → wR R' c i (some S.length) a j = R' a j := fun a j hh => by
    simp only [wR]
    split
    · split
      · omega
      · rfl
    · rfl
  have hwat : wR R' c i (some S.length) c i = some S.length := by simp [wR]
  have hst0 : ∀ e ∈ tb_R0, e.1 ≠ c ∨ e.2.1 ≠ i := by
    intro e he
    have hh := h1.2 e he
    by_cases hh2 : e.1 = c ∧ e.2.1 = i
    · rw [hh2.1, hh2.2, hn] at hh; cases hh
    · omega
  have hrow : ∀ q, q < S.length → q ≠ c → wR R' c i (some S.length) q = R q := fun q hq hqc => by
    funext j; rw [hwne _ _ (Or.inl hqc), hRo q hq]
  have hqc : ∀ q, (q = 90 ∨ ∃ k, q = 158 + 12 * k) → q ≠ c := fun q hq => by
    rcases hq with rfl | ⟨k, rfl⟩
    · rcases hd with h | h | h <;> omega
    · omega
  have hnew : isSt (wR R' c i (some S.length)) (S ++ stk) S.length := by
    refine ⟨fun j hj => by rw [hwne _ _ (Or.inl (by omega))]; exact g3 j hj, by simp [stk], fun j hj => ?_, fun j hj => ?_, ?_⟩
    · have hh : j = 0 ∨ j = 1 ∨ j = 2 ∨ j = 3 ∨ j = 4 := by omega
      rcases hh with rfl | rfl | rfl | rfl | rfl <;> rw [List.getElem?_append_right (by omega)] <;> simp [stk, Nat.add_sub_cancel_left, Nat.add_assoc]
    · have hh : j = 0 ∨ j = 1 ∨ j = 2 ∨ j = 3 ∨ j = 4 := by omega
      rcases hh with rfl | rfl | rfl | rfl | rfl <;> rw [List.getElem?_append_right (by omega)] <;> simp [stk, Nat.add_sub_cancel_left, Nat.add_assoc]
    · rw [List.getElem?_append_right (by omega)]; simp [stk, Nat.add_sub_cancel_left]
  have hget : ∀ c' i' q, dyn c' i' → wR R' c i (some S.length) c' i' = some q → (c' = c ∧ i' = i ∧ q = S.length) ∨ (¬ (c' = c ∧ i' = i) ∧ R c' i' = some q) := by
    intro c' i' q hd' hq
    by_cases e : c' = c ∧ i' = i
    · obtain ⟨rfl, rfl⟩ := e
      rw [hwat] at hq
      exact Or.inl ⟨rfl, rfl, by cases hq; rfl⟩
    · rw [hwne _ _ (by omega), hRo _ (by rcases hd' with h | h | h <;> omega)] at hq
      exact Or.inr ⟨e, hq⟩
  have hnl : nl (wR R' c i (some S.length)) + 1 = nl R := by
    have hin : (R c i).isNone = true := by rw [hn]; rfl
    have hig : (wR R' c i (some S.length) c i).isNone = false := by rw [hwat]; rfl
    have hoth : ∀ j, j ≠ i → wR R' c i (some S.length) c j = R c j := fun j hj => by rw [hwne _ _ (Or.inr hj), hRo c (by omega)]
    have hall : ∀ a, a ≠ c → a < 158 → ∀ j, wR R' c i (some S.length) a j = R a j := fun a ha1 ha2 j => by rw [hwne _ _ (Or.inl ha1), hRo a (by omega)]
    simp only [nl]
    rcases hd with ⟨rfl, hi⟩ | ⟨rfl, hi⟩ | ⟨rfl, hi⟩
    · rw [nlr_congr (hall 61 (by omega) (by omega)), nlr_congr (hall 64 (by omega) (by omega))]
      have := (nlr_set hin hig hoth 41).1 hi
      omega
    · rw [nlr_congr (hall 60 (by omega) (by omega)), nlr_congr (hall 64 (by omega) (by omega))]
      have := (nlr_set hin hig hoth 3).1 hi
      omega
    · rw [nlr_congr (hall 60 (by omega) (by omega)), nlr_congr (hall 61 (by omega) (by omega))]
      have := (nlr_set hin hig hoth 9).1 hi
      omega
  refine ⟨I', L', R', g1, hr', by simp [stk], ⟨?_, ?_, ?_, h4, ?_, ⟨k + 1, ?_⟩, ?_, ?_, ?_, ?_⟩, ⟨by simp, ?_⟩, fun a ha => ⟨(g2 a ha).1, (g2 a ha).2.1⟩, hwat, by omega⟩
  · refine ⟨hr'.1, fun e he => ?_⟩
    rw [hwne _ _ (hst0 e he)]
    exact hr'.2 e he
  · refine ⟨fun k' kn hk => ?_, fun e he => ?_⟩
    · have := h2.1 k' kn hk
      rw [List.getElem?_append_left (List.getElem?_eq_some_iff.mp this).1]; exact this
    · have := tb_RM_cells e he
      rw [hwne _ _ (Or.inl (by rcases hd with h | h | h <;> omega)), hRo _ (by omega)]; exact h2.2 e he
  · rw [hwne _ _ (Or.inl (by rcases hd with h | h | h <;> omega)), hRo 27 (by omega)]; exact h3
  · rw [hwne _ _ (Or.inl (by rcases hd with h | h | h <;> omega)), hRo 0 (by omega)]; exact h5
  · simp [stk]; omega
  · intro c' i' q hd' hq
    rcases hget c' i' q hd' hq with ⟨-, -, rfl⟩ | ⟨-, hq'⟩
    · exact ⟨hnew, Or.inr ⟨k, h6⟩, by simp [stk]⟩
    · obtain ⟨k1, k2, k3⟩ := h7 c' i' q hd' hq'
      exact ⟨k1.ext (hrow q (by omega) (hqc q k2)), k2, by simp [stk]; omega⟩
  · intro c1 i1 c2 i2 q d1 d2 q1 q2
    rcases hget c1 i1 q d1 q1 with ⟨r1, r2, r3⟩ | ⟨r1, r2⟩ <;> rcases hget c2 i2 q d2 q2 with ⟨s1, s2, s3⟩ | ⟨s1, s2⟩
    · exact ⟨r1.trans s1.symm, r2.trans s2.symm⟩
    · have := (h7 c2 i2 q d2 s2).2.2; omega
    · have := (h7 c1 i1 q d1 r2).2.2; omega
    · exact h8 c1 i1 c2 i2 q d1 d2 r2 s2
  · rw [List.length_append, show stk.length = 12 from rfl]; omega
  · rw [tb_sz_app, show tb_sz stk = 142 from rfl]; omega
  · intro c' i' q hd' hq
    by_cases e : c' = c ∧ i' = i
    · rw [e.1, e.2, hn] at hq; cases hq
    · rw [hwne _ _ (by omega), hRo _ (by rcases hd' with h | h | h <;> omega)]; exact hq
