/-! THE START: what holds after it, and the whole law -/
theorem start_all : ∃ (I : MI) (L : ML) (R : MR) (S : MS), lawSD = some (I, L, R, S) ∧ stO1 R S ∧ stO2 R ∧ stO3 I ∧ stO4 I ∧ stO5 I ∧ stO6 I ∧ stO7 L := by
  have h1 := st_1
  have h2 := st_2
  have h3 := st_3
  have h4 := st_4
  have h5 := st_5
  have h6 := st_6
  have h7 := st_7
  revert h1 h2 h3 h4 h5 h6 h7
  generalize lawSD = o
  intro h1 h2 h3 h4 h5 h6 h7
  cases o with
  | none => exact absurd h1 Bool.false_ne_true
  | some v =>
    obtain ⟨I, L, R, S⟩ := v
    exact ⟨I, L, R, S, rfl, of_decide_eq_true h1, of_decide_eq_true h2, of_decide_eq_true h3, of_decide_eq_true h4, of_decide_eq_true h5, of_decide_eq_true h6, of_decide_eq_true h7⟩
theorem b4_b4 {α β γ δ ε α' β' γ' δ' : Type} (f : Option (α × β × γ × δ)) (g : α → β → γ → δ → Option (α' × β' × γ' × δ')) (h : α' → β' → γ' → δ' → Option ε) : b4 (b4 f g) h = b4 f (fun a b c d => b4 (g a b c d) h) := by
  cases f with
  | none => rfl
  | some v => rfl
theorem b4_ckD {α β γ δ ε : Type} (P : Prop) [Decidable P] (o : Option (α × β × γ × δ)) (h : α → β → γ → δ → Option ε) : b4 (ckD P o) h = ckD P (b4 o h) := by
  by_cases hp : P
  · rw [ckD, ckD, if_pos hp, if_pos hp]
  · rw [ckD, ckD, if_neg hp, if_neg hp]; rfl
theorem lawF_b4 (xs : Nat → Int32) (len : Nat) : lawF xs len stI stL stR [] = b4 lawSD (fun I L R S => bE (lawF_L18 xs len FU 0 I L R S) (fun e => some ((1 : Int32), e.1, e.2.1, e.2.2.1, e.2.2.2))) := by
  rw [lawF, lawSD]
  simp only [al, b4_b4, b4_ckD, q_b4, q_l, e_x10_init, e_x11_init, ck_D]
theorem nlr_lt {f g : Nat → Option Nat} : ∀ n, (∀ j, j < n → g j = f j) → nlr g n = nlr f n
  | 0, _ => rfl
  | n + 1, h => by rw [nlr, nlr, nlr_lt n (fun j hj => h j (by omega)), h n (by omega)]
def stD : TD := fun j i => if j = 0 then (if i = 3 then 10 else 0) else 0
def stZ : AX := ((0, fun _ => 0, 0, -1), 0, [], (0, fun _ _ => 0), (0, 0, fun _ _ => 0), fun _ => none, 0)
theorem stD_A : nA stD = 0 := by decide
theorem stD_B : nB stD = 0 := by decide
theorem stD_R : nR stD = 0 := by decide
theorem stD_W : nW stD = 0 := by decide
theorem stD_H : nH stD = 0 := by decide
theorem st_rs {R : MR} {S : MS} (h1 : stO1 R S) (h2 : stO2 R) : RS 28 R S := by
  obtain ⟨hS, r0, rm, r27, r02⟩ := h1
  obtain ⟨r60, r61, r64, r90⟩ := h2
  have hd : ∀ c i q, dyn c i → R c i = some q → c = 60 ∧ i = 0 ∧ q = 90 := by
    intro c i q hd hq
    rcases hd with ⟨e, h⟩ | ⟨e, h⟩ | ⟨e, h⟩
    · subst e
      rw [r60 i h] at hq
      by_cases e : i = 0
      · rw [if_pos e] at hq
        exact ⟨rfl, e, (Option.some.inj hq).symm⟩
      · rw [if_neg e] at hq
        cases hq
    · subst e
      rw [r61 i h] at hq
      cases hq
    · subst e
      rw [r64 i h] at hq
      cases hq
  have hn : nl R = 52 := by
    rw [nl, nlr_lt (f := fun i => if i = 0 then some 90 else none) 41 (fun j hj => r60 j hj), nlr_lt (f := fun _ => none) 3 (fun j hj => r61 j hj), nlr_lt (f := fun _ => none) 9 (fun j hj => r64 j hj)]
    decide
  have hl : S.length = 158 := by rw [hS]; decide +kernel
  have hs : isSt R S 90 := by
    refine ⟨r90, ?_, ?_, ?_, ?_⟩ <;> rw [hS] <;> decide +kernel
  refine ⟨⟨⟨stk ++ tb_SM, by rw [hS, List.append_assoc]⟩, r0⟩, ⟨fun k kn hk => ?_, rm⟩, r27, Or.inr rfl, r02, ⟨0, hl⟩, fun c i q hc hq => ?_, fun c i c' i' q hc hc' hq hq' => ?_, by rw [hl, hn], by rw [hS, hn]⟩
  · rw [hS, List.getElem?_append_right (by rw [show (tb_S0 ++ stk).length = 102 by decide +kernel]; omega), show (tb_S0 ++ stk).length = 102 by decide +kernel, show 102 + k - 102 = k by omega]
    exact hk
  · obtain ⟨e1, e2, e3⟩ := hd c i q hc hq
    subst e3
    exact ⟨hs, Or.inl rfl, by rw [hl]; omega⟩
  · obtain ⟨e1, e2, -⟩ := hd c i q hc hq
    obtain ⟨e3, e4, -⟩ := hd c' i' q hc' hq'
    exact ⟨e1.trans e3.symm, e2.trans e4.symm⟩
theorem st_rl {I : MI} {q : Nat} (h : I q 11 = 0) : Rl stD true I q (fun _ => 0) :=
  ⟨fun a ha => by rw [stD_A] at ha; omega, fun b hb => by rw [stD_B] at hb; omega, h, fun _ => ⟨fun a ha => by rw [stD_A] at ha; omega, fun b hb => by rw [stD_B] at hb; omega, fun b i hb => by rw [stD_B] at hb; omega⟩⟩
theorem st_ci {I : MI} {R : MR} (h2 : stO2 R) (h3 : stO3 I) (h4 : stO4 I) : CI 28 I R stD (fun _ => [50]) (fun _ => 0) stZ := by
  obtain ⟨⟨a0, a1, a2, a3, a4, a11, a18⟩, hs, h42, h47, b1, b12, b14⟩ := h3
  obtain ⟨c8, c9, d6, ⟨e1, e2, e3⟩, f90, f62, f41⟩ := h4
  refine ⟨⟨⟨a0, a1, a2, a3, a4, a11, a18⟩, fun j a _ _ ha => by rw [stD_A] at ha; omega, fun j b _ _ hb => by rw [stD_B] at hb; omega, fun s h => ⟨0, (hs s h).1, (hs s h).2, (show 0 + 1 ≤ 640 by decide), fun i hi => ?_⟩, fun r hr => by rw [stD_R] at hr; omega⟩, st_rl h47, ⟨b1, fun i hi => absurd hi (Nat.not_lt_zero _)⟩, ⟨c8, c9⟩, b12, ⟨b14, fun i hi => absurd hi (Nat.not_lt_zero _)⟩, ⟨d6, fun i j hi _ => absurd hi (Nat.not_lt_zero _)⟩, ⟨0, by omega, e1, e2, e3, fun i hi => ⟨90, ?_, st_rl f90⟩⟩, fun b hb => Or.inl ⟨rfl, f62 b hb⟩, f41⟩
  · have e : i = 0 := by
      have : i < 1 := hi
      omega
    subst e
    exact h42
  · have e : i = 0 := Nat.le_zero.mp hi
    subst e
    rw [h2.1 ((0 + 0) % 41) (by decide)]
    rfl
theorem st_ri {I : MI} (h5 : stO5 I) (h6 : stO6 I) : RI I stD (fun _ => [50]) (fun _ => 0) stZ := by
  obtain ⟨⟨a56, a57, a58, a59, a60, a61, a65⟩, b1, b2, b3, b92, b85, b91, b71, b72, b21⟩ := h5
  obtain ⟨c138, c130, c156, -⟩ := h6
  refine ⟨⟨⟨a56, a57, a65, a60, a61, a59⟩, fun a ha => by rw [stD_A] at ha; omega, fun b hb => by rw [stD_B] at hb; omega, fun s hs => Or.inr ⟨?_, rfl⟩, fun r hr => by rw [stD_R] at hr; omega⟩, ⟨c138, fun b hb => (c130 b hb).1, fun b hb => (c130 b hb).2⟩, ⟨b1, fun i hi => absurd hi (Nat.not_lt_zero _)⟩, ⟨b2, b3⟩, b92, ⟨b85, fun i hi => absurd hi (Nat.not_lt_zero _)⟩, ⟨b91, fun i j hi _ => absurd hi (Nat.not_lt_zero _)⟩, ⟨b71, b72, fun i k hi _ => absurd hi (Nat.not_lt_zero _), fun i k _ hi _ => absurd hi (Nat.not_lt_zero _)⟩, fun b hb => Or.inl ⟨rfl, c156 b hb⟩, b21⟩
  rw [a58]
  have : s = 0 ∨ s = 1 ∨ s = 2 ∨ s = 3 ∨ s = 4 := by omega
  rcases this with e | e | e | e | e <;> subst e <;> decide
theorem st_wf : wfd [50] 0 1 := Or.inl ⟨by decide, by decide, by decide, by decide, rfl⟩
theorem st_okp : OkP stD (fun _ => 0) := ⟨fun a ha => by rw [stD_A] at ha; omega, fun a c ha => by rw [stD_A] at ha; omega, fun b hb => by rw [stD_B] at hb; omega⟩
theorem st_ai : AI stD (fun _ => [50]) (fun _ => 0) stZ := by
  refine ⟨⟨⟨⟨by decide, by rw [stD_W]; omega⟩, by decide, by rw [stD_H]; omega⟩, ⟨⟨by decide, by rw [stD_A]; omega⟩, ⟨by decide, by rw [stD_B]; omega⟩, by decide, by rw [stD_R]; omega⟩, fun a ha => by rw [stD_A] at ha; omega, fun a c ha => by rw [stD_A] at ha; omega, fun b hb => by rw [stD_B] at hb; omega, ⟨10, by omega, rfl⟩, fun _ _ => st_wf, fun r hr => by rw [stD_R] at hr; omega⟩, st_okp, fun b hb => by rw [stD_B] at hb; omega, ⟨Nat.zero_le _, fun i hi => absurd hi (Nat.not_lt_zero _)⟩, Nat.zero_le _, Nat.zero_le _, ⟨Nat.zero_le _, fun i hi => absurd hi (Nat.not_lt_zero _)⟩, ⟨Nat.zero_le _, fun i hi => ⟨st_okp, fun _ _ _ => rfl⟩, fun _ => rfl⟩, fun b Q _ h => by cases h⟩
theorem start_inv {I : MI} {L : ML} {R : MR} {S : MS} (h1 : stO1 R S) (h2 : stO2 R) (h3 : stO3 I) (h4 : stO4 I) (h5 : stO5 I) (h6 : stO6 I) (h7 : stO7 L) : St I L R S :=
  ⟨h2.1 0 (by omega), 28, stD, fun _ => [50], fun _ => 0, stZ, st_rs h1 h2, st_ci h2 h3 h4, st_ri h5 h6, st_ai, h7, fun s hs => ⟨0, by omega, h6.2.2.2 s hs⟩⟩
theorem st_size : tb_sz (tb_S0 ++ stk ++ tb_SM) ≤ 1000000 := by decide +kernel
theorem law_pure (xs : Nat → Int32) (len : Nat) (hl : len ≤ 3072) : ∃ (I : MI) (L : ML) (R : MR) (S : MS), lawF xs len (fun _ _ => 0) (fun _ _ => 0) (fun _ _ => none) [] = some (1, I, L, R, S) ∧ S.length ≤ 600000 ∧ tb_sz S ≤ 7302250 := by
  obtain ⟨I, L, R, S, e, h1, h2, h3, h4, h5, h6, h7⟩ := start_all
  obtain ⟨I', L', R', S', e2, r0', t, D, C, P, Z, hI'⟩ := law_loop (xs := xs) hl len 0 FU I L R S (by omega) (by omega) (by rw [FU]; omega) (start_inv h1 h2 h3 h4 h5 h6 h7)
  obtain ⟨-, -, -, -, -, -, -, -, g1, g2⟩ := hI'.1
  have hz := st_size
  refine ⟨I', L', R', S', ?_, by omega, by omega⟩
  have e3 := lawF_b4 xs len
  rw [e, q_b4] at e3
  refine e3.trans ?_
  have e4 : lawF_L18 xs len FU 0 I L R S = some (.inl (I', L', R', S')) := e2
  rw [e4, q_bEl]
