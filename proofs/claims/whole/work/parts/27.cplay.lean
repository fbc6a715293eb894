/-! THE CLASS'S PLAY, 4: got, pushed, missed, a try in earnest, a turn -/
/-- the State's cells and the game's own alone change -/
theorem Fc.td {D : TD} {C : TC} {t q : Nat} {I I' : MI} (hf : Fc t q I I') (hq : isq t q) (h : Td I t D C) : Td I' t D C := h.fr hq hf
theorem OkP.of2 {D : TD} {P P' : PR} (hP : OkP D P) (h : ∀ k, (∀ a, a < nA D → k ≠ 5 * a + 2 ∧ k ≠ 5 * a + 4) → (∃ a, a < nA D ∧ (k = 5 * a ∨ k = 5 * a + 1)) ∨ 123 ≤ k → P' k = P k) (h2 : ∀ a, a < nA D → P' (5 * a + 2) < 0 → P (5 * a + 2) < 0) (h3 : ∀ a, a < nA D → P' (5 * a + 4) = P (5 * a + 4) ∨ (∃ z, z ≤ 99 ∧ P' (5 * a + 4) = Int32.ofNat z ∧ (P' (5 * a + 2) < 0 → 1 ≤ z))) (hA : nA D ≤ 10) : OkP D P' := by
  refine hP.of (fun a ha => ⟨h _ (fun c hc => by omega) (Or.inl ⟨a, ha, Or.inl rfl⟩), h _ (fun c hc => by omega) (Or.inl ⟨a, ha, Or.inr rfl⟩)⟩) h2 h3 (fun b hb => ⟨h _ (fun c hc => by omega) (Or.inr (by omega)), h _ (fun c hc => by omega) (Or.inr (by omega))⟩)
section OKS
variable {D : TD} {C : TC} {P : PR} {b a k : Nat}
/-- what concerns neither apples nor where they kneel -/
theorem OkP.up (hP : OkP D P) {i : Nat} {v : Int32} (hA : nA D ≤ 10) (h1 : 50 ≤ i) (h2 : i < 123) : OkP D (upd P i v) := by
  refine hP.of (fun a ha => ?_) (fun a ha h => ?_) (fun a ha => Or.inl ?_) (fun b hb => ?_)
  · rw [upd_ne (by omega), upd_ne (by omega)]; exact ⟨rfl, rfl⟩
  · rw [upd_ne (by omega)] at h; exact h
  · rw [upd_ne (by omega)]
  · rw [upd_ne (by omega), upd_ne (by omega)]; exact ⟨rfl, rfl⟩
theorem OkP.um (hP : OkP D P) {v : Int32} (hA : nA D ≤ 10) (ha : a < nA D) : OkP D (upd P (5 * a + 3) v) := by
  refine hP.of (fun c hc => ?_) (fun c hc h => ?_) (fun c hc => Or.inl ?_) (fun b hb => ?_)
  · rw [upd_ne (by omega), upd_ne (by omega)]; exact ⟨rfl, rfl⟩
  · rw [upd_ne (by omega)] at h; exact h
  · rw [upd_ne (by omega)]
  · rw [upd_ne (by omega), upd_ne (by omega)]; exact ⟨rfl, rfl⟩
theorem OkP.uh (hP : OkP D P) {v : Int32} (hA : nA D ≤ 10) (ha : a < nA D) (hv : ¬ v < 0) : OkP D (upd P (5 * a + 2) v) := by
  refine hP.of (fun c hc => ?_) (fun c hc h => ?_) (fun c hc => ?_) (fun b hb => ?_)
  · rw [upd_ne (by omega), upd_ne (by omega)]; exact ⟨rfl, rfl⟩
  · by_cases e : c = a
    · subst e; rw [upd_at] at h; exact absurd h hv
    · rw [upd_ne (by omega)] at h; exact h
  · exact Or.inl (by rw [upd_ne (by omega)])
  · rw [upd_ne (by omega), upd_ne (by omega)]; exact ⟨rfl, rfl⟩
theorem OkP.uz (hP : OkP D P) {z : Nat} (hA : nA D ≤ 10) (ha : a < nA D) (hz : z ≤ 99) (h1 : P (5 * a + 2) < 0 → 1 ≤ z) : OkP D (upd P (5 * a + 4) (Int32.ofNat z)) := by
  refine hP.of (fun c hc => ?_) (fun c hc h => ?_) (fun c hc => ?_) (fun b hb => ?_)
  · rw [upd_ne (by omega), upd_ne (by omega)]; exact ⟨rfl, rfl⟩
  · rw [upd_ne (by omega)] at h; exact h
  · by_cases e : c = a
    · subst e; exact Or.inr ⟨z, hz, upd_at, fun h => h1 (by rw [upd_ne (by omega)] at h; exact h)⟩
    · exact Or.inl (by rw [upd_ne (by omega)])
  · rw [upd_ne (by omega), upd_ne (by omega)]; exact ⟨rfl, rfl⟩
theorem ofNat_nn (n : Nat) (h : n < 2147483648) : ¬ Int32.ofNat n < 0 := by rw [q_neg h]; exact id
theorem OkP.get (hP : OkP D P) (hA : nA D ≤ 10) (hB : nB D ≤ 4) (hb : b < nB D) (ha : a < nA D) : OkP D (sget P b a k) :=
  ((hP.up hA (by omega) (by omega)).uh hA ha (ofNat_nn b (by omega))).up hA (by omega) (by omega)
theorem OkP.psh (hD : OkD D C) {x y sx sy : Int32} (hw : isw sx sy) : ∀ (n : Nat) (P : PR), OkP D P → sat P (x + Int32.ofNat n * sx) (y + Int32.ofNat n * sy) (nA D) = none → (∀ j, j ≤ n → scell D (x + Int32.ofNat j * sx) (y + Int32.ofNat j * sy) = true) → OkP D (spsh D x y sx sy n P)
  | 0, P, hP, _, _ => hP
  | n + 1, P, hP, h1, h2 => by
    simp only [spsh]
    cases hs : sat P (x + Int32.ofNat n * sx) (y + Int32.ofNat n * sy) (nA D) with
    | none => exact OkP.psh hD hw n P hP hs (fun j hj => h2 j (by omega))
    | some p =>
      obtain ⟨g1, g2, g3, g4⟩ := sat_some hs
      obtain ⟨⟨x1, hx1, e1⟩, ⟨y1, hy1, e2⟩⟩ := scell_i hD (h2 (n + 1) (by omega))
      have hn := sat_left hP g1 g2 (x := x + Int32.ofNat (n + 1) * sx) (y := y + Int32.ofNat (n + 1) * sy) (by
        rw [g3, g4, i_step, i_step]
        exact step_ne hw)
      rw [g3, g4] at hn
      refine OkP.psh hD hw n _ ?_ hn (fun j hj => h2 j (by omega))
      rw [e1, e2] at h1 ⊢
      exact hP.mv g1 hD.a hx1 hy1 h1
/-- the row's facts: all in cells of the tub, then a cell that is free or none -/
theorem srow_ok (x y sx sy : Int32) : ∀ (f n : Nat), (∀ j, j < n → scell D (x + Int32.ofNat j * sx) (y + Int32.ofNat j * sy) = true) → (∀ j, j < srow D P x y sx sy f n → scell D (x + Int32.ofNat j * sx) (y + Int32.ofNat j * sy) = true) ∧ n ≤ srow D P x y sx sy f n ∧ srow D P x y sx sy f n ≤ n + f
  | 0, n, h => ⟨h, Nat.le_refl _, Nat.le_refl _⟩
  | f + 1, n, h => by
    simp only [srow]
    by_cases hc : (scell D (x + Int32.ofNat n * sx) (y + Int32.ofNat n * sy) && (sat P (x + Int32.ofNat n * sx) (y + Int32.ofNat n * sy) (nA D)).isSome) = true
    · rw [if_pos hc]
      obtain ⟨g1, g2, g3⟩ := srow_ok x y sx sy f (n + 1) (fun j hj => by
        by_cases e : j = n
        · subst e; simp only [Bool.and_eq_true] at hc; exact hc.1
        · exact h j (by omega))
      exact ⟨g1, by omega, by omega⟩
    · rw [if_neg hc]; exact ⟨h, Nat.le_refl _, by omega⟩
theorem srow_end (x y sx sy : Int32) : ∀ (f n : Nat), srow D P x y sx sy f n < n + f → ¬ ((scell D (x + Int32.ofNat (srow D P x y sx sy f n) * sx) (y + Int32.ofNat (srow D P x y sx sy f n) * sy) && (sat P (x + Int32.ofNat (srow D P x y sx sy f n) * sx) (y + Int32.ofNat (srow D P x y sx sy f n) * sy) (nA D)).isSome) = true)
  | 0, n, h => by simp [srow] at h
  | f + 1, n, h => by
    simp only [srow] at h ⊢
    by_cases hc : (scell D (x + Int32.ofNat n * sx) (y + Int32.ofNat n * sy) && (sat P (x + Int32.ofNat n * sx) (y + Int32.ofNat n * sy) (nA D)).isSome) = true
    · rw [if_pos hc] at h ⊢
      exact srow_end x y sx sy f (n + 1) (by omega)
    · rw [if_neg hc] at h ⊢; exact hc
/-- of an apple in the tub that is pushed somewhere: how long the row is, and what is behind it -/
theorem srow_7 (hD : OkD D C) (hP : OkP D P) (hb : b < nB D) (ha : a < nA D) (h0 : ¬ (sdx P b a = 0 ∧ sdy P b a = 0)) : ∀ r, r = srow D P (P (5 * a)) (P (5 * a + 1)) (swx P b a) (swy P b a) 7 0 → r ≤ 6 ∧ (∀ j, j < r → scell D (P (5 * a) + Int32.ofNat j * swx P b a) (P (5 * a + 1) + Int32.ofNat j * swy P b a) = true) ∧ (scell D (P (5 * a) + Int32.ofNat r * swx P b a) (P (5 * a + 1) + Int32.ofNat r * swy P b a) = true → r ≤ 5 ∧ sat P (P (5 * a) + Int32.ofNat r * swx P b a) (P (5 * a + 1) + Int32.ofNat r * swy P b a) (nA D) = none) := by
  intro r hr
  obtain ⟨⟨x, hx, e1⟩, ⟨y, hy, e2⟩, -⟩ := hP.1 a ha
  have hw := sway_isw hD hP hb ha h0
  obtain ⟨g1, -, g3⟩ := srow_ok (D := D) (P := P) (P (5 * a)) (P (5 * a + 1)) (swx P b a) (swy P b a) 7 0 (fun j hj => by omega)
  have g4 := srow_end (D := D) (P := P) (P (5 * a)) (P (5 * a + 1)) (swx P b a) (swy P b a) 7 0
  rw [← hr] at g1 g3 g4
  have c6 := cell6 hD hx hy hw
  rw [← e1, ← e2] at c6
  have hr6 : r ≤ 6 := by
    by_cases h : r ≤ 6
    · exact h
    · have := g1 6 (by omega)
      rw [c6] at this; cases this
  refine ⟨hr6, g1, fun hc => ?_⟩
  have hr5 : r ≤ 5 := by
    by_cases h : r = 6
    · rw [h, c6] at hc; cases hc
    · omega
  refine ⟨hr5, ?_⟩
  have := g4 (by omega)
  rw [hc] at this
  cases hs : sat P (P (5 * a) + Int32.ofNat r * swx P b a) (P (5 * a + 1) + Int32.ofNat r * swy P b a) (nA D) with
  | none => rfl
  | some c => rw [hs] at this; simp at this
theorem OkP.push (hD : OkD D C) (hP : OkP D P) (hb : b < nB D) (ha : a < nA D) : OkP D (spush D P b a) := by
  simp only [spush]
  by_cases h0 : sdx P b a = 0 ∧ sdy P b a = 0
  · rw [if_pos h0]; exact hP
  · rw [if_neg h0]
    obtain ⟨r1, r2, r3⟩ := srow_7 hD hP hb ha h0 _ rfl
    split
    · next hc =>
      obtain ⟨r4, r5⟩ := r3 hc
      exact OkP.psh hD (sway_isw hD hP hb ha h0) _ P hP r5 (fun j hj => by
        by_cases e : j = srow D P (P (5 * a)) (P (5 * a + 1)) (swx P b a) (swy P b a) 7 0
        · rw [e]; exact hc
        · exact r2 j (by omega))
    · exact hP
theorem OkP.mi1 (hP : OkP D P) (hA : nA D ≤ 10) (hB : nB D ≤ 4) (hb : b < nB D) (ha : a < nA D) : OkP D (smi1 P b a k) := (hP.up hA (by omega) (by omega)).um hA ha
theorem smi1_ne {i : Nat} (h1 : i ≠ 50 + 3 * b) (h2 : i ≠ 5 * a + 3) : smi1 P b a k i = P i := by
  simp only [smi1]
  rw [upd_ne h2, upd_ne h1]
/-- a piece that comes off an apple leaves a number -/
theorem bite_nat (hD : OkD D C) (hP : OkP D P) (hb : b < nB D) (ha : a < nA D) (h : 0 < P (5 * a + 4) - (D 11 b + 1)) : ∃ z, 1 ≤ z ∧ z ≤ 99 ∧ P (5 * a + 4) - (D 11 b + 1) = Int32.ofNat z := by
  obtain ⟨-, -, z, hz, e1, -⟩ := hP.1 a ha
  obtain ⟨-, -, -, -, ⟨m, hm, e2⟩, -⟩ := hD.2.2.2.2.1 b hb
  rw [e1, e2] at h ⊢
  have e3 : Int32.ofNat m + 1 = Int32.ofNat (m + 1) := (Int32.ofNat_add m 1).symm
  rw [e3] at h ⊢
  by_cases hzm : m + 1 ≤ z
  · rw [q_sub hzm] at h ⊢
    refine ⟨z - (m + 1), ?_, by omega, rfl⟩
    rw [show (0 : Int32) = Int32.ofNat 0 from rfl, q_lt (by omega) (by omega)] at h
    omega
  · exfalso
    rw [Int32.lt_iff_toInt_lt, Int32.toInt_sub, Int32.toInt_ofNat_of_lt (by omega), Int32.toInt_ofNat_of_lt (by omega), Int.bmod_eq_of_le (by omega) (by omega)] at h
    have : (0 : Int32).toInt = 0 := rfl
    omega
theorem OkP.miss (hD : OkD D C) (hP : OkP D P) (hb : b < nB D) (ha : a < nA D) : OkP D (smiss D P b a k) := by
  have hA := hD.a
  have hB := hD.b
  have h1 : OkP D (smi1 P b a k) := hP.mi1 hA hB hb ha
  simp only [smiss]
  split
  · split
    · next h =>
      obtain ⟨z, z1, z2, e⟩ := bite_nat hD hP hb ha h
      rw [e]
      exact (h1.uz hA ha z2 (fun _ => z1)).push hD hb ha
    · rw [upd_comm (by omega)]
      exact (h1.uh (v := 9) hA ha (by decide)).uz (z := 0) hA ha (by omega) (fun h => absurd h (by rw [upd_at]; decide))
  · split
    · exact h1.push hD hb ha
    · exact h1
theorem OkP.psec (hP : OkP D P) (hA : nA D ≤ 10) (hB : nB D ≤ 4) (hb : b < nB D) : OkP D (spsec P b k) := hP.up hA (by omega) (by omega)
theorem OkP.try0 (hD : OkD D C) (hP : OkP D P) (hb : b < nB D) (hk : k < 5) : OkP D (stry0 D C P b a k) := by
  have hA := hD.a
  have hB := hD.b
  exact ((((hP.up (i := 62) hA (by omega) (by omega)).psec hA hB hb).up hA (by omega) (by omega)).up hA (by omega) (by omega)).up hA (by omega) (by omega)
theorem OkP.trye (hD : OkD D C) (hP : OkP D P) (hb : b < nB D) (ha : a < nA D) (hk : k < 5) : OkP D (stry D C P b a k).2 := by
  have hA := hD.a
  have hB := hD.b
  have h := hP.try0 (a := a) hD hb hk
  simp only [stry]
  split
  · exact h.get hA hB hb ha
  · exact h.miss hD hb ha
theorem OkP.brea (hP : OkP D P) (hA : nA D ≤ 10) (hB : nB D ≤ 4) (hb : b < nB D) : OkP D (sbrea D P b) := (hP.up hA (by omega) (by omega)).up hA (by omega) (by omega)
theorem schs_scan {r : Nat} : ∀ {n u : Nat} {v : Int32}, schs D C P b r n = some (u, v) → scan D P b (u / 5) (u % 5) = true
  | 0, _, _, h => by simp [schs] at h
  | n + 1, u, v, h => by
    simp only [schs] at h
    split at h
    · next hs =>
      cases h' : schs D C P b r n with
      | none => rw [h'] at h; cases h; exact hs
      | some p =>
        obtain ⟨u', v'⟩ := p
        rw [h'] at h
        simp only [sbet] at h
        split at h
        · cases h; exact hs
        · cases h; exact schs_scan h'
    · exact schs_scan h
theorem OkP.turn {r : Nat} (hD : OkD D C) (hP : OkP D P) (hb : b < nB D) : OkP D (sturn D C P b r).2 := by
  have hA := hD.a
  have hB := hD.b
  simp only [sturn]
  cases h : schs D C P b r (5 * nA D) with
  | none => exact hP.brea hA hB hb
  | some p =>
    obtain ⟨u, v⟩ := p
    have := schs_lt h
    exact hP.trye hD hb (by omega) (by omega)
theorem OkP.all (hD : OkD D C) (hP : OkP D P) : ∀ n, n ≤ nB D → OkP D (sall D C n P).2
  | 0, _ => hP
  | n + 1, h => (OkP.all hD hP n (by omega)).turn hD (by omega)
end OKS
theorem q_pm {k : Nat} : Int32.ofNat k + (-1) = Int32.ofNat k - 1 := (Int32.sub_eq_add_neg (Int32.ofNat k) 1).symm
section CW
variable {D : TD} {C : TC} {m : Bool} {t q : Nat} {P : PR} {I : MI} {b a k : Nat}
theorem c_getBy (hD : OkD D C) (hR : Rl D m I q P) (hb : b < nB D) (ha : a < nA D) (hk : k < 5) : ∃ I', x1_getBy q (Int32.ofNat b) (Int32.ofNat a) (Int32.ofNat k) I = some I' ∧ Rl D m I' q (sget P b a k) ∧ Fc t q I I' := by
  have hA := hD.a
  have hB := hD.b
  have rb := hR.2.1 b hb
  have e1 : q + 9 ≠ q + 3 := by omega
  have e2 : q + 9 ≠ q + 8 := by omega
  simp (disch := omega) only [x1_getBy, QB, QN, rb.2.2, wI_c e1, wI_c e2]
  refine ⟨_, rfl, ?_, ((Fc.refl.w (by omega)).w (by omega)).w (by omega)⟩
  refine Rl.w9 (((hR.w8 hA hB _ (by omega)).w3 hA hB _ (by omega) ?_)) hA hB _ _ (by omega) ?_
  · rw [q_m1 (by omega), q_neg (by omega)]
  · intro hm
    rw [((hR.2.2.2 hm).2.1 b hb).1]
theorem c_rowL (hD : OkD D C) (hT : Td I t D C) (hR : Rl D m I q P) (hP : OkP D P) {x y sx sy : Int32} (hx : I 27 2 = sx) (hy : I 27 3 = sy) (h6 : scell D (x + Int32.ofNat 6 * sx) (y + Int32.ofNat 6 * sy) = false) : ∀ (j w n : Nat), w + j = 6 → j < n → x1_push_L33 t q x y I n (Int32.ofNat w) = some (Int32.ofNat (srow D P x y sx sy (j + 1) w)) := by
  have hA := hD.a
  intro j
  induction j with
  | zero =>
    intro w n hw hn
    obtain ⟨n, rfl⟩ : ∃ n', n = n' + 1 := ⟨n - 1, by omega⟩
    obtain rfl : w = 6 := by omega
    simp (disch := omega) only [x1_push_L33, x1_push_L33s, QN, srow, h6, Bool.false_and, Bool.false_eq_true, if_false]
    simp
  | succ j ih =>
    intro w n hw hn
    obtain ⟨n, rfl⟩ : ∃ n', n = n' + 1 := ⟨n - 1, by omega⟩
    simp (disch := omega) only [x1_push_L33, x1_push_L33s, QB, QN, if_pos (show w < 6 by omega), c_appleIn hD hT hR hP, hx, hy]
    simp only [oi_m1 (P := P) (x := x + Int32.ofNat w * sx) (y := y + Int32.ofNat w * sy) hA]
    rw [srow]
    cases hs : sat P (x + Int32.ofNat w * sx) (y + Int32.ofNat w * sy) (nA D) with
    | none => simp
    | some c =>
      simp only [Option.isSome_some, Bool.true_eq_false, if_false, sat_cell hD hP hs, Bool.and_self, if_true]
      exact ih (w + 1) n (by omega) (by omega)
theorem c_pshL (hD : OkD D C) (hq : isq t q) {x y sx sy : Int32} (hw : isw sx sy) : ∀ (k n : Nat) (P : PR) (I : MI), k < n → k ≤ 6 → Td I t D C → Rl D m I q P → OkP D P → I 27 2 = sx → I 27 3 = sy → sat P (x + Int32.ofNat k * sx) (y + Int32.ofNat k * sy) (nA D) = none → (∀ j, j ≤ k → scell D (x + Int32.ofNat j * sx) (y + Int32.ofNat j * sy) = true) →
    ∃ I', x1_push_L110 t q x y n (Int32.ofNat k - 1) I = some I' ∧ Rl D m I' q (spsh D x y sx sy k P) ∧ Fc t q I I' := by
  have hA := hD.a
  have hB := hD.b
  intro k
  induction k with
  | zero =>
    intro n P I hn hk hT hR hP hx hy h1 h2
    obtain ⟨n, rfl⟩ : ∃ n', n = n' + 1 := ⟨n - 1, by omega⟩
    refine ⟨I, ?_, hR, Fc.refl⟩
    rw [show Int32.ofNat 0 - 1 = -1 from rfl]
    simp only [x1_push_L110, x1_push_L110s]
    rw [if_pos (by decide)]
  | succ k ih =>
    intro n P I hn hk hT hR hP hx hy h1 h2
    obtain ⟨n, rfl⟩ : ∃ n', n = n' + 1 := ⟨n - 1, by omega⟩
    rw [q_ps]
    simp (disch := omega) only [x1_push_L110, x1_push_L110s, QB, QN, if_false, c_appleIn hD hT hR hP, hx, hy, spsh]
    cases hs : sat P (x + Int32.ofNat k * sx) (y + Int32.ofNat k * sy) (nA D) with
    | none =>
      simp only [oi, if_true, q_pm]
      exact ih n P I (by omega) (by omega) hT hR hP hx hy hs (fun j hj => h2 j (by omega))
    | some p =>
      obtain ⟨g1, g2, g3, g4⟩ := sat_some hs
      obtain ⟨⟨x1, hx1, e1⟩, ⟨y1, hy1, e2⟩⟩ := scell_i hD (h2 (k + 1) (by omega))
      have ra := hR.1 p g1
      have n1 : q + 2 ≠ q + 1 := by omega
      have n2 : (27 : Nat) ≠ q + 1 := by have := hq.2; omega
      have n3 : (27 : Nat) ≠ q + 2 := by have := hq.2; omega
      have hn := sat_left hP g1 g2 (x := x + Int32.ofNat (k + 1) * sx) (y := y + Int32.ofNat (k + 1) * sy) (by
        rw [g3, g4, i_step, i_step]
        exact step_ne hw)
      rw [g3, g4] at hn
      simp (disch := omega) only [oi, QB, QN, if_false, wI_c n1, wI_c n2, wI_c n3, ra.1, ra.2.1, hx, hy, q_pm]
      have f1 : Fc t q I (wI (wI I (q + 1) p (P (5 * p) + sx)) (q + 2) p (P (5 * p + 1) + sy)) := (Fc.refl.w (by omega)).w (by omega)
      have hR1 : Rl D m (wI (wI I (q + 1) p (P (5 * p) + sx)) (q + 2) p (P (5 * p + 1) + sy)) q (smv P p (x + Int32.ofNat (k + 1) * sx) (y + Int32.ofNat (k + 1) * sy)) := by
        rw [i_step, i_step, ← g3, ← g4]
        exact (hR.w1 hA hB _ (by omega)).w2 hA hB _ (by omega)
      have hP1 : OkP D (smv P p (x + Int32.ofNat (k + 1) * sx) (y + Int32.ofNat (k + 1) * sy)) := by
        rw [e1, e2] at h1 ⊢
        exact hP.mv g1 hD.a hx1 hy1 h1
      obtain ⟨I', k1, k2, k3⟩ := ih n _ _ (by omega) (by omega) (f1.td hq hT) hR1 hP1 (by rw [wI_c n3, wI_c n2]; exact hx) (by rw [wI_c n3, wI_c n2]; exact hy) hn (fun j hj => h2 j (by omega))
      exact ⟨I', k1, k2, f1.trans k3⟩
theorem c_push (hD : OkD D C) (hT : Td I t D C) (hR : Rl D m I q P) (hP : OkP D P) (hq : isq t q) (hb : b < nB D) (ha : a < nA D) (haf : P (5 * a + 2) < 0) (hx : I 27 2 = swx P b a) (hy : I 27 3 = swy P b a) : ∃ I', x1_push t q (Int32.ofNat a) I = some I' ∧ Rl D m I' q (spush D P b a) ∧ Fc t q I I' := by
  have hA := hD.a
  have ra := hR.1 a ha
  by_cases h0 : sdx P b a = 0 ∧ sdy P b a = 0
  · obtain ⟨z1, z2⟩ := sway_zero h0
    refine ⟨I, ?_, ?_, Fc.refl⟩
    · simp only [x1_push, hx, hy, z1, z2, if_true, QB]
    · rw [spush, if_pos h0]; exact hR
  · have hw := sway_isw hD hP hb ha h0
    have hne := sway_ne hw
    obtain ⟨⟨x, hx1, e1⟩, ⟨y, hy1, e2⟩, -⟩ := hP.1 a ha
    have c6 := cell6 hD hx1 hy1 hw
    rw [← e1, ← e2] at c6
    obtain ⟨r1, r2, r3⟩ := srow_7 hD hP hb ha h0 _ rfl
    have hrow : srow D P (P (5 * a)) (P (5 * a + 1)) (swx P b a) (swy P b a) 7 0 = if (scell D (P (5 * a)) (P (5 * a + 1)) && (sat P (P (5 * a)) (P (5 * a + 1)) (nA D)).isSome) = true then srow D P (P (5 * a)) (P (5 * a + 1)) (swx P b a) (swy P b a) 6 1 else 0 := by
      rw [srow, i_zero, i_zero]
    have hL := c_rowL hD hT hR hP hx hy c6 5 1 FU (by omega) (by unfold FU; omega)
    rw [show Int32.ofNat 1 = 1 from rfl] at hL
    have hif : (if swx P b a = 0 then (if swy P b a = 0 then some (Sum.inr I) else some (Sum.inl ())) else some (Sum.inl ()) : Option (Unit ⊕ MI)) = some (Sum.inl ()) := by
      by_cases g1 : swx P b a = 0
      · rw [if_pos g1, if_neg (fun g2 => hne ⟨g1, g2⟩)]
      · rw [if_neg g1]
    simp (disch := omega) only [x1_push, hx, hy, ra.1, ra.2.1]
    rw [hif]
    simp (disch := omega) only [QB, QN, ra.1, ra.2.1, hL, c_cell hT, b2i_0]
    have hin : (scell D (P (5 * a)) (P (5 * a + 1)) && (sat P (P (5 * a)) (P (5 * a + 1)) (nA D)).isSome) = true := by
      rw [hP.fnd ha haf rfl rfl, e1, e2, scell_n hD hx1 hy1]; rfl
    rw [if_pos hin] at hrow
    rw [← hrow]
    simp only [spush, if_neg h0]
    by_cases hc : scell D (P (5 * a) + Int32.ofNat (srow D P (P (5 * a)) (P (5 * a + 1)) (swx P b a) (swy P b a) 7 0) * swx P b a) (P (5 * a + 1) + Int32.ofNat (srow D P (P (5 * a)) (P (5 * a + 1)) (swx P b a) (swy P b a) 7 0) * swy P b a) = true
    · simp only [hc, if_true]
      obtain ⟨r4, r5⟩ := r3 hc
      obtain ⟨I', k1, k2, k3⟩ := c_pshL (m := m) (C := C) hD hq hw _ FU P I (by unfold FU; omega) r1 hT hR hP hx hy r5 (fun j hj => by
        by_cases e : j = srow D P (P (5 * a)) (P (5 * a + 1)) (swx P b a) (swy P b a) 7 0
        · rw [e]; exact hc
        · exact r2 j (by omega))
      rw [k1]
      exact ⟨I', rfl, k2, k3⟩
    · simp only [hc, Bool.false_eq_true, if_false]
      exact ⟨I, rfl, hR, Fc.refl⟩
theorem c_missBy (hD : OkD D C) (hT : Td I t D C) (hR : Rl D m I q P) (hP : OkP D P) (hq : isq t q) (hb : b < nB D) (ha : a < nA D) (hk : k < 5) (haf : P (5 * a + 2) < 0) : ∃ I', x1_missBy t q (Int32.ofNat b) (Int32.ofNat a) (Int32.ofNat k) I = some I' ∧ Rl D m I' q (smiss D P b a k) ∧ Fc t q I I' := by
  have hA := hD.a
  have hB := hD.b
  have ra := hR.1 a ha
  have rb := hR.2.1 b hb
  have n1 : q + 4 ≠ q + 8 := by omega
  have n2 : q + 5 ≠ q + 8 := by omega
  have n3 : q + 5 ≠ q + 4 := by omega
  have nt4 : t + 4 ≠ q + 8 ∧ t + 4 ≠ q + 4 := by have := hq.2; rcases hq.1 with h | h <;> omega
  have nt11 : t + 11 ≠ q + 8 ∧ t + 11 ≠ q + 4 := by have := hq.2; rcases hq.1 with h | h <;> omega
  have nt : t ≠ q + 8 ∧ t ≠ q + 4 := by have := hq.2; rcases hq.1 with h | h <;> omega
  have e4 := hT.2.1 4 a (by omega) (by omega) ha
  have e11 := hT.2.2.1 11 b (by omega) (by omega) hb
  have e3 := hT.1.2.2.2.1
  have f1 : Fc t q I (wI (wI I (q + 8) b (P (50 + 3 * b) - sbr k)) (q + 4) a (P (5 * a + 3) + 1)) := (Fc.refl.w (by omega)).w (by omega)
  have hR1 : Rl D m (wI (wI I (q + 8) b (P (50 + 3 * b) - sbr k)) (q + 4) a (P (5 * a + 3) + 1)) q (smi1 P b a k) := (hR.w8 hA hB _ (by omega)).w4 hA hB _ (by omega)
  have hP1 : OkP D (smi1 P b a k) := hP.mi1 hA hB hb ha
  have haf1 : smi1 P b a k (5 * a + 2) < 0 := by rw [smi1_ne (by omega) (by omega)]; exact haf
  have tail : ∀ (J : MI) (Q : PR), Fc t q I J → Rl D m J q Q → OkP D Q → Q (5 * a + 2) < 0 → (∃ I', (b1 (x1_aim q (Int32.ofNat b) (Int32.ofNat a) J) fun I17 => b1 (x1_push t q (Int32.ofNat a) I17) fun I18 => some I18) = some I' ∧ Rl D m I' q (spush D Q b a) ∧ Fc t q I I') := by
    intro J Q j1 j2 j3 j4
    have f2 : Fc t q J (wI (wI J 27 2 (swx Q b a)) 27 3 (swy Q b a)) := (Fc.refl.w (by omega)).w (by omega)
    have hq47 := hq.2
    obtain ⟨I', k1, k2, k3⟩ := c_push (m := m) (I := wI (wI J 27 2 (swx Q b a)) 27 3 (swy Q b a)) hD ((j1.trans f2).td hq hT) (j2.fr (fun c h1 h2 => by rw [wI_c (by omega), wI_c (by omega)])) j3 hq hb ha j4 (by simp [wI]) (by simp [wI])
    refine ⟨I', ?_, k2, (j1.trans f2).trans k3⟩
    rw [c_aim hD j2 j3 hb ha]
    simp only [QB, k1]
  simp (disch := omega) only [x1_missBy, QB, QN, rb.2.2, ra.2.2.2.1, wI_c n1, wI_c n2, wI_c n3, wI_c nt4.1, wI_c nt4.2, wI_c nt11.1, wI_c nt11.2, wI_c nt.1, wI_c nt.2, e4, e11, e3, ra.2.2.2.2]
  rw [show ([0, 0, 1, 3, 0] : List Int32).getD k 0 = sbr k from rfl]
  simp only [smiss]
  by_cases hk0 : k = 0
  · subst hk0
    simp only [if_true, true_and]
    by_cases hs : D 4 a < D 0 3
    · simp only [hs, not_true, if_true, if_false, QB, show (0 : Nat) < 2 from by omega]
      exact tail _ _ f1 hR1 hP1 haf1
    · simp only [hs, not_false_eq_true, if_true, if_false, QB]
      have e : P (5 * a + 4) - D 11 b - 1 = P (5 * a + 4) - (D 11 b + 1) := by simp only [Int32.sub_eq_add_neg, Int32.neg_add, Int32.add_assoc]
      simp only [wI_at, e]
      by_cases hv : 0 < P (5 * a + 4) - (D 11 b + 1)
      · have hv0 : ¬ P (5 * a + 4) - (D 11 b + 1) = 0 := fun h => by rw [h] at hv; exact absurd hv (by decide)
        simp only [if_pos hv, if_neg hv0, QB]
        obtain ⟨z, z1, z2, ez⟩ := bite_nat hD hP hb ha hv
        exact tail _ _ (f1.w (by omega)) (hR1.w5 hA hB _ (by omega)) (by rw [ez]; exact hP1.uz hA ha z2 (fun _ => z1)) (by rw [upd_ne (by omega)]; exact haf1)
      · simp only [if_neg hv, if_true, QB]
        refine ⟨_, rfl, ?_, (f1.w (by omega)).w (by omega)⟩
        refine (hR1.w5 hA hB _ (by omega)).w3 hA hB _ (by omega) ?_
        exact propext ⟨fun h => absurd h (by decide), fun h => absurd h (by decide)⟩
  · simp only [hk0, if_false, false_and, QB]
    by_cases hk1 : k = 1
    · subst hk1
      simp only [if_true, show (1 : Nat) < 2 from by omega]
      exact tail _ _ f1 hR1 hP1 haf1
    · simp only [hk1, if_false, show ¬ k < 2 from by omega]
      exact ⟨_, rfl, hR1, f1⟩
theorem c_breath (hD : OkD D C) (hT : Td I t D C) (hR : Rl D m I q P) (hb : b < nB D) : ∃ I', x1_takeBreath t q (Int32.ofNat b) I = some I' ∧ Rl D m I' q (sbrea D P b) ∧ Fc t q I I' := by
  have hA := hD.a
  have hB := hD.b
  have e10 := hT.2.2.1 10 b (by omega) (by omega) hb
  have n1 : q + 10 ≠ q + 8 := by omega
  simp (disch := omega) only [x1_takeBreath, QB, QN, e10, wI_c n1]
  refine ⟨_, rfl, ?_, (Fc.refl.w (by omega)).w (by omega)⟩
  refine (hR.w8 hA hB _ (by omega)).w10 hA hB _ _ (by omega) (fun hm => ?_)
  rw [((hR.2.2.2 hm).2.1 b hb).2]
/-- a try in earnest: he can try it -/
theorem c_try (hD : OkD D C) (hT : Td I t D C) (hR : Rl D m I q P) (hP : OkP D P) (hq : isq t q) (hb : b < nB D) (ha : a < nA D) (hk : k < 5) (haf : P (5 * a + 2) < 0) : ∃ I', x1_tryInEarnest t q (Int32.ofNat b) (Int32.ofNat a) (Int32.ofNat k) I = some (b2i (stry D C P b a k).1, I') ∧ Rl D m I' q (stry D C P b a k).2 ∧ Fc t q I I' := by
  have hA := hD.a
  have hB := hD.b
  obtain ⟨I1, h1, h2, h3⟩ := c_look hD hT hR hq hb ha
  have hf1 : Fg t I I1 := fun c _ h _ => h3 c h
  obtain ⟨I2, h4, h5⟩ := c_value (g := sight D P b a 0 0) hq.1 (show k < 11 by omega) ((hT.2.2.2.1 k hk).fg hq.1 hf1) (hD.2.2.2.2.2.2.1 k hk) h2
  have hf2 : Fg t I I2 := hf1.trans (fun c _ _ h => h5 c h)
  have hR2 := hR.fg hq hf2
  have es := hR2.2.2.1
  have n1 : q + 10 ≠ q := by omega
  have n2 : q + 11 ≠ q + 10 := by omega
  have n3 : q + 11 ≠ q := by omega
  have eod : sclamp (sval (C k) (sight D P b a 0 0)) = sodds D C P b a k := rfl
  have i1 : (Int32.ofNat b * 5 + Int32.ofNat k) * 3 = Int32.ofNat (15 * b + 3 * k) := by
    rw [q_muln, q_add, q_muln]; congr 1; omega
  have eg : (if sseed (P 62) / 10 < sodds D C P b a k then (1 : Int32) else 0) = if sgets D C P b a k then 1 else 0 := by simp [sgets]
  have hg0 : ((if sgets D C P b a k then (1 : Int32) else 0) = 0) = ¬ (sgets D C P b a k = true) := by by_cases h : sgets D C P b a k = true <;> simp [h]
  have hgg : (if ¬ (sgets D C P b a k = true) then (0 : Int32) else 1) = if sgets D C P b a k then 1 else 0 := by by_cases h : sgets D C P b a k = true <;> simp [h]
  have ess : P 62 * 137 + 71 - (P 62 * 137 + 71) / 1000 * 1000 = sseed (P 62) := rfl
  simp (disch := omega) only [x1_tryInEarnest, h1, h4, QB, QN, c_asOdds, eod, es, ess, wI_at, eg, wI_c n1, wI_c n2, wI_c n3, x7_recordAt, i1]
  have i3 : (b * 5 + k) * 3 = 15 * b + 3 * k := by omega
  have e63 : 63 + 15 * b + 3 * k = 63 + (15 * b + 3 * k) := by omega
  have st : ∀ J, Rl D m J q (stry0 D C P b a k) → Fc t q I J → (∃ I', (if sseed (P 62) / 10 < sodds D C P b a k then b1 (x1_getBy q (Int32.ofNat b) (Int32.ofNat a) (Int32.ofNat k) J) fun I27 => ck (¬ sseed (P 62) / 10 < sodds D C P b a k ∨ (if sgets D C P b a k = true then (1 : Int32) else 0) = 1) (some (if sgets D C P b a k = true then (1 : Int32) else 0, I27)) else b1 (x1_missBy t q (Int32.ofNat b) (Int32.ofNat a) (Int32.ofNat k) J) fun I25 => ck (¬ sseed (P 62) / 10 < sodds D C P b a k ∨ (if sgets D C P b a k = true then (1 : Int32) else 0) = 1) (some (if sgets D C P b a k = true then (1 : Int32) else 0, I25))) = some (b2i (stry D C P b a k).1, I') ∧ Rl D m I' q (stry D C P b a k).2 ∧ Fc t q I I') := by
    intro J j1 j2
    have hP0 := hP.try0 (a := a) (C := C) hD hb hk
    by_cases hg : sseed (P 62) / 10 < sodds D C P b a k
    · have hg' : sgets D C P b a k = true := by simp [sgets, hg]
      obtain ⟨I', k1, k2, k3⟩ := c_getBy (t := t) hD j1 hb ha hk
      refine ⟨I', ?_, ?_, j2.trans k3⟩
      · rw [if_pos hg, k1]
        simp [QB, hg', stry, b2i]
      · simp only [stry, hg', if_true]; exact k2
    · have hg' : sgets D C P b a k = false := by simp [sgets, hg]
      have haf0 : stry0 D C P b a k (5 * a + 2) < 0 := by
        simp only [stry0, srec, spsec]
        rw [upd_ne (by omega), upd_ne (by omega), upd_ne (by omega), upd_ne (by omega), upd_ne (by omega)]
        exact haf
      obtain ⟨I', k1, k2, k3⟩ := c_missBy hD (j2.td hq hT) j1 hP0 hq hb ha hk haf0
      refine ⟨I', ?_, ?_, j2.trans k3⟩
      · rw [if_neg hg, k1]
        simp [QB, hg', hg, stry, b2i]
      · simp only [stry, hg', Bool.false_eq_true, if_false]; exact k2
  simp only [i3]
  have R1 := hR2.w0 hA hB (sseed (P 62))
  have R2 := R1.w10 hA hB (a := b) (I2 (q + 10) b + ([1, 1, 2, 3, 1] : List Int32).getD k 0) (upd P 62 (sseed (P 62)) (52 + 3 * b) + ssec k) (by omega) (fun hm => by
    have := ((R1.2.2.2 hm).2.1 b hb).2
    rw [wI_c n1] at this
    rw [this]; rfl)
  have R3 := R2.w11 hA hB (a := 15 * b + 3 * k) (I2 (q + 11) (15 * b + 3 * k) + 1) (spsec (upd P 62 (sseed (P 62))) b k (63 + (15 * b + 3 * k)) + 1) (by omega) (fun hm => by
    have := (R2.2.2.2 hm).2.2 b (3 * k) hb (by omega)
    rw [wI_c n2, wI_c n3, e63] at this
    rw [this]; rfl)
  have R4 := R3.w11 hA hB (a := 15 * b + 3 * k + 1) (wI (wI (wI I2 q 11 (sseed (P 62))) (q + 10) b (I2 (q + 10) b + ([1, 1, 2, 3, 1] : List Int32).getD k 0)) (q + 11) (15 * b + 3 * k) (I2 (q + 11) (15 * b + 3 * k) + 1) (q + 11) (15 * b + 3 * k + 1) + if sgets D C P b a k = true then 1 else 0) (spsec (upd P 62 (sseed (P 62))) b k (63 + (15 * b + 3 * k) + 1) + if sgets D C P b a k then 1 else 0) (by omega) (fun hm => by
    have := (R3.2.2.2 hm).2.2 b (3 * k + 1) hb (by omega)
    rw [show 15 * b + (3 * k + 1) = 15 * b + 3 * k + 1 by omega, show 63 + 15 * b + (3 * k + 1) = 63 + (15 * b + 3 * k) + 1 by omega, upd_ne (by omega)] at this
    rw [this]; rfl)
  have R5 := R4.w11 hA hB (a := 15 * b + 3 * k + 2) (wI (wI (wI (wI I2 q 11 (sseed (P 62))) (q + 10) b (I2 (q + 10) b + ([1, 1, 2, 3, 1] : List Int32).getD k 0)) (q + 11) (15 * b + 3 * k) (I2 (q + 11) (15 * b + 3 * k) + 1)) (q + 11) (15 * b + 3 * k + 1) (wI (wI (wI I2 q 11 (sseed (P 62))) (q + 10) b (I2 (q + 10) b + ([1, 1, 2, 3, 1] : List Int32).getD k 0)) (q + 11) (15 * b + 3 * k) (I2 (q + 11) (15 * b + 3 * k) + 1) (q + 11) (15 * b + 3 * k + 1) + if sgets D C P b a k = true then 1 else 0) (q + 11) (15 * b + 3 * k + 2) + sodds D C P b a k) (spsec (upd P 62 (sseed (P 62))) b k (63 + (15 * b + 3 * k) + 2) + sodds D C P b a k) (by omega) (fun hm => by
    have := (R4.2.2.2 hm).2.2 b (3 * k + 2) hb (by omega)
    rw [show 15 * b + (3 * k + 2) = 15 * b + 3 * k + 2 by omega, show 63 + 15 * b + (3 * k + 2) = 63 + (15 * b + 3 * k) + 2 by omega, upd_ne (by omega), upd_ne (by omega)] at this
    rw [this]; rfl)
  refine st _ ?_ ?_
  · simp only [stry0, srec, e63]
    exact R5
  · exact hf2.c.trans (((((Fc.refl.w (by omega)).w (by omega)).w (by omega)).w (by omega)).w (by omega))
end CW
