/-! laws of rows, and of what is afloat where -/
theorem imax (x y : Int32) : (if x < y then y else x) = (if y < x then x else y) := by
  simp only [Int32.lt_iff_toInt_lt]
  split <;> split <;> first | rfl | omega | (apply Int32.toInt.inj; omega)
theorem iabs_c (x : Int32) : (if 0 ≤ x then x else 0 - x) = iabs x := by
  simp only [iabs, ← Int32.not_lt, Int32.zero_sub, q_nn]
theorem b2i_0 (g : Bool) : (b2i g = 0) = ¬ (g = true) := by cases g <;> simp [b2i]
theorem b2i_or (g : Bool) : (b2i g = 0 ∨ b2i g = 1) = True := by cases g <;> simp [b2i]
theorem q_sg : ∀ x, x < 6 → ∀ y, y < 6 → (((Int32.ofNat x - Int32.ofNat y) >>> ((31 : Int32) &&& 31)) ||| (((-(Int32.ofNat x - Int32.ofNat y))).toUInt32 >>> ((31 : Int32).toUInt32 &&& Int32.toUInt32 31)).toInt32) = (if Int32.ofNat x - Int32.ofNat y = 0 then 0 else if Int32.ofNat x - Int32.ofNat y < 0 then -1 else 1) := by decide +kernel
theorem sway_all0 : ∀ x, x < 6 → ∀ x', x' < 6 → (¬ (iabs (Int32.ofNat x - Int32.ofNat x') < 0) ∧ (0 < iabs (Int32.ofNat x - Int32.ofNat x') ∨ Int32.ofNat x - Int32.ofNat x' = 0)) := by decide +kernel
theorem sway_all (x : Nat) (hx : x < 6) (x' : Nat) (hx' : x' < 6) (y : Nat) (hy : y < 6) (y' : Nat) (hy' : y' < 6) : ((iabs (Int32.ofNat x - Int32.ofNat x') < iabs (Int32.ofNat y - Int32.ofNat y')) → ¬ Int32.ofNat y - Int32.ofNat y' = 0) ∧ ((Int32.ofNat x - Int32.ofNat x' = 0) → ¬ (iabs (Int32.ofNat x - Int32.ofNat x') < iabs (Int32.ofNat y - Int32.ofNat y')) → Int32.ofNat y - Int32.ofNat y' = 0) := by
  have h1 := sway_all0 x hx x' hx'
  have h2 := sway_all0 y hy y' hy'
  refine ⟨fun h e => ?_, fun h k => ?_⟩
  · rw [e] at h
    exact h1.1 h
  · rw [h] at k
    rcases h2.2 with h3 | h3
    · exact absurd h3 k
    · exact h3
theorem sat_none {P : PR} {x y : Int32} : ∀ {n : Nat}, sat P x y n = none → ∀ a, a < n → ¬ (P (5 * a + 2) < 0 ∧ P (5 * a) = x ∧ P (5 * a + 1) = y)
  | 0, _, a, h => absurd h (Nat.not_lt_zero a)
  | n + 1, h, a, ha => by
    simp only [sat] at h
    split at h
    · cases h
    · next hn =>
      by_cases e : a = n
      · subst e; exact hn
      · exact sat_none h a (by omega)
theorem sat_some {P : PR} {x y : Int32} : ∀ {n a : Nat}, sat P x y n = some a → a < n ∧ P (5 * a + 2) < 0 ∧ P (5 * a) = x ∧ P (5 * a + 1) = y
  | 0, a, h => by simp [sat] at h
  | n + 1, a, h => by
    simp only [sat] at h
    split at h
    · next hn =>
      cases h
      exact ⟨Nat.lt_succ_self n, hn⟩
    · obtain ⟨h1, h2⟩ := sat_some h
      exact ⟨by omega, h2⟩
theorem sat_is {P : PR} {x y : Int32} {n a : Nat} (ha : a < n) (hm : P (5 * a + 2) < 0 ∧ P (5 * a) = x ∧ P (5 * a + 1) = y) : ∃ c, sat P x y n = some c := by
  cases h : sat P x y n with
  | some c => exact ⟨c, rfl⟩
  | none => exact absurd hm (sat_none h a ha)
theorem OkP.un {D : TD} {P : PR} (h : OkP D P) {a c : Nat} (ha : a < nA D) (hc : c < nA D) (h1 : P (5 * a + 2) < 0) (h2 : P (5 * c + 2) < 0) (h3 : P (5 * a) = P (5 * c)) (h4 : P (5 * a + 1) = P (5 * c + 1)) : a = c := h.2.1 a c ha hc h1 h2 h3 h4
theorem OkP.fnd {D : TD} {P : PR} (h : OkP D P) {a : Nat} (ha : a < nA D) (h1 : P (5 * a + 2) < 0) {x y : Int32} (hx : P (5 * a) = x) (hy : P (5 * a + 1) = y) : sat P x y (nA D) = some a := by
  obtain ⟨c, hc⟩ := sat_is (n := nA D) ha ⟨h1, hx, hy⟩
  obtain ⟨h2, h3, h4, h5⟩ := sat_some hc
  rw [hc, h.un ha h2 h1 h3 (hx.trans h4.symm) (hy.trans h5.symm)]
theorem nWH {D : TD} {C : TC} (hD : OkD D C) : D 0 0 = Int32.ofNat (nW D) ∧ D 0 1 = Int32.ofNat (nH D) := ⟨hD.1.1.1, hD.1.2.1⟩
theorem scell_n {D : TD} {C : TC} (hD : OkD D C) {x y : Nat} (hx : x < nW D) (hy : y < nH D) : scell D (Int32.ofNat x) (Int32.ofNat y) = true := by
  have h1 := hD.w
  have h2 := hD.h
  simp (disch := omega) only [scell, (nWH hD).1, (nWH hD).2, QN]
  simp [hx, hy, q_le (a := 0) (b := x) (by omega) (by omega)]
  exact ⟨by rw [show (0 : Int32) = Int32.ofNat 0 from rfl, q_le (by omega) (by omega)]; omega, by rw [show (0 : Int32) = Int32.ofNat 0 from rfl, q_le (by omega) (by omega)]; omega⟩
theorem scell_i {D : TD} {C : TC} (hD : OkD D C) {x y : Int32} (h : scell D x y = true) : (∃ k, k < nW D ∧ x = Int32.ofNat k) ∧ (∃ k, k < nH D ∧ y = Int32.ofNat k) := by
  have h1 := hD.w
  have h2 := hD.h
  simp only [scell, (nWH hD).1, (nWH hD).2, decide_eq_true_eq] at h
  obtain ⟨h3, h4, h5, h6⟩ := h
  exact ⟨exn (by rw [Int32.not_lt]; exact h3) h4 (by omega), exn (by rw [Int32.not_lt]; exact h5) h6 (by omega)⟩
theorem sat_cell {D : TD} {C : TC} {P : PR} (hD : OkD D C) (hP : OkP D P) {x y : Int32} {a : Nat} (h : sat P x y (nA D) = some a) : scell D x y = true := by
  obtain ⟨h2, h3, h4, h5⟩ := sat_some h
  obtain ⟨⟨k, hk, e1⟩, ⟨j, hj, e2⟩, -⟩ := hP.1 a h2
  rw [← h4, ← h5, e1, e2]
  exact scell_n hD hk hj
theorem smv_x {P : PR} {p c : Nat} {x y : Int32} : smv P p x y (5 * c) = if c = p then x else P (5 * c) := by
  simp only [smv, upd]
  rw [if_neg (by omega)]
  split
  · next h => rw [if_pos (by omega)]
  · next h => rw [if_neg (by omega)]
theorem smv_y {P : PR} {p c : Nat} {x y : Int32} : smv P p x y (5 * c + 1) = if c = p then y else P (5 * c + 1) := by
  simp only [smv, upd]
  split
  · next h => rw [if_pos (by omega)]
  · next h => rw [if_neg (by omega), if_neg (by omega)]
theorem smv_o {P : PR} {p k : Nat} {x y : Int32} (h1 : k ≠ 5 * p) (h2 : k ≠ 5 * p + 1) : smv P p x y k = P k := by
  simp only [smv, upd, if_neg h1, if_neg h2]
theorem OkP.mv {D : TD} {P : PR} (hP : OkP D P) {p x y : Nat} (hp : p < nA D) (hp10 : nA D ≤ 10) (hx : x < nW D) (hy : y < nH D) (hs : sat P (Int32.ofNat x) (Int32.ofNat y) (nA D) = none) : OkP D (smv P p (Int32.ofNat x) (Int32.ofNat y)) := by
  refine ⟨fun a ha => ?_, fun a c ha hc => ?_, fun b hb => ?_⟩
  · obtain ⟨h1, h2, h3⟩ := hP.1 a ha
    rw [smv_x, smv_y, smv_o (by omega) (by omega), smv_o (by omega) (by omega)]
    refine ⟨?_, ?_, h3⟩
    · split
      · exact ⟨x, hx, rfl⟩
      · exact h1
    · split
      · exact ⟨y, hy, rfl⟩
      · exact h2
  · rw [smv_x, smv_y, smv_x, smv_y, smv_o (by omega) (by omega), smv_o (by omega) (by omega)]
    intro h1 h2 h3 h4
    have hn := sat_none hs
    by_cases e1 : a = p <;> by_cases e2 : c = p
    · rw [e1, e2]
    · rw [if_pos e1, if_neg e2] at h3 h4
      exact absurd ⟨h2, h3.symm, h4.symm⟩ (hn c hc)
    · rw [if_neg e1, if_pos e2] at h3 h4
      exact absurd ⟨h1, h3, h4⟩ (hn a ha)
    · rw [if_neg e1, if_neg e2] at h3 h4
      exact hP.2.1 a c ha hc h1 h2 h3 h4
  · rw [smv_o (by omega) (by omega), smv_o (by omega) (by omega)]
    exact hP.2.2 b hb
/-- the cell that it left is free -/
theorem sat_left {D : TD} {P : PR} (hP : OkP D P) {p : Nat} (hp : p < nA D) (ha : P (5 * p + 2) < 0) {x y : Int32} (hne : ¬ (x = P (5 * p) ∧ y = P (5 * p + 1))) : sat (smv P p x y) (P (5 * p)) (P (5 * p + 1)) (nA D) = none := by
  cases h : sat (smv P p x y) (P (5 * p)) (P (5 * p + 1)) (nA D) with
  | none => rfl
  | some c =>
    obtain ⟨h2, h3, h4, h5⟩ := sat_some h
    rw [smv_o (by omega) (by omega)] at h3
    rw [smv_x] at h4
    rw [smv_y] at h5
    by_cases e : c = p
    · rw [if_pos e] at h4 h5
      exact absurd ⟨h4, h5⟩ hne
    · rw [if_neg e] at h4 h5
      exact absurd (hP.un h2 hp h3 ha h4 h5) e
/-- another row that is the same as to apples' cells and who is afloat -/
theorem OkP.of {D : TD} {P P' : PR} (hP : OkP D P) (h1 : ∀ a, a < nA D → P' (5 * a) = P (5 * a) ∧ P' (5 * a + 1) = P (5 * a + 1)) (h2 : ∀ a, a < nA D → P' (5 * a + 2) < 0 → P (5 * a + 2) < 0) (h3 : ∀ a, a < nA D → P' (5 * a + 4) = P (5 * a + 4) ∨ (∃ z, z ≤ 99 ∧ P' (5 * a + 4) = Int32.ofNat z ∧ (P' (5 * a + 2) < 0 → 1 ≤ z))) (h4 : ∀ b, b < nB D → P' (123 + b) = P (123 + b) ∧ P' (127 + b) = P (127 + b)) : OkP D P' := by
  refine ⟨fun a ha => ?_, fun a c ha hc g1 g2 g3 g4 => ?_, fun b hb => ?_⟩
  · obtain ⟨g1, g2, g3⟩ := hP.1 a ha
    rw [(h1 a ha).1, (h1 a ha).2]
    refine ⟨g1, g2, ?_⟩
    rcases h3 a ha with e | e
    · obtain ⟨z, z1, z2, z3⟩ := g3
      exact ⟨z, z1, e.trans z2, fun h => z3 (h2 a ha h)⟩
    · exact e
  · rw [(h1 a ha).1, (h1 c hc).1] at g3
    rw [(h1 a ha).2, (h1 c hc).2] at g4
    exact hP.2.1 a c ha hc (h2 a ha g1) (h2 c hc g2) g3 g4
  · rw [(h4 b hb).1, (h4 b hb).2]
    exact hP.2.2 b hb
theorem i_step (x s : Int32) (n : Nat) : x + Int32.ofNat (n + 1) * s = x + Int32.ofNat n * s + s := by
  rw [Int32.ofNat_add, Int32.add_mul, ← Int32.add_assoc]
  congr 1
  exact Int32.one_mul s
theorem i_zero (x s : Int32) : x + Int32.ofNat 0 * s = x := by
  rw [show Int32.ofNat 0 = 0 from rfl, Int32.zero_mul, Int32.add_zero]
/-- the four ways -/
def isw (sx sy : Int32) : Prop := (sx = 1 ∧ sy = 0) ∨ (sx = -1 ∧ sy = 0) ∨ (sx = 0 ∧ sy = 1) ∨ (sx = 0 ∧ sy = -1)
theorem sway_isw {D : TD} {C : TC} {P : PR} (hD : OkD D C) (hP : OkP D P) {b a : Nat} (hb : b < nB D) (ha : a < nA D) (h : ¬ (sdx P b a = 0 ∧ sdy P b a = 0)) : isw (swx P b a) (swy P b a) := by
  obtain ⟨⟨x, hx, e1⟩, ⟨y, hy, e2⟩, -⟩ := hP.1 a ha
  obtain ⟨⟨x', hx', e3⟩, ⟨y', hy', e4⟩⟩ := hP.2.2 b hb
  have h1 := hD.w
  have h2 := hD.h
  have hs := sway_all x (by omega) x' (by omega) y (by omega) y' (by omega)
  simp only [sdx, sdy, swx, swy, isw, e1, e2, e3, e4] at *
  by_cases g1 : iabs (Int32.ofNat x - Int32.ofNat x') < iabs (Int32.ofNat y - Int32.ofNat y')
  · rw [if_pos g1, if_pos g1]
    by_cases g2 : Int32.ofNat y - Int32.ofNat y' < 0
    · rw [if_pos g2]; simp
    · rw [if_neg g2]; simp
  · rw [if_neg g1, if_neg g1]
    by_cases g3 : Int32.ofNat x - Int32.ofNat x' = 0
    · exact absurd ⟨g3, hs.2 g3 g1⟩ h
    · rw [if_neg g3]
      by_cases g2 : Int32.ofNat x - Int32.ofNat x' < 0
      · rw [if_pos g2]; simp
      · rw [if_neg g2]; simp
/-- who is where he is is pushed nowhere -/
theorem sway_zero {P : PR} {b a : Nat} (h : sdx P b a = 0 ∧ sdy P b a = 0) : swx P b a = 0 ∧ swy P b a = 0 := by
  simp [swx, swy, h.1, h.2]
theorem sway_ne {sx sy : Int32} (h : isw sx sy) : ¬ (sx = 0 ∧ sy = 0) := by
  rcases h with ⟨h1, h2⟩ | ⟨h1, h2⟩ | ⟨h1, h2⟩ | ⟨h1, h2⟩ <;> subst h1 <;> subst h2 <;> decide
theorem step_ne {x y sx sy : Int32} (h : isw sx sy) : ¬ (x + sx = x ∧ y + sy = y) := by
  intro ⟨h1, h2⟩
  refine sway_ne h ⟨?_, ?_⟩
  · have := congrArg (fun z => z - x) h1
    simpa [Int32.add_comm x sx, Int32.add_sub_cancel, Int32.sub_self] using this
  · have := congrArg (fun z => z - y) h2
    simpa [Int32.add_comm y sy, Int32.add_sub_cancel, Int32.sub_self] using this
theorem far6 : ∀ w, w ≤ 6 → ∀ x, x < w → (¬ (0 ≤ Int32.ofNat x + Int32.ofNat 6 * 1 ∧ Int32.ofNat x + Int32.ofNat 6 * 1 < Int32.ofNat w)) ∧ ¬ (0 ≤ Int32.ofNat x + Int32.ofNat 6 * (-1) ∧ Int32.ofNat x + Int32.ofNat 6 * (-1) < Int32.ofNat w) := by decide +kernel
theorem cell6 {D : TD} {C : TC} (hD : OkD D C) {x y : Nat} (hx : x < nW D) (hy : y < nH D) {sx sy : Int32} (h : isw sx sy) : scell D (Int32.ofNat x + Int32.ofNat 6 * sx) (Int32.ofNat y + Int32.ofNat 6 * sy) = false := by
  have h1 := far6 (nW D) hD.w x hx
  have h2 := far6 (nH D) hD.h y hy
  simp only [scell, (nWH hD).1, (nWH hD).2, decide_eq_false_iff_not]
  rcases h with ⟨e1, e2⟩ | ⟨e1, e2⟩ | ⟨e1, e2⟩ | ⟨e1, e2⟩ <;> subst e1 <;> subst e2
  · exact fun h => h1.1 ⟨h.1, h.2.1⟩
  · exact fun h => h1.2 ⟨h.1, h.2.1⟩
  · exact fun h => h2.1 h.2.2
  · exact fun h => h2.2 h.2.2
