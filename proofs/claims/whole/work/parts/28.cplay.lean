/-! THE CLASS'S PLAY, 5: a turn, a turn of all, waves, emptiness -/
section CT
variable {D : TD} {C : TC} {m : Bool} {t q : Nat} {P : PR} {I : MI} {b a k : Nat}
theorem scan_fl (h : scan D P b a k = true) : P (5 * a + 2) < 0 := by
  simp only [scan, Bool.and_eq_true, decide_eq_true_eq] at h
  exact h.1.1.1.1.1
theorem c_turn {r : Nat} (hD : OkD D C) (hT : Td I t D C) (hR : Rl D m I q P) (hP : OkP D P) (hq : isq t q) (hb : b < nB D) (hr : r < nR D ∨ nR D = 0) : ∃ I', x1_turnOf t q (Int32.ofNat b) (rul D r) I = some (b2i (sturn D C P b r).1, I') ∧ Rl D m I' q (sturn D C P b r).2 ∧ Fc t q I I' := by
  have hA := hD.a
  have hB := hD.b
  obtain ⟨I1, h1, h2⟩ := c_choose (C := C) hD hT hR hP hq hb hr
  simp only [x1_turnOf, h1, QB, sturn]
  cases hs : schs D C P b r (5 * nA D) with
  | none =>
    obtain ⟨I2, k1, k2, k3⟩ := c_breath (C := C) (q := q) hD (hT.fg hq h2) (hR.fg hq h2) hb
    simp only [cw, if_true, k1, QB]
    exact ⟨I2, rfl, k2, h2.c.trans k3⟩
  | some p =>
    obtain ⟨u, v⟩ := p
    have hu := schs_lt hs
    have hsc := schs_scan hs
    obtain ⟨I2, k1, k2, k3⟩ := c_try (C := C) (k := u % 5) hD (hT.fg hq h2) (hR.fg hq h2) hP hq hb (show u / 5 < nA D by omega) (by omega) (scan_fl hsc)
    have e1 : (10 * (u / 5) + u % 5) / 10 = u / 5 := by omega
    have e2 : (10 * (u / 5) + u % 5) % 10 = u % 5 := by omega
    simp (disch := omega) only [cw, QB, QN, if_false, e1, e2, k1]
    refine ⟨I2, ?_, k2, h2.c.trans k3⟩
    cases (stry D C P b (u / 5) (u % 5)).1 <;> simp [b2i]
theorem c_rul (hD : OkD D C) (hT : Td I t D C) (hb : b < nB D) : x8_ruleOf t (Int32.ofNat b) I = some (rul D (sby D b)) := by
  have hB := hD.b
  have e12 := hT.2.2.1 12 b (by omega) (by omega) hb
  obtain ⟨-, -, -, -, -, z, e1, e2⟩ := hD.2.2.2.2.1 b hb
  have hz : z < 6 := by have := hD.r; omega
  have h6 := hD.r
  simp (disch := omega) only [x8_ruleOf, hT.1.2.2.2.2.2.2, hD.2.1.2.2.1, QB, QN, e12, rul, sby, e1]
theorem sby_ok (hD : OkD D C) (hb : b < nB D) : sby D b < nR D ∨ nR D = 0 := by
  obtain ⟨-, -, -, -, -, z, e1, e2⟩ := hD.2.2.2.2.1 b hb
  have h6 := hD.r
  have : sby D b = z := by rw [sby, e1, q_ix (by omega)]
  omega
theorem c_allL (hD : OkD D C) (hq : isq t q) : ∀ (j w n : Nat) (I : MI) (P0 : PR), w + j = nB D → j < n → Td I t D C → Rl D m I q (sall D C w P0).2 → OkP D P0 → ∃ I', x1_turnOfAll_L4 t q n (sall D C w P0).1 (Int32.ofNat w) I = some ((sall D C (nB D) P0).1, I') ∧ Rl D m I' q (sall D C (nB D) P0).2 ∧ Fc t q I I' := by
  have hB := hD.b
  intro j
  induction j with
  | zero =>
    intro w n I P0 hw hn hT hR hP
    obtain ⟨n, rfl⟩ : ∃ n', n = n' + 1 := ⟨n - 1, by omega⟩
    obtain rfl : w = nB D := by omega
    refine ⟨I, ?_, hR, Fc.refl⟩
    simp (disch := omega) only [x1_turnOfAll_L4, x1_turnOfAll_L4s, hT.1.2.2.2.2.2.1, hD.2.1.2.1.1, QN]
    simp
  | succ j ih =>
    intro w n I P0 hw hn hT hR hP
    obtain ⟨n, rfl⟩ : ∃ n', n = n' + 1 := ⟨n - 1, by omega⟩
    obtain ⟨I1, k1, k2, k3⟩ := c_turn (r := sby D w) hD hT hR (hP.all hD w (by omega)) hq (show w < nB D by omega) (sby_ok hD (by omega))
    obtain ⟨I2, g1, g2, g3⟩ := ih (w + 1) n I1 P0 (by omega) (by omega) (k3.td hq hT) k2 hP
    refine ⟨I2, ?_, g2, k3.trans g3⟩
    simp (disch := omega) only [x1_turnOfAll_L4, x1_turnOfAll_L4s, hT.1.2.2.2.2.2.1, hD.2.1.2.1.1, QB, QN, if_pos (show w < nB D by omega), c_rul hD hT (show w < nB D by omega), k1]
    exact g1
theorem c_all (hD : OkD D C) (hT : Td I t D C) (hR : Rl D m I q P) (hP : OkP D P) (hq : isq t q) : ∃ I', x1_turnOfAll t q I = some ((sall D C (nB D) P).1, I') ∧ Rl D m I' q (sall D C (nB D) P).2 ∧ Fc t q I I' := by
  have hB := hD.b
  obtain ⟨I', h1, h2, h3⟩ := c_allL (m := m) (C := C) hD hq (nB D) 0 FU I P (by omega) (by unfold FU; omega) hT hR hP
  refine ⟨I', ?_, h2, h3⟩
  rw [show (sall D C 0 P).1 = 0 from rfl, show Int32.ofNat 0 = 0 from rfl] at h1
  simp only [x1_turnOfAll, QB, h1]
/-- how many are in the tub, of the first n -/
def scnt (P : PR) : Nat → Nat
  | 0 => 0
  | n + 1 => scnt P n + if P (5 * n + 2) < 0 then 1 else 0
theorem scnt_le : ∀ n, scnt P n ≤ n
  | 0 => Nat.le_refl _
  | n + 1 => by simp only [scnt]; have := scnt_le n; split <;> omega
theorem scnt_0 : ∀ {n : Nat}, scnt P n = 0 ↔ ∀ a, a < n → ¬ P (5 * a + 2) < 0
  | 0 => ⟨fun _ a h => by omega, fun _ => rfl⟩
  | n + 1 => by
    simp only [scnt]
    refine ⟨fun h a ha => ?_, fun h => ?_⟩
    · by_cases e : a = n
      · subst e; intro hc; rw [if_pos hc] at h; omega
      · exact (scnt_0 (n := n)).mp (by omega) a (by omega)
    · rw [if_neg (h n (by omega)), (scnt_0 (n := n)).mpr (fun a ha => h a (by omega))]
/-- from w on, of k -/
def semp (P : PR) : Nat → Nat → Bool
  | _, 0 => true
  | w, k + 1 => if P (5 * w + 2) < 0 then false else semp P (w + 1) k
theorem semp_iff : ∀ {k w : Nat}, semp P w k = true ↔ ∀ a, w ≤ a → a < w + k → ¬ P (5 * a + 2) < 0
  | 0, w => ⟨fun _ a h1 h2 => by omega, fun _ => rfl⟩
  | k + 1, w => by
    simp only [semp]
    refine ⟨fun h a h1 h2 => ?_, fun h => ?_⟩
    · by_cases hw : P (5 * w + 2) < 0
      · rw [if_pos hw] at h; cases h
      · rw [if_neg hw] at h
        by_cases e : a = w
        · subst e; exact hw
        · exact semp_iff.mp h a (by omega) (by omega)
    · rw [if_neg (h w (by omega) (by omega))]
      exact semp_iff.mpr (fun a h1 h2 => h a (by omega) (by omega))
theorem c_empL (hD : OkD D C) (hT : Td I t D C) (hR : Rl D m I q P) : ∀ (k w n : Nat), w + k = nA D → k < n → x1_isEmpty_L2 t q I n (Int32.ofNat w) = some (if semp P w k then .inl () else .inr 0) := by
  have hA := hD.a
  intro k
  induction k with
  | zero =>
    intro w n hw hn
    obtain ⟨n, rfl⟩ : ∃ n', n = n' + 1 := ⟨n - 1, by omega⟩
    obtain rfl : w = nA D := by omega
    simp (disch := omega) only [x1_isEmpty_L2, x1_isEmpty_L2s, hT.1.2.2.2.2.1, hD.2.1.1.1, QN]
    simp [semp]
  | succ k ih =>
    intro w n hw hn
    obtain ⟨n, rfl⟩ : ∃ n', n = n' + 1 := ⟨n - 1, by omega⟩
    have ra := hR.1 w (by omega)
    simp (disch := omega) only [x1_isEmpty_L2, x1_isEmpty_L2s, hT.1.2.2.2.2.1, hD.2.1.1.1, QB, QN, if_pos (show w < nA D by omega), ra.2.2.1, ih (w + 1) n (by omega) (by omega), semp]
    by_cases h : P (5 * w + 2) < 0 <;> simp [h]
theorem c_empty (hD : OkD D C) (hT : Td I t D C) (hR : Rl D m I q P) : x1_isEmpty t q I = some (if scnt P (nA D) = 0 then 1 else 0) := by
  have hA := hD.a
  have h := c_empL hD hT hR (nA D) 0 FU (by omega) (by unfold FU; omega)
  rw [show Int32.ofNat 0 = 0 from rfl] at h
  have e : (semp P 0 (nA D) = true) ↔ scnt P (nA D) = 0 := by
    rw [semp_iff, scnt_0]
    exact ⟨fun h a ha => h a (by omega) (by omega), fun h a _ ha => h a (by omega)⟩
  simp only [x1_isEmpty, QB, h]
  by_cases g : scnt P (nA D) = 0
  · rw [if_pos (e.mpr g), if_pos g]; rfl
  · rw [if_neg (fun h => g (e.mp h)), if_neg g]; rfl
/-! waves -/
def srk (D : TD) (P : PR) (side a : Nat) : Int32 := if side = 0 then P (5 * a) else if side = 1 then D 0 0 - 1 - P (5 * a) else if side = 2 then D 0 1 - 1 - P (5 * a + 1) else P (5 * a + 1)
def sdX (side : Nat) : Int32 := ([-1, 1, 0, 0] : List Int32).getD side 0
def sdY (side : Nat) : Int32 := ([0, 0, 1, -1] : List Int32).getD side 0
/-- those of the first n apples that stand in a rank -/
def swv1 (D : TD) (side : Nat) (rank : Int32) : Nat → Int32 × PR → Int32 × PR
  | 0, s => s
  | n + 1, s => if (swv1 D side rank n s).2 (5 * n + 2) < 0 ∧ srk D (swv1 D side rank n s).2 side n = rank ∧ sat (swv1 D side rank n s).2 ((swv1 D side rank n s).2 (5 * n) + sdX side) ((swv1 D side rank n s).2 (5 * n + 1) + sdY side) (nA D) = none then ((swv1 D side rank n s).1 + 1, smv (swv1 D side rank n s).2 n ((swv1 D side rank n s).2 (5 * n) + sdX side) ((swv1 D side rank n s).2 (5 * n + 1) + sdY side)) else swv1 D side rank n s
def swv (D : TD) (side : Nat) : Nat → Int32 × PR → Int32 × PR
  | 0, s => s
  | r + 1, s => swv1 D side (Int32.ofNat (r + 1)) (nA D) (swv D side r s)
theorem n_cases {D : TD} {C : TC} (hD : OkD D C) (hP : OkP D P) (ha : a < nA D) : ∃ x y, x < nW D ∧ y < nH D ∧ P (5 * a) = Int32.ofNat x ∧ P (5 * a + 1) = Int32.ofNat y := by
  obtain ⟨⟨x, hx, e1⟩, ⟨y, hy, e2⟩, -⟩ := hP.1 a ha
  exact ⟨x, y, hx, hy, e1, e2⟩
theorem srk_step (hD : OkD D C) {side rank : Nat} (hs : side < 4) {P : PR} (hP : OkP D P) (ha : a < nA D) (hr : srk D P side a = Int32.ofNat (rank + 1)) (hrk : rank < 5) : ∃ x y, x < nW D ∧ y < nH D ∧ P (5 * a) + sdX side = Int32.ofNat x ∧ P (5 * a + 1) + sdY side = Int32.ofNat y := by
  obtain ⟨x, y, hx, hy, e1, e2⟩ := n_cases hD hP ha
  have hw := hD.w
  have hh := hD.h
  simp only [srk, e1, e2, (nWH hD).1, (nWH hD).2] at hr ⊢
  have hs4 : side = 0 ∨ side = 1 ∨ side = 2 ∨ side = 3 := by omega
  have z0 : ∀ v : Int32, v + 0 = v := fun v => Int32.add_zero v
  rcases hs4 with rfl | rfl | rfl | rfl
  · simp only [if_true] at hr
    rw [q_eq (by omega) (by omega)] at hr
    subst hr
    exact ⟨rank, y, by omega, hy, q_dec, z0 _⟩
  · simp (disch := omega) only [QN, if_true, if_false, show ¬ ((1 : Nat) = 0) from by omega, q_subn, q_sub (show x ≤ nW D - 1 by omega)] at hr
    exact ⟨x + 1, y, by omega, hy, (Int32.ofNat_add x 1).symm, z0 _⟩
  · simp (disch := omega) only [QN, if_true, if_false, show ¬ ((2 : Nat) = 0) from by omega, show ¬ ((2 : Nat) = 1) from by omega, q_subn, q_sub (show y ≤ nH D - 1 by omega)] at hr
    exact ⟨x, y + 1, hx, by omega, z0 _, (Int32.ofNat_add y 1).symm⟩
  · simp only [show ¬ ((3 : Nat) = 0) from by omega, show ¬ ((3 : Nat) = 1) from by omega, show ¬ ((3 : Nat) = 2) from by omega, if_false] at hr
    rw [q_eq (by omega) (by omega)] at hr
    subst hr
    exact ⟨x, rank, hx, by omega, z0 _, q_dec⟩
theorem OkP.wv1 (hD : OkD D C) {side rank : Nat} (hs : side < 4) (hrk : rank < 5) : ∀ (n : Nat) (s : Int32 × PR), n ≤ nA D → OkP D s.2 → OkP D (swv1 D side (Int32.ofNat (rank + 1)) n s).2
  | 0, s, _, h => h
  | n + 1, s, hn, h => by
    have hP := OkP.wv1 hD hs hrk n s (by omega) h
    simp only [swv1]
    split
    · next g =>
      obtain ⟨x, y, hx, hy, e1, e2⟩ := srk_step hD hs hP (show n < nA D by omega) g.2.1 hrk
      have g3 := g.2.2
      rw [e1, e2] at g3
      show OkP D (smv _ n _ _)
      rw [e1, e2]
      exact hP.mv (by omega) hD.a hx hy g3
    · exact hP
theorem OkP.wv (hD : OkD D C) {side : Nat} (hs : side < 4) : ∀ (r : Nat) (s : Int32 × PR), r ≤ 5 → OkP D s.2 → OkP D (swv D side r s).2
  | 0, s, _, h => h
  | r + 1, s, hr, h => OkP.wv1 hD hs (by omega) _ _ (Nat.le_refl _) (OkP.wv hD hs r s (by omega) h)
theorem c_rank (hD : OkD D C) (hT : Td I t D C) (hR : Rl D m I q P) (ha : a < nA D) {side : Nat} (hs : side < 4) : x1_rankFrom t q (Int32.ofNat side) (Int32.ofNat a) I = some (srk D P side a) := by
  have hA := hD.a
  have ra := hR.1 a ha
  have hs4 : side = 0 ∨ side = 1 ∨ side = 2 ∨ side = 3 := by omega
  rcases hs4 with rfl | rfl | rfl | rfl <;> simp (disch := omega) only [x1_rankFrom, srk, QB, QN, ra.1, ra.2.1, hT.1.1, hT.1.2.1] <;> simp
theorem c_rock1 (hD : OkD D C) (hq : isq t q) {side rank : Nat} (hs : side < 4) (hrk : rank < 5) : ∀ (j w n : Nat) (I : MI) (s : Int32 × PR), w + j = nA D → j < n → Td I t D C → Rl D m I q (swv1 D side (Int32.ofNat (rank + 1)) w s).2 → OkP D s.2 → ∃ I', x1_rock_L15 t q (Int32.ofNat side) (Int32.ofNat (rank + 1)) n (swv1 D side (Int32.ofNat (rank + 1)) w s).1 (Int32.ofNat w) I = some ((swv1 D side (Int32.ofNat (rank + 1)) (nA D) s).1, I') ∧ Rl D m I' q (swv1 D side (Int32.ofNat (rank + 1)) (nA D) s).2 ∧ Fc t q I I' := by
  have hA := hD.a
  have hB := hD.b
  intro j
  induction j with
  | zero =>
    intro w n I s hw hn hT hR hP
    obtain ⟨n, rfl⟩ : ∃ n', n = n' + 1 := ⟨n - 1, by omega⟩
    obtain rfl : w = nA D := by omega
    refine ⟨I, ?_, hR, Fc.refl⟩
    simp (disch := omega) only [x1_rock_L15, x1_rock_L15s, hT.1.2.2.2.2.1, hD.2.1.1.1, QN]
    simp
  | succ j ih =>
    intro w n I s hw hn hT hR hP
    obtain ⟨n, rfl⟩ : ∃ n', n = n' + 1 := ⟨n - 1, by omega⟩
    have hPw := OkP.wv1 hD hs hrk w s (by omega) hP
    have ra := hR.1 w (by omega)
    have hst : swv1 D side (Int32.ofNat (rank + 1)) (w + 1) s = if (swv1 D side (Int32.ofNat (rank + 1)) w s).2 (5 * w + 2) < 0 ∧ srk D (swv1 D side (Int32.ofNat (rank + 1)) w s).2 side w = Int32.ofNat (rank + 1) ∧ sat (swv1 D side (Int32.ofNat (rank + 1)) w s).2 ((swv1 D side (Int32.ofNat (rank + 1)) w s).2 (5 * w) + sdX side) ((swv1 D side (Int32.ofNat (rank + 1)) w s).2 (5 * w + 1) + sdY side) (nA D) = none then ((swv1 D side (Int32.ofNat (rank + 1)) w s).1 + 1, smv (swv1 D side (Int32.ofNat (rank + 1)) w s).2 w ((swv1 D side (Int32.ofNat (rank + 1)) w s).2 (5 * w) + sdX side) ((swv1 D side (Int32.ofNat (rank + 1)) w s).2 (5 * w + 1) + sdY side)) else swv1 D side (Int32.ofNat (rank + 1)) w s := rfl
    generalize hs0 : swv1 D side (Int32.ofNat (rank + 1)) w s = s0 at *
    simp (disch := omega) only [x1_rock_L15, x1_rock_L15s, hT.1.2.2.2.2.1, hD.2.1.1.1, QB, QN, if_pos (show w < nA D by omega), ra.1, ra.2.1, ra.2.2.1, c_rank hD hT hR (show w < nA D by omega) hs, c_appleIn hD hT hR hPw]
    rw [show ([-1, 1, 0, 0] : List Int32).getD side 0 = sdX side from rfl, show ([0, 0, 1, -1] : List Int32).getD side 0 = sdY side from rfl]
    simp only [oi_m1 (P := s0.2) (x := s0.2 (5 * w) + sdX side) (y := s0.2 (5 * w + 1) + sdY side) hA]
    by_cases hc : s0.2 (5 * w + 2) < 0 ∧ srk D s0.2 side w = Int32.ofNat (rank + 1) ∧ sat s0.2 (s0.2 (5 * w) + sdX side) (s0.2 (5 * w + 1) + sdY side) (nA D) = none
    · rw [if_pos hc] at hst
      have f1 : Fc t q I (wI (wI I (q + 1) w (s0.2 (5 * w) + sdX side)) (q + 2) w (s0.2 (5 * w + 1) + sdY side)) := (Fc.refl.w (by omega)).w (by omega)
      obtain ⟨I2, g1, g2, g3⟩ := ih (w + 1) n (wI (wI I (q + 1) w (s0.2 (5 * w) + sdX side)) (q + 2) w (s0.2 (5 * w + 1) + sdY side)) s (by omega) (by omega) (f1.td hq hT) (by
        rw [hst]
        exact (hR.w1 hA hB _ (by omega)).w2 hA hB _ (by omega)) hP
      refine ⟨I2, ?_, g2, f1.trans g3⟩
      rw [hst] at g1
      simp only [hc.1, hc.2.1, hc.2.2, if_true, Option.isSome_none]
      exact g1
    · rw [if_neg hc] at hst
      obtain ⟨I2, g1, g2, g3⟩ := ih (w + 1) n I s (by omega) (by omega) hT (by rw [hst]; exact hR) hP
      refine ⟨I2, ?_, g2, g3⟩
      rw [hst] at g1
      rw [g1]
      by_cases h1 : s0.2 (5 * w + 2) < 0
      · by_cases h2 : srk D s0.2 side w = Int32.ofNat (rank + 1)
        · cases h3 : sat s0.2 (s0.2 (5 * w) + sdX side) (s0.2 (5 * w + 1) + sdY side) (nA D) with
          | none => exact absurd ⟨h1, h2, h3⟩ hc
          | some c => simp only [h1, h2, if_true, Option.isSome_some, Bool.true_eq_false, if_false]
        · simp only [h1, h2, if_true, if_false]
      · simp only [h1, if_false]
theorem c_rock5 (hD : OkD D C) (hq : isq t q) {side : Nat} (hs : side < 4) : ∀ (j r n : Nat) (I : MI) (s : Int32 × PR), r + j = 5 → j < n → Td I t D C → Rl D m I q (swv D side r s).2 → OkP D s.2 → ∃ I', x1_rock_L5 t q (Int32.ofNat side) n (swv D side r s).1 (Int32.ofNat (r + 1)) I = some ((swv D side 5 s).1, I') ∧ Rl D m I' q (swv D side 5 s).2 ∧ Fc t q I I' := by
  have hA := hD.a
  intro j
  induction j with
  | zero =>
    intro r n I s hw hn hT hR hP
    obtain ⟨n, rfl⟩ : ∃ n', n = n' + 1 := ⟨n - 1, by omega⟩
    obtain rfl : r = 5 := by omega
    refine ⟨I, ?_, hR, Fc.refl⟩
    simp (disch := omega) only [x1_rock_L5, x1_rock_L5s, QN]
    simp
  | succ j ih =>
    intro r n I s hw hn hT hR hP
    obtain ⟨n, rfl⟩ : ∃ n', n = n' + 1 := ⟨n - 1, by omega⟩
    obtain ⟨I1, k1, k2, k3⟩ := c_rock1 (m := m) (C := C) (rank := r) hD hq hs (by omega) (nA D) 0 FU I (swv D side r s) (by omega) (by unfold FU; omega) hT hR (OkP.wv hD hs r s (by omega) hP)
    obtain ⟨I2, g1, g2, g3⟩ := ih (r + 1) n I1 s (by omega) (by omega) (k3.td hq hT) k2 hP
    refine ⟨I2, ?_, g2, k3.trans g3⟩
    rw [show Int32.ofNat 0 = 0 from rfl] at k1
    rw [show (swv1 D side (Int32.ofNat (r + 1)) 0 (swv D side r s)).1 = (swv D side r s).1 from rfl] at k1
    simp (disch := omega) only [x1_rock_L5, x1_rock_L5s, QB, QN, if_pos (show r + 1 < 6 by omega), k1]
    exact g1
theorem c_rock (hD : OkD D C) (hT : Td I t D C) (hR : Rl D m I q P) (hP : OkP D P) (hq : isq t q) {side : Nat} (hs : side < 4) : ∃ I', x1_rock t q (Int32.ofNat side) I = some ((swv D side 5 (0, P)).1, I') ∧ Rl D m I' q (swv D side 5 (0, P)).2 ∧ Fc t q I I' := by
  obtain ⟨I', h1, h2, h3⟩ := c_rock5 (m := m) (C := C) hD hq hs 5 0 FU I (0, P) (by omega) (by unfold FU; omega) hT hR hP
  refine ⟨I', ?_, h2, h3⟩
  rw [show (swv D side 0 (0, P)).1 = 0 from rfl, show Int32.ofNat (0 + 1) = 1 from rfl] at h1
  simp only [x1_rock, QB, h1]
end CT
