/-! CALLS, 36: misses that drive an apple, in steps -/
def dF (D : TD) (b : Nat) : Nat → PR → Option PR := fun c P => if scan D P b c 0 = true then some (smiss D (spsec P b 0) b c 0) else none
def dG (D : TD) (o a : Nat) (P : PR) : Bool := scan D P o a 0
def dcut (D : TD) (o a n : Nat) (P : PR) : Bool := decide (¬ P (5 * a + 2) < 0 ∨ Int32.ofNat n < sfar P o a - D 9 o)
def dskip (c : Nat) (P Q : PR) : Bool := decide (Q (5 * c) = P (5 * c) ∧ Q (5 * c + 1) = P (5 * c + 1) ∧ Q (5 * c + 4) = P (5 * c + 4))
def dfind (D : TD) (b o a : Nat) : Nat → PR → Option (List Nat) := gfind (nA D) (dF D b) (dG D o a)
def dcfind (D : TD) (b o a : Nat) : Nat → PR → Option (List Nat) := cfind (nA D) (dF D b) (dG D o a) (dcut D o a) dskip
/-- the cells on which misses depend -/
def ek (k : Nat) : Prop := (k < 50 ∧ k % 5 ≠ 3) ∨ (50 ≤ k ∧ k < 62 ∧ (k - 50) % 3 = 0) ∨ 123 ≤ k
def EQ (P Q : PR) : Prop := ∀ k, ek k → Q k = P k
section DS
variable {D : TD} {C : TC} {P Q : PR} {b a o c : Nat}
theorem EQ.up {i : Nat} {v w : Int32} (h : EQ P Q) (hv : ek i → v = w) : EQ (upd P i v) (upd Q i w) := fun k hk => by
  by_cases e : k = i
  · subst e; rw [upd_at, upd_at, hv hk]
  · rw [upd_ne e, upd_ne e]; exact h k hk
theorem EQ.ul {i : Nat} {w : Int32} (h : EQ P Q) (hi : ¬ ek i) : EQ P (upd Q i w) := fun k hk => by
  rw [upd_ne (fun e => hi (by rw [← e]; exact hk))]; exact h k hk
theorem ek_x {a : Nat} (h : a < 10) : ek (5 * a) ∧ ek (5 * a + 1) ∧ ek (5 * a + 2) ∧ ek (5 * a + 4) := ⟨Or.inl (by omega), Or.inl (by omega), Or.inl (by omega), Or.inl (by omega)⟩
theorem EQ.ca (h : EQ P Q) (ha : a < 10) : Q (5 * a) = P (5 * a) ∧ Q (5 * a + 1) = P (5 * a + 1) ∧ Q (5 * a + 2) = P (5 * a + 2) ∧ Q (5 * a + 4) = P (5 * a + 4) := ⟨h _ (ek_x ha).1, h _ (ek_x ha).2.1, h _ (ek_x ha).2.2.1, h _ (ek_x ha).2.2.2⟩
theorem EQ.cb (h : EQ P Q) (hb : b < 4) : Q (50 + 3 * b) = P (50 + 3 * b) ∧ Q (123 + b) = P (123 + b) ∧ Q (127 + b) = P (127 + b) := ⟨h _ (Or.inr (Or.inl (by omega))), h _ (Or.inr (Or.inr (by omega))), h _ (Or.inr (Or.inr (by omega)))⟩
theorem EQ.sd (h : EQ P Q) (ha : a < 10) (hb : b < 4) : sdx Q b a = sdx P b a ∧ sdy Q b a = sdy P b a := by
  simp only [sdx, sdy, (h.ca ha).1, (h.ca ha).2.1, (h.cb hb).2.1, (h.cb hb).2.2, and_self]
theorem scan_0 : scan D P b a 0 = (decide (P (5 * a + 2) < 0) && decide (¬ D 9 b < sfar P b a) && decide (¬ P (50 + 3 * b) < 0)) := by
  simp [scan, sbr]
theorem EQ.scn (h : EQ P Q) (ha : a < 10) (hb : b < 4) : scan D Q b a 0 = scan D P b a 0 := by
  have e : sfar Q b a = sfar P b a := by simp only [sfar, (h.sd ha hb).1, (h.sd ha hb).2]
  rw [scan_0, scan_0, e, (h.ca ha).2.2.1, (h.cb hb).1]
theorem EQ.stt (h : EQ P Q) {x y : Int32} : ∀ n, n ≤ 10 → sat Q x y n = sat P x y n
  | 0, _ => rfl
  | n + 1, hn => by
    simp only [sat, (h.ca (show n < 10 by omega)).1, (h.ca (show n < 10 by omega)).2.1, (h.ca (show n < 10 by omega)).2.2.1, EQ.stt h n (by omega)]
theorem EQ.psh (hA : nA D ≤ 10) {x y sx sy : Int32} : ∀ (n : Nat) (P Q : PR), EQ P Q → EQ (spsh D x y sx sy n P) (spsh D x y sx sy n Q)
  | 0, _, _, h => h
  | n + 1, P, Q, h => by
    simp only [spsh, h.stt _ hA]
    refine EQ.psh hA n _ _ ?_
    cases hs : sat P (x + Int32.ofNat n * sx) (y + Int32.ofNat n * sy) (nA D) with
    | none => exact h
    | some p => exact (h.up (fun _ => rfl)).up (fun _ => rfl)
theorem EQ.row (hA : nA D ≤ 10) (h : EQ P Q) {x y sx sy : Int32} : ∀ f n, srow D Q x y sx sy f n = srow D P x y sx sy f n
  | 0, _ => rfl
  | f + 1, n => by simp only [srow, h.stt _ hA, EQ.row hA h f]
theorem EQ.push (hA : nA D ≤ 10) (h : EQ P Q) (ha : a < 10) (hb : b < 4) : EQ (spush D P b a) (spush D Q b a) := by
  have h1 := h.sd ha hb
  have h2 := h.ca ha
  have e1 : swx Q b a = swx P b a := by simp only [swx, h1.1, h1.2]
  have e2 : swy Q b a = swy P b a := by simp only [swy, h1.1, h1.2]
  simp only [spush, h1.1, h1.2, e1, e2, h2.1, h2.2.1, h.row hA]
  split
  · exact h
  · split
    · exact EQ.psh hA _ _ _ h
    · exact h
theorem EQ.mi1 (h : EQ P Q) (ha : a < 10) (hb : b < 4) : EQ (smi1 P b a 0) (smi1 Q b a 0) := by
  simp only [smi1]
  refine (h.up (fun _ => by rw [(h.cb hb).1])).up (fun hk => ?_)
  rcases hk with hk | hk | hk <;> omega
theorem EQ.miss (hA : nA D ≤ 10) (h : EQ P Q) (ha : a < 10) (hb : b < 4) : EQ (smiss D P b a 0) (smiss D Q b a 0) := by
  have h1 := h.mi1 ha hb
  simp only [smiss, (h.ca ha).2.2.2]
  split
  · split
    · exact EQ.push hA (h1.up (fun _ => rfl)) ha hb
    · exact (h1.up (fun _ => rfl)).up (fun _ => rfl)
  · split
    · exact EQ.push hA h1 ha hb
    · exact h1
theorem EQ.psec (h : EQ P Q) (hb : b < 4) : EQ (spsec P b 0) (spsec Q b 0) := h.up (fun hk => by rcases hk with hk | hk | hk <;> omega)
theorem EQ.dff (hA : nA D ≤ 10) (h : EQ P Q) (hc : c < 10) (hb : b < 4) : (dF D b c P = none ∧ dF D b c Q = none) ∨ ∃ P' Q', dF D b c P = some P' ∧ dF D b c Q = some Q' ∧ EQ P' Q' := by
  simp only [dF, h.scn hc hb]
  by_cases hs : scan D P b c 0 = true
  · simp only [hs, if_true]
    exact Or.inr ⟨_, _, rfl, rfl, EQ.miss hA (h.psec hb) hc hb⟩
  · simp only [hs, if_false]
    exact Or.inl ⟨rfl, rfl⟩
theorem EQ.find (hA : nA D ≤ 10) (hb : b < 4) (ho : o < 4) (ha : a < 10) : ∀ (n : Nat) (P Q : PR), EQ P Q → dfind D b o a n Q = dfind D b o a n P
  | 0, P, Q, h => by
    show (if dG D o a Q = true then some [] else none) = (if dG D o a P = true then some [] else none)
    rw [show dG D o a Q = dG D o a P from h.scn ha ho]
  | n + 1, P, Q, h => by
    refine gfst_congr (fun c hc => ?_)
    rcases h.dff hA (show c < 10 by omega) hb with ⟨h1, h2⟩ | ⟨P', Q', h1, h2, h3⟩
    · rw [h1, h2]
    · rw [h1, h2]
      show (dfind D b o a n Q').map _ = (dfind D b o a n P').map _
      rw [EQ.find hA hb ho ha n P' Q' h3]
/-! what a miss leaves -/
theorem spsh_o {x y sx sy : Int32} {k : Nat} : ∀ (n : Nat) (P : PR), (∀ p, p < nA D → k ≠ 5 * p ∧ k ≠ 5 * p + 1) → spsh D x y sx sy n P k = P k
  | 0, _, _ => rfl
  | n + 1, P, h => by
    simp only [spsh]
    rw [spsh_o n _ h]
    cases hs : sat P (x + Int32.ofNat n * sx) (y + Int32.ofNat n * sy) (nA D) with
    | none => rfl
    | some p => exact smv_o (h p (sat_some hs).1).1 (h p (sat_some hs).1).2
theorem spush_o {k : Nat} (h : ∀ p, p < nA D → k ≠ 5 * p ∧ k ≠ 5 * p + 1) : spush D P b a k = P k := by
  simp only [spush]
  split
  · rfl
  · split
    · exact spsh_o _ _ h
    · rfl
/-- rows that go on: who has gone is ahead -/
def Tm (D : TD) (P : PR) (x y sx sy : Int32) (n : Nat) (Q : PR) : Prop := ∀ a, a < nA D → Q (5 * a + 2) = P (5 * a + 2) ∧ ((Q (5 * a) = P (5 * a) ∧ Q (5 * a + 1) = P (5 * a + 1)) ∨ (Q (5 * a) = P (5 * a) + sx ∧ Q (5 * a + 1) = P (5 * a + 1) + sy ∧ ∃ j, n < j ∧ j < 8 ∧ Q (5 * a) = x + Int32.ofNat j * sx ∧ Q (5 * a + 1) = y + Int32.ofNat j * sy))
theorem Tm.step {x y sx sy : Int32} {n : Nat} (hw : isw sx sy) (hA : nA D ≤ 10) (hn : n < 7) (h : Tm D P x y sx sy (n + 1) Q) : Tm D P x y sx sy n (match sat Q (x + Int32.ofNat n * sx) (y + Int32.ofNat n * sy) (nA D) with
    | some p => smv Q p (x + Int32.ofNat (n + 1) * sx) (y + Int32.ofNat (n + 1) * sy)
    | none => Q) := by
  intro a ha
  obtain ⟨h0, h1⟩ := h a ha
  cases hs : sat Q (x + Int32.ofNat n * sx) (y + Int32.ofNat n * sy) (nA D) with
  | none =>
    refine ⟨h0, ?_⟩
    rcases h1 with h1 | ⟨g1, g2, j, g3, g4, g5⟩
    · exact Or.inl h1
    · exact Or.inr ⟨g1, g2, j, by omega, g4, g5⟩
  | some p =>
    obtain ⟨p1, p2, p3, p4⟩ := sat_some hs
    show smv Q p _ _ (5 * a + 2) = _ ∧ _
    refine ⟨by rw [smv_o (by omega) (by omega)]; exact h0, ?_⟩
    show (smv Q p _ _ (5 * a) = _ ∧ smv Q p _ _ (5 * a + 1) = _) ∨ (smv Q p _ _ (5 * a) = _ ∧ smv Q p _ _ (5 * a + 1) = _ ∧ ∃ j, _ ∧ _ ∧ smv Q p _ _ (5 * a) = _ ∧ smv Q p _ _ (5 * a + 1) = _)
    simp only [smv_x, smv_y]
    by_cases e : a = p
    · subst e
      simp only [if_true]
      rcases h1 with ⟨g1, g2⟩ | ⟨g1, g2, j, g3, g4, g5, g6⟩
      · refine Or.inr ⟨by rw [i_step, ← p3, g1], by rw [i_step, ← p4, g2], n + 1, by omega, by omega, rfl, rfl⟩
      · exact absurd ⟨g5.symm.trans p3, g6.symm.trans p4⟩ (pos_ne hw g4 (by omega) (by omega))
    · simp only [if_neg e]
      rcases h1 with h1 | ⟨g1, g2, j, g3, g4, g5⟩
      · exact Or.inl h1
      · exact Or.inr ⟨g1, g2, j, by omega, g4, g5⟩
theorem Tm.psh {x y sx sy : Int32} (hw : isw sx sy) (hA : nA D ≤ 10) : ∀ (n : Nat) (Q : PR), n ≤ 7 → Tm D P x y sx sy n Q → Tm D P x y sx sy 0 (spsh D x y sx sy n Q)
  | 0, _, _, h => h
  | n + 1, Q, hn, h => Tm.psh hw hA n _ (by omega) (h.step hw hA (by omega))
theorem Tm.start {x y sx sy : Int32} {n : Nat} : Tm D P x y sx sy n P := fun _ _ => ⟨rfl, Or.inl ⟨rfl, rfl⟩⟩
/-- the first of the row goes -/
theorem psh_first {x y sx sy : Int32} (hw : isw sx sy) (hA : nA D ≤ 10) (hP : OkP D P) (hc : c < nA D) (hf : P (5 * c + 2) < 0) (hx : P (5 * c) = x) (hy : P (5 * c + 1) = y) : ∀ (n : Nat) (Q : PR), n < 7 → Tm D P x y sx sy (n + 1) Q → Q (5 * c) = x → Q (5 * c + 1) = y → ¬ (spsh D x y sx sy (n + 1) Q (5 * c) = x ∧ spsh D x y sx sy (n + 1) Q (5 * c + 1) = y)
  | 0, Q, hn, hT, h1, h2 => by
    obtain ⟨p, hp⟩ := sat_is (P := Q) (x := x) (y := y) hc ⟨by rw [(hT c hc).1]; exact hf, h1, h2⟩
    obtain ⟨p1, p2, p3, p4⟩ := sat_some hp
    have e : p = c := by
      obtain ⟨g0, g1⟩ := hT p p1
      rcases g1 with ⟨g1, g2⟩ | ⟨g1, g2, j, g3, g4, g5, g6⟩
      · exact hP.un p1 hc (by rw [← g0]; exact p2) hf (by rw [← g1, p3, hx]) (by rw [← g2, p4, hy])
      · refine absurd ⟨?_, ?_⟩ (pos_ne (x := x) (y := y) hw g4 (show 0 < 8 by omega) (by omega))
        · rw [← g5, p3, i_zero]
        · rw [← g6, p4, i_zero]
    subst e
    simp only [spsh, i_zero, hp]
    rw [smv_x, if_pos rfl, smv_y, if_pos rfl, i_step, i_step, i_zero, i_zero]
    exact step_ne hw
  | n + 1, Q, hn, hT, h1, h2 => by
    have hT1 := hT.step hw hA (by omega)
    show ¬ (spsh D x y sx sy (n + 1) _ (5 * c) = x ∧ spsh D x y sx sy (n + 1) _ (5 * c + 1) = y)
    cases hs : sat Q (x + Int32.ofNat (n + 1) * sx) (y + Int32.ofNat (n + 1) * sy) (nA D) with
    | none =>
      rw [hs] at hT1
      exact psh_first hw hA hP hc hf hx hy n Q (by omega) hT1 h1 h2
    | some p =>
      rw [hs] at hT1
      obtain ⟨p1, p2, p3, p4⟩ := sat_some hs
      have hne : ¬ c = p := fun e => by
        subst e
        refine absurd ⟨?_, ?_⟩ (pos_ne (x := x) (y := y) hw (show 0 < 8 by omega) (show n + 1 < 8 by omega) (by omega))
        · rw [i_zero, ← p3, h1]
        · rw [i_zero, ← p4, h2]
      exact psh_first hw hA hP hc hf hx hy n _ (by omega) hT1 (by show smv Q p _ _ (5 * c) = x; rw [smv_x, if_neg hne]; exact h1) (by show smv Q p _ _ (5 * c + 1) = y; rw [smv_y, if_neg hne]; exact h2)
theorem spush_skip (hD : OkD D C) (hP : OkP D P) (hb : b < nB D) (hc : c < nA D) (hf : P (5 * c + 2) < 0) (h : spush D P b c (5 * c) = P (5 * c) ∧ spush D P b c (5 * c + 1) = P (5 * c + 1)) : spush D P b c = P := by
  have hA := hD.a
  simp only [spush] at h ⊢
  by_cases h0 : sdx P b c = 0 ∧ sdy P b c = 0
  · rw [if_pos h0]
  · rw [if_neg h0] at h ⊢
    obtain ⟨r1, r2, r3⟩ := srow_7 hD hP hb hc h0 _ rfl
    split at h
    · next hcell =>
      exfalso
      have hsat := hP.fnd hc hf rfl rfl
      have hcl := sat_cell hD hP hsat
      have hr : 1 ≤ srow D P (P (5 * c)) (P (5 * c + 1)) (swx P b c) (swy P b c) 7 0 := by
        have : srow D P (P (5 * c)) (P (5 * c + 1)) (swx P b c) (swy P b c) 7 0 = srow D P (P (5 * c)) (P (5 * c + 1)) (swx P b c) (swy P b c) 6 1 := by
          simp only [srow, i_zero, hcl, hsat, Option.isSome_some, Bool.and_self, if_true]
        rw [this]
        exact (srow_ok _ _ _ _ 6 1 (fun j hj => by
          obtain rfl : j = 0 := by omega
          rw [i_zero, i_zero]; exact hcl)).2.1
      obtain ⟨r, hr'⟩ : ∃ r, srow D P (P (5 * c)) (P (5 * c + 1)) (swx P b c) (swy P b c) 7 0 = r + 1 := ⟨_ - 1, (Nat.sub_add_cancel hr).symm⟩
      rw [hr'] at h r1
      exact psh_first (sway_isw hD hP hb hc h0) hA hP hc hf rfl rfl r P (by omega) Tm.start rfl rfl h
    · next hcell => rw [if_neg hcell]
/-- one that is where it was, or one cell on -/
def nrr (P Q : PR) (a : Nat) : Prop := (Q (5 * a) = P (5 * a) ∧ Q (5 * a + 1) = P (5 * a + 1)) ∨ ∃ sx sy, isw sx sy ∧ Q (5 * a) = P (5 * a) + sx ∧ Q (5 * a + 1) = P (5 * a + 1) + sy
theorem spush_nrr (hD : OkD D C) (hP : OkP D P) (hb : b < nB D) (hc : c < nA D) (ha : a < nA D) : nrr P (spush D P b c) a := by
  have hA := hD.a
  simp only [spush]
  by_cases h0 : sdx P b c = 0 ∧ sdy P b c = 0
  · rw [if_pos h0]; exact Or.inl ⟨rfl, rfl⟩
  · rw [if_neg h0]
    obtain ⟨r1, r2, r3⟩ := srow_7 hD hP hb hc h0 _ rfl
    split
    · have hw := sway_isw hD hP hb hc h0
      have := Tm.psh (P := P) hw hA _ P (show _ ≤ 7 by omega) (Tm.start (n := srow D P (P (5 * c)) (P (5 * c + 1)) (swx P b c) (swy P b c) 7 0) (x := P (5 * c)) (y := P (5 * c + 1))) a ha
      rcases this.2 with g | ⟨g1, g2, -⟩
      · exact Or.inl g
      · exact Or.inr ⟨_, _, hw, g1, g2⟩
    · exact Or.inl ⟨rfl, rfl⟩
/-- of a miss: cells, sizes, holders, breath -/
theorem smiss_skip (hD : OkD D C) (hP : OkP D P) (hb : b < nB D) (hc : c < nA D) (hf : P (5 * c + 2) < 0) (h : dskip c P (smiss D (spsec P b 0) b c 0) = true) : EQ P (smiss D (spsec P b 0) b c 0) := by
  have hA := hD.a
  have hB := hD.b
  simp only [dskip, decide_eq_true_eq] at h
  obtain ⟨h1, h2, h3⟩ := h
  have hP1 : OkP D (spsec P b 0) := hP.psec hA hB hb
  have hM : OkP D (smi1 (spsec P b 0) b c 0) := hP1.mi1 hA hB hb hc
  have e4 : spsec P b 0 (5 * c + 4) = P (5 * c + 4) := spsec_ne (by omega)
  have hme : ∀ k, k ≠ 50 + 3 * b → k ≠ 5 * c + 3 → k ≠ 52 + 3 * b → smi1 (spsec P b 0) b c 0 k = P k := fun k g1 g2 g3 => by rw [smi1_ne g1 g2, spsec_ne g3]
  have hEQ : EQ P (smi1 (spsec P b 0) b c 0) := by
    refine EQ.ul (fun k hk => ?_) (fun hk => by rcases hk with hk | hk | hk <;> omega)
    by_cases e : k = 50 + 3 * b
    · subst e
      rw [upd_at, spsec_ne (by omega)]
      show P _ - 0 = _
      exact Int32.sub_zero _
    · rw [upd_ne e, spsec_ne (fun g => by subst g; rcases hk with hk | hk | hk <;> omega)]
  obtain ⟨z, z1, z2, ez, z3⟩ : ∃ z, z ≤ 99 ∧ 1 ≤ z ∧ P (5 * c + 4) = Int32.ofNat z ∧ True := by
    obtain ⟨-, -, z, g1, g2, g3⟩ := hP.1 c hc
    exact ⟨z, g1, g3 hf, g2, trivial⟩
  obtain ⟨mo, m1, m2⟩ := (hD.2.2.2.2.1 b hb).2.2.2.2.1
  simp only [smiss] at h1 h2 h3 ⊢
  rw [e4, m2, ez] at h1 h2 h3 ⊢
  split at h1
  · next hbite =>
    rw [if_pos hbite] at h2 h3 ⊢
    exfalso
    split at h3
    · rw [spush_o (fun p hp => by omega), upd_at] at h3
      rw [Int32.sub_eq_add_neg] at h3
      have h4 : -(Int32.ofNat mo + 1) = 0 := i_cancel (x := Int32.ofNat z) (by rw [h3]; exact (Int32.add_zero _).symm)
      revert h4
      rw [q_addn]
      have : ∀ k, k < 20 → ¬ (-(Int32.ofNat (k + 1)) = 0) := by decide +kernel
      exact this mo (by omega)
    · rw [upd_ne (by omega), upd_at] at h3
      rw [show (0 : Int32) = Int32.ofNat 0 from rfl, q_eq (by omega) (by omega)] at h3
      omega
  · next hbite =>
    rw [if_neg hbite] at h2 h3 ⊢
    rw [if_pos (by omega)] at h1 h2 h3 ⊢
    rw [spush_skip hD hM hb hc (by rw [hme _ (by omega) (by omega) (by omega)]; exact hf) ⟨by rw [h1, hme _ (by omega) (by omega) (by omega)], by rw [h2, hme _ (by omega) (by omega) (by omega)]⟩]
    exact hEQ
theorem smiss_nrr (hD : OkD D C) (hP : OkP D P) (hb : b < nB D) (hc : c < nA D) (ha : a < nA D) : nrr P (smiss D (spsec P b 0) b c 0) a := by
  have hA := hD.a
  have hB := hD.b
  have hP1 : OkP D (spsec P b 0) := hP.psec hA hB hb
  have hM : OkP D (smi1 (spsec P b 0) b c 0) := hP1.mi1 hA hB hb hc
  have hme : ∀ k, k ≠ 50 + 3 * b → k ≠ 5 * c + 3 → k ≠ 52 + 3 * b → smi1 (spsec P b 0) b c 0 k = P k := fun k g1 g2 g3 => by rw [smi1_ne g1 g2, spsec_ne g3]
  have tr : ∀ {Q Q' : PR}, Q (5 * a) = P (5 * a) → Q (5 * a + 1) = P (5 * a + 1) → nrr Q Q' a → nrr P Q' a := fun g1 g2 h => by simpa only [nrr, g1, g2] using h
  simp only [smiss]
  split
  · split
    · next h0 =>
      obtain ⟨z, z1, z2, e⟩ := bite_nat hD hP1 hb hc h0
      rw [e]
      refine tr ?_ ?_ (spush_nrr hD (hM.uz hA hc z2 (fun _ => z1)) hb hc ha)
      · rw [upd_ne (by omega), hme _ (by omega) (by omega) (by omega)]
      · rw [upd_ne (by omega), hme _ (by omega) (by omega) (by omega)]
    · exact Or.inl ⟨by rw [upd_ne (by omega), upd_ne (by omega), hme _ (by omega) (by omega) (by omega)], by rw [upd_ne (by omega), upd_ne (by omega), hme _ (by omega) (by omega) (by omega)]⟩
  · split
    · refine tr ?_ ?_ (spush_nrr hD hM hb hc ha)
      · rw [hme _ (by omega) (by omega) (by omega)]
      · rw [hme _ (by omega) (by omega) (by omega)]
    · exact Or.inl ⟨hme _ (by omega) (by omega) (by omega), hme _ (by omega) (by omega) (by omega)⟩
theorem smiss_neg (hA : nA D ≤ 10) (hB : nB D ≤ 4) (hb : b < nB D) (hc : c < nA D) (ha : a < nA D) (h : smiss D (spsec P b 0) b c 0 (5 * a + 2) < 0) : P (5 * a + 2) < 0 := by
  have hme : ∀ k, k ≠ 50 + 3 * b → k ≠ 5 * c + 3 → k ≠ 52 + 3 * b → smi1 (spsec P b 0) b c 0 k = P k := fun k g1 g2 g3 => by rw [smi1_ne g1 g2, spsec_ne g3]
  have e := hme (5 * a + 2) (by omega) (by omega) (by omega)
  simp only [smiss] at h
  split at h
  · split at h
    · rw [spush_o (fun p hp => by omega), upd_ne (by omega), e] at h; exact h
    · by_cases ec : a = c
      · subst ec; rw [upd_at] at h; exact absurd h (by decide)
      · rw [upd_ne (by omega), upd_ne (by omega), e] at h; exact h
  · split at h
    · rw [spush_o (fun p hp => by omega), e] at h; exact h
    · rw [e] at h; exact h
/-! how far -/
def nfar (P : PR) (o a : Nat) : Nat := if nd (P (5 * a + 1)).toNatClampNeg (P (127 + o)).toNatClampNeg < nd (P (5 * a)).toNatClampNeg (P (123 + o)).toNatClampNeg then nd (P (5 * a)).toNatClampNeg (P (123 + o)).toNatClampNeg else nd (P (5 * a + 1)).toNatClampNeg (P (127 + o)).toNatClampNeg
theorem iabs_nd : ∀ u, u < 6 → ∀ v, v < 6 → iabs (Int32.ofNat u - Int32.ofNat v) = Int32.ofNat (nd u v) := by decide +kernel
theorem sfar_n (hD : OkD D C) (hP : OkP D P) (ho : o < nB D) (ha : a < nA D) : sfar P o a = Int32.ofNat (nfar P o a) ∧ nfar P o a < 6 := by
  have hw := hD.w
  have hh := hD.h
  obtain ⟨px, py, hpx, hpy, e1, e2⟩ := n_cases hD hP ha
  obtain ⟨⟨kx, hkx, e3⟩, ⟨ky, hky, e4⟩⟩ := hP.2.2 o ho
  have h1 := nd_6 (u := px) (v := kx) (by omega) (by omega)
  have h2 := nd_6 (u := py) (v := ky) (by omega) (by omega)
  simp only [sfar, sdx, sdy, nfar, e1, e2, e3, e4, iabs_nd px (by omega) kx (by omega), iabs_nd py (by omega) ky (by omega), q_ix (show px < 2147483648 by omega), q_ix (show py < 2147483648 by omega), q_ix (show kx < 2147483648 by omega), q_ix (show ky < 2147483648 by omega), q_lt (show nd py ky < 2147483648 by omega) (show nd px kx < 2147483648 by omega)]
  constructor
  · split <;> rfl
  · split <;> omega
theorem nfar_step {Q : PR} (hD : OkD D C) (hP : OkP D P) (hQ : OkP D Q) (ho : o < nB D) (ha : a < nA D) (hk : SK P Q) (h : nrr P Q a) : nfar P o a ≤ nfar Q o a + 1 := by
  have hw := hD.w
  have hh := hD.h
  have hB := hD.b
  obtain ⟨px, py, hpx, hpy, e1, e2⟩ := n_cases hD hP ha
  obtain ⟨qx, qy, hqx, hqy, f1, f2⟩ := n_cases hD hQ ha
  simp only [nfar, hk (123 + o) (by omega) (by omega), hk (127 + o) (by omega) (by omega), e1, e2, f1, f2, q_ix (show px < 2147483648 by omega), q_ix (show py < 2147483648 by omega), q_ix (show qx < 2147483648 by omega), q_ix (show qy < 2147483648 by omega)]
  obtain ⟨x1, x2, x3⟩ := sd_nat px (by omega) qx (by omega)
  obtain ⟨y1, y2, y3⟩ := sd_nat py (by omega) qy (by omega)
  generalize (P (123 + o)).toNatClampNeg = kx
  generalize (P (127 + o)).toNatClampNeg = ky
  have key : (qx = px ∨ qx = px + 1 ∨ px = qx + 1) ∧ (qy = py ∨ qy = py + 1 ∨ py = qy + 1) := by
    rcases h with ⟨g1, g2⟩ | ⟨sx, sy, hs, g1, g2⟩
    · rw [e1, f1, q_eq (by omega) (by omega)] at g1
      rw [e2, f2, q_eq (by omega) (by omega)] at g2
      exact ⟨Or.inl g1, Or.inl g2⟩
    · rw [e1, f1] at g1
      rw [e2, f2] at g2
      rcases hs with ⟨rfl, rfl⟩ | ⟨rfl, rfl⟩ | ⟨rfl, rfl⟩ | ⟨rfl, rfl⟩
      · exact ⟨Or.inr (Or.inl (x2 g1)), Or.inl (y3 g2)⟩
      · exact ⟨Or.inr (Or.inr (x1 g1)), Or.inl (y3 g2)⟩
      · exact ⟨Or.inl (x3 g1), Or.inr (Or.inl (y2 g2))⟩
      · exact ⟨Or.inl (x3 g1), Or.inr (Or.inr (y1 g2))⟩
  have a1 : nd px kx ≤ nd qx kx + 1 := by simp only [nd]; split <;> split <;> omega
  have a2 : nd py ky ≤ nd qy ky + 1 := by simp only [nd]; split <;> split <;> omega
  split <;> split <;> omega
theorem q_cut : ∀ n, n < 6 → ∀ f, f < 6 → ∀ z, z < 6 → (Int32.ofNat n < Int32.ofNat f - Int32.ofNat z ↔ n + z < f) := by decide +kernel
theorem dcut_n (hD : OkD D C) (hP : OkP D P) (ho : o < nB D) (ha : a < nA D) {n : Nat} (hn : n < 6) : ∃ z, z < 6 ∧ D 9 o = Int32.ofNat z ∧ (dcut D o a n P = true ↔ (¬ P (5 * a + 2) < 0 ∨ n + z < nfar P o a)) := by
  obtain ⟨z, hz, ez⟩ := (hD.2.2.2.2.1 o ho).2.2.1
  obtain ⟨h1, h2⟩ := sfar_n hD hP ho ha
  refine ⟨z, by omega, ez, ?_⟩
  simp only [dcut, decide_eq_true_eq, h1, ez, q_cut n hn _ h2 z (by omega)]
theorem dcut_no (hD : OkD D C) (hb : b < nB D) (ho : o < nB D) (ha : a < nA D) : ∀ (n : Nat) (P : PR), n < 6 → OkP D P → dcut D o a n P = true → dfind D b o a n P = none
  | 0, P, hn, hP, h => by
    obtain ⟨z, hz, ez, hc⟩ := dcut_n hD hP ho ha (n := 0) (by omega)
    obtain ⟨h1, h2⟩ := sfar_n hD hP ho ha
    have h' := hc.mp h
    show (if dG D o a P = true then some [] else none) = none
    rw [if_neg]
    intro hG
    simp only [dG, scan_0, Bool.and_eq_true, decide_eq_true_eq, h1, ez, q_lt (show z < 2147483648 by omega) (show nfar P o a < 2147483648 by omega)] at hG
    rcases h' with h' | h'
    · exact h' hG.1.1
    · omega
  | n + 1, P, hn, hP, h => by
    obtain ⟨z, hz, ez, hc⟩ := dcut_n hD hP ho ha hn
    have h' := hc.mp h
    have hA := hD.a
    have hB := hD.b
    refine gfst_of (fun c hcA => ?_)
    by_cases hs : scan D P b c 0 = true
    · have hF : dF D b c P = some (smiss D (spsec P b 0) b c 0) := if_pos hs
      have hQ : OkP D (smiss D (spsec P b 0) b c 0) := (hP.psec hA hB hb).miss hD hb hcA
      rw [hF]
      show (dfind D b o a n (smiss D (spsec P b 0) b c 0)).map _ = none
      rw [dcut_no hD hb ho ha n _ (by omega) hQ ?_]
      · rfl
      · obtain ⟨z', hz', ez', hc'⟩ := dcut_n hD hQ ho ha (n := n) (by omega)
        have e : z' = z := by rw [ez, q_eq (by omega) (by omega)] at ez'; exact ez'.symm
        subst e
        refine hc'.mpr ?_
        rcases h' with h' | h'
        · exact Or.inl (fun g => h' (smiss_neg hA hB hb hcA ha g))
        · have := nfar_step hD hP hQ ho ha (SK.miss hA hB hb hcA (SK.up SK.refl (by omega))) (smiss_nrr hD hP hb hcA ha)
          exact Or.inr (by omega)
    · have hF : dF D b c P = none := if_neg hs
      rw [hF]; rfl
theorem dc_eq (hD : OkD D C) (hb : b < nB D) (ho : o < nB D) (ha : a < nA D) {n : Nat} (hn5 : n < 6) (hP : OkP D P) (hn : gfst (fun n => dfind D b o a n P) n = none) : dcfind D b o a n P = dfind D b o a n P := by
  have hA := hD.a
  have hB := hD.b
  have hFo : ∀ c P Q, dF D b c P = some Q → scan D P b c 0 = true ∧ Q = smiss D (spsec P b 0) b c 0 := fun c P Q h => by
    by_cases hs : scan D P b c 0 = true
    · rw [dF, if_pos hs] at h; cases h; exact ⟨hs, rfl⟩
    · rw [dF, if_neg hs] at h; cases h
  refine cfind_eq (N := 6) (OK := fun P => OkP D P) (fun c P Q hc hP h => ?_) (fun n P hn hP h => dcut_no hD hb ho ha n P hn hP h) (fun n c P Q hc hP h hs hg => ?_) n P hn5 hP (fun m hm => gfst_no hn m hm)
  · obtain ⟨h1, rfl⟩ := hFo c P Q h
    exact (hP.psec hA hB hb).miss hD hb hc
  · obtain ⟨h1, rfl⟩ := hFo c P Q h
    have := EQ.find (D := D) hA (show b < 4 by omega) (show o < 4 by omega) (show a < 10 by omega) n P _ (smiss_skip hD hP hb hc (scan_fl h1) hs)
    exact this.trans hg
end DS
