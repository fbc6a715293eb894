/-! THE CLASS'S PLAY, 3: odds, what a rule chooses, got, missed, a turn -/
/-- only the game's own cells change -/
def Fg (t : Nat) (I I' : MI) : Prop := ∀ c, c ≠ 27 → c ≠ 46 → c ≠ t + 17 → I' c = I c
theorem Fg.c {t q : Nat} {I I' : MI} (h : Fg t I I') : Fc t q I I' := fun c h1 h2 h3 _ => h c h1 h2 h3
theorem Fg.trans {t : Nat} {I I' I'' : MI} (h : Fg t I I') (k : Fg t I' I'') : Fg t I I'' := fun c h1 h2 h3 => (k c h1 h2 h3).trans (h c h1 h2 h3)
theorem Fg.refl {t : Nat} {I : MI} : Fg t I I := fun _ _ _ _ => rfl
theorem Cd.fg {I I' : MI} {t s : Nat} {c : List Int32} (h : Cd I t s c) (ht : isT t) (hf : Fg t I I') : Cd I' t s c := by
  have e : ∀ j, j ≤ 16 → I' (t + j) = I (t + j) := fun j hj => hf _ (by rcases ht with h | h <;> omega) (by rcases ht with h | h <;> omega) (by omega)
  obtain ⟨st, g1, g2, g3, g4⟩ := h
  exact ⟨st, by rw [e 15 (by omega)]; exact g1, by rw [e 16 (by omega)]; exact g2, g3, fun i h => by rw [e 14 (by omega)]; exact g4 i h⟩
theorem Rl.fg {D : TD} {m : Bool} {t q : Nat} {P : PR} {I I' : MI} (h : Rl D m I q P) (hq : isq t q) (hf : Fg t I I') : Rl D m I' q P := by
  obtain ⟨ht, hq⟩ := hq
  exact h.fr (fun c h1 h2 => hf c (by omega) (by omega) (by rcases ht with h | h <;> omega))
theorem Td.fg {D : TD} {C : TC} {t q : Nat} {I I' : MI} (h : Td I t D C) (hq : isq t q) (hf : Fg t I I') : Td I' t D C := h.fr hq hf.c
def cw (o : Option (Nat × Int32)) : Int32 := match o with
  | none => -1
  | some (t, _) => Int32.ofNat (10 * (t / 5) + t % 5)
def cm (o : Option (Nat × Int32)) : Int32 := match o with
  | none => 0
  | some (_, m) => m
def rul (D : TD) (r : Nat) : Int32 := if nR D = 0 then -1 else Int32.ofNat r
section CR
variable {D : TD} {C : TC} {m : Bool} {t q : Nat} {P : PR} {I : MI} {b a k : Nat}
theorem c_odds (hD : OkD D C) (hT : Td I t D C) (hR : Rl D m I q P) (hq : isq t q) (hb : b < nB D) (ha : a < nA D) (hk : k < 5) : ∃ I', x1_oddsOf t q (Int32.ofNat b) (Int32.ofNat a) (Int32.ofNat k) I = some (sodds D C P b a k, I') ∧ Fg t I I' := by
  obtain ⟨I1, h1, h2, h3⟩ := c_look hD hT hR hq hb ha
  have hf1 : Fg t I I1 := fun c _ h _ => h3 c h
  obtain ⟨I2, h4, h5⟩ := c_value (g := sight D P b a 0 0) hq.1 (show k < 11 by omega) ((hT.2.2.2.1 k hk).fg hq.1 hf1) (hD.2.2.2.2.2.2.1 k hk) h2
  refine ⟨I2, ?_, hf1.trans (fun c _ _ h => h5 c h)⟩
  simp only [x1_oddsOf, h1, h4, QB, c_asOdds]
  rfl
theorem c_worthSeen {r : Nat} (hD : OkD D C) (hT : Td I t D C) (hq : isq t q) (hk : k < 5) (hr : r < nR D ∨ nR D = 0) (hs : ∀ i, i < 10 → I 46 i = sight D P b a 0 0 i) : ∃ I', x1_worthSeen t (rul D r) (Int32.ofNat k) I = some (sworth D C P b a k r, I') ∧ (∀ i, i < 10 → I' 46 i = sight D P b a 0 0 i) ∧ Fg t I I' := by
  have hR6 := hD.r
  by_cases h0 : nR D = 0
  · refine ⟨I, ?_, hs, Fg.refl⟩
    simp only [x1_worthSeen, rul, sworth, if_pos h0, if_true]
  · have hr : r < nR D := by omega
    have ht := hq.1
    have t46 : (46 : Nat) ≠ t + 17 := by rcases ht with h | h <;> omega
    obtain ⟨I2, h4, h5⟩ := c_value (g := sight D P b a 0 0) hq.1 (show k < 11 by omega) (hT.2.2.2.1 k hk) (hD.2.2.2.2.2.2.1 k hk) hs
    have hf2 : Fg t I (wI (wI I2 46 8 (Int32.ofNat k)) 46 9 (sodds D C P b a k)) := fun c _ h2 h3 => by rw [wI_c h2, wI_c h2]; exact h5 c h3
    have hs2 : ∀ i, i < 10 → (wI (wI I2 46 8 (Int32.ofNat k)) 46 9 (sodds D C P b a k)) 46 i = sight D P b a (Int32.ofNat k) (sodds D C P b a k) i := by
      intro i hi
      have := hs i hi
      rw [← h5 46 t46] at this
      have hh : i = 0 ∨ i = 1 ∨ i = 2 ∨ i = 3 ∨ i = 4 ∨ i = 5 ∨ i = 6 ∨ i = 7 ∨ i = 8 ∨ i = 9 := by omega
      rcases hh with rfl | rfl | rfl | rfl | rfl | rfl | rfl | rfl | rfl | rfl <;> simp [wI, sight] at this ⊢ <;> exact this
    obtain ⟨I3, h6, h7⟩ := c_value (s := 5 + r) hq.1 (by omega) ((hT.2.2.2.2 r hr).fg hq.1 hf2) (hD.2.2.2.2.2.2.2 r hr) hs2
    refine ⟨wI (wI I3 46 8 0) 46 9 0, ?_, fun i hi => ?_, fun c h1 h2 h3 => by rw [wI_c h2, wI_c h2, h7 c h3]; exact hf2 c h1 h2 h3⟩
    · have e8 : (8 : Int32).toNatClampNeg = 8 := rfl
      have e9 : (9 : Int32).toNatClampNeg = 9 := rfl
      simp (disch := omega) only [x1_worthSeen, rul, sworth, if_neg h0, QB, q_m1, if_false, h4, c_asOdds, x1_hideTry, q_nadd, e8, e9]
      rw [show sclamp (sval (C k) (sight D P b a 0 0)) = sodds D C P b a k from rfl]
      simp only [h6, QB]
    · have e := hs2 i hi
      rw [← h7 46 t46] at e
      have hh : i = 0 ∨ i = 1 ∨ i = 2 ∨ i = 3 ∨ i = 4 ∨ i = 5 ∨ i = 6 ∨ i = 7 ∨ i = 8 ∨ i = 9 := by omega
      rcases hh with rfl | rfl | rfl | rfl | rfl | rfl | rfl | rfl | rfl | rfl <;> simp [wI, sight] at e ⊢ <;> exact e
theorem schs_lt {r : Nat} : ∀ {n u : Nat} {v : Int32}, schs D C P b r n = some (u, v) → u < n
  | 0, _, _, h => by simp [schs] at h
  | n + 1, u, v, h => by
    simp only [schs] at h
    split at h
    · cases h' : schs D C P b r n with
      | none => rw [h'] at h; cases h; omega
      | some p =>
        obtain ⟨u', v'⟩ := p
        have := schs_lt h'
        rw [h'] at h
        simp only [sbet] at h
        split at h <;> cases h <;> omega
    · have := schs_lt h; omega
theorem cw_m1 {r n : Nat} (hn : n ≤ 50) : (cw (schs D C P b r n) = -1) = (schs D C P b r n = none) := by
  cases h : schs D C P b r n with
  | none => simp [cw]
  | some p =>
    obtain ⟨u, v⟩ := p
    have := schs_lt h
    simp only [cw, q_m1 (show 10 * (u / 5) + u % 5 < 2147483648 by omega)]
    simp
theorem c_chooseK {r : Nat} (hD : OkD D C) (hP : OkP D P) (hq : isq t q) (hb : b < nB D) (ha : a < nA D) (hr : r < nR D ∨ nR D = 0) (hre : P (5 * a + 2) < 0 ∧ ¬ D 9 b < sfar P b a) : ∀ (j k n : Nat) (I : MI), k + j = 5 → j < n → Td I t D C → Rl D m I q P → (∀ i, i < 10 → I 46 i = sight D P b a 0 0 i) →
    ∃ I', x1_choose_L46 t q (Int32.ofNat b) (rul D r) (Int32.ofNat a) n (cw (schs D C P b r (5 * a + k))) (cm (schs D C P b r (5 * a + k))) (Int32.ofNat k) I = some (cw (schs D C P b r (5 * a + 5)), cm (schs D C P b r (5 * a + 5)), I') ∧ Fg t I I' := by
  have h1 := hD.a
  intro j
  induction j with
  | zero =>
    intro k n I hk hn hT hR hs
    obtain ⟨n, rfl⟩ : ∃ n', n = n' + 1 := ⟨n - 1, by omega⟩
    obtain rfl : k = 5 := by omega
    refine ⟨I, ?_, Fg.refl⟩
    simp (disch := omega) only [x1_choose_L46, x1_choose_L46s, QN]
    simp
  | succ j ih =>
    intro k n I hk hn hT hR hs
    obtain ⟨n, rfl⟩ : ∃ n', n = n' + 1 := ⟨n - 1, by omega⟩
    obtain ⟨I1, g1, g2⟩ := c_allows hD hT hR hP hq hb ha (show k < 5 by omega)
    have f1 : Fg t I I1 := fun c h _ _ => g2 c h
    have hs1 : ∀ i, i < 10 → I1 46 i = sight D P b a 0 0 i := fun i hi => by rw [g2 46 (by omega)]; exact hs i hi
    have e1 : (5 * a + k) / 5 = a := by omega
    have e2 : (5 * a + k) % 5 = k := by omega
    have hsc : scan D P b a k = (decide (¬ P (50 + 3 * b) < sbr k) && (decide (k ≠ 1) || decide (D 5 a = 1)) && (decide (k ≠ 2) || srim D (P (5 * a)) (P (5 * a + 1))) && (decide (k ≠ 4) || slean D P b a)) := by
      simp only [scan, hre.1, hre.2, decide_true, Bool.true_and, not_false_eq_true]
    rw [← hsc] at g1
    have hst : schs D C P b r (5 * a + (k + 1)) = if scan D P b a k then sbet (schs D C P b r (5 * a + k)) (5 * a + k) (sworth D C P b a k r) else schs D C P b r (5 * a + k) := by
      rw [show 5 * a + (k + 1) = 5 * a + k + 1 by omega]
      simp only [schs, e1, e2]
    have ew : Int32.ofNat (10 * a + k) = cw (some (5 * a + k, sworth D C P b a k r)) := by simp only [cw, e1, e2]
    simp (disch := omega) only [x1_choose_L46, x1_choose_L46s, QB, QN, if_pos (show k < 5 by omega), g1, b2i_0]
    by_cases hc : scan D P b a k = true
    · simp only [hc, if_true] at hst ⊢
      obtain ⟨I2, g3, g4, g5⟩ := c_worthSeen (r := r) hD (hT.fg hq f1) hq (show k < 5 by omega) hr hs1
      have f2 := f1.trans g5
      simp only [g3, QB]
      simp only [cw_m1 (D := D) (C := C) (P := P) (b := b) (r := r) (show 5 * a + k ≤ 50 by omega)]
      obtain ⟨I3, k1, k2⟩ := ih (k + 1) n I2 (by omega) (by omega) (hT.fg hq f2) (hR.fg hq f2) g4
      refine ⟨I3, ?_, f2.trans k2⟩
      rw [hst] at k1
      cases ho : schs D C P b r (5 * a + k) with
      | none =>
        simp only [ho, sbet, if_true] at k1 ⊢
        rw [ew]; exact k1
      | some p =>
        obtain ⟨u, v⟩ := p
        simp only [ho, sbet, reduceCtorEq, if_false] at k1 ⊢
        by_cases hv : v < sworth D C P b a k r
        · rw [if_pos hv] at k1
          rw [if_pos (show cm (some (u, v)) < sworth D C P b a k r from hv)]
          rw [ew]; exact k1
        · rw [if_neg hv] at k1
          rw [if_neg (show ¬ cm (some (u, v)) < sworth D C P b a k r from hv)]
          exact k1
    · have hc' : scan D P b a k = false := by simpa using hc
      simp only [hc', Bool.false_eq_true, if_false] at hst ⊢
      obtain ⟨I3, k1, k2⟩ := ih (k + 1) n I1 (by omega) (by omega) (hT.fg hq f1) (hR.fg hq f1) hs1
      refine ⟨I3, ?_, f1.trans k2⟩
      rw [hst] at k1
      exact k1
theorem schs_skip {r : Nat} (hre : ¬ (P (5 * a + 2) < 0 ∧ ¬ D 9 b < sfar P b a)) : ∀ k, k ≤ 5 → schs D C P b r (5 * a + k) = schs D C P b r (5 * a)
  | 0, _ => rfl
  | k + 1, h => by
    have e1 : (5 * a + k) / 5 = a := by omega
    have e2 : (5 * a + k) % 5 = k := by omega
    rw [show 5 * a + (k + 1) = 5 * a + k + 1 by omega]
    have : scan D P b a k = false := by
      simp only [scan]
      by_cases h1 : P (5 * a + 2) < 0
      · have h2 : D 9 b < sfar P b a := by
          by_cases h2 : D 9 b < sfar P b a
          · exact h2
          · exact absurd ⟨h1, h2⟩ hre
        simp [h2]
      · simp [h1]
    simp only [schs, e1, e2, this, Bool.false_eq_true, if_false]
    exact schs_skip hre k (by omega)
theorem c_chooseA {r : Nat} (hD : OkD D C) (hP : OkP D P) (hq : isq t q) (hb : b < nB D) (hr : r < nR D ∨ nR D = 0) : ∀ (j a n : Nat) (I : MI), a + j = nA D → j < n → Td I t D C → Rl D m I q P →
    ∃ I', x1_choose_L9 t q (Int32.ofNat b) (rul D r) n (cw (schs D C P b r (5 * a))) (cm (schs D C P b r (5 * a))) (Int32.ofNat a) I = some (cw (schs D C P b r (5 * nA D)), I') ∧ Fg t I I' := by
  have h1 := hD.a
  intro j
  induction j with
  | zero =>
    intro a n I hk hn hT hR
    obtain ⟨n, rfl⟩ : ∃ n', n = n' + 1 := ⟨n - 1, by omega⟩
    obtain rfl : a = nA D := by omega
    refine ⟨I, ?_, Fg.refl⟩
    simp (disch := omega) only [x1_choose_L9, x1_choose_L9s, hT.1.2.2.2.2.1, hD.2.1.1.1, QN]
    simp
  | succ j ih =>
    intro a n I hk hn hT hR
    obtain ⟨n, rfl⟩ : ∃ n', n = n' + 1 := ⟨n - 1, by omega⟩
    simp (disch := omega) only [x1_choose_L9, x1_choose_L9s, hT.1.2.2.2.2.1, hD.2.1.1.1, QB, QN, if_pos (show a < nA D by omega), c_reaches hD hT hR hb (show a < nA D by omega), b2i_0]
    by_cases hre : P (5 * a + 2) < 0 ∧ ¬ D 9 b < sfar P b a
    · have hre' : (decide (P (5 * a + 2) < 0) && decide (¬ D 9 b < sfar P b a)) = true := by simp [hre.1, hre.2]
      simp only [hre', if_true]
      obtain ⟨I1, g1, g2, g3⟩ := c_look hD hT hR hq hb (show a < nA D by omega)
      have f1 : Fg t I I1 := fun c _ h _ => g3 c h
      obtain ⟨I2, g4, g5⟩ := c_chooseK (m := m) (C := C) (r := r) hD hP hq hb (show a < nA D by omega) hr hre 5 0 FU I1 (by omega) (by unfold FU; omega) (hT.fg hq f1) (hR.fg hq f1) g2
      have f2 := f1.trans g5
      obtain ⟨I3, k1, k2⟩ := ih (a + 1) n I2 (by omega) (by omega) (hT.fg hq f2) (hR.fg hq f2)
      refine ⟨I3, ?_, f2.trans k2⟩
      rw [show 5 * a + 0 = 5 * a by omega, show Int32.ofNat 0 = 0 from rfl] at g4
      simp only [g1, QB, g4]
      exact k1
    · have hre' : (decide (P (5 * a + 2) < 0) && decide (¬ D 9 b < sfar P b a)) = false := by
        by_cases g1 : P (5 * a + 2) < 0 <;> by_cases g2 : D 9 b < sfar P b a <;> simp_all
      simp only [hre', Bool.false_eq_true, if_false]
      obtain ⟨I3, k1, k2⟩ := ih (a + 1) n I (by omega) (by omega) hT hR
      rw [show 5 * (a + 1) = 5 * a + 5 by omega, schs_skip hre 5 (by omega)] at k1
      exact ⟨I3, k1, k2⟩
theorem c_choose {r : Nat} (hD : OkD D C) (hT : Td I t D C) (hR : Rl D m I q P) (hP : OkP D P) (hq : isq t q) (hb : b < nB D) (hr : r < nR D ∨ nR D = 0) : ∃ I', x1_choose t q (Int32.ofNat b) (rul D r) I = some (cw (schs D C P b r (5 * nA D)), I') ∧ Fg t I I' := by
  have h1 := hD.a
  obtain ⟨I', k1, k2⟩ := c_chooseA (m := m) (C := C) (r := r) hD hP hq hb hr (nA D) 0 FU I (by omega) (by unfold FU; omega) hT hR
  refine ⟨I', ?_, k2⟩
  rw [show cw (schs D C P b r (5 * 0)) = -1 from rfl, show cm (schs D C P b r (5 * 0)) = 0 from rfl, show Int32.ofNat 0 = 0 from rfl] at k1
  simp only [x1_choose, QB, k1]
end CR
