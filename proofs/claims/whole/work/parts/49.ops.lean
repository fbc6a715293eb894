/-! CALLS, 8: gone, provide, fill, coin -/
section OP
variable {t : Nat} {I : MI} {L : ML} {R : MR} {S : MS} {D : TD} {C : TC} {P : PR} {Z : AX}
theorem c_isSet (hD : OkD D C) (hT : Td I t D C) (p : Int32) : x10_isSet t p I = some (b2i (isn p (2 ^ nA D))) := by
  have hA := hD.a
  rw [x10_isSet, hT.1.2.2.2.2.1, hD.2.1.1.1, shl_n (nA D) (by omega), isn_c]
theorem op_gone (h : INV t I L R S D C P Z) (p : Int32) : ∃ r I1 I2, x10_gone t p I = some (r, I1) ∧ x11_gone p I1 = some (r, I2) ∧ INV t I2 L R S D C P Z := by
  have hS := h.1
  have ht := hS.2.2.2.1
  have hD := h.2.2.2.1.1
  have hP := h.2.2.2.1.2.1
  have hA := hD.a
  have h10 : 2 ^ nA D ≤ 1024 := pow_le hA
  have haf := sas_lt P (nA D)
  by_cases h0 : p < 0
  · have hn : isn p (2 ^ nA D) = false := by simp [isn, h0]
    refine ⟨-2, I, I, ?_, ?_, h⟩
    · simp [x10_gone, c_isSet hD h.2.1.1, QB, b2i_0, hn]
    · simp only [x11_gone, if_pos h0]
  · obtain ⟨I2, m1, m2⟩ := m_as hD h.2.2.1.1 h.2.2.1.2.1
    by_cases hc : (p &&& (Int32.ofNat (sas P (nA D)) ^^^ (-1))) = 0
    · obtain ⟨s, hs1, rfl, hs2⟩ := sub_set h0 (show sas P (nA D) < 1024 by omega) hc
      obtain ⟨I3, c1, c2⟩ := c_gone (C := C) (show s < 1024 by omega) (Nat.le_refl 60) ht hD hP h.2.1.1 h.2.1.2.1
      have h3 := h.q (c2.t.kc hS) Kr.refl
      obtain ⟨I4, m3, m4⟩ := m_as hD h3.2.2.1.1 h3.2.2.1.2.1
      obtain ⟨I5, m5, m6⟩ := m_gone (C := C) (show s < 1024 by omega) hD (m4.rd h3.2.2.1.1) (m4.nw h3.2.2.1.2.1) hP
      rw [show Int32.ofNat 60 = 60 from rfl] at c1
      refine ⟨oi (sgo' D C P s 60), I3, I5, ?_, ?_, h3.q Kc.refl (m4.trans m6).kr⟩
      · simp only [x10_gone, c_isSet hD h.2.1.1, QB, b2i_0, isn_n (n := 2 ^ nA D) (by omega) (show s < 2 ^ nA D by omega), if_true, c_as hD h.2.1.1 h.2.1.2.1, hc, c1]
      · simp only [x11_gone, if_neg h0, m3, QB, hc, if_true, m5]
    · refine ⟨-2, I, I2, ?_, ?_, h.q Kc.refl m2.kr⟩
      · simp only [x10_gone, c_isSet hD h.2.1.1, QB, b2i_0, c_as hD h.2.1.1 h.2.1.2.1, hc, if_false]
        cases isn p (2 ^ nA D) <;> simp
      · simp only [x11_gone, if_neg h0, m1, QB, hc, if_false]
/-! provide -/
/-- of a set: enough for n turns -/
def spv (D : TD) (C : TC) (P : PR) (n s : Nat) : Bool := decide (s &&& sas P (nA D) = s) && (sgo' D C P s n).isNone
theorem sfg_lt {Q : PR} : ∀ {k w u : Nat}, sfg D C Q w k = some u → w ≤ u ∧ u ≤ w + k ∧ scnt (sgw D C Q u) (nA D) = 0 ∧ ∀ v, w ≤ v → v < u → scnt (sgw D C Q v) (nA D) ≠ 0
  | 0, w, u, h => by
    simp only [sfg] at h
    split at h
    · next g => cases h; exact ⟨by omega, by omega, g, fun v h1 h2 => by omega⟩
    · cases h
  | k + 1, w, u, h => by
    simp only [sfg] at h
    split at h
    · next g => cases h; exact ⟨by omega, by omega, g, fun v h1 h2 => by omega⟩
    · next g =>
      obtain ⟨h1, h2, h3, h4⟩ := sfg_lt h
      refine ⟨by omega, by omega, h3, fun v g1 g2 => ?_⟩
      by_cases e : v = w
      · subst e; exact g
      · exact h4 v (by omega) g2
theorem sfg_no {Q : PR} : ∀ {k w : Nat}, sfg D C Q w k = none → ∀ v, w ≤ v → v ≤ w + k → scnt (sgw D C Q v) (nA D) ≠ 0
  | 0, w, h, v, h1, h2 => by
    simp only [sfg] at h
    split at h
    · cases h
    · next g => obtain rfl : v = w := by omega
                exact g
  | k + 1, w, h, v, h1, h2 => by
    simp only [sfg] at h
    split at h
    · cases h
    · next g =>
      by_cases e : v = w
      · subst e; exact g
      · exact sfg_no h v (by omega) (by omega)
/-- not gone within n: by what 60 turns show -/
theorem spv_60 {s n : Nat} (hn : n ≤ 60) : (sgo' D C P s n).isNone = true ↔ (match sgo' D C P s 60 with | none => True | some u => n < u) := by
  simp only [sgo']
  cases h60 : sfg D C (srg s (nA D) P) 0 60 with
  | none =>
    cases hn' : sfg D C (srg s (nA D) P) 0 n with
    | none => simp
    | some u =>
      obtain ⟨-, h2, h3, -⟩ := sfg_lt hn'
      exact absurd h3 (sfg_no h60 u (by omega) (by omega))
  | some u =>
    obtain ⟨-, h2, h3, h4⟩ := sfg_lt h60
    cases hn' : sfg D C (srg s (nA D) P) 0 n with
    | none =>
      simp only [Option.isNone_none, true_iff]
      by_cases g : n < u
      · exact g
      · exact absurd h3 (sfg_no hn' u (by omega) (by omega))
    | some v =>
      obtain ⟨-, g2, g3, g4⟩ := sfg_lt hn'
      simp only [Option.isNone_some, Bool.false_eq_true, false_iff, Nat.not_lt]
      by_cases g : u ≤ n
      · exact g
      · exact absurd g3 (h4 v (by omega) (by omega))
/-- the best of sets -/
def Bst (pv : Nat → Bool) (m s : Nat) : Prop := 1 ≤ s ∧ s < m ∧ pv s = true ∧ ∀ u, 1 ≤ u → u < m → pv u = true → pc s < pc u ∨ (pc s = pc u ∧ s ≤ u)
theorem Bst.un {pv : Nat → Bool} {m s u : Nat} (h : Bst pv m s) (k : Bst pv m u) : s = u := by
  have h1 := h.2.2.2 u k.1 k.2.1 k.2.2.1
  have h2 := k.2.2.2 s h.1 h.2.1 h.2.2.1
  omega
theorem pc_pos : ∀ a, a < 32 → ∀ b, b < 32 → (32 * a + b = 0 ∨ 1 ≤ pc (32 * a + b)) := by decide +kernel
theorem pc_up : ∀ n, n ≤ 10 → ∀ a, a < 32 → ∀ b, b < 32 → (2 ^ n ≤ 32 * a + b ∨ pc (32 * a + b) ≤ n) := by decide +kernel
theorem pc_1 {s : Nat} (h : s < 1024) (h1 : 1 ≤ s) : 1 ≤ pc s := by
  have := pc_pos (s / 32) (by omega) (s % 32) (by omega)
  rw [Nat.div_add_mod] at this
  omega
theorem pc_n {s n : Nat} (hn : n ≤ 10) (h : s < 2 ^ n) : pc s ≤ n := by
  have h10 : 2 ^ n ≤ 1024 := pow_le hn
  have := pc_up n hn (s / 32) (by omega) (s % 32) (by omega)
  rw [Nat.div_add_mod] at this
  omega
theorem Kc.td {I' : MI} (hK : Kc t R I I') (hT : Td I t D C) : Td I' t D C := hT.kc hK
/-- of sets of c apples, from s on -/
theorem c_pvS {N c af : Nat} (hN : N ≤ 60) (ht : isT t) (hD : OkD D C) (hP : OkP D P) (haf : af = sas P (nA D)) (w : Int32) (hc : c ≤ 10) : ∀ (j s n : Nat) (I : MI), s + j = af + 1 → 1 ≤ s → j < n → Td I t D C → Rl D true I 47 P → (∀ u, 1 ≤ u → u < s → spv D C P N u = true → pc u ≠ c) →
    ∃ I', (x10_provide_L48 t (Int32.ofNat N) w (Int32.ofNat af) (Int32.ofNat c) n (Int32.ofNat s) I = some (.inl I') ∧ (∀ u, 1 ≤ u → u < af + 1 → spv D C P N u = true → pc u ≠ c) ∨ ∃ u, x10_provide_L48 t (Int32.ofNat N) w (Int32.ofNat af) (Int32.ofNat c) n (Int32.ofNat s) I = some (.inr (if w = 0 then Int32.ofNat c else Int32.ofNat u, I')) ∧ 1 ≤ u ∧ u < af + 1 ∧ spv D C P N u = true ∧ pc u = c ∧ ∀ v, 1 ≤ v → v < u → spv D C P N v = true → pc v ≠ c) ∧ Ft t I I' := by
  have hA := hD.a
  have h10 : 2 ^ nA D ≤ 1024 := pow_le hA
  have hafl := sas_lt P (nA D)
  rw [← haf] at hafl
  intro j
  induction j with
  | zero =>
    intro s n I hs h1 hn hT hR hb
    obtain ⟨n, rfl⟩ : ∃ n', n = n' + 1 := ⟨n - 1, by omega⟩
    obtain rfl : s = af + 1 := by omega
    refine ⟨I, Or.inl ⟨?_, hb⟩, Ft.refl⟩
    simp (disch := omega) only [x10_provide_L48, x10_provide_L48s, QN]
    rw [if_pos (by omega)]
  | succ j ih =>
    intro s n I hs h1 hn hT hR hb
    obtain ⟨n, rfl⟩ : ∃ n', n = n' + 1 := ⟨n - 1, by omega⟩
    have hpc := pc_le s
    have hcond : (if (Int32.ofNat s &&& (Int32.ofNat af ^^^ (-1))) = 0 then b1 (j6_bitCount_0f7a4 (Int32.ofNat s) I) fun r6 => (if r6 = Int32.ofNat c then some (1 : Int32) else some 0) else some 0) = some (if (s &&& af = s) ∧ pc s = c then 1 else 0) := by
      rw [cnt_n (show s < 1024 by omega), q_b1]
      simp only [sub_n (show s < 1024 by omega) (show af < 1024 by omega)]
      by_cases g1 : s &&& af = s
      · rw [if_pos g1]
        simp only [q_eq (show pc s < 2147483648 by omega) (show c < 2147483648 by omega)]
        by_cases g2 : pc s = c <;> simp [g1, g2]
      · rw [if_neg g1, if_neg (fun h => g1 h.1)]
    simp (disch := omega) only [x10_provide_L48, x10_provide_L48s, QN]
    rw [if_neg (by omega), hcond]
    simp (disch := omega) only [QB, QN]
    by_cases hg : (s &&& af = s) ∧ pc s = c
    · rw [if_pos hg]
      obtain ⟨I1, c1, c2⟩ := c_gone (C := C) (s := s) (show s < 1024 by omega) hN ht hD hP hT hR
      have hor : (oi (sgo' D C P s N) = -1) = ((sgo' D C P s N).isNone = true) := by
        cases hh : sgo' D C P s N with
        | none => simp [oi]
        | some u =>
          have := (sfg_lt hh).2.1
          simp only [oi, q_m1 (show u < 2147483648 by omega)]; simp
      simp only [c1, QB, hor]
      by_cases hnn : (sgo' D C P s N).isNone = true
      · refine ⟨I1, Or.inr ⟨s, ?_, h1, by omega, ?_, hg.2, fun v v1 v2 v3 => hb v v1 v2 v3⟩, c2.t⟩
        · simp only [hnn, if_true]
          by_cases hw : w = 0 <;> simp [hw]
        · simp only [spv, ← haf, hg.1, decide_true, hnn, Bool.and_self]
      · have hsp : spv D C P N s = false := by simp only [spv, Bool.and_eq_false_iff]; exact Or.inr (by cases hq : (sgo' D C P s N).isNone with | true => exact absurd hq hnn | false => rfl)
        obtain ⟨I2, r1, r2⟩ := ih (s + 1) n I1 (by omega) (by omega) (by omega) (c2.t.td ht hT) (c2.t.rl ht hR) (fun u u1 u2 u3 => by
          by_cases e : u = s
          · subst e; rw [hsp] at u3; cases u3
          · exact hb u u1 (by omega) u3)
        refine ⟨I2, ?_, c2.t.trans r2⟩
        simp only [hnn, Bool.false_eq_true, if_false]
        exact r1
    · rw [if_neg hg]
      obtain ⟨I2, r1, r2⟩ := ih (s + 1) n I (by omega) (by omega) (by omega) hT hR (fun u u1 u2 u3 => by
        by_cases e : u = s
        · subst e
          intro e2
          simp only [spv, ← haf, Bool.and_eq_true, decide_eq_true_eq] at u3
          exact hg ⟨u3.1, e2⟩
        · exact hb u u1 (by omega) u3)
      exact ⟨I2, r1, r2⟩
theorem c_pvC {N af : Nat} (hN : N ≤ 60) (ht : isT t) (hD : OkD D C) (hP : OkP D P) (haf : af = sas P (nA D)) (w : Int32) : ∀ (j c n : Nat) (I : MI), c + j = nA D + 1 → 1 ≤ c → j < n → Td I t D C → Rl D true I 47 P → (∀ u, 1 ≤ u → u < af + 1 → spv D C P N u = true → c ≤ pc u) →
    ∃ I', (x10_provide_L30 t (Int32.ofNat N) w (Int32.ofNat af) n (Int32.ofNat c) I = some (.inl I') ∧ (∀ u, 1 ≤ u → u < af + 1 → spv D C P N u = true → False) ∨ ∃ u, x10_provide_L30 t (Int32.ofNat N) w (Int32.ofNat af) n (Int32.ofNat c) I = some (.inr (if w = 0 then Int32.ofNat (pc u) else Int32.ofNat u, I')) ∧ Bst (spv D C P N) (af + 1) u) ∧ Ft t I I' := by
  have hA := hD.a
  have h10 : 2 ^ nA D ≤ 1024 := pow_le hA
  have hafl := sas_lt P (nA D)
  rw [← haf] at hafl
  intro j
  induction j with
  | zero =>
    intro c n I hs h1 hn hT hR hb
    obtain ⟨n, rfl⟩ : ∃ n', n = n' + 1 := ⟨n - 1, by omega⟩
    obtain rfl : c = nA D + 1 := by omega
    refine ⟨I, Or.inl ⟨?_, fun u u1 u2 u3 => ?_⟩, Ft.refl⟩
    · simp (disch := omega) only [x10_provide_L30, x10_provide_L30s, hT.1.2.2.2.2.1, hD.2.1.1.1, QN]
      rw [if_pos (by omega)]
    · have := hb u u1 u2 u3
      have := pc_n hA (show u < 2 ^ nA D by omega)
      omega
  | succ j ih =>
    intro c n I hs h1 hn hT hR hb
    obtain ⟨n, rfl⟩ : ∃ n', n = n' + 1 := ⟨n - 1, by omega⟩
    obtain ⟨I1, c1, c2⟩ := c_pvS hN ht hD hP haf w (show c ≤ 10 by omega) af 1 FU I (by omega) (by omega) (by unfold FU; omega) hT hR (fun u u1 u2 => by omega)
    rw [show Int32.ofNat 1 = 1 from rfl] at c1
    simp (disch := omega) only [x10_provide_L30, x10_provide_L30s, hT.1.2.2.2.2.1, hD.2.1.1.1, QN, QB]
    rw [if_neg (by omega)]
    rcases c1 with ⟨c1, c3⟩ | ⟨u, c1, u1, u2, u3, u4, u5⟩
    · obtain ⟨I2, r1, r2⟩ := ih (c + 1) n I1 (by omega) (by omega) (by omega) (c2.td ht hT) (c2.rl ht hR) (fun u u1 u2 u3 => by
        have g1 := hb u u1 u2 u3
        have g2 := c3 u u1 u2 u3
        omega)
      refine ⟨I2, ?_, c2.trans r2⟩
      simp only [c1, bF]
      exact r1
    · refine ⟨I1, Or.inr ⟨u, ?_, u1, u2, u3, fun v v1 v2 v3 => ?_⟩, c2⟩
      · simp only [c1, bF, u4]
      · have g1 := hb v v1 v2 v3
        by_cases e : pc v = c
        · refine Or.inr ⟨by omega, ?_⟩
          by_cases g : v < u
          · exact absurd e (u5 v v1 g v3)
          · omega
        · exact Or.inl (by omega)
theorem Bst.step_n {pv : Nat → Bool} {m s : Nat} (h : Bst pv m s) (hn : pv m = true → pc s ≤ pc m) : Bst pv (m + 1) s := by
  obtain ⟨h1, h2, h3, h4⟩ := h
  refine ⟨h1, by omega, h3, fun u u1 u2 u3 => ?_⟩
  by_cases e : u = m
  · subst e
    have := hn u3
    omega
  · exact h4 u u1 (by omega) u3
theorem Bst.step_y {pv : Nat → Bool} {m s : Nat} (h : Bst pv m s) (h1m : 1 ≤ m) (hp : pv m = true) (hl : pc m < pc s) : Bst pv (m + 1) m := by
  obtain ⟨h1, h2, h3, h4⟩ := h
  refine ⟨h1m, by omega, hp, fun u u1 u2 u3 => ?_⟩
  by_cases e : u = m
  · subst e; exact Or.inr ⟨rfl, Nat.le_refl _⟩
  · have := h4 u u1 (by omega) u3
    exact Or.inl (by omega)
def Bo (pv : Nat → Bool) (m : Nat) (o : Option Nat) : Prop := match o with
  | none => ∀ u, 1 ≤ u → u < m → pv u = false
  | some s => Bst pv m s
theorem m_pvL {N af : Nat} (hN : N ≤ 60) (hD : OkD D C) (hP : OkP D P) (haf : af = sas P (nA D)) : ∀ (j s n : Nat) (o : Option Nat) (I : MI), s + j = 2 ^ nA D → 1 ≤ s → j < n → Rd I D C → Nw I P → Bo (spv D C P N) s o →
    ∃ I' o', x11_provide_L32 (Int32.ofNat N) (Int32.ofNat af) n (oi o) (Int32.ofNat s) I = some (oi o', I') ∧ Bo (spv D C P N) (2 ^ nA D) o' ∧ Fm I I' := by
  have hA := hD.a
  have h10 : 2 ^ nA D ≤ 1024 := pow_le hA
  have hafl := sas_lt P (nA D)
  rw [← haf] at hafl
  intro j
  induction j with
  | zero =>
    intro s n o I hs h1 hn hR hN' hb
    obtain ⟨n, rfl⟩ : ∃ n', n = n' + 1 := ⟨n - 1, by omega⟩
    obtain rfl : s = 2 ^ nA D := by omega
    refine ⟨I, o, ?_, hb, Fm.refl⟩
    simp (disch := omega) only [x11_provide_L32, x11_provide_L32s, hR.1.2.2.2.1, hD.2.1.1.1, shl_n (nA D) (by omega), QN]
    simp
  | succ j ih =>
    intro s n o I hs h1 hn hR hN' hb
    obtain ⟨n, rfl⟩ : ∃ n', n = n' + 1 := ⟨n - 1, by omega⟩
    -- the test of one set
    have hone : ∀ (K : Int32 → MI → Option (Int32 × MI)) (A B : MI → Option (Int32 × MI)), s &&& af = s → ∃ I1, Fm I I1 ∧ (b2 (x11_goneOf (Int32.ofNat s) I) fun r9 I10 => if r9 < 0 then A I10 else if Int32.ofNat N < r9 then A I10 else B I10) = if spv D C P N s = true then A I1 else B I1 := by
      intro K A B hsub
      obtain ⟨I1, g1, g2⟩ := m_gone (C := C) (s := s) (show s < 1024 by omega) hD hR hN' hP
      refine ⟨I1, g2, ?_⟩
      have h60 := spv_60 (D := D) (C := C) (P := P) (s := s) hN
      have hsp : spv D C P N s = (sgo' D C P s N).isNone := by simp only [spv, ← haf, hsub, decide_true, Bool.true_and]
      rw [g1, q_b2, hsp]
      cases hu : sgo' D C P s 60 with
      | none =>
        rw [hu] at h60
        rw [if_pos (show oi none < 0 from by decide), if_pos (h60.mpr trivial)]
      | some u =>
        rw [hu] at h60
        have hul := (sfg_lt hu).2.1
        have eo : oi (some u) = Int32.ofNat u := rfl
        rw [eo, if_neg (show ¬ Int32.ofNat u < 0 by rw [q_neg (by omega)]; exact id)]
        by_cases g : N < u
        · rw [if_pos (show Int32.ofNat N < Int32.ofNat u by rw [q_lt (by omega) (by omega)]; exact g), if_pos (h60.mpr g)]
        · rw [if_neg (show ¬ Int32.ofNat N < Int32.ofNat u by rw [q_lt (by omega) (by omega)]; exact g), if_neg (fun h => g (h60.mp h))]
    simp (disch := omega) only [x11_provide_L32, x11_provide_L32s, hR.1.2.2.2.1, hD.2.1.1.1, shl_n (nA D) (by omega), QN, QB, if_pos (show s < 2 ^ nA D by omega)]
    simp only [sub_n (show s < 1024 by omega) (show af < 1024 by omega)]
    by_cases hsub : s &&& af = s
    · rw [if_pos hsub]
      obtain ⟨I1, f1, e1⟩ := hone (fun _ _ => none) (fun J => x11_provide_L32 (Int32.ofNat N) (Int32.ofNat af) n (Int32.ofNat s) (Int32.ofNat (s + 1)) J) (fun J => x11_provide_L32 (Int32.ofNat N) (Int32.ofNat af) n (oi o) (Int32.ofNat (s + 1)) J) hsub
      cases o with
      | none =>
        rw [if_pos (show oi none < 0 from by decide), e1]
        by_cases hp : spv D C P N s = true
        · rw [if_pos hp]
          obtain ⟨I2, o2, r1, r2, r3⟩ := ih (s + 1) n (some s) I1 (by omega) (by omega) (by omega) (f1.rd hR) (f1.nw hN') ⟨h1, by omega, hp, fun u u1 u2 u3 => by
            by_cases e : u = s
            · subst e; exact Or.inr ⟨rfl, Nat.le_refl _⟩
            · have := hb u u1 (by omega); rw [this] at u3; cases u3⟩
          exact ⟨I2, o2, r1, r2, f1.trans r3⟩
        · rw [if_neg hp]
          obtain ⟨I2, o2, r1, r2, r3⟩ := ih (s + 1) n none I1 (by omega) (by omega) (by omega) (f1.rd hR) (f1.nw hN') (fun u u1 u2 => by
            by_cases e : u = s
            · subst e; simpa using hp
            · exact hb u u1 (by omega))
          exact ⟨I2, o2, r1, r2, f1.trans r3⟩
      | some b =>
        have hbl : b < s := hb.2.1
        have hpb := pc_le b
        have hps := pc_le s
        rw [if_neg (show ¬ oi (some b) < 0 from by simp only [oi, q_neg (show b < 2147483648 by omega)]; exact id)]
        simp only [oi, m_mem (show s < 1024 by omega), m_mem (show b < 1024 by omega), QB] at e1 ⊢
        by_cases hlt : pc s < pc b
        · rw [if_pos (by rw [q_lt (by omega) (by omega)]; exact hlt), e1]
          by_cases hp : spv D C P N s = true
          · rw [if_pos hp]
            obtain ⟨I2, o2, r1, r2, r3⟩ := ih (s + 1) n (some s) I1 (by omega) (by omega) (by omega) (f1.rd hR) (f1.nw hN') (hb.step_y h1 hp hlt)
            exact ⟨I2, o2, r1, r2, f1.trans r3⟩
          · rw [if_neg hp]
            obtain ⟨I2, o2, r1, r2, r3⟩ := ih (s + 1) n (some b) I1 (by omega) (by omega) (by omega) (f1.rd hR) (f1.nw hN') (hb.step_n (fun h => absurd h hp))
            exact ⟨I2, o2, r1, r2, f1.trans r3⟩
        · rw [if_neg (by rw [q_lt (by omega) (by omega)]; exact hlt)]
          exact ih (s + 1) n (some b) I (by omega) (by omega) (by omega) hR hN' (hb.step_n (fun _ => by omega))
    · rw [if_neg hsub]
      have hp : spv D C P N s = false := by simp only [spv, ← haf, hsub, decide_false, Bool.false_and]
      refine ih (s + 1) n o I (by omega) (by omega) (by omega) hR hN' ?_
      cases o with
      | none =>
        intro u u1 u2
        by_cases e : u = s
        · subst e; exact hp
        · exact hb u u1 (by omega)
      | some b => exact hb.step_n (fun h => by rw [hp] at h; cases h)
theorem op_provide (h : INV t I L R S D C P Z) (p w : Int32) : ∃ r I1 I2, x10_provide t p w I = some (r, I1) ∧ x11_provide p w I1 = some (r, I2) ∧ INV t I2 L R S D C P Z := by
  have hS := h.1
  have ht := hS.2.2.2.1
  have hD := h.2.2.2.1.1
  have hP := h.2.2.2.1.2.1
  have hA := hD.a
  have h10 : 2 ^ nA D ≤ 1024 := pow_le hA
  have haf := sas_lt P (nA D)
  have e1 : ∀ J, x11_isIn w 0 1 J = some (b2i (isu w 1)) := fun J => m_isu w 1 (by omega)
  have hw1 : (isu w 1 = true) = ¬ (w < 0 ∨ 1 < w) := isu_c (by omega)
  by_cases hp1 : p < 1
  · refine ⟨-1, I, I, ?_, ?_, h⟩
    · simp only [x10_provide, if_pos hp1]
    · simp [x11_provide, x11_isIn, hp1, QB]
  · by_cases hp2 : 60 < p
    · refine ⟨-1, I, I, ?_, ?_, h⟩
      · simp only [x10_provide, if_neg hp1, if_pos hp2]
      · simp [x11_provide, x11_isIn, hp1, hp2, QB]
    · have ein : ∀ J, x11_isIn p 1 60 J = some 1 := fun J => by simp [x11_isIn, hp1, hp2]
      obtain ⟨N, hN, rfl⟩ : ∃ N : Nat, N ≤ 60 ∧ p = Int32.ofNat N := by
        have h0 : ¬ p < 0 := fun h => hp1 (by rw [Int32.lt_iff_toInt_lt] at h ⊢; have : (0 : Int32).toInt = 0 := rfl; have : (1 : Int32).toInt = 1 := rfl; omega)
        have h61 : p < Int32.ofNat 61 := by
          rw [Int32.lt_iff_toInt_lt] at hp2 ⊢
          have : (60 : Int32).toInt = 60 := rfl
          have : (Int32.ofNat 61).toInt = 61 := rfl
          omega
        obtain ⟨k, hk, e⟩ := exn h0 h61 (by omega)
        exact ⟨k, by omega, e⟩
      by_cases hw : isu w 1 = true
      · have hw' : ¬ w < 0 ∧ ¬ 1 < w := by
          rw [hw1] at hw
          exact ⟨fun g => hw (Or.inl g), fun g => hw (Or.inr g)⟩
        obtain ⟨I1, c1, c2⟩ := c_pvC hN ht hD hP rfl w (nA D) 1 FU I (by omega) (by omega) (by unfold FU; omega) h.2.1.1 h.2.1.2.1 (fun u u1 u2 _ => pc_1 (by omega) u1)
        have h3 := h.q (c2.kc hS) Kr.refl
        obtain ⟨I2, m1, m2⟩ := m_as hD h3.2.2.1.1 h3.2.2.1.2.1
        obtain ⟨I3, o, m3, m4, m5⟩ := m_pvL (C := C) hN hD hP rfl (2 ^ nA D - 1) 1 FU none I2 (by have := Nat.one_le_two_pow (n := nA D); omega) (by omega) (by unfold FU; omega) (m2.rd h3.2.2.1.1) (m2.nw h3.2.2.1.2.1) (fun u u1 u2 => by omega)
        rw [show oi none = -1 from rfl, show Int32.ofNat 1 = 1 from rfl] at m3
        rw [show Int32.ofNat 1 = 1 from rfl] at c1
        -- sets above are none
        have hup : ∀ u, sas P (nA D) < u → u < 2 ^ nA D → spv D C P N u = false := by
          intro u u1 u2
          simp only [spv]
          have : ¬ (u &&& sas P (nA D) = u) := fun e => by
            have : u &&& sas P (nA D) ≤ sas P (nA D) := Nat.and_le_right
            omega
          simp [this]
        have hk2 : ∀ k : Nat, w = Int32.ofNat k → True := fun _ _ => trivial
        rcases c1 with ⟨c1, c3⟩ | ⟨u, c1, c3⟩
        · have ho : o = none := by
            cases o with
            | none => rfl
            | some s =>
              exfalso
              by_cases g : s < sas P (nA D) + 1
              · exact c3 s m4.1 g m4.2.2.1
              · have := hup s (by omega) m4.2.1
                rw [m4.2.2.1] at this; cases this
          subst ho
          refine ⟨-1, I1, I3, ?_, ?_, h3.q Kc.refl (m2.trans m5).kr⟩
          · simp only [x10_provide, if_neg hp1, if_neg hp2, if_neg hw'.1, if_neg hw'.2, c_as hD h.2.1.1 h.2.1.2.1, QB, c1]
          · simp only [x11_provide, ein, e1, hw, QB, b2i_0, if_true, m1, m3]
            simp [oi]
        · have hbs : Bst (spv D C P N) (2 ^ nA D) u := by
            refine ⟨c3.1, by have := c3.2.1; omega, c3.2.2.1, fun v v1 v2 v3 => ?_⟩
            by_cases g : v < sas P (nA D) + 1
            · exact c3.2.2.2 v v1 g v3
            · have := hup v (by omega) v2
              rw [v3] at this; cases this
          have ho : o = some u := by
            cases o with
            | none =>
              exfalso
              have := m4 u hbs.1 hbs.2.1
              rw [hbs.2.2.1] at this; cases this
            | some s => rw [m4.un hbs]
          subst ho
          have hul : u < 1024 := by have := hbs.2.1; omega
          have hpu := pc_le u
          refine ⟨if w = 0 then Int32.ofNat (pc u) else Int32.ofNat u, I1, I3, ?_, ?_, h3.q Kc.refl (m2.trans m5).kr⟩
          · simp only [x10_provide, if_neg hp1, if_neg hp2, if_neg hw'.1, if_neg hw'.2, c_as hD h.2.1.1 h.2.1.2.1, QB, c1]
          · simp only [x11_provide, ein, e1, hw, QB, b2i_0, if_true, m1, m3, oi, q_neg (show u < 2147483648 by omega), if_false, m_mem hul]
            by_cases hw0 : w = 0 <;> simp [hw0]
      · have hw' : isu w 1 = false := by simpa using hw
        refine ⟨-1, I, I, ?_, ?_, h⟩
        · simp only [x10_provide, if_neg hp1, if_neg hp2]
          rw [hw1, Classical.not_not] at hw
          rcases hw with g | g
          · rw [if_pos g]
          · by_cases h0 : w < 0
            · rw [if_pos h0]
            · rw [if_neg h0, if_pos g]
        · simp [x11_provide, ein, e1, hw', QB, b2i_0]
end OP
