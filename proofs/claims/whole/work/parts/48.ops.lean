/-! CALLS, 7: who is gone, how to provide -/
def sas (P : PR) : Nat → Nat
  | 0 => 0
  | n + 1 => if P (5 * n + 2) < 0 then sas P n ||| 2 ^ n else sas P n
def srg (s : Nat) : Nat → PR → PR
  | 0, P => P
  | n + 1, P => if s / 2 ^ n % 2 = 0 ∧ srg s n P (5 * n + 2) < 0 then upd (srg s n P) (5 * n + 2) 8 else srg s n P
def sgw (D : TD) (C : TC) (P : PR) : Nat → PR
  | 0 => P
  | t + 1 => (sall D C (nB D) (sgw D C P t)).2
/-- the first turn, from t on, k more, behind which none is in the tub -/
def sfg (D : TD) (C : TC) (P : PR) : Nat → Nat → Option Nat
  | t, 0 => if scnt (sgw D C P t) (nA D) = 0 then some t else none
  | t, k + 1 => if scnt (sgw D C P t) (nA D) = 0 then some t else sfg D C P (t + 1) k
theorem or_lt {a n : Nat} (h : a < 2 ^ n) : a ||| 2 ^ n < 2 ^ (n + 1) := Nat.or_lt_two_pow (by rw [Nat.pow_succ]; omega) (Nat.pow_lt_pow_right (by omega) (by omega))
theorem sas_lt (P : PR) : ∀ n, sas P n < 2 ^ n
  | 0 => by simp [sas]
  | n + 1 => by
    have h := sas_lt P n
    simp only [sas]
    split
    · exact or_lt h
    · rw [Nat.pow_succ]; omega
theorem pow_le {n : Nat} (h : n ≤ 10) : 2 ^ n ≤ 1024 := Nat.le_trans (Nat.pow_le_pow_right (by omega) h) (by decide)
section OP
variable {t : Nat} {I : MI} {L : ML} {R : MR} {S : MS} {D : TD} {C : TC} {P : PR} {Z : AX}
theorem c_isAf (hD : OkD D C) (hT : Td I t D C) (hR : Rl D true I 47 P) {a : Nat} (ha : a < nA D) : x10_isAfloat t (Int32.ofNat a) I = some (b2i (decide (P (5 * a + 2) < 0))) := by
  have hA := hD.a
  have ra := (hR.1 a ha).2.2.1
  rw [show 47 + 3 = 50 from rfl] at ra
  simp (disch := omega) only [x10_isAfloat, c_isA hD hT, isn_n (n := nA D) (by omega) ha, QB, QN, ra, b2i_0, not_true, if_false]
  by_cases g : P (5 * a + 2) < 0 <;> simp [g, b2i]
theorem c_asL (hD : OkD D C) (hT : Td I t D C) (hR : Rl D true I 47 P) : ∀ (j w n : Nat), w + j = nA D → j < n → x10_afloatSet_L4 t I n (Int32.ofNat (sas P w)) (Int32.ofNat w) = some (Int32.ofNat (sas P (nA D))) := by
  have hA := hD.a
  intro j
  induction j with
  | zero =>
    intro w n hw hn
    obtain ⟨n, rfl⟩ : ∃ n', n = n' + 1 := ⟨n - 1, by omega⟩
    obtain rfl : w = nA D := by omega
    simp (disch := omega) only [x10_afloatSet_L4, x10_afloatSet_L4s, hT.1.2.2.2.2.1, hD.2.1.1.1, QN]
    simp
  | succ j ih =>
    intro w n hw hn
    obtain ⟨n, rfl⟩ : ∃ n', n = n' + 1 := ⟨n - 1, by omega⟩
    have hi := ih (w + 1) n (by omega) (by omega)
    have hl : sas P w < 1024 := Nat.lt_of_lt_of_le (sas_lt P w) (pow_le (by omega))
    simp only [sas] at hi
    simp (disch := omega) only [x10_afloatSet_L4, x10_afloatSet_L4s, hT.1.2.2.2.2.1, hD.2.1.1.1, QB, QN, if_pos (show w < nA D by omega), c_isAf hD hT hR (show w < nA D by omega), b2i_0, decide_eq_true_eq, or_n hl]
    by_cases g : P (5 * w + 2) < 0
    · rw [if_pos g] at hi ⊢; exact hi
    · rw [if_neg g] at hi ⊢; exact hi
theorem c_as (hD : OkD D C) (hT : Td I t D C) (hR : Rl D true I 47 P) : x10_afloatSet t I = some (Int32.ofNat (sas P (nA D))) := by
  have h := c_asL hD hT hR (nA D) 0 FU (by omega) (by have := hD.a; unfold FU; omega)
  rw [show sas P 0 = 0 from rfl, show Int32.ofNat 0 = 0 from rfl] at h
  simp only [x10_afloatSet, QB, h]
theorem m_asL (hD : OkD D C) (hR : Rd I D C) (hW : Wr I P) : ∀ (j w n : Nat), w + j = nA D → j < n → x11_afloatSet_L8 I n (Int32.ofNat (sas P w)) (Int32.ofNat w) = some (Int32.ofNat (sas P (nA D))) := by
  have hA := hD.a
  intro j
  induction j with
  | zero =>
    intro w n hw hn
    obtain ⟨n, rfl⟩ : ∃ n', n = n' + 1 := ⟨n - 1, by omega⟩
    obtain rfl : w = nA D := by omega
    simp (disch := omega) only [x11_afloatSet_L8, x11_afloatSet_L8s, hR.1.2.2.2.1, hD.2.1.1.1, QN]
    simp
  | succ j ih =>
    intro w n hw hn
    obtain ⟨n, rfl⟩ : ∃ n', n = n' + 1 := ⟨n - 1, by omega⟩
    have hi := ih (w + 1) n (by omega) (by omega)
    have hl : sas P w < 1024 := Nat.lt_of_lt_of_le (sas_lt P w) (pow_le (by omega))
    have hz : Int32.ofNat (sas P w) ||| 0 = Int32.ofNat (sas P w) := Int32.or_zero
    simp only [sas] at hi
    simp (disch := omega) only [x11_afloatSet_L8, x11_afloatSet_L8s, hR.1.2.2.2.1, hD.2.1.1.1, QB, QN, if_pos (show w < nA D by omega), m_fl hD hW (show w < nA D by omega), b2i_0, decide_eq_true_eq, or_n hl, hz]
    by_cases g : P (5 * w + 2) < 0
    · rw [if_pos g] at hi ⊢; exact hi
    · rw [if_neg g] at hi ⊢; exact hi
theorem m_as (hD : OkD D C) (hR : Rd I D C) (hN : Nw I P) : ∃ I', x11_afloatSet I = some (Int32.ofNat (sas P (nA D)), I') ∧ Fm I I' := by
  obtain ⟨I1, l1, l2, l3⟩ := m_loadN hN
  have f1 : Fm I I1 := Fm.of137 l3
  have h := m_asL hD (f1.rd hR) l2 (nA D) 0 FU (by omega) (by have := hD.a; unfold FU; omega)
  rw [show sas P 0 = 0 from rfl, show Int32.ofNat 0 = 0 from rfl] at h
  exact ⟨I1, by simp only [x11_afloatSet, l1, QB, h], f1⟩
/-! the set alone in the tub -/
theorem srg_o {s : Nat} : ∀ (n k : Nat), (∀ a, a < n → k ≠ 5 * a + 2) → srg s n P k = P k
  | 0, _, _ => rfl
  | n + 1, k, h => by
    simp only [srg]
    split
    · rw [upd_ne (h n (by omega)), srg_o n k (fun a ha => h a (by omega))]
    · exact srg_o n k (fun a ha => h a (by omega))
theorem srg_neg {s : Nat} : ∀ (n a : Nat), srg s n P (5 * a + 2) < 0 → P (5 * a + 2) < 0
  | 0, _, h => h
  | n + 1, a, h => by
    simp only [srg] at h
    split at h
    · by_cases e : a = n
      · subst e; rw [upd_at] at h; exact absurd h (by decide)
      · rw [upd_ne (by omega)] at h; exact srg_neg n a h
    · exact srg_neg n a h
theorem OkP.rg {s : Nat} (hP : OkP D P) (hA : nA D ≤ 10) {n : Nat} (hn : n ≤ nA D) : OkP D (srg s n P) := by
  refine hP.of (fun a ha => ?_) (fun a ha h => srg_neg n a h) (fun a ha => Or.inl ?_) (fun b hb => ?_)
  · rw [srg_o _ _ (fun c hc => by omega), srg_o _ _ (fun c hc => by omega)]; exact ⟨rfl, rfl⟩
  · exact srg_o _ _ (fun c hc => by omega)
  · rw [srg_o _ _ (fun c hc => by omega), srg_o _ _ (fun c hc => by omega)]; exact ⟨rfl, rfl⟩
theorem Rl.sg {q : Nat} {P' : PR} (h : Rl D false I q P) (hA : nA D ≤ 10) (h1 : ∀ k, (∀ a, a < nA D → k ≠ 5 * a + 2) → P' k = P k) (h2 : ∀ a, a < nA D → (P' (5 * a + 2) < 0) = (P (5 * a + 2) < 0)) : Rl D false I q P' := by
  obtain ⟨g1, g2, g3, g4⟩ := h
  refine ⟨fun a ha => ?_, fun b hb => ?_, ?_, fun h => by cases h⟩
  · rw [h1 _ (fun c hc => by omega), h1 (5 * a + 1) (fun c hc => by omega), h1 (5 * a + 3) (fun c hc => by omega), h1 (5 * a + 4) (fun c hc => by omega), h2 a ha]; exact g1 a ha
  · rw [h1 _ (fun c hc => by omega), h1 _ (fun c hc => by omega), h1 _ (fun c hc => by omega)]; exact g2 b hb
  · rw [h1 _ (fun c hc => by omega)]; exact g3
theorem c_rgL {s : Nat} (hs : s < 1024) (ht : isT t) (hD : OkD D C) : ∀ (j w n : Nat) (I : MI), w + j = nA D → j < n → Td I t D C → Rl D false I 67 (srg s w P) → ∃ I', x9_goneWith_L11 t 47 (Int32.ofNat s) n (Int32.ofNat w) I = some I' ∧ Rl D false I' 67 (srg s (nA D) P) ∧ Fc t 67 I I' := by
  have hA := hD.a
  have hB := hD.b
  intro j
  induction j with
  | zero =>
    intro w n I hw hn hT hR
    obtain ⟨n, rfl⟩ : ∃ n', n = n' + 1 := ⟨n - 1, by omega⟩
    obtain rfl : w = nA D := by omega
    refine ⟨I, ?_, hR, Fc.refl⟩
    simp (disch := omega) only [x9_goneWith_L11, x9_goneWith_L11s, hT.1.2.2.2.2.1, hD.2.1.1.1, QN]
    simp
  | succ j ih =>
    intro w n I hw hn hT hR
    obtain ⟨n, rfl⟩ : ∃ n', n = n' + 1 := ⟨n - 1, by omega⟩
    simp (disch := omega) only [x9_goneWith_L11, x9_goneWith_L11s, hT.1.2.2.2.2.1, hD.2.1.1.1, QB, QN, if_pos (show w < nA D by omega), bit_n hs (show w < 10 by omega)]
    by_cases hb : s / 2 ^ w % 2 = 0
    · have f1 : Fc t 67 I (wI I 70 w 9) := Fc.refl.w (by omega)
      have hR1 : Rl D false (wI I 70 w 9) 67 (srg s (w + 1) P) := by
        have h9 : Rl D false (wI I 70 w 9) 67 (upd (srg s w P) (5 * w + 2) 9) := hR.w3 hA hB 9 (by omega) (propext ⟨fun h => absurd h (by decide), fun h => absurd h (by decide)⟩)
        refine h9.sg hA (fun k hk => ?_) (fun a ha => ?_)
        · rw [upd_ne (hk w (by omega))]
          simp only [srg]
          split
          · rw [upd_ne (hk w (by omega))]
          · rfl
        · by_cases e : a = w
          · subst e
            rw [upd_at]
            simp only [srg]
            by_cases hl : srg s a P (5 * a + 2) < 0
            · rw [if_pos ⟨hb, hl⟩, upd_at]; exact propext ⟨fun h => absurd h (by decide), fun h => absurd h (by decide)⟩
            · rw [if_neg (fun h => hl h.2)]; exact propext ⟨fun h => absurd h hl, fun h => absurd h (by decide)⟩
          · rw [upd_ne (by omega)]
            simp only [srg]
            split
            · rw [upd_ne (by omega)]
            · rfl
      obtain ⟨I2, r1, r2, r3⟩ := ih (w + 1) n (wI I 70 w 9) (by omega) (by omega) (f1.t.td ht hT) hR1
      refine ⟨I2, ?_, r2, f1.trans r3⟩
      rw [if_pos hb]
      exact r1
    · have hst : srg s (w + 1) P = srg s w P := by simp only [srg, hb, false_and, if_false]
      obtain ⟨I2, r1, r2, r3⟩ := ih (w + 1) n I (by omega) (by omega) hT (by rw [hst]; exact hR)
      refine ⟨I2, ?_, r2, r3⟩
      rw [if_neg hb]
      exact r1
theorem OkP.gw (hD : OkD D C) (hP : OkP D P) : ∀ k, OkP D (sgw D C P k)
  | 0 => hP
  | k + 1 => OkP.all hD (OkP.gw hD hP k) _ (Nat.le_refl _)
theorem c_gnL {N : Nat} (hN : N ≤ 60) (ht : isT t) (hD : OkD D C) (hP : OkP D P) : ∀ (j w n : Nat) (I : MI), w + j = N → j + 1 < n → Td I t D C → Rl D false I 67 (sgw D C P w) → ∃ I', x9_goneWith_L56 t 47 (Int32.ofNat N) n (Int32.ofNat w) I = some (match sfg D C P w j with | some u => .inr (Int32.ofNat u, I') | none => .inl I') ∧ Fc t 67 I I' := by
  have hA := hD.a
  intro j
  induction j with
  | zero =>
    intro w n I hw hn hT hR
    obtain ⟨n, rfl⟩ : ∃ n', n = n' + 1 + 1 := ⟨n - 2, by omega⟩
    obtain rfl : w = N := by omega
    refine ⟨I, ?_, Fc.refl⟩
    have e2 : x9_goneWith_L56 t 47 (Int32.ofNat w) (n + 1) (Int32.ofNat (w + 1)) I = some (.inl I) := by
      simp (disch := omega) only [x9_goneWith_L56, x9_goneWith_L56s, QN]
      rw [if_pos (by omega)]
    rw [x9_goneWith_L56, x9_goneWith_L56s]
    simp (disch := omega) only [QN, QB, c_empty hD hT hR, sfg, Nat.lt_irrefl, if_false, e2]
    by_cases g : scnt (sgw D C P w) (nA D) = 0 <;> simp [g]
  | succ j ih =>
    intro w n I hw hn hT hR
    obtain ⟨n, rfl⟩ : ∃ n', n = n' + 1 := ⟨n - 1, by omega⟩
    obtain ⟨I1, c1, c2, c3⟩ := c_all hD hT hR (hP.gw hD w) ⟨ht, by omega⟩
    obtain ⟨I2, r1, r2⟩ := ih (w + 1) n I1 (by omega) (by omega) (c3.t.td ht hT) c2
    by_cases g : scnt (sgw D C P w) (nA D) = 0
    · refine ⟨I, ?_, Fc.refl⟩
      simp (disch := omega) only [x9_goneWith_L56, x9_goneWith_L56s, QN, QB, c_empty hD hT hR, sfg, g, if_true]
      rw [if_neg (by omega)]
      simp
    · refine ⟨I2, ?_, c3.trans r2⟩
      simp (disch := omega) only [x9_goneWith_L56, x9_goneWith_L56s, QN, QB, c_empty hD hT hR, sfg, g, if_false, c1]
      simp only [eq_false (show ¬ N < w by omega), eq_true (show w < N by omega), if_true, if_false]
      exact r1
/-- with which turn a set is gone, within N -/
def sgo' (D : TD) (C : TC) (P : PR) (s N : Nat) : Option Nat := sfg D C (srg s (nA D) P) 0 N
theorem c_gone {s N : Nat} (hs : s < 1024) (hN : N ≤ 60) (ht : isT t) (hD : OkD D C) (hP : OkP D P) (hT : Td I t D C) (hR : Rl D true I 47 P) : ∃ I', x9_goneWith t 47 (Int32.ofNat s) (Int32.ofNat N) I = some (oi (sgo' D C P s N), I') ∧ Fc t 67 I I' := by
  have hA := hD.a
  obtain ⟨I1, h1, h2, h3⟩ := c_copyPlay (q0 := 67) hD hR (by omega)
  have f1 : Fc t 67 I I1 := fun c _ _ _ h => h3 c (by omega)
  obtain ⟨I2, k1, k2, k3⟩ := c_rgL (P := P) hs ht hD (nA D) 0 FU I1 (by omega) (by unfold FU; omega) (f1.t.td ht hT) h2
  obtain ⟨I3, r1, r2⟩ := c_gnL hN ht hD (hP.rg (s := s) hA (Nat.le_refl _)) N 0 FU I2 (by omega) (by unfold FU; omega) ((f1.trans k3).t.td ht hT) k2
  rw [show Int32.ofNat 0 = 0 from rfl] at k1 r1
  refine ⟨I3, ?_, (f1.trans k3).trans r2⟩
  simp only [x9_goneWith, h1, QB, k1, r1, sgo']
  cases sfg D C (srg s (nA D) P) 0 N <;> rfl
theorem m_rgL {s : Nat} (hs : s < 1024) (hD : OkD D C) : ∀ (j w n : Nat) (I : MI), w + j = nA D → j < n → Rd I D C → Wr I (srg s w P) → ∃ I', x11_goneOf_L6 (Int32.ofNat s) n (Int32.ofNat w) I = some I' ∧ Wr I' (srg s (nA D) P) ∧ Fm I I' := by
  have hA := hD.a
  intro j
  induction j with
  | zero =>
    intro w n I hw hn hR hW
    obtain ⟨n, rfl⟩ : ∃ n', n = n' + 1 := ⟨n - 1, by omega⟩
    obtain rfl : w = nA D := by omega
    refine ⟨I, ?_, hW, Fm.refl⟩
    simp (disch := omega) only [x11_goneOf_L6, x11_goneOf_L6s, hR.1.2.2.2.1, hD.2.1.1.1, QN]
    simp
  | succ j ih =>
    intro w n I hw hn hR hW
    obtain ⟨n, rfl⟩ : ∃ n', n = n' + 1 := ⟨n - 1, by omega⟩
    simp (disch := omega) only [x11_goneOf_L6, x11_goneOf_L6s, hR.1.2.2.2.1, hD.2.1.1.1, QB, QN, if_pos (show w < nA D by omega), bit_n hs (show w < 10 by omega), m_fl hD hW (show w < nA D by omega), b2i_0, decide_eq_true_eq]
    by_cases hb : s / 2 ^ w % 2 = 0
    · by_cases hl : srg s w P (5 * w + 2) < 0
      · have hst : srg s (w + 1) P = upd (srg s w P) (5 * w + 2) 8 := by simp only [srg]; rw [if_pos ⟨hb, hl⟩]
        obtain ⟨I2, r1, r2, r3⟩ := ih (w + 1) n (wI I 137 (5 * w + 2) 8) (by omega) (by omega) (Fm.refl.w.rd hR) (by rw [hst]; exact hW.w (by omega))
        refine ⟨I2, ?_, r2, Fm.refl.w.trans r3⟩
        rw [if_pos hb, if_pos hl]
        exact r1
      · have hst : srg s (w + 1) P = srg s w P := by simp only [srg]; rw [if_neg (fun h => hl h.2)]
        obtain ⟨I2, r1, r2, r3⟩ := ih (w + 1) n I (by omega) (by omega) hR (by rw [hst]; exact hW)
        refine ⟨I2, ?_, r2, r3⟩
        rw [if_pos hb, if_neg hl]
        exact r1
    · have hst : srg s (w + 1) P = srg s w P := by simp only [srg]; rw [if_neg (fun h => hb h.1)]
      obtain ⟨I2, r1, r2, r3⟩ := ih (w + 1) n I (by omega) (by omega) hR (by rw [hst]; exact hW)
      refine ⟨I2, ?_, r2, r3⟩
      rw [if_neg hb]
      exact r1
theorem m_allL (hD : OkD D C) (hP : OkP D P) : ∀ (j w n : Nat) (I : MI), w + j = nB D → j < n → Rd I D C → Wr I (sall D C w P).2 → ∃ I', x11_goneOf_L67 n (Int32.ofNat w) I = some I' ∧ Wr I' (sall D C (nB D) P).2 ∧ Fm I I' := by
  have hB := hD.b
  intro j
  induction j with
  | zero =>
    intro w n I hw hn hR hW
    obtain ⟨n, rfl⟩ : ∃ n', n = n' + 1 := ⟨n - 1, by omega⟩
    obtain rfl : w = nB D := by omega
    refine ⟨I, ?_, hW, Fm.refl⟩
    simp (disch := omega) only [x11_goneOf_L67, x11_goneOf_L67s, hR.1.2.2.2.2.1, hD.2.1.2.1.1, QN]
    simp
  | succ j ih =>
    intro w n I hw hn hR hW
    obtain ⟨n, rfl⟩ : ∃ n', n = n' + 1 := ⟨n - 1, by omega⟩
    obtain ⟨I1, a1, a2, a3⟩ := m_acts (r := sby D w) hD hR hW (hP.all hD w (by omega)) (show w < nB D by omega) (sby_ok hD (by omega))
    obtain ⟨I2, r1, r2, r3⟩ := ih (w + 1) n I1 (by omega) (by omega) (a3.rd hR) a2
    refine ⟨I2, ?_, r2, a3.trans r3⟩
    simp (disch := omega) only [x11_goneOf_L67, x11_goneOf_L67s, hR.1.2.2.2.2.1, hD.2.1.2.1.1, QB, QN, if_pos (show w < nB D by omega), m_rule hD hR (show w < nB D by omega), a1]
    exact r1
theorem m_gnL (hD : OkD D C) (hP : OkP D P) : ∀ (j w n : Nat) (I : MI), w + j = 60 → j + 1 < n → Rd I D C → Wr I (sgw D C P w) → scnt (sgw D C P w) (nA D) ≠ 0 → ∃ I', x11_goneOf_L59 n (Int32.ofNat (w + 1)) I = some (match sfg D C P w j with | some u => .inr (Int32.ofNat u, I') | none => .inl I') ∧ Fm I I' := by
  have hA := hD.a
  have hB := hD.b
  intro j
  induction j with
  | zero =>
    intro w n I hw hn hR hW h0
    obtain ⟨n, rfl⟩ : ∃ n', n = n' + 1 := ⟨n - 1, by omega⟩
    obtain rfl : w = 60 := by omega
    refine ⟨I, ?_, Fm.refl⟩
    simp (disch := omega) only [x11_goneOf_L59, x11_goneOf_L59s, QN, sfg, h0, if_false]
    simp
  | succ j ih =>
    intro w n I hw hn hR hW h0
    obtain ⟨n, rfl⟩ : ∃ n', n = n' + 1 := ⟨n - 1, by omega⟩
    obtain ⟨I1, a1, a2, a3⟩ := m_allL hD (hP.gw hD w) (nB D) 0 FU I (by omega) (by unfold FU; omega) hR hW
    rw [show Int32.ofNat 0 = 0 from rfl] at a1
    have hc := m_cnt hD (a3.rd hR) (P := sgw D C P (w + 1)) a2
    have hcl := scnt_le (P := sgw D C P (w + 1)) (nA D)
    have hsf : sfg D C P w (j + 1) = sfg D C P (w + 1) j := by simp only [sfg, h0, if_false]
    rw [hsf]
    by_cases g : scnt (sgw D C P (w + 1)) (nA D) = 0
    · refine ⟨I1, ?_, a3⟩
      have hs2 : sfg D C P (w + 1) j = some (w + 1) := by cases j <;> simp [sfg, g]
      rw [hs2]
      simp (disch := omega) only [x11_goneOf_L59, x11_goneOf_L59s, QN, QB, a1, hc, g]
      rw [if_neg (by omega)]
      simp
    · obtain ⟨I2, r1, r2⟩ := ih (w + 1) n I1 (by omega) (by omega) (a3.rd hR) a2 g
      refine ⟨I2, ?_, a3.trans r2⟩
      simp (disch := omega) only [x11_goneOf_L59, x11_goneOf_L59s, QN, QB, a1, hc, g, if_false]
      rw [if_neg (by omega)]
      exact r1
theorem m_gone {s : Nat} (hs : s < 1024) (hD : OkD D C) (hR : Rd I D C) (hN : Nw I P) (hP : OkP D P) : ∃ I', x11_goneOf (Int32.ofNat s) I = some (oi (sgo' D C P s 60), I') ∧ Fm I I' := by
  have hA := hD.a
  obtain ⟨I1, l1, l2, l3⟩ := m_loadN hN
  have f1 : Fm I I1 := Fm.of137 l3
  obtain ⟨I2, k1, k2, k3⟩ := m_rgL (P := P) hs hD (nA D) 0 FU I1 (by omega) (by unfold FU; omega) (f1.rd hR) l2
  have f2 := f1.trans k3
  have hc := m_cnt hD (f2.rd hR) k2
  have hcl := scnt_le (P := srg s (nA D) P) (nA D)
  rw [show Int32.ofNat 0 = 0 from rfl] at k1
  by_cases g : scnt (srg s (nA D) P) (nA D) = 0
  · refine ⟨I2, ?_, f2⟩
    have hs2 : sgo' D C P s 60 = some 0 := by simp [sgo', sfg, sgw, g]
    rw [hs2]
    simp (disch := omega) only [x11_goneOf, l1, k1, QB, hc, g, QN]
    rfl
  · obtain ⟨I3, r1, r2⟩ := m_gnL hD (hP.rg (s := s) hA (Nat.le_refl _)) 60 0 FU I2 (by omega) (by unfold FU; omega) (f2.rd hR) k2 g
    rw [show Int32.ofNat (0 + 1) = 1 from rfl] at r1
    refine ⟨I3, ?_, f2.trans r2⟩
    simp (disch := omega) only [x11_goneOf, l1, k1, QB, hc, QN, g, if_false, r1, sgo']
    cases sfg D C (srg s (nA D) P) 0 60 <;> rfl
end OP
