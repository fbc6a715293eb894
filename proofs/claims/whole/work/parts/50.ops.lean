/-! CALLS, 9: fill -/
def slast (D : TD) (C : TC) (P : PR) (b a : Nat) : Int32 := if sodds D C P b a 0 = 0 then 9999 else 1000 / sodds D C P b a 0
def sm (f : Nat → Int32) (s : Nat) : Nat → Int32
  | 0 => 0
  | n + 1 => if s / 2 ^ n % 2 = 0 then sm f s n else sm f s n + f n
def ssz (P : PR) (a : Nat) : Int32 := if P (5 * a + 2) < 0 then P (5 * a + 4) else 1000
def sfl (D : TD) (C : TC) (P : PR) (b : Nat) (room : Int32) : Nat → Nat × Int32
  | 0 => (0, 0)
  | s + 1 => if 1 ≤ s ∧ s &&& sas P (nA D) = s ∧ ¬ room < sm (fun a => P (5 * a + 4)) s (nA D) ∧ (sfl D C P b room s).2 < sm (slast D C P b) s (nA D) then (s, sm (slast D C P b) s (nA D)) else sfl D C P b room s
theorem sm_congr {f g : Nat → Int32} {s : Nat} : ∀ n, (∀ a, a < n → s / 2 ^ a % 2 = 1 → f a = g a) → sm f s n = sm g s n
  | 0, _ => rfl
  | n + 1, h => by
    simp only [sm]
    rw [sm_congr n (fun a ha => h a (by omega))]
    by_cases hb : s / 2 ^ n % 2 = 0
    · rw [if_pos hb, if_pos hb]
    · rw [if_neg hb, if_neg hb, h n (by omega) (by omega)]
theorem tb (s a : Nat) : s.testBit a = decide (s / 2 ^ a % 2 = 1) := Nat.testBit_eq_decide_div_mod_eq
theorem sas_bit {P : PR} : ∀ n a, (sas P n).testBit a = true ↔ a < n ∧ P (5 * a + 2) < 0
  | 0, a => by simp [sas]
  | n + 1, a => by
    have ih := sas_bit (P := P) n a
    simp only [sas]
    split
    · next h =>
      rw [Nat.testBit_or, Bool.or_eq_true, ih, Nat.testBit_two_pow]
      simp only [decide_eq_true_eq]
      refine ⟨fun g => ?_, fun g => ?_⟩
      · rcases g with g | g
        · exact ⟨by omega, g.2⟩
        · subst g; exact ⟨by omega, h⟩
      · by_cases e : a = n
        · exact Or.inr e.symm
        · exact Or.inl ⟨by omega, g.2⟩
    · next h =>
      rw [ih]
      refine ⟨fun g => ⟨by omega, g.2⟩, fun g => ⟨?_, g.2⟩⟩
      by_cases e : a = n
      · subst e; exact absurd g.2 h
      · omega
theorem sub_fl {P : PR} {s n a : Nat} (h : s &&& sas P n = s) (hb : s / 2 ^ a % 2 = 1) : P (5 * a + 2) < 0 := by
  have h1 : s.testBit a = true := by rw [tb, decide_eq_true_eq]; exact hb
  rw [← h, Nat.testBit_and, Bool.and_eq_true] at h1
  exact ((sas_bit n a).mp h1.2).2
theorem nsub {P : PR} {s n : Nat} (hs : s < 2 ^ n) (h : ¬ s &&& sas P n = s) : ∃ a, a < n ∧ s / 2 ^ a % 2 = 1 ∧ ¬ P (5 * a + 2) < 0 := by
  by_cases hh : ∃ a, a < n ∧ s / 2 ^ a % 2 = 1 ∧ ¬ P (5 * a + 2) < 0
  · exact hh
  · exfalso
    apply h
    apply Nat.eq_of_testBit_eq
    intro i
    rw [Nat.testBit_and]
    cases h1 : s.testBit i with
    | false => rfl
    | true =>
      rw [Bool.true_and, sas_bit]
      have hi : i < n := by
        by_cases g : i < n
        · exact g
        · have : s < 2 ^ i := Nat.lt_of_lt_of_le hs (Nat.pow_le_pow_right (by omega) (by omega))
          rw [Nat.testBit_lt_two_pow this] at h1; cases h1
      rw [tb, decide_eq_true_eq] at h1
      by_cases g : P (5 * i + 2) < 0
      · exact ⟨hi, g⟩
      · exact absurd ⟨i, hi, h1, g⟩ hh
/-- with one that isn't in the tub it is too much -/
theorem sm_big {D : TD} {P : PR} {s : Nat} (hP : OkP D P) : ∀ n, n ≤ nA D → ∃ c, c ≤ 1000 * n ∧ sm (ssz P) s n = Int32.ofNat c ∧ ((∃ a, a < n ∧ s / 2 ^ a % 2 = 1 ∧ ¬ P (5 * a + 2) < 0) → 1000 ≤ c)
  | 0, _ => ⟨0, Nat.zero_le _, rfl, fun ⟨a, h, _⟩ => absurd h (Nat.not_lt_zero a)⟩
  | n + 1, hn => by
    obtain ⟨c, h1, h2, h3⟩ := sm_big hP n (by omega)
    obtain ⟨-, -, z, z1, z2, -⟩ := hP.1 n (by omega)
    simp only [sm]
    by_cases hb : s / 2 ^ n % 2 = 0
    · rw [if_pos hb]
      refine ⟨c, Nat.le_trans h1 (Nat.mul_le_mul_left _ (Nat.le_succ n)), h2, fun ⟨a, a1, a2, a3⟩ => h3 ⟨a, ?_, a2, a3⟩⟩
      by_cases e : a = n
      · subst e; omega
      · omega
    · rw [if_neg hb, h2, ssz]
      by_cases hf : P (5 * n + 2) < 0
      · rw [if_pos hf, z2, q_add]
        refine ⟨c + z, by rw [Nat.mul_add]; omega, rfl, fun ⟨a, a1, a2, a3⟩ => ?_⟩
        have := h3 ⟨a, by
          by_cases e : a = n
          · subst e; exact absurd hf a3
          · omega, a2, a3⟩
        omega
      · rw [if_neg hf]
        exact ⟨c + 1000, by rw [Nat.mul_add]; omega, q_addn, fun _ => by omega⟩
section OP
variable {t : Nat} {I : MI} {L : ML} {R : MR} {S : MS} {D : TD} {C : TC} {P : PR} {Z : AX}
theorem c_sumL {a1 ln1 s : Nat} (hln : 10 ≤ ln1) (hs : s < 1024) (hD : OkD D C) (hT : Td I t D C) : ∀ (j w n : Nat), w + j = nA D → j < n → x9_sumOf_L5 t a1 ln1 (Int32.ofNat s) I n (sm (I a1) s w) (Int32.ofNat w) = some (sm (I a1) s (nA D)) := by
  have hA := hD.a
  intro j
  induction j with
  | zero =>
    intro w n hw hn
    obtain ⟨n, rfl⟩ : ∃ n', n = n' + 1 := ⟨n - 1, by omega⟩
    obtain rfl : w = nA D := by omega
    simp (disch := omega) only [x9_sumOf_L5, x9_sumOf_L5s, hT.1.2.2.2.2.1, hD.2.1.1.1, QN]
    simp
  | succ j ih =>
    intro w n hw hn
    obtain ⟨n, rfl⟩ : ∃ n', n = n' + 1 := ⟨n - 1, by omega⟩
    have hi := ih (w + 1) n (by omega) (by omega)
    simp only [sm] at hi
    simp (disch := omega) only [x9_sumOf_L5, x9_sumOf_L5s, hT.1.2.2.2.2.1, hD.2.1.1.1, QN, QB, if_pos (show w < nA D by omega), bit_n hs (show w < 10 by omega), Int32.add_zero]
    by_cases hb : s / 2 ^ w % 2 = 0
    · rw [if_pos hb] at hi ⊢; exact hi
    · rw [if_neg hb] at hi ⊢; exact hi
theorem c_sum {a1 ln1 s : Nat} (hln : 10 ≤ ln1) (hs : s < 1024) (hD : OkD D C) (hT : Td I t D C) : x9_sumOf t a1 ln1 (Int32.ofNat s) I = some (sm (I a1) s (nA D)) := by
  have h := c_sumL (a1 := a1) hln hs hD hT (nA D) 0 FU (by omega) (by have := hD.a; unfold FU; omega)
  rw [show sm (I a1) s 0 = 0 from rfl, show Int32.ofNat 0 = 0 from rfl] at h
  simp only [x9_sumOf, QB, h]
theorem c_lastL {b : Nat} (ht : isT t) (hD : OkD D C) (hb : b < nB D) : ∀ (j w n : Nat) (I : MI), w + j = nA D → j < n → Td I t D C → Rl D true I 47 P → (∀ a, a < w → I 81 a = slast D C P b a) → ∃ I', x9_fillRoom_L3 t 47 (Int32.ofNat b) n (Int32.ofNat w) I = some I' ∧ (∀ a, a < nA D → I' 81 a = slast D C P b a) ∧ Ft t I I' := by
  have hA := hD.a
  intro j
  induction j with
  | zero =>
    intro w n I hw hn hT hR hl
    obtain ⟨n, rfl⟩ : ∃ n', n = n' + 1 := ⟨n - 1, by omega⟩
    obtain rfl : w = nA D := by omega
    refine ⟨I, ?_, hl, Ft.refl⟩
    simp (disch := omega) only [x9_fillRoom_L3, x9_fillRoom_L3s, hT.1.2.2.2.2.1, hD.2.1.1.1, QN]
    simp
  | succ j ih =>
    intro w n I hw hn hT hR hl
    obtain ⟨n, rfl⟩ : ∃ n', n = n' + 1 := ⟨n - 1, by omega⟩
    obtain ⟨I1, c1, c2⟩ := c_odds (k := 0) hD hT hR ⟨ht, by omega⟩ hb (show w < nA D by omega) (by omega)
    rw [show Int32.ofNat 0 = 0 from rfl] at c1
    have h81 : I1 81 = I 81 := c2 81 (by omega) (by omega) (by rcases ht with h | h <;> omega)
    have f2 : Ft t I (wI I1 81 w (slast D C P b w)) := c2.t.w (by omega)
    obtain ⟨I2, r1, r2, r3⟩ := ih (w + 1) n (wI I1 81 w (slast D C P b w)) (by omega) (by omega) (f2.td ht hT) (f2.rl ht hR) (fun a ha => by
      by_cases e : a = w
      · subst e; rw [wI_at]
      · rw [wI_ne (Or.inr e), h81]; exact hl a (by omega))
    refine ⟨I2, ?_, r2, f2.trans r3⟩
    simp (disch := omega) only [x9_fillRoom_L3, x9_fillRoom_L3s, hT.1.2.2.2.2.1, hD.2.1.1.1, QN, QB, if_pos (show w < nA D by omega), c1]
    simp only [slast] at r1
    by_cases h0 : sodds D C P b w 0 = 0
    · rw [if_pos h0] at r1 ⊢; exact r1
    · rw [if_neg h0] at r1 ⊢; rw [ck_pos h0]; exact r1
theorem c_fillL {b : Nat} {room : Int32} (ht : isT t) (hD : OkD D C) : ∀ (j s n : Nat) (I : MI), s + j = sas P (nA D) + 1 → 1 ≤ s → j < n → Td I t D C → Rl D true I 47 P → (∀ a, a < nA D → I 81 a = slast D C P b a) → I 66 9 = Int32.ofNat (sfl D C P b room s).1 → I 66 10 = (sfl D C P b room s).2 → ∃ I', x9_fillRoom_L75 t 47 (Int32.ofNat (sas P (nA D))) room n (Int32.ofNat s) I = some I' ∧ I' 66 9 = Int32.ofNat (sfl D C P b room (sas P (nA D) + 1)).1 ∧ I' 66 10 = (sfl D C P b room (sas P (nA D) + 1)).2 ∧ Ft t I I' := by
  have hA := hD.a
  have h10 : 2 ^ nA D ≤ 1024 := pow_le hA
  have haf := sas_lt P (nA D)
  intro j
  induction j with
  | zero =>
    intro s n I hs h1 hn hT hR hl h9 h10'
    obtain ⟨n, rfl⟩ : ∃ n', n = n' + 1 := ⟨n - 1, by omega⟩
    obtain rfl : s = sas P (nA D) + 1 := by omega
    refine ⟨I, ?_, h9, h10', Ft.refl⟩
    simp (disch := omega) only [x9_fillRoom_L75, x9_fillRoom_L75s, QN]
    rw [if_pos (by omega)]
  | succ j ih =>
    intro s n I hs h1 hn hT hR hl h9 h10'
    obtain ⟨n, rfl⟩ : ∃ n', n = n' + 1 := ⟨n - 1, by omega⟩
    have hT' : ∀ v, Td (wI I 66 9 v) t D C := fun v => (Ft.refl.w (by omega) : Ft t I (wI I 66 9 v)).td ht hT
    have e5 : sm (I (47 + 5)) s (nA D) = sm (fun a => P (5 * a + 4)) s (nA D) := sm_congr _ (fun a ha _ => (hR.1 a ha).2.2.2.2)
    have e81 : sm (I 81) s (nA D) = sm (slast D C P b) s (nA D) := sm_congr _ (fun a ha _ => hl a ha)
    have e81' : ∀ v, sm ((wI I 66 9 v) 81) s (nA D) = sm (slast D C P b) s (nA D) := fun v => by rw [wI_c (by omega)]; exact e81
    have hst : sfl D C P b room (s + 1) = if 1 ≤ s ∧ s &&& sas P (nA D) = s ∧ ¬ room < sm (fun a => P (5 * a + 4)) s (nA D) ∧ (sfl D C P b room s).2 < sm (slast D C P b) s (nA D) then (s, sm (slast D C P b) s (nA D)) else sfl D C P b room s := rfl
    simp (disch := omega) only [x9_fillRoom_L75, x9_fillRoom_L75s, QN, c_sum (a1 := 47 + 5) (ln1 := 10) (Nat.le_refl 10) (show s < 1024 by omega) hD hT, c_sum (a1 := 81) (ln1 := 10) (Nat.le_refl 10) (show s < 1024 by omega) hD hT, QB, e5, e81]
    simp only [sub_n (show s < 1024 by omega) (show sas P (nA D) < 1024 by omega), h10']
    rw [if_neg (show ¬ sas P (nA D) < s by omega)]
    by_cases g1 : s &&& sas P (nA D) = s
    · rw [if_pos g1]
      by_cases g2 : room < sm (fun a => P (5 * a + 4)) s (nA D)
      · rw [if_neg (fun h => h.2.2.1 g2)] at hst
        rw [if_pos g2]
        exact ih (s + 1) n I (by omega) (by omega) (by omega) hT hR hl (by rw [hst]; exact h9) (by rw [hst]; exact h10')
      · rw [if_neg g2]
        by_cases g3 : (sfl D C P b room s).2 < sm (slast D C P b) s (nA D)
        · rw [if_pos ⟨h1, g1, g2, g3⟩] at hst
          have f2 : Ft t I (wI (wI I 66 9 (Int32.ofNat s)) 66 10 (sm (slast D C P b) s (nA D))) := (Ft.refl.w (by omega)).w (by omega)
          obtain ⟨I2, r1, r2, r3, r4⟩ := ih (s + 1) n _ (by omega) (by omega) (by omega) (f2.td ht hT) (f2.rl ht hR) (fun a ha => by rw [wI_c (by omega), wI_c (by omega)]; exact hl a ha) (by rw [hst, wI_ne (by omega), wI_at]) (by rw [hst, wI_at])
          refine ⟨I2, ?_, r2, r3, f2.trans r4⟩
          rw [if_pos g3]
          simp only [c_sum (a1 := 81) (ln1 := 10) (Nat.le_refl 10) (show s < 1024 by omega) hD (hT' _), QB, e81']
          exact r1
        · rw [if_neg (fun h => g3 h.2.2.2)] at hst
          rw [if_neg g3]
          exact ih (s + 1) n I (by omega) (by omega) (by omega) hT hR hl (by rw [hst]; exact h9) (by rw [hst]; exact h10')
    · rw [if_neg (fun h => g1 h.2.1)] at hst
      rw [if_neg g1]
      exact ih (s + 1) n I (by omega) (by omega) (by omega) hT hR hl (by rw [hst]; exact h9) (by rw [hst]; exact h10')
theorem sfl_up {b : Nat} {room : Int32} : ∀ j, sfl D C P b room (sas P (nA D) + 1 + j) = sfl D C P b room (sas P (nA D) + 1)
  | 0 => rfl
  | j + 1 => by
    rw [← sfl_up j]
    rw [show sas P (nA D) + 1 + (j + 1) = (sas P (nA D) + 1 + j) + 1 from rfl]
    simp only [sfl]
    rw [if_neg (fun h => by
      have h2 := h.2.1
      have : (sas P (nA D) + 1 + j) &&& sas P (nA D) ≤ sas P (nA D) := Nat.and_le_right
      omega)]
theorem m_filS {b s : Nat} (hs : s < 1024) (hD : OkD D C) (hb : b < nB D) : ∀ (j w n : Nat) (I : MI), w + j = nA D → j < n → Rd I D C → Wr I P → ∃ I', x11_fill_L63 (Int32.ofNat b) (Int32.ofNat s) n (sm (ssz P) s w) (sm (slast D C P b) s w) (Int32.ofNat w) I = some (sm (ssz P) s (nA D), sm (slast D C P b) s (nA D), I') ∧ Fq I I' := by
  have hA := hD.a
  intro j
  induction j with
  | zero =>
    intro w n I hw hn hR hW
    obtain ⟨n, rfl⟩ : ∃ n', n = n' + 1 := ⟨n - 1, by omega⟩
    obtain rfl : w = nA D := by omega
    refine ⟨I, ?_, Fq.refl⟩
    simp (disch := omega) only [x11_fill_L63, x11_fill_L63s, hR.1.2.2.2.1, hD.2.1.1.1, QN]
    simp
  | succ j ih =>
    intro w n I hw hn hR hW
    obtain ⟨n, rfl⟩ : ∃ n', n = n' + 1 := ⟨n - 1, by omega⟩
    simp (disch := omega) only [x11_fill_L63, x11_fill_L63s, hR.1.2.2.2.1, hD.2.1.1.1, QN, QB, if_pos (show w < nA D by omega), bit_n hs (show w < 10 by omega), m_fl hD hW (show w < nA D by omega), b2i_0, decide_eq_true_eq, hW.1]
    by_cases hbt : s / 2 ^ w % 2 = 0
    · obtain ⟨I2, r1, r2⟩ := ih (w + 1) n I (by omega) (by omega) hR hW
      refine ⟨I2, ?_, r2⟩
      simp only [sm, if_pos hbt] at r1
      rw [if_pos hbt]; exact r1
    · obtain ⟨I1, c1, c2⟩ := m_odds (k := 0) hD hR hW hb (show w < nA D by omega) (by omega)
      rw [show Int32.ofNat 0 = 0 from rfl] at c1
      obtain ⟨I2, r1, r2⟩ := ih (w + 1) n I1 (by omega) (by omega) (c2.m.rd hR) (c2.wr hW)
      refine ⟨I2, ?_, c2.trans r2⟩
      simp only [sm, if_neg hbt] at r1
      have hla : x11_lasts (Int32.ofNat b) (Int32.ofNat w) I = some (slast D C P b w, I1) := by
        simp only [x11_lasts, c1, QB, slast]
        by_cases h0 : sodds D C P b w 0 = 0
        · rw [if_pos h0, if_pos h0]
        · rw [if_neg h0, if_neg h0, ck_pos h0]
      rw [if_neg hbt, hla, q_b2]
      rw [show (if P (5 * w + 2) < 0 then P (5 * w + 4) else 1000) = ssz P w from rfl]
      exact r1
theorem m_filL {b room : Nat} (hD : OkD D C) (hP : OkP D P) (hb : b < nB D) (hroom : room ≤ 999) : ∀ (j s n : Nat) (I : MI), s + j = 2 ^ nA D → 1 ≤ s → j < n → Rd I D C → Wr I P → ∃ I', x11_fill_L43 (Int32.ofNat b) (Int32.ofNat room) n (Int32.ofNat (sfl D C P b (Int32.ofNat room) s).1) (sfl D C P b (Int32.ofNat room) s).2 (Int32.ofNat s) I = some (Int32.ofNat (sfl D C P b (Int32.ofNat room) (2 ^ nA D)).1, (sfl D C P b (Int32.ofNat room) (2 ^ nA D)).2, I') ∧ Fq I I' := by
  have hA := hD.a
  have h10 : 2 ^ nA D ≤ 1024 := pow_le hA
  intro j
  induction j with
  | zero =>
    intro s n I hs h1 hn hR hW
    obtain ⟨n, rfl⟩ : ∃ n', n = n' + 1 := ⟨n - 1, by omega⟩
    obtain rfl : s = 2 ^ nA D := by omega
    refine ⟨I, ?_, Fq.refl⟩
    simp (disch := omega) only [x11_fill_L43, x11_fill_L43s, hR.1.2.2.2.1, hD.2.1.1.1, shl_n (nA D) (by omega), QN]
    simp
  | succ j ih =>
    intro s n I hs h1 hn hR hW
    obtain ⟨n, rfl⟩ : ∃ n', n = n' + 1 := ⟨n - 1, by omega⟩
    obtain ⟨I1, c1, c2⟩ := m_filS (P := P) (s := s) (show s < 1024 by omega) hD hb (nA D) 0 FU I (by omega) (by unfold FU; omega) hR hW
    rw [show sm (ssz P) s 0 = 0 from rfl, show sm (slast D C P b) s 0 = 0 from rfl, show Int32.ofNat 0 = 0 from rfl] at c1
    obtain ⟨I2, r1, r2⟩ := ih (s + 1) n I1 (by omega) (by omega) (by omega) (c2.m.rd hR) (c2.wr hW)
    refine ⟨I2, ?_, c2.trans r2⟩
    have hst : sfl D C P b (Int32.ofNat room) (s + 1) = if 1 ≤ s ∧ s &&& sas P (nA D) = s ∧ ¬ Int32.ofNat room < sm (fun a => P (5 * a + 4)) s (nA D) ∧ (sfl D C P b (Int32.ofNat room) s).2 < sm (slast D C P b) s (nA D) then (s, sm (slast D C P b) s (nA D)) else sfl D C P b (Int32.ofNat room) s := rfl
    simp (disch := omega) only [x11_fill_L43, x11_fill_L43s, hR.1.2.2.2.1, hD.2.1.1.1, shl_n (nA D) (by omega), QN, QB, if_pos (show s < 2 ^ nA D by omega), c1]
    by_cases g1 : s &&& sas P (nA D) = s
    · have e : sm (ssz P) s (nA D) = sm (fun a => P (5 * a + 4)) s (nA D) := sm_congr _ (fun a ha hbt => by rw [ssz, if_pos (sub_fl g1 hbt)])
      rw [e]
      by_cases g2 : Int32.ofNat room < sm (fun a => P (5 * a + 4)) s (nA D)
      · rw [if_neg (fun h => h.2.2.1 g2)] at hst
        rw [hst] at r1
        rw [if_pos g2]; exact r1
      · rw [if_neg g2]
        by_cases g3 : (sfl D C P b (Int32.ofNat room) s).2 < sm (slast D C P b) s (nA D)
        · rw [if_pos ⟨h1, g1, g2, g3⟩] at hst
          rw [hst] at r1
          rw [if_pos g3]; exact r1
        · rw [if_neg (fun h => g3 h.2.2.2)] at hst
          rw [hst] at r1
          rw [if_neg g3]; exact r1
    · obtain ⟨c, k1, k2, k3⟩ := sm_big (s := s) hP (nA D) (Nat.le_refl _)
      have := k3 (nsub (by omega) g1)
      have hcl : c ≤ 1000 * 10 := Nat.le_trans k1 (Nat.mul_le_mul_left _ hA)
      rw [if_neg (fun h => g1 h.2.1)] at hst
      rw [hst] at r1
      rw [k2, if_pos (by rw [q_lt (by omega) (by omega)]; omega)]
      exact r1
theorem op_fill (h : INV t I L R S D C P Z) (p q w : Int32) : ∃ r I1 I2, x10_fill t p q w I = some (r, I1) ∧ x11_fill p q w I1 = some (r, I2) ∧ INV t I2 L R S D C P Z := by
  have hS := h.1
  have ht := hS.2.2.2.1
  have hD := h.2.2.2.1.1
  have hP := h.2.2.2.1.2.1
  have hA := hD.a
  have hB := hD.b
  have h10 : 2 ^ nA D ≤ 1024 := pow_le hA
  have haf := sas_lt P (nA D)
  have e1 : ∀ J, x11_isIn w 0 1 J = some (b2i (isu w 1)) := fun J => m_isu w 1 (by omega)
  have e9 : ∀ J, x11_isIn q 0 999 J = some (b2i (isu q 999)) := fun J => m_isu q 999 (by omega)
  have hw1 : (isu w 1 = true) = ¬ (w < 0 ∨ 1 < w) := isu_c (by omega)
  have hq9 : (isu q 999 = true) = ¬ (q < 0 ∨ 999 < q) := isu_c (by omega)
  by_cases h1 : isn p (nB D) = true
  · by_cases h2 : isu q 999 = true
    · by_cases h3 : isu w 1 = true
      · have h2' := h2
        have h3' := h3
        rw [hq9] at h2'
        rw [hw1] at h3'
        obtain ⟨b, hb, rfl⟩ := isn_t (by omega) h1
        obtain ⟨room, hroom, rfl⟩ := isn_t (by omega) h2
        obtain ⟨I1, c1, c2, c3⟩ := c_lastL (P := P) ht hD hb (nA D) 0 FU I (by omega) (by unfold FU; omega) h.2.1.1 h.2.1.2.1 (fun a ha => by omega)
        have f2 : Ft t I (wI (wI I1 66 9 0) 66 10 0) := (c3.w (by omega)).w (by omega)
        obtain ⟨I2, r1, r2, r3, r4⟩ := c_fillL (P := P) (b := b) (room := Int32.ofNat room) ht hD (sas P (nA D)) 1 FU (wI (wI I1 66 9 0) 66 10 0) (by omega) (by omega) (by unfold FU; omega) (f2.td ht h.2.1.1) (f2.rl ht h.2.1.2.1) (fun a ha => by rw [wI_c (by omega), wI_c (by omega)]; exact c2 a ha) (by rw [wI_ne (by omega), wI_at]; rfl) (by rw [wI_at]; rfl)
        have h4 := h.q ((f2.trans r4).kc hS) Kr.refl
        obtain ⟨I3, m1, m2, m3⟩ := m_loadN h4.2.2.1.2.1
        have f3 : Fm I2 I3 := Fm.of137 m3
        obtain ⟨I4, m4, m5⟩ := m_filL (room := room) hD hP hb (by omega) (2 ^ nA D - 1) 1 FU I3 (by have := Nat.one_le_two_pow (n := nA D); omega) (by omega) (by unfold FU; omega) (f3.rd h4.2.2.1.1) m2
        have hup : sfl D C P b (Int32.ofNat room) (2 ^ nA D) = sfl D C P b (Int32.ofNat room) (sas P (nA D) + 1) := by
          have := sfl_up (D := D) (C := C) (P := P) (b := b) (room := Int32.ofNat room) (2 ^ nA D - (sas P (nA D) + 1))
          rwa [show sas P (nA D) + 1 + (2 ^ nA D - (sas P (nA D) + 1)) = 2 ^ nA D by omega] at this
        rw [hup] at m4
        rw [show Int32.ofNat 0 = 0 from rfl] at c1
        rw [show Int32.ofNat 1 = 1 from rfl] at r1 m4
        rw [show (sfl D C P b (Int32.ofNat room) 1).1 = 0 from rfl, show (sfl D C P b (Int32.ofNat room) 1).2 = 0 from rfl, show Int32.ofNat 0 = 0 from rfl] at m4
        refine ⟨if w = 0 then Int32.ofNat (sfl D C P b (Int32.ofNat room) (sas P (nA D) + 1)).1 else (sfl D C P b (Int32.ofNat room) (sas P (nA D) + 1)).2, I2, I4, ?_, ?_, h4.q Kc.refl (f3.trans m5.m).kr⟩
        · simp only [x10_fill, c_isB hD h.2.1.1, QB, b2i_0, h1, if_true, c_as hD h.2.1.1 h.2.1.2.1, x9_fillRoom, c1, r1, r2, r3]
          rw [if_neg (fun g => h2' (Or.inl g)), if_neg (fun g => h2' (Or.inr g)), if_neg (fun g => h3' (Or.inl g)), if_neg (fun g => h3' (Or.inr g))]
          by_cases hw0 : w = 0 <;> simp [hw0]
        · simp only [x11_fill, m_isB hD h4.2.2.1.1, e9, e1, h1, h2, h3, QB, b2i_0, if_true, m1, m4]
          by_cases hw0 : w = 0 <;> simp [hw0]
      · have h3' : isu w 1 = false := by simpa using h3
        refine ⟨-1, I, I, ?_, ?_, h⟩
        · rw [hw1, Classical.not_not] at h3
          rw [hq9] at h2
          simp only [x10_fill, c_isB hD h.2.1.1, QB, b2i_0, h1, if_true]
          rw [if_neg (fun g => h2 (Or.inl g)), if_neg (fun g => h2 (Or.inr g))]
          rcases h3 with g | g
          · rw [if_pos g]
          · by_cases h0 : w < 0
            · rw [if_pos h0]
            · rw [if_neg h0, if_pos g]
        · simp [x11_fill, m_isB hD h.2.2.1.1, e9, e1, h1, h2, h3', QB, b2i_0]
    · have h2' : isu q 999 = false := by simpa using h2
      refine ⟨-1, I, I, ?_, ?_, h⟩
      · rw [hq9, Classical.not_not] at h2
        simp only [x10_fill, c_isB hD h.2.1.1, QB, b2i_0, h1, if_true]
        rcases h2 with g | g
        · rw [if_pos g]
        · by_cases h0 : q < 0
          · rw [if_pos h0]
          · rw [if_neg h0, if_pos g]
      · simp [x11_fill, m_isB hD h.2.2.1.1, e9, h1, h2', QB, b2i_0]
  · have h1' : isn p (nB D) = false := by simpa using h1
    refine ⟨-1, I, I, ?_, ?_, h⟩
    · simp [x10_fill, c_isB hD h.2.1.1, QB, b2i_0, h1']
    · simp [x11_fill, m_isB hD h.2.2.1.1, QB, b2i_0, h1']
end OP
