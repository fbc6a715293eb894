/-! CALLS, 25: undo, redo -/
theorem fm41 : ∀ n, n < 100 → ¬ (Int32.ofNat n ^^^ 41 < 0) ∧ rm (Int32.ofNat n) 41 = Int32.ofNat (n % 41) := by decide +kernel
section IN
variable {t : Nat} {I I1 K : MI} {L L' : ML} {R R' : MR} {S S' : MS} {D : TD} {C : TC} {P P' : PR} {Z : AX}
theorem c_fm {n : Nat} (hn : n < 100) : j9_floorMod_7cf53 (Int32.ofNat n) 41 I = some (Int32.ofNat (n % 41)) := by
  obtain ⟨h1, h2⟩ := fm41 n hn
  simp only [j9_floorMod_7cf53, QB, h1, if_false, h2]
  exact ck_pos (by decide)
theorem c_hand {od B q : Nat} (hr : okr R S) (h1 : I 59 1 = Int32.ofNat od) (h2 : I 59 2 = Int32.ofNat B) (ho : od < 41) (hB : B ≤ 40) (hq : R 60 ((od + B) % 41) = some q) : x2_atHand I L R S = some (q, I, L, R, S) := by
  have hm : (od + B) % 41 < 41 := Nat.mod_lt _ (by omega)
  have hm2 : (od + B) % 41 < 2147483648 := by omega
  simp only [x2_atHand, ck_pos hr, h1, h2, q_add, c_fm (show od + B < 100 by omega), QB, q_in hm hm2, q_ix hm2, hq, Option.isNone_some, Bool.false_eq_true, if_false]
theorem c_mv (h : INV t I L R S D C P Z) {B A : Nat} (hB : B + A = zB Z + zA Z) : ∃ q I1, x2_atHand (wI (wI I 59 2 (Int32.ofNat B)) 59 3 (Int32.ofNat A)) L R S = some (q, wI (wI I 59 2 (Int32.ofNat B)) 59 3 (Int32.ofNat A), L, R, S) ∧ isSt R S q ∧ x7_copyAll 47 q (wI (wI I 59 2 (Int32.ofNat B)) 59 3 (Int32.ofNat A)) = some I1 ∧ Rl D true I1 47 (zH Z B) ∧ (∀ c, (c < 47 ∨ 59 < c) → I1 c = I c) ∧ I1 59 1 = I 59 1 ∧ I1 59 2 = Int32.ofNat B ∧ I1 59 3 = Int32.ofNat A := by
  obtain ⟨hS, hc, hm, ha, hw⟩ := h
  have h40 := ha.2.2.2.2.2.2.2.1.1
  obtain ⟨od, r1, r2, r3, r4, r5⟩ := hc.2.2.2.2.2.2.2.1
  obtain ⟨q, q1, q2⟩ := r5 B (by omega)
  have hd : dyn 60 ((od + B) % 41) := Or.inl ⟨rfl, Nat.mod_lt _ (by omega)⟩
  have h90 := hS.q90 hd q1
  have hR : Rl D true (wI (wI I 59 2 (Int32.ofNat B)) 59 3 (Int32.ofNat A)) q (zH Z B) := q2.fr (fun c h1 h2 => by rw [wI_c (by omega), wI_c (by omega)])
  obtain ⟨I1, c1, c2, c3⟩ := c_copyAll (q0 := 47) (C := C) ha.1 hR (by omega)
  refine ⟨q, I1, c_hand hS.1 (od := od) (B := B) ?_ ?_ r1 (by omega) q1, (hS.2.2.2.2.2.2.1 60 _ q hd q1).1, c1, c2, fun c hc => ?_, ?_, ?_, ?_⟩
  · rw [wI_ne (by omega), wI_ne (by omega)]; exact r2
  · rw [wI_ne (by omega), wI_at]
  · rw [c3 c (by omega), wI_c (by omega), wI_c (by omega)]
  · rw [c3 59 (by omega), wI_ne (by omega), wI_ne (by omega)]
  · rw [c3 59 (by omega), wI_ne (by omega), wI_at]
  · rw [c3 59 (by omega), wI_at]
theorem INV.mv (h : INV t I L R S D C P Z) {s B A : Nat} (hs : (B = s ∧ s + 1 = zB Z ∧ A = zA Z + 1) ∨ (s = zB Z ∧ B = s + 1 ∧ A + 1 = zA Z)) (n1 : Rl D true I1 47 (zH Z B)) (n2 : ∀ c, (c < 47 ∨ 59 < c) → I1 c = I c) (n3 : I1 59 1 = I 59 1) (n4 : I1 59 2 = Int32.ofNat B) (n5 : I1 59 3 = Int32.ofNat A) (m1 : ∀ c, c ≠ 102 → c ≠ 138 → c ≠ 139 → K c = I1 c) (m2 : ∀ j, j ≠ 71 → j ≠ 72 → K 102 j = I1 102 j) (m3 : K 102 71 = Int32.ofNat B) (m4 : K 102 72 = Int32.ofNat A) (m5 : ∀ k, k < 123 → K 138 k = I1 139 (128 * s + k) ∧ K 139 (128 * s + k) = I1 138 k) (m6 : ∀ i, (∀ k, k < 123 → i ≠ 128 * s + k) → K 139 i = I1 139 i) : INV t K L R S D C (zH Z B) (zhi Z B A (zH Z)) := by
  obtain ⟨hS, hc, hm, ha, hw⟩ := id h
  have h40 := ha.2.2.2.2.2.2.2.1
  have hh := hm.2.2.2.2.2.2.2.1
  have hz := h40.2.2
  have f : ∀ c, (c < 47 ∨ (59 < c ∧ c < 102) ∨ (102 < c ∧ c < 138) ∨ 139 < c) → K c = I c := fun c hc => (m1 c (by omega) (by omega) (by omega)).trans (n2 c (by omega))
  have hBz : B ≤ zB Z + zA Z := by omega
  refine h.hist (h40.2.1 B hBz).1 (h40.2.1 B hBz).2 (by omega) (fun i hi => h40.2.1 i (by omega)) (fun k => rfl) (fun c hc => f c (by omega)) (fun b q d hb hq h1 h2 => ?_) (fun j h1 h2 h3 h4 h5 => ?_) (n1.fr (fun c h1 h2 => m1 c (by omega) (by omega) (by omega))) ?_ ⟨fun k hk => ?_, fun b hb => ?_, fun b hb => ?_⟩ ⟨m3, m4, fun i k hi hk => ?_, fun i k hi hi2 hk => ?_⟩
  · have := hS.q90 (Or.inr (Or.inl ⟨rfl, hb⟩)) hq
    exact f d (by omega)
  · rw [m2 j h3 h4, n2 102 (by omega)]
  · obtain ⟨od, r1, r2, r3, r4, r5⟩ := hc.2.2.2.2.2.2.2.1
    have e59 : K 59 = I1 59 := m1 59 (by omega) (by omega) (by omega)
    refine ⟨od, r1, by rw [e59, n3]; exact r2, by rw [e59]; exact n4, by rw [e59]; exact n5, fun i hi => ?_⟩
    have hi' : i ≤ B + A := hi
    obtain ⟨q, q1, q2⟩ := r5 i (by omega)
    have := hS.q90 (Or.inl ⟨rfl, Nat.mod_lt _ (by omega)⟩) q1
    exact ⟨q, q1, q2.fr (fun c s1 s2 => f c (by omega))⟩
  · rw [(m5 k hk).1, n2 139 (by omega)]
    rcases hs with ⟨e1, e2, e3⟩ | ⟨e1, e2, e3⟩
    · rw [hh.2.2.1 s k (by omega) hk, e1]
    · rw [hh.2.2.2 s k (by omega) (by omega) hk, e2]
  · rw [f 130 (by omega), hm.2.1.2.1 b hb, (h40.2.1 B hBz).2 (123 + b) (by omega) (by omega)]
  · rw [f 131 (by omega), hm.2.1.2.2 b hb, (h40.2.1 B hBz).2 (127 + b) (by omega) (by omega)]
  · by_cases e : i = s
    · rw [e, (m5 k hk).2, n2 138 (by omega), hm.2.1.1 k hk, ← hz k, show s = zB Z by omega]
    · rw [m6 _ (fun k' hk' => by omega), n2 139 (by omega)]
      exact hh.2.2.1 i k (by omega) hk
  · by_cases e : i = s
    · rw [e, (m5 k hk).2, n2 138 (by omega), hm.2.1.1 k hk, ← hz k, show s + 1 = zB Z by omega]
    · rw [m6 _ (fun k' hk' => by omega), n2 139 (by omega)]
      exact hh.2.2.2 i k (by omega) (by omega) hk
theorem op_undo (h : INV t I L R S D C P Z) : ∃ r I1 I2 P' Z', x10_undo I L R S = some (r, I1, L, R, S) ∧ x11_undo I1 = some (r, I2) ∧ INV t I2 L R S D C P' Z' := by
  obtain ⟨hS, hc, hm, ha, hw⟩ := id h
  have h40 := ha.2.2.2.2.2.2.2.1.1
  obtain ⟨od, r1, r2, r3, r4, r5⟩ := hc.2.2.2.2.2.2.2.1
  obtain ⟨k1, k2, -⟩ := hm.2.2.2.2.2.2.2.1
  have e0 : ∀ x, x < 2147483648 → (Int32.ofNat x = 0) = (x = 0) := fun x hx => by rw [show (0 : Int32) = Int32.ofNat 0 from rfl, q_eq hx (by omega)]
  by_cases hz : zB Z = 0
  · refine ⟨0, I, I, P, Z, ?_, ?_, h⟩
    · simp only [x10_undo, x2_stepBack, ck_pos hS.1, r3, e0 _ (show zB Z < 2147483648 by omega), hz, if_true, QB]
      exact ck_pos (Or.inl rfl)
    · simp only [x11_undo, k1]
      rw [if_pos (by rw [e0 _ (by omega)]; exact hz)]
  · obtain ⟨s, hs⟩ : ∃ s, zB Z = s + 1 := ⟨zB Z - 1, by omega⟩
    obtain ⟨q, I1, c1, c2, c3, c4, c5, c6, c7, c8⟩ := c_mv (B := s) (A := zA Z + 1) h (by omega)
    have e71 : I1 102 71 = Int32.ofNat (s + 1) := by rw [c5 102 (by omega), k1, hs]
    have e72 : I1 102 72 = Int32.ofNat (zA Z) := by rw [c5 102 (by omega), k2]
    obtain ⟨K, x1, x2, x3, x4⟩ := m_ex (show s < 40 by omega) (wI (wI I1 102 71 (Int32.ofNat s)) 102 72 (Int32.ofNat (zA Z + 1)))
    refine ⟨1, I1, K, _, _, ?_, ?_, h.mv (s := s) (Or.inl ⟨rfl, hs.symm, rfl⟩) c4 c5 c6 c7 c8 (fun c a1 a2 a3 => ?_) (fun j a1 a2 => ?_) ?_ ?_ (fun k hk => ?_) (fun i hi => ?_)⟩
    · have hJ : wI (wI I 59 2 (I 59 2 - 1)) 59 3 (wI I 59 2 (I 59 2 - 1) 59 3 + 1) = wI (wI I 59 2 (Int32.ofNat s)) 59 3 (Int32.ofNat (zA Z + 1)) := by
        rw [wI_ne (show (59 : Nat) ≠ 59 ∨ 3 ≠ 2 by omega), r3, r4, hs, q_addn]
        rw [show Int32.ofNat (s + 1) - 1 = Int32.ofNat s from by rw [q_subn (show (OfNat.ofNat 1 : Nat) ≤ s + 1 by exact Nat.le_add_left 1 s)]; rfl]
      simp only [x10_undo, x2_stepBack, ck_pos hS.1, QB, hJ, c1, ck_pos (st_47 hS.1), ck_pos c2, ck_pos (st_47 hS.1).2.1, c3]
      rw [if_neg (by rw [r3, e0 _ (by omega)]; exact hz)]
      simp only [QB]
      exact ck_pos (Or.inr trivial)
    · have hK : wI (wI I1 102 71 (I1 102 71 - 1)) 102 72 (wI I1 102 71 (I1 102 71 - 1) 102 72 + 1) = wI (wI I1 102 71 (Int32.ofNat s)) 102 72 (Int32.ofNat (zA Z + 1)) := by
        rw [wI_ne (show (102 : Nat) ≠ 102 ∨ 72 ≠ 71 by omega), e71, e72, q_addn]
        rw [show Int32.ofNat (s + 1) - 1 = Int32.ofNat s from by rw [q_subn (show (OfNat.ofNat 1 : Nat) ≤ s + 1 by exact Nat.le_add_left 1 s)]; rfl]
      have h71 : wI (wI I1 102 71 (Int32.ofNat s)) 102 72 (Int32.ofNat (zA Z + 1)) 102 71 = Int32.ofNat s := by rw [wI_ne (by omega), wI_at]
      simp only [x11_undo, QB, hK, h71, q_nmul, x1]
      rw [if_neg (by rw [e71, e0 _ (by omega)]; omega)]
    · rw [x4 c a2 a3, wI_c a1, wI_c a1]
    · rw [x4 102 (by omega) (by omega), wI_ne (Or.inr a2), wI_ne (Or.inr a1)]
    · rw [x4 102 (by omega) (by omega), wI_ne (by omega), wI_at]
    · rw [x4 102 (by omega) (by omega), wI_at]
    · obtain ⟨y1, y2⟩ := x2 k hk
      rw [y1, y2, wI_c (by omega), wI_c (by omega), wI_c (by omega), wI_c (by omega)]
      exact ⟨rfl, rfl⟩
    · rw [x3 i hi, wI_c (by omega), wI_c (by omega)]
theorem op_redo (h : INV t I L R S D C P Z) : ∃ r I1 I2 P' Z', x10_redo I L R S = some (r, I1, L, R, S) ∧ x11_redo I1 = some (r, I2) ∧ INV t I2 L R S D C P' Z' := by
  obtain ⟨hS, hc, hm, ha, hw⟩ := id h
  have h40 := ha.2.2.2.2.2.2.2.1.1
  obtain ⟨od, r1, r2, r3, r4, r5⟩ := hc.2.2.2.2.2.2.2.1
  obtain ⟨k1, k2, -⟩ := hm.2.2.2.2.2.2.2.1
  have e0 : ∀ x, x < 2147483648 → (Int32.ofNat x = 0) = (x = 0) := fun x hx => by rw [show (0 : Int32) = Int32.ofNat 0 from rfl, q_eq hx (by omega)]
  by_cases hz : zA Z = 0
  · refine ⟨0, I, I, P, Z, ?_, ?_, h⟩
    · simp only [x10_redo, x2_stepOn, ck_pos hS.1, r4, e0 _ (show zA Z < 2147483648 by omega), hz, if_true, QB]
      exact ck_pos (Or.inl rfl)
    · simp only [x11_redo, k2]
      rw [if_pos (by rw [e0 _ (by omega)]; exact hz)]
  · obtain ⟨s, hs⟩ : ∃ s, zA Z = s + 1 := ⟨zA Z - 1, by omega⟩
    obtain ⟨q, I1, c1, c2, c3, c4, c5, c6, c7, c8⟩ := c_mv (B := zB Z + 1) (A := s) h (by omega)
    have e71 : I1 102 71 = Int32.ofNat (zB Z) := by rw [c5 102 (by omega), k1]
    have e72 : I1 102 72 = Int32.ofNat (s + 1) := by rw [c5 102 (by omega), k2, hs]
    obtain ⟨K, x1, x2, x3, x4⟩ := m_ex (show zB Z < 40 by omega) I1
    have z71 : K 102 71 = Int32.ofNat (zB Z) := by rw [x4 102 (by omega) (by omega)]; exact e71
    have z72 : K 102 72 = Int32.ofNat (s + 1) := by rw [x4 102 (by omega) (by omega)]; exact e72
    have em : Int32.ofNat (s + 1) - 1 = Int32.ofNat s := by rw [q_subn (show (OfNat.ofNat 1 : Nat) ≤ s + 1 by exact Nat.le_add_left 1 s)]; rfl
    refine ⟨1, I1, wI (wI K 102 71 (Int32.ofNat (zB Z + 1))) 102 72 (Int32.ofNat s), _, _, ?_, ?_, h.mv (s := zB Z) (Or.inr ⟨rfl, rfl, hs.symm⟩) c4 c5 c6 c7 c8 (fun c a1 a2 a3 => ?_) (fun j a1 a2 => ?_) ?_ ?_ (fun k hk => ?_) (fun i hi => ?_)⟩
    · have hJ : wI (wI I 59 2 (I 59 2 + 1)) 59 3 (wI I 59 2 (I 59 2 + 1) 59 3 - 1) = wI (wI I 59 2 (Int32.ofNat (zB Z + 1))) 59 3 (Int32.ofNat s) := by
        rw [wI_ne (show (59 : Nat) ≠ 59 ∨ 3 ≠ 2 by omega), r3, r4, hs, q_addn, em]
      simp only [x10_redo, x2_stepOn, ck_pos hS.1, QB, hJ, c1, ck_pos (st_47 hS.1), ck_pos c2, ck_pos (st_47 hS.1).2.1, c3]
      rw [if_neg (by rw [r4, e0 _ (by omega)]; exact hz)]
      simp only [QB]
      exact ck_pos (Or.inr trivial)
    · have hK : wI (wI K 102 71 (K 102 71 + 1)) 102 72 (wI K 102 71 (K 102 71 + 1) 102 72 - 1) = wI (wI K 102 71 (Int32.ofNat (zB Z + 1))) 102 72 (Int32.ofNat s) := by
        rw [wI_ne (show (102 : Nat) ≠ 102 ∨ 72 ≠ 71 by omega), z71, z72, q_addn, em]
      have h128 : 128 * I1 102 71 = Int32.ofNat (128 * zB Z) := by rw [e71, q_nmul]
      simp only [x11_redo, QB, h128, x1, hK]
      rw [if_neg (by rw [e72, e0 _ (by omega)]; omega)]
    · rw [wI_c a1, wI_c a1, x4 c a2 a3]
    · rw [wI_ne (Or.inr a2), wI_ne (Or.inr a1), x4 102 (by omega) (by omega)]
    · rw [wI_ne (by omega), wI_at]
    · rw [wI_at]
    · rw [wI_c (by omega), wI_c (by omega), wI_c (by omega), wI_c (by omega)]
      exact x2 k hk
    · rw [wI_c (by omega), wI_c (by omega)]; exact x3 i hi
end IN
