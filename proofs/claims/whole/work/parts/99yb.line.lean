/-! THE TEXT: lines: a whole line -/
noncomputable def rsemi (e2 : MI × ML) : Option (MI × ML) :=
b1 (
if (e2.1 102 2) = 0 then (
if (e2.1 102 6) = 59 then (
some e2.1) else
b1 (x11_wrong (2 : Int32) e2.1) fun I264 =>
some I264) else
some e2.1) fun e263 =>
if (e263 102 2) = 0 then (
b2 (x11_token e263 e2.2) fun I265 L266 =>
some (I265, L266)) else
some (e263, e2.2)
noncomputable def csemi (o : Option (Int32 × MI × ML)) : Option (Int32 × MI × ML) :=
b3 o fun r6 I7 L8 => if r6 = 0 then (some ((0 : Int32), I7, L8)) else b3 (x5_token (59 : Int32) I7 L8) fun r9 I10 L11 => if r9 = 0 then (some ((0 : Int32), I10, L11)) else some ((1 : Int32), I10, L11)
section LNX
variable {T : Nat → Nat} {N t b q U k n p : Nat} {C : TC} {ws : Nat → Nat → List Nat} {I I' : MI} {L L' : ML} {J J' : MI} {M M' : ML}
theorem P_semi (ht : t = 2 ∨ t = 28) {o : Option (Int32 × MI × ML)} {r : Option (MI × ML)} (h : LO T N t q I L J M o r) : LO T N t q I L J M (csemi o) (b1 r rsemi) := by
  rcases h with ⟨I1, L1, J1, M1, q1, U1, b1', k1, C1, ws1, e1, e2, hq, hC, hR, hK, hW, hg⟩ | ⟨I1, L1, J1, M1, e1, e2, hf, hg⟩
  · subst e1; subst e2
    have e4 : (I1 21 4 = 59) = (tks T N q1 = 59) := hC.cd (v := 59) (by omega)
    have e6 : (J1 102 6 = 59) = (tks T N q1 = 59) := r_cs (hR.1.2.2 q1) hR.2.1 (v := 59) (by omega) (by omega)
    have h2 := hR.2.2.2.1
    rw [q_b1, csemi, q_b3, if_neg (by decide), rsemi]
    dsimp only
    rw [if_pos h2]
    by_cases e : tks T N q1 = 59
    · obtain ⟨I2, L2, a1, a2, a3, a4⟩ := hC.nx ht (by omega)
      obtain ⟨J2, M2, c1, c2, c3, c4⟩ := hR.nx (by omega)
      rw [if_pos (e6.mpr e), q_b1, if_pos h2, c1, q_b2, x5_token, if_pos (e4.mpr e), a1, q_b2, q_b3, if_neg (by decide)]
      exact Or.inl ⟨I2, L2, J2, M2, _, U1, b1', k1, C1, ws1, rfl, rfl, Nat.lt_trans hq (tkn_lt hC.2.2.1 (by omega)), a2, c2, hK.st ht a3 a4 c3 c4, by rw [OD_c (fun x _ _ => a3 x (by omega))]; exact hW, hg.trans (Gs.st a3 a4 c3 c4)⟩
    · obtain ⟨I2, J2, a1, a2, a3, a4, a5⟩ := both_fail hC hR (k := 2) (by simp)
      rw [if_neg (fun g => e (e6.mp g)), a2, q_b1, q_b1, if_neg (fl_ne a3.2.2), x5_token, if_neg (fun g => e (e4.mp g)), a1, q_b2, ck_pos (Or.inl rfl), q_b3, if_pos rfl]
      exact Or.inr ⟨I2, L1, J2, M1, rfl, rfl, a3, hg.trans (Gs.fl a4 a5)⟩
  · subst e1; subst e2
    rw [q_b1, csemi, q_b3, if_pos rfl, rsemi]
    dsimp only
    rw [if_neg (fl_ne hf.2.2), q_b1, if_neg (fl_ne hf.2.2)]
    exact Or.inr ⟨I1, L1, J1, M1, rfl, rfl, hf, hg⟩
/-- the class's line by its word -/
theorem c_lnbad (h : (I 21 4 = 0 ∧ 0 < I t 0) ∨ (¬ I 21 4 = 0 ∧ ¬ 0 < I t 0)) : x5_line t I L = b2 (x5_fail (2 : Int32) I) fun r I' => ck (r = 0 ∨ r = 1) (some (r, I', L)) := by
  rcases h with ⟨h1, h2⟩ | ⟨h1, h2⟩
  · rw [x5_line, if_pos h1, q_b1, q_l, if_pos h2, q_b1, q_l, if_pos rfl]
  · rw [x5_line, if_neg h1, q_b1, q_l, if_neg h2, q_b1, q_l, if_pos rfl]
theorem c_lntub (h1 : I 21 4 = 0) (h2 : ¬ 0 < I t 0) : x5_line t I L = csemi (x5_tubLine t I L) := by
  rw [x5_line, if_pos h1, q_b1, q_l, if_neg h2, q_b1, q_l, if_neg (by decide), if_pos h1]; rfl
theorem c_ln (h1 : ¬ I 21 4 = 0) (h2 : 0 < I t 0) {s : Nat} (hs : s < 256) (h4 : I 21 4 = Int32.ofNat s) : x5_line t I L = if s = 2 then csemi (x5_oddsLine t I L) else if s = 8 then csemi (x5_ruleLine t I L) else if s = 9 then csemi (x5_appleLine t I L) else if s = 14 then csemi (x5_bobberLine t I L) else if s = 18 then csemi (x5_drawLine t I L) else if s = 19 then csemi (x5_biteLine t I L) else b2 (x5_fail (2 : Int32) I) fun r I' => ck (r = 0 ∨ r = 1) (some (r, I', L)) := by
  have e : ∀ v, v < 256 → (I 21 4 = Int32.ofNat v) = (s = v) := fun v hv => by rw [h4, q_eq (by omega) (by omega)]
  have e1 : (I 21 4 = 1) = (s = 1) := e 1 (by omega)
  have e2 : (I 21 4 = 2) = (s = 2) := e 2 (by omega)
  have e3 : (I 21 4 = 3) = (s = 3) := e 3 (by omega)
  have e4 : (I 21 4 = 4) = (s = 4) := e 4 (by omega)
  have e5 : (I 21 4 = 5) = (s = 5) := e 5 (by omega)
  have e6 : (I 21 4 = 6) = (s = 6) := e 6 (by omega)
  have e7 : (I 21 4 = 7) = (s = 7) := e 7 (by omega)
  have e8 : (I 21 4 = 8) = (s = 8) := e 8 (by omega)
  have e9 : (I 21 4 = 9) = (s = 9) := e 9 (by omega)
  have e10 : (I 21 4 = 10) = (s = 10) := e 10 (by omega)
  have e11 : (I 21 4 = 11) = (s = 11) := e 11 (by omega)
  have e12 : (I 21 4 = 12) = (s = 12) := e 12 (by omega)
  have e13 : (I 21 4 = 13) = (s = 13) := e 13 (by omega)
  have e14 : (I 21 4 = 14) = (s = 14) := e 14 (by omega)
  have e15 : (I 21 4 = 15) = (s = 15) := e 15 (by omega)
  have e16 : (I 21 4 = 16) = (s = 16) := e 16 (by omega)
  have e17 : (I 21 4 = 17) = (s = 17) := e 17 (by omega)
  have e18 : (I 21 4 = 18) = (s = 18) := e 18 (by omega)
  have e19 : (I 21 4 = 19) = (s = 19) := e 19 (by omega)
  rw [x5_line, if_neg h1, q_b1, q_l, if_pos h2, q_b1, q_l, if_neg (by decide), if_neg h1]
  simp only [e1, e2, e3, e4, e5, e6, e7, e8, e9, e10, e11, e12, e13, e14, e15, e16, e17, e18, e19]
  clear e e1 e2 e3 e4 e5 e6 e7 e8 e9 e10 e11 e12 e13 e14 e15 e16 e17 e18 e19 h4
  have dn : ∀ {a b : Nat} {α : Type} {x y : α}, s = a → a ≠ b → (if s = b then x else y) = y := fun h1 h2 => if_neg (by omega)
  by_cases g2 : s = 2
  · rw [if_neg (by omega), if_pos g2, if_pos g2]; rfl
  by_cases g8 : s = 8
  · rw [if_neg (by omega), if_neg (by omega), if_neg (by omega), if_neg (by omega), if_neg (by omega), if_neg (by omega), if_neg (by omega), if_pos g8, if_neg g2, if_pos g8]; rfl
  by_cases g9 : s = 9
  · rw [if_neg (by omega), if_neg (by omega), if_neg (by omega), if_neg (by omega), if_neg (by omega), if_neg (by omega), if_neg (by omega), if_neg (by omega), if_pos g9, if_neg g2, if_neg g8, if_pos g9]; rfl
  by_cases g14 : s = 14
  · rw [if_neg (by omega), if_neg (by omega), if_neg (by omega), if_neg (by omega), if_neg (by omega), if_neg (by omega), if_neg (by omega), if_neg (by omega), if_neg (by omega), if_neg (by omega), if_neg (by omega), if_neg (by omega), if_neg (by omega), if_pos g14, if_neg g2, if_neg g8, if_neg g9, if_pos g14]; rfl
  by_cases g18 : s = 18
  · rw [if_neg (by omega), if_neg (by omega), if_neg (by omega), if_neg (by omega), if_neg (by omega), if_neg (by omega), if_neg (by omega), if_neg (by omega), if_neg (by omega), if_neg (by omega), if_neg (by omega), if_neg (by omega), if_neg (by omega), if_neg (by omega), if_neg (by omega), if_neg (by omega), if_neg (by omega), if_pos g18, if_neg g2, if_neg g8, if_neg g9, if_neg g14, if_pos g18]; rfl
  by_cases g19 : s = 19
  · rw [if_neg (by omega), if_neg (by omega), if_neg (by omega), if_neg (by omega), if_neg (by omega), if_neg (by omega), if_neg (by omega), if_neg (by omega), if_neg (by omega), if_neg (by omega), if_neg (by omega), if_neg (by omega), if_neg (by omega), if_neg (by omega), if_neg (by omega), if_neg (by omega), if_neg (by omega), if_neg (by omega), if_pos g19, if_neg g2, if_neg g8, if_neg g9, if_neg g14, if_neg g18, if_pos g19]; rfl
  simp only [if_neg g2, if_neg g8, if_neg g9, if_neg g14, if_neg g18, if_neg g19, ite_self]
/-- the reference's -/
theorem r_ln (hB : q < N → T q < 256) (hR : RLx T N q J M) : x11_readLine J M = b1 (if tks T N q = 0 then (if J 102 49 = 0 then b2 (x11_readTub J M) fun a b => some (a, b) else b1 (x11_wrong (2 : Int32) J) fun a => some (a, M)) else if J 102 49 = 0 then b1 (x11_wrong (2 : Int32) J) fun a => some (a, M) else if tks T N q = 2 then (b2 (x11_readOdds J M) fun a b => some (a, b)) else if tks T N q = 8 then rrule J M else if tks T N q = 9 then rapple J M else if tks T N q = 14 then rbob J M else if tks T N q = 18 then rdraw J M else if tks T N q = 19 then rbite J M else b1 (x11_wrong (2 : Int32) J) fun a => some (a, M)) rsemi := by
  have w0 := r_isW hB hR (i := 0) (v := 7632226) (by omega) (kw_e 0 (by omega)).symm
  have w2 := r_isW hB hR (i := 2) (v := 1868850291) (by omega) (kw_e 2 (by omega)).symm
  have w8 := r_isW hB hR (i := 8) (v := 1920298085) (by omega) (kw_e 8 (by omega)).symm
  have w9 := r_isW hB hR (i := 9) (v := 418498243685) (by omega) (kw_e 9 (by omega)).symm
  have w14 := r_isW hB hR (i := 14) (v := 108230531507570) (by omega) (kw_e 14 (by omega)).symm
  have w18 := r_isW hB hR (i := 18) (v := 1685217655) (by omega) (kw_e 18 (by omega)).symm
  have w19 := r_isW hB hR (i := 19) (v := 1651078245) (by omega) (kw_e 19 (by omega)).symm
  have d1 : ((1 : Int32) = 0) = False := eq_false (by decide)
  have hin : ∀ {s a : Nat} {x y : Int32}, s = a → (if s = a then x else y) = x := fun h => if_pos h
  generalize tks T N q = s at *
  have key : x11_readLine J M = b1 (if s = 0 then (if J 102 49 = 0 then b2 (x11_readTub J M) fun a b => some (a, b) else b1 (x11_wrong (2 : Int32) J) fun a => some (a, M)) else if J 102 49 = 0 then b1 (x11_wrong (2 : Int32) J) fun a => some (a, M) else if s = 2 then (b2 (x11_readOdds J M) fun a b => some (a, b)) else if s = 8 then rrule J M else if s = 9 then rapple J M else if s = 14 then rbob J M else if s = 18 then rdraw J M else if s = 19 then rbite J M else b1 (x11_wrong (2 : Int32) J) fun a => some (a, M)) rsemi := by
    rw [x11_readLine]
    by_cases g0 : s = 0
    · rw [if_pos g0] at w0
      rw [if_neg (by omega)] at w2 w8 w9 w14 w18 w19
      by_cases g49 : J 102 49 = 0
      · simp only [w0, q_b1, eq_self, d1, if_false, if_pos g0, if_pos g49]; rfl
      · simp only [w0, w2, w8, w9, w14, w18, w19, q_b1, eq_self, d1, if_false, if_true, if_pos g0, if_neg g49]; rfl
    rw [if_neg g0] at w0
    by_cases g49 : J 102 49 = 0
    · simp only [w0, q_b1, eq_self, if_true, if_neg g0, if_pos g49]; rfl
    by_cases g2 : s = 2
    · rw [if_pos g2] at w2
      simp only [w0, w2, q_b1, eq_self, d1, if_false, if_true, if_neg g0, if_neg g49, if_pos g2]; rfl
    rw [if_neg g2] at w2
    by_cases g8 : s = 8
    · rw [if_pos g8] at w8
      rw [if_neg (by omega)] at w9 w14 w18 w19
      simp only [w0, w2, w8, w9, w14, w18, w19, q_b1, eq_self, d1, if_false, if_true, if_neg g0, if_neg g49, if_neg g2, if_pos g8]; rfl
    rw [if_neg g8] at w8
    by_cases g9 : s = 9
    · rw [if_pos g9] at w9
      rw [if_neg (by omega)] at w14 w18 w19
      simp only [w0, w2, w8, w9, w14, w18, w19, q_b1, eq_self, d1, if_false, if_true, if_neg g0, if_neg g49, if_neg g2, if_neg g8, if_pos g9]; rfl
    rw [if_neg g9] at w9
    by_cases g14 : s = 14
    · rw [if_pos g14] at w14
      rw [if_neg (by omega)] at w18 w19
      simp only [w0, w2, w8, w9, w14, w18, w19, q_b1, eq_self, d1, if_false, if_true, if_neg g0, if_neg g49, if_neg g2, if_neg g8, if_neg g9, if_pos g14]; rfl
    rw [if_neg g14] at w14
    by_cases g18 : s = 18
    · rw [if_pos g18] at w18
      rw [if_neg (by omega)] at w19
      simp only [w0, w2, w8, w9, w14, w18, w19, q_b1, eq_self, d1, if_false, if_true, if_neg g0, if_neg g49, if_neg g2, if_neg g8, if_neg g9, if_neg g14, if_pos g18]; rfl
    rw [if_neg g18] at w18
    by_cases g19 : s = 19
    · rw [if_pos g19] at w19
      simp only [w0, w2, w8, w9, w14, w18, w19, q_b1, eq_self, d1, if_false, if_true, if_neg g0, if_neg g49, if_neg g2, if_neg g8, if_neg g9, if_neg g14, if_neg g18, if_pos g19]; rfl
    rw [if_neg g19] at w19
    simp only [w0, w2, w8, w9, w14, w18, w19, q_b1, eq_self, d1, if_false, if_true, if_neg g0, if_neg g49, if_neg g2, if_neg g8, if_neg g9, if_neg g14, if_neg g18, if_neg g19]; rfl
  exact key
theorem b2_id {α β : Type} (x : Option (α × β)) : (b2 x fun a b => some (a, b)) = x := by
  cases x <;> rfl
theorem P_line (ht : t = 2 ∨ t = 28) (hC : CR T N t q U b I L) (hR : RR T N q U J M) (hK : LK t b k C ws I L J M) : LO T N t q I L J M (x5_line t I L) (x11_readLine J M) := by
  obtain ⟨W, hWe⟩ : ∃ W, nW (OD t I) = W := ⟨_, rfl⟩
  have eW : I t 0 = Int32.ofNat W ∧ W ≤ 6 := by
    have := hK.1.1.1.1
    rw [hWe] at this; exact this
  have r49 : J 102 49 = Int32.ofNat W := by rw [hK.2.1.1]; exact eW.1
  have ec : (0 < I t 0) = (0 < W) := by rw [eW.1, show (0 : Int32) = Int32.ofNat 0 from rfl, q_lt (by omega) (by omega)]
  have er : (J 102 49 = 0) = (W = 0) := by rw [r49, show (0 : Int32) = Int32.ofNat 0 from rfl, q_eq (by omega) (by omega)]
  have e0 : (I 21 4 = 0) = (tks T N q = 0) := hC.cd (v := 0) (by omega)
  have hsl := tks_lt (T := T) (N := N) (q := q) (hC.1.2.2 q)
  have e4 : I 21 4 = Int32.ofNat (tks T N q) := hC.2.2.2.1.2.2.1
  obtain ⟨I', J', f1, f2, f3, f4, f5⟩ := both_fail hC hR (k := 2) (by simp)
  have bad : LO T N t q I L J M (b2 (x5_fail (2 : Int32) I) fun r I' => ck (r = 0 ∨ r = 1) (some (r, I', L))) (b1 (b1 (x11_wrong (2 : Int32) J) fun a => some (a, M)) rsemi) := by
    rw [f1, q_b2, ck_pos (Or.inl rfl), f2, q_b1, q_b1, rsemi]
    dsimp only
    rw [if_neg (fl_ne f3.2.2), q_b1, if_neg (fl_ne f3.2.2)]
    exact Or.inr ⟨I', L, J', M, rfl, rfl, f3, Gs.fl f4 f5⟩
  rw [r_ln (hR.1.2.2 q) hR.2.1]
  by_cases g0 : tks T N q = 0
  · rw [if_pos g0]
    by_cases gW : W = 0
    · rw [if_pos (er.mpr gW), c_lntub (e0.mpr g0) (by rw [ec]; omega), b2_id]
      exact P_semi ht (P_tub ht hC hR hK (by omega) g0)
    · rw [if_neg (fun g => gW (er.mp g)), c_lnbad (Or.inl ⟨e0.mpr g0, by rw [ec]; omega⟩)]
      exact bad
  · rw [if_neg g0]
    by_cases gW : W = 0
    · rw [if_pos (er.mpr gW), c_lnbad (Or.inr ⟨fun g => g0 (e0.mp g), by rw [ec]; omega⟩)]
      exact bad
    · rw [if_neg (fun g => gW (er.mp g)), c_ln (fun g => g0 (e0.mp g)) (by rw [ec]; omega) hsl e4]
      have hW1 : 1 ≤ nW (OD t I) := by omega
      by_cases g2 : tks T N q = 2
      · rw [if_pos g2, if_pos g2, b2_id]; exact P_semi ht (P_odds ht hC hR hK hW1 g2)
      rw [if_neg g2, if_neg g2]
      by_cases g8 : tks T N q = 8
      · rw [if_pos g8, if_pos g8]; exact P_semi ht (P_rule ht hC hR hK hW1 g8)
      rw [if_neg g8, if_neg g8]
      by_cases g9 : tks T N q = 9
      · rw [if_pos g9, if_pos g9]; exact P_semi ht (P_apple ht hC hR hK hW1 g9)
      rw [if_neg g9, if_neg g9]
      by_cases g14 : tks T N q = 14
      · rw [if_pos g14, if_pos g14]; exact P_semi ht (P_bobber ht hC hR hK hW1 g14)
      rw [if_neg g14, if_neg g14]
      by_cases g18 : tks T N q = 18
      · rw [if_pos g18, if_pos g18]; exact P_semi ht (P_draw ht hC hR hK hW1)
      rw [if_neg g18, if_neg g18]
      by_cases g19 : tks T N q = 19
      · rw [if_pos g19, if_pos g19]; exact P_semi ht (P_bite ht hC hR hK hW1)
      rw [if_neg g19, if_neg g19]
      exact bad
end LNX
