/-! THE TEXT: lines: bobber, from its start -/
section LNX
variable {T : Nat → Nat} {N t b q U k n r p m W H : Nat} {C : TC} {ws : Nat → Nat → List Nat} {w' : Nat → List Nat} {I I' I'' : MI} {L L' L'' : ML} {J J' J'' : MI} {M M' M'' : ML}
theorem P_bobber (ht : t = 2 ∨ t = 28) (hC : CR T N t q U b I L) (hR : RR T N q U J M) (hK : LK t b k C ws I L J M) (hW : 1 ≤ nW (OD t I)) (hs : tks T N q = 14) : LO T N t q I L J M (x5_bobberLine t I L) (rbob J M) := by
  obtain ⟨n, hn⟩ : ∃ n, nB (OD t I) = n := ⟨_, rfl⟩
  obtain ⟨m, hm⟩ : ∃ m, nR (OD t I) = m := ⟨_, rfl⟩
  obtain ⟨W, hWe⟩ : ∃ W, nW (OD t I) = W := ⟨_, rfl⟩
  obtain ⟨H, hHe⟩ : ∃ H, nH (OD t I) = H := ⟨_, rfl⟩
  have e11 : I t 11 = Int32.ofNat n := by
    have := hK.1.1.2.1.2.1.1
    rw [hn] at this; exact this
  have hn4' : n ≤ 4 := by rw [← hn]; exact hK.1.1.2.1.2.1.2
  have eW : I t 0 = Int32.ofNat W ∧ W ≤ 6 := by
    have := hK.1.1.1.1
    rw [hWe] at this; exact this
  have eH : I t 1 = Int32.ofNat H ∧ H ≤ 6 := by
    have := hK.1.1.1.2
    rw [hHe] at this; exact this
  have hH1 : 1 ≤ H := by
    rcases hK.1.2.1 with g | g <;> omega
  obtain ⟨r49, r50, -, -, r54, -, -⟩ := hK.2.1
  rw [eW.1] at r49
  rw [eH.1] at r50
  rw [e11] at r54
  by_cases h4 : n < 4
  · obtain ⟨I1, L1, a1, a2, a3, a4⟩ := hC.nx ht (by omega)
    obtain ⟨J1, M1, b1', b2', b3', b4'⟩ := hR.nx (by omega)
    have hq := tkn_lt (T := T) hC.2.2.1 (by omega : tks T N q ≠ 28)
    have hg1 : Gs t I L J M I1 L1 J1 M1 := Gs.st a3 a4 b3' b4'
    have hNm : Nm 26 16 n (ws 2) L1 M1 := by
      have g := hK.2.2.2.2.2.2.2.1.2.2
      rw [hn] at g
      exact ⟨fun i hi => by rw [a4 26 (by omega), b4'.1 112 (by omega)]; exact g.1 i hi, g.2⟩
    have hcl : x5_bobberLine t I L = b3 (x5_newName 26 4 (Int32.ofNat n) I1 L1) fun r4 I5 L6 => if r4 = 0 then some ((0 : Int32), I5, L6) else b3 (x5_numberBehind (10 : Int32) (0 : Int32) ((I5 t 0) - 1) I5 L6) fun r7 I8 L9 => lt r7 fun v10 => cb2 t (Int32.ofNat n) v10 I8 L9 := by
      rw [cb_eq, e11, q_l, if_pos (by rw [q_ltn (by omega) (by omega)]; exact h4), a1, q_b2]
    have hrr : rbob J M = b2 (b2 (nmrest 16 (Int32.ofNat n) J1 M1) bo0) fun a b => some (a, b) := by
      rw [rbob, r54, if_pos (by rw [q_ltn (by omega) (by omega)]; exact h4), bo_eq, nmrest_eq, r54, b1', q_b2]
    rw [hcl, hrr]
    rcases P_name (a := 26) (off := 16) (ln := 4) ht a2 b2' hNm h4 (by omega) (by omega) (by omega) with ⟨I2, L2, J2, M2, w, c1, c2, c3, c4, c5, c6, c7, c8, c9, c10, c11⟩ | ⟨I2, J2, c1, c2, c3, c4, c5⟩
    · have c1' : x5_newName 26 4 (Int32.ofNat n) I1 L1 = some (1, I2, L2) := c1
      have c2' : nmrest 16 (Int32.ofNat n) J1 M1 = some (J2, M2) := c2
      have hB2 : BX T N t b q U n (fun i => if i = n then w else ws 2 i) I L J M (tkn T N (tkn T N q)) I2 L2 J2 M2 := ⟨c3, c4, by omega, a3.trans c6, (RJ.st b3').trans (RJ.st c7), fun x h1 h2 => by rw [c9 x (by omega) (by omega), a4 x (by omega)], c8, fun i hi => by rw [c11 i hi, b4'.1 112 (by omega)], hg1.trans ⟨fun x _ h _ => c6 x h, fun x h1 h2 => c9 x h1 (by omega), ⟨fun x h _ _ _ => c7.1 x h, fun j _ => c7.2 j (by omega) (by omega) (by omega) (by omega)⟩, fun x h1 h2 => c10 x h1 h2⟩⟩
      rw [c1', q_b3, if_neg (by decide), c2', q_b2, hB2.2.2.2.1 t (by omega), eW.1, q_subn (by show 1 ≤ _; omega)]
      have hw' : (W - (OfNat.ofNat 1 : Nat)) = W - 1 := rfl
      rw [hw']
      rcases P_word ht c3 c4 (i := 10) (by omega) (kw_e 10 (by omega)).symm with ⟨I3, L3, J3, M3, d1, d2, d3, d4, d5, d6, d7, d8, d9, -⟩ | ⟨I3, J3, d1, d2, d3, d4, d5⟩
      · have d1' : x5_token 10 I2 L2 = some (1, I3, L3) := d1
        have d2' : x11_want 24948 J2 M2 = some (J3, M3) := d2
        have hB3 := hB2.st d5 d3 d4 d6 d7 d8 d9
        have q49 : J3 102 49 - 1 = Int32.ofNat (W - 1) := by rw [hB3.2.2.2.2.1.2.1 49 (by omega), r49, q_subn (by show 1 ≤ _; omega)]
        have q54 : J3 102 54 = Int32.ofNat n := by rw [hB3.2.2.2.2.1.2.1 54 (by omega)]; exact r54
        rw [bo0, d2', q_b2, bo1, q49, q54]
        rcases P_num ht d3 d4 (lo := 0) (hi := W - 1) (by omega) (by omega) with ⟨x, I4, L4, J4, M4, f1, f2, f3, f4, f5, f6, f7, f8, f9, f10, f11, -, -⟩ | ⟨I4, J4, r, f1, f2, f3, f4, f5⟩
        · have f1' : x5_number 0 (Int32.ofNat (W - 1)) I3 L3 = some (Int32.ofNat x, I4, L4) := f1
          have f2' : x11_toldNumber 0 (Int32.ofNat (W - 1)) J3 M3 = some (Int32.ofNat x, J4, M4) := f2
          have hB4 := (hB3.st f7 f5 f6 f8 f9 f10 f11).w (x := 118) (v := Int32.ofNat x) (by omega)
          have q50 : wI J4 118 n (Int32.ofNat x) 102 50 - 1 = Int32.ofNat (H - 1) := by rw [hB4.2.2.2.2.1.2.1 50 (by omega), r50, q_subn (by show 1 ≤ _; omega)]
          have q54' : wI J4 118 n (Int32.ofNat x) 102 54 = Int32.ofNat n := by rw [hB4.2.2.2.2.1.2.1 54 (by omega)]; exact r54
          have y50 : I4 t 1 - 1 = Int32.ofNat (H - 1) := by rw [hB4.2.2.2.1 t (by omega), eH.1, q_subn (by show 1 ≤ _; omega)]
          rw [x5_numberBehind, d1', q_b3, if_neg (by decide), f1', q_b3, q_b3, q_l, f2', q_b3, q_in (by omega) (by omega), q_ck, show ix (Int32.ofNat n) = n from q_ix (by omega), q_l, cb2, if_neg (by rw [q_m1 (by omega)]; exact id), y50, bo2, q50, q54']
          rcases P_num ht hB4.1 hB4.2.1 (lo := 0) (hi := H - 1) (by omega) (by omega) with ⟨y, I5, L5, J5, M5, g1, g2, g3, g4, g5, g6, g7, g8, g9, g10, g11, -, -⟩ | ⟨I5, J5, r, g1, g2, g3, g4, g5⟩
          · have g1' : x5_number 0 (Int32.ofNat (H - 1)) I4 L4 = some (Int32.ofNat y, I5, L5) := g1
            have g2' : x11_toldNumber 0 (Int32.ofNat (H - 1)) (wI J4 118 n (Int32.ofNat x)) M4 = some (Int32.ofNat y, J5, M5) := g2
            have hB5 := (hB4.st g7 g5 g6 g8 g9 g10 g11).w (x := 119) (v := Int32.ofNat y) (by omega)
            rw [g1', q_b3, q_b1, q_l, g2', q_b3, q_in (by omega) (by omega), q_ck, show ix (Int32.ofNat n) = n from q_ix (by omega), q_l]
            dsimp only
            exact P_bob3 ht hK hW hn hm h4 r54 hB5 (by omega) (by omega) (by rw [wI_c (by omega), g10.1 118 (by omega), wI_at]) wI_at
          · have g1' : x5_number 0 (Int32.ofNat (H - 1)) I4 L4 = some (-1, I5, L4) := g1
            have g2' : x11_toldNumber 0 (Int32.ofNat (H - 1)) (wI J4 118 n (Int32.ofNat x)) M4 = some (r, J5, M4) := g2
            have e54 : wI J5 119 n r 102 54 = Int32.ofNat n := by rw [fl_w (by omega), g5.2 54 (by omega) (by omega)]; exact q54'
            obtain ⟨J6, i1, i2⟩ := fl_bo3 (M := M4) (J := wI J5 119 n r) (by rw [fl_w (by omega)]; exact g3.2.2) e54 h4
            have hq : Q24 J5 J6 := (Q24.w (by omega)).trans i2
            rw [g1', q_b3, q_b1, q_l, g2', q_b3, q_in (by omega) (by omega), q_ck, show ix (Int32.ofNat n) = n from q_ix (by omega), q_l, i1, q_b2]
            dsimp only
            rw [cb3_f]
            exact Or.inr ⟨I5, L4, J6, M4, rfl, rfl, g3.q24 hq, (hB4.2.2.2.2.2.2.2.2.trans (Gs.fl g4 g5)).trans hq.g⟩
        · have f1' : x5_number 0 (Int32.ofNat (W - 1)) I3 L3 = some (-1, I4, L3) := f1
          have f2' : x11_toldNumber 0 (Int32.ofNat (W - 1)) J3 M3 = some (r, J4, M3) := f2
          have e54 : wI J4 118 n r 102 54 = Int32.ofNat n := by rw [fl_w (by omega), f5.2 54 (by omega) (by omega)]; exact q54
          obtain ⟨J6, i1, i2⟩ := fl_bo2 (M := M3) (J := wI J4 118 n r) (by rw [fl_w (by omega)]; exact f3.2.2) e54 h4
          have hq : Q24 J4 J6 := (Q24.w (by omega)).trans i2
          rw [x5_numberBehind, d1', q_b3, if_neg (by decide), f1', q_b3, q_b3, q_l, cb2_f, f2', q_b3, q_in (by omega) (by omega), q_ck, show ix (Int32.ofNat n) = n from q_ix (by omega), q_l, i1, q_b2]
          exact Or.inr ⟨I4, L3, J6, M3, rfl, rfl, f3.q24 hq, (hB3.2.2.2.2.2.2.2.2.trans (Gs.fl f4 f5)).trans hq.g⟩
      · have d1' : x5_token 10 I2 L2 = some (0, I3, L2) := d1
        have d2' : x11_want 24948 J2 M2 = some (J3, M2) := d2
        have e54 : J3 102 54 = Int32.ofNat n := by rw [d5.2 54 (by omega) (by omega), hB2.2.2.2.2.1.2.1 54 (by omega)]; exact r54
        obtain ⟨J6, i1, i2⟩ := fl_bo1 (M := M2) d3.2.2 e54 h4
        rw [bo0, d2', q_b2, i1, q_b2, x5_numberBehind, d1', q_b3, if_pos rfl, q_b3, q_l, cb2_f]
        exact Or.inr ⟨I3, L2, J6, M2, rfl, rfl, d3.q24 i2, (hB2.2.2.2.2.2.2.2.2.trans (Gs.fl d4 d5)).trans i2.g⟩
    · have c1' : x5_newName 26 4 (Int32.ofNat n) I1 L1 = some (0, I2, L1) := c1
      have c2' : nmrest 16 (Int32.ofNat n) J1 M1 = some (J2, M1) := c2
      have e54 : J2 102 54 = Int32.ofNat n := by rw [c5.2 54 (by omega) (by omega), b3'.2 54 (by omega) (by omega) (by omega) (by omega)]; exact r54
      obtain ⟨J6, i1, i2⟩ := fl_bo0 (M := M1) c3.2.2 e54 h4
      rw [c1', q_b3, if_pos rfl, c2', q_b2, i1, q_b2]
      exact Or.inr ⟨I2, L1, J6, M1, rfl, rfl, c3.q24 i2, (hg1.trans (Gs.fl c4 c5)).trans i2.g⟩
  · obtain ⟨I', J', a1, a2, a3, a4, a5⟩ := both_fail hC hR (k := 2) (by simp)
    refine Or.inr ⟨I', L, J', M, ?_, ?_, a3, Gs.fl a4 a5⟩
    · rw [cb_eq, e11, q_l, if_neg (by rw [q_ltn (by omega) (by omega)]; exact h4), a1, q_b2, ck_pos (Or.inl rfl)]
    · rw [rbob, r54, if_neg (by rw [q_ltn (by omega) (by omega)]; exact h4), a2, q_b1]
end LNX
