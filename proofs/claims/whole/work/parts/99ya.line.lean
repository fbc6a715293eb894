/-! THE TEXT: lines: apple, from its start -/
section LNX
variable {T : Nat → Nat} {N t b q U k n p : Nat} {C : TC} {ws : Nat → Nat → List Nat} {w' : Nat → List Nat} {I I0 I' : MI} {L L0 L' : ML} {J J0 J' J'' : MI} {M M0 M' : ML}
/-- behind the comma: the row, and whether the cell is free -/
theorem P_app2 (ht : t = 2 ∨ t = 28) (hK : LK t b k C ws I0 L0 J0 M0) (hW : 1 ≤ nW (OD t I0)) (hn : nA (OD t I0) = n) (hn10 : n < 10) (h53 : J0 102 53 = Int32.ofNat n) (hB : BXa T N t b q U n w' I0 L0 J0 M0 p I L J M) {x : Nat} (hx : x < nW (OD t I0)) (j115 : J 115 n = Int32.ofNat x) : LO T N t q I0 L0 J0 M0 (b2 (x5_isFreeCell t (Int32.ofNat x) I) fun r11 I12 => if r11 = 0 then some ((0 : Int32), I12, L) else b3 (x5_number (0 : Int32) ((I12 t 1) - 1) I12 L) fun r13 I14 L15 => lt r13 fun v16 => ca4 t (Int32.ofNat n) (Int32.ofNat x) v16 I14 L15) (b2 (ap2 J M) fun a b => some (a, b)) := by
  obtain ⟨H, hHe⟩ : ∃ H, nH (OD t I0) = H := ⟨_, rfl⟩
  have eH : I0 t 1 = Int32.ofNat H ∧ H ≤ 6 := by
    have := hK.1.1.1.2
    rw [hHe] at this; exact this
  have hH1 : 1 ≤ H := by
    rcases hK.1.2.1 with g | g <;> omega
  have z : ∀ {J1}, RA n J0 J1 → J1 102 53 = Int32.ofNat n := fun g => by rw [g.2.1 53 (by omega)]; exact h53
  have r50 : J 102 50 = Int32.ofNat H := by rw [hB.2.2.2.2.1.2.1 50 (by omega), hK.2.1.2.1]; exact eH.1
  have r7 : J 102 7 = Int32.ofNat p := hB.2.1.2.1.2.1
  have i1 : I t 1 = Int32.ofNat H := by rw [hB.2.2.2.1 t (by omega)]; exact eH.1
  have i4 : I t 4 = Int32.ofNat n := by
    have := hK.1.1.2.1.1.1
    rw [hn] at this
    rw [hB.2.2.2.1 t (by omega)]; exact this
  -- those before, on both sides
  have hold : ∀ {J1 : MI}, RA n J0 J1 → ∀ a, a < n → J1 115 a = I0 (t + 1) a ∧ J1 116 a = I0 (t + 2) a := fun g a ha => by
    rw [g.2.2 115 a (by omega) (by omega), g.2.2 116 a (by omega) (by omega)]
    have := hK.2.2.1 a (by omega)
    exact ⟨this.1, this.2.1⟩
  have ci : ∀ a, I (t + 1) a = I0 (t + 1) a ∧ I (t + 2) a = I0 (t + 2) a := fun a => by
    rw [hB.2.2.2.1 (t + 1) (by omega), hB.2.2.2.1 (t + 2) (by omega)]; exact ⟨rfl, rfl⟩
  obtain ⟨I', f1, f2, f3, f4⟩ := hB.1.fail 3
  have ez : Int32.ofNat 0 = 0 := rfl
  have efr := c_freeL (x := x) hB.1 i4 hn10 f1 n 0 FU (by omega) (by unfold FU; omega)
  rw [ez] at efr
  have e50 : J 102 50 - 1 = Int32.ofNat (H - 1) := by rw [r50, q_subn (by show 1 ≤ _; omega)]
  rw [ap2, r7, q_l, e50, z hB.2.2.2.2.1]
  rcases efr with ⟨e27, ⟨a, -, ha, hax, hay⟩, hfr⟩ | ⟨hno, hfr⟩
  · -- taken
    have hyH : tkv T N p < H := by
      obtain ⟨x2, y1, y2⟩ := (hK.1.1.2.2.1 a (by omega)).2.1
      have y2' : I0 (t + 2) a = Int32.ofNat x2 := y2
      rw [← (ci a).2, hay] at y2'
      have hv := tkv_le (T := T) (N := N) (q := p) e27
      rw [q_eq (by omega) (by omega)] at y2'
      omega
    rcases P_num ht hB.1 hB.2.1 (lo := 0) (hi := H - 1) (by omega) (by omega) with ⟨y, I5, L5, J5, M5, g1, g2, g3, g4, g5, g6, g7, g8, g9, g10, g11, g12, g13⟩ | ⟨I5, J5, r, g1, -⟩
    · have g2' : x11_toldNumber 0 (Int32.ofNat (H - 1)) J M = some (Int32.ofNat y, J5, M5) := g2
      have hB5 := (hB.st g7 g5 g6 g8 g9 g10 g11).w (x := 116) (v := Int32.ofNat y) (by omega)
      rw [x5_isFreeCell, q_l, hfr, q_bEr, q_b2, if_pos rfl, g2', q_b3, q_in (by omega) (by omega), q_ck, show ix (Int32.ofNat n) = n from q_ix (by omega), q_l]
      have r115 : wI J5 116 n (Int32.ofNat y) 115 n = Int32.ofNat x := by rw [wI_c (by omega), g10.1 115 (by omega)]; exact j115
      have efr2 := r_freeL hB5.2.1.2.2.2.1 (z hB5.2.2.2.2.1) hn10 (Int32.ofNat p) n 0 FU (by omega) (by unfold FU; omega)
      rw [ez] at efr2
      rcases efr2 with ⟨-, h64⟩ | ⟨hno, -⟩
      · obtain ⟨J6, k1, k2⟩ := fl_ap4 (n := n) (M := M5) (J := wI (wI (wI J5 116 n (Int32.ofNat y)) 102 2 3) 102 3 (Int32.ofNat p)) (by rw [wI_ne (by omega), wI_at]; decide) (by rw [wI_ne (by omega), wI_ne (by omega)]; exact z hB5.2.2.2.2.1) hn10
        rw [ap3, q_l, h64, q_b1, k1, q_b2]
        refine Or.inr ⟨I', L, J6, M5, rfl, rfl, ?_, ?_⟩
        · have hf : FBt I' (wI (wI (wI J5 116 n (Int32.ofNat y)) 102 2 3) 102 3 (Int32.ofNat p)) := ⟨by rw [wI_ne (by omega), wI_at, f2, fkd, if_neg (by omega)], by rw [wI_at, f3], by rw [wI_ne (by omega), wI_at]; decide⟩
          exact hf.q24 k2
        · have hc0 : Gs t I L (wI J5 116 n (Int32.ofNat y)) M5 I' L (wI J5 116 n (Int32.ofNat y)) M5 := ⟨fun y a _ _ => f4.1 y a, fun _ _ _ => rfl, ⟨fun _ _ _ _ _ => rfl, fun _ _ => rfl⟩, fun _ _ _ => rfl⟩
          have hc : Gs t I L (wI J5 116 n (Int32.ofNat y)) M5 I' L J6 M5 := hc0.trans (((Gs.wr (by omega)).trans (Gs.wr (by omega))).trans k2.g)
          have hd0 : Gs t I L J M I L J5 M5 := ⟨fun _ _ _ _ => rfl, fun _ _ _ => rfl, (Gs.st (I := I) (I' := I5) (L := L) (L' := L5) (t := t) g8 g9 g10 g11).2.2.1, (Gs.st (I := I) (I' := I5) (L := L) (L' := L5) (t := t) g8 g9 g10 g11).2.2.2⟩
          have hd : Gs t I L J M I L (wI J5 116 n (Int32.ofNat y)) M5 := hd0.trans (Gs.wr (by omega))
          exact (hB.2.2.2.2.2.2.2.2.trans hd).trans hc
      · refine absurd ⟨?_, ?_⟩ (hno a (by omega) ha)
        · rw [(hold hB5.2.2.2.2.1 a ha).1, ← (ci a).1, hax, r115]
        · rw [(hold hB5.2.2.2.2.1 a ha).2, ← (ci a).2, hay, wI_at, g13]
    · have g1' : x5_number 0 (Int32.ofNat (H - 1)) I L = some (-1, I5, L) := g1
      have e4 : (I 21 4 = 27) = (tks T N p = 27) := hB.1.cd (v := 27) (by omega)
      have ev : I 21 6 = Int32.ofNat (tkv T N p) := hB.1.2.2.2.1.2.2.2.2.1 e27
      obtain ⟨I7, L7, a1, -⟩ := hB.1.nx ht (by omega)
      rw [x5_number, if_pos (e4.mpr e27), q_l, ev, if_neg (by rw [show (0 : Int32) = Int32.ofNat 0 from rfl, q_lt (by omega) (by omega)]; omega), if_neg (by rw [q_lt (by omega) (by omega)]; omega), a1, q_b2] at g1'
      have hv := tkv_le (T := T) (N := N) (q := p) e27
      injection g1' with g1'
      injection g1' with g1' _
      exact absurd g1' (by rw [q_m1 (by omega)]; exact id)
  · rw [x5_isFreeCell, q_l, hfr, q_bEl, q_b2, if_neg (by decide), i1, q_subn (by show 1 ≤ _; omega)]
    have hw' : (H - (OfNat.ofNat 1 : Nat)) = H - 1 := rfl
    rw [hw']
    rcases P_num ht hB.1 hB.2.1 (lo := 0) (hi := H - 1) (by omega) (by omega) with ⟨y, I5, L5, J5, M5, g1, g2, g3, g4, g5, g6, g7, g8, g9, g10, g11, g12, g13⟩ | ⟨I5, J5, r, g1, g2, g3, g4, g5⟩
    · have g1' : x5_number 0 (Int32.ofNat (H - 1)) I L = some (Int32.ofNat y, I5, L5) := g1
      have g2' : x11_toldNumber 0 (Int32.ofNat (H - 1)) J M = some (Int32.ofNat y, J5, M5) := g2
      have hB5 := (hB.st g7 g5 g6 g8 g9 g10 g11).w (x := 116) (v := Int32.ofNat y) (by omega)
      have r115 : wI J5 116 n (Int32.ofNat y) 115 n = Int32.ofNat x := by rw [wI_c (by omega), g10.1 115 (by omega)]; exact j115
      have hfree : ∀ a, a < n → ¬ (I0 (t + 1) a = Int32.ofNat x ∧ I0 (t + 2) a = Int32.ofNat y) := fun a ha => by
        have := hno g12 a (by omega) ha
        rw [(ci a).1, (ci a).2, ← g13] at this
        exact this
      rw [g1', q_b3, q_l, g2', q_b3, q_in (by omega) (by omega), q_ck, show ix (Int32.ofNat n) = n from q_ix (by omega), q_l]
      have efr2 := r_freeL hB5.2.1.2.2.2.1 (z hB5.2.2.2.2.1) hn10 (Int32.ofNat p) n 0 FU (by omega) (by unfold FU; omega)
      rw [ez] at efr2
      rcases efr2 with ⟨⟨a, -, ha, h1, h2⟩, -⟩ | ⟨-, h64⟩
      · rw [(hold hB5.2.2.2.2.1 a ha).1, r115] at h1
        rw [(hold hB5.2.2.2.2.1 a ha).2, wI_at] at h2
        exact absurd ⟨h1, h2⟩ (hfree a ha)
      · rw [ap3, q_l, h64, q_b1]
        exact P_app4 ht hK hW hn hn10 h53 hB5 hx (by omega) r115 wI_at hfree
    · have g1' : x5_number 0 (Int32.ofNat (H - 1)) I L = some (-1, I5, L) := g1
      have g2' : x11_toldNumber 0 (Int32.ofNat (H - 1)) J M = some (r, J5, M) := g2
      have e53 : wI J5 116 n r 102 53 = Int32.ofNat n := by rw [fl_w (by omega), g5.2 53 (by omega) (by omega)]; exact z hB.2.2.2.2.1
      obtain ⟨J6, k1, k2⟩ := fl_ap3 (M := M) (J := wI J5 116 n r) (by rw [fl_w (by omega)]; exact g3.2.2) e53 hn10 (Int32.ofNat p)
      have hq : Q24 J5 J6 := (Q24.w (by omega)).trans k2
      rw [g1', q_b3, q_l, ca4_f, g2', q_b3, q_in (by omega) (by omega), q_ck, show ix (Int32.ofNat n) = n from q_ix (by omega), q_l, k1, q_b2]
      exact Or.inr ⟨I5, L, J6, M, rfl, rfl, g3.q24 hq, (hB.2.2.2.2.2.2.2.2.trans (Gs.fl g4 g5)).trans hq.g⟩
theorem P_apple (ht : t = 2 ∨ t = 28) (hC : CR T N t q U b I L) (hR : RR T N q U J M) (hK : LK t b k C ws I L J M) (hW : 1 ≤ nW (OD t I)) (hs : tks T N q = 9) : LO T N t q I L J M (x5_appleLine t I L) (rapple J M) := by
  obtain ⟨n, hn⟩ : ∃ n, nA (OD t I) = n := ⟨_, rfl⟩
  obtain ⟨W, hWe⟩ : ∃ W, nW (OD t I) = W := ⟨_, rfl⟩
  have e4 : I t 4 = Int32.ofNat n := by
    have := hK.1.1.2.1.1.1
    rw [hn] at this; exact this
  have hn10' : n ≤ 10 := by rw [← hn]; exact hK.1.1.2.1.1.2
  have eW : I t 0 = Int32.ofNat W ∧ W ≤ 6 := by
    have := hK.1.1.1.1
    rw [hWe] at this; exact this
  obtain ⟨r49, -, -, r53, -, -, -⟩ := hK.2.1
  rw [eW.1] at r49
  rw [e4] at r53
  by_cases h10 : n < 10
  · obtain ⟨I1, L1, a1, a2, a3, a4⟩ := hC.nx ht (by omega)
    obtain ⟨J1, M1, b1', b2', b3', b4'⟩ := hR.nx (by omega)
    have hq := tkn_lt (T := T) hC.2.2.1 (by omega : tks T N q ≠ 28)
    have hg1 : Gs t I L J M I1 L1 J1 M1 := Gs.st a3 a4 b3' b4'
    have hNm : Nm 25 6 n (ws 1) L1 M1 := by
      have g := hK.2.2.2.2.2.2.2.1.2.1
      rw [hn] at g
      exact ⟨fun i hi => by rw [a4 25 (by omega), b4'.1 112 (by omega)]; exact g.1 i hi, g.2⟩
    have hcl : x5_appleLine t I L = b3 (x5_newName 25 10 (Int32.ofNat n) I1 L1) fun r4 I5 L6 => if r4 = 0 then some ((0 : Int32), I5, L6) else b3 (x5_numberBehind (10 : Int32) (0 : Int32) ((I5 t 0) - 1) I5 L6) fun r7 I8 L9 => lt r7 fun v10 => if v10 = (-1) then some ((0 : Int32), I8, L9) else b2 (x5_isFreeCell t v10 I8) fun r11 I12 => if r11 = 0 then some ((0 : Int32), I12, L9) else b3 (x5_number (0 : Int32) ((I12 t 1) - 1) I12 L9) fun r13 I14 L15 => lt r13 fun v16 => ca4 t (Int32.ofNat n) v10 v16 I14 L15 := by
      rw [ca_eq, e4, q_l, if_pos (by rw [q_ltn (by omega) (by omega)]; exact h10), a1, q_b2]
    have hrr : rapple J M = b2 (b2 (nmrest 6 (Int32.ofNat n) J1 M1) ap0) fun a b => some (a, b) := by
      rw [rapple, r53, if_pos (by rw [q_ltn (by omega) (by omega)]; exact h10), ap_eq, nmrest_eq, r53, b1', q_b2]
    rw [hcl, hrr]
    rcases P_name (a := 25) (off := 6) (ln := 10) ht a2 b2' hNm h10 (by omega) (by omega) (by omega) with ⟨I2, L2, J2, M2, w, c1, c2, c3, c4, c5, c6, c7, c8, c9, c10, c11⟩ | ⟨I2, J2, c1, c2, c3, c4, c5⟩
    · have c1' : x5_newName 25 10 (Int32.ofNat n) I1 L1 = some (1, I2, L2) := c1
      have c2' : nmrest 6 (Int32.ofNat n) J1 M1 = some (J2, M2) := c2
      have hB2 : BXa T N t b q U n (fun i => if i = n then w else ws 1 i) I L J M (tkn T N (tkn T N q)) I2 L2 J2 M2 := ⟨c3, c4, by omega, a3.trans c6, (RA.st b3').trans (RA.st c7), ⟨by rw [c9 24 (by omega) (by omega), a4 24 (by omega)], by rw [c9 26 (by omega) (by omega), a4 26 (by omega)]⟩, c8, fun i hi => by rw [c11 i hi, b4'.1 112 (by omega)], hg1.trans ⟨fun x _ h _ => c6 x h, fun x h1 h2 => c9 x h1 (by omega), ⟨fun x h _ _ _ => c7.1 x h, fun j _ => c7.2 j (by omega) (by omega) (by omega) (by omega)⟩, fun x h1 h2 => c10 x h1 h2⟩⟩
      rw [c1', q_b3, if_neg (by decide), c2', q_b2, hB2.2.2.2.1 t (by omega), eW.1, q_subn (by show 1 ≤ _; omega)]
      have hw' : (W - (OfNat.ofNat 1 : Nat)) = W - 1 := rfl
      rw [hw']
      rcases P_word ht c3 c4 (i := 10) (by omega) (kw_e 10 (by omega)).symm with ⟨I3, L3, J3, M3, d1, d2, d3, d4, d5, d6, d7, d8, d9, -⟩ | ⟨I3, J3, d1, d2, d3, d4, d5⟩
      · have d1' : x5_token 10 I2 L2 = some (1, I3, L3) := d1
        have d2' : x11_want 24948 J2 M2 = some (J3, M3) := d2
        have hB3 := hB2.st d5 d3 d4 d6 d7 d8 d9
        have q49 : J3 102 49 - 1 = Int32.ofNat (W - 1) := by rw [hB3.2.2.2.2.1.2.1 49 (by omega), r49, q_subn (by show 1 ≤ _; omega)]
        have q53 : J3 102 53 = Int32.ofNat n := by rw [hB3.2.2.2.2.1.2.1 53 (by omega)]; exact r53
        rw [ap0, d2', q_b2, ap1, q49, q53]
        rcases P_num ht d3 d4 (lo := 0) (hi := W - 1) (by omega) (by omega) with ⟨x, I4, L4, J4, M4, f1, f2, f3, f4, f5, f6, f7, f8, f9, f10, f11, -, -⟩ | ⟨I4, J4, r, f1, f2, f3, f4, f5⟩
        · have f1' : x5_number 0 (Int32.ofNat (W - 1)) I3 L3 = some (Int32.ofNat x, I4, L4) := f1
          have f2' : x11_toldNumber 0 (Int32.ofNat (W - 1)) J3 M3 = some (Int32.ofNat x, J4, M4) := f2
          have hB4 := (hB3.st f7 f5 f6 f8 f9 f10 f11).w (x := 115) (v := Int32.ofNat x) (by omega)
          rw [x5_numberBehind, d1', q_b3, if_neg (by decide), f1', q_b3, q_b3, q_l, f2', q_b3, q_in (by omega) (by omega), q_ck, show ix (Int32.ofNat n) = n from q_ix (by omega), q_l, if_neg (by rw [q_m1 (by omega)]; exact id)]
          exact P_app2 ht hK hW hn h10 r53 hB4 (by omega) wI_at
        · have f1' : x5_number 0 (Int32.ofNat (W - 1)) I3 L3 = some (-1, I4, L3) := f1
          have f2' : x11_toldNumber 0 (Int32.ofNat (W - 1)) J3 M3 = some (r, J4, M3) := f2
          have e53 : wI J4 115 n r 102 53 = Int32.ofNat n := by rw [fl_w (by omega), f5.2 53 (by omega) (by omega)]; exact q53
          obtain ⟨J6, i1, i2⟩ := fl_ap2 (M := M3) (J := wI J4 115 n r) (by rw [fl_w (by omega)]; exact f3.2.2) e53 h10
          have hq : Q24 J4 J6 := (Q24.w (by omega)).trans i2
          rw [x5_numberBehind, d1', q_b3, if_neg (by decide), f1', q_b3, q_b3, q_l, if_pos rfl, f2', q_b3, q_in (by omega) (by omega), q_ck, show ix (Int32.ofNat n) = n from q_ix (by omega), q_l, i1, q_b2]
          exact Or.inr ⟨I4, L3, J6, M3, rfl, rfl, f3.q24 hq, (hB3.2.2.2.2.2.2.2.2.trans (Gs.fl f4 f5)).trans hq.g⟩
      · have d1' : x5_token 10 I2 L2 = some (0, I3, L2) := d1
        have d2' : x11_want 24948 J2 M2 = some (J3, M2) := d2
        have e53 : J3 102 53 = Int32.ofNat n := by rw [d5.2 53 (by omega) (by omega), hB2.2.2.2.2.1.2.1 53 (by omega)]; exact r53
        obtain ⟨J6, i1, i2⟩ := fl_ap1 (M := M2) d3.2.2 e53 h10
        rw [ap0, d2', q_b2, i1, q_b2, x5_numberBehind, d1', q_b3, if_pos rfl, q_b3, q_l, if_pos rfl]
        exact Or.inr ⟨I3, L2, J6, M2, rfl, rfl, d3.q24 i2, (hB2.2.2.2.2.2.2.2.2.trans (Gs.fl d4 d5)).trans i2.g⟩
    · have c1' : x5_newName 25 10 (Int32.ofNat n) I1 L1 = some (0, I2, L1) := c1
      have c2' : nmrest 6 (Int32.ofNat n) J1 M1 = some (J2, M1) := c2
      have e53 : J2 102 53 = Int32.ofNat n := by rw [c5.2 53 (by omega) (by omega), b3'.2 53 (by omega) (by omega) (by omega) (by omega)]; exact r53
      obtain ⟨J6, i1, i2⟩ := fl_ap0 (M := M1) c3.2.2 e53 h10
      rw [c1', q_b3, if_pos rfl, c2', q_b2, i1, q_b2]
      exact Or.inr ⟨I2, L1, J6, M1, rfl, rfl, c3.q24 i2, (hg1.trans (Gs.fl c4 c5)).trans i2.g⟩
  · obtain ⟨I', J', a1, a2, a3, a4, a5⟩ := both_fail hC hR (k := 2) (by simp)
    refine Or.inr ⟨I', L, J', M, ?_, ?_, a3, Gs.fl a4 a5⟩
    · rw [ca_eq, e4, q_l, if_neg (by rw [q_ltn (by omega) (by omega)]; exact h10), a1, q_b2, ck_pos (Or.inl rfl)]
    · rw [rapple, r53, if_neg (by rw [q_ltn (by omega) (by omega)]; exact h10), a2, q_b1]
end LNX
