/-! THE TEXT: lines: rule -/
section LNX
variable {T : Nat → Nat} {N t b q U k s n : Nat} {C : TC} {D D' : TD} {c : List Int32} {ws : Nat → Nat → List Nat} {I I' I'' : MI} {L L' L'' : ML} {J J' J'' : MI} {M M' M'' : ML}
theorem OkD.ru (h : OkD D C) (hD : ∀ j a, ¬ (j = 0 ∧ a = 18) → D' j a = D j a) (hn : nR D < 6) (e : D' 0 18 = Int32.ofNat (nR D + 1)) (hc : wfd c 0 1) : OkD D' (fun i => if i = 5 + nR D then c else C i) ∧ nR D' = nR D + 1 := by
  have eW : nW D' = nW D := by simp only [nW, hD 0 0 (by omega)]
  have eH : nH D' = nH D := by simp only [nH, hD 0 1 (by omega)]
  have eA : nA D' = nA D := by simp only [nA, hD 0 4 (by omega)]
  have eB : nB D' = nB D := by simp only [nB, hD 0 11 (by omega)]
  have eR : nR D' = nR D + 1 := by rw [nR, e, q_ix (by omega)]
  obtain ⟨⟨h1, h2⟩, ⟨h3, h4, h5⟩, h6, h7, h8, h9, h10, h11⟩ := h
  refine ⟨⟨⟨by rw [eW, hD 0 0 (by omega)]; exact h1, by rw [eH, hD 0 1 (by omega)]; exact h2⟩, ⟨by rw [eA, hD 0 4 (by omega)]; exact h3, by rw [eB, hD 0 11 (by omega)]; exact h4, by rw [eR]; exact ⟨e, by omega⟩⟩, fun a ha => ?_, fun a c ha hc => ?_, fun b hb => ?_, by rw [hD 0 3 (by omega)]; exact h9, fun i hi => ?_, fun r hr => ?_⟩, eR⟩
  · rw [eW, eH, hD 1 a (by omega), hD 2 a (by omega), hD 3 a (by omega), hD 4 a (by omega), hD 5 a (by omega), hD 6 a (by omega)]
    exact h6 a (by rw [← eA]; exact ha)
  · rw [hD 1 a (by omega), hD 2 a (by omega), hD 1 c (by omega), hD 2 c (by omega)]
    exact h7 a c (by rw [← eA]; exact ha) (by rw [← eA]; exact hc)
  · rw [eW, eH, eR, hD 7 b (by omega), hD 8 b (by omega), hD 9 b (by omega), hD 10 b (by omega), hD 11 b (by omega), hD 12 b (by omega)]
    obtain ⟨g1, g2, g3, g4, g5, z, g6, g7⟩ := h8 b (by rw [← eB]; exact hb)
    exact ⟨g1, g2, g3, g4, g5, z, g6, by omega⟩
  · simp only [if_neg (show ¬ i = 5 + nR D by omega)]; exact h10 i hi
  · by_cases er : r = nR D
    · simp only [er, if_true]; exact hc
    · simp only [if_neg (show ¬ 5 + r = 5 + nR D by omega)]; exact h11 r (by omega)
theorem LK.ru (ht : t = 2 ∨ t = 28) (h : LK t b k C ws I L J M) (hn : nR (OD t I) = n) (hn6 : n < 6) (hb : b ≤ 600 ∧ 1 ≤ b) (h1 : CFf t b (5 + n) I I') (h2 : ∀ x, 25 ≤ x → x ≤ 26 → L' x = L x) (h3 : RFf (5 + n) J J') (h4 : ∀ i, i ≠ n → M' 112 i = M 112 i) {w' : Nat → List Nat} (h5 : Nm 24 0 (n + 1) w' L' M') (g1 : Cd I' t (5 + n) c) (g2 : CdA c (5 + n) J') (g3 : c.length ≤ 320) (g4 : wfd c 0 1) (g5 : I' (t + 15) (5 + n) = Int32.ofNat b) : LK t (b + c.length) k (fun i => if i = 5 + n then c else C i) (fun i => if i = 0 then w' else ws i) (wI I' t 18 (Int32.ofNat (n + 1))) L' (wI J' 102 52 (Int32.ofNat (n + 1))) M' := by
  generalize hI2 : wI I' t 18 (Int32.ofNat (n + 1)) = I2
  generalize hJ2 : wI J' 102 52 (Int32.ofNat (n + 1)) = J2
  have f1 : ∀ x, t < x → x ≤ t + 12 → I2 x = I x := fun x a e => by rw [← hI2, wI_c (by omega), h1.1 x (by omega) (by omega) (by omega) (by omega) (by omega) (by omega)]
  have f2 : ∀ j, j ≠ 18 → I2 t j = I t j := fun j a => by rw [← hI2, wI_ne (by omega), h1.1 t (by omega) (by omega) (by omega) (by omega) (by omega) (by omega)]
  have f3 : I2 t 18 = Int32.ofNat (n + 1) := by rw [← hI2, wI_at]
  have f4 : ∀ x, t < x → I2 x = I' x := fun x a => by rw [← hI2, wI_c (by omega)]
  have f5 : ∀ j, j ≠ 7 → j ≠ 8 → j ≠ 9 → I2 20 j = I 20 j := fun j a b c => by rw [← hI2, wI_c (by omega), h1.2.1 j a b c]
  have j1 : ∀ x, 113 ≤ x → x ≤ 124 → J2 x = J x := fun x a e => by rw [← hJ2, wI_c (by omega), h3.1 x (by omega) (by omega) (by omega) (by omega) (by omega)]
  have j2 : ∀ j, 49 ≤ j → j ≠ 52 → J2 102 j = J 102 j := fun j a e => by rw [← hJ2, wI_ne (by omega), h3.2.1 j (by omega) (by omega) (by omega) (by omega) (by omega) (by omega) (by omega) (by omega) (by omega) (by omega) (by omega)]
  have j3 : ∀ x, x ≠ 102 → J2 x = J' x := fun x a => by rw [← hJ2, wI_c a]
  have hD : ∀ j a, ¬ (j = 0 ∧ a = 18) → OD t I2 j a = OD t I j a := by
    intro j a hja
    simp only [OD]
    split
    · by_cases e : j = 0
      · subst e; exact f2 a (by omega)
      · rw [f1 (t + j) (by omega) (by omega)]
    · rfl
  have eW : nW (OD t I2) = nW (OD t I) := by simp only [nW, hD 0 0 (by omega)]
  have eH : nH (OD t I2) = nH (OD t I) := by simp only [nH, hD 0 1 (by omega)]
  have eA : nA (OD t I2) = nA (OD t I) := by simp only [nA, hD 0 4 (by omega)]
  have eB : nB (OD t I2) = nB (OD t I) := by simp only [nB, hD 0 11 (by omega)]
  obtain ⟨k1, k2, k3, k4, k5, k6, k7, k8, k9⟩ := h
  obtain ⟨o1, eR⟩ := k1.1.ru hD (by omega) (show OD t I2 0 18 = _ by rw [hn]; exact f3) g4
  rw [hn] at o1 eR k8 k7
  have hB : ∀ {i c0}, i ≠ 5 + n → CdB I t b i c0 → CdB I2 t (b + c.length) i c0 := fun hi g => by
    obtain ⟨st, g1, g2, g3, g4⟩ := g.f ht h1 hi (Nat.le_add_right b c.length)
    exact ⟨st, by rw [f4 (t + 15) (by omega)]; exact g1, by rw [f4 (t + 16) (by omega)]; exact g2, g3, fun i hi => by rw [f4 (t + 14) (by omega)]; exact g4 i hi⟩
  have hA : ∀ {c0 i}, i ≠ 5 + n → c0.length ≤ 320 → CdA c0 i J → CdA c0 i J2 := fun hi hl g => (CdA.f h3 hi hl g).c (j3 104 (by omega)) (j3 105 (by omega)) (j3 106 (by omega))
  rw [LK, eW, eH, eA, eB, eR]
  refine ⟨⟨o1, k1.2.1, by rw [f2 2 (by omega)]; exact k1.2.2⟩, ?_, fun a ha => ?_, fun a ha => ?_, ⟨k5.1, by rw [j2 51 (by omega) (by omega)]; exact k5.2⟩, fun i hi => ?_, fun r hr => ?_, ⟨h5, ⟨fun i hi => ?_, k8.2.1.2⟩, ⟨fun i hi => ?_, k8.2.2.2⟩⟩, by rw [j2 62 (by omega) (by omega), j2 63 (by omega) (by omega), f5 5 (by omega) (by omega) (by omega), f5 6 (by omega) (by omega) (by omega)]; exact k9⟩
  · rw [j2 49 (by omega) (by omega), j2 50 (by omega) (by omega), j2 53 (by omega) (by omega), j2 54 (by omega) (by omega), j2 55 (by omega) (by omega), j2 64 (by omega) (by omega), f2 0 (by omega), f2 1 (by omega), f2 4 (by omega), f2 11 (by omega), f2 2 (by omega), f2 3 (by omega), f3, ← hJ2, wI_at]
    exact ⟨k2.1, k2.2.1, rfl, k2.2.2.2⟩
  · rw [j1 115 (by omega) (by omega), j1 116 (by omega) (by omega), j1 113 (by omega) (by omega), j1 114 (by omega) (by omega), j1 124 (by omega) (by omega), j1 117 (by omega) (by omega), f1 (t + 1) (by omega) (by omega), f1 (t + 2) (by omega) (by omega), f1 (t + 3) (by omega) (by omega), f1 (t + 4) (by omega) (by omega), f1 (t + 5) (by omega) (by omega), f1 (t + 6) (by omega) (by omega)]; exact k3 a ha
  · rw [j1 118 (by omega) (by omega), j1 119 (by omega) (by omega), j1 120 (by omega) (by omega), j1 121 (by omega) (by omega), j1 122 (by omega) (by omega), j1 123 (by omega) (by omega), f1 (t + 7) (by omega) (by omega), f1 (t + 8) (by omega) (by omega), f1 (t + 9) (by omega) (by omega), f1 (t + 10) (by omega) (by omega), f1 (t + 11) (by omega) (by omega), f1 (t + 12) (by omega) (by omega)]; exact k4 a ha
  · simp only [if_neg (show ¬ i = 5 + n by omega)]
    refine ⟨hB (by omega) (k6 i hi).1, ?_⟩
    rw [f4 (t + 15) (by omega), (h1.2.2.2.2 i (by omega)).1]
    rcases (k6 i hi).2 with ⟨m1, m2, m3, m4⟩ | m
    · exact Or.inl ⟨m1, hA (by omega) m3 m2, m3, m4⟩
    · exact Or.inr m
  · by_cases er : r = n
    · subst er
      simp only [if_true]
      obtain ⟨st, m1, m2, m3, m4⟩ := CdB.n g5 (by omega) g1
      exact ⟨⟨st, by rw [f4 (t + 15) (by omega)]; exact m1, by rw [f4 (t + 16) (by omega)]; exact m2, m3, fun i hi => by rw [f4 (t + 14) (by omega)]; exact m4 i hi⟩, g2.c (j3 104 (by omega)) (j3 105 (by omega)) (j3 106 (by omega)), g3⟩
    · simp only [if_neg (show ¬ 5 + r = 5 + n by omega)]
      obtain ⟨m1, m2, m3⟩ := k7 r (by omega)
      exact ⟨hB (by omega) m1, hA (by omega) m3 m2, m3⟩
  · simp only [if_neg (show ¬ (1 : Nat) = 0 by omega)]
    rw [h2 25 (by omega) (by omega), h4 (6 + i) (by omega)]; exact k8.2.1.1 i hi
  · simp only [if_neg (show ¬ (2 : Nat) = 0 by omega)]
    rw [h2 26 (by omega) (by omega), h4 (16 + i) (by omega)]; exact k8.2.2.1 i hi
noncomputable def rrule (J : MI) (M : ML) : Option (MI × ML) := if (J 102 52) < 6 then (b2 (x11_readRule J M) fun a b => some (a, b)) else b1 (x11_wrong (2 : Int32) J) fun a => some (a, M)
theorem P_rule (ht : t = 2 ∨ t = 28) (hC : CR T N t q U b I L) (hR : RR T N q U J M) (hK : LK t b k C ws I L J M) (hW : 1 ≤ nW (OD t I)) (hs : tks T N q = 8) : LO T N t q I L J M (x5_ruleLine t I L) (rrule J M) := by
  obtain ⟨n, hn⟩ : ∃ n, nR (OD t I) = n := ⟨_, rfl⟩
  have e18 : I t 18 = Int32.ofNat n := by
    have := hK.1.1.2.1.2.2.1
    rw [hn] at this; exact this
  have hn6 : n ≤ 6 := by rw [← hn]; exact hK.1.1.2.1.2.2.2
  have e52 : J 102 52 = Int32.ofNat n := by rw [hK.2.1.2.2.1]; exact e18
  by_cases h6 : n < 6
  · obtain ⟨I1, L1, a1, a2, a3, a4⟩ := hC.nx ht (by omega)
    obtain ⟨J1, M1, b1', b2', b3', b4'⟩ := hR.nx (by omega)
    have hq := tkn_lt (T := T) hC.2.2.1 (by omega : tks T N q ≠ 28)
    have hg : Gs t I L J M I1 L1 J1 M1 := Gs.st a3 a4 b3' b4'
    have hNm : Nm 24 0 n (ws 0) L1 M1 := by
      have g := hK.2.2.2.2.2.2.2.1.1
      rw [hn] at g
      exact ⟨fun i hi => by rw [a4 24 (by omega), b4'.1 112 (by omega)]; exact g.1 i hi, g.2⟩
    have hcl : x5_ruleLine t I L = b3 (x5_newName 24 6 (Int32.ofNat n) I1 L1) fun r3 I4 L5 => if r3 = 0 then some ((0 : Int32), I4, L5) else b3 (x5_formula t (5 + (I4 t 18)) I4 L5) fun r6 I7 L8 => if r6 = 0 then some ((0 : Int32), I7, L8) else lt (wI I7 t 18 ((I7 t 18) + 1)) fun I9 => some ((1 : Int32), I9, L8) := by
      rw [x5_ruleLine, e18, if_pos (by rw [q_ltn (by omega) (by omega)]; exact h6), a1, q_b2, a3 t (by omega), e18]
    have hrr : rrule J M = b2 (b2 (nmrest 0 (Int32.ofNat n) J1 M1) fun I1 L2 => if 0 < (I1 102 2) then some (I1, L2) else b2 (x11_formula (5 + (I1 102 52)) I1 L2) fun I3 L4 => if (I3 102 2) = 0 then (lt (wI I3 102 52 ((I3 102 52) + 1)) fun I5 => some (I5, L4)) else some (I3, L4)) fun a b => some (a, b) := by
      rw [rrule, e52, if_pos (by rw [q_ltn (by omega) (by omega)]; exact h6), x11_readRule, nmrest_eq, e52, b1', q_b2]
    rw [hcl, hrr]
    rcases P_name (a := 24) (off := 0) (ln := 6) ht a2 b2' hNm h6 (by omega) (by omega) (by omega) with ⟨I2, L2, J2, M2, w, c1, c2, c3, c4, c5, c6, c7, c8, c9, c10, c11⟩ | ⟨I2, J2, c1, c2, c3, c4, c5⟩
    · have c1' : x5_newName 24 6 (Int32.ofNat n) I1 L1 = some (1, I2, L2) := c1
      have c2' : nmrest 0 (Int32.ofNat n) J1 M1 = some (J2, M2) := c2
      have hg2 : Gs t I L J M I2 L2 J2 M2 := hg.trans ⟨fun x _ h _ => c6 x h, fun x h1 h2 => c9 x h1 (by omega), ⟨fun x h _ _ _ => c7.1 x h, fun j _ => c7.2 j (by omega) (by omega) (by omega) (by omega)⟩, fun x h1 h2 => c10 x h1 h2⟩
      have e18' : I2 t 18 = Int32.ofNat n := by rw [c6 t (by omega), a3 t (by omega)]; exact e18
      have e52' : J2 102 52 = Int32.ofNat n := by rw [c7.2 52 (by omega) (by omega) (by omega) (by omega), b3'.2 52 (by omega) (by omega) (by omega) (by omega)]; exact e52
      have e5 : 5 + Int32.ofNat n = Int32.ofNat (5 + n) := q_nadd
      rw [c1', q_b3, if_neg (by decide), c2', q_b2, c4.2.2.2.1, if_neg (by decide), e18', e52', e5]
      rcases P_formula (s := 5 + n) ht (by omega) c3 c4 with ⟨I3, L3, J3, M3, q', U', c, x1, x2, x3, x4, x5, x6, x7, x8, x9, x10, x11, x12, x13, x14, x15⟩ | ⟨I3, L3, J3, M3, qf, x1, x2, x3, x4, x5, x6, x7, x8, x9⟩
      · have hCF : CFf t b (5 + n) I I3 := ⟨fun x h1 h2 h3 h4 h5 h6 => (x3.1 x h1 h2 h3 h4 h5 h6).trans ((c6 x h2).trans (a3 x h2)), fun j h1 h2 h3 => (x3.2.1 j h1 h2 h3).trans (by rw [c6 20 (by omega), a3 20 (by omega)]), fun j h1 h2 => (x3.2.2.1 j h1 h2).trans (by rw [c6 (t + 13) (by omega), a3 (t + 13) (by omega)]), fun i hi => (x3.2.2.2.1 i hi).trans (by rw [c6 (t + 14) (by omega), a3 (t + 14) (by omega)]), fun i hi => ⟨(x3.2.2.2.2 i hi).1.trans (by rw [c6 (t + 15) (by omega), a3 (t + 15) (by omega)]), (x3.2.2.2.2 i hi).2.trans (by rw [c6 (t + 16) (by omega), a3 (t + 16) (by omega)])⟩⟩
        have hRF : RFf (5 + n) J J3 := ⟨fun x h1 h2 h3 h4 h5 => (x7.1 x h1 h2 h3 h4 h5).trans ((c7.1 x h1).trans (b3'.1 x h1)), fun j h1 h2 h3 h4 h5 h6 h7 h8 h9 h10 h11 => (x7.2.1 j h1 h2 h3 h4 h5 h6 h7 h8 h9 h10 h11).trans ((c7.2 j h3 h4 h5 h6).trans (b3'.2 j h3 h4 h5 h6)), fun i hi => (x7.2.2.1 i hi).trans (by rw [c7.1 106 (by omega), b3'.1 106 (by omega)]), fun i hi => ⟨(x7.2.2.2 i hi).1.trans (by rw [c7.1 104 (by omega), b3'.1 104 (by omega)]), (x7.2.2.2 i hi).2.trans (by rw [c7.1 105 (by omega), b3'.1 105 (by omega)])⟩⟩
        have hL := hK.ru ht hn h6 ⟨c3.cap, c3.2.2.2.2.2.2.2.2.2.2⟩ hCF (L' := L3) (M' := M3) (fun x h1 h2 => by rw [x4 x (by omega), c9 x (by omega) (by omega), a4 x (by omega)]) hRF (fun i hi => by rw [x8.1 112 (by omega), c11 i (by omega), b4'.1 112 (by omega)]) (w' := fun i => if i = n then w else ws 0 i) ⟨fun i hi => by rw [x4 24 (by omega), x8.1 112 (by omega)]; exact c8.1 i hi, c8.2⟩ x10 x11 x12 x13 x14
        have e18'' : I3 t 18 = Int32.ofNat n := by rw [x3.1 t (by omega) (by omega) (by omega) (by omega) (by omega) (by omega)]; exact e18'
        have e52'' : J3 102 52 = Int32.ofNat n := by rw [x7.2.1 52 (by omega) (by omega) (by omega) (by omega) (by omega) (by omega) (by omega) (by omega) (by omega) (by omega) (by omega)]; exact e52'
        refine Or.inl ⟨wI I3 t 18 (Int32.ofNat (n + 1)), L3, wI J3 102 52 (Int32.ofNat (n + 1)), M3, q', U', b + c.length, k, _, _, ?_, ?_, by omega, x2.w ht (by omega), x6.w (by omega), hL, ?_, (hg2.trans (Gs.fm ht x3 x4 x7 x8)).trans ((Gs.wc (by omega)).trans (Gs.wr (by omega)))⟩
        · rw [x1, q_b3, if_neg (by decide), e18'', q_addn, q_l]
        · rw [x5, q_b2, x6.2.2.2.1, if_pos rfl, e52'', q_addn, q_l, q_b2]
        · have e0 : OD t (wI I3 t 18 (Int32.ofNat (n + 1))) 0 0 = OD t I 0 0 := by
            show wI I3 t 18 _ (t + 0) 0 = I (t + 0) 0
            rw [wI_ne (by omega), hCF.1 (t + 0) (by omega) (by omega) (by omega) (by omega) (by omega) (by omega)]
          rw [nW, e0]; exact hW
      · have hne : ¬ J3 102 2 = 0 := by rw [x7.1]; exact (fkd_c 2 (by simp)).2
        refine Or.inr ⟨I3, L3, J3, M3, ?_, ?_, ⟨by rw [x4.1, x7.1], by rw [x4.2, x7.2], by rw [x7.1]; exact (fkd_c 2 (by simp)).1⟩, hg2.trans (Gs.fm ht x5 x6 x8 x9)⟩
        · rw [x1, q_b3, if_pos rfl]
        · rw [x2, q_b2, if_neg hne, q_b2]
    · have c1' : x5_newName 24 6 (Int32.ofNat n) I1 L1 = some (0, I2, L1) := c1
      have c2' : nmrest 0 (Int32.ofNat n) J1 M1 = some (J2, M1) := c2
      rw [c1', q_b3, if_pos rfl, c2', q_b2, if_pos c3.2.2, q_b2]
      exact Or.inr ⟨I2, L1, J2, M1, rfl, rfl, c3, hg.trans (Gs.fl c4 c5)⟩
  · obtain ⟨I', J', a1, a2, a3, a4, a5⟩ := both_fail hC hR (k := 2) (by simp)
    refine Or.inr ⟨I', L, J', M, ?_, ?_, a3, Gs.fl a4 a5⟩
    · rw [x5_ruleLine, e18, if_neg (by rw [q_ltn (by omega) (by omega)]; exact h6), a1, q_b2, ck_pos (Or.inl rfl)]
    · rw [rrule, e52, if_neg (by rw [q_ltn (by omega) (by omega)]; exact h6), a2, q_b1]
end LNX
