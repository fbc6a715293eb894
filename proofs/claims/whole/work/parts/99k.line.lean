/-! THE TEXT: lines: odds -/
section LNX
variable {T : Nat → Nat} {N t b q U k s : Nat} {C : TC} {c : List Int32} {ws : Nat → Nat → List Nat} {I I' I'' : MI} {L L' L'' : ML} {J J' J'' : MI} {M M' M'' : ML}
theorem bit_or : ∀ k, k < 32 → ∀ s, s < 5 → Int32.ofNat k ||| ((1 : Int32) <<< (Int32.ofNat s &&& 31)) = Int32.ofNat (k ||| 2 ^ s) ∧ (k ||| 2 ^ s) < 32 ∧ (∀ i, i < 5 → (k ||| 2 ^ s).testBit i = (decide (i = s) || k.testBit i)) ∧ ((decide (((Int32.ofNat k >>> (Int32.ofNat s &&& 31)) &&& 1) = 1)) = k.testBit s) := by decide +kernel
theorem CdB.f (ht : t = 2 ∨ t = 28) (h : CFf t b s I I') {i : Nat} {c0 : List Int32} {b' : Nat} (hi : i ≠ s) (hb : b ≤ b') (g : CdB I t b i c0) : CdB I' t b' i c0 := by
  obtain ⟨st, g1, g2, g3, g4⟩ := g
  exact ⟨st, by rw [(h.2.2.2.2 i hi).1]; exact g1, by rw [(h.2.2.2.2 i hi).2]; exact g2, by omega, fun j hj => by rw [h.2.2.2.1 (st + j) (by omega)]; exact g4 j hj⟩
theorem CdA.f (h : RFf s J J') {i : Nat} {c0 : List Int32} (hi : i ≠ s) (hl : c0.length ≤ 320) (g : CdA c0 i J) : CdA c0 i J' := by
  refine ⟨by rw [h.2.2.1 i hi]; exact g.1, fun j hj => ?_⟩
  have hr : 320 * i + j < 320 * s ∨ 320 * s + 320 ≤ 320 * i + j := by omega
  rw [(h.2.2.2 _ hr).1, (h.2.2.2 _ hr).2]
  exact g.2 j hj
theorem CdB.n (h15 : I (t + 15) s = Int32.ofNat b) (hb : b ≤ 640) (g : Cd I t s c) : CdB I t (b + c.length) s c := by
  obtain ⟨st, g1, g2, g3, g4⟩ := g
  have e : st = b := by
    rw [h15, q_eq (by omega) (by omega)] at g1
    exact g1.symm
  subst e
  exact ⟨st, g1, g2, Nat.le_refl _, g4⟩
theorem CR.cap (h : CR T N t q U b I L) : b ≤ 600 := by
  have := h.1.1
  obtain ⟨-, -, k3, -, -, -, -, -, k9, k10, -⟩ := h
  omega
theorem CFf.g (ht : t = 2 ∨ t = 28) (h : CFf t b s I I') : GI t I I' := fun x h1 h2 h3 => h.1 x h1 h2 (by omega) (by omega) (by omega) (by omega)
theorem RFf.g (h : RFf s J J') : GJ J J' := ⟨fun x h1 h2 h3 h4 => h.1 x h1 (by omega) (by omega) (by omega) h3, fun j hj => h.2.1 j (by omega) (by omega) (by omega) (by omega) (by omega) (by omega) (by omega) (by omega) (by omega) (by omega) (by omega)⟩
theorem Gs.fm (ht : t = 2 ∨ t = 28) (h1 : CFf t b s I I') (h2 : CLm L L') (h3 : RFf s J J') (h4 : LFr M M') : Gs t I L J M I' L' J' M' := ⟨h1.g ht, fun x a _ => h2 x a, h3.g, fun x a _ => h4.1 x a⟩
/-- odds told -/
theorem LK.od (ht : t = 2 ∨ t = 28) (hs : s < 5) (hb : b ≤ 600 ∧ 1 ≤ b) (h : LK t b k C ws I L J M) (h1 : CFf t b s I I') (h2 : CLm L L') (hJ : J'' = wI J 102 51 (Int32.ofNat (k ||| 2 ^ s))) (h3 : RFf s J'' J') (h4 : LFr M M') (g1 : Cd I' t s c) (g2 : CdA c s J') (g3 : c.length ≤ 320) (g4 : wfd c 0 1) (g5 : I' (t + 15) s = Int32.ofNat b) : LK t (b + c.length) (k ||| 2 ^ s) (fun i => if i = s then c else C i) ws I' L' J' M' := by
  have hI : ∀ x, t ≤ x → x ≤ t + 12 → I' x = I x := fun x a e => h1.1 x (by omega) (by omega) (by omega) (by omega) (by omega) (by omega)
  have eD : OD t I' = OD t I := OD_c hI
  have hJx : ∀ x, 113 ≤ x → x ≤ 124 → J' x = J x := fun x a e => by rw [h3.1 x (by omega) (by omega) (by omega) (by omega) (by omega), hJ, wI_c (by omega)]
  have hJ2 : ∀ j, 49 ≤ j → j ≠ 51 → J' 102 j = J 102 j := fun j a e => by rw [h3.2.1 j (by omega) (by omega) (by omega) (by omega) (by omega) (by omega) (by omega) (by omega) (by omega) (by omega) (by omega), hJ, wI_ne (by omega)]
  obtain ⟨⟨⟨o1, o2, o3, o4, o5, o6, o7, o8⟩, k1', k1''⟩, k2, k3, k4, k5, k6, k7, k8, k9⟩ := h
  obtain ⟨q1, q2, q3, -⟩ := bit_or k k5.1 s hs
  have hA : ∀ {c0 i}, i ≠ s → c0.length ≤ 320 → CdA c0 i J → CdA c0 i J' := fun hi hl g => CdA.f h3 hi hl (g.c (by rw [hJ, wI_c (by omega)]) (by rw [hJ, wI_c (by omega)]) (by rw [hJ, wI_c (by omega)]))
  have hN : ∀ {a off n w}, (24 ≤ a ∧ a ≤ 26) → Nm a off n w L M → Nm a off n w L' M' := fun ha g => ⟨fun i hi => by rw [h2 _ (by omega), h4.1 112 (by omega)]; exact g.1 i hi, g.2⟩
  rw [LK, eD]
  refine ⟨⟨⟨o1, o2, o3, o4, o5, o6, fun i hi => ?_, fun r hr => by simp only [if_neg (show ¬ 5 + r = s by omega)]; exact o8 r hr⟩, k1', by rw [hI t (by omega) (by omega)]; exact k1''⟩, ?_, fun a ha => ?_, fun a ha => ?_, ⟨q2, ?_⟩, fun i hi => ?_, fun r hr => ?_, ⟨hN (by omega) k8.1, hN (by omega) k8.2.1, hN (by omega) k8.2.2⟩, ?_⟩
  · by_cases e : i = s
    · simp only [if_pos e]; exact g4
    · simp only [if_neg e]; exact o7 i hi
  · rw [hJ2 49 (by omega) (by omega), hJ2 50 (by omega) (by omega), hJ2 52 (by omega) (by omega), hJ2 53 (by omega) (by omega), hJ2 54 (by omega) (by omega), hJ2 55 (by omega) (by omega), hJ2 64 (by omega) (by omega), hI t (by omega) (by omega)]; exact k2
  · rw [hJx 115 (by omega) (by omega), hJx 116 (by omega) (by omega), hJx 113 (by omega) (by omega), hJx 114 (by omega) (by omega), hJx 124 (by omega) (by omega), hJx 117 (by omega) (by omega), hI (t + 1) (by omega) (by omega), hI (t + 2) (by omega) (by omega), hI (t + 3) (by omega) (by omega), hI (t + 4) (by omega) (by omega), hI (t + 5) (by omega) (by omega), hI (t + 6) (by omega) (by omega)]; exact k3 a ha
  · rw [hJx 118 (by omega) (by omega), hJx 119 (by omega) (by omega), hJx 120 (by omega) (by omega), hJx 121 (by omega) (by omega), hJx 122 (by omega) (by omega), hJx 123 (by omega) (by omega), hI (t + 7) (by omega) (by omega), hI (t + 8) (by omega) (by omega), hI (t + 9) (by omega) (by omega), hI (t + 10) (by omega) (by omega), hI (t + 11) (by omega) (by omega), hI (t + 12) (by omega) (by omega)]; exact k4 a ha
  · rw [h3.2.1 51 (by omega) (by omega) (by omega) (by omega) (by omega) (by omega) (by omega) (by omega) (by omega) (by omega) (by omega), hJ, wI_at]
  · by_cases e : i = s
    · subst e
      rw [if_pos rfl]
      refine ⟨CdB.n g5 (by omega) g1, Or.inl ⟨by rw [q3 i hi]; simp, g2, g3, ?_⟩⟩
      rw [g5, show (0 : Int32) = Int32.ofNat 0 from rfl, q_lt (by omega) (by omega)]; omega
    · rw [if_neg e]
      refine ⟨(k6 i hi).1.f ht h1 e (by omega), ?_⟩
      rw [(h1.2.2.2.2 i e).1, show (k ||| 2 ^ s).testBit i = k.testBit i by rw [q3 i hi]; simp [e]]
      rcases (k6 i hi).2 with ⟨m1, m2, m3, m4⟩ | m
      · exact Or.inl ⟨m1, hA e m3 m2, m3, m4⟩
      · exact Or.inr m
  · rw [if_neg (by omega)]
    obtain ⟨m1, m2, m3⟩ := k7 r hr
    exact ⟨m1.f ht h1 (by omega) (by omega), hA (by omega) m3 m2, m3⟩
  · rw [hJ2 62 (by omega) (by omega), hJ2 63 (by omega) (by omega), h1.2.1 5 (by omega) (by omega) (by omega), h1.2.1 6 (by omega) (by omega) (by omega)]; exact k9
/-- the kind of a try by its word -/
def kdw (s : Nat) : Int32 := if s = 3 then 0 else if s = 4 then 1 else if s = 5 then 2 else if s = 6 then 3 else if s = 7 then 4 else -1
theorem P_odds (ht : t = 2 ∨ t = 28) (hC : CR T N t q U b I L) (hR : RR T N q U J M) (hK : LK t b k C ws I L J M) (hW : 1 ≤ nW (OD t I)) (hs2 : tks T N q = 2) : LO T N t q I L J M (x5_oddsLine t I L) (x11_readOdds J M) := by
  obtain ⟨I1, L1, a1, a2, a3, a4⟩ := hC.nx ht (by omega)
  obtain ⟨J1, M1, b1', b2', b3', b4'⟩ := hR.nx (by omega)
  have hq := tkn_lt (T := T) hC.2.2.1 (by omega : tks T N q ≠ 28)
  have hK1 := hK.st ht a3 a4 b3' b4'
  have hg : Gs t I L J M I1 L1 J1 M1 := Gs.st a3 a4 b3' b4'
  have hW1 : 1 ≤ nW (OD t I1) := by rw [OD_c (fun x _ _ => a3 x (by omega))]; exact hW
  generalize tkn T N q = p at *
  have hB := b2'.1.2.2 p
  have hsl := tks_lt (T := T) (N := N) (q := p) hB
  have h4 : I1 21 4 = Int32.ofNat (tks T N p) := a2.2.2.2.1.2.2.1
  have w0 := r_isW hB b2'.2.1 (i := 3) (v := 1718773093) (by omega) (kw_e 3 (by omega)).symm
  have w1 := r_isW hB b2'.2.1 (i := 4) (v := 495873780843) (by omega) (kw_e 4 (by omega)).symm
  have w2 := r_isW hB b2'.2.1 (i := 5) (v := 2002873452) (by omega) (kw_e 5 (by omega)).symm
  have w3 := r_isW hB b2'.2.1 (i := 6) (v := 113741193899620) (by omega) (kw_e 6 (by omega)).symm
  have w4 := r_isW hB b2'.2.1 (i := 7) (v := 1818583406) (by omega) (kw_e 7 (by omega)).symm
  have hkd : (b1 (x11_isWord (1718773093 : Int64) J1 M1) fun r3 => b1 (if r3 = 0 then (b1 (x11_isWord (495873780843 : Int64) J1 M1) fun r5 => if r5 = 0 then (b1 (x11_isWord (2002873452 : Int64) J1 M1) fun r6 => if r6 = 0 then (b1 (x11_isWord (113741193899620 : Int64) J1 M1) fun r7 => if r7 = 0 then (b1 (x11_isWord (1818583406 : Int64) J1 M1) fun r8 => if r8 = 0 then some (-1 : Int32) else some (4 : Int32)) else some (3 : Int32)) else some (2 : Int32)) else some (1 : Int32)) else some (0 : Int32)) some) = some (kdw (tks T N p)) := by
    rw [w0, q_b1, w1, q_b1, w2, q_b1, w3, q_b1, w4, q_b1, kdw]
    by_cases e3 : tks T N p = 3
    · rw [if_pos e3, if_neg (by decide), if_pos e3]; rfl
    rw [if_neg e3, if_pos rfl, if_neg e3]
    by_cases e4 : tks T N p = 4
    · rw [if_pos e4, if_neg (by decide), if_pos e4]; rfl
    rw [if_neg e4, if_pos rfl, if_neg e4]
    by_cases e5 : tks T N p = 5
    · rw [if_pos e5, if_neg (by decide), if_pos e5]; rfl
    rw [if_neg e5, if_pos rfl, if_neg e5]
    by_cases e6 : tks T N p = 6
    · rw [if_pos e6, if_neg (by decide), if_pos e6]; rfl
    rw [if_neg e6, if_pos rfl, if_neg e6]
    by_cases e7 : tks T N p = 7
    · rw [if_pos e7, if_neg (by decide), if_pos e7]; rfl
    rw [if_neg e7, if_pos rfl, if_neg e7]; rfl
  have hro : x11_readOdds J M = b1 (some (kdw (tks T N p))) fun v9 => b1 (if v9 < 0 then (b1 (x11_wrong (2 : Int32) J1) fun I11 => some I11) else if (((J1 102 51) >>> (v9 &&& 31)) &&& 1) = 1 then (b1 (x11_wrong (2 : Int32) J1) fun I12 => some I12) else some J1) fun e10 => if 0 < (e10 102 2) then some (e10, M1) else lt (wI e10 102 51 ((e10 102 51) ||| ((1 : Int32) <<< (v9 &&& 31)))) fun I13 => b2 (x11_token I13 M1) fun I14 L15 => b2 (x11_formula v9 I14 L15) fun I16 L17 => some (I16, L17) := by
    rw [← hkd, x11_readOdds, b1', q_b2, w0, q_b1, q_b1]
    generalize (if (if tks T N p = 3 then (1 : Int32) else 0) = 0 then _ else some (0 : Int32)) = X
    cases X <;> rfl
  obtain ⟨If, Jf, f1, f2, f3, f4, f5⟩ := both_fail a2 b2' (k := 2) (by simp)
  have bad : ∀ {o : Option (Int32 × MI × ML)}, o = some (0, If, L1) → x11_readOdds J M = some (Jf, M1) → LO T N t q I L J M o (x11_readOdds J M) := fun h1 h2 => by
    rw [h2]; exact Or.inr ⟨If, L1, Jf, M1, h1, rfl, f3, hg.trans (Gs.fl f4 f5)⟩
  by_cases hin : 3 ≤ tks T N p ∧ tks T N p < 8
  · obtain ⟨s, hs, es⟩ : ∃ s, s < 5 ∧ tks T N p = s + 3 := ⟨tks T N p - 3, by omega, by omega⟩
    have ekd : kdw (tks T N p) = Int32.ofNat s := by
      have hh : s = 0 ∨ s = 1 ∨ s = 2 ∨ s = 3 ∨ s = 4 := by omega
      rw [es]
      rcases hh with e | e | e | e | e <;> rw [e] <;> rfl
    have ev3 : I1 21 4 - 3 = Int32.ofNat s := by rw [h4, es, q_subn (by show 3 ≤ _; omega)]; rfl
    obtain ⟨m1, m2⟩ := hK1.2.2.2.2.2.1 s hs
    have hk51 := hK1.2.2.2.2.1
    obtain ⟨q1, q2, q3, q4⟩ := bit_or k hk51.1 s hs
    have hto : x0_isTold t (Int32.ofNat s) I1 = some (if 0 < I1 (t + 15) s then 1 else 0) := by
      rw [x0_isTold, if_neg (by rw [q_neg (by omega)]; exact id), if_pos (by rw [q_ltn (by omega) (by omega)]; show s < 11; omega), q_in (by omega) (by omega), q_ck, show ix (Int32.ofNat s) = s from q_ix (by omega)]
      split <;> rfl
    have hbt : (((J1 102 51) >>> (Int32.ofNat s &&& 31)) &&& 1 = 1) ↔ k.testBit s = true := by
      rw [hk51.2, ← q4]; simp
    have hcl : ∀ o, (if (if 0 < I1 (t + 15) s then (1 : Int32) else 0) = 0 then (b2 (x3_next I1 L1) fun I11 L12 => b3 (x5_formula t (Int32.ofNat s) I11 L12) fun r13 I14 L15 => ck (r13 = 0 ∨ r13 = 1) (some (r13, I14, L15))) else b2 (x5_fail (2 : Int32) I1) fun r17 I18 => ck (r17 = 0 ∨ r17 = 1) (some (r17, I18, L1))) = o → x5_oddsLine t I L = o := by
      intro o ho
      rw [x5_oddsLine, a1, q_b2, ev3, q_l, if_neg (by rw [q_neg (by omega)]; exact id), if_pos (by rw [q_ltn (by omega) (by omega)]; exact hs), hto, q_b1]
      exact ho
    by_cases htold : 0 < I1 (t + 15) s
    · have hbit : k.testBit s = true := by
        rcases m2 with m | m
        · exact m.1
        · exact absurd htold m.2.2
      refine bad (hcl _ ?_) ?_
      · rw [if_pos htold, if_neg (by decide), f1, q_b2, ck_pos (Or.inl rfl)]
      · rw [hro, q_b1, ekd, if_neg (by rw [q_neg (by omega)]; exact id), if_pos (hbt.mpr hbit), f2, q_b1, q_b1, if_pos f3.2.2]
    · have hbit : ¬ k.testBit s = true := by
        rcases m2 with m | m
        · exact absurd m.2.2.2 htold
        · rw [m.1]; decide
      obtain ⟨I2, L2, c1, c2, c3, c4⟩ := a2.nx ht (by omega)
      have hR51 := b2'.w (x := 102) (j := 51) (v := Int32.ofNat (k ||| 2 ^ s)) (by omega)
      obtain ⟨J2, M2, d1, d2, d3, d4⟩ := hR51.nx (by omega)
      have e51 : J1 102 51 ||| ((1 : Int32) <<< (Int32.ofNat s &&& 31)) = Int32.ofNat (k ||| 2 ^ s) := by rw [hk51.2]; exact q1
      have hq2 := tkn_lt (T := T) a2.2.2.1 (by omega : tks T N p ≠ 28)
      have hro2 : x11_readOdds J M = b2 (x11_formula (Int32.ofNat s) J2 M2) fun I16 L17 => some (I16, L17) := by
        rw [hro, q_b1, ekd, if_neg (by rw [q_neg (by omega)]; exact id), if_neg (fun g => hbit (hbt.mp g)), q_b1, b2'.2.2.2.1, if_neg (by decide), e51, q_l, d1, q_b2]
      have hcl2 : x5_oddsLine t I L = b3 (x5_formula t (Int32.ofNat s) I2 L2) fun r13 I14 L15 => ck (r13 = 0 ∨ r13 = 1) (some (r13, I14, L15)) := hcl _ (by rw [if_neg htold, if_pos rfl, c1, q_b2])
      have hg2 : Gs t I L J M I2 L2 J2 M2 := (hg.trans (Gs.wr (by omega))).trans (Gs.st c3 c4 d3 d4)
      rw [hro2, hcl2]
      rcases P_formula (s := s) ht (by omega) c2 d2 with ⟨I3, L3, J3, M3, q', U', c, x1, x2, x3, x4, x5, x6, x7, x8, x9, x10, x11, x12, x13, x14, x15⟩ | ⟨I3, L3, J3, M3, qf, x1, x2, x3, x4, x5, x6, x7, x8, x9⟩
      · have hK2 : LK t b k C ws I2 L2 J1 M2 := hK1.c ht (fun x _ _ _ => c3 x (by omega)) (by rw [c3 20 (by omega)]; exact ⟨rfl, rfl⟩) (fun _ _ => rfl) (fun _ _ _ => rfl) (fun x _ _ => c4 x (by omega)) (d4.1 112 (by omega))
        have hRF : RFf s (wI J1 102 51 (Int32.ofNat (k ||| 2 ^ s))) J3 := ⟨fun x a e f g i => (x7.1 x a e f g i).trans (d3.1 x a), fun j a1 a2 a3 a4 a5 a6 a7 a8 a9 a10 a11 => (x7.2.1 j a1 a2 a3 a4 a5 a6 a7 a8 a9 a10 a11).trans (d3.2 j a3 a4 a5 a6), fun i hi => (x7.2.2.1 i hi).trans (by rw [d3.1 106 (by omega)]), fun i hi => ⟨(x7.2.2.2 i hi).1.trans (by rw [d3.1 104 (by omega)]), (x7.2.2.2 i hi).2.trans (by rw [d3.1 105 (by omega)])⟩⟩
        refine Or.inl ⟨I3, L3, J3, M3, q', U', b + c.length, k ||| 2 ^ s, _, ws, ?_, ?_, by omega, x2, x6, hK2.od ht hs ⟨c2.cap, c2.2.2.2.2.2.2.2.2.2.2⟩ x3 x4 rfl hRF x8 x10 x11 x12 x13 x14, ?_, hg2.trans (Gs.fm ht x3 x4 x7 x8)⟩
        · rw [x1, q_b3, ck_pos (Or.inr rfl)]
        · rw [x5, q_b2]
        · rw [OD_c (fun x h1 h2 => (x3.1 x (by omega) (by omega) (by omega) (by omega) (by omega) (by omega)).trans (c3 x (by omega)))]; exact hW1
      · refine Or.inr ⟨I3, L3, J3, M3, ?_, ?_, ⟨by rw [x4.1, x7.1], by rw [x4.2, x7.2], by rw [x7.1]; exact (fkd_c 2 (by simp)).1⟩, hg2.trans (Gs.fm ht x5 x6 x8 x9)⟩
        · rw [x1, q_b3, ck_pos (Or.inl rfl)]
        · rw [x2, q_b2]
  · have ekd : kdw (tks T N p) = -1 := by rw [kdw, if_neg (by omega), if_neg (by omega), if_neg (by omega), if_neg (by omega), if_neg (by omega)]
    refine bad ?_ ?_
    · rw [x5_oddsLine, a1, q_b2, h4, q_l]
      by_cases e : tks T N p < 3
      · have hh : tks T N p = 0 ∨ tks T N p = 1 ∨ tks T N p = 2 := by omega
        have hneg : Int32.ofNat (tks T N p) - 3 < 0 := by rcases hh with e | e | e <;> rw [e] <;> decide
        rw [if_pos hneg, f1, q_b2, ck_pos (Or.inl rfl)]
      · rw [q_subn (by show 3 ≤ _; omega), if_neg (by rw [q_neg (by omega)]; exact id), if_neg (by rw [q_ltn (by omega) (by omega)]; show ¬ tks T N p - 3 < 5; omega), f1, q_b2, ck_pos (Or.inl rfl)]
    · rw [hro, q_b1, ekd, if_pos (by decide), f2, q_b1, q_b1, if_pos f3.2.2]
end LNX
