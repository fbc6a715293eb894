/-! THE TEXT: lines: draw, bite -/
section LNX
variable {T : Nat → Nat} {N t b q U k : Nat} {C : TC} {D D' : TD} {ws : Nat → Nat → List Nat} {I I' I'' : MI} {L L' L'' : ML} {J J' J'' : MI} {M M' M'' : ML}
theorem OkD.d3 (h : OkD D C) (hD : ∀ j a, ¬ (j = 0 ∧ (a = 2 ∨ a = 3)) → D' j a = D j a) (z3 : ∃ z, z ≤ 10 ∧ D' 0 3 = Int32.ofNat z) : OkD D' C := by
  have eW : nW D' = nW D := by simp only [nW, hD 0 0 (by omega)]
  have eH : nH D' = nH D := by simp only [nH, hD 0 1 (by omega)]
  have eA : nA D' = nA D := by simp only [nA, hD 0 4 (by omega)]
  have eB : nB D' = nB D := by simp only [nB, hD 0 11 (by omega)]
  have eR : nR D' = nR D := by simp only [nR, hD 0 18 (by omega)]
  obtain ⟨⟨h1, h2⟩, ⟨h3, h4, h5⟩, h6, h7, h8, h9, h10, h11⟩ := h
  refine ⟨⟨by rw [eW, hD 0 0 (by omega)]; exact h1, by rw [eH, hD 0 1 (by omega)]; exact h2⟩, ⟨by rw [eA, hD 0 4 (by omega)]; exact h3, by rw [eB, hD 0 11 (by omega)]; exact h4, by rw [eR, hD 0 18 (by omega)]; exact h5⟩, fun a ha => ?_, fun a c ha hc => ?_, fun b hb => ?_, z3, h10, fun r hr => h11 r (by rw [← eR]; exact hr)⟩
  · rw [eW, eH, hD 1 a (by omega), hD 2 a (by omega), hD 3 a (by omega), hD 4 a (by omega), hD 5 a (by omega), hD 6 a (by omega)]
    exact h6 a (by rw [← eA]; exact ha)
  · rw [hD 1 a (by omega), hD 2 a (by omega), hD 1 c (by omega), hD 2 c (by omega)]
    exact h7 a c (by rw [← eA]; exact ha) (by rw [← eA]; exact hc)
  · rw [eW, eH, eR, hD 7 b (by omega), hD 8 b (by omega), hD 9 b (by omega), hD 10 b (by omega), hD 11 b (by omega), hD 12 b (by omega)]
    exact h8 b (by rw [← eB]; exact hb)
theorem LK.d (ht : t = 2 ∨ t = 28) (h : LK t b k C ws I L J M) (h1 : ∀ x, t < x → x ≤ t + 16 → x ≠ t + 13 → I' x = I x) (h0 : ∀ j, j ≠ 2 → j ≠ 3 → I' t j = I t j) (z2 : ∃ z, z ≤ 999 ∧ I' t 2 = Int32.ofNat z) (z3 : ∃ z, z ≤ 10 ∧ I' t 3 = Int32.ofNat z) (h3 : ∀ x, (104 ≤ x ∧ x ≤ 106) ∨ (113 ≤ x ∧ x ≤ 124) → J' x = J x) (h4 : ∀ j, 49 ≤ j → j ≤ 54 → J' 102 j = J 102 j) (h55 : J' 102 55 = I' t 2) (h64 : J' 102 64 = I' t 3) (h62 : J' 102 62 = I' 20 5 ∧ J' 102 63 = I' 20 6) (h5 : ∀ x, 24 ≤ x → x ≤ 26 → L' x = L x) (h6 : M' 112 = M 112) : LK t b k C ws I' L' J' M' := by
  have hD : ∀ j a, ¬ (j = 0 ∧ (a = 2 ∨ a = 3)) → OD t I' j a = OD t I j a := by
    intro j a hja
    simp only [OD]
    split
    · by_cases e : j = 0
      · subst e; exact h0 a (by omega) (by omega)
      · rw [h1 (t + j) (by omega) (by omega) (by omega)]
    · rfl
  have eW : nW (OD t I') = nW (OD t I) := by simp only [nW, hD 0 0 (by omega)]
  have eH : nH (OD t I') = nH (OD t I) := by simp only [nH, hD 0 1 (by omega)]
  have eA : nA (OD t I') = nA (OD t I) := by simp only [nA, hD 0 4 (by omega)]
  have eB : nB (OD t I') = nB (OD t I) := by simp only [nB, hD 0 11 (by omega)]
  have eR : nR (OD t I') = nR (OD t I) := by simp only [nR, hD 0 18 (by omega)]
  obtain ⟨k1, k2, k3, k4, k5, k6, k7, k8, k9⟩ := h
  have hA : ∀ {c s}, CdA c s J → CdA c s J' := fun g => g.c (h3 104 (by omega)) (h3 105 (by omega)) (h3 106 (by omega))
  have hB : ∀ {c s}, CdB I t b s c → CdB I' t b s c := fun ⟨st, g1, g2, g3, g4⟩ => ⟨st, by rw [h1 (t + 15) (by omega) (by omega) (by omega)]; exact g1, by rw [h1 (t + 16) (by omega) (by omega) (by omega)]; exact g2, g3, fun i hi => by rw [h1 (t + 14) (by omega) (by omega) (by omega)]; exact g4 i hi⟩
  have hN : ∀ {a off n w}, (24 ≤ a ∧ a ≤ 26) → Nm a off n w L M → Nm a off n w L' M' := fun ha g => ⟨fun i hi => by rw [h5 _ ha.1 ha.2, h6]; exact g.1 i hi, g.2⟩
  rw [LK, eW, eH, eA, eB, eR]
  refine ⟨⟨k1.1.d3 hD z3, k1.2.1, z2⟩, ?_, fun a ha => ?_, fun a ha => ?_, ⟨k5.1, by rw [h4 51 (by omega) (by omega)]; exact k5.2⟩, fun s hs => ⟨hB (k6 s hs).1, ?_⟩, fun r hr => ⟨hB (k7 r hr).1, hA (k7 r hr).2.1, (k7 r hr).2.2⟩, ⟨hN (by omega) k8.1, hN (by omega) k8.2.1, hN (by omega) k8.2.2⟩, h62⟩
  · rw [h4 49 (by omega) (by omega), h4 50 (by omega) (by omega), h4 52 (by omega) (by omega), h4 53 (by omega) (by omega), h4 54 (by omega) (by omega), h0 0 (by omega) (by omega), h0 1 (by omega) (by omega), h0 4 (by omega) (by omega), h0 11 (by omega) (by omega), h0 18 (by omega) (by omega)]
    exact ⟨k2.1, k2.2.1, k2.2.2.1, k2.2.2.2.1, k2.2.2.2.2.1, h55, h64⟩
  · rw [h3 115 (by omega), h3 116 (by omega), h3 113 (by omega), h3 114 (by omega), h3 124 (by omega), h3 117 (by omega), h1 (t + 1) (by omega) (by omega) (by omega), h1 (t + 2) (by omega) (by omega) (by omega), h1 (t + 3) (by omega) (by omega) (by omega), h1 (t + 4) (by omega) (by omega) (by omega), h1 (t + 5) (by omega) (by omega) (by omega), h1 (t + 6) (by omega) (by omega) (by omega)]; exact k3 a ha
  · rw [h3 118 (by omega), h3 119 (by omega), h3 120 (by omega), h3 121 (by omega), h3 122 (by omega), h3 123 (by omega), h1 (t + 7) (by omega) (by omega) (by omega), h1 (t + 8) (by omega) (by omega) (by omega), h1 (t + 9) (by omega) (by omega) (by omega), h1 (t + 10) (by omega) (by omega) (by omega), h1 (t + 11) (by omega) (by omega) (by omega), h1 (t + 12) (by omega) (by omega) (by omega)]; exact k4 a ha
  · rw [h1 (t + 15) (by omega) (by omega) (by omega)]
    rcases (k6 s hs).2 with ⟨g1, g2, g3⟩ | g
    · exact Or.inl ⟨g1, hA g2, g3⟩
    · exact Or.inr g
theorem CR.w (ht : t = 2 ∨ t = 28) (h : CR T N t q U b I L) {x j : Nat} {v : Int32} (hx : (x = 20 ∧ j ≠ 8 ∧ j ≠ 9) ∨ (t ≤ x ∧ x ≤ t + 16 ∧ (x = t + 13 → j ≠ 4 ∧ j ≠ 5))) : CR T N t q U b (wI I x j v) L := by
  obtain ⟨k1, k2, k3, ⟨l1, l2, l3, l4, l5, l6⟩, k5, k6, k7, k8, k9⟩ := h
  have e21 : wI I x j v 21 = I 21 := wI_c (by omega)
  refine ⟨⟨k1.1, fun i hi => by rw [wI_c (by omega)]; exact k1.2.1 i hi, k1.2.2⟩, k2, k3, ⟨by rw [e21]; exact l1, by rw [e21]; exact l2, by rw [e21]; exact l3, fun g => by rw [e21]; exact l4 g, fun g => by rw [e21]; exact l5 g, l6⟩, by rw [wI_ne (by omega)]; exact k5, by rw [wI_ne (by omega)]; exact k6, ?_, ?_, k9⟩
  · rw [wI_ne (by rcases hx with hx | hx; omega; by_cases e : x = t + 13; exact Or.inr (fun g => (hx.2.2 e).2 g.symm); omega)]; exact k7
  · rw [wI_ne (by rcases hx with hx | hx; omega; by_cases e : x = t + 13; exact Or.inr (fun g => (hx.2.2 e).1 g.symm); omega)]; exact k8
theorem RR.w (h : RR T N q U J M) {x j : Nat} {v : Int32} (hx : (x = 102 ∧ 21 ≤ j) ∨ 104 ≤ x) : RR T N q U (wI J x j v) M := by
  obtain ⟨k1, ⟨l1, l2, l3, l4, l5, l6⟩, k3, k4, k5, k6⟩ := h
  have e : ∀ i, i < 21 → wI J x j v 102 i = J 102 i := fun i hi => wI_ne (by omega)
  exact ⟨⟨k1.1, fun i hi => by rw [wI_ne (by omega)]; exact k1.2.1 i hi, k1.2.2⟩, ⟨by rw [e 5 (by omega)]; exact l1, by rw [e 7 (by omega)]; exact l2, by rw [e 6 (by omega)]; exact l3, by rw [e 4 (by omega)]; exact l4, fun g => by rw [e 8 (by omega)]; exact l5 g, l6⟩, k3, by rw [e 2 (by omega)]; exact k4, by rw [e 3 (by omega)]; exact k5, by rw [e 20 (by omega)]; exact k6⟩
theorem FBt.w (h : FBt I J) {x j y i : Nat} {v w : Int32} (hx : x ≠ 20) (hy : y ≠ 102 ∨ 4 ≤ i) : FBt (wI I x j v) (wI J y i w) := by
  rw [FBt, wI_c (fun e => hx e.symm), wI_ne (by omega), wI_ne (by omega)]; exact h
/-- the reference takes or refuses a line -/
noncomputable def rdraw (J : MI) (M : ML) : Option (MI × ML) := if (J 102 62) = 0 then (b2 (x11_readDraw J M) fun a b => some (a, b)) else b1 (x11_wrong (2 : Int32) J) fun a => some (a, M)
noncomputable def rbite (J : MI) (M : ML) : Option (MI × ML) := if (J 102 63) = 0 then (b2 (x11_readBite J M) fun a b => some (a, b)) else b1 (x11_wrong (2 : Int32) J) fun a => some (a, M)
theorem P_draw (ht : t = 2 ∨ t = 28) (hC : CR T N t q U b I L) (hR : RR T N q U J M) (hK : LK t b k C ws I L J M) (hW : 1 ≤ nW (OD t I)) : LO T N t q I L J M (x5_drawLine t I L) (rdraw J M) := by
  have hf := hK.2.2.2.2.2.2.2.2.1
  by_cases e : I 20 5 = 0
  · have hC1 := hC.w ht (x := 20) (j := 5) (v := 1) (by omega)
    have hR1 := hR.w (x := 102) (j := 62) (v := 1) (by omega)
    have hg : Gs t I L J M (wI I 20 5 1) L (wI J 102 62 1) M := (Gs.wc (by omega)).trans (Gs.wr (by omega))
    rcases P_nb ht hC1 hR1 (i := 18) (by omega) (kw_e 18 (by omega)).symm (lo := 0) (hi' := 999) (by omega) (by omega) with ⟨n, q', I2, L2, J2, M2, a1, a2, a3, a4, a5, a6, a7, a8, a9, a10, a11⟩ | ⟨I2, L2, J2, M2, r, a1, a2, a3, a4⟩
    · have e2 : wI I2 t 2 (Int32.ofNat n) t 2 = Int32.ofNat n := wI_at
      refine Or.inl ⟨wI I2 t 2 (Int32.ofNat n), L2, wI J2 102 55 (Int32.ofNat n), M2, q', U, b, k, C, ws, ?_, ?_, a7, a5.w ht (by omega), a6.w (by omega), ?_, ?_, (hg.trans (Gs.st a8 a9 a10 a11)).trans ((Gs.wc (by omega)).trans (Gs.wr (by omega)))⟩
      · rw [x5_drawLine, if_pos e, q_l]
        rw [show x5_numberBehind 18 0 999 (wI I 20 5 1) L = some (Int32.ofNat n, I2, L2) from a1, q_b3, q_l, e2, if_neg (by rw [q_m1 (by omega)]; exact id)]
      · rw [rdraw, hf, if_pos e, x11_readDraw, q_l, show x11_told 1685217655 0 999 (wI J 102 62 1) M = some (Int32.ofNat n, J2, M2) from a2, q_b3, q_l, q_b2]
      · have g1 : ∀ x, x ≠ 20 → x ≠ 21 → x ≠ t → wI I2 t 2 (Int32.ofNat n) x = I x := fun x h1 h2 h3 => by rw [wI_c h3, a8 x h2, wI_c h1]
        have g2 : ∀ j, j ≠ 2 → wI I2 t 2 (Int32.ofNat n) t j = I t j := fun j h1 => by rw [wI_ne (by omega), a8 t (by omega), wI_c (by omega)]
        have g3 : ∀ j, j ≠ 5 → wI I2 t 2 (Int32.ofNat n) 20 j = I 20 j := fun j h1 => by rw [wI_c (by omega), a8 20 (by omega), wI_ne (by omega)]
        have g4 : ∀ x, x ≠ 102 → wI J2 102 55 (Int32.ofNat n) x = J x := fun x h1 => by rw [wI_c h1, a10.1 x h1, wI_c h1]
        have g5 : ∀ j, 21 ≤ j → j ≠ 55 → j ≠ 62 → wI J2 102 55 (Int32.ofNat n) 102 j = J 102 j := fun j h1 h2 h3 => by rw [wI_ne (by omega), a10.2 j (by omega) (by omega) (by omega) (by omega), wI_ne (by omega)]
        obtain ⟨z, z1, z2⟩ := hK.1.1.2.2.2.2.2.1
        refine hK.d ht (fun x h1 h2 _ => g1 x (by omega) (by omega) (by omega)) (fun j h1 _ => g2 j h1) ⟨n, a4, wI_at⟩ ⟨z, z1, by rw [g2 3 (by omega)]; exact z2⟩ (fun x hx => g4 x (by omega)) (fun j h1 h2 => g5 j (by omega) (by omega) (by omega)) (by rw [wI_at, wI_at]) (by rw [g5 64 (by omega) (by omega) (by omega), g2 3 (by omega)]; exact hK.2.1.2.2.2.2.2.2) ⟨?_, by rw [g5 63 (by omega) (by omega) (by omega), g3 6 (by omega)]; exact hK.2.2.2.2.2.2.2.2.2⟩ (fun x h1 h2 => a9 x (by omega)) (a11.1 112 (by omega))
        rw [wI_ne (by omega), a10.2 62 (by omega) (by omega) (by omega) (by omega), wI_at, wI_c (by omega), a8 20 (by omega), wI_at]
      · have e0 : OD t (wI I2 t 2 (Int32.ofNat n)) 0 0 = OD t I 0 0 := by
          show wI I2 t 2 (Int32.ofNat n) (t + 0) 0 = I (t + 0) 0
          rw [wI_ne (by omega), a8 (t + 0) (by omega), wI_c (by omega)]
        rw [nW, e0]; exact hW
    · refine Or.inr ⟨wI I2 t 2 (-1), L2, wI J2 102 55 r, M2, ?_, ?_, a3.w (by omega) (by omega), (hg.trans a4).trans ((Gs.wc (by omega)).trans (Gs.wr (by omega)))⟩
      · rw [x5_drawLine, if_pos e, q_l]
        rw [show x5_numberBehind 18 0 999 (wI I 20 5 1) L = some (-1, I2, L2) from a1, q_b3, q_l, wI_at, if_pos rfl]
      · rw [rdraw, hf, if_pos e, x11_readDraw, q_l, show x11_told 1685217655 0 999 (wI J 102 62 1) M = some (r, J2, M2) from a2, q_b3, q_l, q_b2]
  · obtain ⟨I', J', a1, a2, a3, a4, a5⟩ := both_fail hC hR (k := 2) (by simp)
    refine Or.inr ⟨I', L, J', M, ?_, ?_, a3, Gs.fl a4 a5⟩
    · rw [x5_drawLine, if_neg e, a1, q_b2, ck_pos (Or.inl rfl)]
    · rw [rdraw, hf, if_neg e, a2, q_b1]
end LNX
