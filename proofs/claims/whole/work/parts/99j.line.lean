/-! THE TEXT: lines: bite, tub -/
section LNX
variable {T : Nat → Nat} {N t b q U k : Nat} {C : TC} {D D' : TD} {ws : Nat → Nat → List Nat} {I I' I'' : MI} {L L' L'' : ML} {J J' J'' : MI} {M M' M'' : ML}
theorem P_bite (ht : t = 2 ∨ t = 28) (hC : CR T N t q U b I L) (hR : RR T N q U J M) (hK : LK t b k C ws I L J M) (hW : 1 ≤ nW (OD t I)) : LO T N t q I L J M (x5_biteLine t I L) (rbite J M) := by
  have hf := hK.2.2.2.2.2.2.2.2.2
  by_cases e : I 20 6 = 0
  · have hC1 := hC.w ht (x := 20) (j := 6) (v := 1) (by omega)
    have hR1 := hR.w (x := 102) (j := 63) (v := 1) (by omega)
    have hg : Gs t I L J M (wI I 20 6 1) L (wI J 102 63 1) M := (Gs.wc (by omega)).trans (Gs.wr (by omega))
    rcases P_nb ht hC1 hR1 (i := 19) (by omega) (kw_e 19 (by omega)).symm (lo := 0) (hi' := 9) (by omega) (by omega) with ⟨n, q', I2, L2, J2, M2, a1, a2, a3, a4, a5, a6, a7, a8, a9, a10, a11⟩ | ⟨I2, L2, J2, M2, r, a1, a2, a3, a4⟩
    · have e2 : wI I2 t 3 (Int32.ofNat n) t 3 = Int32.ofNat n := wI_at
      refine Or.inl ⟨wI I2 t 3 (Int32.ofNat n), L2, wI J2 102 64 (Int32.ofNat n), M2, q', U, b, k, C, ws, ?_, ?_, a7, a5.w ht (by omega), a6.w (by omega), ?_, ?_, (hg.trans (Gs.st a8 a9 a10 a11)).trans ((Gs.wc (by omega)).trans (Gs.wr (by omega)))⟩
      · rw [x5_biteLine, if_pos e, q_l]
        rw [show x5_numberBehind 19 0 9 (wI I 20 6 1) L = some (Int32.ofNat n, I2, L2) from a1, q_b3, q_l, e2, if_neg (by rw [q_m1 (by omega)]; exact id)]
      · rw [rbite, hf, if_pos e, x11_readBite, q_l, show x11_told 1651078245 0 9 (wI J 102 63 1) M = some (Int32.ofNat n, J2, M2) from a2, q_b3, q_l, q_b2]
      · have g1 : ∀ x, x ≠ 20 → x ≠ 21 → x ≠ t → wI I2 t 3 (Int32.ofNat n) x = I x := fun x h1 h2 h3 => by rw [wI_c h3, a8 x h2, wI_c h1]
        have g2 : ∀ j, j ≠ 3 → wI I2 t 3 (Int32.ofNat n) t j = I t j := fun j h1 => by rw [wI_ne (by omega), a8 t (by omega), wI_c (by omega)]
        have g3 : ∀ j, j ≠ 6 → wI I2 t 3 (Int32.ofNat n) 20 j = I 20 j := fun j h1 => by rw [wI_c (by omega), a8 20 (by omega), wI_ne (by omega)]
        have g4 : ∀ x, x ≠ 102 → wI J2 102 64 (Int32.ofNat n) x = J x := fun x h1 => by rw [wI_c h1, a10.1 x h1, wI_c h1]
        have g5 : ∀ j, 21 ≤ j → j ≠ 64 → j ≠ 63 → wI J2 102 64 (Int32.ofNat n) 102 j = J 102 j := fun j h1 h2 h3 => by rw [wI_ne (by omega), a10.2 j (by omega) (by omega) (by omega) (by omega), wI_ne (by omega)]
        obtain ⟨z, z1, z2⟩ := hK.1.2.2
        refine hK.d ht (fun x h1 h2 _ => g1 x (by omega) (by omega) (by omega)) (fun j _ h1 => g2 j h1) ⟨z, z1, by rw [g2 2 (by omega)]; exact z2⟩ ⟨n, by omega, wI_at⟩ (fun x hx => g4 x (by omega)) (fun j h1 h2 => g5 j (by omega) (by omega) (by omega)) (by rw [g5 55 (by omega) (by omega) (by omega), g2 2 (by omega)]; exact hK.2.1.2.2.2.2.2.1) (by rw [wI_at, wI_at]) ⟨by rw [g5 62 (by omega) (by omega) (by omega), g3 5 (by omega)]; exact hK.2.2.2.2.2.2.2.2.1, ?_⟩ (fun x h1 h2 => a9 x (by omega)) (a11.1 112 (by omega))
        rw [wI_ne (by omega), a10.2 63 (by omega) (by omega) (by omega) (by omega), wI_at, wI_c (by omega), a8 20 (by omega), wI_at]
      · have e0 : OD t (wI I2 t 3 (Int32.ofNat n)) 0 0 = OD t I 0 0 := by
          show wI I2 t 3 (Int32.ofNat n) (t + 0) 0 = I (t + 0) 0
          rw [wI_ne (by omega), a8 (t + 0) (by omega), wI_c (by omega)]
        rw [nW, e0]; exact hW
    · refine Or.inr ⟨wI I2 t 3 (-1), L2, wI J2 102 64 r, M2, ?_, ?_, a3.w (by omega) (by omega), (hg.trans a4).trans ((Gs.wc (by omega)).trans (Gs.wr (by omega)))⟩
      · rw [x5_biteLine, if_pos e, q_l]
        rw [show x5_numberBehind 19 0 9 (wI I 20 6 1) L = some (-1, I2, L2) from a1, q_b3, q_l, wI_at, if_pos rfl]
      · rw [rbite, hf, if_pos e, x11_readBite, q_l, show x11_told 1651078245 0 9 (wI J 102 63 1) M = some (r, J2, M2) from a2, q_b3, q_l, q_b2]
  · obtain ⟨I', J', a1, a2, a3, a4, a5⟩ := both_fail hC hR (k := 2) (by simp)
    refine Or.inr ⟨I', L, J', M, ?_, ?_, a3, Gs.fl a4 a5⟩
    · rw [x5_biteLine, if_neg e, a1, q_b2, ck_pos (Or.inl rfl)]
    · rw [rbite, hf, if_neg e, a2, q_b1]
theorem OD0 {j : Nat} : OD t I 0 j = I t j := rfl
theorem OkD.tb (h : OkD D C) (h0 : nW D = 0) (hD : ∀ j a, ¬ (j = 0 ∧ (a = 0 ∨ a = 1)) → D' j a = D j a) {n m : Nat} (hn : n ≤ 6) (hm : m ≤ 6) (e0 : D' 0 0 = Int32.ofNat n) (e1 : D' 0 1 = Int32.ofNat m) : OkD D' C ∧ nA D' = 0 ∧ nB D' = 0 ∧ nR D' = nR D ∧ nW D' = n ∧ nH D' = m := by
  have eA : nA D' = nA D := by simp only [nA, hD 0 4 (by omega)]
  have eB : nB D' = nB D := by simp only [nB, hD 0 11 (by omega)]
  have eR : nR D' = nR D := by simp only [nR, hD 0 18 (by omega)]
  have eW : nW D' = n := by rw [nW, e0, q_ix (by omega)]
  have eH : nH D' = m := by rw [nH, e1, q_ix (by omega)]
  obtain ⟨⟨h1, h2⟩, ⟨h3, h4, h5⟩, h6, h7, h8, h9, h10, h11⟩ := h
  have zA : nA D = 0 := by
    by_cases e : nA D = 0
    · exact e
    · obtain ⟨⟨x, hx, -⟩, -⟩ := h6 0 (by omega)
      omega
  have zB : nB D = 0 := by
    by_cases e : nB D = 0
    · exact e
    · obtain ⟨⟨x, hx, -⟩, -⟩ := h8 0 (by omega)
      omega
  refine ⟨⟨⟨by rw [eW]; exact ⟨e0, hn⟩, by rw [eH]; exact ⟨e1, hm⟩⟩, ⟨by rw [eA, hD 0 4 (by omega)]; exact h3, by rw [eB, hD 0 11 (by omega)]; exact h4, by rw [eR, hD 0 18 (by omega)]; exact h5⟩, fun a ha => by omega, fun a c ha hc => by omega, fun b hb => by omega, by rw [hD 0 3 (by omega)]; exact h9, h10, fun r hr => h11 r (by omega)⟩, by omega, by omega, eR, eW, eH⟩
theorem LK.tb (ht : t = 2 ∨ t = 28) (h : LK t b k C ws I L J M) (hW : nW (OD t I) = 0) (h1 : ∀ x, t < x → x ≤ t + 16 → x ≠ t + 13 → I' x = I x) (h0 : ∀ j, j ≠ 0 → j ≠ 1 → I' t j = I t j) {n m : Nat} (hn : 1 ≤ n ∧ n ≤ 6) (hm : 1 ≤ m ∧ m ≤ 6) (e0 : I' t 0 = Int32.ofNat n) (e1 : I' t 1 = Int32.ofNat m) (h3 : ∀ x, (104 ≤ x ∧ x ≤ 106) ∨ (113 ≤ x ∧ x ≤ 124) → J' x = J x) (h4 : ∀ j, 51 ≤ j → j ≤ 64 → J' 102 j = J 102 j) (h49 : J' 102 49 = I' t 0) (h50 : J' 102 50 = I' t 1) (h20 : I' 20 5 = I 20 5 ∧ I' 20 6 = I 20 6) (h5 : ∀ x, 24 ≤ x → x ≤ 26 → L' x = L x) (h6 : M' 112 = M 112) : LK t b k C ws I' L' J' M' ∧ 1 ≤ nW (OD t I') := by
  have hD : ∀ j a, ¬ (j = 0 ∧ (a = 0 ∨ a = 1)) → OD t I' j a = OD t I j a := by
    intro j a hja
    simp only [OD]
    split
    · by_cases e : j = 0
      · subst e; exact h0 a (by omega) (by omega)
      · rw [h1 (t + j) (by omega) (by omega) (by omega)]
    · rfl
  obtain ⟨k1, k2, k3, k4, k5, k6, k7, k8, k9⟩ := h
  obtain ⟨o1, eA, eB, eR, eW, eH⟩ := k1.1.tb hW hD hn.2 hm.2 e0 e1
  have zA : nA (OD t I) = 0 := by
    rw [← eA]; simp only [nA, hD 0 4 (by omega)]
  have zB : nB (OD t I) = 0 := by
    rw [← eB]; simp only [nB, hD 0 11 (by omega)]
  have hA : ∀ {c s}, CdA c s J → CdA c s J' := fun g => g.c (h3 104 (by omega)) (h3 105 (by omega)) (h3 106 (by omega))
  have hB : ∀ {c s}, CdB I t b s c → CdB I' t b s c := fun ⟨st, g1, g2, g3, g4⟩ => ⟨st, by rw [h1 (t + 15) (by omega) (by omega) (by omega)]; exact g1, by rw [h1 (t + 16) (by omega) (by omega) (by omega)]; exact g2, g3, fun i hi => by rw [h1 (t + 14) (by omega) (by omega) (by omega)]; exact g4 i hi⟩
  have hN : ∀ {a off n w}, (24 ≤ a ∧ a ≤ 26) → Nm a off n w L M → Nm a off n w L' M' := fun ha g => ⟨fun i hi => by rw [h5 _ ha.1 ha.2, h6]; exact g.1 i hi, g.2⟩
  refine ⟨?_, by omega⟩
  rw [LK, eW, eH, eA, eB, eR]
  rw [zA, zB] at k8
  refine ⟨⟨o1, Or.inr ⟨hn.1, hm.1⟩, by rw [h0 2 (by omega) (by omega)]; exact k1.2.2⟩, ?_, fun a ha => by omega, fun a ha => by omega, ⟨k5.1, by rw [h4 51 (by omega) (by omega)]; exact k5.2⟩, fun s hs => ⟨hB (k6 s hs).1, ?_⟩, fun r hr => ⟨hB (k7 r hr).1, hA (k7 r hr).2.1, (k7 r hr).2.2⟩, ⟨hN (by omega) k8.1, hN (by omega) k8.2.1, hN (by omega) k8.2.2⟩, by rw [h4 62 (by omega) (by omega), h4 63 (by omega) (by omega), h20.1, h20.2]; exact k9⟩
  · rw [h49, h50, h4 52 (by omega) (by omega), h4 53 (by omega) (by omega), h4 54 (by omega) (by omega), h4 55 (by omega) (by omega), h4 64 (by omega) (by omega), h0 18 (by omega) (by omega), h0 4 (by omega) (by omega), h0 11 (by omega) (by omega), h0 2 (by omega) (by omega), h0 3 (by omega) (by omega)]
    exact ⟨rfl, rfl, k2.2.2⟩
  · rw [h1 (t + 15) (by omega) (by omega) (by omega)]
    rcases (k6 s hs).2 with ⟨g1, g2, g3⟩ | g
    · exact Or.inl ⟨g1, hA g2, g3⟩
    · exact Or.inr g
theorem P_tub (ht : t = 2 ∨ t = 28) (hC : CR T N t q U b I L) (hR : RR T N q U J M) (hK : LK t b k C ws I L J M) (hW : nW (OD t I) = 0) (hs : tks T N q = 0) : LO T N t q I L J M (x5_tubLine t I L) (x11_readTub J M) := by
  obtain ⟨I1, L1, a1, a2, a3, a4⟩ := hC.nx ht (by omega)
  obtain ⟨J1, M1, b1', b2', b3', b4'⟩ := hR.nx (by omega)
  have hq := tkn_lt (T := T) hC.2.2.1 (by omega : tks T N q ≠ 28)
  have ew := r_isW (hR.1.2.2 q) hR.2.1 (i := 0) (v := 7632226) (by omega) (kw_e 0 (by omega)).symm
  rw [if_pos hs] at ew
  have hwant : x11_want 7632226 J M = some (J1, M1) := by
    rw [x11_want, hR.2.2.2.1, if_neg (by decide), ew, q_b1, if_neg (by decide), b1', q_b2]
  rcases P_num ht a2 b2' (lo := 1) (hi := 6) (by omega) (by omega) with ⟨n, I2, L2, J2, M2, c1, c2, c3, c4, c5, c6, c7, c8, c9, c10, c11, -, -⟩ | ⟨I2, J2, r, c1, c2, c3, c4, c5⟩
  · have hC2 := c5.w ht (x := t) (j := 0) (v := Int32.ofNat n) (by omega)
    have hR2 := c6.w (x := 102) (j := 49) (v := Int32.ofNat n) (by omega)
    have hg : Gs t I L J M (wI I2 t 0 (Int32.ofNat n)) L2 (wI J2 102 49 (Int32.ofNat n)) M2 := ((Gs.st a3 a4 b3' b4').trans (Gs.st c8 c9 c10 c11)).trans ((Gs.wc (by omega)).trans (Gs.wr (by omega)))
    rcases P_nb ht hC2 hR2 (i := 1) (by omega) (kw_e 1 (by omega)).symm (lo := 1) (hi' := 6) (by omega) (by omega) with ⟨m, q', I3, L3, J3, M3, d1, d2, d3, d4, d5, d6, d7, d8, d9, d10, d11⟩ | ⟨I3, L3, J3, M3, r, d1, d2, d3, d4⟩
    · have f1 : ∀ x, x ≠ 21 → x ≠ t → wI I3 t 1 (Int32.ofNat m) x = I x := fun x h1 h2 => by rw [wI_c h2, d8 x h1, wI_c h2, c8 x h1, a3 x h1]
      have f2 : ∀ j, j ≠ 0 → j ≠ 1 → wI I3 t 1 (Int32.ofNat m) t j = I t j := fun j h1 h2 => by rw [wI_ne (by omega), d8 t (by omega), wI_ne (by omega), c8 t (by omega), a3 t (by omega)]
      have f3 : wI I3 t 1 (Int32.ofNat m) t 0 = Int32.ofNat n := by rw [wI_ne (by omega), d8 t (by omega), wI_at]
      have f4 : ∀ x, x ≠ 102 → wI J3 102 50 (Int32.ofNat m) x = J x := fun x h1 => by rw [wI_c h1, d10.1 x h1, wI_c h1, c10.1 x h1, b3'.1 x h1]
      have f5 : ∀ j, 21 ≤ j → j ≠ 49 → j ≠ 50 → wI J3 102 50 (Int32.ofNat m) 102 j = J 102 j := fun j h1 h2 h3 => by rw [wI_ne (by omega), d10.2 j (by omega) (by omega) (by omega) (by omega), wI_ne (by omega), c10.2 j (by omega) (by omega) (by omega) (by omega), b3'.2 j (by omega) (by omega) (by omega) (by omega)]
      have f6 : wI J3 102 50 (Int32.ofNat m) 102 49 = Int32.ofNat n := by rw [wI_ne (by omega), d10.2 49 (by omega) (by omega) (by omega) (by omega), wI_at]
      obtain ⟨g1, g2⟩ := hK.tb ht hW (I' := wI I3 t 1 (Int32.ofNat m)) (J' := wI J3 102 50 (Int32.ofNat m)) (L' := L3) (M' := M3) (fun x h1 h2 _ => f1 x (by omega) (by omega)) f2 ⟨c3, c4⟩ ⟨d3, d4⟩ f3 wI_at (fun x hx => f4 x (by omega)) (fun j h1 h2 => f5 j (by omega) (by omega) (by omega)) (by rw [f6, f3]) (by rw [wI_at, wI_at]) (by rw [f1 20 (by omega) (by omega)]; exact ⟨rfl, rfl⟩) (fun x h1 h2 => by rw [d9 x (by omega), c9 x (by omega), a4 x (by omega)]) (by rw [d11.1 112 (by omega), c11.1 112 (by omega), b4'.1 112 (by omega)])
      refine Or.inl ⟨wI I3 t 1 (Int32.ofNat m), L3, wI J3 102 50 (Int32.ofNat m), M3, q', U, b, k, C, ws, ?_, ?_, by omega, d5.w ht (by omega), d6.w (by omega), g1, g2, (hg.trans (Gs.st d8 d9 d10 d11)).trans ((Gs.wc (by omega)).trans (Gs.wr (by omega)))⟩
      · rw [x5_tubLine, a1, q_b2, show x5_number 1 6 I1 L1 = some (Int32.ofNat n, I2, L2) from c1, q_b3, q_l, if_neg (by rw [q_m1 (by omega)]; exact id), q_l, show x5_numberBehind 1 1 6 (wI I2 t 0 (Int32.ofNat n)) L2 = some (Int32.ofNat m, I3, L3) from d1, q_b3, q_l, wI_at, if_neg (by rw [q_m1 (by omega)]; exact id)]
      · rw [x11_readTub, x11_told, hwant, q_b2, show x11_toldNumber 1 6 J1 M1 = some (Int32.ofNat n, J2, M2) from c2, q_b3, q_b3, q_l, show x11_told 25209 1 6 (wI J2 102 49 (Int32.ofNat n)) M2 = some (Int32.ofNat m, J3, M3) from d2, q_b3, q_l]
    · refine Or.inr ⟨wI I3 t 1 (-1), L3, wI J3 102 50 r, M3, ?_, ?_, d3.w (by omega) (by omega), (hg.trans d4).trans ((Gs.wc (by omega)).trans (Gs.wr (by omega)))⟩
      · rw [x5_tubLine, a1, q_b2, show x5_number 1 6 I1 L1 = some (Int32.ofNat n, I2, L2) from c1, q_b3, q_l, if_neg (by rw [q_m1 (by omega)]; exact id), q_l, show x5_numberBehind 1 1 6 (wI I2 t 0 (Int32.ofNat n)) L2 = some (-1, I3, L3) from d1, q_b3, q_l, wI_at, if_pos rfl]
      · rw [x11_readTub, x11_told, hwant, q_b2, show x11_toldNumber 1 6 J1 M1 = some (Int32.ofNat n, J2, M2) from c2, q_b3, q_b3, q_l, show x11_told 25209 1 6 (wI J2 102 49 (Int32.ofNat n)) M2 = some (r, J3, M3) from d2, q_b3, q_l]
  · have hf : FBt I2 (wI J2 102 49 r) := by rw [FBt, wI_ne (by omega), wI_ne (by omega)]; exact c3
    have hf2 : FBt I2 (wI (wI J2 102 49 r) 102 50 0) := by rw [FBt, wI_ne (by omega), wI_ne (by omega)]; exact hf
    refine Or.inr ⟨I2, L1, wI (wI J2 102 49 r) 102 50 0, M1, ?_, ?_, hf2, ((Gs.st a3 a4 b3' b4').trans (Gs.fl c4 c5)).trans ((Gs.wr (by omega)).trans (Gs.wr (by omega)))⟩
    · rw [x5_tubLine, a1, q_b2, show x5_number 1 6 I1 L1 = some (-1, I2, L1) from c1, q_b3, q_l, if_pos rfl]
    · rw [x11_readTub, x11_told, hwant, q_b2, show x11_toldNumber 1 6 J1 M1 = some (r, J2, M1) from c2, q_b3, q_b3, q_l, x11_told, x11_want, if_pos hf.2.2, q_b2, x11_toldNumber, if_pos hf.2.2, q_b3, q_b3, q_l]
end LNX
