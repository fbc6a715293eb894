/-! THE TEXT: lines: bobber, whole -/
section LNX
variable {T : Nat → Nat} {N t b q U k n r p m W H : Nat} {C : TC} {ws : Nat → Nat → List Nat} {w' : Nat → List Nat} {I I0 I' I'' : MI} {L L0 L' L'' : ML} {J J0 J' J'' : MI} {M M0 M' M'' : ML}
theorem P_bob3 (ht : t = 2 ∨ t = 28) (hK : LK t b k C ws I0 L0 J0 M0) (hW : 1 ≤ nW (OD t I0)) (hn : nB (OD t I0) = n) (hm : nR (OD t I0) = m) (hn4 : n < 4) (h54 : J0 102 54 = Int32.ofNat n) (hB : BX T N t b q U n w' I0 L0 J0 M0 p I L J M) {x y : Nat} (hx : x < nW (OD t I0)) (hy : y < nH (OD t I0)) (j118 : J 118 n = Int32.ofNat x) (j119 : J 119 n = Int32.ofNat y) : LO T N t q I0 L0 J0 M0 (cb3 t (Int32.ofNat n) (Int32.ofNat x) (Int32.ofNat y) I L) (b2 (bo3 J M) fun a b => some (a, b)) := by
  have hy9 : y < 100 := by
    have := hK.1.1.1.2.2
    omega
  have z : ∀ {J1}, RJ n J0 J1 → J1 102 54 = Int32.ofNat n := fun g => by rw [g.2.1 54 (by omega)]; exact h54
  have q1 := z hB.2.2.2.2.1
  rw [cb3, if_neg (by rw [q_m1 (by omega)]; exact id), bo3, q1]
  rcases P_nc ht hB.1 hB.2.1 (i := 15) (by omega) (kw_e 15 (by omega)).symm (lo := 0) (hi' := 5) (by omega) (by omega) with ⟨re, p1, I1, L1, J1, M1, a1, a2, a3, a4, a5, a6, a7, a8, a9, a10, a11⟩ | ⟨I1, L1, J1, M1, r, a1, a2, a3, a4, a5⟩
  · have a1' : x5_numberBehind 15 0 5 I L = some (Int32.ofNat re, I1, L1) := a1
    have a2' : x11_told 491327153000 0 5 J M = some (Int32.ofNat re, J1, M1) := a2
    have hB1 := (hB.st a7 a5 a6 a8 a9 a10 a11).w (x := 120) (v := Int32.ofNat re) (by omega)
    rw [a1', q_b3, q_b1, q_l, a2', q_b3, q_in (by omega) (by omega), q_ck, show ix (Int32.ofNat n) = n from q_ix (by omega), q_l]
    dsimp only
    rw [cb4, if_neg (by rw [q_m1 (by omega)]; exact id), bo4, z hB1.2.2.2.2.1]
    rcases P_nc ht hB1.1 hB1.2.1 (i := 16) (by omega) (kw_e 16 (by omega)).symm (lo := 0) (hi' := 20) (by omega) (by omega) with ⟨br, p2, I2, L2, J2, M2, c1, c2, c3, c4, c5, c6, c7, c8, c9, c10, c11⟩ | ⟨I2, L2, J2, M2, r, c1, c2, c3, c4, c5⟩
    · have c1' : x5_numberBehind 16 0 20 I1 L1 = some (Int32.ofNat br, I2, L2) := c1
      have c2' : x11_told 108243466679400 0 20 (wI J1 120 n (Int32.ofNat re)) M1 = some (Int32.ofNat br, J2, M2) := c2
      have hB2 := (hB1.st c7 c5 c6 c8 c9 c10 c11).w (x := 121) (v := Int32.ofNat br) (by omega)
      rw [c1', q_b3, q_b1, q_l, c2', q_b3, q_in (by omega) (by omega), q_ck, show ix (Int32.ofNat n) = n from q_ix (by omega), q_l]
      dsimp only
      rw [cb5, if_neg (by rw [q_m1 (by omega)]; exact id), bo5, z hB2.2.2.2.2.1]
      rcases P_nc ht hB2.1 hB2.2.1 (i := 17) (by omega) (kw_e 17 (by omega)).symm (lo := 0) (hi' := 9) (by omega) (by omega) with ⟨mo, p3, I3, L3, J3, M3, d1, d2, d3, d4, d5, d6, d7, d8, d9, d10, d11⟩ | ⟨I3, L3, J3, M3, r, d1, d2, d3, d4, d5⟩
      · have d1' : x5_numberBehind 17 0 9 I2 L2 = some (Int32.ofNat mo, I3, L3) := d1
        have d2' : x11_told 470021403752 0 9 (wI J2 121 n (Int32.ofNat br)) M2 = some (Int32.ofNat mo, J3, M3) := d2
        have hB3 := (hB2.st d7 d5 d6 d8 d9 d10 d11).w (x := 122) (v := Int32.ofNat mo) (by omega)
        rw [d1', q_b3, q_b1, q_l, d2', q_b3, q_in (by omega) (by omega), q_ck, show ix (Int32.ofNat n) = n from q_ix (by omega), q_l]
        dsimp only
        exact P_bobE ht hK hW hn hm hn4 hB3 hx hy a4 c4 d4 (by rw [wI_c (by omega), d10.1 118 (by omega), wI_c (by omega), c10.1 118 (by omega), wI_c (by omega), a10.1 118 (by omega)]; exact j118) (by rw [wI_c (by omega), d10.1 119 (by omega), wI_c (by omega), c10.1 119 (by omega), wI_c (by omega), a10.1 119 (by omega)]; exact j119) (by rw [wI_c (by omega), d10.1 120 (by omega), wI_c (by omega), c10.1 120 (by omega), wI_at]) (by rw [wI_c (by omega), d10.1 121 (by omega), wI_at]) wI_at
      · have d1' : x5_numberBehind 17 0 9 I2 L2 = some (-1, I3, L3) := d1
        have d2' : x11_told 470021403752 0 9 (wI J2 121 n (Int32.ofNat br)) M2 = some (r, J3, M3) := d2
        have e54 : wI J3 122 n r 102 54 = Int32.ofNat n := by rw [fl_w (by omega), d5 54 (by omega)]; exact z hB2.2.2.2.2.1
        obtain ⟨J4, g1, g2⟩ := fl_bo6 (M := M3) (J := wI J3 122 n r) (by rw [fl_w (by omega)]; exact d3.2.2) e54 hn4
        have hq : Q24 J3 J4 := (Q24.w (by omega)).trans g2
        rw [d1', q_b3, q_b1, q_l, d2', q_b3, q_in (by omega) (by omega), q_ck, show ix (Int32.ofNat n) = n from q_ix (by omega), q_l, g1, q_b2]
        dsimp only
        rw [cb6, if_pos rfl]
        exact Or.inr ⟨I3, L3, J4, M3, rfl, rfl, d3.q24 hq, (hB2.2.2.2.2.2.2.2.2.trans d4).trans hq.g⟩
    · have c1' : x5_numberBehind 16 0 20 I1 L1 = some (-1, I2, L2) := c1
      have c2' : x11_told 108243466679400 0 20 (wI J1 120 n (Int32.ofNat re)) M1 = some (r, J2, M2) := c2
      have e54 : wI J2 121 n r 102 54 = Int32.ofNat n := by rw [fl_w (by omega), c5 54 (by omega)]; exact z hB1.2.2.2.2.1
      obtain ⟨J4, g1, g2⟩ := fl_bo5 (M := M2) (J := wI J2 121 n r) (by rw [fl_w (by omega)]; exact c3.2.2) e54 hn4
      have hq : Q24 J2 J4 := (Q24.w (by omega)).trans g2
      rw [c1', q_b3, q_b1, q_l, c2', q_b3, q_in (by omega) (by omega), q_ck, show ix (Int32.ofNat n) = n from q_ix (by omega), q_l, g1, q_b2]
      dsimp only
      rw [cb5_f]
      exact Or.inr ⟨I2, L2, J4, M2, rfl, rfl, c3.q24 hq, (hB1.2.2.2.2.2.2.2.2.trans c4).trans hq.g⟩
  · have a1' : x5_numberBehind 15 0 5 I L = some (-1, I1, L1) := a1
    have a2' : x11_told 491327153000 0 5 J M = some (r, J1, M1) := a2
    have e54 : wI J1 120 n r 102 54 = Int32.ofNat n := by rw [fl_w (by omega), a5 54 (by omega)]; exact q1
    obtain ⟨J4, g1, g2⟩ := fl_bo4 (M := M1) (J := wI J1 120 n r) (by rw [fl_w (by omega)]; exact a3.2.2) e54 hn4
    have hq : Q24 J1 J4 := (Q24.w (by omega)).trans g2
    rw [a1', q_b3, q_b1, q_l, a2', q_b3, q_in (by omega) (by omega), q_ck, show ix (Int32.ofNat n) = n from q_ix (by omega), q_l, g1, q_b2]
    dsimp only
    rw [cb4_f]
    exact Or.inr ⟨I1, L1, J4, M1, rfl, rfl, a3.q24 hq, (hB.2.2.2.2.2.2.2.2.trans a4).trans hq.g⟩
end LNX
