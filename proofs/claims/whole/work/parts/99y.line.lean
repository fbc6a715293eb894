/-! THE TEXT: lines: apple, size and softness -/
section LNX
variable {T : Nat → Nat} {N t b q U k n p : Nat} {C : TC} {ws : Nat → Nat → List Nat} {w' : Nat → List Nat} {I I0 I' : MI} {L L0 L' : ML} {J J0 J' J'' : MI} {M M0 M' : ML}
theorem P_app4 (ht : t = 2 ∨ t = 28) (hK : LK t b k C ws I0 L0 J0 M0) (hW : 1 ≤ nW (OD t I0)) (hn : nA (OD t I0) = n) (hn10 : n < 10) (h53 : J0 102 53 = Int32.ofNat n) (hB : BXa T N t b q U n w' I0 L0 J0 M0 p I L J M) {x y : Nat} (hx : x < nW (OD t I0)) (hy : y < nH (OD t I0)) (j115 : J 115 n = Int32.ofNat x) (j116 : J 116 n = Int32.ofNat y) (hfr : ∀ a, a < n → ¬ (I0 (t + 1) a = Int32.ofNat x ∧ I0 (t + 2) a = Int32.ofNat y)) : LO T N t q I0 L0 J0 M0 (ca4 t (Int32.ofNat n) (Int32.ofNat x) (Int32.ofNat y) I L) (b2 (ap4 J M) fun a b => some (a, b)) := by
  have hy9 : y < 100 := by
    have := hK.1.1.1.2.2
    omega
  have z : ∀ {J1}, RA n J0 J1 → J1 102 53 = Int32.ofNat n := fun g => by rw [g.2.1 53 (by omega)]; exact h53
  have q1 := z hB.2.2.2.2.1
  rw [ca4, if_neg (by rw [q_m1 (by omega)]; exact id), ap4, q1]
  rcases P_nc ht hB.1 hB.2.1 (i := 11) (by omega) (kw_e 11 (by omega)).symm (lo := 1) (hi' := 99) (by omega) (by omega) with ⟨sz, p1, I1, L1, J1, M1, a1, a2, a3, a4, a5, a6, a7, a8, a9, a10, a11⟩ | ⟨I1, L1, J1, M1, r, a1, a2, a3, a4, a5⟩
  · have a1' : x5_numberBehind 11 1 99 I L = some (Int32.ofNat sz, I1, L1) := a1
    have a2' : x11_told 1936292453 1 99 J M = some (Int32.ofNat sz, J1, M1) := a2
    have hB1 := (hB.st a7 a5 a6 a8 a9 a10 a11).w (x := 113) (v := Int32.ofNat sz) (by omega)
    rw [a1', q_b3, q_b1, q_l, a2', q_b3, q_in (by omega) (by omega), q_ck, show ix (Int32.ofNat n) = n from q_ix (by omega), q_l]
    dsimp only
    rw [ca5, if_neg (by rw [q_m1 (by omega)]; exact id), ap5, z hB1.2.2.2.2.1]
    rcases P_nc ht hB1.1 hB1.2.1 (i := 12) (by omega) (kw_e 12 (by omega)).symm (lo := 0) (hi' := 9) (by omega) (by omega) with ⟨so, p2, I2, L2, J2, M2, c1, c2, c3, c4, c5, c6, c7, c8, c9, c10, c11⟩ | ⟨I2, L2, J2, M2, r, c1, c2, c3, c4, c5⟩
    · have c1' : x5_numberBehind 12 0 9 I1 L1 = some (Int32.ofNat so, I2, L2) := c1
      have c2' : x11_told 1936680564 0 9 (wI J1 113 n (Int32.ofNat sz)) M1 = some (Int32.ofNat so, J2, M2) := c2
      have hB2 := (hB1.st c7 c5 c6 c8 c9 c10 c11).w (x := 114) (v := Int32.ofNat so) (by omega)
      rw [c1', q_b3, q_b1, q_l, c2', q_b3, q_in (by omega) (by omega), q_ck, show ix (Int32.ofNat n) = n from q_ix (by omega), q_l]
      dsimp only
      exact P_appE ht hK hW hn hn10 hB2 hx hy ⟨a3, a4⟩ c4 (by rw [wI_c (by omega), c10.1 115 (by omega), wI_c (by omega), a10.1 115 (by omega)]; exact j115) (by rw [wI_c (by omega), c10.1 116 (by omega), wI_c (by omega), a10.1 116 (by omega)]; exact j116) (by rw [wI_c (by omega), c10.1 113 (by omega), wI_at]) wI_at hfr
    · have c1' : x5_numberBehind 12 0 9 I1 L1 = some (-1, I2, L2) := c1
      have c2' : x11_told 1936680564 0 9 (wI J1 113 n (Int32.ofNat sz)) M1 = some (r, J2, M2) := c2
      have e53 : wI J2 114 n r 102 53 = Int32.ofNat n := by rw [fl_w (by omega), c5 53 (by omega)]; exact z hB1.2.2.2.2.1
      obtain ⟨J4, g1, g2⟩ := fl_ap6 (M := M2) (J := wI J2 114 n r) (by rw [fl_w (by omega)]; exact c3.2.2) e53 hn10
      have hq : Q24 J2 J4 := (Q24.w (by omega)).trans g2
      rw [c1', q_b3, q_b1, q_l, c2', q_b3, q_in (by omega) (by omega), q_ck, show ix (Int32.ofNat n) = n from q_ix (by omega), q_l, g1, q_b2]
      dsimp only
      rw [ca6, if_pos rfl]
      exact Or.inr ⟨I2, L2, J4, M2, rfl, rfl, c3.q24 hq, (hB1.2.2.2.2.2.2.2.2.trans c4).trans hq.g⟩
  · have a1' : x5_numberBehind 11 1 99 I L = some (-1, I1, L1) := a1
    have a2' : x11_told 1936292453 1 99 J M = some (r, J1, M1) := a2
    have e53 : wI J1 113 n r 102 53 = Int32.ofNat n := by rw [fl_w (by omega), a5 53 (by omega)]; exact q1
    obtain ⟨J4, g1, g2⟩ := fl_ap5 (M := M1) (J := wI J1 113 n r) (by rw [fl_w (by omega)]; exact a3.2.2) e53 hn10
    have hq : Q24 J1 J4 := (Q24.w (by omega)).trans g2
    rw [a1', q_b3, q_b1, q_l, a2', q_b3, q_in (by omega) (by omega), q_ck, show ix (Int32.ofNat n) = n from q_ix (by omega), q_l, g1, q_b2]
    dsimp only
    rw [ca5_f]
    exact Or.inr ⟨I1, L1, J4, M1, rfl, rfl, a3.q24 hq, (hB.2.2.2.2.2.2.2.2.trans a4).trans hq.g⟩
end LNX
