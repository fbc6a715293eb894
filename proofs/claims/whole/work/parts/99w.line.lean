/-! THE TEXT: lines: an apple's coin -/
section LNX
variable {T : Nat → Nat} {N t b q U n p : Nat} {I I' : MI} {L L' : ML} {J J' J'' : MI} {M M' : ML}
theorem P_coin (ht : t = 2 ∨ t = 28) (hC : CR T N t p U b I L) (hR : RR T N p U J M) (hn : n < 10) (h53 : J 102 53 = Int32.ofNat n) :
    (∃ co q' I4 L4 J4 M4, ca7 t (Int32.ofNat n) I L = some (1, wI (wI I4 (t + 6) n (Int32.ofNat co)) t 4 (I4 t 4 + 1), L4) ∧ ap7 J M = some (wI (wI J4 117 n (Int32.ofNat co)) 102 53 (Int32.ofNat (n + 1)), M4) ∧ co ≤ 99 ∧ p ≤ q' ∧ CR T N t q' U b I4 L4 ∧ RR T N q' U J4 M4 ∧ C21 I I4 ∧ CLm L L4 ∧ RFr J J4 ∧ LFr M M4) ∨
    (∃ I' L' J' M', ca7 t (Int32.ofNat n) I L = some (0, I', L') ∧ ap7 J M = some (J', M') ∧ FBt I' J' ∧ Gs t I L J M I' L' J' M') := by
  have e13 : (I 21 4 = 13) = (tks T N p = 13) := hC.cd (v := 13) (by omega)
  have ew := r_isW (hR.1.2.2 p) hR.2.1 (i := 13) (v := 1668245870) (by omega) (kw_e 13 (by omega)).symm
  have hin : vp_in (Int32.ofNat n) 10 = True := q_in (by omega) (by omega)
  have hix : ix (Int32.ofNat n) = n := q_ix (by omega)
  have cfin : ∀ (K : MI) (K' : ML) (v : Int32), (ck (vp_in (Int32.ofNat n) 10) <| lt (wI K (t + 6) (ix (Int32.ofNat n)) v) fun I45 => lt (wI I45 t 4 ((I45 t 4) + 1)) fun I47 => ck (vp_in (Int32.ofNat n) 10) <| if (I47 (t + 6) (ix (Int32.ofNat n))) = (-1) then some ((0 : Int32), I47, K') else some ((1 : Int32), I47, K')) = if v = -1 then some ((0 : Int32), wI (wI K (t + 6) n v) t 4 (K t 4 + 1), K') else some ((1 : Int32), wI (wI K (t + 6) n v) t 4 (K t 4 + 1), K') := by
    intro K K' v
    have g1 : wI K (t + 6) n v t 4 = K t 4 := by rw [wI_c (by omega)]
    have g2 : wI (wI K (t + 6) n v) t 4 (K t 4 + 1) (t + 6) n = v := by rw [wI_c (by omega), wI_at]
    rw [hin, q_ck, hix, q_l, q_l, q_ck, g1, g2]
  by_cases e : tks T N p = 13
  · rw [if_pos e] at ew
    obtain ⟨I1, L1, a1, a2, a3, a4⟩ := hC.nx ht (by omega)
    obtain ⟨J1, M1, b1', b2', b3', b4'⟩ := hR.nx (by omega)
    have hq := tkn_lt (T := T) hC.2.2.1 (by omega : tks T N p ≠ 28)
    have ht13 : x5_token 13 I L = some (1, I1, L1) := by rw [x5_token, if_pos (e13.mpr e), a1, q_b2]
    have htk : x11_takes 1668245870 J M = some (1, J1, M1) := by rw [x11_takes, if_pos hR.2.2.2.1, ew, q_b1, if_neg (by decide), q_b1, q_l, if_neg (by decide), b1', q_b2, ck_pos (Or.inr rfl)]
    rcases P_num ht a2 b2' (lo := 0) (hi := 99) (by omega) (by omega) with ⟨co, I2, L2, J2, M2, c1, c2, c3, c4, c5, c6, c7, c8, c9, c10, c11, -, -⟩ | ⟨I2, J2, r, c1, c2, c3, c4, c5⟩
    · have c1' : x5_number 0 99 I1 L1 = some (Int32.ofNat co, I2, L2) := c1
      have c2' : x11_toldNumber 0 99 J1 M1 = some (Int32.ofNat co, J2, M2) := c2
      have z2 : wI J2 117 n (Int32.ofNat co) 102 2 = 0 := by rw [wI_c (by omega)]; exact c6.2.2.2.1
      have z53 : wI J2 117 n (Int32.ofNat co) 102 53 + 1 = Int32.ofNat (n + 1) := by rw [wI_c (by omega), c10.2 53 (by omega) (by omega) (by omega) (by omega), b3'.2 53 (by omega) (by omega) (by omega) (by omega), h53, q_addn]
      refine Or.inl ⟨co, _, I2, L2, J2, M2, ?_, ?_, c4, by omega, c5, c6, a3.trans c8, a4.trans c9, b3'.trans c10, b4'.trans c11⟩
      · rw [ca7, if_pos (e13.mpr e), x5_numberBehind, ht13, q_b3, if_neg (by decide), c1', q_b3, q_b3, q_b1]
        dsimp only
        rw [cfin, if_neg (by rw [q_m1 (by omega)]; exact id)]
      · rw [ap7, htk, q_b3, if_neg (by decide), c2', q_b3, q_b1, h53, hin, q_ck, hix, q_l]
        dsimp only
        rw [if_pos z2, z53, q_l]
    · have c1' : x5_number 0 99 I1 L1 = some (-1, I2, L1) := c1
      have c2' : x11_toldNumber 0 99 J1 M1 = some (r, J2, M1) := c2
      have z2 : ¬ wI J2 117 n r 102 2 = 0 := by rw [wI_c (by omega)]; exact fl_ne c3.2.2
      refine Or.inr ⟨wI (wI I2 (t + 6) n (-1)) t 4 (I2 t 4 + 1), L1, wI J2 117 n r, M1, ?_, ?_, ?_, ((Gs.st a3 a4 b3' b4').trans (Gs.fl c4 c5)).trans (((Gs.wc (by omega)).trans (Gs.wc (by omega))).trans (Gs.wr (by omega)))⟩
      · rw [ca7, if_pos (e13.mpr e), x5_numberBehind, ht13, q_b3, if_neg (by decide), c1', q_b3, q_b3, q_b1]
        dsimp only
        rw [cfin, if_pos rfl]
      · rw [ap7, htk, q_b3, if_neg (by decide), c2', q_b3, q_b1, h53, hin, q_ck, hix, q_l]
        dsimp only
        rw [if_neg z2]
      · rw [FBt, wI_c (by omega), wI_c (by omega), wI_c (by omega)]; exact c3
  · rw [if_neg e] at ew
    have htk : x11_takes 1668245870 J M = some (0, J, M) := by rw [x11_takes, if_pos hR.2.2.2.1, ew, q_b1, if_pos rfl, q_b1, q_l, if_pos rfl, ck_pos (Or.inl rfl)]
    have z2 : wI J 117 n 1 102 2 = 0 := by rw [wI_c (by omega)]; exact hR.2.2.2.1
    have z53 : wI J 117 n 1 102 53 + 1 = Int32.ofNat (n + 1) := by rw [wI_c (by omega), h53, q_addn]
    refine Or.inl ⟨1, p, I, L, J, M, ?_, ?_, by omega, Nat.le_refl _, hC, hR, fun _ _ => rfl, CLm.refl, RFr.refl, LFr.refl⟩
    · rw [ca7, if_neg (fun g => e (e13.mp g)), q_b1]
      dsimp only
      rw [cfin, if_neg (by decide)]
      rfl
    · rw [ap7, htk, q_b3, if_pos rfl, q_b1, h53, hin, q_ck, hix, q_l]
      dsimp only
      rw [if_pos z2, z53, q_l]
      rfl
end LNX
