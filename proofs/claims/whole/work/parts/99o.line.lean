/-! THE TEXT: lines: bobber -/
section LNX
variable {T : Nat → Nat} {N t b q U k n r : Nat} {C : TC} {ws : Nat → Nat → List Nat} {I I' I'' : MI} {L L' L'' : ML} {J J' J'' : MI} {M M' M'' : ML}
theorem P_nc (ht : t = 2 ∨ t = 28) (hC : CR T N t q U b I L) (hR : RR T N q U J M) {i : Nat} (hi : i < 26) {v : Int64} (hv : v = Int64.ofNat (e256 (kwl.getD i []))) {lo hi' : Nat} (hlo : lo < 10000) (hhi : hi' < 10000) :
    (∃ n q' I' L' J' M', x5_numberBehind (Int32.ofNat i) (Int32.ofNat lo) (Int32.ofNat hi') I L = some (Int32.ofNat n, I', L') ∧ x11_told v (Int32.ofNat lo) (Int32.ofNat hi') J M = some (Int32.ofNat n, J', M') ∧ lo ≤ n ∧ n ≤ hi' ∧ CR T N t q' U b I' L' ∧ RR T N q' U J' M' ∧ q < q' ∧ C21 I I' ∧ CLm L L' ∧ RFr J J' ∧ LFr M M') ∨
    (∃ I' L' J' M' r, x5_numberBehind (Int32.ofNat i) (Int32.ofNat lo) (Int32.ofNat hi') I L = some (-1, I', L') ∧ x11_told v (Int32.ofNat lo) (Int32.ofNat hi') J M = some (r, J', M') ∧ FBt I' J' ∧ Gs t I L J M I' L' J' M' ∧ ∀ j, 21 ≤ j → J' 102 j = J 102 j) := by
  rcases P_word ht hC hR hi hv with ⟨I1, L1, J1, M1, a1, a2, a3, a4, a5, a6, a7, a8, a9, -⟩ | ⟨I1, J1, a1, a2, a3, a4, a5⟩
  · rcases P_num ht a3 a4 hlo hhi with ⟨n, I2, L2, J2, M2, b1', b2', b3', b4', b5', b6', b7', b8', b9', b10', b11', -, -⟩ | ⟨I2, J2, r, b1', b2', b3', b4', b5'⟩
    · refine Or.inl ⟨n, _, I2, L2, J2, M2, ?_, ?_, b3', b4', b5', b6', by omega, fun x hx => (b8' x hx).trans (a6 x hx), fun x hx => (b9' x hx).trans (a7 x hx), a8.trans b10', a9.trans b11'⟩
      · rw [x5_numberBehind, a1, q_b3, if_neg (by decide), b1', q_b3]
      · rw [x11_told, a2, q_b2, b2', q_b3]
    · refine Or.inr ⟨I2, L1, J2, M1, r, ?_, ?_, b3', (Gs.st a6 a7 a8 a9).trans (Gs.fl b4' b5'), fun j hj => by rw [b5'.2 j (by omega) (by omega), a8.2 j (by omega) (by omega) (by omega) (by omega)]⟩
      · rw [x5_numberBehind, a1, q_b3, if_neg (by decide), b1', q_b3]
      · rw [x11_told, a2, q_b2, b2', q_b3]
  · refine Or.inr ⟨I1, L, J1, M, 0, ?_, ?_, a3, Gs.fl a4 a5, fun j hj => a5.2 j (by omega) (by omega)⟩
    · rw [x5_numberBehind, a1, q_b3, if_pos rfl]
    · rw [x11_told, a2, q_b2, x11_toldNumber, if_pos a3.2.2, q_b3]
theorem C21.trans (h : C21 I I') (g : C21 I' I'') : C21 I I'' := fun x a => (g x a).trans (h x a)
/-- the rule that a bobber bobs by -/
theorem P_by (ht : t = 2 ∨ t = 28) (hC : CR T N t q U b I L) (hR : RR T N q U J M) {m : Nat} {w : Nat → List Nat} (hN : Nm 24 0 m w L M) (hm : m ≤ 6) (hn : n < 4) (e18 : I t 18 = Int32.ofNat m) (e52 : J 102 52 = Int32.ofNat m) (e54 : J 102 54 = Int32.ofNat n) :
    (∃ z q' I' L' J' M', z < m ∧ x5_ruleToldAhead t (Int32.ofNat n) I L = some (1, I', L') ∧ x11_readBy J M = some (J', M') ∧ CR T N t q' U b I' L' ∧ RR T N q' U J' M' ∧ q < q' ∧ C21 (wI I (t + 12) n (Int32.ofNat z)) I' ∧ CLm L L' ∧ RFr (wI J 123 n (Int32.ofNat z)) J' ∧ LFr M M') ∨
    (∃ I' J', x5_ruleToldAhead t (Int32.ofNat n) I L = some (0, I', L) ∧ x11_readBy J M = some (J', M) ∧ FBt I' J' ∧ C20 I I' ∧ R23 J J') := by
  have e4 : (I 21 4 = 26) = (tks T N q = 26) := hC.cd (v := 26) (by omega)
  have en := r_isName (hR.1.2.2 q) hR.2.1
  have h2 := hR.2.2.2.1
  by_cases e : tks T N q = 26
  · obtain ⟨g1, g2, g3, g4⟩ := tks_w (T := T) (N := N) (q := q) (by omega)
    have hw := (twl_ok g3).1
    have h7 : L 21 7 = Int64.ofNat (e32 (twl T N q)) := hC.2.2.2.1.2.2.2.2.2 (by omega)
    have h9 : M 102 9 = Int64.ofNat (e256 (twl T N q)) := hR.2.1.2.2.2.2.2 (by omega)
    rw [if_pos e] at en
    rcases both_find (ln := 6) (I := I) (J := J) hN hw h7 h9 hm (by omega) (by omega) with ⟨j, j1, j2, j3, j4⟩ | ⟨j1, j2, j3⟩
    · have j4' : x11_find 0 (Int32.ofNat m) J M = some (Int32.ofNat j) := j4
      obtain ⟨I', L', a1, a2, a3, a4⟩ := (hC.w ht (x := t + 12) (j := n) (v := Int32.ofNat j) (by omega)).nx ht (by omega)
      obtain ⟨J', M', b1', b2', b3', b4'⟩ := (hR.w (x := 123) (j := n) (v := Int32.ofNat j) (by omega)).nx (by omega)
      refine Or.inl ⟨j, _, I', L', J', M', j1, ?_, ?_, a2, b2', tkn_lt hC.2.2.1 (by omega), a3, a4, b3', b4'⟩
      · rw [x5_ruleToldAhead, if_pos (e4.mpr e), e18, j3, q_b1, q_l, if_neg (by rw [q_m1 (by omega)]; exact id), q_in (by omega) (by omega), q_ck, show ix (Int32.ofNat n) = n from q_ix (by omega), q_l, a1, q_b2]
      · rw [x11_readBy, en, q_b1, if_neg (by decide), e52, j4', q_b1, if_neg (by rw [q_neg (by omega)]; exact id), q_b1, h2, if_neg (by decide), e52, j4', q_b1, e54, q_in (by omega) (by omega), q_ck, show ix (Int32.ofNat n) = n from q_ix (by omega), q_l, b1', q_b2]
    · have j3' : x11_find 0 (Int32.ofNat m) J M = some (-1) := j3
      obtain ⟨I', J', a1, a2, a3, a4, a5⟩ := both_fail hC hR (k := 5) (by simp)
      refine Or.inr ⟨I', J', ?_, ?_, a3, a4, a5⟩
      · rw [x5_ruleToldAhead, if_pos (e4.mpr e), e18, j2, q_b1, q_l, if_pos rfl, a1, q_b2, ck_pos (Or.inl rfl)]
      · rw [x11_readBy, en, q_b1, if_neg (by decide), e52, j3', q_b1, if_pos (by decide), a2, q_b1, q_b1, if_pos a3.2.2]
  · obtain ⟨I', J', a1, a2, a3, a4, a5⟩ := both_fail hC hR (k := 2) (by simp)
    rw [if_neg e] at en
    refine Or.inr ⟨I', J', ?_, ?_, a3, a4, a5⟩
    · rw [x5_ruleToldAhead, if_neg (fun g => e (e4.mp g)), a1, q_b2, ck_pos (Or.inl rfl)]
    · rw [x11_readBy, en, q_b1, if_pos rfl, a2, q_b1, q_b1, if_pos a3.2.2]
end LNX
