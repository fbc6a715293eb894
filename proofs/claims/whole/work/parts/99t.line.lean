/-! THE TEXT: lines: apple, is the cell free -/
section LNX
variable {T : Nat → Nat} {N t b q U k n r x p : Nat} {I I' I'' : MI} {L L' L'' : ML} {J J' J'' : MI} {M M' M'' : ML}
theorem c_freeL (hC : CR T N t p U b I L) (h4 : I t 4 = Int32.ofNat n) (hn : n < 10) (hf : x5_fail 3 I = some (0, I')) : ∀ (j i fu : Nat), i + j = n → j < fu → (tks T N p = 27 ∧ (∃ a, i ≤ a ∧ a < n ∧ I (t + 1) a = Int32.ofNat x ∧ I (t + 2) a = Int32.ofNat (tkv T N p)) ∧ x5_isFreeCell_L2 t (Int32.ofNat x) fu (Int32.ofNat i) I = some (.inr (0, I'))) ∨ ((tks T N p = 27 → ∀ a, i ≤ a → a < n → ¬ (I (t + 1) a = Int32.ofNat x ∧ I (t + 2) a = Int32.ofNat (tkv T N p))) ∧ x5_isFreeCell_L2 t (Int32.ofNat x) fu (Int32.ofNat i) I = some (.inl I))
  | 0, i, fu, hi, hfu => by
    obtain ⟨fu, rfl⟩ : ∃ n', fu = n' + 1 := ⟨fu - 1, by omega⟩
    refine Or.inr ⟨fun _ a _ _ => by omega, ?_⟩
    rw [x5_isFreeCell_L2, x5_isFreeCell_L2s, h4, if_neg (by rw [q_lt (by omega) (by omega)]; omega)]
  | j + 1, i, fu, hi, hfu => by
    obtain ⟨fu, rfl⟩ : ∃ n', fu = n' + 1 := ⟨fu - 1, by omega⟩
    have e4 : (I 21 4 = 27) = (tks T N p = 27) := hC.cd (v := 27) (by omega)
    by_cases e : tks T N p = 27
    · have ev : I 21 6 = Int32.ofNat (tkv T N p) := hC.2.2.2.1.2.2.2.2.1 e
      have hu : x5_isFreeCell_L2 t (Int32.ofNat x) (fu + 1) (Int32.ofNat i) I = if I (t + 1) i = Int32.ofNat x then (if I (t + 2) i = Int32.ofNat (tkv T N p) then some (.inr (0, I')) else x5_isFreeCell_L2 t (Int32.ofNat x) fu (Int32.ofNat (i + 1)) I) else x5_isFreeCell_L2 t (Int32.ofNat x) fu (Int32.ofNat (i + 1)) I := by
        rw [x5_isFreeCell_L2, x5_isFreeCell_L2s, h4, if_pos (by rw [q_lt (by omega) (by omega)]; omega), if_pos (e4.mpr e), q_in (by omega) (by omega), q_ck, show ix (Int32.ofNat i) = i from q_ix (by omega), ev, q_l, q_addn, hf, q_b2, ck_pos (Or.inl rfl), q_ck]
      rw [hu]
      have ih := c_freeL hC h4 hn hf j (i + 1) fu (by omega) (by omega)
      by_cases g1 : I (t + 1) i = Int32.ofNat x ∧ I (t + 2) i = Int32.ofNat (tkv T N p)
      · exact Or.inl ⟨e, ⟨i, Nat.le_refl _, by omega, g1.1, g1.2⟩, by rw [if_pos g1.1, if_pos g1.2]⟩
      · have hh : (if I (t + 1) i = Int32.ofNat x then (if I (t + 2) i = Int32.ofNat (tkv T N p) then some (.inr (0, I')) else x5_isFreeCell_L2 t (Int32.ofNat x) fu (Int32.ofNat (i + 1)) I) else x5_isFreeCell_L2 t (Int32.ofNat x) fu (Int32.ofNat (i + 1)) I) = x5_isFreeCell_L2 t (Int32.ofNat x) fu (Int32.ofNat (i + 1)) I := by
          by_cases g2 : I (t + 1) i = Int32.ofNat x
          · rw [if_pos g2, if_neg (fun g3 => g1 ⟨g2, g3⟩)]
          · rw [if_neg g2]
        rw [hh]
        rcases ih with ⟨_, ⟨a, a1, a2, a3⟩, a4⟩ | ⟨a1, a2⟩
        · exact Or.inl ⟨e, ⟨a, by omega, a2, a3⟩, a4⟩
        · exact Or.inr ⟨fun _ a h1 h2 => by
            by_cases ea : a = i
            · subst ea; exact g1
            · exact a1 e a (by omega) h2, a2⟩
    · refine Or.inr ⟨fun g => absurd g e, ?_⟩
      rw [x5_isFreeCell_L2, x5_isFreeCell_L2s, h4, if_pos (by rw [q_lt (by omega) (by omega)]; omega), if_neg (fun g => e (e4.mp g))]
/-- the reference's: the apple at n against those before -/
theorem r_freeL (h2 : J 102 2 = 0) (h53 : J 102 53 = Int32.ofNat n) (hn : n < 10) (v : Int32) : ∀ (j i fu : Nat), i + j = n → j < fu → ((∃ a, i ≤ a ∧ a < n ∧ J 115 a = J 115 n ∧ J 116 a = J 116 n) ∧ x11_readApple_L64 v fu (Int32.ofNat i) J = some (wI (wI J 102 2 3) 102 3 v)) ∨ ((∀ a, i ≤ a → a < n → ¬ (J 115 a = J 115 n ∧ J 116 a = J 116 n)) ∧ x11_readApple_L64 v fu (Int32.ofNat i) J = some J)
  | 0, i, fu, hi, hfu => by
    obtain ⟨fu, rfl⟩ : ∃ n', fu = n' + 1 := ⟨fu - 1, by omega⟩
    refine Or.inr ⟨fun a _ _ => by omega, ?_⟩
    rw [x11_readApple_L64, x11_readApple_L64s, h53, if_neg (by rw [q_lt (by omega) (by omega)]; omega)]
  | j + 1, i, fu, hi, hfu => by
    obtain ⟨fu, rfl⟩ : ∃ n', fu = n' + 1 := ⟨fu - 1, by omega⟩
    have hw : x11_wrongAt 3 v J = some (wI (wI J 102 2 3) 102 3 v) := by rw [x11_wrongAt, h2, if_neg (by decide)]; rfl
    have hfl : x11_readApple_L64 v fu (Int32.ofNat (i + 1)) (wI (wI J 102 2 3) 102 3 v) = some (wI (wI J 102 2 3) 102 3 v) := by
      refine fl_L64 (n := n) ?_ ?_ hn v j (i + 1) fu (by omega) (by omega)
      · rw [wI_ne (by omega), wI_at]; decide
      · rw [wI_ne (by omega), wI_ne (by omega)]; exact h53
    have hu : x11_readApple_L64 v (fu + 1) (Int32.ofNat i) J = if J 115 i = J 115 n then (if J 116 i = J 116 n then some (wI (wI J 102 2 3) 102 3 v) else x11_readApple_L64 v fu (Int32.ofNat (i + 1)) J) else x11_readApple_L64 v fu (Int32.ofNat (i + 1)) J := by
      rw [x11_readApple_L64, x11_readApple_L64s, h53, if_pos (by rw [q_lt (by omega) (by omega)]; omega), if_pos h2]
      simp only [q_in (show i < 10 by omega) (show i < 2147483648 by omega), q_in hn (show n < 2147483648 by omega), q_ck, q_l, show ix (Int32.ofNat i) = i from q_ix (by omega), show ix (Int32.ofNat n) = n from q_ix (by omega), q_addn, hw, q_b1]
      rw [show i + (OfNat.ofNat 1 : Nat) = i + 1 from rfl, hfl]
    rw [hu]
    by_cases g1 : J 115 i = J 115 n ∧ J 116 i = J 116 n
    · exact Or.inl ⟨⟨i, Nat.le_refl _, by omega, g1.1, g1.2⟩, by rw [if_pos g1.1, if_pos g1.2]⟩
    · have hh : (if J 115 i = J 115 n then (if J 116 i = J 116 n then some (wI (wI J 102 2 3) 102 3 v) else x11_readApple_L64 v fu (Int32.ofNat (i + 1)) J) else x11_readApple_L64 v fu (Int32.ofNat (i + 1)) J) = x11_readApple_L64 v fu (Int32.ofNat (i + 1)) J := by
        by_cases g2 : J 115 i = J 115 n
        · rw [if_pos g2, if_neg (fun g3 => g1 ⟨g2, g3⟩)]
        · rw [if_neg g2]
      rw [hh]
      rcases r_freeL h2 h53 hn v j (i + 1) fu (by omega) (by omega) with ⟨⟨a, a1, a2, a3⟩, a4⟩ | ⟨a1, a2⟩
      · exact Or.inl ⟨⟨a, by omega, a2, a3⟩, a4⟩
      · exact Or.inr ⟨fun a h1 h2 => by
          by_cases ea : a = i
          · subst ea; exact g1
          · exact a1 a (by omega) h2, a2⟩
end LNX
