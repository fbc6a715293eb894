/-! THE TEXT: the reference's tokens -/
def RTx (T : Nat → Nat) (N : Nat) (I : MI) : Prop := N ≤ 1600 ∧ (∀ i, i < N → I 103 i = Int32.ofNat (T i)) ∧ ∀ i, i < N → T i < 256
def rcd (s : Nat) : Nat := if s < 27 then 1 else if s = 27 then 2 else if s = 28 then 0 else if s = 29 then 3 else s
def RLx (T : Nat → Nat) (N q : Nat) (I : MI) (L : ML) : Prop := I 102 5 = Int32.ofNat N ∧ I 102 7 = Int32.ofNat q ∧ I 102 6 = Int32.ofNat (rcd (tks T N q)) ∧ I 102 4 = Int32.ofNat (if tks T N q = 29 then q else tke T N q) ∧ (tks T N q = 27 → I 102 8 = Int32.ofNat (tkv T N q)) ∧ (tks T N q ≤ 26 → L 102 9 = Int64.ofNat (e256 (twl T N q)))
def RFr (I I' : MI) : Prop := (∀ c, c ≠ 102 → I' c = I c) ∧ ∀ j, j ≠ 4 → j ≠ 6 → j ≠ 7 → j ≠ 8 → I' 102 j = I 102 j
def LFr (L L' : ML) : Prop := (∀ c, c ≠ 102 → L' c = L c) ∧ ∀ j, j ≠ 9 → L' 102 j = L 102 j
theorem RFr.refl {I : MI} : RFr I I := ⟨fun _ _ => rfl, fun _ _ _ _ _ => rfl⟩
theorem RFr.trans {I I' I'' : MI} (h : RFr I I') (k : RFr I' I'') : RFr I I'' := ⟨fun c hc => (k.1 c hc).trans (h.1 c hc), fun j h1 h2 h3 h4 => (k.2 j h1 h2 h3 h4).trans (h.2 j h1 h2 h3 h4)⟩
theorem LFr.refl {L : ML} : LFr L L := ⟨fun _ _ => rfl, fun _ _ => rfl⟩
theorem LFr.trans {L L' L'' : ML} (h : LFr L L') (k : LFr L' L'') : LFr L L'' := ⟨fun c hc => (k.1 c hc).trans (h.1 c hc), fun j h1 => (k.2 j h1).trans (h.2 j h1)⟩
theorem RFr.w {I : MI} {j : Nat} {v : Int32} (hj : j = 4 ∨ j = 6 ∨ j = 7 ∨ j = 8) : RFr I (wI I 102 j v) := ⟨fun c hc => wI_c hc, fun i h1 h2 h3 h4 => wI_ne (by omega)⟩
def hv (T : Nat → Nat) (N p : Nat) : Int32 := if p < N then Int32.ofNat (T p) else -1
theorem shl8 {e c : Nat} (he : e < 2 ^ 56) (hc : c < 256) : (Int64.ofNat e <<< (((8 : Int32)).toInt64 &&& 63)) ||| (Int32.ofNat c).toInt64 = Int64.ofNat (e * 256 + c) := by
  have h1 : (((8 : Int32)).toInt64 &&& 63) = 8 := by decide
  have h2 : (Int32.ofNat c).toInt64 = Int64.ofNat c := by
    have : ∀ c, c < 256 → (Int32.ofNat c).toInt64 = Int64.ofNat c := by decide +kernel
    exact this c hc
  rw [h1, h2]
  apply Int64.toBitVec_inj.mp
  apply BitVec.eq_of_toNat_eq
  have h3 : ((8 : Int64).toBitVec.smod 64) = 8#64 := by decide
  rw [Int64.toBitVec_or, Int64.toBitVec_shiftLeft, h3, BitVec.toNat_or, BitVec.shiftLeft_eq', BitVec.toNat_shiftLeft, Int64.toBitVec_ofNat', Int64.toBitVec_ofNat', Int64.toBitVec_ofNat', BitVec.toNat_ofNat, BitVec.toNat_ofNat, BitVec.toNat_ofNat, BitVec.toNat_ofNat]
  rw [show 8 % 2 ^ 64 = 8 from rfl, Nat.mod_eq_of_lt (show e < 2 ^ 64 by omega), Nat.mod_eq_of_lt (show c < 2 ^ 64 by omega), Nat.shiftLeft_eq, Nat.mod_eq_of_lt (show e * 2 ^ 8 < 2 ^ 64 by omega), Nat.mod_eq_of_lt (show e * 256 + c < 2 ^ 64 by omega)]
  have h4 := Nat.shiftLeft_add_eq_or_of_lt (show c < 2 ^ 8 by omega) e
  rw [Nat.shiftLeft_eq] at h4
  omega
section RLX
variable {T : Nat → Nat} {N q p : Nat} {I I' : MI} {L L' : ML}
theorem xr_let {p : Nat} (hB : p < N → T p < 256) : x11_isLetter (hv T N p) I = some (if p < N ∧ isLe (T p) = true then 1 else 0) := by
  by_cases h : p < N
  · have hb := hB h
    rw [hv, if_pos h]
    simp (disch := omega) only [x11_isLetter, QN, h, true_and]
    by_cases e : isLe (T p) = true
    · have g := isLe_i.mp e
      rw [if_neg (by omega), if_neg (by omega), if_pos e]
    · have g : ¬ (97 ≤ T p ∧ T p ≤ 122) := fun h => e (isLe_i.mpr h)
      rw [if_neg e]
      by_cases e2 : T p < 97
      · rw [if_pos e2]
      · rw [if_neg e2, if_pos (by omega)]
  · rw [hv, if_neg h, if_neg (fun g => h g.1)]; rfl
theorem xr_dig {p : Nat} (hB : p < N → T p < 256) : x11_isDigit (hv T N p) I = some (if p < N ∧ isDi (T p) = true then 1 else 0) := by
  by_cases h : p < N
  · have hb := hB h
    rw [hv, if_pos h]
    simp (disch := omega) only [x11_isDigit, QN, h, true_and]
    by_cases e : isDi (T p) = true
    · have g := isDi_i.mp e
      rw [if_neg (by omega), if_neg (by omega), if_pos e]
    · have g : ¬ (48 ≤ T p ∧ T p ≤ 57) := fun h => e (isDi_i.mpr h)
      rw [if_neg e]
      by_cases e2 : T p < 48
      · rw [if_pos e2]
      · rw [if_neg e2, if_pos (by omega)]
  · rw [hv, if_neg h, if_neg (fun g => h g.1)]; rfl
theorem xr_sgn {c : Nat} (hc : c < 256) : x11_isSign (Int32.ofNat c) I = some (if isSg c = true then 1 else 0) := by
  by_cases h : isSg c = true
  · rw [if_pos h]
    rcases isSg_c h with e | e | e | e | e | e | e | e | e | e | e <;> rw [e] <;> rfl
  · rw [if_neg h]
    have h' : isSg c = false := by simpa using h
    simp only [isSg, Bool.or_eq_false_iff, beq_eq_false_iff_ne, ne_eq] at h'
    obtain ⟨⟨⟨⟨⟨⟨⟨⟨⟨⟨b1', b2'⟩, b3'⟩, b4'⟩, b5'⟩, b6'⟩, b7'⟩, b8'⟩, b9'⟩, b10'⟩, b11'⟩ := h'
    simp (disch := omega) only [x11_isSign, q_eqn, if_neg b1', if_neg b2', if_neg b3', if_neg b4', if_neg b5', if_neg b6', if_neg b7', if_neg b8', if_neg b9', if_neg b10', if_neg b11']
theorem xr_here (hX : RTx T N I) {p n : Nat} (hp : p ≤ N) (hn : n < 1700) (h4 : I 102 4 = Int32.ofNat p) (h5 : I 102 5 = Int32.ofNat N) : x11_here (Int32.ofNat n) I = some (hv T N (p + n)) := by
  have hN := hX.1
  simp (disch := omega) only [x11_here, h4, h5, QN, hv]
  by_cases e : p + n < N
  · simp (disch := omega) only [if_pos e, QN, QB, hX.2.1 (p + n) e]
  · rw [if_neg e, if_neg e]
theorem xr_here0 (hX : RTx T N I) {p : Nat} (hp : p ≤ N) (h4 : I 102 4 = Int32.ofNat p) (h5 : I 102 5 = Int32.ofNat N) : x11_here 0 I = some (hv T N p) := xr_here hX (n := 0) hp (by omega) h4 h5
theorem hv_eqn {p c : Nat} (hB : p < N → T p < 256) (hc : c < 256) : (hv T N p = Int32.ofNat c) = (p < N ∧ T p = c) := by
  rw [hv]
  by_cases h : p < N
  · have := hB h
    rw [if_pos h, q_eq (by omega) (by omega)]; simp [h]
  · rw [if_neg h, q_m1' (by omega)]; simp [h]
theorem xr_skL (hX : RTx T N I) : ∀ (k p fu : Nat) (J : MI), p + k = N → k < fu → J 103 = I 103 → J 102 5 = Int32.ofNat N → J 102 4 = Int32.ofNat p → ∃ J', x11_token_L0 fu J = some J' ∧ J' 102 4 = Int32.ofNat (skp T k p) ∧ (∀ j, j ≠ 4 → J' 102 j = J 102 j) ∧ ∀ c, c ≠ 102 → J' c = J c := by
  intro k
  induction k with
  | zero =>
    intro p fu J hp hfu h1 h2 h3
    obtain ⟨fu, rfl⟩ : ∃ n', fu = n' + 1 := ⟨fu - 1, by omega⟩
    have hXJ : RTx T N J := ⟨hX.1, fun i hi => by rw [h1]; exact hX.2.1 i hi, hX.2.2⟩
    refine ⟨J, ?_, h3, fun _ _ => rfl, fun _ _ => rfl⟩
    have e : hv T N p = -1 := by rw [hv, if_neg (by omega)]
    simp only [x11_token_L0, x11_token_L0s, xr_here0 hXJ (show p ≤ N by omega) h3 h2, q_b1, e]
    rfl
  | succ k ih =>
    intro p fu J hp hfu h1 h2 h3
    obtain ⟨fu, rfl⟩ : ∃ n', fu = n' + 1 := ⟨fu - 1, by omega⟩
    have hXJ : RTx T N J := ⟨hX.1, fun i hi => by rw [h1]; exact hX.2.1 i hi, hX.2.2⟩
    have hN := hX.1
    have hb := hX.2.2 p (by omega)
    obtain ⟨J', a1, a2, a3, a4⟩ := ih (p + 1) fu (wI J 102 4 (Int32.ofNat (p + 1))) (by omega) (by omega) (by rw [wI_c (by omega)]; exact h1) (by rw [wI_ne (by omega)]; exact h2) wI_at
    have e : hv T N p = Int32.ofNat (T p) := by rw [hv, if_pos (by omega)]
    simp only [x11_token_L0, x11_token_L0s, xr_here0 hXJ (show p ≤ N by omega) h3 h2, q_b1, e, skp]
    simp (disch := omega) only [QN, QB, h3]
    by_cases e1 : T p = 32
    · rw [if_pos e1, if_pos (Or.inl e1)]
      exact ⟨J', a1, a2, fun j hj => by rw [a3 j hj, wI_ne (by omega)], fun c hc => by rw [a4 c hc, wI_c hc]⟩
    · by_cases e2 : T p = 10
      · rw [if_neg e1, if_pos e2, if_pos (Or.inr e2)]
        exact ⟨J', a1, a2, fun j hj => by rw [a3 j hj, wI_ne (by omega)], fun c hc => by rw [a4 c hc, wI_c hc]⟩
      · rw [if_neg e1, if_neg e2, if_neg (by omega)]
        exact ⟨J, rfl, h3, fun _ _ => rfl, fun _ _ => rfl⟩
theorem xr_wdL (hX : RTx T N I) (h5 : I 102 5 = Int32.ofNat N) (h4 : I 102 4 = Int32.ofNat q) : ∀ (k n fu : Nat) (M : ML), q + n + k = N → k < fu → (n ≤ 8 → M 102 9 = Int64.ofNat (enc 256 (fun i => T (q + i)) n)) → ∃ M', x11_token_L78 I fu (Int32.ofNat n) M = some (Int32.ofNat (n + rn isLe T k (q + n)), M') ∧ (n + rn isLe T k (q + n) ≤ 8 → M' 102 9 = Int64.ofNat (enc 256 (fun i => T (q + i)) (n + rn isLe T k (q + n)))) ∧ LFr M M' := by
  have hN := hX.1
  intro k
  induction k with
  | zero =>
    intro n fu M hp hfu h9
    obtain ⟨fu, rfl⟩ : ∃ n', fu = n' + 1 := ⟨fu - 1, by omega⟩
    refine ⟨M, ?_, h9, LFr.refl⟩
    have e : ¬ (q + n < N ∧ isLe (T (q + n)) = true) := by omega
    simp only [x11_token_L78, x11_token_L78s, xr_here hX (show q ≤ N by omega) (show n < 1700 by omega) h4 h5, q_b1, xr_let (I := I) (hX.2.2 (q + n)), if_neg e, if_true]
    rfl
  | succ k ih =>
    intro n fu M hp hfu h9
    obtain ⟨fu, rfl⟩ : ∃ n', fu = n' + 1 := ⟨fu - 1, by omega⟩
    have hb := hX.2.2 (q + n) (by omega)
    simp only [x11_token_L78, x11_token_L78s, xr_here hX (show q ≤ N by omega) (show n < 1700 by omega) h4 h5, q_b1, xr_let (I := I) (hX.2.2 (q + n)), rn]
    by_cases e1 : isLe (T (q + n)) = true
    · have g := isLe_i.mp e1
      have e : q + n < N ∧ isLe (T (q + n)) = true := ⟨by omega, e1⟩
      rw [if_pos e, if_neg (by decide), if_pos e1]
      have e2 : hv T N (q + n) = Int32.ofNat (T (q + n)) := by rw [hv, if_pos e.1]
      by_cases h8 : n < 8
      · have hen : enc 256 (fun i => T (q + i)) n < 2 ^ 56 := by
          by_cases hall : ∀ i, i < n → T (q + i) < 256
          · have h1 := enc_lt (B := 256) (d := fun i => T (q + i)) n hall
            have h2 : 256 ^ n ≤ 256 ^ 7 := Nat.pow_le_pow_right (by omega) (by omega)
            exact Nat.lt_of_lt_of_le h1 (Nat.le_trans h2 (by decide))
          · exact absurd (fun i hi => hX.2.2 (q + i) (by omega)) hall
        obtain ⟨M', a1, a2, a3⟩ := ih (n + 1) fu (wL M 102 9 (Int64.ofNat (enc 256 (fun i => T (q + i)) n * 256 + T (q + n)))) (by omega) (by omega) (fun _ => by rw [wL_at]; rfl)
        rw [show q + (n + 1) = q + n + 1 by omega] at a1 a2
        refine ⟨M', ?_, ?_, LFr.trans ⟨fun c hc => wL_c hc, fun j hj => wL_ne (by omega)⟩ a3⟩
        · simp (disch := omega) only [q_ltn, if_pos h8, e2, h9 (by omega), shl8 hen hb, q_l, q_addn]
          rw [a1, show n + 1 + rn isLe T k (q + n + 1) = n + (rn isLe T k (q + n + 1) + 1) by omega]
        · intro h
          rw [a2 (by omega), show n + 1 + rn isLe T k (q + n + 1) = n + (rn isLe T k (q + n + 1) + 1) by omega]
      · obtain ⟨M', a1, a2, a3⟩ := ih (n + 1) fu M (by omega) (by omega) (fun h => by omega)
        rw [show q + (n + 1) = q + n + 1 by omega] at a1 a2
        refine ⟨M', ?_, fun h => by omega, a3⟩
        simp (disch := omega) only [q_ltn, if_neg h8, q_l, q_addn]
        rw [a1, show n + 1 + rn isLe T k (q + n + 1) = n + (rn isLe T k (q + n + 1) + 1) by omega]
    · have e : ¬ (q + n < N ∧ isLe (T (q + n)) = true) := fun h => e1 h.2
      rw [if_neg e, if_pos rfl, if_neg e1]
      exact ⟨M, rfl, h9, LFr.refl⟩
theorem xr_nbL (hX : RTx T N I) : ∀ (k n fu : Nat) (J : MI), q + n + k = N → k < fu → J 103 = I 103 → J 102 5 = Int32.ofNat N → J 102 4 = Int32.ofNat q → (n ≤ 4 → J 102 8 = Int32.ofNat (dgv T q n)) → ∃ J', x11_token_L144 fu (Int32.ofNat n) J = some (Int32.ofNat (n + rn isDi T k (q + n)), J') ∧ (n + rn isDi T k (q + n) ≤ 4 → J' 102 8 = Int32.ofNat (dgv T q (n + rn isDi T k (q + n)))) ∧ (∀ j, j ≠ 8 → J' 102 j = J 102 j) ∧ ∀ c, c ≠ 102 → J' c = J c := by
  have hN := hX.1
  intro k
  induction k with
  | zero =>
    intro n fu J hp hfu h1 h5 h4 h8
    obtain ⟨fu, rfl⟩ : ∃ n', fu = n' + 1 := ⟨fu - 1, by omega⟩
    have hXJ : RTx T N J := ⟨hX.1, fun i hi => by rw [h1]; exact hX.2.1 i hi, hX.2.2⟩
    refine ⟨J, ?_, h8, fun _ _ => rfl, fun _ _ => rfl⟩
    have e : ¬ (q + n < N ∧ isDi (T (q + n)) = true) := by omega
    simp only [x11_token_L144, x11_token_L144s, xr_here hXJ (show q ≤ N by omega) (show n < 1700 by omega) h4 h5, q_b1, xr_dig (I := J) (hX.2.2 (q + n)), if_neg e, if_true]
    rfl
  | succ k ih =>
    intro n fu J hp hfu h1 h5 h4 h8
    obtain ⟨fu, rfl⟩ : ∃ n', fu = n' + 1 := ⟨fu - 1, by omega⟩
    have hXJ : RTx T N J := ⟨hX.1, fun i hi => by rw [h1]; exact hX.2.1 i hi, hX.2.2⟩
    have hb := hX.2.2 (q + n) (by omega)
    simp only [x11_token_L144, x11_token_L144s, xr_here hXJ (show q ≤ N by omega) (show n < 1700 by omega) h4 h5, q_b1, xr_dig (I := J) (hX.2.2 (q + n)), rn]
    by_cases e1 : isDi (T (q + n)) = true
    · have g := isDi_i.mp e1
      have e : q + n < N ∧ isDi (T (q + n)) = true := ⟨by omega, e1⟩
      rw [if_pos e, if_neg (by decide), if_pos e1]
      have e2 : hv T N (q + n) = Int32.ofNat (T (q + n)) := by rw [hv, if_pos e.1]
      by_cases h4' : n < 4
      · have ev : 10 * J 102 8 + hv T N (q + n) - 48 = Int32.ofNat (dgv T q (n + 1)) := by
          rw [h8 (by omega), e2, q_nmul, q_add, q_subn (by have := g.1; show 48 ≤ _; omega)]
          congr 1
          simp only [dgv]
          show 10 * dgv T q n + T (q + n) - 48 = _
          omega
        obtain ⟨J', a1, a2, a3, a4⟩ := ih (n + 1) fu (wI J 102 8 (Int32.ofNat (dgv T q (n + 1)))) (by omega) (by omega) (by rw [wI_c (by omega)]; exact h1) (by rw [wI_ne (by omega)]; exact h5) (by rw [wI_ne (by omega)]; exact h4) (fun _ => wI_at)
        rw [show q + (n + 1) = q + n + 1 by omega] at a1 a2
        refine ⟨J', ?_, ?_, fun j hj => by rw [a3 j hj, wI_ne (by omega)], fun c hc => by rw [a4 c hc, wI_c hc]⟩
        · simp (disch := omega) only [q_ltn, if_pos h4', ev, q_l, q_addn]
          rw [a1, show n + 1 + rn isDi T k (q + n + 1) = n + (rn isDi T k (q + n + 1) + 1) by omega]
        · intro h
          rw [a2 (by omega), show n + 1 + rn isDi T k (q + n + 1) = n + (rn isDi T k (q + n + 1) + 1) by omega]
      · obtain ⟨J', a1, a2, a3, a4⟩ := ih (n + 1) fu J (by omega) (by omega) h1 h5 h4 (fun h => by omega)
        rw [show q + (n + 1) = q + n + 1 by omega] at a1 a2
        refine ⟨J', ?_, fun h => by omega, a3, a4⟩
        simp (disch := omega) only [q_ltn, if_neg h4', q_l, q_addn]
        rw [a1, show n + 1 + rn isDi T k (q + n + 1) = n + (rn isDi T k (q + n + 1) + 1) by omega]
    · have e : ¬ (q + n < N ∧ isDi (T (q + n)) = true) := fun h => e1 h.2
      rw [if_neg e, if_pos rfl, if_neg e1]
      exact ⟨J, rfl, h8, fun _ _ => rfl, fun _ _ => rfl⟩
end RLX
