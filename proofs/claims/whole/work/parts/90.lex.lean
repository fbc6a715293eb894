/-! THE TEXT: the class's next token -/
section CLX
variable {T : Nat → Nat} {N q p : Nat} {I I' : MI} {L L' : ML}
theorem sx8_sg : ∀ c, c < 256 → isSg c = true → sx8 c = Int32.ofNat c := by decide +kernel
theorem sx8_ns' : ∀ c, c < 256 → isSg c = false → (sx8 c == 37 || sx8 c == 40 || sx8 c == 41 || sx8 c == 42 || sx8 c == 43 || sx8 c == 45 || sx8 c == 47 || sx8 c == 59 || sx8 c == 60 || sx8 c == 61 || sx8 c == 62) = false := by decide +kernel
theorem sx8_ns (c : Nat) (h1 : c < 256) (h2 : isSg c = false) : sx8 c ≠ 37 ∧ sx8 c ≠ 40 ∧ sx8 c ≠ 41 ∧ sx8 c ≠ 42 ∧ sx8 c ≠ 43 ∧ sx8 c ≠ 45 ∧ sx8 c ≠ 47 ∧ sx8 c ≠ 59 ∧ sx8 c ≠ 60 ∧ sx8 c ≠ 61 ∧ sx8 c ≠ 62 := by
  have h := sx8_ns' c h1 h2
  simp only [Bool.or_eq_false_iff, beq_eq_false_iff_ne] at h
  exact ⟨h.1.1.1.1.1.1.1.1.1.1, h.1.1.1.1.1.1.1.1.1.2, h.1.1.1.1.1.1.1.1.2, h.1.1.1.1.1.1.1.2, h.1.1.1.1.1.1.2, h.1.1.1.1.1.2, h.1.1.1.1.2, h.1.1.1.2, h.1.1.2, h.1.2, h.2⟩
theorem isSg_c {c : Nat} (h : isSg c = true) : c = 37 ∨ c = 40 ∨ c = 41 ∨ c = 42 ∨ c = 43 ∨ c = 45 ∨ c = 47 ∨ c = 59 ∨ c = 60 ∨ c = 61 ∨ c = 62 := by
  simp only [isSg, Bool.or_eq_true, beq_iff_eq] at h
  omega
theorem c_sign1 {v : Int32} (hq : q < 1600) (h3 : I 21 3 = Int32.ofNat q) (h1 : I 1 q = v) (h : v = 37 ∨ v = 40 ∨ v = 41 ∨ v = 42 ∨ v = 43 ∨ v = 45 ∨ v = 47 ∨ v = 59 ∨ v = 60 ∨ v = 61 ∨ v = 62) : x3_readSign I = some (wI (wI I 21 4 v) 21 3 (Int32.ofNat (q + 1))) := by
  have e3 : wI I 21 4 v 21 3 = Int32.ofNat q := by rw [wI_ne (by omega)]; exact h3
  have e4 : Int32.ofNat (q + 1) = wI I 21 4 v 21 3 + 1 := by rw [e3, q_addn]
  rw [e4]
  unfold x3_readSign
  rw [h3, q_in (by omega) (by omega), q_ck, show ix (Int32.ofNat q) = q from q_ix (by omega), q_l, h1]
  rcases h with rfl | rfl | rfl | rfl | rfl | rfl | rfl | rfl | rfl | rfl | rfl <;> (repeat (first | rw [if_pos rfl] | rw [if_neg (by decide)])) <;> rfl
theorem c_sign2 {v : Int32} (hq : q < 1600) (h3 : I 21 3 = Int32.ofNat q) (h1 : I 1 q = v) (h : v ≠ 37 ∧ v ≠ 40 ∧ v ≠ 41 ∧ v ≠ 42 ∧ v ≠ 43 ∧ v ≠ 45 ∧ v ≠ 47 ∧ v ≠ 59 ∧ v ≠ 60 ∧ v ≠ 61 ∧ v ≠ 62) : x3_readSign I = some (wI I 21 4 29) := by
  obtain ⟨a1, a2, a3, a4, a5, a6, a7, a8, a9, a10, a11⟩ := h
  unfold x3_readSign
  rw [h3, q_in (by omega) (by omega), q_ck, show ix (Int32.ofNat q) = q from q_ix (by omega), q_l, h1]
  simp only [q_l, if_neg a1, if_neg a2, if_neg a3, if_neg a4, if_neg a5, if_neg a6, if_neg a7, if_neg a8, if_neg a9, if_neg a10, if_neg a11, ite_self]
theorem tkq_le (h : p ≤ N) : p ≤ tkq T N p ∧ tkq T N p ≤ N := by
  have := skp_le (T := T) (N - p) p
  simp only [tkq]; omega
theorem c_next1 (hX : CTx T N I) (hL : CWd L) (hp : p ≤ N) (h2 : I 21 2 = Int32.ofNat N) (h3 : I 21 3 = Int32.ofNat p) : ∃ I' L', x3_next I L = some (I', L') ∧ CLx T N (tkq T N p) I' L' ∧ (∀ c, c ≠ 21 → I' c = I c) ∧ ∀ c, c ≠ 21 → L' c = L c := by
  have hN := hX.1
  obtain ⟨J1, a1, a2, a3, a4⟩ := c_skL hX (N - p) p FU I (by omega) (by unfold FU; omega) rfl h2 h3
  have ha2 : J1 21 3 = Int32.ofNat (tkq T N p) := a2
  have hq := (tkq_le (T := T) hp).2
  generalize hqq : tkq T N p = q at *
  generalize hJ : wI J1 21 5 (Int32.ofNat q) = J2
  have z2 : J2 21 2 = Int32.ofNat N := by rw [← hJ, wI_ne (by omega), a3 2 (by omega)]; exact h2
  have z3 : J2 21 3 = Int32.ofNat q := by rw [← hJ, wI_ne (by omega)]; exact ha2
  have z5 : J2 21 5 = Int32.ofNat q := by rw [← hJ, wI_at]
  have zf : ∀ c, c ≠ 21 → J2 c = I c := fun c hc => by rw [← hJ, wI_c hc, a4 c hc]
  have hX2 : CTx T N J2 := ⟨hN, fun i hi => by rw [zf 1 (by omega)]; exact hX.2.1 i hi, hX.2.2⟩
  have head : ∀ o, (if Int32.ofNat q < Int32.ofNat N then (ck (vp_in (Int32.ofNat q) 1600) <| if J2 1 q < 97 then (if J2 1 q < 48 then b1 (x3_readSign J2) (fun I9 => some (I9, L)) else if 57 < J2 1 q then b1 (x3_readSign J2) (fun I11 => some (I11, L)) else b1 (x3_readNumber J2) (fun I12 => some (I12, L))) else if 122 < J2 1 q then (if J2 1 q < 48 then b1 (x3_readSign J2) (fun I15 => some (I15, L)) else if 57 < J2 1 q then b1 (x3_readSign J2) (fun I17 => some (I17, L)) else b1 (x3_readNumber J2) (fun I18 => some (I18, L))) else b2 (x3_readWord J2 L) (fun I19 L20 => some (I19, L20))) else some (wI J2 21 4 28, L)) = o → x3_next I L = o := by
    intro o ho
    rw [← ho]
    simp only [x3_next, q_b1, q_l, a1, ha2, hJ, z2, z3]
    by_cases hqN : q < N
    · simp (disch := omega) only [QN, QB]
    · simp (disch := omega) only [QN, if_neg hqN]
  by_cases hqN : q < N
  · have hb := hX.2.2 q hqN
    have hp1 : J2 1 q = sx8 (T q) := hX2.2.1 q hqN
    obtain ⟨s1, s2, s3, s4, -, -, s7⟩ := sx8_c (T q) hb
    have hq16 : q < 1600 := by omega
    have sgn : isLe (T q) = false → isDi (T q) = false → ∃ I', x3_readSign J2 = some I' ∧ CLx T N q I' L ∧ ∀ c, c ≠ 21 → I' c = J2 c := by
      intro hl hd
      have es : tks T N q = if isSg (T q) = true then T q else 29 := by simp only [tks, if_pos hqN, hl, hd, Bool.false_eq_true, if_false]
      have ee : tke T N q = q + 1 := by simp only [tke, if_pos hqN, hl, hd, Bool.false_eq_true, if_false]
      by_cases hs : isSg (T q) = true
      · rw [if_pos hs] at es
        have hc := isSg_c hs
        have hv := sx8_sg (T q) hb hs
        refine ⟨_, c_sign1 hq16 z3 hp1 ?_, ⟨by rw [wI_ne (by omega), wI_ne (by omega)]; exact z2, by rw [wI_ne (by omega), wI_ne (by omega)]; exact z5, by rw [wI_ne (by omega), wI_at, es, hv], fun _ => by rw [wI_at, ee], fun h => by omega, fun h => by omega⟩, fun c hc => by rw [wI_c hc, wI_c hc]⟩
        rw [hv]
        rcases hc with e | e | e | e | e | e | e | e | e | e | e <;> rw [e] <;> decide
      · have hs' : isSg (T q) = false := by simpa using hs
        rw [if_neg hs] at es
        exact ⟨_, c_sign2 hq16 z3 hp1 (sx8_ns (T q) hb hs'), ⟨by rw [wI_ne (by omega)]; exact z2, by rw [wI_ne (by omega)]; exact z5, by rw [wI_at, es]; rfl, fun h => absurd es h, fun h => by omega, fun h => by omega⟩, fun c hc => by rw [wI_c hc]⟩
    by_cases hl : isLe (T q) = true
    · have g := isLe_i.mp hl
      obtain ⟨I', L', b1', b2', b3', b4'⟩ := c_word hX2 hL hqN hl z2 z3 z5
      refine ⟨I', L', head _ ?_, b2', fun c hc => by rw [b3' c hc, zf c hc], b4'⟩
      simp (disch := omega) only [QN, QB, if_pos hqN, hp1, s1, s2]
      rw [if_neg (by omega), if_neg (by omega)]
      simp only [b1', QB]
    · have hl' : isLe (T q) = false := by simpa using hl
      have gl : ¬ (97 ≤ T q ∧ T q ≤ 122) := fun h => hl (isLe_i.mpr h)
      by_cases hd : isDi (T q) = true
      · have g := isDi_i.mp hd
        obtain ⟨I', b1', b2', b3'⟩ := c_numb (L := L) hX2 hqN hd z2 z3 z5
        refine ⟨I', L, head _ ?_, b2', fun c hc => by rw [b3' c hc, zf c hc], fun _ _ => rfl⟩
        simp (disch := omega) only [QN, QB, if_pos hqN, hp1, s1, s2, s3, s4]
        rw [if_pos (by omega), if_neg (by omega), if_neg (by omega)]
        simp only [b1', QB]
      · have hd' : isDi (T q) = false := by simpa using hd
        have gd : ¬ (48 ≤ T q ∧ T q ≤ 57) := fun h => hd (isDi_i.mpr h)
        obtain ⟨I', b1', b2', b3'⟩ := sgn hl' hd'
        refine ⟨I', L, head _ ?_, b2', fun c hc => by rw [b3' c hc, zf c hc], fun _ _ => rfl⟩
        simp (disch := omega) only [QN, QB, if_pos hqN, hp1, s1, s2, s3, s4, b1']
        by_cases e1 : T q < 97 ∨ 128 ≤ T q
        · rw [if_pos e1]
          by_cases e2 : T q < 48 ∨ 128 ≤ T q
          · rw [if_pos e2]
          · rw [if_neg e2, if_pos (by omega)]
        · rw [if_neg e1, if_pos (by omega), if_neg (by omega), if_pos (by omega)]
  · have es : tks T N q = 28 := by simp only [tks, if_neg hqN]
    have ee : tke T N q = q := by simp only [tke, if_neg hqN]
    refine ⟨wI J2 21 4 28, L, head _ ?_, ⟨by rw [wI_ne (by omega)]; exact z2, by rw [wI_ne (by omega)]; exact z5, by rw [wI_at, es]; rfl, fun _ => by rw [wI_ne (by omega), ee]; exact z3, fun h => by omega, fun h => by omega⟩, fun c hc => by rw [wI_c hc, zf c hc], fun _ _ => rfl⟩
    simp (disch := omega) only [QN, if_neg hqN]
theorem tke_le (hq : q ≤ N) : q ≤ tke T N q ∧ tke T N q ≤ N := by
  have h1 : tlw T N q ≤ N - q := rn_le _ _
  have h2 : tld T N q ≤ N - q := rn_le _ _
  simp only [tke]
  split
  · split
    · omega
    · split <;> omega
  · omega
/-- where the token behind the one at q stands -/
def tkn (T : Nat → Nat) (N q : Nat) : Nat := tkq T N (tke T N q)
theorem tkn_le (hq : q ≤ N) : q ≤ tkn T N q ∧ tkn T N q ≤ N := by
  have h1 := tke_le (T := T) hq
  have h2 := tkq_le (T := T) h1.2
  simp only [tkn]; omega
theorem tkn_lt (hq : q ≤ N) (h : tks T N q ≠ 28) : q < tkn T N q := by
  have h1 := tke_le (T := T) hq
  have h2 := tkq_le (T := T) h1.2
  have h3 : q < tke T N q := by
    have hqN : q < N := by
      by_cases e : q < N
      · exact e
      · exact absurd (by simp only [tks, if_neg e]) h
    obtain ⟨k, hk⟩ : ∃ k, N - q = k + 1 := ⟨N - q - 1, by omega⟩
    simp only [tke, if_pos hqN]
    by_cases hl : isLe (T q) = true
    · rw [if_pos hl]
      simp only [tlw, hk, rn, hl, if_true]; omega
    · rw [if_neg hl]
      by_cases hd : isDi (T q) = true
      · rw [if_pos hd]
        simp only [tld, hk, rn, hd, if_true]; omega
      · rw [if_neg hd]; omega
  simp only [tkn]; omega
theorem c_nxt (hX : CTx T N I) (hL : CWd L) (hq : q ≤ N) (h : CLx T N q I L) (hs : tks T N q ≠ 29) : ∃ I' L', x3_next I L = some (I', L') ∧ CLx T N (tkn T N q) I' L' ∧ (∀ c, c ≠ 21 → I' c = I c) ∧ ∀ c, c ≠ 21 → L' c = L c :=
  c_next1 hX hL (tke_le hq).2 h.1 (h.2.2.2.1 hs)
end CLX
