/-! THE TEXT: the reference's next token, words -/
section RLX
variable {T : Nat → Nat} {N q p : Nat} {I I' : MI} {L L' : ML}
theorem dgv_le : ∀ n, (∀ i, i < n → T (q + i) ≤ 57) → dgv T q n < 10 ^ n
  | 0, _ => by simp [dgv]
  | n + 1, h => by
    have ih := dgv_le n (fun i hi => h i (by omega))
    have := h n (by omega)
    simp only [dgv, Nat.pow_succ]
    omega
theorem tkv_le (h : tks T N q = 27) : tkv T N q ≤ 9999 := by
  have h4 : ¬ 4 < tld T N q := by
    intro h4
    simp only [tks] at h
    split at h
    · split at h
      · split at h
        · omega
        · have := kwf_le (twl T N q); omega
      · split at h
        · rw [if_pos (Or.inl h4)] at h; omega
        · split at h
          · next hs => rw [h] at hs; exact absurd hs (by decide)
          · omega
    · omega
  have h1 := dgv_le (T := T) (q := q) (tld T N q) (fun i hi => (isDi_i.mp (rn_all (g := isDi) (T := T) (N - q) q i hi)).2)
  have h2 : 10 ^ tld T N q ≤ 10 ^ 4 := Nat.pow_le_pow_right (by omega) (by omega)
  have h3 : (10 : Nat) ^ 4 = 10000 := by decide
  simp only [tkv]; omega
theorem tks_lt (hB : q < N → T q < 256) : tks T N q < 256 := by
  simp only [tks]
  split
  · next hqN =>
    have := hB hqN
    have := kwf_le (twl T N q)
    split
    · split <;> omega
    · split
      · split <;> omega
      · split <;> omega
  · omega
theorem rcd_3 {s : Nat} (h : s ≠ 29) : rcd s ≠ 3 := by
  simp only [rcd, if_neg h]
  split
  · omega
  · split
    · omega
    · split <;> omega
theorem rcd_lt {s : Nat} (h : s < 256) : rcd s < 256 := by
  simp only [rcd]
  split
  · omega
  · split
    · omega
    · split
      · omega
      · split <;> omega
theorem e256_w (h : ¬ 8 < tlw T N q) : enc 256 (fun i => T (q + i)) (tlw T N q) = e256 (twl T N q) := by
  obtain ⟨h1, h2, h3⟩ := twl_ok h
  rw [e256, h2]
  exact enc_congr _ (fun i hi => (h3 i hi).symm)
theorem r_tok (hX : RTx T N I) (hp : p ≤ N) (h5 : I 102 5 = Int32.ofNat N) (h4 : I 102 4 = Int32.ofNat p) : ∃ I' L', x11_token I L = some (I', L') ∧ RLx T N (tkq T N p) I' L' ∧ RFr I I' ∧ LFr L L' := by
  have hN := hX.1
  obtain ⟨J1, a1, a2, a3, a4⟩ := xr_skL hX (N - p) p FU I (by omega) (by unfold FU; omega) rfl h5 h4
  have ha2 : J1 102 4 = Int32.ofNat (tkq T N p) := a2
  have hq := (tkq_le (T := T) hp).2
  generalize hqq : tkq T N p = q at *
  generalize hJ : wI J1 102 7 (Int32.ofNat q) = J2
  generalize hJ3 : wI J2 102 8 0 = J3
  have hM : LFr L (wL L 102 9 0) := ⟨fun c hc => wL_c hc, fun j hj => wL_ne (by omega)⟩
  have hM9 : wL L 102 9 0 102 9 = 0 := wL_at
  generalize hMM : wL L 102 9 0 = M at hM hM9
  have fr1 : RFr I J2 := by
    refine ⟨fun c hc => by rw [← hJ, wI_c hc, a4 c hc], fun j g1 g2 g3 g4 => by rw [← hJ, wI_ne (by omega), a3 j g1]⟩
  have fr2 : RFr I J3 := fr1.trans (by rw [← hJ3]; exact RFr.w (by omega))
  have z4 : J3 102 4 = Int32.ofNat q := by rw [← hJ3, wI_ne (by omega), ← hJ, wI_ne (by omega)]; exact ha2
  have z5 : J3 102 5 = Int32.ofNat N := by rw [fr2.2 5 (by omega) (by omega) (by omega) (by omega)]; exact h5
  have z7 : J3 102 7 = Int32.ofNat q := by rw [← hJ3, wI_ne (by omega), ← hJ, wI_at]
  have z8 : J3 102 8 = Int32.ofNat 0 := by rw [← hJ3, wI_at]; rfl
  have y4 : J2 102 4 = Int32.ofNat q := by rw [← hJ, wI_ne (by omega)]; exact ha2
  have y5 : J2 102 5 = Int32.ofNat N := by rw [fr1.2 5 (by omega) (by omega) (by omega) (by omega)]; exact h5
  have hX2 : RTx T N J2 := ⟨hN, fun i hi => by rw [fr1.1 103 (by omega)]; exact hX.2.1 i hi, hX.2.2⟩
  have hX3 : RTx T N J3 := ⟨hN, fun i hi => by rw [fr2.1 103 (by omega)]; exact hX.2.1 i hi, hX.2.2⟩
  have hB := hX.2.2 q
  have fin : ∀ {J4 : MI} {M4 : ML} {n c : Nat}, RFr J3 J4 → LFr M M4 → J4 102 4 = Int32.ofNat q → J4 102 7 = Int32.ofNat q → J4 102 6 = Int32.ofNat (rcd (tks T N q)) → (tks T N q ≠ 29 → q + n = tke T N q) → (tks T N q = 27 → J4 102 8 = Int32.ofNat (tkv T N q)) → (tks T N q ≤ 26 → M4 102 9 = Int64.ofNat (e256 (twl T N q))) → ∃ I' L', (if J4 102 6 = 3 then some (J4, M4) else lt (wI J4 102 4 ((J4 102 4) + Int32.ofNat n)) fun I41 => some (I41, M4)) = some (I', L') ∧ RLx T N q I' L' ∧ RFr I I' ∧ LFr L L' := by
    intro J4 M4 n c k1 k2 k4 k7 k6 kn k8 k9
    have t5 : J4 102 5 = Int32.ofNat N := by rw [k1.2 5 (by omega) (by omega) (by omega) (by omega)]; exact z5
    by_cases hs : tks T N q = 29
    · refine ⟨J4, M4, ?_, ⟨t5, k7, k6, by rw [if_pos hs]; exact k4, k8, k9⟩, fr2.trans k1, hM.trans k2⟩
      rw [if_pos (by rw [k6, hs]; decide)]
    · have hr := rcd_lt (tks_lt hB)
      refine ⟨wI J4 102 4 (Int32.ofNat (q + n)), M4, ?_, ⟨by rw [wI_ne (by omega)]; exact t5, by rw [wI_ne (by omega)]; exact k7, by rw [wI_ne (by omega)]; exact k6, by rw [wI_at, if_neg hs, kn hs], fun h => by rw [wI_ne (by omega)]; exact k8 h, k9⟩, (fr2.trans k1).trans (RFr.w (by omega)), hM.trans k2⟩
      rw [if_neg (by rw [k6, q_eqn (by omega) (by omega)]; exact rcd_3 hs), q_l, k4, q_add]
  have go : ∀ (n : Int32) (J4 : MI) (M4 : ML), (if hv T N q < 0 then (lt (wI J3 102 6 (0 : Int32)) fun I40 => some ((0 : Int32), I40, M)) else b1 (x11_isLetter (hv T N q) J3) fun r13 => if r13 = 0 then (b1 (x11_isDigit (hv T N q) J3) fun r14 => if r14 = 0 then (lt (1 : Int32) fun v15 => b1 (x11_isSign (hv T N q) J3) fun r16 => if r16 = 0 then (lt (wI J3 102 6 (3 : Int32)) fun I17 => some (v15, I17, M)) else lt (wI J3 102 6 (hv T N q)) fun I18 => some (v15, I18, M)) else b1 (x11_token_L144 FU 0 J3) fun e25 => if 4 < e25.1 then (lt (wI e25.2 102 6 (3 : Int32)) fun I26 => some (e25.1, I26, M)) else b1 (x11_here e25.1 e25.2) fun r27 => b1 (x11_isLetter r27 e25.2) fun r28 => if r28 = 0 then (lt (wI e25.2 102 6 (2 : Int32)) fun I29 => some (e25.1, I29, M)) else lt (wI e25.2 102 6 (3 : Int32)) fun I30 => some (e25.1, I30, M)) else b1 (x11_token_L78 J3 FU 0 M) fun e37 => if 8 < e37.1 then (lt (wI J3 102 6 (3 : Int32)) fun I39 => some (e37.1, I39, e37.2)) else lt (wI J3 102 6 (1 : Int32)) fun I38 => some (e37.1, I38, e37.2)) = some (n, J4, M4) → x11_token I L = (if J4 102 6 = 3 then some (J4, M4) else lt (wI J4 102 4 (J4 102 4 + n)) fun I41 => some (I41, M4)) := by
    intro n J4 M4 h2
    simp only [q_l] at h2
    simp only [x11_token, a1, q_b1, q_l, ha2, hJ, xr_here0 hX2 hq y4 y5, hMM, hJ3, h2]
  have z6 : ∀ (J : MI) v, J 102 4 = Int32.ofNat q → J 102 7 = Int32.ofNat q → wI J 102 6 v 102 4 = Int32.ofNat q ∧ wI J 102 6 v 102 7 = Int32.ofNat q := fun J v k1 k2 => ⟨by rw [wI_ne (by omega)]; exact k1, by rw [wI_ne (by omega)]; exact k2⟩
  by_cases hqN : q < N
  · have hb := hB hqN
    have eh : hv T N q = Int32.ofNat (T q) := by rw [hv, if_pos hqN]
    have n0 : ¬ hv T N q < 0 := by rw [eh, q_neg (by omega)]; exact id
    by_cases hl : isLe (T q) = true
    · have eL : x11_isLetter (hv T N q) J3 = some 1 := by rw [xr_let hB, if_pos ⟨hqN, hl⟩]
      have es : tks T N q = if 8 < tlw T N q then 29 else kwf (twl T N q) 26 := by simp only [tks, if_pos hqN, hl, if_true]
      have ee : tke T N q = q + tlw T N q := by simp only [tke, if_pos hqN, hl, if_true]
      have hle : tlw T N q ≤ N - q := rn_le _ _
      obtain ⟨M', b1', b2', b3'⟩ := xr_wdL hX3 z5 z4 (N - q) 0 FU M (by omega) (by unfold FU; omega) (fun _ => hM9)
      have hn : rn isLe T (N - q) (q + 0) = tlw T N q := rfl
      rw [hn, Nat.zero_add] at b1' b2'
      rw [show Int32.ofNat 0 = 0 from rfl] at b1'
      by_cases h8 : 8 < tlw T N q
      · rw [if_pos h8] at es
        rw [go (Int32.ofNat (tlw T N q)) (wI J3 102 6 3) M' (by rw [if_neg n0, eL, q_b1, if_neg (by decide), b1', q_b1, if_pos (by rw [q_nlt (by omega) (by omega)]; exact h8)]; rfl)]
        exact fin (c := 0) (RFr.w (by omega)) b3' (z6 _ _ z4 z7).1 (z6 _ _ z4 z7).2 (by rw [wI_at, es]; rfl) (fun h => absurd es h) (fun h => by omega) (fun h => by omega)
      · rw [if_neg h8] at es
        have hk := kwf_le (twl T N q)
        rw [go (Int32.ofNat (tlw T N q)) (wI J3 102 6 1) M' (by rw [if_neg n0, eL, q_b1, if_neg (by decide), b1', q_b1, if_neg (by rw [q_nlt (by omega) (by omega)]; exact h8)]; rfl)]
        exact fin (c := 0) (RFr.w (by omega)) b3' (z6 _ _ z4 z7).1 (z6 _ _ z4 z7).2 (by rw [wI_at, rcd, if_pos (by omega)]; rfl) (fun h => ee.symm) (fun h => by omega) (fun h => by rw [b2' (by omega), e256_w h8])
    · have eL : x11_isLetter (hv T N q) J3 = some 0 := by rw [xr_let hB, if_neg (fun h => hl h.2)]
      have hl' : isLe (T q) = false := by simpa using hl
      by_cases hd : isDi (T q) = true
      · have eD : x11_isDigit (hv T N q) J3 = some 1 := by rw [xr_dig hB, if_pos ⟨hqN, hd⟩]
        have es : tks T N q = if 4 < tld T N q ∨ (q + tld T N q < N ∧ isLe (T (q + tld T N q)) = true) then 29 else 27 := by simp only [tks, if_pos hqN, hl', hd, if_true, Bool.false_eq_true, if_false]
        have ee : tke T N q = q + tld T N q := by simp only [tke, if_pos hqN, hl', hd, if_true, Bool.false_eq_true, if_false]
        have hle : tld T N q ≤ N - q := rn_le _ _
        obtain ⟨J4, b1', b2', b3', b4'⟩ := xr_nbL hX3 (N - q) 0 FU J3 (by omega) (by unfold FU; omega) rfl z5 z4 (fun _ => z8)
        have hn : rn isDi T (N - q) (q + 0) = tld T N q := rfl
        rw [hn, Nat.zero_add] at b1' b2'
        rw [show Int32.ofNat 0 = 0 from rfl] at b1'
        have f1 : RFr J3 J4 := ⟨b4', fun j _ _ _ h => b3' j h⟩
        have g4 : J4 102 4 = Int32.ofNat q := by rw [b3' 4 (by omega)]; exact z4
        have g5 : J4 102 5 = Int32.ofNat N := by rw [b3' 5 (by omega)]; exact z5
        have g7 : J4 102 7 = Int32.ofNat q := by rw [b3' 7 (by omega)]; exact z7
        have hX4 : RTx T N J4 := ⟨hN, fun i hi => by rw [b4' 103 (by omega)]; exact hX3.2.1 i hi, hX.2.2⟩
        by_cases h4' : 4 < tld T N q
        · rw [if_pos (Or.inl h4')] at es
          rw [go (Int32.ofNat (tld T N q)) (wI J4 102 6 3) M (by rw [if_neg n0, eL, q_b1, if_pos rfl, eD, q_b1, if_neg (by decide), b1', q_b1, if_pos (by rw [q_nlt (by omega) (by omega)]; exact h4')]; rfl)]
          exact fin (c := 0) (f1.trans (RFr.w (by omega))) LFr.refl (z6 _ _ g4 g7).1 (z6 _ _ g4 g7).2 (by rw [wI_at, es]; rfl) (fun h => absurd es h) (fun h => by omega) (fun h => by omega)
        · have hh := xr_here hX4 (n := tld T N q) hq (by omega) g4 g5
          by_cases hbe : q + tld T N q < N ∧ isLe (T (q + tld T N q)) = true
          · have eb : x11_isLetter (hv T N (q + tld T N q)) J4 = some 1 := by rw [xr_let (hX.2.2 _), if_pos hbe]
            rw [if_pos (Or.inr hbe)] at es
            rw [go (Int32.ofNat (tld T N q)) (wI J4 102 6 3) M (by rw [if_neg n0, eL, q_b1, if_pos rfl, eD, q_b1, if_neg (by decide), b1', q_b1, if_neg (by rw [q_nlt (by omega) (by omega)]; exact h4'), hh, q_b1, eb, q_b1, if_neg (by decide)]; rfl)]
            exact fin (c := 0) (f1.trans (RFr.w (by omega))) LFr.refl (z6 _ _ g4 g7).1 (z6 _ _ g4 g7).2 (by rw [wI_at, es]; rfl) (fun h => absurd es h) (fun h => by omega) (fun h => by omega)
          · have eb : x11_isLetter (hv T N (q + tld T N q)) J4 = some 0 := by rw [xr_let (hX.2.2 _), if_neg hbe]
            rw [if_neg (by intro h; rcases h with h | h; exact h4' h; exact hbe h)] at es
            rw [go (Int32.ofNat (tld T N q)) (wI J4 102 6 2) M (by rw [if_neg n0, eL, q_b1, if_pos rfl, eD, q_b1, if_neg (by decide), b1', q_b1, if_neg (by rw [q_nlt (by omega) (by omega)]; exact h4'), hh, q_b1, eb, q_b1, if_pos rfl]; rfl)]
            exact fin (c := 0) (f1.trans (RFr.w (by omega))) LFr.refl (z6 _ _ g4 g7).1 (z6 _ _ g4 g7).2 (by rw [wI_at, es]; rfl) (fun h => ee.symm) (fun h => by rw [wI_ne (by omega), b2' (by omega)]; rfl) (fun h => by omega)
      · have eD : x11_isDigit (hv T N q) J3 = some 0 := by rw [xr_dig hB, if_neg (fun h => hd h.2)]
        have hd' : isDi (T q) = false := by simpa using hd
        have es : tks T N q = if isSg (T q) = true then T q else 29 := by simp only [tks, if_pos hqN, hl', hd', Bool.false_eq_true, if_false]
        have ee : tke T N q = q + 1 := by simp only [tke, if_pos hqN, hl', hd', Bool.false_eq_true, if_false]
        by_cases hs : isSg (T q) = true
        · have eS : x11_isSign (Int32.ofNat (T q)) J3 = some 1 := by rw [xr_sgn hb, if_pos hs]
          rw [if_pos hs] at es
          have hc := isSg_c hs
          rw [go (Int32.ofNat 1) (wI J3 102 6 (Int32.ofNat (T q))) M (by rw [if_neg n0, eL, q_b1, if_pos rfl, eD, q_b1, if_pos rfl, q_l, eh, eS, q_b1, if_neg (by decide)]; rfl)]
          exact fin (c := 0) (RFr.w (by omega)) LFr.refl (z6 _ _ z4 z7).1 (z6 _ _ z4 z7).2 (by rw [wI_at, es, rcd, if_neg (by omega), if_neg (by omega), if_neg (by omega), if_neg (by omega)]) (fun h => ee.symm) (fun h => by omega) (fun h => by omega)
        · have eS : x11_isSign (Int32.ofNat (T q)) J3 = some 0 := by rw [xr_sgn hb, if_neg hs]
          rw [if_neg hs] at es
          rw [go (Int32.ofNat 1) (wI J3 102 6 3) M (by rw [if_neg n0, eL, q_b1, if_pos rfl, eD, q_b1, if_pos rfl, q_l, eh, eS, q_b1, if_pos rfl]; rfl)]
          exact fin (c := 0) (RFr.w (by omega)) LFr.refl (z6 _ _ z4 z7).1 (z6 _ _ z4 z7).2 (by rw [wI_at, es]; rfl) (fun h => absurd es h) (fun h => by omega) (fun h => by omega)
  · have es : tks T N q = 28 := by simp only [tks, if_neg hqN]
    have ee : tke T N q = q := by simp only [tke, if_neg hqN]
    have eh : hv T N q = -1 := by rw [hv, if_neg hqN]
    rw [go (Int32.ofNat 0) (wI J3 102 6 0) M (by rw [eh, if_pos (by decide)]; rfl)]
    exact fin (c := 0) (RFr.w (by omega)) LFr.refl (z6 _ _ z4 z7).1 (z6 _ _ z4 z7).2 (by rw [wI_at, es]; rfl) (fun h => ee.symm) (fun h => by omega) (fun h => by omega)
/-- the token behind the one at q -/
theorem r_nxt (hX : RTx T N I) (hq : q ≤ N) (h : RLx T N q I L) : ∃ I' L', x11_token I L = some (I', L') ∧ RLx T N (if tks T N q = 29 then tkq T N q else tkn T N q) I' L' ∧ RFr I I' ∧ LFr L L' := by
  by_cases hs : tks T N q = 29
  · rw [if_pos hs]
    exact r_tok hX hq h.1 (by rw [h.2.2.2.1, if_pos hs])
  · rw [if_neg hs]
    exact r_tok hX (tke_le hq).2 h.1 (by rw [h.2.2.2.1, if_neg hs])
theorem kw256 : ∀ i, i < 26 → OKW (kwl.getD i []) := kwl_ok
/-- is it this word of the language? -/
theorem r_isW (hB : q < N → T q < 256) (h : RLx T N q I L) {i : Nat} {v : Int64} (hi : i < 26) (hv : v = Int64.ofNat (e256 (kwl.getD i []))) : x11_isWord v I L = some (if tks T N q = i then 1 else 0) := by
  obtain ⟨h5, h7, h6, h4, h8, h9⟩ := h
  by_cases hs : tks T N q < 27
  · have hL : isLe (T q) = true ∧ ¬ 8 < tlw T N q ∧ q < N ∧ tks T N q = kwf (twl T N q) 26 := by
      simp only [tks] at hs ⊢
      by_cases hqN : q < N
      · simp only [if_pos hqN] at hs ⊢
        by_cases hl : isLe (T q) = true
        · simp only [if_pos hl] at hs ⊢
          by_cases h8 : 8 < tlw T N q
          · rw [if_pos h8] at hs; omega
          · exact ⟨hl, h8, hqN, by rw [if_neg h8]⟩
        · simp only [if_neg hl] at hs
          by_cases hd : isDi (T q) = true
          · simp only [if_pos hd] at hs
            split at hs <;> omega
          · simp only [if_neg hd] at hs
            by_cases hg : isSg (T q) = true
            · rw [if_pos hg] at hs
              have := isSg_c hg
              omega
            · rw [if_neg hg] at hs; omega
      · simp only [if_neg hqN] at hs; omega
    obtain ⟨hl, h8', hqN, hk⟩ := hL
    have hw := (twl_ok h8').1
    have e : (lg_cmp (L 102 9) v = 0) = (tks T N q = i) := by
      rw [lcmp_0, h9 (by omega), hv, e256_eq hw (kwl_ok i hi), hk]
      exact propext ⟨fun h => (kwf_iff hi).mpr h.symm, fun h => ((kwf_iff hi).mp h).symm⟩
    have e6 : I 102 6 = 1 := by rw [h6, rcd, if_pos hs]; rfl
    simp only [x11_isWord, e6, if_true, e]
    split <;> rfl
  · have h256 : I 102 6 ≠ 1 := by
      rw [h6]
      have hlt := rcd_lt (tks_lt (T := T) (N := N) (q := q) hB)
      intro e
      rw [q_eqn (by omega) (by omega)] at e
      have : rcd (tks T N q) = 1 := e
      simp only [rcd, if_neg hs] at this
      split at this
      · omega
      · split at this
        · omega
        · split at this <;> omega
    rw [if_neg (by omega), x11_isWord, if_neg h256]
end RLX
