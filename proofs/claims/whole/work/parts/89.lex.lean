/-! THE TEXT: the class's tokens -/
def CTx (T : Nat → Nat) (N : Nat) (I : MI) : Prop := N ≤ 1600 ∧ (∀ i, i < N → I 1 i = sx8 (T i)) ∧ ∀ i, i < N → T i < 256
def CWd (L : ML) : Prop := ∀ i, i < 26 → L 22 i = wdl.getD i 0
/-- the token at hand -/
def CLx (T : Nat → Nat) (N q : Nat) (I : MI) (L : ML) : Prop := I 21 2 = Int32.ofNat N ∧ I 21 5 = Int32.ofNat q ∧ I 21 4 = Int32.ofNat (tks T N q) ∧ (tks T N q ≠ 29 → I 21 3 = Int32.ofNat (tke T N q)) ∧ (tks T N q = 27 → I 21 6 = Int32.ofNat (tkv T N q)) ∧ (tks T N q ≤ 26 → L 21 7 = Int64.ofNat (e32 (twl T N q)))
def pk32 (T : Nat → Nat) (q : Nat) : Nat → Int64
  | 0 => 0
  | n + 1 => pk32 T q n * 32 + (Int32.ofNat (T (q + n)) - 97 + 1).toInt64
section CLX
variable {T : Nat → Nat} {N q : Nat} {I I' : MI} {L L' : ML}
theorem isLe_i {c : Nat} : isLe c = true ↔ 97 ≤ c ∧ c ≤ 122 := by simp [isLe]
theorem isDi_i {c : Nat} : isDi c = true ↔ 48 ≤ c ∧ c ≤ 57 := by simp [isDi]
theorem let64 : ∀ c, c < 128 → 97 ≤ c → (Int32.ofNat c - 97 + 1).toInt64 = Int64.ofNat (c - 96) := by decide +kernel
theorem pk32_e : ∀ n, (∀ i, i < n → 97 ≤ T (q + i) ∧ T (q + i) ≤ 122) → pk32 T q n = Int64.ofNat (enc 32 (fun i => T (q + i) - 96) n)
  | 0, _ => rfl
  | n + 1, h => by
    have hn := h n (by omega)
    simp only [pk32, enc]
    rw [pk32_e n (fun i hi => h i (by omega)), let64 (T (q + n)) (by omega) hn.1, show (32 : Int64) = Int64.ofNat 32 from rfl, ← Int64.ofNat_mul, ← Int64.ofNat_add]
theorem enc_congr {B : Nat} {d d' : Nat → Nat} : ∀ n, (∀ i, i < n → d i = d' i) → enc B d n = enc B d' n
  | 0, _ => rfl
  | n + 1, h => by simp only [enc, enc_congr n (fun i hi => h i (by omega)), h n (by omega)]
theorem pk32_w (h : ¬ 8 < tlw T N q) : pk32 T q (tlw T N q) = Int64.ofNat (e32 (twl T N q)) := by
  obtain ⟨h1, h2, h3⟩ := twl_ok h
  rw [pk32_e (tlw T N q) (fun i hi => isLe_i.mp (rn_all (g := isLe) (T := T) (N - q) q i hi)), e32, h2]
  congr 1
  refine enc_congr _ (fun i hi => ?_)
  have := h3 i hi
  show T (q + i) - 96 = (twl T N q).getD i 0
  omega
theorem c_skL (hX : CTx T N I) : ∀ (k p fu : Nat) (J : MI), p + k = N → k < fu → J 1 = I 1 → J 21 2 = Int32.ofNat N → J 21 3 = Int32.ofNat p → ∃ J', x3_next_L0 fu J = some J' ∧ J' 21 3 = Int32.ofNat (skp T k p) ∧ (∀ j, j ≠ 3 → J' 21 j = J 21 j) ∧ ∀ c, c ≠ 21 → J' c = J c := by
  obtain ⟨hN, hT, hB⟩ := hX
  intro k
  induction k with
  | zero =>
    intro p fu J hp hfu h1 h2 h3
    obtain ⟨fu, rfl⟩ : ∃ n', fu = n' + 1 := ⟨fu - 1, by omega⟩
    refine ⟨J, ?_, h3, fun _ _ => rfl, fun _ _ => rfl⟩
    simp (disch := omega) only [x3_next_L0, x3_next_L0s, h2, h3, QN]
    rw [if_neg (by omega)]
  | succ k ih =>
    intro p fu J hp hfu h1 h2 h3
    obtain ⟨fu, rfl⟩ : ∃ n', fu = n' + 1 := ⟨fu - 1, by omega⟩
    have hp1 : J 1 p = sx8 (T p) := by rw [h1]; exact hT p (by omega)
    obtain ⟨-, -, -, -, s5, s6, -⟩ := sx8_c (T p) (hB p (by omega))
    obtain ⟨J', a1, a2, a3, a4⟩ := ih (p + 1) fu (wI J 21 3 (Int32.ofNat (p + 1))) (by omega) (by omega) (by rw [wI_c (by omega)]; exact h1) (by rw [wI_ne (by omega)]; exact h2) wI_at
    simp (disch := omega) only [x3_next_L0, x3_next_L0s, h2, h3, QN, QB, if_pos (show p < N by omega), hp1, s5, s6, skp]
    by_cases e1 : T p = 32
    · rw [if_pos e1, if_pos (Or.inl e1)]
      exact ⟨J', a1, a2, fun j hj => by rw [a3 j hj, wI_ne (by omega)], fun c hc => by rw [a4 c hc, wI_c hc]⟩
    · by_cases e2 : T p = 10
      · rw [if_neg e1, if_pos e2, if_pos (Or.inr e2)]
        exact ⟨J', a1, a2, fun j hj => by rw [a3 j hj, wI_ne (by omega)], fun c hc => by rw [a4 c hc, wI_c hc]⟩
      · rw [if_neg e1, if_neg e2, if_neg (by omega)]
        exact ⟨J, rfl, h3, fun _ _ => rfl, fun _ _ => rfl⟩
theorem c_wdL (hX : CTx T N I) : ∀ (k n fu : Nat) (J : MI) (M : ML), q + n + k = N → k < fu → J 1 = I 1 → J 21 2 = Int32.ofNat N → J 21 3 = Int32.ofNat (q + n) → M 21 7 = pk32 T q n → ∃ J' M', x3_readWord_L5 fu J M = some (J', M') ∧ J' 21 3 = Int32.ofNat (q + (n + rn isLe T k (q + n))) ∧ M' 21 7 = pk32 T q (n + rn isLe T k (q + n)) ∧ (∀ j, j ≠ 3 → J' 21 j = J 21 j) ∧ (∀ c, c ≠ 21 → J' c = J c) ∧ ∀ c, c ≠ 21 → M' c = M c := by
  obtain ⟨hN, hT, hB⟩ := hX
  intro k
  induction k with
  | zero =>
    intro n fu J M hp hfu h1 h2 h3 h7
    obtain ⟨fu, rfl⟩ : ∃ n', fu = n' + 1 := ⟨fu - 1, by omega⟩
    refine ⟨J, M, ?_, h3, h7, fun _ _ => rfl, fun _ _ => rfl, fun _ _ => rfl⟩
    simp (disch := omega) only [x3_readWord_L5, x3_readWord_L5s, h2, h3, QN]
    rw [if_neg (by omega)]
  | succ k ih =>
    intro n fu J M hp hfu h1 h2 h3 h7
    obtain ⟨fu, rfl⟩ : ∃ n', fu = n' + 1 := ⟨fu - 1, by omega⟩
    have hp1 : J 1 (q + n) = sx8 (T (q + n)) := by rw [h1]; exact hT _ (by omega)
    obtain ⟨s1, s2, -, -, -, -, s7⟩ := sx8_c (T (q + n)) (hB _ (by omega))
    simp (disch := omega) only [x3_readWord_L5, x3_readWord_L5s, h2, h3, QN, QB, if_pos (show q + n < N by omega), hp1, s1, s2, rn]
    by_cases e1 : isLe (T (q + n)) = true
    · have g := isLe_i.mp e1
      rw [if_neg (by omega), if_neg (by omega), if_pos e1, s7 (by omega), h7]
      obtain ⟨J', M', a1, a2, a3, a4, a5, a6⟩ := ih (n + 1) fu (wI J 21 3 (Int32.ofNat (q + n + 1))) (wL M 21 7 (pk32 T q n * 32 + (Int32.ofNat (T (q + n)) - 97 + 1).toInt64)) (by omega) (by omega) (by rw [wI_c (by omega)]; exact h1) (by rw [wI_ne (by omega)]; exact h2) wI_at wL_at
      rw [show q + (n + 1) = q + n + 1 by omega] at a2 a3
      refine ⟨J', M', a1, ?_, ?_, fun j hj => by rw [a4 j hj, wI_ne (by omega)], fun c hc => by rw [a5 c hc, wI_c hc], fun c hc => by rw [a6 c hc, wL_c hc]⟩
      · rw [a2]; congr 1; omega
      · rw [a3]; congr 1; omega
    · have e1' : ¬ (97 ≤ T (q + n) ∧ T (q + n) ≤ 122) := fun h => e1 (isLe_i.mpr h)
      rw [if_neg e1]
      refine ⟨J, M, ?_, h3, h7, fun _ _ => rfl, fun _ _ => rfl, fun _ _ => rfl⟩
      have := hB (q + n) (by omega)
      by_cases e2 : T (q + n) < 97 ∨ 128 ≤ T (q + n)
      · rw [if_pos e2]
      · rw [if_neg e2, if_pos (by omega)]
theorem c_kwL {w : List Nat} (hw : OKW w) (hL : CWd L) (h7 : L 21 7 = Int64.ofNat (e32 w)) : ∀ (j n fu : Nat) (J : MI), n + j = 26 → j < fu → J 21 4 = Int32.ofNat (kwf w n) → ∃ J', x3_readWord_L114 L fu (Int32.ofNat n) J = some J' ∧ J' 21 4 = Int32.ofNat (kwf w 26) ∧ (∀ i, i ≠ 4 → J' 21 i = J 21 i) ∧ ∀ c, c ≠ 21 → J' c = J c := by
  intro j
  induction j with
  | zero =>
    intro n fu J hn hfu h4
    obtain ⟨fu, rfl⟩ : ∃ n', fu = n' + 1 := ⟨fu - 1, by omega⟩
    obtain rfl : n = 26 := by omega
    refine ⟨J, ?_, h4, fun _ _ => rfl, fun _ _ => rfl⟩
    simp only [x3_readWord_L114, x3_readWord_L114s]
    rw [if_neg (by decide)]
  | succ j ih =>
    intro n fu J hn hfu h4
    obtain ⟨fu, rfl⟩ : ∃ n', fu = n' + 1 := ⟨fu - 1, by omega⟩
    have e : (lg_cmp (L 22 n) (L 21 7) = 0) = (kwl.getD n [] = w) := by
      rw [lcmp_0, hL n (by omega), kwl_wdl n (by omega), h7, e32_eq (kwl_ok n (by omega)) hw]
    simp (disch := omega) only [x3_readWord_L114, x3_readWord_L114s, QN, QB, if_pos (show n < 26 by omega), e]
    by_cases ek : kwl.getD n [] = w
    · obtain ⟨J', a1, a2, a3, a4⟩ := ih (n + 1) fu (wI J 21 4 (Int32.ofNat n)) (by omega) (by omega) (by rw [wI_at, kwf, if_pos ek])
      exact ⟨J', by rw [if_pos ek]; exact a1, a2, fun i hi => by rw [a3 i hi, wI_ne (by omega)], fun c hc => by rw [a4 c hc, wI_c hc]⟩
    · obtain ⟨J', a1, a2, a3, a4⟩ := ih (n + 1) fu J (by omega) (by omega) (by rw [h4, kwf, if_neg ek])
      exact ⟨J', by rw [if_neg ek]; exact a1, a2, a3, a4⟩
theorem c_word (hX : CTx T N I) (hL : CWd L) (hq : q < N) (hl : isLe (T q) = true) (h2 : I 21 2 = Int32.ofNat N) (h3 : I 21 3 = Int32.ofNat q) (h5 : I 21 5 = Int32.ofNat q) : ∃ I' L', x3_readWord I L = some (I', L') ∧ CLx T N q I' L' ∧ (∀ c, c ≠ 21 → I' c = I c) ∧ ∀ c, c ≠ 21 → L' c = L c := by
  have hN := hX.1
  obtain ⟨J1, M1, a1, a2, a3, a4, a5, a6⟩ := c_wdL (q := q) hX (N - q) 0 FU I (wL L 21 7 0) (by omega) (by unfold FU; omega) rfl h2 h3 wL_at
  have hn : rn isLe T (N - q) (q + 0) = tlw T N q := rfl
  rw [hn, Nat.zero_add] at a2 a3
  have hle : tlw T N q ≤ N - q := rn_le _ _
  have ed : J1 21 3 - J1 21 5 = Int32.ofNat (tlw T N q) := by rw [a2, a4 5 (by omega), h5, q_sub (by omega), Nat.add_sub_cancel_left]
  have es : tks T N q = if 8 < tlw T N q then 29 else kwf (twl T N q) 26 := by simp only [tks, if_pos hq, hl, if_true]
  have ee : tke T N q = q + tlw T N q := by simp only [tke, if_pos hq, hl, if_true]
  by_cases h8 : 8 < tlw T N q
  · rw [if_pos h8] at es
    refine ⟨wI J1 21 4 29, M1, ?_, ⟨by rw [wI_ne (by omega), a4 2 (by omega)]; exact h2, by rw [wI_ne (by omega), a4 5 (by omega)]; exact h5, by rw [wI_at, es]; rfl, fun h => absurd es h, fun h => by omega, fun h => by omega⟩, fun c hc => by rw [wI_c hc, a5 c hc], fun c hc => by rw [a6 c hc, wL_c hc]⟩
    simp (disch := omega) only [x3_readWord, QB, a1, ed, QN, if_pos h8]
  · rw [if_neg h8] at es
    obtain ⟨w1, w2, w3⟩ := twl_ok h8
    have h7 : M1 21 7 = Int64.ofNat (e32 (twl T N q)) := by rw [a3, pk32_w h8]
    obtain ⟨J2, b1', b2', b3', b4'⟩ := c_kwL (L := M1) w1 (fun i hi => by rw [a6 22 (by omega), wL_c (by omega)]; exact hL i hi) h7 26 0 FU (wI J1 21 4 26) (by omega) (by unfold FU; omega) (by rw [wI_at]; rfl)
    rw [show Int32.ofNat 0 = 0 from rfl] at b1'
    have hk := kwf_le (twl T N q)
    refine ⟨J2, M1, ?_, ⟨by rw [b3' 2 (by omega), wI_ne (by omega), a4 2 (by omega)]; exact h2, by rw [b3' 5 (by omega), wI_ne (by omega), a4 5 (by omega)]; exact h5, by rw [b2', es], fun _ => by rw [b3' 3 (by omega), wI_ne (by omega), a2, ee], fun h => by omega, fun _ => h7⟩, fun c hc => by rw [b4' c hc, wI_c hc, a5 c hc], fun c hc => by rw [a6 c hc, wL_c hc]⟩
    simp (disch := omega) only [x3_readWord, QB, a1, ed, QN, if_neg h8, b1']
theorem c_nbL (hX : CTx T N I) : ∀ (k n fu : Nat) (J : MI), q + n + k = N → k < fu → J 1 = I 1 → J 21 2 = Int32.ofNat N → J 21 3 = Int32.ofNat (q + n) → J 21 6 = Int32.ofNat (dgv T q n) → ∃ J', x3_readNumber_L5 fu J = some J' ∧ J' 21 3 = Int32.ofNat (q + (n + rn isDi T k (q + n))) ∧ J' 21 6 = Int32.ofNat (dgv T q (n + rn isDi T k (q + n))) ∧ (∀ j, j ≠ 3 → j ≠ 6 → J' 21 j = J 21 j) ∧ ∀ c, c ≠ 21 → J' c = J c := by
  obtain ⟨hN, hT, hB⟩ := hX
  intro k
  induction k with
  | zero =>
    intro n fu J hp hfu h1 h2 h3 h6
    obtain ⟨fu, rfl⟩ : ∃ n', fu = n' + 1 := ⟨fu - 1, by omega⟩
    refine ⟨J, ?_, h3, h6, fun _ _ _ => rfl, fun _ _ => rfl⟩
    simp (disch := omega) only [x3_readNumber_L5, x3_readNumber_L5s, h2, h3, QN]
    rw [if_neg (by omega)]
  | succ k ih =>
    intro n fu J hp hfu h1 h2 h3 h6
    obtain ⟨fu, rfl⟩ : ∃ n', fu = n' + 1 := ⟨fu - 1, by omega⟩
    have hp1 : J 1 (q + n) = sx8 (T (q + n)) := by rw [h1]; exact hT _ (by omega)
    obtain ⟨-, -, s3, s4, -, -, s7⟩ := sx8_c (T (q + n)) (hB _ (by omega))
    have e3 : ∀ v, wI J 21 6 v 21 3 = Int32.ofNat (q + n) := fun v => by rw [wI_ne (by omega)]; exact h3
    simp (disch := omega) only [x3_readNumber_L5, x3_readNumber_L5s, h2, h3, e3, QN, QB, if_pos (show q + n < N by omega), hp1, s3, s4, rn]
    by_cases e1 : isDi (T (q + n)) = true
    · have g := isDi_i.mp e1
      have ev : J 21 6 * 10 + (Int32.ofNat (T (q + n)) - 48) = Int32.ofNat (dgv T q (n + 1)) := by
        rw [h6, q_muln, q_subn (show (OfNat.ofNat 48 : Nat) ≤ T (q + n) from g.1), q_add]
        rfl
      rw [if_neg (by omega), if_neg (by omega), if_pos e1, s7 (by omega), ev]
      obtain ⟨J', a1, a2, a3, a4, a5⟩ := ih (n + 1) fu (wI (wI J 21 6 (Int32.ofNat (dgv T q (n + 1)))) 21 3 (Int32.ofNat (q + n + 1))) (by omega) (by omega) (by rw [wI_c (by omega), wI_c (by omega)]; exact h1) (by rw [wI_ne (by omega), wI_ne (by omega)]; exact h2) wI_at (by rw [wI_ne (by omega), wI_at])
      rw [show q + (n + 1) = q + n + 1 by omega] at a2 a3
      refine ⟨J', a1, ?_, ?_, fun j hj hj' => by rw [a4 j hj hj', wI_ne (by omega), wI_ne (by omega)], fun c hc => by rw [a5 c hc, wI_c hc, wI_c hc]⟩
      · rw [a2]; congr 1; omega
      · rw [a3]; congr 2; omega
    · have e1' : ¬ (48 ≤ T (q + n) ∧ T (q + n) ≤ 57) := fun h => e1 (isDi_i.mpr h)
      rw [if_neg e1]
      refine ⟨J, ?_, h3, h6, fun _ _ _ => rfl, fun _ _ => rfl⟩
      have := hB (q + n) (by omega)
      by_cases e2 : T (q + n) < 48 ∨ 128 ≤ T (q + n)
      · rw [if_pos e2]
      · rw [if_neg e2, if_pos (by omega)]
theorem c_numb (hX : CTx T N I) (hq : q < N) (hl : isDi (T q) = true) (h2 : I 21 2 = Int32.ofNat N) (h3 : I 21 3 = Int32.ofNat q) (h5 : I 21 5 = Int32.ofNat q) : ∃ I', x3_readNumber I = some I' ∧ CLx T N q I' L ∧ ∀ c, c ≠ 21 → I' c = I c := by
  have hN := hX.1
  have hle' : isLe (T q) = false := by
    have := isDi_i.mp hl
    simp only [isLe, decide_eq_false_iff_not]; omega
  have e16 : wI I 21 6 0 21 3 = Int32.ofNat (q + 0) := by rw [wI_ne (by omega)]; exact h3
  obtain ⟨J1, a1, a2, a3, a4, a5⟩ := c_nbL (q := q) hX (N - q) 0 FU (wI I 21 6 0) (by omega) (by unfold FU; omega) (by rw [wI_c (by omega)]) (by rw [wI_ne (by omega)]; exact h2) e16 (by rw [wI_at]; rfl)
  have hn : rn isDi T (N - q) (q + 0) = tld T N q := rfl
  rw [hn, Nat.zero_add] at a2 a3
  have hle : tld T N q ≤ N - q := rn_le _ _
  have f2 : J1 21 2 = Int32.ofNat N := by rw [a4 2 (by omega) (by omega), wI_ne (by omega)]; exact h2
  have f5 : J1 21 5 = Int32.ofNat q := by rw [a4 5 (by omega) (by omega), wI_ne (by omega)]; exact h5
  have ed : J1 21 3 - J1 21 5 = Int32.ofNat (tld T N q) := by rw [a2, f5, q_sub (by omega), Nat.add_sub_cancel_left]
  have es : tks T N q = if 4 < tld T N q ∨ (q + tld T N q < N ∧ isLe (T (q + tld T N q)) = true) then 29 else 27 := by simp only [tks, if_pos hq, hle', hl, if_true, Bool.false_eq_true, if_false]
  have ee : tke T N q = q + tld T N q := by simp only [tke, if_pos hq, hle', hl, if_true, Bool.false_eq_true, if_false]
  have hbeh : (if J1 21 3 < J1 21 2 then ck (vp_in (J1 21 3) 1600) (if J1 1 (ix (J1 21 3)) < 97 then some (0 : Int32) else ck (vp_in (J1 21 3) 1600) (if 122 < J1 1 (ix (J1 21 3)) then some (0 : Int32) else some (1 : Int32))) else some (0 : Int32)) = some (if q + tld T N q < N ∧ isLe (T (q + tld T N q)) = true then 1 else 0) := by
    rw [a2, f2]
    by_cases g1 : q + tld T N q < N
    · have hp1 : J1 1 (q + tld T N q) = sx8 (T (q + tld T N q)) := by rw [a5 1 (by omega), wI_c (by omega)]; exact hX.2.1 _ g1
      obtain ⟨s1, s2, -, -, -, -, s7⟩ := sx8_c (T (q + tld T N q)) (hX.2.2 _ g1)
      have hb := hX.2.2 _ g1
      simp (disch := omega) only [QN, QB, if_pos g1, hp1, s1, s2]
      by_cases e1 : isLe (T (q + tld T N q)) = true
      · have g := isLe_i.mp e1
        rw [if_neg (by omega), if_neg (by omega), if_pos ⟨g1, e1⟩]
      · have e1' : ¬ (97 ≤ T (q + tld T N q) ∧ T (q + tld T N q) ≤ 122) := fun h => e1 (isLe_i.mpr h)
        have e3 : ¬ (q + tld T N q < N ∧ isLe (T (q + tld T N q)) = true) := fun h => e1 h.2
        by_cases e2 : T (q + tld T N q) < 97 ∨ 128 ≤ T (q + tld T N q)
        · rw [if_pos e2, if_neg e3]
        · rw [if_neg e2, if_neg e3, if_pos (by omega)]
    · simp (disch := omega) only [QN, if_neg g1]
      rw [if_neg (fun h => g1 h.1)]
  have hfr : ∀ v c, c ≠ 21 → wI J1 21 4 v c = I c := fun v c hc => by rw [wI_c hc, a5 c hc, wI_c hc]
  by_cases hb : q + tld T N q < N ∧ isLe (T (q + tld T N q)) = true
  · rw [if_pos (Or.inr hb)] at es
    rw [if_pos hb] at hbeh
    refine ⟨wI J1 21 4 29, ?_, ⟨by rw [wI_ne (by omega)]; exact f2, by rw [wI_ne (by omega)]; exact f5, by rw [wI_at, es]; rfl, fun h => absurd es h, fun h => by omega, fun h => by omega⟩, hfr _⟩
    simp (disch := omega) only [x3_readNumber, q_l, a1, q_b1, hbeh]
    rfl
  · rw [if_neg hb] at hbeh
    by_cases h4 : 4 < tld T N q
    · rw [if_pos (Or.inl h4)] at es
      refine ⟨wI J1 21 4 29, ?_, ⟨by rw [wI_ne (by omega)]; exact f2, by rw [wI_ne (by omega)]; exact f5, by rw [wI_at, es]; rfl, fun h => absurd es h, fun h => by omega, fun h => by omega⟩, hfr _⟩
      simp (disch := omega) only [x3_readNumber, q_l, a1, q_b1, hbeh, ed, QN, if_true, if_pos h4]
    · rw [if_neg (by intro h; rcases h with h | h; exact h4 h; exact hb h)] at es
      refine ⟨wI J1 21 4 27, ?_, ⟨by rw [wI_ne (by omega)]; exact f2, by rw [wI_ne (by omega)]; exact f5, by rw [wI_at, es]; rfl, fun _ => by rw [wI_ne (by omega), a2, ee], fun _ => by rw [wI_ne (by omega)]; exact a3, fun h => by omega⟩, hfr _⟩
      simp (disch := omega) only [x3_readNumber, q_l, a1, q_b1, hbeh, ed, QN, if_true, if_neg h4]
end CLX
