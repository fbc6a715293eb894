/-! CALLS, 28: keeping what was, in the reference's rows -/
section IN
variable {I : MI}
theorem m_shL : ∀ (j w n : Nat) (I : MI), w + j = 4992 → j < n → ∃ I', x11_act_L11 n (Int32.ofNat w) I = some I' ∧ (∀ k, w ≤ k → k < 4992 → I' 139 k = I 139 (128 + k)) ∧ (∀ k, k < w ∨ 4992 ≤ k → I' 139 k = I 139 k) ∧ ∀ c, c ≠ 139 → I' c = I c := by
  intro j
  induction j with
  | zero =>
    intro w n I hw hn
    obtain ⟨n, rfl⟩ : ∃ n', n = n' + 1 := ⟨n - 1, by omega⟩
    refine ⟨I, ?_, fun k h1 h2 => by omega, fun _ _ => rfl, fun _ _ => rfl⟩
    simp (disch := omega) only [x11_act_L11, x11_act_L11s, QN]
    rw [if_neg (by omega)]
  | succ j ih =>
    intro w n I hw hn
    obtain ⟨n, rfl⟩ : ∃ n', n = n' + 1 := ⟨n - 1, by omega⟩
    obtain ⟨I', h1, h2, h3, h4⟩ := ih (w + 1) n (wI I 139 w (I 139 (128 + w))) (by omega) (by omega)
    refine ⟨I', ?_, fun k g1 g2 => ?_, fun k hk => by rw [h3 k (by omega), wI_ne (by omega)], fun c hc => by rw [h4 c hc, wI_c hc]⟩
    · simp (disch := omega) only [x11_act_L11, x11_act_L11s, QN, QB, if_pos (show w < 4992 by omega)]
      exact h1
    · by_cases e : k = w
      · subst e; rw [h3 _ (by omega), wI_at]
      · rw [h2 k (by omega) g2, wI_ne (by omega)]
theorem m_act {B : Nat} (hB : B ≤ 40) (h : I 102 71 = Int32.ofNat B) : ∃ I' d, x11_act I = some I' ∧ ((B < 40 ∧ d = B) ∨ (B = 40 ∧ d = 39)) ∧ I' 102 71 = Int32.ofNat (d + 1) ∧ I' 102 72 = 0 ∧ (∀ j, j ≠ 71 → j ≠ 72 → I' 102 j = I 102 j) ∧ (∀ c, c ≠ 102 → c ≠ 139 → I' c = I c) ∧ (∀ k, k < 123 → I' 139 (128 * d + k) = I 138 k) ∧ (∀ i k, i < d → k < 123 → I' 139 (128 * i + k) = I 139 (128 * (if B < 40 then i else i + 1) + k)) := by
  have e40 : (Int32.ofNat B = 40) = (B = 40) := by rw [show (40 : Int32) = Int32.ofNat 40 from rfl, q_eq (by omega) (by omega)]
  by_cases hb : B = 40
  · subst hb
    obtain ⟨I1, a1, a2, a3, a4⟩ := m_shL 4992 0 FU I (by omega) (by unfold FU; omega)
    rw [show Int32.ofNat 0 = 0 from rfl] at a1
    have e71 : wI I1 102 71 (Int32.ofNat 39) 102 71 = Int32.ofNat 39 := wI_at
    obtain ⟨I2, b1', b2', b3', b4'⟩ := m_actL (show 39 < 40 by omega) 123 0 FU (wI I1 102 71 (Int32.ofNat 39)) (by omega) (by unfold FU; omega) e71
    rw [show Int32.ofNat 0 = 0 from rfl] at b1'
    have e39 : I1 102 71 - 1 = Int32.ofNat 39 := by rw [a4 102 (by omega), h]; rfl
    have e2 : I2 102 71 = Int32.ofNat 39 := by rw [b4' 102 (by omega)]; exact wI_at
    refine ⟨wI (wI I2 102 71 (Int32.ofNat 40)) 102 72 0, 39, ?_, Or.inr ⟨rfl, rfl⟩, by rw [wI_ne (by omega), wI_at], wI_at, fun j h1 h2 => ?_, fun c h1 h2 => ?_, fun k hk => ?_, fun i k hi hk => ?_⟩
    · simp only [x11_act, h]
      rw [if_pos (show Int32.ofNat 40 = 40 from rfl)]
      simp only [QB, a1, e39, b1', e2]
      rfl
    · rw [wI_ne (Or.inr h2), wI_ne (Or.inr h1), b4' 102 (by omega), wI_ne (Or.inr h1), a4 102 (by omega)]
    · rw [wI_c h1, wI_c h1, b4' c h2, wI_c h1, a4 c h2]
    · rw [wI_c (by omega), wI_c (by omega), b2' k (by omega) hk, wI_c (by omega), a4 138 (by omega)]
    · rw [wI_c (by omega), wI_c (by omega), b3' _ (fun k' _ h' => by omega), wI_c (by omega), a2 _ (by omega) (by omega), if_neg (by omega)]
      congr 1; omega
  · have hb2 : B < 40 := by omega
    obtain ⟨I2, b1', b2', b3', b4'⟩ := m_actL hb2 123 0 FU I (by omega) (by unfold FU; omega) h
    rw [show Int32.ofNat 0 = 0 from rfl] at b1'
    have e2 : I2 102 71 + 1 = Int32.ofNat (B + 1) := by rw [b4' 102 (by omega), h, q_addn]
    refine ⟨wI (wI I2 102 71 (Int32.ofNat (B + 1))) 102 72 0, B, ?_, Or.inl ⟨hb2, rfl⟩, by rw [wI_ne (by omega), wI_at], wI_at, fun j h1 h2 => ?_, fun c h1 h2 => ?_, fun k hk => ?_, fun i k hi hk => ?_⟩
    · simp only [x11_act, h]
      rw [if_neg (by rw [e40]; exact hb)]
      simp only [QB, b1', e2]
    · rw [wI_ne (Or.inr h2), wI_ne (Or.inr h1), b4' 102 (by omega)]
    · rw [wI_c h1, wI_c h1, b4' c h2]
    · rw [wI_c (by omega), wI_c (by omega), b2' k (by omega) hk]
    · rw [wI_c (by omega), wI_c (by omega), b3' _ (fun k' _ h' => by omega), if_pos hb2]
end IN
