/-! TUB: the reference copies what is told -/
section CPX
theorem m_t157 : ∀ (j w n : Nat) (I : MI), w + j = 10 → j < n → ∃ I', x11_tub_L157 n (Int32.ofNat w) I = some I' ∧ (∀ a, w ≤ a → a < 10 → I' 125 a = I 113 a ∧ I' 126 a = I 114 a ∧ I' 127 a = I 115 a ∧ I' 128 a = I 116 a ∧ I' 129 a = I 117 a ∧ I' 136 a = zb (I 124 a)) ∧ (∀ c a, a < w → I' c a = I c a) ∧ ∀ c, ¬ (125 ≤ c ∧ c ≤ 129) → c ≠ 136 → I' c = I c := by
  intro j
  induction j with
  | zero =>
    intro w n I hw hn
    obtain ⟨n, rfl⟩ : ∃ n', n = n' + 1 := ⟨n - 1, by omega⟩
    refine ⟨I, ?_, fun k h1 h2 => by omega, fun _ _ _ => rfl, fun _ _ _ => rfl⟩
    simp (disch := omega) only [x11_tub_L157, x11_tub_L157s, QN]
    rw [if_neg (by omega)]
  | succ j ih =>
    intro w n I hw hn
    obtain ⟨n, rfl⟩ : ∃ n', n = n' + 1 := ⟨n - 1, by omega⟩
    generalize hI2 : wI (wI (wI (wI (wI (wI I 125 w (I 113 w)) 126 w (I 114 w)) 127 w (I 115 w)) 128 w (I 116 w)) 129 w (I 117 w)) 136 w (zb (I 124 w)) = I2
    have e1 : I2 125 w = I 113 w ∧ I2 126 w = I 114 w ∧ I2 127 w = I 115 w ∧ I2 128 w = I 116 w ∧ I2 129 w = I 117 w ∧ I2 136 w = zb (I 124 w) := by
      rw [← hI2]; simp (disch := omega) only [wI_ne, wI_at, and_self]
    have e2 : ∀ c a, a ≠ w → I2 c a = I c a := fun c a ha => by
      rw [← hI2]; simp (disch := omega) only [wI_ne]
    have e3 : ∀ c, ¬ (125 ≤ c ∧ c ≤ 129) → c ≠ 136 → I2 c = I c := fun c h1 h2 => by
      rw [← hI2]; simp (disch := omega) only [wI_c]
    obtain ⟨I', h1, h2, h3, h4⟩ := ih (w + 1) n I2 (by omega) (by omega)
    refine ⟨I', ?_, fun a g1 g2 => ?_, fun c a ha => by rw [h3 c a (by omega), e2 c a (by omega)], fun c g1 g2 => by rw [h4 c g1 g2, e3 c g1 g2]⟩
    · have hu : x11_tub_L157 (n + 1) (Int32.ofNat w) I = x11_tub_L157 n (Int32.ofNat (w + 1)) I2 := by
        rw [← hI2]
        simp (disch := omega) only [x11_tub_L157, x11_tub_L157s, QN, QB, if_pos (show w < 10 by omega), wI_ne]
      rw [hu]; exact h1
    · by_cases e : a = w
      · subst e
        rw [h3 125 a (by omega), h3 126 a (by omega), h3 127 a (by omega), h3 128 a (by omega), h3 129 a (by omega), h3 136 a (by omega)]
        exact e1
      · have := h2 a (by omega) g2
        rwa [e3 113 (by omega) (by omega), e3 114 (by omega) (by omega), e3 115 (by omega) (by omega), e3 116 (by omega) (by omega), e3 117 (by omega) (by omega), e3 124 (by omega) (by omega)] at this
theorem m_t243 : ∀ (j w n : Nat) (I : MI), w + j = 4 → j < n → ∃ I', x11_tub_L243 n (Int32.ofNat w) I = some I' ∧ (∀ a, w ≤ a → a < 4 → I' 130 a = I 118 a ∧ I' 131 a = I 119 a ∧ I' 132 a = I 120 a ∧ I' 133 a = I 121 a ∧ I' 134 a = I 122 a ∧ I' 135 a = I 123 a) ∧ (∀ c a, a < w → I' c a = I c a) ∧ ∀ c, ¬ (130 ≤ c ∧ c ≤ 135) → I' c = I c := by
  intro j
  induction j with
  | zero =>
    intro w n I hw hn
    obtain ⟨n, rfl⟩ : ∃ n', n = n' + 1 := ⟨n - 1, by omega⟩
    refine ⟨I, ?_, fun k h1 h2 => by omega, fun _ _ _ => rfl, fun _ _ => rfl⟩
    simp (disch := omega) only [x11_tub_L243, x11_tub_L243s, QN]
    rw [if_neg (by omega)]
  | succ j ih =>
    intro w n I hw hn
    obtain ⟨n, rfl⟩ : ∃ n', n = n' + 1 := ⟨n - 1, by omega⟩
    generalize hI2 : wI (wI (wI (wI (wI (wI I 130 w (I 118 w)) 131 w (I 119 w)) 132 w (I 120 w)) 133 w (I 121 w)) 134 w (I 122 w)) 135 w (I 123 w) = I2
    have e1 : I2 130 w = I 118 w ∧ I2 131 w = I 119 w ∧ I2 132 w = I 120 w ∧ I2 133 w = I 121 w ∧ I2 134 w = I 122 w ∧ I2 135 w = I 123 w := by
      rw [← hI2]; simp (disch := omega) only [wI_ne, wI_at, and_self]
    have e2 : ∀ c a, a ≠ w → I2 c a = I c a := fun c a ha => by
      rw [← hI2]; simp (disch := omega) only [wI_ne]
    have e3 : ∀ c, ¬ (130 ≤ c ∧ c ≤ 135) → I2 c = I c := fun c h1 => by
      rw [← hI2]; simp (disch := omega) only [wI_c]
    obtain ⟨I', h1, h2, h3, h4⟩ := ih (w + 1) n I2 (by omega) (by omega)
    refine ⟨I', ?_, fun a g1 g2 => ?_, fun c a ha => by rw [h3 c a (by omega), e2 c a (by omega)], fun c g1 => by rw [h4 c g1, e3 c g1]⟩
    · have hu : x11_tub_L243 (n + 1) (Int32.ofNat w) I = x11_tub_L243 n (Int32.ofNat (w + 1)) I2 := by
        rw [← hI2]
        simp (disch := omega) only [x11_tub_L243, x11_tub_L243s, QN, QB, if_pos (show w < 4 by omega), wI_ne]
      rw [hu]; exact h1
    · by_cases e : a = w
      · subst e
        rw [h3 130 a (by omega), h3 131 a (by omega), h3 132 a (by omega), h3 133 a (by omega), h3 134 a (by omega), h3 135 a (by omega)]
        exact e1
      · have := h2 a (by omega) g2
        rwa [e3 118 (by omega), e3 119 (by omega), e3 120 (by omega), e3 121 (by omega), e3 122 (by omega), e3 123 (by omega)] at this
theorem m_t103 {s m : Nat} (hs : s < 11) (hm : 320 * s + m ≤ 3520) : ∀ (j w n : Nat) (I : MI), w + j = 320 * s + m → j < n → I 109 s = Int32.ofNat m → ∃ I', x11_tub_L103 (Int32.ofNat s) n (Int32.ofNat w) I = some I' ∧ (∀ i, w ≤ i → i < 320 * s + m → I' 107 i = I 104 i ∧ I' 108 i = I 105 i) ∧ (∀ i, i < w → I' 107 i = I 107 i ∧ I' 108 i = I 108 i) ∧ ∀ c, c ≠ 107 → c ≠ 108 → I' c = I c := by
  intro j
  have e320 : (320 : Int32) * Int32.ofNat s + Int32.ofNat m = Int32.ofNat (320 * s + m) := by rw [show (320 : Int32) = Int32.ofNat 320 from rfl, q_mul, q_add]
  induction j with
  | zero =>
    intro w n I hw hn h109
    obtain ⟨n, rfl⟩ : ∃ n', n = n' + 1 := ⟨n - 1, by omega⟩
    refine ⟨I, ?_, fun k h1 h2 => by omega, fun _ _ => ⟨rfl, rfl⟩, fun _ _ _ => rfl⟩
    rw [x11_tub_L103, x11_tub_L103s, q_in hs (by omega), q_ck, show ix (Int32.ofNat s) = s from q_ix (by omega), h109, e320, if_neg (by rw [q_lt (by omega) (by omega)]; omega)]
  | succ j ih =>
    intro w n I hw hn h109
    obtain ⟨n, rfl⟩ : ∃ n', n = n' + 1 := ⟨n - 1, by omega⟩
    generalize hI2 : wI (wI I 107 w (I 104 w)) 108 w (I 105 w) = I2
    have e1 : I2 107 w = I 104 w ∧ I2 108 w = I 105 w := by
      rw [← hI2]; simp (disch := omega) only [wI_ne, wI_at, and_self]
    have e2 : ∀ c a, a ≠ w → I2 c a = I c a := fun c a ha => by
      rw [← hI2]; simp (disch := omega) only [wI_ne]
    have e3 : ∀ c, c ≠ 107 → c ≠ 108 → I2 c = I c := fun c h1 h2 => by
      rw [← hI2]; simp (disch := omega) only [wI_c]
    obtain ⟨I', h1, h2, h3, h4⟩ := ih (w + 1) n I2 (by omega) (by omega) (by rw [e3 109 (by omega) (by omega)]; exact h109)
    refine ⟨I', ?_, fun a g1 g2 => ?_, fun a ha => by rw [(h3 a (by omega)).1, (h3 a (by omega)).2, e2 _ a (by omega), e2 _ a (by omega)]; exact ⟨rfl, rfl⟩, fun c g1 g2 => by rw [h4 c g1 g2, e3 c g1 g2]⟩
    · have hu : x11_tub_L103 (Int32.ofNat s) (n + 1) (Int32.ofNat w) I = x11_tub_L103 (Int32.ofNat s) n (Int32.ofNat (w + 1)) I2 := by
        rw [← hI2, x11_tub_L103, x11_tub_L103s, q_in hs (by omega), q_ck, show ix (Int32.ofNat s) = s from q_ix (by omega), h109, e320, if_pos (by rw [q_lt (by omega) (by omega)]; omega), q_in (show w < 3520 by omega) (by omega), q_ck, q_ck, show ix (Int32.ofNat w) = w from q_ix (by omega), q_l, q_ck, q_ck, q_l, q_addn, q_l, wI_c (show (105 : Nat) ≠ 107 by omega)]
      rw [hu]; exact h1
    · by_cases e : a = w
      · subst e
        rw [(h3 a (by omega)).1, (h3 a (by omega)).2]
        exact e1
      · have := h2 a (by omega) g2
        rwa [e3 104 (by omega) (by omega), e3 105 (by omega) (by omega)] at this
theorem m_t79 : ∀ (j w n : Nat) (I : MI), w + j = 11 → j < n → F6 I → ∃ I', x11_tub_L79 n (Int32.ofNat w) I = some I' ∧ (∀ s m, w ≤ s → s < 11 → I 106 s = Int32.ofNat m → m ≤ 320 → I' 109 s = Int32.ofNat m ∧ ∀ i, i < m → I' 107 (320 * s + i) = I 104 (320 * s + i) ∧ I' 108 (320 * s + i) = I 105 (320 * s + i)) ∧ (∀ s, s < w → I' 109 s = I 109 s) ∧ (∀ i, i < 320 * w → I' 107 i = I 107 i ∧ I' 108 i = I 108 i) ∧ ∀ c, ¬ (107 ≤ c ∧ c ≤ 109) → I' c = I c := by
  intro j
  induction j with
  | zero =>
    intro w n I hw hn h6
    obtain ⟨n, rfl⟩ : ∃ n', n = n' + 1 := ⟨n - 1, by omega⟩
    refine ⟨I, ?_, fun s m h1 h2 => by omega, fun _ _ => rfl, fun _ _ => ⟨rfl, rfl⟩, fun _ _ => rfl⟩
    rw [x11_tub_L79, x11_tub_L79s, if_neg (by rw [q_ltn (by omega) (by omega)]; show ¬ w < 11; omega)]
  | succ j ih =>
    intro w n I hw hn h6
    obtain ⟨n, rfl⟩ : ∃ n', n = n' + 1 := ⟨n - 1, by omega⟩
    obtain ⟨m0, hm0, em0⟩ := h6 w (by omega)
    obtain ⟨I2, a1, a2, a3, a4⟩ := m_t103 (s := w) (m := m0) (by omega) hm0 m0 (320 * w) FU (wI I 109 w (Int32.ofNat m0)) (by omega) (by unfold FU; omega) wI_at
    have f2 : ∀ c, ¬ (107 ≤ c ∧ c ≤ 109) → I2 c = I c := fun c hc => by rw [a4 c (by omega) (by omega), wI_c (by omega)]
    have f9 : ∀ s, s ≠ w → I2 109 s = I 109 s := fun s hs => by rw [a4 109 (by omega) (by omega), wI_ne (by omega)]
    obtain ⟨I', h1, h2, h3, h4, h5⟩ := ih (w + 1) n I2 (by omega) (by omega) (h6.c (f2 106 (by omega)))
    refine ⟨I', ?_, fun s m g1 g2 g3 g4 => ?_, fun s hs => by rw [h3 s (by omega), f9 s (by omega)], fun i hi => ?_, fun c hc => by rw [h5 c hc, f2 c hc]⟩
    · have hu : x11_tub_L79 (n + 1) (Int32.ofNat w) I = x11_tub_L79 n (Int32.ofNat (w + 1)) I2 := by
        rw [x11_tub_L79, x11_tub_L79s, if_pos (by rw [q_ltn (by omega) (by omega)]; show w < 11; omega), q_in (show w < 11 by omega) (by omega), q_ck, q_ck, show ix (Int32.ofNat w) = w from q_ix (by omega), em0, q_l, q_nmul, q_l, show x11_tub_L103 (Int32.ofNat w) FU (Int32.ofNat (OfNat.ofNat 320 * w)) (wI I 109 w (Int32.ofNat m0)) = some I2 from a1, q_b1, q_addn, q_l]
      rw [hu]; exact h1
    · by_cases e : s = w
      · subst e
        obtain rfl : m = m0 := by
          rw [em0, q_eq (by omega) (by omega)] at g3; exact g3.symm
        refine ⟨by rw [h3 s (by omega), a4 109 (by omega) (by omega), wI_at], fun i hi => ?_⟩
        rw [(h4 (320 * s + i) (by omega)).1, (h4 (320 * s + i) (by omega)).2]
        have := a2 (320 * s + i) (by omega) (by omega)
        rwa [wI_c (by omega), wI_c (by omega)] at this
      · have := h2 s m (by omega) g2 (by rw [f2 106 (by omega)]; exact g3) g4
        rwa [f2 104 (by omega), f2 105 (by omega)] at this
    · rw [(h4 i (by omega)).1, (h4 i (by omega)).2, (a3 i (by omega)).1, (a3 i (by omega)).2, wI_c (by omega), wI_c (by omega)]
      exact ⟨rfl, rfl⟩
theorem m_t344 : ∀ (j w n : Nat) (I : MI), w + j = 123 → j < n → ∃ I', x11_tub_L344 n (Int32.ofNat w) I = some I' ∧ (∀ k, w ≤ k → k < 123 → I' 137 k = 0) ∧ (∀ i, i < w → I' 137 i = I 137 i) ∧ ∀ c, c ≠ 137 → I' c = I c := by
  intro j
  induction j with
  | zero =>
    intro w n I hw hn
    obtain ⟨n, rfl⟩ : ∃ n', n = n' + 1 := ⟨n - 1, by omega⟩
    refine ⟨I, ?_, fun k h1 h2 => by omega, fun _ _ => rfl, fun _ _ => rfl⟩
    simp (disch := omega) only [x11_tub_L344, x11_tub_L344s, QN]
    rw [if_neg (by omega)]
  | succ j ih =>
    intro w n I hw hn
    obtain ⟨n, rfl⟩ : ∃ n', n = n' + 1 := ⟨n - 1, by omega⟩
    obtain ⟨I', h1, h2, h3, h4⟩ := ih (w + 1) n (wI I 137 w 0) (by omega) (by omega)
    refine ⟨I', ?_, fun k g1 g2 => ?_, fun i hi => ?_, fun c hc => by rw [h4 c hc, wI_c hc]⟩
    · simp (disch := omega) only [x11_tub_L344, x11_tub_L344s, QN, QB, if_pos (show w < 123 by omega)]
      exact h1
    · by_cases e : k = w
      · subst e; rw [h3 _ (by omega), wI_at]
      · exact h2 k (by omega) g2
    · rw [h3 i (by omega), wI_ne (by omega)]
theorem m_t389 : ∀ (j w n : Nat) (I : MI), w + j = 3 → j < n → ∃ I', x11_tub_L389 n (Int32.ofNat w) I = some I' ∧ (∀ k, w ≤ k → k < 3 → I' 156 k = 0) ∧ (∀ i, i < w → I' 156 i = I 156 i) ∧ ∀ c, c ≠ 156 → I' c = I c := by
  intro j
  have z0 : zb (0 : Int32) = 0 := rfl
  induction j with
  | zero =>
    intro w n I hw hn
    obtain ⟨n, rfl⟩ : ∃ n', n = n' + 1 := ⟨n - 1, by omega⟩
    refine ⟨I, ?_, fun k h1 h2 => by omega, fun _ _ => rfl, fun _ _ => rfl⟩
    simp (disch := omega) only [x11_tub_L389, x11_tub_L389s, QN]
    rw [if_neg (by omega)]
  | succ j ih =>
    intro w n I hw hn
    obtain ⟨n, rfl⟩ : ∃ n', n = n' + 1 := ⟨n - 1, by omega⟩
    obtain ⟨I', h1, h2, h3, h4⟩ := ih (w + 1) n (wI I 156 w 0) (by omega) (by omega)
    refine ⟨I', ?_, fun k g1 g2 => ?_, fun i hi => ?_, fun c hc => by rw [h4 c hc, wI_c hc]⟩
    · simp (disch := omega) only [x11_tub_L389, x11_tub_L389s, QN, QB, z0, if_pos (show w < 3 by omega)]
      exact h1
    · by_cases e : k = w
      · subst e; rw [h3 _ (by omega), wI_at]
      · exact h2 k (by omega) g2
    · rw [h3 i (by omega), wI_ne (by omega)]
theorem c_t88 {R : MR} {S : MS} (hr : okr R S) : ∀ (j w n : Nat) (I : MI), w + j = 3 → j < n → ∃ I', x10_tub_L88 R S n (Int32.ofNat w) I = some I' ∧ (∀ k, w ≤ k → k < 3 → I' 62 k = 0) ∧ (∀ i, i < w → I' 62 i = I 62 i) ∧ ∀ c, c ≠ 62 → I' c = I c := by
  intro j
  have z0 : zb (0 : Int32) = 0 := rfl
  induction j with
  | zero =>
    intro w n I hw hn
    obtain ⟨n, rfl⟩ : ∃ n', n = n' + 1 := ⟨n - 1, by omega⟩
    refine ⟨I, ?_, fun k h1 h2 => by omega, fun _ _ => rfl, fun _ _ => rfl⟩
    simp (disch := omega) only [x10_tub_L88, x10_tub_L88s, QN]
    rw [if_neg (by omega)]
  | succ j ih =>
    intro w n I hw hn
    obtain ⟨n, rfl⟩ : ∃ n', n = n' + 1 := ⟨n - 1, by omega⟩
    obtain ⟨I', h1, h2, h3, h4⟩ := ih (w + 1) n (wI I 62 w 0) (by omega) (by omega)
    refine ⟨I', ?_, fun k g1 g2 => ?_, fun i hi => ?_, fun c hc => by rw [h4 c hc, wI_c hc]⟩
    · simp (disch := omega) only [x10_tub_L88, x10_tub_L88s, QN, QB, z0, ck_pos hr, if_pos (show w < 3 by omega)]
      exact h1
    · by_cases e : k = w
      · subst e; rw [h3 _ (by omega), wI_at]
      · exact h2 k (by omega) g2
    · rw [h3 i (by omega), wI_ne (by omega)]
end CPX
