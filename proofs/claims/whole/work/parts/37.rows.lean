/-! ROWS THAT THE REFERENCE COPIES -/
theorem m_loadL : ∀ (j w n : Nat) (I : MI), w + j = 123 → j < n → ∃ I', x11_load_L2 n (Int32.ofNat w) I = some I' ∧ (∀ k, w ≤ k → k < 123 → I' 137 (k) = I 138 (k)) ∧ (∀ i, (∀ k, w ≤ k → k < 123 → i ≠ k) → I' 137 i = I 137 i) ∧ ∀ c, c ≠ 137 → I' c = I c := by
  intro j
  induction j with
  | zero =>
    intro w n I hw hn 
    obtain ⟨n, rfl⟩ : ∃ n', n = n' + 1 := ⟨n - 1, by omega⟩
    refine ⟨I, ?_, fun k h1 h2 => by omega, fun _ _ => rfl, fun _ _ => rfl⟩
    simp (disch := omega) only [x11_load_L2, x11_load_L2s, QN]
    rw [if_neg (by omega)]
  | succ j ih =>
    intro w n I hw hn 
    obtain ⟨n, rfl⟩ : ∃ n', n = n' + 1 := ⟨n - 1, by omega⟩
    obtain ⟨I', h1, h2, h3, h4⟩ := ih (w + 1) n (wI I 137 (w) (I 138 (w))) (by omega) (by omega)
    refine ⟨I', ?_, fun k g1 g2 => ?_, fun i hi => ?_, fun c hc => by rw [h4 c hc, wI_c hc]⟩
    · simp (disch := omega) only [x11_load_L2, x11_load_L2s, QN, QB, if_pos (show w < 123 by omega)]
      exact h1
    · by_cases e : k = w
      · subst e; rw [h3 _ (fun k' a b => by omega), wI_at]
      · rw [h2 k (by omega) g2, wI_c (by omega)]
    · rw [h3 i (fun k a b => hi k (by omega) b), wI_ne (Or.inr (hi w (Nat.le_refl _) (by omega)))]
theorem m_keepL : ∀ (j w n : Nat) (I : MI), w + j = 123 → j < n → ∃ I', x11_keep_L2 n (Int32.ofNat w) I = some I' ∧ (∀ k, w ≤ k → k < 123 → I' 138 (k) = I 137 (k)) ∧ (∀ i, (∀ k, w ≤ k → k < 123 → i ≠ k) → I' 138 i = I 138 i) ∧ ∀ c, c ≠ 138 → I' c = I c := by
  intro j
  induction j with
  | zero =>
    intro w n I hw hn 
    obtain ⟨n, rfl⟩ : ∃ n', n = n' + 1 := ⟨n - 1, by omega⟩
    refine ⟨I, ?_, fun k h1 h2 => by omega, fun _ _ => rfl, fun _ _ => rfl⟩
    simp (disch := omega) only [x11_keep_L2, x11_keep_L2s, QN]
    rw [if_neg (by omega)]
  | succ j ih =>
    intro w n I hw hn 
    obtain ⟨n, rfl⟩ : ∃ n', n = n' + 1 := ⟨n - 1, by omega⟩
    obtain ⟨I', h1, h2, h3, h4⟩ := ih (w + 1) n (wI I 138 (w) (I 137 (w))) (by omega) (by omega)
    refine ⟨I', ?_, fun k g1 g2 => ?_, fun i hi => ?_, fun c hc => by rw [h4 c hc, wI_c hc]⟩
    · simp (disch := omega) only [x11_keep_L2, x11_keep_L2s, QN, QB, if_pos (show w < 123 by omega)]
      exact h1
    · by_cases e : k = w
      · subst e; rw [h3 _ (fun k' a b => by omega), wI_at]
      · rw [h2 k (by omega) g2, wI_c (by omega)]
    · rw [h3 i (fun k a b => hi k (by omega) b), wI_ne (Or.inr (hi w (Nat.le_refl _) (by omega)))]
theorem m_rowL0 {d : Nat} (hd : d < 16) : ∀ (j w n : Nat) (I : MI), w + j = 123 → j < n → ∃ I', x11_loadRow_L2 (Int32.ofNat d) n (Int32.ofNat w) I = some I' ∧ (∀ k, w ≤ k → k < 123 → I' 137 (k) = I 140 (128 * d + k)) ∧ (∀ i, (∀ k, w ≤ k → k < 123 → i ≠ k) → I' 137 i = I 137 i) ∧ ∀ c, c ≠ 137 → I' c = I c := by
  intro j
  induction j with
  | zero =>
    intro w n I hw hn 
    obtain ⟨n, rfl⟩ : ∃ n', n = n' + 1 := ⟨n - 1, by omega⟩
    refine ⟨I, ?_, fun k h1 h2 => by omega, fun _ _ => rfl, fun _ _ => rfl⟩
    simp (disch := omega) only [x11_loadRow_L2, x11_loadRow_L2s, QN]
    rw [if_neg (by omega)]
  | succ j ih =>
    intro w n I hw hn 
    obtain ⟨n, rfl⟩ : ∃ n', n = n' + 1 := ⟨n - 1, by omega⟩
    obtain ⟨I', h1, h2, h3, h4⟩ := ih (w + 1) n (wI I 137 (w) (I 140 (128 * d + w))) (by omega) (by omega)
    refine ⟨I', ?_, fun k g1 g2 => ?_, fun i hi => ?_, fun c hc => by rw [h4 c hc, wI_c hc]⟩
    · simp (disch := omega) only [x11_loadRow_L2, x11_loadRow_L2s, QN, QB, if_pos (show w < 123 by omega)]
      exact h1
    · by_cases e : k = w
      · subst e; rw [h3 _ (fun k' a b => by omega), wI_at]
      · rw [h2 k (by omega) g2, wI_c (by omega)]
    · rw [h3 i (fun k a b => hi k (by omega) b), wI_ne (Or.inr (hi w (Nat.le_refl _) (by omega)))]
theorem m_deepL {d : Nat} (hd : d < 16) : ∀ (j w n : Nat) (I : MI), w + j = 123 → j < n → ∃ I', x11_goDeeper_L2 (Int32.ofNat d) n (Int32.ofNat w) I = some I' ∧ (∀ k, w ≤ k → k < 123 → I' 140 (128 * d + k) = I 137 (k)) ∧ (∀ i, (∀ k, w ≤ k → k < 123 → i ≠ 128 * d + k) → I' 140 i = I 140 i) ∧ ∀ c, c ≠ 140 → I' c = I c := by
  intro j
  induction j with
  | zero =>
    intro w n I hw hn 
    obtain ⟨n, rfl⟩ : ∃ n', n = n' + 1 := ⟨n - 1, by omega⟩
    refine ⟨I, ?_, fun k h1 h2 => by omega, fun _ _ => rfl, fun _ _ => rfl⟩
    simp (disch := omega) only [x11_goDeeper_L2, x11_goDeeper_L2s, QN]
    rw [if_neg (by omega)]
  | succ j ih =>
    intro w n I hw hn 
    obtain ⟨n, rfl⟩ : ∃ n', n = n' + 1 := ⟨n - 1, by omega⟩
    obtain ⟨I', h1, h2, h3, h4⟩ := ih (w + 1) n (wI I 140 (128 * d + w) (I 137 (w))) (by omega) (by omega)
    refine ⟨I', ?_, fun k g1 g2 => ?_, fun i hi => ?_, fun c hc => by rw [h4 c hc, wI_c hc]⟩
    · simp (disch := omega) only [x11_goDeeper_L2, x11_goDeeper_L2s, QN, QB, if_pos (show w < 123 by omega)]
      exact h1
    · by_cases e : k = w
      · subst e; rw [h3 _ (fun k' a b => by omega), wI_at]
      · rw [h2 k (by omega) g2, wI_c (by omega)]
    · rw [h3 i (fun k a b => hi k (by omega) b), wI_ne (Or.inr (hi w (Nat.le_refl _) (by omega)))]
theorem m_imageL {d : Nat} (hd : d < 3) : ∀ (j w n : Nat) (I : MI), w + j = 123 → j < n → ∃ I', x11_image_L22 (Int32.ofNat d) n (Int32.ofNat w) I = some I' ∧ (∀ k, w ≤ k → k < 123 → I' 157 (128 * d + k) = I 137 (k)) ∧ (∀ i, (∀ k, w ≤ k → k < 123 → i ≠ 128 * d + k) → I' 157 i = I 157 i) ∧ ∀ c, c ≠ 157 → I' c = I c := by
  intro j
  induction j with
  | zero =>
    intro w n I hw hn 
    obtain ⟨n, rfl⟩ : ∃ n', n = n' + 1 := ⟨n - 1, by omega⟩
    refine ⟨I, ?_, fun k h1 h2 => by omega, fun _ _ => rfl, fun _ _ => rfl⟩
    simp (disch := omega) only [x11_image_L22, x11_image_L22s, QN]
    rw [if_neg (by omega)]
  | succ j ih =>
    intro w n I hw hn 
    obtain ⟨n, rfl⟩ : ∃ n', n = n' + 1 := ⟨n - 1, by omega⟩
    obtain ⟨I', h1, h2, h3, h4⟩ := ih (w + 1) n (wI I 157 (128 * d + w) (I 137 (w))) (by omega) (by omega)
    refine ⟨I', ?_, fun k g1 g2 => ?_, fun i hi => ?_, fun c hc => by rw [h4 c hc, wI_c hc]⟩
    · simp (disch := omega) only [x11_image_L22, x11_image_L22s, QN, QB, if_pos (show w < 123 by omega)]
      exact h1
    · by_cases e : k = w
      · subst e; rw [h3 _ (fun k' a b => by omega), wI_at]
      · rw [h2 k (by omega) g2, wI_c (by omega)]
    · rw [h3 i (fun k a b => hi k (by omega) b), wI_ne (Or.inr (hi w (Nat.le_refl _) (by omega)))]
theorem m_backL {d : Nat} (hd : d < 3) : ∀ (j w n : Nat) (I : MI), w + j = 123 → j < n → ∃ I', x11_back_L20 (Int32.ofNat d) n (Int32.ofNat w) I = some I' ∧ (∀ k, w ≤ k → k < 123 → I' 138 (k) = I 157 (128 * d + k)) ∧ (∀ i, (∀ k, w ≤ k → k < 123 → i ≠ k) → I' 138 i = I 138 i) ∧ ∀ c, c ≠ 138 → I' c = I c := by
  intro j
  induction j with
  | zero =>
    intro w n I hw hn 
    obtain ⟨n, rfl⟩ : ∃ n', n = n' + 1 := ⟨n - 1, by omega⟩
    refine ⟨I, ?_, fun k h1 h2 => by omega, fun _ _ => rfl, fun _ _ => rfl⟩
    simp (disch := omega) only [x11_back_L20, x11_back_L20s, QN]
    rw [if_neg (by omega)]
  | succ j ih =>
    intro w n I hw hn 
    obtain ⟨n, rfl⟩ : ∃ n', n = n' + 1 := ⟨n - 1, by omega⟩
    obtain ⟨I', h1, h2, h3, h4⟩ := ih (w + 1) n (wI I 138 (w) (I 157 (128 * d + w))) (by omega) (by omega)
    refine ⟨I', ?_, fun k g1 g2 => ?_, fun i hi => ?_, fun c hc => by rw [h4 c hc, wI_c hc]⟩
    · simp (disch := omega) only [x11_back_L20, x11_back_L20s, QN, QB, if_pos (show w < 123 by omega)]
      exact h1
    · by_cases e : k = w
      · subst e; rw [h3 _ (fun k' a b => by omega), wI_at]
      · rw [h2 k (by omega) g2, wI_c (by omega)]
    · rw [h3 i (fun k a b => hi k (by omega) b), wI_ne (Or.inr (hi w (Nat.le_refl _) (by omega)))]
theorem m_actL {d : Nat} (hd : d < 40) : ∀ (j w n : Nat) (I : MI), w + j = 123 → j < n → I 102 71 = Int32.ofNat d → ∃ I', x11_act_L52 n (Int32.ofNat w) I = some I' ∧ (∀ k, w ≤ k → k < 123 → I' 139 (128 * d + k) = I 138 (k)) ∧ (∀ i, (∀ k, w ≤ k → k < 123 → i ≠ 128 * d + k) → I' 139 i = I 139 i) ∧ ∀ c, c ≠ 139 → I' c = I c := by
  intro j
  induction j with
  | zero =>
    intro w n I hw hn hI
    obtain ⟨n, rfl⟩ : ∃ n', n = n' + 1 := ⟨n - 1, by omega⟩
    refine ⟨I, ?_, fun k h1 h2 => by omega, fun _ _ => rfl, fun _ _ => rfl⟩
    simp (disch := omega) only [x11_act_L52, x11_act_L52s, QN]
    rw [if_neg (by omega)]
  | succ j ih =>
    intro w n I hw hn hI
    obtain ⟨n, rfl⟩ : ∃ n', n = n' + 1 := ⟨n - 1, by omega⟩
    obtain ⟨I', h1, h2, h3, h4⟩ := ih (w + 1) n (wI I 139 (128 * d + w) (I 138 (w))) (by omega) (by omega) (by rw [wI_c (by omega)]; exact hI)
    refine ⟨I', ?_, fun k g1 g2 => ?_, fun i hi => ?_, fun c hc => by rw [h4 c hc, wI_c hc]⟩
    · simp (disch := omega) only [x11_act_L52, x11_act_L52s, QN, QB, hI, if_pos (show w < 123 by omega)]
      exact h1
    · by_cases e : k = w
      · subst e; rw [h3 _ (fun k' a b => by omega), wI_at]
      · rw [h2 k (by omega) g2, wI_c (by omega)]
    · rw [h3 i (fun k a b => hi k (by omega) b), wI_ne (Or.inr (hi w (Nat.le_refl _) (by omega)))]
theorem m_load (I : MI) : ∃ I', x11_load I = some I' ∧ (∀ k, k < 123 → I' 137 k = I 138 k) ∧ ∀ c, c ≠ 137 → I' c = I c := by
  obtain ⟨I', h1, h2, -, h4⟩ := m_loadL 123 0 FU I (by omega) (by unfold FU; omega)
  refine ⟨I', ?_, fun k hk => h2 k (by omega) hk, h4⟩
  rw [show Int32.ofNat 0 = 0 from rfl] at h1
  simp only [x11_load, QB, h1]
theorem m_keep (I : MI) : ∃ I', x11_keep I = some I' ∧ (∀ k, k < 123 → I' 138 k = I 137 k) ∧ ∀ c, c ≠ 138 → I' c = I c := by
  obtain ⟨I', h1, h2, -, h4⟩ := m_keepL 123 0 FU I (by omega) (by unfold FU; omega)
  refine ⟨I', ?_, fun k hk => h2 k (by omega) hk, h4⟩
  rw [show Int32.ofNat 0 = 0 from rfl] at h1
  simp only [x11_keep, QB, h1]
/-- the reference's row that is now -/
def Nw (I : MI) (P : PR) : Prop := (∀ k, k < 123 → I 138 k = P k) ∧ (∀ b, b < 4 → I 130 b = P (123 + b)) ∧ (∀ b, b < 4 → I 131 b = P (127 + b))
theorem m_loadN {I : MI} {P : PR} (h : Nw I P) : ∃ I', x11_load I = some I' ∧ Wr I' P ∧ ∀ c, c ≠ 137 → I' c = I c := by
  obtain ⟨I', h1, h2, h3⟩ := m_load I
  exact ⟨I', h1, ⟨fun k hk => by rw [h2 k hk]; exact h.1 k hk, fun b hb => by rw [h3 130 (by omega)]; exact h.2.1 b hb, fun b hb => by rw [h3 131 (by omega)]; exact h.2.2 b hb⟩, h3⟩
theorem Fm.of137 {I I' : MI} (h : ∀ c, c ≠ 137 → I' c = I c) : Fm I I' := ⟨fun c h1 _ _ => h c h1, fun j _ _ => by rw [h 102 (by omega)]⟩
theorem Fm.nw {I I' : MI} {P : PR} (h : Fm I I') (hN : Nw I P) : Nw I' P := ⟨fun k hk => by rw [h.1 138 (by omega) (by omega) (by omega)]; exact hN.1 k hk, fun b hb => by rw [h.1 130 (by omega) (by omega) (by omega)]; exact hN.2.1 b hb, fun b hb => by rw [h.1 131 (by omega) (by omega) (by omega)]; exact hN.2.2 b hb⟩
