/-! CALLS, 4: pairs that rest -/
def ld (D : TD) (C : TC) (P : PR) (a b : Nat) : Int32 := (smat D C P a b 10).1
def rok1 (D : TD) (C : TC) (P : PR) (a b r : Nat) : Bool := decide (¬ ld D C P a b < ld D C P r b) && decide (¬ ld D C P a r < ld D C P a b)
def srst (D : TD) (C : TC) (P : PR) (a b : Nat) : Nat → Bool
  | 0 => true
  | n + 1 => srst D C P a b n && rok1 D C P a b n
def srsk (D : TD) (C : TC) (P : PR) (a b : Nat) : Nat → Nat → Bool
  | _, 0 => true
  | w, k + 1 => rok1 D C P a b w && srsk D C P a b (w + 1) k
/-- what lies there, of the rows ahead of a and this row's first b -/
def srl1 (D : TD) (C : TC) (P : PR) (a : Nat) : Nat → List Int32 → List Int32
  | 0, l => l
  | b + 1, l => if srst D C P a b (nR D) = true then srl1 D C P a b l ++ [Int32.ofNat (10 * a + b)] else srl1 D C P a b l
def srl (D : TD) (C : TC) (P : PR) : Nat → List Int32
  | 0 => []
  | a + 1 => srl1 D C P a (nR D) (srl D C P a)
section OP
variable {t : Nat} {I : MI} {L : ML} {R : MR} {S : MS} {D : TD} {C : TC} {P : PR} {Z : AX}
theorem srst_iff {a b : Nat} : ∀ {n : Nat}, srst D C P a b n = true ↔ ∀ r, r < n → rok1 D C P a b r = true
  | 0 => ⟨fun _ r h => by omega, fun _ => rfl⟩
  | n + 1 => by
    simp only [srst, Bool.and_eq_true, srst_iff (n := n)]
    refine ⟨fun h r hr => ?_, fun h => ⟨fun r hr => h r (by omega), h n (by omega)⟩⟩
    by_cases e : r = n
    · subst e; exact h.2
    · exact h.1 r (by omega)
theorem srsk_iff {a b : Nat} : ∀ {k w : Nat}, srsk D C P a b w k = true ↔ ∀ r, w ≤ r → r < w + k → rok1 D C P a b r = true
  | 0, w => ⟨fun _ r h1 h2 => by omega, fun _ => rfl⟩
  | k + 1, w => by
    simp only [srsk, Bool.and_eq_true, srsk_iff (k := k)]
    refine ⟨fun h r h1 h2 => ?_, fun h => ⟨h w (by omega) (by omega), fun r h1 h2 => h r (by omega) (by omega)⟩⟩
    by_cases e : r = w
    · subst e; exact h.1
    · exact h.2 r (by omega) (by omega)
theorem srsk_srst {a b : Nat} : srsk D C P a b 0 (nR D) = srst D C P a b (nR D) := by
  have : srsk D C P a b 0 (nR D) = true ↔ srst D C P a b (nR D) = true := by
    rw [srsk_iff, srst_iff]
    exact ⟨fun h r hr => h r (by omega) (by omega), fun h r _ hr => h r (by omega)⟩
  cases h1 : srsk D C P a b 0 (nR D) <;> cases h2 : srst D C P a b (nR D) <;> simp_all
theorem srl1_len {a : Nat} {l : List Int32} : ∀ b, (srl1 D C P a b l).length ≤ l.length + b
  | 0 => Nat.le_refl _
  | b + 1 => by
    have := srl1_len (a := a) (l := l) b
    simp only [srl1]
    split
    · simp; omega
    · omega
theorem srl_len : ∀ a, (srl D C P a).length ≤ a * nR D
  | 0 => by simp [srl]
  | a + 1 => by
    have h1 := srl_len a
    have h2 := srl1_len (D := D) (C := C) (P := P) (a := a) (l := srl D C P a) (nR D)
    simp only [srl]
    rw [Nat.add_mul]; omega
/-- leads of the rows ahead of a, and of the first b of this one -/
def Ld (D : TD) (C : TC) (P : PR) (f : Nat → Int32) (a b : Nat) : Prop := ∀ u v, v < nR D → (u < a ∨ (u = a ∧ v < b)) → f (6 * u + v) = ld D C P u v
theorem c_playL {a : Nat} (ht : isT t) (hD : OkD D C) (hP : OkP D P) (hB : 2 ≤ nB D) (ha : a < nR D) : ∀ (j b n : Nat) (I : MI), b + j = nR D → j < n → Td I t D C → Rl D true I 47 P → Ld D C P (I 79) a b → ∃ I', x9_playAllPairs_L18 t 47 (Int32.ofNat a) n (Int32.ofNat b) I = some I' ∧ Ld D C P (I' 79) (a + 1) 0 ∧ Ft t I I' := by
  have hR6 := hD.r
  intro j
  induction j with
  | zero =>
    intro b n I hb hn hT hR hL
    obtain ⟨n, rfl⟩ : ∃ n', n = n' + 1 := ⟨n - 1, by omega⟩
    refine ⟨I, ?_, fun u v hv h => hL u v hv (by omega), Ft.refl⟩
    simp (disch := omega) only [x9_playAllPairs_L18, x9_playAllPairs_L18s, hT.1.2.2.2.2.2.2, hD.2.1.2.2.1, QN]
    rw [if_neg (by omega)]
  | succ j ih =>
    intro b n I hb hn hT hR hL
    obtain ⟨n, rfl⟩ : ∃ n', n = n' + 1 := ⟨n - 1, by omega⟩
    obtain ⟨I1, c1, c2⟩ := c_leadF hD ht hT hR hP hB ha (show b < nR D by omega)
    have h79 : I1 79 = I 79 := c2 79 (by omega) (by omega) (by rcases ht with h | h <;> omega) (by omega)
    have f2 : Ft t I (wI I1 79 (a * 6 + b) (ld D C P a b)) := c2.t.w (by omega)
    obtain ⟨I2, r1, r2, r3⟩ := ih (b + 1) n (wI I1 79 (a * 6 + b) (ld D C P a b)) (by omega) (by omega) (f2.td ht hT) (f2.rl ht hR) (fun u v hv h => by
      by_cases e : u = a ∧ v = b
      · obtain ⟨rfl, rfl⟩ := e
        rw [show 6 * u + v = u * 6 + v by omega, wI_at]
      · rw [wI_ne (Or.inr (by omega)), h79]
        exact hL u v hv (by omega))
    refine ⟨I2, ?_, r2, f2.trans r3⟩
    simp (disch := omega) only [x9_playAllPairs_L18, x9_playAllPairs_L18s, hT.1.2.2.2.2.2.2, hD.2.1.2.2.1, QN, QB, if_pos (show b < nR D by omega), c1]
    exact r1
theorem c_playA (ht : isT t) (hD : OkD D C) (hP : OkP D P) (hB : 2 ≤ nB D) : ∀ (j a n : Nat) (I : MI), a + j = nR D → j < n → Td I t D C → Rl D true I 47 P → Ld D C P (I 79) a 0 → ∃ I', x9_playAllPairs_L2 t 47 n (Int32.ofNat a) I = some I' ∧ Ld D C P (I' 79) (nR D) 0 ∧ Ft t I I' := by
  have hR6 := hD.r
  intro j
  induction j with
  | zero =>
    intro a n I hb hn hT hR hL
    obtain ⟨n, rfl⟩ : ∃ n', n = n' + 1 := ⟨n - 1, by omega⟩
    obtain rfl : a = nR D := by omega
    refine ⟨I, ?_, hL, Ft.refl⟩
    simp (disch := omega) only [x9_playAllPairs_L2, x9_playAllPairs_L2s, hT.1.2.2.2.2.2.2, hD.2.1.2.2.1, QN]
    simp
  | succ j ih =>
    intro a n I hb hn hT hR hL
    obtain ⟨n, rfl⟩ : ∃ n', n = n' + 1 := ⟨n - 1, by omega⟩
    obtain ⟨I1, c1, c2, c3⟩ := c_playL ht hD hP hB (show a < nR D by omega) (nR D) 0 FU I (by omega) (by unfold FU; omega) hT hR hL
    obtain ⟨I2, r1, r2, r3⟩ := ih (a + 1) n I1 (by omega) (by omega) (c3.td ht hT) (c3.rl ht hR) c2
    refine ⟨I2, ?_, r2, c3.trans r3⟩
    rw [show Int32.ofNat 0 = 0 from rfl] at c1
    simp (disch := omega) only [x9_playAllPairs_L2, x9_playAllPairs_L2s, hT.1.2.2.2.2.2.2, hD.2.1.2.2.1, QN, QB, if_pos (show a < nR D by omega), c1]
    exact r1
theorem c_restL {a b : Nat} (hD : OkD D C) (hT : Td I t D C) (ha : a < nR D) (hb : b < nR D) (hL : Ld D C P (I 79) (nR D) 0) : ∀ (k w n : Nat), w + k = nR D → k < n → x9_isAtRest_L15 t (Int32.ofNat a) (Int32.ofNat b) (ld D C P a b) I n (Int32.ofNat w) = some (if srsk D C P a b w k then .inl () else .inr 0) := by
  have hR6 := hD.r
  intro k
  induction k with
  | zero =>
    intro w n hw hn
    obtain ⟨n, rfl⟩ : ∃ n', n = n' + 1 := ⟨n - 1, by omega⟩
    obtain rfl : w = nR D := by omega
    simp (disch := omega) only [x9_isAtRest_L15, x9_isAtRest_L15s, hT.1.2.2.2.2.2.2, hD.2.1.2.2.1, QN]
    simp [srsk]
  | succ k ih =>
    intro w n hw hn
    obtain ⟨n, rfl⟩ : ∃ n', n = n' + 1 := ⟨n - 1, by omega⟩
    have e1 : I 79 (w * 6 + b) = ld D C P w b := by rw [show w * 6 + b = 6 * w + b by omega]; exact hL w b hb (by omega)
    have e2 : I 79 (a * 6 + w) = ld D C P a w := by rw [show a * 6 + w = 6 * a + w by omega]; exact hL a w (by omega) (by omega)
    simp (disch := omega) only [x9_isAtRest_L15, x9_isAtRest_L15s, hT.1.2.2.2.2.2.2, hD.2.1.2.2.1, QN, QB, if_pos (show w < nR D by omega), e1, e2, ih (w + 1) n (by omega) (by omega), srsk, rok1]
    by_cases g1 : ld D C P a b < ld D C P w b <;> by_cases g2 : ld D C P a w < ld D C P a b <;> simp [g1, g2]
theorem c_rest {a b : Nat} (hD : OkD D C) (hT : Td I t D C) (ha : a < nR D) (hb : b < nR D) (hL : Ld D C P (I 79) (nR D) 0) : x9_isAtRest t (Int32.ofNat a) (Int32.ofNat b) I = some (b2i (srst D C P a b (nR D))) := by
  have hR6 := hD.r
  have e1 : I 79 (a * 6 + b) = ld D C P a b := by rw [show a * 6 + b = 6 * a + b by omega]; exact hL a b hb (by omega)
  have h := c_restL (P := P) hD hT ha hb hL (nR D) 0 FU (by omega) (by unfold FU; omega)
  rw [show Int32.ofNat 0 = 0 from rfl, srsk_srst] at h
  simp (disch := omega) only [x9_isAtRest, QB, QN, e1, h]
  cases srst D C P a b (nR D) <;> rfl
theorem c_lay {l : List Int32} (v : Int32) (hl : l.length < 36) (hL : Ly 0 89 14 I l) : ∃ I', x10_lay v I = some I' ∧ Ly 0 89 14 I' (l ++ [v]) ∧ (∀ c, c ≠ 0 → c ≠ 89 → I' c = I c) ∧ (∀ j, j ≠ 14 → I' 0 j = I 0 j) := by
  obtain ⟨h1, h2⟩ := hL
  have n1 : (0 : Nat) ≠ 89 := by omega
  simp (disch := omega) only [x10_lay, h1, QN, QB, if_pos (show l.length < 36 by omega), wI_c n1]
  refine ⟨_, rfl, ⟨by rw [wI_at]; simp, fun i hi => ?_⟩, fun c g1 g2 => by rw [wI_c g1, wI_c g2], fun j hj => by rw [wI_ne (Or.inr hj), wI_c n1]⟩
  rw [wI_c (by omega)]
  simp at hi
  by_cases e : i = l.length
  · subst e; rw [wI_at]; simp
  · rw [wI_ne (Or.inr e), h2 i (by omega), List.getElem_append_left (by omega)]
theorem Td.ag {I' : MI} (h : Td I t D C) (e : ∀ j, j ≤ 16 → I' (t + j) = I (t + j)) : Td I' t D C := by
  have e0 : I' t = I t := e 0 (by omega)
  obtain ⟨h1, h2, h3, h4, h5⟩ := h
  have hc : ∀ s c, Cd I t s c → Cd I' t s c := by
    intro s c ⟨st, g1, g2, g3, g4⟩
    exact ⟨st, by rw [e 15 (by omega)]; exact g1, by rw [e 16 (by omega)]; exact g2, g3, fun i h => by rw [e 14 (by omega)]; exact g4 i h⟩
  exact ⟨by rw [e0]; exact h1, fun j a j1 j2 ha => by rw [e j (by omega)]; exact h2 j a j1 j2 ha, fun j b j1 j2 hb => by rw [e j (by omega)]; exact h3 j b j1 j2 hb, fun s hs => hc _ _ (h4 s hs), fun r hr => hc _ _ (h5 r hr)⟩
/-- only what lies there changes -/
def Fl (I I' : MI) : Prop := (∀ c, c ≠ 0 → c ≠ 89 → I' c = I c) ∧ ∀ j, j ≠ 14 → I' 0 j = I 0 j
theorem Fl.refl {I : MI} : Fl I I := ⟨fun _ _ _ => rfl, fun _ _ => rfl⟩
theorem Fl.trans {I I' I'' : MI} (h : Fl I I') (k : Fl I' I'') : Fl I I'' := ⟨fun c h1 h2 => (k.1 c h1 h2).trans (h.1 c h1 h2), fun j hj => (k.2 j hj).trans (h.2 j hj)⟩
theorem Fl.td {I' : MI} (hf : Fl I I') (ht : isT t) (h : Td I t D C) : Td I' t D C := h.ag (fun j hj => hf.1 _ (by rcases ht with h | h <;> omega) (by rcases ht with h | h <;> omega))
theorem Fl.kc' {I' : MI} (hf : Fl I I') (hS : RS t R S) : Kc' t R I I' := by
  have ht := hS.2.2.2.1
  refine ⟨fun c hc => hf.1 c (by rcases ht with h | h <;> omega) (by rcases ht with h | h <;> omega), hf.2, fun c i q d h1 h2 h3 h4 h5 => ?_⟩
  have := hS.q90 h2 h3
  exact hf.1 d (by omega) (by omega)
theorem c_rstL {a : Nat} (ht : isT t) (hD : OkD D C) (ha : a < nR D) : ∀ (j b n : Nat) (I : MI) (l : List Int32), b + j = nR D → j < n → Td I t D C → Ld D C P (I 79) (nR D) 0 → l.length + nR D ≤ 36 → Ly 0 89 14 I (srl1 D C P a b l) → ∃ I', x10_rests_L50 t (Int32.ofNat a) n (Int32.ofNat b) I = some I' ∧ Ly 0 89 14 I' (srl1 D C P a (nR D) l) ∧ Fl I I' := by
  have hR6 := hD.r
  intro j
  induction j with
  | zero =>
    intro b n I l hb hn hT hL hl hy
    obtain ⟨n, rfl⟩ : ∃ n', n = n' + 1 := ⟨n - 1, by omega⟩
    obtain rfl : b = nR D := by omega
    refine ⟨I, ?_, hy, Fl.refl⟩
    simp (disch := omega) only [x10_rests_L50, x10_rests_L50s, hT.1.2.2.2.2.2.2, hD.2.1.2.2.1, QN]
    simp
  | succ j ih =>
    intro b n I l hb hn hT hL hl hy
    obtain ⟨n, rfl⟩ : ∃ n', n = n' + 1 := ⟨n - 1, by omega⟩
    have hlen := srl1_len (D := D) (C := C) (P := P) (a := a) (l := l) b
    simp (disch := omega) only [x10_rests_L50, x10_rests_L50s, hT.1.2.2.2.2.2.2, hD.2.1.2.2.1, QN, QB, if_pos (show b < nR D by omega), c_rest hD hT ha (show b < nR D by omega) hL, b2i_0]
    by_cases hr : srst D C P a b (nR D) = true
    · obtain ⟨I1, c1, c2, c3, c4⟩ := c_lay (I := I) (Int32.ofNat (10 * a + b)) (show (srl1 D C P a b l).length < 36 by omega) hy
      have f1 : Fl I I1 := ⟨c3, c4⟩
      have hs : srl1 D C P a (b + 1) l = srl1 D C P a b l ++ [Int32.ofNat (10 * a + b)] := by simp only [srl1, if_pos hr]
      obtain ⟨I2, r1, r2, r3⟩ := ih (b + 1) n I1 l (by omega) (by omega) (f1.td ht hT) (by rw [f1.1 79 (by omega) (by omega)]; exact hL) hl (by rw [hs]; exact c2)
      refine ⟨I2, ?_, r2, f1.trans r3⟩
      simp only [hr, if_true, c1, QB]
      exact r1
    · have hs : srl1 D C P a (b + 1) l = srl1 D C P a b l := by simp only [srl1, if_neg hr]
      obtain ⟨I2, r1, r2, r3⟩ := ih (b + 1) n I l (by omega) (by omega) hT hL hl (by rw [hs]; exact hy)
      refine ⟨I2, ?_, r2, r3⟩
      simp only [hr, Bool.false_eq_true, if_false]
      exact r1
theorem c_rstA (ht : isT t) (hD : OkD D C) : ∀ (j a n : Nat) (I : MI), a + j = nR D → j < n → Td I t D C → Ld D C P (I 79) (nR D) 0 → Ly 0 89 14 I (srl D C P a) → ∃ I', x10_rests_L34 t n (Int32.ofNat a) I = some I' ∧ Ly 0 89 14 I' (srl D C P (nR D)) ∧ Fl I I' := by
  have hR6 := hD.r
  intro j
  induction j with
  | zero =>
    intro a n I hb hn hT hL hy
    obtain ⟨n, rfl⟩ : ∃ n', n = n' + 1 := ⟨n - 1, by omega⟩
    obtain rfl : a = nR D := by omega
    refine ⟨I, ?_, hy, Fl.refl⟩
    simp (disch := omega) only [x10_rests_L34, x10_rests_L34s, hT.1.2.2.2.2.2.2, hD.2.1.2.2.1, QN]
    simp
  | succ j ih =>
    intro a n I hb hn hT hL hy
    obtain ⟨n, rfl⟩ : ∃ n', n = n' + 1 := ⟨n - 1, by omega⟩
    have hlen := srl_len (D := D) (C := C) (P := P) a
    have hl36 : (srl D C P a).length + nR D ≤ 36 := by
      have h1 : (a + 1) * nR D ≤ 6 * 6 := Nat.mul_le_mul (by omega) hR6
      rw [Nat.add_mul] at h1; omega
    obtain ⟨I1, c1, c2, c3⟩ := c_rstL ht hD (show a < nR D by omega) (nR D) 0 FU I (srl D C P a) (by omega) (by unfold FU; omega) hT hL hl36 hy
    obtain ⟨I2, r1, r2, r3⟩ := ih (a + 1) n I1 (by omega) (by omega) (c3.td ht hT) (by rw [c3.1 79 (by omega) (by omega)]; exact hL) c2
    refine ⟨I2, ?_, r2, c3.trans r3⟩
    rw [show Int32.ofNat 0 = 0 from rfl] at c1
    simp (disch := omega) only [x10_rests_L34, x10_rests_L34s, hT.1.2.2.2.2.2.2, hD.2.1.2.2.1, QN, QB, if_pos (show a < nR D by omega), c1]
    exact r1
theorem c_rests (hS : RS t R S) (hD : OkD D C) (hT : Td I t D C) (hR : Rl D true I 47 P) (hP : OkP D P) : ∃ I', x10_rests t I = some (Int32.ofNat (if nB D < 2 then [] else srl D C P (nR D)).length, I') ∧ Ly 0 89 14 I' (if nB D < 2 then [] else srl D C P (nR D)) ∧ Kc' t R I I' := by
  have ht := hS.2.2.2.1
  have hB := hD.b
  have hR6 := hD.r
  have f0 : Fl I (wI I 0 14 0) := ⟨fun c h1 _ => wI_c h1, fun j hj => wI_ne (Or.inr hj)⟩
  have hT0 := f0.td ht hT
  have hR0 : Rl D true (wI I 0 14 0) 47 P := hR.fr (fun c h1 h2 => wI_c (by omega))
  have hy0 : Ly 0 89 14 (wI I 0 14 0) [] := ⟨by rw [wI_at]; rfl, fun i h => by simp at h⟩
  by_cases hb : nB D < 2
  · rw [if_pos hb]
    refine ⟨wI I 0 14 0, ?_, hy0, f0.kc' hS⟩
    simp (disch := omega) only [x10_rests, QB, hT0.1.2.2.2.2.2.1, hD.2.1.2.1.1, QN, hb, if_true]
    rfl
  · rw [if_neg hb]
    obtain ⟨I1, c1, c2, c3⟩ := c_playA ht hD hP (by omega) (nR D) 0 FU (wI I 0 14 0) (by omega) (by unfold FU; omega) hT0 hR0 (fun u v _ h => by omega)
    obtain ⟨I2, r1, r2, r3⟩ := c_rstA (P := P) ht hD (nR D) 0 FU I1 (by omega) (by unfold FU; omega) (c3.td ht hT0) c2 ⟨by rw [c3 0 (by omega) (by omega) (by rcases ht with h | h <;> omega) (by omega)]; exact hy0.1, fun i h => by simp [srl] at h⟩
    rw [show Int32.ofNat 0 = 0 from rfl] at c1 r1
    refine ⟨I2, ?_, r2, ((f0.kc' hS).trans (c3.kc hS).k').trans (r3.kc' hS)⟩
    simp (disch := omega) only [x10_rests, QB, hT0.1.2.2.2.2.2.1, hD.2.1.2.1.1, QN, hb, if_false, x9_playAllPairs, c1, r1, r2.1]
/-! the reference's -/
def Frs (I I' : MI) : Prop := (∀ c, c ≠ 137 → c ≠ 111 → c ≠ 102 → c ≠ 150 → c ≠ 149 → I' c = I c) ∧ (∀ j, j ≠ 68 → j ≠ 69 → j ≠ 85 → I' 102 j = I 102 j)
theorem Frs.refl {I : MI} : Frs I I := ⟨fun _ _ _ _ _ _ => rfl, fun _ _ _ _ => rfl⟩
theorem Frs.trans {I I' I'' : MI} (h : Frs I I') (k : Frs I' I'') : Frs I I'' := ⟨fun c h1 h2 h3 h4 h5 => (k.1 c h1 h2 h3 h4 h5).trans (h.1 c h1 h2 h3 h4 h5), fun j h1 h2 h3 => (k.2 j h1 h2 h3).trans (h.2 j h1 h2 h3)⟩
theorem Fm.frs {I I' : MI} (h : Fm I I') : Frs I I' := ⟨fun c h1 h2 h3 _ _ => h.1 c h1 h2 h3, fun j h1 h2 _ => h.2 j h1 h2⟩
theorem Frs.kr' {I I' : MI} (h : Frs I I') : Kr' I I' := ⟨fun c hc => h.1 c (by omega) (by omega) (by omega) (by omega) (by omega), fun j h1 h2 _ h4 => h.2 j h1 h2 h4⟩
theorem Kr'.rd {I I' : MI} (h : Kr' I I') (hR : Rd I D C) : Rd I' D C := by
  obtain ⟨⟨a1, a2, a3, a4, a5, a6⟩, b2, b3, b4, b5⟩ := hR
  obtain ⟨f1, f2⟩ := h
  refine ⟨⟨?_, ?_, ?_, ?_, ?_, ?_⟩, fun a ha => ?_, fun b hb => ?_, fun s hs => ?_, fun r hr => ?_⟩
  · rw [f2 56 (by omega) (by omega) (by omega) (by omega)]; exact a1
  · rw [f2 57 (by omega) (by omega) (by omega) (by omega)]; exact a2
  · rw [f2 65 (by omega) (by omega) (by omega) (by omega)]; exact a3
  · rw [f2 60 (by omega) (by omega) (by omega) (by omega)]; exact a4
  · rw [f2 61 (by omega) (by omega) (by omega) (by omega)]; exact a5
  · rw [f2 59 (by omega) (by omega) (by omega) (by omega)]; exact a6
  · simp (disch := omega) only [f1]; exact b2 a ha
  · simp (disch := omega) only [f1]; exact b3 b hb
  · rw [f2 58 (by omega) (by omega) (by omega) (by omega)]
    rcases b4 s hs with ⟨g1, g2⟩ | g
    · exact Or.inl ⟨g1, g2.fr (by simp (disch := omega) only [f1]) (by simp (disch := omega) only [f1]) (by simp (disch := omega) only [f1])⟩
    · exact Or.inr g
  · exact (b5 r hr).fr (by simp (disch := omega) only [f1]) (by simp (disch := omega) only [f1]) (by simp (disch := omega) only [f1])
theorem Kr'.nw {I I' : MI} {P : PR} (h : Kr' I I') (hN : Nw I P) : Nw I' P := ⟨fun k hk => by rw [h.1 138 (by omega)]; exact hN.1 k hk, fun b hb => by rw [h.1 130 (by omega)]; exact hN.2.1 b hb, fun b hb => by rw [h.1 131 (by omega)]; exact hN.2.2 b hb⟩
theorem m_rmL {a : Nat} (hD : OkD D C) (hP : OkP D P) (hB : 2 ≤ nB D) (ha : a < nR D) : ∀ (j b n : Nat) (I : MI), b + j = nR D → j < n → Rd I D C → Nw I P → Ld D C P (I 150) a b → ∃ I', x11_rests_L27 (Int32.ofNat a) n (Int32.ofNat b) I = some I' ∧ Ld D C P (I' 150) (a + 1) 0 ∧ I' 102 85 = I 102 85 ∧ Frs I I' := by
  have hR6 := hD.r
  intro j
  induction j with
  | zero =>
    intro b n I hb hn hR hN hL
    obtain ⟨n, rfl⟩ : ∃ n', n = n' + 1 := ⟨n - 1, by omega⟩
    refine ⟨I, ?_, fun u v hv h => hL u v hv (by omega), rfl, Frs.refl⟩
    simp (disch := omega) only [x11_rests_L27, x11_rests_L27s, hR.1.2.2.2.2.2, hD.2.1.2.2.1, QN]
    rw [if_neg (by omega)]
  | succ j ih =>
    intro b n I hb hn hR hN hL
    obtain ⟨n, rfl⟩ : ∃ n', n = n' + 1 := ⟨n - 1, by omega⟩
    obtain ⟨I1, c1, c2⟩ := m_mat hD hR hN hP hB ha (show b < nR D by omega)
    have h79 : I1 150 = I 150 := c2.1 150 (by omega) (by omega) (by omega)
    have f2 : Frs I (wI I1 150 (6 * a + b) (ld D C P a b)) := ⟨fun c h1 h2 h3 h4 h5 => by rw [wI_c h4]; exact c2.1 c h1 h2 h3, fun j h1 h2 h3 => by rw [wI_c (by omega)]; exact c2.2 j h1 h2⟩
    obtain ⟨I2, r1, r2, r3, r4⟩ := ih (b + 1) n (wI I1 150 (6 * a + b) (ld D C P a b)) (by omega) (by omega) (f2.kr'.rd hR) (f2.kr'.nw hN) (fun u v hv h => by
      by_cases e : u = a ∧ v = b
      · obtain ⟨rfl, rfl⟩ := e
        rw [wI_at]
      · rw [wI_ne (Or.inr (by omega)), h79]
        exact hL u v hv (by omega))
    refine ⟨I2, ?_, r2, by rw [r3, wI_c (by omega), c2.2 85 (by omega) (by omega)], f2.trans r4⟩
    simp (disch := omega) only [x11_rests_L27, x11_rests_L27s, hR.1.2.2.2.2.2, hD.2.1.2.2.1, QN, QB, if_pos (show b < nR D by omega), c1]
    exact r1
theorem m_rmA (hD : OkD D C) (hP : OkP D P) (hB : 2 ≤ nB D) : ∀ (j a n : Nat) (I : MI), a + j = nR D → j < n → Rd I D C → Nw I P → Ld D C P (I 150) a 0 → ∃ I', x11_rests_L17 n (Int32.ofNat a) I = some I' ∧ Ld D C P (I' 150) (nR D) 0 ∧ I' 102 85 = I 102 85 ∧ Frs I I' := by
  have hR6 := hD.r
  intro j
  induction j with
  | zero =>
    intro a n I hb hn hR hN hL
    obtain ⟨n, rfl⟩ : ∃ n', n = n' + 1 := ⟨n - 1, by omega⟩
    obtain rfl : a = nR D := by omega
    refine ⟨I, ?_, hL, rfl, Frs.refl⟩
    simp (disch := omega) only [x11_rests_L17, x11_rests_L17s, hR.1.2.2.2.2.2, hD.2.1.2.2.1, QN]
    simp
  | succ j ih =>
    intro a n I hb hn hR hN hL
    obtain ⟨n, rfl⟩ : ∃ n', n = n' + 1 := ⟨n - 1, by omega⟩
    obtain ⟨I1, c1, c2, c3, c4⟩ := m_rmL hD hP hB (show a < nR D by omega) (nR D) 0 FU I (by omega) (by unfold FU; omega) hR hN hL
    obtain ⟨I2, r1, r2, r3, r4⟩ := ih (a + 1) n I1 (by omega) (by omega) (c4.kr'.rd hR) (c4.kr'.nw hN) c2
    refine ⟨I2, ?_, r2, r3.trans c3, c4.trans r4⟩
    rw [show Int32.ofNat 0 = 0 from rfl] at c1
    simp (disch := omega) only [x11_rests_L17, x11_rests_L17s, hR.1.2.2.2.2.2, hD.2.1.2.2.1, QN, QB, if_pos (show a < nR D by omega), c1]
    exact r1
theorem m_restL {a b : Nat} (hD : OkD D C) (hR : Rd I D C) (ha : a < nR D) (hb : b < nR D) (hL : Ld D C P (I 150) (nR D) 0) : ∀ (k w n : Nat), w + k = nR D → k < n → x11_doesRest_L5 (Int32.ofNat a) (Int32.ofNat b) I n (b2i (srst D C P a b w)) (Int32.ofNat w) = some (b2i (srst D C P a b (nR D))) := by
  have hR6 := hD.r
  intro k
  induction k with
  | zero =>
    intro w n hw hn
    obtain ⟨n, rfl⟩ : ∃ n', n = n' + 1 := ⟨n - 1, by omega⟩
    obtain rfl : w = nR D := by omega
    simp (disch := omega) only [x11_doesRest_L5, x11_doesRest_L5s, hR.1.2.2.2.2.2, hD.2.1.2.2.1, QN]
    simp
  | succ k ih =>
    intro w n hw hn
    obtain ⟨n, rfl⟩ : ∃ n', n = n' + 1 := ⟨n - 1, by omega⟩
    have e1 : I 150 (6 * w + b) = ld D C P w b := hL w b hb (by omega)
    have e2 : I 150 (6 * a + w) = ld D C P a w := hL a w (by omega) (by omega)
    have e3 : I 150 (6 * a + b) = ld D C P a b := hL a b hb (by omega)
    have hi := ih (w + 1) n (by omega) (by omega)
    simp only [srst, rok1] at hi
    simp (disch := omega) only [x11_doesRest_L5, x11_doesRest_L5s, hR.1.2.2.2.2.2, hD.2.1.2.2.1, QN, QB, if_pos (show w < nR D by omega), e1, e2, e3, b2i_0]
    cases hs : srst D C P a b w
    · simp only [hs, Bool.false_and, b2i, Bool.false_eq_true, if_false] at hi ⊢; exact hi
    · simp only [hs, Bool.true_and, if_true] at hi ⊢
      by_cases g1 : ld D C P a b < ld D C P w b
      · simp only [g1, not_true, decide_false, Bool.false_and, b2i, Bool.false_eq_true, if_false, if_true] at hi ⊢; exact hi
      · by_cases g2 : ld D C P a w < ld D C P a b
        · simp only [g1, g2, not_true, not_false_eq_true, decide_false, decide_true, Bool.and_false, b2i, Bool.false_eq_true, if_false, if_true] at hi ⊢; exact hi
        · simp only [g1, g2, not_false_eq_true, decide_true, Bool.and_self, b2i, if_false, if_true] at hi ⊢; exact hi
theorem m_rest {a b : Nat} (hD : OkD D C) (hR : Rd I D C) (ha : a < nR D) (hb : b < nR D) (hL : Ld D C P (I 150) (nR D) 0) : x11_doesRest (Int32.ofNat a) (Int32.ofNat b) I = some (b2i (srst D C P a b (nR D))) := by
  have hR6 := hD.r
  have h := m_restL (P := P) hD hR ha hb hL (nR D) 0 FU (by omega) (by unfold FU; omega)
  rw [show Int32.ofNat 0 = 0 from rfl, show b2i (srst D C P a b 0) = 1 from rfl] at h
  simp only [x11_doesRest, QB, h, b2i_or]
theorem m_rstL {a : Nat} (hD : OkD D C) (ha : a < nR D) : ∀ (j b n : Nat) (I : MI) (l : List Int32), b + j = nR D → j < n → Rd I D C → Ld D C P (I 150) (nR D) 0 → l.length + nR D ≤ 36 → Ly 102 149 85 I (srl1 D C P a b l) → ∃ I', x11_rests_L76 (Int32.ofNat a) n (Int32.ofNat b) I = some I' ∧ Ly 102 149 85 I' (srl1 D C P a (nR D) l) ∧ I' 150 = I 150 ∧ Frs I I' := by
  have hR6 := hD.r
  intro j
  induction j with
  | zero =>
    intro b n I l hb hn hR hL hl hy
    obtain ⟨n, rfl⟩ : ∃ n', n = n' + 1 := ⟨n - 1, by omega⟩
    obtain rfl : b = nR D := by omega
    refine ⟨I, ?_, hy, rfl, Frs.refl⟩
    simp (disch := omega) only [x11_rests_L76, x11_rests_L76s, hR.1.2.2.2.2.2, hD.2.1.2.2.1, QN]
    simp
  | succ j ih =>
    intro b n I l hb hn hR hL hl hy
    obtain ⟨n, rfl⟩ : ∃ n', n = n' + 1 := ⟨n - 1, by omega⟩
    have hlen := srl1_len (D := D) (C := C) (P := P) (a := a) (l := l) b
    simp (disch := omega) only [x11_rests_L76, x11_rests_L76s, hR.1.2.2.2.2.2, hD.2.1.2.2.1, QN, QB, if_pos (show b < nR D by omega), m_rest hD hR ha (show b < nR D by omega) hL, b2i_0]
    by_cases hr : srst D C P a b (nR D) = true
    · have n1 : (102 : Nat) ≠ 149 := by omega
      have hs : srl1 D C P a (b + 1) l = srl1 D C P a b l ++ [Int32.ofNat (10 * a + b)] := by simp only [srl1, if_pos hr]
      have f1 : Frs I (wI (wI I 149 (srl1 D C P a b l).length (Int32.ofNat (10 * a + b))) 102 85 (Int32.ofNat ((srl1 D C P a b l).length + 1))) := ⟨fun c h1 h2 h3 h4 h5 => by rw [wI_c h3, wI_c h5], fun j h1 h2 h3 => by rw [wI_ne (Or.inr h3), wI_c n1]⟩
      obtain ⟨I2, r1, r2, r3, r4⟩ := ih (b + 1) n (wI (wI I 149 (srl1 D C P a b l).length (Int32.ofNat (10 * a + b))) 102 85 (Int32.ofNat ((srl1 D C P a b l).length + 1))) l (by omega) (by omega) (f1.kr'.rd hR) (by rw [wI_c (by omega), wI_c (by omega)]; exact hL) hl (by
        rw [hs]
        refine ⟨by rw [wI_at]; simp, fun i hi => ?_⟩
        rw [wI_c (by omega)]
        simp at hi
        by_cases e : i = (srl1 D C P a b l).length
        · subst e; rw [wI_at]; simp
        · rw [wI_ne (Or.inr e), hy.2 i (by omega), List.getElem_append_left (by omega)])
      refine ⟨I2, ?_, r2, by rw [r3, wI_c (by omega), wI_c (by omega)], f1.trans r4⟩
      simp (disch := omega) only [hr, if_true, QB, hy.1, QN, wI_c n1]
      exact r1
    · have hs : srl1 D C P a (b + 1) l = srl1 D C P a b l := by simp only [srl1, if_neg hr]
      obtain ⟨I2, r1, r2, r3, r4⟩ := ih (b + 1) n I l (by omega) (by omega) hR hL hl (by rw [hs]; exact hy)
      refine ⟨I2, ?_, r2, r3, r4⟩
      simp only [hr, Bool.false_eq_true, if_false]
      exact r1
theorem m_rstA (hD : OkD D C) : ∀ (j a n : Nat) (I : MI), a + j = nR D → j < n → Rd I D C → Ld D C P (I 150) (nR D) 0 → Ly 102 149 85 I (srl D C P a) → ∃ I', x11_rests_L66 n (Int32.ofNat a) I = some I' ∧ Ly 102 149 85 I' (srl D C P (nR D)) ∧ Frs I I' := by
  have hR6 := hD.r
  intro j
  induction j with
  | zero =>
    intro a n I hb hn hR hL hy
    obtain ⟨n, rfl⟩ : ∃ n', n = n' + 1 := ⟨n - 1, by omega⟩
    obtain rfl : a = nR D := by omega
    refine ⟨I, ?_, hy, Frs.refl⟩
    simp (disch := omega) only [x11_rests_L66, x11_rests_L66s, hR.1.2.2.2.2.2, hD.2.1.2.2.1, QN]
    simp
  | succ j ih =>
    intro a n I hb hn hR hL hy
    obtain ⟨n, rfl⟩ : ∃ n', n = n' + 1 := ⟨n - 1, by omega⟩
    have hlen := srl_len (D := D) (C := C) (P := P) a
    have hl36 : (srl D C P a).length + nR D ≤ 36 := by
      have h1 : (a + 1) * nR D ≤ 6 * 6 := Nat.mul_le_mul (by omega) hR6
      rw [Nat.add_mul] at h1; omega
    obtain ⟨I1, c1, c2, c3, c4⟩ := m_rstL hD (show a < nR D by omega) (nR D) 0 FU I (srl D C P a) (by omega) (by unfold FU; omega) hR hL hl36 hy
    obtain ⟨I2, r1, r2, r3⟩ := ih (a + 1) n I1 (by omega) (by omega) (c4.kr'.rd hR) (by rw [c3]; exact hL) c2
    refine ⟨I2, ?_, r2, c4.trans r3⟩
    rw [show Int32.ofNat 0 = 0 from rfl] at c1
    simp (disch := omega) only [x11_rests_L66, x11_rests_L66s, hR.1.2.2.2.2.2, hD.2.1.2.2.1, QN, QB, if_pos (show a < nR D by omega), c1]
    exact r1
theorem m_rests (hD : OkD D C) (hR : Rd I D C) (hN : Nw I P) (hP : OkP D P) : ∃ I', x11_rests I = some (Int32.ofNat (if nB D < 2 then [] else srl D C P (nR D)).length, I') ∧ Ly 102 149 85 I' (if nB D < 2 then [] else srl D C P (nR D)) ∧ Kr' I I' := by
  have hB := hD.b
  have hR6 := hD.r
  have f0 : Frs I (wI I 102 85 0) := ⟨fun c _ _ h _ _ => wI_c h, fun j _ _ hj => wI_ne (Or.inr hj)⟩
  have hR0 := f0.kr'.rd hR
  have hN0 := f0.kr'.nw hN
  have hy0 : Ly 102 149 85 (wI I 102 85 0) [] := ⟨by rw [wI_at]; rfl, fun i h => by simp at h⟩
  by_cases hb : nB D < 2
  · rw [if_pos hb]
    refine ⟨wI I 102 85 0, ?_, hy0, f0.kr'⟩
    simp (disch := omega) only [x11_rests, QB, hR0.1.2.2.2.2.1, hD.2.1.2.1.1, QN, hb, if_true]
    rfl
  · rw [if_neg hb]
    obtain ⟨I1, c1, c2, c3, c4⟩ := m_rmA hD hP (by omega) (nR D) 0 FU (wI I 102 85 0) (by omega) (by unfold FU; omega) hR0 hN0 (fun u v _ h => by omega)
    obtain ⟨I2, r1, r2, r3⟩ := m_rstA (P := P) hD (nR D) 0 FU I1 (by omega) (by unfold FU; omega) (c4.kr'.rd hR0) c2 ⟨by rw [c3]; exact hy0.1, fun i h => by simp [srl] at h⟩
    rw [show Int32.ofNat 0 = 0 from rfl] at c1 r1
    refine ⟨I2, ?_, r2, (f0.trans (c4.trans r3)).kr'⟩
    simp (disch := omega) only [x11_rests, QB, hR0.1.2.2.2.2.1, hD.2.1.2.1.1, QN, hb, if_false, c1, r1, r2.1]
theorem op_rests (h : INV t I L R S D C P Z) : ∃ r I1 I2 Z', x10_rests t I = some (r, I1) ∧ x11_rests I1 = some (r, I2) ∧ INV t I2 L R S D C P Z' := by
  have hS := h.1
  have hD := h.2.2.2.1.1
  have hR6 := hD.r
  have hP := h.2.2.2.1.2.1
  obtain ⟨I1, c1, c2, c3⟩ := c_rests hS hD h.2.1.1 h.2.1.2.1 hP
  have hm := h.2.2.1.kc (I' := I1) (fun c h1 h2 => c3.1 c (by omega))
  obtain ⟨I2, m1, m2, m3⟩ := m_rests hD hm.1 hm.2.1 hP
  refine ⟨_, I1, I2, _, c1, m1, h.ly ?_ c3 c2 m3 m2⟩
  split
  · simp
  · have := srl_len (D := D) (C := C) (P := P) (nR D)
    have h1 : nR D * nR D ≤ 6 * 6 := Nat.mul_le_mul hR6 hR6
    omega
end OP
