/-! CALLS, 3: replies, pairs that rest, orders; what lies there -/
def zl (Z : AX) (l : List Int32) : AX := (Z.1, Z.2.1, l, Z.2.2.2)
/-- as a question, but for what lies there -/
def Kc' (t : Nat) (R : MR) (I I' : MI) : Prop := (∀ c, (c = 1 ∨ c = 20 ∨ (t ≤ c ∧ c ≤ t + 16) ∨ (47 ≤ c ∧ c ≤ 59) ∨ c = 62 ∨ (83 ≤ c ∧ c ≤ 88) ∨ (102 ≤ c ∧ c < 158)) → I' c = I c) ∧ (∀ j, j ≠ 14 → I' 0 j = I 0 j) ∧ ∀ c i q d, (c = 60 ∨ c = 61) → dyn c i → R c i = some q → q ≤ d → d ≤ q + 11 → I' d = I d
def Kr' (I I' : MI) : Prop := (∀ c, (c < 102 ∨ 158 ≤ c ∨ c = 103 ∨ (106 ≤ c ∧ c ≤ 109) ∨ (125 ≤ c ∧ c ≤ 136) ∨ c = 138 ∨ c = 139 ∨ (151 ≤ c ∧ c ≤ 157)) → I' c = I c) ∧ ∀ j, j ≠ 68 → j ≠ 69 → j ≠ 80 → j ≠ 85 → I' 102 j = I 102 j
def Ly (a b k : Nat) (I : MI) (l : List Int32) : Prop := I a k = Int32.ofNat l.length ∧ ∀ i (h : i < l.length), I b i = l[i]
theorem Kc'.refl {t : Nat} {R : MR} {I : MI} : Kc' t R I I := ⟨fun _ _ => rfl, fun _ _ => rfl, fun _ _ _ _ _ _ _ _ _ => rfl⟩
theorem Kc'.trans {t : Nat} {R : MR} {I I' I'' : MI} (h : Kc' t R I I') (k : Kc' t R I' I'') : Kc' t R I I'' := ⟨fun c hc => (k.1 c hc).trans (h.1 c hc), fun j hj => (k.2.1 j hj).trans (h.2.1 j hj), fun c i q d h1 h2 h3 h4 h5 => (k.2.2 c i q d h1 h2 h3 h4 h5).trans (h.2.2 c i q d h1 h2 h3 h4 h5)⟩
theorem Kc.k' {t : Nat} {R : MR} {I I' : MI} (h : Kc t R I I') : Kc' t R I I' := ⟨fun c hc => h.1 c (by omega), fun j _ => by rw [h.1 0 (by omega)], h.2⟩
theorem Kr'.refl {I : MI} : Kr' I I := ⟨fun _ _ => rfl, fun _ _ _ _ _ => rfl⟩
theorem Kr'.trans {I I' I'' : MI} (h : Kr' I I') (k : Kr' I' I'') : Kr' I I'' := ⟨fun c hc => (k.1 c hc).trans (h.1 c hc), fun j h1 h2 h3 h4 => (k.2 j h1 h2 h3 h4).trans (h.2 j h1 h2 h3 h4)⟩
theorem Kr.k' {I I' : MI} (h : Kr I I') : Kr' I I' := ⟨fun c hc => h.1 c (by omega), fun j h1 h2 h3 _ => h.2 j h1 h2 h3⟩
theorem Fo.kr' {I I' : MI} (h : Fo I I') : Kr' I I' := ⟨fun c hc => h.1 c (by omega) (by omega) (by omega) (by omega) (by omega), fun j h1 h2 _ h4 => h.2 j h1 h2 h4⟩
section IN
variable {t : Nat} {I I' I'' : MI} {L : ML} {R : MR} {S : MS} {D : TD} {C : TC} {P : PR} {Z : AX}
/-- a question that lays down a row of numbers -/
theorem INV.ly (h : INV t I L R S D C P Z) {l : List Int32} (hl : l.length ≤ 36) (h1 : Kc' t R I I') (h2 : Ly 0 89 14 I' l) (h3 : Kr' I' I'') (h4 : Ly 102 149 85 I'' l) : INV t I'' L R S D C P (zl Z l) := by
  obtain ⟨hS, hc, hm, ha, hw⟩ := h
  have ht := hS.2.2.2.1
  refine ⟨hS, ?_, ?_, ⟨ha.1, ha.2.1, ha.2.2.1, ha.2.2.2.1, ha.2.2.2.2.1, hl, ha.2.2.2.2.2.2⟩, hw.1, hw.2.c ((h3.1 106 (by omega)).trans (h1.1 106 (by omega)))⟩
  · obtain ⟨g1, g2, g3, g4, g5, g6, g7, g8, g9, g10⟩ := hc
    have f : ∀ c, (c = 1 ∨ c = 20 ∨ (t ≤ c ∧ c ≤ t + 16) ∨ (47 ≤ c ∧ c ≤ 59) ∨ c = 62 ∨ (83 ≤ c ∧ c ≤ 88)) → I'' c = I c := fun c hc => (h3.1 c (by rcases ht with h | h <;> omega)).trans (h1.1 c (by omega))
    have f0 : ∀ j, j ≠ 14 → I'' 0 j = I 0 j := fun j hj => by rw [h3.1 0 (by omega)]; exact h1.2.1 j hj
    have fd : ∀ c i q d, (c = 60 ∨ c = 61) → dyn c i → R c i = some q → q ≤ d → d ≤ q + 11 → I'' d = I d := fun c i q d r1 r2 r3 r4 r5 => by
      have := hS.q90 r2 r3
      exact (h3.1 d (by omega)).trans (h1.2.2 c i q d r1 r2 r3 r4 r5)
    have e : ∀ j, j ≤ 16 → I'' (t + j) = I (t + j) := fun j hj => f _ (by omega)
    have e0 : I'' t = I t := e 0 (by omega)
    obtain ⟨k1, k2, k3, k4, k5⟩ := g1
    have hc : ∀ s c, Cd I t s c → Cd I'' t s c := by
      intro s c ⟨st, g1, g2, g3, g4⟩
      exact ⟨st, by rw [e 15 (by omega)]; exact g1, by rw [e 16 (by omega)]; exact g2, g3, fun i h => by rw [e 14 (by omega)]; exact g4 i h⟩
    refine ⟨⟨by rw [e0]; exact k1, fun j a j1 j2 ha => by rw [e j (by omega)]; exact k2 j a j1 j2 ha, fun j b j1 j2 hb => by rw [e j (by omega)]; exact k3 j b j1 j2 hb, fun s hs => hc _ _ (k4 s hs), fun r hr => hc _ _ (k5 r hr)⟩, g2.fr (fun c r1 r2 => f c (by omega)), ⟨by rw [f0 1 (by omega)]; exact g3.1, fun i hi => by rw [f 1 (by omega)]; exact g3.2 i hi⟩, by rw [f 20 (by omega)]; exact g4, by rw [f0 12 (by omega)]; exact g5, ⟨by rw [h3.1 0 (by omega)]; exact h2.1, fun i hi => by rw [h3.1 89 (by omega)]; exact h2.2 i hi⟩, ⟨by rw [f 83 (by omega)]; exact g7.1, fun i j hi hj => by rw [f _ (by omega)]; exact g7.2 i j hi hj⟩, ?_, ?_, by rw [e 13 (by omega)]; exact g10⟩
    · obtain ⟨od, r1, r2, r3, r4, r5⟩ := g8
      refine ⟨od, r1, by rw [f 59 (by omega)]; exact r2, by rw [f 59 (by omega)]; exact r3, by rw [f 59 (by omega)]; exact r4, fun i hi => ?_⟩
      obtain ⟨q, q1, q2⟩ := r5 i hi
      exact ⟨q, q1, q2.fr (fun c s1 s2 => fd 60 _ q c (Or.inl rfl) (Or.inl ⟨rfl, Nat.mod_lt _ (by omega)⟩) q1 s1 s2)⟩
    · intro b hb
      rcases g9 b hb with ⟨r1, r2⟩ | ⟨Q, q, r1, r2, r3, r4⟩
      · exact Or.inl ⟨r1, by rw [f 62 (by omega)]; exact r2⟩
      · exact Or.inr ⟨Q, q, r1, by rw [f 62 (by omega)]; exact r2, r3, r4.fr (fun c s1 s2 => fd 61 b q c (Or.inr rfl) (Or.inr (Or.inl ⟨rfl, hb⟩)) r3 s1 s2)⟩
  · have hm := hm.kc (I' := I') (fun c r1 r2 => h1.1 c (by omega))
    obtain ⟨g1, g2, g3, g4, g5, g6, g7, g8, g9, g10⟩ := hm
    have f1 := h3.1
    have f2 := h3.2
    obtain ⟨⟨a1, a2, a3, a4, a5, a6⟩, b2, b3, b4, b5⟩ := g1
    refine ⟨⟨⟨?_, ?_, ?_, ?_, ?_, ?_⟩, fun a ha => ?_, fun b hb => ?_, fun s hs => ?_, fun r hr => ?_⟩, ⟨fun k hk => by rw [f1 138 (by omega)]; exact g2.1 k hk, fun b hb => by rw [f1 130 (by omega)]; exact g2.2.1 b hb, fun b hb => by rw [f1 131 (by omega)]; exact g2.2.2 b hb⟩, ⟨by rw [f2 1 (by omega) (by omega) (by omega) (by omega)]; exact g3.1, fun i hi => by rw [f1 103 (by omega)]; exact g3.2 i hi⟩, by rw [f2 2 (by omega) (by omega) (by omega) (by omega), f2 3 (by omega) (by omega) (by omega) (by omega)]; exact g4, by rw [f2 92 (by omega) (by omega) (by omega) (by omega)]; exact g5, h4, ⟨by rw [f2 91 (by omega) (by omega) (by omega) (by omega)]; exact g7.1, fun i j hi hj => by rw [f1 _ (by omega)]; exact g7.2 i j hi hj⟩, ⟨by rw [f2 71 (by omega) (by omega) (by omega) (by omega)]; exact g8.1, by rw [f2 72 (by omega) (by omega) (by omega) (by omega)]; exact g8.2.1, fun i k hi hk => by rw [f1 139 (by omega)]; exact g8.2.2.1 i k hi hk, fun i k hi hi2 hk => by rw [f1 139 (by omega)]; exact g8.2.2.2 i k hi hi2 hk⟩, fun b hb => by rw [f1 156 (by omega), f1 157 (by omega)]; exact g9 b hb, by rw [f2 21 (by omega) (by omega) (by omega) (by omega)]; exact g10⟩
    · rw [f2 56 (by omega) (by omega) (by omega) (by omega)]; exact a1
    · rw [f2 57 (by omega) (by omega) (by omega) (by omega)]; exact a2
    · rw [f2 65 (by omega) (by omega) (by omega) (by omega)]; exact a3
    · rw [f2 60 (by omega) (by omega) (by omega) (by omega)]; exact a4
    · rw [f2 61 (by omega) (by omega) (by omega) (by omega)]; exact a5
    · rw [f2 59 (by omega) (by omega) (by omega) (by omega)]; exact a6
    · simp (disch := omega) only [f1]; exact b2 a ha
    · simp (disch := omega) only [f1]; exact b3 b hb
    · rw [f2 58 (by omega) (by omega) (by omega) (by omega)]
      rcases b4 s hs with ⟨g1, g2⟩ | g
      · exact Or.inl ⟨g1, g2.fr (by simp (disch := omega) only [f1]) (by simp (disch := omega) only [f1]) (by simp (disch := omega) only [f1])⟩
      · exact Or.inr g
    · exact (b5 r hr).fr (by simp (disch := omega) only [f1]) (by simp (disch := omega) only [f1]) (by simp (disch := omega) only [f1])
end IN
/-! replies -/
def srep (D : TD) (C : TC) (P : PR) (w : Nat) : Nat → Nat × Int32
  | 0 => (0, (smat D C P 0 w 10).1)
  | n + 1 => if (srep D C P w n).2 < (smat D C P (n + 1) w 10).1 then (n + 1, (smat D C P (n + 1) w 10).1) else srep D C P w n
section OP
variable {t : Nat} {I : MI} {L : ML} {R : MR} {S : MS} {D : TD} {C : TC} {P : PR} {Z : AX}
theorem c_repL {w : Nat} (ht : isT t) (hD : OkD D C) (hP : OkP D P) (hB : 2 ≤ nB D) (hw : w < nR D) : ∀ (j k n : Nat) (I : MI), k + 1 + j = nR D → j < n → Td I t D C → Rl D true I 47 P → ∃ I', x10_reply_L43 t (Int32.ofNat w) n (Int32.ofNat (srep D C P w k).1) (srep D C P w k).2 (Int32.ofNat (k + 1)) I = some (Int32.ofNat (srep D C P w (nR D - 1)).1, I') ∧ Ft t I I' := by
  have hR6 := hD.r
  intro j
  induction j with
  | zero =>
    intro k n I hk hn hT hR
    obtain ⟨n, rfl⟩ : ∃ n', n = n' + 1 := ⟨n - 1, by omega⟩
    obtain rfl : k = nR D - 1 := by omega
    refine ⟨I, ?_, Ft.refl⟩
    simp (disch := omega) only [x10_reply_L43, x10_reply_L43s, hT.1.2.2.2.2.2.2, hD.2.1.2.2.1, QN]
    rw [if_neg (by omega)]
  | succ j ih =>
    intro k n I hk hn hT hR
    obtain ⟨n, rfl⟩ : ∃ n', n = n' + 1 := ⟨n - 1, by omega⟩
    obtain ⟨I1, c1, c2⟩ := c_lead hD ht hT hR hP hB (show k + 1 < nR D by omega) hw
    obtain ⟨I2, r1, r2⟩ := ih (k + 1) n I1 (by omega) (by omega) (c2.td ht hT) (c2.rl ht hR)
    refine ⟨I2, ?_, c2.trans r2⟩
    simp (disch := omega) only [x10_reply_L43, x10_reply_L43s, hT.1.2.2.2.2.2.2, hD.2.1.2.2.1, QN, QB, if_pos (show k + 1 < nR D by omega), c1]
    simp only [srep] at r1
    by_cases hv : (srep D C P w k).2 < (smat D C P (k + 1) w 10).1
    · rw [if_pos hv] at r1 ⊢; exact r1
    · rw [if_neg hv] at r1 ⊢; exact r1
theorem m_repL {w : Nat} (hD : OkD D C) (hP : OkP D P) (hB : 2 ≤ nB D) (hw : w < nR D) : ∀ (j k n : Nat) (I : MI), k + 1 + j = nR D → j < n → Rd I D C → Nw I P → ∃ I', x11_reply_L30 (Int32.ofNat w) n (Int32.ofNat (srep D C P w k).1) (srep D C P w k).2 (Int32.ofNat (k + 1)) I = some (Int32.ofNat (srep D C P w (nR D - 1)).1, I') ∧ Fm I I' := by
  have hR6 := hD.r
  intro j
  induction j with
  | zero =>
    intro k n I hk hn hR hN
    obtain ⟨n, rfl⟩ : ∃ n', n = n' + 1 := ⟨n - 1, by omega⟩
    obtain rfl : k = nR D - 1 := by omega
    refine ⟨I, ?_, Fm.refl⟩
    simp (disch := omega) only [x11_reply_L30, x11_reply_L30s, hR.1.2.2.2.2.2, hD.2.1.2.2.1, QN]
    rw [if_neg (by omega)]
  | succ j ih =>
    intro k n I hk hn hR hN
    obtain ⟨n, rfl⟩ : ∃ n', n = n' + 1 := ⟨n - 1, by omega⟩
    obtain ⟨I1, c1, c2⟩ := m_mat hD hR hN hP hB (show k + 1 < nR D by omega) hw
    obtain ⟨I2, r1, r2⟩ := ih (k + 1) n I1 (by omega) (by omega) (c2.rd hR) (c2.nw hN)
    refine ⟨I2, ?_, c2.trans r2⟩
    simp (disch := omega) only [x11_reply_L30, x11_reply_L30s, hR.1.2.2.2.2.2, hD.2.1.2.2.1, QN, QB, if_pos (show k + 1 < nR D by omega), c1]
    simp only [srep] at r1
    by_cases hv : (srep D C P w k).2 < (smat D C P (k + 1) w 10).1
    · rw [if_pos hv] at r1 ⊢; exact r1
    · rw [if_neg hv] at r1 ⊢; exact r1
theorem op_reply (h : INV t I L R S D C P Z) (w : Int32) : ∃ r I1 I2, x10_reply t w I = some (r, I1) ∧ x11_reply w I1 = some (r, I2) ∧ INV t I2 L R S D C P Z := by
  have hS := h.1
  have ht := hS.2.2.2.1
  have hD := h.2.2.2.1.1
  have hR6 := hD.r
  have hB := hD.b
  have hP := h.2.2.2.1.2.1
  by_cases hb2 : nB D < 2
  · refine ⟨-1, I, I, ?_, ?_, h⟩
    · simp (disch := omega) only [x10_reply, h.2.1.1.1.2.2.2.2.2.1, hD.2.1.2.1.1, QN, hb2, if_true]
    · simp only [x11_reply, m_isR hD h.2.2.1.1, QB, b2i_0, h.2.2.1.1.1.2.2.2.2.1, hD.2.1.2.1.1]
      cases isn w (nR D) <;> simp (disch := omega) only [Bool.false_eq_true, if_true, if_false, QN, hb2]
  · by_cases h1 : isn w (nR D) = true
    · obtain ⟨u, hu, rfl⟩ := isn_t (by omega) h1
      obtain ⟨I1, c1, c2⟩ := c_lead (o := 0) hD ht h.2.1.1 h.2.1.2.1 hP (by omega) (show 0 < nR D by omega) hu
      obtain ⟨I2, c3, c4⟩ := c_repL ht hD hP (by omega) hu (nR D - 1) 0 FU I1 (by omega) (by unfold FU; omega) (c2.td ht h.2.1.1) (c2.rl ht h.2.1.2.1)
      have h3 := h.q ((c2.trans c4).kc hS) Kr.refl
      obtain ⟨I3, m1, m2⟩ := m_mat (o := 0) hD h3.2.2.1.1 h3.2.2.1.2.1 hP (by omega) (show 0 < nR D by omega) hu
      obtain ⟨I4, m3, m4⟩ := m_repL hD hP (by omega) hu (nR D - 1) 0 FU I3 (by omega) (by unfold FU; omega) (m2.rd h3.2.2.1.1) (m2.nw h3.2.2.1.2.1)
      rw [show Int32.ofNat 0 = 0 from rfl] at c1 m1
      rw [show (srep D C P u 0).1 = 0 from rfl, show (srep D C P u 0).2 = (smat D C P 0 u 10).1 from rfl, show Int32.ofNat 0 = 0 from rfl, show Int32.ofNat (0 + 1) = 1 from rfl] at c3 m3
      have hb2' : ¬ Int32.ofNat (nB D) < 2 := by
        rw [show (2 : Int32) = Int32.ofNat 2 from rfl, q_lt (by omega) (by omega)]; exact hb2
      refine ⟨Int32.ofNat (srep D C P u (nR D - 1)).1, I2, I4, ?_, ?_, h3.q Kc.refl (m2.trans m4).kr⟩
      · simp only [x10_reply, h.2.1.1.1.2.2.2.2.2.1, hD.2.1.2.1.1, hb2', if_false, c_isR hD h.2.1.1, QB, b2i_0, h1, if_true, c1, c3]
      · simp only [x11_reply, h3.2.2.1.1.1.2.2.2.2.1, hD.2.1.2.1.1, hb2', if_false, m_isR hD h3.2.2.1.1, QB, b2i_0, h1, if_true, m1, m3]
    · have h1' : isn w (nR D) = false := by simpa using h1
      refine ⟨-1, I, I, ?_, ?_, h⟩
      · simp (disch := omega) only [x10_reply, h.2.1.1.1.2.2.2.2.2.1, hD.2.1.2.1.1, QN, hb2, if_false, c_isR hD h.2.1.1, QB, b2i_0, h1', Bool.false_eq_true]
      · simp [x11_reply, m_isR hD h.2.2.1.1, QB, b2i_0, h1']
end OP
