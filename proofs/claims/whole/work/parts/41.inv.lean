/-! WHAT HOLDS BETWEEN CALLS: one told tub D, C, one row P, and Z: the tape, the fault, the time, what lies, picks, what can be undone, boxes, units -/
abbrev AX : Type := (Nat × (Nat → Nat) × Int32 × Int32) × Nat × List Int32 × (Nat × (Nat → Nat → Int32)) × (Nat × Nat × (Nat → PR)) × (Nat → Option PR) × Int32
def zN (Z : AX) : Nat := Z.1.1
def zT (Z : AX) : Nat → Nat := Z.1.2.1
def zF (Z : AX) : Int32 := Z.1.2.2.1
def zG (Z : AX) : Int32 := Z.1.2.2.2
def zM (Z : AX) : Nat := Z.2.1
def zL' (Z : AX) : List Int32 := Z.2.2.1
def zP (Z : AX) : Nat := Z.2.2.2.1.1
def zK (Z : AX) : Nat → Nat → Int32 := Z.2.2.2.1.2
def zB (Z : AX) : Nat := Z.2.2.2.2.1.1
def zA (Z : AX) : Nat := Z.2.2.2.2.1.2.1
def zH (Z : AX) : Nat → PR := Z.2.2.2.2.1.2.2
def zX (Z : AX) : Nat → Option PR := Z.2.2.2.2.2.1
def zU (Z : AX) : Int32 := Z.2.2.2.2.2.2
def sx8 (b : Nat) : Int32 := (Int32.ofNat b).toInt8.toInt32
/-- where they kneel in one row they kneel in the other one -/
def SK (P Q : PR) : Prop := ∀ k, 123 ≤ k → k < 131 → Q k = P k
def CT (I : MI) (Z : AX) : Prop := I 0 1 = Int32.ofNat (zN Z) ∧ ∀ i, i < zN Z → I 1 i = sx8 (zT Z i)
def CH (D : TD) (I : MI) (R : MR) (Z : AX) : Prop := ∃ od, od < 41 ∧ I 59 1 = Int32.ofNat od ∧ I 59 2 = Int32.ofNat (zB Z) ∧ I 59 3 = Int32.ofNat (zA Z) ∧ ∀ i, i ≤ zB Z + zA Z → ∃ q, R 60 ((od + i) % 41) = some q ∧ Rl D true I q (zH Z i)
def CB (D : TD) (I : MI) (R : MR) (Z : AX) : Prop := ∀ b, b < 3 → (zX Z b = none ∧ I 62 b = 0) ∨ ∃ Q q, zX Z b = some Q ∧ I 62 b = 1 ∧ R 61 b = some q ∧ Rl D true I q Q
/-- the class's side -/
def CI (t : Nat) (I : MI) (R : MR) (D : TD) (C : TC) (P : PR) (Z : AX) : Prop :=
  Td I t D C ∧ Rl D true I 47 P ∧ CT I Z ∧ (I 20 8 = zF Z ∧ I 20 9 = zG Z) ∧ I 0 12 = Int32.ofNat (zM Z) ∧
  (I 0 14 = Int32.ofNat (zL' Z).length ∧ ∀ i (h : i < (zL' Z).length), I 89 i = (zL' Z)[i]) ∧
  (I 83 6 = Int32.ofNat (zP Z) ∧ ∀ i j, i < zP Z → j < 5 → I (84 + j) i = zK Z j i) ∧ CH D I R Z ∧ CB D I R Z ∧ I (t + 13) 5 = zU Z
/-- the reference's side -/
def RI (I : MI) (D : TD) (C : TC) (P : PR) (Z : AX) : Prop :=
  Rd I D C ∧ Nw I P ∧ (I 102 1 = Int32.ofNat (zN Z) ∧ ∀ i, i < zN Z → I 103 i = Int32.ofNat (zT Z i)) ∧ (I 102 2 = zF Z ∧ I 102 3 = zG Z) ∧ I 102 92 = Int32.ofNat (zM Z) ∧
  (I 102 85 = Int32.ofNat (zL' Z).length ∧ ∀ i (h : i < (zL' Z).length), I 149 i = (zL' Z)[i]) ∧
  (I 102 91 = Int32.ofNat (zP Z) ∧ ∀ i j, i < zP Z → j < 5 → I (151 + j) i = zK Z j i) ∧
  (I 102 71 = Int32.ofNat (zB Z) ∧ I 102 72 = Int32.ofNat (zA Z) ∧ (∀ i k, i < zB Z → k < 123 → I 139 (128 * i + k) = zH Z i k) ∧ (∀ i k, zB Z ≤ i → i < zB Z + zA Z → k < 123 → I 139 (128 * i + k) = zH Z (i + 1) k)) ∧
  (∀ b, b < 3 → (zX Z b = none ∧ I 156 b = 0) ∨ ∃ Q, zX Z b = some Q ∧ I 156 b = 1 ∧ ∀ k, k < 123 → I 157 (128 * b + k) = Q k) ∧ I 102 21 = zU Z
/-- what is common -/
def AI (D : TD) (C : TC) (P : PR) (Z : AX) : Prop :=
  OkD D C ∧ OkP D P ∧ (∀ b, b < nB D → P (123 + b) = D 7 b ∧ P (127 + b) = D 8 b) ∧ (zN Z ≤ 1600 ∧ ∀ i, i < zN Z → zT Z i < 256) ∧ zM Z ≤ 100000 ∧ (zL' Z).length ≤ 36 ∧
  (zP Z ≤ 30 ∧ ∀ i, i < zP Z → (∃ b, b < nB D ∧ zK Z 0 i = Int32.ofNat b) ∧ (∃ s, s < 2 ^ nA D ∧ zK Z 1 i = Int32.ofNat s) ∧ (∃ a, a < nA D ∧ zK Z 2 i = Int32.ofNat a) ∧ (∃ u, u ≤ 100000 ∧ zK Z 3 i = Int32.ofNat u) ∧ (zK Z 4 i = -1 ∨ ∃ u, u ≤ 100000 ∧ zK Z 4 i = Int32.ofNat u)) ∧
  (zB Z + zA Z ≤ 40 ∧ (∀ i, i ≤ zB Z + zA Z → OkP D (zH Z i) ∧ SK P (zH Z i)) ∧ ∀ k, zH Z (zB Z) k = P k) ∧
  (∀ b Q, b < 3 → zX Z b = some Q → OkP D Q ∧ SK P Q)
/-- the words of the language, as the class packs them -/
def wdl : List Int64 := [21154, 89, 495763, 215205, 20579723, 755084, 254268868, 398382, 611717, 1589637, 52, 632645, 638164, 113966, 82905266, 19039336, 86148744, 14145160, 149559, 75397, 6194, 21570739, 370116, 498, 1476, 14836]
/-- the lengths of the codes being told stay in their room -/
def F6 (I : MI) : Prop := ∀ s, s < 11 → ∃ n, 320 * s + n ≤ 3520 ∧ I 106 s = Int32.ofNat n
theorem F6.c {I I' : MI} (h : F6 I) (e : I' 106 = I 106) : F6 I' := fun s hs => by rw [e]; exact h s hs
def INV (t : Nat) (I : MI) (L : ML) (R : MR) (S : MS) (D : TD) (C : TC) (P : PR) (Z : AX) : Prop := RS t R S ∧ CI t I R D C P Z ∧ RI I D C P Z ∧ AI D C P Z ∧ (∀ i, i < 26 → L 22 i = wdl.getD i 0) ∧ F6 I
/-- a question of the class's: what stays -/
def Kc (t : Nat) (R : MR) (I I' : MI) : Prop := (∀ c, (c = 0 ∨ c = 1 ∨ c = 20 ∨ (t ≤ c ∧ c ≤ t + 16) ∨ (47 ≤ c ∧ c ≤ 59) ∨ c = 62 ∨ (83 ≤ c ∧ c ≤ 89) ∨ (102 ≤ c ∧ c < 158)) → I' c = I c) ∧ ∀ c i q d, (c = 60 ∨ c = 61) → dyn c i → R c i = some q → q ≤ d → d ≤ q + 11 → I' d = I d
/-- a question of the reference's: what stays -/
def Kr (I I' : MI) : Prop := (∀ c, (c < 102 ∨ 158 ≤ c ∨ c = 103 ∨ (106 ≤ c ∧ c ≤ 109) ∨ (125 ≤ c ∧ c ≤ 136) ∨ c = 138 ∨ c = 139 ∨ c = 149 ∨ (151 ≤ c ∧ c ≤ 157)) → I' c = I c) ∧ ∀ j, j ≠ 68 → j ≠ 69 → j ≠ 80 → I' 102 j = I 102 j
theorem Kr.refl {I : MI} : Kr I I := ⟨fun _ _ => rfl, fun _ _ _ _ => rfl⟩
theorem Kr.trans {I I' I'' : MI} (h : Kr I I') (k : Kr I' I'') : Kr I I'' := ⟨fun c hc => (k.1 c hc).trans (h.1 c hc), fun j h1 h2 h3 => (k.2 j h1 h2 h3).trans (h.2 j h1 h2 h3)⟩
theorem Fm.kr {I I' : MI} (h : Fm I I') : Kr I I' := ⟨fun c hc => h.1 c (by omega) (by omega) (by omega), fun j h1 h2 _ => h.2 j h1 h2⟩
theorem Kc.refl {t : Nat} {R : MR} {I : MI} : Kc t R I I := ⟨fun _ _ => rfl, fun _ _ _ _ _ _ _ _ _ => rfl⟩
theorem Kc.trans {t : Nat} {R : MR} {I I' I'' : MI} (h : Kc t R I I') (k : Kc t R I' I'') : Kc t R I I'' := ⟨fun c hc => (k.1 c hc).trans (h.1 c hc), fun c i q d h1 h2 h3 h4 h5 => (k.2 c i q d h1 h2 h3 h4 h5).trans (h.2 c i q d h1 h2 h3 h4 h5)⟩
section IN
variable {t : Nat} {I I' : MI} {L : ML} {R : MR} {S : MS} {D : TD} {C : TC} {P : PR} {Z : AX}
theorem RS.q90 (h : RS t R S) {c i q : Nat} (hd : dyn c i) (hq : R c i = some q) : q = 90 ∨ 158 ≤ q := by
  rcases (h.2.2.2.2.2.2.1 c i q hd hq).2.1 with h | ⟨k, h⟩ <;> omega
theorem Ft.kc (h : Ft t I I') (hS : RS t R S) : Kc t R I I' := by
  have ht := hS.2.2.2.1
  refine ⟨fun c hc => h c (by rcases ht with h | h <;> omega) (by rcases ht with h | h <;> omega) (by rcases ht with h | h <;> omega) (by rcases ht with h | h <;> omega), fun c i q d h1 h2 h3 h4 h5 => ?_⟩
  have := hS.q90 h2 h3
  exact h d (by omega) (by omega) (by rcases ht with h | h <;> omega) (by omega)
theorem Td.kc (h : Td I t D C) (hK : Kc t R I I') : Td I' t D C := by
  have e : ∀ j, j ≤ 16 → I' (t + j) = I (t + j) := fun j hj => hK.1 _ (by omega)
  have e0 : I' t = I t := e 0 (by omega)
  obtain ⟨h1, h2, h3, h4, h5⟩ := h
  have hc : ∀ s c, Cd I t s c → Cd I' t s c := by
    intro s c ⟨st, g1, g2, g3, g4⟩
    exact ⟨st, by rw [e 15 (by omega)]; exact g1, by rw [e 16 (by omega)]; exact g2, g3, fun i h => by rw [e 14 (by omega)]; exact g4 i h⟩
  exact ⟨by rw [e0]; exact h1, fun j a j1 j2 ha => by rw [e j (by omega)]; exact h2 j a j1 j2 ha, fun j b j1 j2 hb => by rw [e j (by omega)]; exact h3 j b j1 j2 hb, fun s hs => hc _ _ (h4 s hs), fun r hr => hc _ _ (h5 r hr)⟩
theorem CH.kc (h : CH D I R Z) (hK : Kc t R I I') : CH D I' R Z := by
  obtain ⟨od, h1, h2, h3, h4, h5⟩ := h
  have e : I' 59 = I 59 := hK.1 59 (by omega)
  refine ⟨od, h1, by rw [e]; exact h2, by rw [e]; exact h3, by rw [e]; exact h4, fun i hi => ?_⟩
  obtain ⟨q, q1, q2⟩ := h5 i hi
  exact ⟨q, q1, q2.fr (fun c g1 g2 => hK.2 60 _ q c (Or.inl rfl) (Or.inl ⟨rfl, Nat.mod_lt _ (by omega)⟩) q1 g1 g2)⟩
theorem CB.kc (h : CB D I R Z) (hK : Kc t R I I') : CB D I' R Z := by
  intro b hb
  have e : I' 62 = I 62 := hK.1 62 (by omega)
  rcases h b hb with ⟨h1, h2⟩ | ⟨Q, q, h1, h2, h3, h4⟩
  · exact Or.inl ⟨h1, by rw [e]; exact h2⟩
  · exact Or.inr ⟨Q, q, h1, by rw [e]; exact h2, h3, h4.fr (fun c g1 g2 => hK.2 61 b q c (Or.inr rfl) (Or.inr (Or.inl ⟨rfl, hb⟩)) h3 g1 g2)⟩
theorem CI.kc (h : CI t I R D C P Z) (hK : Kc t R I I') : CI t I' R D C P Z := by
  obtain ⟨h1, h2, h3, h4, h5, h6, h7, h8, h9, h10⟩ := h
  have e0 : I' 0 = I 0 := hK.1 0 (by omega)
  refine ⟨h1.kc hK, h2.fr (fun c g1 g2 => hK.1 c (by omega)), ⟨by rw [e0]; exact h3.1, fun i hi => by rw [hK.1 1 (by omega)]; exact h3.2 i hi⟩, by rw [hK.1 20 (by omega)]; exact h4, by rw [e0]; exact h5, ⟨by rw [e0]; exact h6.1, fun i hi => by rw [hK.1 89 (by omega)]; exact h6.2 i hi⟩, ⟨by rw [hK.1 83 (by omega)]; exact h7.1, fun i j hi hj => by rw [hK.1 _ (by omega)]; exact h7.2 i j hi hj⟩, h8.kc hK, h9.kc hK, by rw [hK.1 _ (by omega)]; exact h10⟩
theorem Rd.kr (hR : Rd I D C) (h : Kr I I') : Rd I' D C := by
  obtain ⟨⟨a1, a2, a3, a4, a5, a6⟩, h2, h3, h4, h5⟩ := hR
  obtain ⟨f1, f2⟩ := h
  refine ⟨⟨?_, ?_, ?_, ?_, ?_, ?_⟩, fun a ha => ?_, fun b hb => ?_, fun s hs => ?_, fun r hr => ?_⟩
  · rw [f2 56 (by omega) (by omega) (by omega)]; exact a1
  · rw [f2 57 (by omega) (by omega) (by omega)]; exact a2
  · rw [f2 65 (by omega) (by omega) (by omega)]; exact a3
  · rw [f2 60 (by omega) (by omega) (by omega)]; exact a4
  · rw [f2 61 (by omega) (by omega) (by omega)]; exact a5
  · rw [f2 59 (by omega) (by omega) (by omega)]; exact a6
  · simp (disch := omega) only [f1]; exact h2 a ha
  · simp (disch := omega) only [f1]; exact h3 b hb
  · rw [f2 58 (by omega) (by omega) (by omega)]
    rcases h4 s hs with ⟨g1, g2⟩ | g
    · exact Or.inl ⟨g1, g2.fr (by simp (disch := omega) only [f1]) (by simp (disch := omega) only [f1]) (by simp (disch := omega) only [f1])⟩
    · exact Or.inr g
  · exact (h5 r hr).fr (by simp (disch := omega) only [f1]) (by simp (disch := omega) only [f1]) (by simp (disch := omega) only [f1])
theorem RI.kr (h : RI I D C P Z) (hK : Kr I I') : RI I' D C P Z := by
  obtain ⟨h1, h2, h3, h4, h5, h6, h7, h8, h9, h10⟩ := h
  have f1 := hK.1
  have f2 := hK.2
  refine ⟨h1.kr hK, ⟨fun k hk => by rw [f1 138 (by omega)]; exact h2.1 k hk, fun b hb => by rw [f1 130 (by omega)]; exact h2.2.1 b hb, fun b hb => by rw [f1 131 (by omega)]; exact h2.2.2 b hb⟩, ⟨by rw [f2 1 (by omega) (by omega) (by omega)]; exact h3.1, fun i hi => by rw [f1 103 (by omega)]; exact h3.2 i hi⟩, by rw [f2 2 (by omega) (by omega) (by omega), f2 3 (by omega) (by omega) (by omega)]; exact h4, by rw [f2 92 (by omega) (by omega) (by omega)]; exact h5, ⟨by rw [f2 85 (by omega) (by omega) (by omega)]; exact h6.1, fun i hi => by rw [f1 149 (by omega)]; exact h6.2 i hi⟩, ⟨by rw [f2 91 (by omega) (by omega) (by omega)]; exact h7.1, fun i j hi hj => by rw [f1 _ (by omega)]; exact h7.2 i j hi hj⟩, ⟨by rw [f2 71 (by omega) (by omega) (by omega)]; exact h8.1, by rw [f2 72 (by omega) (by omega) (by omega)]; exact h8.2.1, fun i k hi hk => by rw [f1 139 (by omega)]; exact h8.2.2.1 i k hi hk, fun i k hi hi2 hk => by rw [f1 139 (by omega)]; exact h8.2.2.2 i k hi hi2 hk⟩, fun b hb => by rw [f1 156 (by omega), f1 157 (by omega)]; exact h9 b hb, by rw [f2 21 (by omega) (by omega) (by omega)]; exact h10⟩
theorem Kc.to_kr (h : Kc t R I I') : ∀ c, 102 ≤ c → c < 158 → I' c = I c := fun c h1 h2 => h.1 c (by omega)
theorem RI.kc (h : RI I D C P Z) (hK : ∀ c, 102 ≤ c → c < 158 → I' c = I c) : RI I' D C P Z := by
  obtain ⟨h1, h2, h3, h4, h5, h6, h7, h8, h9, h10⟩ := h
  have e102 : I' 102 = I 102 := hK 102 (by omega) (by omega)
  obtain ⟨⟨a1, a2, a3, a4, a5, a6⟩, g2, g3, g4, g5⟩ := h1
  refine ⟨⟨⟨?_, ?_, ?_, ?_, ?_, ?_⟩, fun a ha => ?_, fun b hb => ?_, fun s hs => ?_, fun r hr => ?_⟩, ⟨fun k hk => by rw [hK 138 (by omega) (by omega)]; exact h2.1 k hk, fun b hb => by rw [hK 130 (by omega) (by omega)]; exact h2.2.1 b hb, fun b hb => by rw [hK 131 (by omega) (by omega)]; exact h2.2.2 b hb⟩, ⟨by rw [e102]; exact h3.1, fun i hi => by rw [hK 103 (by omega) (by omega)]; exact h3.2 i hi⟩, by rw [e102]; exact h4, by rw [e102]; exact h5, ⟨by rw [e102]; exact h6.1, fun i hi => by rw [hK 149 (by omega) (by omega)]; exact h6.2 i hi⟩, ⟨by rw [e102]; exact h7.1, fun i j hi hj => by rw [hK _ (by omega) (by omega)]; exact h7.2 i j hi hj⟩, ⟨by rw [e102]; exact h8.1, by rw [e102]; exact h8.2.1, fun i k hi hk => by rw [hK 139 (by omega) (by omega)]; exact h8.2.2.1 i k hi hk, fun i k hi hi2 hk => by rw [hK 139 (by omega) (by omega)]; exact h8.2.2.2 i k hi hi2 hk⟩, fun b hb => by rw [hK 156 (by omega) (by omega), hK 157 (by omega) (by omega)]; exact h9 b hb, by rw [e102]; exact h10⟩
  · rw [e102]; exact a1
  · rw [e102]; exact a2
  · rw [e102]; exact a3
  · rw [e102]; exact a4
  · rw [e102]; exact a5
  · rw [e102]; exact a6
  · simp (disch := omega) only [hK]; exact g2 a ha
  · simp (disch := omega) only [hK]; exact g3 b hb
  · rw [e102]
    rcases g4 s hs with ⟨g1, g2⟩ | g
    · exact Or.inl ⟨g1, g2.fr (by simp (disch := omega) only [hK]) (by simp (disch := omega) only [hK]) (by simp (disch := omega) only [hK])⟩
    · exact Or.inr g
  · exact (g5 r hr).fr (by simp (disch := omega) only [hK]) (by simp (disch := omega) only [hK]) (by simp (disch := omega) only [hK])
theorem Kr.to_kc (hS : RS t R S) (h : Kr I I') : CI t I R D C P Z → CI t I' R D C P Z := fun hC => by
  have ht := hS.2.2.2.1
  obtain ⟨h1, h2, h3, h4, h5, h6, h7, h8, h9, h10⟩ := hC
  have f : ∀ c, c < 102 ∨ 158 ≤ c → I' c = I c := fun c hc => h.1 c (by omega)
  have e : ∀ j, j ≤ 16 → I' (t + j) = I (t + j) := fun j hj => f _ (by rcases ht with h | h <;> omega)
  have e0 : I' t = I t := e 0 (by omega)
  have hd : ∀ c i q d, dyn c i → R c i = some q → q ≤ d → d ≤ q + 11 → I' d = I d := fun c i q d g1 g2 g3 g4 => by
    have := hS.q90 g1 g2
    exact f d (by omega)
  obtain ⟨k1, k2, k3, k4, k5⟩ := h1
  have hc : ∀ s c, Cd I t s c → Cd I' t s c := by
    intro s c ⟨st, g1, g2, g3, g4⟩
    exact ⟨st, by rw [e 15 (by omega)]; exact g1, by rw [e 16 (by omega)]; exact g2, g3, fun i h => by rw [e 14 (by omega)]; exact g4 i h⟩
  refine ⟨⟨by rw [e0]; exact k1, fun j a j1 j2 ha => by rw [e j (by omega)]; exact k2 j a j1 j2 ha, fun j b j1 j2 hb => by rw [e j (by omega)]; exact k3 j b j1 j2 hb, fun s hs => hc _ _ (k4 s hs), fun r hr => hc _ _ (k5 r hr)⟩, h2.fr (fun c g1 g2 => f c (by omega)), ⟨by rw [f 0 (by omega)]; exact h3.1, fun i hi => by rw [f 1 (by omega)]; exact h3.2 i hi⟩, by rw [f 20 (by omega)]; exact h4, by rw [f 0 (by omega)]; exact h5, ⟨by rw [f 0 (by omega)]; exact h6.1, fun i hi => by rw [f 89 (by omega)]; exact h6.2 i hi⟩, ⟨by rw [f 83 (by omega)]; exact h7.1, fun i j hi hj => by rw [f _ (by omega)]; exact h7.2 i j hi hj⟩, ?_, ?_, by rw [e 13 (by omega)]; exact h10⟩
  · obtain ⟨od, g1, g2, g3, g4, g5⟩ := h8
    refine ⟨od, g1, by rw [f 59 (by omega)]; exact g2, by rw [f 59 (by omega)]; exact g3, by rw [f 59 (by omega)]; exact g4, fun i hi => ?_⟩
    obtain ⟨q, q1, q2⟩ := g5 i hi
    exact ⟨q, q1, q2.fr (fun c r1 r2 => hd 60 _ q c (Or.inl ⟨rfl, Nat.mod_lt _ (by omega)⟩) q1 r1 r2)⟩
  · intro b hb
    rcases h9 b hb with ⟨g1, g2⟩ | ⟨Q, q, g1, g2, g3, g4⟩
    · exact Or.inl ⟨g1, by rw [f 62 (by omega)]; exact g2⟩
    · exact Or.inr ⟨Q, q, g1, by rw [f 62 (by omega)]; exact g2, g3, g4.fr (fun c r1 r2 => hd 61 b q c (Or.inr (Or.inl ⟨rfl, hb⟩)) g3 r1 r2)⟩
/-- a question leaves all as it was -/
theorem INV.q {I'' : MI} (h : INV t I L R S D C P Z) (h1 : Kc t R I I') (h2 : Kr I' I'') : INV t I'' L R S D C P Z := by
  obtain ⟨a1, a2, a3, a4, a5⟩ := h
  exact ⟨a1, Kr.to_kc a1 h2 (a2.kc h1), (a3.kc h1.to_kr).kr h2, a4, a5.1, a5.2.c ((h2.1 106 (by omega)).trans (h1.1 106 (by omega)))⟩
end IN
