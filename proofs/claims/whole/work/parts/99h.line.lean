/-! THE TEXT: what holds between lines -/
def OD (t : Nat) (I : MI) : TD := fun j a => if j ≤ 12 then I (t + j) a else 0
def CdB (I : MI) (t b s : Nat) (c : List Int32) : Prop := ∃ st : Nat, I (t + 15) s = Int32.ofNat st ∧ I (t + 16) s = Int32.ofNat (st + c.length) ∧ st + c.length ≤ b ∧ ∀ i (h : i < c.length), I (t + 14) (st + i) = c[i]
def LK (t b k : Nat) (C : TC) (ws : Nat → Nat → List Nat) (I : MI) (L : ML) (J : MI) (M : ML) : Prop :=
  (OkD (OD t I) C ∧ (nW (OD t I) = 0 ∨ (1 ≤ nW (OD t I) ∧ 1 ≤ nH (OD t I))) ∧ ∃ z, z ≤ 999 ∧ I t 2 = Int32.ofNat z) ∧
  (J 102 49 = I t 0 ∧ J 102 50 = I t 1 ∧ J 102 52 = I t 18 ∧ J 102 53 = I t 4 ∧ J 102 54 = I t 11 ∧ J 102 55 = I t 2 ∧ J 102 64 = I t 3) ∧
  (∀ a, a < nA (OD t I) → J 115 a = I (t + 1) a ∧ J 116 a = I (t + 2) a ∧ J 113 a = I (t + 3) a ∧ J 114 a = I (t + 4) a ∧ J 124 a = I (t + 5) a ∧ J 117 a = I (t + 6) a) ∧
  (∀ b, b < nB (OD t I) → J 118 b = I (t + 7) b ∧ J 119 b = I (t + 8) b ∧ J 120 b = I (t + 9) b ∧ J 121 b = I (t + 10) b ∧ J 122 b = I (t + 11) b ∧ J 123 b = I (t + 12) b) ∧
  (k < 32 ∧ J 102 51 = Int32.ofNat k) ∧
  (∀ s, s < 5 → CdB I t b s (C s) ∧ ((k.testBit s = true ∧ CdA (C s) s J ∧ (C s).length ≤ 320 ∧ 0 < I (t + 15) s) ∨ (k.testBit s = false ∧ C s = [50] ∧ ¬ 0 < I (t + 15) s))) ∧
  (∀ r, r < nR (OD t I) → CdB I t b (5 + r) (C (5 + r)) ∧ CdA (C (5 + r)) (5 + r) J ∧ (C (5 + r)).length ≤ 320) ∧
  (Nm 24 0 (nR (OD t I)) (ws 0) L M ∧ Nm 25 6 (nA (OD t I)) (ws 1) L M ∧ Nm 26 16 (nB (OD t I)) (ws 2) L M) ∧
  (J 102 62 = I 20 5 ∧ J 102 63 = I 20 6)
def GI (t : Nat) (I I' : MI) : Prop := ∀ x, x ≠ 20 → x ≠ 21 → ¬ (t ≤ x ∧ x ≤ t + 16) → I' x = I x
def GL (L L' : ML) : Prop := ∀ x, x ≠ 21 → ¬ (24 ≤ x ∧ x ≤ 26) → L' x = L x
def GJ (J J' : MI) : Prop := (∀ x, x ≠ 102 → ¬ (104 ≤ x ∧ x ≤ 106) → x ≠ 110 → ¬ (113 ≤ x ∧ x ≤ 124) → J' x = J x) ∧ ∀ j, (j = 1 ∨ j = 21 ∨ (56 ≤ j ∧ j ≤ 61) ∨ 65 ≤ j) → J' 102 j = J 102 j
def GM (M M' : ML) : Prop := ∀ x, x ≠ 102 → x ≠ 112 → M' x = M x
def Gs (t : Nat) (I : MI) (L : ML) (J : MI) (M : ML) (I' : MI) (L' : ML) (J' : MI) (M' : ML) : Prop := GI t I I' ∧ GL L L' ∧ GJ J J' ∧ GM M M'
/-- what a line does to both -/
def LO (T : Nat → Nat) (N t q : Nat) (I : MI) (L : ML) (J : MI) (M : ML) (o : Option (Int32 × MI × ML)) (p : Option (MI × ML)) : Prop :=
  (∃ I' L' J' M' q' U' b' k' C' ws', o = some (1, I', L') ∧ p = some (J', M') ∧ q < q' ∧ CR T N t q' U' b' I' L' ∧ RR T N q' U' J' M' ∧ LK t b' k' C' ws' I' L' J' M' ∧ 1 ≤ nW (OD t I') ∧ Gs t I L J M I' L' J' M') ∨
  (∃ I' L' J' M', o = some (0, I', L') ∧ p = some (J', M') ∧ FBt I' J' ∧ Gs t I L J M I' L' J' M')
section LNX
variable {T : Nat → Nat} {N t b q U k : Nat} {C : TC} {ws : Nat → Nat → List Nat} {I I' I'' : MI} {L L' L'' : ML} {J J' J'' : MI} {M M' M'' : ML}
theorem Gs.refl : Gs t I L J M I L J M := ⟨fun _ _ _ _ => rfl, fun _ _ _ => rfl, ⟨fun _ _ _ _ _ => rfl, fun _ _ => rfl⟩, fun _ _ _ => rfl⟩
theorem Gs.trans (h : Gs t I L J M I' L' J' M') (g : Gs t I' L' J' M' I'' L'' J'' M'') : Gs t I L J M I'' L'' J'' M'' :=
  ⟨fun x a e f => (g.1 x a e f).trans (h.1 x a e f), fun x a e => (g.2.1 x a e).trans (h.2.1 x a e), ⟨fun x a e f i => (g.2.2.1.1 x a e f i).trans (h.2.2.1.1 x a e f i), fun j a => (g.2.2.1.2 j a).trans (h.2.2.1.2 j a)⟩, fun x a e => (g.2.2.2 x a e).trans (h.2.2.2 x a e)⟩
theorem Gs.st (h1 : C21 I I') (h2 : CLm L L') (h3 : RFr J J') (h4 : LFr M M') : Gs t I L J M I' L' J' M' :=
  ⟨fun x _ a _ => h1 x a, fun x a _ => h2 x a, ⟨fun x a _ _ _ => h3.1 x a, fun j _ => h3.2 j (by omega) (by omega) (by omega) (by omega)⟩, fun x a _ => h4.1 x a⟩
theorem Gs.fl (h1 : C20 I I') (h3 : R23 J J') : Gs t I L J M I' L J' M :=
  ⟨fun x a _ _ => h1.1 x a, fun _ _ _ => rfl, ⟨fun x a _ _ _ => h3.1 x a, fun j _ => h3.2 j (by omega) (by omega)⟩, fun _ _ _ => rfl⟩
theorem Gs.wc {x i : Nat} {v : Int32} (hx : x = 20 ∨ x = 21 ∨ (t ≤ x ∧ x ≤ t + 16)) : Gs t I L J M (wI I x i v) L J M :=
  ⟨fun y a e f => wI_c (by omega), fun _ _ _ => rfl, ⟨fun _ _ _ _ _ => rfl, fun _ _ => rfl⟩, fun _ _ _ => rfl⟩
theorem Gs.wr {x i : Nat} {v : Int32} (hx : (113 ≤ x ∧ x ≤ 124) ∨ (x = 102 ∧ ¬ (i = 1 ∨ i = 21 ∨ (56 ≤ i ∧ i ≤ 61) ∨ 65 ≤ i))) : Gs t I L J M I L (wI J x i v) M :=
  ⟨fun _ _ _ _ => rfl, fun _ _ _ => rfl, ⟨fun y a e f g => wI_c (by omega), fun j hj => wI_ne (by omega)⟩, fun _ _ _ => rfl⟩
theorem OD_c (h : ∀ x, t ≤ x → x ≤ t + 12 → I' x = I x) : OD t I' = OD t I := by
  funext j a
  simp only [OD]
  split
  · rw [h (t + j) (by omega) (by omega)]
  · rfl
theorem LK.c (ht : t = 2 ∨ t = 28) (h : LK t b k C ws I L J M) (h1 : ∀ x, t ≤ x → x ≤ t + 16 → x ≠ t + 13 → I' x = I x) (h2 : I' 20 5 = I 20 5 ∧ I' 20 6 = I 20 6) (h3 : ∀ x, (104 ≤ x ∧ x ≤ 106) ∨ (113 ≤ x ∧ x ≤ 124) → J' x = J x) (h4 : ∀ j, 49 ≤ j → j ≤ 64 → J' 102 j = J 102 j) (h5 : ∀ x, 24 ≤ x → x ≤ 26 → L' x = L x) (h6 : M' 112 = M 112) : LK t b k C ws I' L' J' M' := by
  have eD : OD t I' = OD t I := OD_c (fun x a e => h1 x a (by omega) (by omega))
  obtain ⟨k1, k2, k3, k4, k5, k6, k7, k8, k9⟩ := h
  have hA : ∀ {c s}, CdA c s J → CdA c s J' := fun g => g.c (h3 104 (by omega)) (h3 105 (by omega)) (h3 106 (by omega))
  have hB : ∀ {c s}, CdB I t b s c → CdB I' t b s c := fun ⟨st, g1, g2, g3, g4⟩ => ⟨st, by rw [h1 (t + 15) (by omega) (by omega) (by omega)]; exact g1, by rw [h1 (t + 16) (by omega) (by omega) (by omega)]; exact g2, g3, fun i hi => by rw [h1 (t + 14) (by omega) (by omega) (by omega)]; exact g4 i hi⟩
  have hN : ∀ {a off n w}, (24 ≤ a ∧ a ≤ 26) → Nm a off n w L M → Nm a off n w L' M' := fun ha g => ⟨fun i hi => by rw [h5 _ ha.1 ha.2, h6]; exact g.1 i hi, g.2⟩
  rw [LK, eD]
  have ht0 := h1 t (by omega) (by omega) (by omega)
  refine ⟨⟨k1.1, k1.2.1, by rw [ht0]; exact k1.2.2⟩, ?_, fun a ha => ?_, fun a ha => ?_, ⟨k5.1, by rw [h4 51 (by omega) (by omega)]; exact k5.2⟩, fun s hs => ⟨hB (k6 s hs).1, ?_⟩, fun r hr => ⟨hB (k7 r hr).1, hA (k7 r hr).2.1, (k7 r hr).2.2⟩, ⟨hN (by omega) k8.1, hN (by omega) k8.2.1, hN (by omega) k8.2.2⟩, by rw [h4 62 (by omega) (by omega), h4 63 (by omega) (by omega), h2.1, h2.2]; exact k9⟩
  · rw [h4 49 (by omega) (by omega), h4 50 (by omega) (by omega), h4 52 (by omega) (by omega), h4 53 (by omega) (by omega), h4 54 (by omega) (by omega), h4 55 (by omega) (by omega), h4 64 (by omega) (by omega), ht0]; exact k2
  · rw [h3 115 (by omega), h3 116 (by omega), h3 113 (by omega), h3 114 (by omega), h3 124 (by omega), h3 117 (by omega), h1 (t + 1) (by omega) (by omega) (by omega), h1 (t + 2) (by omega) (by omega) (by omega), h1 (t + 3) (by omega) (by omega) (by omega), h1 (t + 4) (by omega) (by omega) (by omega), h1 (t + 5) (by omega) (by omega) (by omega), h1 (t + 6) (by omega) (by omega) (by omega)]; exact k3 a ha
  · rw [h3 118 (by omega), h3 119 (by omega), h3 120 (by omega), h3 121 (by omega), h3 122 (by omega), h3 123 (by omega), h1 (t + 7) (by omega) (by omega) (by omega), h1 (t + 8) (by omega) (by omega) (by omega), h1 (t + 9) (by omega) (by omega) (by omega), h1 (t + 10) (by omega) (by omega) (by omega), h1 (t + 11) (by omega) (by omega) (by omega), h1 (t + 12) (by omega) (by omega) (by omega)]; exact k4 a ha
  · rw [h1 (t + 15) (by omega) (by omega) (by omega)]
    rcases (k6 s hs).2 with ⟨g1, g2, g3⟩ | g
    · exact Or.inl ⟨g1, hA g2, g3⟩
    · exact Or.inr g
theorem LK.st (ht : t = 2 ∨ t = 28) (h : LK t b k C ws I L J M) (h1 : C21 I I') (h2 : CLm L L') (h3 : RFr J J') (h4 : LFr M M') : LK t b k C ws I' L' J' M' :=
  h.c ht (fun x a e f => h1 x (by omega)) (by rw [h1 20 (by omega)]; exact ⟨rfl, rfl⟩) (fun x hx => h3.1 x (by omega)) (fun j a e => h3.2 j (by omega) (by omega) (by omega) (by omega)) (fun x a e => h2 x (by omega)) (h4.1 112 (by omega))
/-- a word and a number -/
theorem P_nb (ht : t = 2 ∨ t = 28) (hC : CR T N t q U b I L) (hR : RR T N q U J M) {i : Nat} (hi : i < 26) {v : Int64} (hv : v = Int64.ofNat (e256 (kwl.getD i []))) {lo hi' : Nat} (hlo : lo < 10000) (hhi : hi' < 10000) :
    (∃ n q' I' L' J' M', x5_numberBehind (Int32.ofNat i) (Int32.ofNat lo) (Int32.ofNat hi') I L = some (Int32.ofNat n, I', L') ∧ x11_told v (Int32.ofNat lo) (Int32.ofNat hi') J M = some (Int32.ofNat n, J', M') ∧ lo ≤ n ∧ n ≤ hi' ∧ CR T N t q' U b I' L' ∧ RR T N q' U J' M' ∧ q < q' ∧ C21 I I' ∧ CLm L L' ∧ RFr J J' ∧ LFr M M') ∨
    (∃ I' L' J' M' r, x5_numberBehind (Int32.ofNat i) (Int32.ofNat lo) (Int32.ofNat hi') I L = some (-1, I', L') ∧ x11_told v (Int32.ofNat lo) (Int32.ofNat hi') J M = some (r, J', M') ∧ FBt I' J' ∧ Gs t I L J M I' L' J' M') := by
  rcases P_word ht hC hR hi hv with ⟨I1, L1, J1, M1, a1, a2, a3, a4, a5, a6, a7, a8, a9, -⟩ | ⟨I1, J1, a1, a2, a3, a4, a5⟩
  · rcases P_num ht a3 a4 hlo hhi with ⟨n, I2, L2, J2, M2, b1', b2', b3', b4', b5', b6', b7', b8', b9', b10', b11', -, -⟩ | ⟨I2, J2, r, b1', b2', b3', b4', b5'⟩
    · refine Or.inl ⟨n, _, I2, L2, J2, M2, ?_, ?_, b3', b4', b5', b6', by omega, fun x hx => (b8' x hx).trans (a6 x hx), fun x hx => (b9' x hx).trans (a7 x hx), a8.trans b10', a9.trans b11'⟩
      · rw [x5_numberBehind, a1, q_b3, if_neg (by decide), b1', q_b3]
      · rw [x11_told, a2, q_b2, b2', q_b3]
    · refine Or.inr ⟨I2, L1, J2, M1, r, ?_, ?_, b3', (Gs.st a6 a7 a8 a9).trans (Gs.fl b4' b5')⟩
      · rw [x5_numberBehind, a1, q_b3, if_neg (by decide), b1', q_b3]
      · rw [x11_told, a2, q_b2, b2', q_b3]
  · refine Or.inr ⟨I1, L, J1, M, 0, ?_, ?_, a3, Gs.fl a4 a5⟩
    · rw [x5_numberBehind, a1, q_b3, if_pos rfl]
    · rw [x11_told, a2, q_b2, x11_toldNumber, if_pos a3.2.2, q_b3]
end LNX
