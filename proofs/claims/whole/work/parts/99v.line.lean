/-! THE TEXT: lines: within an apple's line -/
def RA (n : Nat) (J J' : MI) : Prop := (∀ x, x ≠ 102 → ¬ ((113 ≤ x ∧ x ≤ 117) ∨ x = 124) → J' x = J x) ∧ (∀ j, 21 ≤ j → J' 102 j = J 102 j) ∧ ∀ x a, ((113 ≤ x ∧ x ≤ 117) ∨ x = 124) → a ≠ n → J' x a = J x a
def BXa (T : Nat → Nat) (N t b q U n : Nat) (w' : Nat → List Nat) (I0 : MI) (L0 : ML) (J0 : MI) (M0 : ML) (p : Nat) (I : MI) (L : ML) (J : MI) (M : ML) : Prop :=
  CR T N t p U b I L ∧ RR T N p U J M ∧ q < p ∧ C21 I0 I ∧ RA n J0 J ∧ (L 24 = L0 24 ∧ L 26 = L0 26) ∧ Nm 25 6 (n + 1) w' L M ∧ (∀ i, i ≠ 6 + n → M 112 i = M0 112 i) ∧ Gs t I0 L0 J0 M0 I L J M
section LNX
variable {T : Nat → Nat} {N t b q U n p : Nat} {w' : Nat → List Nat} {I I0 I' : MI} {L L0 L' : ML} {J J0 J' J'' : MI} {M M0 M' : ML}
theorem RA.trans (h : RA n J J') (g : RA n J' J'') : RA n J J'' := ⟨fun x a e => (g.1 x a e).trans (h.1 x a e), fun j a => (g.2.1 j a).trans (h.2.1 j a), fun x i a e => (g.2.2 x i a e).trans (h.2.2 x i a e)⟩
theorem RA.st (h : RFr J J') : RA n J J' := ⟨fun x a _ => h.1 x a, fun j a => h.2 j (by omega) (by omega) (by omega) (by omega), fun x i a _ => by rw [h.1 x (by omega)]⟩
theorem RA.w {x : Nat} {v : Int32} (hx : (113 ≤ x ∧ x ≤ 117) ∨ x = 124) : RA n J (wI J x n v) := ⟨fun y a e => wI_c (by omega), fun j a => wI_ne (by omega), fun y i a e => wI_ne (by omega)⟩
theorem BXa.st (h : BXa T N t b q U n w' I0 L0 J0 M0 p I L J M) {p' : Nat} (hp : p < p') (hC : CR T N t p' U b I' L') (hR : RR T N p' U J' M') (h1 : C21 I I') (h2 : CLm L L') (h3 : RFr J J') (h4 : LFr M M') : BXa T N t b q U n w' I0 L0 J0 M0 p' I' L' J' M' :=
  ⟨hC, hR, by have := h.2.2.1; omega, h.2.2.2.1.trans h1, h.2.2.2.2.1.trans (RA.st h3), by rw [h2 24 (by omega), h2 26 (by omega)]; exact h.2.2.2.2.2.1, ⟨fun i hi => by rw [h2 25 (by omega), h4.1 112 (by omega)]; exact h.2.2.2.2.2.2.1.1 i hi, h.2.2.2.2.2.2.1.2⟩, fun i hi => by rw [h4.1 112 (by omega)]; exact h.2.2.2.2.2.2.2.1 i hi, h.2.2.2.2.2.2.2.2.trans (Gs.st h1 h2 h3 h4)⟩
theorem BXa.w (h : BXa T N t b q U n w' I0 L0 J0 M0 p I L J M) {x : Nat} {v : Int32} (hx : (113 ≤ x ∧ x ≤ 117) ∨ x = 124) : BXa T N t b q U n w' I0 L0 J0 M0 p I L (wI J x n v) M :=
  ⟨h.1, h.2.1.w (by omega), h.2.2.1, h.2.2.2.1, h.2.2.2.2.1.trans (RA.w hx), h.2.2.2.2.2.1, h.2.2.2.2.2.2.1, h.2.2.2.2.2.2.2.1, h.2.2.2.2.2.2.2.2.trans (Gs.wr (by omega))⟩
end LNX
