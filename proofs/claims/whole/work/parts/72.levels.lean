/-! CALLS, 31: the search's levels -/
def FrL (t d : Nat) (I I' : MI) (L L' : ML) (S : MS) (R' : MR) : Prop := (∀ c, c < S.length → c ≠ 27 → c ≠ 46 → c ≠ t + 17 → (c < 63 ∨ 65 < c) → (∀ i q, d ≤ i → i < 9 → R' 64 i = some q → c < q ∨ q + 11 < c) → I' c = I c) ∧ ∀ c, c < S.length → L' c = L c
theorem dyn64 {i : Nat} (h : i < 9) : dyn 64 i := Or.inr (Or.inr ⟨rfl, h⟩)
theorem clamp8 : ∀ d, d < 9 → (if (0 : Int32) < (if Int32.ofNat d < 8 then Int32.ofNat d else 8) then (if Int32.ofNat d < 8 then Int32.ofNat d else 8) else 0) = Int32.ofNat d := by decide +kernel
section LV
variable {t d : Nat} {I I' I'' : MI} {L L' L'' : ML} {R R' R'' : MR} {S S' S'' : MS} {D : TD} {C : TC} {P : PR} {Z : AX} {m : Bool}
theorem FrL.refl : FrL t d I I L L S R := ⟨fun _ _ _ _ _ _ _ => rfl, fun _ _ => rfl⟩
theorem FrL.trans (h : FrL t d I I' L L' S R') (k : FrL t d I' I'' L' L'' S' R'') (hS : S.length ≤ S'.length) (hG : Gr R' S' R'' S'') : FrL t d I I'' L L'' S R'' := ⟨fun c h1 h2 h3 h4 h5 h6 => (k.1 c (by omega) h2 h3 h4 h5 h6).trans (h.1 c h1 h2 h3 h4 h5 (fun i q x1 x2 x3 => h6 i q x1 x2 (hG.2 64 i q (dyn64 x2) x3))), fun c hc => (k.2 c (by omega)).trans (h.2 c hc)⟩
theorem FrL.mono {d' : Nat} (h : FrL t d I I' L L' S R') (hd : d' ≤ d) : FrL t d' I I' L L' S R' := ⟨fun c h1 h2 h3 h4 h5 h6 => h.1 c h1 h2 h3 h4 h5 (fun i q x1 x2 x3 => h6 i q (by omega) x2 x3), h.2⟩
theorem FrL.old (h : Old S.length I L I' L') : FrL t d I I' L L' S R' := ⟨fun c h1 _ _ _ _ _ => (h c h1).1, fun c h1 => (h c h1).2⟩
theorem FrL.fc {q : Nat} (h : Fc t q I I') (hq : R 64 d = some q) (hd : d < 9) : FrL t d I I' L L S R := ⟨fun c h1 h2 h3 h4 h5 h6 => h c h2 h3 h4 (h6 d q (Nat.le_refl _) hd hq), fun _ _ => rfl⟩
theorem FrL.fc' {q : Nat} {L0 : ML} {R0 : MR} {S0 : MS} (h : Fc t q I I') (hq : R0 64 d = some q) (hd : d < 9) : FrL t d I I' L0 L0 S0 R0 := FrL.fc h hq hd
theorem FrL.fg (h : Fg t I I') : FrL t d I I' L L S R := ⟨fun c h1 h2 h3 h4 h5 h6 => h c h2 h3 h4, fun _ _ => rfl⟩
theorem FrL.w {c i : Nat} {v : Int32} (hc : c = 63 ∨ c = 65) (h : FrL t d I I' L L' S R') : FrL t d I (wI I' c i v) L L' S R' := ⟨fun a h1 h2 h3 h4 h5 h6 => by rw [wI_c (by omega)]; exact h.1 a h1 h2 h3 h4 h5 h6, h.2⟩
theorem FrL.st {c0 i0 q : Nat} (h : FrL t d I I' L L' S R') (hS : RS t R S) (hS' : RS t R' S') (hG : Gr R S R' S') (hd : dyn c0 i0) (hn : ¬ (c0 = 64 ∧ d ≤ i0)) (hq : R c0 i0 = some q) : ∀ c, q ≤ c → c ≤ q + 11 → I' c = I c := fun c a b => by
  have ht := hS.2.2.2.1
  have h90 := hS.q90 hd hq
  have hen := hS.end12 hd hq
  refine h.1 c (by omega) (by omega) (by omega) (by rcases ht with h | h <;> omega) (by omega) (fun i q' x1 x2 x3 => ?_)
  have := hS'.apart hd (dyn64 x2) (hG.2 c0 i0 q hd hq) x3 (by omega)
  omega
theorem FrL.rl {q : Nat} (h : FrL t (d + 1) I I' L L' S R') (hS : RS t R S) (hS' : RS t R' S') (hG : Gr R S R' S') (hd : d < 9) (hq : R 64 d = some q) (hR : Rl D m I q P) : Rl D m I' q P := hR.fr (h.st hS hS' hG (dyn64 hd) (by omega) hq)
theorem FrL.kc (h : FrL t d I I' L L' S R') (hS : RS t R S) (hS' : RS t R' S') (hG : Gr R S R' S') : Kc t R I I' := by
  have ht := hS.2.2.2.1
  have hl := hS.l158
  refine ⟨fun c hc => h.1 c (by rcases ht with h | h <;> omega) (by rcases ht with h | h <;> omega) (by rcases ht with h | h <;> omega) (by rcases ht with h | h <;> omega) (by rcases ht with h | h <;> omega) (fun i q x1 x2 x3 => ?_), fun c i q d' h1 h2 h3 h4 h5 => h.st hS hS' hG h2 (by omega) h3 d' h4 h5⟩
  have := hS'.q90 (dyn64 x2) x3
  rcases ht with h | h <;> omega
theorem FrL.td (h : FrL t d I I' L L' S R') (hS : RS t R S) (hS' : RS t R' S') (hG : Gr R S R' S') (hT : Td I t D C) : Td I' t D C := hT.kc (h.kc hS hS' hG)
theorem INV.lv (h : INV t I L R S D C P Z) (hF : FrL t d I I' L L' S R') (hS' : RS t R' S') (hG : Gr R S R' S') : INV t I' L' R' S' D C P Z := by
  have hk := hF.kc h.1 hS' hG
  have ht := h.1.2.2.2.1
  have hl := h.1.l158
  have h1 := h.q (I' := fun c => if c < S.length then I' c else I c) (I'' := fun c => if c < S.length then I' c else I c) ⟨fun c hc => ?_, fun c i q d' h1 h2 h3 h4 h5 => ?_⟩ Kr.refl
  · exact h1.grow hS' hG (fun c hc => ⟨(if_pos hc).symm, hF.2 c hc⟩)
  · show (if c < S.length then I' c else I c) = I c
    rw [if_pos (by rcases ht with h | h <;> omega)]
    exact hk.1 c hc
  · have := h.1.end12 h2 h3
    show (if d' < S.length then I' d' else I d') = I d'
    rw [if_pos (by omega)]
    exact hk.2 c i q d' h1 h2 h3 h4 h5
theorem c_level (h : RS t R S) (hd : d < 9) (I : MI) (L : ML) : ∃ q I' L' R' S', x6_level (Int32.ofNat d) I L R S = some (q, I', L', R', S') ∧ RS t R' S' ∧ Gr R S R' S' ∧ Old S.length I L I' L' ∧ R' 64 d = some q ∧ (∀ q0, R 64 d = some q0 → I' = I ∧ L' = L ∧ R' = R ∧ S' = S) := by
  have hm2 : d < 2147483648 := by omega
  cases hr : R 64 d with
  | none =>
    obtain ⟨I', L', R', n1, n2, n3, n4, n5, n6, n7, n8⟩ := h.new I L (dyn64 hd) hr
    refine ⟨S.length, I', L', wR R' 64 d (some S.length), S ++ stk, ?_, n4, n5, n6, n7, fun q0 h0 => by cases h0⟩
    simp only [x6_level, clamp8 d hd, ck_pos h.1, QB, q_in hd hm2, q_ix hm2, hr, Option.isNone_none, if_true, al, n1, ck_pos n2, ck_pos n3, ck_pos n4.1, n7]
  | some q =>
    refine ⟨q, I, L, R, S, ?_, h, Gr.refl, Old.refl, hr, fun q0 h0 => ⟨rfl, rfl, rfl, rfl⟩⟩
    simp only [x6_level, clamp8 d hd, ck_pos h.1, QB, q_in hd hm2, q_ix hm2, hr, Option.isNone_some, Bool.false_eq_true, if_false]
theorem c_next {q : Nat} (h : RS t R S) (hD : OkD D C) (hd : d < 8) (hq : R 64 d = some q) (hR : Rl D m I q P) (L : ML) : ∃ q' I' L' R' S', x6_nextLevel (Int32.ofNat d) I L R S = some (q', I', L', R', S') ∧ RS t R' S' ∧ Gr R S R' S' ∧ R' 64 (d + 1) = some q' ∧ Rl D false I' q' P ∧ isSt R' S' q' ∧ isq t q' ∧ FrL t (d + 1) I I' L L' S R' ∧ I' 63 = I 63 ∧ I' 65 = I 65 := by
  have hl := h.l158
  obtain ⟨q', I1, L1, R1, S1, a1, a2, a3, a4, a5, -⟩ := c_level h (d := d + 1) (by omega) I L
  have hq1 := a3.2 64 d q (dyn64 (by omega)) hq
  obtain ⟨q2, I2, L2, R2, S2, b1', b2', b3', b4', b5', b6'⟩ := c_level a2 (d := d) (by omega) I1 L1
  obtain ⟨rfl, rfl, rfl, rfl⟩ := b6' q hq1
  obtain rfl : q2 = q := by rw [hq1] at b5'; cases b5'; rfl
  have hap := a2.apart (dyn64 (show d + 1 < 9 by omega)) (dyn64 (show d < 9 by omega)) a5 hq1 (by omega)
  have h90 := a2.q90 (dyn64 (show d + 1 < 9 by omega)) a5
  have h90' := h.q90 (dyn64 (show d < 9 by omega)) hq
  have hen := h.end12 (dyn64 (show d < 9 by omega)) hq
  have hR1 : Rl D m I2 q2 P := hR.fr (fun c x y => (a4 c (by omega)).1)
  obtain ⟨I3, c1, c2, c3⟩ := c_copyPlay (q0 := q') (C := C) hD hR1 (by omega)
  have hst := (a2.2.2.2.2.2.2.1 64 (d + 1) q' (dyn64 (by omega)) a5).1
  have hst2 := (a2.2.2.2.2.2.2.1 64 d q2 (dyn64 (by omega)) hq1).1
  refine ⟨q', I3, L2, R2, S2, ?_, a2, a3, a5, c2, hst, ⟨h.2.2.2.1, by omega⟩, ⟨fun c x1 x2 x3 x4 x5 x6 => ?_, fun c hc => (a4 c hc).2⟩, ?_, ?_⟩
  · simp only [x6_nextLevel, ck_pos h.1, q_addn, a1, QB, ck_pos a2.1, b1', ck_pos hst, ck_pos hst2, ck_pos hst.2.1, c1]
  · have := x6 (d + 1) q' (Nat.le_refl _) (by omega) a5
    rw [c3 c (by omega), (a4 c x1).1]
  · rw [c3 63 (by omega), (a4 63 (by omega)).1]
  · rw [c3 65 (by omega), (a4 65 (by omega)).1]
end LV
