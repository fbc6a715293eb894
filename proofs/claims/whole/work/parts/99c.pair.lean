/-! THE TEXT: both sides of a formula: the levels -/
theorem sgn_c (s : Nat) : sgn s = 0 ∨ s = 24 ∨ s = 23 ∨ s = 60 ∨ s = 62 ∨ s = 61 ∨ s = 43 ∨ s = 45 ∨ s = 42 ∨ s = 47 ∨ s = 37 := by
  by_cases h1 : s = 24
  · omega
  · by_cases h2 : s = 23
    · omega
    · by_cases h3 : s = 60 ∨ s = 62 ∨ s = 61 ∨ s = 43 ∨ s = 45 ∨ s = 42 ∨ s = 47 ∨ s = 37
      · omega
      · exact Or.inl (by rw [sgn, if_neg h1, if_neg h2, if_neg h3])
theorem sgn_t4 {s : Nat} (h : sgn s ≠ 0) : tg (sgn s) ≠ 3 ∧ (tg (sgn s) = 4 → s = 60 ∨ s = 62 ∨ s = 61) := by
  rcases sgn_c s with e | e | e | e | e | e | e | e | e | e | e
  · exact absurd e h
  all_goals rw [e]; decide
theorem rn_stop {g : Nat → Bool} {T : Nat → Nat} : ∀ k p, rn g T k p < k → g (T (p + rn g T k p)) = false
  | 0, p, h => by omega
  | k + 1, p, h => by
    simp only [rn] at h ⊢
    by_cases e : g (T p) = true
    · rw [if_pos e] at h ⊢
      have := rn_stop (g := g) (T := T) k (p + 1) (by omega)
      rw [show p + (rn g T k (p + 1) + 1) = p + 1 + rn g T k (p + 1) by omega]; exact this
    · rw [if_neg e]; simpa using e
theorem stp.mono {p p' : Nat} (hp : p ≤ p') : ∀ {σ : List Nat}, stp p σ → stp p' σ
  | [], _ => trivial
  | _ :: _, h => by
    rcases h with h | ⟨h1, h2⟩
    · exact Or.inl h
    · exact Or.inr ⟨h1, by omega⟩
section PRX
variable {T : Nat → Nat} {N s t b d l e k p q u U : Nat} {σ τ : List Nat} {c x : List Int32} {I I1 : MI} {L L1 : ML} {J J1 : MI} {M M1 : ML}
theorem not_gap (h : tks T N q = 25) : q + 3 ≤ tkn T N q ∧ (tks T N (tkn T N q) < 27 → q + 4 ≤ tkn T N q) := by
  obtain ⟨h1, h2, h3, h4⟩ := tks_w (T := T) (N := N) (q := q) (by omega)
  rw [h] at h4
  have h5 := (kwf_iff (by omega : 25 < 26)).mp h4.symm
  have h6 := (twl_ok h3).2.1
  rw [← h5] at h6
  have h7 : tlw T N q = 3 := h6.symm
  have h8 : tke T N q = q + 3 := by simp only [tke, if_pos h1, h2, if_true, h7]
  have hle : tlw T N q ≤ N - q := rn_le _ _
  have h9 := tkq_le (T := T) (N := N) (p := q + 3) (by omega)
  have h10 : tkn T N q = tkq T N (q + 3) := by rw [tkn, h8]
  refine ⟨by omega, fun hw => ?_⟩
  obtain ⟨w1, w2, -, -⟩ := tks_w hw
  by_cases e : tkn T N q = q + 3
  · rw [e] at w1 w2
    have h11 := rn_stop (g := isLe) (T := T) (N - q) q (by rw [show rn isLe T (N - q) q = 3 from h7]; omega)
    rw [show rn isLe T (N - q) q = 3 from h7, w2] at h11
    cases h11
  · omega
theorem Inn.mono {k' : Nat} (h : Inn T N s t b d k q u U σ c I L J M) (hk : k ≤ k') : Inn T N s t b d k' q u U σ c I L J M := ⟨h.1, h.2.1, h.2.2.1, Nat.le_trans h.2.2.2.1 (by omega), h.2.2.2.2⟩
theorem Suc.mono {l' q' u' U' : Nat} {x : List Int32} {C' : List Int32} {I' : MI} {L' : ML} {J' : MI} {M' : ML} (h : Suc T N s t b d l q u U σ c I L J M q' u' U' x τ C' I' L' J' M') (hl : l' ≤ l) : Suc T N s t b d l' q u U σ c I L J M q' u' U' x τ C' I' L' J' M' :=
  ⟨h.1, h.2.1, h.2.2.1, h.2.2.2.1, h.2.2.2.2.1, h.2.2.2.2.2.1, h.2.2.2.2.2.2.1, fun v hv => ⟨(h.2.2.2.2.2.2.2.1 v hv).1, Nat.le_trans hl (h.2.2.2.2.2.2.2.1 v hv).2⟩, h.2.2.2.2.2.2.2.2⟩
/-- an operand and a loop behind it -/
theorem P_lev {X1 : Option (Int32 × MI × ML)} {Lp : Nat → Int32 → Int32 → MI → ML → Option (Int32 × MI × ML)} {l1 : Nat} (hl : p ≤ l1) (h1 : Out T N s t b d l1 (p + 1) q u U σ c I L J M X1)
    (hzero : ∀ fu w I L, Lp (fu + 1) 0 w I L = some (0, I, L))
    (hL : ∀ (j : Nat) {q1 u1 U1 : Nat} {x1 : List Int32} {τ1 : List Nat} {C1 : List Int32} {I1 : MI} {L1 : ML} {J1 : MI} {M1 : ML} {fu w : Nat}, N - q1 ≤ j → j < fu → w < q1 → Suc T N s t b d p q u U σ c I L J M q1 u1 U1 x1 τ1 C1 I1 L1 J1 M1 → EndL (p + 1) (tks T N q1) τ1 → Out T N s t b d p p q u U σ c I L J M (Lp fu 1 (Int32.ofNat w) I1 L1)) : Out T N s t b d p p q u U σ c I L J M (b3 X1 fun r1 I2 L3 => lt r1 fun v4 => lt (0 : Int32) fun v5 => b1 (Lp FU v4 v5 I2 L3) fun e16 => ck (e16.1 = 0 ∨ e16.1 = 1) (some (e16.1, e16.2.1, e16.2.2))) := by
  have hFU : ∃ f, FU = f + 1 := ⟨FU - 1, by unfold FU; omega⟩
  rcases h1 with ⟨I', L', J', M', q', u', U', x, τ, C', o1, s1, s2⟩ | ⟨I', L', o1, f1⟩
  · have hq := s1.2.2.2.2.2.2.2.2.2.1.1
    have hN := s1.1.1.1
    have ho := hL (N - q') (fu := FU) (w := 0) (Nat.le_refl _) (by unfold FU; omega) (by omega) (s1.mono hl) s2
    rw [o1, q_b3, q_l, q_l]
    rcases ho with ⟨I', L', J', M', q', u', U', x, τ, C', o2, r1, r2⟩ | ⟨I', L', o2, f1⟩
    · rw [show Int32.ofNat 0 = 0 from rfl] at o2
      rw [o2, q_b1, ck_pos (Or.inr rfl)]
      exact Or.inl ⟨I', L', J', M', q', u', U', x, τ, C', rfl, r1, r2⟩
    · rw [show Int32.ofNat 0 = 0 from rfl] at o2
      rw [o2, q_b1, ck_pos (Or.inl rfl)]
      exact Or.inr ⟨I', L', rfl, f1⟩
  · obtain ⟨f, hf⟩ := hFU
    rw [o1, q_b3, q_l, q_l, hf, hzero, q_b1, ck_pos (Or.inl rfl)]
    exact Or.inr ⟨I', L', rfl, f1⟩
def opT (v : Nat) : Bool := v == 42 || v == 47 || v == 37
def opS (v : Nat) : Bool := v == 43 || v == 45
def op1 (a v : Nat) : Bool := v == a
theorem c_termS {v : Nat} (hv : v < 256) : x5_isTermSign (Int32.ofNat v) I = some (if opT v = true then 1 else 0) := by
  simp (disch := omega) only [x5_isTermSign, q_eqn, opT, Bool.or_eq_true, beq_iff_eq]
  by_cases h1 : v = 42
  · rw [if_pos h1, if_pos (Or.inl (Or.inl h1))]
  · rw [if_neg h1]
    by_cases h2 : v = 47
    · rw [if_pos h2, if_pos (Or.inl (Or.inr h2))]
    · rw [if_neg h2]
      by_cases h3 : v = 37
      · rw [if_pos h3, if_pos (Or.inr h3)]
      · rw [if_neg h3, if_neg (by omega)]
theorem P_term (ht : t = 2 ∨ t = 28) (hs11 : s < 11) {E O : Int32 → MI → ML → Option (Int32 × MI × ML)} (hE : ∀ {q u U : Nat} {σ : List Nat} {c : List Int32} {I : MI} {L : ML} {J : MI} {M : ML}, d ≤ 6 → Inn T N s t b (d + 1) 0 q u U σ c I L J M → stp 1 σ → Out T N s t b (d + 1) 1 1 q u U σ c I L J M (E (Int32.ofNat (d + 1)) I L)) (h : Inn T N s t b d 4 q u U σ c I L J M) (h25 : tks T N q = 25 → mno σ = false) (hst : stp 6 σ) : Out T N s t b d 6 6 q u U σ c I L J M (x5_term t E O (Int32.ofNat d) I L) := by
  obtain ⟨o, rfl, hU⟩ := P_unit (O := O) ht hs11 hE (h.mono (by omega)) h25
  refine P_lev (Lp := x5_term_L8 t E O (Int32.ofNat d)) (l1 := 7) (by omega) hU (fun fu w I L => ?_) (P_loop ht hs11 h (X := x5_unit t E O (Int32.ofNat d)) (op := opT) (zo := fun v => Int32.ofNat v) (l2 := 7) (k' := 5) (by have := h.2.2.2.1; omega) (by omega) (by omega) (by omega) hst (fun fu w I L v h4 hv hw ho => ?_) (fun fu w I L => ?_) (fun fu w I L v h4 hv hw ho => ?_) (fun {q u U v c I L J M} hv htg hI => ?_) (fun v hv => ?_) (fun v hv => ?_))
  · rw [x5_term_L8, x5_term_L8s]; simp only [if_true, ite_self]
  · have hc := c_termS (I := I) hv
    rw [ho, if_neg (by decide)] at hc
    rw [x5_term_L8, x5_term_L8s, if_pos (by rw [q_ltn (by omega) (by omega)]; exact hw), if_neg (by decide), h4, hc, q_b1, if_pos rfl]
  · rw [x5_term_L8, x5_term_L8s]; simp only [if_true, ite_self]
  · have hc := c_termS (I := I) hv
    rw [ho, if_pos rfl] at hc
    rw [x5_term_L8, x5_term_L8s, if_pos (by rw [q_ltn (by omega) (by omega)]; exact hw), if_neg (by decide), h4, hc, q_b1, if_neg (by decide), q_l, q_addn]
    rfl
  · obtain ⟨o, ho, hU⟩ := P_unit (O := O) ht hs11 hE hI (fun _ => by
      have := hv.lt
      simp only [mno, htg, Bool.or_eq_false_iff, decide_eq_false_iff_not]
      omega)
    rw [ho]; exact hU
  · simp only [opT, Bool.or_eq_true, beq_iff_eq] at hv
    rcases hv with (e | e) | e <;> rw [e] <;> decide
  · simp only [opT, Bool.or_eq_false_iff, beq_eq_false_iff_ne, ne_eq] at hv
    rcases sgn_c v with e | e | e | e | e | e | e | e | e | e | e
    · exact Or.inl e
    all_goals first | omega | (rw [e]; decide)
theorem P_sum (ht : t = 2 ∨ t = 28) (hs11 : s < 11) {E O : Int32 → MI → ML → Option (Int32 × MI × ML)} (hE : ∀ {q u U : Nat} {σ : List Nat} {c : List Int32} {I : MI} {L : ML} {J : MI} {M : ML}, d ≤ 6 → Inn T N s t b (d + 1) 0 q u U σ c I L J M → stp 1 σ → Out T N s t b (d + 1) 1 1 q u U σ c I L J M (E (Int32.ofNat (d + 1)) I L)) (h : Inn T N s t b d 3 q u U σ c I L J M) (h25 : tks T N q = 25 → mno σ = false) (hst : stp 5 σ) : Out T N s t b d 5 5 q u U σ c I L J M (x5_sum t E O (Int32.ofNat d) I L) := by
  refine P_lev (Lp := x5_sum_L8 t E O (Int32.ofNat d)) (l1 := 6) (by omega) (P_term ht hs11 hE (h.mono (by omega)) h25 (hst.mono (by omega))) (fun fu w I L => ?_) (P_loop ht hs11 h (X := x5_term t E O (Int32.ofNat d)) (op := opS) (zo := fun v => Int32.ofNat v) (l2 := 6) (k' := 4) (by have := h.2.2.2.1; omega) (by omega) (by omega) (by omega) hst (fun fu w I L v h4 hv hw ho => ?_) (fun fu w I L => ?_) (fun fu w I L v h4 hv hw ho => ?_) (fun {q u U v c I L J M} hv htg hI => ?_) (fun v hv => ?_) (fun v hv => ?_))
  · rw [x5_sum_L8, x5_sum_L8s]; simp only [if_true, ite_self]
  · simp only [opS, Bool.or_eq_false_iff, beq_eq_false_iff_ne, ne_eq] at ho
    rw [x5_sum_L8, x5_sum_L8s, if_pos (by rw [q_ltn (by omega) (by omega)]; exact hw), if_neg (by decide), h4, if_neg (by rw [q_eqn (by omega) (by omega)]; exact ho.1), if_neg (by rw [q_eqn (by omega) (by omega)]; exact ho.2)]
  · rw [x5_sum_L8, x5_sum_L8s]; simp only [if_true, ite_self]
  · simp only [opS, Bool.or_eq_true, beq_iff_eq] at ho
    rw [x5_sum_L8, x5_sum_L8s, if_pos (by rw [q_ltn (by omega) (by omega)]; exact hw), if_neg (by decide), h4]
    by_cases e : v = 43
    · rw [if_pos (by rw [q_eqn (by omega) (by omega)]; exact e), q_l, q_addn]
      rfl
    · have e2 : v = 45 := by omega
      rw [if_neg (by rw [q_eqn (by omega) (by omega)]; exact e), if_pos (by rw [q_eqn (by omega) (by omega)]; exact e2), q_l, q_addn]
      rfl
  · exact P_term ht hs11 hE hI (fun _ => by
      have := hv.lt
      simp only [mno, htg, Bool.or_eq_false_iff, decide_eq_false_iff_not]
      omega) (Or.inr ⟨hv, by omega⟩)
  · simp only [opS, Bool.or_eq_true, beq_iff_eq] at hv
    rcases hv with e | e <;> rw [e] <;> decide
  · simp only [opS, Bool.or_eq_false_iff, beq_eq_false_iff_ne, ne_eq] at hv
    rcases sgn_c v with e | e | e | e | e | e | e | e | e | e | e
    · exact Or.inl e
    all_goals first | omega | (rw [e]; decide)
theorem P_both (ht : t = 2 ∨ t = 28) (hs11 : s < 11) {E O : Int32 → MI → ML → Option (Int32 × MI × ML)} (hO : ∀ {q u U : Nat} {σ : List Nat} {c : List Int32} {I : MI} {L : ML} {J : MI} {M : ML}, Inn T N s t b d 2 q u U σ c I L J M → stp 4 σ → Out T N s t b d 3 3 q u U σ c I L J M (O (Int32.ofNat d) I L)) (h : Inn T N s t b d 1 q u U σ c I L J M) (hst : stp 2 σ) : Out T N s t b d 2 2 q u U σ c I L J M (x5_both t E O (Int32.ofNat d) I L) := by
  refine P_lev (Lp := x5_both_L8 t E O (Int32.ofNat d)) (l1 := 3) (by omega) (hO (h.mono (by omega)) (hst.mono (by omega))) (fun fu w I L => ?_) (P_loop ht hs11 h (X := O (Int32.ofNat d)) (op := op1 24) (zo := fun _ => 24) (l2 := 3) (k' := 2) (by have := h.2.2.2.1; omega) (by omega) (by omega) (by omega) hst (fun fu w I L v h4 hv hw ho => ?_) (fun fu w I L => ?_) (fun fu w I L v h4 hv hw ho => ?_) (fun {q u U v c I L J M} hv htg hI => ?_) (fun v hv => ?_) (fun v hv => ?_))
  · rw [x5_both_L8, x5_both_L8s]; simp only [if_true, ite_self]
  · simp only [op1, beq_eq_false_iff_ne, ne_eq] at ho
    rw [x5_both_L8, x5_both_L8s, if_pos (by rw [q_ltn (by omega) (by omega)]; exact hw), if_neg (by decide), h4, if_neg (by rw [q_eqn (by omega) (by omega)]; exact ho)]
  · rw [x5_both_L8, x5_both_L8s]; simp only [if_true, ite_self]
  · simp only [op1, beq_iff_eq] at ho
    rw [x5_both_L8, x5_both_L8s, if_pos (by rw [q_ltn (by omega) (by omega)]; exact hw), if_neg (by decide), h4, if_pos (by rw [q_eqn (by omega) (by omega)]; exact ho), q_addn]
    rfl
  · exact hO hI (Or.inr ⟨hv, by omega⟩)
  · simp only [op1, beq_iff_eq] at hv
    rw [hv]; decide
  · simp only [op1, beq_eq_false_iff_ne, ne_eq] at hv
    rcases sgn_c v with e | e | e | e | e | e | e | e | e | e | e
    · exact Or.inl e
    all_goals first | omega | (rw [e]; decide)
theorem P_either (ht : t = 2 ∨ t = 28) (hs11 : s < 11) {E O : Int32 → MI → ML → Option (Int32 × MI × ML)} (hO : ∀ {q u U : Nat} {σ : List Nat} {c : List Int32} {I : MI} {L : ML} {J : MI} {M : ML}, Inn T N s t b d 2 q u U σ c I L J M → stp 4 σ → Out T N s t b d 3 3 q u U σ c I L J M (O (Int32.ofNat d) I L)) (h : Inn T N s t b d 0 q u U σ c I L J M) (hst : stp 1 σ) : Out T N s t b d 1 1 q u U σ c I L J M (x5_either t E O (Int32.ofNat d) I L) := by
  refine P_lev (Lp := x5_either_L8 t E O (Int32.ofNat d)) (l1 := 2) (by omega) (P_both ht hs11 hO (h.mono (by omega)) (hst.mono (by omega))) (fun fu w I L => ?_) (P_loop ht hs11 h (X := x5_both t E O (Int32.ofNat d)) (op := op1 23) (zo := fun _ => 23) (l2 := 2) (k' := 1) (by have := h.2.2.2.1; omega) (by omega) (by omega) (by omega) hst (fun fu w I L v h4 hv hw ho => ?_) (fun fu w I L => ?_) (fun fu w I L v h4 hv hw ho => ?_) (fun {q u U v c I L J M} hv htg hI => ?_) (fun v hv => ?_) (fun v hv => ?_))
  · rw [x5_either_L8, x5_either_L8s]; simp only [if_true, ite_self]
  · simp only [op1, beq_eq_false_iff_ne, ne_eq] at ho
    rw [x5_either_L8, x5_either_L8s, if_pos (by rw [q_ltn (by omega) (by omega)]; exact hw), if_neg (by decide), h4, if_neg (by rw [q_eqn (by omega) (by omega)]; exact ho)]
  · rw [x5_either_L8, x5_either_L8s]; simp only [if_true, ite_self]
  · simp only [op1, beq_iff_eq] at ho
    rw [x5_either_L8, x5_either_L8s, if_pos (by rw [q_ltn (by omega) (by omega)]; exact hw), if_neg (by decide), h4, if_pos (by rw [q_eqn (by omega) (by omega)]; exact ho), q_addn]
    rfl
  · exact P_both ht hs11 hO hI (Or.inr ⟨hv, by omega⟩)
  · simp only [op1, beq_iff_eq] at hv
    rw [hv]; decide
  · simp only [op1, beq_eq_false_iff_ne, ne_eq] at hv
    rcases sgn_c v with e | e | e | e | e | e | e | e | e | e | e
    · exact Or.inl e
    all_goals first | omega | (rw [e]; decide)
end PRX
