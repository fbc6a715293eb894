/-! THE TEXT: both sides of a formula: relations, nots, the whole -/
section PRX
variable {T : Nat → Nat} {N s t b d l e k p q u U : Nat} {σ τ : List Nat} {c x : List Int32} {I I1 : MI} {L L1 : ML} {J J1 : MI} {M M1 : ML}
theorem stp_hrl : ∀ {σ : List Nat}, stp 4 σ → hrl σ = false ∧ mno σ = true
  | [], _ => ⟨rfl, rfl⟩
  | v :: r, h => by
    rcases h with h | ⟨h1, h2⟩
    · refine ⟨by simp only [hrl, if_pos h], by simp [mno, h]⟩
    · have := h1.lt
      refine ⟨by simp only [hrl, if_neg this.2.1, if_neg (show ¬ 4 < tg v by omega), decide_eq_false_iff_not]; omega, by simp [mno, h2]⟩
/-- a method that hands back another's yes or no -/
noncomputable def kq : Int32 → MI → ML → Option (Int32 × MI × ML) := fun r I L => ck (r = 0 ∨ r = 1) (some (r, I, L))
def Yn (X : Option (Int32 × MI × ML)) : Prop := b3 X kq = X
theorem yn_ck {r : Int32} : Yn (ck (r = 0 ∨ r = 1) (some (r, I, L))) := by
  by_cases h : r = 0 ∨ r = 1
  · show b3 (ck _ _) kq = _
    rw [ck_pos h]
    exact ck_pos h
  · show b3 (ck _ _) kq = _
    have e : ck (r = 0 ∨ r = 1) (some (r, I, L)) = none := by simp only [ck, if_neg h]
    rw [e]; rfl
theorem yn_b1 {β : Type} {A : Option β} {f : β → Option (Int32 × MI × ML)} (h : ∀ x, Yn (f x)) : Yn (b1 A f) := by
  cases A with
  | none => rfl
  | some x => exact h x
theorem yn_b2 {β γ : Type} {A : Option (β × γ)} {f : β → γ → Option (Int32 × MI × ML)} (h : ∀ x y, Yn (f x y)) : Yn (b2 A f) := by
  cases A with
  | none => rfl
  | some x => exact h x.1 x.2
theorem yn_b3 {β γ δ : Type} {A : Option (β × γ × δ)} {f : β → γ → δ → Option (Int32 × MI × ML)} (h : ∀ x y z, Yn (f x y z)) : Yn (b3 A f) := by
  cases A with
  | none => rfl
  | some x => exact h x.1 x.2.1 x.2.2
theorem yn_if {P : Prop} [d : Decidable P] {X Y : Option (Int32 × MI × ML)} (h1 : Yn X) (h2 : Yn Y) : Yn (if P then X else Y) := by
  by_cases h : P
  · rw [if_pos h]; exact h1
  · rw [if_neg h]; exact h2
theorem one_eq {E O : Int32 → MI → ML → Option (Int32 × MI × ML)} {d' : Int32} : x5_one t E O d' I L = if I 21 4 = 25 then x5_opposite t E O d' I L else x5_comparison t E O d' I L := by
  have h1 : Yn (x5_opposite t E O d' I L) := by
    unfold x5_opposite
    exact yn_if (yn_b2 fun _ _ => yn_ck) (yn_b2 fun _ _ => yn_b3 fun _ _ _ => yn_b1 fun _ => yn_ck)
  have h2 : Yn (x5_comparison t E O d' I L) := by
    unfold x5_comparison
    refine yn_b3 fun v J M => ?_
    show Yn (if v = 0 then _ else _)
    have hb : Yn (b2 (x3_next J M) fun I7 L8 => b3 (x5_sum t E O d' I7 L8) fun r9 I10 L11 => b1 (x0_addOperator t (J 21 4) I10) fun I13 => ck (r9 = 0 ∨ r9 = 1) (some (r9, I13, L11))) := yn_b2 fun _ _ => yn_b3 fun _ _ _ => yn_b1 fun _ => yn_ck
    exact yn_if yn_ck (yn_if hb (yn_if hb (yn_if hb yn_ck)))
  unfold x5_one
  by_cases h : I 21 4 = 25
  · rw [if_pos h, if_pos h]; exact h1
  · rw [if_neg h, if_neg h]; exact h2
theorem P_one (ht : t = 2 ∨ t = 28) (hs11 : s < 11) {E O : Int32 → MI → ML → Option (Int32 × MI × ML)} (hE : ∀ {q u U : Nat} {σ : List Nat} {c : List Int32} {I : MI} {L : ML} {J : MI} {M : ML}, d ≤ 6 → Inn T N s t b (d + 1) 0 q u U σ c I L J M → stp 1 σ → Out T N s t b (d + 1) 1 1 q u U σ c I L J M (E (Int32.ofNat (d + 1)) I L)) (hO : ∀ {q u U : Nat} {σ : List Nat} {c : List Int32} {I : MI} {L : ML} {J : MI} {M : ML}, d ≤ 6 → Inn T N s t b (d + 1) 2 q u U σ c I L J M → stp 4 σ → Out T N s t b (d + 1) 3 3 q u U σ c I L J M (O (Int32.ofNat (d + 1)) I L)) (h : Inn T N s t b d 2 q u U σ c I L J M) (hst : stp 4 σ) : Out T N s t b d 3 3 q u U σ c I L J M (x5_one t E O (Int32.ofNat d) I L) := by
  have hcap := h.cap
  have h' := h
  obtain ⟨k1, k2, k3, k4, k5, k6, k7, k8, k9⟩ := h'
  have hqN := k1.2.2.1
  have e25 : (I 21 4 = 25) = (tks T N q = 25) := k1.cd (v := 25) (by omega)
  by_cases h25 : tks T N q = 25
  · by_cases hd : d ≤ 6
    · obtain ⟨I6, L6, n1, n2, n3, n4⟩ := C_nx ht k1 (by omega)
      obtain ⟨J1, M1, r1, r2, r3, r4⟩ := FA_not k2 h25 (stp_hrl hst).2 k3 hd (by omega)
      have hgap := not_gap h25
      have hq1N := n2.2.2.1
      have hin : Inn T N s t b (d + 1) 2 (tkn T N q) u U (21 :: σ) c I6 L6 J1 M1 := ⟨n2, r2, fun v hv => by rcases List.mem_cons.mp hv with e | e; exact Or.inr (Or.inl e); exact k3 v e, by simp only [List.length_cons]; omega, by omega, by omega, by omega, by omega, by omega⟩
      have hcl : x5_one t E O (Int32.ofNat d) I L = b3 (O (Int32.ofNat (d + 1)) I6 L6) fun r34 I35 L36 => lt r34 fun v37 => b1 (x0_addOperator t (25 : Int32) I35) fun I38 => ck (v37 = 0 ∨ v37 = 1) (some (v37, I38, L36)) := by
        rw [one_eq, if_pos (e25.mpr h25)]
        unfold x5_opposite
        rw [if_neg (by rw [q_nlt (by omega) (by omega)]; show ¬ 6 < d; omega), n1, q_b2, q_addn]
      rw [hcl]
      rcases hO hd hin (Or.inr ⟨Or.inl rfl, by decide⟩) with ⟨I7, L7, J7, M7, q7, u7, U7, x7, τ7, C7, o1, ⟨s1, s2, s3, s4, s5, s6, s7, s8, s9, ⟨m1, m2, m3, m4, m5, m6, m7, m8⟩, s11⟩, s12⟩ | ⟨I7, L7, o1, J7, M7, qf, f1, f2, f3, f4, f5, f6⟩
      · have hq7 := s1.2.2.1
        have m6' : 4 * (x7.length + 1) ≤ 8 * (u7 - u) + (q7 - tkn T N q) := by split at m6 <;> omega
        obtain ⟨I8, a1, a2, a3⟩ := C_add ht s1 (by rw [List.length_append]; omega) (20000 + 25)
        rw [o1, q_b3, q_l, x0_addOperator, a1, q_b1, q_b1, ck_pos (Or.inr rfl)]
        refine Or.inl ⟨I8, L7, J7, M7, q7, u7, U7, x7 ++ [20000 + 25], τ7 ++ [21], C7, rfl, ⟨by rw [← List.append_assoc]; exact a2, (n3.trans s2).trans a3, n4.trans s3, ?_, r3.trans s5, r4.trans s6, ?_, fun w hw => ?_, by simpa using s9, ⟨by omega, m2, m3, m4, m5, ?_, ?_, fun D hD => wfd_app (m8 D hD) (Or.inr (Or.inl ⟨by decide, by omega, rfl⟩))⟩, fun m n hm hn => ?_⟩, s12.app⟩
        · have e1 : d + nots (τ7 ++ [21]) = d + 1 + nots τ7 := by rw [nots_app]; simp only [nots, if_true]; omega
          have e2 : τ7 ++ [21] ++ σ = τ7 ++ 21 :: σ := by simp
          rw [e1, e2]; exact s4
        · rw [List.map_append, ← List.append_assoc, s7]
          simp [eo]
        · rcases List.mem_append.mp hw with e | e
          · exact s8 w e
          · rw [List.mem_singleton] at e; rw [e]; exact ⟨Or.inl rfl, by decide⟩
        · simp only [List.length_append, List.length_singleton]
          rw [if_pos (by omega)]
          by_cases hw : tks T N (tkn T N q) < 27
          · have := hgap.2 hw
            rw [if_pos hw] at m6; omega
          · rw [if_neg hw] at m6; omega
        · have e1 : (9 - d) * (u7 - u) = (9 - (d + 1)) * (u7 - u) + (u7 - u) := by rw [show 9 - d = (9 - (d + 1)) + 1 by omega, Nat.succ_mul]
          simp only [List.length_append, List.length_singleton]
          rw [e1]; omega
        · obtain ⟨m, rfl⟩ : ∃ m', m = m' + 1 := ⟨m - 1, by omega⟩
          rw [r1 m n]
          exact s11 m n (by omega) (by omega)
      · obtain ⟨I8, a1, a2⟩ := C_addF ht f2 25
        rw [o1, q_b3, q_l, a1, q_b1, ck_pos (Or.inl rfl)]
        refine Or.inr ⟨I8, L7, rfl, J7, M7, qf, f1, a2.of n3, n4.trans f3, ⟨f4.1, f4.2.1, r3.trans f4.2.2⟩, r4.trans f5, fun m n hm hn => ?_⟩
        obtain ⟨m, rfl⟩ : ∃ m', m = m' + 1 := ⟨m - 1, by omega⟩
        rw [r1 m n]
        exact f6 m n (by omega) (by omega)
    · obtain ⟨I', a1, a2⟩ := In_flt ht h (by omega) (by omega) (fun g => hd g.2.2) (fun ⟨a, _⟩ => by rcases a with a | a; omega; exact a (askd_hi (by omega))) k1 CFm.refl
      have hcl : x5_one t E O (Int32.ofNat d) I L = some (0, I', L) := by
        rw [one_eq, if_pos (e25.mpr h25)]
        unfold x5_opposite
        rw [if_pos (by rw [q_nlt (by omega) (by omega)]; show 6 < d; omega), a1, q_b2, ck_pos (Or.inl rfl)]
      rw [hcl]
      exact Or.inr ⟨I', L, rfl, a2⟩
  · have hS := P_sum (O := O) ht hs11 hE (h.mono (by omega)) (fun g => absurd g h25) (hst.mono (by omega))
    have hcl : x5_one t E O (Int32.ofNat d) I L = b3 (x5_sum t E O (Int32.ofNat d) I L) fun r1 I2 L3 => if r1 = 0 then ck (r1 = 0 ∨ r1 = 1) (some (r1, I2, L3)) else if I2 21 4 = 60 ∨ I2 21 4 = 62 ∨ I2 21 4 = 61 then (b2 (x3_next I2 L3) fun I7 L8 => b3 (x5_sum t E O (Int32.ofNat d) I7 L8) fun r9 I10 L11 => b1 (x0_addOperator t (I2 21 4) I10) fun I13 => ck (r9 = 0 ∨ r9 = 1) (some (r9, I13, L11))) else ck (r1 = 0 ∨ r1 = 1) (some (r1, I2, L3)) := by
      rw [one_eq, if_neg (fun g => h25 (e25.mp g))]
      unfold x5_comparison
      congr 1
      funext r1 I2 L3
      simp only [q_l]
      by_cases g0 : r1 = 0
      · rw [if_pos g0, if_pos g0]
      · rw [if_neg g0, if_neg g0]
        by_cases g1 : I2 21 4 = 60
        · rw [if_pos g1, if_pos (Or.inl g1)]
        · rw [if_neg g1]
          by_cases g2 : I2 21 4 = 62
          · rw [if_pos g2, if_pos (Or.inr (Or.inl g2))]
          · rw [if_neg g2]
            by_cases g3 : I2 21 4 = 61
            · rw [if_pos g3, if_pos (Or.inr (Or.inr g3))]
            · rw [if_neg g3, if_neg (fun g => g.elim g1 (fun g => g.elim g2 g3))]
    rw [hcl]
    rcases hS with ⟨I2, L2, J2, M2, q1, u1, U1, x1, τ1, C1, o1, s1, s2⟩ | ⟨I2, L2, o1, f1⟩
    · have s1' := s1
      obtain ⟨y1, y2, y3, y4, y5, y6, y7, y8, y9, y10, y11⟩ := s1'
      have g60 : (I2 21 4 = 60) = (tks T N q1 = 60) := y1.cd (v := 60) (by omega)
      have g62 : (I2 21 4 = 62) = (tks T N q1 = 62) := y1.cd (v := 62) (by omega)
      have g61 : (I2 21 4 = 61) = (tks T N q1 = 61) := y1.cd (v := 61) (by omega)
      have h5 := hrl_5 τ1 y8
      have gor : (I2 21 4 = 60 ∨ I2 21 4 = 62 ∨ I2 21 4 = 61) = (tks T N q1 = 60 ∨ tks T N q1 = 62 ∨ tks T N q1 = 61) := by rw [g60, g62, g61]
      rw [o1, q_b3, if_neg (by decide)]
      by_cases hr : tks T N q1 = 60 ∨ tks T N q1 = 62 ∨ tks T N q1 = 61
      · have hsg : sgn (tks T N q1) ≠ 0 ∧ tg (sgn (tks T N q1)) = 4 ∧ okT (sgn (tks T N q1)) ∧ sgn (tks T N q1) ≠ 21 ∧ 20000 + Int32.ofNat (tks T N q1) = eo (sgn (tks T N q1)) := by
          rcases hr with e | e | e <;> rw [e] <;> exact ⟨by decide, by decide, by simp only [okT]; decide, by decide, by decide⟩
        obtain ⟨w1, w2, w3, w4, w5⟩ := hsg
        obtain ⟨I3, L3, J3, M3, n1, n2, n3, n4, n5, n6, n7, n8⟩ := bin_pre ht hs11 h s1 w1 w2 (by omega) hst (fun _ => by rw [h5.2]; exact (stp_hrl hst).1) (k' := 3) (by omega) (by omega)
        have hv4 : I2 21 4 = Int32.ofNat (tks T N q1) := y1.2.2.2.1.2.2.1
        have hS2 := P_sum (O := O) ht hs11 hE n3 (fun _ => by
          have := w3.lt
          simp only [mno, w2, Bool.or_eq_false_iff, decide_eq_false_iff_not]
          omega) (Or.inr ⟨w3, by omega⟩)
        rw [if_pos (gor.mpr hr), n1, q_b2, hv4]
        rcases bin_post ht h s1 w3 w4 w5 n2 n3 n4 n5 n6 n7 n8 (l' := 3) (by omega) (by omega) hS2 with ⟨I4, L4, I5, J4, M4, q3, u3, U3, x2, τ2, C3, r1, r2, r3, r4, r5, r6⟩ | ⟨I4, L4, I5, r1, r2, r3⟩
        · rw [r1, q_b3, r2, q_b1, ck_pos (Or.inr rfl)]
          refine Or.inl ⟨I5, L4, J4, M4, q3, u3, U3, _, _, C3, rfl, r4, ?_⟩
          have h6 := hrl_5 τ2 r6
          rcases r5 with g | g | g
          · exact Or.inl g
          · by_cases g0 : sgn (tks T N q3) = 0
            · exact Or.inl g0
            · have := (sgn_t4 g0).1
              by_cases g4 : tg (sgn (tks T N q3)) = 4
              · refine Or.inr (Or.inr ⟨g4, ?_⟩)
                have := w3.lt
                rw [h6.2]
                simp only [hrl, if_neg this.2.1, w2, if_neg (show ¬ 4 < 4 by omega), decide_true]
              · exact Or.inr (Or.inl (by omega))
          · rw [h6.1] at g; cases g.2
        · rw [r1, q_b3, r2, q_b1, ck_pos (Or.inl rfl)]
          exact Or.inr ⟨I5, L4, rfl, r3⟩
      · rw [if_neg (fun g => hr (gor.mp g)), ck_pos (Or.inr rfl)]
        refine Or.inl ⟨I2, L2, J2, M2, q1, u1, U1, x1, τ1, C1, rfl, s1.mono (by omega), ?_⟩
        rcases s2 with g | g | g
        · exact Or.inl g
        · by_cases g0 : sgn (tks T N q1) = 0
          · exact Or.inl g0
          · obtain ⟨e3, e4⟩ := sgn_t4 g0
            have : tg (sgn (tks T N q1)) ≠ 4 := fun g4 => hr (e4 g4)
            exact Or.inr (Or.inl (by omega))
        · rw [h5.1] at g; cases g.2
    · rw [o1, q_b3, if_pos rfl, ck_pos (Or.inl rfl)]
      exact Or.inr ⟨I2, L2, rfl, f1⟩
theorem P_RD (ht : t = 2 ∨ t = 28) (hs11 : s < 11) : ∀ n, (∀ {d q u U : Nat} {σ : List Nat} {c : List Int32} {I : MI} {L : ML} {J : MI} {M : ML}, 16 ≤ n + 2 * d → Inn T N s t b d 0 q u U σ c I L J M → stp 1 σ → Out T N s t b d 1 1 q u U σ c I L J M (x5_RD t n 0 (Int32.ofNat d) I L)) ∧ (∀ {d q u U : Nat} {σ : List Nat} {c : List Int32} {I : MI} {L : ML} {J : MI} {M : ML}, 15 ≤ n + 2 * d → Inn T N s t b d 2 q u U σ c I L J M → stp 4 σ → Out T N s t b d 3 3 q u U σ c I L J M (x5_RD t n 1 (Int32.ofNat d) I L))
  | 0 => ⟨fun hn h _ => by have := h.2.2.2.2.1; omega, fun hn h _ => by have := h.2.2.2.2.1; omega⟩
  | n + 1 => by
    obtain ⟨ih1, ih2⟩ := P_RD ht hs11 n
    constructor
    · intro d q u U σ c I L J M hn h hst
      have e : x5_RD t (n + 1) 0 (Int32.ofNat d) I L = x5_either t (x5_RD t n 0) (x5_RD t n 1) (Int32.ofNat d) I L := rfl
      rw [e]
      exact P_either ht hs11 (fun h hst => ih2 (by omega) h hst) h hst
    · intro d q u U σ c I L J M hn h hst
      have e : x5_RD t (n + 1) 1 (Int32.ofNat d) I L = x5_one t (x5_RD t n 0) (x5_RD t n 1) (Int32.ofNat d) I L := rfl
      rw [e]
      exact P_one ht hs11 (fun _ h hst => ih1 (by omega) h hst) (fun _ h hst => ih2 (by omega) h hst) h hst
end PRX
