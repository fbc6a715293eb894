/-! THE TEXT: both sides of a formula -/
def EndL (e s : Nat) (τ : List Nat) : Prop := sgn s = 0 ∨ tg (sgn s) < e ∨ (tg (sgn s) = 4 ∧ hrl τ = true)
def Num (T : Nat → Nat) (N d q u U q' u' U' : Nat) (x : List Int32) : Prop := q < q' ∧ u < u' ∧ u' ≤ 30 ∧ U' = U + (u' - u) ∧ U' ≤ 90 ∧ 4 * (x.length + 1) + (if tks T N q < 27 then 0 else 1) ≤ 8 * (u' - u) + (q' - q) ∧ x.length + 1 ≤ (9 - d) * (u' - u) ∧ ∀ D, D + (u' - u) ≤ 31 → wfd x D (D + 1)
/-- both at an operand -/
def Inn (T : Nat → Nat) (N s t b d k q u U : Nat) (σ : List Nat) (c : List Int32) (I : MI) (L : ML) (J : MI) (M : ML) : Prop :=
  CF T N t b q u U c I L ∧ RF T N s q u U d σ c J M ∧ (∀ v, v ∈ σ → v = 20 ∨ okT v) ∧ σ.length ≤ 6 * d + k ∧ d ≤ 7 ∧ u ≤ 30 ∧ U ≤ 90 ∧ 4 * (b + c.length) ≤ 8 * U + q + 4 ∧ c.length ≤ 9 * u
/-- both behind an operand -/
def Suc (T : Nat → Nat) (N s t b d l q u U : Nat) (σ : List Nat) (c : List Int32) (I : MI) (L : ML) (J : MI) (M : ML) (q' u' U' : Nat) (x : List Int32) (τ : List Nat) (C' : List Int32) (I' : MI) (L' : ML) (J' : MI) (M' : ML) : Prop :=
  CF T N t b q' u' U' (c ++ x) I' L' ∧ CFm t b I I' ∧ CLm L L' ∧ RF T N s q' u' U' (d + nots τ) (τ ++ σ) C' J' M' ∧ RFm s J J' ∧ LFr M M' ∧ C' ++ τ.map eo = c ++ x ∧ (∀ v, v ∈ τ → okT v ∧ l ≤ tg v) ∧ (τ ++ σ).length ≤ 60 ∧ Num T N d q u U q' u' U' x ∧ ∀ m n, N - q + 3 ≤ m → N - q + 3 ≤ n → ∃ n', N - q' + 3 ≤ n' ∧ FA m n J M = FB n' J' M'
def Flt (T : Nat → Nat) (N s t b q : Nat) (I : MI) (L : ML) (J : MI) (M : ML) (I' : MI) (L' : ML) : Prop :=
  ∃ J' M' qf, qf ≤ N ∧ FltC T N t b qf I I' ∧ CLm L L' ∧ FltR T N s qf J J' ∧ LFr M M' ∧ ∀ m n, N - q + 3 ≤ m → N - q + 3 ≤ n → FA m n J M = some (J', M')
def Out (T : Nat → Nat) (N s t b d l e q u U : Nat) (σ : List Nat) (c : List Int32) (I : MI) (L : ML) (J : MI) (M : ML) (o : Option (Int32 × MI × ML)) : Prop :=
  (∃ I' L' J' M' q' u' U' x τ C', o = some (1, I', L') ∧ Suc T N s t b d l q u U σ c I L J M q' u' U' x τ C' I' L' J' M' ∧ EndL e (tks T N q') τ) ∨ ∃ I' L', o = some (0, I', L') ∧ Flt T N s t b q I L J M I' L'
section PRX
variable {T : Nat → Nat} {N s t b d l e k q u U q' u' U' : Nat} {σ τ : List Nat} {c x C' : List Int32} {I I' I'' : MI} {L L' L'' : ML} {J J' J'' : MI} {M M' M'' : ML}
theorem wfd_app : ∀ {x y : List Int32} {a b c : Nat}, wfd x a b → wfd y b c → wfd (x ++ y) a c
  | [], y, a, b, c, h, k => by
    have : a = b := h
    subst this; exact k
  | z :: x, y, a, b, c, h, k => by
    rcases h with ⟨h1, h2, h3, h4, h5⟩ | ⟨h1, h2, h3⟩ | ⟨h1, h2, h3, h4⟩
    · exact Or.inl ⟨h1, h2, h3, h4, wfd_app h5 k⟩
    · exact Or.inr (Or.inl ⟨h1, h2, wfd_app h3 k⟩)
    · exact Or.inr (Or.inr ⟨h1, h2, h3, wfd_app h4 k⟩)
theorem tks28 (hq : q ≤ N) (h : tks T N q ≠ 28) : q < N := by
  by_cases e : q < N
  · exact e
  · exact absurd (by simp only [tks, if_neg e]) h
theorem Inn.cap (h : Inn T N s t b d k q u U σ c I L J M) : b + c.length ≤ 600 ∧ c.length ≤ 270 ∧ N ≤ 1600 := by
  obtain ⟨h1, -, -, -, -, h6, h7, h8, h9⟩ := h
  have := h1.1.1
  have := h1.2.2.1
  omega
/-- neither finds an operand -/
theorem In_flt (ht : t = 2 ∨ t = 28) (h : Inn T N s t b d k q u U σ c I L J M) (hk : k ≤ 5) (h1 : ¬ (tks T N q = 40 ∧ u < 30 ∧ U < 90 ∧ d ≤ 6)) (h2 : ¬ (tks T N q = 25 ∧ mno σ = true ∧ d ≤ 6)) (h3 : ¬ (isU (tks T N q) ∧ u < 30 ∧ U < 90)) {u1 U1 : Nat} {I1 : MI} (hC : CF T N t b q u1 U1 c I1 L) (hf : CFm t b I I1) : ∃ I', x5_fail 2 I1 = some (0, I') ∧ Flt T N s t b q I L J M I' L := by
  have hcap := h.cap
  obtain ⟨k1, k2, k3, k4, k5, k6, k7, k8, k9⟩ := h
  obtain ⟨I', a1, a2⟩ := C_fail ht hC (by omega)
  obtain ⟨J', b1', b2'⟩ := FA_fail k2 k3 (by omega) k6 k7 (by omega) h1 h2 h3
  refine ⟨I', a1, J', M, q, k1.2.2.1, a2.of hf, CLm.refl, b2', LFr.refl, fun m n hm hn => ?_⟩
  obtain ⟨m, rfl⟩ : ∃ m', m = m' + 2 := ⟨m - 2, by omega⟩
  obtain ⟨n, rfl⟩ : ∃ n', n = n' + 1 := ⟨n - 1, by omega⟩
  exact b1' m n
theorem EndL.end1 (h : EndL 1 q τ) : EndC q (τ ++ 20 :: σ) := by
  have hm : ∀ τ : List Nat, hrl τ = true → hrl (τ ++ 20 :: σ) = true := by
    intro τ
    induction τ with
    | nil => intro h; cases h
    | cons v r ih =>
      intro h
      simp only [hrl, List.cons_append] at h ⊢
      by_cases e : v = 20
      · rw [if_pos e] at h; cases h
      · rw [if_neg e] at h ⊢
        by_cases e4 : 4 < tg v
        · rw [if_pos e4] at h ⊢; exact ih h
        · rw [if_neg e4] at h ⊢; exact h
  rcases h with h | h | h
  · exact Or.inl h
  · have := (tg_le (sgn q)).1; omega
  · exact Or.inr ⟨h.1, hm τ h.2⟩
theorem hrl_app {σ : List Nat} : ∀ τ : List Nat, hrl τ = true → hrl (τ ++ σ) = true := by
  intro τ
  induction τ with
  | nil => intro h; cases h
  | cons v r ih =>
    intro h
    simp only [hrl, List.cons_append] at h ⊢
    by_cases e : v = 20
    · rw [if_pos e] at h; cases h
    · rw [if_neg e] at h ⊢
      by_cases e4 : 4 < tg v
      · rw [if_pos e4] at h ⊢; exact ih h
      · rw [if_neg e4] at h ⊢; exact h
theorem hrl_5 : ∀ τ : List Nat, (∀ v, v ∈ τ → okT v ∧ 5 ≤ tg v) → hrl τ = false ∧ ∀ σ, hrl (τ ++ σ) = hrl σ := by
  intro τ
  induction τ with
  | nil => intro _; exact ⟨rfl, fun _ => rfl⟩
  | cons v r ih =>
    intro h
    have hv := h v (List.mem_cons_self ..)
    have hl := hv.1.lt
    obtain ⟨i1, i2⟩ := ih (fun w hw => h w (List.mem_cons_of_mem _ hw))
    exact ⟨by simp only [hrl, if_neg hl.2.1, if_pos (show 4 < tg v by omega), i1], fun σ => by simp only [List.cons_append, hrl, if_neg hl.2.1, if_pos (show 4 < tg v by omega), i2]⟩
/-- a unit -/
theorem P_unit (ht : t = 2 ∨ t = 28) (hs11 : s < 11) {E O : Int32 → MI → ML → Option (Int32 × MI × ML)} (hE : ∀ {q u U : Nat} {σ : List Nat} {c : List Int32} {I : MI} {L : ML} {J : MI} {M : ML}, d ≤ 6 → Inn T N s t b (d + 1) 0 q u U σ c I L J M → stp 1 σ → Out T N s t b (d + 1) 1 1 q u U σ c I L J M (E (Int32.ofNat (d + 1)) I L)) (h : Inn T N s t b d 5 q u U σ c I L J M) (h25 : tks T N q = 25 → mno σ = false) : ∃ o, x5_unit t E O (Int32.ofNat d) I L = o ∧ Out T N s t b d 7 7 q u U σ c I L J M o := by
  refine ⟨_, rfl, ?_⟩
  have hcap := h.cap
  have h' := h
  obtain ⟨k1, k2, k3, k4, k5, k6, k7, k8, k9⟩ := h'
  have g2 : ¬ (tks T N q = 25 ∧ mno σ = true ∧ d ≤ 6) := fun ⟨a1, a2, _⟩ => by rw [h25 a1] at a2; cases a2
  have hN := k1.1.1
  have hqN := k1.2.2.1
  have e20 : (I 20 7 < 30) = (u < 30) := by rw [k1.2.2.2.2.2.2.1, q_ltn (by omega) (by omega)]
  have e13 : (I (t + 13) 5 < 90) = (U < 90) := by rw [k1.2.2.2.2.2.2.2.1, q_ltn (by omega) (by omega)]
  by_cases hu : u < 30
  · by_cases hU : U < 90
    · obtain ⟨c1, c2⟩ := C_cnt ht k1
      have eu : wI I 20 7 (I 20 7 + 1) = wI I 20 7 (Int32.ofNat (u + 1)) := by rw [k1.2.2.2.2.2.2.1, q_addn]
      have eU : wI I 20 7 (Int32.ofNat (u + 1)) (t + 13) 5 = Int32.ofNat U := by rw [wI_c (by omega)]; exact k1.2.2.2.2.2.2.2.1
      generalize hI5 : wI (wI I 20 7 (Int32.ofNat (u + 1))) (t + 13) 5 (Int32.ofNat (U + 1)) = I5 at c1 c2
      have hI5' : wI (wI I 20 7 (Int32.ofNat (u + 1))) (t + 13) 5 (wI I 20 7 (Int32.ofNat (u + 1)) (t + 13) 5 + 1) = I5 := by rw [eU, q_addn]; exact hI5
      have e40 : (I5 21 4 = 40) = (tks T N q = 40) := c1.cd (v := 40) (by omega)
      have e27 : (I5 21 4 = 27) = (tks T N q = 27) := c1.cd (v := 27) (by omega)
      have hlt := tks_lt (T := T) (N := N) (q := q) (k1.1.2.2 q)
      have esb : x0_seenBy (I5 21 4) I5 = some (askd (tks T N q)) := by rw [c1.2.2.2.1.2.2.1]; exact c_seenBy hlt
      by_cases h40 : tks T N q = 40
      · by_cases hd : d ≤ 6
        · obtain ⟨I6, L6, n1, n2, n3, n4⟩ := C_nx ht c1 (by omega)
          obtain ⟨J1, M1, r1, r2, r3, r4⟩ := FA_br k2 h40 hu hU hd (by omega)
          have hlt1 := tkn_lt (T := T) hqN (by omega : tks T N q ≠ 28)
          have hq1N := n2.2.2.1
          have hin : Inn T N s t b (d + 1) 0 (tkn T N q) (u + 1) (U + 1) (20 :: σ) c I6 L6 J1 M1 := ⟨n2, r2, fun v hv => by rcases List.mem_cons.mp hv with e | e; exact Or.inl e; exact k3 v e, by simp only [List.length_cons]; omega, by omega, by omega, by omega, by omega, by omega⟩
          have hcl : x5_unit t E O (Int32.ofNat d) I L = b3 (E (Int32.ofNat (d + 1)) I6 L6) fun r19 I20 L21 => if r19 = 0 then some ((0 : Int32), I20, L21) else if (I20 21 4) = 41 then (b2 (x3_next I20 L21) fun I22 L23 => some ((1 : Int32), I22, L23)) else b2 (x5_fail (2 : Int32) I20) fun r24 I25 => ck (r24 = 0 ∨ r24 = 1) (some (r24, I25, L21)) := by
            unfold x5_unit
            simp only [e20, if_pos hu, e13, if_pos hU, q_l, eu, hI5', e40, if_pos h40]
            rw [if_neg (by rw [q_nlt (by omega) (by omega)]; show ¬ 6 < d; omega), n1, q_b2, q_addn]
          rw [hcl]
          rcases hE hd hin (Or.inl rfl) with ⟨I7, L7, J7, M7, q7, u7, U7, x7, τ7, C7, o1, ⟨s1, s2, s3, s4, s5, s6, s7, s8, s9, s10, s11⟩, s12⟩ | ⟨I7, L7, o1, J7, M7, qf, f1, f2, f3, f4, f5, f6⟩
          · obtain ⟨m1, m2, m3, m4, m5, m6, m7, m8⟩ := s10
            have hlen : C7.length + τ7.length = c.length + x7.length := by
              have := congrArg List.length s7
              simpa using this
            have hxl : x7.length + 1 ≤ 9 * (u7 - (u + 1)) := Nat.le_trans m7 (Nat.mul_le_mul_right _ (by omega))
            have m6' : 4 * (x7.length + 1) ≤ 8 * (u7 - (u + 1)) + (q7 - tkn T N q) := by split at m6 <;> omega
            have hq7 := s1.2.2.1
            rw [o1, q_b3, if_neg (by decide)]
            have e41 : (I7 21 4 = 41) = (tks T N q7 = 41) := s1.cd (v := 41) (by omega)
            by_cases h41 : tks T N q7 = 41
            · obtain ⟨I8, L8, p1, p2, p3, p4⟩ := C_nx ht s1 (by omega)
              obtain ⟨J8, M8, v1, v2, v3, v4⟩ := FB_cl (d := d) (σ := σ) (τ := τ7) s4 hs11 h41 (fun v hv => (s8 v hv).1) (fun v hv => by
                rcases List.mem_append.mp hv with e | e
                · exact Or.inr (s8 v e).1
                · rcases List.mem_cons.mp e with e | e
                  · exact Or.inl e
                  · exact k3 v e) (by omega) (by omega) (by omega)
              have hq8N := p2.2.2.1
              have hlt7 := tkn_lt (T := T) s1.2.2.1 (by omega : tks T N q7 ≠ 28)
              rw [if_pos (e41.mpr h41), p1, q_b2]
              refine Or.inl ⟨I8, L8, J8, M8, tkn T N q7, u7, U7, x7, [], C7 ++ τ7.map eo, rfl, ⟨p2, ((c2.trans n3).trans s2).trans p3, (n4.trans s3).trans p4, by simpa [nots] using v2, (r3.trans s5).trans v3, (r4.trans s6).trans v4, by simpa using s7, (fun v hv => by cases hv), by simp only [List.nil_append]; omega, ⟨by omega, by omega, m3, by omega, m5, ?_, ?_, fun D hD => m8 D (by omega)⟩, fun m n hm hn => ?_⟩, Or.inr (Or.inl (by have := (tg_le (sgn (tks T N (tkn T N q7)))).2; omega))⟩
              · rw [if_neg (by omega)]
                have := tkn_lt (T := T) hqN (by omega : tks T N q ≠ 28)
                split at m6 <;> omega
              · have e1 : (9 - (d + 1)) * (u7 - (u + 1)) ≤ (9 - d) * (u7 - u) := Nat.mul_le_mul (by omega) (by omega)
                omega
              · obtain ⟨m, rfl⟩ : ∃ m', m = m' + 1 := ⟨m - 1, by omega⟩
                rw [r1 m n]
                obtain ⟨n', w1, w2⟩ := s11 m n (by omega) (by omega)
                obtain ⟨n', rfl⟩ : ∃ m', n' = m' + 1 := ⟨n' - 1, by omega⟩
                exact ⟨n', by omega, by rw [w2, v1]⟩
            · rw [if_neg (fun g => h41 (e41.mp g))]
              obtain ⟨I8, p1, p2⟩ := C_fail ht s1 (by rw [List.length_append]; omega)
              obtain ⟨J8, v1, v2⟩ := FB_endF s4 (EndL.end1 s12) (by simp) h41 (fun v hv => by
                rcases List.mem_append.mp hv with e | e
                · exact Or.inr (s8 v e).1
                · rcases List.mem_cons.mp e with e | e
                  · exact Or.inl e
                  · exact k3 v e) (by omega)
              rw [p1, q_b2, ck_pos (Or.inl rfl)]
              refine Or.inr ⟨I8, L7, rfl, J8, M7, q7, s1.2.2.1, p2.of ((c2.trans n3).trans s2), n4.trans s3, ⟨v2.1, v2.2.1, (r3.trans s5).trans v2.2.2⟩, r4.trans s6, fun m n hm hn => ?_⟩
              obtain ⟨m, rfl⟩ : ∃ m', m = m' + 1 := ⟨m - 1, by omega⟩
              rw [r1 m n]
              obtain ⟨n', w1, w2⟩ := s11 m n (by omega) (by omega)
              obtain ⟨n', rfl⟩ : ∃ m', n' = m' + 2 := ⟨n' - 2, by omega⟩
              rw [w2, v1]
          · rw [o1, q_b3, if_pos rfl]
            refine Or.inr ⟨I7, L7, rfl, J7, M7, qf, f1, f2.of (c2.trans n3), n4.trans f3, ⟨f4.1, f4.2.1, r3.trans f4.2.2⟩, r4.trans f5, fun m n hm hn => ?_⟩
            obtain ⟨m, rfl⟩ : ∃ m', m = m' + 1 := ⟨m - 1, by omega⟩
            rw [r1 m n]
            exact f6 m n (by omega) (by omega)
        · obtain ⟨I', a1, a2⟩ := In_flt ht h (by omega) (by omega) g2 (fun ⟨a, _⟩ => by rcases a with a | a; omega; exact a (askd_hi (by omega))) c1 c2
          have hcl : x5_unit t E O (Int32.ofNat d) I L = some (0, I', L) := by
            unfold x5_unit
            simp only [e20, if_pos hu, e13, if_pos hU, q_l, eu, hI5', e40, if_pos h40]
            rw [if_pos (by rw [q_nlt (by omega) (by omega)]; show 6 < d; omega), a1, q_b2, ck_pos (Or.inl rfl)]
          rw [hcl]
          exact Or.inr ⟨I', L, rfl, a2⟩
      · by_cases hiu : isU (tks T N q)
        · have hxo := ux_ok (T := T) (N := N) (q := q) hiu
          have h28 : tks T N q ≠ 28 ∧ tks T N q ≠ 29 := by
            rcases hiu with e | e
            · omega
            · constructor <;> intro g <;> exact e (askd_hi (by omega))
          have hlt1 := tkn_lt (T := T) hqN h28.1
          obtain ⟨I6, p1, p2, p3⟩ := C_add ht c1 (by omega) (ux T N q)
          obtain ⟨I7, L7, n1, n2, n3, n4⟩ := C_nx ht p2 h28.2
          have hq1N := n2.2.2.1
          obtain ⟨J1, M1, r1, r2, r3, r4⟩ := FA_unit k2 hs11 hiu k3 hu hU (by omega) (by omega)
          have hcl : x5_unit t E O (Int32.ofNat d) I L = some (1, I7, L7) := by
            unfold x5_unit
            simp only [e20, if_pos hu, e13, if_pos hU, q_l, eu, hI5', e40, if_neg h40, esb, q_b1, e27]
            by_cases h27 : tks T N q = 27
            · have eux : ux T N q = I5 21 6 := by rw [ux, if_pos h27, c1.2.2.2.1.2.2.2.2.1 h27]
              rw [if_pos h27, x0_addNumber, ← eux, p1, q_b1, q_b1, n1, q_b2]
            · have hne : ¬ askd (tks T N q) = -1 := by
                rcases hiu with e | e
                · exact absurd e h27
                · exact e
              have eux : ux T N q = 10000 + askd (tks T N q) := by rw [ux, if_neg h27]
              rw [if_neg h27, if_neg hne, x0_addSeen, ← eux, p1, q_b1, q_b1, n1, q_b2]
          rw [hcl]
          refine Or.inl ⟨I7, L7, J1, M1, tkn T N q, u + 1, U + 1, [ux T N q], [], c ++ [ux T N q], rfl, ⟨n2, (c2.trans p3).trans n3, n4, by simpa [nots] using r2, r3, r4, by simp, (fun v hv => by cases hv), by simp only [List.nil_append]; omega, ⟨hlt1, by omega, by omega, by omega, by omega, ?_, ?_, fun D hD => Or.inl ⟨hxo.1, hxo.2.1, hxo.2.2, by omega, rfl⟩⟩, fun m n hm hn => ?_⟩, Or.inr (Or.inl (by have := (tg_le (sgn (tks T N (tkn T N q)))).2; omega))⟩
          · simp only [List.length_singleton]
            split <;> omega
          · simp only [List.length_singleton]
            have e1 : u + 1 - u = 1 := by omega
            rw [e1]; omega
          · obtain ⟨m, rfl⟩ : ∃ m', m = m' + 2 := ⟨m - 2, by omega⟩
            exact ⟨n, by omega, r1 m n⟩
        · obtain ⟨I', a1, a2⟩ := In_flt ht h (by omega) (by omega) g2 (fun ⟨a, _⟩ => hiu a) c1 c2
          have hcl : x5_unit t E O (Int32.ofNat d) I L = some (0, I', L) := by
            unfold x5_unit
            simp only [e20, if_pos hu, e13, if_pos hU, q_l, eu, hI5', e40, if_neg h40, esb, q_b1, e27]
            have hm1 : askd (tks T N q) = -1 := by
              rcases askd_c (tks T N q) with e | ⟨k, _, e⟩
              · exact e
              · exact absurd (Or.inr (fun hh => by rw [e, q_m1 (by omega)] at hh; exact hh)) hiu
            rw [if_neg (fun g => hiu (Or.inl g)), if_pos hm1, a1, q_b2, ck_pos (Or.inl rfl)]
          rw [hcl]
          exact Or.inr ⟨I', L, rfl, a2⟩
    · obtain ⟨I', a1, a2⟩ := In_flt ht h (by omega) (fun g => hU g.2.2.1) g2 (fun g => hU g.2.2) k1 CFm.refl
      have hcl : x5_unit t E O (Int32.ofNat d) I L = some (0, I', L) := by
        unfold x5_unit
        simp only [e20, if_pos hu, e13, if_neg hU, a1, q_b2]
        rw [ck_pos (Or.inl trivial)]
      rw [hcl]
      exact Or.inr ⟨I', L, rfl, a2⟩
  · obtain ⟨I', a1, a2⟩ := In_flt ht h (by omega) (fun g => hu g.2.1) g2 (fun g => hu g.2.1) k1 CFm.refl
    have hcl : x5_unit t E O (Int32.ofNat d) I L = some (0, I', L) := by
      unfold x5_unit
      simp only [e20, if_neg hu, a1, q_b2]
      rw [ck_pos (Or.inl trivial)]
    rw [hcl]
    exact Or.inr ⟨I', L, rfl, a2⟩
end PRX
