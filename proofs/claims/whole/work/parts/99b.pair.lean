/-! THE TEXT: both sides of a formula: signs -/
section PRX
variable {T : Nat → Nat} {N s t b d l e k p q u U q1 u1 U1 : Nat} {σ τ τ1 : List Nat} {c x x1 C1 : List Int32} {I I1 : MI} {L L1 : ML} {J J1 : MI} {M M1 : ML}
theorem nots_app : ∀ τ τ' : List Nat, nots (τ ++ τ') = nots τ + nots τ'
  | [], τ' => by simp [nots]
  | v :: r, τ' => by
    simp only [List.cons_append, nots, nots_app r τ']
    omega
theorem eo_op {v : Nat} (h : okT v) (hv : v ≠ 21) : ¬ eo v < 20000 ∧ eo v ≠ 20025 := by
  rcases h with e | e | e | e | e | e | e | e | e | e | e <;> rw [e] <;> first | (exact absurd e hv) | (simp only [eo]; decide)
theorem bin_pre (ht : t = 2 ∨ t = 28) (hs11 : s < 11) (h : Inn T N s t b d k q u U σ c I L J M) (hS : Suc T N s t b d l q u U σ c I L J M q1 u1 U1 x1 τ1 C1 I1 L1 J1 M1) (h0 : sgn (tks T N q1) ≠ 0) (hp : tg (sgn (tks T N q1)) = p) (hpl : p ≤ l) (hst : stp p σ) (hr : p = 4 → hrl (τ1 ++ σ) = false) {k' : Nat} (hk : σ.length + 1 ≤ 6 * d + k') (hk' : k' ≤ 5) : ∃ I2 L2 J2 M2, x3_next I1 L1 = some (I2, L2) ∧ q1 < tkn T N q1 ∧ Inn T N s t b d k' (tkn T N q1) u1 U1 (sgn (tks T N q1) :: σ) (c ++ x1) I2 L2 J2 M2 ∧ CFm t b I I2 ∧ CLm L L2 ∧ RFm s J J2 ∧ LFr M M2 ∧ ∀ m n, N - q + 3 ≤ m → N - q + 3 ≤ n → ∃ n', N - tkn T N q1 + 3 ≤ n' ∧ FA m n J M = FA FU n' J2 M2 := by
  have hcap := h.cap
  obtain ⟨k1, k2, k3, k4, k5, k6, k7, k8, k9⟩ := h
  obtain ⟨s1, s2, s3, s4, s5, s6, s7, s8, s9, ⟨m1, m2, m3, m4, m5, m6, m7, m8⟩, s11⟩ := hS
  have hok : okT (sgn (tks T N q1)) := by
    rcases sgn_ok (tks T N q1) with e | e
    · exact absurd e h0
    · exact e.1
  have h28 : tks T N q1 ≠ 28 ∧ tks T N q1 ≠ 29 := by
    constructor <;> intro g <;> rw [g] at h0 <;> exact h0 rfl
  have hq1 := s1.2.2.1
  have hlt := tkn_lt (T := T) hq1 h28.1
  have hlen : C1.length + τ1.length = c.length + x1.length := by
    have := congrArg List.length s7
    simpa using this
  have hxl : x1.length + 1 ≤ 9 * (u1 - u) := Nat.le_trans m7 (Nat.mul_le_mul_right _ (by omega))
  have m6' : 4 * (x1.length + 1) ≤ 8 * (u1 - u) + (q1 - q) := by split at m6 <;> omega
  obtain ⟨I2, L2, n1, n2, n3, n4⟩ := C_nx ht s1 h28.2
  obtain ⟨J2, M2, v1, v2, v3, v4⟩ := FB_op (d := d) (τ := τ1) (σ := σ) s4 hs11 h0 (fun v hv => ⟨(s8 v hv).1, by rw [hp]; exact Nat.le_trans hpl (s8 v hv).2⟩) (by rw [hp]; exact hst) (fun g => hr (by rw [← hp]; exact g)) (fun v hv => by
    rcases List.mem_append.mp hv with e | e
    · exact Or.inr (s8 v e).1
    · exact k3 v e) (by omega) (by omega) (by omega)
  have hq2 := n2.2.2.1
  refine ⟨I2, L2, J2, M2, n1, hlt, ⟨n2, by rw [← s7]; exact v2, fun v hv => ?_, by simp only [List.length_cons]; omega, k5, m3, m5, by rw [List.length_append]; omega, by rw [List.length_append]; omega⟩, s2.trans n3, s3.trans n4, s5.trans v3, s6.trans v4, fun m n hm hn => ?_⟩
  · rcases List.mem_cons.mp hv with e | e
    · rw [e]; exact Or.inr hok
    · exact k3 v e
  · obtain ⟨n', w1, w2⟩ := s11 m n hm hn
    obtain ⟨n', rfl⟩ : ∃ m', n' = m' + 1 := ⟨n' - 1, by omega⟩
    exact ⟨n', by omega, by rw [w2, v1]⟩
theorem bin_post (ht : t = 2 ∨ t = 28) (h : Inn T N s t b d k q u U σ c I L J M) (hS : Suc T N s t b d l q u U σ c I L J M q1 u1 U1 x1 τ1 C1 I1 L1 J1 M1) {I2 : MI} {L2 : ML} {J2 : MI} {M2 : ML} {v q2 : Nat} (hv : okT v) (hv21 : v ≠ 21) {z : Int32} (hz : 20000 + z = eo v) (hq : q1 < q2) (hI : Inn T N s t b d p q2 u1 U1 (v :: σ) (c ++ x1) I2 L2 J2 M2) (f1 : CFm t b I I2) (f2 : CLm L L2) (f3 : RFm s J J2) (f4 : LFr M M2) (hlk : ∀ m n, N - q + 3 ≤ m → N - q + 3 ≤ n → ∃ n', N - q2 + 3 ≤ n' ∧ FA m n J M = FA FU n' J2 M2) {l2 e2 l' : Nat} (hl2 : l' ≤ l2) (hlv : l' ≤ tg v) {o2 : Option (Int32 × MI × ML)} (hO : Out T N s t b d l2 e2 q2 u1 U1 (v :: σ) (c ++ x1) I2 L2 J2 M2 o2) : (∃ I3 L3 I4 J3 M3 q3 u3 U3 x2 τ2 C3, o2 = some (1, I3, L3) ∧ x0_addOperator t z I3 = some I4 ∧ q2 < q3 ∧ Suc T N s t b d l' q u U σ c I L J M q3 u3 U3 (x1 ++ (x2 ++ [eo v])) (τ2 ++ [v]) C3 I4 L3 J3 M3 ∧ EndL e2 (tks T N q3) τ2 ∧ ∀ w, w ∈ τ2 → okT w ∧ l2 ≤ tg w) ∨ (∃ I3 L3 I4, o2 = some (0, I3, L3) ∧ x0_addOperator t z I3 = some I4 ∧ Flt T N s t b q I L J M I4 L3) := by
  have hcap := h.cap
  have hfu : N - q2 + 3 ≤ FU := by unfold FU; omega
  obtain ⟨k1, k2, k3, k4, k5, k6, k7, k8, k9⟩ := h
  obtain ⟨s1, s2, s3, s4, s5, s6, s7, s8, s9, ⟨m1, m2, m3, m4, m5, m6, m7, m8⟩, s11⟩ := hS
  rcases hO with ⟨I3, L3, J3, M3, q3, u3, U3, x2, τ2, C3, o1, ⟨r1, r2, r3, r4, r5, r6, r7, r8, r9, ⟨y1, y2, y3, y4, y5, y6, y7, y8⟩, r11⟩, r12⟩ | ⟨I3, L3, o1, J3, M3, qf, g1, g2, g3, g4, g5, g6⟩
  · have hq3 := r1.2.2.1
    have m6' : 4 * (x1.length + 1) ≤ 8 * (u1 - u) + (q1 - q) := by split at m6 <;> omega
    have y6' : 4 * (x2.length + 1) ≤ 8 * (u3 - u1) + (q3 - q2) := by split at y6 <;> omega
    obtain ⟨I4, a1, a2, a3⟩ := C_add ht r1 (by simp only [List.length_append]; omega) (20000 + z)
    refine Or.inl ⟨I3, L3, I4, J3, M3, q3, u3, U3, x2, τ2, C3, o1, by rw [x0_addOperator, a1, q_b1], y1, ⟨?_, (f1.trans r2).trans a3, f2.trans r3, ?_, f3.trans r5, f4.trans r6, ?_, fun w hw => ?_, ?_, ⟨by omega, by omega, y3, by omega, y5, ?_, ?_, fun D hD => ?_⟩, fun m n hm hn => ?_⟩, r12, r8⟩
    · have : c ++ (x1 ++ (x2 ++ [eo v])) = c ++ x1 ++ x2 ++ [20000 + z] := by rw [hz]; simp
      rw [this]; exact a2
    · have e1 : nots (τ2 ++ [v]) = nots τ2 := by simp [nots_app, nots, hv21]
      have e2 : τ2 ++ [v] ++ σ = τ2 ++ v :: σ := by simp
      rw [e1, e2]; exact r4
    · rw [List.map_append, ← List.append_assoc, r7]; simp
    · rcases List.mem_append.mp hw with e | e
      · exact ⟨(r8 w e).1, Nat.le_trans hl2 (r8 w e).2⟩
      · rw [List.mem_singleton] at e; rw [e]; exact ⟨hv, hlv⟩
    · simpa using r9
    · simp only [List.length_append, List.length_singleton]
      generalize (if tks T N q < 27 then 0 else 1) = ee at m6 ⊢
      omega
    · have e1 : (9 - d) * (u3 - u) = (9 - d) * (u1 - u) + (9 - d) * (u3 - u1) := by rw [← Nat.mul_add]; congr 1; omega
      simp only [List.length_append, List.length_singleton]
      rw [e1]; omega
    · have w1 := m8 D (by omega)
      have w2 := y8 (D + 1) (by omega)
      have ho := eo_op hv hv21
      exact wfd_app w1 (wfd_app w2 (Or.inr (Or.inr ⟨ho.1, ho.2, by omega, rfl⟩)))
    · obtain ⟨n', w1, w2⟩ := hlk m n hm hn
      obtain ⟨n'', w3, w4⟩ := r11 FU n' hfu w1
      exact ⟨n'', w3, by rw [w2, w4]⟩
  · obtain ⟨I4, a1, a2⟩ := C_addF ht g2 z
    refine Or.inr ⟨I3, L3, I4, o1, a1, J3, M3, qf, g1, a2.of f1, f2.trans g3, ⟨g4.1, g4.2.1, f3.trans g4.2.2⟩, f4.trans g5, fun m n hm hn => ?_⟩
    obtain ⟨n', w1, w2⟩ := hlk m n hm hn
    rw [w2, g6 FU n' hfu w1]
theorem EndL.app {τ' : List Nat} (h : EndL e q τ) : EndL e q (τ ++ τ') := by
  rcases h with h | h | h
  · exact Or.inl h
  · exact Or.inr (Or.inl h)
  · exact Or.inr (Or.inr ⟨h.1, hrl_app τ h.2⟩)
/-- a loop over signs of one tightness -/
theorem P_loop (ht : t = 2 ∨ t = 28) (hs11 : s < 11) (h : Inn T N s t b d k q u U σ c I L J M) {Lp : Nat → Int32 → Int32 → MI → ML → Option (Int32 × MI × ML)} {X : MI → ML → Option (Int32 × MI × ML)} {op : Nat → Bool} {zo : Nat → Int32} {l2 k' : Nat} (hk : σ.length + 1 ≤ 6 * d + k') (hk' : k' ≤ 5) (hp4 : p ≠ 4) (hpl : p ≤ l2) (hst : stp p σ)
    (hstop : ∀ fu w I L v, I 21 4 = Int32.ofNat v → v < 256 → w < 1600 → op v = false → Lp (fu + 1) 1 (Int32.ofNat w) I L = some (1, I, L))
    (hzero : ∀ fu w I L, Lp (fu + 1) 0 w I L = some (0, I, L))
    (hop : ∀ fu w I L v, I 21 4 = Int32.ofNat v → v < 256 → w < 1600 → op v = true → Lp (fu + 1) 1 (Int32.ofNat w) I L = b2 (x3_next I L) fun I L => b3 (X I L) fun r I L => b1 (x0_addOperator t (zo v) I) fun I => Lp fu r (Int32.ofNat (w + 1)) I L)
    (hX : ∀ {q u U v : Nat} {c : List Int32} {I : MI} {L : ML} {J : MI} {M : ML}, okT v → tg v = p → Inn T N s t b d k' q u U (v :: σ) c I L J M → Out T N s t b d l2 (p + 1) q u U (v :: σ) c I L J M (X I L))
    (ho : ∀ v, op v = true → sgn v ≠ 0 ∧ tg (sgn v) = p ∧ 20000 + zo v = eo (sgn v)) (hn : ∀ v, op v = false → sgn v = 0 ∨ tg (sgn v) ≠ p) :
    ∀ (j : Nat) {q1 u1 U1 : Nat} {x1 : List Int32} {τ1 : List Nat} {C1 : List Int32} {I1 : MI} {L1 : ML} {J1 : MI} {M1 : ML} {fu w : Nat}, N - q1 ≤ j → j < fu → w < q1 → Suc T N s t b d p q u U σ c I L J M q1 u1 U1 x1 τ1 C1 I1 L1 J1 M1 → EndL (p + 1) (tks T N q1) τ1 → Out T N s t b d p p q u U σ c I L J M (Lp fu 1 (Int32.ofNat w) I1 L1) := by
  intro j
  induction j with
  | zero =>
    intro q1 u1 U1 x1 τ1 C1 I1 L1 J1 M1 fu w hj hfu hw hS hE
    obtain ⟨fu, rfl⟩ : ∃ n', fu = n' + 1 := ⟨fu - 1, by omega⟩
    have hq1 := hS.1.2.2.1
    have hN := hS.1.1.1
    have h28 : tks T N q1 = 28 := by simp only [tks, if_neg (show ¬ q1 < N by omega)]
    have h4 := hS.1.2.2.2.1.2.2.1
    have hopf : op (tks T N q1) = false := by
      cases ho' : op (tks T N q1) with
      | false => rfl
      | true =>
        have := (ho _ ho').1
        rw [h28] at this
        exact absurd rfl this
    rw [hstop fu w I1 L1 (tks T N q1) h4 (by omega) (by omega) hopf]
    exact Or.inl ⟨I1, L1, J1, M1, q1, u1, U1, x1, τ1, C1, rfl, hS, Or.inl (by rw [h28]; rfl)⟩
  | succ j ih =>
    intro q1 u1 U1 x1 τ1 C1 I1 L1 J1 M1 fu w hj hfu hw hS hE
    obtain ⟨fu, rfl⟩ : ∃ n', fu = n' + 1 := ⟨fu - 1, by omega⟩
    have hq1 := hS.1.2.2.1
    have hN := hS.1.1.1
    have hlt := tks_lt (T := T) (N := N) (q := q1) (hS.1.1.2.2 q1)
    have h4 := hS.1.2.2.2.1.2.2.1
    cases ho' : op (tks T N q1) with
    | false =>
      rw [hstop fu w I1 L1 (tks T N q1) h4 hlt (by omega) ho']
      refine Or.inl ⟨I1, L1, J1, M1, q1, u1, U1, x1, τ1, C1, rfl, hS, ?_⟩
      rcases hn _ ho' with g | g
      · exact Or.inl g
      · rcases hE with g2 | g2 | g2
        · exact Or.inl g2
        · exact Or.inr (Or.inl (by omega))
        · exact Or.inr (Or.inr g2)
    | true =>
      obtain ⟨o1, o2, o3⟩ := ho _ ho'
      have hok : okT (sgn (tks T N q1)) ∧ sgn (tks T N q1) ≠ 21 := by
        rcases sgn_ok (tks T N q1) with e | e
        · exact absurd e o1
        · exact e
      obtain ⟨I2, L2, J2, M2, n1, n2, n3, n4, n5, n6, n7, n8⟩ := bin_pre ht hs11 h hS o1 o2 (Nat.le_refl _) hst (fun g => absurd g hp4) hk hk'
      rw [hop fu w I1 L1 (tks T N q1) h4 hlt (by omega) ho', n1, q_b2]
      rcases bin_post ht h hS hok.1 hok.2 o3 n2 n3 n4 n5 n6 n7 n8 hpl (by omega) (hX hok.1 o2 n3) with ⟨I3, L3, I4, J3, M3, q3, u3, U3, x2, τ2, C3, r1, r2, r3, r4, r5, r6⟩ | ⟨I3, L3, I4, r1, r2, r3⟩
      · rw [r1, q_b3, r2, q_b1]
        exact ih (by omega) (by omega) (by omega) r4 r5.app
      · rw [r1, q_b3, r2, q_b1]
        obtain ⟨fu, rfl⟩ : ∃ n', fu = n' + 1 := ⟨fu - 1, by omega⟩
        rw [hzero]
        exact Or.inr ⟨I4, L3, rfl, r3⟩
end PRX
