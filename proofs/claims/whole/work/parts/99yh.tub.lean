/-! CALLS, 27: tub -/
section TBX
variable {T : Nat → Nat} {N t b q q0 q1 U k : Nat} {C : TC} {D : TD} {P : PR} {Z : AX} {ws : Nat → Nat → List Nat} {I Ia I' : MI} {L La L' : ML} {J J' : MI} {M M' : ML} {R R' : MR} {S : MS} {t' c i : Nat}
theorem c_beginU (hD : OkD D C) (hT : Td I t D C) (hq : isq t q0) : ∃ I', x7_begin q0 t I = some I' ∧ (∀ P, Pt D P → Pt2 D P → Rl D true I' q0 P) ∧ ∀ c, (c < q0 ∨ q0 + 11 < c) → I' c = I c := by
  obtain ⟨I', a1, -, a3⟩ := c_begin hD hT hq (tro_pt hD.a hD.b) (tro_pt2 hD.b)
  refine ⟨I', a1, fun P p1 p2 => ?_, a3⟩
  obtain ⟨I2, b1', b2', -⟩ := c_begin hD hT hq p1 p2
  rw [a1] at b1'
  cases b1'
  exact b2'
theorem c_tub (hS : RS t R S) (r0 : R0 R) (hx : x5_read 1 (30 - t) (I 0 1) I L R S = some (1, Ia, La, wR (wR R 20 4 (some (30 - t))) 21 1 (some 1), S)) (hD : OkD D C) (hT : Td Ia (30 - t) D C) :
    ∃ I34 R', x10_tub I L R S = some (D 0 4, I34, La, R', S) ∧ RS (30 - t) R' S ∧ R0 R' ∧ (∀ P, Pt D P → Pt2 D P → Rl D true I34 47 P ∧ Rl D true I34 90 P) ∧ (I34 59 1 = 0 ∧ I34 59 2 = 0 ∧ I34 59 3 = 0 ∧ I34 83 6 = 0 ∧ I34 0 14 = 0 ∧ I34 0 1 = 0) ∧ (∀ b, b < 3 → I34 62 b = 0) ∧ (∀ j, j ≠ 1 → j ≠ 14 → I34 0 j = Ia 0 j) ∧ ∀ c, c ≠ 0 → ¬ (47 ≤ c ∧ c ≤ 59) → c ≠ 62 → c ≠ 83 → ¬ (90 ≤ c ∧ c ≤ 101) → I34 c = Ia c := by
  have ht : t = 2 ∨ t = 28 := hS.2.2.2.1
  have hr := hS.1
  have ht' : 30 - t = 2 ∨ 30 - t = 28 := by rcases ht with h | h <;> omega
  have hisT : isT (30 - t) := ht'
  generalize hth : 30 - t = th at *
  have r2 : R 0 2 = some th := by have := hS.2.2.2.2.1; rw [hth] at this; exact this
  have r27 : R 27 0 = some t := hS.2.2.1
  have o1 : okr (wR (wR R 20 4 (some th)) 21 1 (some 1)) S := (hr.wf (fun e he => (tb_R0_free e he).1)).wf (fun e he => (tb_R0_free e he).2.1)
  generalize hR1 : wR (wR R 20 4 (some th)) 21 1 (some 1) = R1 at *
  have f1 : ∀ c, c ≠ 20 → c ≠ 21 → R1 c = R c := fun c h1 h2 => by rw [← hR1, wR_off h2, wR_off h1]
  have o2 : okr (wR R1 0 2 (some t)) S := o1.wf (fun e he => (tb_R0_free e he).2.2.1)
  have o3 : okr (wR (wR R1 0 2 (some t)) 27 0 (some th)) S := o2.wf (fun e he => (tb_R0_free e he).2.2.2)
  have hRS : RS th (wR (wR R1 0 2 (some t)) 27 0 (some th)) S := hS.rw o3 (by simp [wR]) hisT (by
    rw [wR_off (by omega), show 30 - th = t by omega]; simp [wR]) (fun c h1 h2 h3 h4 => by rw [wR_off h4, wR_off h1, f1 c h2 h3])
  generalize hR3 : wR (wR R1 0 2 (some t)) 27 0 (some th) = R3 at *
  have e60 : R3 60 0 = some 90 := by rw [← hR3, wR_off (by omega), wR_off (by omega), f1 60 (by omega) (by omega)]; exact r0
  have hd0 : dyn 60 0 := Or.inl ⟨rfl, by omega⟩
  have hst := (hRS.2.2.2.2.2.2.1 60 0 90 hd0 e60).1
  have fth : ∀ j, j ≤ 16 → th + j ≠ 0 ∧ ¬ (47 ≤ th + j ∧ th + j ≤ 59) ∧ th + j ≠ 62 ∧ th + j ≠ 83 ∧ ¬ (90 ≤ th + j ∧ th + j ≤ 101) := fun j hj => by omega
  obtain ⟨I21, a1, a2, a3⟩ := c_beginU (q0 := 47) (I := wI Ia 0 1 0) hD (hT.ag (fun j hj => wI_c (fth j hj).1)) ⟨hisT, Nat.le_refl _⟩
  have hh : x2_atHand (wI (wI (wI I21 59 1 0) 59 2 0) 59 3 0) La R3 S = some (90, wI (wI (wI I21 59 1 0) 59 2 0) 59 3 0, La, R3, S) := c_hand o3 (od := 0) (B := 0) (by rw [wI_ne (by omega), wI_ne (by omega), wI_at]; rfl) (by rw [wI_ne (by omega), wI_at]; rfl) (by omega) (by omega) e60
  generalize hI4 : wI (wI (wI I21 59 1 0) 59 2 0) 59 3 0 = I4 at *
  have w59 : I4 59 1 = 0 ∧ I4 59 2 = 0 ∧ I4 59 3 = 0 := by
    rw [← hI4]; simp (disch := omega) only [wI_ne, wI_at, and_self]
  have f4 : ∀ c, c ≠ 59 → I4 c = I21 c := fun c hc => by rw [← hI4]; simp (disch := omega) only [wI_c]
  obtain ⟨I22, b1', b2', b3'⟩ := c_copyAll (q0 := 90) (q1 := 47) (C := C) hD ((a2 _ (tro_pt hD.a hD.b) (tro_pt2 hD.b)).fr (fun c h1 h2 => f4 c (by omega))) (by omega)
  obtain ⟨I34, c1, c2, -, c4⟩ := c_t88 o3 3 0 FU (wI (wI I22 83 6 0) 0 14 0) (by omega) (by unfold FU; omega)
  have z0 : Int32.ofNat 0 = 0 := rfl
  rw [z0] at c1
  have g : ∀ c, c ≠ 62 → c ≠ 0 → c ≠ 83 → I34 c = I22 c := fun c h1 h2 h3 => by rw [c4 c h1, wI_c h2, wI_c h3]
  have g2 : ∀ c, c ≠ 0 → ¬ (47 ≤ c ∧ c ≤ 59) → c ≠ 62 → c ≠ 83 → ¬ (90 ≤ c ∧ c ≤ 101) → I34 c = Ia c := fun c h1 h2 h3 h4 h5 => by
    rw [g c h3 h1 h4, b3' c (by omega), f4 c (by omega), a3 c (by omega), wI_c h1]
  have g0 : ∀ j, j ≠ 14 → I34 0 j = wI Ia 0 1 0 0 j := fun j hj => by
    rw [c4 0 (by omega), wI_ne (Or.inr hj), wI_c (by omega), b3' 0 (by omega), f4 0 (by omega), a3 0 (by omega)]
  have hT34 : Td I34 th D C := hT.ag (fun j hj => by
    obtain ⟨q1, q2, q3, q4, q5⟩ := fth j hj
    exact g2 _ q1 q2 q3 q4 q5)
  refine ⟨I34, R3, ?_, hRS, e60, fun P p1 p2 => ?_, ⟨?_, ?_, ?_, ?_, ?_, ?_⟩, fun b hb => c2 b (by omega) hb, fun j h1 h2 => by rw [g0 j h2, wI_ne (Or.inr h1)], g2⟩
  · have q1 : R1 0 2 = some th := by rw [f1 0 (by omega) (by omega)]; exact r2
    have q2 : R1 27 0 = some t := by rw [f1 27 (by omega) (by omega)]; exact r27
    have S90 : S[90]? = some (7, 12) := hst.2.1
    rw [x10_tub, ck_pos hr, r2, q_b1, hx, q_b5, q_l, ck_pos o1, q_l, if_neg (by decide), q1, q_b1, q2, q_b1, q_l, ck_pos o2, q_l, hR3, ck_pos o3, ck_pos hisT, a1, q_b1, x2_start, ck_pos o3]
    simp only [q_l, hI4]
    rw [hh, q_b5, ck_pos hst, ck_pos (st_47 o3), ck_pos o3, ck_pos S90, b1', q_b1, q_b4, ck_pos o3, x4_clear]
    simp only [q_l, q_b1]
    rw [c1, q_b1, hT34.1.2.2.2.2.1]
  · have h47 := a2 P p1 p2
    obtain ⟨I22', d1, d2, -⟩ := c_copyAll (q0 := 90) (q1 := 47) (C := C) hD (h47.fr (fun c h1 h2 => f4 c (by omega))) (by omega)
    rw [b1'] at d1
    cases d1
    exact ⟨h47.fr (fun c h1 h2 => by rw [g c (by omega) (by omega) (by omega), b3' c (by omega), f4 c (by omega)]), d2.fr (fun c h1 h2 => g c (by omega) (by omega) (by omega))⟩
  · rw [g 59 (by omega) (by omega) (by omega), b3' 59 (by omega)]; exact w59.1
  · rw [g 59 (by omega) (by omega) (by omega), b3' 59 (by omega)]; exact w59.2.1
  · rw [g 59 (by omega) (by omega) (by omega), b3' 59 (by omega)]; exact w59.2.2
  · rw [c4 83 (by omega), wI_c (by omega), wI_at]
  · rw [c4 0 (by omega), wI_at]
  · rw [g0 1 (by omega), wI_at]
/-- what is there behind a text that was read through -/
def ztb (Z : AX) (U : Nat) (P : PR) : AX := ((0, zT Z, 0, -1), zM Z, [], (0, zK Z), (0, 0, fun _ => P), fun _ => none, Int32.ofNat U)
/-- and behind a fault -/
def zft (Z : AX) (f g : Int32) : AX := ((0, zT Z, f, g), Z.2)
theorem INV.flt (h : INV t I L R S D C P Z) {f g : Int32} {I2 : MI} {L2 : ML} {R2 : MR} (hR : RS t R2 S) (h60 : R2 60 = R 60) (h61 : R2 61 = R 61) (f1 : ∀ c, (c < 102 ∨ 158 ≤ c) → c ≠ 0 → c ≠ 20 → c ≠ 21 → ¬ (30 - t ≤ c ∧ c ≤ 30 - t + 16) → I2 c = I c) (f2 : ∀ c, 102 < c → c < 158 → ¬ (104 ≤ c ∧ c ≤ 106) → c ≠ 110 → ¬ (113 ≤ c ∧ c ≤ 124) → I2 c = I c) (f3 : ∀ j, (j = 21 ∨ (56 ≤ j ∧ j ≤ 61) ∨ 65 ≤ j) → I2 102 j = I 102 j) (n1 : I2 0 1 = 0) (n0 : ∀ j, j ≠ 1 → I2 0 j = I 0 j) (n8 : I2 20 8 = f) (n9 : I2 20 9 = g) (m1 : I2 102 1 = 0) (m2 : I2 102 2 = f) (m3 : I2 102 3 = g) (hL : L2 22 = L 22) (h6 : F6 I2) : INV t I2 L2 R2 S D C P (zft Z f g) := by
  obtain ⟨hS, hc, hm, ha, hw⟩ := h
  have ht := hS.2.2.2.1
  have fd : ∀ c i q d, (c = 60 ∨ c = 61) → dyn c i → R c i = some q → q ≤ d → d ≤ q + 11 → I2 d = I d := fun c i q d r1 r2 r3 r4 r5 => by
    have := hS.q90 r2 r3
    exact f1 d (by omega) (by omega) (by omega) (by omega) (by rcases ht with h | h <;> omega)
  have fo : ∀ c, ((t ≤ c ∧ c ≤ t + 16) ∨ (47 ≤ c ∧ c < 102)) → I2 c = I c := fun c hc => f1 c (by rcases ht with h | h <;> omega) (by rcases ht with h | h <;> omega) (by rcases ht with h | h <;> omega) (by rcases ht with h | h <;> omega) (by rcases ht with h | h <;> omega)
  refine ⟨hR, ?_, ?_, ⟨ha.1, ha.2.1, ha.2.2.1, ⟨by show 0 ≤ 1600; omega, fun i hi => absurd hi (Nat.not_lt_zero _)⟩, ha.2.2.2.2⟩, fun i hi => by rw [hL]; exact hw.1 i hi, h6⟩
  · obtain ⟨g1, g2, g3, g4, g5, g6, g7, g8, g9, g10⟩ := hc
    refine ⟨g1.ag (fun j hj => fo _ (by omega)), g2.fr (fun c a b => fo c (by omega)), ⟨n1, fun i hi => absurd hi (Nat.not_lt_zero _)⟩, ⟨n8, n9⟩, by rw [n0 12 (by omega)]; exact g5, ⟨by rw [n0 14 (by omega)]; exact g6.1, fun i hi => by rw [fo 89 (by omega)]; exact g6.2 i hi⟩, ⟨by rw [fo 83 (by omega)]; exact g7.1, fun i j hi hj => by rw [fo _ (by omega)]; exact g7.2 i j hi hj⟩, ?_, ?_, by rw [fo _ (by omega)]; exact g10⟩
    · obtain ⟨od, r1, r2, r3, r4, r5⟩ := g8
      refine ⟨od, r1, by rw [fo 59 (by omega)]; exact r2, by rw [fo 59 (by omega)]; exact r3, by rw [fo 59 (by omega)]; exact r4, fun i hi => ?_⟩
      obtain ⟨q, q1, q2⟩ := r5 i hi
      exact ⟨q, by rw [h60]; exact q1, q2.fr (fun c s1 s2 => fd 60 _ q c (Or.inl rfl) (Or.inl ⟨rfl, Nat.mod_lt _ (by omega)⟩) q1 s1 s2)⟩
    · intro b hb
      rcases g9 b hb with ⟨r1, r2⟩ | ⟨Q, q, r1, r2, r3, r4⟩
      · exact Or.inl ⟨r1, by rw [fo 62 (by omega)]; exact r2⟩
      · exact Or.inr ⟨Q, q, r1, by rw [fo 62 (by omega)]; exact r2, by rw [h61]; exact r3, r4.fr (fun c s1 s2 => fd 61 b q c (Or.inr rfl) (Or.inr (Or.inl ⟨rfl, hb⟩)) r3 s1 s2)⟩
  · obtain ⟨g1, g2, g3, g4, g5, g6, g7, g8, g9, g10⟩ := hm
    obtain ⟨⟨a1, a2, a3, a4, a5, a6⟩, b2, b3, b4, b5⟩ := g1
    have fr : ∀ c, ((107 ≤ c ∧ c ≤ 109) ∨ (125 ≤ c ∧ c < 158)) → I2 c = I c := fun c hc => f2 c (by omega) (by omega) (by omega) (by omega) (by omega)
    refine ⟨⟨⟨by rw [f3 56 (by omega)]; exact a1, by rw [f3 57 (by omega)]; exact a2, by rw [f3 65 (by omega)]; exact a3, by rw [f3 60 (by omega)]; exact a4, by rw [f3 61 (by omega)]; exact a5, by rw [f3 59 (by omega)]; exact a6⟩, fun a ha => ?_, fun b hb => ?_, fun s hs => ?_, fun r hr => ?_⟩, ⟨fun k hk => by rw [fr 138 (by omega)]; exact g2.1 k hk, fun b hb => by rw [fr 130 (by omega)]; exact g2.2.1 b hb, fun b hb => by rw [fr 131 (by omega)]; exact g2.2.2 b hb⟩, ⟨m1, fun i hi => absurd hi (Nat.not_lt_zero _)⟩, ⟨m2, m3⟩, by rw [f3 92 (by omega)]; exact g5, ⟨by rw [f3 85 (by omega)]; exact g6.1, fun i hi => by rw [fr 149 (by omega)]; exact g6.2 i hi⟩, ⟨by rw [f3 91 (by omega)]; exact g7.1, fun i j hi hj => by rw [fr _ (by omega)]; exact g7.2 i j hi hj⟩, ⟨by rw [f3 71 (by omega)]; exact g8.1, by rw [f3 72 (by omega)]; exact g8.2.1, fun i k hi hk => by rw [fr 139 (by omega)]; exact g8.2.2.1 i k hi hk, fun i k hi hi2 hk => by rw [fr 139 (by omega)]; exact g8.2.2.2 i k hi hi2 hk⟩, fun b hb => by rw [fr 156 (by omega), fr 157 (by omega)]; exact g9 b hb, by rw [f3 21 (by omega)]; exact g10⟩
    · simp (disch := omega) only [fr]; exact b2 a ha
    · simp (disch := omega) only [fr]; exact b3 b hb
    · rw [f3 58 (by omega)]
      rcases b4 s hs with ⟨g1, g2⟩ | g
      · exact Or.inl ⟨g1, g2.fr (by simp (disch := omega) only [fr]) (by simp (disch := omega) only [fr]) (by simp (disch := omega) only [fr])⟩
      · exact Or.inr g
    · exact (b5 r hr).fr (by simp (disch := omega) only [fr]) (by simp (disch := omega) only [fr]) (by simp (disch := omega) only [fr])
theorem op_tub (h : INV t I L R S D C P Z) (r0 : R0 R) : ∃ r I1 L1 R1 I2 L2 t' D' C' P' Z', x10_tub I L R S = some (r, I1, L1, R1, S) ∧ x11_tub I1 L1 = some (r, I2, L2) ∧ INV t' I2 L2 R1 S D' C' P' Z' ∧ R0 R1 := by
  obtain ⟨hS, hc, hm, ha, hw⟩ := id h
  have ht := hS.2.2.2.1
  have hr := hS.1
  have hN := ha.2.2.2.1.1
  have hB := ha.2.2.2.1.2
  have hct := hc.2.2.1
  have hrt := hm.2.2.1
  have ht' : 30 - t = 2 ∨ 30 - t = 28 := by rcases ht with h | h <;> omega
  have r2 : R 0 2 = some (30 - t) := hS.2.2.2.2.1
  obtain ⟨v, Ia, La, Ja0, Ma0, x1, x2, x3, x4, x5, -⟩ := P_read (T := zT Z) (N := zN Z) (J := I) (M := L) ht' hr hN hB hct.2 hw.1 hrt.1 hrt.2
  rw [← hct.1] at x1
  have o1 : okr (wR (wR R 20 4 (some (30 - t))) 21 1 (some 1)) S := (hr.wf (fun e he => (tb_R0_free e he).1)).wf (fun e he => (tb_R0_free e he).2.1)
  rcases x3 with ⟨rfl, qx, Ux, bx, kx, Cx, wx, k1, k2, k3⟩ | ⟨rfl, k1⟩
  · -- read through
    have hT := k3.td k1
    have hD := k3.1.1
    obtain ⟨I34, R', e1, e2, e3, e4, e5, e6, e7, e8⟩ := c_tub hS r0 x1 hD hT
    have fr : ∀ c, 102 ≤ c → I34 c = I c := fun c hc => by
      rw [e8 c (by omega) (by omega) (by omega) (by omega) (by omega), x4 c (by omega) (by omega) (by rcases ht' with h | h <;> omega)]
    obtain ⟨v2, Ib, Lb, J1, M1, y1, y2, y3, y4, y5, y6, y7, y8, y9⟩ := P_read (T := zT Z) (N := zN Z) (J := I34) (M := La) ht' hr hN hB hct.2 hw.1 (by rw [fr 102 (by omega)]; exact hrt.1) (fun i hi => by rw [fr 103 (by omega)]; exact hrt.2 i hi)
    rw [← hct.1, x1] at y1
    cases y1
    rcases y3 with ⟨-, q, U, b, k, C', ws, l1, l2, l3⟩ | ⟨g, -⟩
    · have h6 : F6 J1 := ho_readAll (L := La) (hw.2.c (fr 106 (by omega))) _ y2
      obtain ⟨J2, P', z1, z2, z3, z4, z5, ⟨w1, w2, w3, w4, w5, w6, w7, w8, w9⟩, z7, z8⟩ := m_tub l2 l3 h6 y2
      obtain ⟨c47, c90⟩ := e4 P' z4 z5
      have fj : ∀ c, (c < 102 ∨ 158 ≤ c) → J2 c = I34 c := fun c hc => by
        rw [z8 c (by omega) (by omega) (by omega) (by omega), y6 c (by omega) (by omega) (by omega) (by omega)]
      have fth : ∀ j, j ≤ 16 → J2 (30 - t + j) = Ia (30 - t + j) := fun j hj => by
        have : 30 - t + j ≠ 0 ∧ ¬ (47 ≤ 30 - t + j ∧ 30 - t + j ≤ 59) ∧ 30 - t + j ≠ 62 ∧ 30 - t + j ≠ 83 ∧ ¬ (90 ≤ 30 - t + j ∧ 30 - t + j ≤ 101) := by omega
        rw [fj _ (by omega), e8 _ this.1 this.2.1 this.2.2.1 this.2.2.2.1 this.2.2.2.2]
      have hI4 : Ia (30 - t) 4 = OD (30 - t) Ia 0 4 := rfl
      have d0 : dyn 60 0 := Or.inl ⟨rfl, by omega⟩
      refine ⟨_, I34, La, R', J2, M1, 30 - t, OD (30 - t) Ia, C', P', ztb Z U P', e1, z1, ⟨e2, ⟨(l3.td l1).ag fth, c47.fr (fun c a b => fj c (by omega)), ⟨?_, fun i hi => absurd hi (Nat.not_lt_zero _)⟩, ⟨?_, ?_⟩, ?_, ⟨?_, fun i hi => absurd hi (Nat.not_lt_zero _)⟩, ⟨?_, fun i j hi => absurd hi (Nat.not_lt_zero _)⟩, ⟨0, by omega, ?_, ?_, ?_, fun i hi => ?_⟩, fun b hb => Or.inl ⟨rfl, ?_⟩, ?_⟩, ⟨z2, z3, ⟨?_, fun i hi => absurd hi (Nat.not_lt_zero _)⟩, ⟨w2, w3⟩, ?_, ⟨w5, fun i hi => absurd hi (Nat.not_lt_zero _)⟩, ⟨w6, fun i j hi => absurd hi (Nat.not_lt_zero _)⟩, ⟨w7, w8, fun i k hi => absurd hi (Nat.not_lt_zero _), fun i k _ hi => absurd hi (Nat.not_lt_zero _)⟩, fun b hb => Or.inl ⟨rfl, z7 b hb⟩, w9⟩, ⟨l3.1.1, z4.okp l3.1.1, fun b hb => ⟨(z4.2 b hb).2.2.2.1, (z4.2 b hb).2.2.2.2⟩, ⟨by show 0 ≤ 1600; omega, fun i hi => absurd hi (Nat.not_lt_zero _)⟩, ha.2.2.2.2.1, by show 0 ≤ 36; omega, ⟨by show 0 ≤ 30; omega, fun i hi => absurd hi (Nat.not_lt_zero _)⟩, ⟨by show 0 + 0 ≤ 40; omega, fun i _ => ⟨z4.okp l3.1.1, fun _ _ _ => rfl⟩, fun _ => rfl⟩, fun b Q _ hQ => by cases hQ⟩, fun i hi => ?_, h6.c (z8 106 (by omega) (by omega) (by omega) (by omega))⟩, e3⟩
      · rw [fj 0 (by omega)]; exact e5.2.2.2.2.2
      · rw [fj 20 (by omega), e8 20 (by omega) (by omega) (by omega) (by omega) (by omega)]; exact l1.2.2.2.2.1
      · rw [fj 20 (by omega), e8 20 (by omega) (by omega) (by omega) (by omega) (by omega)]; exact l1.2.2.2.2.2.1
      · rw [fj 0 (by omega), e7 12 (by omega) (by omega), x4 0 (by omega) (by omega) (by rcases ht' with h | h <;> omega)]; exact hc.2.2.2.2.1
      · rw [fj 0 (by omega)]; exact e5.2.2.2.2.1
      · rw [fj 83 (by omega)]; exact e5.2.2.2.1
      · rw [fj 59 (by omega)]; exact e5.1
      · rw [fj 59 (by omega)]; exact e5.2.1
      · rw [fj 59 (by omega)]; exact e5.2.2.1
      · have hi' : i ≤ 0 + 0 := hi
        obtain rfl : i = 0 := by omega
        exact ⟨90, e3, c90.fr (fun c a b => fj c (by omega))⟩
      · rw [fj 62 (by omega)]; exact e6 b hb
      · rw [fth 13 (by omega)]; exact l1.2.2.2.2.2.2.1
      · rw [w1]; exact y8
      · rw [w4, y7 92 (by omega), fr 102 (by omega)]; exact hm.2.2.2.2.1
      · rw [y9 22 (by omega) (by omega), x5 22 (by omega) (by omega)]; exact hw.1 i hi
    · cases g
  · -- a fault
    have fr : ∀ c, 102 ≤ c → wI Ia 0 1 0 c = I c := fun c hc => by
      rw [wI_c (by omega), x4 c (by omega) (by omega) (by rcases ht' with h | h <;> omega)]
    obtain ⟨v2, Ib, Lb, J1, M1, y1, y2, y3, y4, y5, y6, y7, y8, y9⟩ := P_read (T := zT Z) (N := zN Z) (J := wI Ia 0 1 0) (M := La) ht' hr hN hB hct.2 hw.1 (by rw [fr 102 (by omega)]; exact hrt.1) (fun i hi => by rw [fr 103 (by omega)]; exact hrt.2 i hi)
    rw [← hct.1, x1] at y1
    cases y1
    rcases y3 with ⟨g, -⟩ | ⟨-, l1⟩
    · cases g
    · have h6 : F6 J1 := ho_readAll (L := La) (hw.2.c (fr 106 (by omega))) _ y2
      have hR2 : RS t (wR (wR R 20 4 (some (30 - t))) 21 1 (some 1)) S := hS.rw o1 (by rw [wR_off (by omega), wR_off (by omega)]; exact hS.2.2.1) ht (by rw [wR_off (by omega), wR_off (by omega)]; exact r2) (fun c h1 h2 h3 h4 => by rw [wR_off h3, wR_off h2])
      refine ⟨-1, wI Ia 0 1 0, La, _, J1, M1, t, D, C, P, zft Z (Ia 20 8) (Ia 20 9), ?_, ?_, h.flt hR2 (by rw [wR_off (by omega), wR_off (by omega)]) (by rw [wR_off (by omega), wR_off (by omega)]) (fun c q1 q2 q3 q4 q5 => ?_) (fun c q1 q2 q3 q4 q5 => ?_) (fun j hj => ?_) ?_ (fun j hj => ?_) ?_ ?_ y8 l1.1.symm l1.2.1.symm ?_ h6, ?_⟩
      · rw [x10_tub, ck_pos hr, r2, q_b1, x1, q_b5, q_l, ck_pos o1, q_l, if_pos rfl]
      · rw [x11_tub, y2, q_b2, if_pos l1.2.2]
      · rw [y6 c (by omega) (by omega) (by omega) (by omega), wI_c q2, x4 c q3 q4 q5]
      · rw [y6 c (by omega) q3 q4 q5, fr c (by omega)]
      · rw [y7 j hj, fr 102 (by omega)]
      · rw [y6 0 (by omega) (by omega) (by omega) (by omega), wI_at]
      · rw [y6 0 (by omega) (by omega) (by omega) (by omega), wI_ne (Or.inr hj), x4 0 (by omega) (by omega) (by rcases ht' with h | h <;> omega)]
      · rw [y6 20 (by omega) (by omega) (by omega) (by omega), wI_c (by omega)]
      · rw [y6 20 (by omega) (by omega) (by omega) (by omega), wI_c (by omega)]
      · rw [y9 22 (by omega) (by omega), x5 22 (by omega) (by omega)]
      · show wR (wR R 20 4 _) 21 1 _ 60 0 = some 90
        rw [wR_off (by omega), wR_off (by omega)]; exact r0
end TBX
