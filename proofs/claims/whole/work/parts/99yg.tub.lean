/-! TUB: each side behind the reading of the text -/
noncomputable def tbJ (J : MI) : MI := wI (wI (wI (wI (wI (wI (wI (wI J 102 56 (J 102 49)) 102 57 (J 102 50)) 102 58 (J 102 51)) 102 59 (J 102 52)) 102 60 (J 102 53)) 102 61 (J 102 54)) 102 65 (J 102 64)) 102 21 (J 102 20)
noncomputable def tbR (I10 : MI) (L2 : ML) : Option (Int32 × MI × ML) :=
lt (0 : Int32) fun v11 =>
b1 (x11_tub_L79 FU v11 I10) fun e26 =>
lt (0 : Int32) fun v27 =>
b1 (x11_tub_L157 FU v27 e26) fun e47 =>
lt (0 : Int32) fun v48 =>
b1 (x11_tub_L243 FU v48 e47) fun e68 =>
b1 (x11_layTold e68) fun I69 =>
lt (wI I69 137 (ix (62 : Int32)) (I69 102 55)) fun I70 =>
lt (63 : Int32) fun v71 =>
b1 (x11_tub_L344 FU v71 I70) fun e75 =>
b1 (x11_keep e75) fun I76 =>
lt (wI I76 102 71 (0 : Int32)) fun I77 =>
lt (wI I77 102 72 (0 : Int32)) fun I78 =>
lt (wI I78 102 91 (0 : Int32)) fun I79 =>
lt (wI I79 102 85 (0 : Int32)) fun I80 =>
lt (0 : Int32) fun v81 =>
b1 (x11_tub_L389 FU v81 I80) fun e85 =>
some ((e85 102 60), e85, L2)
section TBX
variable {T : Nat → Nat} {N t b q U k : Nat} {C : TC} {D : TD} {P : PR} {ws : Nat → Nat → List Nat} {I I' : MI} {L L' : ML} {J J' : MI} {M M' : ML} {R R' : MR} {S : MS} {t' c i : Nat}
theorem m_tbE (h : x11_readAll J M = some (J', M')) (h2 : ¬ 0 < J' 102 2) : x11_tub J M = tbR (tbJ J') M' := by
  rw [x11_tub, h, q_b2, if_neg h2]
  simp (disch := omega) only [q_l, wI_ne]
  rfl
theorem RS.rw (h : RS t R S) (h1 : okr R' S) (h2 : R' 27 0 = some t') (h3 : isT t') (h4 : R' 0 2 = some (30 - t')) (h5 : ∀ c, c ≠ 0 → c ≠ 20 → c ≠ 21 → c ≠ 27 → R' c = R c) : RS t' R' S := by
  obtain ⟨g1, g2, g3, g4, g5, g6, g7, g8, g9, g10⟩ := h
  have hd : ∀ c i, dyn c i → R' c = R c := fun c i hd => by
    rcases hd with h | h | h <;> exact h5 c (by omega) (by omega) (by omega) (by omega)
  have hnl : nl R' = nl R := by
    simp only [nl]
    rw [h5 60 (by omega) (by omega) (by omega) (by omega), h5 61 (by omega) (by omega) (by omega) (by omega), h5 64 (by omega) (by omega) (by omega) (by omega)]
  refine ⟨h1, ⟨g2.1, fun e he => by rw [h5 e.1 (by have := tb_RM_cells e he; omega) (by have := tb_RM_cells e he; omega) (by have := tb_RM_cells e he; omega) (by have := tb_RM_cells e he; omega)]; exact g2.2 e he⟩, h2, h3, h4, g6, fun c i q a1 a2 => ?_, fun c i c' i' q a1 a2 a3 a4 => ?_, by rw [hnl]; exact g9, by rw [hnl]; exact g10⟩
  · rw [hd c i a1] at a2
    obtain ⟨⟨s1, s2⟩, m2, m3⟩ := g7 c i q a1 a2
    refine ⟨⟨fun j hj => ?_, s2⟩, m2, m3⟩
    rw [h5 q (by rcases m2 with h | ⟨k, h⟩ <;> omega) (by rcases m2 with h | ⟨k, h⟩ <;> omega) (by rcases m2 with h | ⟨k, h⟩ <;> omega) (by rcases m2 with h | ⟨k, h⟩ <;> omega)]
    exact s1 j hj
  · rw [hd c i a1] at a3
    rw [hd c' i' a2] at a4
    exact g8 c i c' i' q a1 a2 a3 a4
/-- what is told, on the class's side, once a text was read -/
theorem LK.td (hC : CR T N t q U b I L) (hK : LK t b k C ws I L J M) : Td I t (OD t I) C := by
  have hb := hC.cap
  have hc : ∀ s c, CdB I t b s c → Cd I t s c := fun s c ⟨st, g1, g2, g3, g4⟩ => ⟨st, g1, g2, by omega, g4⟩
  refine ⟨⟨rfl, rfl, rfl, rfl, rfl, rfl, rfl⟩, fun j a h1 h2 _ => ?_, fun j a h1 h2 _ => ?_, fun s hs => hc s _ (hK.2.2.2.2.2.1 s hs).1, fun r hr => hc _ _ (hK.2.2.2.2.2.2.1 r hr).1⟩
  · simp only [OD, if_pos (show j ≤ 12 by omega)]
  · simp only [OD, if_pos (show j ≤ 12 by omega)]
theorem Pt.okp (hD : OkD D C) (hP : Pt D P) : OkP D P := by
  refine ⟨fun a ha => ?_, fun a c ha hc _ _ h1 h2 => ?_, fun b hb => ?_⟩
  · obtain ⟨p0, p1, p2, p3, p4⟩ := hP.1 a ha
    obtain ⟨d1, d2, ⟨z, z1, z2, z3⟩, -⟩ := hD.2.2.1 a ha
    rw [p0, p1, p4]
    exact ⟨d1, d2, z, z2, z3, fun _ => z1⟩
  · obtain ⟨p0, p1, -⟩ := hP.1 a ha
    obtain ⟨q0, q1, -⟩ := hP.1 c hc
    rw [p0, q0] at h1
    rw [p1, q1] at h2
    exact hD.2.2.2.1 a c ha hc h1 h2
  · obtain ⟨-, -, -, p3, p4⟩ := hP.2 b hb
    obtain ⟨d1, d2, -⟩ := hD.2.2.2.2.1 b hb
    rw [p3, p4]
    exact ⟨d1, d2⟩
/-- the reference's side -/
theorem m_tub (hR : RR T N q U J' M') (hK : LK t b k C ws I L J' M') (h6 : F6 J') (h : x11_readAll J M = some (J', M')) : ∃ J2 P, x11_tub J M = some (I t 4, J2, M') ∧ Rd J2 (OD t I) C ∧ Nw J2 P ∧ Pt (OD t I) P ∧ Pt2 (OD t I) P ∧ (J2 102 1 = J' 102 1 ∧ J2 102 2 = 0 ∧ J2 102 3 = -1 ∧ J2 102 92 = J' 102 92 ∧ J2 102 85 = 0 ∧ J2 102 91 = 0 ∧ J2 102 71 = 0 ∧ J2 102 72 = 0 ∧ J2 102 21 = Int32.ofNat U) ∧ (∀ b, b < 3 → J2 156 b = 0) ∧ ∀ c, c ≠ 102 → ¬ (107 ≤ c ∧ c ≤ 109) → ¬ (125 ≤ c ∧ c ≤ 138) → c ≠ 156 → J2 c = J' c := by
  have h2 : ¬ 0 < J' 102 2 := by rw [hR.2.2.2.1]; decide
  have hE := m_tbE h h2
  have hD := hK.1.1
  have hA := hD.a
  have hB := hD.b
  have z0 : Int32.ofNat 0 = 0 := rfl
  obtain ⟨J10, e10⟩ : ∃ J10, tbJ J' = J10 := ⟨_, rfl⟩
  have v10 : J10 102 56 = J' 102 49 ∧ J10 102 57 = J' 102 50 ∧ J10 102 58 = J' 102 51 ∧ J10 102 59 = J' 102 52 ∧ J10 102 60 = J' 102 53 ∧ J10 102 61 = J' 102 54 ∧ J10 102 65 = J' 102 64 ∧ J10 102 21 = J' 102 20 := by
    rw [← e10, tbJ]; simp (disch := omega) only [wI_ne, wI_at, and_self]
  have k10 : ∀ j, ¬ (56 ≤ j ∧ j ≤ 61) → j ≠ 65 → j ≠ 21 → J10 102 j = J' 102 j := fun j a1 a2 a3 => by
    rw [← e10, tbJ]; simp (disch := omega) only [wI_ne]
  have f10 : ∀ c, c ≠ 102 → J10 c = J' c := fun c hc => by
    rw [← e10, tbJ]; simp (disch := omega) only [wI_c]
  obtain ⟨J26, a1, a2, -, -, a5⟩ := m_t79 11 0 FU J10 (by omega) (by unfold FU; omega) (h6.c (f10 106 (by omega)))
  obtain ⟨J47, b1', b2', -, b4'⟩ := m_t157 10 0 FU J26 (by omega) (by unfold FU; omega)
  obtain ⟨J68, c1, c2, -, c4⟩ := m_t243 4 0 FU J47 (by omega) (by unfold FU; omega)
  obtain ⟨Ja, d1, d2, d3, d4⟩ := m_ltL 10 0 FU J68 (by omega) (by unfold FU; omega)
  obtain ⟨Jb, g1, g2, g3, g4⟩ := m_ltM 4 0 FU Ja (by omega) (by unfold FU; omega)
  rw [z0] at a1 b1' c1 d1 g1
  have hlay : x11_layTold J68 = some Jb := by simp only [x11_layTold, QB, d1, g1]
  obtain ⟨J75, l1, l2, l3, l4⟩ := m_t344 60 63 FU (wI Jb 137 62 (Jb 102 55)) (by omega) (by unfold FU; omega)
  obtain ⟨J76, n1, n2, n3⟩ := m_keep J75
  obtain ⟨J85, p1, p2, -, p4⟩ := m_t389 3 0 FU (wI (wI (wI (wI J76 102 71 0) 102 72 0) 102 91 0) 102 85 0) (by omega) (by unfold FU; omega)
  rw [z0] at p1
  -- cells that stay
  have f68 : ∀ c, ¬ (107 ≤ c ∧ c ≤ 109) → ¬ (125 ≤ c ∧ c ≤ 136) → J68 c = J10 c := fun c q1 q2 => by
    rw [c4 c (by omega), b4' c (by omega) (by omega), a5 c q1]
  have fb : ∀ c, c ≠ 137 → Jb c = J68 c := fun c hc => (g4 c hc).trans (d4 c hc)
  have f75 : ∀ c, c ≠ 137 → J75 c = J68 c := fun c hc => by rw [l4 c hc, wI_c hc, fb c hc]
  have f85 : ∀ c, c ≠ 102 → c ≠ 156 → c ≠ 138 → J85 c = J75 c := fun c q1 q2 q3 => by
    rw [p4 c q2]; simp (disch := omega) only [wI_c]; exact n3 c q3
  have fall : ∀ c, c ≠ 102 → ¬ (107 ≤ c ∧ c ≤ 109) → ¬ (125 ≤ c ∧ c ≤ 138) → c ≠ 156 → J85 c = J' c := fun c q1 q2 q3 q4 => by
    rw [f85 c q1 q4 (by omega), f75 c (by omega), f68 c q2 (by omega), f10 c q1]
  have k85 : ∀ j, j ≠ 71 → j ≠ 72 → j ≠ 91 → j ≠ 85 → J85 102 j = J10 102 j := fun j q1 q2 q3 q4 => by
    rw [p4 102 (by omega)]; simp (disch := omega) only [wI_ne]
    rw [n3 102 (by omega), f75 102 (by omega), f68 102 (by omega) (by omega)]
  have t137 : ∀ i, i < 62 → J75 137 i = Jb 137 i := fun i hi => by rw [l3 i (by omega), wI_ne (by omega)]
  -- what was told, cell for cell
  have g13 : ∀ c, 113 ≤ c → c ≤ 124 → J26 c = J' c ∧ J47 c = J' c := fun c q1 q2 => by
    rw [b4' c (by omega) (by omega), a5 c (by omega), f10 c (by omega)]; exact ⟨rfl, rfl⟩
  have hap : ∀ a, a < nA (OD t I) → J68 127 a = OD t I 1 a ∧ J68 128 a = OD t I 2 a ∧ J68 125 a = OD t I 3 a ∧ J68 126 a = OD t I 4 a ∧ J68 136 a = OD t I 5 a ∧ J68 129 a = OD t I 6 a := fun a ha => by
    obtain ⟨r1, r2, r3, r4, r5, r6⟩ := hK.2.2.1 a ha
    obtain ⟨s1, s2, s3, s4, s5, s6⟩ := b2' a (by omega) (by omega)
    rw [c4 127 (by omega), c4 128 (by omega), c4 125 (by omega), c4 126 (by omega), c4 136 (by omega), c4 129 (by omega), s1, s2, s3, s4, s5, s6, (g13 113 (by omega) (by omega)).1, (g13 114 (by omega) (by omega)).1, (g13 115 (by omega) (by omega)).1, (g13 116 (by omega) (by omega)).1, (g13 117 (by omega) (by omega)).1, (g13 124 (by omega) (by omega)).1, r1, r2, r3, r4, r5, r6]
    refine ⟨rfl, rfl, rfl, rfl, ?_, rfl⟩
    have h5 : I (t + 5) a = 0 ∨ I (t + 5) a = 1 := (hD.2.2.1 a ha).2.2.2.2.1
    show zb (I (t + 5) a) = I (t + 5) a
    rcases h5 with e | e <;> rw [e] <;> rfl
  have hbo : ∀ b, b < nB (OD t I) → J68 130 b = OD t I 7 b ∧ J68 131 b = OD t I 8 b ∧ J68 132 b = OD t I 9 b ∧ J68 133 b = OD t I 10 b ∧ J68 134 b = OD t I 11 b ∧ J68 135 b = OD t I 12 b := fun b hb => by
    obtain ⟨r1, r2, r3, r4, r5, r6⟩ := hK.2.2.2.1 b hb
    obtain ⟨s1, s2, s3, s4, s5, s6⟩ := c2 b (by omega) (by omega)
    rw [s1, s2, s3, s4, s5, s6, (g13 118 (by omega) (by omega)).2, (g13 119 (by omega) (by omega)).2, (g13 120 (by omega) (by omega)).2, (g13 121 (by omega) (by omega)).2, (g13 122 (by omega) (by omega)).2, (g13 123 (by omega) (by omega)).2, r1, r2, r3, r4, r5, r6]
    exact ⟨rfl, rfl, rfl, rfl, rfl, rfl⟩
  obtain ⟨y0, y1, y2, y3, y4, y5, y6⟩ := hK.2.1
  have hcm : ∀ s c, s < 11 → CdA c s J' → c.length ≤ 320 → Cm J85 s c := fun s c hs hc hl => by
    obtain ⟨m1, m2⟩ := a2 s c.length (by omega) hs (by rw [f10 106 (by omega)]; exact hc.1) hl
    have e : ∀ x, 107 ≤ x → x ≤ 109 → J85 x = J26 x := fun x q1 q2 => by
      rw [f85 x (by omega) (by omega) (by omega), f75 x (by omega), c4 x (by omega), b4' x (by omega) (by omega)]
    refine ⟨by rw [e 109 (by omega) (by omega)]; exact m1, hl, fun i hi => ?_⟩
    rw [e 107 (by omega) (by omega), e 108 (by omega) (by omega), (m2 i hi).1, (m2 i hi).2, f10 104 (by omega), f10 105 (by omega)]
    exact hc.2 i hi
  refine ⟨J85, mrw J76, ?_, ⟨?_, fun a ha => ?_, fun b hb => ?_, fun s hs => ?_, fun r hr => ?_⟩, ⟨fun k hk => ?_, fun b hb => ?_, fun b hb => ?_⟩, ⟨fun a ha => ?_, fun b hb => ?_⟩, ⟨?_, fun b i hb hi => ?_⟩, ⟨?_, ?_, ?_, ?_, ?_, ?_, ?_, ?_, ?_⟩, fun b hb => p2 b (by omega) hb, fall⟩
  · have l1' : x11_tub_L344 FU 63 (wI Jb 137 62 (Jb 102 55)) = some J75 := l1
    have z62 : ix (62 : Int32) = 62 := rfl
    rw [hE, e10, tbR]
    simp only [q_l, a1, q_b1, b1', c1, hlay, z62, l1', n1, p1]
    rw [k85 60 (by omega) (by omega) (by omega) (by omega), v10.2.2.2.2.1, y3]
  · rw [k85 56 (by omega) (by omega) (by omega) (by omega), k85 57 (by omega) (by omega) (by omega) (by omega), k85 65 (by omega) (by omega) (by omega) (by omega), k85 60 (by omega) (by omega) (by omega) (by omega), k85 61 (by omega) (by omega) (by omega) (by omega), k85 59 (by omega) (by omega) (by omega) (by omega), v10.1, v10.2.1, v10.2.2.2.1, v10.2.2.2.2.1, v10.2.2.2.2.2.1, v10.2.2.2.2.2.2.1, y0, y1, y2, y3, y4, y6]
    exact ⟨rfl, rfl, rfl, rfl, rfl, rfl⟩
  · rw [f85 127 (by omega) (by omega) (by omega), f75 127 (by omega), f85 128 (by omega) (by omega) (by omega), f75 128 (by omega), f85 125 (by omega) (by omega) (by omega), f75 125 (by omega), f85 126 (by omega) (by omega) (by omega), f75 126 (by omega), f85 136 (by omega) (by omega) (by omega), f75 136 (by omega), f85 129 (by omega) (by omega) (by omega), f75 129 (by omega)]
    exact hap a ha
  · rw [f85 132 (by omega) (by omega) (by omega), f75 132 (by omega), f85 133 (by omega) (by omega) (by omega), f75 133 (by omega), f85 134 (by omega) (by omega) (by omega), f75 134 (by omega), f85 135 (by omega) (by omega) (by omega), f75 135 (by omega)]
    exact (hbo b hb).2.2
  · have hbit := (bit_or k hK.2.2.2.2.1.1 s hs).2.2.2
    have e58 : J85 102 58 = Int32.ofNat k := by rw [k85 58 (by omega) (by omega) (by omega) (by omega), v10.2.2.1]; exact hK.2.2.2.2.1.2
    rw [e58]
    rcases (hK.2.2.2.2.2.1 s hs).2 with ⟨m1, m2, m3, -⟩ | ⟨m1, m2, -⟩
    · rw [m1] at hbit
      exact Or.inl ⟨of_decide_eq_true hbit, hcm s (C s) (by omega) m2 m3⟩
    · rw [m1] at hbit
      exact Or.inr ⟨of_decide_eq_false hbit, m2⟩
  · obtain ⟨-, m2, m3⟩ := hK.2.2.2.2.2.2.1 r hr
    have := hD.r
    exact hcm (5 + r) _ (by omega) m2 m3
  · rw [p4 138 (by omega)]
    simp (disch := omega) only [wI_c]
    rw [n2 k hk, mrw, if_pos hk, n3 137 (by omega)]
  · rw [f85 130 (by omega) (by omega) (by omega), mrw, if_neg (by omega), if_pos (by omega), show 123 + b - 123 = b by omega, n3 130 (by omega)]
  · rw [f85 131 (by omega) (by omega) (by omega), mrw, if_neg (by omega), if_neg (by omega), show 127 + b - 127 = b by omega, n3 131 (by omega)]
  · obtain ⟨o0, o1, o2, o3, o4⟩ := d2 a (by omega) (by omega)
    obtain ⟨r1, r2, r3, -⟩ := hap a ha
    simp only [mrw]
    rw [if_pos (by omega), if_pos (by omega), if_pos (by omega), if_pos (by omega), if_pos (by omega), n3 137 (by omega), t137 _ (by omega), t137 _ (by omega), t137 _ (by omega), t137 _ (by omega), t137 _ (by omega), g3 _ (by omega), g3 _ (by omega), g3 _ (by omega), g3 _ (by omega), g3 _ (by omega), o0, o1, o2, o3, o4, r1, r2, r3]
    exact ⟨rfl, rfl, rfl, rfl, rfl⟩
  · obtain ⟨o0, o1, o2⟩ := g2 b (by omega) (by omega)
    obtain ⟨r1, r2, r3, r4, -⟩ := hbo b hb
    simp only [mrw]
    rw [if_pos (by omega), if_pos (by omega), if_pos (by omega), if_neg (by omega), if_pos (by omega), if_neg (by omega), if_neg (by omega), show 123 + b - 123 = b by omega, show 127 + b - 127 = b by omega, n3 137 (by omega), t137 _ (by omega), t137 _ (by omega), t137 _ (by omega), o0, o1, o2, d4 133 (by omega), r4, n3 130 (by omega), f75 130 (by omega), n3 131 (by omega), f75 131 (by omega), r1, r2]
    exact ⟨rfl, rfl, rfl, rfl, rfl⟩
  · rw [mrw, if_pos (by omega), n3 137 (by omega), l3 62 (by omega), wI_at, fb 102 (by omega), f68 102 (by omega) (by omega), k10 55 (by omega) (by omega) (by omega), y5]
    rfl
  · rw [mrw, if_pos (by omega), n3 137 (by omega)]
    exact l2 _ (by omega) (by omega)
  · rw [k85 1 (by omega) (by omega) (by omega) (by omega), k10 1 (by omega) (by omega) (by omega)]
  · rw [k85 2 (by omega) (by omega) (by omega) (by omega), k10 2 (by omega) (by omega) (by omega)]; exact hR.2.2.2.1
  · rw [k85 3 (by omega) (by omega) (by omega) (by omega), k10 3 (by omega) (by omega) (by omega)]; exact hR.2.2.2.2.1
  · rw [k85 92 (by omega) (by omega) (by omega) (by omega), k10 92 (by omega) (by omega) (by omega)]
  · rw [p4 102 (by omega), wI_at]
  · rw [p4 102 (by omega), wI_ne (by omega), wI_at]
  · rw [p4 102 (by omega), wI_ne (by omega), wI_ne (by omega), wI_ne (by omega), wI_at]
  · rw [p4 102 (by omega), wI_ne (by omega), wI_ne (by omega), wI_at]
  · rw [k85 21 (by omega) (by omega) (by omega) (by omega), v10.2.2.2.2.2.2.2]; exact hR.2.2.2.2.2
end TBX
