/-! CALLS, 35: waves -/
section WV
variable {t : Nat} {I I' : MI} {L : ML} {R : MR} {S : MS} {D : TD} {C : TC} {P : PR} {Z : AX} {a x y : Nat}
theorem wc_eq (hD : OkD D C) (hP : OkP D P) (ha : a < nA D) (hx : x < nW D) (hy : y < nH D) {n : Nat} (hn : gfst (fun n => wfind D a x y n P) n = none) : wcfind D a x y n P = wfind D a x y n P :=
  cfind_eq (N := n + 1) (OK := fun P => OkP D P) (fun c P Q hc hP h => by cases h; exact OkP.wv hD hc 5 (0, P) (Nat.le_refl _) hP) (fun n P _ hP h => wcut_no hD ha hx hy n P hP h) (fun n c P Q hc hP h hs hg => by cases h; rw [wskip_id hD.a hs]; exact hg) n P (by omega) hP (fun m hm => gfst_no hn m hm)
theorem c_fwL (hD : OkD D C) (ha : a < nA D) (hx : x < nW D) (hy : y < nH D) (hP : OkP D P) {q : Nat} : ∀ (j n fu : Nat) (I : MI) (L : ML) (R : MR) (S : MS), n + j = 7 → j < fu → RS t R S → Td I t D C → R 64 0 = some q → Rl D false I q P → I 63 8 = Int32.ofNat a → I 63 9 = Int32.ofNat x → I 63 10 = Int32.ofNat y → gfst (fun n => wfind D a x y n P) n = none → ∃ I' L' R' S', ((gfst (fun n => wfind D a x y n P) 7 = none ∧ x6_fewestWaves_L28 47 fu (Int32.ofNat n) I L R S = some (.inl (I', L', R', S'))) ∨ (∃ l, gfst (fun n => wfind D a x y n P) 7 = some l ∧ l.length ≤ 6 ∧ x6_fewestWaves_L28 47 fu (Int32.ofNat n) I L R S = some (.inr (Int32.ofNat l.length, I', L', R', S')) ∧ ∀ i, i < l.length → I' 65 i = Int32.ofNat (l.getD i 0))) ∧ RS t R' S' ∧ Gr R S R' S' ∧ FrL t 1 I I' L L' S R' := by
  intro j
  induction j with
  | zero =>
    intro n fu I L R S hn hfu hS hT hq hR h8 h9 h10 hg
    obtain ⟨fu, rfl⟩ : ∃ n', fu = n' + 1 := ⟨fu - 1, by omega⟩
    obtain rfl : n = 7 := by omega
    refine ⟨I, L, R, S, Or.inl ⟨hg, ?_⟩, hS, Gr.refl, FrL.refl⟩
    simp only [x6_fewestWaves_L28, x6_fewestWaves_L28s]
    rw [if_pos (by decide)]
  | succ j ih =>
    intro n fu I L R S hn hfu hS hT hq hR h8 h9 h10 hg
    obtain ⟨fu, rfl⟩ : ∃ n', fu = n' + 1 := ⟨fu - 1, by omega⟩
    obtain ⟨I1, L1, R1, S1, a1, a2, a3, a4, a5, a6, a7⟩ := c_ww hD ha hx hy n 0 10 I L R S P q (by omega) (by omega) hS hT hP hq hR h8 h9 h10
    rw [wc_eq hD hP ha hx hy hg] at a1 a7
    rw [show Int32.ofNat 0 = 0 from rfl] at a1
    cases hw : wfind D a x y n P with
    | none =>
      rw [hw] at a1
      obtain ⟨I2, L2, R2, S2, b1', b2', b3', b4'⟩ := ih (n + 1) fu I1 L1 R1 S1 (by omega) (by omega) a2 (a4.td hS a2 a3 hT) (a3.2 64 0 q (dyn64 (by omega)) hq) (a4.rl hS a2 a3 (by omega) hq hR) (by rw [a5]; exact h8) (by rw [a5]; exact h9) (by rw [a5]; exact h10) (gfst_n1 hg hw)
      have hrun : x6_fewestWaves_L28 47 (fu + 1) (Int32.ofNat n) I L R S = x6_fewestWaves_L28 47 fu (Int32.ofNat (n + 1)) I1 L1 R1 S1 := by
        simp (disch := omega) only [x6_fewestWaves_L28, x6_fewestWaves_L28s, QN, if_neg (show ¬ 6 < n by omega), ck_pos hS.1, a1, QB, Option.isSome_none, b2i_0, Bool.false_eq_true, if_false]
      rw [hrun]
      exact ⟨I2, L2, R2, S2, b1', b2', a3.trans b3', a4.trans b4' a3.1 b3'⟩
    | some l =>
      rw [hw] at a1
      have hl : l.length = n := gfind_len hw
      refine ⟨I1, L1, R1, S1, Or.inr ⟨l, gfst_at hg hw 7 (by omega), by omega, ?_, fun i hi => ?_⟩, a2, a3, a4⟩
      · simp (disch := omega) only [x6_fewestWaves_L28, x6_fewestWaves_L28s, QN, if_neg (show ¬ 6 < n by omega), ck_pos hS.1, a1, QB, Option.isSome_some, b2i_0, if_true, hl]
      · have := a7 l hw i (by omega)
        rw [show 0 + i = i by omega] at this
        exact this
theorem c_few (hD : OkD D C) (ha : a < nA D) (hx : x < nW D) (hy : y < nH D) (hP : OkP D P) (hS : RS t R S) (hT : Td I t D C) (hR : Rl D true I 47 P) : ∃ I' L' R' S', ((gfst (fun n => wfind D a x y n P) 7 = none ∧ x6_fewestWaves 47 (Int32.ofNat a) (Int32.ofNat x) (Int32.ofNat y) I L R S = some (-1, I', L', R', S')) ∨ (∃ l, gfst (fun n => wfind D a x y n P) 7 = some l ∧ l.length ≤ 6 ∧ x6_fewestWaves 47 (Int32.ofNat a) (Int32.ofNat x) (Int32.ofNat y) I L R S = some (Int32.ofNat l.length, I', L', R', S') ∧ ∀ i, i < l.length → I' 65 i = Int32.ofNat (l.getD i 0))) ∧ RS t R' S' ∧ Gr R S R' S' ∧ FrL t 0 I I' L L' S R' := by
  have h158 := hS.l158
  have ht := hS.2.2.2.1
  obtain ⟨q, I1, L1, R1, S1, a1, a2, a3, a4, a5, -⟩ := c_level hS (d := 0) (by omega) I L
  rw [show Int32.ofNat 0 = 0 from rfl] at a1
  have h90 := a2.q90 (dyn64 (show 0 < 9 by omega)) a5
  have hR1 : Rl D true I1 47 P := hR.fr (fun c x y => (a4 c (by omega)).1)
  obtain ⟨I2, b1', b2', b3'⟩ := c_copyPlay (q0 := q) (C := C) hD hR1 (by omega)
  have hst := (a2.2.2.2.2.2.2.1 64 0 q (dyn64 (by omega)) a5).1
  have F1 : FrL t 0 I I1 L L1 S R1 := FrL.old a4
  have F2 : FrL t 0 I1 I2 L1 L1 S1 R1 := FrL.fc (q := q) (fun c g1 g2 g3 g4 => b3' c (by omega)) a5 (by omega)
  have F3 := FrL.w (c := 63) (i := 10) (v := Int32.ofNat y) (Or.inl rfl) (FrL.w (c := 63) (i := 9) (v := Int32.ofNat x) (Or.inl rfl) (FrL.w (c := 63) (i := 8) (v := Int32.ofNat a) (Or.inl rfl) (F1.trans F2 a3.1 Gr.refl)))
  obtain ⟨I4, L4, R4, S4, c1, c2, c3, c4⟩ := c_fwL (q := q) hD ha hx hy hP 7 0 FU (wI (wI (wI I2 63 8 (Int32.ofNat a)) 63 9 (Int32.ofNat x)) 63 10 (Int32.ofNat y)) L1 R1 S1 (by omega) (by unfold FU; omega) a2 (F3.td hS a2 a3 hT) a5 (b2'.fr (fun c x y => by rw [wI_c (by omega), wI_c (by omega), wI_c (by omega)])) (by rw [wI_ne (by omega), wI_ne (by omega), wI_at]) (by rw [wI_ne (by omega), wI_at]) wI_at rfl
  rw [show Int32.ofNat 0 = 0 from rfl] at c1
  have hrun : ∀ o, bE (x6_fewestWaves_L28 47 FU 0 (wI (wI (wI I2 63 8 (Int32.ofNat a)) 63 9 (Int32.ofNat x)) 63 10 (Int32.ofNat y)) L1 R1 S1) (fun e23 => some ((-1 : Int32), e23.1, e23.2.1, e23.2.2.1, e23.2.2.2)) = o → x6_fewestWaves 47 (Int32.ofNat a) (Int32.ofNat x) (Int32.ofNat y) I L R S = o := by
    intro o ho
    rw [← ho]
    simp only [x6_fewestWaves, ck_pos hS.1, a1, QB, ck_pos hst, ck_pos (st_47 a2.1), ck_pos a2.1, ck_pos hst.2.1, b1']
  refine ⟨I4, L4, R4, S4, ?_, c2, a3.trans c3, F3.trans (c4.mono (by omega)) a3.1 c3⟩
  rcases c1 with ⟨g1, g2⟩ | ⟨l, g1, g2, g3, g4⟩
  · exact Or.inl ⟨g1, hrun _ (by rw [g2]; rfl)⟩
  · exact Or.inr ⟨l, g1, g2, hrun _ (by rw [g3]; rfl), g4⟩
theorem layAll_m1 {c n : Nat} (J : MI) : x10_layAll c n (-1) J = some J := by
  have e : x10_layAll_L2 c n (-1) FU 0 J = some J := by
    obtain ⟨k, hk⟩ : ∃ k, FU = k + 1 := ⟨999999, rfl⟩
    rw [hk]
    simp only [x10_layAll_L2, x10_layAll_L2s]
    rw [if_neg (by decide)]
  simp only [x10_layAll, QB, e]
theorem c_isAfG (hD : OkD D C) (hT : Td I t D C) (hR : Rl D true I 47 P) (p : Int32) : x10_isAfloat t p I = some (b2i (isn p (nA D) && decide (P (5 * p.toNatClampNeg + 2) < 0))) := by
  have hA := hD.a
  by_cases h1 : isn p (nA D) = true
  · obtain ⟨a, ha, rfl⟩ := isn_t (by omega) h1
    rw [c_isAf hD hT hR ha, h1, Bool.true_and, q_ix (by omega)]
  · have h1' : isn p (nA D) = false := by simpa using h1
    simp only [x10_isAfloat, c_isA hD hT, QB, h1', Bool.false_and, b2i_0, Bool.false_eq_true, if_false]
    rfl
theorem op_waves (h : INV t I L R S D C P Z) (p x' y' : Int32) : ∃ r I1 L1 R1 S1 I2 Z', x10_waves p x' y' I L R S = some (r, I1, L1, R1, S1) ∧ x11_waves p x' y' I1 = some (r, I2) ∧ INV t I2 L1 R1 S1 D C P Z' ∧ Gr R S R1 S1 := by
  have hS := h.1
  have ht := hS.2.2.2.1
  have hD := h.2.2.2.1.1
  have hA := hD.a
  have hP := h.2.2.2.1.2.1
  have f0 : Fl I (wI I 0 14 0) := ⟨fun c h1 _ => wI_c h1, fun j hj => wI_ne (Or.inr hj)⟩
  have hT0 := f0.td ht h.2.1.1
  have hR0 : Rl D true (wI I 0 14 0) 47 P := h.2.1.2.1.fr (fun c h1 h2 => wI_c (by omega))
  have hy0 : Ly 0 89 14 (wI I 0 14 0) [] := ⟨by rw [wI_at]; rfl, fun i h => by simp at h⟩
  have hk0 := f0.kc' hS
  have o1 : ∀ J, Fo J (wI J 102 85 0) := fun J => ⟨fun c h1 h2 h3 h4 h5 => wI_c h3, fun j h1 h2 h3 => wI_ne (Or.inr h3)⟩
  have hm0 := h.2.2.1.kc (I' := wI I 0 14 0) (fun c h1 h2 => wI_c (by omega))
  by_cases hall : (isn p (nA D) && decide (P (5 * p.toNatClampNeg + 2) < 0) && scell D x' y') = true
  · simp only [Bool.and_eq_true, decide_eq_true_eq] at hall
    obtain ⟨⟨h1, h2⟩, h3⟩ := hall
    obtain ⟨a, ha, rfl⟩ := isn_t (by omega) h1
    rw [q_ix (by omega)] at h2
    obtain ⟨⟨x, hx, rfl⟩, ⟨y, hy, rfl⟩⟩ := scell_i hD h3
    obtain ⟨I1, L1, R1, S1, c1, c2, c3, c4⟩ := c_few (L := L) hD ha hx hy hP hS hT0 hR0
    have hk1 : Kc t R (wI I 0 14 0) I1 := c4.kc hS c2 c3
    have hyl1 : Ly 0 89 14 I1 [] := ⟨by rw [hk1.1 0 (by omega)]; exact hy0.1, fun i h => by simp at h⟩
    have hm1 := hm0.kc (I' := I1) hk1.to_kr
    have hcls : ∀ r J, x6_fewestWaves 47 (Int32.ofNat a) (Int32.ofNat x) (Int32.ofNat y) (wI I 0 14 0) L R S = some (r, I1, L1, R1, S1) → x10_layAll 65 8 r I1 = some J → x10_waves (Int32.ofNat a) (Int32.ofNat x) (Int32.ofNat y) I L R S = some (r, J, L1, R1, S1) := by
      intro r J g1 g2
      simp only [x10_waves, ck_pos hS.1, QB, hS.2.2.1, ck_pos ht, c_isAf hD hT0 hR0 ha, b2i_0, h2, decide_true, if_true, c_cell hT0, h3, g1, ck_pos c2.1, g2]
    have href : ∀ J, Fl I1 J → ∃ K, Fo J K ∧ Rd K D C ∧ Nw K P ∧ K 102 85 = 0 ∧ ∀ o, bE (x11_waves_L40 (Int32.ofNat a) (Int32.ofNat x) (Int32.ofNat y) FU 0 K) (fun e19 => some ((-1 : Int32), e19)) = o → x11_waves (Int32.ofNat a) (Int32.ofNat x) (Int32.ofNat y) J = o := by
      intro J fJ
      have hmJ := hm1.kc (I' := J) (fun c g1 g2 => fJ.1 c (by omega) (by omega))
      obtain ⟨K, l1, l2, l3⟩ := m_loadN ((o1 J).nw hmJ.2.1)
      have fK : Fm (wI J 102 85 0) K := Fm.of137 l3
      have hRK := fK.rd ((o1 J).rd hmJ.1)
      refine ⟨K, (o1 J).trans fK.o, hRK, fK.nw ((o1 J).nw hmJ.2.1), by rw [l3 102 (by omega)]; exact wI_at, fun o ho => ?_⟩
      rw [← ho]
      simp only [x11_waves, QB, l1, m_isA hD hRK, b2i_0, h1, if_true, m_cell hD hRK, h3, m_fl hD l2 ha, h2, decide_true]
    rcases c1 with ⟨g1, g2⟩ | ⟨l, g1, g2, g3, g4⟩
    · obtain ⟨K, k1, k2, k3, k5, k4⟩ := href I1 Fl.refl
      obtain ⟨K2, u⟩ := m_wfL (x := x) (y := y) hD ha hP 7 0 FU K (by omega) (by unfold FU; omega) k2 k3 rfl
      rcases u with ⟨u1, u2, u3⟩ | ⟨l, u1, -⟩
      · refine ⟨-1, I1, L1, R1, S1, K2, zl Z [], hcls _ _ g2 (layAll_m1 I1), k4 _ (by rw [show Int32.ofNat 0 = 0 from rfl] at u2; rw [u2]; rfl), h.lyv (by simp) c4 c2 c3 Fl.refl hyl1 (k1.kr'.trans u3.kr.k') ⟨?_, fun i h => by simp at h⟩, c3⟩
        rw [u3.2 85 (by omega) (by omega), k5]; rfl
      · rw [g1] at u1; cases u1
    · obtain ⟨J, j1, j2, j3⟩ := c_layAll (a := 65) (ln := 8) (cnt := l.length) (by omega) (by omega) (by omega) hyl1
      obtain ⟨K, k1, k2, k3, k5, k4⟩ := href J j3
      obtain ⟨K2, u⟩ := m_wfL (x := x) (y := y) hD ha hP 7 0 FU K (by omega) (by unfold FU; omega) k2 k3 rfl
      rcases u with ⟨u1, u2, u3⟩ | ⟨l', u1, u2, u3, u4, u5, u6⟩
      · rw [g1] at u1; cases u1
      · rw [g1] at u1
        obtain rfl : l = l' := by cases u1; rfl
        have hl : (List.range l.length).map (fun i => I1 65 i) = l.map Int32.ofNat := by
          apply List.ext_getElem (by simp)
          intro i h1 h2
          simp only [List.getElem_map, List.getElem_range]
          have hi : i < l.length := by simpa using h2
          rw [g4 i hi]
          simp [List.getD_eq_getElem?_getD, hi]
        rw [hl] at j2
        refine ⟨Int32.ofNat l.length, J, L1, R1, S1, K2, zl Z (l.map Int32.ofNat), hcls _ _ g3 j1, k4 _ (by rw [show Int32.ofNat 0 = 0 from rfl] at u3; rw [u3]; rfl), h.lyv (by simp; omega) c4 c2 c3 j3 j2 (k1.kr'.trans u6) ⟨by rw [u4]; simp, fun i hi => ?_⟩, c3⟩
        have hi' : i < l.length := by simpa using hi
        rw [u5 i hi']
        simp [List.getD_eq_getElem?_getD, hi']
  · have hall' : (isn p (nA D) && decide (P (5 * p.toNatClampNeg + 2) < 0) && scell D x' y') = false := by simpa using hall
    obtain ⟨K, l1, l2, l3⟩ := m_loadN ((o1 (wI I 0 14 0)).nw hm0.2.1)
    have fK : Fm (wI (wI I 0 14 0) 102 85 0) K := Fm.of137 l3
    have hRK := fK.rd ((o1 (wI I 0 14 0)).rd hm0.1)
    refine ⟨-2, wI I 0 14 0, L, R, S, K, zl Z [], ?_, ?_, h.ly (by simp) hk0 hy0 ((o1 _).trans fK.o).kr' ⟨by rw [l3 102 (by omega)]; exact wI_at, fun i h => by simp at h⟩, Gr.refl⟩
    · simp only [x10_waves, ck_pos hS.1, QB, hS.2.2.1, ck_pos ht, c_isAfG hD hT0 hR0, b2i_0, c_cell hT0]
      by_cases e : (isn p (nA D) && decide (P (5 * p.toNatClampNeg + 2) < 0)) = true
      · have e3 : scell D x' y' = false := by rw [e] at hall'; simpa using hall'
        simp only [e, e3, if_true, Bool.false_eq_true, if_false]
      · have e' : (isn p (nA D) && decide (P (5 * p.toNatClampNeg + 2) < 0)) = false := by simpa using e
        simp only [e', Bool.false_eq_true, if_false]
    · simp only [x11_waves, QB, l1, m_isA hD hRK, b2i_0, m_cell hD hRK]
      by_cases e1 : isn p (nA D) = true
      · obtain ⟨a, ha, rfl⟩ := isn_t (by omega) e1
        rw [q_ix (by omega)] at hall'
        by_cases e3 : scell D x' y' = true
        · have e2 : decide (P (5 * a + 2) < 0) = false := by rw [e1, e3] at hall'; simpa using hall'
          simp only [e1, e3, if_true, m_fl hD l2 ha, e2, QB, b2i_0, Bool.false_eq_true, if_false]
        · have e3' : scell D x' y' = false := by simpa using e3
          simp only [e1, e3', if_true, Bool.false_eq_true, if_false]
      · have e1' : isn p (nA D) = false := by simpa using e1
        simp only [e1', Bool.false_eq_true, if_false]
end WV
