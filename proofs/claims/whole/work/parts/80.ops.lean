/-! CALLS, 39: drives -/
section DV
variable {t : Nat} {I I' : MI} {L : ML} {R : MR} {S : MS} {D : TD} {C : TC} {P : PR} {Z : AX} {a b o : Nat}
theorem c_fdL (hD : OkD D C) (hb : b < nB D) (ho : o < nB D) (ha : a < nA D) (hP : OkP D P) {q : Nat} : ∀ (j n fu : Nat) (I : MI) (L : ML) (R : MR) (S : MS), n + j = 5 → j < fu → RS t R S → Td I t D C → R 64 0 = some q → Rl D false I q P → I 63 6 = Int32.ofNat b → I 63 7 = Int32.ofNat o → I 63 8 = Int32.ofNat a → gfst (fun n => dfind D b o a n P) n = none → ∃ I' L' R' S', ((gfst (fun n => dfind D b o a n P) 5 = none ∧ x6_fewestDrives_L28 47 fu (Int32.ofNat n) I L R S = some (.inl (I', L', R', S'))) ∨ (∃ l, gfst (fun n => dfind D b o a n P) 5 = some l ∧ l.length ≤ 4 ∧ x6_fewestDrives_L28 47 fu (Int32.ofNat n) I L R S = some (.inr (Int32.ofNat l.length, I', L', R', S')) ∧ ∀ i, i < l.length → I' 65 i = Int32.ofNat (l.getD i 0))) ∧ RS t R' S' ∧ Gr R S R' S' ∧ FrL t 1 I I' L L' S R' := by
  intro j
  induction j with
  | zero =>
    intro n fu I L R S hn hfu hS hT hq hR h6 h7 h8 hg
    obtain ⟨fu, rfl⟩ : ∃ n', fu = n' + 1 := ⟨fu - 1, by omega⟩
    obtain rfl : n = 5 := by omega
    refine ⟨I, L, R, S, Or.inl ⟨hg, ?_⟩, hS, Gr.refl, FrL.refl⟩
    simp only [x6_fewestDrives_L28, x6_fewestDrives_L28s]
    rw [if_pos (by decide)]
  | succ j ih =>
    intro n fu I L R S hn hfu hS hT hq hR h6 h7 h8 hg
    obtain ⟨fu, rfl⟩ : ∃ n', fu = n' + 1 := ⟨fu - 1, by omega⟩
    obtain ⟨I1, L1, R1, S1, a1, a2, a3, a4, a5, a6, a7⟩ := c_dw hD hb ho ha n 0 8 I L R S P q (by omega) (by omega) hS hT hP hq hR h6 h7 h8
    rw [dc_eq hD hb ho ha (by omega) hP hg] at a1 a7
    rw [show Int32.ofNat 0 = 0 from rfl] at a1
    cases hw : dfind D b o a n P with
    | none =>
      rw [hw] at a1
      obtain ⟨I2, L2, R2, S2, b1', b2', b3', b4'⟩ := ih (n + 1) fu I1 L1 R1 S1 (by omega) (by omega) a2 (a4.td hS a2 a3 hT) (a3.2 64 0 q (dyn64 (by omega)) hq) (a4.rl hS a2 a3 (by omega) hq hR) (by rw [a5]; exact h6) (by rw [a5]; exact h7) (by rw [a5]; exact h8) (gfst_n1 hg hw)
      have hrun : x6_fewestDrives_L28 47 (fu + 1) (Int32.ofNat n) I L R S = x6_fewestDrives_L28 47 fu (Int32.ofNat (n + 1)) I1 L1 R1 S1 := by
        simp (disch := omega) only [x6_fewestDrives_L28, x6_fewestDrives_L28s, QN, if_neg (show ¬ 4 < n by omega), ck_pos hS.1, a1, QB, Option.isSome_none, b2i_0, Bool.false_eq_true, if_false]
      rw [hrun]
      exact ⟨I2, L2, R2, S2, b1', b2', a3.trans b3', a4.trans b4' a3.1 b3'⟩
    | some l =>
      rw [hw] at a1
      have hl : l.length = n := gfind_len hw
      refine ⟨I1, L1, R1, S1, Or.inr ⟨l, gfst_at hg hw 5 (by omega), by omega, ?_, fun i hi => ?_⟩, a2, a3, a4⟩
      · simp (disch := omega) only [x6_fewestDrives_L28, x6_fewestDrives_L28s, QN, if_neg (show ¬ 4 < n by omega), ck_pos hS.1, a1, QB, Option.isSome_some, b2i_0, if_true, hl]
      · have := a7 l hw i (by omega)
        rw [show 0 + i = i by omega] at this
        exact this
theorem c_fed (hD : OkD D C) (hb : b < nB D) (ho : o < nB D) (ha : a < nA D) (hP : OkP D P) (hS : RS t R S) (hT : Td I t D C) (hR : Rl D true I 47 P) : ∃ I' L' R' S', ((gfst (fun n => dfind D b o a n P) 5 = none ∧ x6_fewestDrives 47 (Int32.ofNat b) (Int32.ofNat o) (Int32.ofNat a) I L R S = some (-1, I', L', R', S')) ∨ (∃ l, gfst (fun n => dfind D b o a n P) 5 = some l ∧ l.length ≤ 4 ∧ x6_fewestDrives 47 (Int32.ofNat b) (Int32.ofNat o) (Int32.ofNat a) I L R S = some (Int32.ofNat l.length, I', L', R', S') ∧ ∀ i, i < l.length → I' 65 i = Int32.ofNat (l.getD i 0))) ∧ RS t R' S' ∧ Gr R S R' S' ∧ FrL t 0 I I' L L' S R' := by
  have h158 := hS.l158
  have ht := hS.2.2.2.1
  obtain ⟨q, I1, L1, R1, S1, a1, a2, a3, a4, a5, -⟩ := c_level hS (d := 0) (by omega) I L
  rw [show Int32.ofNat 0 = 0 from rfl] at a1
  have h90 := a2.q90 (dyn64 (show 0 < 9 by omega)) a5
  have hR1 : Rl D true I1 47 P := hR.fr (fun c x y => (a4 c (by omega)).1)
  obtain ⟨I2, b1', b2', b3'⟩ := c_copyPlay (q0 := q) (C := C) hD hR1 (by omega)
  have hst := (a2.2.2.2.2.2.2.1 64 0 q (dyn64 (by omega)) a5).1
  have F1 : FrL t 0 I I1 L L1 S R1 := FrL.old a4
  have F2 : FrL t 0 I1 I2 L1 L1 S1 R1 := FrL.fc (q := q) (fun c g1 g2 g3 g4 => b3' c (by omega)) a5 (by omega)
  have F3 := FrL.w (c := 63) (i := 8) (v := Int32.ofNat a) (Or.inl rfl) (FrL.w (c := 63) (i := 7) (v := Int32.ofNat o) (Or.inl rfl) (FrL.w (c := 63) (i := 6) (v := Int32.ofNat b) (Or.inl rfl) (F1.trans F2 a3.1 Gr.refl)))
  obtain ⟨I4, L4, R4, S4, c1, c2, c3, c4⟩ := c_fdL (q := q) hD hb ho ha hP 5 0 FU (wI (wI (wI I2 63 6 (Int32.ofNat b)) 63 7 (Int32.ofNat o)) 63 8 (Int32.ofNat a)) L1 R1 S1 (by omega) (by unfold FU; omega) a2 (F3.td hS a2 a3 hT) a5 (b2'.fr (fun c x y => by rw [wI_c (by omega), wI_c (by omega), wI_c (by omega)])) (by rw [wI_ne (by omega), wI_ne (by omega), wI_at]) (by rw [wI_ne (by omega), wI_at]) wI_at rfl
  rw [show Int32.ofNat 0 = 0 from rfl] at c1
  have hrun : ∀ oo, bE (x6_fewestDrives_L28 47 FU 0 (wI (wI (wI I2 63 6 (Int32.ofNat b)) 63 7 (Int32.ofNat o)) 63 8 (Int32.ofNat a)) L1 R1 S1) (fun e23 => some ((-1 : Int32), e23.1, e23.2.1, e23.2.2.1, e23.2.2.2)) = oo → x6_fewestDrives 47 (Int32.ofNat b) (Int32.ofNat o) (Int32.ofNat a) I L R S = oo := by
    intro oo hoo
    rw [← hoo]
    simp only [x6_fewestDrives, ck_pos hS.1, a1, QB, ck_pos hst, ck_pos (st_47 a2.1), ck_pos a2.1, ck_pos hst.2.1, b1']
  refine ⟨I4, L4, R4, S4, ?_, c2, a3.trans c3, F3.trans (c4.mono (by omega)) a3.1 c3⟩
  rcases c1 with ⟨g1, g2⟩ | ⟨l, g1, g2, g3, g4⟩
  · exact Or.inl ⟨g1, hrun _ (by rw [g2]; rfl)⟩
  · exact Or.inr ⟨l, g1, g2, hrun _ (by rw [g3]; rfl), g4⟩
theorem op_drives (h : INV t I L R S D C P Z) (p p' p'' : Int32) : ∃ r I1 L1 R1 S1 I2 Z', x10_drives p p' p'' I L R S = some (r, I1, L1, R1, S1) ∧ x11_drives p p' p'' I1 = some (r, I2) ∧ INV t I2 L1 R1 S1 D C P Z' ∧ Gr R S R1 S1 := by
  have hS := h.1
  have ht := hS.2.2.2.1
  have hD := h.2.2.2.1.1
  have hA := hD.a
  have hB := hD.b
  have hP := h.2.2.2.1.2.1
  have f0 : Fl I (wI I 0 14 0) := ⟨fun c h1 _ => wI_c h1, fun j hj => wI_ne (Or.inr hj)⟩
  have hT0 := f0.td ht h.2.1.1
  have hR0 : Rl D true (wI I 0 14 0) 47 P := h.2.1.2.1.fr (fun c h1 h2 => wI_c (by omega))
  have hy0 : Ly 0 89 14 (wI I 0 14 0) [] := ⟨by rw [wI_at]; rfl, fun i h => by simp at h⟩
  have hk0 := f0.kc' hS
  have o1 : ∀ J, Fo J (wI J 102 85 0) := fun J => ⟨fun c h1 h2 h3 h4 h5 => wI_c h3, fun j h1 h2 h3 => wI_ne (Or.inr h3)⟩
  have hm0 := h.2.2.1.kc (I' := wI I 0 14 0) (fun c h1 h2 => wI_c (by omega))
  by_cases hall : (isn p (nB D) && isn p' (nB D) && decide (p ≠ p') && isn p'' (nA D) && decide (P (5 * p''.toNatClampNeg + 2) < 0)) = true
  · simp only [Bool.and_eq_true, decide_eq_true_eq] at hall
    obtain ⟨⟨⟨⟨h1, h2⟩, h3⟩, h4⟩, h5⟩ := hall
    obtain ⟨b, hb, rfl⟩ := isn_t (by omega) h1
    obtain ⟨o, ho, rfl⟩ := isn_t (by omega) h2
    obtain ⟨a, ha, rfl⟩ := isn_t (by omega) h4
    rw [q_ix (by omega)] at h5
    obtain ⟨I1, L1, R1, S1, c1, c2, c3, c4⟩ := c_fed (L := L) hD hb ho ha hP hS hT0 hR0
    have hk1 : Kc t R (wI I 0 14 0) I1 := c4.kc hS c2 c3
    have hyl1 : Ly 0 89 14 I1 [] := ⟨by rw [hk1.1 0 (by omega)]; exact hy0.1, fun i h => by simp at h⟩
    have hm1 := hm0.kc (I' := I1) hk1.to_kr
    have hcls : ∀ r J, x6_fewestDrives 47 (Int32.ofNat b) (Int32.ofNat o) (Int32.ofNat a) (wI I 0 14 0) L R S = some (r, I1, L1, R1, S1) → x10_layAll 65 8 r I1 = some J → x10_drives (Int32.ofNat b) (Int32.ofNat o) (Int32.ofNat a) I L R S = some (r, J, L1, R1, S1) := by
      intro r J g1 g2
      simp only [x10_drives, ck_pos hS.1, QB, hS.2.2.1, ck_pos ht, c_isB hD hT0, b2i_0, h1, h2, if_true, if_neg h3, c_isAf hD hT0 hR0 ha, h5, decide_true, g1, ck_pos c2.1, g2]
    have href : ∀ J, Fl I1 J → ∃ K, Fo J K ∧ Rd K D C ∧ Nw K P ∧ K 102 85 = 0 ∧ ∀ oo, bE (x11_drives_L55 (Int32.ofNat b) (Int32.ofNat o) (Int32.ofNat a) FU 1 0 K) (fun e23 => some ((-1 : Int32), e23)) = oo → x11_drives (Int32.ofNat b) (Int32.ofNat o) (Int32.ofNat a) J = oo := by
      intro J fJ
      have hmJ := hm1.kc (I' := J) (fun c g1 g2 => fJ.1 c (by omega) (by omega))
      obtain ⟨K, l1, l2, l3⟩ := m_loadN ((o1 J).nw hmJ.2.1)
      have fK : Fm (wI J 102 85 0) K := Fm.of137 l3
      have hRK := fK.rd ((o1 J).rd hmJ.1)
      refine ⟨K, (o1 J).trans fK.o, hRK, fK.nw ((o1 J).nw hmJ.2.1), by rw [l3 102 (by omega)]; exact wI_at, fun oo hoo => ?_⟩
      rw [← hoo]
      simp only [x11_drives, QB, l1, m_isB hD hRK, b2i_0, h1, h2, if_true, if_neg h3, m_isA hD hRK, h4, m_fl hD l2 ha, h5, decide_true]
    rcases c1 with ⟨g1, g2⟩ | ⟨l, g1, g2, g3, g4⟩
    · obtain ⟨K, k1, k2, k3, k5, k4⟩ := href I1 Fl.refl
      obtain ⟨K2, u⟩ := m_dfL hD hb ho ha hP 5 0 FU K (by omega) (by unfold FU; omega) k2 k3 rfl
      rw [Nat.pow_zero, show Int32.ofNat 0 = 0 from rfl, show Int32.ofNat 1 = 1 from rfl] at u
      rcases u with ⟨u1, u2, u3⟩ | ⟨l, u1, -⟩
      · refine ⟨-1, I1, L1, R1, S1, K2, zl Z [], hcls _ _ g2 (layAll_m1 I1), k4 _ (by rw [u2]; rfl), h.lyv (by simp) c4 c2 c3 Fl.refl hyl1 (k1.kr'.trans u3.kr') ⟨?_, fun i h => by simp at h⟩, c3⟩
        rw [u3.2 85 (by omega) (by omega), k5]; rfl
      · rw [g1] at u1; cases u1
    · obtain ⟨J, j1, j2, j3⟩ := c_layAll (a := 65) (ln := 8) (cnt := l.length) (by omega) (by omega) (by omega) hyl1
      obtain ⟨K, k1, k2, k3, k5, k4⟩ := href J j3
      obtain ⟨K2, u⟩ := m_dfL hD hb ho ha hP 5 0 FU K (by omega) (by unfold FU; omega) k2 k3 rfl
      rw [Nat.pow_zero, show Int32.ofNat 0 = 0 from rfl, show Int32.ofNat 1 = 1 from rfl] at u
      rcases u with ⟨u1, u2, u3⟩ | ⟨l', u1, u2, u3, u4, u5, u6⟩
      · rw [g1] at u1; cases u1
      · rw [g1] at u1
        obtain rfl : l = l' := by cases u1; rfl
        have hl : (List.range l.length).map (fun i => I1 65 i) = l.map Int32.ofNat := by
          apply List.ext_getElem (by simp)
          intro i h1 h2
          simp only [List.getElem_map, List.getElem_range]
          have hi : i < l.length := by simpa using h2
          rw [g4 i hi]
          simp [List.getD_eq_getElem?_getD, hi]
        rw [hl] at j2
        refine ⟨Int32.ofNat l.length, J, L1, R1, S1, K2, zl Z (l.map Int32.ofNat), hcls _ _ g3 j1, k4 _ (by rw [u3]; rfl), h.lyv (by simp; omega) c4 c2 c3 j3 j2 (k1.kr'.trans u6) ⟨by rw [u4]; simp, fun i hi => ?_⟩, c3⟩
        have hi' : i < l.length := by simpa using hi
        rw [u5 i hi']
        simp [List.getD_eq_getElem?_getD, hi']
  · have hall' : (isn p (nB D) && isn p' (nB D) && decide (p ≠ p') && isn p'' (nA D) && decide (P (5 * p''.toNatClampNeg + 2) < 0)) = false := by simpa using hall
    obtain ⟨K, l1, l2, l3⟩ := m_loadN ((o1 (wI I 0 14 0)).nw hm0.2.1)
    have fK : Fm (wI (wI I 0 14 0) 102 85 0) K := Fm.of137 l3
    have hRK := fK.rd ((o1 (wI I 0 14 0)).rd hm0.1)
    refine ⟨-2, wI I 0 14 0, L, R, S, K, zl Z [], ?_, ?_, h.ly (by simp) hk0 hy0 ((o1 _).trans fK.o).kr' ⟨by rw [l3 102 (by omega)]; exact wI_at, fun i h => by simp at h⟩, Gr.refl⟩
    · simp only [x10_drives, ck_pos hS.1, QB, hS.2.2.1, ck_pos ht, c_isB hD hT0, c_isAfG hD hT0 hR0, b2i_0]
      by_cases e1 : isn p (nB D) = true
      · by_cases e2 : isn p' (nB D) = true
        · by_cases e3 : p = p'
          · simp only [e1, e2, if_true, if_pos e3]
          · have e4 : (isn p'' (nA D) && decide (P (5 * p''.toNatClampNeg + 2) < 0)) = false := by
              rw [e1, e2] at hall'; simpa [e3] using hall'
            simp only [e1, e2, if_true, if_neg e3, e4, Bool.false_eq_true, if_false]
        · have e2' : isn p' (nB D) = false := by simpa using e2
          simp only [e1, e2', if_true, Bool.false_eq_true, if_false]
      · have e1' : isn p (nB D) = false := by simpa using e1
        simp only [e1', Bool.false_eq_true, if_false]
    · simp only [x11_drives, QB, l1, m_isB hD hRK, m_isA hD hRK, b2i_0]
      by_cases e1 : isn p (nB D) = true
      · by_cases e2 : isn p' (nB D) = true
        · by_cases e3 : p = p'
          · simp only [e1, e2, if_true, if_pos e3]
          · by_cases e4 : isn p'' (nA D) = true
            · obtain ⟨a, ha, rfl⟩ := isn_t (by omega) e4
              rw [q_ix (by omega)] at hall'
              have e5 : decide (P (5 * a + 2) < 0) = false := by rw [e1, e2, e4] at hall'; simpa [e3] using hall'
              simp only [e1, e2, if_true, if_neg e3, e4, m_fl hD l2 ha, e5, QB, b2i_0, Bool.false_eq_true, if_false]
            · have e4' : isn p'' (nA D) = false := by simpa using e4
              simp only [e1, e2, if_true, if_neg e3, e4', Bool.false_eq_true, if_false]
        · have e2' : isn p' (nB D) = false := by simpa using e2
          simp only [e1, e2', if_true, Bool.false_eq_true, if_false]
      · have e1' : isn p (nB D) = false := by simpa using e1
        simp only [e1', Bool.false_eq_true, if_false]
end DV
