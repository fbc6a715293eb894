/-! CALLS, 37: misses that drive an apple -/
section LV
variable {t d : Nat} {I I' I'' : MI} {L L' L'' : ML} {R R' R'' : MR} {S S' S'' : MS} {D : TD} {C : TC} {P : PR} {Z : AX} {m : Bool} {a b o : Nat}
theorem c_chg {q q' c : Nat} {P Q : PR} (hA : nA D ≤ 10) (hc : c < nA D) (h : Rl D false I q P) (k : Rl D false I q' Q) : x6_isChanged q q' (Int32.ofNat c) I = some (b2i (!dskip c P Q)) := by
  obtain ⟨h1, h2, -, -, h3⟩ := h.1 c hc
  obtain ⟨k1, k2, -, -, k3⟩ := k.1 c hc
  simp (disch := omega) only [x6_isChanged, QN, QB, h1, h2, h3, k1, k2, k3]
  by_cases e1 : P (5 * c) = Q (5 * c)
  · by_cases e2 : P (5 * c + 1) = Q (5 * c + 1)
    · by_cases e3 : P (5 * c + 4) = Q (5 * c + 4)
      · simp [dskip, e1, e2, e3, b2i]
      · simp [dskip, e1, e2, e3, Ne.symm e3, b2i]
    · simp [dskip, e1, e2, Ne.symm e2, b2i]
  · simp [dskip, e1, Ne.symm e1, b2i]
theorem c_dw (hD : OkD D C) (hb : b < nB D) (ho : o < nB D) (ha : a < nA D) : ∀ (n d m : Nat) (I : MI) (L : ML) (R : MR) (S : MS) (P : PR) (q : Nat), n + d ≤ 4 → n < m → RS t R S → Td I t D C → OkP D P → R 64 d = some q → Rl D false I q P → I 63 6 = Int32.ofNat b → I 63 7 = Int32.ofNat o → I 63 8 = Int32.ofNat a → ∃ I' L' R' S', x6_DW m (Int32.ofNat d) (Int32.ofNat n) I L R S = some (b2i (dcfind D b o a n P).isSome, I', L', R', S') ∧ RS t R' S' ∧ Gr R S R' S' ∧ FrL t (d + 1) I I' L L' S R' ∧ I' 63 = I 63 ∧ Pth n d (dcfind D b o a n P) I I' := by
  have hA := hD.a
  have hB := hD.b
  intro n
  induction n with
  | zero =>
    intro d m I L R S P q hnd hm hS hT hP hq hR h6 h7 h8
    obtain ⟨m, rfl⟩ : ∃ m', m = m' + 1 := ⟨m - 1, by omega⟩
    have hst := (hS.2.2.2.2.2.2.1 64 d q (dyn64 (by omega)) hq).1
    have h90 := hS.q90 (dyn64 (show d < 9 by omega)) hq
    have hqs : isq t q := ⟨hS.2.2.2.1, by omega⟩
    obtain ⟨I1, a1, a2⟩ := c_canTry (k := 0) hD hT hR hP hqs ho ha (by omega)
    rw [show Int32.ofNat 0 = 0 from rfl] at a1
    refine ⟨I1, L, R, S, ?_, hS, Gr.refl, FrL.fg (fun c g1 _ _ => a2 c g1), a2 63 (by omega), fun i _ => by rw [a2 65 (by omega)], fun _ _ i hi => by omega⟩
    have hw0 : dcfind D b o a 0 P = if scan D P o a 0 = true then some [] else none := rfl
    rw [show Int32.ofNat 0 = 0 from rfl]
    simp only [x6_DW, x6_drivesWithin, ck_pos hS.1, c_lev hS (show d < 9 by omega) hq, QB, h7, h8, hS.2.2.1, ck_pos hS.2.2.2.1, ck_pos hst, a1, hw0]
    rw [if_neg (by decide)]
    simp only [b2i_or, QB]
    by_cases hz : scan D P o a 0 = true <;> simp [hz, b2i]
  | succ n ih =>
    intro d m I L R S P q hnd hm hS hT hP hq hR h6 h7 h8
    obtain ⟨m, rfl⟩ : ∃ m', m = m' + 1 := ⟨m - 1, by omega⟩
    have hst := (hS.2.2.2.2.2.2.1 64 d q (dyn64 (by omega)) hq).1
    have h90 := hS.q90 (dyn64 (show d < 9 by omega)) hq
    have hqs : isq t q := ⟨hS.2.2.2.1, by omega⟩
    have hws : dcfind D b o a (n + 1) P = if dcut D o a (n + 1) P = true then none else gfst (fun c => (dF D b c P).bind (fun Q => if dskip c P Q = true then none else (dcfind D b o a n Q).map (fun l => c :: l))) (nA D) := rfl
    generalize hf : (fun c => (dF D b c P).bind (fun Q => if dskip c P Q = true then none else (dcfind D b o a n Q).map (fun l => c :: l))) = f at hws
    have hfn : ∀ c, scan D P b c 0 = false → f c = none := fun c hc => by rw [← hf]; simp [dF, hc]
    have hfc : ∀ c, scan D P b c 0 = true → f c = if dskip c P (smiss D (spsec P b 0) b c 0) = true then none else (dcfind D b o a n (smiss D (spsec P b 0) b c 0)).map (fun l => c :: l) := fun c hc => by rw [← hf]; simp [dF, hc]
    have hholder : (I (q + 3) a = -1) = (P (5 * a + 2) < 0) := (hR.1 a ha).2.2.1
    have h9 : I (t + 9) o = D 9 o := hT.2.2.1 9 o (by omega) (by omega) ho
    by_cases hcut : dcut D o a (n + 1) P = true
    · refine ⟨I, L, R, S, ?_, hS, Gr.refl, FrL.refl, rfl, fun _ _ => rfl, fun l hl => by rw [hws, if_pos hcut] at hl; cases hl⟩
      rw [hws, if_pos hcut]
      simp only [dcut, decide_eq_true_eq] at hcut
      simp (disch := omega) only [x6_DW, x6_drivesWithin, ck_pos hS.1, c_lev hS (show d < 9 by omega) hq, QB, QN, ck_pos hst, ck_pos hst.2.1, h7, h8, if_pos (show 0 < n + 1 by omega), if_pos (show d < 4 by omega), hholder, c_far hD hR ho ha, hS.2.2.1, ck_pos hS.2.2.2.1, h9]
      by_cases hfl : P (5 * a + 2) < 0
      · rw [if_pos hfl, if_pos (hcut.resolve_left (fun h => h hfl))]; rfl
      · rw [if_neg hfl]; rfl
    · have loop : ∀ (j w fu : Nat) (I : MI) (L : ML) (R : MR) (S : MS), w + j = nA D → j < fu → RS t R S → Td I t D C → R 64 d = some q → Rl D false I q P → I 63 6 = Int32.ofNat b → I 63 7 = Int32.ofNat o → I 63 8 = Int32.ofNat a → gfst f w = none → ∃ I' L' R' S', ((gfst f (nA D) = none ∧ x6_drivesWithin_L87 (x6_DW m) (Int32.ofNat d) (Int32.ofNat (n + 1)) q fu (Int32.ofNat w) I L R S = some (.inl (I', L', R', S'))) ∨ ((gfst f (nA D)).isSome = true ∧ x6_drivesWithin_L87 (x6_DW m) (Int32.ofNat d) (Int32.ofNat (n + 1)) q fu (Int32.ofNat w) I L R S = some (.inr (1, I', L', R', S')))) ∧ RS t R' S' ∧ Gr R S R' S' ∧ FrL t (d + 1) I I' L L' S R' ∧ I' 63 = I 63 ∧ Pth (n + 1) d (gfst f (nA D)) I I' := by
        intro j
        induction j with
        | zero =>
          intro w fu I L R S hw hfu hS hT hq hR h6 h7 h8 hg
          obtain ⟨fu, rfl⟩ : ∃ n', fu = n' + 1 := ⟨fu - 1, by omega⟩
          obtain rfl : w = nA D := by omega
          refine ⟨I, L, R, S, Or.inl ⟨hg, ?_⟩, hS, Gr.refl, FrL.refl, rfl, fun _ _ => rfl, fun l hl => by rw [hg] at hl; cases hl⟩
          simp (disch := omega) only [x6_drivesWithin_L87, x6_drivesWithin_L87s, ck_pos hS.1, hS.2.2.1, QB, ck_pos hS.2.2.2.1, hT.1.2.2.2.2.1, hD.2.1.1.1, QN, Nat.lt_irrefl, if_false]
        | succ j jh =>
          intro w fu I L R S hw hfu hS hT hq hR h6 h7 h8 hg
          obtain ⟨fu, rfl⟩ : ∃ n', fu = n' + 1 := ⟨fu - 1, by omega⟩
          have h158 := hS.l158
          have ht := hS.2.2.2.1
          have hwA : w < nA D := by omega
          have hst := (hS.2.2.2.2.2.2.1 64 d q (dyn64 (by omega)) hq).1
          have Fw : FrL t (d + 1) I (wI I 65 d (Int32.ofNat w)) L L S R := FrL.w (Or.inr rfl) FrL.refl
          have hTw := Fw.td hS hS Gr.refl hT
          have hRw : Rl D false (wI I 65 d (Int32.ofNat w)) q P := hR.fr (fun c g1 g2 => wI_c (by omega))
          have w63 : wI I 65 d (Int32.ofNat w) 63 = I 63 := wI_c (by omega)
          obtain ⟨I0, s1, s2⟩ := c_canTry (k := 0) hD hTw hRw hP hqs hb hwA (by omega)
          rw [show Int32.ofNat 0 = 0 from rfl] at s1
          have F0 : FrL t (d + 1) I I0 L L S R := Fw.trans (FrL.fg (fun c g1 _ _ => s2 c g1)) (Nat.le_refl _) Gr.refl
          have hT0 := F0.td hS hS Gr.refl hT
          have hR0 : Rl D false I0 q P := hRw.fr (fun c g1 g2 => s2 c (by omega))
          have e63 : I0 63 = I 63 := (s2 63 (by omega)).trans w63
          have e65 : I0 65 = wI I 65 d (Int32.ofNat w) 65 := s2 65 (by omega)
          have h6w : wI I 65 d (Int32.ofNat w) 63 6 = Int32.ofNat b := by rw [w63]; exact h6
          by_cases hsc : scan D P b w 0 = true
          · have hsp : Rl D false I0 q (spsec P b 0) := hR0.p10 hA hB _ (show b < 4 by omega)
            obtain ⟨q', I1, L1, R1, S1, a1, a2, a3, a4, a5, a6, a7, a8, a9, a10⟩ := c_next (C := C) hS hD (show d < 8 by omega) hq hR0 L
            have h90' := a2.q90 (dyn64 (show d + 1 < 9 by omega)) a4
            have F1 := F0.trans a8 (Nat.le_refl _) a3
            have hT1 := F1.td hS a2 a3 hT
            have hq1 := a3.2 64 d q (dyn64 (by omega)) hq
            have a5' : Rl D false I1 q' (spsec P b 0) := a5.p10 hA hB _ (show b < 4 by omega)
            obtain ⟨I2, b1', b2', b3'⟩ := c_missBy (k := 0) hD hT1 a5' (hP.psec hA hB hb) a7 hb hwA (by omega) (by rw [spsec_ne (by omega)]; exact scan_fl hsc)
            rw [show Int32.ofNat 0 = 0 from rfl] at b1'
            have k63 : I2 63 = I1 63 := b3' 63 (by omega) (by omega) (by rcases ht with h | h <;> omega) (by omega)
            have k65 : I2 65 = I1 65 := b3' 65 (by omega) (by omega) (by rcases ht with h | h <;> omega) (by omega)
            have F2 := F1.trans (FrL.fc' (d := d + 1) (L0 := L1) (S0 := S1) b3' a4 (by omega)) a3.1 Gr.refl
            have m63 : I2 63 = I 63 := by rw [k63, a9, e63]
            have mw : I2 65 = wI I 65 d (Int32.ofNat w) 65 := by rw [k65, a10, e65]
            have m65 : ∀ i, i < d → I2 65 i = I 65 i := fun i hi => by rw [mw, wI_ne (by omega)]
            have hRq := F2.rl hS a2 a3 (show d < 9 by omega) hq hR
            have hTq := F2.td hS a2 a3 hT
            have hst1 := (a2.2.2.2.2.2.2.1 64 d q (dyn64 (by omega)) hq1).1
            have h6' : I1 63 6 = Int32.ofNat b := by rw [a9, e63]; exact h6
            have hhead : ∀ (oo : Option ((MI × ML × MR × MS) ⊕ (Int32 × MI × ML × MR × MS))), (if dskip w P (smiss D (spsec P b 0) b w 0) = true then x6_drivesWithin_L87 (x6_DW m) (Int32.ofNat d) (Int32.ofNat (n + 1)) q fu (Int32.ofNat (w + 1)) I2 L1 R1 S1 else b5 (x6_DW m (Int32.ofNat (d + 1)) (Int32.ofNat n) I2 L1 R1 S1) (fun r49 I50 L51 R52 S53 => if r49 = 0 then x6_drivesWithin_L87 (x6_DW m) (Int32.ofNat d) (Int32.ofNat (n + 1)) q fu (Int32.ofNat (w + 1)) I50 L51 R52 S53 else some (.inr ((1 : Int32), I50, L51, R52, S53)))) = oo → x6_drivesWithin_L87 (x6_DW m) (Int32.ofNat d) (Int32.ofNat (n + 1)) q (fu + 1) (Int32.ofNat w) I L R S = oo := by
              intro oo ho
              rw [← ho]
              simp (disch := omega) only [x6_drivesWithin_L87, x6_drivesWithin_L87s, x6_drivesByMissing, QN, QB, ck_pos hS.1, hS.2.2.1, ck_pos hS.2.2.2.1, hT.1.2.2.2.2.1, hD.2.1.1.1, if_pos hwA, if_pos (show d < 8 by omega), ck_pos hst, h6w, s1, b2i_0, hsc, if_true, a1, ck_pos a2.1, a2.2.2.1, ck_pos a2.2.2.2.1, ck_pos a6, h6', b1', c_lev a2 (show d < 9 by omega) hq1, ck_pos hst1, c_chg hA hwA hRq b2', q_ps, Nat.add_sub_cancel]
              cases hsk : dskip w P (smiss D (spsec P b 0) b w 0) with
              | true => simp only [Bool.not_true, Bool.false_eq_true, if_false, if_true, q_b5]
              | false =>
                simp only [Bool.not_false, Bool.false_eq_true, if_false, if_true]
                cases x6_DW m (Int32.ofNat (d + 1)) (Int32.ofNat n) I2 L1 R1 S1 with
                | none => rfl
                | some v =>
                  obtain ⟨r, I3, L3, R3, S3⟩ := v
                  simp only [q_b5]
                  by_cases hr0 : r = 0
                  · rw [if_pos hr0, if_pos hr0, q_b5]
                    exact if_pos rfl
                  · rw [if_neg hr0, if_neg hr0, q_b5]
                    exact if_neg (by decide)
            by_cases hsk : dskip w P (smiss D (spsec P b 0) b w 0) = true
            · have hg1 : gfst f (w + 1) = none := gfst_n1 hg (by rw [hfc w hsc, if_pos hsk])
              obtain ⟨I4, L4, R4, S4, d1, d2, d3, d4, d5, d6, d7⟩ := jh (w + 1) fu _ L1 R1 S1 (by omega) (by omega) a2 hTq hq1 hRq (by rw [m63]; exact h6) (by rw [m63]; exact h7) (by rw [m63]; exact h8) hg1
              refine ⟨I4, L4, R4, S4, ?_, d2, a3.trans d3, F2.trans d4 a3.1 d3, by rw [d5, m63], fun i hi => by rw [d6 i hi, m65 i hi], d7⟩
              rw [hhead _ rfl, if_pos hsk]; exact d1
            · have hfw : f w = (dcfind D b o a n (smiss D (spsec P b 0) b w 0)).map (fun l => w :: l) := by rw [hfc w hsc, if_neg hsk]
              obtain ⟨I3, L3, R3, S3, c1, c2, c3, c4, c5, c6, c7⟩ := ih (d + 1) m I2 L1 R1 S1 (smiss D (spsec P b 0) b w 0) q' (by omega) (by omega) a2 hTq ((hP.psec hA hB hb).miss hD hb hwA) a4 b2' (by rw [m63]; exact h6) (by rw [m63]; exact h7) (by rw [m63]; exact h8)
              have F3 := F2.trans (c4.mono (show d + 1 ≤ d + 1 + 1 by omega)) a3.1 c3
              have G3 := a3.trans c3
              cases hs : dcfind D b o a n (smiss D (spsec P b 0) b w 0) with
              | none =>
                have hg1 : gfst f (w + 1) = none := gfst_n1 hg (by rw [hfw, hs]; rfl)
                rw [hs] at c1
                obtain ⟨I4, L4, R4, S4, d1, d2, d3, d4, d5, d6, d7⟩ := jh (w + 1) fu I3 L3 R3 S3 (by omega) (by omega) c2 (F3.td hS c2 G3 hT) (c3.2 64 d q (dyn64 (by omega)) hq1) (F3.rl hS c2 G3 (show d < 9 by omega) hq hR) (by rw [c5, m63]; exact h6) (by rw [c5, m63]; exact h7) (by rw [c5, m63]; exact h8) hg1
                refine ⟨I4, L4, R4, S4, ?_, d2, G3.trans d3, F3.trans d4 (Nat.le_trans a3.1 c3.1) d3, by rw [d5, c5, m63], fun i hi => by rw [d6 i hi, c6 i (by omega), m65 i hi], d7⟩
                rw [hhead _ rfl, if_neg hsk, c1]
                simp only [QB, Option.isSome_none, b2i_0, Bool.false_eq_true, if_false]
                exact d1
              | some l =>
                have hg4 : gfst f (nA D) = some (w :: l) := gfst_at hg (by rw [hfw, hs]; rfl) (nA D) hwA
                rw [hs] at c1
                refine ⟨I3, L3, R3, S3, Or.inr ⟨by rw [hg4]; rfl, hhead _ ?_⟩, c2, G3, F3, by rw [c5, m63], fun i hi => by rw [c6 i (by omega), m65 i hi], fun l' hl' i hi => ?_⟩
                · rw [if_neg hsk, c1]
                  simp only [QB, Option.isSome_some, b2i_0, if_true]
                · rw [hg4] at hl'
                  cases hl'
                  cases i with
                  | zero => rw [c6 (d + 0) (by omega), mw]; exact wI_at
                  | succ i =>
                    have := c7 l hs i (by omega)
                    rw [show d + (i + 1) = d + 1 + i by omega, this]
                    rfl
          · have hsc' : scan D P b w 0 = false := by simpa using hsc
            have hg1 : gfst f (w + 1) = none := gfst_n1 hg (hfn w hsc')
            obtain ⟨I4, L4, R4, S4, d1, d2, d3, d4, d5, d6, d7⟩ := jh (w + 1) fu I0 L R S (by omega) (by omega) hS hT0 hq hR0 (by rw [e63]; exact h6) (by rw [e63]; exact h7) (by rw [e63]; exact h8) hg1
            have hrun : x6_drivesWithin_L87 (x6_DW m) (Int32.ofNat d) (Int32.ofNat (n + 1)) q (fu + 1) (Int32.ofNat w) I L R S = x6_drivesWithin_L87 (x6_DW m) (Int32.ofNat d) (Int32.ofNat (n + 1)) q fu (Int32.ofNat (w + 1)) I0 L R S := by
              simp (disch := omega) only [x6_drivesWithin_L87, x6_drivesWithin_L87s, QN, QB, ck_pos hS.1, hS.2.2.1, ck_pos hS.2.2.2.1, hT.1.2.2.2.2.1, hD.2.1.1.1, if_pos hwA, if_pos (show d < 8 by omega), ck_pos hst, h6w, s1, b2i_0, hsc', Bool.false_eq_true, if_false]
            refine ⟨I4, L4, R4, S4, ?_, d2, d3, F0.trans d4 (Nat.le_refl _) d3, by rw [d5, e63], fun i hi => by rw [d6 i hi, e65, wI_ne (by omega)], d7⟩
            rw [hrun]; exact d1
      obtain ⟨I', L', R', S', l1, l2, l3, l4, l5, l6⟩ := loop (nA D) 0 FU I L R S (by omega) (by unfold FU; omega) hS hT hq hR h6 h7 h8 rfl
      rw [show Int32.ofNat 0 = 0 from rfl] at l1
      have hwq : dcfind D b o a (n + 1) P = gfst f (nA D) := by rw [hws, if_neg hcut]
      refine ⟨I', L', R', S', ?_, l2, l3, l4, l5, by rw [hwq]; exact l6⟩
      rw [hwq]
      simp only [dcut, decide_eq_true_eq] at hcut
      have hfl : P (5 * a + 2) < 0 := Classical.not_not.mp (fun h => hcut (Or.inl h))
      have hfr : ¬ Int32.ofNat (n + 1) < sfar P o a - D 9 o := fun h => hcut (Or.inr h)
      simp (disch := omega) only [x6_DW, x6_drivesWithin, ck_pos hS.1, c_lev hS (show d < 9 by omega) hq, QB, QN, ck_pos hst, ck_pos hst.2.1, h7, h8, if_pos (show 0 < n + 1 by omega), if_pos (show d < 4 by omega), hholder, c_far hD hR ho ha, hS.2.2.1, ck_pos hS.2.2.2.1, h9, if_pos hfl, if_neg hfr]
      rcases l1 with ⟨h1, h2⟩ | ⟨h1, h2⟩
      · rw [h1]
        simp only [h2, bE]
        rfl
      · simp only [h2, bE, h1]
        rfl
end LV
