/-! CALLS, 33: waves that bring an apple to a cell -/
theorem c_absd : ∀ u, u < 6 → ∀ v, v < 6 → (if (0 : Int32) ≤ Int32.ofNat u - Int32.ofNat v then Int32.ofNat u - Int32.ofNat v else 0 - (Int32.ofNat u - Int32.ofNat v)) = Int32.ofNat (nd u v) := by decide +kernel
theorem nd_0 {u v : Nat} : nd u v = 0 ↔ u = v := by simp only [nd]; split <;> omega
theorem nd_6 {u v : Nat} (hu : u < 6) (hv : v < 6) : nd u v < 6 := by simp only [nd]; split <;> omega
/-- what a search lays down of its path -/
def Pth (n d : Nat) (o : Option (List Nat)) (I I' : MI) : Prop := (∀ i, i < d → I' 65 i = I 65 i) ∧ ∀ l, o = some l → ∀ i, i < n → I' 65 (d + i) = Int32.ofNat (l.getD i 0)
section LV
variable {t d : Nat} {I I' I'' : MI} {L L' L'' : ML} {R R' R'' : MR} {S S' S'' : MS} {D : TD} {C : TC} {P : PR} {Z : AX} {m : Bool} {a x y : Nat}
theorem c_lev {q : Nat} (h : RS t R S) (hd : d < 9) (hq : R 64 d = some q) (I : MI) (L : ML) : x6_level (Int32.ofNat d) I L R S = some (q, I, L, R, S) := by
  obtain ⟨q2, I2, L2, R2, S2, h1, h2, h3, h4, h5, h6⟩ := c_level h hd I L
  obtain ⟨rfl, rfl, rfl, rfl⟩ := h6 q hq
  rw [hq] at h5
  cases h5
  exact h1
theorem INV.lyv (h : INV t I L R S D C P Z) {l : List Int32} {J : MI} (hl : l.length ≤ 36) (hF : FrL t d (wI I 0 14 0) I' L L' S R') (hS' : RS t R' S') (hG : Gr R S R' S') (h1 : Fl I' I'') (h2 : Ly 0 89 14 I'' l) (h3 : Kr' I'' J) (h4 : Ly 102 149 85 J l) : INV t J L' R' S' D C P (zl Z l) := by
  have hS := h.1
  have ht := hS.2.2.2.1
  have h158 := hS.l158
  have hk := hF.kc hS hS' hG
  have hk2 := (hk.k').trans (h1.kc' hS)
  have f0 : Kc' t R I (wI I 0 14 0) := Fl.kc' ⟨fun c h1 _ => wI_c h1, fun j hj => wI_ne (Or.inr hj)⟩ hS
  have hk3 := f0.trans hk2
  have hy := h.ly (I' := fun c => if c < S.length then I'' c else I c) (I'' := fun c => if c < S.length then J c else I c) hl ⟨fun c hc => ?_, fun j hj => ?_, fun c i q d' g1 g2 g3 g4 g5 => ?_⟩ ⟨?_, fun i hi => ?_⟩ ⟨fun c hc => ?_, fun j g1 g2 g3 g4 => ?_⟩ ⟨?_, fun i hi => ?_⟩
  · exact hy.grow hS' hG (fun c hc => ⟨(if_pos hc).symm, hF.2 c hc⟩)
  · show (if c < S.length then I'' c else I c) = I c
    rw [if_pos (by rcases ht with h | h <;> omega)]; exact hk3.1 c hc
  · show (if 0 < S.length then I'' 0 else I 0) j = I 0 j
    rw [if_pos (by omega)]; exact hk3.2.1 j hj
  · have := hS.end12 g2 g3
    show (if d' < S.length then I'' d' else I d') = I d'
    rw [if_pos (by omega)]; exact hk3.2.2 c i q d' g1 g2 g3 g4 g5
  · show (if 0 < S.length then I'' 0 else I 0) 14 = _
    rw [if_pos (by omega)]; exact h2.1
  · show (if 89 < S.length then I'' 89 else I 89) i = _
    rw [if_pos (by omega)]; exact h2.2 i hi
  · show (if c < S.length then J c else I c) = (if c < S.length then I'' c else I c)
    by_cases e : c < S.length
    · rw [if_pos e, if_pos e]; exact h3.1 c hc
    · rw [if_neg e, if_neg e]
  · show (if 102 < S.length then J 102 else I 102) j = (if 102 < S.length then I'' 102 else I 102) j
    rw [if_pos (by omega), if_pos (by omega)]; exact h3.2 j g1 g2 g3 g4
  · show (if 102 < S.length then J 102 else I 102) 85 = _
    rw [if_pos (by omega)]; exact h4.1
  · show (if 149 < S.length then J 149 else I 149) i = _
    rw [if_pos (by omega)]; exact h4.2 i hi
theorem wG_0 (hD : OkD D C) (hP : OkP D P) (ha : a < nA D) (hx : x < nW D) (hy : y < nH D) : wG a x y P = decide (wdist a x y P = 0) := by
  have hw := hD.w
  have hh := hD.h
  obtain ⟨px, py, hpx, hpy, e1, e2⟩ := n_cases hD hP ha
  simp only [wG, wdist, e1, e2, q_ix (show px < 2147483648 by omega), q_ix (show py < 2147483648 by omega), q_eq (show px < 2147483648 by omega) (show x < 2147483648 by omega), q_eq (show py < 2147483648 by omega) (show y < 2147483648 by omega), Nat.add_eq_zero_iff, nd_0]
theorem wdist_12 (hD : OkD D C) (hP : OkP D P) (ha : a < nA D) (hx : x < nW D) (hy : y < nH D) : wdist a x y P < 12 := by
  have hw := hD.w
  have hh := hD.h
  obtain ⟨px, py, hpx, hpy, e1, e2⟩ := n_cases hD hP ha
  have h1 := nd_6 (u := px) (v := x) (by omega) (by omega)
  have h2 := nd_6 (u := py) (v := y) (by omega) (by omega)
  simp only [wdist, e1, e2, q_ix (show px < 2147483648 by omega), q_ix (show py < 2147483648 by omega)]
  omega
theorem c_ww (hD : OkD D C) (ha : a < nA D) (hx : x < nW D) (hy : y < nH D) : ∀ (n d m : Nat) (I : MI) (L : ML) (R : MR) (S : MS) (P : PR) (q : Nat), n + d ≤ 6 → n < m → RS t R S → Td I t D C → OkP D P → R 64 d = some q → Rl D false I q P → I 63 8 = Int32.ofNat a → I 63 9 = Int32.ofNat x → I 63 10 = Int32.ofNat y → ∃ I' L' R' S', x6_WW m (Int32.ofNat d) (Int32.ofNat n) I L R S = some (b2i (wcfind D a x y n P).isSome, I', L', R', S') ∧ RS t R' S' ∧ Gr R S R' S' ∧ FrL t (d + 1) I I' L L' S R' ∧ I' 63 = I 63 ∧ Pth n d (wcfind D a x y n P) I I' := by
  have hA := hD.a
  have hW := hD.w
  have hH := hD.h
  intro n
  induction n with
  | zero =>
    intro d m I L R S P q hnd hm hS hT hP hq hR h8 h9 h10
    obtain ⟨m, rfl⟩ : ∃ m', m = m' + 1 := ⟨m - 1, by omega⟩
    obtain ⟨px, py, hpx, hpy, e1, e2⟩ := n_cases hD hP ha
    have hst := (hS.2.2.2.2.2.2.1 64 d q (dyn64 (by omega)) hq).1
    have hwd : Int32.ofNat (nd px x + nd py y) = Int32.ofNat (wdist a x y P) := by
      simp only [wdist, e1, e2, q_ix (show px < 2147483648 by omega), q_ix (show py < 2147483648 by omega)]
    have h12 := wdist_12 hD hP ha hx hy
    refine ⟨I, L, R, S, ?_, hS, Gr.refl, FrL.refl, rfl, fun _ _ => rfl, fun _ _ i hi => by omega⟩
    have hw0 : wcfind D a x y 0 P = if wG a x y P = true then some [] else none := rfl
    simp (disch := omega) only [x6_WW, x6_wavesWithin, ck_pos hS.1, c_lev hS (show d < 9 by omega) hq, QB, QN, ck_pos hst, ck_pos hst.2.1, h8, h9, h10, (hR.1 a ha).1, (hR.1 a ha).2.1, e1, e2, c_absd px (show px < 6 by omega) x (show x < 6 by omega), c_absd py (show py < 6 by omega) y (show y < 6 by omega), hwd, Nat.lt_irrefl, if_false, hw0, wG_0 hD hP ha hx hy, decide_eq_true_eq]
    by_cases hz : wdist a x y P = 0
    · rw [if_pos hz, if_pos hz]; rfl
    · rw [if_neg hz, if_neg hz]; rfl
  | succ n ih =>
    intro d m I L R S P q hnd hm hS hT hP hq hR h8 h9 h10
    obtain ⟨m, rfl⟩ : ∃ m', m = m' + 1 := ⟨m - 1, by omega⟩
    obtain ⟨px, py, hpx, hpy, e1, e2⟩ := n_cases hD hP ha
    have hst := (hS.2.2.2.2.2.2.1 64 d q (dyn64 (by omega)) hq).1
    have hwd : Int32.ofNat (nd px x + nd py y) = Int32.ofNat (wdist a x y P) := by
      simp only [wdist, e1, e2, q_ix (show px < 2147483648 by omega), q_ix (show py < 2147483648 by omega)]
    have h12 := wdist_12 hD hP ha hx hy
    have hws : wcfind D a x y (n + 1) P = if n + 1 < wdist a x y P then none else gfst (fun c => (wF D c P).bind (fun Q => if wskip D c P Q = true then none else (wcfind D a x y n Q).map (fun l => c :: l))) 4 := by
      show (if wcut a x y (n + 1) P = true then none else _) = _
      simp only [wcut, decide_eq_true_eq]
      rfl
    generalize hf : (fun c => (wF D c P).bind (fun Q => if wskip D c P Q = true then none else (wcfind D a x y n Q).map (fun l => c :: l))) = f at hws
    have hfc : ∀ c, f c = if wskip D c P P = true then none else (wcfind D a x y n (swv D c 5 (0, P)).2).map (fun l => c :: l) := fun c => by rw [← hf]; rfl
    by_cases hcut : n + 1 < wdist a x y P
    · refine ⟨I, L, R, S, ?_, hS, Gr.refl, FrL.refl, rfl, fun _ _ => rfl, fun l hl => by rw [hws, if_pos hcut] at hl; cases hl⟩
      simp (disch := omega) only [x6_WW, x6_wavesWithin, ck_pos hS.1, c_lev hS (show d < 9 by omega) hq, QB, QN, ck_pos hst, ck_pos hst.2.1, h8, h9, h10, (hR.1 a ha).1, (hR.1 a ha).2.1, e1, e2, c_absd px (show px < 6 by omega) x (show x < 6 by omega), c_absd py (show py < 6 by omega) y (show y < 6 by omega), hwd, if_pos (show 0 < n + 1 by omega), if_pos (show d < 6 by omega), if_pos hcut, hws, if_neg (show ¬ wdist a x y P = 0 by omega)]
      rfl
    · have loop : ∀ (j w fu : Nat) (I : MI) (L : ML) (R : MR) (S : MS), w + j = 4 → j < fu → RS t R S → Td I t D C → R 64 d = some q → Rl D false I q P → I 63 8 = Int32.ofNat a → I 63 9 = Int32.ofNat x → I 63 10 = Int32.ofNat y → gfst f w = none → ∃ I' L' R' S', ((gfst f 4 = none ∧ x6_wavesWithin_L73 (x6_WW m) (Int32.ofNat d) (Int32.ofNat (n + 1)) fu (Int32.ofNat w) I L R S = some (.inl (I', L', R', S'))) ∨ ((gfst f 4).isSome = true ∧ x6_wavesWithin_L73 (x6_WW m) (Int32.ofNat d) (Int32.ofNat (n + 1)) fu (Int32.ofNat w) I L R S = some (.inr (1, I', L', R', S')))) ∧ RS t R' S' ∧ Gr R S R' S' ∧ FrL t (d + 1) I I' L L' S R' ∧ I' 63 = I 63 ∧ Pth (n + 1) d (gfst f 4) I I' := by
        intro j
        induction j with
        | zero =>
          intro w fu I L R S hw hfu hS hT hq hR h8 h9 h10 hg
          obtain ⟨fu, rfl⟩ : ∃ n', fu = n' + 1 := ⟨fu - 1, by omega⟩
          obtain rfl : w = 4 := by omega
          refine ⟨I, L, R, S, Or.inl ⟨hg, ?_⟩, hS, Gr.refl, FrL.refl, rfl, fun _ _ => rfl, fun l hl => by rw [hg] at hl; cases hl⟩
          simp only [x6_wavesWithin_L73, x6_wavesWithin_L73s]
          rw [if_neg (by decide)]
        | succ j jh =>
          intro w fu I L R S hw hfu hS hT hq hR h8 h9 h10 hg
          obtain ⟨fu, rfl⟩ : ∃ n', fu = n' + 1 := ⟨fu - 1, by omega⟩
          have h158 := hS.l158
          have ht := hS.2.2.2.1
          have h90 := hS.q90 (dyn64 (show d < 9 by omega)) hq
          have F0 : FrL t (d + 1) I (wI I 65 d (Int32.ofNat w)) L L S R := FrL.w (Or.inr rfl) FrL.refl
          have hR0 : Rl D false (wI I 65 d (Int32.ofNat w)) q P := hR.fr (fun c g1 g2 => wI_c (by omega))
          obtain ⟨q', I1, L1, R1, S1, a1, a2, a3, a4, a5, a6, a7, a8, a9, a10⟩ := c_next (C := C) hS hD (show d < 8 by omega) hq hR0 L
          have h90' := a2.q90 (dyn64 (show d + 1 < 9 by omega)) a4
          have F1 := F0.trans a8 (Nat.le_refl _) a3
          have hT1 := F1.td hS a2 a3 hT
          obtain ⟨I2, b1', b2', b3'⟩ := c_rock hD hT1 a5 hP a7 (show w < 4 by omega)
          have F2 := F1.trans (FrL.fc' (d := d + 1) (L0 := L1) (S0 := S1) b3' a4 (by omega)) a3.1 Gr.refl
          have k63 : I2 63 = I1 63 := b3' 63 (by omega) (by omega) (by rcases ht with h | h <;> omega) (by omega)
          have k65 : I2 65 = I1 65 := b3' 65 (by omega) (by omega) (by rcases ht with h | h <;> omega) (by omega)
          have e63 : I2 63 = I 63 := by rw [k63, a9, wI_c (by omega)]
          have e65 : ∀ i, I2 65 i = wI I 65 d (Int32.ofNat w) 65 i := fun i => by rw [k65, a10]
          have hR2 := F2.rl hS a2 a3 (show d < 9 by omega) hq hR
          have hT2 := F2.td hS a2 a3 hT
          have hq1 := a3.2 64 d q (dyn64 (by omega)) hq
          have hhead : ∀ (o : Option ((MI × ML × MR × MS) ⊕ (Int32 × MI × ML × MR × MS))), (if 0 < (swv D w 5 (0, P)).1 then b5 (x6_WW m (Int32.ofNat (d + 1)) (Int32.ofNat n) I2 L1 R1 S1) (fun r31 I32 L33 R34 S35 => if r31 = 0 then x6_wavesWithin_L73 (x6_WW m) (Int32.ofNat d) (Int32.ofNat (n + 1)) fu (Int32.ofNat (w + 1)) I32 L33 R34 S35 else some (.inr ((1 : Int32), I32, L33, R34, S35))) else x6_wavesWithin_L73 (x6_WW m) (Int32.ofNat d) (Int32.ofNat (n + 1)) fu (Int32.ofNat (w + 1)) I2 L1 R1 S1) = o → x6_wavesWithin_L73 (x6_WW m) (Int32.ofNat d) (Int32.ofNat (n + 1)) (fu + 1) (Int32.ofNat w) I L R S = o := by
            intro o ho
            rw [← ho]
            simp (disch := omega) only [x6_wavesWithin_L73, x6_wavesWithin_L73s, x6_wavesBySide, QN, QB, if_pos (show w < 4 by omega), ck_pos hS.1, a1, ck_pos a2.1, a2.2.2.1, ck_pos a2.2.2.2.1, ck_pos a6, b1', q_ps, Nat.add_sub_cancel]
            by_cases hmv : 0 < (swv D w 5 (0, P)).1
            · simp only [if_pos hmv]
              cases x6_WW m (Int32.ofNat (d + 1)) (Int32.ofNat n) I2 L1 R1 S1 with
              | none => rfl
              | some v =>
                obtain ⟨r, I3, L3, R3, S3⟩ := v
                simp only [q_b5]
                by_cases hr0 : r = 0
                · rw [if_pos hr0, if_pos hr0, q_b5]
                  exact if_pos rfl
                · rw [if_neg hr0, if_neg hr0, q_b5]
                  exact if_neg (by decide)
            · simp only [if_neg hmv, q_b5]
              exact if_pos trivial
          by_cases hmv : 0 < (swv D w 5 (0, P)).1
          · have hsk : wskip D w P P = false := by simp only [wskip, decide_not, hmv, decide_true, Bool.not_true]
            have hfw : f w = (wcfind D a x y n (swv D w 5 (0, P)).2).map (fun l => w :: l) := by rw [hfc, hsk]; rfl
            obtain ⟨I3, L3, R3, S3, c1, c2, c3, c4, c5, c6, c7⟩ := ih (d + 1) m I2 L1 R1 S1 (swv D w 5 (0, P)).2 q' (by omega) (by omega) a2 hT2 (OkP.wv hD (by omega) 5 (0, P) (Nat.le_refl _) hP) a4 b2' (by rw [e63]; exact h8) (by rw [e63]; exact h9) (by rw [e63]; exact h10)
            have F3 := F2.trans (c4.mono (show d + 1 ≤ d + 1 + 1 by omega)) a3.1 c3
            have G3 := a3.trans c3
            cases hs : wcfind D a x y n (swv D w 5 (0, P)).2 with
            | none =>
              have hg1 : gfst f (w + 1) = none := gfst_n1 hg (by rw [hfw, hs]; rfl)
              obtain ⟨I4, L4, R4, S4, d1, d2, d3, d4, d5, d6, d7⟩ := jh (w + 1) fu I3 L3 R3 S3 (by omega) (by omega) c2 (F3.td hS c2 G3 hT) (c3.2 64 d q (dyn64 (by omega)) hq1) (F3.rl hS c2 G3 (show d < 9 by omega) hq hR) (by rw [c5, e63]; exact h8) (by rw [c5, e63]; exact h9) (by rw [c5, e63]; exact h10) hg1
              rw [hs] at c1
              have hrun : x6_wavesWithin_L73 (x6_WW m) (Int32.ofNat d) (Int32.ofNat (n + 1)) (fu + 1) (Int32.ofNat w) I L R S = x6_wavesWithin_L73 (x6_WW m) (Int32.ofNat d) (Int32.ofNat (n + 1)) fu (Int32.ofNat (w + 1)) I3 L3 R3 S3 := hhead _ (by
                rw [if_pos hmv, c1]
                simp only [QB, Option.isSome_none, b2i_0, Bool.false_eq_true, if_false])
              refine ⟨I4, L4, R4, S4, ?_, d2, G3.trans d3, F3.trans d4 (Nat.le_trans a3.1 c3.1) d3, by rw [d5, c5, e63], fun i hi => ?_, d7⟩
              · rw [hrun]; exact d1
              · rw [d6 i hi, c6 i (by omega), e65, wI_ne (by omega)]
            | some l =>
              have hg4 : gfst f 4 = some (w :: l) := gfst_at hg (by rw [hfw, hs]; rfl) 4 (by omega)
              rw [hs] at c1
              refine ⟨I3, L3, R3, S3, Or.inr ⟨by rw [hg4]; rfl, hhead _ ?_⟩, c2, G3, F3, by rw [c5, e63], fun i hi => ?_, fun l' hl' i hi => ?_⟩
              · rw [if_pos hmv, c1]
                simp only [QB, Option.isSome_some, b2i_0, if_true]
              · rw [c6 i (by omega), e65, wI_ne (by omega)]
              · rw [hg4] at hl'
                cases hl'
                cases i with
                | zero => rw [c6 (d + 0) (by omega), e65]; exact wI_at
                | succ i =>
                  have := c7 l hs i (by omega)
                  rw [show d + (i + 1) = d + 1 + i by omega, this]
                  rfl
          · have hsk : wskip D w P P = true := by simp only [wskip, decide_not, hmv, decide_false, Bool.not_false]
            have hg1 : gfst f (w + 1) = none := gfst_n1 hg (by rw [hfc, hsk]; rfl)
            obtain ⟨I4, L4, R4, S4, d1, d2, d3, d4, d5, d6, d7⟩ := jh (w + 1) fu I2 L1 R1 S1 (by omega) (by omega) a2 hT2 hq1 hR2 (by rw [e63]; exact h8) (by rw [e63]; exact h9) (by rw [e63]; exact h10) hg1
            have hrun : x6_wavesWithin_L73 (x6_WW m) (Int32.ofNat d) (Int32.ofNat (n + 1)) (fu + 1) (Int32.ofNat w) I L R S = x6_wavesWithin_L73 (x6_WW m) (Int32.ofNat d) (Int32.ofNat (n + 1)) fu (Int32.ofNat (w + 1)) I2 L1 R1 S1 := hhead _ (by rw [if_neg hmv])
            refine ⟨I4, L4, R4, S4, ?_, d2, a3.trans d3, F2.trans d4 a3.1 d3, by rw [d5, e63], fun i hi => ?_, d7⟩
            · rw [hrun]; exact d1
            · rw [d6 i hi, e65, wI_ne (by omega)]
      obtain ⟨I', L', R', S', l1, l2, l3, l4, l5, l6⟩ := loop 4 0 FU I L R S (by omega) (by unfold FU; omega) hS hT hq hR h8 h9 h10 rfl
      rw [show Int32.ofNat 0 = 0 from rfl] at l1
      have hwq : wcfind D a x y (n + 1) P = gfst f 4 := by rw [hws, if_neg hcut]
      refine ⟨I', L', R', S', ?_, l2, l3, l4, l5, by rw [hwq]; exact l6⟩
      rw [hwq]
      simp (disch := omega) only [x6_WW, x6_wavesWithin, ck_pos hS.1, c_lev hS (show d < 9 by omega) hq, QB, QN, ck_pos hst, ck_pos hst.2.1, h8, h9, h10, (hR.1 a ha).1, (hR.1 a ha).2.1, e1, e2, c_absd px (show px < 6 by omega) x (show x < 6 by omega), c_absd py (show py < 6 by omega) y (show y < 6 by omega), hwd, if_pos (show 0 < n + 1 by omega), if_pos (show d < 6 by omega), if_neg hcut]
      rcases l1 with ⟨h1, h2⟩ | ⟨h1, h2⟩
      · rw [h1]
        simp only [h2, bF, bE]
        rfl
      · simp only [h2, bF, bE, h1]
        rfl
end LV
