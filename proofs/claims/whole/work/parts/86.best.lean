/-! CALLS, 45: the best alone, in the reference: the whole -/
def Oc (b d K0 lim : Nat) (a : BA) (I : MI) (g : Int32) : Prop :=
  (K0 + a.2.2 ≤ 20000 ∧ ∃ s I', s + lim ≤ 3 * (K0 + a.2.2) + 1 ∧ (∀ N, x11_layBest_L20 (Int32.ofNat b) (N + s) (Int32.ofNat d) g I = x11_layBest_L20 (Int32.ofNat b) N (Int32.ofNat d - 1) (Int32.ofNat a.1) I') ∧ I' 145 d = Int32.ofNat a.1 ∧ I' 146 d = br a.2.1 ∧ I' 102 80 = Int32.ofNat (K0 + a.2.2) ∧ Fbe d I I') ∨
  (20000 < K0 + a.2.2 ∧ ∃ s I', s + lim ≤ 60004 ∧ (∀ N, x11_layBest_L20 (Int32.ofNat b) (N + s + 1) (Int32.ofNat d) g I = some I') ∧ I' 102 80 = Int32.ofNat 20001 ∧ Fbe d I I')
def FRM (D : TD) (C : TC) (b f : Nat) : Prop := ∀ (left d K : Nat) (P : PR) (I : MI) (g : Int32), left ≤ f → d + left ≤ 8 → OkP D P → Rd I D C → Rp I d P left 0 (0, none, 1) → I 102 80 = Int32.ofNat (K + 1) → K ≤ 20000 → Oc b d K (3 * (K + 1)) (bs D C b f left P) I g
section RB
variable {D : TD} {C : TC} {P Q : PR} {I I' I'' : MI} {b d left T K : Nat} {a : BA}
theorem Fbe.at {c : Nat} (k : Fbe (d + 1) I I') (h1 : 141 ≤ c) (h2 : c ≤ 146) : I' c d = I c d := k.2.2.2 c d h1 h2 (by omega)
theorem m_weigh {v : Nat} (hd : d < 16) (ha : a.1 < 2147483648) (hv : v < 2147483648) (h1 : I 145 d = Int32.ofNat a.1) (h2 : I 146 d = br a.2.1) (h3 : I 142 d = Int32.ofNat T) : ∃ I', x11_weigh (Int32.ofNat d) (Int32.ofNat v) I = some I' ∧ I' 145 d = Int32.ofNat (if a.1 < v then v else a.1) ∧ I' 146 d = br (if a.1 < v then some T else a.2.1) ∧ (∀ c, c ≠ 145 → c ≠ 146 → I' c = I c) ∧ Fbe d I I' := by
  by_cases hlt : a.1 < v
  · refine ⟨wI (wI I 145 d (Int32.ofNat v)) 146 d (Int32.ofNat T), ?_, ?_, ?_, fun c g1 g2 => by rw [wI_c g2, wI_c g1], (Fbe.refl.w (by omega) (by omega) (by omega)).w (by omega) (by omega) (by omega)⟩
    · have e : wI I 145 d (Int32.ofNat v) 142 d = Int32.ofNat T := by rw [wI_c (by omega)]; exact h3
      simp (disch := omega) only [x11_weigh, QN, QB, h1, if_pos hlt, e]
    · rw [wI_c (by omega), wI_at, if_pos hlt]
    · rw [wI_at, if_pos hlt]; rfl
  · refine ⟨I, ?_, by rw [if_neg hlt]; exact h1, by rw [if_neg hlt]; exact h2, fun _ _ _ => rfl, Fbe.refl⟩
    simp (disch := omega) only [x11_weigh, QN, QB, h1, if_neg hlt]
theorem m_ret1 {v : Nat} (hD : OkD D C) (hb : b < nB D) (hd : d < 15) (hR : Rd I D C) (hP : OkP D P) (h : Rh I d P left T 1 a) (hT : T / 5 < nA D) (hs : secn (T % 5) ≤ left) (hl : left ≤ 8) (hsc : scan D P b (T / 5) (T % 5) = true) (hK : K ≤ 20000) (h80 : I 102 80 = Int32.ofNat K) : ∃ I', (∀ N, x11_layBest_L20 (Int32.ofNat b) (N + 1) (Int32.ofNat d) (Int32.ofNat v) I = x11_layBest_L20 (Int32.ofNat b) N (Int32.ofNat (d + 1)) (Int32.ofNat v) I') ∧ Rp I' (d + 1) (bM D P b T) (left - secn (T % 5)) 0 (0, none, 1) ∧ Rh I' d P left T 2 a ∧ I' 144 d = Int32.ofNat v ∧ I' 102 80 = Int32.ofNat (K + 1) ∧ Fbe d I I' := by
  have hA := hD.a
  obtain ⟨hf, h2, h3, h5, h6⟩ := h
  have hT5 : T % 5 < 5 := Nat.mod_lt T (by omega)
  obtain ⟨s1, s2, s3⟩ := secn_k hT5
  obtain ⟨I1, l1, l2, l3⟩ := m_loadRow (by omega) hf
  have g1 : Rh I1 d P left T 1 a := l3.rh ⟨hf, h2, h3, h5, h6⟩
  have fw : Fbe d I1 (wI (wI I1 144 d (Int32.ofNat v)) 143 d 2) := (Fbe.refl.w (by omega) (by omega) (by omega)).w (by omega) (by omega) (by omega)
  have gw : Rh (wI (wI I1 144 d (Int32.ofNat v)) 143 d 2) d P left T 2 a := ⟨(g1.1.w (by omega) (by omega)).w (by omega) (by omega), by rw [wI_c (by omega), wI_c (by omega)]; exact g1.2.1, wI_at, by rw [wI_c (by omega), wI_c (by omega)]; exact g1.2.2.2.1, by rw [wI_c (by omega), wI_c (by omega)]; exact g1.2.2.2.2⟩
  obtain ⟨I2, m1, m2, m3⟩ := m_miss hD (fw.rd (l3.rd hR)) ((l2.w2 (by omega)).w2 (by omega)) hP hb hT hT5 (scan_fl hsc)
  have g2 := m3.rh gw
  obtain ⟨I3, d1, d2, d3, d4⟩ := m_deep (d := d + 1) (left := left - secn (T % 5)) (by omega) m2
  have f2 : Fbe d I I2 := (l3.fbe.trans fw).trans m3.fbe
  have e80 : I2 102 80 = Int32.ofNat K := by rw [m3.2 80 (by omega) (by omega), wI_c (by omega), wI_c (by omega), l3.2 80 (by omega) (by omega)]; exact h80
  refine ⟨I3, fun N => ?_, d2, g2.fb d4, ?_, by rw [d3, e80, q_addn], f2.trans (d4.mono (by omega))⟩
  · have ek : ¬ (20000 : Int32) < Int32.ofNat K := by rw [show (20000 : Int32) = Int32.ofNat 20000 from rfl, q_lt (by omega) (by omega)]; omega
    have ed : (Int32.ofNat d < 0) = False := q_neg (by omega)
    have ei : vp_in (Int32.ofNat d) 16 = True := q_in (by omega) (by omega)
    have ex : (Int32.ofNat d).toNatClampNeg = d := q_ix (by omega)
    have et : Int32.ofNat T / 5 = Int32.ofNat (T / 5) := q_divn (show T < 2147483648 by omega) (by decide)
    have er : rm (Int32.ofNat T) 5 = Int32.ofNat (T % 5) := q_rmn (show T < 2147483648 by omega) (by decide)
    simp only [x11_layBest_L20, x11_layBest_L20s, ed, if_false, h80, if_neg ek, l1, q_b1, q_l, ei, q_ck, ex, g1.2.1, g1.2.2.1, if_true, et, er, m1, m_sec hT5, g2.1.2.1, s1, q_sub hs, q_addn, d1]
  · rw [d4.at (by omega) (by omega), m3.1 144 (by omega) (by omega) (by omega), wI_c (by omega), wI_at]
theorem m_ret2 {v w n : Nat} (hD : OkD D C) (hb : b < nB D) (hd : d < 15) (hR : Rd I D C) (h : Rh I d P left T 2 a) (h4 : I 144 d = Int32.ofNat v) (hv : v ≤ 8000000) (hw : w ≤ 8000000) (ha : a.1 < 2147483648) (hT : T / 5 < nA D) (hK : K ≤ 20000) (h80 : I 102 80 = Int32.ofNat K) : ∃ I', (∀ N, x11_layBest_L20 (Int32.ofNat b) (N + 1) (Int32.ofNat d) (Int32.ofNat w) I = x11_layBest_L20 (Int32.ofNat b) N (Int32.ofNat d) (Int32.ofNat w) I') ∧ Rp I' d P left (T + 1) (badd a T (bval (bodd D C P b T) v w) n) ∧ I' 102 80 = Int32.ofNat K ∧ Fbe d I I' := by
  have hA := hD.a
  obtain ⟨hf, h2, h3, h5, h6⟩ := h
  have hT5 : T % 5 < 5 := Nat.mod_lt T (by omega)
  obtain ⟨I1, l1, l2, l3⟩ := m_loadRow (by omega) hf
  have g1 : Rh I1 d P left T 2 a := l3.rh ⟨hf, h2, h3, h5, h6⟩
  obtain ⟨I2, m1, m2⟩ := m_odds (C := C) hD (l3.rd hR) l2 hb hT hT5
  have g2 := m2.m.rh g1
  have f2 := l3.trans m2.m
  have e4 : I2 144 d = Int32.ofNat v := by rw [f2.1 144 (by omega) (by omega) (by omega)]; exact h4
  have hbv : bval (bodd D C P b T) v w < 2147483648 := by
    have := (bval_le (o := bodd D C P b T) (g := v) (m := w) (X := 9000000) bodd_n.2 (by omega) (by omega)).1
    omega
  obtain ⟨I3, w1, w2, w3, w4, w5⟩ := m_weigh (I := I2) (d := d) (T := T) (a := a) (by omega) ha hbv g2.2.2.2.1 g2.2.2.2.2 g2.2.1
  refine ⟨wI I3 143 d 0, fun N => ?_, ⟨?_, ?_, wI_at, ?_, ?_⟩, ?_, (f2.fbe.trans w5).w (by omega) (by omega) (by omega)⟩
  · have ek : ¬ (20000 : Int32) < Int32.ofNat K := by rw [show (20000 : Int32) = Int32.ofNat 20000 from rfl, q_lt (by omega) (by omega)]; omega
    have ed : (Int32.ofNat d < 0) = False := q_neg (by omega)
    have ei : vp_in (Int32.ofNat d) 16 = True := q_in (by omega) (by omega)
    have ex : (Int32.ofNat d).toNatClampNeg = d := q_ix (by omega)
    have et : Int32.ofNat T / 5 = Int32.ofNat (T / 5) := q_divn (show T < 2147483648 by omega) (by decide)
    have er : rm (Int32.ofNat T) 5 = Int32.ofNat (T % 5) := q_rmn (show T < 2147483648 by omega) (by decide)
    have e21 : ((2 : Int32) = 1) = False := by simp
    have e20 : ((2 : Int32) = 0) = False := by simp
    simp only [x11_layBest_L20, x11_layBest_L20s, ed, if_false, h80, if_neg ek, l1, q_b1, q_b2, q_l, ei, q_ck, ex, g1.2.1, g1.2.2.1, if_true, et, er, e21, e20, m1, g2.2.2.1, e4, bodd_n.1, bval_32 (bodd_n (D := D) (C := C) (P := P) (b := b) (t := T)).2 hv hw, w1]
  · refine Rf.w (by omega) (by omega) ⟨fun k hk => by rw [w4 140 (by omega) (by omega)]; exact g2.1.1 k hk, by rw [w4 141 (by omega) (by omega)]; exact g2.1.2.1, fun b hb => by rw [w4 130 (by omega) (by omega)]; exact g2.1.2.2.1 b hb, fun b hb => by rw [w4 131 (by omega) (by omega)]; exact g2.1.2.2.2 b hb⟩
  · rw [wI_c (by omega), w4 142 (by omega) (by omega), g2.2.1, q_ps]
  · rw [wI_c (by omega)]; exact w2
  · rw [wI_c (by omega)]; exact w3
  · rw [wI_c (by omega), w4 102 (by omega) (by omega), f2.2 80 (by omega) (by omega)]; exact h80
theorem m_ret3 {w n : Nat} (hd : d < 15) (h : Rh I d P left T 3 a) (hw : w ≤ 8000000) (ha : a.1 < 2147483648) (hT : T ≤ 50) (hK : K ≤ 20000) (h80 : I 102 80 = Int32.ofNat K) : ∃ I', (∀ N, x11_layBest_L20 (Int32.ofNat b) (N + 1) (Int32.ofNat d) (Int32.ofNat w) I = x11_layBest_L20 (Int32.ofNat b) N (Int32.ofNat d) (Int32.ofNat w) I') ∧ Rp I' d P left (T + 1) (badd a T w n) ∧ I' 102 80 = Int32.ofNat K ∧ Fbe d I I' := by
  obtain ⟨hf, h2, h3, h5, h6⟩ := h
  obtain ⟨I1, l1, l2, l3⟩ := m_loadRow (by omega) hf
  have g1 : Rh I1 d P left T 3 a := l3.rh ⟨hf, h2, h3, h5, h6⟩
  obtain ⟨I3, w1, w2, w3, w4, w5⟩ := m_weigh (I := I1) (d := d) (T := T) (a := a) (v := w) (by omega) ha (by omega) g1.2.2.2.1 g1.2.2.2.2 g1.2.1
  refine ⟨wI I3 143 d 0, fun N => ?_, ⟨?_, ?_, wI_at, ?_, ?_⟩, ?_, (l3.fbe.trans w5).w (by omega) (by omega) (by omega)⟩
  · have ek : ¬ (20000 : Int32) < Int32.ofNat K := by rw [show (20000 : Int32) = Int32.ofNat 20000 from rfl, q_lt (by omega) (by omega)]; omega
    have ed : (Int32.ofNat d < 0) = False := q_neg (by omega)
    have ei : vp_in (Int32.ofNat d) 16 = True := q_in (by omega) (by omega)
    have ex : (Int32.ofNat d).toNatClampNeg = d := q_ix (by omega)
    have e31 : ((3 : Int32) = 1) = False := by simp
    have e30 : ((3 : Int32) = 0) = False := by simp
    have e32 : ((3 : Int32) = 2) = False := by simp
    simp only [x11_layBest_L20, x11_layBest_L20s, ed, if_false, h80, if_neg ek, l1, q_b1, q_l, ei, q_ck, ex, g1.2.1, g1.2.2.1, e31, e30, e32, w1]
  · refine Rf.w (by omega) (by omega) ⟨fun k hk => by rw [w4 140 (by omega) (by omega)]; exact g1.1.1 k hk, by rw [w4 141 (by omega) (by omega)]; exact g1.1.2.1, fun b hb => by rw [w4 130 (by omega) (by omega)]; exact g1.1.2.2.1 b hb, fun b hb => by rw [w4 131 (by omega) (by omega)]; exact g1.1.2.2.2 b hb⟩
  · rw [wI_c (by omega), w4 142 (by omega) (by omega), g1.2.1, q_ps]
  · rw [wI_c (by omega)]; exact w2
  · rw [wI_c (by omega)]; exact w3
  · rw [wI_c (by omega), w4 102 (by omega) (by omega), l3.2 80 (by omega) (by omega)]; exact h80
/-- steps ahead of what comes -/
theorem Oc.pre {K0 lim lim' s : Nat} {a : BA} {g g' : Int32} (hs : ∀ N, x11_layBest_L20 (Int32.ofNat b) (N + s) (Int32.ofNat d) g I = x11_layBest_L20 (Int32.ofNat b) N (Int32.ofNat d) g' I') (hl : lim' + s ≤ lim) (hF : Fbe d I I') (h : Oc b d K0 lim a I' g') : Oc b d K0 lim' a I g := by
  rcases h with ⟨h1, s1, I1, h2, h3, h4, h5, h6, h7⟩ | ⟨h1, s1, I1, h2, h3, h4, h5⟩
  · exact Or.inl ⟨h1, s1 + s, I1, by omega, fun N => by rw [← Nat.add_assoc, hs, h3], h4, h5, h6, hF.trans h7⟩
  · exact Or.inr ⟨h1, s1 + s, I1, by omega, fun N => by rw [show N + (s1 + s) + 1 = (N + s1 + 1) + s by omega, hs, h3], h4, hF.trans h5⟩
theorem m_pos (hD : OkD D C) (hb : b < nB D) {f K0 : Nat} (hIH : 1 ≤ left → FRM D C b f) (hlf : left ≤ f + 1) (hdl : d + left ≤ 8) (hP : OkP D P) : ∀ (j T : Nat) (I : MI) (g : Int32), T + j = 51 → Rd I D C → Rp I d P left T (bfold (bs D C b f) D C b left P T) → I 102 80 = Int32.ofNat (K0 + (bfold (bs D C b f) D C b left P T).2.2) → K0 + (bfold (bs D C b f) D C b left P T).2.2 ≤ 20000 → Oc b d K0 (3 * (K0 + (bfold (bs D C b f) D C b left P T).2.2)) (bfold (bs D C b f) D C b left P 51) I g := by
  have hA := hD.a
  have hB := hD.b
  have lev8 : left * 1000000 ≤ 8000000 := Nat.mul_le_mul_right 1000000 (show left ≤ 8 by omega)
  have hb8 : ∀ (l : Nat) (Q : PR), l ≤ left → (bs D C b f l Q).1 ≤ 8000000 := fun l Q hl => Nat.le_trans (bs_le f l Q) (Nat.le_trans (Nat.mul_le_mul_right _ hl) lev8)
  have ha8 : ∀ u, (bfold (bs D C b f) D C b left P u).1 < 2147483648 := fun u => by
    have := Nat.le_trans (bfold_le (re := bs D C b f) (D := D) (C := C) (b := b) (left := left) (P := P) (fun l P _ => bs_le f l P) u) lev8
    omega
  intro j
  induction j using Nat.strongRecOn with
  | ind j ih =>
    intro T I g hTj hR hp h80 hK
    obtain ⟨T', I1, t1, t2, t3, t4, t5, t6, t7, t8, t9, t10, t11⟩ := m_next (a := bfold (bs D C b f) D C b left P T) hD hb (show d < 16 by omega) (by omega) hR hp (by omega) hK h80
    have hsk : bfold (bs D C b f) D C b left P T' = bfold (bs D C b f) D C b left P T := by
      have := bfold_skip (re := bs D C b f) (D := D) (C := C) (b := b) (left := left) (P := P) (t := T) (T' - T) (fun u g1 g2 => t3 u g1 (by omega))
      rw [show T + (T' - T) = T' by omega] at this
      exact this
    have hR1 := t8.rd hR
    by_cases h51 : T' = 51
    · subst h51
      refine Or.inl ⟨by rw [hsk]; exact hK, 1, I1, by rw [hsk]; omega, fun N => ?_, ?_, ?_, ?_, t8⟩
      · rw [hsk]; exact t9 rfl N g
      · rw [hsk]; exact t6.2.2.2.1
      · rw [hsk]; exact t6.2.2.2.2
      · rw [hsk]; exact t7
    · have hok : bok D b left P T' = true := t4.resolve_left h51
      have hl1 : 1 ≤ left := by
        by_cases e : left = 0
        · subst e; rw [bok_0] at hok; cases hok
        · omega
      have hFR := hIH hl1
      by_cases h50 : T' = 50
      · subst h50
        have hb2 : 2 ≤ left ∧ P (50 + 3 * b) < D 10 b := by simpa only [bok, if_true, decide_eq_true_eq] using hok
        have hbs : bfold (bs D C b f) D C b left P 51 = badd (bfold (bs D C b f) D C b left P T) 50 (bs D C b f (left - 2) (sbrea D P b)).1 (bs D C b f (left - 2) (sbrea D P b)).2.2 := by
          show bstep (bs D C b f) D C b left P 50 (bfold (bs D C b f) D C b left P 50) = _
          simp only [bstep, hok, if_true, hsk]
        have gw : Rh (wI I1 143 d 3) d P left 50 3 (bfold (bs D C b f) D C b left P T) := ⟨t6.1.w (by omega) (by omega), by rw [wI_c (by omega)]; exact t6.2.1, wI_at, by rw [wI_c (by omega)]; exact t6.2.2.2.1, by rw [wI_c (by omega)]; exact t6.2.2.2.2⟩
        have fw : Fbe d I (wI I1 143 d 3) := t8.w (by omega) (by omega) (by omega)
        obtain ⟨I2, m1, m2, m3⟩ := m_breathes hD (fw.rd hR) (t5.w2 (by omega)) hb
        have g2 := m3.rh gw
        have esub : I2 141 d - 2 = Int32.ofNat (left - 2) := by rw [g2.1.2.1]; exact q_subn (show (OfNat.ofNat 2 : Nat) ≤ left from hb2.1)
        obtain ⟨I3, d1, d2, d3, d4⟩ := m_deep (d := d + 1) (left := left - 2) (by omega) m2
        rw [← esub] at d1
        have f3 : Fbe d I I3 := (fw.trans m3.fbe).trans (d4.mono (by omega))
        have g3 := g2.fb d4
        have e80 : I3 102 80 = Int32.ofNat (K0 + (bfold (bs D C b f) D C b left P T).2.2 + 1) := by rw [d3, m3.2 80 (by omega) (by omega), wI_c (by omega), t7, q_addn]
        have hstep : ∀ N, x11_layBest_L20 (Int32.ofNat b) (N + 1) (Int32.ofNat d) g I = x11_layBest_L20 (Int32.ofNat b) N (Int32.ofNat (d + 1)) g I3 := fun N => t10 rfl N g I2 I3 m1 d1
        rcases hFR (left - 2) (d + 1) _ (sbrea D P b) I3 g (by omega) (by omega) (hP.brea hA hB hb) (f3.rd hR) d2 e80 hK with ⟨z1, s1, I4, z2, z3, z4, z5, z6, z7⟩ | ⟨z1, s1, I4, z2, z3, z4, z5⟩
        · obtain ⟨I5, r1, r2, r3, r4⟩ := m_ret3 (b := b) (w := (bs D C b f (left - 2) (sbrea D P b)).1) (n := (bs D C b f (left - 2) (sbrea D P b)).2.2) (by omega) (g3.fb z7) (hb8 _ _ (by omega)) (ha8 T) (by omega) z1 z6
          have f5 : Fbe d I I5 := (f3.trans (z7.mono (by omega))).trans r4
          have hstp : ∀ N, x11_layBest_L20 (Int32.ofNat b) (N + (1 + s1 + 1)) (Int32.ofNat d) g I = x11_layBest_L20 (Int32.ofNat b) N (Int32.ofNat d) (Int32.ofNat (bs D C b f (left - 2) (sbrea D P b)).1) I5 := fun N => by
            rw [show N + (1 + s1 + 1) = (N + 1 + s1) + 1 by omega, hstep, z3, q_ps, r1]
          have elk : (bfold (bs D C b f) D C b left P 51).2.2 = (bfold (bs D C b f) D C b left P T).2.2 + (bs D C b f (left - 2) (sbrea D P b)).2.2 := by rw [hbs]; rfl
          have hfin := ih 0 (by omega) 51 I5 (Int32.ofNat (bs D C b f (left - 2) (sbrea D P b)).1) (by omega) (f5.rd hR) (by rw [hbs]; exact r2) (by rw [r3, elk, Nat.add_assoc]) (by rw [elk]; omega)
          exact Oc.pre hstp (by rw [elk]; omega) f5 hfin
        · refine Or.inr ⟨by rw [hbs]; simp only [badd]; omega, s1 + 1, I4, by omega, fun N => ?_, z4, f3.trans (z5.mono (by omega))⟩
          rw [show N + (s1 + 1) + 1 = (N + s1 + 1) + 1 by omega, hstep, z3]
      · have hb2 : (T' / 5 < nA D ∧ secn (T' % 5) ≤ left) ∧ scan D P b (T' / 5) (T' % 5) = true := by simpa only [bok, if_neg h50, Bool.and_eq_true, decide_eq_true_eq] using hok
        obtain ⟨⟨hTA, hTs⟩, hsc⟩ := hb2
        have hT5 : T' % 5 < 5 := Nat.mod_lt T' (by omega)
        obtain ⟨s1', s2', s3'⟩ := secn_k hT5
        have hbs : bfold (bs D C b f) D C b left P (T' + 1) = badd (bfold (bs D C b f) D C b left P T) T' (bval (bodd D C P b T') (bs D C b f (left - secn (T' % 5)) (bG P b T')).1 (bs D C b f (left - secn (T' % 5)) (bM D P b T')).1) ((bs D C b f (left - secn (T' % 5)) (bG P b T')).2.2 + (bs D C b f (left - secn (T' % 5)) (bM D P b T')).2.2) := by
          show bstep (bs D C b f) D C b left P T' (bfold (bs D C b f) D C b left P T') = _
          simp only [bstep, hok, if_true, if_neg h50, hsk]
        have hsp0 : OkP D (spsec P b (T' % 5)) := hP.psec hA hB hb
        have gw : Rh (wI I1 143 d 1) d P left T' 1 (bfold (bs D C b f) D C b left P T) := ⟨t6.1.w (by omega) (by omega), by rw [wI_c (by omega)]; exact t6.2.1, wI_at, by rw [wI_c (by omega)]; exact t6.2.2.2.1, by rw [wI_c (by omega)]; exact t6.2.2.2.2⟩
        have fw : Fbe d I (wI I1 143 d 1) := t8.w (by omega) (by omega) (by omega)
        obtain ⟨I2, m1, m2, m3⟩ := m_get hD (t5.w2 (c := 143) (i := d) (v := 1) (by omega)) hb hTA hT5
        have g2 := m3.rh gw
        have esub : I2 141 d - Int32.ofNat (secn (T' % 5)) = Int32.ofNat (left - secn (T' % 5)) := by rw [g2.1.2.1, q_sub hTs]
        obtain ⟨I3, d1, d2, d3, d4⟩ := m_deep (d := d + 1) (left := left - secn (T' % 5)) (by omega) m2
        rw [← esub] at d1
        have f3 : Fbe d I I3 := (fw.trans m3.fbe).trans (d4.mono (by omega))
        have g3 := g2.fb d4
        have e80 : I3 102 80 = Int32.ofNat (K0 + (bfold (bs D C b f) D C b left P T).2.2 + 1) := by rw [d3, m3.2 80 (by omega) (by omega), wI_c (by omega), t7, q_addn]
        have hstep : ∀ N, x11_layBest_L20 (Int32.ofNat b) (N + 1) (Int32.ofNat d) g I = x11_layBest_L20 (Int32.ofNat b) N (Int32.ofNat (d + 1)) g I3 := fun N => t11 (by omega) N g I2 I3 m1 d1
        have hup := bfold_mono (re := bs D C b f) (D := D) (C := C) (b := b) (left := left) (P := P) (T' + 1) (51 - (T' + 1))
        rw [show T' + 1 + (51 - (T' + 1)) = 51 by omega] at hup
        have elk : (bfold (bs D C b f) D C b left P (T' + 1)).2.2 = (bfold (bs D C b f) D C b left P T).2.2 + ((bs D C b f (left - secn (T' % 5)) (bG P b T')).2.2 + (bs D C b f (left - secn (T' % 5)) (bM D P b T')).2.2) := by rw [hbs]; rfl
        have hg1 := bs_1 (D := D) (C := C) (b := b) f (left - secn (T' % 5)) (bG P b T')
        have hm1 := bs_1 (D := D) (C := C) (b := b) f (left - secn (T' % 5)) (bM D P b T')
        rcases hFR (left - secn (T' % 5)) (d + 1) _ (bG P b T') I3 g (by omega) (by omega) (hsp0.get hA hB hb hTA) (f3.rd hR) d2 e80 hK with ⟨z1, s1, I4, z2, z3, z4, z5, z6, z7⟩ | ⟨z1, s1, I4, z2, z3, z4, z5⟩
        · have f4 : Fbe d I I4 := f3.trans (z7.mono (by omega))
          obtain ⟨I5, r1, r2, r3, r4, r5, r6⟩ := m_ret1 (v := (bs D C b f (left - secn (T' % 5)) (bG P b T')).1) hD hb (by omega) (f4.rd hR) hP (g3.fb z7) hTA hTs (by omega) hsc z1 z6
          have f5 := f4.trans r6
          rcases hFR (left - secn (T' % 5)) (d + 1) _ (bM D P b T') I5 (Int32.ofNat (bs D C b f (left - secn (T' % 5)) (bG P b T')).1) (by omega) (by omega) (hsp0.miss hD hb hTA) (f5.rd hR) r2 r5 z1 with ⟨y1, u1, I6, y2, y3, y4, y5, y6, y7⟩ | ⟨y1, u1, I6, y2, y3, y4, y5⟩
          · have f6 : Fbe d I I6 := f5.trans (y7.mono (by omega))
            obtain ⟨I7, x1, x2, x3, x4⟩ := m_ret2 (v := (bs D C b f (left - secn (T' % 5)) (bG P b T')).1) (w := (bs D C b f (left - secn (T' % 5)) (bM D P b T')).1) (n := (bs D C b f (left - secn (T' % 5)) (bG P b T')).2.2 + (bs D C b f (left - secn (T' % 5)) (bM D P b T')).2.2) hD hb (by omega) (f6.rd hR) (r3.fb y7) (by rw [y7.at (by omega) (by omega)]; exact r4) (hb8 _ _ (by omega)) (hb8 _ _ (by omega)) (ha8 T) hTA y1 y6
            have f7 := f6.trans x4
            have hstp : ∀ N, x11_layBest_L20 (Int32.ofNat b) (N + (1 + u1 + 1 + s1 + 1)) (Int32.ofNat d) g I = x11_layBest_L20 (Int32.ofNat b) N (Int32.ofNat d) (Int32.ofNat (bs D C b f (left - secn (T' % 5)) (bM D P b T')).1) I7 := fun N => by
              rw [show N + (1 + u1 + 1 + s1 + 1) = (((N + 1) + u1) + 1 + s1) + 1 by omega, hstep, z3, q_ps, r1, y3, q_ps, x1]
            have hfin := ih (51 - (T' + 1)) (by omega) (T' + 1) I7 (Int32.ofNat (bs D C b f (left - secn (T' % 5)) (bM D P b T')).1) (by omega) (f7.rd hR) (by rw [hbs]; exact x2) (by rw [x3, elk, Nat.add_assoc, Nat.add_assoc]) (by rw [elk]; omega)
            exact Oc.pre hstp (by rw [elk]; omega) f7 hfin
          · refine Or.inr ⟨by omega, u1 + 1 + s1 + 1, I6, by omega, fun N => ?_, y4, f5.trans (y5.mono (by omega))⟩
            rw [show N + (u1 + 1 + s1 + 1) + 1 = ((N + u1 + 1) + 1 + s1) + 1 by omega, hstep, z3, q_ps, r1, y3]
        · refine Or.inr ⟨by omega, s1 + 1, I4, by omega, fun N => ?_, z4, f3.trans (z5.mono (by omega))⟩
          rw [show N + (s1 + 1) + 1 = (N + s1 + 1) + 1 by omega, hstep, z3]
theorem m_stop {K : Nat} (hd : d < 16) (hK : 20000 < K) (hK2 : K < 2147483648) (h80 : I 102 80 = Int32.ofNat K) (N : Nat) (g : Int32) : x11_layBest_L20 (Int32.ofNat b) (N + 1) (Int32.ofNat d) g I = some I := by
  have ek : (20000 : Int32) < Int32.ofNat K := by rw [show (20000 : Int32) = Int32.ofNat 20000 from rfl, q_lt (by omega) (by omega)]; omega
  have ed : (Int32.ofNat d < 0) = False := q_neg (by omega)
  simp only [x11_layBest_L20, x11_layBest_L20s, ed, if_false, h80, if_pos ek]
theorem m_frm (hD : OkD D C) (hb : b < nB D) : ∀ f, FRM D C b f
  | 0 => fun left d K P I g hl hdl hP hR hp h80 hK => by
    obtain rfl : left = 0 := by omega
    by_cases h20 : K + 1 ≤ 20000
    · have := m_pos (f := 0) (K0 := K) hD hb (fun h => by omega) (by omega) hdl hP 51 0 I g (by omega) hR hp h80 h20
      have e1 : bfold (bs D C b 0) D C b 0 P 51 = (0, none, 1) := bs_0 (D := D) (C := C) (b := b) (P := P) 1
      rw [e1] at this
      exact this
    · have hk1 : K + 1 = 20001 := by omega
      refine Or.inr ⟨by rw [bs_0]; show 20000 < K + 1; omega, 0, I, by omega, fun N => m_stop (by omega) (show 20000 < K + 1 by omega) (by omega) h80 N g, by rw [h80, hk1], Fbe.refl⟩
  | f + 1 => fun left d K P I g hl hdl hP hR hp h80 hK => by
    by_cases h20 : K + 1 ≤ 20000
    · exact m_pos (f := f) (K0 := K) hD hb (fun _ => m_frm hD hb f) hl hdl hP 51 0 I g (by omega) hR hp h80 h20
    · have hk1 : K + 1 = 20001 := by omega
      have := bs_1 (D := D) (C := C) (b := b) (f + 1) left P
      exact Or.inr ⟨by omega, 0, I, by omega, fun N => m_stop (by omega) (show 20000 < K + 1 by omega) (by omega) h80 N g, by rw [h80, hk1], Fbe.refl⟩
end RB
