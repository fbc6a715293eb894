/-! CALLS, 44: the best alone, in the reference: steps -/
def br (o : Option Nat) : Int32 := o.elim (-1) Int32.ofNat
def Rf (I : MI) (d : Nat) (P : PR) (left : Nat) : Prop := (∀ k, k < 123 → I 140 (128 * d + k) = P k) ∧ I 141 d = Int32.ofNat left ∧ (∀ b, b < 4 → I 130 b = P (123 + b)) ∧ (∀ b, b < 4 → I 131 b = P (127 + b))
def Fbe (d : Nat) (I I' : MI) : Prop := (∀ c, c ≠ 137 → c ≠ 111 → c ≠ 102 → (c < 140 ∨ 146 < c) → I' c = I c) ∧ (∀ j, j ≠ 68 → j ≠ 69 → j ≠ 80 → I' 102 j = I 102 j) ∧ (∀ i, i < 128 * d → I' 140 i = I 140 i) ∧ (∀ c i, 141 ≤ c → c ≤ 146 → i < d → I' c i = I c i)
def Rp (I : MI) (d : Nat) (P : PR) (left T : Nat) (a : BA) : Prop := Rf I d P left ∧ I 142 d = Int32.ofNat T - 1 ∧ I 143 d = 0 ∧ I 145 d = Int32.ofNat a.1 ∧ I 146 d = br a.2.1
section RB
variable {D : TD} {C : TC} {P Q : PR} {I I' I'' : MI} {b d left T K : Nat} {a : BA}
theorem Fbe.refl : Fbe d I I := ⟨fun _ _ _ _ _ => rfl, fun _ _ _ _ => rfl, fun _ _ => rfl, fun _ _ _ _ _ => rfl⟩
theorem Fbe.trans (h : Fbe d I I') (k : Fbe d I' I'') : Fbe d I I'' := ⟨fun c h1 h2 h3 h4 => (k.1 c h1 h2 h3 h4).trans (h.1 c h1 h2 h3 h4), fun j h1 h2 h3 => (k.2.1 j h1 h2 h3).trans (h.2.1 j h1 h2 h3), fun i hi => (k.2.2.1 i hi).trans (h.2.2.1 i hi), fun c i h1 h2 h3 => (k.2.2.2 c i h1 h2 h3).trans (h.2.2.2 c i h1 h2 h3)⟩
theorem Fbe.mono {d' : Nat} (h : Fbe d I I') (hd : d' ≤ d) : Fbe d' I I' := ⟨h.1, h.2.1, fun i hi => h.2.2.1 i (by omega), fun c i h1 h2 h3 => h.2.2.2 c i h1 h2 (by omega)⟩
theorem Fm.fbe (h : Fm I I') : Fbe d I I' := ⟨fun c h1 h2 h3 _ => h.1 c h1 h2 h3, fun j h1 h2 _ => h.2 j h1 h2, fun i _ => by rw [h.1 140 (by omega) (by omega) (by omega)], fun c i h1 h2 _ => by rw [h.1 c (by omega) (by omega) (by omega)]⟩
theorem Fbe.w {c i : Nat} {v : Int32} (h : Fbe d I I') (h1 : 141 ≤ c) (h2 : c ≤ 146) (h3 : d ≤ i) : Fbe d I (wI I' c i v) := ⟨fun a g1 g2 g3 g4 => by rw [wI_c (by omega)]; exact h.1 a g1 g2 g3 g4, fun j g1 g2 g3 => by rw [wI_c (by omega)]; exact h.2.1 j g1 g2 g3, fun j hj => by rw [wI_c (by omega)]; exact h.2.2.1 j hj, fun a j g1 g2 g3 => by rw [wI_ne (by omega)]; exact h.2.2.2 a j g1 g2 g3⟩
theorem Fbe.w80 {v : Int32} (h : Fbe d I I') : Fbe d I (wI I' 102 80 v) := ⟨fun a g1 g2 g3 g4 => by rw [wI_c g3]; exact h.1 a g1 g2 g3 g4, fun j g1 g2 g3 => by rw [wI_ne (by omega)]; exact h.2.1 j g1 g2 g3, fun j hj => by rw [wI_c (by omega)]; exact h.2.2.1 j hj, fun a j g1 g2 g3 => by rw [wI_c (by omega)]; exact h.2.2.2 a j g1 g2 g3⟩
theorem Fbe.rd (h : Fbe d I I') (hR : Rd I D C) : Rd I' D C := Rd.fr3 (fun c hc => h.1 c (by omega) (by omega) (by omega) (by omega)) (fun j h1 h2 => h.2.1 j (by omega) (by omega) (by omega)) hR
theorem Fbe.kr (h : Fbe d I I') : Kr I I' := ⟨fun c hc => h.1 c (by omega) (by omega) (by omega) (by omega), h.2.1⟩
theorem Fbe.rf (h : Fbe (d + 1) I I') (hR : Rf I d P left) : Rf I' d P left := ⟨fun k hk => by rw [h.2.2.1 _ (by omega)]; exact hR.1 k hk, by rw [h.2.2.2 141 d (by omega) (by omega) (by omega)]; exact hR.2.1, fun b hb => by rw [h.1 130 (by omega) (by omega) (by omega) (by omega)]; exact hR.2.2.1 b hb, fun b hb => by rw [h.1 131 (by omega) (by omega) (by omega) (by omega)]; exact hR.2.2.2 b hb⟩
theorem Rf.fm (h : Fm I I') (hR : Rf I d P left) : Rf I' d P left := Fbe.rf h.fbe hR
theorem Rf.w {c i : Nat} {v : Int32} (h1 : 142 ≤ c) (h2 : c ≤ 146) (hR : Rf I d P left) : Rf (wI I c i v) d P left := ⟨fun k hk => by rw [wI_c (by omega)]; exact hR.1 k hk, by rw [wI_c (by omega)]; exact hR.2.1, fun b hb => by rw [wI_c (by omega)]; exact hR.2.2.1 b hb, fun b hb => by rw [wI_c (by omega)]; exact hR.2.2.2 b hb⟩
theorem Wr.w2 {c i : Nat} {v : Int32} (h1 : 141 ≤ c) (hW : Wr I P) : Wr (wI I c i v) P := ⟨fun k hk => by rw [wI_c (by omega)]; exact hW.1 k hk, fun b hb => by rw [wI_c (by omega)]; exact hW.2.1 b hb, fun b hb => by rw [wI_c (by omega)]; exact hW.2.2 b hb⟩
theorem m_loadRow (hd : d < 16) (hR : Rf I d P left) : ∃ I', x11_loadRow (Int32.ofNat d) I = some I' ∧ Wr I' P ∧ Fm I I' := by
  obtain ⟨I', h1, h2, -, h4⟩ := m_rowL0 hd 123 0 FU I (by omega) (by unfold FU; omega)
  rw [show Int32.ofNat 0 = 0 from rfl] at h1
  refine ⟨I', by simp only [x11_loadRow, QB, h1], ⟨fun k hk => by rw [h2 k (by omega) hk]; exact hR.1 k hk, fun b hb => by rw [h4 130 (by omega)]; exact hR.2.2.1 b hb, fun b hb => by rw [h4 131 (by omega)]; exact hR.2.2.2 b hb⟩, Fm.of137 h4⟩
theorem m_deep (hd : d < 16) (hW : Wr I P) : ∃ I', x11_goDeeper (Int32.ofNat d) (Int32.ofNat left) I = some I' ∧ Rp I' d P left 0 (0, none, 1) ∧ I' 102 80 = I 102 80 + 1 ∧ Fbe d I I' := by
  obtain ⟨I1, h1, h2, h3, h4⟩ := m_deepL hd 123 0 FU I (by omega) (by unfold FU; omega)
  rw [show Int32.ofNat 0 = 0 from rfl] at h1
  have f1 : Fbe d I I1 := ⟨fun c g1 g2 g3 g4 => h4 c (by omega), fun j _ _ _ => by rw [h4 102 (by omega)], fun i hi => h3 i (fun k _ _ => by omega), fun c i g1 g2 g3 => by rw [h4 c (by omega)]⟩
  refine ⟨wI (wI (wI (wI (wI (wI I1 141 d (Int32.ofNat left)) 142 d (-1)) 143 d 0) 145 d 0) 146 d (-1)) 102 80 (I 102 80 + 1), ?_, ⟨⟨fun k hk => ?_, ?_, fun b hb => ?_, fun b hb => ?_⟩, ?_, ?_, ?_, ?_⟩, wI_at, (((((f1.w (by omega) (by omega) (by omega)).w (by omega) (by omega) (by omega)).w (by omega) (by omega) (by omega)).w (by omega) (by omega) (by omega)).w (by omega) (by omega) (by omega)).w80⟩
  · have e80 : wI (wI (wI (wI (wI I1 141 d (Int32.ofNat left)) 142 d (-1)) 143 d 0) 145 d 0) 146 d (-1) 102 80 = I 102 80 := by
      rw [wI_c (by omega), wI_c (by omega), wI_c (by omega), wI_c (by omega), wI_c (by omega), h4 102 (by omega)]
    simp (disch := omega) only [x11_goDeeper, QB, h1, QN, e80]
  · rw [wI_c (by omega), wI_c (by omega), wI_c (by omega), wI_c (by omega), wI_c (by omega), wI_c (by omega), h2 k (by omega) hk]; exact hW.1 k hk
  · rw [wI_c (by omega), wI_c (by omega), wI_c (by omega), wI_c (by omega), wI_c (by omega), wI_at]
  · rw [wI_c (by omega), wI_c (by omega), wI_c (by omega), wI_c (by omega), wI_c (by omega), wI_c (by omega), h4 130 (by omega)]; exact hW.2.1 b hb
  · rw [wI_c (by omega), wI_c (by omega), wI_c (by omega), wI_c (by omega), wI_c (by omega), wI_c (by omega), h4 131 (by omega)]; exact hW.2.2 b hb
  · rw [wI_c (by omega), wI_c (by omega), wI_c (by omega), wI_c (by omega), wI_at]; rfl
  · rw [wI_c (by omega), wI_c (by omega), wI_c (by omega), wI_at]
  · rw [wI_c (by omega), wI_c (by omega), wI_at]; rfl
  · rw [wI_c (by omega), wI_at]; rfl
theorem m_mayGo (hD : OkD D C) (hb : b < nB D) (hd : d < 16) (hl : left ≤ 8) (hR : Rd I D C) (hW : Wr I P) (h1 : I 141 d = Int32.ofNat left) (hT : T ≤ 50) : ∃ I', x11_mayGo (Int32.ofNat b) (Int32.ofNat d) (Int32.ofNat T) I = some (b2i (bok D b left P T), I') ∧ Fq I I' := by
  have hA := hD.a
  have hB := hD.b
  by_cases h50 : T = 50
  · subst h50
    have e1 : I 137 (50 + 3 * b) = P (50 + 3 * b) := hW.1 _ (by omega)
    have e2 : I 133 b = D 10 b := (hR.2.2.1 b hb).2.1
    refine ⟨I, ?_, Fq.refl⟩
    simp (disch := omega) only [x11_mayGo, QN, QB, if_true, h1, e1, e2, bok]
    by_cases g1 : left < 2
    · rw [if_pos g1]
      simp [show ¬ 2 ≤ left by omega, b2i]
    · rw [if_neg g1]
      by_cases g2 : P (50 + 3 * b) < D 10 b
      · simp [g2, show 2 ≤ left by omega, b2i]
      · simp [g2, b2i]
  · have hT5 : T % 5 < 5 := Nat.mod_lt T (by omega)
    obtain ⟨s1, s2, s3⟩ := secn_k hT5
    simp (disch := omega) only [x11_mayGo, QN, QB, if_neg h50, hR.1.2.2.2.1, hD.2.1.1.1, h1, m_sec hT5, s1, bok]
    by_cases g1 : T / 5 < nA D
    · by_cases g2 : left < secn (T % 5)
      · refine ⟨I, ?_, Fq.refl⟩
        rw [if_pos g1, if_pos g2]
        simp [show ¬ secn (T % 5) ≤ left by omega, b2i]
      · obtain ⟨I', c1, c2⟩ := m_canTry hD hR hW hb g1 hT5
        refine ⟨I', ?_, c2⟩
        rw [if_pos g1, if_neg g2]
        simp only [c1, QB, b2i_0]
        cases hsc : scan D P b (T / 5) (T % 5) with
        | true => simp [g1, show secn (T % 5) ≤ left by omega, b2i]
        | false => simp [b2i]
    · refine ⟨I, ?_, Fq.refl⟩
      rw [if_neg g1]
      simp [g1, b2i]
theorem m_scanL (hD : OkD D C) (hb : b < nB D) (hd : d < 16) (hl : left ≤ 8) : ∀ (j w fu : Nat) (I : MI), w + j = 51 → j < fu → Rd I D C → Wr I P → I 141 d = Int32.ofNat left → ∃ T I', w ≤ T ∧ T ≤ 51 ∧ (∀ u, w ≤ u → u < T → bok D b left P u = false) ∧ (T = 51 ∨ bok D b left P T = true) ∧ x11_layBest_L124 (Int32.ofNat b) (Int32.ofNat d) fu (Int32.ofNat w) I = some (Int32.ofNat T, I') ∧ Fq I I' := by
  intro j
  induction j with
  | zero =>
    intro w fu I hw hfu hR hW h1
    obtain ⟨fu, rfl⟩ : ∃ n', fu = n' + 1 := ⟨fu - 1, by omega⟩
    obtain rfl : w = 51 := by omega
    refine ⟨51, I, by omega, by omega, fun u _ _ => by omega, Or.inl rfl, ?_, Fq.refl⟩
    simp only [x11_layBest_L124, x11_layBest_L124s]
    rw [if_pos (by decide)]
  | succ j ih =>
    intro w fu I hw hfu hR hW h1
    obtain ⟨fu, rfl⟩ : ∃ n', fu = n' + 1 := ⟨fu - 1, by omega⟩
    obtain ⟨I1, a1, a2⟩ := m_mayGo hD hb hd hl hR hW h1 (show w ≤ 50 by omega)
    cases hk : bok D b left P w with
    | true =>
      refine ⟨w, I1, Nat.le_refl _, by omega, fun u _ _ => by omega, Or.inr hk, ?_, a2⟩
      rw [hk] at a1
      simp (disch := omega) only [x11_layBest_L124, x11_layBest_L124s, QN, if_neg (show ¬ 50 < w by omega), a1, QB, b2i_0, if_true]
    | false =>
      obtain ⟨T, I', c1, c2, c3, c4, c5, c6⟩ := ih (w + 1) fu I1 (by omega) (by omega) (a2.m.rd hR) (a2.wr hW) (by rw [a2.1 141 (by omega) (by omega)]; exact h1)
      refine ⟨T, I', by omega, c2, fun u g1 g2 => ?_, c4, ?_, a2.trans c6⟩
      · by_cases e : u = w
        · subst e; exact hk
        · exact c3 u (by omega) g2
      · rw [hk] at a1
        simp (disch := omega) only [x11_layBest_L124, x11_layBest_L124s, QN, if_neg (show ¬ 50 < w by omega), a1, QB, b2i_0, Bool.false_eq_true, if_false]
        exact c5
/-- what of a frame stays while one looks deeper -/
def Rh (I : MI) (d : Nat) (P : PR) (left T : Nat) (ph : Int32) (a : BA) : Prop := Rf I d P left ∧ I 142 d = Int32.ofNat T ∧ I 143 d = ph ∧ I 145 d = Int32.ofNat a.1 ∧ I 146 d = br a.2.1
theorem Rh.fb {ph : Int32} (h : Rh I d P left T ph a) (k : Fbe (d + 1) I I') : Rh I' d P left T ph a := ⟨k.rf h.1, by rw [k.2.2.2 142 d (by omega) (by omega) (by omega)]; exact h.2.1, by rw [k.2.2.2 143 d (by omega) (by omega) (by omega)]; exact h.2.2.1, by rw [k.2.2.2 145 d (by omega) (by omega) (by omega)]; exact h.2.2.2.1, by rw [k.2.2.2 146 d (by omega) (by omega) (by omega)]; exact h.2.2.2.2⟩
theorem Fm.rh {ph : Int32} (k : Fm I I') (h : Rh I d P left T ph a) : Rh I' d P left T ph a := h.fb k.fbe
/-- the next one, of those that may be -/
theorem m_next (hD : OkD D C) (hb : b < nB D) (hd : d < 16) (hl : left ≤ 8) (hR : Rd I D C) (h : Rp I d P left T a) (hT : T ≤ 51) (hK : K ≤ 20000) (h80 : I 102 80 = Int32.ofNat K) : ∃ T' I', T ≤ T' ∧ T' ≤ 51 ∧ (∀ u, T ≤ u → u < T' → bok D b left P u = false) ∧ (T' = 51 ∨ bok D b left P T' = true) ∧ Wr I' P ∧ Rh I' d P left T' 0 a ∧ I' 102 80 = Int32.ofNat K ∧ Fbe d I I' ∧ (T' = 51 → ∀ N g, x11_layBest_L20 (Int32.ofNat b) (N + 1) (Int32.ofNat d) g I = x11_layBest_L20 (Int32.ofNat b) N (Int32.ofNat d - 1) (Int32.ofNat a.1) I') ∧ (T' = 50 → ∀ N g I2 I3, x11_breathes (Int32.ofNat b) (wI I' 143 d 3) = some I2 → x11_goDeeper (Int32.ofNat (d + 1)) ((I2 141 d) - 2) I2 = some I3 → x11_layBest_L20 (Int32.ofNat b) (N + 1) (Int32.ofNat d) g I = x11_layBest_L20 (Int32.ofNat b) N (Int32.ofNat (d + 1)) g I3) ∧ (T' < 50 → ∀ N g I2 I3, x11_get (Int32.ofNat b) (Int32.ofNat (T' / 5)) (Int32.ofNat (T' % 5)) (wI I' 143 d 1) = some I2 → x11_goDeeper (Int32.ofNat (d + 1)) ((I2 141 d) - Int32.ofNat (secn (T' % 5))) I2 = some I3 → x11_layBest_L20 (Int32.ofNat b) (N + 1) (Int32.ofNat d) g I = x11_layBest_L20 (Int32.ofNat b) N (Int32.ofNat (d + 1)) g I3) := by
  obtain ⟨hf, h2, h3, h5, h6⟩ := h
  obtain ⟨I1, l1, l2, l3⟩ := m_loadRow hd hf
  have e141 : I1 141 = I 141 := l3.1 141 (by omega) (by omega) (by omega)
  have e142 : I1 142 d = Int32.ofNat T - 1 := by rw [l3.1 142 (by omega) (by omega) (by omega)]; exact h2
  have e143 : I1 143 d = 0 := by rw [l3.1 143 (by omega) (by omega) (by omega)]; exact h3
  obtain ⟨T', I2, c1, c2, c3, c4, c5, c6⟩ := m_scanL hD hb hd hl (51 - T) T FU I1 (by omega) (by unfold FU; omega) (l3.rd hR) l2 (by rw [e141]; exact hf.2.1)
  have f2 := l3.trans c6.m
  have e145 : wI I2 142 d (Int32.ofNat T') 145 d = Int32.ofNat a.1 := by rw [wI_c (by omega), f2.1 145 (by omega) (by omega) (by omega)]; exact h5
  have hrun : ∀ N g, x11_layBest_L20 (Int32.ofNat b) (N + 1) (Int32.ofNat d) g I = (lt (wI I2 142 d (Int32.ofNat T')) fun I27 => if 50 < Int32.ofNat T' then lt (I27 145 d) (fun v43 => x11_layBest_L20 (Int32.ofNat b) N (Int32.ofNat d + (-1)) v43 I27) else if Int32.ofNat T' = 50 then (lt (wI I27 143 d (3 : Int32)) fun I36 => b1 (x11_breathes (Int32.ofNat b) I36) fun I38 => b1 (x11_goDeeper (Int32.ofNat d + 1) ((I38 141 d) - 2) I38) fun I40 => lt (Int32.ofNat d + 1) fun v41 => x11_layBest_L20 (Int32.ofNat b) N v41 g I40) else (lt (wI I27 143 d (1 : Int32)) fun I29 => b1 (x11_get (Int32.ofNat b) (Int32.ofNat T' / 5) (rm (Int32.ofNat T') 5) I29) fun I31 => b1 (x11_seconds (rm (Int32.ofNat T') 5) I31) fun r33 => b1 (x11_goDeeper (Int32.ofNat d + 1) ((I31 141 d) - r33) I31) fun I34 => lt (Int32.ofNat d + 1) fun v35 => x11_layBest_L20 (Int32.ofNat b) N v35 g I34)) := by
    intro N g
    have ek : ¬ (20000 : Int32) < Int32.ofNat K := by rw [show (20000 : Int32) = Int32.ofNat 20000 from rfl, q_lt (by omega) (by omega)]; omega
    have ed : (Int32.ofNat d < 0) = False := q_neg (by omega)
    have ei : vp_in (Int32.ofNat d) 16 = True := q_in hd (by omega)
    have ex : (Int32.ofNat d).toNatClampNeg = d := q_ix (by omega)
    have e10 : ((0 : Int32) = 1) = False := by simp
    simp only [x11_layBest_L20, x11_layBest_L20s, ed, if_false, h80, if_neg ek, l1, q_b1, q_l, ei, q_ck, ex, e142, e143, e10, if_true, q_p1, c5]
  have hW2 : Wr I2 P := c6.wr l2
  refine ⟨T', wI I2 142 d (Int32.ofNat T'), c1, c2, c3, c4, hW2.w2 (by omega), ⟨(hf.fm f2).w (by omega) (by omega), wI_at, ?_, e145, ?_⟩, ?_, (f2.fbe).w (by omega) (by omega) (by omega), fun hT' N g => ?_, fun hT' N g I3 I4 hI3 hI4 => ?_, fun hT' N g I3 I4 hI3 hI4 => ?_⟩
  · rw [wI_c (by omega), f2.1 143 (by omega) (by omega) (by omega)]; exact h3
  · rw [wI_c (by omega), f2.1 146 (by omega) (by omega) (by omega)]; exact h6
  · rw [wI_c (by omega), f2.2 80 (by omega) (by omega)]; exact h80
  · rw [hrun, hT']
    simp only [q_l]
    rw [if_pos (by decide), q_pm, ← hT', e145]
  · rw [hrun, hT']
    simp only [q_l]
    rw [if_neg (by decide), if_pos (by decide), ← hT', hI3]
    simp only [q_b1, q_addn, hI4]
  · rw [hrun]
    simp (disch := omega) only [QN, QB, if_neg (show ¬ 50 < T' by omega), if_neg (show ¬ T' = 50 by omega), hI3, m_sec (Nat.mod_lt T' (show 5 > 0 by omega)), (secn_k (Nat.mod_lt T' (show 5 > 0 by omega))).1, hI4]
end RB
