/-! THE CLASS'S PLAY, 2: kinds, sight, formulas, choice -/
theorem q_pre {n : Nat} (h : n < 2147483648) : (Int32.ofNat n - 1).toInt = (n : Int) - 1 := by
  rw [Int32.toInt_sub, Int32.toInt_ofNat_of_lt (by omega), show (1 : Int32).toInt = 1 from rfl]
  exact Int.bmod_eq_of_le (by omega) (by omega)
theorem q_p1 {n : Nat} : Int32.ofNat n - 1 + 1 = Int32.ofNat n := by simp [Int32.sub_eq_add_neg, Int32.add_assoc]
theorem q_ps {n : Nat} : Int32.ofNat (n + 1) - 1 = Int32.ofNat n := by
  rw [Int32.ofNat_add]; simp [Int32.sub_eq_add_neg, Int32.add_assoc]
theorem q_plt {n k : Nat} (h : n < 2147483647) (hk : (OfNat.ofNat k : Nat) < 2147483647) : (Int32.ofNat n - 1 < (no_index (OfNat.ofNat k : Int32))) = (n < (OfNat.ofNat k : Nat) + 1) := by
  have hk' : k < 2147483647 := hk
  rw [Int32.lt_iff_toInt_lt, q_pre (by omega)]
  have e2 : (OfNat.ofNat k : Int32).toInt = (k : Int) := Int32.toInt_ofNat_of_lt (n := k) (by omega)
  rw [e2]
  show _ = (n < k + 1)
  exact propext ⟨fun h => by omega, fun h => by omega⟩
section CR
variable {D : TD} {C : TC} {m : Bool} {t q : Nat} {P : PR} {I : MI} {b a k : Nat}
theorem c_allows (hD : OkD D C) (hT : Td I t D C) (hR : Rl D m I q P) (hP : OkP D P) (hq : isq t q) (hb : b < nB D) (ha : a < nA D) (hk : k < 5) : ∃ I', x1_allows t q (Int32.ofNat b) (Int32.ofNat a) (Int32.ofNat k) I = some (b2i (decide (¬ P (50 + 3 * b) < sbr k) && (decide (k ≠ 1) || decide (D 5 a = 1)) && (decide (k ≠ 2) || srim D (P (5 * a)) (P (5 * a + 1))) && (decide (k ≠ 4) || slean D P b a)), I') ∧ ∀ c, c ≠ 27 → I' c = I c := by
  have ra := hR.1 a ha
  have rb := hR.2.1 b hb
  have h1 := hD.a
  have h2 := hD.b
  have e5 := hT.2.1 5 a (by omega) (by omega) ha
  by_cases g0 : P (50 + 3 * b) < sbr k
  · refine ⟨I, ?_, fun _ _ => rfl⟩
    simp (disch := omega) only [x1_allows, QB, QN, rb.2.2]
    rw [show (([0, 0, 1, 3, 0] : List Int32).getD k 0) = sbr k from rfl, if_pos g0]
    simp [g0, b2i]
  · have g0' : (P (50 + 3 * b) < ([0, 0, 1, 3, 0] : List Int32).getD k 0) = False := eq_false g0
    have hk5 : k = 0 ∨ k = 1 ∨ k = 2 ∨ k = 3 ∨ k = 4 := by omega
    by_cases hk4 : k = 4
    · subst hk4
      have hf : ∀ c, c ≠ 27 → wI (wI I 27 2 (swx P b a)) 27 3 (swy P b a) c = I c := fun c hc => by rw [wI_c hc, wI_c hc]
      obtain ⟨ht, hq47⟩ := hq
      have hR' : Rl D m (wI (wI I 27 2 (swx P b a)) 27 3 (swy P b a)) q P := hR.fr (fun c h1 h2 => hf c (by omega))
      have hT' : Td (wI (wI I 27 2 (swx P b a)) 27 3 (swy P b a)) t D C := hT.fr ⟨ht, hq47⟩ (fun c g1 _ _ _ => hf c g1)
      have ra' := hR'.1 a ha
      have hx : ∀ x y, x1_appleIn t q x y (wI (wI I 27 2 (swx P b a)) 27 3 (swy P b a)) = some (oi (sat P x y (nA D))) := fun x y => c_appleIn hD hT' hR' hP x y
      have w2 : wI (wI I 27 2 (swx P b a)) 27 3 (swy P b a) 27 2 = swx P b a := by simp [wI]
      have w3 : wI (wI I 27 2 (swx P b a)) 27 3 (swy P b a) 27 3 = swy P b a := by simp [wI]
      refine ⟨_, ?_, hf⟩
      simp (disch := omega) only [x1_allows, QB, QN, rb.2.2, g0', if_false, c_aim hD hR hP hb ha, w2, w3, ra'.1, ra'.2.1, hx]
      simp only [oi_m1 h1]
      by_cases g1 : sdx P b a = 0 ∧ sdy P b a = 0
      · have := sway_zero g1
        simp [g0, g1.1, g1.2, this.1, this.2, slean, b2i]
      · have hw := sway_ne (sway_isw hD hP hb ha g1)
        have g0 : ¬ P (50 + 3 * b) < sbr 4 := g0
        cases hs : sat P (P (5 * a) + swx P b a) (P (5 * a + 1) + swy P b a) (nA D) <;>
        by_cases g2 : swx P b a = 0 <;> by_cases g3 : swy P b a = 0 <;> simp_all [slean, b2i]
    · refine ⟨I, ?_, fun _ _ => rfl⟩
      rcases hk5 with rfl | rfl | rfl | rfl | rfl
      · simp (disch := omega) only [x1_allows, QB, QN, rb.2.2, g0', if_false]
        simp [g0, b2i]
      · simp (disch := omega) only [x1_allows, QB, QN, rb.2.2, g0', if_false, e5]
        by_cases g1 : D 5 a = 1 <;> simp [g0, g1, b2i]
      · simp (disch := omega) only [x1_allows, QB, QN, rb.2.2, g0', if_false, c_rim hT, ra.1, ra.2.1, b2i_or]
        simp [g0]
      · simp (disch := omega) only [x1_allows, QB, QN, rb.2.2, g0', if_false]
        simp [g0, b2i]
      · exact absurd rfl hk4
theorem c_canTry (hD : OkD D C) (hT : Td I t D C) (hR : Rl D m I q P) (hP : OkP D P) (hq : isq t q) (hb : b < nB D) (ha : a < nA D) (hk : k < 5) : ∃ I', x1_canTry t q (Int32.ofNat b) (Int32.ofNat a) (Int32.ofNat k) I = some (b2i (scan D P b a k), I') ∧ ∀ c, c ≠ 27 → I' c = I c := by
  obtain ⟨I', h1, h2⟩ := c_allows hD hT hR hP hq hb ha hk
  by_cases g : (decide (P (5 * a + 2) < 0) && decide (¬ D 9 b < sfar P b a)) = true
  · refine ⟨I', ?_, h2⟩
    simp only [x1_canTry, c_reaches hD hT hR hb ha, QB, b2i_0, g, if_true, h1, q_si]
    simp only [scan, g, Bool.true_and, Bool.and_assoc, q_pb]
    rfl
  · refine ⟨I, ?_, fun _ _ => rfl⟩
    simp only [x1_canTry, c_reaches hD hT hR hb ha, QB, b2i_0, g, if_false]
    have g : (decide (P (5 * a + 2) < 0) && decide (¬ D 9 b < sfar P b a)) = false := by simpa using g
    simp only [scan, g, Bool.false_and]
    rfl
theorem c_look (hD : OkD D C) (hT : Td I t D C) (hR : Rl D m I q P) (hq : isq t q) (hb : b < nB D) (ha : a < nA D) : ∃ I', x1_look t q (Int32.ofNat b) (Int32.ofNat a) I = some I' ∧ (∀ i, i < 10 → I' 46 i = sight D P b a 0 0 i) ∧ ∀ c, c ≠ 46 → I' c = I c := by
  have ra := hR.1 a ha
  have rb := hR.2.1 b hb
  have h1 := hD.a
  have h2 := hD.b
  have e4 := hT.2.1 4 a (by omega) (by omega) ha
  have e5 := hT.2.1 5 a (by omega) (by omega) ha
  have e11 := hT.2.2.1 11 b (by omega) (by omega) hb
  obtain ⟨ht, hq47⟩ := hq
  have n1 : q + 1 ≠ 46 := by omega
  have n2 : q + 2 ≠ 46 := by omega
  have n4 : q + 4 ≠ 46 := by omega
  have n8 : q + 8 ≠ 46 := by omega
  have t4 : t + 4 ≠ 46 := by rcases ht with h | h <;> omega
  have t5 : t + 5 ≠ 46 := by rcases ht with h | h <;> omega
  have t11 : t + 11 ≠ 46 := by rcases ht with h | h <;> omega
  have hr : ∀ (I' : MI), (∀ c, c ≠ 46 → I' c = I c) → ∀ x y, x8_isRim t x y I' = some (b2i (srim D x y)) := fun I' h x y => c_rim (C := C) (hT.fr ⟨ht, hq47⟩ (fun c _ h2 _ _ => h c h2)) x y
  have hf : ∀ (I' : MI), (∀ c, c ≠ 46 → I' c = I c) → x1_far q (Int32.ofNat b) (Int32.ofNat a) I' = some (sfar P b a) := fun I' h => c_far (m := m) hD (hR.fr (fun c h3 h4 => h c (by omega))) hb ha
  simp (disch := omega) only [x1_look, x1_hideTry, QB, QN, wI_c n1, wI_c n2, wI_c n4, wI_c n8, wI_c t4, wI_c t5, wI_c t11, ra.1, ra.2.1, ra.2.2.2.1, ra.2.2.2.2, rb.2.2, e4, e5, e11]
  rw [hr _ (fun c hc => by rw [wI_c hc, wI_c hc, wI_c hc])]
  simp only [QB, b2i_0]
  rw [hf _ (fun c hc => by rw [wI_c hc, wI_c hc, wI_c hc, wI_c hc])]
  simp only [QB]
  refine ⟨_, rfl, fun i hi => ?_, fun c hc => ?_⟩
  · have : i = 0 ∨ i = 1 ∨ i = 2 ∨ i = 3 ∨ i = 4 ∨ i = 5 ∨ i = 6 ∨ i = 7 ∨ i = 8 ∨ i = 9 := by omega
    rcases this with rfl | rfl | rfl | rfl | rfl | rfl | rfl | rfl | rfl | rfl <;> simp [wI, sight]
  · simp only [wI_c hc]
/-! formulas -/
def SR (I : MI) (c : Nat) : List Int32 → Prop
  | [] => True
  | v :: r => I c r.length = v ∧ SR I c r
theorem SR_w {I : MI} {c n : Nat} {v : Int32} : ∀ {st : List Int32}, st.length ≤ n → SR I c st → SR (wI I c n v) c st
  | [], _, _ => trivial
  | u :: r, h, ⟨h1, h2⟩ => ⟨by rw [wI_ne (Or.inr (by simp at h; omega))]; exact h1, SR_w (by simp at h; omega) h2⟩
theorem c_joined (s u v : Int32) (I : MI) : x0_joined s u v I = some (sdo s u v) := by
  simp only [x0_joined, sdo]
  by_cases h0 : s = 24
  · simp only [if_pos h0, q_si]
  rw [if_neg h0, if_neg h0]
  by_cases h1 : s = 37
  · rw [if_pos h1, if_pos h1]
    by_cases hv : v = 0
    · rw [if_pos hv, if_pos hv]
    · rw [if_neg hv, if_neg hv, ck_pos hv]
  rw [if_neg h1, if_neg h1]
  by_cases h2 : s = 42
  · rw [if_pos h2, if_pos h2]
  rw [if_neg h2, if_neg h2]
  by_cases h3 : s = 43
  · rw [if_pos h3, if_pos h3]
  rw [if_neg h3, if_neg h3]
  by_cases h4 : s = 45
  · rw [if_pos h4, if_pos h4]
  rw [if_neg h4, if_neg h4]
  by_cases h5 : s = 47
  · rw [if_pos h5, if_pos h5]
    by_cases hv : v = 0
    · rw [if_pos hv, if_pos hv]
    · rw [if_neg hv, if_neg hv, ck_pos hv]
  rw [if_neg h5, if_neg h5]
  simp only [q_si]
theorem sight_ix {s : Int32} (h1 : ¬ s < 10000) (h2 : s < 10010) : vp_in (s - 10000) 10 ∧ (s - 10000).toNatClampNeg < 10 := by
  have h3 : (s - 10000).toInt = s.toInt - 10000 := by
    rw [Int32.lt_iff_toInt_lt] at h1 h2
    rw [Int32.toInt_sub]
    exact Int.bmod_eq_of_le (by have : (10000 : Int32).toInt = 10000 := rfl; have : (10010 : Int32).toInt = 10010 := rfl; omega) (by have : (10000 : Int32).toInt = 10000 := rfl; have : (10010 : Int32).toInt = 10010 := rfl; omega)
  rw [Int32.lt_iff_toInt_lt] at h1 h2
  have e1 : (10000 : Int32).toInt = 10000 := rfl
  have e2 : (10010 : Int32).toInt = 10010 := rfl
  have h4 : (s - 10000).toNatClampNeg < 10 := by
    rw [← Int32.toNat_toInt]; omega
  refine ⟨?_, h4⟩
  simp only [vp_in, Int32.lt_iff_toInt_lt, h3]
  have : (0 : Int32).toInt = 0 := rfl
  omega
theorem c_valueL {g : Nat → Int32} {s : Nat} (ht : isT t) (hs : s < 11) : ∀ (c : List Int32) (p n e : Nat) (st : List Int32) (I : MI), (∀ i (h : i < c.length), I (t + 14) (p + i) = c[i]) → I (t + 16) s = Int32.ofNat (p + c.length) → p + c.length ≤ 640 → SR I (t + 17) st → wfd c st.length e → (∀ i, i < 10 → I 46 i = g i) → c.length < n → st.length ≤ 31 →
    ∃ I', x0_value_L25 t 46 10 (Int32.ofNat s) n (Int32.ofNat st.length - 1) (Int32.ofNat p) I = some (Int32.ofNat (srun g c st).length - 1, I') ∧ SR I' (t + 17) (srun g c st) ∧ (srun g c st).length = e ∧ ∀ d, d ≠ t + 17 → I' d = I d := by
  have t46 : (46 : Nat) ≠ t + 17 := by rcases ht with h | h <;> omega
  intro c
  induction c with
  | nil =>
    intro p n e st I h1 h2 h3 h4 h5 h6 h7 h8
    obtain ⟨n, rfl⟩ : ∃ n', n = n' + 1 := ⟨n - 1, by simp at h7; omega⟩
    refine ⟨I, ?_, h4, h5, fun _ _ => rfl⟩
    simp at h2 h3
    simp (disch := omega) only [x0_value_L25, x0_value_L25s, QB, QN, h2, srun, if_neg (show ¬ p < p by omega)]
  | cons x c ih =>
    intro p n e st I h1 h2 h3 h4 h5 h6 h7 h8
    obtain ⟨n, rfl⟩ : ∃ n', n = n' + 1 := ⟨n - 1, by simp at h7; omega⟩
    simp only [List.length_cons] at h2 h3 h7
    have hx : I (t + 14) p = x := h1 0 (by simp)
    have hc : ∀ i (h : i < c.length), I (t + 14) (p + 1 + i) = c[i] := fun i h => by
      have := h1 (i + 1) (by simp; omega)
      rw [show p + 1 + i = p + (i + 1) by omega, this]
      rfl
    have nx : ∀ (J : MI) (st' : List Int32), (∀ d, d ≠ t + 17 → J d = I d) → SR J (t + 17) st' → wfd c st'.length e → st'.length ≤ 31 → ∃ I', x0_value_L25 t 46 10 (Int32.ofNat s) n (Int32.ofNat st'.length - 1) (Int32.ofNat (p + 1)) J = some (Int32.ofNat (srun g c st').length - 1, I') ∧ SR I' (t + 17) (srun g c st') ∧ (srun g c st').length = e ∧ ∀ d, d ≠ t + 17 → I' d = I d := by
      intro J st' j1 j2 j3 j4
      obtain ⟨I', k1, k2, k3, k4⟩ := ih (p + 1) n e st' J (fun i h => by rw [j1 _ (by omega)]; exact hc i h) (by rw [j1 _ (by omega), h2]; congr 1; omega) (by omega) j2 j3 (fun i hi => by rw [j1 _ t46]; exact h6 i hi) (by omega) j4
      exact ⟨I', k1, k2, k3, fun d hd => (k4 d hd).trans (j1 d hd)⟩
    simp (disch := omega) only [x0_value_L25, x0_value_L25s, QB, QN, h2, hx, if_pos (show p < p + (c.length + 1) by omega)]
    rcases h5 with ⟨g1, g2, g3, g4, g5⟩ | ⟨g1, g2, g3⟩ | ⟨g1, g2, g3, g4⟩
    · rw [if_pos g1, if_pos (show Int32.ofNat st.length - 1 < 31 by rw [q_plt (by omega) (by omega)]; omega), q_p1]
      simp (disch := omega) only [QB, QN]
      by_cases g6 : x < 10000
      · rw [if_pos g6]
        have := nx (wI I (t + 17) st.length x) (x :: st) (fun d hd => wI_c hd) ⟨wI_at, SR_w (Nat.le_refl _) h4⟩ g5 (by simp; omega)
        rw [List.length_cons, q_ps] at this
        simpa only [srun, sst, if_pos g1, if_pos g6] using this
      · obtain ⟨v1, v2⟩ := sight_ix g6 g3
        rw [if_neg g6, ck_pos v1, h6 _ v2]
        have := nx (wI I (t + 17) st.length (g (x - 10000).toNatClampNeg)) (g (x - 10000).toNatClampNeg :: st) (fun d hd => wI_c hd) ⟨wI_at, SR_w (Nat.le_refl _) h4⟩ g5 (by simp; omega)
        rw [List.length_cons, q_ps] at this
        simpa only [srun, sst, if_pos g1, if_neg g6] using this
    · subst g1
      match st, g2, g3, h4, h8 with
      | v :: r, g2, g3, ⟨h41, h42⟩, h8 =>
        simp only [List.length_cons] at h8 g3
        rw [List.length_cons, q_ps]
        simp (disch := omega) only [QB, QN, q_neg, if_false, h41, show ((20025 : Int32) < 20000) = False from eq_false (by decide), if_true]
        by_cases gv : v = 0
        · rw [if_pos gv]
          have := nx (wI I (t + 17) r.length 1) (1 :: r) (fun d hd => wI_c hd) ⟨wI_at, SR_w (Nat.le_refl _) h42⟩ g3 h8
          rw [List.length_cons, q_ps] at this
          simpa only [srun, sst, show ((20025 : Int32) < 20000) = False from eq_false (by decide), if_false, if_true, if_pos gv] using this
        · rw [if_neg gv]
          have := nx (wI I (t + 17) r.length 0) (0 :: r) (fun d hd => wI_c hd) ⟨wI_at, SR_w (Nat.le_refl _) h42⟩ g3 h8
          rw [List.length_cons, q_ps] at this
          simpa only [srun, sst, show ((20025 : Int32) < 20000) = False from eq_false (by decide), if_false, if_true, if_neg gv] using this
    · match st, g3, g4, h4, h8 with
      | v :: u :: r, g3, g4, ⟨h41, h42, h43⟩, h8 =>
        simp only [List.length_cons] at h8 g4 h41
        rw [if_neg g1, if_neg g2, if_neg (show ¬ Int32.ofNat (v :: u :: r).length - 1 < 1 by rw [q_plt (by simp only [List.length_cons]; omega) (by omega)]; simp only [List.length_cons]; omega)]
        simp only [List.length_cons, q_ps]
        rw [show Int32.ofNat (r.length + 1) + -1 = Int32.ofNat r.length from q_dec]
        simp (disch := omega) only [QB, QN, h41, h42, c_joined]
        have := nx (wI I (t + 17) r.length (sdo (x - 20000) u v)) (sdo (x - 20000) u v :: r) (fun d hd => wI_c hd) ⟨wI_at, SR_w (Nat.le_refl _) h43⟩ g4 (by simp; omega)
        rw [List.length_cons, q_ps] at this
        simpa only [srun, sst, if_neg g1, if_neg g2] using this
theorem c_value {g : Nat → Int32} {s : Nat} {c : List Int32} (ht : isT t) (hs : s < 11) (hc : Cd I t s c) (hw : wfd c 0 1) (hg : ∀ i, i < 10 → I 46 i = g i) : ∃ I', x0_value t 46 10 (Int32.ofNat s) I = some (sval c g, I') ∧ ∀ d, d ≠ t + 17 → I' d = I d := by
  obtain ⟨p, h1, h2, h3, h4⟩ := hc
  obtain ⟨I', k1, k2, k3, k4⟩ := c_valueL (g := g) ht hs c p FU 1 [] I h4 h2 h3 trivial hw hg (by unfold FU; omega) (by simp)
  refine ⟨I', ?_, k4⟩
  rw [show Int32.ofNat ([] : List Int32).length - 1 = -1 from rfl] at k1
  simp (disch := omega) only [x0_value, QB, QN, q_neg, if_false, if_pos hs, h1, k1, k3, sval]
  match hr : srun g c [], k3, k2 with
  | [v], _, ⟨k21, _⟩ =>
    simp only [List.headD_cons, if_true, if_false]
    exact congrArg some (Prod.ext (by simpa using k21) rfl)
theorem c_asOdds (v : Int32) (I : MI) : x1_asOdds v I = some (sclamp v) := by
  have e0 : (0 : Int32).toInt = 0 := rfl
  have e1 : (100 : Int32).toInt = 100 := rfl
  have e2 : ((0 : Int32) < 100) = True := eq_true (by decide)
  simp only [x1_asOdds, sclamp]
  congr 1
  by_cases h1 : v < 100 <;> simp only [h1, if_true, if_false, e2] <;> by_cases h2 : 0 < v <;> by_cases h3 : v < 0 <;> by_cases h4 : 100 < v <;> simp only [h2, h3, h4, if_true, if_false] <;> simp only [Int32.lt_iff_toInt_lt, e0, e1] at h1 h2 h3 h4 <;> first | omega | (apply Int32.toInt.inj; omega)
end CR
