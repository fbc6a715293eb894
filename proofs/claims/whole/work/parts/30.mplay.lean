/-! THE REFERENCE'S PLAY, 2: formulas, odds, choice -/
theorem m_truth (x : Int32) (I : MI) : x11_truth x I = some (if x = 0 then 0 else 1) := by
  simp only [x11_truth, q_si]
theorem m_done {s ar u v : Int32} (I : MI) (h : (s = 20024 ∧ ar = 38) ∨ (s = 20023 ∧ ar = 124) ∨ ((ar = 37 ∨ ar = 42 ∨ ar = 43 ∨ ar = 45 ∨ ar = 47 ∨ ar = 60 ∨ ar = 61 ∨ ar = 62) ∧ s = 20000 + ar)) : x11_done ar u v I = some (sdo (s - 20000) u v) := by
  rcases h with ⟨rfl, rfl⟩ | ⟨rfl, rfl⟩ | ⟨h, rfl⟩
  · by_cases hu : u = 0 <;> by_cases hv : v = 0 <;> simp [x11_done, m_truth, QB, sdo, hu, hv]
  · by_cases hu : u = 0 <;> by_cases hv : v = 0 <;> simp [x11_done, m_truth, QB, sdo, hu, hv]
  · rcases h with rfl | rfl | rfl | rfl | rfl | rfl | rfl | rfl
    · by_cases hv : v = 0 <;> simp [x11_done, QB, sdo, hv, ck_pos]
    · simp [x11_done, QB, sdo]
    · simp [x11_done, QB, sdo]
    · simp [x11_done, QB, sdo]
    · by_cases hv : v = 0 <;> simp [x11_done, QB, sdo, hv, ck_pos]
    · by_cases hv : u < v <;> simp [x11_done, m_truth, QB, sdo, hv]
    · by_cases hv : u = v <;> simp [x11_done, m_truth, QB, sdo, hv]
    · by_cases hv : v < u <;> simp [x11_done, m_truth, QB, sdo, hv]
section MR
variable {D : TD} {C : TC} {P : PR} {I : MI} {b a k : Nat}
theorem m_asked (hD : OkD D C) (hR : Rd I D C) (hW : Wr I P) (hb : b < nB D) (ha : a < nA D) {kd od : Int32} {i : Nat} (hi : i < 10) : x11_askOf (Int32.ofNat i) (Int32.ofNat b) (Int32.ofNat a) kd od I = some (sight D P b a kd od i) := by
  have hA := hD.a
  have hB := hD.b
  have ea := hR.2.1 a ha
  have eb := hR.2.2.1 b hb
  have h5 : D 5 a = 0 ∨ D 5 a = 1 := (hD.2.2.1 a ha).2.2.2.2.1
  have hh : i = 0 ∨ i = 1 ∨ i = 2 ∨ i = 3 ∨ i = 4 ∨ i = 5 ∨ i = 6 ∨ i = 7 ∨ i = 8 ∨ i = 9 := by omega
  rcases hh with rfl | rfl | rfl | rfl | rfl | rfl | rfl | rfl | rfl | rfl
  · simp (disch := omega) only [x11_askOf, QB, QN, hW.1, if_true, sight]
  · simp (disch := omega) only [x11_askOf, QB, QN, ea.2.2.2.1, if_true, if_false, sight]
    simp
  · simp (disch := omega) only [x11_askOf, QB, QN, ea.2.2.2.2.1, m_truth, if_true, if_false, sight]
    rcases h5 with h5 | h5 <;> simp [h5]
  · simp (disch := omega) only [x11_askOf, QB, QN, m_rim hD hR hW ha, m_truth, if_true, if_false, sight]
    cases srim D (P (5 * a)) (P (5 * a + 1)) <;> simp [b2i]
  · simp (disch := omega) only [x11_askOf, QB, QN, m_far hD hW hb ha, if_true, if_false, sight]
    simp
  · simp (disch := omega) only [x11_askOf, QB, QN, hW.1, if_true, if_false, sight]
    simp
  · simp (disch := omega) only [x11_askOf, QB, QN, eb.2.2.1, if_true, if_false, sight]
    simp
  · simp (disch := omega) only [x11_askOf, QB, QN, hW.1, if_true, if_false, sight]
    simp
  · simp (disch := omega) only [x11_askOf, QB, QN, if_true, if_false, sight]
    simp
  · simp (disch := omega) only [x11_askOf, QB, QN, if_true, if_false, sight]
    simp
theorem m_workL (hD : OkD D C) (hb : b < nB D) (ha : a < nA D) {kd od : Int32} {s : Nat} (hs : s < 11) : ∀ (c : List Int32) (p n e : Nat) (st : List Int32) (I : MI), (∀ i (h : i < c.length), rst c[i] (I 107 (p + i)) (I 108 (p + i))) → I 109 s = Int32.ofNat (p + c.length - 320 * s) → 320 * s ≤ p → p + c.length ≤ 320 * s + 320 → SR I 111 st → wfd c st.length e → c.length < n → st.length ≤ 31 → Rd I D C → Wr I P →
    ∃ I', x11_worked_L10 (Int32.ofNat s) (Int32.ofNat b) (Int32.ofNat a) kd od n (Int32.ofNat st.length) (Int32.ofNat p) I = some I' ∧ SR I' 111 (srun (sight D P b a kd od) c st) ∧ (srun (sight D P b a kd od) c st).length = e ∧ ∀ d, d ≠ 111 → I' d = I d := by
  intro c
  induction c with
  | nil =>
    intro p n e st I h1 h2 h2' h3 h4 h5 h7 h8 hR hW
    obtain ⟨n, rfl⟩ : ∃ n', n = n' + 1 := ⟨n - 1, by simp at h7; omega⟩
    refine ⟨I, ?_, h4, h5, fun _ _ => rfl⟩
    simp only [List.length_nil, Nat.add_zero] at h2 h3
    simp (disch := omega) only [x11_worked_L10, x11_worked_L10s, QB, QN, h2]
    rw [if_neg (by omega)]
  | cons x c ih =>
    intro p n e st I h1 h2 h2' h3 h4 h5 h7 h8 hR hW
    obtain ⟨n, rfl⟩ : ∃ n', n = n' + 1 := ⟨n - 1, by simp at h7; omega⟩
    simp only [List.length_cons] at h2 h3 h7
    have hx : rst x (I 107 p) (I 108 p) := h1 0 (by simp)
    have hc : ∀ i (h : i < c.length), rst c[i] (I 107 (p + 1 + i)) (I 108 (p + 1 + i)) := fun i h => by
      have := h1 (i + 1) (by simp; omega)
      rw [show p + 1 + i = p + (i + 1) by omega]
      exact this
    have nx : ∀ (J : MI) (st' : List Int32), (∀ d, d ≠ 111 → J d = I d) → SR J 111 st' → wfd c st'.length e → st'.length ≤ 31 → ∃ I', x11_worked_L10 (Int32.ofNat s) (Int32.ofNat b) (Int32.ofNat a) kd od n (Int32.ofNat st'.length) (Int32.ofNat (p + 1)) J = some I' ∧ SR I' 111 (srun (sight D P b a kd od) c st') ∧ (srun (sight D P b a kd od) c st').length = e ∧ ∀ d, d ≠ 111 → I' d = I d := by
      intro J st' j1 j2 j3 j4
      have fJ : Fq I J := ⟨fun c h1 _ => j1 c h1, fun j _ _ => by rw [j1 102 (by omega)]⟩
      obtain ⟨I', k1, k2, k3, k4⟩ := ih (p + 1) n e st' J (fun i h => by rw [j1 107 (by omega), j1 108 (by omega)]; exact hc i h) (by rw [j1 109 (by omega), h2]; congr 1; omega) (by omega) (by omega) j2 j3 (by omega) j4 (fJ.m.rd hR) (fJ.wr hW)
      exact ⟨I', k1, k2, k3, fun d hd => (k4 d hd).trans (j1 d hd)⟩
    have hlt : (p < 320 * s + (p + (c.length + 1) - 320 * s)) = True := eq_true (by omega)
    rcases hx with ⟨x1, x2, x3⟩ | ⟨x1, x2, x3, x4⟩ | ⟨x1, x2⟩ | ⟨x1, x2, x3, x4⟩
    · have g1 : x < 20000 := by
        rw [Int32.lt_iff_toInt_lt] at x1 ⊢
        have e1 : (10000 : Int32).toInt = 10000 := rfl
        have e2 : (20000 : Int32).toInt = 20000 := rfl
        omega
      have h5 : st.length < 31 ∧ wfd c (st.length + 1) e := by
        rcases h5 with ⟨_, _, _, g4, g5⟩ | ⟨g, _, _⟩ | ⟨g, _, _, _⟩
        · exact ⟨g4, g5⟩
        · rw [g] at g1; exact absurd g1 (by decide)
        · exact absurd g1 g
      simp (disch := omega) only [x11_worked_L10, x11_worked_L10s, QB, QN, h2, hlt, if_true, x2, x3]
      have := nx (wI I 111 st.length x) (x :: st) (fun d hd => wI_c hd) ⟨wI_at, SR_w (Nat.le_refl _) h4⟩ h5.2 (by simp; omega)
      rw [List.length_cons] at this
      simpa only [srun, sst, if_pos g1, if_pos x1] using this
    · have h5 : st.length < 31 ∧ x < 10010 ∧ wfd c (st.length + 1) e := by
        rcases h5 with ⟨_, _, g3, g4, g5⟩ | ⟨g, _, _⟩ | ⟨g, _, _, _⟩
        · exact ⟨g4, g3, g5⟩
        · rw [g] at x2; exact absurd x2 (by decide)
        · exact absurd x2 g
      obtain ⟨v1, v2⟩ := sight_ix x1 h5.2.1
      have e1 : x - 10000 = Int32.ofNat (x - 10000).toNatClampNeg := by
        refine (Int32.ofNat_toNatClampNeg _ ?_).symm
        simp only [vp_in] at v1
        rw [← Int32.not_lt]; exact fun h => v1 (Or.inl h)
      have e0 : ((1 : Int32) = 0) = False := eq_false (by decide)
      have ask := m_asked hD hR hW hb ha (kd := kd) (od := od) v2
      rw [← e1] at ask
      simp (disch := omega) only [x11_worked_L10, x11_worked_L10s, QB, QN, h2, hlt, if_true, x3, e0, if_false, x4, ask]
      have := nx (wI I 111 st.length (sight D P b a kd od (x - 10000).toNatClampNeg)) (sight D P b a kd od (x - 10000).toNatClampNeg :: st) (fun d hd => wI_c hd) ⟨wI_at, SR_w (Nat.le_refl _) h4⟩ h5.2.2 (by simp; omega)
      rw [List.length_cons] at this
      simpa only [srun, sst, if_pos x2, if_neg x1] using this
    · have g1 : ¬ x < 20000 := by rw [x1]; decide
      have h5 : 1 ≤ st.length ∧ wfd c st.length e := by
        rcases h5 with ⟨g, _, _, _, _⟩ | ⟨_, g4, g5⟩ | ⟨_, g, _, _⟩
        · exact absurd g g1
        · exact ⟨g4, g5⟩
        · exact absurd x1 g
      match st, h5, h4, h8 with
      | v :: r, h5, ⟨h41, h42⟩, h8 =>
        simp only [List.length_cons] at h8 h5 ⊢
        have e0 : ((2 : Int32) = 0) = False := eq_false (by decide)
        have e1 : ((2 : Int32) = 1) = False := eq_false (by decide)
        have e2 : r.length + 1 - 1 = r.length := by omega
        simp (disch := omega) only [x11_worked_L10, x11_worked_L10s, QB, QN, h2, hlt, if_true, x2, e0, e1, if_false, e2, h41, m_truth]
        have ev : (if (if v = 0 then (1 : Int32) else 0) = 0 then (0 : Int32) else 1) = if v = 0 then 1 else 0 := by by_cases h : v = 0 <;> simp [h]
        have := nx (wI I 111 r.length (if v = 0 then 1 else 0)) ((if v = 0 then 1 else 0) :: r) (fun d hd => wI_c hd) ⟨wI_at, SR_w (Nat.le_refl _) h42⟩ h5.2 h8
        rw [List.length_cons] at this
        by_cases gv : v = 0 <;> simp only [gv, not_true, not_false_eq_true, if_true, if_false, srun, sst, x1, show ((20025 : Int32) < 20000) = False from eq_false (by decide)] at this ⊢ <;> exact this
    · have h5 : 2 ≤ st.length ∧ wfd c (st.length - 1) e := by
        rcases h5 with ⟨g, _, _, _, _⟩ | ⟨g, _, _⟩ | ⟨_, _, g4, g5⟩
        · exact absurd g x2
        · exact absurd g x3
        · exact ⟨g4, g5⟩
      match st, h5, h4, h8 with
      | v :: u :: r, h5, ⟨h41, h42, h43⟩, h8 =>
        simp only [List.length_cons] at h8 h5 h41 ⊢
        have e0 : ((3 : Int32) = 0) = False := eq_false (by decide)
        have e1 : ((3 : Int32) = 1) = False := eq_false (by decide)
        have e3 : ((3 : Int32) = 2) = False := eq_false (by decide)
        have e2 : r.length + 1 - 1 = r.length := by omega
        rw [show r.length + 1 + 1 - 1 = r.length + 1 by omega] at h5
        simp (disch := omega) only [x11_worked_L10, x11_worked_L10s, QB, QN, h2, hlt, if_true, x1, e0, e1, e3, if_false, e2, h41, h42, m_done I x4]
        have := nx (wI I 111 r.length (sdo (x - 20000) u v)) (sdo (x - 20000) u v :: r) (fun d hd => wI_c hd) ⟨wI_at, SR_w (Nat.le_refl _) h43⟩ h5.2 (by simp; omega)
        rw [List.length_cons] at this
        simpa only [srun, sst, if_neg x2, if_neg x3] using this
theorem m_worked (hD : OkD D C) (hR : Rd I D C) (hW : Wr I P) (hb : b < nB D) (ha : a < nA D) {kd od : Int32} {s : Nat} {c : List Int32} (hs : s < 11) (hc : Cm I s c) (hw : wfd c 0 1) : ∃ I', x11_worked (Int32.ofNat s) (Int32.ofNat b) (Int32.ofNat a) kd od I = some (sval c (sight D P b a kd od), I') ∧ ∀ d, d ≠ 111 → I' d = I d := by
  obtain ⟨h1, h2, h3⟩ := hc
  obtain ⟨I', k1, k2, k3, k4⟩ := m_workL (P := P) (kd := kd) (od := od) hD hb ha hs c (320 * s) FU 1 [] I h3 (by rw [h1]; congr 1; omega) (by omega) (by omega) trivial hw (by unfold FU; omega) (by simp) hR hW
  refine ⟨I', ?_, k4⟩
  rw [show Int32.ofNat ([] : List Int32).length = 0 from rfl] at k1
  simp (disch := omega) only [x11_worked, QB, QN, k1, sval]
  match hr : srun (sight D P b a kd od) c [], k3, k2 with
  | [v], _, ⟨k21, _⟩ =>
    simp only [List.headD_cons]
    exact congrArg some (Prod.ext (by simpa using k21) rfl)
theorem m_clamp (v : Int32) (x : MI) : (if v < 0 then some ((0 : Int32), x) else if 100 < v then some (100, x) else some (v, x)) = some (sclamp v, x) := by
  simp only [sclamp]
  by_cases h1 : v < 0 <;> by_cases h2 : 100 < v <;> simp [h1, h2]
theorem sval50 (g : Nat → Int32) : sval [50] g = 50 := by
  simp [sval, srun, sst]
theorem m_odds (hD : OkD D C) (hR : Rd I D C) (hW : Wr I P) (hb : b < nB D) (ha : a < nA D) (hk : k < 5) : ∃ I', x11_oddsOf (Int32.ofNat b) (Int32.ofNat a) (Int32.ofNat k) I = some (sodds D C P b a k, I') ∧ Fq I I' := by
  rcases hR.2.2.2.1 k hk with ⟨g1, g2⟩ | ⟨g1, g2⟩
  · obtain ⟨I1, h1, h2⟩ := m_worked (kd := 0) (od := 0) hD hR hW hb ha (show k < 11 by omega) g2 (hD.2.2.2.2.2.2.1 k hk)
    refine ⟨I1, ?_, ⟨fun c h _ => h2 c h, fun j _ _ => by rw [h2 102 (by omega)]⟩⟩
    simp only [x11_oddsOf, g1, if_true, h1, QB]
    rw [← q_si, ← q_si, m_clamp]; rfl
  · refine ⟨I, ?_, Fq.refl⟩
    simp only [x11_oddsOf, g1, if_false, QB, sodds, g2, sval50]
    rfl
end MR
