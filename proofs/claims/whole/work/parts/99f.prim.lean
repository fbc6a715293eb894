/-! THE TEXT: both sides of a word, a number, an optional word -/
/-- both end at the same fault -/
def FBt (I' J' : MI) : Prop := I' 20 8 = J' 102 2 ∧ I' 20 9 = J' 102 3 ∧ 0 < J' 102 2
def C21 (I I' : MI) : Prop := ∀ x, x ≠ 21 → I' x = I x
def C20 (I I' : MI) : Prop := (∀ x, x ≠ 20 → I' x = I x) ∧ ∀ j, j ≠ 8 → j ≠ 9 → I' 20 j = I 20 j
def R23 (J J' : MI) : Prop := (∀ x, x ≠ 102 → J' x = J x) ∧ ∀ j, j ≠ 2 → j ≠ 3 → J' 102 j = J 102 j
section PRM
variable {T : Nat → Nat} {N t b q U : Nat} {I : MI} {L : ML} {J : MI} {M : ML}
theorem CR.nx (ht : t = 2 ∨ t = 28) (h : CR T N t q U b I L) (hs : tks T N q ≠ 29) : ∃ I' L', x3_next I L = some (I', L') ∧ CR T N t (tkn T N q) U b I' L' ∧ C21 I I' ∧ CLm L L' := by
  obtain ⟨k1, k2, k3, k4, k5, k6, k7, k8, k9, k10, k11⟩ := h
  obtain ⟨I', L', a1, a2, a3, a4⟩ := c_nxt k1 k2 k3 k4 hs
  have e20 := a3 20 (by omega)
  have e13 := a3 (t + 13) (by omega)
  have hq := tkn_le (T := T) k3
  exact ⟨I', L', a1, ⟨⟨k1.1, fun i hi => by rw [a3 1 (by omega)]; exact k1.2.1 i hi, k1.2.2⟩, fun i hi => by rw [a4 22 (by omega)]; exact k2 i hi, hq.2, a2, by rw [e20]; exact k5, by rw [e20]; exact k6, by rw [e13]; exact k7, by rw [e13]; exact k8, k9, by omega, k11⟩, a3, a4⟩
theorem RR.nx (h : RR T N q U J M) (hs : tks T N q ≠ 29) : ∃ J' M', x11_token J M = some (J', M') ∧ RR T N (tkn T N q) U J' M' ∧ RFr J J' ∧ LFr M M' := by
  obtain ⟨k1, k2, k3, k4, k4', k9⟩ := h
  obtain ⟨J', M', a1, a2, a3, a4⟩ := r_nxt k1 k3 k2
  rw [if_neg hs] at a2
  have e : ∀ j, j = 2 ∨ j = 3 ∨ j = 20 → J' 102 j = J 102 j := fun j hj => a3.2 j (by omega) (by omega) (by omega) (by omega)
  exact ⟨J', M', a1, ⟨⟨k1.1, fun i hi => by rw [a3.1 103 (by omega)]; exact k1.2.1 i hi, k1.2.2⟩, a2, (tkn_le k3).2, by rw [e 2 (by omega)]; exact k4, by rw [e 3 (by omega)]; exact k4', by rw [e 20 (by omega)]; exact k9⟩, a3, a4⟩
theorem CR.cd (h : CR T N t q U b I L) {v : Nat} (hv : v < 256) : (I 21 4 = Int32.ofNat v) = (tks T N q = v) := by
  have := tks_lt (T := T) (N := N) (q := q) (h.1.2.2 q)
  rw [h.2.2.2.1.2.2.1, q_eq (by omega) (by omega)]
theorem CR.fail (h : CR T N t q U b I L) (k : Int32) : ∃ I', x5_fail k I = some (0, I') ∧ I' 20 8 = fkd T N q k ∧ I' 20 9 = Int32.ofNat q ∧ C20 I I' := by
  have e29 : (I 21 4 = 29) = (tks T N q = 29) := h.cd (v := 29) (by omega)
  obtain ⟨k1, k2, k3, k4, k5, k6, k7, k8, k9, k10, k11⟩ := h
  have e5 : ∀ v, wI I 20 8 v 21 5 = Int32.ofNat q := fun v => by rw [wI_c (by omega)]; exact k4.2.1
  have hg : ∀ v, C20 I (wI (wI I 20 8 v) 20 9 (Int32.ofNat q)) := fun v => ⟨fun x hx => by rw [wI_c hx, wI_c hx], fun j h8 h9 => by rw [wI_ne (by omega), wI_ne (by omega)]⟩
  by_cases e : tks T N q = 29
  · refine ⟨wI (wI I 20 8 1) 20 9 (Int32.ofNat q), ?_, by rw [wI_ne (by omega), wI_at, fkd, if_pos e], wI_at, hg 1⟩
    rw [x5_fail, if_pos (e29.mpr e), q_l, q_l, e5]
  · refine ⟨wI (wI I 20 8 k) 20 9 (Int32.ofNat q), ?_, by rw [wI_ne (by omega), wI_at, fkd, if_neg e], wI_at, hg k⟩
    rw [x5_fail, if_neg (fun g => e (e29.mp g)), q_l, q_l, e5]
theorem RR.wrong (h : RR T N q U J M) (k : Int32) : ∃ J', x11_wrong k J = some J' ∧ J' 102 2 = fkd T N q k ∧ J' 102 3 = Int32.ofNat q ∧ R23 J J' := by
  obtain ⟨k1, k2, k3, k4, k4', k9⟩ := h
  have e7 : ∀ v, wI J 102 2 v 102 7 = Int32.ofNat q := fun v => by rw [wI_ne (by omega)]; exact k2.2.1
  have e3 := r_c3 (k1.2.2 q) k2
  have hg : ∀ v, R23 J (wI (wI J 102 2 v) 102 3 (Int32.ofNat q)) := fun v => ⟨fun x hx => by rw [wI_c hx, wI_c hx], fun j h1 h2 => by rw [wI_ne (by omega), wI_ne (by omega)]⟩
  by_cases e : tks T N q = 29
  · refine ⟨wI (wI J 102 2 1) 102 3 (Int32.ofNat q), ?_, by rw [wI_ne (by omega), wI_at, fkd, if_pos e], wI_at, hg 1⟩
    rw [x11_wrong, k4, if_neg (by decide), if_pos (e3.mpr e), q_l, q_l, e7]
  · refine ⟨wI (wI J 102 2 k) 102 3 (Int32.ofNat q), ?_, by rw [wI_ne (by omega), wI_at, fkd, if_neg e], wI_at, hg k⟩
    rw [x11_wrong, k4, if_neg (by decide), if_neg (fun h => e (e3.mp h)), q_l, q_l, e7]
/-- both fail here -/
theorem both_fail (hC : CR T N t q U b I L) (hR : RR T N q U J M) {k : Int32} (hk : k = 2 ∨ k = 3 ∨ k = 4 ∨ k = 5) : ∃ I' J', x5_fail k I = some (0, I') ∧ x11_wrong k J = some J' ∧ FBt I' J' ∧ C20 I I' ∧ R23 J J' := by
  obtain ⟨I', a1, a2, a3, a4⟩ := hC.fail k
  obtain ⟨J', b1', b2', b3', b4'⟩ := hR.wrong k
  exact ⟨I', J', a1, b1', ⟨by rw [a2, b2'], by rw [a3, b3'], by rw [b2']; exact (fkd_c k hk).1⟩, a4, b4'⟩
/-- a word that must stand here -/
theorem P_word (ht : t = 2 ∨ t = 28) (hC : CR T N t q U b I L) (hR : RR T N q U J M) {i : Nat} (hi : i < 26) {v : Int64} (hv : v = Int64.ofNat (e256 (kwl.getD i []))) :
    (∃ I' L' J' M', x5_token (Int32.ofNat i) I L = some (1, I', L') ∧ x11_want v J M = some (J', M') ∧ CR T N t (tkn T N q) U b I' L' ∧ RR T N (tkn T N q) U J' M' ∧ q < tkn T N q ∧ C21 I I' ∧ CLm L L' ∧ RFr J J' ∧ LFr M M' ∧ tks T N q = i) ∨
    (∃ I' J', x5_token (Int32.ofNat i) I L = some (0, I', L) ∧ x11_want v J M = some (J', M) ∧ FBt I' J' ∧ C20 I I' ∧ R23 J J') := by
  have e4 : (I 21 4 = Int32.ofNat i) = (tks T N q = i) := hC.cd (by omega)
  have ew := r_isW (hR.1.2.2 q) hR.2.1 hi hv
  have h2 := hR.2.2.2.1
  by_cases e : tks T N q = i
  · obtain ⟨I', L', a1, a2, a3, a4⟩ := hC.nx ht (by omega)
    obtain ⟨J', M', b1', b2', b3', b4'⟩ := hR.nx (by omega)
    rw [if_pos e] at ew
    exact Or.inl ⟨I', L', J', M', by rw [x5_token, if_pos (e4.mpr e), a1, q_b2], by rw [x11_want, h2, if_neg (by decide), ew, q_b1, if_neg (by decide), b1', q_b2], a2, b2', tkn_lt hC.2.2.1 (by omega), a3, a4, b3', b4', e⟩
  · obtain ⟨I', J', a1, a2, a3, a4, a5⟩ := both_fail hC hR (k := 2) (by simp)
    rw [if_neg e] at ew
    exact Or.inr ⟨I', J', by rw [x5_token, if_neg (fun g => e (e4.mp g)), a1, q_b2, ck_pos (Or.inl rfl)], by rw [x11_want, h2, if_neg (by decide), ew, q_b1, if_pos rfl, a2, q_b1], a3, a4, a5⟩
/-- a number -/
theorem P_num (ht : t = 2 ∨ t = 28) (hC : CR T N t q U b I L) (hR : RR T N q U J M) {lo hi : Nat} (hlo : lo < 10000) (hhi : hi < 10000) :
    (∃ n I' L' J' M', x5_number (Int32.ofNat lo) (Int32.ofNat hi) I L = some (Int32.ofNat n, I', L') ∧ x11_toldNumber (Int32.ofNat lo) (Int32.ofNat hi) J M = some (Int32.ofNat n, J', M') ∧ lo ≤ n ∧ n ≤ hi ∧ CR T N t (tkn T N q) U b I' L' ∧ RR T N (tkn T N q) U J' M' ∧ q < tkn T N q ∧ C21 I I' ∧ CLm L L' ∧ RFr J J' ∧ LFr M M' ∧ tks T N q = 27 ∧ n = tkv T N q) ∨
    (∃ I' J' r, x5_number (Int32.ofNat lo) (Int32.ofNat hi) I L = some (-1, I', L) ∧ x11_toldNumber (Int32.ofNat lo) (Int32.ofNat hi) J M = some (r, J', M) ∧ FBt I' J' ∧ C20 I I' ∧ R23 J J') := by
  have e4 : (I 21 4 = 27) = (tks T N q = 27) := hC.cd (v := 27) (by omega)
  have e6 := r_c2 (hR.1.2.2 q) hR.2.1
  have h2 := hR.2.2.2.1
  have fin : ∀ {k : Int32}, k = 2 ∨ k = 4 → (∀ I', x5_fail k I = some (0, I') → x5_number (Int32.ofNat lo) (Int32.ofNat hi) I L = some (-1, I', L)) → (∀ J', x11_wrong k J = some J' → (if (J 102 6) = 2 then (if (J 102 8) < Int32.ofNat lo then (b1 (x11_wrong (4 : Int32) J) fun I2 => some I2) else if Int32.ofNat hi < (J 102 8) then (b1 (x11_wrong (4 : Int32) J) fun I3 => some I3) else some J) else b1 (x11_wrong (2 : Int32) J) fun I4 => some I4) = some J') → ∃ I' J' r, x5_number (Int32.ofNat lo) (Int32.ofNat hi) I L = some (-1, I', L) ∧ x11_toldNumber (Int32.ofNat lo) (Int32.ofNat hi) J M = some (r, J', M) ∧ FBt I' J' ∧ C20 I I' ∧ R23 J J' := by
    intro k hk h1 h3
    obtain ⟨I', J', a1, a2, a3, a4, a5⟩ := both_fail hC hR (k := k) (by rcases hk with h | h; exact Or.inl h; exact Or.inr (Or.inr (Or.inl h)))
    have hne : ¬ J' 102 2 = 0 := fun g => by
      have := a3.2.2
      rw [g] at this
      exact absurd this (by decide)
    refine ⟨I', J', J' 102 8, h1 I' a1, ?_, a3, a4, a5⟩
    simp only [x11_toldNumber, h2, if_neg (show ¬ (0 : Int32) < 0 by decide), h3 J' a2, q_b1, q_l, if_neg hne]
  by_cases e : tks T N q = 27
  · have ev : I 21 6 = Int32.ofNat (tkv T N q) := hC.2.2.2.1.2.2.2.2.1 e
    have er : J 102 8 = Int32.ofNat (tkv T N q) := hR.2.1.2.2.2.2.1 e
    have hv := tkv_le e
    have c1 : (Int32.ofNat (tkv T N q) < Int32.ofNat lo) = (tkv T N q < lo) := q_lt (by omega) (by omega)
    have c2 : (Int32.ofNat hi < Int32.ofNat (tkv T N q)) = (hi < tkv T N q) := q_lt (by omega) (by omega)
    by_cases g1 : tkv T N q < lo
    · refine Or.inr (fin (k := 4) (by simp) (fun I' a => ?_) (fun J' a => ?_))
      · rw [x5_number, if_pos (e4.mpr e), q_l, ev, if_pos (c1.mpr g1), a, q_b2]
      · rw [if_pos (e6.mpr e), er, if_pos (c1.mpr g1), a, q_b1]
    · by_cases g2 : hi < tkv T N q
      · refine Or.inr (fin (k := 4) (by simp) (fun I' a => ?_) (fun J' a => ?_))
        · rw [x5_number, if_pos (e4.mpr e), q_l, ev, if_neg (fun g => g1 (c1.mp g)), if_pos (c2.mpr g2), a, q_b2]
        · rw [if_pos (e6.mpr e), er, if_neg (fun g => g1 (c1.mp g)), if_pos (c2.mpr g2), a, q_b1]
      · obtain ⟨I', L', a1, a2, a3, a4⟩ := hC.nx ht (by omega)
        obtain ⟨J', M', b1', b2', b3', b4'⟩ := hR.nx (by omega)
        refine Or.inl ⟨tkv T N q, I', L', J', M', ?_, ?_, by omega, by omega, a2, b2', tkn_lt hC.2.2.1 (by omega), a3, a4, b3', b4', e, rfl⟩
        · rw [x5_number, if_pos (e4.mpr e), q_l, ev, if_neg (fun g => g1 (c1.mp g)), if_neg (fun g => g2 (c2.mp g)), a1, q_b2]
        · rw [x11_toldNumber, h2, if_neg (by decide), if_pos (e6.mpr e), er, if_neg (fun g => g1 (c1.mp g)), if_neg (fun g => g2 (c2.mp g)), q_b1, q_l, h2, if_pos rfl, b1', q_b2, er]
  · refine Or.inr (fin (k := 2) (by simp) (fun I' a => ?_) (fun J' a => ?_))
    · rw [x5_number, if_neg (fun g => e (e4.mp g)), a, q_b2]
    · rw [if_neg (fun g => e (e6.mp g)), a, q_b1]
/-- a word that may stand here -/
theorem P_opt (ht : t = 2 ∨ t = 28) (hC : CR T N t q U b I L) (hR : RR T N q U J M) {i : Nat} (hi : i < 26) {v : Int64} (hv : v = Int64.ofNat (e256 (kwl.getD i []))) :
    (∃ I' L' J' M', x5_optional (Int32.ofNat i) I L = some (1, I', L') ∧ x11_takes v J M = some (1, J', M') ∧ CR T N t (tkn T N q) U b I' L' ∧ RR T N (tkn T N q) U J' M' ∧ q < tkn T N q ∧ C21 I I' ∧ CLm L L' ∧ RFr J J' ∧ LFr M M' ∧ tks T N q = i) ∨
    (x5_optional (Int32.ofNat i) I L = some (0, I, L) ∧ x11_takes v J M = some (0, J, M) ∧ tks T N q ≠ i) := by
  have e4 : (I 21 4 = Int32.ofNat i) = (tks T N q = i) := hC.cd (by omega)
  have ew := r_isW (hR.1.2.2 q) hR.2.1 hi hv
  have h2 := hR.2.2.2.1
  by_cases e : tks T N q = i
  · obtain ⟨I', L', a1, a2, a3, a4⟩ := hC.nx ht (by omega)
    obtain ⟨J', M', b1', b2', b3', b4'⟩ := hR.nx (by omega)
    rw [if_pos e] at ew
    exact Or.inl ⟨I', L', J', M', by rw [x5_optional, if_pos (e4.mpr e), a1, q_b2], by rw [x11_takes, if_pos h2, ew, q_b1, if_neg (by decide), q_b1, q_l, if_neg (by decide), b1', q_b2, ck_pos (Or.inr rfl)], a2, b2', tkn_lt hC.2.2.1 (by omega), a3, a4, b3', b4', e⟩
  · rw [if_neg e] at ew
    exact Or.inr ⟨by rw [x5_optional, if_neg (fun g => e (e4.mp g))], by rw [x11_takes, if_pos h2, ew, q_b1, if_pos rfl, q_b1, q_l, if_pos rfl, ck_pos (Or.inl rfl)], e⟩
end PRM
