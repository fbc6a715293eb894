/-! THE TEXT: the reference's steps over a formula (units, signs, ends) -/
def ux (T : Nat → Nat) (N q : Nat) : Int32 := if tks T N q = 27 then Int32.ofNat (tkv T N q) else 10000 + askd (tks T N q)
def isU (s : Nat) : Prop := s = 27 ∨ askd s ≠ -1
theorem askd_c (s : Nat) : askd s = -1 ∨ ∃ k : Nat, k ≤ 9 ∧ askd s = Int32.ofNat k := by
  simp only [askd]
  by_cases e0 : s = 11
  · rw [if_pos e0]; exact Or.inr ⟨0, by omega, rfl⟩
  rw [if_neg e0]
  by_cases e1 : s = 12
  · rw [if_pos e1]; exact Or.inr ⟨1, by omega, rfl⟩
  rw [if_neg e1]
  by_cases e2 : s = 4
  · rw [if_pos e2]; exact Or.inr ⟨2, by omega, rfl⟩
  rw [if_neg e2]
  by_cases e3 : s = 5
  · rw [if_pos e3]; exact Or.inr ⟨3, by omega, rfl⟩
  rw [if_neg e3]
  by_cases e4 : s = 20
  · rw [if_pos e4]; exact Or.inr ⟨4, by omega, rfl⟩
  rw [if_neg e4]
  by_cases e5 : s = 21
  · rw [if_pos e5]; exact Or.inr ⟨5, by omega, rfl⟩
  rw [if_neg e5]
  by_cases e6 : s = 17
  · rw [if_pos e6]; exact Or.inr ⟨6, by omega, rfl⟩
  rw [if_neg e6]
  by_cases e7 : s = 16
  · rw [if_pos e7]; exact Or.inr ⟨7, by omega, rfl⟩
  rw [if_neg e7]
  by_cases e8 : s = 22
  · rw [if_pos e8]; exact Or.inr ⟨8, by omega, rfl⟩
  rw [if_neg e8]
  by_cases e9 : s = 2
  · rw [if_pos e9]; exact Or.inr ⟨9, by omega, rfl⟩
  rw [if_neg e9]; exact Or.inl rfl
theorem askd_hi {s : Nat} (h : 23 ≤ s) : askd s = -1 := by
  rw [askd, if_neg (by omega), if_neg (by omega), if_neg (by omega), if_neg (by omega), if_neg (by omega), if_neg (by omega), if_neg (by omega), if_neg (by omega), if_neg (by omega), if_neg (by omega)]
theorem rst_ask : ∀ k, k < 10 → rst (10000 + Int32.ofNat k) 1 (Int32.ofNat k) ∧ ¬ (Int32.ofNat k < 0) ∧ (10000 + Int32.ofNat k < 20000 ∧ 0 ≤ 10000 + Int32.ofNat k ∧ 10000 + Int32.ofNat k < 10010) := by
  intro k hk
  have hh : k = 0 ∨ k = 1 ∨ k = 2 ∨ k = 3 ∨ k = 4 ∨ k = 5 ∨ k = 6 ∨ k = 7 ∨ k = 8 ∨ k = 9 := by omega
  rcases hh with e | e | e | e | e | e | e | e | e | e <;> rw [e] <;> exact ⟨Or.inr (Or.inl ⟨by decide, by decide, rfl, by decide⟩), by decide, by decide, by decide, by decide⟩
section RFX
variable {T : Nat → Nat} {N s q u U d n m p : Nat} {st τ σ : List Nat} {C : List Int32} {J J' J'' : MI} {M M' : ML}
theorem ux_ok (h : isU (tks T N q)) : ux T N q < 20000 ∧ 0 ≤ ux T N q ∧ ux T N q < 10010 := by
  rw [ux]
  by_cases e : tks T N q = 27
  · have := tkv_le e
    rw [if_pos e]
    refine ⟨?_, ?_, ?_⟩
    · rw [q_ltn (by omega) (by omega)]; show tkv T N q < 20000; omega
    · rw [show (0 : Int32) = Int32.ofNat 0 from rfl, q_le (by omega) (by omega)]; omega
    · rw [q_ltn (by omega) (by omega)]; show tkv T N q < 10010; omega
  · rw [if_neg e]
    rcases h with h | h
    · exact absurd h e
    · rcases askd_c (tks T N q) with h2 | ⟨k, hk, h2⟩
      · exact absurd h2 h
      · rw [h2]; exact (rst_ask k (by omega)).2.2
/-- no `not`, no bracket: what the loop before a unit does -/
theorem L2_out (h : RF T N s q u U d st C J M) (hv : ∀ v, v ∈ st → v = 20 ∨ okT v) (hl : st.length < 150) (h40 : tks T N q ≠ 40) (h25 : tks T N q = 25 → mno st = false) : x11_unit_L2 (m + 2) 1 J M = some (J, M) := by
  have h' := h
  obtain ⟨k1, k2, k3, k4, k4', k5, k6, k7, k8, k9, k10, k11⟩ := h'
  have e40 : ¬ J 102 6 = 40 := fun e => h40 ((h.cd (v := 40) (by omega) (by omega)).mp e)
  have hn := h.isNot
  have e0 : x11_unit_L2 (m + 1) 0 J M = some (J, M) := by
    rw [x11_unit_L2, x11_unit_L2s, if_pos rfl]
  rw [x11_unit_L2, x11_unit_L2s, if_neg (by decide), if_pos k4]
  by_cases e : tks T N q = 25
  · rw [if_pos e] at hn
    have hmn := x_mayNot k7 k8 hv (by omega)
    rw [h25 e, if_neg (by decide)] at hmn
    rw [hn, q_b1, if_neg (by decide), hmn, q_b1, if_pos rfl, if_neg e40, q_l, e0]
  · rw [if_neg e] at hn
    rw [hn, q_b1, if_pos rfl, if_neg e40, q_l, e0]
theorem FA_unit (h : RF T N s q u U d st C J M) (hs11 : s < 11) (hU' : isU (tks T N q)) (hv : ∀ v, v ∈ st → v = 20 ∨ okT v) (hu : u < 30) (hU : U < 90) (hl : st.length < 150) (hC : C.length < 320) : ∃ J' M', (∀ m n, FA (m + 2) n J M = FB n J' M') ∧ RF T N s (tkn T N q) (u + 1) (U + 1) d st (C ++ [ux T N q]) J' M' ∧ RFm s J J' ∧ LFr M M' := by
  have hlt : tks T N q = 27 ∨ tks T N q < 23 := by
    rcases hU' with e | e
    · exact Or.inl e
    · refine Or.inr ?_
      by_cases g : 23 ≤ tks T N q
      · exact absurd (askd_hi g) e
      · omega
  obtain ⟨J1, a1, a2, a3⟩ := h.cnt
  obtain ⟨k1, k2, k3, k4, k4', k5, k6, k7, k8, k9, k10, k11⟩ := a2
  have hex : ∃ so ar, rst (ux T N q) so ar ∧ (if askd (tks T N q) < 0 then some (0 : Int32) else some 1) = some so ∧ (if askd (tks T N q) < 0 then some (J1 102 8) else some (askd (tks T N q))) = some ar := by
    by_cases e : tks T N q = 27
    · have e1 : askd (tks T N q) = -1 := askd_hi (by omega)
      have := tkv_le e
      refine ⟨0, Int32.ofNat (tkv T N q), ?_, by rw [e1]; rfl, by rw [e1, if_pos (by decide), k2.2.2.2.2.1 e]⟩
      rw [ux, if_pos e]
      exact Or.inl ⟨by rw [q_ltn (by omega) (by omega)]; show tkv T N q < 10000; omega, rfl, rfl⟩
    · rcases hU' with h | h
      · exact absurd h e
      · rcases askd_c (tks T N q) with h2 | ⟨k, hk, h2⟩
        · exact absurd h2 h
        · have hr := rst_ask k (by omega)
          refine ⟨1, Int32.ofNat k, by rw [ux, if_neg e, h2]; exact hr.1, by rw [h2, if_neg hr.2.1], by rw [h2, if_neg hr.2.1]⟩
  obtain ⟨so, ar, r1, r2, r3⟩ := hex
  obtain ⟨J2, b1', b2', b3', b4'⟩ := x_add k6 k5 hs11 hC r1
  have hR2 : RF T N s q (u + 1) (U + 1) d st (C ++ [ux T N q]) J2 M := by
    have e102 : J2 102 = J1 102 := b4' 102 (by omega) (by omega) (by omega)
    have hR1 : RF T N s q (u + 1) (U + 1) d st C J1 M := ⟨k1, k2, k3, k4, k4', k5, k6, k7, k8, k9, k10, k11⟩
    exact hR1.up (b4' 103 (by omega) (by omega) (by omega)) (fun j _ _ _ _ => by rw [e102]) b2' (by rw [e102]; exact k7) (k8.c (b4' 110 (by omega) (by omega) (by omega))) (by rw [e102]; exact k9) (by rw [e102]; exact k10) (by rw [e102]; exact k11)
  obtain ⟨J3, M3, c1, c2, c3, c4⟩ := hR2.nx (by omega)
  refine ⟨J3, M3, fun m n => ?_, c2, (a3.trans b3').trans c3, c4⟩
  have hL2 := L2_out (m := m) h hv hl (by omega) (by omega)
  obtain ⟨l1, l2, l3, l4, l4', l5, l6, l7, l8, l9, l10, l11⟩ := h
  have hfl := x_isFull (u := u) (U := U) l9 l10 (by omega) (by omega)
  rw [if_neg (by omega)] at hfl
  have hask := r_asked (k1.2.2 q) l2
  have hfull : (if J 102 6 = 2 then (b1 (x11_isFull J) fun r28 => if r28 = 0 then some J else b1 (x11_wrong (2 : Int32) J) fun I29 => some I29) else if askd (tks T N q) < 0 then (b1 (x11_wrong (2 : Int32) J) fun I30 => some I30) else b1 (x11_isFull J) fun r31 => if r31 = 0 then some J else b1 (x11_wrong (2 : Int32) J) fun I32 => some I32) = some J := by
    have e2 := r_c2 (k1.2.2 q) l2
    by_cases e : tks T N q = 27
    · rw [if_pos (e2.mpr e), hfl, q_b1, if_pos rfl]
    · rw [if_neg (fun h => e (e2.mp h))]
      rcases hU' with h | h
      · exact absurd h e
      · rcases askd_c (tks T N q) with h2 | ⟨k, hk, h2⟩
        · exact absurd h2 h
        · rw [h2, if_neg (rst_ask k (by omega)).2.1, hfl, q_b1, if_pos rfl]
  have hur : urest (J, M) = some (J3, M3) := by
    simp only [urest, l4, if_neg (show ¬ (0 : Int32) < 0 by decide), hask, q_b1, q_l, hfull, a1, r2, r3, b1', c1, q_b2]
  rw [FA, hL2, q_b1, hur]
  rfl
/-- no unit, or one too many -/
theorem FA_fail (h : RF T N s q u U d st C J M) (hv : ∀ v, v ∈ st → v = 20 ∨ okT v) (hl : st.length < 150) (hu : u ≤ 30) (hU : U ≤ 90) (hd : d < 1000) (h1 : ¬ (tks T N q = 40 ∧ u < 30 ∧ U < 90 ∧ d ≤ 6)) (h2 : ¬ (tks T N q = 25 ∧ mno st = true ∧ d ≤ 6)) (h3 : ¬ (isU (tks T N q) ∧ u < 30 ∧ U < 90)) : ∃ J', (∀ m n, FA (m + 2) (n + 1) J M = some (J', M)) ∧ FltR T N s q J J' := by
  have h' := h
  obtain ⟨k1, k2, k3, k4, k4', k5, k6, k7, k8, k9, k10, k11⟩ := h'
  obtain ⟨Jw, w1, w2, w3, w4, w5, w6⟩ := x_wrong h 2
  have hn := h.isNot
  have hd6 : (6 < J 102 23) = (6 < d) := by rw [k11, q_nlt (by omega) (by omega)]
  have hfl := x_isFull (u := u) (U := U) k9 k10 (by omega) (by omega)
  have fin : ∀ {J4 : MI}, J4 102 2 = fkd T N q 2 → ∀ n, (b2 (b1 (some (J4, M)) urest) (FB (n + 1))) = some (J4, M) := fun hf n => by rw [q_b1, ur_flt hf, q_b2, FB_flt hf]
  by_cases e40 : tks T N q = 40
  · have c40 : J 102 6 = 40 := (h.cd (v := 40) (by omega) (by omega)).mpr e40
    rw [if_neg (by omega)] at hn
    generalize hJ1 : wI (wI Jw 102 20 (Jw 102 20 + 1)) 102 22 ((wI Jw 102 20 (Jw 102 20 + 1)) 102 22 + 1) = J1
    have g : ∀ j, j ≠ 20 → j ≠ 22 → J1 102 j = Jw 102 j := fun j g1 g2 => by rw [← hJ1, wI_ne (by omega), wI_ne (by omega)]
    obtain ⟨J4, o1, o2, o3, o4⟩ := x_openF (T := T) (N := N) (s := s) (q := q) (J := J1) (M := M) (st := st) (by rw [g 19 (by omega) (by omega), w5 19 (by omega) (by omega)]; exact k7) (by omega) (by rw [g 2 (by omega) (by omega)]; exact w2) 20
    have hf4 : J4 102 2 = fkd T N q 2 := by rw [o2, g 2 (by omega) (by omega)]; exact w2
    have hw : ∀ m, b1 (x11_isFull J) (fun r4 => b1 (if r4 = 0 then (if 6 < J 102 23 then (b1 (x11_wrong (2 : Int32) J) fun I7 => some I7) else some J) else b1 (x11_wrong (2 : Int32) J) fun I6 => some I6) fun e5 => b1 (x11_countUnit e5) fun I8 => b2 (x11_openUp (20 : Int32) I8 M) fun I9 L10 => x11_unit_L2 (m + 1) 1 I9 L10) = x11_unit_L2 (m + 1) 1 J4 M := by
      intro m
      have e5 : (b1 (x11_isFull J) fun r4 => if r4 = 0 then (if 6 < J 102 23 then (b1 (x11_wrong (2 : Int32) J) fun I7 => some I7) else some J) else b1 (x11_wrong (2 : Int32) J) fun I6 => some I6) = some Jw := by
        rw [hfl, q_b1]
        by_cases g1 : U = 90 ∨ u = 30
        · rw [if_pos g1, if_neg (by decide), w1, q_b1]
        · rw [if_neg g1, if_pos rfl, if_pos (by rw [hd6]; omega), w1, q_b1]
      rw [hfl, q_b1] at e5 ⊢
      rw [e5, q_b1]
      simp only [x11_countUnit, q_l, hJ1, q_b1]
      rw [show (20 : Int32) = Int32.ofNat 20 from rfl, o1, q_b2]
    refine ⟨J4, fun m n => ?_, hf4, by rw [o3, g 3 (by omega) (by omega)]; exact w3, (w4.trans (by rw [← hJ1]; exact (RFm.w (by omega)).trans (RFm.w (by omega)))).trans o4⟩
    have e : x11_unit_L2 (m + 2) 1 J M = some (J4, M) := by
      rw [x11_unit_L2, x11_unit_L2s, if_neg (by decide), if_pos k4, hn, q_b1, if_pos rfl, if_pos c40, hw m, L2_flt hf4]
    rw [FA, e]; exact fin hf4 n
  · by_cases e25 : tks T N q = 25 ∧ mno st = true
    · rw [if_pos e25.1] at hn
      have hmn := x_mayNot k7 k8 hv (by omega)
      rw [if_pos e25.2] at hmn
      have hdd : 6 < d := by
        by_cases g : d ≤ 6
        · exact absurd ⟨e25.1, e25.2, g⟩ h2
        · omega
      obtain ⟨J4, o1, o2, o3, o4⟩ := x_openF (T := T) (N := N) (s := s) (q := q) (J := Jw) (M := M) (st := st) (by rw [w5 19 (by omega) (by omega)]; exact k7) (by omega) w2 21
      have hf4 : J4 102 2 = fkd T N q 2 := by rw [o2]; exact w2
      refine ⟨J4, fun m n => ?_, hf4, by rw [o3]; exact w3, w4.trans o4⟩
      have e : x11_unit_L2 (m + 2) 1 J M = some (J4, M) := by
        rw [x11_unit_L2, x11_unit_L2s, if_neg (by decide), if_pos k4, hn, q_b1, if_neg (by decide), hmn, q_b1, if_neg (by decide), if_pos (by rw [hd6]; exact hdd), w1, q_b1, q_b1, show (21 : Int32) = Int32.ofNat 21 from rfl, o1, q_b2, L2_flt hf4]
      rw [FA, e]; exact fin hf4 n
    · have h25 : tks T N q = 25 → mno st = false := fun e => by
        cases hh : mno st with
        | false => rfl
        | true => exact absurd ⟨e, hh⟩ e25
      have hask := r_asked (k1.2.2 q) k2
      have e2 := r_c2 (k1.2.2 q) k2
      refine ⟨Jw, fun m n => ?_, w2, w3, w4⟩
      have hfull : (if J 102 6 = 2 then (b1 (x11_isFull J) fun r28 => if r28 = 0 then some J else b1 (x11_wrong (2 : Int32) J) fun I29 => some I29) else if askd (tks T N q) < 0 then (b1 (x11_wrong (2 : Int32) J) fun I30 => some I30) else b1 (x11_isFull J) fun r31 => if r31 = 0 then some J else b1 (x11_wrong (2 : Int32) J) fun I32 => some I32) = some Jw := by
        by_cases e : tks T N q = 27
        · have hf : U = 90 ∨ u = 30 := by
            have : ¬ (u < 30 ∧ U < 90) := fun g => h3 ⟨Or.inl e, g.1, g.2⟩
            omega
          rw [if_pos hf] at hfl
          rw [if_pos (e2.mpr e), hfl, q_b1, if_neg (by decide), w1, q_b1]
        · rw [if_neg (fun h => e (e2.mp h))]
          rcases askd_c (tks T N q) with h2' | ⟨k, hk, h2'⟩
          · rw [h2', if_pos (by decide), w1, q_b1]
          · have hr := (rst_ask k (by omega)).2.1
            have hf : U = 90 ∨ u = 30 := by
              have : ¬ (u < 30 ∧ U < 90) := fun g => h3 ⟨Or.inr (fun hh => by rw [h2', q_m1 (by omega)] at hh; exact hh), g.1, g.2⟩
              omega
            rw [if_pos hf] at hfl
            rw [h2', if_neg hr, hfl, q_b1, if_neg (by decide), w1, q_b1]
      have hp := (fkd_c (T := T) (N := N) (q := q) 2 (by simp)).1
      rw [← w2] at hp
      have hur : urest (J, M) = some (Jw, M) := by
        simp only [urest, k4, if_neg (show ¬ (0 : Int32) < 0 by decide), hask, q_b1, q_l, hfull, if_pos hp]
      rw [FA, L2_out h hv hl e40 h25, q_b1, hur, q_b2, FB_flt w2]
end RFX
