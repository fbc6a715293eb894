/-! THE TEXT: the reference's steps over a formula (signs, brackets closed, the end) -/
theorem sgn_ok (s : Nat) : sgn s = 0 ∨ (okT (sgn s) ∧ sgn s ≠ 21) := by
  simp only [sgn, okT]
  by_cases h1 : s = 24
  · rw [if_pos h1]; omega
  · rw [if_neg h1]
    by_cases h2 : s = 23
    · rw [if_pos h2]; omega
    · rw [if_neg h2]
      by_cases h3 : s = 60 ∨ s = 62 ∨ s = 61 ∨ s = 43 ∨ s = 45 ∨ s = 42 ∨ s = 47 ∨ s = 37
      · rw [if_pos h3]; omega
      · rw [if_neg h3]; omega
section RFX
variable {T : Nat → Nat} {N s q u U d n m p : Nat} {st τ σ : List Nat} {C : List Int32} {J J' J'' : MI} {M M' : ML}
theorem FB_op (h : RF T N s q u U (d + nots τ) (τ ++ σ) C J M) (hs11 : s < 11) (h0 : sgn (tks T N q) ≠ 0) (hτ : ∀ v, v ∈ τ → okT v ∧ tg (sgn (tks T N q)) ≤ tg v) (hσ : stp (tg (sgn (tks T N q))) σ) (hr : tg (sgn (tks T N q)) = 4 → hrl (τ ++ σ) = false) (hv : ∀ v, v ∈ τ ++ σ → v = 20 ∨ okT v) (hl : (τ ++ σ).length ≤ 100) (hC : C.length + τ.length ≤ 320) (hd : d < 1000) : ∃ J' M', (∀ n, FB (n + 1) J M = FA FU n J' M') ∧ RF T N s (tkn T N q) u U d (sgn (tks T N q) :: σ) (C ++ τ.map eo) J' M' ∧ RFm s J J' ∧ LFr M M' := by
  have hok : okT (sgn (tks T N q)) := by
    rcases sgn_ok (tks T N q) with e | e
    · exact absurd e h0
    · exact e.1
  have hnz : tks T N q ≠ 29 ∧ tks T N q ≠ 41 := by
    constructor <;> intro e <;> rw [e] at h0 <;> exact h0 rfl
  have hsg := r_sign (h.1.2.2 q) h.2.1
  generalize hvv : sgn (tks T N q) = v at *
  have hlt := hok.lt
  have htl := tg_le v
  have hσl : σ.length ≤ 100 := by rw [List.length_append] at hl; omega
  obtain ⟨J1, a1, a2, a3⟩ := x_close hs11 τ C d FU J hτ hσ hl hC h hd (by omega) (by rw [List.length_append] at hl; unfold FU; omega)
  have a2' := a2
  obtain ⟨k1, k2, k3, k4, k4', k5, k6, k7, k8, k9, k10, k11⟩ := a2'
  generalize hJ2 : wI J1 110 σ.length (Int32.ofNat v) = J2
  generalize hJ3 : wI J2 102 19 (Int32.ofNat (σ.length + 1)) = J3
  have g : ∀ j, j ≠ 19 → J3 102 j = J1 102 j := fun j h1 => by rw [← hJ3, wI_ne (by omega), ← hJ2, wI_c (by omega)]
  have gx : ∀ x, x ≠ 102 → x ≠ 110 → J3 x = J1 x := fun x h1 h2 => by rw [← hJ3, wI_c h1, ← hJ2, wI_c h2]
  have g110 : J3 110 = wI J1 110 σ.length (Int32.ofNat v) 110 := by rw [← hJ3, wI_c (by omega), hJ2]
  have hR : RF T N s q u U d (v :: σ) (C ++ τ.map eo) J3 M := a2.up (gx 103 (by omega) (by omega)) (fun j h1 _ _ _ => g j h1) (k6.c (gx 104 (by omega) (by omega)) (gx 105 (by omega) (by omega)) (gx 106 (by omega) (by omega))) (by rw [← hJ3, wI_at]; rfl) ⟨by rw [g110, wI_at], (SkA.w (Nat.le_refl _) k8).c g110⟩ (by rw [g 20 (by omega)]; exact k9) (by rw [g 22 (by omega)]; exact k10) (by rw [g 23 (by omega)]; exact k11)
  obtain ⟨J4, M4, b1', b2', b3', b4'⟩ := hR.nx hnz.1
  refine ⟨J4, M4, fun n => ?_, b2', (a3.trans (by rw [← hJ3, ← hJ2]; exact RFm.w110.trans (RFm.w (by omega)))).trans b3', b4'⟩
  have ht : x11_tight (Int32.ofNat v) J = some (Int32.ofNat (tg v)) := x_tight hok
  have e19 : J2 102 19 = Int32.ofNat σ.length := by rw [← hJ2, wI_c (by omega)]; exact k7
  have tail : (b1 (x11_close (Int32.ofNat (tg v)) J) fun I15 => ck (vp_in (I15 102 19) 160) <| lt (wI I15 110 (ix (I15 102 19)) (Int32.ofNat v)) fun I16 => lt (wI I16 102 19 ((I16 102 19) + 1)) fun I18 => b2 (x11_token I18 M) fun I19 L20 => b2 (x11_unit I19 L20) fun I21 L22 => x11_formula_L36 n 1 I21 L22) = b2 (x11_unit J4 M4) fun I L => x11_formula_L36 n 1 I L := by
    simp only [x11_close, a1, q_b1]
    rw [k7, q_in (by omega) (by omega), q_ck, show ix (Int32.ofNat σ.length) = σ.length from q_ix (by omega), hJ2, q_l, e19, q_addn, q_l]
    show b2 (x11_token (wI J2 102 19 (Int32.ofNat (σ.length + 1))) M) _ = _
    rw [hJ3, b1', q_b2]
  have hfull : x11_formula_L36 (n + 1) 1 J M = b2 (x11_unit J4 M4) fun I L => x11_formula_L36 n 1 I L := by
    have e41 : ¬ J 102 6 = 41 := fun e => hnz.2 ((h.cd (v := 41) (by omega) (by omega)).mp e)
    have h' := h
    obtain ⟨l1, l2, l3, l4, l4', l5, l6, l7, l8, l9, l10, l11⟩ := h'
    rw [x11_formula_L36, x11_formula_L36s, if_neg (by decide), if_pos l4, hsg, q_b1, q_l, if_neg e41, if_neg (by rw [q_eqn (by omega) (by omega)]; show ¬ v = 0; omega), ht, q_b1]
    by_cases e4 : tg v = 4
    · have hrl' := x_hasRel l7 l8 hv (by omega)
      rw [hr e4, if_neg (by decide)] at hrl'
      rw [if_pos (by rw [e4]; rfl), hrl', q_b1, if_pos rfl, q_b1]
      exact tail
    · rw [if_neg (by rw [q_eqn (by omega) (by omega)]; exact e4), q_b1]
      exact tail
  rw [FB, hfull, b1_b2]
  exact x_unit_FA n
theorem x_close1 (hs : s < 11) (hτ : ∀ v, v ∈ τ → okT v ∧ p ≤ tg v) (hst : stp p σ) (hl : (τ ++ σ).length ≤ 100) (hC : C.length + τ.length ≤ 320) (h : RF T N s q u U (d + nots τ) (τ ++ σ) C J M) (hd : d < 1000) (hp : p < 1000) : ∃ J', x11_close (Int32.ofNat p) J = some J' ∧ RF T N s q u U d σ (C ++ τ.map eo) J' M ∧ RFm s J J' := by
  obtain ⟨J1, a1, a2, a3⟩ := x_close hs τ C d FU J hτ hst hl hC h hd hp (by rw [List.length_append] at hl; unfold FU; omega)
  exact ⟨J1, by simp only [x11_close, a1, q_b1], a2, a3⟩
theorem FB_cl (h : RF T N s q u U (d + 1 + nots τ) (τ ++ 20 :: σ) C J M) (hs11 : s < 11) (h41 : tks T N q = 41) (hτ : ∀ v, v ∈ τ → okT v) (hv : ∀ v, v ∈ τ ++ 20 :: σ → v = 20 ∨ okT v) (hl : (τ ++ 20 :: σ).length ≤ 100) (hC : C.length + τ.length ≤ 320) (hd : d < 999) : ∃ J' M', (∀ n, FB (n + 1) J M = FB n J' M') ∧ RF T N s (tkn T N q) u U d σ (C ++ τ.map eo) J' M' ∧ RFm s J J' ∧ LFr M M' := by
  have hsg := r_sign (h.1.2.2 q) h.2.1
  have hv256 : ∀ v, v ∈ τ ++ 20 :: σ → v < 256 := fun v hv' => by
    rcases hv v hv' with e | e
    · omega
    · exact e.lt.1
  obtain ⟨J1, a1, a2, a3⟩ := x_close1 (p := 0) (σ := 20 :: σ) hs11 (fun v hv' => ⟨hτ v hv', by omega⟩) (show stp 0 (20 :: σ) from Or.inl rfl) hl hC h (by omega) (by omega)
  have hσl : σ.length ≤ 100 := by simp only [List.length_append, List.length_cons] at hl; omega
  have a2' := a2
  obtain ⟨k1, k2, k3, k4, k4', k5, k6, k7, k8, k9, k10, k11⟩ := a2'
  generalize hJ2 : wI J1 102 19 (Int32.ofNat σ.length) = J2
  generalize hJ3 : wI J2 102 23 (Int32.ofNat d) = J3
  have g : ∀ j, j ≠ 19 → j ≠ 23 → J3 102 j = J1 102 j := fun j h1 h2 => by rw [← hJ3, wI_ne (by omega), ← hJ2, wI_ne (by omega)]
  have gx : ∀ x, x ≠ 102 → J3 x = J1 x := fun x h1 => by rw [← hJ3, wI_c h1, ← hJ2, wI_c h1]
  have hR : RF T N s q u U d σ (C ++ τ.map eo) J3 M := a2.up (gx 103 (by omega)) (fun j h1 _ _ h2 => g j h1 h2) (k6.c (gx 104 (by omega)) (gx 105 (by omega)) (gx 106 (by omega))) (by rw [← hJ3, wI_ne (by omega), ← hJ2, wI_at]) (k8.2.c (gx 110 (by omega))) (by rw [g 20 (by omega) (by omega)]; exact k9) (by rw [g 22 (by omega) (by omega)]; exact k10) (by rw [← hJ3, wI_at])
  obtain ⟨J4, M4, b1', b2', b3', b4'⟩ := hR.nx (by omega)
  refine ⟨J4, M4, fun n => ?_, b2', (a3.trans (by rw [← hJ3, ← hJ2]; exact (RFm.w (by omega)).trans (RFm.w (by omega)))).trans b3', b4'⟩
  have e41 : J 102 6 = 41 := (h.cd (v := 41) (by omega) (by omega)).mpr h41
  obtain ⟨l1, l2, l3, l4, l4', l5, l6, l7, l8, l9, l10, l11⟩ := h
  have hb := x_hasBr l7 l8 hv256 (by omega)
  rw [if_pos (by simp)] at hb
  have e23 : J2 102 23 = Int32.ofNat (d + 1) := by rw [← hJ2, wI_ne (by omega)]; exact k11
  have hfull : x11_formula_L36 (n + 1) 1 J M = x11_formula_L36 n 1 J4 M4 := by
    rw [x11_formula_L36, x11_formula_L36s, if_neg (by decide), if_pos l4, hsg, q_b1, q_l, if_pos e41, hb, q_b1, if_neg (by decide), show (0 : Int32) = Int32.ofNat 0 from rfl, a1, q_b1, k7, List.length_cons, q_subn (by show 1 ≤ _; omega), q_l, show σ.length + 1 - (OfNat.ofNat 1 : Nat) = σ.length from Nat.add_sub_cancel .., hJ2, e23, q_subn (by show 1 ≤ _; omega), q_l, show d + 1 - (OfNat.ofNat 1 : Nat) = d from Nat.add_sub_cancel .., hJ3, b1', q_b2]
  rw [FB, hfull, FB]
def EndC (s : Nat) (st : List Nat) : Prop := sgn s = 0 ∨ (tg (sgn s) = 4 ∧ hrl st = true)
theorem L36_end (h : RF T N s q u U d st C J M) (he : EndC (tks T N q) st) (h41 : tks T N q = 41 → ¬ 20 ∈ st) (hv : ∀ v, v ∈ st → v = 20 ∨ okT v) (hl : st.length ≤ 100) : x11_formula_L36 (n + 2) 1 J M = some (J, M) := by
  have hsg := r_sign (h.1.2.2 q) h.2.1
  have hv256 : ∀ v, v ∈ st → v < 256 := fun v hv' => by
    rcases hv v hv' with e | e
    · omega
    · exact e.lt.1
  have e41 : (J 102 6 = 41) = (tks T N q = 41) := h.cd (v := 41) (by omega) (by omega)
  obtain ⟨l1, l2, l3, l4, l4', l5, l6, l7, l8, l9, l10, l11⟩ := h
  have e0 : x11_formula_L36 (n + 1) 0 J M = some (J, M) := by rw [x11_formula_L36, x11_formula_L36s, if_pos rfl]
  rw [x11_formula_L36, x11_formula_L36s, if_neg (by decide), if_pos l4, hsg, q_b1, q_l]
  rcases he with he | ⟨he, hh⟩
  · rw [he]
    by_cases e : tks T N q = 41
    · have hb := x_hasBr l7 l8 hv256 (by omega)
      rw [if_neg (h41 e)] at hb
      rw [if_pos (e41.mpr e), hb, q_b1, if_pos rfl, if_pos (show Int32.ofNat 0 = 0 from rfl), q_l, e0]
    · rw [if_neg (fun g => e (e41.mp g)), if_pos (show Int32.ofNat 0 = 0 from rfl), q_l, e0]
  · have hne : sgn (tks T N q) ≠ 0 := by intro e; rw [e] at he; exact absurd he (by decide)
    have hok : okT (sgn (tks T N q)) := by
      rcases sgn_ok (tks T N q) with e | e
      · exact absurd e hne
      · exact e.1
    have hlt := hok.lt
    have e : ¬ tks T N q = 41 := by intro e; rw [e] at hne; exact hne rfl
    have hrl' := x_hasRel l7 l8 hv (by omega)
    rw [if_pos hh] at hrl'
    rw [if_neg (fun g => e (e41.mp g)), if_neg (by rw [q_eqn (by omega) (by omega)]; exact hne), x_tight hok, q_b1, he, if_pos (show Int32.ofNat 4 = 4 from rfl), hrl', q_b1, if_neg (by decide), q_l, e0]
/-- a bracket is still open -/
theorem FB_endF (h : RF T N s q u U d st C J M) (he : EndC (tks T N q) st) (h20 : 20 ∈ st) (h41 : tks T N q ≠ 41) (hv : ∀ v, v ∈ st → v = 20 ∨ okT v) (hl : st.length ≤ 100) : ∃ J', (∀ n, FB (n + 2) J M = some (J', M)) ∧ FltR T N s q J J' := by
  have hL := fun n => L36_end (n := n) h he (fun e => absurd e h41) hv hl
  have hv256 : ∀ v, v ∈ st → v < 256 := fun v hv' => by
    rcases hv v hv' with e | e
    · omega
    · exact e.lt.1
  obtain ⟨Jw, w1, w2, w3, w4, w5, w6⟩ := x_wrong h 2
  obtain ⟨l1, l2, l3, l4, l4', l5, l6, l7, l8, l9, l10, l11⟩ := h
  have hb := x_hasBr l7 l8 hv256 (by omega)
  rw [if_pos h20] at hb
  have h1 := (fkd_c (T := T) (N := N) (q := q) 2 (by simp)).2
  rw [← w2] at h1
  refine ⟨Jw, fun n => ?_, w2, w3, w4⟩
  rw [FB, hL n, q_b1]
  simp only [rfin, if_pos l4, hb, q_b1, if_neg (show ¬ (1 : Int32) = 0 by decide), w1, if_neg h1]
/-- the formula is whole -/
theorem FB_end (h : RF T N s q u U (d + nots τ) τ C J M) (hs11 : s < 11) (he : EndC (tks T N q) τ) (hτ : ∀ v, v ∈ τ → okT v) (hl : τ.length ≤ 100) (hC : C.length + τ.length ≤ 320) (hd : d < 1000) : ∃ J', (∀ n, FB (n + 2) J M = some (J', M)) ∧ RF T N s q u U d [] (C ++ τ.map eo) J' M ∧ RFm s J J' := by
  have h20 : ¬ 20 ∈ τ := fun hm => (hτ 20 hm).lt.2.1 rfl
  have hL := fun n => L36_end (n := n) h he (fun _ => h20) (fun v hv => Or.inr (hτ v hv)) hl
  obtain ⟨J1, a1, a2, a3⟩ := x_close1 (p := 0) (σ := []) hs11 (fun v hv' => ⟨hτ v hv', by omega⟩) trivial (by simpa using hl) hC (by simpa using h) hd (by omega)
  obtain ⟨l1, l2, l3, l4, l4', l5, l6, l7, l8, l9, l10, l11⟩ := h
  have hb := x_hasBr l7 l8 (fun v hv => (hτ v hv).lt.1) (by omega)
  rw [if_neg h20] at hb
  refine ⟨J1, fun n => ?_, a2, a3⟩
  rw [FB, hL n, q_b1]
  simp only [rfin, if_pos l4, hb, q_b1, if_true]
  rw [show (0 : Int32) = Int32.ofNat 0 from rfl, a1, q_b1]
end RFX
