/-! THE TEXT: the reference's steps over a formula -/
noncomputable def urest (e24 : MI × ML) : Option (MI × ML) :=
if 0 < (e24.1 102 2) then (
some (e24.1, e24.2)) else
b1 (x11_asked e24.1 e24.2) fun r25 =>
lt r25 fun v26 =>
b1 (
if (e24.1 102 6) = 2 then (
b1 (x11_isFull e24.1) fun r28 =>
if r28 = 0 then (
some e24.1) else
b1 (x11_wrong (2 : Int32) e24.1) fun I29 =>
some I29) else
if v26 < 0 then (
b1 (x11_wrong (2 : Int32) e24.1) fun I30 =>
some I30) else
b1 (x11_isFull e24.1) fun r31 =>
if r31 = 0 then (
some e24.1) else
b1 (x11_wrong (2 : Int32) e24.1) fun I32 =>
some I32) fun e27 =>
if 0 < (e27 102 2) then (
some (e27, e24.2)) else
b1 (x11_countUnit e27) fun I33 =>
b1 (
if v26 < 0 then (
some (0 : Int32)) else
some (1 : Int32)) fun e34 =>
b1 (
if v26 < 0 then (
some (I33 102 8)) else
some v26) fun e35 =>
b1 (x11_add e34 e35 I33) fun I36 =>
b2 (x11_token I36 e24.2) fun I37 L38 =>
some (I37, L38)
noncomputable def rfin (e62 : MI × ML) : Option (MI × ML) :=
b1 (
if (e62.1 102 2) = 0 then (
b1 (x11_hasBracket e62.1) fun r64 =>
if r64 = 0 then (
some e62.1) else
b1 (x11_wrong (2 : Int32) e62.1) fun I65 =>
some I65) else
some e62.1) fun e63 =>
if (e63 102 2) = 0 then (
b1 (x11_close (0 : Int32) e63) fun I66 =>
some (I66, e62.2)) else
some (e63, e62.2)
noncomputable def FB (n : Nat) (I : MI) (L : ML) : Option (MI × ML) := b1 (x11_formula_L36 n 1 I L) rfin
noncomputable def FA (m n : Nat) (I : MI) (L : ML) : Option (MI × ML) := b2 (b1 (x11_unit_L2 m 1 I L) urest) (FB n)
def fkd (T : Nat → Nat) (N q : Nat) (k : Int32) : Int32 := if tks T N q = 29 then 1 else k
def FltR (T : Nat → Nat) (N s q : Nat) (J J' : MI) : Prop := J' 102 2 = fkd T N q 2 ∧ J' 102 3 = Int32.ofNat q ∧ RFm s J J'
section RFX
variable {T : Nat → Nat} {N s q u U d n m p : Nat} {st τ σ : List Nat} {C : List Int32} {J J' J'' : MI} {M M' : ML}
theorem b1_b2 {α β γ δ : Type} (x : Option (α × β)) (f : α → β → Option γ) (g : γ → Option δ) : b1 (b2 x f) g = b2 x (fun a b => b1 (f a b) g) := by
  cases x with
  | none => rfl
  | some y => rfl
theorem x_unit_FA (n : Nat) : b2 (x11_unit J M) (fun I L => b1 (x11_formula_L36 n 1 I L) rfin) = FA FU n J M := rfl
theorem fkd_c (k : Int32) (hk : k = 2 ∨ k = 3 ∨ k = 4 ∨ k = 5) : 0 < fkd T N q k ∧ ¬ fkd T N q k = 0 := by
  rw [fkd]
  split
  · decide
  · rcases hk with e | e | e | e <;> rw [e] <;> decide
theorem RF.up {u' U' d' : Nat} {st' : List Nat} {C' : List Int32} (h : RF T N s q u U d st C J M) (e1 : J' 103 = J 103) (e2 : ∀ j, j ≠ 19 → j ≠ 20 → j ≠ 22 → j ≠ 23 → J' 102 j = J 102 j) (hC : CdA C' s J') (h19 : J' 102 19 = Int32.ofNat st'.length) (hS : SkA st' J') (h20 : J' 102 20 = Int32.ofNat U') (h22 : J' 102 22 = Int32.ofNat u') (h23 : J' 102 23 = Int32.ofNat d') : RF T N s q u' U' d' st' C' J' M := by
  obtain ⟨k1, k2, k3, k4, k4', k5, -⟩ := h
  have e : ∀ j, j = 2 ∨ j = 3 ∨ j = 4 ∨ j = 5 ∨ j = 6 ∨ j = 7 ∨ j = 8 ∨ j = 18 → J' 102 j = J 102 j := fun j hj => e2 j (by omega) (by omega) (by omega) (by omega)
  exact ⟨⟨k1.1, fun i hi => by rw [e1]; exact k1.2.1 i hi, k1.2.2⟩, ⟨by rw [e 5 (by omega)]; exact k2.1, by rw [e 7 (by omega)]; exact k2.2.1, by rw [e 6 (by omega)]; exact k2.2.2.1, by rw [e 4 (by omega)]; exact k2.2.2.2.1, fun h => by rw [e 8 (by omega)]; exact k2.2.2.2.2.1 h, k2.2.2.2.2.2⟩, k3, by rw [e 2 (by omega)]; exact k4, by rw [e 3 (by omega)]; exact k4', by rw [e 18 (by omega)]; exact k5, hC, h19, hS, h20, h22, h23⟩
theorem RF.nx (h : RF T N s q u U d st C J M) (hs : tks T N q ≠ 29) : ∃ J' M', x11_token J M = some (J', M') ∧ RF T N s (tkn T N q) u U d st C J' M' ∧ RFm s J J' ∧ LFr M M' := by
  obtain ⟨k1, k2, k3, k4, k4', k5, k6, k7, k8, k9, k10, k11⟩ := h
  obtain ⟨J', M', a1, a2, a3, a4⟩ := r_nxt k1 k3 k2
  rw [if_neg hs] at a2
  have e : ∀ j, j = 2 ∨ j = 3 ∨ j = 5 ∨ j = 18 ∨ j = 19 ∨ j = 20 ∨ j = 22 ∨ j = 23 → J' 102 j = J 102 j := fun j hj => a3.2 j (by omega) (by omega) (by omega) (by omega)
  exact ⟨J', M', a1, ⟨⟨k1.1, fun i hi => by rw [a3.1 103 (by omega)]; exact k1.2.1 i hi, k1.2.2⟩, a2, (tkn_le k3).2, by rw [e 2 (by omega)]; exact k4, by rw [e 3 (by omega)]; exact k4', by rw [e 18 (by omega)]; exact k5, k6.c (a3.1 104 (by omega)) (a3.1 105 (by omega)) (a3.1 106 (by omega)), by rw [e 19 (by omega)]; exact k7, k8.c (a3.1 110 (by omega)), by rw [e 20 (by omega)]; exact k9, by rw [e 22 (by omega)]; exact k10, by rw [e 23 (by omega)]; exact k11⟩, a3.fm, a4⟩
theorem x_open (h : RF T N s q u U d st C J M) (hs : tks T N q ≠ 29) (hl : st.length < 160) (v : Nat) : ∃ J' M', x11_openUp (Int32.ofNat v) J M = some (J', M') ∧ RF T N s (tkn T N q) u U (d + 1) (v :: st) C J' M' ∧ RFm s J J' ∧ LFr M M' := by
  have h' := h
  obtain ⟨k1, k2, k3, k4, k4', k5, k6, k7, k8, k9, k10, k11⟩ := h'
  generalize hJ1 : wI J 110 st.length (Int32.ofNat v) = J1
  generalize hJ2 : wI J1 102 19 (Int32.ofNat (st.length + 1)) = J2
  have f1 : J1 102 = J 102 := by rw [← hJ1, wI_c (by omega)]
  generalize hJ3 : wI J2 102 23 (Int32.ofNat (d + 1)) = J3
  have g : ∀ j, j ≠ 19 → j ≠ 23 → J3 102 j = J 102 j := fun j h1 h2 => by rw [← hJ3, wI_ne (by omega), ← hJ2, wI_ne (by omega), f1]
  have gx : ∀ x, x ≠ 102 → x ≠ 110 → J3 x = J x := fun x h1 h2 => by rw [← hJ3, wI_c h1, ← hJ2, wI_c h1, ← hJ1, wI_c h2]
  have g110 : J3 110 = wI J 110 st.length (Int32.ofNat v) 110 := by rw [← hJ3, wI_c (by omega), ← hJ2, wI_c (by omega), hJ1]
  have hR : RF T N s q u U (d + 1) (v :: st) C J3 M := h.up (gx 103 (by omega) (by omega)) (fun j h1 _ _ h2 => g j h1 h2) (k6.c (gx 104 (by omega) (by omega)) (gx 105 (by omega) (by omega)) (gx 106 (by omega) (by omega))) (by rw [← hJ3, wI_ne (by omega), ← hJ2, wI_at]; rfl) ⟨by rw [g110, wI_at], (SkA.w (Nat.le_refl _) k8).c g110⟩ (by rw [g 20 (by omega) (by omega)]; exact k9) (by rw [g 22 (by omega) (by omega)]; exact k10) (by rw [← hJ3, wI_at])
  obtain ⟨J', M', a1, a2, a3, a4⟩ := hR.nx hs
  refine ⟨J', M', ?_, a2, RFm.trans (by rw [← hJ3, ← hJ2, ← hJ1]; exact (RFm.w110.trans (RFm.w (by omega))).trans (RFm.w (by omega))) a3, a4⟩
  have e19 : J1 102 19 = Int32.ofNat st.length := by rw [f1]; exact k7
  have e23 : J2 102 23 = Int32.ofNat d := by rw [← hJ2, wI_ne (by omega), f1]; exact k11
  have e2 : J3 102 2 = 0 := by rw [g 2 (by omega) (by omega)]; exact k4
  simp (disch := omega) only [x11_openUp, k7, QN, QB, hJ1, e19, hJ2, e23, hJ3, e2, if_true, a1]
theorem x_openF (h19 : J 102 19 = Int32.ofNat st.length) (hl : st.length < 160) (hf : J 102 2 = fkd T N q 2) (v : Nat) : ∃ J', x11_openUp (Int32.ofNat v) J M = some (J', M) ∧ J' 102 2 = J 102 2 ∧ J' 102 3 = J 102 3 ∧ RFm s J J' := by
  generalize hJ1 : wI J 110 st.length (Int32.ofNat v) = J1
  generalize hJ2 : wI J1 102 19 (J1 102 19 + 1) = J2
  generalize hJ3 : wI J2 102 23 (J2 102 23 + 1) = J3
  have g : ∀ j, j ≠ 19 → j ≠ 23 → J3 102 j = J 102 j := fun j h1 h2 => by rw [← hJ3, wI_ne (by omega), ← hJ2, wI_ne (by omega), ← hJ1, wI_c (by omega)]
  have e2 : ¬ J3 102 2 = 0 := by rw [g 2 (by omega) (by omega), hf]; exact (fkd_c 2 (by simp)).2
  refine ⟨J3, ?_, g 2 (by omega) (by omega), g 3 (by omega) (by omega), by rw [← hJ3, ← hJ2, ← hJ1]; exact (RFm.w110.trans (RFm.w (by omega))).trans (RFm.w (by omega))⟩
  simp (disch := omega) only [x11_openUp, h19, QN, q_ck, q_l, hJ1]
  rw [hJ2, hJ3, if_neg e2]
theorem x_wrong (h : RF T N s q u U d st C J M) (k : Int32) : ∃ J', x11_wrong k J = some J' ∧ J' 102 2 = fkd T N q k ∧ J' 102 3 = Int32.ofNat q ∧ RFm s J J' ∧ (∀ j, j ≠ 2 → j ≠ 3 → J' 102 j = J 102 j) ∧ ∀ x, x ≠ 102 → J' x = J x := by
  obtain ⟨k1, k2, k3, k4, k4', k5, k6, k7, k8, k9, k10, k11⟩ := h
  have e7 : ∀ v, wI J 102 2 v 102 7 = Int32.ofNat q := fun v => by rw [wI_ne (by omega)]; exact k2.2.1
  have e3 := r_c3 (k1.2.2 q) k2
  by_cases e : tks T N q = 29
  · refine ⟨wI (wI J 102 2 1) 102 3 (Int32.ofNat q), ?_, by rw [wI_ne (by omega), wI_at, fkd, if_pos e], wI_at, (RFm.w (by omega)).trans (RFm.w (by omega)), fun j h1 h2 => by rw [wI_ne (by omega), wI_ne (by omega)], fun x hx => by rw [wI_c hx, wI_c hx]⟩
    rw [x11_wrong, k4, if_neg (by decide), if_pos (e3.mpr e), q_l, q_l, e7]
  · refine ⟨wI (wI J 102 2 k) 102 3 (Int32.ofNat q), ?_, by rw [wI_ne (by omega), wI_at, fkd, if_neg e], wI_at, (RFm.w (by omega)).trans (RFm.w (by omega)), fun j h1 h2 => by rw [wI_ne (by omega), wI_ne (by omega)], fun x hx => by rw [wI_c hx, wI_c hx]⟩
    rw [x11_wrong, k4, if_neg (by decide), if_neg (fun h => e (e3.mp h)), q_l, q_l, e7]
theorem FB_flt (hf : J 102 2 = fkd T N q 2) : FB (n + 1) J M = some (J, M) := by
  have h1 := (fkd_c (T := T) (N := N) (q := q) 2 (by simp)).2
  rw [← hf] at h1
  rw [FB, x11_formula_L36, x11_formula_L36s, if_neg (by decide), if_neg h1, q_b1]
  simp only [rfin, if_neg h1, q_b1]
theorem L2_flt (hf : J 102 2 = fkd T N q 2) : x11_unit_L2 (m + 1) 1 J M = some (J, M) := by
  have h1 := (fkd_c (T := T) (N := N) (q := q) 2 (by simp)).2
  rw [← hf] at h1
  rw [x11_unit_L2, x11_unit_L2s, if_neg (by decide), if_neg h1]
theorem ur_flt (hf : J 102 2 = fkd T N q 2) : urest (J, M) = some (J, M) := by
  have h1 := (fkd_c (T := T) (N := N) (q := q) 2 (by simp)).1
  rw [← hf] at h1
  simp only [urest, if_pos h1]
theorem RF.isNot (h : RF T N s q u U d st C J M) : x11_isWord 7237492 J M = some (if tks T N q = 25 then 1 else 0) := r_isW (h.1.2.2 q) h.2.1 (i := 25) (by omega) (kw_e 25 (by omega)).symm
theorem RF.cd (h : RF T N s q u U d st C J M) {v : Nat} (hv : 29 < v) (hv' : v < 256) : (J 102 6 = Int32.ofNat v) = (tks T N q = v) := r_cs (h.1.2.2 q) h.2.1 hv hv'
theorem RF.cnt (h : RF T N s q u U d st C J M) : ∃ J', x11_countUnit J = some J' ∧ RF T N s q (u + 1) (U + 1) d st C J' M ∧ RFm s J J' := by
  have h' := h
  obtain ⟨k1, k2, k3, k4, k4', k5, k6, k7, k8, k9, k10, k11⟩ := h'
  have g : ∀ j, j ≠ 20 → j ≠ 22 → wI (wI J 102 20 (Int32.ofNat (U + 1))) 102 22 (Int32.ofNat (u + 1)) 102 j = J 102 j := fun j h1 h2 => by rw [wI_ne (by omega), wI_ne (by omega)]
  have gx : ∀ x, x ≠ 102 → wI (wI J 102 20 (Int32.ofNat (U + 1))) 102 22 (Int32.ofNat (u + 1)) x = J x := fun x hx => by rw [wI_c hx, wI_c hx]
  refine ⟨wI (wI J 102 20 (Int32.ofNat (U + 1))) 102 22 (Int32.ofNat (u + 1)), ?_, h.up (gx 103 (by omega)) (fun j _ h1 h2 _ => g j h1 h2) (k6.c (gx 104 (by omega)) (gx 105 (by omega)) (gx 106 (by omega))) (by rw [g 19 (by omega) (by omega)]; exact k7) (k8.c (gx 110 (by omega))) (by rw [wI_ne (by omega), wI_at]) wI_at (by rw [g 23 (by omega) (by omega)]; exact k11), (RFm.w (by omega)).trans (RFm.w (by omega))⟩
  have e22 : wI J 102 20 (Int32.ofNat (U + 1)) 102 22 = Int32.ofNat u := by rw [wI_ne (by omega)]; exact k10
  rw [x11_countUnit, k9, q_addn, q_l, e22, q_addn]
  rfl
/-- a bracket opens -/
theorem FA_br (h : RF T N s q u U d st C J M) (hs : tks T N q = 40) (hu : u < 30) (hU : U < 90) (hd : d ≤ 6) (hl : st.length < 150) : ∃ J' M', (∀ m n, FA (m + 1) n J M = FA m n J' M') ∧ RF T N s (tkn T N q) (u + 1) (U + 1) (d + 1) (20 :: st) C J' M' ∧ RFm s J J' ∧ LFr M M' := by
  obtain ⟨J1, a1, a2, a3⟩ := h.cnt
  obtain ⟨J2, M2, b1', b2', b3', b4'⟩ := x_open a2 (by omega) (by omega) 20
  refine ⟨J2, M2, fun m n => ?_, b2', a3.trans b3', b4'⟩
  have h' := h
  obtain ⟨k1, k2, k3, k4, k4', k5, k6, k7, k8, k9, k10, k11⟩ := h'
  have e40 : J 102 6 = 40 := (h.cd (v := 40) (by omega) (by omega)).mpr hs
  have hn := h.isNot
  rw [if_neg (by omega)] at hn
  have hfl := x_isFull (u := u) (U := U) k9 k10 (by omega) (by omega)
  rw [if_neg (by omega)] at hfl
  have hd6 : ¬ (6 < J 102 23) := by rw [k11, q_nlt (by omega) (by omega)]; show ¬ 6 < d; omega
  have e : x11_unit_L2 (m + 1) 1 J M = x11_unit_L2 m 1 J2 M2 := by
    rw [x11_unit_L2]
    simp only [x11_unit_L2s, if_neg (show ¬ (1 : Int32) = 0 by decide), k4, hn, e40, hfl, if_true, q_b1, if_neg hd6, a1]
    rw [show (20 : Int32) = Int32.ofNat 20 from rfl, b1', q_b2]
  rw [FA, e, FA]
/-- a `not` -/
theorem FA_not (h : RF T N s q u U d st C J M) (hs : tks T N q = 25) (hm : mno st = true) (hv : ∀ v, v ∈ st → v = 20 ∨ okT v) (hd : d ≤ 6) (hl : st.length < 150) : ∃ J' M', (∀ m n, FA (m + 1) n J M = FA m n J' M') ∧ RF T N s (tkn T N q) u U (d + 1) (21 :: st) C J' M' ∧ RFm s J J' ∧ LFr M M' := by
  obtain ⟨J2, M2, b1', b2', b3', b4'⟩ := x_open h (by omega) (by omega) 21
  refine ⟨J2, M2, fun m n => ?_, b2', b3', b4'⟩
  have h' := h
  obtain ⟨k1, k2, k3, k4, k4', k5, k6, k7, k8, k9, k10, k11⟩ := h'
  have hn := h.isNot
  rw [if_pos hs] at hn
  have hmn := x_mayNot k7 k8 hv (by omega)
  rw [if_pos hm] at hmn
  have hd6 : ¬ (6 < J 102 23) := by rw [k11, q_nlt (by omega) (by omega)]; show ¬ 6 < d; omega
  have e : x11_unit_L2 (m + 1) 1 J M = x11_unit_L2 m 1 J2 M2 := by
    rw [x11_unit_L2]
    simp only [x11_unit_L2s, if_neg (show ¬ (1 : Int32) = 0 by decide), k4, hn, hmn, if_true, q_b1, if_neg hd6]
    rw [show (21 : Int32) = Int32.ofNat 21 from rfl, b1', q_b2]
  rw [FA, e, FA]
end RFX
