/-! THE TEXT: lines: apple, bobber: the reference's stages, and that a fault stays -/
noncomputable def ap7 (I40 : MI) (L39 : ML) : Option (MI × ML) :=
b3 (x11_takes (1668245870 : Int64) I40 L39) fun r42 I43 L44 =>
b1 (
if r42 = 0 then (
some ((1 : Int32), I43, L44)) else
b3 (x11_toldNumber (0 : Int32) (99 : Int32) I43 L44) fun r46 I47 L48 =>
some (r46, I47, L48)) fun e45 =>
ck (vp_in (I40 102 53) 10) <|
lt (wI e45.2.1 117 (ix (I40 102 53)) e45.1) fun I49 =>
if (I49 102 2) = 0 then (
lt (wI I49 102 53 ((I49 102 53) + 1)) fun I51 =>
some (I51, e45.2.2)) else
some (I49, e45.2.2)
noncomputable def ap6 (I35 : MI) (L34 : ML) : Option (MI × ML) :=
b3 (x11_takes (495873780843 : Int64) I35 L34) fun r37 I38 L39 =>
ck (vp_in (I35 102 53) 10) <|
lt (wI I38 124 (ix (I35 102 53)) (zb r37)) fun I40 => ap7 I40 L39
noncomputable def ap5 (I30 : MI) (L29 : ML) : Option (MI × ML) :=
b3 (x11_told (1936680564 : Int64) (0 : Int32) (9 : Int32) I30 L29) fun r32 I33 L34 =>
ck (vp_in (I30 102 53) 10) <|
lt (wI I33 114 (ix (I30 102 53)) r32) fun I35 => ap6 I35 L34
noncomputable def ap4 (e26 : MI) (L13 : ML) : Option (MI × ML) :=
b3 (x11_told (1936292453 : Int64) (1 : Int32) (99 : Int32) e26 L13) fun r27 I28 L29 =>
ck (vp_in (e26 102 53) 10) <|
lt (wI I28 113 (ix (e26 102 53)) r27) fun I30 => ap5 I30 L29
noncomputable def ap3 (v10 : Int32) (I14 : MI) (L13 : ML) : Option (MI × ML) :=
lt (0 : Int32) fun v16 =>
b1 (x11_readApple_L64 v10 FU v16 I14) fun e26 => ap4 e26 L13
noncomputable def ap2 (I8 : MI) (L7 : ML) : Option (MI × ML) :=
lt (I8 102 7) fun v10 =>
b3 (x11_toldNumber (0 : Int32) ((I8 102 50) - 1) I8 L7) fun r11 I12 L13 =>
ck (vp_in (I8 102 53) 10) <|
lt (wI I12 116 (ix (I8 102 53)) r11) fun I14 => ap3 v10 I14 L13
noncomputable def ap1 (I3 : MI) (L4 : ML) : Option (MI × ML) :=
b3 (x11_toldNumber (0 : Int32) ((I3 102 49) - 1) I3 L4) fun r5 I6 L7 =>
ck (vp_in (I3 102 53) 10) <|
lt (wI I6 115 (ix (I3 102 53)) r5) fun I8 => ap2 I8 L7
noncomputable def ap0 (I1 : MI) (L2 : ML) : Option (MI × ML) :=
b2 (x11_want (24948 : Int64) I1 L2) fun I3 L4 => ap1 I3 L4
noncomputable def bo6 (I28 : MI) (L27 : ML) : Option (MI × ML) :=
ck (vp_in (I28 102 54) 4) <|
lt (wI I28 123 (ix (I28 102 54)) (0 : Int32)) fun I30 =>
b3 (x11_takes (25209 : Int64) I30 L27) fun r32 I33 L34 =>
b1 (
if r32 = 0 then (
some (I33, L34)) else
b2 (x11_readBy I33 L34) fun I36 L37 =>
some (I36, L37)) fun e35 =>
if (e35.1 102 2) = 0 then (
lt (wI e35.1 102 54 ((e35.1 102 54) + 1)) fun I38 =>
some (I38, e35.2)) else
some (e35.1, e35.2)
noncomputable def bo5 (I23 : MI) (L22 : ML) : Option (MI × ML) :=
b3 (x11_told (470021403752 : Int64) (0 : Int32) (9 : Int32) I23 L22) fun r25 I26 L27 =>
ck (vp_in (I23 102 54) 4) <|
lt (wI I26 122 (ix (I23 102 54)) r25) fun I28 => bo6 I28 L27
noncomputable def bo4 (I18 : MI) (L17 : ML) : Option (MI × ML) :=
b3 (x11_told (108243466679400 : Int64) (0 : Int32) (20 : Int32) I18 L17) fun r20 I21 L22 =>
ck (vp_in (I18 102 54) 4) <|
lt (wI I21 121 (ix (I18 102 54)) r20) fun I23 => bo5 I23 L22
noncomputable def bo3 (I13 : MI) (L12 : ML) : Option (MI × ML) :=
b3 (x11_told (491327153000 : Int64) (0 : Int32) (5 : Int32) I13 L12) fun r15 I16 L17 =>
ck (vp_in (I13 102 54) 4) <|
lt (wI I16 120 (ix (I13 102 54)) r15) fun I18 => bo4 I18 L17
noncomputable def bo2 (I8 : MI) (L7 : ML) : Option (MI × ML) :=
b3 (x11_toldNumber (0 : Int32) ((I8 102 50) - 1) I8 L7) fun r10 I11 L12 =>
ck (vp_in (I8 102 54) 4) <|
lt (wI I11 119 (ix (I8 102 54)) r10) fun I13 => bo3 I13 L12
noncomputable def bo1 (I3 : MI) (L4 : ML) : Option (MI × ML) :=
b3 (x11_toldNumber (0 : Int32) ((I3 102 49) - 1) I3 L4) fun r5 I6 L7 =>
ck (vp_in (I3 102 54) 4) <|
lt (wI I6 118 (ix (I3 102 54)) r5) fun I8 => bo2 I8 L7
noncomputable def bo0 (I1 : MI) (L2 : ML) : Option (MI × ML) :=
b2 (x11_want (24948 : Int64) I1 L2) fun I3 L4 => bo1 I3 L4
/-- nothing but 113 .. 124 is touched -/
def Q24 (J J' : MI) : Prop := ∀ x, ¬ (113 ≤ x ∧ x ≤ 124) → J' x = J x
section STG
variable {n : Nat} {J J' J'' : MI} {M : ML}
theorem ap_eq : x11_readApple J M = b2 (x11_newName 6 (J 102 53) J M) ap0 := rfl
theorem bo_eq : x11_readBobber J M = b2 (x11_newName 16 (J 102 54) J M) bo0 := rfl
theorem Q24.refl : Q24 J J := fun _ _ => rfl
theorem Q24.trans (h : Q24 J J') (k : Q24 J' J'') : Q24 J J'' := fun x a => (k x a).trans (h x a)
theorem Q24.w {x i : Nat} {v : Int32} (hx : 113 ≤ x ∧ x ≤ 124) : Q24 J (wI J x i v) := fun y a => wI_c (by omega)
theorem fl_ne (h : 0 < J 102 2) : ¬ J 102 2 = 0 := fun g => by rw [g] at h; exact absurd h (by decide)
theorem fl_want (h : 0 < J 102 2) {v : Int64} : x11_want v J M = some (J, M) := by rw [x11_want, if_pos h]
theorem fl_num (h : 0 < J 102 2) {a b : Int32} : x11_toldNumber a b J M = some (0, J, M) := by rw [x11_toldNumber, if_pos h]
theorem fl_told (h : 0 < J 102 2) {v : Int64} {a b : Int32} : x11_told v a b J M = some (0, J, M) := by rw [x11_told, fl_want h, q_b2, fl_num h, q_b3]
theorem fl_takes (h : 0 < J 102 2) {v : Int64} : x11_takes v J M = some (0, J, M) := by rw [x11_takes, if_neg (fl_ne h), q_b1, q_l, if_pos rfl, ck_pos (Or.inl rfl)]
theorem fl_w {x i : Nat} {v : Int32} (hx : 113 ≤ x ∧ x ≤ 124) {j : Nat} : wI J x i v 102 j = J 102 j := wI_ne (by omega)
theorem fl_ap7 (h : 0 < J 102 2) (hn : J 102 53 = Int32.ofNat n) (hl : n < 10) : ∃ J', ap7 J M = some (J', M) ∧ Q24 J J' := by
  refine ⟨wI J 117 n 1, ?_, Q24.w (by omega)⟩
  rw [ap7, fl_takes h, q_b3, if_pos rfl, q_b1, hn, q_in (by omega) (by omega), q_ck, show ix (Int32.ofNat n) = n from q_ix (by omega), q_l, if_neg (by rw [fl_w (by omega)]; exact fl_ne h)]
theorem fl_ap6 (h : 0 < J 102 2) (hn : J 102 53 = Int32.ofNat n) (hl : n < 10) : ∃ J', ap6 J M = some (J', M) ∧ Q24 J J' := by
  obtain ⟨J', a1, a2⟩ := fl_ap7 (J := wI J 124 n (zb 0)) (M := M) (by rw [fl_w (by omega)]; exact h) (by rw [fl_w (by omega)]; exact hn) hl
  refine ⟨J', ?_, (Q24.w (by omega)).trans a2⟩
  rw [ap6, fl_takes h, q_b3, hn, q_in (by omega) (by omega), q_ck, show ix (Int32.ofNat n) = n from q_ix (by omega), q_l, a1]
theorem fl_ap5 (h : 0 < J 102 2) (hn : J 102 53 = Int32.ofNat n) (hl : n < 10) : ∃ J', ap5 J M = some (J', M) ∧ Q24 J J' := by
  obtain ⟨J', a1, a2⟩ := fl_ap6 (J := wI J 114 n 0) (M := M) (by rw [fl_w (by omega)]; exact h) (by rw [fl_w (by omega)]; exact hn) hl
  refine ⟨J', ?_, (Q24.w (by omega)).trans a2⟩
  rw [ap5, fl_told h, q_b3, hn, q_in (by omega) (by omega), q_ck, show ix (Int32.ofNat n) = n from q_ix (by omega), q_l, a1]
theorem fl_ap4 (h : 0 < J 102 2) (hn : J 102 53 = Int32.ofNat n) (hl : n < 10) : ∃ J', ap4 J M = some (J', M) ∧ Q24 J J' := by
  obtain ⟨J', a1, a2⟩ := fl_ap5 (J := wI J 113 n 0) (M := M) (by rw [fl_w (by omega)]; exact h) (by rw [fl_w (by omega)]; exact hn) hl
  refine ⟨J', ?_, (Q24.w (by omega)).trans a2⟩
  rw [ap4, fl_told h, q_b3, hn, q_in (by omega) (by omega), q_ck, show ix (Int32.ofNat n) = n from q_ix (by omega), q_l, a1]
theorem fl_L64 (h : 0 < J 102 2) (hn : J 102 53 = Int32.ofNat n) (hl : n < 10) (v : Int32) : ∀ (k i fu : Nat), i + k = n → k < fu → x11_readApple_L64 v fu (Int32.ofNat i) J = some J
  | 0, i, fu, hi, hfu => by
    obtain ⟨fu, rfl⟩ : ∃ n', fu = n' + 1 := ⟨fu - 1, by omega⟩
    rw [x11_readApple_L64, x11_readApple_L64s, hn, if_neg (by rw [q_lt (by omega) (by omega)]; omega)]
  | k + 1, i, fu, hi, hfu => by
    obtain ⟨fu, rfl⟩ : ∃ n', fu = n' + 1 := ⟨fu - 1, by omega⟩
    rw [x11_readApple_L64, x11_readApple_L64s, hn, if_pos (by rw [q_lt (by omega) (by omega)]; omega), if_neg (fl_ne h), q_addn, q_l]
    exact fl_L64 h hn hl v k (i + 1) fu (by omega) (by omega)
theorem fl_ap3 (h : 0 < J 102 2) (hn : J 102 53 = Int32.ofNat n) (hl : n < 10) (v : Int32) : ∃ J', ap3 v J M = some (J', M) ∧ Q24 J J' := by
  obtain ⟨J', a1, a2⟩ := fl_ap4 (M := M) h hn hl
  refine ⟨J', ?_, a2⟩
  have e := fl_L64 h hn hl v n 0 FU (by omega) (by unfold FU; omega)
  rw [ap3, q_l, show x11_readApple_L64 v FU 0 J = some J from e, q_b1, a1]
theorem fl_ap2 (h : 0 < J 102 2) (hn : J 102 53 = Int32.ofNat n) (hl : n < 10) : ∃ J', ap2 J M = some (J', M) ∧ Q24 J J' := by
  obtain ⟨J', a1, a2⟩ := fl_ap3 (J := wI J 116 n 0) (M := M) (by rw [fl_w (by omega)]; exact h) (by rw [fl_w (by omega)]; exact hn) hl (J 102 7)
  refine ⟨J', ?_, (Q24.w (by omega)).trans a2⟩
  rw [ap2, q_l, fl_num h, q_b3, hn, q_in (by omega) (by omega), q_ck, show ix (Int32.ofNat n) = n from q_ix (by omega), q_l, a1]
theorem fl_ap1 (h : 0 < J 102 2) (hn : J 102 53 = Int32.ofNat n) (hl : n < 10) : ∃ J', ap1 J M = some (J', M) ∧ Q24 J J' := by
  obtain ⟨J', a1, a2⟩ := fl_ap2 (J := wI J 115 n 0) (M := M) (by rw [fl_w (by omega)]; exact h) (by rw [fl_w (by omega)]; exact hn) hl
  refine ⟨J', ?_, (Q24.w (by omega)).trans a2⟩
  rw [ap1, fl_num h, q_b3, hn, q_in (by omega) (by omega), q_ck, show ix (Int32.ofNat n) = n from q_ix (by omega), q_l, a1]
theorem fl_ap0 (h : 0 < J 102 2) (hn : J 102 53 = Int32.ofNat n) (hl : n < 10) : ∃ J', ap0 J M = some (J', M) ∧ Q24 J J' := by
  obtain ⟨J', a1, a2⟩ := fl_ap1 (M := M) h hn hl
  exact ⟨J', by rw [ap0, fl_want h, q_b2, a1], a2⟩
theorem fl_bo6 (h : 0 < J 102 2) (hn : J 102 54 = Int32.ofNat n) (hl : n < 4) : ∃ J', bo6 J M = some (J', M) ∧ Q24 J J' := by
  have h2 : 0 < wI J 123 n 0 102 2 := by rw [fl_w (by omega)]; exact h
  refine ⟨wI J 123 n 0, ?_, Q24.w (by omega)⟩
  rw [bo6, hn, q_in (by omega) (by omega), q_ck, show ix (Int32.ofNat n) = n from q_ix (by omega), q_l, fl_takes h2, q_b3, if_pos rfl, q_b1, if_neg (fl_ne h2)]
theorem fl_bo5 (h : 0 < J 102 2) (hn : J 102 54 = Int32.ofNat n) (hl : n < 4) : ∃ J', bo5 J M = some (J', M) ∧ Q24 J J' := by
  obtain ⟨J', a1, a2⟩ := fl_bo6 (J := wI J 122 n 0) (M := M) (by rw [fl_w (by omega)]; exact h) (by rw [fl_w (by omega)]; exact hn) hl
  refine ⟨J', ?_, (Q24.w (by omega)).trans a2⟩
  rw [bo5, fl_told h, q_b3, hn, q_in (by omega) (by omega), q_ck, show ix (Int32.ofNat n) = n from q_ix (by omega), q_l, a1]
theorem fl_bo4 (h : 0 < J 102 2) (hn : J 102 54 = Int32.ofNat n) (hl : n < 4) : ∃ J', bo4 J M = some (J', M) ∧ Q24 J J' := by
  obtain ⟨J', a1, a2⟩ := fl_bo5 (J := wI J 121 n 0) (M := M) (by rw [fl_w (by omega)]; exact h) (by rw [fl_w (by omega)]; exact hn) hl
  refine ⟨J', ?_, (Q24.w (by omega)).trans a2⟩
  rw [bo4, fl_told h, q_b3, hn, q_in (by omega) (by omega), q_ck, show ix (Int32.ofNat n) = n from q_ix (by omega), q_l, a1]
theorem fl_bo3 (h : 0 < J 102 2) (hn : J 102 54 = Int32.ofNat n) (hl : n < 4) : ∃ J', bo3 J M = some (J', M) ∧ Q24 J J' := by
  obtain ⟨J', a1, a2⟩ := fl_bo4 (J := wI J 120 n 0) (M := M) (by rw [fl_w (by omega)]; exact h) (by rw [fl_w (by omega)]; exact hn) hl
  refine ⟨J', ?_, (Q24.w (by omega)).trans a2⟩
  rw [bo3, fl_told h, q_b3, hn, q_in (by omega) (by omega), q_ck, show ix (Int32.ofNat n) = n from q_ix (by omega), q_l, a1]
theorem fl_bo2 (h : 0 < J 102 2) (hn : J 102 54 = Int32.ofNat n) (hl : n < 4) : ∃ J', bo2 J M = some (J', M) ∧ Q24 J J' := by
  obtain ⟨J', a1, a2⟩ := fl_bo3 (J := wI J 119 n 0) (M := M) (by rw [fl_w (by omega)]; exact h) (by rw [fl_w (by omega)]; exact hn) hl
  refine ⟨J', ?_, (Q24.w (by omega)).trans a2⟩
  rw [bo2, fl_num h, q_b3, hn, q_in (by omega) (by omega), q_ck, show ix (Int32.ofNat n) = n from q_ix (by omega), q_l, a1]
theorem fl_bo1 (h : 0 < J 102 2) (hn : J 102 54 = Int32.ofNat n) (hl : n < 4) : ∃ J', bo1 J M = some (J', M) ∧ Q24 J J' := by
  obtain ⟨J', a1, a2⟩ := fl_bo2 (J := wI J 118 n 0) (M := M) (by rw [fl_w (by omega)]; exact h) (by rw [fl_w (by omega)]; exact hn) hl
  refine ⟨J', ?_, (Q24.w (by omega)).trans a2⟩
  rw [bo1, fl_num h, q_b3, hn, q_in (by omega) (by omega), q_ck, show ix (Int32.ofNat n) = n from q_ix (by omega), q_l, a1]
theorem fl_bo0 (h : 0 < J 102 2) (hn : J 102 54 = Int32.ofNat n) (hl : n < 4) : ∃ J', bo0 J M = some (J', M) ∧ Q24 J J' := by
  obtain ⟨J', a1, a2⟩ := fl_bo1 (M := M) h hn hl
  exact ⟨J', by rw [bo0, fl_want h, q_b2, a1], a2⟩
end STG
