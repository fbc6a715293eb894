/-! THE TEXT: both sides of a name -/
def Nm (a off n : Nat) (ws : Nat → List Nat) (L M : ML) : Prop := (∀ i, i < n → OKW (ws i) ∧ L a i = Int64.ofNat (e32 (ws i)) ∧ M 112 (off + i) = Int64.ofNat (e256 (ws i))) ∧ ∀ i j, i < n → j < n → ws i = ws j → i = j
noncomputable def nmrest (p1 p2 : Int32) (I1 : MI) (L2 : ML) : Option (MI × ML) :=
b1 (x11_isName I1 L2) fun r3 =>
b1 (
if r3 = 0 then (
b1 (x11_wrong (2 : Int32) I1) fun I7 =>
some I7) else
b1 (x11_find p1 p2 I1 L2) fun r5 =>
if r5 < 0 then (
some I1) else
b1 (x11_wrong (3 : Int32) I1) fun I6 =>
some I6) fun e4 =>
if 0 < (e4 102 2) then (
some (e4, L2)) else
ck (vp_in (p1 + p2) 20) <|
lt (wL L2 112 (ix (p1 + p2)) (L2 102 9)) fun L8 =>
b2 (x11_token e4 L8) fun I10 L11 =>
some (I10, L11)
section NMX
variable {T : Nat → Nat} {N t b q U a off n ln : Nat} {ws : Nat → List Nat} {w : List Nat} {I : MI} {L : ML} {J : MI} {M : ML}
theorem nmrest_eq (p1 p2 : Int32) : x11_newName p1 p2 J M = b2 (x11_token J M) (nmrest p1 p2) := rfl
theorem c_idxL (hN : Nm a off n ws L M) (hw : OKW w) (h7 : L 21 7 = Int64.ofNat (e32 w)) (hn : n ≤ ln) (hl : ln ≤ 20) : ∀ (k i fu : Nat), i + k = n → k < fu → (∃ j, i ≤ j ∧ j < n ∧ ws j = w ∧ x5_indexOfName_L2 a ln (Int32.ofNat n) L fu (Int32.ofNat i) = some (.inr (Int32.ofNat j))) ∨ ((∀ j, i ≤ j → j < n → ws j ≠ w) ∧ x5_indexOfName_L2 a ln (Int32.ofNat n) L fu (Int32.ofNat i) = some (.inl ()))
  | 0, i, fu, hi, hfu => by
    obtain ⟨fu, rfl⟩ : ∃ n', fu = n' + 1 := ⟨fu - 1, by omega⟩
    refine Or.inr ⟨fun j _ _ => by omega, ?_⟩
    rw [x5_indexOfName_L2, x5_indexOfName_L2s, if_neg (by rw [q_lt (by omega) (by omega)]; omega)]
  | k + 1, i, fu, hi, hfu => by
    obtain ⟨fu, rfl⟩ : ∃ n', fu = n' + 1 := ⟨fu - 1, by omega⟩
    obtain ⟨w1, w2, w3⟩ := hN.1 i (by omega)
    have e : (lg_cmp (L a i) (L 21 7) = 0) = (ws i = w) := by rw [lcmp_0, w2, h7, e32_eq w1 hw]
    have hu : x5_indexOfName_L2 a ln (Int32.ofNat n) L (fu + 1) (Int32.ofNat i) = if lg_cmp (L a i) (L 21 7) = 0 then some (.inr (Int32.ofNat i)) else x5_indexOfName_L2 a ln (Int32.ofNat n) L fu (Int32.ofNat (i + 1)) := by
      rw [x5_indexOfName_L2, x5_indexOfName_L2s, if_pos (by rw [q_lt (by omega) (by omega)]; omega), if_pos (by rw [q_lt (by omega) (by omega)]; omega), q_in (by omega) (by omega), q_ck, show ix (Int32.ofNat i) = i from q_ix (by omega), q_l, q_addn]
    rw [hu]
    by_cases g : ws i = w
    · exact Or.inl ⟨i, Nat.le_refl _, by omega, g, by rw [if_pos (e.mpr g)]⟩
    · rw [if_neg (fun h => g (e.mp h))]
      rcases c_idxL hN hw h7 hn hl k (i + 1) fu (by omega) (by omega) with ⟨j, j1, j2, j3, j4⟩ | ⟨j1, j2⟩
      · exact Or.inl ⟨j, by omega, j2, j3, j4⟩
      · exact Or.inr ⟨fun j h1 h2 => by
          by_cases e : j = i
          · subst e; exact g
          · exact j1 j (by omega) h2, j2⟩
theorem r_fndL (hN : Nm a off n ws L M) (hw : OKW w) (h9 : M 102 9 = Int64.ofNat (e256 w)) (ho : off + n ≤ 20) : ∀ (k i fu : Nat) (v : Int32), i + k = n → k < fu → (∃ j, i ≤ j ∧ j < n ∧ ws j = w ∧ x11_find_L5 (Int32.ofNat off) (Int32.ofNat n) M fu v (Int32.ofNat i) = some (Int32.ofNat j)) ∨ ((∀ j, i ≤ j → j < n → ws j ≠ w) ∧ x11_find_L5 (Int32.ofNat off) (Int32.ofNat n) M fu v (Int32.ofNat i) = some v)
  | 0, i, fu, v, hi, hfu => by
    obtain ⟨fu, rfl⟩ : ∃ n', fu = n' + 1 := ⟨fu - 1, by omega⟩
    refine Or.inr ⟨fun j _ _ => by omega, ?_⟩
    rw [x11_find_L5, x11_find_L5s, if_neg (by rw [q_lt (by omega) (by omega)]; omega)]
  | k + 1, i, fu, v, hi, hfu => by
    obtain ⟨fu, rfl⟩ : ∃ n', fu = n' + 1 := ⟨fu - 1, by omega⟩
    obtain ⟨w1, w2, w3⟩ := hN.1 i (by omega)
    have e : (lg_cmp (M 112 (off + i)) (M 102 9) = 0) = (ws i = w) := by rw [lcmp_0, w3, h9, e256_eq w1 hw]
    have hu : x11_find_L5 (Int32.ofNat off) (Int32.ofNat n) M (fu + 1) v (Int32.ofNat i) = if lg_cmp (M 112 (off + i)) (M 102 9) = 0 then x11_find_L5 (Int32.ofNat off) (Int32.ofNat n) M fu (Int32.ofNat i) (Int32.ofNat (i + 1)) else x11_find_L5 (Int32.ofNat off) (Int32.ofNat n) M fu v (Int32.ofNat (i + 1)) := by
      rw [x11_find_L5, x11_find_L5s, if_pos (by rw [q_lt (by omega) (by omega)]; omega), q_add, q_in (by omega) (by omega), q_ck, show ix (Int32.ofNat (off + i)) = off + i from q_ix (by omega), q_l, q_l, q_l, q_l, q_addn]
    rw [hu]
    by_cases g : ws i = w
    · rw [if_pos (e.mpr g)]
      rcases r_fndL hN hw h9 ho k (i + 1) fu (Int32.ofNat i) (by omega) (by omega) with ⟨j, j1, j2, j3, j4⟩ | ⟨j1, j2⟩
      · exact Or.inl ⟨j, by omega, j2, j3, j4⟩
      · exact Or.inl ⟨i, Nat.le_refl _, by omega, g, j2⟩
    · rw [if_neg (fun h => g (e.mp h))]
      rcases r_fndL hN hw h9 ho k (i + 1) fu v (by omega) (by omega) with ⟨j, j1, j2, j3, j4⟩ | ⟨j1, j2⟩
      · exact Or.inl ⟨j, by omega, j2, j3, j4⟩
      · exact Or.inr ⟨fun j h1 h2 => by
          by_cases e : j = i
          · subst e; exact g
          · exact j1 j (by omega) h2, j2⟩
/-- both find a name alike -/
theorem both_find (hN : Nm a off n ws L M) (hw : OKW w) (h7 : L 21 7 = Int64.ofNat (e32 w)) (h9 : M 102 9 = Int64.ofNat (e256 w)) (hn : n ≤ ln) (hl : ln ≤ 20) (ho : off + n ≤ 20) : (∃ j, j < n ∧ ws j = w ∧ x5_indexOfName a ln (Int32.ofNat n) I L = some (Int32.ofNat j) ∧ x11_find (Int32.ofNat off) (Int32.ofNat n) J M = some (Int32.ofNat j)) ∨ ((∀ j, j < n → ws j ≠ w) ∧ x5_indexOfName a ln (Int32.ofNat n) I L = some (-1) ∧ x11_find (Int32.ofNat off) (Int32.ofNat n) J M = some (-1)) := by
  have z : Int32.ofNat 0 = 0 := rfl
  rcases c_idxL hN hw h7 hn hl n 0 FU (by omega) (by unfold FU; omega) with ⟨j, j1, j2, j3, j4⟩ | ⟨j1, j2⟩
  · rcases r_fndL hN hw h9 ho n 0 FU (-1) (by omega) (by unfold FU; omega) with ⟨i, i1, i2, i3, i4⟩ | ⟨i1, i2⟩
    · have e : i = j := hN.2 i j i2 j2 (i3.trans j3.symm)
      subst e
      rw [z] at j4 i4
      exact Or.inl ⟨i, i2, i3, by rw [x5_indexOfName, q_l, j4, q_bEr], by rw [x11_find, q_l, q_l, i4, q_b1]⟩
    · exact absurd j3 (i1 j (by omega) j2)
  · rcases r_fndL hN hw h9 ho n 0 FU (-1) (by omega) (by unfold FU; omega) with ⟨i, i1, i2, i3, i4⟩ | ⟨i1, i2⟩
    · exact absurd i3 (j1 i (by omega) i2)
    · rw [z] at j2 i2
      exact Or.inr ⟨fun j hj => j1 j (by omega) hj, by rw [x5_indexOfName, q_l, j2, q_bEl], by rw [x11_find, q_l, q_l, i2, q_b1]⟩
/-- a new name -/
theorem P_name (ht : t = 2 ∨ t = 28) (hC : CR T N t q U b I L) (hR : RR T N q U J M) (hN : Nm a off n ws L M) (hn : n < ln) (hl : ln ≤ 10) (ho : off + ln ≤ 20) (ha : a = 24 ∨ a = 25 ∨ a = 26) :
    (∃ I' L' J' M' w, x5_newName a ln (Int32.ofNat n) I L = some (1, I', L') ∧ nmrest (Int32.ofNat off) (Int32.ofNat n) J M = some (J', M') ∧ CR T N t (tkn T N q) U b I' L' ∧ RR T N (tkn T N q) U J' M' ∧ q < tkn T N q ∧ C21 I I' ∧ RFr J J' ∧ Nm a off (n + 1) (fun i => if i = n then w else ws i) L' M' ∧ (∀ x, x ≠ 21 → x ≠ a → L' x = L x) ∧ (∀ x, x ≠ 102 → x ≠ 112 → M' x = M x) ∧ ∀ i, i ≠ off + n → M' 112 i = M 112 i) ∨
    (∃ I' J', x5_newName a ln (Int32.ofNat n) I L = some (0, I', L) ∧ nmrest (Int32.ofNat off) (Int32.ofNat n) J M = some (J', M) ∧ FBt I' J' ∧ C20 I I' ∧ R23 J J') := by
  have e4 : (I 21 4 = 26) = (tks T N q = 26) := hC.cd (v := 26) (by omega)
  have en := r_isName (hR.1.2.2 q) hR.2.1
  have h2 := hR.2.2.2.1
  have hlt : (Int32.ofNat n < Int32.ofNat ln) = True := by rw [q_lt (by omega) (by omega)]; exact eq_true hn
  by_cases e : tks T N q = 26
  · obtain ⟨g1, g2, g3, g4⟩ := tks_w (T := T) (N := N) (q := q) (by omega)
    have hw := (twl_ok g3).1
    have h7 : L 21 7 = Int64.ofNat (e32 (twl T N q)) := hC.2.2.2.1.2.2.2.2.2 (by omega)
    have h9 : M 102 9 = Int64.ofNat (e256 (twl T N q)) := hR.2.1.2.2.2.2.2 (by omega)
    rw [if_pos e] at en
    rcases both_find (I := I) (J := J) hN hw h7 h9 (by omega : n ≤ ln) (by omega) (by omega) with ⟨j, j1, j2, j3, j4⟩ | ⟨j1, j2, j3⟩
    · obtain ⟨I', J', a1, a2, a3, a4, a5⟩ := both_fail hC hR (k := 3) (by simp)
      refine Or.inr ⟨I', J', ?_, ?_, a3, a4, a5⟩
      · rw [x5_newName, if_pos (e4.mpr e), if_pos (hlt ▸ trivial), j3, q_b1, if_neg (by rw [q_m1 (by omega)]; exact id), a1, q_b2, ck_pos (Or.inl rfl)]
      · rw [nmrest, en, q_b1, if_neg (by decide), j4, q_b1, if_neg (by rw [q_neg (by omega)]; exact id), a2, q_b1, q_b1, if_pos a3.2.2]
    · have hC2 : CR T N t q U b I (wL L a n (L 21 7)) := by
        obtain ⟨k1, k2, k3, ⟨l1, l2, l3, l4, l5, l6⟩, k5⟩ := hC
        exact ⟨k1, fun i hi => by rw [wL_c (by omega)]; exact k2 i hi, k3, ⟨l1, l2, l3, l4, l5, fun g => by rw [wL_c (by omega)]; exact l6 g⟩, k5⟩
      have hR2 : RR T N q U J (wL M 112 (off + n) (M 102 9)) := by
        obtain ⟨k1, ⟨l1, l2, l3, l4, l5, l6⟩, k3⟩ := hR
        exact ⟨k1, ⟨l1, l2, l3, l4, l5, fun g => by rw [wL_c (by omega)]; exact l6 g⟩, k3⟩
      obtain ⟨I', L', a1, a2, a3, a4⟩ := hC2.nx ht (by omega)
      obtain ⟨J', M', b1', b2', b3', b4'⟩ := hR2.nx (by omega)
      refine Or.inl ⟨I', L', J', M', twl T N q, ?_, ?_, a2, b2', tkn_lt hC.2.2.1 (by omega), a3, b3', ⟨fun i hi => ?_, fun i j hi hj hh => ?_⟩, fun x h1 h2 => by rw [a4 x h1, wL_c h2], fun x h1 h2 => by rw [b4'.1 x h1, wL_c h2], fun i hi => by rw [b4'.1 112 (by omega), wL_ne (by omega)]⟩
      · rw [x5_newName, if_pos (e4.mpr e), if_pos (hlt ▸ trivial), j2, q_b1, if_pos rfl, q_in (by omega) (by omega), q_ck, show ix (Int32.ofNat n) = n from q_ix (by omega), q_l, a1, q_b2]
      · rw [nmrest, en, q_b1, if_neg (by decide), j3, q_b1, if_pos (by decide), q_b1, h2, if_neg (by decide), q_add, q_in (by omega) (by omega), q_ck, show ix (Int32.ofNat (off + n)) = off + n from q_ix (by omega), q_l, b1', q_b2]
      · rw [a4 a (by omega), b4'.1 112 (by omega)]
        by_cases ei : i = n
        · simp only [if_pos ei]; rw [ei, wL_at, wL_at]; exact ⟨hw, h7, h9⟩
        · simp only [if_neg ei]; rw [wL_ne (by omega), wL_ne (by omega)]; exact hN.1 i (by omega)
      · by_cases ei : i = n
        · by_cases ej : j = n
          · omega
          · simp only [if_pos ei, if_neg ej] at hh
            exact absurd hh.symm (j1 j (by omega))
        · by_cases ej : j = n
          · simp only [if_neg ei, if_pos ej] at hh
            exact absurd hh (j1 i (by omega))
          · simp only [if_neg ei, if_neg ej] at hh
            exact hN.2 i j (by omega) (by omega) hh
  · obtain ⟨I', J', a1, a2, a3, a4, a5⟩ := both_fail hC hR (k := 2) (by simp)
    rw [if_neg e] at en
    refine Or.inr ⟨I', J', ?_, ?_, a3, a4, a5⟩
    · rw [x5_newName, if_neg (fun g => e (e4.mp g)), a1, q_b2, ck_pos (Or.inl rfl)]
    · rw [nmrest, en, q_b1, if_pos rfl, a2, q_b1, q_b1, if_pos a3.2.2]
end NMX
