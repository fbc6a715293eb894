/-! THE TEXT: the whole of it -/
section RDX
variable {T : Nat → Nat} {N t b q U k : Nat} {C : TC} {ws : Nat → Nat → List Nat} {I I' : MI} {L L' : ML} {J J' : MI} {M M' : ML} {R R' : MR} {S : MS} {t' c i : Nat}
theorem okr.wf {v : Option Nat} (h : okr R S) (hne : ∀ e ∈ tb_R0, ¬ (e.1 = c ∧ e.2.1 = i)) : okr (wR R c i v) S := ⟨h.1, fun e he => by
  have h1 := hne e he
  have h2 := h.2 e he
  by_cases g : e.1 = c
  · rw [g, wR_row, va_up, if_neg (fun g2 => h1 ⟨g, g2⟩), ← g]; exact h2
  · rw [wR_off g]; exact h2⟩
theorem tb_R0_free : ∀ e ∈ tb_R0, ¬ (e.1 = 20 ∧ e.2.1 = 4) ∧ ¬ (e.1 = 21 ∧ e.2.1 = 1) ∧ ¬ (e.1 = 0 ∧ e.2.1 = 2) ∧ ¬ (e.1 = 27 ∧ e.2.1 = 0) := by decide +kernel
theorem c_clear (ht : t = 2 ∨ t = 28) (I : MI) : ∃ I', x8_clear t I = some I' ∧ (I' t 0 = 0 ∧ I' t 1 = 0 ∧ I' t 2 = 0 ∧ I' t 3 = 10 ∧ I' t 4 = 0 ∧ I' t 11 = 0 ∧ I' t 18 = 0) ∧ I' (t + 13) 5 = 0 ∧ I' (t + 13) 4 = 1 ∧ I' (t + 14) 0 = 50 ∧ (∀ i, i < 11 → I' (t + 15) i = 0) ∧ (∀ i, i < 11 → I' (t + 16) i = 1) ∧ ∀ x, ¬ (t ≤ x ∧ x ≤ t + 16) → I' x = I x := by
  generalize hI7 : wI (wI (wI (wI (wI (wI (wI I t 0 0) t 1 0) t 2 0) t 3 10) t 4 0) t 11 0) t 18 0 = I7
  have v : I7 t 0 = 0 ∧ I7 t 1 = 0 ∧ I7 t 2 = 0 ∧ I7 t 3 = 10 ∧ I7 t 4 = 0 ∧ I7 t 11 = 0 ∧ I7 t 18 = 0 := by
    rw [← hI7]
    simp (disch := omega) only [wI_ne, wI_at, and_self]
  have f7 : ∀ x, x ≠ t → I7 x = I x := fun x hx => by
    rw [← hI7]; simp (disch := omega) only [wI_c]
  generalize hI3 : wI (wI (wI I7 (t + 13) 5 0) (t + 14) 0 50) (t + 13) 4 1 = I3
  have w : I3 (t + 13) 5 = 0 ∧ I3 (t + 13) 4 = 1 ∧ I3 (t + 14) 0 = 50 := by
    rw [← hI3]
    refine ⟨?_, wI_at, ?_⟩
    · rw [wI_ne (by omega), wI_c (by omega), wI_at]
    · rw [wI_c (by omega), wI_at]
  have f3 : ∀ x, x ≠ t + 13 → x ≠ t + 14 → I3 x = I7 x := fun x h1 h2 => by
    rw [← hI3]; simp (disch := omega) only [wI_c]
  obtain ⟨I4, a1, a2, a3⟩ := j_fill (a0 := t + 15) (ln0 := 11) (v := 0) (by omega) I3
  obtain ⟨I5, b1', b2', b3'⟩ := j_fill (a0 := t + 16) (ln0 := 11) (v := 1) (by omega) I4
  have e : ∀ x, x ≠ t + 15 → x ≠ t + 16 → I5 x = I3 x := fun x h1 h2 => (b3' x h2).trans (a3 x h1)
  refine ⟨I5, ?_, ?_, ?_, ?_, ?_, fun i hi => ?_, b2', fun x hx => ?_⟩
  · have z : ix (0 : Int32) = 0 := rfl
    simp only [x8_clear, x0_clear, q_l, z, hI7, hI3, a1, b1', q_b1]
  · rw [e t (by omega) (by omega), f3 t (by omega) (by omega)]; exact v
  · rw [e _ (by omega) (by omega)]; exact w.1
  · rw [e _ (by omega) (by omega)]; exact w.2.1
  · rw [e _ (by omega) (by omega)]; exact w.2.2
  · rw [b3' _ (by omega)]; exact a2 i hi
  · rw [e _ (by omega) (by omega), f3 _ (by omega) (by omega), f7 _ (by omega)]
/-- both read the whole text -/
theorem P_read (ht : t = 2 ∨ t = 28) (hr : okr R S) (hN : N ≤ 1600) (hB : ∀ i, i < N → T i < 256) (hT : ∀ i, i < N → I 1 i = sx8 (T i)) (hw : CWd L) (r1 : J 102 1 = Int32.ofNat N) (rT : ∀ i, i < N → J 103 i = Int32.ofNat (T i)) :
    ∃ v I' L' J' M', x5_read 1 t (Int32.ofNat N) I L R S = some (v, I', L', wR (wR R 20 4 (some t)) 21 1 (some 1), S) ∧ x11_readAll J M = some (J', M') ∧
      ((v = 1 ∧ ∃ q U b k C ws, CR T N t q U b I' L' ∧ RR T N q U J' M' ∧ LK t b k C ws I' L' J' M') ∨ (v = 0 ∧ FBt I' J')) ∧
      GI t I I' ∧ GL L L' ∧ (∀ x, x ≠ 102 → ¬ (104 ≤ x ∧ x ≤ 106) → x ≠ 110 → ¬ (113 ≤ x ∧ x ≤ 124) → J' x = J x) ∧ (∀ j, (j = 21 ∨ (56 ≤ j ∧ j ≤ 61) ∨ 65 ≤ j) → J' 102 j = J 102 j) ∧ J' 102 1 = 0 ∧ GM M M' := by
  have hr2 : okr (wR R 20 4 (some t)) S := hr.wf (fun e he => (tb_R0_free e he).1)
  have hr3 : okr (wR (wR R 20 4 (some t)) 21 1 (some 1)) S := hr2.wf (fun e he => (tb_R0_free e he).2.1)
  have e20 : wR R 20 4 (some t) 20 4 = some t := by simp [wR]
  have e21 : wR (wR R 20 4 (some t)) 21 1 (some 1) 21 1 = some 1 := by simp [wR]
  have e20' : wR (wR R 20 4 (some t)) 21 1 (some 1) 20 4 = some t := by rw [wR_off (by omega)]; exact e20
  have hisT : isT t := by rcases ht with e | e <;> simp [isT, e]
  obtain ⟨Ia, a1, a2, a3, a4, a5, a6, a7, a8⟩ := c_clear ht I
  generalize hIb : wI (wI (wI (wI Ia 20 5 0) 20 6 0) 20 8 0) 20 9 (-1) = Ib
  have v20 : Ib 20 5 = 0 ∧ Ib 20 6 = 0 ∧ Ib 20 8 = 0 ∧ Ib 20 9 = -1 := by
    rw [← hIb]
    refine ⟨?_, ?_, ?_, wI_at⟩
    · rw [wI_ne (by omega), wI_ne (by omega), wI_ne (by omega), wI_at]
    · rw [wI_ne (by omega), wI_ne (by omega), wI_at]
    · rw [wI_ne (by omega), wI_at]
  have fb : ∀ x, x ≠ 20 → Ib x = Ia x := fun x hx => by rw [← hIb]; simp (disch := omega) only [wI_c]
  have hlim : (if (1600 : Int32) < Int32.ofNat N then 1600 else Int32.ofNat N) = Int32.ofNat N := by
    rw [if_neg]
    rw [show (1600 : Int32) = Int32.ofNat 1600 from rfl, q_lt (by omega) (by omega)]
    omega
  generalize hIc : wI (wI Ib 21 2 (Int32.ofNat N)) 21 3 0 = Ic
  have fc : ∀ x, x ≠ 21 → Ic x = Ib x := fun x hx => by rw [← hIc, wI_c hx, wI_c hx]
  have hX : CTx T N Ic := ⟨hN, fun i hi => by rw [fc 1 (by omega), fb 1 (by omega), a8 1 (by omega)]; exact hT i hi, hB⟩
  obtain ⟨Id, Ld, d1, d2, d3, d4⟩ := c_next1 (p := 0) (N := N) hX hw (by omega) (by rw [← hIc, wI_ne (by omega), wI_at]) (by rw [← hIc, wI_at]; rfl)
  have fd : ∀ x, x ≠ 20 → x ≠ 21 → Id x = Ia x := fun x h1 h2 => by rw [d3 x h2, fc x h2, fb x h1]
  have hq0 := tkq_le (T := T) (N := N) (p := 0) (by omega)
  have hC : CR T N t (tkq T N 0) 0 1 Id Ld := by
    refine ⟨⟨hN, fun i hi => ?_, hB⟩, fun i hi => ?_, hq0.2, d2, ?_, ?_, ?_, ?_, by omega, by omega, by omega⟩
    · rw [d3 1 (by omega)]; exact hX.2.1 i hi
    · rw [d4 22 (by omega)]; exact hw i hi
    · rw [d3 20 (by omega), fc 20 (by omega)]; exact v20.2.2.1
    · rw [d3 20 (by omega), fc 20 (by omega)]; exact v20.2.2.2
    · rw [fd _ (by omega) (by omega)]; exact a3
    · rw [fd _ (by omega) (by omega)]; exact a4
  -- the reference
  generalize hJb : wI (wI (wI (wI (wI (wI (wI (wI (wI (wI (wI (wI (wI (wI (wI (wI J 102 5 (J 102 1)) 102 1 0) 102 4 0) 102 2 0) 102 3 (-1)) 102 49 0) 102 50 0) 102 51 0) 102 52 0) 102 53 0) 102 54 0) 102 55 0) 102 62 0) 102 64 10) 102 63 0) 102 20 0 = Jb
  have jo : ∀ x, x ≠ 102 → Jb x = J x := fun x hx => by rw [← hJb]; simp (disch := omega) only [wI_c]
  have jr : ∀ j, (j = 21 ∨ (56 ≤ j ∧ j ≤ 61) ∨ 65 ≤ j) → Jb 102 j = J 102 j := fun j hj => by
    rw [← hJb]; simp (disch := omega) only [wI_ne]
  have j5 : Jb 102 5 = Int32.ofNat N := by rw [← hJb]; simp (disch := omega) only [wI_ne, wI_at, r1]
  have jv : (Jb 102 1 = 0 ∧ Jb 102 4 = 0 ∧ Jb 102 2 = 0 ∧ Jb 102 3 = -1) ∧ (Jb 102 49 = 0 ∧ Jb 102 50 = 0 ∧ Jb 102 51 = 0 ∧ Jb 102 52 = 0) ∧ (Jb 102 53 = 0 ∧ Jb 102 54 = 0 ∧ Jb 102 55 = 0 ∧ Jb 102 62 = 0) ∧ Jb 102 64 = 10 ∧ Jb 102 63 = 0 ∧ Jb 102 20 = 0 := by
    rw [← hJb]; simp (disch := omega) only [wI_ne, wI_at, and_self]
  have hRX : RTx T N Jb := ⟨hN, fun i hi => by rw [jo 103 (by omega)]; exact rT i hi, hB⟩
  obtain ⟨Jd, Md, g1, g2, g3, g4⟩ := r_tok (L := M) (p := 0) hRX (by omega) j5 (by rw [jv.1.2.1]; rfl)
  have gj : ∀ j, j ≠ 4 → j ≠ 6 → j ≠ 7 → j ≠ 8 → Jd 102 j = Jb 102 j := g3.2
  have hR : RR T N (tkq T N 0) 0 Jd Md := by
    refine ⟨⟨hN, fun i hi => ?_, hB⟩, g2, hq0.2, ?_, ?_, ?_⟩
    · rw [g3.1 103 (by omega)]; exact hRX.2.1 i hi
    · rw [gj 2 (by omega) (by omega) (by omega) (by omega)]; exact jv.1.2.2.1
    · rw [gj 3 (by omega) (by omega) (by omega) (by omega)]; exact jv.1.2.2.2
    · rw [gj 20 (by omega) (by omega) (by omega) (by omega)]; exact jv.2.2.2.2.2
  obtain ⟨w0, w1, w2, w3, w4, w11, w18⟩ := a2
  obtain ⟨-, ⟨y49, y50, y51, y52⟩, ⟨y53, y54, y55, y62⟩, y64, y63, -⟩ := jv
  have hK : LK t 1 0 (fun _ => [50]) (fun _ _ => []) Id Ld Jd Md := by
    refine LK.new ht ?_ ?_ ?_ ?_ ?_ ?_ ?_ ?_ (fun i hi => ?_) (fun i hi => ?_) ?_ ?_ ?_ ?_ ?_ ?_ ?_ ?_ ?_ ?_ ?_ ?_
    · rw [fd t (by omega) (by omega)]; exact w0
    · rw [fd t (by omega) (by omega)]; exact w1
    · rw [fd t (by omega) (by omega)]; exact w2
    · rw [fd t (by omega) (by omega)]; exact w3
    · rw [fd t (by omega) (by omega)]; exact w4
    · rw [fd t (by omega) (by omega)]; exact w11
    · rw [fd t (by omega) (by omega)]; exact w18
    · rw [fd (t + 14) (by omega) (by omega)]; exact a5
    · rw [fd (t + 15) (by omega) (by omega)]; exact a6 i hi
    · rw [fd (t + 16) (by omega) (by omega)]; exact a7 i hi
    · rw [d3 20 (by omega), fc 20 (by omega)]; exact v20.1
    · rw [d3 20 (by omega), fc 20 (by omega)]; exact v20.2.1
    · rw [gj 49 (by omega) (by omega) (by omega) (by omega)]; exact y49
    · rw [gj 50 (by omega) (by omega) (by omega) (by omega)]; exact y50
    · rw [gj 51 (by omega) (by omega) (by omega) (by omega)]; exact y51
    · rw [gj 52 (by omega) (by omega) (by omega) (by omega)]; exact y52
    · rw [gj 53 (by omega) (by omega) (by omega) (by omega)]; exact y53
    · rw [gj 54 (by omega) (by omega) (by omega) (by omega)]; exact y54
    · rw [gj 55 (by omega) (by omega) (by omega) (by omega)]; exact y55
    · rw [gj 62 (by omega) (by omega) (by omega) (by omega)]; exact y62
    · rw [gj 64 (by omega) (by omega) (by omega) (by omega)]; exact y64
    · rw [gj 63 (by omega) (by omega) (by omega) (by omega)]; exact y63
  have hRO := P_lines (q3 := t) (I0 := Id) (L0 := Ld) (J0 := Jd) (M0 := Md) ht hr3 e20' e21 (N + 1) (tkq T N 0) 0 1 0 (fun _ => [50]) (fun _ _ => []) Id Ld Jd Md 0 FU FU (by omega) (by omega) (by unfold FU; omega) (by unfold FU; omega) hC hR hK Gs.refl
  have hcl : x5_read 1 t (Int32.ofNat N) I L R S = b1 (x5_read_L47 1 t (wR (wR R 20 4 (some t)) 21 1 (some 1)) S FU 1 0 Id Ld) fun e28 => ck (e28.1 = 0 ∨ e28.1 = 1) (some (e28.1, e28.2.1, e28.2.2, wR (wR R 20 4 (some t)) 21 1 (some 1), S)) := by
    rw [x5_read, ck_pos hr, q_l, ck_pos hr2, e20, q_b1, ck_pos hisT, a1, q_b1]
    simp only [q_l, hIb]
    rw [x3_open, ck_pos hr2, q_l, ck_pos (S_1 hr), ck_pos hr3, hlim, q_l, q_l, ck_pos e21, hIc, d1, q_b2, q_b4]
  have hrf : x11_readAll J M = b1 (x11_readAll_L88 FU Jd Md) fun e21 => some (e21.1, e21.2) := by
    simp only [x11_readAll, q_l, hJb, g1, q_b2]
  have gi0 : GI t I Id := fun x h1 h2 h3 => by rw [fd x h1 h2, a8 x h3]
  have gl0 : GL L Ld := fun x h1 h2 => d4 x h1
  have z : Int32.ofNat 0 = 0 := rfl
  rw [z] at hRO
  have jd1 : Jd 102 1 = 0 := by rw [gj 1 (by omega) (by omega) (by omega) (by omega), ← hJb]; simp (disch := omega) only [wI_ne, wI_at]
  have fin : ∀ {Ie : MI} {Le : ML} {Je : MI} {Me : ML}, Gs t Id Ld Jd Md Ie Le Je Me → GI t I Ie ∧ GL L Le ∧ (∀ x, x ≠ 102 → ¬ (104 ≤ x ∧ x ≤ 106) → x ≠ 110 → ¬ (113 ≤ x ∧ x ≤ 124) → Je x = J x) ∧ (∀ j, (j = 21 ∨ (56 ≤ j ∧ j ≤ 61) ∨ 65 ≤ j) → Je 102 j = J 102 j) ∧ Je 102 1 = 0 ∧ GM M Me := fun g =>
    ⟨fun x h1 h2 h3 => (g.1 x h1 h2 h3).trans (gi0 x h1 h2 h3), fun x h1 h2 => (g.2.1 x h1 h2).trans (gl0 x h1 h2), fun x h1 h2 h3 h4 => (g.2.2.1.1 x h1 h2 h3 h4).trans ((g3.1 x h1).trans (jo x h1)), fun j hj => (g.2.2.1.2 j (by omega)).trans ((gj j (by omega) (by omega) (by omega) (by omega)).trans (jr j hj)), (g.2.2.1.2 1 (by omega)).trans jd1, fun x h1 h2 => (g.2.2.2 x h1 h2).trans (g4.1 x h1)⟩
  rcases hRO with ⟨Ie, Le, Je, Me, q1, U1, b1', k1, C1, ws1, x1, x2, x3, x4, x5, x6⟩ | ⟨Ie, Le, Je, Me, x1, x2, x3, x4⟩
  · refine ⟨1, Ie, Le, Je, Me, ?_, ?_, Or.inl ⟨rfl, q1, U1, b1', k1, C1, ws1, x3, x4, x5⟩, fin x6⟩
    · rw [hcl, x1, q_b1, ck_pos (Or.inr rfl)]
    · rw [hrf, x2, q_b1]
  · refine ⟨0, Ie, Le, Je, Me, ?_, ?_, Or.inr ⟨rfl, x3⟩, fin x4⟩
    · rw [hcl, x1, q_b1, ck_pos (Or.inl rfl)]
    · rw [hrf, x2, q_b1]
end RDX
