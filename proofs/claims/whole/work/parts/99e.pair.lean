/-! THE TEXT: a formula, whole -/
/-- the class between tokens -/
def CR (T : Nat → Nat) (N t q U b : Nat) (I : MI) (L : ML) : Prop :=
  CTx T N I ∧ CWd L ∧ q ≤ N ∧ CLx T N q I L ∧ I 20 8 = 0 ∧ I 20 9 = -1 ∧ I (t + 13) 5 = Int32.ofNat U ∧ I (t + 13) 4 = Int32.ofNat b ∧ U ≤ 90 ∧ 4 * b ≤ 8 * U + q + 4 ∧ 1 ≤ b
/-- the reference between tokens -/
def RR (T : Nat → Nat) (N q U : Nat) (J : MI) (M : ML) : Prop :=
  RTx T N J ∧ RLx T N q J M ∧ q ≤ N ∧ J 102 2 = 0 ∧ J 102 3 = -1 ∧ J 102 20 = Int32.ofNat U
def CFf (t b s : Nat) (I I' : MI) : Prop := (∀ x, x ≠ 20 → x ≠ 21 → x ≠ t + 13 → x ≠ t + 14 → x ≠ t + 15 → x ≠ t + 16 → I' x = I x) ∧ (∀ j, j ≠ 7 → j ≠ 8 → j ≠ 9 → I' 20 j = I 20 j) ∧ (∀ j, j ≠ 4 → j ≠ 5 → I' (t + 13) j = I (t + 13) j) ∧ (∀ i, i < b → I' (t + 14) i = I (t + 14) i) ∧ ∀ i, i ≠ s → I' (t + 15) i = I (t + 15) i ∧ I' (t + 16) i = I (t + 16) i
def RFf (s : Nat) (J J' : MI) : Prop := (∀ x, x ≠ 102 → x ≠ 104 → x ≠ 105 → x ≠ 106 → x ≠ 110 → J' x = J x) ∧ (∀ j, j ≠ 2 → j ≠ 3 → j ≠ 4 → j ≠ 6 → j ≠ 7 → j ≠ 8 → j ≠ 18 → j ≠ 19 → j ≠ 20 → j ≠ 22 → j ≠ 23 → J' 102 j = J 102 j) ∧ (∀ i, i ≠ s → J' 106 i = J 106 i) ∧ ∀ i, i < 320 * s ∨ 320 * s + 320 ≤ i → J' 104 i = J 104 i ∧ J' 105 i = J 105 i
section PRX
variable {T : Nat → Nat} {N s t b q U : Nat} {I : MI} {L : ML} {J : MI} {M : ML}
theorem CFm.ff {I I' : MI} (ht : t = 2 ∨ t = 28) (h : CFm t b I I') : CFf t b s I I' := ⟨fun x a e f g _ _ => h.1 x a e f g, h.2.1, h.2.2.1, h.2.2.2, fun i _ => by rw [h.1 (t + 15) (by omega) (by omega) (by omega) (by omega), h.1 (t + 16) (by omega) (by omega) (by omega) (by omega)]; exact ⟨rfl, rfl⟩⟩
theorem P_formula (ht : t = 2 ∨ t = 28) (hs : s < 11) (hC : CR T N t q U b I L) (hR : RR T N q U J M) :
    (∃ I' L' J' M' q' U' c, x5_formula t (Int32.ofNat s) I L = some (1, I', L') ∧ CR T N t q' U' (b + c.length) I' L' ∧ CFf t b s I I' ∧ CLm L L' ∧ x11_formula (Int32.ofNat s) J M = some (J', M') ∧ RR T N q' U' J' M' ∧ RFf s J J' ∧ LFr M M' ∧ q < q' ∧ Cd I' t s c ∧ CdA c s J' ∧ c.length ≤ 320 ∧ wfd c 0 1 ∧ I' (t + 15) s = Int32.ofNat b ∧ 0 < c.length) ∨
    (∃ I' L' J' M' qf, x5_formula t (Int32.ofNat s) I L = some (0, I', L') ∧ x11_formula (Int32.ofNat s) J M = some (J', M') ∧ qf ≤ N ∧ (I' 20 8 = fkd T N qf 2 ∧ I' 20 9 = Int32.ofNat qf) ∧ CFf t b s I I' ∧ CLm L L' ∧ (J' 102 2 = fkd T N qf 2 ∧ J' 102 3 = Int32.ofNat qf) ∧ RFf s J J' ∧ LFr M M') := by
  obtain ⟨c1, c2, c3, c4, c5, c6, c7, c8, c9, c10, c11⟩ := hC
  obtain ⟨r1, r2, r3, r4, r5, r6⟩ := hR
  have hN := c1.1
  generalize hI2 : wI (wI I 20 7 0) (t + 15) s (Int32.ofNat b) = I2
  have fI : ∀ x, x ≠ 20 → x ≠ t + 15 → I2 x = I x := fun x h1 h2 => by rw [← hI2, wI_c h2, wI_c h1]
  have f20 : ∀ j, j ≠ 7 → I2 20 j = I 20 j := fun j hj => by rw [← hI2, wI_c (by omega), wI_ne (by omega)]
  have hCF : CF T N t b q 0 U [] I2 L := by
    refine ⟨⟨c1.1, fun i hi => by rw [fI 1 (by omega) (by omega)]; exact c1.2.1 i hi, c1.2.2⟩, c2, c3, ?_, by rw [f20 8 (by omega)]; exact c5, by rw [f20 9 (by omega)]; exact c6, by rw [← hI2, wI_c (by omega), wI_at]; rfl, by rw [fI (t + 13) (by omega) (by omega)]; exact c7, by rw [fI (t + 13) (by omega) (by omega)]; exact c8, fun i hi => by simp at hi⟩
    have e21 := fI 21 (by omega) (by omega)
    obtain ⟨l1, l2, l3, l4, l5, l6⟩ := c4
    exact ⟨by rw [e21]; exact l1, by rw [e21]; exact l2, by rw [e21]; exact l3, fun g => by rw [e21]; exact l4 g, fun g => by rw [e21]; exact l5 g, l6⟩
  generalize hJ6 : wI (wI (wI (wI (wI J 102 18 (Int32.ofNat s)) 106 s 0) 102 19 0) 102 23 0) 102 22 0 = J6
  have gJ : ∀ x, x ≠ 102 → x ≠ 106 → J6 x = J x := fun x h1 h2 => by rw [← hJ6, wI_c h1, wI_c h1, wI_c h1, wI_c h2, wI_c h1]
  have g102 : ∀ j, j ≠ 18 → j ≠ 19 → j ≠ 22 → j ≠ 23 → J6 102 j = J 102 j := fun j h1 h2 h3 h4 => by rw [← hJ6, wI_ne (by omega), wI_ne (by omega), wI_ne (by omega), wI_ne (by omega), wI_ne (by omega)]
  have e18 : J6 102 18 = Int32.ofNat s := by rw [← hJ6, wI_ne (by omega), wI_ne (by omega), wI_ne (by omega), wI_ne (by omega), wI_at]
  have hRF : RF T N s q 0 U 0 [] [] J6 M := by
    refine ⟨⟨r1.1, fun i hi => by rw [gJ 103 (by omega) (by omega)]; exact r1.2.1 i hi, r1.2.2⟩, ?_, r3, by rw [g102 2 (by omega) (by omega) (by omega) (by omega)]; exact r4, by rw [g102 3 (by omega) (by omega) (by omega) (by omega)]; exact r5, e18, ⟨by rw [← hJ6, wI_c (by omega), wI_c (by omega), wI_c (by omega), wI_at]; rfl, fun i hi => by simp at hi⟩, by rw [← hJ6, wI_ne (by omega), wI_ne (by omega), wI_at]; rfl, trivial, by rw [g102 20 (by omega) (by omega) (by omega) (by omega)]; exact r6, by rw [← hJ6, wI_at]; rfl, by rw [← hJ6, wI_ne (by omega), wI_at]; rfl⟩
    obtain ⟨l1, l2, l3, l4, l5, l6⟩ := r2
    have e : ∀ j, j = 4 ∨ j = 5 ∨ j = 6 ∨ j = 7 ∨ j = 8 → J6 102 j = J 102 j := fun j hj => g102 j (by omega) (by omega) (by omega) (by omega)
    exact ⟨by rw [e 5 (by omega)]; exact l1, by rw [e 7 (by omega)]; exact l2, by rw [e 6 (by omega)]; exact l3, by rw [e 4 (by omega)]; exact l4, fun g => by rw [e 8 (by omega)]; exact l5 g, l6⟩
  have hin : Inn T N s t b 0 0 q 0 U [] [] I2 L J6 M := ⟨hCF, hRF, (fun v hv => by cases hv), by simp, by omega, by omega, c9, by simpa using c10, by simp⟩
  have hcl : x5_formula t (Int32.ofNat s) I L = b3 (x5_RD t 40 0 (Int32.ofNat 0) I2 L) fun r3 I4 L5 => b1 (x0_finish t (Int32.ofNat s) I4) fun I7 => ck (r3 = 0 ∨ r3 = 1) (some (r3, I7, L5)) := by
    have e13 : wI I 20 7 0 (t + 13) 4 = Int32.ofNat b := by rw [wI_c (by omega)]; exact c8
    unfold x5_formula
    rw [q_l, x0_begin, if_neg (by rw [q_neg (by omega)]; exact id), if_pos (by rw [q_ltn (by omega) (by omega)]; exact hs), q_in (by omega) (by omega), q_ck, show ix (Int32.ofNat s) = s from q_ix (by omega), e13, hI2, q_l, q_b1]
    rfl
  have hfn : ∀ K, x0_finish t (Int32.ofNat s) K = some (wI K (t + 16) s (K (t + 13) 4)) := fun K => by
    rw [x0_finish, if_neg (by rw [q_neg (by omega)]; exact id), if_pos (by rw [q_ltn (by omega) (by omega)]; exact hs), q_in (by omega) (by omega), q_ck, show ix (Int32.ofNat s) = s from q_ix (by omega), q_l]
  have hrf : x11_formula (Int32.ofNat s) J M = FA FU FU J6 M := by
    have e18' : wI J 102 18 (Int32.ofNat s) 102 18 = Int32.ofNat s := wI_at
    unfold x11_formula
    rw [q_l, e18', q_in (by omega) (by omega), q_ck, show ix (Int32.ofNat s) = s from q_ix (by omega), q_l, q_l, q_l, q_l, hJ6]
    rfl
  have hFf : RFf s J J6 := ⟨fun x a _ _ c _ => gJ x a c, fun j _ _ _ _ _ _ a e _ f g => g102 j a e f g, fun i hi => by rw [← hJ6, wI_c (by omega), wI_c (by omega), wI_c (by omega), wI_ne (by omega), wI_c (by omega)], fun i _ => by rw [gJ 104 (by omega) (by omega), gJ 105 (by omega) (by omega)]; exact ⟨rfl, rfl⟩⟩
  have hFm : ∀ {J'}, RFm s J6 J' → RFf s J J' := fun h => ⟨fun x a e f g i => (h.1 x a e f g i).trans (hFf.1 x a e f g i), fun j a1 a2 a3 a4 a5 a6 a7 a8 a9 a10 a11 => by
    exact (h.2.1 j a1 a2 a3 a4 a5 a6 a8 a9 a10 a11).trans (hFf.2.1 j a1 a2 a3 a4 a5 a6 a7 a8 a9 a10 a11), fun i hi => (h.2.2.1 i hi).trans (hFf.2.2.1 i hi), fun i hi => ⟨(h.2.2.2 i hi).1.trans (hFf.2.2.2 i hi).1, (h.2.2.2 i hi).2.trans (hFf.2.2.2 i hi).2⟩⟩
  have hCm : ∀ {I' : MI} {v}, CFm t b I2 I' → CFf t b s I (wI I' (t + 16) s v) := fun {I' v} h => ⟨fun x a e f g i j => by rw [wI_c j, h.1 x a e f g, fI x a i], fun j a e f => by rw [wI_c (by omega), h.2.1 j a e f, f20 j a], fun j a e => by rw [wI_c (by omega), h.2.2.1 j a e, fI (t + 13) (by omega) (by omega)], fun i hi => by rw [wI_c (by omega), h.2.2.2 i hi, fI (t + 14) (by omega) (by omega)], fun i hi => by
    rw [wI_c (by omega), wI_ne (by omega), h.1 (t + 15) (by omega) (by omega) (by omega) (by omega), h.1 (t + 16) (by omega) (by omega) (by omega) (by omega), ← hI2, wI_ne (by omega), wI_c (by omega), wI_c (by omega), wI_c (by omega)]
    exact ⟨rfl, rfl⟩⟩
  have hbig : N - q + 3 ≤ FU := by unfold FU; omega
  rw [hcl, hrf]
  rcases (P_RD (s := s) (b := b) ht hs 40).1 (by omega) hin trivial with ⟨I', L', J', M', q', u', U', x, τ, C', o1, ⟨s1, s2, s3, s4, s5, s6, s7, s8, s9, ⟨m1, m2, m3, m4, m5, m6, m7, m8⟩, s11⟩, s12⟩ | ⟨I', L', o1, J', M', qf, f1, f2, f3, f4, f5, f6⟩
  · have hq' := s1.2.2.1
    have m6' : 4 * (x.length + 1) ≤ 8 * (u' - 0) + (q' - q) := by split at m6 <;> omega
    have hxl : x.length + 1 ≤ 9 * (u' - 0) := m7
    simp only [List.nil_append, List.append_nil] at s1 s4 s7 s9
    have hlen : C'.length + τ.length = x.length := by
      have := congrArg List.length s7
      simpa using this
    obtain ⟨n', w1, w2⟩ := s11 FU FU hbig hbig
    obtain ⟨n', rfl⟩ : ∃ m', n' = m' + 2 := ⟨n' - 2, by omega⟩
    have hend : EndC (tks T N q') τ := by
      rcases s12 with g | g | g
      · exact Or.inl g
      · have := (tg_le (sgn (tks T N q'))).1; omega
      · exact Or.inr g
    obtain ⟨J8, v1, v2, v3⟩ := FB_end s4 hs hend (fun v hv => (s8 v hv).1) (by omega) (by omega) (by omega)
    rw [s7] at v2
    obtain ⟨a1, a2, a3, a4, a5, a6, a7, a8, a9, a10⟩ := s1
    obtain ⟨z1, z2, z3, z4, z4', z5, z6, z7, z8, z9, z10, z11⟩ := v2
    have e15 : I' (t + 15) s = Int32.ofNat b := by rw [s2.1 (t + 15) (by omega) (by omega) (by omega) (by omega), ← hI2, wI_at]
    refine Or.inl ⟨wI I' (t + 16) s (Int32.ofNat (b + x.length)), L', J8, M', q', U', x, ?_, ⟨⟨a1.1, fun i hi => by rw [wI_c (by omega)]; exact a1.2.1 i hi, a1.2.2⟩, a2, a3, ?_, by rw [wI_c (by omega)]; exact a5, by rw [wI_c (by omega)]; exact a6, by rw [wI_c (by omega)]; exact a8, by rw [wI_c (by omega)]; exact a9, m5, by omega, by omega⟩, hCm s2, s3, by rw [w2, v1], ⟨z1, z2, z3, z4, z4', z9⟩, hFm (s5.trans v3), s6, m1, ⟨b, by rw [wI_c (by omega)]; exact e15, wI_at, by omega, fun i hi => by rw [wI_c (by omega)]; exact a10 i hi⟩, z6, by omega, m8 0 (by omega), by rw [wI_c (by omega)]; exact e15, ?_⟩
    · rw [o1, q_b3, hfn, q_b1, ck_pos (Or.inr rfl), a9]
    · have e21 : wI I' (t + 16) s (Int32.ofNat (b + x.length)) 21 = I' 21 := wI_c (by omega)
      obtain ⟨l1, l2, l3, l4, l5, l6⟩ := a4
      exact ⟨by rw [e21]; exact l1, by rw [e21]; exact l2, by rw [e21]; exact l3, fun g => by rw [e21]; exact l4 g, fun g => by rw [e21]; exact l5 g, l6⟩
    · have h01 := m8 0 (by omega)
      cases x with
      | nil => exact absurd h01 (by simp [wfd])
      | cons z r => simp
  · refine Or.inr ⟨wI I' (t + 16) s (I' (t + 13) 4), L', J', M', qf, ?_, f6 FU FU hbig hbig, f1, ⟨by rw [wI_c (by omega)]; exact f2.1, by rw [wI_c (by omega)]; exact f2.2.1⟩, hCm f2.2.2.2, f3, ⟨f4.1, f4.2.1⟩, hFm f4.2.2, f5⟩
    rw [o1, q_b3, hfn, q_b1, ck_pos (Or.inl rfl)]
end PRX
