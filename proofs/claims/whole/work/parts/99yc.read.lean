/-! THE TEXT: all lines -/
def RO (T : Nat → Nat) (N t : Nat) (I : MI) (L : ML) (J : MI) (M : ML) (o : Option (Int32 × MI × ML)) (p : Option (MI × ML)) : Prop :=
  (∃ I' L' J' M' q' U' b' k' C' ws', o = some (1, I', L') ∧ p = some (J', M') ∧ CR T N t q' U' b' I' L' ∧ RR T N q' U' J' M' ∧ LK t b' k' C' ws' I' L' J' M' ∧ Gs t I L J M I' L' J' M') ∨
  (∃ I' L' J' M', o = some (0, I', L') ∧ p = some (J', M') ∧ FBt I' J' ∧ Gs t I L J M I' L' J' M')
section RDX
variable {T : Nat → Nat} {N t b q U k : Nat} {C : TC} {ws : Nat → Nat → List Nat} {I0 I I' : MI} {L0 L L' : ML} {J0 J J' : MI} {M0 M M' : ML} {R : MR} {S : MS} {q3 : Nat}
theorem P_lines (ht : t = 2 ∨ t = 28) (hr : okr R S) (h20 : R 20 4 = some t) (h21 : R 21 1 = some 1) : ∀ (d q U b k : Nat) (C : TC) (ws : Nat → Nat → List Nat) (I : MI) (L : ML) (J : MI) (M : ML) (w fc fr : Nat), N + 1 ≤ q + d → w ≤ q → d < fc → d < fr → CR T N t q U b I L → RR T N q U J M → LK t b k C ws I L J M → Gs t I0 L0 J0 M0 I L J M → RO T N t I0 L0 J0 M0 (x5_read_L47 1 q3 R S fc 1 (Int32.ofNat w) I L) (x11_readAll_L88 fr J M)
  | 0, q, U, b, k, C, ws, I, L, J, M, w, fc, fr, hd, hw, hfc, hfr, hC, hR, hK, hg => by
    have := hC.2.2.1
    omega
  | d + 1, q, U, b, k, C, ws, I, L, J, M, w, fc, fr, hd, hw, hfc, hfr, hC, hR, hK, hg => by
    obtain ⟨fc, rfl⟩ : ∃ n', fc = n' + 1 := ⟨fc - 1, by omega⟩
    obtain ⟨fr, rfl⟩ : ∃ n', fr = n' + 1 := ⟨fr - 1, by omega⟩
    have hN := hC.1.1
    have e28 : (I 21 4 = 28) = (tks T N q = 28) := hC.cd (v := 28) (by omega)
    have e6 := r_c0 (hR.1.2.2 q) hR.2.1
    have h2 := hR.2.2.2.1
    have hisT : isT t := by rcases ht with e | e <;> simp [isT, e]
    have hqN := hC.2.2.1
    by_cases e : tks T N q = 28
    · refine Or.inl ⟨I, L, J, M, q, U, b, k, C, ws, ?_, ?_, hC, hR, hK, hg⟩
      · rw [x5_read_L47, x5_read_L47s]
        by_cases hw2 : w < 1600
        · rw [if_pos (by rw [q_ltn (by omega) (by omega)]; exact hw2), if_neg (by decide), ck_pos hr, if_pos (e28.mpr e)]
        · rw [if_neg (by rw [q_ltn (by omega) (by omega)]; exact hw2)]
      · rw [x11_readAll_L88, x11_readAll_L88s, if_pos h2, if_pos (e6.mpr e)]
    · have hqN2 : q < N := by
        by_cases g : q < N
        · exact g
        · exact absurd (by simp only [tks, if_neg g]) e
      rw [x5_read_L47, x5_read_L47s, if_pos (by rw [q_ltn (by omega) (by omega)]; show w < 1600; omega), if_neg (by decide), ck_pos hr, if_neg (fun g => e (e28.mp g)), h20, q_b1, ck_pos hisT, ck_pos h21, x11_readAll_L88, x11_readAll_L88s, if_pos h2, if_neg (fun g => e (e6.mp g))]
      rcases P_line ht hC hR hK with ⟨I1, L1, J1, M1, q1, U1, b1', k1, C1, ws1, x1, x2, x3, x4, x5, x6, x7, x8⟩ | ⟨I1, L1, J1, M1, x1, x2, x3, x4⟩
      · rw [x1, q_b3, q_l, q_addn, q_l, x2, q_b2]
        exact P_lines ht hr h20 h21 d q1 U1 b1' k1 C1 ws1 I1 L1 J1 M1 (w + 1) fc fr (by omega) (by omega) (by omega) (by omega) x4 x5 x6 (hg.trans x8)
      · obtain ⟨fc, rfl⟩ : ∃ n', fc = n' + 1 := ⟨fc - 1, by omega⟩
        obtain ⟨fr, rfl⟩ : ∃ n', fr = n' + 1 := ⟨fr - 1, by omega⟩
        rw [x1, q_b3, q_l, q_addn, q_l, x2, q_b2]
        refine Or.inr ⟨I1, L1, J1, M1, ?_, ?_, x3, hg.trans x4⟩
        · rw [x5_read_L47, x5_read_L47s, if_pos rfl]
          split <;> rfl
        · rw [x11_readAll_L88, x11_readAll_L88s, if_neg (fl_ne x3.2.2)]
/-- the start: all that was told is forgotten -/
theorem LK.new (ht : t = 2 ∨ t = 28) (c0 : I t 0 = 0) (c1 : I t 1 = 0) (c2 : I t 2 = 0) (c3 : I t 3 = 10) (c4 : I t 4 = 0) (c11 : I t 11 = 0) (c18 : I t 18 = 0) (s0 : I (t + 14) 0 = 50) (s1 : ∀ i, i < 11 → I (t + 15) i = 0) (s2 : ∀ i, i < 11 → I (t + 16) i = 1) (f5 : I 20 5 = 0) (f6 : I 20 6 = 0) (j1 : J 102 49 = 0) (j2 : J 102 50 = 0) (j3 : J 102 51 = 0) (j4 : J 102 52 = 0) (j5 : J 102 53 = 0) (j6 : J 102 54 = 0) (j7 : J 102 55 = 0) (j8 : J 102 62 = 0) (j9 : J 102 64 = 10) (j10 : J 102 63 = 0) : LK t 1 0 (fun _ => [50]) (fun _ _ => []) I L J M := by
  have d : ∀ a, OD t I 0 a = I t a := fun a => rfl
  have z : Int32.ofNat 0 = 0 := rfl
  have eW : nW (OD t I) = 0 := by simp only [nW, d, c0]; rfl
  have eH : nH (OD t I) = 0 := by simp only [nH, d, c1]; rfl
  have eA : nA (OD t I) = 0 := by simp only [nA, d, c4]; rfl
  have eB : nB (OD t I) = 0 := by simp only [nB, d, c11]; rfl
  have eR : nR (OD t I) = 0 := by simp only [nR, d, c18]; rfl
  have hwf : wfd [50] 0 1 := Or.inl ⟨by decide, by decide, by decide, by omega, rfl⟩
  rw [LK, OkD, eW, eH, eA, eB, eR]
  simp only [d]
  refine ⟨⟨⟨⟨⟨by rw [c0]; rfl, by omega⟩, by rw [c1]; rfl, by omega⟩, ⟨⟨by rw [c4]; rfl, by omega⟩, ⟨by rw [c11]; rfl, by omega⟩, by rw [c18]; rfl, by omega⟩, fun a ha => by omega, fun a c ha => by omega, fun b hb => by omega, ⟨10, by omega, by rw [c3]; rfl⟩, fun s _ => hwf, fun r hr => by omega⟩, Or.inl trivial, 0, by omega, by rw [c2]; rfl⟩, ⟨by rw [j1, c0], by rw [j2, c1], by rw [j4, c18], by rw [j5, c4], by rw [j6, c11], by rw [j7, c2], by rw [j9, c3]⟩, fun a ha => by omega, fun a ha => by omega, ⟨by omega, by rw [j3]; rfl⟩, fun s hs => ⟨⟨0, by rw [s1 s (by omega)]; rfl, by rw [s2 s (by omega)]; rfl, by simp, fun i hi => ?_⟩, Or.inr ⟨by simp, trivial, by rw [s1 s (by omega)]; decide⟩⟩, fun r hr => by omega, ⟨⟨fun i hi => by omega, fun i j hi => by omega⟩, ⟨fun i hi => by omega, fun i j hi => by omega⟩, ⟨fun i hi => by omega, fun i j hi => by omega⟩⟩, by rw [j8, f5], by rw [j10, f6]⟩
  have : i = 0 := by simp at hi; exact hi
  subst this
  exact s0
end RDX
