/-! THE TEXT: lines: bobber, the end -/
noncomputable def rbob (J : MI) (M : ML) : Option (MI × ML) := if (J 102 54) < 4 then (b2 (x11_readBobber J M) fun a b => some (a, b)) else b1 (x11_wrong (2 : Int32) J) fun a => some (a, M)
def RJ (n : Nat) (J J' : MI) : Prop := (∀ x, x ≠ 102 → ¬ (118 ≤ x ∧ x ≤ 123) → J' x = J x) ∧ (∀ j, 21 ≤ j → J' 102 j = J 102 j) ∧ ∀ x a, 118 ≤ x → x ≤ 123 → a ≠ n → J' x a = J x a
/-- within a bobber's line -/
def BX (T : Nat → Nat) (N t b q U n : Nat) (w' : Nat → List Nat) (I0 : MI) (L0 : ML) (J0 : MI) (M0 : ML) (p : Nat) (I : MI) (L : ML) (J : MI) (M : ML) : Prop :=
  CR T N t p U b I L ∧ RR T N p U J M ∧ q < p ∧ C21 I0 I ∧ RJ n J0 J ∧ (∀ x, 24 ≤ x → x ≤ 25 → L x = L0 x) ∧ Nm 26 16 (n + 1) w' L M ∧ (∀ i, i ≠ 16 + n → M 112 i = M0 112 i) ∧ Gs t I0 L0 J0 M0 I L J M
section LNX
variable {T : Nat → Nat} {N t b q U k n r p m W H : Nat} {C : TC} {ws : Nat → Nat → List Nat} {w' : Nat → List Nat} {I I0 I' I'' : MI} {L L0 L' L'' : ML} {J J0 J' J'' : MI} {M M0 M' M'' : ML}
theorem RJ.trans (h : RJ n J J') (g : RJ n J' J'') : RJ n J J'' := ⟨fun x a e => (g.1 x a e).trans (h.1 x a e), fun j a => (g.2.1 j a).trans (h.2.1 j a), fun x i a e f => (g.2.2 x i a e f).trans (h.2.2 x i a e f)⟩
theorem RJ.st (h : RFr J J') : RJ n J J' := ⟨fun x a _ => h.1 x a, fun j a => h.2 j (by omega) (by omega) (by omega) (by omega), fun x i a e _ => by rw [h.1 x (by omega)]⟩
theorem RJ.w {x : Nat} {v : Int32} (hx : 118 ≤ x ∧ x ≤ 123) : RJ n J (wI J x n v) := ⟨fun y a e => wI_c (by omega), fun j a => wI_ne (by omega), fun y i a e f => wI_ne (by omega)⟩
theorem BX.st (h : BX T N t b q U n w' I0 L0 J0 M0 p I L J M) {p' : Nat} (hp : p < p') (hC : CR T N t p' U b I' L') (hR : RR T N p' U J' M') (h1 : C21 I I') (h2 : CLm L L') (h3 : RFr J J') (h4 : LFr M M') : BX T N t b q U n w' I0 L0 J0 M0 p' I' L' J' M' :=
  ⟨hC, hR, by have := h.2.2.1; omega, h.2.2.2.1.trans h1, h.2.2.2.2.1.trans (RJ.st h3), fun x a e => by rw [h2 x (by omega)]; exact h.2.2.2.2.2.1 x a e, ⟨fun i hi => by rw [h2 26 (by omega), h4.1 112 (by omega)]; exact h.2.2.2.2.2.2.1.1 i hi, h.2.2.2.2.2.2.1.2⟩, fun i hi => by rw [h4.1 112 (by omega)]; exact h.2.2.2.2.2.2.2.1 i hi, h.2.2.2.2.2.2.2.2.trans (Gs.st h1 h2 h3 h4)⟩
theorem BX.w (h : BX T N t b q U n w' I0 L0 J0 M0 p I L J M) {x : Nat} {v : Int32} (hx : 118 ≤ x ∧ x ≤ 123) : BX T N t b q U n w' I0 L0 J0 M0 p I L (wI J x n v) M :=
  ⟨h.1, h.2.1.w (by omega), h.2.2.1, h.2.2.2.1, h.2.2.2.2.1.trans (RJ.w hx), h.2.2.2.2.2.1, h.2.2.2.2.2.2.1, h.2.2.2.2.2.2.2.1, h.2.2.2.2.2.2.2.2.trans (Gs.wr (by omega))⟩
theorem P_bobE (ht : t = 2 ∨ t = 28) (hK : LK t b k C ws I0 L0 J0 M0) (hW : 1 ≤ nW (OD t I0)) (hn : nB (OD t I0) = n) (hm : nR (OD t I0) = m) (hn4 : n < 4) (hB : BX T N t b q U n w' I0 L0 J0 M0 p I L J M) {x y re br mo : Nat} (hx : x < nW (OD t I0)) (hy : y < nH (OD t I0)) (hre : re ≤ 5) (hbr : br ≤ 20) (hmo : mo ≤ 9) (j118 : J 118 n = Int32.ofNat x) (j119 : J 119 n = Int32.ofNat y) (j120 : J 120 n = Int32.ofNat re) (j121 : J 121 n = Int32.ofNat br) (j122 : J 122 n = Int32.ofNat mo) : LO T N t q I0 L0 J0 M0 (cb6 t (Int32.ofNat n) (Int32.ofNat x) (Int32.ofNat y) (Int32.ofNat re) (Int32.ofNat br) (Int32.ofNat mo) I L) (b2 (bo6 J M) fun a b => some (a, b)) := by
  obtain ⟨hC, hR, hqp, hk, hJ, hL, hNm, hM, hG⟩ := hB
  have e11 : I t 11 = Int32.ofNat n := by
    have := hK.1.1.2.1.2.1.1
    rw [hn] at this; rw [hk t (by omega)]; exact this
  have e18 : I0 t 18 = Int32.ofNat m := by
    have := hK.1.1.2.1.2.2.1
    rw [hm] at this; exact this
  have hm6 : m ≤ 6 := by rw [← hm]; exact hK.1.1.2.1.2.2.2
  have r52 : J0 102 52 = Int32.ofNat m := by rw [hK.2.1.2.2.1]; exact e18
  have r54 : J 102 54 = Int32.ofNat n := by rw [hJ.2.1 54 (by omega), hK.2.1.2.2.2.2.1, ← hk t (by omega)]; exact e11
  generalize hI41 : wI (wI (wI (wI (wI (wI I (t + 7) n (Int32.ofNat x)) (t + 8) n (Int32.ofNat y)) (t + 9) n (Int32.ofNat re)) (t + 10) n (Int32.ofNat br)) (t + 11) n (Int32.ofNat mo)) (t + 12) n 0 = I41
  have f1 : ∀ c, ¬ (t + 7 ≤ c ∧ c ≤ t + 12) → I41 c = I c := fun c hc => by
    rw [← hI41, wI_c (by omega), wI_c (by omega), wI_c (by omega), wI_c (by omega), wI_c (by omega), wI_c (by omega)]
  have f2 : ∀ j a, 7 ≤ j → j ≤ 12 → a ≠ n → I41 (t + j) a = I (t + j) a := fun j a h1 h2 h3 => by
    rw [← hI41, wI_ne (by omega), wI_ne (by omega), wI_ne (by omega), wI_ne (by omega), wI_ne (by omega), wI_ne (by omega)]
  have f7 : I41 (t + 7) n = Int32.ofNat x := by rw [← hI41, wI_c (by omega), wI_c (by omega), wI_c (by omega), wI_c (by omega), wI_c (by omega), wI_at]
  have f8 : I41 (t + 8) n = Int32.ofNat y := by rw [← hI41, wI_c (by omega), wI_c (by omega), wI_c (by omega), wI_c (by omega), wI_at]
  have f9 : I41 (t + 9) n = Int32.ofNat re := by rw [← hI41, wI_c (by omega), wI_c (by omega), wI_c (by omega), wI_at]
  have f10 : I41 (t + 10) n = Int32.ofNat br := by rw [← hI41, wI_c (by omega), wI_c (by omega), wI_at]
  have f11 : I41 (t + 11) n = Int32.ofNat mo := by rw [← hI41, wI_c (by omega), wI_at]
  have f12 : I41 (t + 12) n = 0 := by rw [← hI41, wI_at]
  have hC41 : CR T N t p U b I41 L := by
    rw [← hI41]
    exact (((((hC.w ht (by omega)).w ht (by omega)).w ht (by omega)).w ht (by omega)).w ht (by omega)).w ht (by omega)
  have hG41 : Gs t I L J M I41 L J M := by
    rw [← hI41]
    exact ((((((Gs.wc (by omega)).trans (Gs.wc (by omega))).trans (Gs.wc (by omega))).trans (Gs.wc (by omega))).trans (Gs.wc (by omega))).trans (Gs.wc (by omega)))
  have e41 : I41 t 11 + 1 = Int32.ofNat (n + 1) := by rw [f1 t (by omega), e11, q_addn]
  generalize hI9 : wI I41 t 11 (Int32.ofNat (n + 1)) = I9
  have hC9 : CR T N t p U b I9 L := by rw [← hI9]; exact hC41.w ht (by omega)
  have g1 : ∀ c, c ≠ t → I9 c = I41 c := fun c hc => by rw [← hI9, wI_c hc]
  have g2 : ∀ j, j ≠ 11 → I9 t j = I t j := fun j hj => by rw [← hI9, wI_ne (by omega), f1 t (by omega)]
  have g3 : I9 t 11 = Int32.ofNat (n + 1) := by rw [← hI9, wI_at]
  have hG9 : Gs t I0 L0 J0 M0 I9 L (wI J 123 n 0) M := (hG.trans hG41).trans (by rw [← hI9]; exact (Gs.wc (by omega)).trans (Gs.wr (by omega)))
  have hR9 := hR.w (x := 123) (j := n) (v := 0) (by omega)
  have hJ9 : RJ n J0 (wI J 123 n 0) := hJ.trans (RJ.w (by omega))
  have hcb : cb6 t (Int32.ofNat n) (Int32.ofNat x) (Int32.ofNat y) (Int32.ofNat re) (Int32.ofNat br) (Int32.ofNat mo) I L = b3 (x5_optional (1 : Int32) I9 L) fun r44 I45 L46 => if r44 = 0 then some ((1 : Int32), I45, L46) else b3 (x5_ruleToldAhead t (Int32.ofNat n) I45 L46) fun r47 I48 L49 => if r47 = 0 then some ((0 : Int32), I48, L49) else some ((1 : Int32), I48, L49) := by
    rw [cb6, if_neg (by rw [q_m1 (by omega)]; exact id)]
    simp only [q_in (show n < 4 from hn4) (show n < 2147483648 by omega), q_ck, q_l, show ix (Int32.ofNat n) = n from q_ix (by omega), hI41, e41, hI9]
  have hbo : bo6 J M = b3 (x11_takes (25209 : Int64) (wI J 123 n 0) M) fun r32 I33 L34 => b1 (if r32 = 0 then some (I33, L34) else b2 (x11_readBy I33 L34) fun I36 L37 => some (I36, L37)) fun e35 => if (e35.1 102 2) = 0 then (lt (wI e35.1 102 54 ((e35.1 102 54) + 1)) fun I38 => some (I38, e35.2)) else some (e35.1, e35.2) := by
    rw [bo6, r54, q_in (by omega) (by omega), q_ck, show ix (Int32.ofNat n) = n from q_ix (by omega), q_l]
  -- what is told in the end, whatever the rule is
  have fin : ∀ {I1 : MI} {L1 : ML} {J1 : MI} {M1 : ML} {z q' : Nat}, (z < m ∨ (m = 0 ∧ z = 0)) → CR T N t q' U b I1 L1 → RR T N q' U J1 M1 → p ≤ q' → (∀ c, c ≠ 21 → c ≠ t + 12 → I1 c = I9 c) → (∀ a, a ≠ n → I1 (t + 12) a = I9 (t + 12) a) → I1 (t + 12) n = Int32.ofNat z → (∀ c, c ≠ 102 → c ≠ 123 → J1 c = J c) → (∀ a, a ≠ n → J1 123 a = J 123 a) → J1 123 n = Int32.ofNat z → (∀ j, 21 ≤ j → J1 102 j = J 102 j) → CLm L L1 → LFr M M1 → Gs t I0 L0 J0 M0 I1 L1 J1 M1 → LO T N t q I0 L0 J0 M0 (some (1, I1, L1)) (some (wI J1 102 54 (Int32.ofNat (n + 1)), M1)) := by
    intro I1 L1 J1 M1 z q' hz i1 i2 i3 i4 i5 i6 i7 i8 i9 i10 i11 i12 i13
    refine Or.inl ⟨I1, L1, wI J1 102 54 (Int32.ofNat (n + 1)), M1, q', U, b, k, C, _, rfl, rfl, by omega, i1, i2.w (by omega), hK.bo ht hn hn4 (fun c hc => ?_) (fun j a h1 h2 h3 => ?_) (fun j hj => ?_) ?_ ?_ ⟨x, hx, ?_, ?_⟩ ⟨y, hy, ?_, ?_⟩ ⟨re, hre, ?_, ?_⟩ ⟨br, hbr, ?_, ?_⟩ ⟨mo, hmo, ?_, ?_⟩ ⟨z, i6, ?_, by rw [hm]; exact hz⟩ (fun c hc => ?_) (fun c a h1 h2 h3 => ?_) (fun j h1 h2 h3 => ?_) wI_at (fun c h1 h2 => ?_) (w' := w') ⟨fun i hi => ?_, hNm.2⟩ (fun i hi => ?_), ?_, i13.trans (Gs.wr (by omega))⟩
    · rw [i4 c (by omega) (by omega), g1 c (by omega), f1 c (by omega), hk c (by omega)]
    · by_cases e : j = 12
      · subst e; rw [i5 a h3, g1 (t + 12) (by omega), f2 12 a h1 h2 h3, hk (t + 12) (by omega)]
      · rw [i4 (t + j) (by omega) (by omega), g1 (t + j) (by omega), f2 j a h1 h2 h3, hk (t + j) (by omega)]
    · rw [i4 t (by omega) (by omega), g2 j hj, hk t (by omega)]
    · rw [i4 t (by omega) (by omega)]; exact g3
    · rw [i4 20 (by omega) (by omega), g1 20 (by omega), f1 20 (by omega), hk 20 (by omega)]; exact ⟨rfl, rfl⟩
    · rw [i4 (t + 7) (by omega) (by omega), g1 (t + 7) (by omega)]; exact f7
    · rw [wI_c (by omega), i7 118 (by omega) (by omega)]; exact j118
    · rw [i4 (t + 8) (by omega) (by omega), g1 (t + 8) (by omega)]; exact f8
    · rw [wI_c (by omega), i7 119 (by omega) (by omega)]; exact j119
    · rw [i4 (t + 9) (by omega) (by omega), g1 (t + 9) (by omega)]; exact f9
    · rw [wI_c (by omega), i7 120 (by omega) (by omega)]; exact j120
    · rw [i4 (t + 10) (by omega) (by omega), g1 (t + 10) (by omega)]; exact f10
    · rw [wI_c (by omega), i7 121 (by omega) (by omega)]; exact j121
    · rw [i4 (t + 11) (by omega) (by omega), g1 (t + 11) (by omega)]; exact f11
    · rw [wI_c (by omega), i7 122 (by omega) (by omega)]; exact j122
    · rw [wI_c (by omega)]; exact i9
    · rw [wI_c (by omega), i7 c (by omega) (by omega), hJ.1 c (by omega) (by omega)]
    · rw [wI_c (by omega)]
      by_cases e : c = 123
      · subst e; rw [i8 a h3, hJ.2.2 123 a (by omega) (by omega) h3]
      · rw [i7 c (by omega) e, hJ.2.2 c a h1 h2 h3]
    · rw [wI_ne (by omega), i10 j (by omega), hJ.2.1 j (by omega)]
    · rw [i11 c (by omega)]; exact hL c h1 h2
    · rw [i11 26 (by omega), i12.1 112 (by omega)]; exact hNm.1 i hi
    · rw [i12.1 112 (by omega)]; exact hM i hi
    · have e0 : OD t I1 0 0 = OD t I0 0 0 := by
        show I1 (t + 0) 0 = I0 (t + 0) 0
        rw [Nat.add_zero, i4 t (by omega) (by omega), g2 0 (by omega), hk t (by omega)]
      rw [nW, e0]; exact hW
  rw [hcb, hbo]
  rcases P_opt ht hC9 hR9 (i := 1) (by omega) (kw_e 1 (by omega)).symm with ⟨I10, L10, J10, M10, a1, a2, a3, a4, a5, a6, a7, a8, a9, -⟩ | ⟨a1, a2, -⟩
  · have a1' : x5_optional 1 I9 L = some (1, I10, L10) := a1
    have a2' : x11_takes 25209 (wI J 123 n 0) M = some (1, J10, M10) := a2
    have hN24 : Nm 24 0 m (ws 0) L10 M10 := by
      have g := hK.2.2.2.2.2.2.2.1.1
      rw [hm] at g
      exact ⟨fun i hi => by rw [a7 24 (by omega), hL 24 (by omega) (by omega), a9.1 112 (by omega), hM (0 + i) (by omega)]; exact g.1 i hi, g.2⟩
    rw [a1', q_b3, if_neg (by decide), a2', q_b3, if_neg (by decide)]
    rcases P_by ht a3 a4 hN24 hm6 hn4 (by rw [a6 t (by omega), g2 18 (by omega), hk t (by omega)]; exact e18) (by rw [a8.2 52 (by omega) (by omega) (by omega) (by omega), hJ9.2.1 52 (by omega)]; exact r52) (by rw [a8.2 54 (by omega) (by omega) (by omega) (by omega), wI_c (by omega)]; exact r54) with ⟨z, q', I11, L11, J11, M11, c0, c1, c2, c3, c4, c5, c6, c7, c8, c9⟩ | ⟨I11, J11, c1, c2, c3, c4, c5⟩
    · have e54 : J11 102 54 + 1 = Int32.ofNat (n + 1) := by rw [c8.2 54 (by omega) (by omega) (by omega) (by omega), wI_c (by omega), a8.2 54 (by omega) (by omega) (by omega) (by omega), wI_c (by omega), r54, q_addn]
      rw [c1, q_b3, if_neg (by decide), c2, q_b2, q_b1]
      dsimp only
      rw [if_pos c4.2.2.2.1, e54, q_l, q_b2]
      refine fin (Or.inl c0) c3 c4 (by omega) (fun c h1 h2 => by rw [c6 c h1, wI_c h2, a6 c h1]) (fun a ha => by rw [c6 (t + 12) (by omega), wI_ne (by omega), a6 (t + 12) (by omega)]) (by rw [c6 (t + 12) (by omega), wI_at]) (fun c h1 h2 => by rw [c8.1 c h1, wI_c h2, a8.1 c h1, wI_c h2]) (fun a ha => by rw [c8.1 123 (by omega), wI_ne (by omega), a8.1 123 (by omega), wI_ne (by omega)]) (by rw [c8.1 123 (by omega), wI_at]) (fun j hj => by rw [c8.2 j (by omega) (by omega) (by omega) (by omega), wI_c (by omega), a8.2 j (by omega) (by omega) (by omega) (by omega), wI_c (by omega)]) (a7.trans c7) (a9.trans c9) (((hG9.trans (Gs.st a6 a7 a8 a9)).trans ((Gs.wc (by omega)).trans (Gs.wr (by omega)))).trans (Gs.st c6 c7 c8 c9))
    · rw [c1, q_b3, if_pos rfl, c2, q_b2, q_b1, if_neg (fl_ne c3.2.2), q_b2]
      exact Or.inr ⟨I11, L10, J11, M10, rfl, rfl, c3, (hG9.trans (Gs.st a6 a7 a8 a9)).trans (Gs.fl c4 c5)⟩
  · have a1' : x5_optional 1 I9 L = some (0, I9, L) := a1
    have a2' : x11_takes 25209 (wI J 123 n 0) M = some (0, wI J 123 n 0, M) := a2
    have e54 : wI J 123 n 0 102 54 + 1 = Int32.ofNat (n + 1) := by rw [wI_c (by omega), r54, q_addn]
    rw [a1', q_b3, if_pos rfl, a2', q_b3, if_pos rfl, q_b1]
    dsimp only
    rw [if_pos hR9.2.2.2.1, e54, q_l, q_b2]
    exact fin (z := 0) (by omega) hC9 hR9 (Nat.le_refl _) (fun _ _ _ => rfl) (fun _ _ => rfl) (by rw [g1 (t + 12) (by omega)]; exact f12) (fun c _ h2 => wI_c h2) (fun a ha => wI_ne (by omega)) wI_at (fun j _ => wI_ne (by omega)) CLm.refl LFr.refl hG9
end LNX
