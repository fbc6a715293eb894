/-! THE TEXT: lines: apple, the end -/
section LNX
variable {T : Nat → Nat} {N t b q U k n p : Nat} {C : TC} {ws : Nat → Nat → List Nat} {w' : Nat → List Nat} {I I0 I' : MI} {L L0 L' : ML} {J J0 J' J'' : MI} {M M0 M' : ML}
theorem P_appE (ht : t = 2 ∨ t = 28) (hK : LK t b k C ws I0 L0 J0 M0) (hW : 1 ≤ nW (OD t I0)) (hn : nA (OD t I0) = n) (hn10 : n < 10) (hB : BXa T N t b q U n w' I0 L0 J0 M0 p I L J M) {x y sz so : Nat} (hx : x < nW (OD t I0)) (hy : y < nH (OD t I0)) (hsz : 1 ≤ sz ∧ sz ≤ 99) (hso : so ≤ 9) (j115 : J 115 n = Int32.ofNat x) (j116 : J 116 n = Int32.ofNat y) (j113 : J 113 n = Int32.ofNat sz) (j114 : J 114 n = Int32.ofNat so) (hfr : ∀ a, a < n → ¬ (I0 (t + 1) a = Int32.ofNat x ∧ I0 (t + 2) a = Int32.ofNat y)) : LO T N t q I0 L0 J0 M0 (ca6 t (Int32.ofNat n) (Int32.ofNat x) (Int32.ofNat y) (Int32.ofNat sz) (Int32.ofNat so) I L) (b2 (ap6 J M) fun a b => some (a, b)) := by
  obtain ⟨hC, hR, hqp, hk, hJ, hL, hNm, hM, hG⟩ := hB
  have e4 : I0 t 4 = Int32.ofNat n := by
    have := hK.1.1.2.1.1.1
    rw [hn] at this; exact this
  have r53 : J 102 53 = Int32.ofNat n := by rw [hJ.2.1 53 (by omega), hK.2.1.2.2.2.1]; exact e4
  have hin : vp_in (Int32.ofNat n) 10 = True := q_in (by omega) (by omega)
  have hix : ix (Int32.ofNat n) = n := q_ix (by omega)
  generalize hI33 : wI (wI (wI (wI I (t + 1) n (Int32.ofNat x)) (t + 2) n (Int32.ofNat y)) (t + 3) n (Int32.ofNat sz)) (t + 4) n (Int32.ofNat so) = I33
  have f1 : ∀ c, ¬ (t + 1 ≤ c ∧ c ≤ t + 4) → I33 c = I c := fun c hc => by
    rw [← hI33, wI_c (by omega), wI_c (by omega), wI_c (by omega), wI_c (by omega)]
  have f2 : ∀ j a, 1 ≤ j → j ≤ 4 → a ≠ n → I33 (t + j) a = I (t + j) a := fun j a h1 h2 h3 => by
    rw [← hI33, wI_ne (by omega), wI_ne (by omega), wI_ne (by omega), wI_ne (by omega)]
  have g1 : I33 (t + 1) n = Int32.ofNat x := by rw [← hI33, wI_c (by omega), wI_c (by omega), wI_c (by omega), wI_at]
  have g2 : I33 (t + 2) n = Int32.ofNat y := by rw [← hI33, wI_c (by omega), wI_c (by omega), wI_at]
  have g3 : I33 (t + 3) n = Int32.ofNat sz := by rw [← hI33, wI_c (by omega), wI_at]
  have g4 : I33 (t + 4) n = Int32.ofNat so := by rw [← hI33, wI_at]
  have hC33 : CR T N t p U b I33 L := by
    rw [← hI33]
    exact (((hC.w ht (by omega)).w ht (by omega)).w ht (by omega)).w ht (by omega)
  have hG33 : Gs t I0 L0 J0 M0 I33 L J M := hG.trans (by rw [← hI33]; exact (((Gs.wc (by omega)).trans (Gs.wc (by omega))).trans (Gs.wc (by omega))).trans (Gs.wc (by omega)))
  -- with the stalk known
  have fin : ∀ {I1 : MI} {L1 : ML} {J1 : MI} {M1 : ML} {p1 : Nat} {st : Int32}, (st = 0 ∨ st = 1) → CR T N t p1 U b I1 L1 → RR T N p1 U J1 M1 → p ≤ p1 → C21 I33 I1 → RFr J J1 → CLm L L1 → LFr M M1 → Gs t I0 L0 J0 M0 I1 L1 J1 M1 → LO T N t q I0 L0 J0 M0 (ca7 t (Int32.ofNat n) (wI I1 (t + 5) n st) L1) (b2 (ap7 (wI J1 124 n st) M1) fun a b => some (a, b)) := by
    intro I1 L1 J1 M1 p1 st hst i1 i2 i3 i4 i5 i6 i7 i8
    have i1' := i1.w ht (x := t + 5) (j := n) (v := st) (by omega)
    have i2' := i2.w (x := 124) (j := n) (v := st) (by omega)
    have i8' : Gs t I0 L0 J0 M0 (wI I1 (t + 5) n st) L1 (wI J1 124 n st) M1 := i8.trans ((Gs.wc (by omega)).trans (Gs.wr (by omega)))
    rcases P_coin ht i1' i2' hn10 (by rw [wI_c (by omega), i5.2 53 (by omega) (by omega) (by omega) (by omega)]; exact r53) with ⟨co, q', I4, L4, J4, M4, c1, c2, c3, c4, c5, c6, c7, c8, c9, c10⟩ | ⟨I4, L4, J4, M4, c1, c2, c3, c4⟩
    · have u1 : ∀ c, c ≠ 21 → c ≠ t + 5 → I4 c = I33 c := fun c h1 h2 => by rw [c7 c h1, wI_c h2, i4 c h1]
      have u5 : I4 (t + 5) n = st := by rw [c7 (t + 5) (by omega), wI_at]
      have u5' : ∀ a, a ≠ n → I4 (t + 5) a = I (t + 5) a := fun a ha => by rw [c7 (t + 5) (by omega), wI_ne (by omega), i4 (t + 5) (by omega), f1 (t + 5) (by omega)]
      have u4 : I4 t 4 + 1 = Int32.ofNat (n + 1) := by rw [u1 t (by omega) (by omega), f1 t (by omega), hk t (by omega), e4, q_addn]
      have v1 : ∀ c, c ≠ 102 → c ≠ 124 → J4 c = J c := fun c h1 h2 => by rw [c9.1 c h1, wI_c h2, i5.1 c h1]
      have v2 : J4 124 n = st := by rw [c9.1 124 (by omega), wI_at]
      have v3 : ∀ a, a ≠ n → J4 124 a = J 124 a := fun a ha => by rw [c9.1 124 (by omega), wI_ne (by omega), i5.1 124 (by omega)]
      have v4 : ∀ j, 21 ≤ j → J4 102 j = J 102 j := fun j hj => by rw [c9.2 j (by omega) (by omega) (by omega) (by omega), wI_c (by omega), i5.2 j (by omega) (by omega) (by omega) (by omega)]
      rw [c1, c2, q_b2, u4]
      generalize hI5 : wI (wI I4 (t + 6) n (Int32.ofNat co)) t 4 (Int32.ofNat (n + 1)) = I5
      generalize hJ5 : wI (wI J4 117 n (Int32.ofNat co)) 102 53 (Int32.ofNat (n + 1)) = J5
      have o1 : ∀ c, c ≠ t → c ≠ t + 6 → I5 c = I4 c := fun c h1 h2 => by rw [← hI5, wI_c h1, wI_c h2]
      have o2 : ∀ j, j ≠ 4 → I5 t j = I4 t j := fun j hj => by rw [← hI5, wI_ne (by omega), wI_c (by omega)]
      have o3 : I5 t 4 = Int32.ofNat (n + 1) := by rw [← hI5, wI_at]
      have o6 : I5 (t + 6) n = Int32.ofNat co := by rw [← hI5, wI_c (by omega), wI_at]
      have o6' : ∀ a, a ≠ n → I5 (t + 6) a = I4 (t + 6) a := fun a ha => by rw [← hI5, wI_c (by omega), wI_ne (by omega)]
      have w1 : ∀ c, c ≠ 102 → c ≠ 117 → J5 c = J4 c := fun c h1 h2 => by rw [← hJ5, wI_c h1, wI_c h2]
      have w2 : J5 117 n = Int32.ofNat co := by rw [← hJ5, wI_c (by omega), wI_at]
      have w3 : ∀ a, a ≠ n → J5 117 a = J4 117 a := fun a ha => by rw [← hJ5, wI_c (by omega), wI_ne (by omega)]
      have w4 : ∀ j, j ≠ 53 → J5 102 j = J4 102 j := fun j hj => by rw [← hJ5, wI_ne (by omega), wI_c (by omega)]
      have hI5C : CR T N t q' U b I5 L4 := by rw [← hI5]; exact (c5.w ht (by omega)).w ht (by omega)
      have hJ5R : RR T N q' U J5 M4 := by rw [← hJ5]; exact (c6.w (by omega)).w (by omega)
      have hG5 : Gs t I0 L0 J0 M0 I5 L4 J5 M4 := (i8'.trans (Gs.st c7 c8 c9 c10)).trans (by rw [← hI5, ← hJ5]; exact ((Gs.wc (by omega)).trans (Gs.wc (by omega))).trans ((Gs.wr (by omega)).trans (Gs.wr (by omega))))
      refine Or.inl ⟨I5, L4, J5, M4, q', U, b, k, C, _, rfl, rfl, by omega, hI5C, hJ5R, hK.ap ht hn hn10 (fun c hc => ?_) (fun j a h1 h2 h3 => ?_) (fun j hj => ?_) o3 ?_ ⟨x, hx, ?_, ?_⟩ ⟨y, hy, ?_, ?_⟩ ⟨sz, hsz.1, hsz.2, ?_, ?_⟩ ⟨so, hso, ?_, ?_⟩ ⟨?_, ?_⟩ ⟨co, c3, o6, w2⟩ (fun a ha => ?_) (fun c hc => ?_) (fun c a h1 h2 => ?_) (fun j h1 h2 h3 => ?_) (by rw [← hJ5, wI_at]) ⟨?_, ?_⟩ (w' := w') ⟨fun i hi => ?_, hNm.2⟩ (fun i hi => ?_), ?_, hG5⟩
      · rw [o1 c (by omega) (by omega), u1 c (by omega) (by omega), f1 c (by omega), hk c (by omega)]
      · by_cases e6 : j = 6
        · subst e6; rw [o6' a h3, u1 (t + 6) (by omega) (by omega), f1 (t + 6) (by omega), hk (t + 6) (by omega)]
        · by_cases e5 : j = 5
          · subst e5; rw [o1 (t + 5) (by omega) (by omega), u5' a h3, hk (t + 5) (by omega)]
          · rw [o1 (t + j) (by omega) (by omega), u1 (t + j) (by omega) (by omega), f2 j a h1 (by omega) h3, hk (t + j) (by omega)]
      · rw [o2 j hj, u1 t (by omega) (by omega), f1 t (by omega), hk t (by omega)]
      · rw [o1 20 (by omega) (by omega), u1 20 (by omega) (by omega), f1 20 (by omega), hk 20 (by omega)]; exact ⟨rfl, rfl⟩
      · rw [o1 (t + 1) (by omega) (by omega), u1 (t + 1) (by omega) (by omega)]; exact g1
      · rw [w1 115 (by omega) (by omega), v1 115 (by omega) (by omega)]; exact j115
      · rw [o1 (t + 2) (by omega) (by omega), u1 (t + 2) (by omega) (by omega)]; exact g2
      · rw [w1 116 (by omega) (by omega), v1 116 (by omega) (by omega)]; exact j116
      · rw [o1 (t + 3) (by omega) (by omega), u1 (t + 3) (by omega) (by omega)]; exact g3
      · rw [w1 113 (by omega) (by omega), v1 113 (by omega) (by omega)]; exact j113
      · rw [o1 (t + 4) (by omega) (by omega), u1 (t + 4) (by omega) (by omega)]; exact g4
      · rw [w1 114 (by omega) (by omega), v1 114 (by omega) (by omega)]; exact j114
      · rw [o1 (t + 5) (by omega) (by omega), u5]; exact hst
      · rw [o1 (t + 5) (by omega) (by omega), u5, w1 124 (by omega) (by omega), v2]
      · rw [o1 (t + 1) (by omega) (by omega), u1 (t + 1) (by omega) (by omega), g1, o1 (t + 2) (by omega) (by omega), u1 (t + 2) (by omega) (by omega), g2]; exact hfr a ha
      · rw [w1 c (by omega) (by omega), v1 c (by omega) (by omega), hJ.1 c (by omega) (by omega)]
      · by_cases e117 : c = 117
        · subst e117; rw [w3 a h2, v1 117 (by omega) (by omega), hJ.2.2 117 a (by omega) h2]
        · by_cases e124 : c = 124
          · subst e124; rw [w1 124 (by omega) (by omega), v3 a h2, hJ.2.2 124 a (by omega) h2]
          · rw [w1 c (by omega) e117, v1 c (by omega) e124, hJ.2.2 c a h1 h2]
      · rw [w4 j h3, v4 j (by omega), hJ.2.1 j (by omega)]
      · rw [c8 24 (by omega), i6 24 (by omega)]; exact hL.1
      · rw [c8 26 (by omega), i6 26 (by omega)]; exact hL.2
      · rw [c8 25 (by omega), i6 25 (by omega), c10.1 112 (by omega), i7.1 112 (by omega)]; exact hNm.1 i hi
      · rw [c10.1 112 (by omega), i7.1 112 (by omega)]; exact hM i hi
      · have e0 : OD t I5 0 0 = OD t I0 0 0 := by
          show I5 (t + 0) 0 = I0 (t + 0) 0
          rw [Nat.add_zero, o2 0 (by omega), u1 t (by omega) (by omega), f1 t (by omega), hk t (by omega)]
        rw [nW, e0]; exact hW
    · rw [c1, c2, q_b2]
      exact Or.inr ⟨I4, L4, J4, M4, rfl, rfl, c3, i8'.trans c4⟩
  have hca : ca6 t (Int32.ofNat n) (Int32.ofNat x) (Int32.ofNat y) (Int32.ofNat sz) (Int32.ofNat so) I L = b3 (x5_optional (4 : Int32) I33 L) fun r35 I36 L37 => b1 (if r35 = 0 then some (0 : Int32) else some (1 : Int32)) fun e38 => lt (wI I36 (t + 5) n e38) fun I39 => ca7 t (Int32.ofNat n) I39 L37 := by
    rw [ca6, if_neg (by rw [q_m1 (by omega)]; exact id)]
    simp only [hin, q_ck, q_l, hix, hI33]
  have hap : ap6 J M = b3 (x11_takes (495873780843 : Int64) J M) fun r37 I38 L39 => lt (wI I38 124 n (zb r37)) fun I40 => ap7 I40 L39 := by
    rw [ap6, r53]
    simp only [hin, q_ck, hix]
  rw [hca, hap]
  rcases P_opt ht hC33 hR (i := 4) (by omega) (kw_e 4 (by omega)).symm with ⟨I10, L10, J10, M10, a1, a2, a3, a4, a5, a6, a7, a8, a9, -⟩ | ⟨a1, a2, -⟩
  · have a1' : x5_optional 4 I33 L = some (1, I10, L10) := a1
    have a2' : x11_takes 495873780843 J M = some (1, J10, M10) := a2
    rw [a1', q_b3, if_neg (by decide), q_b1, q_l, a2', q_b3, q_l, show zb 1 = 1 from rfl]
    exact fin (Or.inr rfl) a3 a4 (by omega) a6 a8 a7 a9 (hG33.trans (Gs.st a6 a7 a8 a9))
  · have a1' : x5_optional 4 I33 L = some (0, I33, L) := a1
    have a2' : x11_takes 495873780843 J M = some (0, J, M) := a2
    rw [a1', q_b3, if_pos rfl, q_b1, q_l, a2', q_b3, q_l, show zb 0 = 0 from rfl]
    exact fin (Or.inl rfl) hC33 hR (Nat.le_refl _) (fun _ _ => rfl) RFr.refl CLm.refl LFr.refl hG33
end LNX
