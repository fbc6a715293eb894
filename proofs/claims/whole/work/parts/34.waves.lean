/-! WAVES, 2: the reference's own -/
section MV
variable {D : TD} {C : TC} {P : PR} {I : MI} {side : Nat}
theorem OkP.go {x y : Int32} {s : Int32 × PR} (hD : OkD D C) (hP : OkP D s.2) : OkP D (sgo D side x y s).2 := by
  simp only [sgo]
  cases hs : sat s.2 x y (nA D) with
  | none => exact hP
  | some p =>
    obtain ⟨p1, p2, p3, p4⟩ := sat_some hs
    show OkP D (if _ then _ else _ : Int32 × PR).2
    split
    · next h =>
      obtain ⟨⟨u, hu, e1⟩, ⟨v, hv, e2⟩⟩ := scell_i hD h.1
      have h2 := h.2
      rw [e1, e2] at h2
      show OkP D (smv s.2 p _ _)
      rw [e1, e2]
      exact hP.mv p1 hD.a hu hv h2
    · exact hP
theorem m_goes (hD : OkD D C) (hR : Rd I D C) (hW : Wr I P) (hs : side < 4) (x y c : Int32) : ∃ I' g, x11_goesOn x y (Int32.ofNat side) I = some (b2i g, I') ∧ (c + (if g = true then 1 else 0), (sgo D side x y (c, P)).2) = sgo D side x y (c, P) ∧ Wr I' (sgo D side x y (c, P)).2 ∧ Fm I I' := by
  have hA := hD.a
  have ex : (if Int32.ofNat side = 0 then x - 1 else if Int32.ofNat side = 1 then x + 1 else x) = x + sdX side := by
    have hs4 : side = 0 ∨ side = 1 ∨ side = 2 ∨ side = 3 := by omega
    rcases hs4 with rfl | rfl | rfl | rfl
    · exact Int32.sub_eq_add_neg x 1
    · rfl
    · exact (Int32.add_zero x).symm
    · exact (Int32.add_zero x).symm
  have ey : (if Int32.ofNat side = 2 then y + 1 else if Int32.ofNat side = 3 then y - 1 else y) = y + sdY side := by
    have hs4 : side = 0 ∨ side = 1 ∨ side = 2 ∨ side = 3 := by omega
    rcases hs4 with rfl | rfl | rfl | rfl
    · exact (Int32.add_zero y).symm
    · exact (Int32.add_zero y).symm
    · rfl
    · exact Int32.sub_eq_add_neg y 1
  have e1 : ∀ v, c + (if (false = true) then v else (0 : Int32)) = c := fun v => Int32.add_zero c
  simp only [x11_goesOn, m_afloat hD hR hW, QB, ex, ey, m_cell hD hR, b2i_0]
  simp only [oi_lt0 (P := P) (x := x) (y := y) hA, oi_lt0 (P := P) (x := x + sdX side) (y := y + sdY side) hA, sgo]
  cases h1 : sat P x y (nA D) with
  | none =>
    exact ⟨I, false, by simp [b2i], by simp, hW, Fm.refl⟩
  | some p =>
    obtain ⟨p1, p2, p3, p4⟩ := sat_some h1
    cases h2 : scell D (x + sdX side) (y + sdY side) with
    | false =>
      exact ⟨I, false, by simp [b2i], by simp, by simpa using hW, Fm.refl⟩
    | true =>
      cases h3 : sat P (x + sdX side) (y + sdY side) (nA D) with
      | some d =>
        exact ⟨I, false, by simp [b2i], by simp, by simpa using hW, Fm.refl⟩
      | none =>
        have e0 : (Option.isSome (some p) = false) = False := eq_false (by simp)
        simp (disch := omega) only [oi, QN, QB, e0, if_false, if_true, Option.isSome_none, true_and]
        exact ⟨_, true, rfl, by simp, (hW.w (by omega)).w (by omega), Fm.refl.w.w⟩
theorem m_wv1 {r : Nat} (hD : OkD D C) (hs : side < 4) (hr : r < srows D side) : ∀ (j w n : Nat) (I : MI) (s : Int32 × PR), w + j = seach D side → j < n → Rd I D C → Wr I (swm1 D side r w s).2 → OkP D s.2 → ∃ I', x11_wavesTo_L49 (Int32.ofNat side) (Int32.ofNat (srows D side)) (Int32.ofNat (seach D side)) (Int32.ofNat r) n (swm1 D side r w s).1 (Int32.ofNat w) I = some ((swm1 D side r (seach D side) s).1, I') ∧ Wr I' (swm1 D side r (seach D side) s).2 ∧ Fm I I' := by
  have hw6 := hD.w
  have hh6 := hD.h
  have he6 : seach D side ≤ 6 := by simp only [seach]; split <;> omega
  have hr6 : srows D side ≤ 6 := by simp only [srows]; split <;> omega
  intro j
  induction j with
  | zero =>
    intro w n I s hw hn hR hW hP
    obtain ⟨n, rfl⟩ : ∃ n', n = n' + 1 := ⟨n - 1, by omega⟩
    obtain rfl : w = seach D side := by omega
    refine ⟨I, ?_, hW, Fm.refl⟩
    simp (disch := omega) only [x11_wavesTo_L49, x11_wavesTo_L49s, QN]
    simp
  | succ j ih =>
    intro w n I s hw hn hR hW hP
    obtain ⟨n, rfl⟩ : ∃ n', n = n' + 1 := ⟨n - 1, by omega⟩
    have hx : (if Int32.ofNat side < 2 then (if Int32.ofNat side = 1 then Int32.ofNat (srows D side) - 1 - Int32.ofNat r else if Int32.ofNat side = 2 then Int32.ofNat (srows D side) - 1 - Int32.ofNat r else Int32.ofNat r) else Int32.ofNat w) = scx D side r w := by
      have hs4 : side = 0 ∨ side = 1 ∨ side = 2 ∨ side = 3 := by omega
      rcases hs4 with rfl | rfl | rfl | rfl <;> rfl
    have hy : (if Int32.ofNat side < 2 then Int32.ofNat w else (if Int32.ofNat side = 1 then Int32.ofNat (srows D side) - 1 - Int32.ofNat r else if Int32.ofNat side = 2 then Int32.ofNat (srows D side) - 1 - Int32.ofNat r else Int32.ofNat r)) = scy D side r w := by
      have hs4 : side = 0 ∨ side = 1 ∨ side = 2 ∨ side = 3 := by omega
      rcases hs4 with rfl | rfl | rfl | rfl <;> rfl
    obtain ⟨I1, g, k1, k2, k3, k4⟩ := m_goes hD hR hW hs (scx D side r w) (scy D side r w) (swm1 D side r w s).1
    have hst : swm1 D side r (w + 1) s = sgo D side (scx D side r w) (scy D side r w) ((swm1 D side r w s).1, (swm1 D side r w s).2) := rfl
    rw [← hst] at k2 k3
    obtain ⟨I2, g1, g2, g3⟩ := ih (w + 1) n I1 s (by omega) (by omega) (k4.rd hR) k3 hP
    refine ⟨I2, ?_, g2, k4.trans g3⟩
    rw [← k2] at g1
    rw [x11_wavesTo_L49, x11_wavesTo_L49s]
    simp only [QB, hx, hy, k1, b2i_0]
    rw [if_pos (by rw [q_lt (by omega) (by omega)]; omega)]
    rw [show Int32.ofNat w + 1 = Int32.ofNat (w + 1) from q_addn]
    cases g <;> exact g1
theorem OkP.wm1 {r : Nat} (hD : OkD D C) {s : Int32 × PR} (hP : OkP D s.2) : ∀ k, OkP D (swm1 D side r k s).2
  | 0 => hP
  | k + 1 => OkP.go hD (OkP.wm1 hD hP k)
theorem OkP.wm (hD : OkD D C) {s : Int32 × PR} (hP : OkP D s.2) : ∀ r, OkP D (swm D side r s).2
  | 0 => hP
  | r + 1 => OkP.wm1 hD (OkP.wm hD hP r) _
theorem m_wvL (hD : OkD D C) (hs : side < 4) : ∀ (j r n : Nat) (I : MI) (s : Int32 × PR), r + j = srows D side → j < n → Rd I D C → Wr I (swm D side r s).2 → OkP D s.2 → ∃ I', x11_wavesTo_L40 (Int32.ofNat side) (Int32.ofNat (srows D side)) (Int32.ofNat (seach D side)) n (swm D side r s).1 (Int32.ofNat r) I = some ((swm D side (srows D side) s).1, I') ∧ Wr I' (swm D side (srows D side) s).2 ∧ Fm I I' := by
  have hw6 := hD.w
  have hh6 := hD.h
  have he6 : seach D side ≤ 6 := by simp only [seach]; split <;> omega
  have hr6 : srows D side ≤ 6 := by simp only [srows]; split <;> omega
  intro j
  induction j with
  | zero =>
    intro r n I s hw hn hR hW hP
    obtain ⟨n, rfl⟩ : ∃ n', n = n' + 1 := ⟨n - 1, by omega⟩
    obtain rfl : r = srows D side := by omega
    refine ⟨I, ?_, hW, Fm.refl⟩
    simp (disch := omega) only [x11_wavesTo_L40, x11_wavesTo_L40s, QN]
    simp
  | succ j ih =>
    intro r n I s hw hn hR hW hP
    obtain ⟨n, rfl⟩ : ∃ n', n = n' + 1 := ⟨n - 1, by omega⟩
    obtain ⟨I1, k1, k2, k3⟩ := m_wv1 (C := C) (r := r) hD hs (by omega) (seach D side) 0 FU I (swm D side r s) (by omega) (by unfold FU; omega) hR hW (OkP.wm hD hP r)
    obtain ⟨I2, g1, g2, g3⟩ := ih (r + 1) n I1 s (by omega) (by omega) (k3.rd hR) k2 hP
    refine ⟨I2, ?_, g2, k3.trans g3⟩
    rw [show Int32.ofNat 0 = 0 from rfl, show (swm1 D side r 0 (swm D side r s)).1 = (swm D side r s).1 from rfl] at k1
    simp (disch := omega) only [x11_wavesTo_L40, x11_wavesTo_L40s, QB, QN, if_pos (show r < srows D side by omega), k1]
    exact g1
theorem m_waves (hD : OkD D C) (hR : Rd I D C) (hW : Wr I P) (hP : OkP D P) (hs : side < 4) : ∃ I', x11_wavesTo (Int32.ofNat side) I = some ((swv D side 5 (0, P)).1, I') ∧ Wr I' (swv D side 5 (0, P)).2 ∧ Fm I I' := by
  obtain ⟨I', k1, k2, k3⟩ := m_wvL (C := C) hD hs (srows D side) 0 FU I (0, P) (by omega) (by have := hD.w; have := hD.h; have : srows D side ≤ 6 := by { simp only [srows]; split <;> omega }; unfold FU; omega) hR hW hP
  rw [wm_wv hD hs hP] at k1 k2
  refine ⟨I', ?_, k2, k3⟩
  rw [show Int32.ofNat 0 = 0 from rfl, show (swm D side 0 (0, P)).1 = 0 from rfl] at k1
  have e1 : (if Int32.ofNat side < 2 then I 102 56 else I 102 57) = Int32.ofNat (srows D side) := by
    rw [hR.1.1, hR.1.2.1, (nWH hD).1, (nWH hD).2]
    have hs4 : side = 0 ∨ side = 1 ∨ side = 2 ∨ side = 3 := by omega
    rcases hs4 with rfl | rfl | rfl | rfl <;> rfl
  have e2 : (if Int32.ofNat side < 2 then I 102 57 else I 102 56) = Int32.ofNat (seach D side) := by
    rw [hR.1.1, hR.1.2.1, (nWH hD).1, (nWH hD).2]
    have hs4 : side = 0 ∨ side = 1 ∨ side = 2 ∨ side = 3 := by omega
    rcases hs4 with rfl | rfl | rfl | rfl <;> rfl
  simp only [x11_wavesTo, QB, e1, e2, k1]
end MV
