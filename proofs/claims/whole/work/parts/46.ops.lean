/-! CALLS, 5: orders, seats -/
section OP
variable {t : Nat} {I : MI} {L : ML} {R : MR} {S : MS} {D : TD} {C : TC} {P : PR} {Z : AX}
theorem c_layAL {a ln cnt : Nat} (ha : a ≠ 0 ∧ a ≠ 89) (hc : cnt ≤ ln) (hl : ln ≤ 8) : ∀ (j w n : Nat) (I : MI), w + j = cnt → j < n → Ly 0 89 14 I ((List.range w).map (fun i => I a i)) → ∃ I', x10_layAll_L2 a ln (Int32.ofNat cnt) n (Int32.ofNat w) I = some I' ∧ Ly 0 89 14 I' ((List.range cnt).map (fun i => I a i)) ∧ Fl I I' := by
  intro j
  induction j with
  | zero =>
    intro w n I hw hn hy
    obtain ⟨n, rfl⟩ : ∃ n', n = n' + 1 := ⟨n - 1, by omega⟩
    obtain rfl : w = cnt := by omega
    refine ⟨I, ?_, hy, Fl.refl⟩
    simp (disch := omega) only [x10_layAll_L2, x10_layAll_L2s, QN]
    simp
  | succ j ih =>
    intro w n I hw hn hy
    obtain ⟨n, rfl⟩ : ∃ n', n = n' + 1 := ⟨n - 1, by omega⟩
    obtain ⟨I1, c1, c2, c3, c4⟩ := c_lay (I a w) (by simp; omega) hy
    have f1 : Fl I I1 := ⟨c3, c4⟩
    have ea : I1 a = I a := f1.1 a ha.1 ha.2
    obtain ⟨I2, r1, r2, r3⟩ := ih (w + 1) n I1 (by omega) (by omega) (by rw [ea, List.range_succ, List.map_append]; exact c2)
    rw [ea] at r2
    refine ⟨I2, ?_, r2, f1.trans r3⟩
    simp (disch := omega) only [x10_layAll_L2, x10_layAll_L2s, QN, QB, if_pos (show w < cnt by omega), if_pos (show w < ln by omega), c1]
    exact r1
theorem c_layAll {a ln cnt : Nat} (ha : a ≠ 0 ∧ a ≠ 89) (hc : cnt ≤ ln) (hl : ln ≤ 8) (hy : Ly 0 89 14 I []) : ∃ I', x10_layAll a ln (Int32.ofNat cnt) I = some I' ∧ Ly 0 89 14 I' ((List.range cnt).map (fun i => I a i)) ∧ Fl I I' := by
  obtain ⟨I', h1, h2, h3⟩ := c_layAL ha hc hl cnt 0 FU I (by omega) (by unfold FU; omega) hy
  refine ⟨I', ?_, h2, h3⟩
  rw [show Int32.ofNat 0 = 0 from rfl] at h1
  simp only [x10_layAll, QB, h1]
theorem obest_0 (hD : OkD D C) {N : Nat} (hN : N ≤ 10) (h : (obest D C P N).2 = []) : nB D = 0 := by
  obtain ⟨l, hlm, hl⟩ := obest_ne (P := P) hD hN
  rw [hl] at h
  have := cL_len (nB D) hD.b l hlm
  rw [show l = [] from h] at this
  exact this.symm
theorem c_trn (p : Int32) : x10_isTrialTurns p I = some (b2i (isn p 11 && decide (p ≠ 0))) := by
  simp only [x10_isTrialTurns]
  by_cases h1 : isn p 11 = true
  · obtain ⟨k, hk, rfl⟩ := isn_t (by omega) h1
    simp (disch := omega) only [QN, h1, Bool.true_and]
    by_cases h0 : k = 0
    · subst h0; simp [b2i]
    · rw [if_neg (by omega), if_neg (by omega)]
      have e0 : ¬ Int32.ofNat k = 0 := by rw [show (0 : Int32) = Int32.ofNat 0 from rfl, q_eq (by omega) (by omega)]; exact h0
      simp [e0, b2i]
  · have h1' : isn p 11 = false := by simpa using h1
    simp only [h1', Bool.false_and, b2i]
    simp only [isn, Bool.and_eq_false_iff, decide_eq_false_iff_not, Classical.not_not] at h1'
    rcases h1' with h | h
    · rw [if_pos (by rw [Int32.lt_iff_toInt_lt] at h ⊢; have : (0 : Int32).toInt = 0 := rfl; have : (1 : Int32).toInt = 1 := rfl; omega)]; rfl
    · rw [show Int32.ofNat 11 = 11 from rfl, Int32.lt_iff_toInt_lt] at h
      have e11 : (11 : Int32).toInt = 11 := rfl
      have e1 : (1 : Int32).toInt = 1 := rfl
      have e10 : (10 : Int32).toInt = 10 := rfl
      rw [if_neg (by rw [Int32.lt_iff_toInt_lt]; omega), if_pos (by rw [Int32.lt_iff_toInt_lt]; omega)]; rfl
theorem m_trn (p : Int32) : x11_isIn p 1 10 I = some (b2i (isn p 11 && decide (p ≠ 0))) := by
  have h := c_trn (I := I) p
  simp only [x10_isTrialTurns] at h
  simp only [x11_isIn]
  exact h
theorem trn_t {p : Int32} (h : (isn p 11 && decide (p ≠ 0)) = true) : ∃ k, 1 ≤ k ∧ k ≤ 10 ∧ p = Int32.ofNat k := by
  simp only [Bool.and_eq_true, decide_eq_true_eq] at h
  obtain ⟨k, hk, rfl⟩ := isn_t (by omega) h.1
  refine ⟨k, ?_, by omega, rfl⟩
  by_cases h0 : k = 0
  · subst h0; exact absurd rfl h.2
  · omega
theorem op_order (h : INV t I L R S D C P Z) (p : Int32) : ∃ r I1 I2 Z', x10_order t p I = some (r, I1) ∧ x11_order p I1 = some (r, I2) ∧ INV t I2 L R S D C P Z' := by
  have hS := h.1
  have ht := hS.2.2.2.1
  have hD := h.2.2.2.1.1
  have hB := hD.b
  have hP := h.2.2.2.1.2.1
  have f0 : Fl I (wI I 0 14 0) := ⟨fun c h1 _ => wI_c h1, fun j hj => wI_ne (Or.inr hj)⟩
  have hT0 := f0.td ht h.2.1.1
  have hR0 : Rl D true (wI I 0 14 0) 47 P := h.2.1.2.1.fr (fun c h1 h2 => wI_c (by omega))
  have hy0 : Ly 0 89 14 (wI I 0 14 0) [] := ⟨by rw [wI_at]; rfl, fun i h => by simp at h⟩
  by_cases hp : (isn p 11 && decide (p ≠ 0)) = true
  · obtain ⟨N, h1N, hN, rfl⟩ := trn_t hp
    obtain ⟨I1, c1, c2, c3⟩ := c_order hD ht hN hT0 hR0 hP
    have hy1 : Ly 0 89 14 I1 [] := ⟨by rw [c3 0 (by omega) (by omega) (by rcases ht with h | h <;> omega) (by omega)]; exact hy0.1, fun i h => by simp at h⟩
    obtain ⟨I2, c4, c5, c6⟩ := c_layAll (a := 82) (ln := 4) (cnt := nB D) (by omega) hB (by omega) hy1
    have hl : (List.range (nB D)).map (fun i => I1 82 i) = (List.range (nB D)).map (fun i => Int32.ofNat ((obest D C P N).2.getD i 0)) := by
      refine List.map_congr_left (fun i hi => ?_)
      have hi := List.mem_range.mp hi
      by_cases h0 : (obest D C P N).2 = []
      · have := obest_0 hD hN h0; omega
      · exact c2 h0 i hi
    rw [hl] at c5
    have hk := ((f0.kc' hS).trans (c3.kc hS).k').trans (c6.kc' hS)
    have hm := h.2.2.1.kc (I' := I2) (fun c h1 h2 => hk.1 c (by omega))
    obtain ⟨I3, m1, m2, m3, m4⟩ := m_order hD hN h1N hm.1 hm.2.1 hP
    refine ⟨(obest D C P N).1, I2, I3, _, ?_, m1, h.ly (l := (List.range (nB D)).map (fun i => Int32.ofNat ((obest D C P N).2.getD i 0))) (by simp; omega) hk c5 m4.kr' ⟨by rw [m2]; simp, fun i hi => by simp at hi ⊢; exact m3 i hi⟩⟩
    simp only [x10_order, QB, c_trn, b2i_0, hp, if_true, c1, (c3.td ht hT0).1.2.2.2.2.2.1, hD.2.1.2.1.1, c4]
  · have hp' : (isn p 11 && decide (p ≠ 0)) = false := by simpa using hp
    have hk := f0.kc' hS
    refine ⟨-1, wI I 0 14 0, wI (wI I 0 14 0) 102 85 0, _, ?_, ?_, h.ly (l := []) (by simp) hk hy0 (Fo.kr' ⟨fun c h1 h2 h3 h4 h5 => wI_c h3, fun j h1 h2 h3 => wI_ne (Or.inr h3)⟩) ⟨by rw [wI_at]; rfl, fun i h => by simp at h⟩⟩
    · simp only [x10_order, QB, c_trn, b2i_0, hp', Bool.false_eq_true, if_false]
    · simp only [x11_order, QB, m_trn, b2i_0, hp', Bool.false_eq_true, if_false]
/-! seats -/
def Pk (P : PR) (b x y : Nat) : PR := upd (upd P (123 + b) (Int32.ofNat x)) (127 + b) (Int32.ofNat y)
def sval' (D : TD) (C : TC) (P : PR) (b N c : Nat) : Int32 := (sgts D C (Pk P b (c % nW D) (c / nW D)) b N).1
def srm (D : TD) (c : Nat) : Bool := srim D (Int32.ofNat (c % nW D)) (Int32.ofNat (c / nW D))
def ssea (D : TD) (C : TC) (P : PR) (b N : Nat) : Nat → Int32 × Nat
  | 0 => (-1, 0)
  | c + 1 => if srm D c = true ∧ (ssea D C P b N c).1 < sval' D C P b N c then (sval' D C P b N c, c) else ssea D C P b N c
theorem OkP.kn (hP : OkP D P) (hA : nA D ≤ 10) (hB : nB D ≤ 4) {b x y : Nat} (hb : b < nB D) (hx : x < nW D) (hy : y < nH D) : OkP D (Pk P b x y) := by
  have e : ∀ k, k < 123 → Pk P b x y k = P k := fun k hk => by rw [Pk, upd_ne (by omega), upd_ne (by omega)]
  refine ⟨fun a ha => ?_, fun a c ha hc => ?_, fun b' hb' => ?_⟩
  · rw [e _ (by omega), e _ (by omega), e _ (by omega), e _ (by omega)]; exact hP.1 a ha
  · rw [e _ (by omega), e _ (by omega), e _ (by omega), e _ (by omega), e _ (by omega), e _ (by omega)]; exact hP.2.1 a c ha hc
  · by_cases eb : b' = b
    · subst eb
      refine ⟨⟨x, hx, ?_⟩, ⟨y, hy, ?_⟩⟩
      · rw [Pk, upd_ne (by omega), upd_at]
      · rw [Pk, upd_at]
    · rw [Pk, upd_ne (by omega), upd_ne (by omega), upd_ne (by omega), upd_ne (by omega)]; exact hP.2.2 b' hb'
theorem sgts_n {b : Nat} : ∀ n, ∃ c, c ≤ n ∧ (sgts D C P b n).1 = Int32.ofNat c
  | 0 => ⟨0, by omega, rfl⟩
  | n + 1 => by
    obtain ⟨c1, h1, h2⟩ := sgts_n (b := b) n
    obtain ⟨c2, h3, h4⟩ := b2i_n (sturn D C (sgts D C P b n).2 b (sby D b)).1
    refine ⟨c1 + c2, by omega, ?_⟩
    simp only [sgts]
    rw [h2, h4, q_add]
theorem sval_pos {b N c : Nat} (hN : N ≤ 10) : (-1 : Int32) < sval' D C P b N c := by
  obtain ⟨k, h1, h2⟩ := sgts_n (D := D) (C := C) (P := Pk P b (c % nW D) (c / nW D)) (b := b) N
  rw [sval', h2, Int32.lt_iff_toInt_lt, Int32.toInt_ofNat_of_lt (by omega), show (-1 : Int32).toInt = -1 from rfl]
  omega
theorem c_gets (hD : OkD D C) (ht : isT t) {b N x y : Nat} (hN : N ≤ 10) (hT : Td I t D C) (hR : Rl D true I 47 P) (hP : OkP D P) (hb : b < nB D) (hx : x < nW D) (hy : y < nH D) : ∃ I', x9_getsFrom t 47 (Int32.ofNat b) (Int32.ofNat x) (Int32.ofNat y) (Int32.ofNat N) I = some ((sgts D C (Pk P b x y) b N).1, I') ∧ Fc t 67 I I' := by
  have hA := hD.a
  have hB := hD.b
  obtain ⟨I1, h1, h2, h3⟩ := c_copyPlay (q0 := 67) hD hR (by omega)
  have f1 : Fc t 67 I I1 := fun c _ _ _ h => h3 c (by omega)
  have f2 : Fc t 67 I (wI (wI I1 73 b (Int32.ofNat x)) 74 b (Int32.ofNat y)) := (f1.w (by omega)).w (by omega)
  have hR2 : Rl D false (wI (wI I1 73 b (Int32.ofNat x)) 74 b (Int32.ofNat y)) 67 (Pk P b x y) := (h2.w6 hA hB (a := b) (Int32.ofNat x) (by omega)).w7 hA hB (Int32.ofNat y) (by omega)
  obtain ⟨I2, k1, k2⟩ := c_getsL (P := Pk P b x y) hD ht hb hN N 0 FU _ (by omega) (by unfold FU; omega) (f2.t.td ht hT) hR2 (hP.kn hA hB hb hx hy)
  rw [show Int32.ofNat 0 = 0 from rfl, show (sgts D C (Pk P b x y) b 0).1 = 0 from rfl] at k1
  refine ⟨I2, ?_, ?_⟩
  · simp (disch := omega) only [x9_getsFrom, h1, QB, QN, k1]
  · exact f2.trans k2
theorem ssea_lt {b N : Nat} (h0 : srm D 0 = true) (hN : N ≤ 10) : ∀ c, 0 < c → (ssea D C P b N c).2 < c
  | 0, h => by omega
  | c + 1, _ => by
    simp only [ssea]
    split
    · show c < c + 1; omega
    · by_cases hc : 0 < c
      · have := ssea_lt (b := b) h0 hN c hc; omega
      · obtain rfl : c = 0 := by omega
        show 0 < 0 + 1; omega
/-- what the class keeps of the best seat of the cells so far -/
def Se (D : TD) (C : TC) (P : PR) (b N c : Nat) (I : MI) : Prop := I 66 8 = (ssea D C P b N c).1 ∧ (0 < c → I 66 6 = Int32.ofNat ((ssea D C P b N c).2 % nW D) ∧ I 66 7 = Int32.ofNat ((ssea D C P b N c).2 / nW D))
theorem srm_0 (hD : OkD D C) : srm D 0 = true := by simp [srm, srim]
theorem c_seatX {b N y : Nat} (hD : OkD D C) (ht : isT t) (hN : N ≤ 10) (hP : OkP D P) (hb : b < nB D) (hy : y < nH D) : ∀ (j x n : Nat) (I : MI), x + j = nW D → j < n → Td I t D C → Rl D true I 47 P → Se D C P b N (y * nW D + x) I → ∃ I', x9_findSeat_L26 t 47 (Int32.ofNat b) (Int32.ofNat N) (Int32.ofNat y) n (Int32.ofNat x) I = some I' ∧ Se D C P b N ((y + 1) * nW D) I' ∧ Ft t I I' := by
  have hw := hD.w
  have hh := hD.h
  intro j
  induction j with
  | zero =>
    intro x n I hx hn hT hR hs
    obtain ⟨n, rfl⟩ : ∃ n', n = n' + 1 := ⟨n - 1, by omega⟩
    obtain rfl : x = nW D := by omega
    refine ⟨I, ?_, by rw [Nat.add_mul, Nat.one_mul]; exact hs, Ft.refl⟩
    simp (disch := omega) only [x9_findSeat_L26, x9_findSeat_L26s, hT.1.1, (nWH hD).1, QN]
    simp
  | succ j ih =>
    intro x n I hx hn hT hR hs
    obtain ⟨n, rfl⟩ : ∃ n', n = n' + 1 := ⟨n - 1, by omega⟩
    have hxw : x < nW D := by omega
    have em : (y * nW D + x) % nW D = x := by rw [Nat.mul_comm, Nat.mul_add_mod]; exact Nat.mod_eq_of_lt hxw
    have ed : (y * nW D + x) / nW D = y := by rw [Nat.mul_comm, Nat.mul_add_div (by omega), Nat.div_eq_of_lt hxw]; omega
    have erm : srm D (y * nW D + x) = srim D (Int32.ofNat x) (Int32.ofNat y) := by simp only [srm, em, ed]
    have ev : sval' D C P b N (y * nW D + x) = (sgts D C (Pk P b x y) b N).1 := by simp only [sval', em, ed]
    have hst : ssea D C P b N (y * nW D + x + 1) = if srm D (y * nW D + x) = true ∧ (ssea D C P b N (y * nW D + x)).1 < sval' D C P b N (y * nW D + x) then (sval' D C P b N (y * nW D + x), y * nW D + x) else ssea D C P b N (y * nW D + x) := rfl
    simp (disch := omega) only [x9_findSeat_L26, x9_findSeat_L26s, hT.1.1, (nWH hD).1, QN, QB, if_pos hxw, c_rim hT, b2i_0]
    by_cases hr : srim D (Int32.ofNat x) (Int32.ofNat y) = true
    · obtain ⟨I1, c1, c2⟩ := c_gets hD ht hN hT hR hP hb hxw hy
      have h66 : I1 66 = I 66 := c2 66 (by omega) (by omega) (by rcases ht with h | h <;> omega) (by omega)
      simp only [hr, if_true, c1, QB, h66, hs.1]
      rw [← ev]
      by_cases hv : (ssea D C P b N (y * nW D + x)).1 < sval' D C P b N (y * nW D + x)
      · rw [if_pos ⟨by rw [erm]; exact hr, hv⟩] at hst
        have f3 : Ft t I (wI (wI (wI I1 66 8 (sval' D C P b N (y * nW D + x))) 66 6 (Int32.ofNat x)) 66 7 (Int32.ofNat y)) := ((c2.t.w (by omega)).w (by omega)).w (by omega)
        obtain ⟨I2, r1, r2, r3⟩ := ih (x + 1) n _ (by omega) (by omega) (f3.td ht hT) (f3.rl ht hR) (by
          rw [← Nat.add_assoc]
          refine ⟨?_, fun _ => ⟨?_, ?_⟩⟩
          · rw [hst, wI_ne (by omega), wI_ne (by omega), wI_at]
          · rw [hst, wI_ne (by omega), wI_at]; simp only [em]
          · rw [hst, wI_at]; simp only [ed])
        refine ⟨I2, ?_, r2, f3.trans r3⟩
        rw [if_pos hv]
        exact r1
      · rw [if_neg (fun h => hv h.2)] at hst
        have h0c : 0 < y * nW D + x := by
          by_cases h0 : 0 < y * nW D + x
          · exact h0
          · exfalso
            have e0 : y * nW D + x = 0 := by omega
            rw [e0] at hv
            exact hv (sval_pos hN)
        obtain ⟨I2, r1, r2, r3⟩ := ih (x + 1) n I1 (by omega) (by omega) (c2.t.td ht hT) (c2.t.rl ht hR) (by
          rw [← Nat.add_assoc]
          refine ⟨?_, fun _ => ?_⟩
          · rw [hst, h66]; exact hs.1
          · rw [hst, h66]; exact hs.2 h0c)
        refine ⟨I2, ?_, r2, c2.t.trans r3⟩
        rw [if_neg hv]
        exact r1
    · have h0c : 0 < y * nW D + x := by
        by_cases h0 : 0 < y * nW D + x
        · exact h0
        · exfalso
          have e0 : y * nW D + x = 0 := by omega
          rw [e0] at erm
          rw [← erm] at hr
          exact hr (srm_0 hD)
      have hst' : ssea D C P b N (y * nW D + x + 1) = ssea D C P b N (y * nW D + x) := by
        rw [hst, if_neg (fun h => hr (by rw [← erm]; exact h.1))]
      have hlt : ¬ ((ssea D C P b N (y * nW D + x)).1 < -1) := by
        have h1 : ∀ c, 0 < c → (-1 : Int32) < (ssea D C P b N c).1 := by
          intro c
          induction c with
          | zero => intro h; omega
          | succ c ihc =>
            intro _
            simp only [ssea]
            split
            · exact sval_pos hN
            · next hnn =>
              by_cases hc : 0 < c
              · exact ihc hc
              · obtain rfl : c = 0 := by omega
                exact absurd ⟨srm_0 hD, sval_pos hN⟩ hnn
        have := h1 _ h0c
        rw [Int32.lt_iff_toInt_lt] at this ⊢
        omega
      obtain ⟨I2, r1, r2, r3⟩ := ih (x + 1) n I (by omega) (by omega) hT hR (by
        rw [← Nat.add_assoc]
        refine ⟨?_, fun _ => ?_⟩
        · rw [hst']; exact hs.1
        · rw [hst']; exact hs.2 h0c)
      refine ⟨I2, ?_, r2, r3⟩
      simp only [hr, Bool.false_eq_true, if_false, QB, hs.1]
      rw [if_neg hlt]
      exact r1
theorem c_seatY {b N : Nat} (hD : OkD D C) (ht : isT t) (hN : N ≤ 10) (hP : OkP D P) (hb : b < nB D) : ∀ (j y n : Nat) (I : MI), y + j = nH D → j < n → Td I t D C → Rl D true I 47 P → Se D C P b N (y * nW D) I → ∃ I', x9_findSeat_L8 t 47 (Int32.ofNat b) (Int32.ofNat N) n (Int32.ofNat y) I = some I' ∧ Se D C P b N (nH D * nW D) I' ∧ Ft t I I' := by
  have hw := hD.w
  have hh := hD.h
  intro j
  induction j with
  | zero =>
    intro y n I hx hn hT hR hs
    obtain ⟨n, rfl⟩ : ∃ n', n = n' + 1 := ⟨n - 1, by omega⟩
    obtain rfl : y = nH D := by omega
    refine ⟨I, ?_, hs, Ft.refl⟩
    simp (disch := omega) only [x9_findSeat_L8, x9_findSeat_L8s, hT.1.2.1, (nWH hD).2, QN]
    simp
  | succ j ih =>
    intro y n I hx hn hT hR hs
    obtain ⟨n, rfl⟩ : ∃ n', n = n' + 1 := ⟨n - 1, by omega⟩
    obtain ⟨I1, c1, c2, c3⟩ := c_seatX hD ht hN hP hb (show y < nH D by omega) (nW D) 0 FU I (by omega) (by unfold FU; omega) hT hR hs
    obtain ⟨I2, r1, r2, r3⟩ := ih (y + 1) n I1 (by omega) (by omega) (c3.td ht hT) (c3.rl ht hR) c2
    refine ⟨I2, ?_, r2, c3.trans r3⟩
    rw [show Int32.ofNat 0 = 0 from rfl] at c1
    simp (disch := omega) only [x9_findSeat_L8, x9_findSeat_L8s, hT.1.2.1, (nWH hD).2, QN, QB, if_pos (show y < nH D by omega), c1]
    exact r1
theorem c_seat {b N : Nat} (hD : OkD D C) (ht : isT t) (hN : N ≤ 10) (hT : Td I t D C) (hR : Rl D true I 47 P) (hP : OkP D P) (hb : b < nB D) : ∃ I', x9_findSeat t 47 (Int32.ofNat b) (Int32.ofNat N) I = some I' ∧ Se D C P b N (nH D * nW D) I' ∧ Ft t I I' := by
  have hh := hD.h
  have f0 : Ft t I (wI I 66 8 (-1)) := Ft.refl.w (by omega)
  obtain ⟨I1, c1, c2, c3⟩ := c_seatY hD ht hN hP hb (nH D) 0 FU (wI I 66 8 (-1)) (by omega) (by unfold FU; omega) (f0.td ht hT) (f0.rl ht hR) ⟨by rw [wI_at]; simp [ssea], fun h => by simp at h⟩
  refine ⟨I1, ?_, c2, f0.trans c3⟩
  rw [show Int32.ofNat 0 = 0 from rfl] at c1
  simp only [x9_findSeat, QB, c1]
end OP
