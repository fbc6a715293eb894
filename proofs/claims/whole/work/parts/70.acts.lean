/-! CALLS, 29: acts in earnest -/
section SKS
variable {D : TD} {C : TC} {P Q : PR} {b a k : Nat}
theorem SK.refl : SK P P := fun _ _ _ => rfl
theorem SK.up {i : Nat} {v : Int32} (h : SK P Q) (hi : i < 123) : SK P (upd Q i v) := fun k a b => by rw [upd_ne (by omega)]; exact h k a b
theorem SK.psh {x y sx sy : Int32} (hA : nA D ≤ 10) : ∀ (n : Nat) (Q : PR), SK P Q → SK P (spsh D x y sx sy n Q)
  | 0, Q, h => h
  | n + 1, Q, h => by
    simp only [spsh]
    cases hs : sat Q (x + Int32.ofNat n * sx) (y + Int32.ofNat n * sy) (nA D) with
    | none => exact SK.psh hA n Q h
    | some p =>
      have := (sat_some hs).1
      exact SK.psh hA n _ ((h.up (by omega)).up (by omega))
theorem SK.push (hA : nA D ≤ 10) (h : SK P Q) : SK P (spush D Q b a) := by
  simp only [spush]
  split
  · exact h
  · split
    · exact SK.psh hA _ _ h
    · exact h
theorem SK.miss (hA : nA D ≤ 10) (hB : nB D ≤ 4) (hb : b < nB D) (ha : a < nA D) (h : SK P Q) : SK P (smiss D Q b a k) := by
  have h1 : SK P (smi1 Q b a k) := (h.up (by omega)).up (by omega)
  simp only [smiss]
  split
  · split
    · exact SK.push hA (h1.up (by omega))
    · exact (h1.up (by omega)).up (by omega)
  · split
    · exact SK.push hA h1
    · exact h1
theorem SK.get (hA : nA D ≤ 10) (hB : nB D ≤ 4) (hb : b < nB D) (ha : a < nA D) (h : SK P Q) : SK P (sget Q b a k) := ((h.up (by omega)).up (by omega)).up (by omega)
theorem SK.trye (hA : nA D ≤ 10) (hB : nB D ≤ 4) (hb : b < nB D) (ha : a < nA D) (hk : k < 5) (h : SK P Q) : SK P (stry D C Q b a k).2 := by
  have h0 : SK P (stry0 D C Q b a k) := ((((h.up (by omega)).up (by omega)).up (by omega)).up (by omega)).up (by omega)
  simp only [stry]
  split
  · exact SK.get hA hB hb ha h0
  · exact SK.miss hA hB hb ha h0
theorem SK.brea (hB : nB D ≤ 4) (hb : b < nB D) (h : SK P Q) : SK P (sbrea D Q b) := (h.up (by omega)).up (by omega)
theorem SK.turn {r : Nat} (hA : nA D ≤ 10) (hB : nB D ≤ 4) (hb : b < nB D) (h : SK P Q) : SK P (sturn D C Q b r).2 := by
  simp only [sturn]
  cases hs : schs D C Q b r (5 * nA D) with
  | none => exact h.brea hB hb
  | some p =>
    obtain ⟨u, v⟩ := p
    have := schs_lt hs
    exact SK.trye hA hB hb (by omega) (by omega) h
theorem SK.all (hA : nA D ≤ 10) (hB : nB D ≤ 4) (h : SK P Q) : ∀ n, n ≤ nB D → SK P (sall D C n Q).2
  | 0, _ => h
  | n + 1, hn => SK.turn hA hB (by omega) (SK.all hA hB h n (by omega))
theorem SK.wv1 {side : Nat} {rank : Int32} (hA : nA D ≤ 10) : ∀ (n : Nat) (s : Int32 × PR), n ≤ nA D → SK P s.2 → SK P (swv1 D side rank n s).2
  | 0, s, _, h => h
  | n + 1, s, hn, h => by
    have hP := SK.wv1 (side := side) (rank := rank) hA n s (by omega) h
    simp only [swv1]
    split
    · exact (hP.up (by omega)).up (by omega)
    · exact hP
theorem SK.wv {side : Nat} (hA : nA D ≤ 10) : ∀ (r : Nat) (s : Int32 × PR), SK P s.2 → SK P (swv D side r s).2
  | 0, _, h => h
  | r + 1, s, h => SK.wv1 hA _ _ (Nat.le_refl _) (SK.wv hA r s h)
end SKS
section IN
variable {t : Nat} {I I' : MI} {L : ML} {R : MR} {S : MS} {D : TD} {C : TC} {P P' : PR} {Z : AX}
theorem Rd.fr3 (f1 : ∀ c, ((107 ≤ c ∧ c ≤ 109) ∨ (125 ≤ c ∧ c ≤ 136)) → I' c = I c) (f2 : ∀ j, 56 ≤ j → j ≤ 65 → I' 102 j = I 102 j) (hR : Rd I D C) : Rd I' D C := by
  obtain ⟨⟨a1, a2, a3, a4, a5, a6⟩, h2, h3, h4, h5⟩ := hR
  refine ⟨⟨?_, ?_, ?_, ?_, ?_, ?_⟩, fun a ha => ?_, fun b hb => ?_, fun s hs => ?_, fun r hr => ?_⟩
  · rw [f2 56 (by omega) (by omega)]; exact a1
  · rw [f2 57 (by omega) (by omega)]; exact a2
  · rw [f2 65 (by omega) (by omega)]; exact a3
  · rw [f2 60 (by omega) (by omega)]; exact a4
  · rw [f2 61 (by omega) (by omega)]; exact a5
  · rw [f2 59 (by omega) (by omega)]; exact a6
  · simp (disch := omega) only [f1]; exact h2 a ha
  · simp (disch := omega) only [f1]; exact h3 b hb
  · rw [f2 58 (by omega) (by omega)]
    rcases h4 s hs with ⟨g1, g2⟩ | g
    · exact Or.inl ⟨g1, g2.fr (by simp (disch := omega) only [f1]) (by simp (disch := omega) only [f1]) (by simp (disch := omega) only [f1])⟩
    · exact Or.inr g
  · exact (h5 r hr).fr (by simp (disch := omega) only [f1]) (by simp (disch := omega) only [f1]) (by simp (disch := omega) only [f1])
/-- where the ring goes on -/
theorem c_e2 {I1 : MI} {od B s : Nat} (r1 : od < 41) (r2 : I1 59 1 = Int32.ofNat od) (r3 : I1 59 2 = Int32.ofNat B) (hs : (s = 0 ∧ B < 40) ∨ (s = 1 ∧ B = 40)) : ∃ e2, (if I1 59 2 < 40 then wI I1 59 2 (I1 59 2 + 1) else wI I1 59 1 (rm (I1 59 1 + 1) 41)) = e2 ∧ e2 59 1 = Int32.ofNat ((od + s) % 41) ∧ e2 59 2 = Int32.ofNat (B + 1 - s) ∧ ∀ c, c ≠ 59 → e2 c = I1 c := by
  have e40 : (Int32.ofNat B < 40) = (B < 40) := by rw [show (40 : Int32) = Int32.ofNat 40 from rfl, q_lt (by omega) (by omega)]
  rcases hs with ⟨rfl, hb⟩ | ⟨rfl, rfl⟩
  · refine ⟨wI I1 59 2 (I1 59 2 + 1), ?_, ?_, ?_, fun c hc => wI_c hc⟩
    · rw [if_pos (by rw [r3, e40]; exact hb)]
    · rw [wI_ne (by omega), r2]; congr 1; omega
    · rw [wI_at, r3, q_addn]; rfl
  · refine ⟨wI I1 59 1 (rm (I1 59 1 + 1) 41), ?_, ?_, ?_, fun c hc => wI_c hc⟩
    · rw [if_neg (by rw [r3, e40]; omega)]
    · rw [wI_at, r2, q_addn]; exact (fm41 (od + 1) (by omega)).2
    · rw [wI_ne (by omega), r3]
theorem INV.keep (h : INV t I L R S D C P Z) (hP : OkP D P') (hk : SK P P') {I1 : MI} (c1 : Rl D true I1 47 P') (c2 : Fc t 47 I I1) : ∃ I2 L' R' S', x2_keep 47 I1 L R S = some (I2, L', R', S') ∧ Gr R S R' S' ∧ okr R' S' ∧ Rl D true I2 47 P' ∧ Rd I2 D C ∧ Nw I2 P ∧ ∀ J0, Fm I2 J0 → ∃ J1, x11_act J0 = some J1 ∧ Rd J1 D C ∧ Nw J1 P ∧ (Wr J0 P → Wr J1 P) ∧ ∀ J2, Wr J2 P' → Fm J1 J2 → ∃ J3 Z', x11_keep J2 = some J3 ∧ INV t J3 L' R' S' D C P' Z' := by
  obtain ⟨hS, hc, hm, ha, hw⟩ := id h
  have ht := hS.2.2.2.1
  have hD := ha.1
  have hl := hS.l158
  obtain ⟨h40a, h40b, h40c⟩ := ha.2.2.2.2.2.2.2.1
  obtain ⟨od, r1, r2, r3, r4, r5⟩ := hc.2.2.2.2.2.2.2.1
  obtain ⟨b71, b72, b139, -⟩ := hm.2.2.2.2.2.2.2.1
  have ht17 : t + 17 = 19 ∨ t + 17 = 45 := by rcases ht with h | h <;> omega
  have d2 : ∀ c, c ≠ 27 → c ≠ 46 → c ≠ 19 → c ≠ 45 → (c < 47 ∨ 58 < c) → I1 c = I c := fun c g1 g2 g3 g4 g5 => c2 c g1 g2 (by omega) (by omega)
  have e59 : I1 59 = I 59 := d2 59 (by omega) (by omega) (by omega) (by omega) (by omega)
  obtain ⟨s, hs⟩ : ∃ s, (s = 0 ∧ zB Z < 40) ∨ (s = 1 ∧ zB Z = 40) := by
    by_cases hb : zB Z < 40
    · exact ⟨0, Or.inl ⟨rfl, hb⟩⟩
    · exact ⟨1, Or.inr ⟨rfl, by omega⟩⟩
  obtain ⟨e2, q1, q2, q3, q4⟩ := c_e2 (I1 := I1) (od := od) (B := zB Z) r1 (by rw [e59]; exact r2) (by rw [e59]; exact r3) hs
  have hJ47 : Rl D true (wI e2 59 3 0) 47 P' := c1.fr (fun c a b => by rw [wI_c (by omega), q4 c (by omega)])
  have hidx : ∀ i, ((od + s) % 41 + i) % 41 = (od + (i + s)) % 41 := fun i => by omega
  obtain ⟨q, Ia, L', R', S', Ib, k1, k2, k3, k4, k5, k6, k7, k8, k9, k10⟩ := c_keepC (L := L) (J := wI e2 59 3 0) (od := (od + s) % 41) (B := zB Z + 1 - s) (H := fun i => zH Z (i + s)) hS hD (by rw [wI_ne (by omega)]; exact q2) (by rw [wI_ne (by omega)]; exact q3) (Nat.mod_lt _ (by omega)) (by omega) hJ47 (fun i hi => by
    obtain ⟨q, x1, x2⟩ := r5 (i + s) (by omega)
    have := hS.q90 (Or.inl ⟨rfl, Nat.mod_lt _ (by omega)⟩) x1
    exact ⟨q, by rw [hidx]; exact x1, x2.fr (fun c a b => by rw [wI_c (by omega), q4 c (by omega), d2 c (by omega) (by omega) (by omega) (by omega) (by omega)])⟩)
  have hdq : dyn 60 (((od + s) % 41 + (zB Z + 1 - s)) % 41) := Or.inl ⟨rfl, Nat.mod_lt _ (by omega)⟩
  have h90 := k4.q90 hdq k7
  have g1 : ∀ c, c < S.length → (c < q ∨ q + 11 < c) → c ≠ 59 → Ib c = I1 c := fun c a1 a2 a3 => by rw [k10 c a2, (k6 c a1).1, wI_c a3, q4 c a3]
  have g2 : ∀ c, (102 ≤ c ∧ c < 158) → Ib c = I c := fun c hc => by rw [g1 c (by omega) (by omega) (by omega), d2 c (by omega) (by omega) (by omega) (by omega) (by omega)]
  have hIb47 : Rl D true Ib 47 P' := c1.fr (fun c a b => g1 c (by omega) (by omega) (by omega))
  have hRd : Rd Ib D C := Rd.fr2 (fun c hc => g2 c (by omega)) hm.1
  have hNw : Nw Ib P := ⟨fun k hk => by rw [g2 138 (by omega)]; exact hm.2.1.1 k hk, fun b hb => by rw [g2 130 (by omega)]; exact hm.2.1.2.1 b hb, fun b hb => by rw [g2 131 (by omega)]; exact hm.2.1.2.2 b hb⟩
  refine ⟨Ib, L', R', S', ?_, k5, k4.1, hIb47, hRd, hNw, fun J0 f0 => ?_⟩
  · simp only [x2_keep, ck_pos hS.1, QB, q1, k1, ck_pos k3, ck_pos (st_47 k4.1), ck_pos k4.1, ck_pos k3.2.1, k2]
  have hN0 : Nw J0 P := f0.nw hNw
  have e71 : J0 102 71 = Int32.ofNat (zB Z) := by rw [f0.2 71 (by omega) (by omega), g2 102 (by omega)]; exact b71
  obtain ⟨J1, d, a1, a2, a3, a4, a5, a6, a7, a8⟩ := m_act (I := J0) (B := zB Z) (by omega) e71
  refine ⟨J1, a1, Rd.fr3 (fun c hc => a6 c (by omega) (by omega)) (fun j x1 x2 => a5 j (by omega) (by omega)) (f0.rd hRd), ⟨fun k hk => by rw [a6 138 (by omega) (by omega)]; exact hN0.1 k hk, fun b hb => by rw [a6 130 (by omega) (by omega)]; exact hN0.2.1 b hb, fun b hb => by rw [a6 131 (by omega) (by omega)]; exact hN0.2.2 b hb⟩, fun hW => ⟨fun k hk => by rw [a6 137 (by omega) (by omega)]; exact hW.1 k hk, fun b hb => by rw [a6 130 (by omega) (by omega)]; exact hW.2.1 b hb, fun b hb => by rw [a6 131 (by omega) (by omega)]; exact hW.2.2 b hb⟩, fun J2 hW2 f2 => ?_⟩
  obtain ⟨J3, m1, m2, m3⟩ := m_keep J2
  have g3 : ∀ c, c ≠ 137 → c ≠ 138 → c ≠ 139 → c ≠ 102 → c ≠ 111 → J3 c = Ib c := fun c x1 x2 x3 x4 x5 => by rw [m3 c x2, f2.1 c x1 x5 x4, a6 c x4 x3, f0.1 c x1 x5 x4]
  have g4 : ∀ j, j ≠ 68 → j ≠ 69 → j ≠ 71 → j ≠ 72 → J3 102 j = I 102 j := fun j x1 x2 x3 x4 => by rw [m3 102 (by omega), f2.2 j x1 x2, a5 j x3 x4, f0.2 j x1 x2, g2 102 (by omega)]
  have h1 := h.q (I' := fun c => if c = 27 ∨ c = 46 ∨ c = 19 ∨ c = 45 then I1 c else I c) (I'' := fun c => if c = 111 then J3 111 else if c = 27 ∨ c = 46 ∨ c = 19 ∨ c = 45 then I1 c else I c) ⟨fun c hc => ?_, fun c i q' d' x1 x2 x3 x4 x5 => ?_⟩ ⟨fun c hc => ?_, fun j x1 x2 x3 => ?_⟩
  · have h2 := h1.grow (I' := fun c => if c < S.length then (if c = 111 then J3 111 else if c = 27 ∨ c = 46 ∨ c = 19 ∨ c = 45 then I1 c else I c) else J3 c) (L' := L') k4 k5 (fun c hc => ⟨if_pos hc, (k6 c hc).2⟩)
    refine ⟨J3, zhi Z (zB Z + 1 - s) 0 (fun i => if i < zB Z + 1 - s then zH Z (i + s) else P'), m1, h2.hist hP hk (by omega) (fun i hi => ?_) (fun k => by simp) (fun c hc => ?_) (fun b q' d' hb hq' x1 x2 => ?_) (fun j x1 x2 x3 x4 _ => ?_) (hIb47.fr (fun c x1 x2 => g3 c (by omega) (by omega) (by omega) (by omega) (by omega))) ⟨(od + s) % 41, Nat.mod_lt _ (by omega), ?_, ?_, ?_, fun i hi => ?_⟩ ⟨fun k hk => by rw [m2 k hk]; exact hW2.1 k hk, fun b hb => by rw [m3 130 (by omega)]; exact hW2.2.1 b hb, fun b hb => by rw [m3 131 (by omega)]; exact hW2.2.2 b hb⟩ ⟨?_, ?_, fun i k hi hk => ?_, fun i k x1 x2 _ => by omega⟩⟩
    · by_cases hi2 : i < zB Z + 1 - s
      · rw [if_pos hi2]; exact h40b (i + s) (by omega)
      · rw [if_neg hi2]; exact ⟨hP, hk⟩
    · show J3 c = if c < S.length then _ else _
      rw [if_pos (by omega)]
      by_cases e : c = 111
      · rw [if_pos e, e]
      · rw [if_neg e, g3 c (by omega) (by omega) (by omega) (by omega) e, g1 c (by omega) (by omega) (by omega)]
        by_cases e' : c = 27 ∨ c = 46 ∨ c = 19 ∨ c = 45
        · rw [if_pos e']
        · rw [if_neg e', d2 c (by omega) (by omega) (by omega) (by omega) (by omega)]
    · show J3 d' = if d' < S.length then _ else _
      by_cases e : d' < S.length
      · have h61 : dyn 61 b := Or.inr (Or.inl ⟨rfl, hb⟩)
        have hap := k4.apart h61 hdq hq' k7 (by omega)
        have := k4.q90 h61 hq'
        rw [if_pos e, if_neg (by omega), if_neg (by omega), g3 d' (by omega) (by omega) (by omega) (by omega) (by omega), g1 d' e (by omega) (by omega), d2 d' (by omega) (by omega) (by omega) (by omega) (by omega)]
      · rw [if_neg e]
    · show J3 102 j = (if 102 < S.length then (_ : Nat → Int32) else _) j
      rw [if_pos (by omega), if_neg (by omega), if_neg (by omega)]
      exact g4 j x1 x2 x3 x4
    · rw [g3 59 (by omega) (by omega) (by omega) (by omega) (by omega), k10 59 (by omega), (k6 59 (by omega)).1, wI_ne (by omega)]; exact q2
    · rw [g3 59 (by omega) (by omega) (by omega) (by omega) (by omega), k10 59 (by omega), (k6 59 (by omega)).1, wI_ne (by omega)]; exact q3
    · rw [g3 59 (by omega) (by omega) (by omega) (by omega) (by omega), k10 59 (by omega), (k6 59 (by omega)).1, wI_at]; rfl
    · show ∃ q, R' 60 (((od + s) % 41 + i) % 41) = some q ∧ Rl D true J3 q (if i < zB Z + 1 - s then zH Z (i + s) else P')
      have hi' : i ≤ zB Z + 1 - s + 0 := hi
      by_cases hi2 : i < zB Z + 1 - s
      · obtain ⟨q', x1, x2⟩ := k8 i hi2
        have := k4.q90 (Or.inl ⟨rfl, Nat.mod_lt _ (by omega)⟩) x1
        rw [if_pos hi2]
        exact ⟨q', x1, x2.fr (fun c y1 y2 => g3 c (by omega) (by omega) (by omega) (by omega) (by omega))⟩
      · obtain rfl : i = zB Z + 1 - s := by omega
        rw [if_neg hi2]
        exact ⟨q, k7, k9.fr (fun c y1 y2 => g3 c (by omega) (by omega) (by omega) (by omega) (by omega))⟩
    · show J3 102 71 = Int32.ofNat (zB Z + 1 - s)
      rw [m3 102 (by omega), f2.2 71 (by omega) (by omega), a3]; congr 1; omega
    · show J3 102 72 = Int32.ofNat 0
      rw [m3 102 (by omega), f2.2 72 (by omega) (by omega), a4]; rfl
    · have hi' : i < zB Z + 1 - s := hi
      show J3 139 (128 * i + k) = (if i < zB Z + 1 - s then zH Z (i + s) else P') k
      rw [if_pos hi', m3 139 (by omega), f2.1 139 (by omega) (by omega) (by omega)]
      by_cases e : i = d
      · rw [e, a7 k hk, hN0.1 k hk, show d + s = zB Z by omega]
        exact (h40c k).symm
      · rw [a8 i k (by omega) hk, f0.1 139 (by omega) (by omega) (by omega), g2 139 (by omega)]
        rcases hs with ⟨rfl, hb⟩ | ⟨rfl, hb⟩
        · rw [if_pos hb]; exact b139 i k (by omega) hk
        · rw [if_neg (by omega)]; exact b139 (i + 1) k (by omega) hk
  · show (if c = 27 ∨ c = 46 ∨ c = 19 ∨ c = 45 then I1 c else I c) = I c
    rw [if_neg (by rcases ht with h | h <;> omega)]
  · have := hS.q90 x2 x3
    show (if d' = 27 ∨ d' = 46 ∨ d' = 19 ∨ d' = 45 then I1 d' else I d') = I d'
    rw [if_neg (by omega)]
  · show (if c = 111 then J3 111 else _) = _
    rw [if_neg (by omega)]
  · show (if 102 = 111 then J3 111 else _) j = _
    rw [if_neg (by omega)]
end IN
