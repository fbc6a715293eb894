/-! WAVES: the class goes apple by apple within a rank, the reference cell by cell: the same row comes out -/
def rkc (D : TD) (side : Nat) (x y : Int32) : Int32 := if side = 0 then x else if side = 1 then D 0 0 - 1 - x else if side = 2 then D 0 1 - 1 - y else y
theorem srk_rkc {D : TD} {P : PR} {side a : Nat} : srk D P side a = rkc D side (P (5 * a)) (P (5 * a + 1)) := rfl
theorem i_ne1 (v : Int32) : v - 1 ≠ v := by
  intro h
  have := congrArg (fun z => z - v) h
  rw [Int32.sub_self] at this
  have e : v - 1 - v = -1 := by simp [Int32.sub_eq_add_neg, Int32.add_comm v (-1), Int32.add_assoc, Int32.add_right_neg]
  rw [e] at this
  exact absurd this (by decide)
theorem rkc_d {D : TD} {side : Nat} (hs : side < 4) (x y : Int32) : rkc D side (x + sdX side) (y + sdY side) = rkc D side x y - 1 := by
  have hs4 : side = 0 ∨ side = 1 ∨ side = 2 ∨ side = 3 := by omega
  rcases hs4 with rfl | rfl | rfl | rfl
  · exact (Int32.sub_eq_add_neg x 1).symm
  · show D 0 0 - 1 - (x + 1) = D 0 0 - 1 - x - 1
    simp only [Int32.sub_eq_add_neg, Int32.neg_add, Int32.add_assoc]
  · show D 0 1 - 1 - (y + 1) = D 0 1 - 1 - y - 1
    simp only [Int32.sub_eq_add_neg, Int32.neg_add, Int32.add_assoc]
  · exact (Int32.sub_eq_add_neg y 1).symm
def mvd (D : TD) (side : Nat) (r : Int32) (P : PR) (a : Nat) : Prop := P (5 * a + 2) < 0 ∧ srk D P side a = r ∧ sat P (P (5 * a) + sdX side) (P (5 * a + 1) + sdY side) (nA D) = none
/-- in how many apples' cells two rows differ -/
def sdif (P Q : PR) : Nat → Nat
  | 0 => 0
  | n + 1 => sdif P Q n + if Q (5 * n) ≠ P (5 * n) ∨ Q (5 * n + 1) ≠ P (5 * n + 1) then 1 else 0
theorem sdif_same {P : PR} : ∀ n, sdif P P n = 0
  | 0 => rfl
  | n + 1 => by simp [sdif, sdif_same n]
theorem sdif_off {P Q : PR} {p : Nat} {x y : Int32} : ∀ n, n ≤ p → sdif P (smv Q p x y) n = sdif P Q n
  | 0, _ => rfl
  | n + 1, h => by
    simp only [sdif, smv_x, smv_y, if_neg (show ¬ n = p by omega), sdif_off (P := P) (Q := Q) (p := p) (x := x) (y := y) n (by omega)]
theorem sdif_mv {P Q : PR} {p : Nat} {x y : Int32} (h1 : Q (5 * p) = P (5 * p)) (h2 : Q (5 * p + 1) = P (5 * p + 1)) (h3 : ¬ (x = P (5 * p) ∧ y = P (5 * p + 1))) : ∀ n, p < n → sdif P (smv Q p x y) n = sdif P Q n + 1
  | 0, h => by omega
  | n + 1, h => by
    simp only [sdif, smv_x, smv_y]
    by_cases e : n = p
    · subst e
      rw [sdif_off n (Nat.le_refl _), if_pos rfl, if_pos rfl, if_pos (by
        by_cases e : x = P (5 * n)
        · exact Or.inr (fun e2 => h3 ⟨e, e2⟩)
        · exact Or.inl e), if_neg (by rw [h1, h2]; simp)]
    · rw [sdif_mv h1 h2 h3 n (by omega), if_neg e, if_neg e]; omega
def Mv (D : TD) (side : Nat) (P : PR) (S : Nat → Prop) (Q : PR) : Prop := (∀ a, a < nA D → S a → Q (5 * a) = P (5 * a) + sdX side ∧ Q (5 * a + 1) = P (5 * a + 1) + sdY side) ∧ (∀ a, a < nA D → ¬ S a → Q (5 * a) = P (5 * a) ∧ Q (5 * a + 1) = P (5 * a + 1)) ∧ (∀ k, (∀ a, a < nA D → k ≠ 5 * a ∧ k ≠ 5 * a + 1) → Q k = P k)
def Wv (D : TD) (side : Nat) (c : Int32) (P : PR) (S : Nat → Prop) (s : Int32 × PR) : Prop := OkP D s.2 ∧ Mv D side P S s.2 ∧ s.1 = c + Int32.ofNat (sdif P s.2 (nA D))
section WV
variable {D : TD} {C : TC} {P Q : PR} {side : Nat} {r : Int32} {S S' : Nat → Prop} {c : Int32} {s : Int32 × PR}
theorem Mv.fl (h : Mv D side P S Q) (hA : nA D ≤ 10) {a : Nat} (ha : a < nA D) : Q (5 * a + 2) = P (5 * a + 2) := h.2.2 _ (fun b hb => by omega)
theorem Wv.of (h : Wv D side c P S s) (hS : ∀ a, a < nA D → (S' a ↔ S a)) : Wv D side c P S' s :=
  ⟨h.1, ⟨fun a ha h1 => h.2.1.1 a ha ((hS a ha).mp h1), fun a ha h1 => h.2.1.2.1 a ha (fun h2 => h1 ((hS a ha).mpr h2)), h.2.1.2.2⟩, h.2.2⟩
theorem Wv.un {s' : Int32 × PR} (h : Wv D side c P S s) (h' : Wv D side c P S s') : s = s' := by
  have e : s.2 = s'.2 := by
    funext k
    by_cases hk : ∃ a, a < nA D ∧ (k = 5 * a ∨ k = 5 * a + 1)
    · obtain ⟨a, ha, hk⟩ := hk
      by_cases hS : S a
      · obtain ⟨g1, g2⟩ := h.2.1.1 a ha hS
        obtain ⟨g3, g4⟩ := h'.2.1.1 a ha hS
        rcases hk with rfl | rfl
        · rw [g1, g3]
        · rw [g2, g4]
      · obtain ⟨g1, g2⟩ := h.2.1.2.1 a ha hS
        obtain ⟨g3, g4⟩ := h'.2.1.2.1 a ha hS
        rcases hk with rfl | rfl
        · rw [g1, g3]
        · rw [g2, g4]
    · have hk' : ∀ a, a < nA D → k ≠ 5 * a ∧ k ≠ 5 * a + 1 := fun a ha => ⟨fun e => hk ⟨a, ha, Or.inl e⟩, fun e => hk ⟨a, ha, Or.inr e⟩⟩
      rw [h.2.1.2.2 k hk', h'.2.1.2.2 k hk']
  have e1 : s.1 = s'.1 := by rw [h.2.2, h'.2.2, e]
  exact Prod.ext e1 e
theorem Wv.start (hP : OkP D P) : Wv D side c P (fun _ => False) (c, P) :=
  ⟨hP, ⟨fun _ _ h => h.elim, fun _ _ _ => ⟨rfl, rfl⟩, fun _ _ => rfl⟩, by rw [sdif_same]; exact (Int32.add_zero c).symm⟩
theorem i_shift {u v w : Int32} (h : u + w = v + w) : u = v := by
  rw [Int32.add_comm u w, Int32.add_comm v w] at h; exact i_cancel h
/-- whether the cell ahead is free is as it was -/
theorem Mv.ahead (hs : side < 4) (hP : OkP D P) (hQ : OkP D Q) (hA : nA D ≤ 10) (h : Mv D side P S Q) (hS : ∀ a, a < nA D → S a → mvd D side r P a) {p : Nat} (hp : p < nA D) (hpf : P (5 * p + 2) < 0) (hpr : srk D P side p = r) (hpS : ¬ S p) : sat Q (P (5 * p) + sdX side) (P (5 * p + 1) + sdY side) (nA D) = none ↔ sat P (P (5 * p) + sdX side) (P (5 * p + 1) + sdY side) (nA D) = none := by
  have hr1 : rkc D side (P (5 * p) + sdX side) (P (5 * p + 1) + sdY side) = r - 1 := by rw [rkc_d hs, ← srk_rkc, hpr]
  constructor
  · intro hn
    cases h1 : sat P (P (5 * p) + sdX side) (P (5 * p + 1) + sdY side) (nA D) with
    | none => rfl
    | some d =>
      obtain ⟨d1, d2, d3, d4⟩ := sat_some h1
      have hd : ¬ S d := fun hd => by
        have := (hS d d1 hd).2.1
        rw [srk_rkc, d3, d4, hr1] at this
        exact i_ne1 r this
      obtain ⟨g1, g2⟩ := h.2.1 d d1 hd
      exact absurd ⟨by rw [h.fl hA d1]; exact d2, g1.trans d3, g2.trans d4⟩ (sat_none hn d d1)
  · intro hn
    cases h1 : sat Q (P (5 * p) + sdX side) (P (5 * p + 1) + sdY side) (nA D) with
    | none => rfl
    | some d =>
      obtain ⟨d1, d2, d3, d4⟩ := sat_some h1
      rw [h.fl hA d1] at d2
      by_cases hd : S d
      · obtain ⟨g1, g2⟩ := h.1 d d1 hd
        rw [g1] at d3
        rw [g2] at d4
        have := hP.un d1 hp d2 hpf (i_shift d3) (i_shift d4)
        subst this
        exact absurd hd hpS
      · obtain ⟨g1, g2⟩ := h.2.1 d d1 hd
        exact absurd ⟨d2, g1.symm.trans d3, g2.symm.trans d4⟩ (sat_none hn d d1)
/-- who is in a cell of the rank is as it was, if that one has not gone -/
theorem Mv.here (hs : side < 4) (hP : OkP D P) (hQ : OkP D Q) (hA : nA D ≤ 10) (h : Mv D side P S Q) (hS : ∀ a, a < nA D → S a → mvd D side r P a) {x y : Int32} (hxy : rkc D side x y = r) (hn : ∀ a, a < nA D → S a → ¬ (P (5 * a) = x ∧ P (5 * a + 1) = y)) : sat Q x y (nA D) = sat P x y (nA D) := by
  cases h1 : sat P x y (nA D) with
  | some d =>
    obtain ⟨d1, d2, d3, d4⟩ := sat_some h1
    obtain ⟨g1, g2⟩ := h.2.1 d d1 (fun hd => hn d d1 hd ⟨d3, d4⟩)
    exact hQ.fnd d1 (by rw [h.fl hA d1]; exact d2) (g1.trans d3) (g2.trans d4)
  | none =>
    cases h2 : sat Q x y (nA D) with
    | none => rfl
    | some d =>
      obtain ⟨d1, d2, d3, d4⟩ := sat_some h2
      rw [h.fl hA d1] at d2
      by_cases hd : S d
      · obtain ⟨g1, g2⟩ := h.1 d d1 hd
        have e := (hS d d1 hd).2.1
        rw [srk_rkc] at e
        have e2 := rkc_d (D := D) hs (P (5 * d)) (P (5 * d + 1))
        rw [← g1, ← g2, d3, d4, e, hxy] at e2
        exact absurd e2.symm (i_ne1 r)
      · obtain ⟨g1, g2⟩ := h.2.1 d d1 hd
        exact absurd ⟨d2, g1.symm.trans d3, g2.symm.trans d4⟩ (sat_none h1 d d1)
/-- one goes on -/
theorem Wv.step {rank : Nat} (hD : OkD D C) (hs : side < 4) (hrk : rank < 5) (hP : OkP D P) (h : Wv D side c P S s) (hS : ∀ a, a < nA D → S a → mvd D side (Int32.ofNat (rank + 1)) P a) {p : Nat} (hp : p < nA D) (hpm : mvd D side (Int32.ofNat (rank + 1)) P p) (hpS : ¬ S p) (hS' : ∀ a, a < nA D → (S' a ↔ S a ∨ a = p)) : Wv D side c P S' (s.1 + 1, smv s.2 p (P (5 * p) + sdX side) (P (5 * p + 1) + sdY side)) := by
  have hA := hD.a
  obtain ⟨h1, h2, h3⟩ := h
  obtain ⟨g1, g2⟩ := h2.2.1 p hp hpS
  obtain ⟨x, y, hx, hy, e1, e2⟩ := srk_step hD hs hP hp hpm.2.1 hrk
  have hfree := (h2.ahead hs hP h1 hA hS hp hpm.1 hpm.2.1 hpS).mpr hpm.2.2
  have hne : ¬ (P (5 * p) + sdX side = P (5 * p) ∧ P (5 * p + 1) + sdY side = P (5 * p + 1)) := fun ⟨k1, k2⟩ => by
    have := rkc_d (D := D) hs (P (5 * p)) (P (5 * p + 1))
    rw [k1, k2] at this
    exact i_ne1 _ this.symm
  refine ⟨?_, ⟨fun a ha hSa => ?_, fun a ha hSa => ?_, fun k hk => ?_⟩, ?_⟩
  · show OkP D (smv s.2 p _ _)
    rw [e1, e2] at hfree ⊢
    exact h1.mv hp hA hx hy hfree
  · show smv s.2 p _ _ (5 * a) = _ ∧ smv s.2 p _ _ (5 * a + 1) = _
    rw [smv_x, smv_y]
    by_cases e : a = p
    · subst e; rw [if_pos rfl, if_pos rfl]; exact ⟨rfl, rfl⟩
    · rw [if_neg e, if_neg e]
      rcases (hS' a ha).mp hSa with h | h
      · exact h2.1 a ha h
      · exact absurd h e
  · show smv s.2 p _ _ (5 * a) = _ ∧ smv s.2 p _ _ (5 * a + 1) = _
    have e : ¬ a = p := fun e => hSa ((hS' a ha).mpr (Or.inr e))
    rw [smv_x, smv_y, if_neg e, if_neg e]
    exact h2.2.1 a ha (fun h => hSa ((hS' a ha).mpr (Or.inl h)))
  · show smv s.2 p _ _ k = _
    have := hk p hp
    rw [smv_o this.1 this.2]
    exact h2.2.2 k hk
  · show s.1 + 1 = c + Int32.ofNat (sdif P (smv s.2 p _ _) (nA D))
    rw [sdif_mv g1 g2 hne (nA D) hp, h3, Int32.ofNat_add, ← Int32.add_assoc]
    rfl
/-- the class's rank -/
theorem wv1_ok {rank : Nat} (hD : OkD D C) (hs : side < 4) (hrk : rank < 5) (hP : OkP D P) : ∀ n, n ≤ nA D → Wv D side c P (fun a => a < n ∧ mvd D side (Int32.ofNat (rank + 1)) P a) (swv1 D side (Int32.ofNat (rank + 1)) n (c, P))
  | 0, _ => (Wv.start hP).of (fun a _ => ⟨fun h => by omega, fun h => h.elim⟩)
  | n + 1, hn => by
    have hA := hD.a
    have ih := wv1_ok hD hs hrk hP n (by omega)
    have hSm : ∀ a, a < nA D → (a < n ∧ mvd D side (Int32.ofNat (rank + 1)) P a) → mvd D side (Int32.ofNat (rank + 1)) P a := fun a _ h => h.2
    have hnS : ¬ (n < n ∧ mvd D side (Int32.ofNat (rank + 1)) P n) := fun h => by omega
    obtain ⟨g1, g2⟩ := ih.2.1.2.1 n (by omega) hnS
    have gf := ih.2.1.fl hA (show n < nA D by omega)
    have hq : ((swv1 D side (Int32.ofNat (rank + 1)) n (c, P)).2 (5 * n + 2) < 0 ∧ srk D (swv1 D side (Int32.ofNat (rank + 1)) n (c, P)).2 side n = Int32.ofNat (rank + 1) ∧ sat (swv1 D side (Int32.ofNat (rank + 1)) n (c, P)).2 ((swv1 D side (Int32.ofNat (rank + 1)) n (c, P)).2 (5 * n) + sdX side) ((swv1 D side (Int32.ofNat (rank + 1)) n (c, P)).2 (5 * n + 1) + sdY side) (nA D) = none) ↔ mvd D side (Int32.ofNat (rank + 1)) P n := by
      rw [gf, srk_rkc, g1, g2, ← srk_rkc]
      refine ⟨fun ⟨k1, k2, k3⟩ => ⟨k1, k2, ?_⟩, fun ⟨k1, k2, k3⟩ => ⟨k1, k2, ?_⟩⟩
      · exact (ih.2.1.ahead hs hP ih.1 hA hSm (show n < nA D by omega) k1 k2 hnS).mp k3
      · exact (ih.2.1.ahead hs hP ih.1 hA hSm (show n < nA D by omega) k1 k2 hnS).mpr k3
    simp only [swv1]
    by_cases hm : mvd D side (Int32.ofNat (rank + 1)) P n
    · rw [if_pos (hq.mpr hm), g1, g2]
      refine ih.step hD hs hrk hP hSm (show n < nA D by omega) hm hnS (fun a ha => ⟨fun h => ?_, fun h => ?_⟩)
      · by_cases e : a = n
        · exact Or.inr e
        · exact Or.inl ⟨by have := h.1; omega, h.2⟩
      · rcases h with h | h
        · exact ⟨by have := h.1; omega, h.2⟩
        · subst h; exact ⟨by omega, hm⟩
    · rw [if_neg (fun h => hm (hq.mp h))]
      refine ih.of (fun a ha => ⟨fun h => ⟨?_, h.2⟩, fun h => ⟨by have := h.1; omega, h.2⟩⟩)
      by_cases e : a = n
      · subst e; exact absurd h.2 hm
      · have := h.1; omega
/-! the reference's: cell by cell -/
def scx (D : TD) (side r k : Nat) : Int32 := if side = 0 then Int32.ofNat r else if side = 1 then Int32.ofNat (nW D) - 1 - Int32.ofNat r else Int32.ofNat k
def scy (D : TD) (side r k : Nat) : Int32 := if side = 2 then Int32.ofNat (nH D) - 1 - Int32.ofNat r else if side = 3 then Int32.ofNat r else Int32.ofNat k
def sgo (D : TD) (side : Nat) (x y : Int32) (s : Int32 × PR) : Int32 × PR := match sat s.2 x y (nA D) with
  | some p => if scell D (x + sdX side) (y + sdY side) = true ∧ sat s.2 (x + sdX side) (y + sdY side) (nA D) = none then (s.1 + 1, smv s.2 p (x + sdX side) (y + sdY side)) else s
  | none => s
def swm1 (D : TD) (side r : Nat) : Nat → Int32 × PR → Int32 × PR
  | 0, s => s
  | k + 1, s => sgo D side (scx D side r k) (scy D side r k) (swm1 D side r k s)
def srows (D : TD) (side : Nat) : Nat := if side < 2 then nW D else nH D
def seach (D : TD) (side : Nat) : Nat := if side < 2 then nH D else nW D
def swm (D : TD) (side : Nat) : Nat → Int32 × PR → Int32 × PR
  | 0, s => s
  | r + 1, s => swm1 D side r (seach D side) (swm D side r s)
theorem scell_c (hD : OkD D C) (hs : side < 4) {r k : Nat} (hr : r < srows D side) (hk : k < seach D side) : rkc D side (scx D side r k) (scy D side r k) = Int32.ofNat r ∧ scell D (scx D side r k) (scy D side r k) = true := by
  have hw := hD.w
  have hh := hD.h
  have hs4 : side = 0 ∨ side = 1 ∨ side = 2 ∨ side = 3 := by omega
  rcases hs4 with rfl | rfl | rfl | rfl
  · simp only [srows, seach, show (0 : Nat) < 2 from by omega, if_true] at hr hk
    exact ⟨rfl, scell_n hD hr hk⟩
  · simp only [srows, seach, show (1 : Nat) < 2 from by omega, if_true] at hr hk
    have e : Int32.ofNat (nW D) - 1 - Int32.ofNat r = Int32.ofNat (nW D - 1 - r) := by
      rw [show Int32.ofNat (nW D) - 1 = Int32.ofNat (nW D - 1) from (Int32.ofNat_sub (nW D) 1 (by omega)).symm, q_sub (by omega)]
    have e2 : Int32.ofNat (nW D) - 1 - Int32.ofNat (nW D - 1 - r) = Int32.ofNat r := by
      rw [show Int32.ofNat (nW D) - 1 = Int32.ofNat (nW D - 1) from (Int32.ofNat_sub (nW D) 1 (by omega)).symm, q_sub (by omega)]
      congr 1; omega
    refine ⟨?_, ?_⟩
    · show D 0 0 - 1 - (Int32.ofNat (nW D) - 1 - Int32.ofNat r) = Int32.ofNat r
      rw [(nWH hD).1, e, e2]
    · show scell D (Int32.ofNat (nW D) - 1 - Int32.ofNat r) (Int32.ofNat k) = true
      rw [e]; exact scell_n hD (by omega) hk
  · simp only [srows, seach, show ¬ (2 : Nat) < 2 from by omega, if_false] at hr hk
    have e : Int32.ofNat (nH D) - 1 - Int32.ofNat r = Int32.ofNat (nH D - 1 - r) := by
      rw [show Int32.ofNat (nH D) - 1 = Int32.ofNat (nH D - 1) from (Int32.ofNat_sub (nH D) 1 (by omega)).symm, q_sub (by omega)]
    have e2 : Int32.ofNat (nH D) - 1 - Int32.ofNat (nH D - 1 - r) = Int32.ofNat r := by
      rw [show Int32.ofNat (nH D) - 1 = Int32.ofNat (nH D - 1) from (Int32.ofNat_sub (nH D) 1 (by omega)).symm, q_sub (by omega)]
      congr 1; omega
    refine ⟨?_, ?_⟩
    · show D 0 1 - 1 - (Int32.ofNat (nH D) - 1 - Int32.ofNat r) = Int32.ofNat r
      rw [(nWH hD).2, e, e2]
    · show scell D (Int32.ofNat k) (Int32.ofNat (nH D) - 1 - Int32.ofNat r) = true
      rw [e]; exact scell_n hD hk (by omega)
  · simp only [srows, seach, show ¬ (3 : Nat) < 2 from by omega, if_false] at hr hk
    exact ⟨rfl, scell_n hD hk hr⟩
/-- an apple of a rank stands in one of its cells -/
theorem srk_cell (hD : OkD D C) (hs : side < 4) (hP : OkP D P) {a r : Nat} (ha : a < nA D) (hr : srk D P side a = Int32.ofNat r) (hr6 : r < 100) : r < srows D side ∧ ∃ k, k < seach D side ∧ P (5 * a) = scx D side r k ∧ P (5 * a + 1) = scy D side r k := by
  have hw := hD.w
  have hh := hD.h
  obtain ⟨x, y, hx, hy, e1, e2⟩ := n_cases hD hP ha
  have hs4 : side = 0 ∨ side = 1 ∨ side = 2 ∨ side = 3 := by omega
  rw [srk_rkc, e1, e2] at hr
  rw [e1, e2]
  rcases hs4 with rfl | rfl | rfl | rfl
  · have hr : Int32.ofNat x = Int32.ofNat r := hr
    rw [q_eq (by omega) (by omega)] at hr
    subst hr
    exact ⟨hx, y, hy, rfl, rfl⟩
  · have hr : D 0 0 - 1 - Int32.ofNat x = Int32.ofNat r := hr
    rw [(nWH hD).1, show Int32.ofNat (nW D) - 1 = Int32.ofNat (nW D - 1) from (Int32.ofNat_sub (nW D) 1 (by omega)).symm, q_sub (by omega), q_eq (by omega) (by omega)] at hr
    refine ⟨show r < nW D by omega, y, hy, ?_, rfl⟩
    show Int32.ofNat x = Int32.ofNat (nW D) - 1 - Int32.ofNat r
    rw [show Int32.ofNat (nW D) - 1 = Int32.ofNat (nW D - 1) from (Int32.ofNat_sub (nW D) 1 (by omega)).symm, q_sub (by omega)]
    congr 1; omega
  · have hr : D 0 1 - 1 - Int32.ofNat y = Int32.ofNat r := hr
    rw [(nWH hD).2, show Int32.ofNat (nH D) - 1 = Int32.ofNat (nH D - 1) from (Int32.ofNat_sub (nH D) 1 (by omega)).symm, q_sub (by omega), q_eq (by omega) (by omega)] at hr
    refine ⟨show r < nH D by omega, x, hx, rfl, ?_⟩
    show Int32.ofNat y = Int32.ofNat (nH D) - 1 - Int32.ofNat r
    rw [show Int32.ofNat (nH D) - 1 = Int32.ofNat (nH D - 1) from (Int32.ofNat_sub (nH D) 1 (by omega)).symm, q_sub (by omega)]
    congr 1; omega
  · have hr : Int32.ofNat y = Int32.ofNat r := hr
    rw [q_eq (by omega) (by omega)] at hr
    subst hr
    exact ⟨hy, x, hx, rfl, rfl⟩
theorem scxy_inj {r k j : Nat} (hs : side < 4) (hk : k < 100) (hj : j < 100) (h1 : scx D side r k = scx D side r j) (h2 : scy D side r k = scy D side r j) : k = j := by
  have hs4 : side = 0 ∨ side = 1 ∨ side = 2 ∨ side = 3 := by omega
  rcases hs4 with rfl | rfl | rfl | rfl
  · have h2 : Int32.ofNat k = Int32.ofNat j := h2
    rwa [q_eq (by omega) (by omega)] at h2
  · have h2 : Int32.ofNat k = Int32.ofNat j := h2
    rwa [q_eq (by omega) (by omega)] at h2
  · have h1 : Int32.ofNat k = Int32.ofNat j := h1
    rwa [q_eq (by omega) (by omega)] at h1
  · have h1 : Int32.ofNat k = Int32.ofNat j := h1
    rwa [q_eq (by omega) (by omega)] at h1
theorem wm1_ok {rank : Nat} (hD : OkD D C) (hs : side < 4) (hrk : rank < 5) (hrow : rank + 1 < srows D side) (hP : OkP D P) : ∀ n, n ≤ seach D side → Wv D side c P (fun a => (∃ k, k < n ∧ P (5 * a) = scx D side (rank + 1) k ∧ P (5 * a + 1) = scy D side (rank + 1) k) ∧ mvd D side (Int32.ofNat (rank + 1)) P a) (swm1 D side (rank + 1) n (c, P))
  | 0, _ => (Wv.start hP).of (fun a _ => ⟨fun ⟨⟨k, hk, _⟩, _⟩ => by omega, fun h => h.elim⟩)
  | n + 1, hn => by
    have hA := hD.a
    have hw := hD.w
    have hh := hD.h
    have he6 : seach D side ≤ 6 := by simp only [seach]; split <;> omega
    have ih := wm1_ok hD hs hrk hrow hP n (by omega)
    obtain ⟨c1, c2⟩ := scell_c hD hs hrow (show n < seach D side by omega)
    have hSm : ∀ a, a < nA D → ((∃ k, k < n ∧ P (5 * a) = scx D side (rank + 1) k ∧ P (5 * a + 1) = scy D side (rank + 1) k) ∧ mvd D side (Int32.ofNat (rank + 1)) P a) → mvd D side (Int32.ofNat (rank + 1)) P a := fun a _ h => h.2
    have hno : ∀ a, a < nA D → ((∃ k, k < n ∧ P (5 * a) = scx D side (rank + 1) k ∧ P (5 * a + 1) = scy D side (rank + 1) k) ∧ mvd D side (Int32.ofNat (rank + 1)) P a) → ¬ (P (5 * a) = scx D side (rank + 1) n ∧ P (5 * a + 1) = scy D side (rank + 1) n) := by
      intro a ha ⟨⟨k, hk, e1, e2⟩, _⟩ ⟨e3, e4⟩
      have := scxy_inj (D := D) (r := rank + 1) hs (show k < 100 by omega) (show n < 100 by omega) (e1.symm.trans e3) (e2.symm.trans e4)
      omega
    have hh := ih.2.1.here hs hP ih.1 hA hSm c1 hno
    simp only [swm1, sgo, hh]
    cases hp : sat P (scx D side (rank + 1) n) (scy D side (rank + 1) n) (nA D) with
    | none =>
      refine ih.of (fun a ha => ⟨fun ⟨⟨k, hk, e1, e2⟩, hm⟩ => ⟨⟨k, ?_, e1, e2⟩, hm⟩, fun ⟨⟨k, hk, e⟩, hm⟩ => ⟨⟨k, by omega, e⟩, hm⟩⟩)
      by_cases e : k = n
      · subst e; exact absurd ⟨hm.1, e1, e2⟩ (sat_none hp a ha)
      · omega
    | some p =>
      obtain ⟨p1, p2, p3, p4⟩ := sat_some hp
      have hpr : srk D P side p = Int32.ofNat (rank + 1) := by rw [srk_rkc, p3, p4]; exact c1
      have hpS : ¬ ((∃ k, k < n ∧ P (5 * p) = scx D side (rank + 1) k ∧ P (5 * p + 1) = scy D side (rank + 1) k) ∧ mvd D side (Int32.ofNat (rank + 1)) P p) := fun h => hno p p1 h ⟨p3, p4⟩
      have hah := ih.2.1.ahead hs hP ih.1 hA hSm p1 p2 hpr hpS
      obtain ⟨x, y, hx, hy, e1, e2⟩ := srk_step hD hs hP p1 hpr hrk
      rw [p3, p4] at hah
      rw [p3] at e1
      rw [p4] at e2
      have hce : scell D (scx D side (rank + 1) n + sdX side) (scy D side (rank + 1) n + sdY side) = true := by rw [e1, e2]; exact scell_n hD hx hy
      show Wv D side c P _ (if _ then _ else _)
      by_cases hm : mvd D side (Int32.ofNat (rank + 1)) P p
      · have hm2 := hm.2.2
        rw [p3, p4] at hm2
        rw [if_pos ⟨hce, hah.mpr hm2⟩, ← p3, ← p4]
        refine ih.step hD hs hrk hP hSm p1 hm hpS (fun a ha => ⟨fun ⟨⟨k, hk, k1, k2⟩, h2⟩ => ?_, fun h => ?_⟩)
        · by_cases e : k = n
          · subst e
            exact Or.inr (hP.un ha p1 h2.1 p2 (k1.trans p3.symm) (k2.trans p4.symm))
          · exact Or.inl ⟨⟨k, by omega, k1, k2⟩, h2⟩
        · rcases h with ⟨⟨k, hk, h1⟩, h2⟩ | h
          · exact ⟨⟨k, by omega, h1⟩, h2⟩
          · subst h; exact ⟨⟨n, by omega, p3, p4⟩, hm⟩
      · rw [if_neg (fun h => hm ⟨p2, hpr, by rw [p3, p4]; exact hah.mp h.2⟩)]
        refine ih.of (fun a ha => ⟨fun ⟨⟨k, hk, k1, k2⟩, h2⟩ => ⟨⟨k, ?_, k1, k2⟩, h2⟩, fun ⟨⟨k, hk, h1⟩, h2⟩ => ⟨⟨k, by omega, h1⟩, h2⟩⟩)
        by_cases e : k = n
        · subst e
          have := hP.un ha p1 h2.1 p2 (k1.trans p3.symm) (k2.trans p4.symm)
          subst this; exact absurd h2 hm
        · omega
theorem wm1_wv1 {rank : Nat} (hD : OkD D C) (hs : side < 4) (hrk : rank < 5) (hrow : rank + 1 < srows D side) (hP : OkP D s.2) : swm1 D side (rank + 1) (seach D side) s = swv1 D side (Int32.ofNat (rank + 1)) (nA D) s := by
  have h1 := wm1_ok (c := s.1) hD hs hrk hrow hP (seach D side) (Nat.le_refl _)
  have h2 := wv1_ok (c := s.1) hD hs hrk hP (nA D) (Nat.le_refl _)
  refine (h1.of (fun a ha => ⟨fun h => ?_, fun h => ⟨ha, h.2⟩⟩)).un h2
  obtain ⟨-, k, hk, e⟩ := srk_cell hD hs hP ha h.2.2.1 (by omega)
  exact ⟨⟨k, hk, e⟩, h.2⟩
/-- of the rank at the side itself none goes -/
theorem wm1_0 (hD : OkD D C) (hs : side < 4) (hrow : 0 < srows D side) : ∀ n, n ≤ seach D side → swm1 D side 0 n s = s
  | 0, _ => rfl
  | n + 1, hn => by
    have hw := hD.w
    have hh := hD.h
    obtain ⟨c1, c2⟩ := scell_c hD hs hrow (show n < seach D side by omega)
    have hnc : scell D (scx D side 0 n + sdX side) (scy D side 0 n + sdY side) = false := by
      cases h : scell D (scx D side 0 n + sdX side) (scy D side 0 n + sdY side) with
      | false => rfl
      | true =>
        have h1 := rkc_d (D := D) hs (scx D side 0 n) (scy D side 0 n)
        rw [c1] at h1
        obtain ⟨⟨x, hx, e1⟩, ⟨y, hy, e2⟩⟩ := scell_i hD h
        rw [e1, e2] at h1
        exfalso
        have hs4 : side = 0 ∨ side = 1 ∨ side = 2 ∨ side = 3 := by omega
        have e0 : Int32.ofNat 0 - 1 = -1 := rfl
        rcases hs4 with rfl | rfl | rfl | rfl
        · have h1 : Int32.ofNat x = Int32.ofNat 0 - 1 := h1
          rw [e0, q_m1 (by omega)] at h1; exact h1
        · have h1 : D 0 0 - 1 - Int32.ofNat x = Int32.ofNat 0 - 1 := h1
          rw [(nWH hD).1, show Int32.ofNat (nW D) - 1 = Int32.ofNat (nW D - 1) from (Int32.ofNat_sub (nW D) 1 (by omega)).symm, q_sub (by omega), e0, q_m1 (by omega)] at h1; exact h1
        · have h1 : D 0 1 - 1 - Int32.ofNat y = Int32.ofNat 0 - 1 := h1
          rw [(nWH hD).2, show Int32.ofNat (nH D) - 1 = Int32.ofNat (nH D - 1) from (Int32.ofNat_sub (nH D) 1 (by omega)).symm, q_sub (by omega), e0, q_m1 (by omega)] at h1; exact h1
        · have h1 : Int32.ofNat y = Int32.ofNat 0 - 1 := h1
          rw [e0, q_m1 (by omega)] at h1; exact h1
    simp only [swm1, sgo, wm1_0 hD hs hrow n (by omega), hnc, Bool.false_eq_true, false_and, if_false]
    cases sat s.2 (scx D side 0 n) (scy D side 0 n) (nA D) <;> rfl
/-- of a rank that there is not none goes -/
theorem wv1_none {rank : Nat} (hD : OkD D C) (hs : side < 4) (hrk : rank < 50) (hrow : srows D side ≤ rank) (hP : OkP D s.2) : ∀ n, n ≤ nA D → swv1 D side (Int32.ofNat rank) n s = s
  | 0, _ => rfl
  | n + 1, hn => by
    simp only [swv1, wv1_none hD hs hrk hrow hP n (by omega)]
    rw [if_neg (fun h => by
      have := (srk_cell hD hs hP (show n < nA D by omega) h.2.1 (by omega)).1
      omega)]
theorem wm_wv (hD : OkD D C) (hs : side < 4) (hP : OkP D s.2) : swm D side (srows D side) s = swv D side 5 s := by
  have hw := hD.w
  have hh := hD.h
  have h6 : srows D side ≤ 6 := by simp only [srows]; split <;> omega
  have a1 : ∀ r, r + 1 ≤ srows D side → swm D side (r + 1) s = swv D side r s := by
    intro r
    induction r with
    | zero => intro h; simp only [swm, swv, wm1_0 hD hs (show 0 < srows D side by omega) _ (Nat.le_refl _)]
    | succ r ih =>
      intro h
      have := ih (by omega)
      show swm1 D side (r + 1) (seach D side) (swm D side (r + 1) s) = swv1 D side (Int32.ofNat (r + 1)) (nA D) (swv D side r s)
      rw [this]
      exact wm1_wv1 hD hs (by omega) (by omega) (OkP.wv hD hs r s (by omega) hP)
  have a2 : ∀ j r, srows D side ≤ r + 1 → r + j ≤ 5 → swv D side (r + j) s = swv D side r s := by
    intro j
    induction j with
    | zero => intro r _ _; rfl
    | succ j ih =>
      intro r h1 h2
      rw [← ih r h1 (by omega)]
      show swv1 D side (Int32.ofNat (r + j + 1)) (nA D) (swv D side (r + j) s) = _
      exact wv1_none hD hs (by omega) (by omega) (OkP.wv hD hs (r + j) s (by omega) hP) _ (Nat.le_refl _)
  by_cases h0 : srows D side = 0
  · have := a2 5 0 (by omega) (by omega)
    rw [show 0 + 5 = 5 from rfl] at this
    rw [h0, this]; rfl
  · obtain ⟨r, hr⟩ : ∃ r, srows D side = r + 1 := ⟨srows D side - 1, by omega⟩
    have := a2 (5 - r) r (by omega) (by omega)
    rw [show r + (5 - r) = 5 by omega] at this
    rw [hr, a1 r (by omega), this]
end WV
