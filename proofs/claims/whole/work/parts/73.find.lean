/-! CALLS, 32: searches, in lists -/
def gfst {α : Type} (f : Nat → Option α) : Nat → Option α
  | 0 => none
  | n + 1 => (gfst f n).or (f n)
section GF
variable {α β : Type} {f g : Nat → Option α}
theorem gfst_at {w : Nat} {x : α} (h : gfst f w = none) (hx : f w = some x) : ∀ M, w < M → gfst f M = some x
  | 0, h => by omega
  | M + 1, hM => by
    simp only [gfst]
    by_cases e : M = w
    · subst e; rw [h, hx]; rfl
    · rw [gfst_at h hx M (by omega)]; rfl
theorem gfst_n1 {n : Nat} (h : gfst f n = none) (k : f n = none) : gfst f (n + 1) = none := by
  simp only [gfst, h, k]; rfl
theorem gfst_no : ∀ {n : Nat}, gfst f n = none → ∀ i, i < n → f i = none
  | 0, _, i, hi => by omega
  | n + 1, h, i, hi => by
    simp only [gfst] at h
    cases hf : gfst f n with
    | some x => rw [hf] at h; simp at h
    | none =>
      rw [hf] at h
      by_cases e : i = n
      · subst e; simpa using h
      · exact gfst_no hf i (by omega)
theorem gfst_of : ∀ {n : Nat}, (∀ i, i < n → f i = none) → gfst f n = none
  | 0, _ => rfl
  | n + 1, h => gfst_n1 (gfst_of (fun i hi => h i (by omega))) (h n (by omega))
theorem gfst_ex {x : α} : ∀ {n : Nat}, gfst f n = some x → ∃ i, i < n ∧ f i = some x ∧ gfst f i = none
  | 0, h => by cases h
  | n + 1, h => by
    simp only [gfst] at h
    cases hf : gfst f n with
    | some y =>
      rw [hf] at h
      obtain ⟨i, h1, h2, h3⟩ := gfst_ex hf
      simp at h
      exact ⟨i, by omega, by rw [h2, h], h3⟩
    | none =>
      rw [hf] at h
      exact ⟨n, by omega, by simpa using h, hf⟩
theorem gfst_congr : ∀ {n : Nat}, (∀ i, i < n → f i = g i) → gfst f n = gfst g n
  | 0, _ => rfl
  | n + 1, h => by simp only [gfst]; rw [gfst_congr (fun i hi => h i (by omega)), h n (by omega)]
theorem gfst_add (a : Nat) : ∀ k, gfst f (a + k) = (gfst f a).or (gfst (fun r => f (a + r)) k)
  | 0 => by simp [gfst]
  | k + 1 => by
    have h := gfst_add a k
    show (gfst f (a + k)).or (f (a + k)) = (gfst f a).or ((gfst (fun r => f (a + r)) k).or (f (a + k)))
    rw [h, Option.or_assoc]
theorem gfst_mul (K : Nat) : ∀ M, gfst f (M * K) = gfst (fun c => gfst (fun r => f (c * K + r)) K) M
  | 0 => by rw [Nat.zero_mul]; rfl
  | M + 1 => by
    rw [Nat.succ_mul, gfst_add, gfst_mul K M]
    rfl
theorem gfst_map (h : α → β) : ∀ n, gfst (fun i => (f i).map h) n = (gfst f n).map h
  | 0 => rfl
  | n + 1 => by
    simp only [gfst]
    rw [gfst_map h n]
    cases gfst f n <;> simp
end GF
theorem odl_s {M n c : Nat} : odl M (n + 1) c = (c / M ^ n % M) :: odl M n c := by
  simp only [odl, List.range_succ_eq_map, List.map_cons, List.map_map]
  congr 1
  apply List.map_congr_left
  intro i hi
  show c / M ^ (n + 1 - 1 - (i + 1)) % M = c / M ^ (n - 1 - i) % M
  rw [show n + 1 - 1 - (i + 1) = n - 1 - i by omega]
theorem odl_d {M n c r : Nat} (hM : 0 < M) : odl M n (c * M ^ n + r) = odl M n r := by
  simp only [odl]
  apply List.map_congr_left
  intro i hi
  have hi' : i < n := List.mem_range.mp hi
  have e : c * M ^ n + r = M ^ (n - 1 - i) * (M * (c * M ^ i)) + r := by
    congr 1
    have : M ^ n = M ^ (n - 1 - i) * (M * M ^ i) := by
      rw [← Nat.pow_succ', ← Nat.pow_add]; congr 1; omega
    rw [this]
    rw [Nat.mul_left_comm c, Nat.mul_left_comm c M]
  rw [e, Nat.mul_add_div (Nat.pow_pos hM), Nat.mul_add_mod]
theorem odl_0 {M n c r : Nat} (hr : r < M ^ n) (hc : c < M) : (c * M ^ n + r) / M ^ n % M = c := by
  rw [Nat.mul_comm c, Nat.mul_add_div (by omega), Nat.div_eq_of_lt hr, Nat.add_zero, Nat.mod_eq_of_lt hc]
def gfind (M : Nat) (F : Nat → PR → Option PR) (G : PR → Bool) : Nat → PR → Option (List Nat)
  | 0, P => if G P = true then some [] else none
  | n + 1, P => gfst (fun c => (F c P).bind (fun Q => (gfind M F G n Q).map (fun l => c :: l))) M
def grun (F : Nat → PR → Option PR) (G : PR → Bool) : List Nat → PR → Bool
  | [], P => G P
  | c :: l, P => (F c P).elim false (fun Q => grun F G l Q)
def glist (F : Nat → PR → Option PR) (G : PR → Bool) (P : PR) (l : List Nat) : Option (List Nat) := if grun F G l P = true then some l else none
/-- first with cuts and passing over -/
def cfind (M : Nat) (F : Nat → PR → Option PR) (G : PR → Bool) (cut : Nat → PR → Bool) (skip : Nat → PR → PR → Bool) : Nat → PR → Option (List Nat)
  | 0, P => if G P = true then some [] else none
  | n + 1, P => if cut (n + 1) P = true then none else gfst (fun c => (F c P).bind (fun Q => if skip c P Q = true then none else (cfind M F G cut skip n Q).map (fun l => c :: l))) M
section GS
variable {M : Nat} {F : Nat → PR → Option PR} {G : PR → Bool} {cut : Nat → PR → Bool} {skip : Nat → PR → PR → Bool}
theorem gfind_num (hM : 0 < M) : ∀ (n : Nat) (P : PR), gfind M F G n P = gfst (fun num => glist F G P (odl M n num)) (M ^ n)
  | 0, P => by
    show _ = gfst _ 1
    simp only [gfst, gfind, glist, grun, odl]
    simp [grun]
  | n + 1, P => by
    rw [Nat.pow_succ', gfst_mul]
    simp only [gfind]
    refine gfst_congr (fun c hc => ?_)
    have hl : gfst (fun r => glist F G P (odl M (n + 1) (c * M ^ n + r))) (M ^ n) = gfst (fun r => glist F G P (c :: odl M n r)) (M ^ n) := gfst_congr (fun r hr => by rw [odl_s, odl_0 hr hc, odl_d hM])
    rw [hl]
    cases hF : F c P with
    | none =>
      rw [gfst_of (fun r _ => by simp [glist, grun, hF])]
      rfl
    | some Q =>
      show (gfind M F G n Q).map _ = _
      rw [gfind_num hM n Q, ← gfst_map]
      refine gfst_congr (fun r _ => ?_)
      simp only [glist, grun, hF, Option.elim]
      split <;> rfl
theorem gfind_cons {n c : Nat} {P Q : PR} (hc : c < M) (hF : F c P = some Q) (h : gfind M F G (n + 1) P = none) : gfind M F G n Q = none := by
  have := gfst_no h c hc
  rw [hF] at this
  cases hg : gfind M F G n Q with
  | none => rfl
  | some l => simp [hg] at this
theorem cfind_eq {N : Nat} {OK : PR → Prop} (hok : ∀ c P Q, c < M → OK P → F c P = some Q → OK Q) (hcut : ∀ n P, n < N → OK P → cut n P = true → gfind M F G n P = none) (hskip : ∀ n c P Q, c < M → OK P → F c P = some Q → skip c P Q = true → gfind M F G n P = none → gfind M F G n Q = none) : ∀ (n : Nat) (P : PR), n < N → OK P → (∀ m, m < n → gfind M F G m P = none) → cfind M F G cut skip n P = gfind M F G n P
  | 0, P, _, _, _ => rfl
  | n + 1, P, hN, hP, hm => by
    simp only [cfind]
    by_cases hc : cut (n + 1) P = true
    · rw [if_pos hc]; exact (hcut (n + 1) P hN hP hc).symm
    · rw [if_neg hc]
      simp only [gfind]
      refine gfst_congr (fun c hcM => ?_)
      cases hF : F c P with
      | none => rfl
      | some Q =>
        have hQ := hok c P Q hcM hP hF
        show (if skip c P Q = true then none else (cfind M F G cut skip n Q).map _) = (gfind M F G n Q).map _
        by_cases hs : skip c P Q = true
        · rw [if_pos hs, hskip n c P Q hcM hP hF hs (hm n (by omega))]; rfl
        · rw [if_neg hs, cfind_eq hok hcut hskip n Q (by omega) hQ (fun m hm' => gfind_cons hcM hF (hm (m + 1) (by omega)))]
theorem gfind_len {n : Nat} : ∀ {P : PR} {l : List Nat}, gfind M F G n P = some l → l.length = n := by
  induction n with
  | zero =>
    intro P l h
    simp only [gfind] at h
    split at h
    · cases h; rfl
    · cases h
  | succ n ih =>
    intro P l h
    obtain ⟨c, hc, h2, -⟩ := gfst_ex h
    cases hF : F c P with
    | none => rw [hF] at h2; cases h2
    | some Q =>
      rw [hF] at h2
      have h3 : (gfind M F G n Q).map (fun l => c :: l) = some l := h2
      cases hg : gfind M F G n Q with
      | none => rw [hg] at h3; cases h3
      | some l' =>
        rw [hg] at h3
        simp at h3
        rw [← h3, List.length_cons, ih hg]
/-- the fewest -/
def gfew (M : Nat) (F : Nat → PR → Option PR) (G : PR → Bool) (P : PR) (N : Nat) : Option (List Nat) := gfst (fun n => gfind M F G n P) N
end GS
/-! waves, in steps -/
def wF (D : TD) : Nat → PR → Option PR := fun c P => some (swv D c 5 (0, P)).2
def wG (a x y : Nat) (P : PR) : Bool := decide (P (5 * a) = Int32.ofNat x ∧ P (5 * a + 1) = Int32.ofNat y)
def nd (u v : Nat) : Nat := if u < v then v - u else u - v
def wdist (a x y : Nat) (P : PR) : Nat := nd (P (5 * a)).toNatClampNeg x + nd (P (5 * a + 1)).toNatClampNeg y
def wcut (a x y n : Nat) (P : PR) : Bool := decide (n < wdist a x y P)
def wskip (D : TD) (c : Nat) (P _Q : PR) : Bool := decide (¬ 0 < (swv D c 5 (0, P)).1)
def wfind (D : TD) (a x y : Nat) : Nat → PR → Option (List Nat) := gfind 4 (wF D) (wG a x y)
def wcfind (D : TD) (a x y : Nat) : Nat → PR → Option (List Nat) := cfind 4 (wF D) (wG a x y) (wcut a x y) (wskip D)
section WS
variable {D : TD} {C : TC} {P Q : PR} {side r a x y : Nat}
theorem swv1_cnt {rank : Int32} : ∀ (n : Nat) (s : Int32 × PR), ∃ k, k ≤ n ∧ (swv1 D side rank n s).1 = s.1 + Int32.ofNat k ∧ (k = 0 → swv1 D side rank n s = s)
  | 0, s => ⟨0, Nat.le_refl _, (Int32.add_zero _).symm, fun _ => rfl⟩
  | n + 1, s => by
    obtain ⟨k, h1, h2, h3⟩ := swv1_cnt (rank := rank) n s
    simp only [swv1]
    split
    · refine ⟨k + 1, by omega, ?_, fun h => by omega⟩
      show (swv1 D side rank n s).1 + 1 = _
      rw [h2, Int32.add_assoc]; congr 1
      exact q_addn
    · exact ⟨k, by omega, h2, h3⟩
theorem swv_cnt : ∀ (r : Nat) (s : Int32 × PR), ∃ k, k ≤ r * nA D ∧ (swv D side r s).1 = s.1 + Int32.ofNat k ∧ (k = 0 → swv D side r s = s)
  | 0, s => ⟨0, Nat.zero_le _, (Int32.add_zero _).symm, fun _ => rfl⟩
  | r + 1, s => by
    obtain ⟨k, h1, h2, h3⟩ := swv_cnt r s
    obtain ⟨k', h1', h2', h3'⟩ := swv1_cnt (D := D) (side := side) (rank := Int32.ofNat (r + 1)) (nA D) (swv D side r s)
    refine ⟨k + k', by rw [Nat.succ_mul]; omega, ?_, fun h => ?_⟩
    · show (swv1 D side (Int32.ofNat (r + 1)) (nA D) (swv D side r s)).1 = _
      rw [h2', h2, Int32.add_assoc, q_add]
    · show swv1 D side (Int32.ofNat (r + 1)) (nA D) (swv D side r s) = s
      rw [h3' (by omega), h3 (by omega)]
theorem wskip_id (hA : nA D ≤ 10) {c : Nat} (h : wskip D c P Q = true) : (swv D c 5 (0, P)).2 = P := by
  obtain ⟨k, h1, h2, h3⟩ := swv_cnt (D := D) (side := c) 5 (0, P)
  simp only [wskip, decide_eq_true_eq] at h
  rw [h2, Int32.zero_add] at h
  have : k = 0 := by
    by_cases e : k = 0
    · exact e
    · exact absurd (by rw [show (0 : Int32) = Int32.ofNat 0 from rfl, q_lt (by omega) (by omega)]; omega) h
  rw [h3 this]
/-- one goes one cell at most -/
def Sh (D : TD) (side r : Nat) (P Q : PR) (a : Nat) : Prop := (Q (5 * a) = P (5 * a) ∧ Q (5 * a + 1) = P (5 * a + 1)) ∨ (Q (5 * a) = P (5 * a) + sdX side ∧ Q (5 * a + 1) = P (5 * a + 1) + sdY side ∧ ∃ k, k < r ∧ srk D Q side a = Int32.ofNat k)
theorem wv1_sh (hs : side < 4) (hr : r < 5) : ∀ (n : Nat) (s : Int32 × PR), n ≤ nA D → (∀ a, a < nA D → Sh D side r P s.2 a) → ∀ a, a < nA D → (a < n → Sh D side (r + 1) P (swv1 D side (Int32.ofNat (r + 1)) n s).2 a) ∧ (n ≤ a → Sh D side r P (swv1 D side (Int32.ofNat (r + 1)) n s).2 a)
  | 0, s, _, h, a, ha => ⟨fun h => by omega, fun _ => h a ha⟩
  | n + 1, s, hn, h, a, ha => by
    have ih := wv1_sh hs hr n s (by omega) h
    simp only [swv1]
    split
    · next hc =>
      dsimp only
      by_cases e : a = n
      · subst e
        refine ⟨fun _ => ?_, fun h => by omega⟩
        have hrk := hc.2.1
        rcases (ih a ha).2 (Nat.le_refl _) with ⟨g1, g2⟩ | ⟨-, -, k, hk, g3⟩
        · refine Or.inr ⟨by rw [smv_x, if_pos rfl, g1], by rw [smv_y, if_pos rfl, g2], r, by omega, ?_⟩
          rw [srk_rkc, smv_x, if_pos rfl, smv_y, if_pos rfl, rkc_d hs, ← srk_rkc, hrk, q_ps]
        · rw [hrk, q_eq (by omega) (by omega)] at g3
          omega
      · have e1 : ∀ r', Sh D side r' P (smv (swv1 D side (Int32.ofNat (r + 1)) n s).2 n ((swv1 D side (Int32.ofNat (r + 1)) n s).2 (5 * n) + sdX side) ((swv1 D side (Int32.ofNat (r + 1)) n s).2 (5 * n + 1) + sdY side)) a = Sh D side r' P (swv1 D side (Int32.ofNat (r + 1)) n s).2 a := fun r' => by
          simp only [Sh, srk_rkc, smv_x, smv_y, if_neg e]
        rw [e1, e1]
        exact ⟨fun h => (ih a ha).1 (by omega), fun h => (ih a ha).2 (by omega)⟩
    · refine ⟨fun h => ?_, fun h => (ih a ha).2 (by omega)⟩
      by_cases e : a = n
      · rcases (ih a ha).2 (by omega) with g | ⟨g1, g2, k, hk, g3⟩
        · exact Or.inl g
        · exact Or.inr ⟨g1, g2, k, by omega, g3⟩
      · exact (ih a ha).1 (by omega)
theorem wv_sh (hs : side < 4) : ∀ r, r ≤ 5 → ∀ a, a < nA D → Sh D side r P (swv D side r (0, P)).2 a
  | 0, _, _, _ => Or.inl ⟨rfl, rfl⟩
  | r + 1, hr, a, ha => (wv1_sh hs (by omega) (nA D) (swv D side r (0, P)) (Nat.le_refl _) (wv_sh hs r (by omega)) a ha).1 ha
theorem sd_nat : ∀ p, p < 6 → ∀ q, q < 6 → (Int32.ofNat q = Int32.ofNat p + (-1) → p = q + 1) ∧ (Int32.ofNat q = Int32.ofNat p + 1 → q = p + 1) ∧ (Int32.ofNat q = Int32.ofNat p + 0 → q = p) := by decide +kernel
theorem nd_step {u v x : Nat} (h : u = v ∨ u = v + 1 ∨ v = u + 1) : nd u x ≤ nd v x + 1 := by simp only [nd]; split <;> split <;> omega
theorem wdist_step (hD : OkD D C) (hs : side < 4) (hP : OkP D P) (ha : a < nA D) : wdist a x y P ≤ wdist a x y (swv D side 5 (0, P)).2 + 1 := by
  have hw := hD.w
  have hh := hD.h
  have hQ : OkP D (swv D side 5 (0, P)).2 := OkP.wv hD hs 5 (0, P) (Nat.le_refl _) hP
  obtain ⟨px, py, hpx, hpy, e1, e2⟩ := n_cases hD hP ha
  obtain ⟨qx, qy, hqx, hqy, f1, f2⟩ := n_cases hD hQ ha
  have hS := wv_sh (D := D) (P := P) hs 5 (Nat.le_refl _) a ha
  simp only [wdist, e1, e2, f1, f2, q_ix (show px < 2147483648 by omega), q_ix (show py < 2147483648 by omega), q_ix (show qx < 2147483648 by omega), q_ix (show qy < 2147483648 by omega)]
  obtain ⟨x1, x2, x3⟩ := sd_nat px (by omega) qx (by omega)
  obtain ⟨y1, y2, y3⟩ := sd_nat py (by omega) qy (by omega)
  rcases hS with ⟨g1, g2⟩ | ⟨g1, g2, -⟩
  · rw [e1, f1, q_eq (by omega) (by omega)] at g1
    rw [e2, f2, q_eq (by omega) (by omega)] at g2
    subst g1; subst g2
    omega
  · rw [e1, f1] at g1
    rw [e2, f2] at g2
    have hs4 : side = 0 ∨ side = 1 ∨ side = 2 ∨ side = 3 := by omega
    rcases hs4 with rfl | rfl | rfl | rfl
    · obtain rfl := y3 g2
      have := nd_step (u := px) (v := qx) (x := x) (by have := x1 g1; omega)
      omega
    · obtain rfl := y3 g2
      have := nd_step (u := px) (v := qx) (x := x) (by have := x2 g1; omega)
      omega
    · obtain rfl := x3 g1
      have := nd_step (u := py) (v := qy) (x := y) (by have := y2 g2; omega)
      omega
    · obtain rfl := x3 g1
      have := nd_step (u := py) (v := qy) (x := y) (by have := y1 g2; omega)
      omega
theorem wcut_no (hD : OkD D C) (ha : a < nA D) (hx : x < nW D) (hy : y < nH D) : ∀ (n : Nat) (P : PR), OkP D P → wcut a x y n P = true → wfind D a x y n P = none
  | 0, P, hP, h => by
    have hw := hD.w
    have hh := hD.h
    show (if wG a x y P = true then some [] else none) = none
    rw [if_neg]
    intro hG
    simp only [wG, decide_eq_true_eq] at hG
    simp only [wcut, wdist, decide_eq_true_eq, hG.1, hG.2, q_ix (show x < 2147483648 by omega), q_ix (show y < 2147483648 by omega), nd, Nat.lt_irrefl, if_false] at h
    omega
  | n + 1, P, hP, h => by
    refine gfst_of (fun c hc => ?_)
    show (wfind D a x y n (swv D c 5 (0, P)).2).map _ = none
    rw [wcut_no hD ha hx hy n (swv D c 5 (0, P)).2 (OkP.wv hD hc 5 (0, P) (Nat.le_refl _) hP) ?_]
    · rfl
    · have := wdist_step (x := x) (y := y) hD hc hP ha
      simp only [wcut, decide_eq_true_eq] at h ⊢
      omega
end WS
