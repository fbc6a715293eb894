/-! CALLS, 40: the best alone, in steps, and in the class -/
abbrev BA : Type := Nat × Option Nat × Nat
def secn (k : Nat) : Nat := ([1, 1, 2, 3, 1] : List Nat).getD k 0
def bG (P : PR) (b t : Nat) : PR := sget (spsec P b (t % 5)) b (t / 5) (t % 5)
def bM (D : TD) (P : PR) (b t : Nat) : PR := smiss D (spsec P b (t % 5)) b (t / 5) (t % 5)
def bodd (D : TD) (C : TC) (P : PR) (b t : Nat) : Nat := (sodds D C P b (t / 5) (t % 5)).toNatClampNeg
def badd (a : BA) (t v n : Nat) : BA := (if a.1 < v then v else a.1, if a.1 < v then some t else a.2.1, a.2.2 + n)
def bval (o g m : Nat) : Nat := (o * (1000000 + g) + (100 - o) * m) / 100
def bok (D : TD) (b left : Nat) (P : PR) (t : Nat) : Bool := if t = 50 then decide (2 ≤ left ∧ P (50 + 3 * b) < D 10 b) else decide (t / 5 < nA D ∧ secn (t % 5) ≤ left) && scan D P b (t / 5) (t % 5)
def bstep (re : Nat → PR → BA) (D : TD) (C : TC) (b left : Nat) (P : PR) (t : Nat) (a : BA) : BA := if bok D b left P t = true then (if t = 50 then badd a 50 (re (left - 2) (sbrea D P b)).1 (re (left - 2) (sbrea D P b)).2.2 else badd a t (bval (bodd D C P b t) (re (left - secn (t % 5)) (bG P b t)).1 (re (left - secn (t % 5)) (bM D P b t)).1) ((re (left - secn (t % 5)) (bG P b t)).2.2 + (re (left - secn (t % 5)) (bM D P b t)).2.2)) else a
def bfold (re : Nat → PR → BA) (D : TD) (C : TC) (b left : Nat) (P : PR) : Nat → BA
  | 0 => (0, none, 1)
  | t + 1 => bstep re D C b left P t (bfold re D C b left P t)
def bs (D : TD) (C : TC) (b : Nat) : Nat → Nat → PR → BA
  | 0, _, _ => (0, none, 1)
  | f + 1, left, P => bfold (bs D C b f) D C b left P 51
section BS
variable {D : TD} {C : TC} {P : PR} {b : Nat} {re : Nat → PR → BA} {left : Nat}
theorem secn_k {k : Nat} (hk : k < 5) : ssec k = Int32.ofNat (secn k) ∧ 1 ≤ secn k ∧ secn k ≤ 3 := by
  have hh : k = 0 ∨ k = 1 ∨ k = 2 ∨ k = 3 ∨ k = 4 := by omega
  rcases hh with rfl | rfl | rfl | rfl | rfl <;> exact ⟨rfl, by decide, by decide⟩
theorem sclamp_n (v : Int32) : ∃ o, o ≤ 100 ∧ sclamp v = Int32.ofNat o := by
  simp only [sclamp]
  split
  · exact ⟨0, by omega, rfl⟩
  · next h0 =>
    split
    · exact ⟨100, by omega, rfl⟩
    · next h1 =>
      by_cases h2 : v < Int32.ofNat 101
      · obtain ⟨k, hk, rfl⟩ := exn h0 h2 (by omega)
        exact ⟨k, by omega, rfl⟩
      · exfalso
        rw [Int32.lt_iff_toInt_lt] at h0 h1 h2
        have e0 : (0 : Int32).toInt = 0 := rfl
        have e1 : (100 : Int32).toInt = 100 := rfl
        have e2 : (Int32.ofNat 101).toInt = 101 := rfl
        omega
theorem bodd_n {t : Nat} : sodds D C P b (t / 5) (t % 5) = Int32.ofNat (bodd D C P b t) ∧ bodd D C P b t ≤ 100 := by
  obtain ⟨o, h1, h2⟩ := sclamp_n (sval (C (t % 5)) (sight D P b (t / 5) 0 0))
  have e : sodds D C P b (t / 5) (t % 5) = Int32.ofNat o := h2
  simp only [bodd, e, q_ix (show o < 2147483648 by omega)]
  exact ⟨trivial, h1⟩
theorem bval_le {o g m X : Nat} (ho : o ≤ 100) (hg : 1000000 + g ≤ X) (hm : m ≤ X) : bval o g m ≤ X ∧ o * (1000000 + g) + (100 - o) * m ≤ 100 * X := by
  have h1 : o * (1000000 + g) ≤ o * X := Nat.mul_le_mul_left o hg
  have h2 : (100 - o) * m ≤ (100 - o) * X := Nat.mul_le_mul_left _ hm
  have h3 : o * X + (100 - o) * X = 100 * X := by rw [← Nat.add_mul]; congr 1; omega
  have h4 : o * (1000000 + g) + (100 - o) * m ≤ 100 * X := by omega
  refine ⟨?_, h4⟩
  simp only [bval]
  omega
theorem mulK {x l s K : Nat} (h : x ≤ (l - s) * K) (h1 : 1 ≤ s) (h2 : s ≤ l) : K + x ≤ l * K ∧ x ≤ l * K := by
  obtain ⟨r, rfl⟩ : ∃ r, l = s + r := ⟨l - s, by omega⟩
  rw [Nat.add_sub_cancel_left] at h
  rw [Nat.add_mul]
  have : K ≤ s * K := Nat.le_mul_of_pos_left K h1
  omega
theorem ifle {a b X : Nat} (h1 : a ≤ X) (h2 : b ≤ X) : (if a < b then b else a) ≤ X := by split <;> assumption
theorem bfold_le (h : ∀ l P, l < left → (re l P).1 ≤ l * 1000000) : ∀ t, (bfold re D C b left P t).1 ≤ left * 1000000
  | 0 => Nat.zero_le _
  | t + 1 => by
    have ih := bfold_le h t
    simp only [bfold, bstep]
    split
    · next hk =>
      split
      · next h50 =>
        subst h50
        simp only [bok, if_true, decide_eq_true_eq] at hk
        exact ifle ih (mulK (h (left - 2) (sbrea D P b) (by omega)) (by omega) hk.1).2
      · next h50 =>
        simp only [bok, if_neg h50, Bool.and_eq_true, decide_eq_true_eq] at hk
        obtain ⟨s1, s2, s3⟩ := secn_k (Nat.mod_lt t (show 5 > 0 by omega))
        have g1 := mulK (h (left - secn (t % 5)) (bG P b t) (by omega)) s2 hk.1.2
        have g2 := mulK (h (left - secn (t % 5)) (bM D P b t) (by omega)) s2 hk.1.2
        exact ifle ih (bval_le bodd_n.2 g1.1 g2.2).1
    · exact ih
theorem bs_le : ∀ (f left : Nat) (P : PR), (bs D C b f left P).1 ≤ left * 1000000
  | 0, _, _ => Nat.zero_le _
  | f + 1, left, P => bfold_le (fun l P _ => bs_le f l P) 51
theorem bfold_mono : ∀ (t j : Nat), (bfold re D C b left P t).2.2 ≤ (bfold re D C b left P (t + j)).2.2
  | t, 0 => Nat.le_refl _
  | t, j + 1 => by
    have ih := bfold_mono t j
    refine Nat.le_trans ih ?_
    show _ ≤ (bstep re D C b left P (t + j) (bfold re D C b left P (t + j))).2.2
    simp only [bstep]
    split
    · split <;> simp only [badd] <;> omega
    · exact Nat.le_refl _
theorem bfold_1 (t : Nat) : 1 ≤ (bfold re D C b left P t).2.2 := by
  have := bfold_mono (re := re) (D := D) (C := C) (b := b) (left := left) (P := P) 0 t
  rw [Nat.zero_add] at this
  exact this
theorem bs_1 : ∀ (f left : Nat) (P : PR), 1 ≤ (bs D C b f left P).2.2
  | 0, _, _ => Nat.le_refl _
  | f + 1, left, P => bfold_1 51
theorem bfold_no {t : Nat} (h : bok D b left P t = false) : bfold re D C b left P (t + 1) = bfold re D C b left P t := by
  simp only [bfold, bstep, h, Bool.false_eq_true, if_false]
theorem bfold_skip {t : Nat} : ∀ j, (∀ u, t ≤ u → u < t + j → bok D b left P u = false) → bfold re D C b left P (t + j) = bfold re D C b left P t
  | 0, _ => rfl
  | j + 1, h => by
    rw [show t + (j + 1) = (t + j) + 1 by omega, bfold_no (h (t + j) (by omega) (by omega)), bfold_skip j (fun u h1 h2 => h u h1 (by omega))]
theorem bok_0 (t : Nat) : bok D b 0 P t = false := by
  simp only [bok]
  split
  · simp
  · have := (secn_k (Nat.mod_lt t (show 5 > 0 by omega))).2.1
    simp only [Bool.and_eq_false_iff, decide_eq_false_iff_not]
    left; omega
theorem bs_0 : ∀ f, bs D C b f 0 P = (0, none, 1)
  | 0 => rfl
  | f + 1 => by
    have := bfold_skip (re := bs D C b f) (D := D) (C := C) (b := b) (left := 0) (P := P) (t := 0) 51 (fun u _ _ => bok_0 u)
    rw [Nat.zero_add] at this
    exact this
theorem bok_hi {t : Nat} (h1 : 5 * nA D ≤ t) (h2 : t < 50) : bok D b left P t = false := by
  simp only [bok, if_neg (show ¬ t = 50 by omega), Bool.and_eq_false_iff, decide_eq_false_iff_not]
  left; omega
theorem q_64 {n : Nat} (h : n < 2147483648) : (Int32.ofNat n).toInt64 = Int64.ofNat n := Int32.toInt64_ofNat' (by rw [Int32.toInt_maxValue]; omega)
theorem bval_64 {o g m : Nat} (ho : o ≤ 100) (hg : g ≤ 8000000) (hm : m ≤ 8000000) : ((((Int32.ofNat o).toInt64 * (1000000 + (Int32.ofNat g).toInt64)) + ((100 - Int32.ofNat o).toInt64 * (Int32.ofNat m).toInt64)) / 100).toInt32 = Int32.ofNat (bval o g m) := by
  have h2 := (bval_le (o := o) (g := g) (m := m) (X := 9000000) ho (by omega) (by omega)).2
  rw [show (100 : Int32) = Int32.ofNat 100 from rfl, q_sub ho, q_64 (by omega), q_64 (by omega), q_64 (by omega), q_64 (by omega), show (1000000 : Int64) = Int64.ofNat 1000000 from rfl, show (100 : Int64) = Int64.ofNat 100 from rfl, ← Int64.ofNat_add, ← Int64.ofNat_mul, ← Int64.ofNat_mul, ← Int64.ofNat_add, ← Int64.ofNat_div (by omega) (by omega)]
  exact Int64.toInt32_ofNat'
theorem bval_32 {o g m : Nat} (ho : o ≤ 100) (hg : g ≤ 8000000) (hm : m ≤ 8000000) : ((Int32.ofNat o * (1000000 + Int32.ofNat g)) + ((100 - Int32.ofNat o) * Int32.ofNat m)) / 100 = Int32.ofNat (bval o g m) := by
  have h2 := (bval_le (o := o) (g := g) (m := m) (X := 9000000) ho (by omega) (by omega)).2
  rw [show (100 : Int32) = Int32.ofNat 100 from rfl, q_sub ho, show (1000000 : Int32) = Int32.ofNat 1000000 from rfl, q_add, q_mul, q_mul, q_add, q_div (by omega) (by omega)]
  rfl
end BS
