/-! THE PURE PART: small laws of the functions' words -/
theorem q_ix {a : Nat} (h : a < 2147483648) : (Int32.ofNat a).toNatClampNeg = a := Int32.toNatClampNeg_ofNat_of_lt h
theorem q_lt {a b : Nat} (ha : a < 2147483648) (hb : b < 2147483648) : (Int32.ofNat a < Int32.ofNat b) = (a < b) := propext (Int32.ofNat_lt_iff_lt ha hb)
theorem q_le {a b : Nat} (ha : a < 2147483648) (hb : b < 2147483648) : (Int32.ofNat a ≤ Int32.ofNat b) = (a ≤ b) := propext (Int32.ofNat_le_iff_le ha hb)
theorem q_eq {a b : Nat} (ha : a < 2147483648) (hb : b < 2147483648) : (Int32.ofNat a = Int32.ofNat b) = (a = b) := by
  refine propext ⟨fun h => ?_, fun h => by rw [h]⟩
  rw [← q_ix ha, ← q_ix hb, h]
theorem q_ltn {a n : Nat} (ha : a < 2147483648) (hb : (OfNat.ofNat n : Nat) < 2147483648) : (Int32.ofNat a < (no_index (OfNat.ofNat n : Int32))) = (a < (OfNat.ofNat n : Nat)) := q_lt ha hb
theorem q_nlt {a n : Nat} (ha : a < 2147483648) (hb : (OfNat.ofNat n : Nat) < 2147483648) : ((no_index (OfNat.ofNat n : Int32)) < Int32.ofNat a) = ((OfNat.ofNat n : Nat) < a) := q_lt hb ha
theorem q_len {a n : Nat} (ha : a < 2147483648) (hb : (OfNat.ofNat n : Nat) < 2147483648) : (Int32.ofNat a ≤ (no_index (OfNat.ofNat n : Int32))) = (a ≤ (OfNat.ofNat n : Nat)) := q_le ha hb
theorem q_nle {a n : Nat} (ha : a < 2147483648) (hb : (OfNat.ofNat n : Nat) < 2147483648) : ((no_index (OfNat.ofNat n : Int32)) ≤ Int32.ofNat a) = ((OfNat.ofNat n : Nat) ≤ a) := q_le hb ha
theorem q_eqn {a n : Nat} (ha : a < 2147483648) (hb : (OfNat.ofNat n : Nat) < 2147483648) : (Int32.ofNat a = (no_index (OfNat.ofNat n : Int32))) = (a = (OfNat.ofNat n : Nat)) := q_eq ha hb
theorem q_neg {a : Nat} (ha : a < 2147483648) : (Int32.ofNat a < 0) = False := by
  rw [show (0 : Int32) = Int32.ofNat 0 from rfl, q_lt ha (by omega)]; simp
theorem q_m1 {a : Nat} (ha : a < 2147483648) : (Int32.ofNat a = -1) = False := by
  refine propext ⟨fun h => ?_, False.elim⟩
  have := q_neg ha
  rw [h] at this
  exact absurd this (by decide)
theorem q_m1' {a : Nat} (ha : a < 2147483648) : (-1 = Int32.ofNat a) = False := by
  rw [show ((-1 : Int32) = Int32.ofNat a) = (Int32.ofNat a = -1) from propext eq_comm, q_m1 ha]
theorem q_in {a n : Nat} (h : a < n) (ha : a < 2147483648) : vp_in (Int32.ofNat a) n = True := by
  refine eq_true ?_
  simp only [vp_in, q_ix ha, q_neg ha, false_or]
  omega
theorem q_inn {a n : Nat} (h : (OfNat.ofNat a : Nat) < n) (ha : (OfNat.ofNat a : Nat) < 2147483648) : vp_in (no_index (OfNat.ofNat a : Int32)) n = True := q_in h ha
theorem q_ixn {a : Nat} (ha : (OfNat.ofNat a : Nat) < 2147483648) : (no_index (OfNat.ofNat a : Int32)).toNatClampNeg = (OfNat.ofNat a : Nat) := q_ix ha
theorem q_add {a b : Nat} : Int32.ofNat a + Int32.ofNat b = Int32.ofNat (a + b) := (Int32.ofNat_add a b).symm
theorem q_mul {a b : Nat} : Int32.ofNat a * Int32.ofNat b = Int32.ofNat (a * b) := (Int32.ofNat_mul a b).symm
theorem q_addn {a n : Nat} : Int32.ofNat a + (no_index (OfNat.ofNat n : Int32)) = Int32.ofNat (a + (OfNat.ofNat n : Nat)) := q_add
theorem q_nadd {a n : Nat} : (no_index (OfNat.ofNat n : Int32)) + Int32.ofNat a = Int32.ofNat ((OfNat.ofNat n : Nat) + a) := q_add
theorem q_nmul {a n : Nat} : (no_index (OfNat.ofNat n : Int32)) * Int32.ofNat a = Int32.ofNat ((OfNat.ofNat n : Nat) * a) := q_mul
theorem q_muln {a n : Nat} : Int32.ofNat a * (no_index (OfNat.ofNat n : Int32)) = Int32.ofNat (a * (OfNat.ofNat n : Nat)) := q_mul
theorem q_subn {a n : Nat} (h : (OfNat.ofNat n : Nat) ≤ a) : Int32.ofNat a - (no_index (OfNat.ofNat n : Int32)) = Int32.ofNat (a - (OfNat.ofNat n : Nat)) := (Int32.ofNat_sub a n h).symm
theorem q_sub {a b : Nat} (h : b ≤ a) : Int32.ofNat a - Int32.ofNat b = Int32.ofNat (a - b) := (Int32.ofNat_sub a b h).symm
theorem q_divn {a n : Nat} (ha : a < 2147483648) (hb : (OfNat.ofNat n : Nat) < 2147483648) : Int32.ofNat a / (no_index (OfNat.ofNat n : Int32)) = Int32.ofNat (a / (OfNat.ofNat n : Nat)) := (Int32.ofNat_div ha hb).symm
theorem q_dec {a : Nat} : Int32.ofNat (a + 1) + (-1) = Int32.ofNat a := by
  rw [Int32.ofNat_add, Int32.add_assoc]
  exact Int32.add_zero _
theorem q_rmn {a n : Nat} (ha : a < 2147483648) (hb : (OfNat.ofNat n : Nat) < 2147483648) : Int32.ofNat a - Int32.ofNat a / (no_index (OfNat.ofNat n : Int32)) * (no_index (OfNat.ofNat n : Int32)) = Int32.ofNat (a % (OfNat.ofNat n : Nat)) := by
  rw [q_divn ha hb, q_muln, q_sub (Nat.div_mul_le_self _ _)]
  congr 1
  have := Nat.div_add_mod a n
  have h2 : (OfNat.ofNat n : Nat) = n := rfl
  rw [h2, Nat.mul_comm]; omega
theorem q_ck {α : Type} (o : Option α) : ck True o = o := ck_pos trivial
theorem q_cF {α : Type} (o : Option α) : ck False o = none := ck_neg id
theorem q_l {α β : Type} (e : β) (g : β → Option α) : lt e g = g e := rfl
theorem q_b1 {α β : Type} (x : β) (g : β → Option α) : b1 (some x) g = g x := rfl
theorem q_b2 {α β γ : Type} (x : β) (y : γ) (g : β → γ → Option α) : b2 (some (x, y)) g = g x y := rfl
theorem q_b3 {α β γ δ : Type} (x : β) (y : γ) (z : δ) (g : β → γ → δ → Option α) : b3 (some (x, y, z)) g = g x y z := rfl
theorem q_b4 {α β γ δ ε : Type} (x : β) (y : γ) (z : δ) (u : ε) (g : β → γ → δ → ε → Option α) : b4 (some (x, y, z, u)) g = g x y z u := rfl
theorem q_b5 {α β γ δ ε ζ : Type} (x : β) (y : γ) (z : δ) (u : ε) (v : ζ) (g : β → γ → δ → ε → ζ → Option α) : b5 (some (x, y, z, u, v)) g = g x y z u v := rfl
theorem q_bEl {α β : Type} (x : β) (g : β → Option α) : bE (some (.inl x : β ⊕ α)) g = g x := rfl
theorem q_bEr {α β : Type} (x : α) (g : β → Option α) : bE (some (.inr x : β ⊕ α)) g = some x := rfl
theorem q_si {α : Type} (c : Prop) [Decidable c] (x y : α) : (if c then some x else some y) = some (if c then x else y) := by split <;> rfl
theorem q_c0 (c : Prop) [Decidable c] : ((if c then (0 : Int32) else 1) = 0) = c := by
  by_cases h : c <;> simp [h]
theorem q_c1 (c : Prop) [Decidable c] : ((if c then (1 : Int32) else 0) = 0) = ¬ c := by
  by_cases h : c <;> simp [h]
theorem q_or1 (c : Prop) [Decidable c] : (((if c then (1 : Int32) else 0) = 0) ∨ ((if c then (1 : Int32) else 0) = 1)) = True := by
  by_cases h : c <;> simp [h]
theorem q_pb {α : Type} (g : Bool) (x : α) : (if g = true then ((1 : Int32), x) else (0, x)) = ((if g then 1 else 0), x) := by cases g <;> rfl
theorem q_nn {α : Type} (c : Prop) [Decidable c] (x y : α) : (if ¬ c then x else y) = (if c then y else x) := by
  by_cases h : c <;> simp [h]
/-- the plain steps of the functions -/
theorem QB : (∀ {α : Type} (o : Option α), ck True o = o) ∧ (∀ {α β : Type} (e : β) (g : β → Option α), lt e g = g e) ∧ (∀ {α β : Type} (x : β) (g : β → Option α), b1 (some x) g = g x) ∧ (∀ {α β γ : Type} (x : β) (y : γ) (g : β → γ → Option α), b2 (some (x, y)) g = g x y) ∧ (∀ {α β γ δ : Type} (x : β) (y : γ) (z : δ) (g : β → γ → δ → Option α), b3 (some (x, y, z)) g = g x y z) ∧ (∀ {α β γ δ ε : Type} (x : β) (y : γ) (z : δ) (u : ε) (g : β → γ → δ → ε → Option α), b4 (some (x, y, z, u)) g = g x y z u) ∧ (∀ {α β γ δ ε ζ : Type} (x : β) (y : γ) (z : δ) (u : ε) (v : ζ) (g : β → γ → δ → ε → ζ → Option α), b5 (some (x, y, z, u, v)) g = g x y z u v) ∧ (∀ {α β : Type} (x : β) (g : β → Option α), bE (some (.inl x : β ⊕ α)) g = g x) ∧ (∀ {α β : Type} (x : α) (g : β → Option α), bE (some (.inr x : β ⊕ α)) g = some x) ∧ (∀ {α : Type} (c : Prop) [Decidable c] (x y : α), (if c then some x else some y) = some (if c then x else y)) ∧ (∀ (c : Prop) [Decidable c], ((if c then (0 : Int32) else 1) = 0) = c) ∧ (∀ (c : Prop) [Decidable c], ((if c then (1 : Int32) else 0) = 0) = ¬ c) ∧ (∀ (c : Prop) [Decidable c], (((if c then (1 : Int32) else 0) = 0) ∨ ((if c then (1 : Int32) else 0) = 1)) = True) ∧ (∀ {α : Type} (c : Prop) [Decidable c] (x y : α), (if ¬ c then x else y) = (if c then y else x)) ∧ ((0 : Int32) = 0) = True ∧ ((1 : Int32) = 0) = False ∧ ((-1 : Int32) = -1) = True ∧ ((1 : Int32) = 0 ∨ (1 : Int32) = 1) = True ∧ ((0 : Int32) = 0 ∨ (0 : Int32) = 1) = True :=
  ⟨fun o => q_ck o, fun _ _ => rfl, fun _ _ => rfl, fun _ _ _ => rfl, fun _ _ _ _ => rfl, fun _ _ _ _ _ => rfl, fun _ _ _ _ _ _ => rfl, fun _ _ => rfl, fun _ _ => rfl, fun c _ x y => q_si c x y, fun c _ => q_c0 c, fun c _ => q_c1 c, fun c _ => q_or1 c, fun c _ x y => q_nn c x y, by simp, by simp, by simp, by simp, by simp⟩
/-- numbers as indices (side conditions by omega) -/
theorem QN : (∀ {a : Nat}, a < 2147483648 → (Int32.ofNat a).toNatClampNeg = a) ∧ (∀ {a : Nat}, (OfNat.ofNat a : Nat) < 2147483648 → (no_index (OfNat.ofNat a : Int32)).toNatClampNeg = (OfNat.ofNat a : Nat)) ∧ (∀ {a n : Nat}, a < n → a < 2147483648 → vp_in (Int32.ofNat a) n = True) ∧ (∀ {a n : Nat}, (OfNat.ofNat a : Nat) < n → (OfNat.ofNat a : Nat) < 2147483648 → vp_in (no_index (OfNat.ofNat a : Int32)) n = True) ∧ (∀ {a b : Nat}, a < 2147483648 → b < 2147483648 → (Int32.ofNat a < Int32.ofNat b) = (a < b)) ∧ (∀ {a b : Nat}, a < 2147483648 → b < 2147483648 → (Int32.ofNat a ≤ Int32.ofNat b) = (a ≤ b)) ∧ (∀ {a b : Nat}, a < 2147483648 → b < 2147483648 → (Int32.ofNat a = Int32.ofNat b) = (a = b)) ∧ (∀ {a n : Nat}, a < 2147483648 → (OfNat.ofNat n : Nat) < 2147483648 → (Int32.ofNat a < (no_index (OfNat.ofNat n : Int32))) = (a < (OfNat.ofNat n : Nat))) ∧ (∀ {a n : Nat}, a < 2147483648 → (OfNat.ofNat n : Nat) < 2147483648 → ((no_index (OfNat.ofNat n : Int32)) < Int32.ofNat a) = ((OfNat.ofNat n : Nat) < a)) ∧ (∀ {a n : Nat}, a < 2147483648 → (OfNat.ofNat n : Nat) < 2147483648 → (Int32.ofNat a = (no_index (OfNat.ofNat n : Int32))) = (a = (OfNat.ofNat n : Nat))) ∧ (∀ {a : Nat}, a < 2147483648 → (Int32.ofNat a = -1) = False) ∧ (∀ {a b : Nat}, Int32.ofNat a + Int32.ofNat b = Int32.ofNat (a + b)) ∧ (∀ {a n : Nat}, Int32.ofNat a + (no_index (OfNat.ofNat n : Int32)) = Int32.ofNat (a + (OfNat.ofNat n : Nat))) ∧ (∀ {a n : Nat}, (no_index (OfNat.ofNat n : Int32)) + Int32.ofNat a = Int32.ofNat ((OfNat.ofNat n : Nat) + a)) ∧ (∀ {a n : Nat}, (no_index (OfNat.ofNat n : Int32)) * Int32.ofNat a = Int32.ofNat ((OfNat.ofNat n : Nat) * a)) ∧ (∀ {a n : Nat}, Int32.ofNat a * (no_index (OfNat.ofNat n : Int32)) = Int32.ofNat (a * (OfNat.ofNat n : Nat))) ∧ (∀ {a n : Nat}, (OfNat.ofNat n : Nat) ≤ a → Int32.ofNat a - (no_index (OfNat.ofNat n : Int32)) = Int32.ofNat (a - (OfNat.ofNat n : Nat))) ∧ (∀ {a n : Nat}, a < 2147483648 → (OfNat.ofNat n : Nat) < 2147483648 → Int32.ofNat a - Int32.ofNat a / (no_index (OfNat.ofNat n : Int32)) * (no_index (OfNat.ofNat n : Int32)) = Int32.ofNat (a % (OfNat.ofNat n : Nat))) ∧ (∀ {a n : Nat}, a < 2147483648 → (OfNat.ofNat n : Nat) < 2147483648 → Int32.ofNat a / (no_index (OfNat.ofNat n : Int32)) = Int32.ofNat (a / (OfNat.ofNat n : Nat))) ∧ (∀ {a : Nat}, Int32.ofNat (a + 1) + (-1) = Int32.ofNat a) ∧ (∀ {a : Nat}, (a < 0) = False) :=
  ⟨q_ix, q_ixn, q_in, q_inn, q_lt, q_le, q_eq, q_ltn, q_nlt, q_eqn, q_m1, q_add, q_addn, q_nadd, q_nmul, q_muln, q_subn, q_rmn, q_divn, q_dec, eq_false (Nat.not_lt_zero _)⟩
theorem wI_at {I : MI} {a i : Nat} {v : Int32} : wI I a i v a i = v := by simp [wI]
theorem wI_ne {I : MI} {a i b j : Nat} {v : Int32} (h : b ≠ a ∨ j ≠ i) : wI I a i v b j = I b j := by
  simp only [wI]
  split
  · split
    · omega
    · rfl
  · rfl
theorem wI_c {I : MI} {a i b : Nat} {v : Int32} (h : b ≠ a) : wI I a i v b = I b := wI_off h
theorem upd_at {f : Nat → Int32} {k : Nat} {v : Int32} : upd f k v k = v := by simp [upd]
theorem upd_ne {f : Nat → Int32} {k j : Nat} {v : Int32} (h : j ≠ k) : upd f k v j = f j := by simp [upd, h]
theorem upd_comm {f : Nat → Int32} {i j : Nat} {v w : Int32} (h : i ≠ j) : upd (upd f i v) j w = upd (upd f j w) i v := by
  funext k
  simp only [upd]
  split <;> split <;> first | rfl | omega
theorem upd_same {f : Nat → Int32} {i : Nat} {v w : Int32} : upd (upd f i v) i w = upd f i w := by
  funext k
  simp only [upd]
  split <;> rfl
theorem upd_id {f : Nat → Int32} {i : Nat} : upd f i (f i) = f := by
  funext k
  simp only [upd]
  split
  · next h => rw [h]
  · rfl
theorem exn {a : Int32} {n : Nat} (h0 : ¬ a < 0) (h : a < Int32.ofNat n) (hn : n < 2147483648) : ∃ k : Nat, k < n ∧ a = Int32.ofNat k := by
  have h1 : 0 ≤ a := by
    rw [← Int32.not_lt]; exact h0
  refine ⟨a.toNatClampNeg, ?_, (Int32.ofNat_toNatClampNeg a h1).symm⟩
  have h2 := Int32.ofNat_toNatClampNeg a h1
  rw [← h2, q_lt (Int32.toNatClampNeg_lt a) hn] at h
  exact h
