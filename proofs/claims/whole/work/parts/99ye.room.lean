/-! THE TEXT: the lengths of the codes stay in their room, whatever is read -/
def Ho {α : Type} (p : α → Prop) (o : Option α) : Prop := ∀ a, o = some a → p a
def hoP (a : MI × ML) : Prop := F6 a.1
def hoQ (a : Int32 × MI × ML) : Prop := F6 a.2.1
def hoR (a : Int32 × MI) : Prop := F6 a.2
section HOX
variable {α : Type} {r : α → Prop} {I : MI} {L : ML} {v : Int32} {a : Int32} {b : MI × ML} {c : Int32 × MI × ML}
theorem Ho.n : Ho r (none : Option α) := fun b e => by cases e
theorem Ho.sm (h : F6 I) : Ho F6 (some I) := fun b e => by cases e; exact h
theorem Ho.sp (h : F6 I) : Ho hoP (some (I, L)) := fun b e => by cases e; exact h
theorem Ho.sq (h : F6 I) : Ho hoQ (some (v, I, L)) := fun b e => by cases e; exact h
theorem Ho.sr (h : F6 I) : Ho hoR (some (v, I)) := fun b e => by cases e; exact h
theorem Ho.l {ν : Type} {v : ν} {f : ν → Option α} (h : Ho r (f v)) : Ho r (lt v f) := h
theorem Ho.kp {P : Prop} {o : Option α} (h : P → Ho r o) : Ho r (ck P o) := by
  by_cases g : P
  · rw [ck_pos g]; exact h g
  · rw [ck_neg g]; exact Ho.n
theorem Ho.k {P : Prop} {o : Option α} (h : Ho r o) : Ho r (ck P o) := Ho.kp (fun _ => h)
theorem Ho.i {P : Prop} [Decidable P] {x y : Option α} (h1 : Ho r x) (h2 : Ho r y) : Ho r (if P then x else y) := by
  split
  · exact h1
  · exact h2
theorem ho_b1 {β : Type} {p : β → Prop} {o : Option β} {f : β → Option α} (h : Ho p o) (k : ∀ a, p a → Ho r (f a)) : Ho r (b1 o f) := by
  cases o with
  | none => exact Ho.n
  | some a => exact k a (h a rfl)
theorem Ho.bi {o : Option Int32} {f : Int32 → Option α} (k : ∀ a, Ho r (f a)) : Ho r (b1 o f) := ho_b1 (p := fun _ => True) (fun _ _ => trivial) (fun a _ => k a)
theorem Ho.bl {o : Option (Int32 × ML)} {f : Int32 × ML → Option α} (k : ∀ a, Ho r (f a)) : Ho r (b1 o f) := ho_b1 (p := fun _ => True) (fun _ _ => trivial) (fun a _ => k a)
theorem Ho.bm {o : Option MI} {f : MI → Option α} (h : Ho F6 o) (k : ∀ a, F6 a → Ho r (f a)) : Ho r (b1 o f) := ho_b1 h k
theorem Ho.bp {o : Option (MI × ML)} {f : MI × ML → Option α} (h : Ho hoP o) (k : ∀ a, F6 a.1 → Ho r (f a)) : Ho r (b1 o f) := ho_b1 h k
theorem Ho.bq {o : Option (Int32 × MI × ML)} {f : Int32 × MI × ML → Option α} (h : Ho hoQ o) (k : ∀ a, F6 a.2.1 → Ho r (f a)) : Ho r (b1 o f) := ho_b1 h k
theorem Ho.br {o : Option (Int32 × MI)} {f : Int32 × MI → Option α} (h : Ho hoR o) (k : ∀ a, F6 a.2 → Ho r (f a)) : Ho r (b1 o f) := ho_b1 h k
theorem ho_b2 {o : Option (MI × ML)} {f : MI → ML → Option α} (h : Ho hoP o) (k : ∀ a b, F6 a → Ho r (f a b)) : Ho r (b2 o f) := ho_b1 h (fun a ha => k a.1 a.2 ha)
theorem ho_b3 {o : Option (Int32 × MI × ML)} {f : Int32 → MI → ML → Option α} (h : Ho hoQ o) (k : ∀ a b c, F6 b → Ho r (f a b c)) : Ho r (b3 o f) := ho_b1 h (fun a ha => k a.1 a.2.1 a.2.2 ha)
theorem ho_w {x i : Nat} {v : Int32} (hx : x ≠ 106) (h : F6 I) : F6 (wI I x i v) := F6.c h (wI_c (fun e => hx e.symm))
theorem ho_w6 {s : Nat} {n : Nat} (hs : 320 * s + n ≤ 3520) (h : F6 I) : F6 (wI I 106 s (Int32.ofNat n)) := fun i hi => by
  by_cases e : i = s
  · subst e; exact ⟨n, hs, wI_at⟩
  · obtain ⟨m, m1, m2⟩ := h i hi
    exact ⟨m, m1, by rw [wI_ne (Or.inr e)]; exact m2⟩
theorem vp_e {v : Int32} {n : Nat} (h : vp_in v n) : ∃ k, k < n ∧ v = Int32.ofNat k := by
  simp only [vp_in, not_or] at h
  have h1 : 0 ≤ v := by
    rw [← Int32.not_lt]; exact h.1
  exact ⟨v.toNatClampNeg, by omega, (Int32.ofNat_toNatClampNeg v h1).symm⟩
theorem ho_token_L0_n  : ∀ (n : Nat) (I : MI), F6 I → Ho F6 (x11_token_L0 n I)
  | 0, I, _ => Ho.n
  | n + 1, I, h => by
    have ih := ho_token_L0_n n
    rw [x11_token_L0, x11_token_L0s]
    repeat' (first | with_reducible assumption | with_reducible intro _ | with_reducible apply ih | with_reducible apply Ho.l | with_reducible apply Ho.k | with_reducible apply Ho.i | with_reducible apply Ho.sm | with_reducible apply Ho.sp | with_reducible apply Ho.sq | with_reducible apply Ho.sr | with_reducible apply ho_b3 | with_reducible apply ho_b2 | with_reducible apply Ho.bi | with_reducible apply Ho.bl | with_reducible apply Ho.bm | with_reducible apply Ho.bp | with_reducible apply Ho.bq | with_reducible apply Ho.br | (with_reducible refine ho_w (by decide) ?_))
theorem ho_token_L0  {n : Nat} {I : MI} (h : F6 I) : Ho F6 (x11_token_L0 n I) := ho_token_L0_n n _ h
theorem ho_token_L144_n  : ∀ (n : Nat) (w2 : Int32) (I : MI), F6 I → Ho hoR (x11_token_L144 n w2 I)
  | 0, w2, I, _ => Ho.n
  | n + 1, w2, I, h => by
    have ih := ho_token_L144_n n
    rw [x11_token_L144, x11_token_L144s]
    repeat' (first | with_reducible assumption | with_reducible intro _ | with_reducible apply ih | with_reducible apply Ho.l | with_reducible apply Ho.k | with_reducible apply Ho.i | with_reducible apply Ho.sm | with_reducible apply Ho.sp | with_reducible apply Ho.sq | with_reducible apply Ho.sr | with_reducible apply ho_b3 | with_reducible apply ho_b2 | with_reducible apply Ho.bi | with_reducible apply Ho.bl | with_reducible apply Ho.bm | with_reducible apply Ho.bp | with_reducible apply Ho.bq | with_reducible apply Ho.br | (with_reducible refine ho_w (by decide) ?_))
theorem ho_token_L144  {n : Nat} {w2 : Int32} {I : MI} (h : F6 I) : Ho hoR (x11_token_L144 n w2 I) := ho_token_L144_n n _ _ h
theorem ho_token  (h : F6 I) : Ho hoP (x11_token I L) := by
  rw [x11_token]
  repeat' (first | with_reducible assumption | with_reducible intro _ | with_reducible apply ho_token_L0 | with_reducible apply ho_token_L144 | with_reducible apply Ho.l | with_reducible apply Ho.k | with_reducible apply Ho.i | with_reducible apply Ho.sm | with_reducible apply Ho.sp | with_reducible apply Ho.sq | with_reducible apply Ho.sr | with_reducible apply ho_b3 | with_reducible apply ho_b2 | with_reducible apply Ho.bi | with_reducible apply Ho.bl | with_reducible apply Ho.bm | with_reducible apply Ho.bp | with_reducible apply Ho.bq | with_reducible apply Ho.br | (with_reducible refine ho_w (by decide) ?_))
theorem ho_wrong {p1 : Int32} (h : F6 I) : Ho F6 (x11_wrong p1 I) := by
  rw [x11_wrong]
  repeat' (first | with_reducible assumption | with_reducible intro _ | with_reducible apply Ho.l | with_reducible apply Ho.k | with_reducible apply Ho.i | with_reducible apply Ho.sm | with_reducible apply Ho.sp | with_reducible apply Ho.sq | with_reducible apply Ho.sr | with_reducible apply ho_b3 | with_reducible apply ho_b2 | with_reducible apply Ho.bi | with_reducible apply Ho.bl | with_reducible apply Ho.bm | with_reducible apply Ho.bp | with_reducible apply Ho.bq | with_reducible apply Ho.br | (with_reducible refine ho_w (by decide) ?_))
theorem ho_want {p1 : Int64} (h : F6 I) : Ho hoP (x11_want p1 I L) := by
  rw [x11_want]
  repeat' (first | with_reducible assumption | with_reducible intro _ | with_reducible apply ho_wrong | with_reducible apply ho_token | with_reducible apply Ho.l | with_reducible apply Ho.k | with_reducible apply Ho.i | with_reducible apply Ho.sm | with_reducible apply Ho.sp | with_reducible apply Ho.sq | with_reducible apply Ho.sr | with_reducible apply ho_b3 | with_reducible apply ho_b2 | with_reducible apply Ho.bi | with_reducible apply Ho.bl | with_reducible apply Ho.bm | with_reducible apply Ho.bp | with_reducible apply Ho.bq | with_reducible apply Ho.br | (with_reducible refine ho_w (by decide) ?_))
theorem ho_toldNumber {p1 : Int32} {p2 : Int32} (h : F6 I) : Ho hoQ (x11_toldNumber p1 p2 I L) := by
  rw [x11_toldNumber]
  repeat' (first | with_reducible assumption | with_reducible intro _ | with_reducible apply ho_wrong | with_reducible apply ho_token | with_reducible apply Ho.l | with_reducible apply Ho.k | with_reducible apply Ho.i | with_reducible apply Ho.sm | with_reducible apply Ho.sp | with_reducible apply Ho.sq | with_reducible apply Ho.sr | with_reducible apply ho_b3 | with_reducible apply ho_b2 | with_reducible apply Ho.bi | with_reducible apply Ho.bl | with_reducible apply Ho.bm | with_reducible apply Ho.bp | with_reducible apply Ho.bq | with_reducible apply Ho.br | (with_reducible refine ho_w (by decide) ?_))
theorem ho_told {p1 : Int64} {p3 : Int32} {p4 : Int32} (h : F6 I) : Ho hoQ (x11_told p1 p3 p4 I L) := by
  rw [x11_told]
  repeat' (first | with_reducible assumption | with_reducible intro _ | with_reducible apply ho_want | with_reducible apply ho_toldNumber | with_reducible apply Ho.l | with_reducible apply Ho.k | with_reducible apply Ho.i | with_reducible apply Ho.sm | with_reducible apply Ho.sp | with_reducible apply Ho.sq | with_reducible apply Ho.sr | with_reducible apply ho_b3 | with_reducible apply ho_b2 | with_reducible apply Ho.bi | with_reducible apply Ho.bl | with_reducible apply Ho.bm | with_reducible apply Ho.bp | with_reducible apply Ho.bq | with_reducible apply Ho.br | (with_reducible refine ho_w (by decide) ?_))
theorem ho_readBite  (h : F6 I) : Ho hoP (x11_readBite I L) := by
  rw [x11_readBite]
  repeat' (first | with_reducible assumption | with_reducible intro _ | with_reducible apply ho_told | with_reducible apply Ho.l | with_reducible apply Ho.k | with_reducible apply Ho.i | with_reducible apply Ho.sm | with_reducible apply Ho.sp | with_reducible apply Ho.sq | with_reducible apply Ho.sr | with_reducible apply ho_b3 | with_reducible apply ho_b2 | with_reducible apply Ho.bi | with_reducible apply Ho.bl | with_reducible apply Ho.bm | with_reducible apply Ho.bp | with_reducible apply Ho.bq | with_reducible apply Ho.br | (with_reducible refine ho_w (by decide) ?_))
theorem ho_readDraw  (h : F6 I) : Ho hoP (x11_readDraw I L) := by
  rw [x11_readDraw]
  repeat' (first | with_reducible assumption | with_reducible intro _ | with_reducible apply ho_told | with_reducible apply Ho.l | with_reducible apply Ho.k | with_reducible apply Ho.i | with_reducible apply Ho.sm | with_reducible apply Ho.sp | with_reducible apply Ho.sq | with_reducible apply Ho.sr | with_reducible apply ho_b3 | with_reducible apply ho_b2 | with_reducible apply Ho.bi | with_reducible apply Ho.bl | with_reducible apply Ho.bm | with_reducible apply Ho.bp | with_reducible apply Ho.bq | with_reducible apply Ho.br | (with_reducible refine ho_w (by decide) ?_))
theorem ho_newName {p1 : Int32} {p2 : Int32} (h : F6 I) : Ho hoP (x11_newName p1 p2 I L) := by
  rw [x11_newName]
  repeat' (first | with_reducible assumption | with_reducible intro _ | with_reducible apply ho_token | with_reducible apply ho_wrong | with_reducible apply Ho.l | with_reducible apply Ho.k | with_reducible apply Ho.i | with_reducible apply Ho.sm | with_reducible apply Ho.sp | with_reducible apply Ho.sq | with_reducible apply Ho.sr | with_reducible apply ho_b3 | with_reducible apply ho_b2 | with_reducible apply Ho.bi | with_reducible apply Ho.bl | with_reducible apply Ho.bm | with_reducible apply Ho.bp | with_reducible apply Ho.bq | with_reducible apply Ho.br | (with_reducible refine ho_w (by decide) ?_))
theorem ho_takes {p1 : Int64} (h : F6 I) : Ho hoQ (x11_takes p1 I L) := by
  rw [x11_takes]
  repeat' (first | with_reducible assumption | with_reducible intro _ | with_reducible apply ho_token | with_reducible apply Ho.l | with_reducible apply Ho.k | with_reducible apply Ho.i | with_reducible apply Ho.sm | with_reducible apply Ho.sp | with_reducible apply Ho.sq | with_reducible apply Ho.sr | with_reducible apply ho_b3 | with_reducible apply ho_b2 | with_reducible apply Ho.bi | with_reducible apply Ho.bl | with_reducible apply Ho.bm | with_reducible apply Ho.bp | with_reducible apply Ho.bq | with_reducible apply Ho.br | (with_reducible refine ho_w (by decide) ?_))
theorem ho_readBy  (h : F6 I) : Ho hoP (x11_readBy I L) := by
  rw [x11_readBy]
  repeat' (first | with_reducible assumption | with_reducible intro _ | with_reducible apply ho_wrong | with_reducible apply ho_token | with_reducible apply Ho.l | with_reducible apply Ho.k | with_reducible apply Ho.i | with_reducible apply Ho.sm | with_reducible apply Ho.sp | with_reducible apply Ho.sq | with_reducible apply Ho.sr | with_reducible apply ho_b3 | with_reducible apply ho_b2 | with_reducible apply Ho.bi | with_reducible apply Ho.bl | with_reducible apply Ho.bm | with_reducible apply Ho.bp | with_reducible apply Ho.bq | with_reducible apply Ho.br | (with_reducible refine ho_w (by decide) ?_))
theorem ho_readBobber  (h : F6 I) : Ho hoP (x11_readBobber I L) := by
  rw [x11_readBobber]
  repeat' (first | with_reducible assumption | with_reducible intro _ | with_reducible apply ho_newName | with_reducible apply ho_want | with_reducible apply ho_toldNumber | with_reducible apply ho_told | with_reducible apply ho_takes | with_reducible apply ho_readBy | with_reducible apply Ho.l | with_reducible apply Ho.k | with_reducible apply Ho.i | with_reducible apply Ho.sm | with_reducible apply Ho.sp | with_reducible apply Ho.sq | with_reducible apply Ho.sr | with_reducible apply ho_b3 | with_reducible apply ho_b2 | with_reducible apply Ho.bi | with_reducible apply Ho.bl | with_reducible apply Ho.bm | with_reducible apply Ho.bp | with_reducible apply Ho.bq | with_reducible apply Ho.br | (with_reducible refine ho_w (by decide) ?_))
theorem ho_wrongAt {p1 : Int32} {p2 : Int32} (h : F6 I) : Ho F6 (x11_wrongAt p1 p2 I) := by
  rw [x11_wrongAt]
  repeat' (first | with_reducible assumption | with_reducible intro _ | with_reducible apply Ho.l | with_reducible apply Ho.k | with_reducible apply Ho.i | with_reducible apply Ho.sm | with_reducible apply Ho.sp | with_reducible apply Ho.sq | with_reducible apply Ho.sr | with_reducible apply ho_b3 | with_reducible apply ho_b2 | with_reducible apply Ho.bi | with_reducible apply Ho.bl | with_reducible apply Ho.bm | with_reducible apply Ho.bp | with_reducible apply Ho.bq | with_reducible apply Ho.br | (with_reducible refine ho_w (by decide) ?_))
theorem ho_readApple_L64_n {c1 : Int32} : ∀ (n : Nat) (w2 : Int32) (I : MI), F6 I → Ho F6 (x11_readApple_L64 c1 n w2 I)
  | 0, w2, I, _ => Ho.n
  | n + 1, w2, I, h => by
    have ih := ho_readApple_L64_n (c1 := c1) n
    rw [x11_readApple_L64, x11_readApple_L64s]
    repeat' (first | with_reducible assumption | with_reducible intro _ | with_reducible apply ih | with_reducible apply ho_wrongAt | with_reducible apply Ho.l | with_reducible apply Ho.k | with_reducible apply Ho.i | with_reducible apply Ho.sm | with_reducible apply Ho.sp | with_reducible apply Ho.sq | with_reducible apply Ho.sr | with_reducible apply ho_b3 | with_reducible apply ho_b2 | with_reducible apply Ho.bi | with_reducible apply Ho.bl | with_reducible apply Ho.bm | with_reducible apply Ho.bp | with_reducible apply Ho.bq | with_reducible apply Ho.br | (with_reducible refine ho_w (by decide) ?_))
theorem ho_readApple_L64 {c1 : Int32} {n : Nat} {w2 : Int32} {I : MI} (h : F6 I) : Ho F6 (x11_readApple_L64 c1 n w2 I) := ho_readApple_L64_n n _ _ h
theorem ho_readApple  (h : F6 I) : Ho hoP (x11_readApple I L) := by
  rw [x11_readApple]
  repeat' (first | with_reducible assumption | with_reducible intro _ | with_reducible apply ho_newName | with_reducible apply ho_want | with_reducible apply ho_toldNumber | with_reducible apply ho_readApple_L64 | with_reducible apply ho_told | with_reducible apply ho_takes | with_reducible apply Ho.l | with_reducible apply Ho.k | with_reducible apply Ho.i | with_reducible apply Ho.sm | with_reducible apply Ho.sp | with_reducible apply Ho.sq | with_reducible apply Ho.sr | with_reducible apply ho_b3 | with_reducible apply ho_b2 | with_reducible apply Ho.bi | with_reducible apply Ho.bl | with_reducible apply Ho.bm | with_reducible apply Ho.bp | with_reducible apply Ho.bq | with_reducible apply Ho.br | (with_reducible refine ho_w (by decide) ?_))
theorem ho_countUnit  (h : F6 I) : Ho F6 (x11_countUnit I) := by
  rw [x11_countUnit]
  repeat' (first | with_reducible assumption | with_reducible intro _ | with_reducible apply Ho.l | with_reducible apply Ho.k | with_reducible apply Ho.i | with_reducible apply Ho.sm | with_reducible apply Ho.sp | with_reducible apply Ho.sq | with_reducible apply Ho.sr | with_reducible apply ho_b3 | with_reducible apply ho_b2 | with_reducible apply Ho.bi | with_reducible apply Ho.bl | with_reducible apply Ho.bm | with_reducible apply Ho.bp | with_reducible apply Ho.bq | with_reducible apply Ho.br | (with_reducible refine ho_w (by decide) ?_))
theorem ho_openUp {p1 : Int32} (h : F6 I) : Ho hoP (x11_openUp p1 I L) := by
  rw [x11_openUp]
  repeat' (first | with_reducible assumption | with_reducible intro _ | with_reducible apply ho_token | with_reducible apply Ho.l | with_reducible apply Ho.k | with_reducible apply Ho.i | with_reducible apply Ho.sm | with_reducible apply Ho.sp | with_reducible apply Ho.sq | with_reducible apply Ho.sr | with_reducible apply ho_b3 | with_reducible apply ho_b2 | with_reducible apply Ho.bi | with_reducible apply Ho.bl | with_reducible apply Ho.bm | with_reducible apply Ho.bp | with_reducible apply Ho.bq | with_reducible apply Ho.br | (with_reducible refine ho_w (by decide) ?_))
theorem ho_unit_L2_n  : ∀ (n : Nat) (w1 : Int32) (I : MI) (L : ML), F6 I → Ho hoP (x11_unit_L2 n w1 I L)
  | 0, w1, I, L, _ => Ho.n
  | n + 1, w1, I, L, h => by
    have ih := ho_unit_L2_n n
    rw [x11_unit_L2, x11_unit_L2s]
    repeat' (first | with_reducible assumption | with_reducible intro _ | with_reducible apply ih | with_reducible apply ho_wrong | with_reducible apply ho_countUnit | with_reducible apply ho_openUp | with_reducible apply Ho.l | with_reducible apply Ho.k | with_reducible apply Ho.i | with_reducible apply Ho.sm | with_reducible apply Ho.sp | with_reducible apply Ho.sq | with_reducible apply Ho.sr | with_reducible apply ho_b3 | with_reducible apply ho_b2 | with_reducible apply Ho.bi | with_reducible apply Ho.bl | with_reducible apply Ho.bm | with_reducible apply Ho.bp | with_reducible apply Ho.bq | with_reducible apply Ho.br | (with_reducible refine ho_w (by decide) ?_))
theorem ho_unit_L2  {n : Nat} {w1 : Int32} {I : MI} {L : ML} (h : F6 I) : Ho hoP (x11_unit_L2 n w1 I L) := ho_unit_L2_n n _ _ _ h
theorem ho_add {p1 p2 : Int32} (h : F6 I) : Ho F6 (x11_add p1 p2 I) := by
  rw [x11_add]
  refine Ho.kp (fun g1 => Ho.kp (fun g2 => Ho.l (Ho.k (Ho.k (Ho.l (Ho.k (Ho.k (Ho.l (Ho.sm ?_)))))))))
  obtain ⟨s, hs, es⟩ := vp_e g1
  obtain ⟨n, m1, m2⟩ := h s hs
  rw [es, show ix (Int32.ofNat s) = s from q_ix (by omega), m2, show (320 : Int32) = Int32.ofNat 320 from rfl, q_mul, q_add] at g2
  obtain ⟨j, hj, ej⟩ := vp_e g2
  rw [q_eq (by omega) (by omega)] at ej
  generalize hK : wI (wI I 104 _ p1) 105 _ p2 = K
  have k1 : K 102 18 = Int32.ofNat s := by rw [← hK, wI_c (by omega), wI_c (by omega)]; exact es
  have k2 : K 106 s = Int32.ofNat n := by rw [← hK, wI_c (by omega), wI_c (by omega)]; exact m2
  have hk : F6 K := by rw [← hK]; exact ho_w (by decide) (ho_w (by decide) h)
  rw [k1, show ix (Int32.ofNat s) = s from q_ix (by omega), k2, q_addn]
  exact ho_w6 (by show 320 * s + (n + 1) ≤ 3520; omega) hk
theorem ho_unit  (h : F6 I) : Ho hoP (x11_unit I L) := by
  rw [x11_unit]
  repeat' (first | with_reducible assumption | with_reducible intro _ | with_reducible apply ho_unit_L2 | with_reducible apply ho_wrong | with_reducible apply ho_countUnit | with_reducible apply ho_add | with_reducible apply ho_token | with_reducible apply Ho.l | with_reducible apply Ho.k | with_reducible apply Ho.i | with_reducible apply Ho.sm | with_reducible apply Ho.sp | with_reducible apply Ho.sq | with_reducible apply Ho.sr | with_reducible apply ho_b3 | with_reducible apply ho_b2 | with_reducible apply Ho.bi | with_reducible apply Ho.bl | with_reducible apply Ho.bm | with_reducible apply Ho.bp | with_reducible apply Ho.bq | with_reducible apply Ho.br | (with_reducible refine ho_w (by decide) ?_))
theorem ho_close_L0_n {c1 : Int32} : ∀ (n : Nat) (I : MI), F6 I → Ho F6 (x11_close_L0 c1 n I)
  | 0, I, _ => Ho.n
  | n + 1, I, h => by
    have ih := ho_close_L0_n (c1 := c1) n
    rw [x11_close_L0, x11_close_L0s]
    repeat' (first | with_reducible assumption | with_reducible intro _ | with_reducible apply ih | with_reducible apply ho_add | with_reducible apply Ho.l | with_reducible apply Ho.k | with_reducible apply Ho.i | with_reducible apply Ho.sm | with_reducible apply Ho.sp | with_reducible apply Ho.sq | with_reducible apply Ho.sr | with_reducible apply ho_b3 | with_reducible apply ho_b2 | with_reducible apply Ho.bi | with_reducible apply Ho.bl | with_reducible apply Ho.bm | with_reducible apply Ho.bp | with_reducible apply Ho.bq | with_reducible apply Ho.br | (with_reducible refine ho_w (by decide) ?_))
theorem ho_close_L0 {c1 : Int32} {n : Nat} {I : MI} (h : F6 I) : Ho F6 (x11_close_L0 c1 n I) := ho_close_L0_n n _ h
theorem ho_close {p1 : Int32} (h : F6 I) : Ho F6 (x11_close p1 I) := by
  rw [x11_close]
  repeat' (first | with_reducible assumption | with_reducible intro _ | with_reducible apply ho_close_L0 | with_reducible apply Ho.l | with_reducible apply Ho.k | with_reducible apply Ho.i | with_reducible apply Ho.sm | with_reducible apply Ho.sp | with_reducible apply Ho.sq | with_reducible apply Ho.sr | with_reducible apply ho_b3 | with_reducible apply ho_b2 | with_reducible apply Ho.bi | with_reducible apply Ho.bl | with_reducible apply Ho.bm | with_reducible apply Ho.bp | with_reducible apply Ho.bq | with_reducible apply Ho.br | (with_reducible refine ho_w (by decide) ?_))
theorem ho_formula_L36_n  : ∀ (n : Nat) (w2 : Int32) (I : MI) (L : ML), F6 I → Ho hoP (x11_formula_L36 n w2 I L)
  | 0, w2, I, L, _ => Ho.n
  | n + 1, w2, I, L, h => by
    have ih := ho_formula_L36_n n
    rw [x11_formula_L36, x11_formula_L36s]
    repeat' (first | with_reducible assumption | with_reducible intro _ | with_reducible apply ih | with_reducible apply ho_close | with_reducible apply ho_token | with_reducible apply ho_unit | with_reducible apply Ho.l | with_reducible apply Ho.k | with_reducible apply Ho.i | with_reducible apply Ho.sm | with_reducible apply Ho.sp | with_reducible apply Ho.sq | with_reducible apply Ho.sr | with_reducible apply ho_b3 | with_reducible apply ho_b2 | with_reducible apply Ho.bi | with_reducible apply Ho.bl | with_reducible apply Ho.bm | with_reducible apply Ho.bp | with_reducible apply Ho.bq | with_reducible apply Ho.br | (with_reducible refine ho_w (by decide) ?_))
theorem ho_formula_L36  {n : Nat} {w2 : Int32} {I : MI} {L : ML} (h : F6 I) : Ho hoP (x11_formula_L36 n w2 I L) := ho_formula_L36_n n _ _ _ h
theorem ho_formula {p1 : Int32} (h : F6 I) : Ho hoP (x11_formula p1 I L) := by
  rw [x11_formula]
  refine Ho.l (Ho.kp (fun g1 => Ho.l ?_))
  obtain ⟨s, hs, es⟩ := vp_e g1
  rw [es, show ix (Int32.ofNat s) = s from q_ix (by omega)]
  have h2 : F6 (wI (wI I 102 18 p1) 106 s 0) := ho_w6 (n := 0) (by omega) (ho_w (by decide) h)
  generalize wI (wI I 102 18 p1) 106 s 0 = I2 at h2 ⊢
  repeat' (first | with_reducible assumption | with_reducible intro _ | with_reducible apply ho_unit | with_reducible apply ho_formula_L36 | with_reducible apply ho_wrong | with_reducible apply ho_close | with_reducible apply Ho.l | with_reducible apply Ho.k | with_reducible apply Ho.i | with_reducible apply Ho.sm | with_reducible apply Ho.sp | with_reducible apply Ho.sq | with_reducible apply Ho.sr | with_reducible apply ho_b3 | with_reducible apply ho_b2 | with_reducible apply Ho.bi | with_reducible apply Ho.bl | with_reducible apply Ho.bm | with_reducible apply Ho.bp | with_reducible apply Ho.bq | with_reducible apply Ho.br | (with_reducible refine ho_w (by decide) ?_))
theorem ho_readRule  (h : F6 I) : Ho hoP (x11_readRule I L) := by
  rw [x11_readRule]
  repeat' (first | with_reducible assumption | with_reducible intro _ | with_reducible apply ho_newName | with_reducible apply ho_formula | with_reducible apply Ho.l | with_reducible apply Ho.k | with_reducible apply Ho.i | with_reducible apply Ho.sm | with_reducible apply Ho.sp | with_reducible apply Ho.sq | with_reducible apply Ho.sr | with_reducible apply ho_b3 | with_reducible apply ho_b2 | with_reducible apply Ho.bi | with_reducible apply Ho.bl | with_reducible apply Ho.bm | with_reducible apply Ho.bp | with_reducible apply Ho.bq | with_reducible apply Ho.br | (with_reducible refine ho_w (by decide) ?_))
theorem ho_readOdds  (h : F6 I) : Ho hoP (x11_readOdds I L) := by
  rw [x11_readOdds]
  repeat' (first | with_reducible assumption | with_reducible intro _ | with_reducible apply ho_token | with_reducible apply ho_wrong | with_reducible apply ho_formula | with_reducible apply Ho.l | with_reducible apply Ho.k | with_reducible apply Ho.i | with_reducible apply Ho.sm | with_reducible apply Ho.sp | with_reducible apply Ho.sq | with_reducible apply Ho.sr | with_reducible apply ho_b3 | with_reducible apply ho_b2 | with_reducible apply Ho.bi | with_reducible apply Ho.bl | with_reducible apply Ho.bm | with_reducible apply Ho.bp | with_reducible apply Ho.bq | with_reducible apply Ho.br | (with_reducible refine ho_w (by decide) ?_))
theorem ho_readTub  (h : F6 I) : Ho hoP (x11_readTub I L) := by
  rw [x11_readTub]
  repeat' (first | with_reducible assumption | with_reducible intro _ | with_reducible apply ho_told | with_reducible apply Ho.l | with_reducible apply Ho.k | with_reducible apply Ho.i | with_reducible apply Ho.sm | with_reducible apply Ho.sp | with_reducible apply Ho.sq | with_reducible apply Ho.sr | with_reducible apply ho_b3 | with_reducible apply ho_b2 | with_reducible apply Ho.bi | with_reducible apply Ho.bl | with_reducible apply Ho.bm | with_reducible apply Ho.bp | with_reducible apply Ho.bq | with_reducible apply Ho.br | (with_reducible refine ho_w (by decide) ?_))
theorem ho_readLine  (h : F6 I) : Ho hoP (x11_readLine I L) := by
  rw [x11_readLine]
  repeat' (first | with_reducible assumption | with_reducible intro _ | with_reducible apply ho_wrong | with_reducible apply ho_readBite | with_reducible apply ho_readDraw | with_reducible apply ho_readBobber | with_reducible apply ho_readApple | with_reducible apply ho_readRule | with_reducible apply ho_readOdds | with_reducible apply ho_readTub | with_reducible apply ho_token | with_reducible apply Ho.l | with_reducible apply Ho.k | with_reducible apply Ho.i | with_reducible apply Ho.sm | with_reducible apply Ho.sp | with_reducible apply Ho.sq | with_reducible apply Ho.sr | with_reducible apply ho_b3 | with_reducible apply ho_b2 | with_reducible apply Ho.bi | with_reducible apply Ho.bl | with_reducible apply Ho.bm | with_reducible apply Ho.bp | with_reducible apply Ho.bq | with_reducible apply Ho.br | (with_reducible refine ho_w (by decide) ?_))
theorem ho_readAll_L88_n  : ∀ (n : Nat) (I : MI) (L : ML), F6 I → Ho hoP (x11_readAll_L88 n I L)
  | 0, I, L, _ => Ho.n
  | n + 1, I, L, h => by
    have ih := ho_readAll_L88_n n
    rw [x11_readAll_L88, x11_readAll_L88s]
    repeat' (first | with_reducible assumption | with_reducible intro _ | with_reducible apply ih | with_reducible apply ho_readLine | with_reducible apply Ho.l | with_reducible apply Ho.k | with_reducible apply Ho.i | with_reducible apply Ho.sm | with_reducible apply Ho.sp | with_reducible apply Ho.sq | with_reducible apply Ho.sr | with_reducible apply ho_b3 | with_reducible apply ho_b2 | with_reducible apply Ho.bi | with_reducible apply Ho.bl | with_reducible apply Ho.bm | with_reducible apply Ho.bp | with_reducible apply Ho.bq | with_reducible apply Ho.br | (with_reducible refine ho_w (by decide) ?_))
theorem ho_readAll_L88  {n : Nat} {I : MI} {L : ML} (h : F6 I) : Ho hoP (x11_readAll_L88 n I L) := ho_readAll_L88_n n _ _ h
theorem ho_readAll  (h : F6 I) : Ho hoP (x11_readAll I L) := by
  rw [x11_readAll]
  repeat' (first | with_reducible assumption | with_reducible intro _ | with_reducible apply ho_token | with_reducible apply ho_readAll_L88 | with_reducible apply Ho.l | with_reducible apply Ho.k | with_reducible apply Ho.i | with_reducible apply Ho.sm | with_reducible apply Ho.sp | with_reducible apply Ho.sq | with_reducible apply Ho.sr | with_reducible apply ho_b3 | with_reducible apply ho_b2 | with_reducible apply Ho.bi | with_reducible apply Ho.bl | with_reducible apply Ho.bm | with_reducible apply Ho.bp | with_reducible apply Ho.bq | with_reducible apply Ho.br | (with_reducible refine ho_w (by decide) ?_))
end HOX
