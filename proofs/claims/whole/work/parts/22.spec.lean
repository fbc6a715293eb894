/-! WHAT PLAY DOES, as functions of a row of numbers (5 an apple: x, y, holder, missed, size; 3 a bobber from 50: breath, got, seconds; 62 the seed; records from 63; where they kneel from 123) and of what is told -/
abbrev TD : Type := Nat → Nat → Int32
abbrev TC : Type := Nat → List Int32
abbrev PR : Type := Nat → Int32
def nW (D : TD) : Nat := (D 0 0).toNatClampNeg
def nH (D : TD) : Nat := (D 0 1).toNatClampNeg
def nA (D : TD) : Nat := (D 0 4).toNatClampNeg
def nB (D : TD) : Nat := (D 0 11).toNatClampNeg
def nR (D : TD) : Nat := (D 0 18).toNatClampNeg
def oi (o : Option Nat) : Int32 := match o with
  | some a => Int32.ofNat a
  | none => -1
def iabs (x : Int32) : Int32 := if x < 0 then -x else x
def sdx (P : PR) (b a : Nat) : Int32 := P (5 * a) - P (123 + b)
def sdy (P : PR) (b a : Nat) : Int32 := P (5 * a + 1) - P (127 + b)
def sfar (P : PR) (b a : Nat) : Int32 := if iabs (sdy P b a) < iabs (sdx P b a) then iabs (sdx P b a) else iabs (sdy P b a)
def srim (D : TD) (x y : Int32) : Bool := decide (x = 0 ∨ x = D 0 0 - 1 ∨ y = 0 ∨ y = D 0 1 - 1)
def scell (D : TD) (x y : Int32) : Bool := decide (0 ≤ x ∧ x < D 0 0 ∧ 0 ≤ y ∧ y < D 0 1)
/-- the apple afloat in a cell, of the first n the last -/
def sat (P : PR) (x y : Int32) : Nat → Option Nat
  | 0 => none
  | n + 1 => if P (5 * n + 2) < 0 ∧ P (5 * n) = x ∧ P (5 * n + 1) = y then some n else sat P x y n
def swx (P : PR) (b a : Nat) : Int32 := if iabs (sdx P b a) < iabs (sdy P b a) then 0 else if sdx P b a = 0 then 0 else if sdx P b a < 0 then -1 else 1
def swy (P : PR) (b a : Nat) : Int32 := if iabs (sdx P b a) < iabs (sdy P b a) then (if sdy P b a < 0 then -1 else 1) else 0
def slean (D : TD) (P : PR) (b a : Nat) : Bool := decide (¬ (sdx P b a = 0 ∧ sdy P b a = 0)) && (sat P (P (5 * a) + swx P b a) (P (5 * a + 1) + swy P b a) (nA D)).isSome
def sbr (k : Nat) : Int32 := ([0, 0, 1, 3, 0] : List Int32).getD k 0
def ssec (k : Nat) : Int32 := ([1, 1, 2, 3, 1] : List Int32).getD k 0
def scan (D : TD) (P : PR) (b a k : Nat) : Bool := decide (P (5 * a + 2) < 0) && decide (¬ D 9 b < sfar P b a) && decide (¬ P (50 + 3 * b) < sbr k) && (decide (k ≠ 1) || decide (D 5 a = 1)) && (decide (k ≠ 2) || srim D (P (5 * a)) (P (5 * a + 1))) && (decide (k ≠ 4) || slean D P b a)
def sight (D : TD) (P : PR) (b a : Nat) (kd od : Int32) : Nat → Int32 := fun i => match i with
  | 0 => P (5 * a + 4)
  | 1 => D 4 a
  | 2 => D 5 a
  | 3 => if srim D (P (5 * a)) (P (5 * a + 1)) then 1 else 0
  | 4 => sfar P b a
  | 5 => P (5 * a + 3)
  | 6 => D 11 b
  | 7 => P (50 + 3 * b)
  | 8 => kd
  | _ => od
def sdo (op x y : Int32) : Int32 := if op = 24 then (if x = 0 then 0 else if y = 0 then 0 else 1) else if op = 37 then (if y = 0 then 0 else rm x y) else if op = 42 then x * y else if op = 43 then x + y else if op = 45 then x - y else if op = 47 then (if y = 0 then 0 else x / y) else if op = 60 then (if x < y then 1 else 0) else if op = 61 then (if x = y then 1 else 0) else if op = 62 then (if y < x then 1 else 0) else (if x = 0 then (if y = 0 then 0 else 1) else 1)
/-- one step over a stack (its top first) -/
def sst (g : Nat → Int32) (s : Int32) (st : List Int32) : List Int32 := if s < 20000 then (if s < 10000 then s else g (s - 10000).toNatClampNeg) :: st else if s = 20025 then (match st with
  | v :: r => (if v = 0 then 1 else 0) :: r
  | [] => []) else (match st with
  | v :: u :: r => sdo (s - 20000) u v :: r
  | r => r)
def srun (g : Nat → Int32) : List Int32 → List Int32 → List Int32
  | [], st => st
  | s :: c, st => srun g c (sst g s st)
/-- steps that go from a stack of d to one of e, at most 31 deep, and never below -/
def wfd : List Int32 → Nat → Nat → Prop
  | [], d, e => d = e
  | s :: c, d, e => (s < 20000 ∧ 0 ≤ s ∧ s < 10010 ∧ d < 31 ∧ wfd c (d + 1) e) ∨ (s = 20025 ∧ 1 ≤ d ∧ wfd c d e) ∨ (¬ s < 20000 ∧ s ≠ 20025 ∧ 2 ≤ d ∧ wfd c (d - 1) e)
def sval (c : List Int32) (g : Nat → Int32) : Int32 := (srun g c []).headD 0
def sclamp (v : Int32) : Int32 := if v < 0 then 0 else if 100 < v then 100 else v
def sodds (D : TD) (C : TC) (P : PR) (b a k : Nat) : Int32 := sclamp (sval (C k) (sight D P b a 0 0))
def sworth (D : TD) (C : TC) (P : PR) (b a k r : Nat) : Int32 := if nR D = 0 then 0 else sval (C (5 + r)) (sight D P b a (Int32.ofNat k) (sodds D C P b a k))
def sbet (o : Option (Nat × Int32)) (t : Nat) (w : Int32) : Option (Nat × Int32) := match o with
  | none => some (t, w)
  | some (u, m) => if m < w then some (t, w) else some (u, m)
/-- of the first n tries (5 * the apple and the kind) the first greatest, with its worth -/
def schs (D : TD) (C : TC) (P : PR) (b r : Nat) : Nat → Option (Nat × Int32)
  | 0 => none
  | t + 1 => if scan D P b (t / 5) (t % 5) then sbet (schs D C P b r t) t (sworth D C P b (t / 5) (t % 5) r) else schs D C P b r t
def sget (P : PR) (b a k : Nat) : PR := upd (upd (upd P (50 + 3 * b) (P (50 + 3 * b) - sbr k)) (5 * a + 2) (Int32.ofNat b)) (51 + 3 * b) (P (51 + 3 * b) + 1)
def smv (P : PR) (p : Nat) (x y : Int32) : PR := upd (upd P (5 * p) x) (5 * p + 1) y
/-- how many in a row are afloat in cells from this one on, n of them known -/
def srow (D : TD) (P : PR) (x y sx sy : Int32) : Nat → Nat → Nat
  | 0, n => n
  | f + 1, n => if scell D (x + Int32.ofNat n * sx) (y + Int32.ofNat n * sy) && (sat P (x + Int32.ofNat n * sx) (y + Int32.ofNat n * sy) (nA D)).isSome then srow D P x y sx sy f (n + 1) else n
/-- those in the first n cells of a row go one on, the farthest first -/
def spsh (D : TD) (x y sx sy : Int32) : Nat → PR → PR
  | 0, P => P
  | n + 1, P => spsh D x y sx sy n (match sat P (x + Int32.ofNat n * sx) (y + Int32.ofNat n * sy) (nA D) with
    | some p => smv P p (x + Int32.ofNat (n + 1) * sx) (y + Int32.ofNat (n + 1) * sy)
    | none => P)
def spush (D : TD) (P : PR) (b a : Nat) : PR := if sdx P b a = 0 ∧ sdy P b a = 0 then P else if scell D (P (5 * a) + Int32.ofNat (srow D P (P (5 * a)) (P (5 * a + 1)) (swx P b a) (swy P b a) 7 0) * swx P b a) (P (5 * a + 1) + Int32.ofNat (srow D P (P (5 * a)) (P (5 * a + 1)) (swx P b a) (swy P b a) 7 0) * swy P b a) then spsh D (P (5 * a)) (P (5 * a + 1)) (swx P b a) (swy P b a) (srow D P (P (5 * a)) (P (5 * a + 1)) (swx P b a) (swy P b a) 7 0) P else P
def smi1 (P : PR) (b a k : Nat) : PR := upd (upd P (50 + 3 * b) (P (50 + 3 * b) - sbr k)) (5 * a + 3) (P (5 * a + 3) + 1)
def smiss (D : TD) (P : PR) (b a k : Nat) : PR := if k = 0 ∧ ¬ D 4 a < D 0 3 then (if 0 < P (5 * a + 4) - (D 11 b + 1) then spush D (upd (smi1 P b a k) (5 * a + 4) (P (5 * a + 4) - (D 11 b + 1))) b a else upd (upd (smi1 P b a k) (5 * a + 4) 0) (5 * a + 2) 9) else if k < 2 then spush D (smi1 P b a k) b a else smi1 P b a k
def spsec (P : PR) (b k : Nat) : PR := upd P (52 + 3 * b) (P (52 + 3 * b) + ssec k)
def srec (P : PR) (i : Nat) (g od : Int32) : PR := upd (upd (upd P i (P i + 1)) (i + 1) (P (i + 1) + g)) (i + 2) (P (i + 2) + od)
def sseed (v : Int32) : Int32 := rm (v * 137 + 71) 1000
def sgets (D : TD) (C : TC) (P : PR) (b a k : Nat) : Bool := decide (sseed (P 62) / 10 < sodds D C P b a k)
def stry0 (D : TD) (C : TC) (P : PR) (b a k : Nat) : PR := srec (spsec (upd P 62 (sseed (P 62))) b k) (63 + 15 * b + 3 * k) (if sgets D C P b a k then 1 else 0) (sodds D C P b a k)
def stry (D : TD) (C : TC) (P : PR) (b a k : Nat) : Bool × PR := (sgets D C P b a k, if sgets D C P b a k then sget (stry0 D C P b a k) b a k else smiss D (stry0 D C P b a k) b a k)
def sbrea (D : TD) (P : PR) (b : Nat) : PR := upd (upd P (50 + 3 * b) (D 10 b)) (52 + 3 * b) (P (52 + 3 * b) + 2)
def sturn (D : TD) (C : TC) (P : PR) (b r : Nat) : Bool × PR := match schs D C P b r (5 * nA D) with
  | some (t, _) => stry D C P b (t / 5) (t % 5)
  | none => (false, sbrea D P b)
def sby (D : TD) (b : Nat) : Nat := (D 12 b).toNatClampNeg
def b2i (g : Bool) : Int32 := if g then 1 else 0
def sall (D : TD) (C : TC) : Nat → PR → Int32 × PR
  | 0, P => (0, P)
  | n + 1, P => ((sall D C n P).1 + b2i (sturn D C (sall D C n P).2 n (sby D n)).1, (sturn D C (sall D C n P).2 n (sby D n)).2)
/-! what holds of what is told, and of a row -/
def OkD (D : TD) (C : TC) : Prop :=
  ((D 0 0 = Int32.ofNat (nW D) ∧ nW D ≤ 6) ∧ (D 0 1 = Int32.ofNat (nH D) ∧ nH D ≤ 6)) ∧
  ((D 0 4 = Int32.ofNat (nA D) ∧ nA D ≤ 10) ∧ (D 0 11 = Int32.ofNat (nB D) ∧ nB D ≤ 4) ∧ (D 0 18 = Int32.ofNat (nR D) ∧ nR D ≤ 6)) ∧
  (∀ a, a < nA D → (∃ x, x < nW D ∧ D 1 a = Int32.ofNat x) ∧ (∃ y, y < nH D ∧ D 2 a = Int32.ofNat y) ∧ (∃ z, 1 ≤ z ∧ z ≤ 99 ∧ D 3 a = Int32.ofNat z) ∧ (∃ z, z ≤ 9 ∧ D 4 a = Int32.ofNat z) ∧ (D 5 a = 0 ∨ D 5 a = 1) ∧ (∃ z, z ≤ 99 ∧ D 6 a = Int32.ofNat z)) ∧
  (∀ a c, a < nA D → c < nA D → D 1 a = D 1 c → D 2 a = D 2 c → a = c) ∧
  (∀ b, b < nB D → (∃ x, x < nW D ∧ D 7 b = Int32.ofNat x) ∧ (∃ y, y < nH D ∧ D 8 b = Int32.ofNat y) ∧ (∃ z, z ≤ 5 ∧ D 9 b = Int32.ofNat z) ∧ (∃ z, z ≤ 20 ∧ D 10 b = Int32.ofNat z) ∧ (∃ z, z ≤ 9 ∧ D 11 b = Int32.ofNat z) ∧ (∃ z, D 12 b = Int32.ofNat z ∧ (z < nR D ∨ (nR D = 0 ∧ z = 0)))) ∧
  (∃ z, z ≤ 10 ∧ D 0 3 = Int32.ofNat z) ∧
  (∀ s, s < 5 → wfd (C s) 0 1) ∧ (∀ r, r < nR D → wfd (C (5 + r)) 0 1)
def OkP (D : TD) (P : PR) : Prop :=
  (∀ a, a < nA D → (∃ x, x < nW D ∧ P (5 * a) = Int32.ofNat x) ∧ (∃ y, y < nH D ∧ P (5 * a + 1) = Int32.ofNat y) ∧ (∃ z, z ≤ 99 ∧ P (5 * a + 4) = Int32.ofNat z ∧ (P (5 * a + 2) < 0 → 1 ≤ z))) ∧
  (∀ a c, a < nA D → c < nA D → P (5 * a + 2) < 0 → P (5 * c + 2) < 0 → P (5 * a) = P (5 * c) → P (5 * a + 1) = P (5 * c + 1) → a = c) ∧
  (∀ b, b < nB D → (∃ x, x < nW D ∧ P (123 + b) = Int32.ofNat x) ∧ (∃ y, y < nH D ∧ P (127 + b) = Int32.ofNat y))
theorem OkD.a {D : TD} {C : TC} (h : OkD D C) : nA D ≤ 10 := h.2.1.1.2
theorem OkD.b {D : TD} {C : TC} (h : OkD D C) : nB D ≤ 4 := h.2.1.2.1.2
theorem OkD.r {D : TD} {C : TC} (h : OkD D C) : nR D ≤ 6 := h.2.1.2.2.2
theorem OkD.w {D : TD} {C : TC} (h : OkD D C) : nW D ≤ 6 := h.1.1.2
theorem OkD.h {D : TD} {C : TC} (h : OkD D C) : nH D ≤ 6 := h.1.2.2
/-! the two memories -/
/-- a code in the class's steps -/
def Cd (I : MI) (t s : Nat) (c : List Int32) : Prop := ∃ st : Nat, I (t + 15) s = Int32.ofNat st ∧ I (t + 16) s = Int32.ofNat (st + c.length) ∧ st + c.length ≤ 640 ∧ ∀ i (h : i < c.length), I (t + 14) (st + i) = c[i]
/-- the class's told at t -/
def Td (I : MI) (t : Nat) (D : TD) (C : TC) : Prop :=
  (I t 0 = D 0 0 ∧ I t 1 = D 0 1 ∧ I t 2 = D 0 2 ∧ I t 3 = D 0 3 ∧ I t 4 = D 0 4 ∧ I t 11 = D 0 11 ∧ I t 18 = D 0 18) ∧
  (∀ j a, 1 ≤ j → j ≤ 6 → a < nA D → I (t + j) a = D j a) ∧ (∀ j b, 7 ≤ j → j ≤ 12 → b < nB D → I (t + j) b = D j b) ∧
  (∀ s, s < 5 → Cd I t s (C s)) ∧ (∀ r, r < nR D → Cd I t (5 + r) (C (5 + r)))
/-- a step of the reference's for one of the class's -/
def rst (s so ar : Int32) : Prop := (s < 10000 ∧ so = 0 ∧ ar = s) ∨ (¬ s < 10000 ∧ s < 20000 ∧ so = 1 ∧ ar = s - 10000) ∨ (s = 20025 ∧ so = 2) ∨ (so = 3 ∧ ¬ s < 20000 ∧ s ≠ 20025 ∧ ((s = 20024 ∧ ar = 38) ∨ (s = 20023 ∧ ar = 124) ∨ ((ar = 37 ∨ ar = 42 ∨ ar = 43 ∨ ar = 45 ∨ ar = 47 ∨ ar = 60 ∨ ar = 61 ∨ ar = 62) ∧ s = 20000 + ar)))
def Cm (I : MI) (s : Nat) (c : List Int32) : Prop := I 109 s = Int32.ofNat c.length ∧ c.length ≤ 320 ∧ ∀ i (h : i < c.length), rst c[i] (I 107 (320 * s + i)) (I 108 (320 * s + i))
def Rd (I : MI) (D : TD) (C : TC) : Prop :=
  (I 102 56 = D 0 0 ∧ I 102 57 = D 0 1 ∧ I 102 65 = D 0 3 ∧ I 102 60 = D 0 4 ∧ I 102 61 = D 0 11 ∧ I 102 59 = D 0 18) ∧
  (∀ a, a < nA D → I 127 a = D 1 a ∧ I 128 a = D 2 a ∧ I 125 a = D 3 a ∧ I 126 a = D 4 a ∧ I 136 a = D 5 a ∧ I 129 a = D 6 a) ∧
  (∀ b, b < nB D → I 132 b = D 9 b ∧ I 133 b = D 10 b ∧ I 134 b = D 11 b ∧ I 135 b = D 12 b) ∧
  (∀ s, s < 5 → (((I 102 58 >>> (Int32.ofNat s &&& 31)) &&& 1) = 1 ∧ Cm I s (C s)) ∨ (((I 102 58 >>> (Int32.ofNat s &&& 31)) &&& 1) ≠ 1 ∧ C s = [50])) ∧ (∀ r, r < nR D → Cm I (5 + r) (C (5 + r)))
/-- a State at q plays as the row P; with m it holds just the row -/
def Rl (D : TD) (m : Bool) (I : MI) (q : Nat) (P : PR) : Prop :=
  (∀ a, a < nA D → I (q + 1) a = P (5 * a) ∧ I (q + 2) a = P (5 * a + 1) ∧ (I (q + 3) a = -1) = (P (5 * a + 2) < 0) ∧ I (q + 4) a = P (5 * a + 3) ∧ I (q + 5) a = P (5 * a + 4)) ∧
  (∀ b, b < nB D → I (q + 6) b = P (123 + b) ∧ I (q + 7) b = P (127 + b) ∧ I (q + 8) b = P (50 + 3 * b)) ∧
  I q 11 = P 62 ∧
  (m = true → (∀ a, a < nA D → I (q + 3) a = P (5 * a + 2)) ∧ (∀ b, b < nB D → I (q + 9) b = P (51 + 3 * b) ∧ I (q + 10) b = P (52 + 3 * b)) ∧ (∀ b i, b < nB D → i < 15 → I (q + 11) (15 * b + i) = P (63 + 15 * b + i)))
/-- the reference's row at hand -/
def Wr (I : MI) (P : PR) : Prop := (∀ k, k < 123 → I 137 k = P k) ∧ (∀ b, b < 4 → I 130 b = P (123 + b)) ∧ (∀ b, b < 4 → I 131 b = P (127 + b))
/-- what the class's play may change -/
def Fc (t q : Nat) (I I' : MI) : Prop := ∀ c, c ≠ 27 → c ≠ 46 → c ≠ t + 17 → (c < q ∨ q + 11 < c) → I' c = I c
/-- what the reference's play may change -/
def Fm (I I' : MI) : Prop := (∀ c, c ≠ 137 → c ≠ 111 → c ≠ 102 → I' c = I c) ∧ (∀ j, j ≠ 68 → j ≠ 69 → I' 102 j = I 102 j)
def isq (t q : Nat) : Prop := isT t ∧ 47 ≤ q
