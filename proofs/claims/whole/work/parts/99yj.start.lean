/-! THE START -/
def ckD {α : Type} (P : Prop) [Decidable P] (o : Option α) : Option α := if P then o else none
def dc_vp (i : Int32) (n : Nat) : Decidable (vp_in i n) := inferInstanceAs (Decidable (¬ (i < 0 ∨ n ≤ i.toNatClampNeg)))
def dc_okr (R : MR) (S : MS) : Decidable (okr R S) := inferInstanceAs (Decidable (tb_S0 <+: S ∧ ∀ e ∈ tb_R0, R e.1 e.2.1 = some e.2.2))
def dc_isT (t : Nat) : Decidable (isT t) := inferInstanceAs (Decidable (t = 2 ∨ t = 28))
def dc_isSt (R : MR) (S : MS) (q : Nat) : Decidable (isSt R S q) := inferInstanceAs (Decidable ((∀ j, j < 11 → R q j = some (q + 1 + j)) ∧ S[q]? = some (7, 12) ∧ (∀ j, j < 5 → S[q + 1 + j]? = some (13, 10)) ∧ (∀ j, j < 5 → S[q + 6 + j]? = some (13, 4)) ∧ S[q + 11]? = some (13, 60)))
def ckV {α : Type} (i : Int32) (n : Nat) (o : Option α) : Option α := @ckD _ (vp_in i n) (dc_vp i n) o
def ckO {α : Type} (R : MR) (S : MS) (o : Option α) : Option α := @ckD _ (okr R S) (dc_okr R S) o
def ckT {α : Type} (t : Nat) (o : Option α) : Option α := @ckD _ (isT t) (dc_isT t) o
def ckS {α : Type} (R : MR) (S : MS) (q : Nat) (o : Option α) : Option α := @ckD _ (isSt R S q) (dc_isSt R S q) o
noncomputable def yjs_at (i : Int32) : Option Int32 := if i < 0 then none else if i < Int32.ofNat tb_bytes.length then ckV i tb_bytes.length (some (((tb_bytes.getD (ix i) 0) &&& 255).toUInt32 % 65536).toInt32) else none

noncomputable def yj7_fill_53178_L5s (a0 : Nat) (ln0 : Nat) (c1 : Int32) (c3 : Int32) (rec : Int32 → MI → Option (MI)) (w2 : Int32) (I : MI) : Option (MI) :=
if w2 < c3 then (
ckV w2 ln0 <|
lt (wI I a0 (ix w2) c1) fun I3 =>
lt (w2 + 1) fun v5 =>
rec v5 I3) else
some I

noncomputable def yj7_fill_53178_L5 (a0 : Nat) (ln0 : Nat) (c1 : Int32) (c3 : Int32) : Nat → Int32 → MI → Option (MI)
  | 0 => fun _ _ => none
  | n + 1 => yj7_fill_53178_L5s a0 ln0 c1 c3 (yj7_fill_53178_L5 a0 ln0 c1 c3 n)

noncomputable def yj7_fill_53178 (a0 : Nat) (ln0 : Nat) (p1 : Int32) (I : MI) : Option (MI) :=
lt (0 : Int32) fun v1 =>
lt (Int32.ofNat ln0) fun v2 =>
b1 (yj7_fill_53178_L5 a0 ln0 p1 v2 FU v1 I) fun e6 =>
some e6

noncomputable def y7_copyPlay (q0 : Nat) (q1 : Nat) (I : MI) : Option (MI) :=
lt (cpI I (q1 + 1) (q0 + 1) 0 0 10) fun I1 =>
lt (cpI I1 (q1 + 2) (q0 + 2) 0 0 10) fun I2 =>
lt (cpI I2 (q1 + 3) (q0 + 3) 0 0 10) fun I3 =>
lt (cpI I3 (q1 + 4) (q0 + 4) 0 0 10) fun I4 =>
lt (cpI I4 (q1 + 5) (q0 + 5) 0 0 10) fun I5 =>
lt (cpI I5 (q1 + 6) (q0 + 6) 0 0 4) fun I6 =>
lt (cpI I6 (q1 + 7) (q0 + 7) 0 0 4) fun I7 =>
lt (cpI I7 (q1 + 8) (q0 + 8) 0 0 4) fun I8 =>
lt (cpI I8 (q1 + 9) (q0 + 9) 0 0 4) fun I9 =>
lt (cpI I9 (q1 + 10) (q0 + 10) 0 0 4) fun I10 =>
lt (wI I10 q0 11 (I10 q1 11)) fun I11 =>
some I11

noncomputable def y7_copyAll (q0 : Nat) (q1 : Nat) (I : MI) : Option (MI) :=
b1 (y7_copyPlay q0 q1 I) fun I1 =>
lt (cpI I1 (q1 + 11) (q0 + 11) 0 0 60) fun I2 =>
some I2

noncomputable def y7_begin (q0 : Nat) (t1 : Nat) (I : MI) : Option (MI) :=
lt (cpI I (t1 + 1) (q0 + 1) 0 0 10) fun I1 =>
lt (cpI I1 (t1 + 2) (q0 + 2) 0 0 10) fun I2 =>
b1 (yj7_fill_53178 (q0 + 3) 10 (-1 : Int32) I2) fun I3 =>
b1 (yj7_fill_53178 (q0 + 4) 10 (0 : Int32) I3) fun I4 =>
lt (cpI I4 (t1 + 3) (q0 + 5) 0 0 10) fun I5 =>
lt (cpI I5 (t1 + 7) (q0 + 6) 0 0 4) fun I6 =>
lt (cpI I6 (t1 + 8) (q0 + 7) 0 0 4) fun I7 =>
lt (cpI I7 (t1 + 10) (q0 + 8) 0 0 4) fun I8 =>
b1 (yj7_fill_53178 (q0 + 9) 4 (0 : Int32) I8) fun I9 =>
b1 (yj7_fill_53178 (q0 + 10) 4 (0 : Int32) I9) fun I10 =>
b1 (yj7_fill_53178 (q0 + 11) 60 (0 : Int32) I10) fun I11 =>
lt (wI I11 q0 11 (I11 t1 2)) fun I12 =>
some I12

noncomputable def y7_init (o0 : Nat) (I : MI) (L : ML) (R : MR) (S : MS) : Option (MI × ML × MR × MS) :=
al (13, 10) I L R S fun o_1 I2 L3 R4 S5 =>
ckD (S5[o0]? = some (7, 12)) <|
lt (wR R4 o0 0 (some o_1)) fun R7 =>
al (13, 10) I2 L3 R7 S5 fun o_8 I9 L10 R11 S12 =>
ckD (S12[o0]? = some (7, 12)) <|
lt (wR R11 o0 1 (some o_8)) fun R14 =>
al (13, 10) I9 L10 R14 S12 fun o_15 I16 L17 R18 S19 =>
ckD (S19[o0]? = some (7, 12)) <|
lt (wR R18 o0 2 (some o_15)) fun R21 =>
al (13, 10) I16 L17 R21 S19 fun o_22 I23 L24 R25 S26 =>
ckD (S26[o0]? = some (7, 12)) <|
lt (wR R25 o0 3 (some o_22)) fun R28 =>
al (13, 10) I23 L24 R28 S26 fun o_29 I30 L31 R32 S33 =>
ckD (S33[o0]? = some (7, 12)) <|
lt (wR R32 o0 4 (some o_29)) fun R35 =>
al (13, 4) I30 L31 R35 S33 fun o_36 I37 L38 R39 S40 =>
ckD (S40[o0]? = some (7, 12)) <|
lt (wR R39 o0 5 (some o_36)) fun R42 =>
al (13, 4) I37 L38 R42 S40 fun o_43 I44 L45 R46 S47 =>
ckD (S47[o0]? = some (7, 12)) <|
lt (wR R46 o0 6 (some o_43)) fun R49 =>
al (13, 4) I44 L45 R49 S47 fun o_50 I51 L52 R53 S54 =>
ckD (S54[o0]? = some (7, 12)) <|
lt (wR R53 o0 7 (some o_50)) fun R56 =>
al (13, 4) I51 L52 R56 S54 fun o_57 I58 L59 R60 S61 =>
ckD (S61[o0]? = some (7, 12)) <|
lt (wR R60 o0 8 (some o_57)) fun R63 =>
al (13, 4) I58 L59 R63 S61 fun o_64 I65 L66 R67 S68 =>
ckD (S68[o0]? = some (7, 12)) <|
lt (wR R67 o0 9 (some o_64)) fun R70 =>
al (13, 60) I65 L66 R70 S68 fun o_71 I72 L73 R74 S75 =>
ckD (S75[o0]? = some (7, 12)) <|
lt (wR R74 o0 10 (some o_71)) fun R77 =>
some (I72, L73, R77, S75)

noncomputable def y0_clearC (o0 : Nat) (I : MI) (L : ML) (R : MR) (S : MS) : Option (MI × ML × MR × MS) :=
ckD (S[o0]? = some (0, 6)) <|
lt (wI I o0 5 (0 : Int32)) fun I2 =>
b1 (R o0 0) fun o_3 =>
ckD (S[o_3]? = some (13, 640)) <|
lt (wI I2 o_3 (ix (0 : Int32)) (50 : Int32)) fun I6 =>
lt (wI I6 o0 4 (1 : Int32)) fun I7 =>
b1 (R o0 1) fun o_8 =>
ckD (S[o_8]? = some (13, 11)) <|
b1 (yj7_fill_53178 o_8 11 (0 : Int32) I7) fun I11 =>
b1 (R o0 2) fun o_12 =>
ckD (S[o_12]? = some (13, 11)) <|
b1 (yj7_fill_53178 o_12 11 (1 : Int32) I11) fun I15 =>
some (I15, L, R, S)

noncomputable def y0_init (o0 : Nat) (I : MI) (L : ML) (R : MR) (S : MS) : Option (MI × ML × MR × MS) :=
al (13, 640) I L R S fun o_1 I2 L3 R4 S5 =>
ckD (S5[o0]? = some (0, 6)) <|
lt (wR R4 o0 0 (some o_1)) fun R7 =>
al (13, 11) I2 L3 R7 S5 fun o_8 I9 L10 R11 S12 =>
ckD (S12[o0]? = some (0, 6)) <|
lt (wR R11 o0 1 (some o_8)) fun R14 =>
al (13, 11) I9 L10 R14 S12 fun o_15 I16 L17 R18 S19 =>
ckD (S19[o0]? = some (0, 6)) <|
lt (wR R18 o0 2 (some o_15)) fun R21 =>
al (13, 32) I16 L17 R21 S19 fun o_22 I23 L24 R25 S26 =>
ckD (S26[o0]? = some (0, 6)) <|
lt (wR R25 o0 3 (some o_22)) fun R28 =>
b4 (y0_clearC o0 I23 L24 R28 S26) fun I29 L30 R31 S32 =>
some (I29, L30, R31, S32)

noncomputable def y8_clearC (o0 : Nat) (I : MI) (L : ML) (R : MR) (S : MS) : Option (MI × ML × MR × MS) :=
ckD (S[o0]? = some (8, 20)) <|
lt (wI I o0 0 (0 : Int32)) fun I2 =>
lt (wI I2 o0 1 (0 : Int32)) fun I3 =>
lt (wI I3 o0 2 (0 : Int32)) fun I4 =>
lt (wI I4 o0 3 (10 : Int32)) fun I5 =>
lt (wI I5 o0 4 (0 : Int32)) fun I6 =>
lt (wI I6 o0 11 (0 : Int32)) fun I7 =>
lt (wI I7 o0 18 (0 : Int32)) fun I8 =>
b1 (R o0 19) fun o_9 =>
ckD (S[o_9]? = some (0, 6)) <|
b4 (y0_clearC o_9 I8 L R S) fun I12 L13 R14 S15 =>
some (I12, L13, R14, S15)

noncomputable def y8_init (o0 : Nat) (I : MI) (L : ML) (R : MR) (S : MS) : Option (MI × ML × MR × MS) :=
al (13, 10) I L R S fun o_1 I2 L3 R4 S5 =>
ckD (S5[o0]? = some (8, 20)) <|
lt (wR R4 o0 5 (some o_1)) fun R7 =>
al (13, 10) I2 L3 R7 S5 fun o_8 I9 L10 R11 S12 =>
ckD (S12[o0]? = some (8, 20)) <|
lt (wR R11 o0 6 (some o_8)) fun R14 =>
al (13, 10) I9 L10 R14 S12 fun o_15 I16 L17 R18 S19 =>
ckD (S19[o0]? = some (8, 20)) <|
lt (wR R18 o0 7 (some o_15)) fun R21 =>
al (13, 10) I16 L17 R21 S19 fun o_22 I23 L24 R25 S26 =>
ckD (S26[o0]? = some (8, 20)) <|
lt (wR R25 o0 8 (some o_22)) fun R28 =>
al (13, 10) I23 L24 R28 S26 fun o_29 I30 L31 R32 S33 =>
ckD (S33[o0]? = some (8, 20)) <|
lt (wR R32 o0 9 (some o_29)) fun R35 =>
al (13, 10) I30 L31 R35 S33 fun o_36 I37 L38 R39 S40 =>
ckD (S40[o0]? = some (8, 20)) <|
lt (wR R39 o0 10 (some o_36)) fun R42 =>
al (13, 4) I37 L38 R42 S40 fun o_43 I44 L45 R46 S47 =>
ckD (S47[o0]? = some (8, 20)) <|
lt (wR R46 o0 12 (some o_43)) fun R49 =>
al (13, 4) I44 L45 R49 S47 fun o_50 I51 L52 R53 S54 =>
ckD (S54[o0]? = some (8, 20)) <|
lt (wR R53 o0 13 (some o_50)) fun R56 =>
al (13, 4) I51 L52 R56 S54 fun o_57 I58 L59 R60 S61 =>
ckD (S61[o0]? = some (8, 20)) <|
lt (wR R60 o0 14 (some o_57)) fun R63 =>
al (13, 4) I58 L59 R63 S61 fun o_64 I65 L66 R67 S68 =>
ckD (S68[o0]? = some (8, 20)) <|
lt (wR R67 o0 15 (some o_64)) fun R70 =>
al (13, 4) I65 L66 R70 S68 fun o_71 I72 L73 R74 S75 =>
ckD (S75[o0]? = some (8, 20)) <|
lt (wR R74 o0 16 (some o_71)) fun R77 =>
al (13, 4) I72 L73 R77 S75 fun o_78 I79 L80 R81 S82 =>
ckD (S82[o0]? = some (8, 20)) <|
lt (wR R81 o0 17 (some o_78)) fun R84 =>
al (0, 6) I79 L80 R84 S82 fun o_85 I86 L87 R88 S89 =>
b4 (y0_init o_85 I86 L87 R88 S89) fun I90 L91 R92 S93 =>
ckD (S93[o0]? = some (8, 20)) <|
lt (wR R92 o0 19 (some o_85)) fun R95 =>
b4 (y8_clearC o0 I90 L91 R95 S93) fun I96 L97 R98 S99 =>
some (I96, L97, R98, S99)

noncomputable def y1_init (o0 : Nat) (q1 : Nat) (I : MI) (L : ML) (R : MR) (S : MS) : Option (MI × ML × MR × MS) :=
al (13, 10) I L R S fun o_1 I2 L3 R4 S5 =>
ckD (S5[o0]? = some (1, 4)) <|
lt (wR R4 o0 1 (some o_1)) fun R7 =>
lt (wR R7 o0 0 (some q1)) fun R8 =>
some (I2, L3, R8, S5)

noncomputable def y2_init (o0 : Nat) (I : MI) (L : ML) (R : MR) (S : MS) : Option (MI × ML × MR × MS) :=
al (16, 41) I L R S fun o_1 I2 L3 R4 S5 =>
ckD (S5[o0]? = some (2, 4)) <|
lt (wR R4 o0 0 (some o_1)) fun R7 =>
some (I2, L3, R7, S5)

noncomputable def y3_init_L26s (o0 : Nat) (rec : Int32 → Int64 → Int32 → MI → ML → MR → MS → Option (MI × ML × MR × MS)) (w1 : Int32) (w2 : Int64) (w4 : Int32) (I : MI) (L : ML) (R : MR) (S : MS) : Option (MI × ML × MR × MS) :=
b1 (some js_len) fun r18 =>
if w4 < r18 then (
if w1 < 26 then (
b1 (yjs_at w4) fun r19 =>
lt r19 fun v20 =>
if v20 = 32 then (
ckD (S[o0]? = some (3, 8)) <|
b1 (R o0 0) fun o_23 =>
ckD (S[o_23]? = some (14, 26)) <|
ckV w1 26 <|
lt (wL L o_23 (ix w1) w2) fun L27 =>
lt (w1 + 1) fun v29 =>
lt (0 : Int64) fun v30 =>
lt (w4 + 1) fun v31 =>
rec v29 v30 v31 I L27 R S) else
lt ((w2 * 32) + (((v20 - 97) + 1)).toInt64) fun v21 =>
lt (w4 + 1) fun v22 =>
rec w1 v21 v22 I L R S) else
some (I, L, R, S)) else
some (I, L, R, S)

noncomputable def y3_init_L26 (o0 : Nat) : Nat → Int32 → Int64 → Int32 → MI → ML → MR → MS → Option (MI × ML × MR × MS)
  | 0 => fun _ _ _ _ _ _ _ => none
  | n + 1 => y3_init_L26s o0 (y3_init_L26 o0 n)

noncomputable def y3_init (o0 : Nat) (I : MI) (L : ML) (R : MR) (S : MS) : Option (MI × ML × MR × MS) :=
al (14, 26) I L R S fun o_1 I2 L3 R4 S5 =>
ckD (S5[o0]? = some (3, 8)) <|
lt (wR R4 o0 0 (some o_1)) fun R7 =>
al (12, 0) I2 L3 R7 S5 fun o_8 I9 L10 R11 S12 =>
ckD (S12[o0]? = some (3, 8)) <|
lt (wR R11 o0 1 (some o_8)) fun R14 =>
lt (0 : Int32) fun v15 =>
lt (0 : Int64) fun v16 =>
lt (0 : Int32) fun v17 =>
b1 (y3_init_L26 o0 FU v15 v16 v17 I9 L10 R14 S12) fun e32 =>
some (e32.1, e32.2.1, e32.2.2.1, e32.2.2.2)

noncomputable def y4_init (o0 : Nat) (q1 : Nat) (I : MI) (L : ML) (R : MR) (S : MS) : Option (MI × ML × MR × MS) :=
al (13, 30) I L R S fun o_1 I2 L3 R4 S5 =>
ckD (S5[o0]? = some (4, 7)) <|
lt (wR R4 o0 1 (some o_1)) fun R7 =>
al (13, 30) I2 L3 R7 S5 fun o_8 I9 L10 R11 S12 =>
ckD (S12[o0]? = some (4, 7)) <|
lt (wR R11 o0 2 (some o_8)) fun R14 =>
al (13, 30) I9 L10 R14 S12 fun o_15 I16 L17 R18 S19 =>
ckD (S19[o0]? = some (4, 7)) <|
lt (wR R18 o0 3 (some o_15)) fun R21 =>
al (13, 30) I16 L17 R21 S19 fun o_22 I23 L24 R25 S26 =>
ckD (S26[o0]? = some (4, 7)) <|
lt (wR R25 o0 4 (some o_22)) fun R28 =>
al (13, 30) I23 L24 R28 S26 fun o_29 I30 L31 R32 S33 =>
ckD (S33[o0]? = some (4, 7)) <|
lt (wR R32 o0 5 (some o_29)) fun R35 =>
lt (wR R35 o0 0 (some q1)) fun R36 =>
some (I30, L31, R36, S33)

noncomputable def y5_init (o0 : Nat) (q1 : Nat) (I : MI) (L : ML) (R : MR) (S : MS) : Option (MI × ML × MR × MS) :=
al (3, 8) I L R S fun o_1 I2 L3 R4 S5 =>
b4 (y3_init o_1 I2 L3 R4 S5) fun I6 L7 R8 S9 =>
ckD (S9[o0]? = some (5, 10)) <|
lt (wR R8 o0 0 (some o_1)) fun R11 =>
al (14, 6) I6 L7 R11 S9 fun o_12 I13 L14 R15 S16 =>
ckD (S16[o0]? = some (5, 10)) <|
lt (wR R15 o0 1 (some o_12)) fun R18 =>
al (14, 10) I13 L14 R18 S16 fun o_19 I20 L21 R22 S23 =>
ckD (S23[o0]? = some (5, 10)) <|
lt (wR R22 o0 2 (some o_19)) fun R25 =>
al (14, 4) I20 L21 R25 S23 fun o_26 I27 L28 R29 S30 =>
ckD (S30[o0]? = some (5, 10)) <|
lt (wR R29 o0 3 (some o_26)) fun R32 =>
lt (wI I27 o0 9 (-1 : Int32)) fun I33 =>
lt (wR R32 o0 4 (some q1)) fun R34 =>
some (I33, L28, R34, S30)

noncomputable def y6_init (o0 : Nat) (q1 : Nat) (I : MI) (L : ML) (R : MR) (S : MS) : Option (MI × ML × MR × MS) :=
al (16, 9) I L R S fun o_1 I2 L3 R4 S5 =>
ckD (S5[o0]? = some (6, 11)) <|
lt (wR R4 o0 1 (some o_1)) fun R7 =>
al (13, 8) I2 L3 R7 S5 fun o_8 I9 L10 R11 S12 =>
ckD (S12[o0]? = some (6, 11)) <|
lt (wR R11 o0 5 (some o_8)) fun R14 =>
lt (wR R14 o0 0 (some q1)) fun R15 =>
some (I9, L10, R15, S12)

noncomputable def y9_init (o0 : Nat) (q1 : Nat) (I : MI) (L : ML) (R : MR) (S : MS) : Option (MI × ML × MR × MS) :=
al (7, 12) I L R S fun o_1 I2 L3 R4 S5 =>
b4 (y7_init o_1 I2 L3 R4 S5) fun I6 L7 R8 S9 =>
ckD (S9[o0]? = some (9, 11)) <|
lt (wR R8 o0 1 (some o_1)) fun R11 =>
al (13, 36) I6 L7 R11 S9 fun o_12 I13 L14 R15 S16 =>
ckD (S16[o0]? = some (9, 11)) <|
lt (wR R15 o0 2 (some o_12)) fun R18 =>
al (13, 4) I13 L14 R18 S16 fun o_19 I20 L21 R22 S23 =>
ckD (S23[o0]? = some (9, 11)) <|
lt (wR R22 o0 3 (some o_19)) fun R25 =>
al (13, 10) I20 L21 R25 S23 fun o_26 I27 L28 R29 S30 =>
ckD (S30[o0]? = some (9, 11)) <|
lt (wR R29 o0 4 (some o_26)) fun R32 =>
al (13, 4) I27 L28 R32 S30 fun o_33 I34 L35 R36 S37 =>
ckD (S37[o0]? = some (9, 11)) <|
lt (wR R36 o0 5 (some o_33)) fun R39 =>
lt (wR R39 o0 0 (some q1)) fun R40 =>
some (I34, L35, R40, S37)

noncomputable def yj9_floorMod_7cf53 (p0 : Int32) (p1 : Int32) (I : MI) : Option (Int32) :=
ckD (¬ p1 = 0) <|
lt (rm p0 p1) fun v2 =>
if (p0 ^^^ p1) < 0 then (
if v2 = 0 then (
some v2) else
some (v2 + p1)) else
some v2

noncomputable def y2_atHand (I : MI) (L : ML) (R : MR) (S : MS) : Option (Nat × MI × ML × MR × MS) :=
ckO R S <|
b1 (yj9_floorMod_7cf53 ((I 59 1) + (I 59 2)) (41 : Int32) I) fun r2 =>
lt r2 fun v3 =>
ckV v3 41 <|
if (R 60 (ix v3)).isNone = true then (
al (7, 12) I L R S fun o_5 I6 L7 R8 S9 =>
b4 (y7_init o_5 I6 L7 R8 S9) fun I10 L11 R12 S13 =>
ckO R12 S13 <|
ckD (S13[o_5]? = some (7, 12)) <|
ckV v3 41 <|
lt (wR R12 60 (ix v3) (some o_5)) fun R17 =>
ckO R17 S13 <|
ckV v3 41 <|
b1 (R17 60 (ix v3)) fun q_20 =>
some (q_20, I10, L11, R17, S13)) else
ckV v3 41 <|
b1 (R 60 (ix v3)) fun q_23 =>
some (q_23, I, L, R, S)

noncomputable def y2_start (q1 : Nat) (I : MI) (L : ML) (R : MR) (S : MS) : Option (MI × ML × MR × MS) :=
ckO R S <|
lt (wI I 59 1 (0 : Int32)) fun I2 =>
lt (wI I2 59 2 (0 : Int32)) fun I3 =>
lt (wI I3 59 3 (0 : Int32)) fun I4 =>
b5 (y2_atHand I4 L R S) fun q_5 I6 L7 R8 S9 =>
ckS R8 S9 q_5 <|
ckS R8 S9 q1 <|
ckO R8 S9 <|
ckD (S9[q_5]? = some (7, 12)) <|
b1 (y7_copyAll q_5 q1 I6) fun I13 =>
some (I13, L7, R8, S9)

noncomputable def y10_init (o0 : Nat) (I : MI) (L : ML) (R : MR) (S : MS) : Option (MI × ML × MR × MS) :=
al (12, 1600) I L R S fun o_1 I2 L3 R4 S5 =>
ckD (S5[o0]? = some (10, 15)) <|
lt (wR R4 o0 0 (some o_1)) fun R7 =>
al (8, 20) I2 L3 R7 S5 fun o_8 I9 L10 R11 S12 =>
b4 (y8_init o_8 I9 L10 R11 S12) fun I13 L14 R15 S16 =>
ckD (S16[o0]? = some (10, 15)) <|
lt (wR R15 o0 2 (some o_8)) fun R18 =>
al (5, 10) I13 L14 R18 S16 fun o_19 I20 L21 R22 S23 =>
ckD (S23[o0]? = some (10, 15)) <|
b1 (R22 o0 2) fun o_24 =>
b4 (y5_init o_19 o_24 I20 L21 R22 S23) fun I27 L28 R29 S30 =>
ckD (S30[o0]? = some (10, 15)) <|
lt (wR R29 o0 3 (some o_19)) fun R32 =>
al (1, 4) I27 L28 R32 S30 fun o_33 I34 L35 R36 S37 =>
al (8, 20) I34 L35 R36 S37 fun o_38 I39 L40 R41 S42 =>
b4 (y8_init o_38 I39 L40 R41 S42) fun I43 L44 R45 S46 =>
b4 (y1_init o_33 o_38 I43 L44 R45 S46) fun I47 L48 R49 S50 =>
ckD (S50[o0]? = some (10, 15)) <|
lt (wR R49 o0 4 (some o_33)) fun R52 =>
al (7, 12) I47 L48 R52 S50 fun o_53 I54 L55 R56 S57 =>
b4 (y7_init o_53 I54 L55 R56 S57) fun I58 L59 R60 S61 =>
ckD (S61[o0]? = some (10, 15)) <|
lt (wR R60 o0 5 (some o_53)) fun R63 =>
al (2, 4) I58 L59 R63 S61 fun o_64 I65 L66 R67 S68 =>
b4 (y2_init o_64 I65 L66 R67 S68) fun I69 L70 R71 S72 =>
ckD (S72[o0]? = some (10, 15)) <|
lt (wR R71 o0 6 (some o_64)) fun R74 =>
al (16, 3) I69 L70 R74 S72 fun o_75 I76 L77 R78 S79 =>
ckD (S79[o0]? = some (10, 15)) <|
lt (wR R78 o0 7 (some o_75)) fun R81 =>
al (15, 3) I76 L77 R81 S79 fun o_82 I83 L84 R85 S86 =>
ckD (S86[o0]? = some (10, 15)) <|
lt (wR R85 o0 8 (some o_82)) fun R88 =>
al (6, 11) I83 L84 R88 S86 fun o_89 I90 L91 R92 S93 =>
ckD (S93[o0]? = some (10, 15)) <|
b1 (R92 o0 4) fun o_94 =>
b4 (y6_init o_89 o_94 I90 L91 R92 S93) fun I97 L98 R99 S100 =>
ckD (S100[o0]? = some (10, 15)) <|
lt (wR R99 o0 9 (some o_89)) fun R102 =>
al (9, 11) I97 L98 R102 S100 fun o_103 I104 L105 R106 S107 =>
ckD (S107[o0]? = some (10, 15)) <|
b1 (R106 o0 4) fun o_108 =>
b4 (y9_init o_103 o_108 I104 L105 R106 S107) fun I111 L112 R113 S114 =>
ckD (S114[o0]? = some (10, 15)) <|
lt (wR R113 o0 10 (some o_103)) fun R116 =>
al (4, 7) I111 L112 R116 S114 fun o_117 I118 L119 R120 S121 =>
ckD (S121[o0]? = some (10, 15)) <|
b1 (R120 o0 10) fun o_122 =>
b4 (y4_init o_117 o_122 I118 L119 R120 S121) fun I125 L126 R127 S128 =>
ckD (S128[o0]? = some (10, 15)) <|
lt (wR R127 o0 11 (some o_117)) fun R130 =>
al (13, 36) I125 L126 R130 S128 fun o_131 I132 L133 R134 S135 =>
ckD (S135[o0]? = some (10, 15)) <|
lt (wR R134 o0 13 (some o_131)) fun R137 =>
b1 (R137 o0 5) fun o_138 =>
b1 (R137 o0 4) fun o_140 =>
ckD (S135[o_140]? = some (1, 4)) <|
b1 (R137 o_140 0) fun o_142 =>
ckS R137 S135 o_138 <|
ckT o_142 <|
ckO R137 S135 <|
ckD (S135[o_138]? = some (7, 12)) <|
b1 (y7_begin o_138 o_142 I132) fun I148 =>
b1 (R137 o0 6) fun o_150 =>
ckD (o_150 = 59) <|
b4 (y2_start o_138 I148 L133 R137 S135) fun I153 L154 R155 S156 =>
some (I153, L154, R155, S156)

noncomputable def y11_init (o0 : Nat) (I : MI) (L : ML) (R : MR) (S : MS) : Option (MI × ML × MR × MS) :=
al (13, 1600) I L R S fun o_1 I2 L3 R4 S5 =>
ckD (S5[o0]? = some (11, 95)) <|
lt (wR R4 o0 0 (some o_1)) fun R7 =>
lt (wI I2 o0 3 (-1 : Int32)) fun I8 =>
al (13, 3520) I8 L3 R7 S5 fun o_9 I10 L11 R12 S13 =>
ckD (S13[o0]? = some (11, 95)) <|
lt (wR R12 o0 10 (some o_9)) fun R15 =>
al (13, 3520) I10 L11 R15 S13 fun o_16 I17 L18 R19 S20 =>
ckD (S20[o0]? = some (11, 95)) <|
lt (wR R19 o0 11 (some o_16)) fun R22 =>
al (13, 11) I17 L18 R22 S20 fun o_23 I24 L25 R26 S27 =>
ckD (S27[o0]? = some (11, 95)) <|
lt (wR R26 o0 12 (some o_23)) fun R29 =>
al (13, 3520) I24 L25 R29 S27 fun o_30 I31 L32 R33 S34 =>
ckD (S34[o0]? = some (11, 95)) <|
lt (wR R33 o0 13 (some o_30)) fun R36 =>
al (13, 3520) I31 L32 R36 S34 fun o_37 I38 L39 R40 S41 =>
ckD (S41[o0]? = some (11, 95)) <|
lt (wR R40 o0 14 (some o_37)) fun R43 =>
al (13, 11) I38 L39 R43 S41 fun o_44 I45 L46 R47 S48 =>
ckD (S48[o0]? = some (11, 95)) <|
lt (wR R47 o0 15 (some o_44)) fun R50 =>
al (13, 160) I45 L46 R50 S48 fun o_51 I52 L53 R54 S55 =>
ckD (S55[o0]? = some (11, 95)) <|
lt (wR R54 o0 16 (some o_51)) fun R57 =>
al (13, 64) I52 L53 R57 S55 fun o_58 I59 L60 R61 S62 =>
ckD (S62[o0]? = some (11, 95)) <|
lt (wR R61 o0 17 (some o_58)) fun R64 =>
al (14, 20) I59 L60 R64 S62 fun o_65 I66 L67 R68 S69 =>
ckD (S69[o0]? = some (11, 95)) <|
lt (wR R68 o0 24 (some o_65)) fun R71 =>
al (13, 10) I66 L67 R71 S69 fun o_72 I73 L74 R75 S76 =>
ckD (S76[o0]? = some (11, 95)) <|
lt (wR R75 o0 25 (some o_72)) fun R78 =>
al (13, 10) I73 L74 R78 S76 fun o_79 I80 L81 R82 S83 =>
ckD (S83[o0]? = some (11, 95)) <|
lt (wR R82 o0 26 (some o_79)) fun R85 =>
al (13, 10) I80 L81 R85 S83 fun o_86 I87 L88 R89 S90 =>
ckD (S90[o0]? = some (11, 95)) <|
lt (wR R89 o0 27 (some o_86)) fun R92 =>
al (13, 10) I87 L88 R92 S90 fun o_93 I94 L95 R96 S97 =>
ckD (S97[o0]? = some (11, 95)) <|
lt (wR R96 o0 28 (some o_93)) fun R99 =>
al (13, 10) I94 L95 R99 S97 fun o_100 I101 L102 R103 S104 =>
ckD (S104[o0]? = some (11, 95)) <|
lt (wR R103 o0 29 (some o_100)) fun R106 =>
al (13, 4) I101 L102 R106 S104 fun o_107 I108 L109 R110 S111 =>
ckD (S111[o0]? = some (11, 95)) <|
lt (wR R110 o0 30 (some o_107)) fun R113 =>
al (13, 4) I108 L109 R113 S111 fun o_114 I115 L116 R117 S118 =>
ckD (S118[o0]? = some (11, 95)) <|
lt (wR R117 o0 31 (some o_114)) fun R120 =>
al (13, 4) I115 L116 R120 S118 fun o_121 I122 L123 R124 S125 =>
ckD (S125[o0]? = some (11, 95)) <|
lt (wR R124 o0 32 (some o_121)) fun R127 =>
al (13, 4) I122 L123 R127 S125 fun o_128 I129 L130 R131 S132 =>
ckD (S132[o0]? = some (11, 95)) <|
lt (wR R131 o0 33 (some o_128)) fun R134 =>
al (13, 4) I129 L130 R134 S132 fun o_135 I136 L137 R138 S139 =>
ckD (S139[o0]? = some (11, 95)) <|
lt (wR R138 o0 34 (some o_135)) fun R141 =>
al (13, 4) I136 L137 R141 S139 fun o_142 I143 L144 R145 S146 =>
ckD (S146[o0]? = some (11, 95)) <|
lt (wR R145 o0 35 (some o_142)) fun R148 =>
al (15, 10) I143 L144 R148 S146 fun o_149 I150 L151 R152 S153 =>
ckD (S153[o0]? = some (11, 95)) <|
lt (wR R152 o0 36 (some o_149)) fun R155 =>
al (13, 10) I150 L151 R155 S153 fun o_156 I157 L158 R159 S160 =>
ckD (S160[o0]? = some (11, 95)) <|
lt (wR R159 o0 37 (some o_156)) fun R162 =>
al (13, 10) I157 L158 R162 S160 fun o_163 I164 L165 R166 S167 =>
ckD (S167[o0]? = some (11, 95)) <|
lt (wR R166 o0 38 (some o_163)) fun R169 =>
al (13, 10) I164 L165 R169 S167 fun o_170 I171 L172 R173 S174 =>
ckD (S174[o0]? = some (11, 95)) <|
lt (wR R173 o0 39 (some o_170)) fun R176 =>
al (13, 10) I171 L172 R176 S174 fun o_177 I178 L179 R180 S181 =>
ckD (S181[o0]? = some (11, 95)) <|
lt (wR R180 o0 40 (some o_177)) fun R183 =>
al (13, 10) I178 L179 R183 S181 fun o_184 I185 L186 R187 S188 =>
ckD (S188[o0]? = some (11, 95)) <|
lt (wR R187 o0 41 (some o_184)) fun R190 =>
al (13, 4) I185 L186 R190 S188 fun o_191 I192 L193 R194 S195 =>
ckD (S195[o0]? = some (11, 95)) <|
lt (wR R194 o0 42 (some o_191)) fun R197 =>
al (13, 4) I192 L193 R197 S195 fun o_198 I199 L200 R201 S202 =>
ckD (S202[o0]? = some (11, 95)) <|
lt (wR R201 o0 43 (some o_198)) fun R204 =>
al (13, 4) I199 L200 R204 S202 fun o_205 I206 L207 R208 S209 =>
ckD (S209[o0]? = some (11, 95)) <|
lt (wR R208 o0 44 (some o_205)) fun R211 =>
al (13, 4) I206 L207 R211 S209 fun o_212 I213 L214 R215 S216 =>
ckD (S216[o0]? = some (11, 95)) <|
lt (wR R215 o0 45 (some o_212)) fun R218 =>
al (13, 4) I213 L214 R218 S216 fun o_219 I220 L221 R222 S223 =>
ckD (S223[o0]? = some (11, 95)) <|
lt (wR R222 o0 46 (some o_219)) fun R225 =>
al (13, 4) I220 L221 R225 S223 fun o_226 I227 L228 R229 S230 =>
ckD (S230[o0]? = some (11, 95)) <|
lt (wR R229 o0 47 (some o_226)) fun R232 =>
al (15, 10) I227 L228 R232 S230 fun o_233 I234 L235 R236 S237 =>
ckD (S237[o0]? = some (11, 95)) <|
lt (wR R236 o0 48 (some o_233)) fun R239 =>
lt (wI I234 o0 65 (10 : Int32)) fun I240 =>
al (13, 128) I240 L235 R239 S237 fun o_241 I242 L243 R244 S245 =>
ckD (S245[o0]? = some (11, 95)) <|
lt (wR R244 o0 66 (some o_241)) fun R247 =>
al (13, 128) I242 L243 R247 S245 fun o_248 I249 L250 R251 S252 =>
ckD (S252[o0]? = some (11, 95)) <|
lt (wR R251 o0 67 (some o_248)) fun R254 =>
al (13, 5120) I249 L250 R254 S252 fun o_255 I256 L257 R258 S259 =>
ckD (S259[o0]? = some (11, 95)) <|
lt (wR R258 o0 70 (some o_255)) fun R261 =>
al (13, 2048) I256 L257 R261 S259 fun o_262 I263 L264 R265 S266 =>
ckD (S266[o0]? = some (11, 95)) <|
lt (wR R265 o0 73 (some o_262)) fun R268 =>
al (13, 16) I263 L264 R268 S266 fun o_269 I270 L271 R272 S273 =>
ckD (S273[o0]? = some (11, 95)) <|
lt (wR R272 o0 74 (some o_269)) fun R275 =>
al (13, 16) I270 L271 R275 S273 fun o_276 I277 L278 R279 S280 =>
ckD (S280[o0]? = some (11, 95)) <|
lt (wR R279 o0 75 (some o_276)) fun R282 =>
al (13, 16) I277 L278 R282 S280 fun o_283 I284 L285 R286 S287 =>
ckD (S287[o0]? = some (11, 95)) <|
lt (wR R286 o0 76 (some o_283)) fun R289 =>
al (13, 16) I284 L285 R289 S287 fun o_290 I291 L292 R293 S294 =>
ckD (S294[o0]? = some (11, 95)) <|
lt (wR R293 o0 77 (some o_290)) fun R296 =>
al (13, 16) I291 L292 R296 S294 fun o_297 I298 L299 R300 S301 =>
ckD (S301[o0]? = some (11, 95)) <|
lt (wR R300 o0 78 (some o_297)) fun R303 =>
al (13, 16) I298 L299 R303 S301 fun o_304 I305 L306 R307 S308 =>
ckD (S308[o0]? = some (11, 95)) <|
lt (wR R307 o0 79 (some o_304)) fun R310 =>
al (13, 4) I305 L306 R310 S308 fun o_311 I312 L313 R314 S315 =>
ckD (S315[o0]? = some (11, 95)) <|
lt (wR R314 o0 81 (some o_311)) fun R317 =>
al (13, 4) I312 L313 R317 S315 fun o_318 I319 L320 R321 S322 =>
ckD (S322[o0]? = some (11, 95)) <|
lt (wR R321 o0 82 (some o_318)) fun R324 =>
al (13, 40) I319 L320 R324 S322 fun o_325 I326 L327 R328 S329 =>
ckD (S329[o0]? = some (11, 95)) <|
lt (wR R328 o0 83 (some o_325)) fun R331 =>
al (13, 36) I326 L327 R331 S329 fun o_332 I333 L334 R335 S336 =>
ckD (S336[o0]? = some (11, 95)) <|
lt (wR R335 o0 84 (some o_332)) fun R338 =>
al (13, 30) I333 L334 R338 S336 fun o_339 I340 L341 R342 S343 =>
ckD (S343[o0]? = some (11, 95)) <|
lt (wR R342 o0 86 (some o_339)) fun R345 =>
al (13, 30) I340 L341 R345 S343 fun o_346 I347 L348 R349 S350 =>
ckD (S350[o0]? = some (11, 95)) <|
lt (wR R349 o0 87 (some o_346)) fun R352 =>
al (13, 30) I347 L348 R352 S350 fun o_353 I354 L355 R356 S357 =>
ckD (S357[o0]? = some (11, 95)) <|
lt (wR R356 o0 88 (some o_353)) fun R359 =>
al (13, 30) I354 L355 R359 S357 fun o_360 I361 L362 R363 S364 =>
ckD (S364[o0]? = some (11, 95)) <|
lt (wR R363 o0 89 (some o_360)) fun R366 =>
al (13, 30) I361 L362 R366 S364 fun o_367 I368 L369 R370 S371 =>
ckD (S371[o0]? = some (11, 95)) <|
lt (wR R370 o0 90 (some o_367)) fun R373 =>
al (15, 3) I368 L369 R373 S371 fun o_374 I375 L376 R377 S378 =>
ckD (S378[o0]? = some (11, 95)) <|
lt (wR R377 o0 93 (some o_374)) fun R380 =>
al (13, 384) I375 L376 R380 S378 fun o_381 I382 L383 R384 S385 =>
ckD (S385[o0]? = some (11, 95)) <|
lt (wR R384 o0 94 (some o_381)) fun R387 =>
some (I382, L383, R387, S385)
def stI : MI := fun _ _ => 0
def stL : ML := fun _ _ => 0
def stR : MR := fun _ _ => none
noncomputable def lawSD : Option (MI × ML × MR × MS) := al (10, 15) stI stL stR [] fun o_1 I2 L3 R4 S5 =>
b4 (y10_init o_1 I2 L3 R4 S5) fun I6 L7 R8 S9 =>
ckD (o_1 = 0) <|
al (11, 95) I6 L7 R8 S9 fun o_11 I12 L13 R14 S15 =>
b4 (y11_init o_11 I12 L13 R14 S15) fun I16 L17 R18 S19 =>
ckD (o_11 = 102) <| some (I16, L17, R18, S19)
abbrev stO1 (R : MR) (S : MS) : Prop :=
  S = tb_S0 ++ stk ++ tb_SM ∧ (∀ e ∈ tb_R0, R e.1 e.2.1 = some e.2.2) ∧ (∀ e ∈ tb_RM, R e.1 e.2.1 = some e.2.2) ∧ R 27 0 = some 28 ∧ R 0 2 = some 2
abbrev stO2 (R : MR) : Prop := (∀ i, i < 41 → R 60 i = if i = 0 then some 90 else none) ∧ (∀ i, i < 3 → R 61 i = none) ∧ (∀ i, i < 9 → R 64 i = none) ∧ (∀ j, j < 11 → R 90 j = some (90 + 1 + j))
abbrev stO3 (I : MI) : Prop :=
  (I 28 0 = 0 ∧ I 28 1 = 0 ∧ I 28 2 = 0 ∧ I 28 3 = 10 ∧ I 28 4 = 0 ∧ I 28 11 = 0 ∧ I 28 18 = 0) ∧ (∀ s, s < 5 → I 43 s = 0 ∧ I 44 s = 1) ∧ I 42 0 = 50 ∧ I 47 11 = 0 ∧ (I 0 1 = 0 ∧ I 0 12 = 0 ∧ I 0 14 = 0)
abbrev stO4 (I : MI) : Prop := I 20 8 = 0 ∧ I 20 9 = -1 ∧ I 83 6 = 0 ∧ (I 59 1 = 0 ∧ I 59 2 = 0 ∧ I 59 3 = 0) ∧ I 90 11 = 0 ∧ (∀ b, b < 3 → I 62 b = 0) ∧ I 41 5 = 0
abbrev stO5 (I : MI) : Prop :=
  (I 102 56 = 0 ∧ I 102 57 = 0 ∧ I 102 58 = 0 ∧ I 102 59 = 0 ∧ I 102 60 = 0 ∧ I 102 61 = 0 ∧ I 102 65 = 10) ∧ (I 102 1 = 0 ∧ I 102 2 = 0 ∧ I 102 3 = -1 ∧ I 102 92 = 0 ∧ I 102 85 = 0 ∧ I 102 91 = 0 ∧ I 102 71 = 0 ∧ I 102 72 = 0 ∧ I 102 21 = 0)
abbrev stO6 (I : MI) : Prop := (∀ k, k < 123 → I 138 k = 0) ∧ (∀ b, b < 4 → I 130 b = 0 ∧ I 131 b = 0) ∧ (∀ b, b < 3 → I 156 b = 0) ∧ (∀ s, s < 11 → I 106 s = 0)
abbrev stO7 (L : ML) : Prop := ∀ i, i < 26 → L 22 i = wdl.getD i 0
theorem st_1 : (match lawSD with | some (_, _, R, S) => decide (stO1 R S) | none => false) = true := by decide +kernel
theorem st_2 : (match lawSD with | some (_, _, R, _) => decide (stO2 R) | none => false) = true := by decide +kernel
theorem st_3 : (match lawSD with | some (I, _, _, _) => decide (stO3 I) | none => false) = true := by decide +kernel
theorem st_4 : (match lawSD with | some (I, _, _, _) => decide (stO4 I) | none => false) = true := by decide +kernel
theorem st_5 : (match lawSD with | some (I, _, _, _) => decide (stO5 I) | none => false) = true := by decide +kernel
theorem st_6 : (match lawSD with | some (I, _, _, _) => decide (stO6 I) | none => false) = true := by decide +kernel
theorem st_7 : (match lawSD with | some (_, L, _, _) => decide (stO7 L) | none => false) = true := by decide +kernel
theorem ck_D {α : Type} (P : Prop) [Decidable P] (o : Option α) : ck P o = ckD P o := by
  by_cases h : P
  · rw [ck_pos h, ckD, if_pos h]
  · rw [ck_neg h, ckD, if_neg h]
theorem ck_V {α : Type} (i : Int32) (n : Nat) (o : Option α) : ck (vp_in i n) o = ckV i n o := @ck_D _ (vp_in i n) (dc_vp i n) o
theorem ck_O {α : Type} (R : MR) (S : MS) (o : Option α) : ck (okr R S) o = ckO R S o := @ck_D _ (okr R S) (dc_okr R S) o
theorem ck_T {α : Type} (t : Nat) (o : Option α) : ck (isT t) o = ckT t o := @ck_D _ (isT t) (dc_isT t) o
theorem ck_S {α : Type} (R : MR) (S : MS) (q : Nat) (o : Option α) : ck (isSt R S q) o = ckS R S q o := @ck_D _ (isSt R S q) (dc_isSt R S q) o
theorem e_js_at (i : Int32) : js_at i = yjs_at i := by
  simp only [js_at, yjs_at, ck_V, ck_O, ck_T, ck_S, ck_D]
theorem e_j7_fill_53178_L5s (a0 : Nat) (ln0 : Nat) (c1 : Int32) (c3 : Int32) (rec : Int32 → MI → Option (MI)) (w2 : Int32) (I : MI) : j7_fill_53178_L5s a0 ln0 c1 c3 rec w2 I = yj7_fill_53178_L5s a0 ln0 c1 c3 rec w2 I := by
  simp only [j7_fill_53178_L5s, yj7_fill_53178_L5s, ck_V, ck_O, ck_T, ck_S, ck_D]
theorem e_j7_fill_53178_L5 (a0 : Nat) (ln0 : Nat) (c1 : Int32) (c3 : Int32) : ∀ n : Nat, j7_fill_53178_L5 a0 ln0 c1 c3 n = yj7_fill_53178_L5 a0 ln0 c1 c3 n
  | 0 => rfl
  | n + 1 => by
    funext w2 I
    rw [j7_fill_53178_L5, yj7_fill_53178_L5, e_j7_fill_53178_L5s, e_j7_fill_53178_L5 a0 ln0 c1 c3 n]
theorem e_j7_fill_53178 (a0 : Nat) (ln0 : Nat) (p1 : Int32) (I : MI) : j7_fill_53178 a0 ln0 p1 I = yj7_fill_53178 a0 ln0 p1 I := by
  simp only [j7_fill_53178, yj7_fill_53178, ck_V, ck_O, ck_T, ck_S, ck_D, e_j7_fill_53178_L5]
theorem e_x7_copyPlay (q0 : Nat) (q1 : Nat) (I : MI) : x7_copyPlay q0 q1 I = y7_copyPlay q0 q1 I := by
  simp only [x7_copyPlay, y7_copyPlay, ck_V, ck_O, ck_T, ck_S, ck_D]
theorem e_x7_copyAll (q0 : Nat) (q1 : Nat) (I : MI) : x7_copyAll q0 q1 I = y7_copyAll q0 q1 I := by
  simp only [x7_copyAll, y7_copyAll, ck_V, ck_O, ck_T, ck_S, ck_D, e_x7_copyPlay]
theorem e_x7_begin (q0 : Nat) (t1 : Nat) (I : MI) : x7_begin q0 t1 I = y7_begin q0 t1 I := by
  simp only [x7_begin, y7_begin, ck_V, ck_O, ck_T, ck_S, ck_D, e_j7_fill_53178]
theorem e_x7_init (o0 : Nat) (I : MI) (L : ML) (R : MR) (S : MS) : x7_init o0 I L R S = y7_init o0 I L R S := by
  simp only [x7_init, y7_init, ck_V, ck_O, ck_T, ck_S, ck_D]
theorem e_x0_clearC (o0 : Nat) (I : MI) (L : ML) (R : MR) (S : MS) : x0_clearC o0 I L R S = y0_clearC o0 I L R S := by
  simp only [x0_clearC, y0_clearC, ck_V, ck_O, ck_T, ck_S, ck_D, e_j7_fill_53178]
theorem e_x0_init (o0 : Nat) (I : MI) (L : ML) (R : MR) (S : MS) : x0_init o0 I L R S = y0_init o0 I L R S := by
  simp only [x0_init, y0_init, ck_V, ck_O, ck_T, ck_S, ck_D, e_x0_clearC]
theorem e_x8_clearC (o0 : Nat) (I : MI) (L : ML) (R : MR) (S : MS) : x8_clearC o0 I L R S = y8_clearC o0 I L R S := by
  simp only [x8_clearC, y8_clearC, ck_V, ck_O, ck_T, ck_S, ck_D, e_x0_clearC]
theorem e_x8_init (o0 : Nat) (I : MI) (L : ML) (R : MR) (S : MS) : x8_init o0 I L R S = y8_init o0 I L R S := by
  simp only [x8_init, y8_init, ck_V, ck_O, ck_T, ck_S, ck_D, e_x0_init, e_x8_clearC]
theorem e_x1_init (o0 : Nat) (q1 : Nat) (I : MI) (L : ML) (R : MR) (S : MS) : x1_init o0 q1 I L R S = y1_init o0 q1 I L R S := by
  simp only [x1_init, y1_init, ck_V, ck_O, ck_T, ck_S, ck_D]
theorem e_x2_init (o0 : Nat) (I : MI) (L : ML) (R : MR) (S : MS) : x2_init o0 I L R S = y2_init o0 I L R S := by
  simp only [x2_init, y2_init, ck_V, ck_O, ck_T, ck_S, ck_D]
theorem e_x3_init_L26s (o0 : Nat) (rec : Int32 → Int64 → Int32 → MI → ML → MR → MS → Option (MI × ML × MR × MS)) (w1 : Int32) (w2 : Int64) (w4 : Int32) (I : MI) (L : ML) (R : MR) (S : MS) : x3_init_L26s o0 rec w1 w2 w4 I L R S = y3_init_L26s o0 rec w1 w2 w4 I L R S := by
  simp only [x3_init_L26s, y3_init_L26s, ck_V, ck_O, ck_T, ck_S, ck_D, e_js_at]
theorem e_x3_init_L26 (o0 : Nat) : ∀ n : Nat, x3_init_L26 o0 n = y3_init_L26 o0 n
  | 0 => rfl
  | n + 1 => by
    funext w1 w2 w4 I L R S
    rw [x3_init_L26, y3_init_L26, e_x3_init_L26s, e_x3_init_L26 o0 n]
theorem e_x3_init (o0 : Nat) (I : MI) (L : ML) (R : MR) (S : MS) : x3_init o0 I L R S = y3_init o0 I L R S := by
  simp only [x3_init, y3_init, ck_V, ck_O, ck_T, ck_S, ck_D, e_x3_init_L26]
theorem e_x4_init (o0 : Nat) (q1 : Nat) (I : MI) (L : ML) (R : MR) (S : MS) : x4_init o0 q1 I L R S = y4_init o0 q1 I L R S := by
  simp only [x4_init, y4_init, ck_V, ck_O, ck_T, ck_S, ck_D]
theorem e_x5_init (o0 : Nat) (q1 : Nat) (I : MI) (L : ML) (R : MR) (S : MS) : x5_init o0 q1 I L R S = y5_init o0 q1 I L R S := by
  simp only [x5_init, y5_init, ck_V, ck_O, ck_T, ck_S, ck_D, e_x3_init]
theorem e_x6_init (o0 : Nat) (q1 : Nat) (I : MI) (L : ML) (R : MR) (S : MS) : x6_init o0 q1 I L R S = y6_init o0 q1 I L R S := by
  simp only [x6_init, y6_init, ck_V, ck_O, ck_T, ck_S, ck_D]
theorem e_x9_init (o0 : Nat) (q1 : Nat) (I : MI) (L : ML) (R : MR) (S : MS) : x9_init o0 q1 I L R S = y9_init o0 q1 I L R S := by
  simp only [x9_init, y9_init, ck_V, ck_O, ck_T, ck_S, ck_D, e_x7_init]
theorem e_j9_floorMod_7cf53 (p0 : Int32) (p1 : Int32) (I : MI) : j9_floorMod_7cf53 p0 p1 I = yj9_floorMod_7cf53 p0 p1 I := by
  simp only [j9_floorMod_7cf53, yj9_floorMod_7cf53, ck_V, ck_O, ck_T, ck_S, ck_D]
theorem e_x2_atHand (I : MI) (L : ML) (R : MR) (S : MS) : x2_atHand I L R S = y2_atHand I L R S := by
  simp only [x2_atHand, y2_atHand, ck_V, ck_O, ck_T, ck_S, ck_D, e_x7_init, e_j9_floorMod_7cf53]
theorem e_x2_start (q1 : Nat) (I : MI) (L : ML) (R : MR) (S : MS) : x2_start q1 I L R S = y2_start q1 I L R S := by
  simp only [x2_start, y2_start, ck_V, ck_O, ck_T, ck_S, ck_D, e_x7_copyAll, e_x2_atHand]
set_option maxRecDepth 8000 in
theorem e_x10_init (o0 : Nat) (I : MI) (L : ML) (R : MR) (S : MS) : x10_init o0 I L R S = y10_init o0 I L R S := by
  simp only [x10_init, y10_init, ck_V, ck_O, ck_T, ck_S, ck_D, e_x7_begin, e_x7_init, e_x8_init, e_x1_init, e_x2_init, e_x4_init, e_x5_init, e_x6_init, e_x9_init, e_x2_start]
set_option maxRecDepth 8000 in
theorem e_x11_init (o0 : Nat) (I : MI) (L : ML) (R : MR) (S : MS) : x11_init o0 I L R S = y11_init o0 I L R S := by
  simp only [x11_init, y11_init, ck_V, ck_O, ck_T, ck_S, ck_D]
