/-! THE TEXT: lines: apple, the class's stages -/
noncomputable def ca7 (r : Nat) (v1 : Int32) (I39 : MI) (L37 : ML) : Option (Int32 × MI × ML) :=
b1 (
if (I39 21 4) = 13 then (
b3 (x5_numberBehind (13 : Int32) (0 : Int32) (99 : Int32) I39 L37) fun r42 I43 L44 =>
some (r42, I43, L44)) else
some ((1 : Int32), I39, L37)) fun e41 =>
ck (vp_in v1 10) <|
lt (wI e41.2.1 (r + 6) (ix v1) e41.1) fun I45 =>
lt (wI I45 r 4 ((I45 r 4) + 1)) fun I47 =>
ck (vp_in v1 10) <|
if (I47 (r + 6) (ix v1)) = (-1) then (
some ((0 : Int32), I47, e41.2.2)) else
some ((1 : Int32), I47, e41.2.2)
noncomputable def ca6 (r : Nat) (v1 v10 v16 v21 v26 : Int32) (I : MI) (L : ML) : Option (Int32 × MI × ML) :=
if v26 = (-1) then (
some ((0 : Int32), I, L)) else
ck (vp_in v1 10) <|
lt (wI I (r + 1) (ix v1) v10) fun I27 =>
ck (vp_in v1 10) <|
lt (wI I27 (r + 2) (ix v1) v16) fun I29 =>
ck (vp_in v1 10) <|
lt (wI I29 (r + 3) (ix v1) v21) fun I31 =>
ck (vp_in v1 10) <|
lt (wI I31 (r + 4) (ix v1) v26) fun I33 =>
b3 (x5_optional (4 : Int32) I33 L) fun r35 I36 L37 =>
b1 (
if r35 = 0 then (
some (0 : Int32)) else
some (1 : Int32)) fun e38 =>
ck (vp_in v1 10) <|
lt (wI I36 (r + 5) (ix v1) e38) fun I39 => ca7 r v1 I39 L37
noncomputable def ca5 (r : Nat) (v1 v10 v16 v21 : Int32) (I : MI) (L : ML) : Option (Int32 × MI × ML) :=
b1 (
if v21 = (-1) then (
some ((-1 : Int32), I, L)) else
b3 (x5_numberBehind (12 : Int32) (0 : Int32) (9 : Int32) I L) fun r23 I24 L25 =>
some (r23, I24, L25)) fun e22 =>
lt e22.1 fun v26 => ca6 r v1 v10 v16 v21 v26 e22.2.1 e22.2.2
noncomputable def ca4 (r : Nat) (v1 v10 v16 : Int32) (I : MI) (L : ML) : Option (Int32 × MI × ML) :=
b1 (
if v16 = (-1) then (
some ((-1 : Int32), I, L)) else
b3 (x5_numberBehind (11 : Int32) (1 : Int32) (99 : Int32) I L) fun r18 I19 L20 =>
some (r18, I19, L20)) fun e17 =>
lt e17.1 fun v21 => ca5 r v1 v10 v16 v21 e17.2.1 e17.2.2
noncomputable def rapple (J : MI) (M : ML) : Option (MI × ML) := if (J 102 53) < 10 then (b2 (x11_readApple J M) fun a b => some (a, b)) else b1 (x11_wrong (2 : Int32) J) fun a => some (a, M)
section LNX
variable {r : Nat} {I : MI} {L : ML} {v1 v10 v16 v21 : Int32}
theorem ca_eq : x5_appleLine r I L = (lt (I r 4) fun v1 => if v1 < 10 then (b2 (x3_next I L) fun I2 L3 => b3 (x5_newName 25 10 v1 I2 L3) fun r4 I5 L6 => if r4 = 0 then some ((0 : Int32), I5, L6) else b3 (x5_numberBehind (10 : Int32) (0 : Int32) ((I5 r 0) - 1) I5 L6) fun r7 I8 L9 => lt r7 fun v10 => if v10 = (-1) then some ((0 : Int32), I8, L9) else b2 (x5_isFreeCell r v10 I8) fun r11 I12 => if r11 = 0 then some ((0 : Int32), I12, L9) else b3 (x5_number (0 : Int32) ((I12 r 1) - 1) I12 L9) fun r13 I14 L15 => lt r13 fun v16 => ca4 r v1 v10 v16 I14 L15) else b2 (x5_fail (2 : Int32) I) fun r49 I50 => ck (r49 = 0 ∨ r49 = 1) (some (r49, I50, L))) := rfl
theorem ca5_f : ca5 r v1 v10 v16 (-1) I L = some (0, I, L) := by rw [ca5, if_pos rfl, q_b1, q_l, ca6, if_pos rfl]
theorem ca4_f : ca4 r v1 v10 (-1) I L = some (0, I, L) := by rw [ca4, if_pos rfl, q_b1, q_l, ca5_f]
end LNX
