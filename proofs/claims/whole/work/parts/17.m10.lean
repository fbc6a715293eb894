noncomputable def x11_doesDrive_L14s (rec : Int32 → Int32 → MI → Option (MI)) (w6 : Int32) (w7 : Int32) (I : MI) : Option (MI) :=
if w7 < 0 then (
some I) else
ck (¬ (I 102 60) = 0) <|
ck (vp_in w7 4) <|
lt (wI I 148 (ix w7) (rm w6 (I 102 60))) fun I5 =>
ck (¬ (I5 102 60) = 0) <|
lt (w6 / (I5 102 60)) fun v8 =>
lt (w7 + (-1)) fun v9 =>
rec v8 v9 I5
noncomputable def x11_doesDrive_L14 : Nat → Int32 → Int32 → MI → Option (MI)
  | 0 => fun _ _ _ => none
  | n + 1 => x11_doesDrive_L14s (x11_doesDrive_L14 n)
noncomputable def x11_doesDrive_L51s (c1 : Int32) (c4 : Int32) (rec : Int32 → MI → Option ((MI) ⊕ (Int32 × MI))) (w7 : Int32) (I : MI) : Option ((MI) ⊕ (Int32 × MI)) :=
if w7 < c4 then (
ck (vp_in w7 4) <|
b2 (x11_canTry c1 (I 148 (ix w7)) (0 : Int32) I) fun r13 I14 =>
if r13 = 0 then (
some (.inr ((0 : Int32), I14))) else
ck (vp_in w7 4) <|
b1 (x11_miss c1 (I14 148 (ix w7)) (0 : Int32) I14) fun I16 =>
lt (w7 + 1) fun v17 =>
rec v17 I16) else
some (.inl I)
noncomputable def x11_doesDrive_L51 (c1 : Int32) (c4 : Int32) : Nat → Int32 → MI → Option ((MI) ⊕ (Int32 × MI))
  | 0 => fun _ _ => none
  | n + 1 => x11_doesDrive_L51s c1 c4 (x11_doesDrive_L51 c1 c4 n)
noncomputable def x11_doesDrive (p1 : Int32) (p2 : Int32) (p3 : Int32) (p4 : Int32) (p5 : Int32) (I : MI) : Option (Int32 × MI) :=
b1 (x11_load I) fun I1 =>
lt p5 fun v2 =>
lt (p4 - 1) fun v3 =>
b1 (x11_doesDrive_L14 FU v2 v3 I1) fun e10 =>
lt (0 : Int32) fun v11 =>
bE (x11_doesDrive_L51 p1 p4 FU v11 e10) fun e18 =>
b2 (x11_canTry p2 p3 (0 : Int32) e18) fun r19 I20 =>
ck (r19 = 0 ∨ r19 = 1) (some (r19, I20))
theorem x11_doesDrive_L14_ok {X : WX} {n0 s0 : Nat} {c1 : Int32} {c2 : Int32} {c3 : Int32} {c4 : Int32} {L : ML} {R : MR} {S : MS} (hK : okm R S) : ∀ (n : Nat) (w6 : Int32) (w7 : Int32) (I : MI), Sim X yX11_doesDrive cX11_doesDrive 8 (some .boolean) 4 95 n0 s0 14 [(0, .ref (X.1 + 102)), (1, .int c1), (2, .int c2), (3, .int c3), (4, .int c4), (6, .int w6), (7, .int w7)] [] (I, L, R, S) (x11_doesDrive_L14 n w6 w7 I) (fun b f => Ex X yX11_doesDrive cX11_doesDrive 8 (some .boolean) 4 95 n0 s0 48 [(0, .ref (X.1 + 102)), (1, .int c1), (2, .int c2), (3, .int c3), (4, .int c4)] [] (b, L, R, S) f) := by
  intro n
  induction n with
  | zero =>
    intro w6 w7 I
    exact sm_none
  | succ n ih =>
    intro w6 w7 I
    change Sim _ _ _ _ _ _ _ _ _ _ _ _ _ (x11_doesDrive_L14s (x11_doesDrive_L14 n) w6 w7 I) _
    unfold x11_doesDrive_L14s
    refine s_iload 6 dX11_doesDrive_14 rfl rfl ?_
    refine s_if_lt (tgt := 48) dX11_doesDrive_16 rfl rfl (fun _ => ?_) (fun _ => ?_)
    · skip
      refine s_pick [0, 1, 2, 3, 4] rfl ?_
      exact sm_exit (fun f h => h)
    · skip
      refine s_aload_n 0 dX11_doesDrive_19 rfl rfl ?_
      refine s_getR 148 dX11_doesDrive_20 rfl fl_11_154 rfl (S_102 hK) (R_102_82 hK) ?_
      refine s_iload 6 dX11_doesDrive_23 rfl rfl ?_
      refine s_iload 5 dX11_doesDrive_25 rfl rfl ?_
      refine s_aload_n 0 dX11_doesDrive_27 rfl rfl ?_
      refine s_getI dX11_doesDrive_28 rfl fl_11_467 (S_102 hK) ?_
      refine sm_ck (fun g4 => ?_)
      refine s_irem dX11_doesDrive_31 rfl g4 ?_
      refine sm_ck (fun g6 => ?_)
      refine s_iastL dX11_doesDrive_32 rfl (S_148 hK) g6 (fun I5 => ?_)
      refine s_iload 5 dX11_doesDrive_33 rfl rfl ?_
      refine s_aload_n 0 dX11_doesDrive_35 rfl rfl ?_
      refine s_getI dX11_doesDrive_36 rfl fl_11_467 (S_102 hK) ?_
      refine sm_ck (fun g7 => ?_)
      refine s_idiv dX11_doesDrive_39 rfl g7 ?_
      refine s_istoreL (fun v8 => [(6, .int v8), (0, .ref (X.1 + 102)), (1, .int c1), (2, .int c2), (3, .int c3), (4, .int c4), (7, .int w7)]) dX11_doesDrive_40 rfl (by decide) (fun _ => rfl) (fun v8 => ?_)
      refine s_iincL 6 (c := (-1)) (fun v9 => [(7, .int v9), (6, .int v8), (0, .ref (X.1 + 102)), (1, .int c1), (2, .int c2), (3, .int c3), (4, .int c4)]) dX11_doesDrive_42 rfl rfl cI_m1 (by decide) (fun _ => rfl) (fun v9 => ?_)
      refine s_goto (tgt := 14) dX11_doesDrive_45 rfl ?_
      refine s_pick [2, 3, 4, 5, 6, 1, 0] rfl ?_
      exact ih v8 v9 I5
theorem x11_doesDrive_L51_ok {X : WX} {n0 s0 : Nat} {c1 : Int32} {c2 : Int32} {c3 : Int32} {c4 : Int32} {L : ML} {R : MR} {S : MS} (hK : okm R S) : ∀ (n : Nat) (w7 : Int32) (I : MI), Sim X yX11_doesDrive cX11_doesDrive 8 (some .boolean) 4 95 n0 s0 51 [(0, .ref (X.1 + 102)), (1, .int c1), (2, .int c2), (3, .int c3), (4, .int c4), (7, .int w7)] [] (I, L, R, S) (x11_doesDrive_L51 c1 c4 n w7 I) (SE (fun b f => Ex X yX11_doesDrive cX11_doesDrive 8 (some .boolean) 4 95 n0 s0 95 [(0, .ref (X.1 + 102)), (2, .int c2), (3, .int c3)] [] (b, L, R, S) f) (fun a f => f = (fun r => (some (.int r.1), (r.2, L, R, S))) a)) := by
  intro n
  induction n with
  | zero =>
    intro w7 I
    exact sm_none
  | succ n ih =>
    intro w7 I
    change Sim _ _ _ _ _ _ _ _ _ _ _ _ _ (x11_doesDrive_L51s c1 c4 (x11_doesDrive_L51 c1 c4 n) w7 I) _
    unfold x11_doesDrive_L51s
    refine s_iload 5 dX11_doesDrive_51 rfl rfl ?_
    refine s_iload 4 dX11_doesDrive_53 rfl rfl ?_
    refine s_icmp_ge (tgt := 95) dX11_doesDrive_55 rfl rfl (fun _ => ?_) (fun _ => ?_)
    · skip
      refine s_pick [0, 2, 3] rfl ?_
      exact sm_exit (fun f h => h)
    · skip
      refine s_aload_n 0 dX11_doesDrive_58 rfl rfl ?_
      refine s_iload_n 1 dX11_doesDrive_59 rfl rfl ?_
      refine s_aload_n 0 dX11_doesDrive_60 rfl rfl ?_
      refine s_getR 148 dX11_doesDrive_61 rfl fl_11_154 rfl (S_102 hK) (R_102_82 hK) ?_
      refine s_iload 5 dX11_doesDrive_64 rfl rfl ?_
      refine sm_ck (fun g12 => ?_)
      refine s_iald dX11_doesDrive_66 rfl (S_148 hK) g12 ?_
      refine s_iconst (v := 0) dX11_doesDrive_67 rfl cI_0 ?_
      refine s_callV3_i1 dX11_doesDrive_68 rfl lkV_RX11_548 (S_102 hK) (Nat.le_of_ble_eq_true rfl) (Nat.le_of_ble_eq_true rfl) (Nat.le_of_ble_eq_true rfl) (ct_x11_canTry hK) (fun r13 I14 => ?_)
      refine s_if_ne (tgt := 76) dX11_doesDrive_71 rfl rfl (fun _ => ?_) (fun _ => ?_)
      · skip
        refine s_aload_n 0 dX11_doesDrive_76 rfl rfl ?_
        refine s_iload_n 1 dX11_doesDrive_77 rfl rfl ?_
        refine s_aload_n 0 dX11_doesDrive_78 rfl rfl ?_
        refine s_getR 148 dX11_doesDrive_79 rfl fl_11_154 rfl (S_102 hK) (R_102_82 hK) ?_
        refine s_iload 5 dX11_doesDrive_82 rfl rfl ?_
        refine sm_ck (fun g15 => ?_)
        refine s_iald dX11_doesDrive_84 rfl (S_148 hK) g15 ?_
        refine s_iconst (v := 0) dX11_doesDrive_85 rfl cI_0 ?_
        refine s_callV3_v1 dX11_doesDrive_86 rfl lkV_RX11_545 (S_102 hK) (Nat.le_of_ble_eq_true rfl) (Nat.le_of_ble_eq_true rfl) (Nat.le_of_ble_eq_true rfl) (ct_x11_miss hK) (fun I16 => ?_)
        refine s_iincL 5 (c := 1) (fun v17 => [(7, .int v17), (0, .ref (X.1 + 102)), (1, .int c1), (2, .int c2), (3, .int c3), (4, .int c4)]) dX11_doesDrive_89 rfl rfl cI_1 (by decide) (fun _ => rfl) (fun v17 => ?_)
        refine s_goto (tgt := 51) dX11_doesDrive_92 rfl ?_
        refine s_pick [1, 2, 3, 4, 5, 0] rfl ?_
        exact ih v17 I16
      · skip
        refine s_iconst (v := 0) dX11_doesDrive_74 rfl cI_0 ?_
        exact s_zret dX11_doesDrive_75 rfl (Or.inl rfl) (fun f h => h)
theorem ct_x11_doesDrive {X : WX} {p1 : Int32} {p2 : Int32} {p3 : Int32} {p4 : Int32} {p5 : Int32} {I : MI} {L : ML} {R : MR} {S : MS} (hK : okm R S) : Ct X yX11_doesDrive cX11_doesDrive 8 (some .boolean) 4 95 [.ref (X.1 + 102), .int p1, .int p2, .int p3, .int p4, .int p5] (I, L, R, S) (x11_doesDrive p1 p2 p3 p4 p5 I) (fun r => (some (.int r.1), (r.2, L, R, S))) := by
  refine Ct.of (by decide) (Nat.le_of_ble_eq_true rfl) [(0, .ref (X.1 + 102)), (1, .int p1), (2, .int p2), (3, .int p3), (4, .int p4), (5, .int p5)] rfl ?_
  unfold x11_doesDrive
  refine s_aload_n 0 dX11_doesDrive_0 rfl rfl ?_
  refine s_callV0_v1 dX11_doesDrive_1 rfl lkV_RX11_566 (S_102 hK) (Nat.le_of_ble_eq_true rfl) (Nat.le_of_ble_eq_true rfl) (Nat.le_of_ble_eq_true rfl) (ct_x11_load hK) (fun I1 => ?_)
  refine s_iload 5 dX11_doesDrive_4 rfl rfl ?_
  refine s_istoreL (fun v2 => [(6, .int v2), (0, .ref (X.1 + 102)), (1, .int p1), (2, .int p2), (3, .int p3), (4, .int p4), (5, .int p5)]) dX11_doesDrive_6 rfl (by decide) (fun _ => rfl) (fun v2 => ?_)
  refine s_iload 5 dX11_doesDrive_8 rfl rfl ?_
  refine s_iconst (v := 1) dX11_doesDrive_10 rfl cI_1 ?_
  refine s_isub dX11_doesDrive_11 rfl ?_
  refine s_istoreL (fun v3 => [(7, .int v3), (6, .int v2), (0, .ref (X.1 + 102)), (1, .int p1), (2, .int p2), (3, .int p3), (4, .int p4), (5, .int p5)]) dX11_doesDrive_12 rfl (by decide) (fun _ => rfl) (fun v3 => ?_)
  refine s_pick [2, 3, 4, 5, 6, 1, 0] rfl ?_
  refine sm_reg (x11_doesDrive_L14_ok hK FU v2 v3 I1) (fun e10 => ?_)
  refine s_iconst (v := 0) dX11_doesDrive_48 rfl cI_0 ?_
  refine s_istoreL (fun v11 => [(7, .int v11), (0, .ref (X.1 + 102)), (1, .int p1), (2, .int p2), (3, .int p3), (4, .int p4)]) dX11_doesDrive_49 rfl (by decide) (fun _ => rfl) (fun v11 => ?_)
  refine s_pick [1, 2, 3, 4, 5, 0] rfl ?_
  refine sm_regE (x11_doesDrive_L51_ok hK FU v11 e10) (fun e18 => ?_)
  refine s_aload_n 0 dX11_doesDrive_95 rfl rfl ?_
  refine s_iload_n 1 dX11_doesDrive_96 rfl rfl ?_
  refine s_iload_n 2 dX11_doesDrive_97 rfl rfl ?_
  refine s_iconst (v := 0) dX11_doesDrive_98 rfl cI_0 ?_
  refine s_callV3_i1 dX11_doesDrive_99 rfl lkV_RX11_548 (S_102 hK) (Nat.le_of_ble_eq_true rfl) (Nat.le_of_ble_eq_true rfl) (Nat.le_of_ble_eq_true rfl) (ct_x11_canTry hK) (fun r19 I20 => ?_)
  refine sm_ck (fun g21 => ?_)
  exact s_zret dX11_doesDrive_102 rfl g21 (fun f h => h)
noncomputable def x11_drives_L91s (c5 : Int32) (rec : Int32 → MI → Option (MI)) (w7 : Int32) (I : MI) : Option (MI) :=
if w7 < c5 then (
ck (vp_in w7 4) <|
ck (vp_in w7 40) <|
lt (wI I 149 (ix w7) (I 148 (ix w7))) fun I14 =>
lt (w7 + 1) fun v16 =>
rec v16 I14) else
some I
noncomputable def x11_drives_L91 (c5 : Int32) : Nat → Int32 → MI → Option (MI)
  | 0 => fun _ _ => none
  | n + 1 => x11_drives_L91s c5 (x11_drives_L91 c5 n)
noncomputable def x11_drives_L64s (c1 : Int32) (c2 : Int32) (c3 : Int32) (c4 : Int32) (c5 : Int32) (rec : Int32 → MI → Option ((MI) ⊕ (Int32 × MI))) (w6 : Int32) (I : MI) : Option ((MI) ⊕ (Int32 × MI)) :=
if w6 < c4 then (
b2 (x11_doesDrive c1 c2 c3 c5 w6 I) fun r10 I11 =>
if r10 = 0 then (
lt (w6 + 1) fun v19 =>
rec v19 I11) else
lt (0 : Int32) fun v12 =>
b1 (x11_drives_L91 c5 FU v12 I11) fun e17 =>
lt (wI e17 102 85 c5) fun I18 =>
some (.inr (c5, I18))) else
some (.inl I)
noncomputable def x11_drives_L64 (c1 : Int32) (c2 : Int32) (c3 : Int32) (c4 : Int32) (c5 : Int32) : Nat → Int32 → MI → Option ((MI) ⊕ (Int32 × MI))
  | 0 => fun _ _ => none
  | n + 1 => x11_drives_L64s c1 c2 c3 c4 c5 (x11_drives_L64 c1 c2 c3 c4 c5 n)
noncomputable def x11_drives_L55s (c1 : Int32) (c2 : Int32) (c3 : Int32) (rec : Int32 → Int32 → MI → Option ((MI) ⊕ (Int32 × MI))) (w4 : Int32) (w5 : Int32) (I : MI) : Option ((MI) ⊕ (Int32 × MI)) :=
if 4 < w5 then (
some (.inl I)) else
lt (0 : Int32) fun v9 =>
bF (x11_drives_L64 c1 c2 c3 w4 w5 FU v9 I) fun e20 =>
lt (w4 * (e20 102 60)) fun v21 =>
lt (w5 + 1) fun v22 =>
rec v21 v22 e20
noncomputable def x11_drives_L55 (c1 : Int32) (c2 : Int32) (c3 : Int32) : Nat → Int32 → Int32 → MI → Option ((MI) ⊕ (Int32 × MI))
  | 0 => fun _ _ _ => none
  | n + 1 => x11_drives_L55s c1 c2 c3 (x11_drives_L55 c1 c2 c3 n)
noncomputable def x11_drives (p1 : Int32) (p2 : Int32) (p3 : Int32) (I : MI) : Option (Int32 × MI) :=
lt (wI I 102 85 (0 : Int32)) fun I1 =>
b1 (x11_load I1) fun I2 =>
b1 (x11_isBobber p1 I2) fun r3 =>
if r3 = 0 then (
some ((-2 : Int32), I2)) else
b1 (x11_isBobber p2 I2) fun r4 =>
if r4 = 0 then (
some ((-2 : Int32), I2)) else
if p1 = p2 then (
some ((-2 : Int32), I2)) else
b1 (x11_isApple p3 I2) fun r5 =>
if r5 = 0 then (
some ((-2 : Int32), I2)) else
b1 (x11_isAfloat p3 I2) fun r6 =>
if r6 = 0 then (
some ((-2 : Int32), I2)) else
lt (1 : Int32) fun v7 =>
lt (0 : Int32) fun v8 =>
bE (x11_drives_L55 p1 p2 p3 FU v7 v8 I2) fun e23 =>
some ((-1 : Int32), e23)
theorem x11_drives_L91_ok {X : WX} {n0 s0 : Nat} {c5 : Int32} {L : ML} {R : MR} {S : MS} (hK : okm R S) : ∀ (n : Nat) (w7 : Int32) (I : MI), Sim X yX11_drives cX11_drives 8 (some .int) 5 122 n0 s0 91 [(0, .ref (X.1 + 102)), (5, .int c5), (7, .int w7)] [] (I, L, R, S) (x11_drives_L91 c5 n w7 I) (fun b f => Ex X yX11_drives cX11_drives 8 (some .int) 5 122 n0 s0 118 [(0, .ref (X.1 + 102)), (5, .int c5)] [] (b, L, R, S) f) := by
  intro n
  induction n with
  | zero =>
    intro w7 I
    exact sm_none
  | succ n ih =>
    intro w7 I
    change Sim _ _ _ _ _ _ _ _ _ _ _ _ _ (x11_drives_L91s c5 (x11_drives_L91 c5 n) w7 I) _
    unfold x11_drives_L91s
    refine s_iload 2 dX11_drives_91 rfl rfl ?_
    refine s_iload 1 dX11_drives_93 rfl rfl ?_
    refine s_icmp_ge (tgt := 118) dX11_drives_95 rfl rfl (fun _ => ?_) (fun _ => ?_)
    · skip
      refine s_pick [0, 1] rfl ?_
      exact sm_exit (fun f h => h)
    · skip
      refine s_aload_n 0 dX11_drives_98 rfl rfl ?_
      refine s_getR 149 dX11_drives_99 rfl fl_11_157 rfl (S_102 hK) (R_102_83 hK) ?_
      refine s_iload 2 dX11_drives_102 rfl rfl ?_
      refine s_aload_n 0 dX11_drives_104 rfl rfl ?_
      refine s_getR 148 dX11_drives_105 rfl fl_11_154 rfl (S_102 hK) (R_102_82 hK) ?_
      refine s_iload 2 dX11_drives_108 rfl rfl ?_
      refine sm_ck (fun g13 => ?_)
      refine s_iald dX11_drives_110 rfl (S_148 hK) g13 ?_
      refine sm_ck (fun g15 => ?_)
      refine s_iastL dX11_drives_111 rfl (S_149 hK) g15 (fun I14 => ?_)
      refine s_iincL 2 (c := 1) (fun v16 => [(7, .int v16), (0, .ref (X.1 + 102)), (5, .int c5)]) dX11_drives_112 rfl rfl cI_1 (by decide) (fun _ => rfl) (fun v16 => ?_)
      refine s_goto (tgt := 91) dX11_drives_115 rfl ?_
      refine s_pick [1, 2, 0] rfl ?_
      exact ih v16 I14
theorem x11_drives_L64_ok {X : WX} {n0 s0 : Nat} {c1 : Int32} {c2 : Int32} {c3 : Int32} {c4 : Int32} {c5 : Int32} {L : ML} {R : MR} {S : MS} (hK : okm R S) : ∀ (n : Nat) (w6 : Int32) (I : MI), Sim X yX11_drives cX11_drives 8 (some .int) 5 122 n0 s0 64 [(0, .ref (X.1 + 102)), (1, .int c1), (2, .int c2), (3, .int c3), (4, .int c4), (5, .int c5), (6, .int w6)] [] (I, L, R, S) (x11_drives_L64 c1 c2 c3 c4 c5 n w6 I) (SE (fun b f => Ex X yX11_drives cX11_drives 8 (some .int) 5 122 n0 s0 133 [(0, .ref (X.1 + 102)), (1, .int c1), (2, .int c2), (3, .int c3), (4, .int c4), (5, .int c5)] [] (b, L, R, S) f) (fun a f => f = (fun r => (some (.int r.1), (r.2, L, R, S))) a)) := by
  intro n
  induction n with
  | zero =>
    intro w6 I
    exact sm_none
  | succ n ih =>
    intro w6 I
    change Sim _ _ _ _ _ _ _ _ _ _ _ _ _ (x11_drives_L64s c1 c2 c3 c4 c5 (x11_drives_L64 c1 c2 c3 c4 c5 n) w6 I) _
    unfold x11_drives_L64s
    refine s_iload 6 dX11_drives_64 rfl rfl ?_
    refine s_iload 4 dX11_drives_66 rfl rfl ?_
    refine s_icmp_ge (tgt := 133) dX11_drives_68 rfl rfl (fun _ => ?_) (fun _ => ?_)
    · skip
      refine s_pick [0, 1, 2, 3, 4, 5] rfl ?_
      exact sm_exit (fun f h => h)
    · skip
      refine s_aload_n 0 dX11_drives_71 rfl rfl ?_
      refine s_iload_n 1 dX11_drives_72 rfl rfl ?_
      refine s_iload_n 2 dX11_drives_73 rfl rfl ?_
      refine s_iload_n 3 dX11_drives_74 rfl rfl ?_
      refine s_iload 5 dX11_drives_75 rfl rfl ?_
      refine s_iload 6 dX11_drives_77 rfl rfl ?_
      refine s_callV5_i1 dX11_drives_79 rfl lkV_RX11_615 (S_102 hK) (Nat.le_of_ble_eq_true rfl) (Nat.le_of_ble_eq_true rfl) (Nat.le_of_ble_eq_true rfl) (ct_x11_doesDrive hK) (fun r10 I11 => ?_)
      refine s_if_ne (tgt := 88) dX11_drives_82 rfl rfl (fun _ => ?_) (fun _ => ?_)
      · skip
        refine s_iconst (v := 0) dX11_drives_88 rfl cI_0 ?_
        refine s_istoreL (fun v12 => [(7, .int v12), (0, .ref (X.1 + 102)), (1, .int c1), (2, .int c2), (3, .int c3), (4, .int c4), (5, .int c5), (6, .int w6)]) dX11_drives_89 rfl (by decide) (fun _ => rfl) (fun v12 => ?_)
        refine s_pick [1, 6, 0] rfl ?_
        refine sm_reg (x11_drives_L91_ok hK FU v12 I11) (fun e17 => ?_)
        refine s_aload_n 0 dX11_drives_118 rfl rfl ?_
        refine s_iload 1 dX11_drives_119 rfl rfl ?_
        refine s_putIL dX11_drives_121 rfl fl_11_491 (S_102 hK) (fun I18 => ?_)
        refine s_iload 1 dX11_drives_124 rfl rfl ?_
        exact s_iret dX11_drives_126 rfl (fun f h => h)
      · skip
        refine s_goto (tgt := 127) dX11_drives_85 rfl ?_
        refine s_iincL 6 (c := 1) (fun v19 => [(6, .int v19), (0, .ref (X.1 + 102)), (1, .int c1), (2, .int c2), (3, .int c3), (4, .int c4), (5, .int c5)]) dX11_drives_127 rfl rfl cI_1 (by decide) (fun _ => rfl) (fun v19 => ?_)
        refine s_goto (tgt := 64) dX11_drives_130 rfl ?_
        refine s_pick [1, 2, 3, 4, 5, 6, 0] rfl ?_
        exact ih v19 I11
theorem x11_drives_L55_ok {X : WX} {n0 s0 : Nat} {c1 : Int32} {c2 : Int32} {c3 : Int32} {L : ML} {R : MR} {S : MS} (hK : okm R S) : ∀ (n : Nat) (w4 : Int32) (w5 : Int32) (I : MI), Sim X yX11_drives cX11_drives 8 (some .int) 5 122 n0 s0 55 [(0, .ref (X.1 + 102)), (1, .int c1), (2, .int c2), (3, .int c3), (4, .int w4), (5, .int w5)] [] (I, L, R, S) (x11_drives_L55 c1 c2 c3 n w4 w5 I) (SE (fun b f => Ex X yX11_drives cX11_drives 8 (some .int) 5 122 n0 s0 148 [] [] (b, L, R, S) f) (fun a f => f = (fun r => (some (.int r.1), (r.2, L, R, S))) a)) := by
  intro n
  induction n with
  | zero =>
    intro w4 w5 I
    exact sm_none
  | succ n ih =>
    intro w4 w5 I
    change Sim _ _ _ _ _ _ _ _ _ _ _ _ _ (x11_drives_L55s c1 c2 c3 (x11_drives_L55 c1 c2 c3 n) w4 w5 I) _
    unfold x11_drives_L55s
    refine s_iload 5 dX11_drives_55 rfl rfl ?_
    refine s_iconst (v := 4) dX11_drives_57 rfl cI_4 ?_
    refine s_icmp_gt (tgt := 148) dX11_drives_58 rfl rfl (fun _ => ?_) (fun _ => ?_)
    · skip
      refine s_pick [] rfl ?_
      exact sm_exit (fun f h => h)
    · skip
      refine s_iconst (v := 0) dX11_drives_61 rfl cI_0 ?_
      refine s_istoreL (fun v9 => [(6, .int v9), (0, .ref (X.1 + 102)), (1, .int c1), (2, .int c2), (3, .int c3), (4, .int w4), (5, .int w5)]) dX11_drives_62 rfl (by decide) (fun _ => rfl) (fun v9 => ?_)
      refine s_pick [1, 2, 3, 4, 5, 6, 0] rfl ?_
      refine sm_regF (x11_drives_L64_ok hK FU v9 I) (fun e20 => ?_)
      refine s_iload 4 dX11_drives_133 rfl rfl ?_
      refine s_aload_n 0 dX11_drives_135 rfl rfl ?_
      refine s_getI dX11_drives_136 rfl fl_11_467 (S_102 hK) ?_
      refine s_imul dX11_drives_139 rfl ?_
      refine s_istoreL (fun v21 => [(4, .int v21), (0, .ref (X.1 + 102)), (1, .int c1), (2, .int c2), (3, .int c3), (5, .int w5)]) dX11_drives_140 rfl (by decide) (fun _ => rfl) (fun v21 => ?_)
      refine s_iincL 5 (c := 1) (fun v22 => [(5, .int v22), (4, .int v21), (0, .ref (X.1 + 102)), (1, .int c1), (2, .int c2), (3, .int c3)]) dX11_drives_142 rfl rfl cI_1 (by decide) (fun _ => rfl) (fun v22 => ?_)
      refine s_goto (tgt := 55) dX11_drives_145 rfl ?_
      refine s_pick [2, 3, 4, 5, 1, 0] rfl ?_
      exact ih v21 v22 e20
theorem ct_x11_drives {X : WX} {p1 : Int32} {p2 : Int32} {p3 : Int32} {I : MI} {L : ML} {R : MR} {S : MS} (hK : okm R S) : Ct X yX11_drives cX11_drives 8 (some .int) 5 122 [.ref (X.1 + 102), .int p1, .int p2, .int p3] (I, L, R, S) (x11_drives p1 p2 p3 I) (fun r => (some (.int r.1), (r.2, L, R, S))) := by
  refine Ct.of (by decide) (Nat.le_of_ble_eq_true rfl) [(0, .ref (X.1 + 102)), (1, .int p1), (2, .int p2), (3, .int p3)] rfl ?_
  unfold x11_drives
  refine s_aload_n 0 dX11_drives_0 rfl rfl ?_
  refine s_iconst (v := 0) dX11_drives_1 rfl cI_0 ?_
  refine s_putIL dX11_drives_2 rfl fl_11_491 (S_102 hK) (fun I1 => ?_)
  refine s_aload_n 0 dX11_drives_5 rfl rfl ?_
  refine s_callV0_v1 dX11_drives_6 rfl lkV_RX11_566 (S_102 hK) (Nat.le_of_ble_eq_true rfl) (Nat.le_of_ble_eq_true rfl) (Nat.le_of_ble_eq_true rfl) (ct_x11_load hK) (fun I2 => ?_)
  refine s_aload_n 0 dX11_drives_9 rfl rfl ?_
  refine s_iload_n 1 dX11_drives_10 rfl rfl ?_
  refine s_callV1_i0 dX11_drives_11 rfl lkV_RX11_563 (S_102 hK) (Nat.le_of_ble_eq_true rfl) (Nat.le_of_ble_eq_true rfl) (Nat.le_of_ble_eq_true rfl) (ct_x11_isBobber hK) (fun r3 => ?_)
  refine s_if_eq (tgt := 46) dX11_drives_14 rfl rfl (fun _ => ?_) (fun _ => ?_)
  · skip
    refine s_bipush (v := (-2)) dX11_drives_46 rfl cB_m2 ?_
    exact s_iret dX11_drives_48 rfl (fun f h => h)
  · skip
    refine s_aload_n 0 dX11_drives_17 rfl rfl ?_
    refine s_iload_n 2 dX11_drives_18 rfl rfl ?_
    refine s_callV1_i0 dX11_drives_19 rfl lkV_RX11_563 (S_102 hK) (Nat.le_of_ble_eq_true rfl) (Nat.le_of_ble_eq_true rfl) (Nat.le_of_ble_eq_true rfl) (ct_x11_isBobber hK) (fun r4 => ?_)
    refine s_if_eq (tgt := 46) dX11_drives_22 rfl rfl (fun _ => ?_) (fun _ => ?_)
    · skip
      refine s_bipush (v := (-2)) dX11_drives_46 rfl cB_m2 ?_
      exact s_iret dX11_drives_48 rfl (fun f h => h)
    · skip
      refine s_iload_n 1 dX11_drives_25 rfl rfl ?_
      refine s_iload_n 2 dX11_drives_26 rfl rfl ?_
      refine s_icmp_eq (tgt := 46) dX11_drives_27 rfl rfl (fun _ => ?_) (fun _ => ?_)
      · skip
        refine s_bipush (v := (-2)) dX11_drives_46 rfl cB_m2 ?_
        exact s_iret dX11_drives_48 rfl (fun f h => h)
      · skip
        refine s_aload_n 0 dX11_drives_30 rfl rfl ?_
        refine s_iload_n 3 dX11_drives_31 rfl rfl ?_
        refine s_callV1_i0 dX11_drives_32 rfl lkV_RX11_560 (S_102 hK) (Nat.le_of_ble_eq_true rfl) (Nat.le_of_ble_eq_true rfl) (Nat.le_of_ble_eq_true rfl) (ct_x11_isApple hK) (fun r5 => ?_)
        refine s_if_eq (tgt := 46) dX11_drives_35 rfl rfl (fun _ => ?_) (fun _ => ?_)
        · skip
          refine s_bipush (v := (-2)) dX11_drives_46 rfl cB_m2 ?_
          exact s_iret dX11_drives_48 rfl (fun f h => h)
        · skip
          refine s_aload_n 0 dX11_drives_38 rfl rfl ?_
          refine s_iload_n 3 dX11_drives_39 rfl rfl ?_
          refine s_callV1_i0 dX11_drives_40 rfl lkV_RX11_501 (S_102 hK) (Nat.le_of_ble_eq_true rfl) (Nat.le_of_ble_eq_true rfl) (Nat.le_of_ble_eq_true rfl) (ct_x11_isAfloat hK) (fun r6 => ?_)
          refine s_if_ne (tgt := 49) dX11_drives_43 rfl rfl (fun _ => ?_) (fun _ => ?_)
          · skip
            refine s_iconst (v := 1) dX11_drives_49 rfl cI_1 ?_
            refine s_istoreL (fun v7 => [(4, .int v7), (0, .ref (X.1 + 102)), (1, .int p1), (2, .int p2), (3, .int p3)]) dX11_drives_50 rfl (by decide) (fun _ => rfl) (fun v7 => ?_)
            refine s_iconst (v := 0) dX11_drives_52 rfl cI_0 ?_
            refine s_istoreL (fun v8 => [(5, .int v8), (4, .int v7), (0, .ref (X.1 + 102)), (1, .int p1), (2, .int p2), (3, .int p3)]) dX11_drives_53 rfl (by decide) (fun _ => rfl) (fun v8 => ?_)
            refine s_pick [2, 3, 4, 5, 1, 0] rfl ?_
            refine sm_regE (x11_drives_L55_ok hK FU v7 v8 I2) (fun e23 => ?_)
            refine s_iconst (v := (-1)) dX11_drives_148 rfl cI_m1 ?_
            exact s_iret dX11_drives_149 rfl (fun f h => h)
          · skip
            refine s_bipush (v := (-2)) dX11_drives_46 rfl cB_m2 ?_
            exact s_iret dX11_drives_48 rfl (fun f h => h)
noncomputable def x11_goneOf_L6s (c1 : Int32) (rec : Int32 → MI → Option (MI)) (w2 : Int32) (I : MI) : Option (MI) :=
if w2 < (I 102 60) then (
if ((c1 >>> (w2 &&& 31)) &&& 1) = 0 then (
b1 (x11_isAfloat w2 I) fun r4 =>
if r4 = 0 then (
lt (w2 + 1) fun v5 =>
rec v5 I) else
ck (vp_in ((5 * w2) + 2) 128) <|
lt (wI I 137 (ix ((5 * w2) + 2)) (8 : Int32)) fun I6 =>
lt (w2 + 1) fun v8 =>
rec v8 I6) else
lt (w2 + 1) fun v3 =>
rec v3 I) else
some I
noncomputable def x11_goneOf_L6 (c1 : Int32) : Nat → Int32 → MI → Option (MI)
  | 0 => fun _ _ => none
  | n + 1 => x11_goneOf_L6s c1 (x11_goneOf_L6 c1 n)
noncomputable def x11_goneOf_L67s (rec : Int32 → MI → Option (MI)) (w3 : Int32) (I : MI) : Option (MI) :=
if w3 < (I 102 61) then (
ck (vp_in w3 4) <|
b2 (x11_actsBy w3 (I 135 (ix w3)) I) fun r14 I15 =>
lt (w3 + 1) fun v16 =>
rec v16 I15) else
some I
noncomputable def x11_goneOf_L67 : Nat → Int32 → MI → Option (MI)
  | 0 => fun _ _ => none
  | n + 1 => x11_goneOf_L67s (x11_goneOf_L67 n)
noncomputable def x11_goneOf_L59s (rec : Int32 → MI → Option ((MI) ⊕ (Int32 × MI))) (w2 : Int32) (I : MI) : Option ((MI) ⊕ (Int32 × MI)) :=
if 60 < w2 then (
some (.inl I)) else
lt (0 : Int32) fun v12 =>
b1 (x11_goneOf_L67 FU v12 I) fun e17 =>
b1 (x11_afloatAll e17) fun r18 =>
if r18 = 0 then (
some (.inr (w2, e17))) else
lt (w2 + 1) fun v19 =>
rec v19 e17
noncomputable def x11_goneOf_L59 : Nat → Int32 → MI → Option ((MI) ⊕ (Int32 × MI))
  | 0 => fun _ _ => none
  | n + 1 => x11_goneOf_L59s (x11_goneOf_L59 n)
noncomputable def x11_goneOf (p1 : Int32) (I : MI) : Option (Int32 × MI) :=
b1 (x11_load I) fun I1 =>
lt (0 : Int32) fun v2 =>
b1 (x11_goneOf_L6 p1 FU v2 I1) fun e9 =>
b1 (x11_afloatAll e9) fun r10 =>
if r10 = 0 then (
some ((0 : Int32), e9)) else
lt (1 : Int32) fun v11 =>
bE (x11_goneOf_L59 FU v11 e9) fun e20 =>
some ((-1 : Int32), e20)
theorem x11_goneOf_L6_ok {X : WX} {n0 s0 : Nat} {c1 : Int32} {L : ML} {R : MR} {S : MS} (hK : okm R S) : ∀ (n : Nat) (w2 : Int32) (I : MI), Sim X yX11_goneOf cX11_goneOf 4 (some .int) 7 169 n0 s0 6 [(0, .ref (X.1 + 102)), (1, .int c1), (2, .int w2)] [] (I, L, R, S) (x11_goneOf_L6 c1 n w2 I) (fun b f => Ex X yX11_goneOf cX11_goneOf 4 (some .int) 7 169 n0 s0 48 [(0, .ref (X.1 + 102))] [] (b, L, R, S) f) := by
  intro n
  induction n with
  | zero =>
    intro w2 I
    exact sm_none
  | succ n ih =>
    intro w2 I
    change Sim _ _ _ _ _ _ _ _ _ _ _ _ _ (x11_goneOf_L6s c1 (x11_goneOf_L6 c1 n) w2 I) _
    unfold x11_goneOf_L6s
    refine s_iload_n 2 dX11_goneOf_6 rfl rfl ?_
    refine s_aload_n 0 dX11_goneOf_7 rfl rfl ?_
    refine s_getI dX11_goneOf_8 rfl fl_11_467 (S_102 hK) ?_
    refine s_icmp_ge (tgt := 48) dX11_goneOf_11 rfl rfl (fun _ => ?_) (fun _ => ?_)
    · skip
      refine s_pick [0] rfl ?_
      exact sm_exit (fun f h => h)
    · skip
      refine s_iload_n 1 dX11_goneOf_14 rfl rfl ?_
      refine s_iload_n 2 dX11_goneOf_15 rfl rfl ?_
      refine s_ishr dX11_goneOf_16 rfl ?_
      refine s_iconst (v := 1) dX11_goneOf_17 rfl cI_1 ?_
      refine s_iand dX11_goneOf_18 rfl ?_
      refine s_if_ne (tgt := 42) dX11_goneOf_19 rfl rfl (fun _ => ?_) (fun _ => ?_)
      · skip
        refine s_iincL 2 (c := 1) (fun v3 => [(2, .int v3), (0, .ref (X.1 + 102)), (1, .int c1)]) dX11_goneOf_42 rfl rfl cI_1 (by decide) (fun _ => rfl) (fun v3 => ?_)
        refine s_goto (tgt := 6) dX11_goneOf_45 rfl ?_
        refine s_pick [1, 2, 0] rfl ?_
        exact ih v3 I
      · skip
        refine s_aload_n 0 dX11_goneOf_22 rfl rfl ?_
        refine s_iload_n 2 dX11_goneOf_23 rfl rfl ?_
        refine s_callV1_i0 dX11_goneOf_24 rfl lkV_RX11_501 (S_102 hK) (Nat.le_of_ble_eq_true rfl) (Nat.le_of_ble_eq_true rfl) (Nat.le_of_ble_eq_true rfl) (ct_x11_isAfloat hK) (fun r4 => ?_)
        refine s_if_eq (tgt := 42) dX11_goneOf_27 rfl rfl (fun _ => ?_) (fun _ => ?_)
        · skip
          refine s_iincL 2 (c := 1) (fun v5 => [(2, .int v5), (0, .ref (X.1 + 102)), (1, .int c1)]) dX11_goneOf_42 rfl rfl cI_1 (by decide) (fun _ => rfl) (fun v5 => ?_)
          refine s_goto (tgt := 6) dX11_goneOf_45 rfl ?_
          refine s_pick [1, 2, 0] rfl ?_
          exact ih v5 I
        · skip
          refine s_aload_n 0 dX11_goneOf_30 rfl rfl ?_
          refine s_getR 137 dX11_goneOf_31 rfl fl_11_121 rfl (S_102 hK) (R_102_66 hK) ?_
          refine s_iconst (v := 5) dX11_goneOf_34 rfl cI_5 ?_
          refine s_iload_n 2 dX11_goneOf_35 rfl rfl ?_
          refine s_imul dX11_goneOf_36 rfl ?_
          refine s_iconst (v := 2) dX11_goneOf_37 rfl cI_2 ?_
          refine s_iadd dX11_goneOf_38 rfl ?_
          refine s_bipush (v := 8) dX11_goneOf_39 rfl cB_8 ?_
          refine sm_ck (fun g7 => ?_)
          refine s_iastL dX11_goneOf_41 rfl (S_137 hK) g7 (fun I6 => ?_)
          refine s_iincL 2 (c := 1) (fun v8 => [(2, .int v8), (0, .ref (X.1 + 102)), (1, .int c1)]) dX11_goneOf_42 rfl rfl cI_1 (by decide) (fun _ => rfl) (fun v8 => ?_)
          refine s_goto (tgt := 6) dX11_goneOf_45 rfl ?_
          refine s_pick [1, 2, 0] rfl ?_
          exact ih v8 I6
theorem x11_goneOf_L67_ok {X : WX} {n0 s0 : Nat} {c2 : Int32} {L : ML} {R : MR} {S : MS} (hK : okm R S) : ∀ (n : Nat) (w3 : Int32) (I : MI), Sim X yX11_goneOf cX11_goneOf 4 (some .int) 7 169 n0 s0 67 [(0, .ref (X.1 + 102)), (2, .int c2), (3, .int w3)] [] (I, L, R, S) (x11_goneOf_L67 n w3 I) (fun b f => Ex X yX11_goneOf cX11_goneOf 4 (some .int) 7 169 n0 s0 93 [(0, .ref (X.1 + 102)), (2, .int c2)] [] (b, L, R, S) f) := by
  intro n
  induction n with
  | zero =>
    intro w3 I
    exact sm_none
  | succ n ih =>
    intro w3 I
    change Sim _ _ _ _ _ _ _ _ _ _ _ _ _ (x11_goneOf_L67s (x11_goneOf_L67 n) w3 I) _
    unfold x11_goneOf_L67s
    refine s_iload_n 2 dX11_goneOf_67 rfl rfl ?_
    refine s_aload_n 0 dX11_goneOf_68 rfl rfl ?_
    refine s_getI dX11_goneOf_69 rfl fl_11_470 (S_102 hK) ?_
    refine s_icmp_ge (tgt := 93) dX11_goneOf_72 rfl rfl (fun _ => ?_) (fun _ => ?_)
    · skip
      refine s_pick [0, 1] rfl ?_
      exact sm_exit (fun f h => h)
    · skip
      refine s_aload_n 0 dX11_goneOf_75 rfl rfl ?_
      refine s_iload_n 2 dX11_goneOf_76 rfl rfl ?_
      refine s_aload_n 0 dX11_goneOf_77 rfl rfl ?_
      refine s_getR 135 dX11_goneOf_78 rfl fl_11_112 rfl (S_102 hK) (R_102_47 hK) ?_
      refine s_iload_n 2 dX11_goneOf_81 rfl rfl ?_
      refine sm_ck (fun g13 => ?_)
      refine s_iald dX11_goneOf_82 rfl (S_135 hK) g13 ?_
      refine s_callV2_i1 dX11_goneOf_83 rfl lkV_RX11_584 (S_102 hK) (Nat.le_of_ble_eq_true rfl) (Nat.le_of_ble_eq_true rfl) (Nat.le_of_ble_eq_true rfl) (ct_x11_actsBy hK) (fun r14 I15 => ?_)
      refine s_pop dX11_goneOf_86 rfl rfl ?_
      refine s_iincL 2 (c := 1) (fun v16 => [(3, .int v16), (0, .ref (X.1 + 102)), (2, .int c2)]) dX11_goneOf_87 rfl rfl cI_1 (by decide) (fun _ => rfl) (fun v16 => ?_)
      refine s_goto (tgt := 67) dX11_goneOf_90 rfl ?_
      refine s_pick [1, 2, 0] rfl ?_
      exact ih v16 I15
theorem x11_goneOf_L59_ok {X : WX} {n0 s0 : Nat} {L : ML} {R : MR} {S : MS} (hK : okm R S) : ∀ (n : Nat) (w2 : Int32) (I : MI), Sim X yX11_goneOf cX11_goneOf 4 (some .int) 7 169 n0 s0 59 [(0, .ref (X.1 + 102)), (2, .int w2)] [] (I, L, R, S) (x11_goneOf_L59 n w2 I) (SE (fun b f => Ex X yX11_goneOf cX11_goneOf 4 (some .int) 7 169 n0 s0 108 [] [] (b, L, R, S) f) (fun a f => f = (fun r => (some (.int r.1), (r.2, L, R, S))) a)) := by
  intro n
  induction n with
  | zero =>
    intro w2 I
    exact sm_none
  | succ n ih =>
    intro w2 I
    change Sim _ _ _ _ _ _ _ _ _ _ _ _ _ (x11_goneOf_L59s (x11_goneOf_L59 n) w2 I) _
    unfold x11_goneOf_L59s
    refine s_iload_n 1 dX11_goneOf_59 rfl rfl ?_
    refine s_bipush (v := 60) dX11_goneOf_60 rfl cB_60 ?_
    refine s_icmp_gt (tgt := 108) dX11_goneOf_62 rfl rfl (fun _ => ?_) (fun _ => ?_)
    · skip
      refine s_pick [] rfl ?_
      exact sm_exit (fun f h => h)
    · skip
      refine s_iconst (v := 0) dX11_goneOf_65 rfl cI_0 ?_
      refine s_istore_nL (fun v12 => [(3, .int v12), (0, .ref (X.1 + 102)), (2, .int w2)]) dX11_goneOf_66 rfl (by decide) (fun _ => rfl) (fun v12 => ?_)
      refine s_pick [1, 2, 0] rfl ?_
      refine sm_reg (x11_goneOf_L67_ok hK FU v12 I) (fun e17 => ?_)
      refine s_aload_n 0 dX11_goneOf_93 rfl rfl ?_
      refine s_callV0_i0 dX11_goneOf_94 rfl lkV_RX11_619 (S_102 hK) (Nat.le_of_ble_eq_true rfl) (Nat.le_of_ble_eq_true rfl) (Nat.le_of_ble_eq_true rfl) (ct_x11_afloatAll hK) (fun r18 => ?_)
      refine s_if_ne (tgt := 102) dX11_goneOf_97 rfl rfl (fun _ => ?_) (fun _ => ?_)
      · skip
        refine s_iincL 1 (c := 1) (fun v19 => [(2, .int v19), (0, .ref (X.1 + 102))]) dX11_goneOf_102 rfl rfl cI_1 (by decide) (fun _ => rfl) (fun v19 => ?_)
        refine s_goto (tgt := 59) dX11_goneOf_105 rfl ?_
        refine s_pick [1, 0] rfl ?_
        exact ih v19 e17
      · skip
        refine s_iload_n 1 dX11_goneOf_100 rfl rfl ?_
        exact s_iret dX11_goneOf_101 rfl (fun f h => h)
theorem ct_x11_goneOf {X : WX} {p1 : Int32} {I : MI} {L : ML} {R : MR} {S : MS} (hK : okm R S) : Ct X yX11_goneOf cX11_goneOf 4 (some .int) 7 169 [.ref (X.1 + 102), .int p1] (I, L, R, S) (x11_goneOf p1 I) (fun r => (some (.int r.1), (r.2, L, R, S))) := by
  refine Ct.of (by decide) (Nat.le_of_ble_eq_true rfl) [(0, .ref (X.1 + 102)), (1, .int p1)] rfl ?_
  unfold x11_goneOf
  refine s_aload_n 0 dX11_goneOf_0 rfl rfl ?_
  refine s_callV0_v1 dX11_goneOf_1 rfl lkV_RX11_566 (S_102 hK) (Nat.le_of_ble_eq_true rfl) (Nat.le_of_ble_eq_true rfl) (Nat.le_of_ble_eq_true rfl) (ct_x11_load hK) (fun I1 => ?_)
  refine s_iconst (v := 0) dX11_goneOf_4 rfl cI_0 ?_
  refine s_istore_nL (fun v2 => [(2, .int v2), (0, .ref (X.1 + 102)), (1, .int p1)]) dX11_goneOf_5 rfl (by decide) (fun _ => rfl) (fun v2 => ?_)
  refine s_pick [1, 2, 0] rfl ?_
  refine sm_reg (x11_goneOf_L6_ok hK FU v2 I1) (fun e9 => ?_)
  refine s_aload_n 0 dX11_goneOf_48 rfl rfl ?_
  refine s_callV0_i0 dX11_goneOf_49 rfl lkV_RX11_619 (S_102 hK) (Nat.le_of_ble_eq_true rfl) (Nat.le_of_ble_eq_true rfl) (Nat.le_of_ble_eq_true rfl) (ct_x11_afloatAll hK) (fun r10 => ?_)
  refine s_if_ne (tgt := 57) dX11_goneOf_52 rfl rfl (fun _ => ?_) (fun _ => ?_)
  · skip
    refine s_iconst (v := 1) dX11_goneOf_57 rfl cI_1 ?_
    refine s_istore_nL (fun v11 => [(2, .int v11), (0, .ref (X.1 + 102))]) dX11_goneOf_58 rfl (by decide) (fun _ => rfl) (fun v11 => ?_)
    refine s_pick [1, 0] rfl ?_
    refine sm_regE (x11_goneOf_L59_ok hK FU v11 e9) (fun e20 => ?_)
    refine s_iconst (v := (-1)) dX11_goneOf_108 rfl cI_m1 ?_
    exact s_iret dX11_goneOf_109 rfl (fun f h => h)
  · skip
    refine s_iconst (v := 0) dX11_goneOf_55 rfl cI_0 ?_
    exact s_iret dX11_goneOf_56 rfl (fun f h => h)
noncomputable def x11_afloatSet_L8s (I : MI) (rec : Int32 → Int32 → Option (Int32)) (w1 : Int32) (w2 : Int32) : Option (Int32) :=
if w2 < (I 102 60) then (
b1 (x11_isAfloat w2 I) fun r4 =>
if r4 = 0 then (
lt (w1 ||| 0) fun v5 =>
lt (w2 + 1) fun v6 =>
rec v5 v6) else
lt (w1 ||| ((1 : Int32) <<< (w2 &&& 31))) fun v7 =>
lt (w2 + 1) fun v8 =>
rec v7 v8) else
some w1
noncomputable def x11_afloatSet_L8 (I : MI) : Nat → Int32 → Int32 → Option (Int32)
  | 0 => fun _ _ => none
  | n + 1 => x11_afloatSet_L8s I (x11_afloatSet_L8 I n)
noncomputable def x11_afloatSet (I : MI) : Option (Int32 × MI) :=
b1 (x11_load I) fun I1 =>
lt (0 : Int32) fun v2 =>
lt (0 : Int32) fun v3 =>
b1 (x11_afloatSet_L8 I1 FU v2 v3) fun e9 =>
some (e9, I1)
theorem x11_afloatSet_L8_ok {X : WX} {n0 s0 : Nat} {I : MI} {L : ML} {R : MR} {S : MS} (hK : okm R S) : ∀ (n : Nat) (w1 : Int32) (w2 : Int32), Sim X yX11_afloatSet cX11_afloatSet 3 (some .int) 1 21 n0 s0 8 [(0, .ref (X.1 + 102)), (1, .int w1), (2, .int w2)] [] (I, L, R, S) (x11_afloatSet_L8 I n w1 w2) (fun b f => Ex X yX11_afloatSet cX11_afloatSet 3 (some .int) 1 21 n0 s0 40 [(1, .int b)] [] (I, L, R, S) f) := by
  intro n
  induction n with
  | zero =>
    intro w1 w2
    exact sm_none
  | succ n ih =>
    intro w1 w2
    change Sim _ _ _ _ _ _ _ _ _ _ _ _ _ (x11_afloatSet_L8s I (x11_afloatSet_L8 I n) w1 w2) _
    unfold x11_afloatSet_L8s
    refine s_iload_n 2 dX11_afloatSet_8 rfl rfl ?_
    refine s_aload_n 0 dX11_afloatSet_9 rfl rfl ?_
    refine s_getI dX11_afloatSet_10 rfl fl_11_467 (S_102 hK) ?_
    refine s_icmp_ge (tgt := 40) dX11_afloatSet_13 rfl rfl (fun _ => ?_) (fun _ => ?_)
    · skip
      refine s_pick [1] rfl ?_
      exact sm_exit (fun f h => h)
    · skip
      refine s_iload_n 1 dX11_afloatSet_16 rfl rfl ?_
      refine s_aload_n 0 dX11_afloatSet_17 rfl rfl ?_
      refine s_iload_n 2 dX11_afloatSet_18 rfl rfl ?_
      refine s_callV1_i0 dX11_afloatSet_19 rfl lkV_RX11_501 (S_102 hK) (Nat.le_of_ble_eq_true rfl) (Nat.le_of_ble_eq_true rfl) (Nat.le_of_ble_eq_true rfl) (ct_x11_isAfloat hK) (fun r4 => ?_)
      refine s_if_eq (tgt := 31) dX11_afloatSet_22 rfl rfl (fun _ => ?_) (fun _ => ?_)
      · skip
        refine s_iconst (v := 0) dX11_afloatSet_31 rfl cI_0 ?_
        refine s_ior dX11_afloatSet_32 rfl ?_
        refine s_istore_nL (fun v5 => [(1, .int v5), (0, .ref (X.1 + 102)), (2, .int w2)]) dX11_afloatSet_33 rfl (by decide) (fun _ => rfl) (fun v5 => ?_)
        refine s_iincL 2 (c := 1) (fun v6 => [(2, .int v6), (1, .int v5), (0, .ref (X.1 + 102))]) dX11_afloatSet_34 rfl rfl cI_1 (by decide) (fun _ => rfl) (fun v6 => ?_)
        refine s_goto (tgt := 8) dX11_afloatSet_37 rfl ?_
        refine s_pick [2, 1, 0] rfl ?_
        exact ih v5 v6
      · skip
        refine s_iconst (v := 1) dX11_afloatSet_25 rfl cI_1 ?_
        refine s_iload_n 2 dX11_afloatSet_26 rfl rfl ?_
        refine s_ishl dX11_afloatSet_27 rfl ?_
        refine s_goto (tgt := 32) dX11_afloatSet_28 rfl ?_
        refine s_ior dX11_afloatSet_32 rfl ?_
        refine s_istore_nL (fun v7 => [(1, .int v7), (0, .ref (X.1 + 102)), (2, .int w2)]) dX11_afloatSet_33 rfl (by decide) (fun _ => rfl) (fun v7 => ?_)
        refine s_iincL 2 (c := 1) (fun v8 => [(2, .int v8), (1, .int v7), (0, .ref (X.1 + 102))]) dX11_afloatSet_34 rfl rfl cI_1 (by decide) (fun _ => rfl) (fun v8 => ?_)
        refine s_goto (tgt := 8) dX11_afloatSet_37 rfl ?_
        refine s_pick [2, 1, 0] rfl ?_
        exact ih v7 v8
theorem ct_x11_afloatSet {X : WX} {I : MI} {L : ML} {R : MR} {S : MS} (hK : okm R S) : Ct X yX11_afloatSet cX11_afloatSet 3 (some .int) 1 21 [.ref (X.1 + 102)] (I, L, R, S) (x11_afloatSet I) (fun r => (some (.int r.1), (r.2, L, R, S))) := by
  refine Ct.of (by decide) (Nat.le_of_ble_eq_true rfl) [(0, .ref (X.1 + 102))] rfl ?_
  unfold x11_afloatSet
  refine s_aload_n 0 dX11_afloatSet_0 rfl rfl ?_
  refine s_callV0_v1 dX11_afloatSet_1 rfl lkV_RX11_566 (S_102 hK) (Nat.le_of_ble_eq_true rfl) (Nat.le_of_ble_eq_true rfl) (Nat.le_of_ble_eq_true rfl) (ct_x11_load hK) (fun I1 => ?_)
  refine s_iconst (v := 0) dX11_afloatSet_4 rfl cI_0 ?_
  refine s_istore_nL (fun v2 => [(1, .int v2), (0, .ref (X.1 + 102))]) dX11_afloatSet_5 rfl (by decide) (fun _ => rfl) (fun v2 => ?_)
  refine s_iconst (v := 0) dX11_afloatSet_6 rfl cI_0 ?_
  refine s_istore_nL (fun v3 => [(2, .int v3), (1, .int v2), (0, .ref (X.1 + 102))]) dX11_afloatSet_7 rfl (by decide) (fun _ => rfl) (fun v3 => ?_)
  refine s_pick [2, 1, 0] rfl ?_
  refine sm_reg (x11_afloatSet_L8_ok hK FU v2 v3) (fun e9 => ?_)
  refine s_iload_n 0 dX11_afloatSet_40 rfl rfl ?_
  exact s_iret dX11_afloatSet_41 rfl (fun f h => h)
noncomputable def x11_gone (p1 : Int32) (I : MI) : Option (Int32 × MI) :=
if p1 < 0 then (
some ((-2 : Int32), I)) else
b2 (x11_afloatSet I) fun r1 I2 =>
if (p1 &&& (r1 ^^^ (-1))) = 0 then (
b2 (x11_goneOf p1 I2) fun r3 I4 =>
some (r3, I4)) else
some ((-2 : Int32), I2)
theorem ct_x11_gone {X : WX} {p1 : Int32} {I : MI} {L : ML} {R : MR} {S : MS} (hK : okm R S) : Ct X yX11_gone cX11_gone 2 (some .int) 8 192 [.ref (X.1 + 102), .int p1] (I, L, R, S) (x11_gone p1 I) (fun r => (some (.int r.1), (r.2, L, R, S))) := by
  refine Ct.of (by decide) (Nat.le_of_ble_eq_true rfl) [(0, .ref (X.1 + 102)), (1, .int p1)] rfl ?_
  unfold x11_gone
  refine s_iload_n 1 dX11_gone_0 rfl rfl ?_
  refine s_if_lt (tgt := 15) dX11_gone_1 rfl rfl (fun _ => ?_) (fun _ => ?_)
  · skip
    refine s_bipush (v := (-2)) dX11_gone_15 rfl cB_m2 ?_
    refine s_goto (tgt := 25) dX11_gone_17 rfl ?_
    exact s_iret dX11_gone_25 rfl (fun f h => h)
  · skip
    refine s_iload_n 1 dX11_gone_4 rfl rfl ?_
    refine s_aload_n 0 dX11_gone_5 rfl rfl ?_
    refine s_callV0_i1 dX11_gone_6 rfl lkV_RX11_622 (S_102 hK) (Nat.le_of_ble_eq_true rfl) (Nat.le_of_ble_eq_true rfl) (Nat.le_of_ble_eq_true rfl) (ct_x11_afloatSet hK) (fun r1 I2 => ?_)
    refine s_iconst (v := (-1)) dX11_gone_9 rfl cI_m1 ?_
    refine s_ixor dX11_gone_10 rfl ?_
    refine s_iand dX11_gone_11 rfl ?_
    refine s_if_eq (tgt := 20) dX11_gone_12 rfl rfl (fun _ => ?_) (fun _ => ?_)
    · skip
      refine s_aload_n 0 dX11_gone_20 rfl rfl ?_
      refine s_iload_n 1 dX11_gone_21 rfl rfl ?_
      refine s_callV1_i1 dX11_gone_22 rfl lkV_RX11_625 (S_102 hK) (Nat.le_of_ble_eq_true rfl) (Nat.le_of_ble_eq_true rfl) (Nat.le_of_ble_eq_true rfl) (ct_x11_goneOf hK) (fun r3 I4 => ?_)
      exact s_iret dX11_gone_25 rfl (fun f h => h)
    · skip
      refine s_bipush (v := (-2)) dX11_gone_15 rfl cB_m2 ?_
      refine s_goto (tgt := 25) dX11_gone_17 rfl ?_
      exact s_iret dX11_gone_25 rfl (fun f h => h)
noncomputable def x11_members_L4s (c0 : Int32) (rec : Int32 → Int32 → Option (Int32)) (w1 : Int32) (w2 : Int32) : Option (Int32) :=
if w2 < 10 then (
lt (w1 + ((c0 >>> (w2 &&& 31)) &&& 1)) fun v3 =>
lt (w2 + 1) fun v4 =>
rec v3 v4) else
some w1
noncomputable def x11_members_L4 (c0 : Int32) : Nat → Int32 → Int32 → Option (Int32)
  | 0 => fun _ _ => none
  | n + 1 => x11_members_L4s c0 (x11_members_L4 c0 n)
noncomputable def x11_members (p0 : Int32) (I : MI) : Option (Int32) :=
lt (0 : Int32) fun v1 =>
lt (0 : Int32) fun v2 =>
b1 (x11_members_L4 p0 FU v1 v2) fun e5 =>
some e5
theorem x11_members_L4_ok {X : WX} {n0 s0 : Nat} {c0 : Int32} {I : MI} {L : ML} {R : MR} {S : MS} (hK : okm R S) : ∀ (n : Nat) (w1 : Int32) (w2 : Int32), Sim X yX11_members cX11_members 3 (some .int) 0 0 n0 s0 4 [(0, .int c0), (1, .int w1), (2, .int w2)] [] (I, L, R, S) (x11_members_L4 c0 n w1 w2) (fun b f => Ex X yX11_members cX11_members 3 (some .int) 0 0 n0 s0 24 [(1, .int b)] [] (I, L, R, S) f) := by
  intro n
  induction n with
  | zero =>
    intro w1 w2
    exact sm_none
  | succ n ih =>
    intro w1 w2
    change Sim _ _ _ _ _ _ _ _ _ _ _ _ _ (x11_members_L4s c0 (x11_members_L4 c0 n) w1 w2) _
    unfold x11_members_L4s
    refine s_iload_n 2 dX11_members_4 rfl rfl ?_
    refine s_bipush (v := 10) dX11_members_5 rfl cB_10 ?_
    refine s_icmp_ge (tgt := 24) dX11_members_7 rfl rfl (fun _ => ?_) (fun _ => ?_)
    · skip
      refine s_pick [1] rfl ?_
      exact sm_exit (fun f h => h)
    · skip
      refine s_iload_n 1 dX11_members_10 rfl rfl ?_
      refine s_iload_n 0 dX11_members_11 rfl rfl ?_
      refine s_iload_n 2 dX11_members_12 rfl rfl ?_
      refine s_ishr dX11_members_13 rfl ?_
      refine s_iconst (v := 1) dX11_members_14 rfl cI_1 ?_
      refine s_iand dX11_members_15 rfl ?_
      refine s_iadd dX11_members_16 rfl ?_
      refine s_istore_nL (fun v3 => [(1, .int v3), (0, .int c0), (2, .int w2)]) dX11_members_17 rfl (by decide) (fun _ => rfl) (fun v3 => ?_)
      refine s_iincL 2 (c := 1) (fun v4 => [(2, .int v4), (1, .int v3), (0, .int c0)]) dX11_members_18 rfl rfl cI_1 (by decide) (fun _ => rfl) (fun v4 => ?_)
      refine s_goto (tgt := 4) dX11_members_21 rfl ?_
      refine s_pick [2, 1, 0] rfl ?_
      exact ih v3 v4
theorem ct_x11_members {X : WX} {p0 : Int32} {I : MI} {L : ML} {R : MR} {S : MS} (hK : okm R S) : Ct X yX11_members cX11_members 3 (some .int) 0 0 [.int p0] (I, L, R, S) (x11_members p0 I) (fun r => (some (.int r), (I, L, R, S))) := by
  refine Ct.of (by decide) (Nat.le_of_ble_eq_true rfl) [(0, .int p0)] rfl ?_
  unfold x11_members
  refine s_iconst (v := 0) dX11_members_0 rfl cI_0 ?_
  refine s_istore_nL (fun v1 => [(1, .int v1), (0, .int p0)]) dX11_members_1 rfl (by decide) (fun _ => rfl) (fun v1 => ?_)
  refine s_iconst (v := 0) dX11_members_2 rfl cI_0 ?_
  refine s_istore_nL (fun v2 => [(2, .int v2), (1, .int v1), (0, .int p0)]) dX11_members_3 rfl (by decide) (fun _ => rfl) (fun v2 => ?_)
  refine s_pick [2, 1, 0] rfl ?_
  refine sm_reg (x11_members_L4_ok hK FU v1 v2) (fun e5 => ?_)
  refine s_iload_n 0 dX11_members_24 rfl rfl ?_
  exact s_iret dX11_members_25 rfl (fun f h => h)
noncomputable def x11_provide_L32s (c1 : Int32) (c3 : Int32) (rec : Int32 → Int32 → MI → Option (Int32 × MI)) (w4 : Int32) (w5 : Int32) (I : MI) : Option (Int32 × MI) :=
if w5 < ((1 : Int32) <<< ((I 102 60) &&& 31)) then (
if (w5 &&& (c3 ^^^ (-1))) = 0 then (
if w4 < 0 then (
b2 (x11_goneOf w5 I) fun r9 I10 =>
lt r9 fun v11 =>
if v11 < 0 then (
lt w5 fun v12 =>
lt (w5 + 1) fun v13 =>
rec v12 v13 I10) else
if c1 < v11 then (
lt w5 fun v15 =>
lt (w5 + 1) fun v16 =>
rec v15 v16 I10) else
lt (w5 + 1) fun v14 =>
rec w4 v14 I10) else
b1 (x11_members w5 I) fun r17 =>
b1 (x11_members w4 I) fun r18 =>
if r17 < r18 then (
b2 (x11_goneOf w5 I) fun r19 I20 =>
lt r19 fun v21 =>
if v21 < 0 then (
lt w5 fun v22 =>
lt (w5 + 1) fun v23 =>
rec v22 v23 I20) else
if c1 < v21 then (
lt w5 fun v25 =>
lt (w5 + 1) fun v26 =>
rec v25 v26 I20) else
lt (w5 + 1) fun v24 =>
rec w4 v24 I20) else
lt (w5 + 1) fun v27 =>
rec w4 v27 I) else
lt (w5 + 1) fun v8 =>
rec w4 v8 I) else
some (w4, I)
noncomputable def x11_provide_L32 (c1 : Int32) (c3 : Int32) : Nat → Int32 → Int32 → MI → Option (Int32 × MI)
  | 0 => fun _ _ _ => none
  | n + 1 => x11_provide_L32s c1 c3 (x11_provide_L32 c1 c3 n)
noncomputable def x11_provide (p1 : Int32) (p2 : Int32) (I : MI) : Option (Int32 × MI) :=
b1 (x11_isIn p1 (1 : Int32) (60 : Int32) I) fun r1 =>
if r1 = 0 then (
some ((-1 : Int32), I)) else
b1 (x11_isIn p2 (0 : Int32) (1 : Int32) I) fun r2 =>
if r2 = 0 then (
some ((-1 : Int32), I)) else
b2 (x11_afloatSet I) fun r3 I4 =>
lt r3 fun v5 =>
lt (-1 : Int32) fun v6 =>
lt (1 : Int32) fun v7 =>
b1 (x11_provide_L32 p1 v5 FU v6 v7 I4) fun e28 =>
if e28.1 < 0 then (
some ((-1 : Int32), e28.2)) else
if p2 = 0 then (
b1 (x11_members e28.1 e28.2) fun r29 =>
some (r29, e28.2)) else
some (e28.1, e28.2)
theorem x11_provide_L32_ok {X : WX} {n0 s0 : Nat} {c1 : Int32} {c2 : Int32} {c3 : Int32} {L : ML} {R : MR} {S : MS} (hK : okm R S) : ∀ (n : Nat) (w4 : Int32) (w5 : Int32) (I : MI), Sim X yX11_provide cX11_provide 7 (some .int) 8 192 n0 s0 32 [(0, .ref (X.1 + 102)), (1, .int c1), (2, .int c2), (3, .int c3), (4, .int w4), (5, .int w5)] [] (I, L, R, S) (x11_provide_L32 c1 c3 n w4 w5 I) (fun b f => Ex X yX11_provide cX11_provide 7 (some .int) 8 192 n0 s0 102 [(2, .int c2), (4, .int b.1)] [] (b.2, L, R, S) f) := by
  intro n
  induction n with
  | zero =>
    intro w4 w5 I
    exact sm_none
  | succ n ih =>
    intro w4 w5 I
    change Sim _ _ _ _ _ _ _ _ _ _ _ _ _ (x11_provide_L32s c1 c3 (x11_provide_L32 c1 c3 n) w4 w5 I) _
    unfold x11_provide_L32s
    refine s_iload 5 dX11_provide_32 rfl rfl ?_
    refine s_iconst (v := 1) dX11_provide_34 rfl cI_1 ?_
    refine s_aload_n 0 dX11_provide_35 rfl rfl ?_
    refine s_getI dX11_provide_36 rfl fl_11_467 (S_102 hK) ?_
    refine s_ishl dX11_provide_39 rfl ?_
    refine s_icmp_ge (tgt := 102) dX11_provide_40 rfl rfl (fun _ => ?_) (fun _ => ?_)
    · skip
      refine s_pick [2, 4] rfl ?_
      exact sm_exit (fun f h => h)
    · skip
      refine s_iload 5 dX11_provide_43 rfl rfl ?_
      refine s_iload_n 3 dX11_provide_45 rfl rfl ?_
      refine s_iconst (v := (-1)) dX11_provide_46 rfl cI_m1 ?_
      refine s_ixor dX11_provide_47 rfl ?_
      refine s_iand dX11_provide_48 rfl ?_
      refine s_if_ne (tgt := 96) dX11_provide_49 rfl rfl (fun _ => ?_) (fun _ => ?_)
      · skip
        refine s_iincL 5 (c := 1) (fun v8 => [(5, .int v8), (0, .ref (X.1 + 102)), (1, .int c1), (2, .int c2), (3, .int c3), (4, .int w4)]) dX11_provide_96 rfl rfl cI_1 (by decide) (fun _ => rfl) (fun v8 => ?_)
        refine s_goto (tgt := 32) dX11_provide_99 rfl ?_
        refine s_pick [1, 2, 3, 4, 5, 0] rfl ?_
        exact ih w4 v8 I
      · skip
        refine s_iload 4 dX11_provide_52 rfl rfl ?_
        refine s_if_lt (tgt := 73) dX11_provide_54 rfl rfl (fun _ => ?_) (fun _ => ?_)
        · skip
          refine s_aload_n 0 dX11_provide_73 rfl rfl ?_
          refine s_iload 5 dX11_provide_74 rfl rfl ?_
          refine s_callV1_i1 dX11_provide_76 rfl lkV_RX11_625 (S_102 hK) (Nat.le_of_ble_eq_true rfl) (Nat.le_of_ble_eq_true rfl) (Nat.le_of_ble_eq_true rfl) (ct_x11_goneOf hK) (fun r9 I10 => ?_)
          refine s_istoreL (fun v11 => [(6, .int v11), (0, .ref (X.1 + 102)), (1, .int c1), (2, .int c2), (3, .int c3), (4, .int w4), (5, .int w5)]) dX11_provide_79 rfl (by decide) (fun _ => rfl) (fun v11 => ?_)
          refine s_iload 0 dX11_provide_81 rfl rfl ?_
          refine s_if_lt (tgt := 92) dX11_provide_83 rfl rfl (fun _ => ?_) (fun _ => ?_)
          · skip
            refine s_iload 6 dX11_provide_92 rfl rfl ?_
            refine s_istoreL (fun v12 => [(4, .int v12), (6, .int v11), (0, .ref (X.1 + 102)), (1, .int c1), (2, .int c2), (3, .int c3), (5, .int w5)]) dX11_provide_94 rfl (by decide) (fun _ => rfl) (fun v12 => ?_)
            refine s_iincL 6 (c := 1) (fun v13 => [(5, .int v13), (4, .int v12), (6, .int v11), (0, .ref (X.1 + 102)), (1, .int c1), (2, .int c2), (3, .int c3)]) dX11_provide_96 rfl rfl cI_1 (by decide) (fun _ => rfl) (fun v13 => ?_)
            refine s_goto (tgt := 32) dX11_provide_99 rfl ?_
            refine s_pick [3, 4, 5, 6, 1, 0] rfl ?_
            exact ih v12 v13 I10
          · skip
            refine s_iload 0 dX11_provide_86 rfl rfl ?_
            refine s_iload_n 2 dX11_provide_88 rfl rfl ?_
            refine s_icmp_le (tgt := 96) dX11_provide_89 rfl rfl (fun _ => ?_) (fun _ => ?_)
            · skip
              refine s_iincL 6 (c := 1) (fun v14 => [(5, .int v14), (6, .int v11), (0, .ref (X.1 + 102)), (1, .int c1), (2, .int c2), (3, .int c3), (4, .int w4)]) dX11_provide_96 rfl rfl cI_1 (by decide) (fun _ => rfl) (fun v14 => ?_)
              refine s_goto (tgt := 32) dX11_provide_99 rfl ?_
              refine s_pick [2, 3, 4, 5, 6, 0] rfl ?_
              exact ih w4 v14 I10
            · skip
              refine s_iload 6 dX11_provide_92 rfl rfl ?_
              refine s_istoreL (fun v15 => [(4, .int v15), (6, .int v11), (0, .ref (X.1 + 102)), (1, .int c1), (2, .int c2), (3, .int c3), (5, .int w5)]) dX11_provide_94 rfl (by decide) (fun _ => rfl) (fun v15 => ?_)
              refine s_iincL 6 (c := 1) (fun v16 => [(5, .int v16), (4, .int v15), (6, .int v11), (0, .ref (X.1 + 102)), (1, .int c1), (2, .int c2), (3, .int c3)]) dX11_provide_96 rfl rfl cI_1 (by decide) (fun _ => rfl) (fun v16 => ?_)
              refine s_goto (tgt := 32) dX11_provide_99 rfl ?_
              refine s_pick [3, 4, 5, 6, 1, 0] rfl ?_
              exact ih v15 v16 I10
        · skip
          refine s_iload 5 dX11_provide_57 rfl rfl ?_
          refine s_callS1_i0 dX11_provide_59 rfl lkS_RX11_628 (Nat.le_of_ble_eq_true rfl) (Nat.le_of_ble_eq_true rfl) (Nat.le_of_ble_eq_true rfl) (ct_x11_members hK) (fun r17 => ?_)
          refine s_iload 4 dX11_provide_62 rfl rfl ?_
          refine s_callS1_i0 dX11_provide_64 rfl lkS_RX11_628 (Nat.le_of_ble_eq_true rfl) (Nat.le_of_ble_eq_true rfl) (Nat.le_of_ble_eq_true rfl) (ct_x11_members hK) (fun r18 => ?_)
          refine s_icmp_lt (tgt := 73) dX11_provide_67 rfl rfl (fun _ => ?_) (fun _ => ?_)
          · skip
            refine s_aload_n 0 dX11_provide_73 rfl rfl ?_
            refine s_iload 5 dX11_provide_74 rfl rfl ?_
            refine s_callV1_i1 dX11_provide_76 rfl lkV_RX11_625 (S_102 hK) (Nat.le_of_ble_eq_true rfl) (Nat.le_of_ble_eq_true rfl) (Nat.le_of_ble_eq_true rfl) (ct_x11_goneOf hK) (fun r19 I20 => ?_)
            refine s_istoreL (fun v21 => [(6, .int v21), (0, .ref (X.1 + 102)), (1, .int c1), (2, .int c2), (3, .int c3), (4, .int w4), (5, .int w5)]) dX11_provide_79 rfl (by decide) (fun _ => rfl) (fun v21 => ?_)
            refine s_iload 0 dX11_provide_81 rfl rfl ?_
            refine s_if_lt (tgt := 92) dX11_provide_83 rfl rfl (fun _ => ?_) (fun _ => ?_)
            · skip
              refine s_iload 6 dX11_provide_92 rfl rfl ?_
              refine s_istoreL (fun v22 => [(4, .int v22), (6, .int v21), (0, .ref (X.1 + 102)), (1, .int c1), (2, .int c2), (3, .int c3), (5, .int w5)]) dX11_provide_94 rfl (by decide) (fun _ => rfl) (fun v22 => ?_)
              refine s_iincL 6 (c := 1) (fun v23 => [(5, .int v23), (4, .int v22), (6, .int v21), (0, .ref (X.1 + 102)), (1, .int c1), (2, .int c2), (3, .int c3)]) dX11_provide_96 rfl rfl cI_1 (by decide) (fun _ => rfl) (fun v23 => ?_)
              refine s_goto (tgt := 32) dX11_provide_99 rfl ?_
              refine s_pick [3, 4, 5, 6, 1, 0] rfl ?_
              exact ih v22 v23 I20
            · skip
              refine s_iload 0 dX11_provide_86 rfl rfl ?_
              refine s_iload_n 2 dX11_provide_88 rfl rfl ?_
              refine s_icmp_le (tgt := 96) dX11_provide_89 rfl rfl (fun _ => ?_) (fun _ => ?_)
              · skip
                refine s_iincL 6 (c := 1) (fun v24 => [(5, .int v24), (6, .int v21), (0, .ref (X.1 + 102)), (1, .int c1), (2, .int c2), (3, .int c3), (4, .int w4)]) dX11_provide_96 rfl rfl cI_1 (by decide) (fun _ => rfl) (fun v24 => ?_)
                refine s_goto (tgt := 32) dX11_provide_99 rfl ?_
                refine s_pick [2, 3, 4, 5, 6, 0] rfl ?_
                exact ih w4 v24 I20
              · skip
                refine s_iload 6 dX11_provide_92 rfl rfl ?_
                refine s_istoreL (fun v25 => [(4, .int v25), (6, .int v21), (0, .ref (X.1 + 102)), (1, .int c1), (2, .int c2), (3, .int c3), (5, .int w5)]) dX11_provide_94 rfl (by decide) (fun _ => rfl) (fun v25 => ?_)
                refine s_iincL 6 (c := 1) (fun v26 => [(5, .int v26), (4, .int v25), (6, .int v21), (0, .ref (X.1 + 102)), (1, .int c1), (2, .int c2), (3, .int c3)]) dX11_provide_96 rfl rfl cI_1 (by decide) (fun _ => rfl) (fun v26 => ?_)
                refine s_goto (tgt := 32) dX11_provide_99 rfl ?_
                refine s_pick [3, 4, 5, 6, 1, 0] rfl ?_
                exact ih v25 v26 I20
          · skip
            refine s_goto (tgt := 96) dX11_provide_70 rfl ?_
            refine s_iincL 5 (c := 1) (fun v27 => [(5, .int v27), (0, .ref (X.1 + 102)), (1, .int c1), (2, .int c2), (3, .int c3), (4, .int w4)]) dX11_provide_96 rfl rfl cI_1 (by decide) (fun _ => rfl) (fun v27 => ?_)
            refine s_goto (tgt := 32) dX11_provide_99 rfl ?_
            refine s_pick [1, 2, 3, 4, 5, 0] rfl ?_
            exact ih w4 v27 I
theorem ct_x11_provide {X : WX} {p1 : Int32} {p2 : Int32} {I : MI} {L : ML} {R : MR} {S : MS} (hK : okm R S) : Ct X yX11_provide cX11_provide 7 (some .int) 8 192 [.ref (X.1 + 102), .int p1, .int p2] (I, L, R, S) (x11_provide p1 p2 I) (fun r => (some (.int r.1), (r.2, L, R, S))) := by
  refine Ct.of (by decide) (Nat.le_of_ble_eq_true rfl) [(0, .ref (X.1 + 102)), (1, .int p1), (2, .int p2)] rfl ?_
  unfold x11_provide
  refine s_iload_n 1 dX11_provide_0 rfl rfl ?_
  refine s_iconst (v := 1) dX11_provide_1 rfl cI_1 ?_
  refine s_bipush (v := 60) dX11_provide_2 rfl cB_60 ?_
  refine s_callS3_i0 dX11_provide_4 rfl lkS_RX11_494 (Nat.le_of_ble_eq_true rfl) (Nat.le_of_ble_eq_true rfl) (Nat.le_of_ble_eq_true rfl) (ct_x11_isIn hK) (fun r1 => ?_)
  refine s_if_eq (tgt := 19) dX11_provide_7 rfl rfl (fun _ => ?_) (fun _ => ?_)
  · skip
    refine s_iconst (v := (-1)) dX11_provide_19 rfl cI_m1 ?_
    exact s_iret dX11_provide_20 rfl (fun f h => h)
  · skip
    refine s_iload_n 2 dX11_provide_10 rfl rfl ?_
    refine s_iconst (v := 0) dX11_provide_11 rfl cI_0 ?_
    refine s_iconst (v := 1) dX11_provide_12 rfl cI_1 ?_
    refine s_callS3_i0 dX11_provide_13 rfl lkS_RX11_494 (Nat.le_of_ble_eq_true rfl) (Nat.le_of_ble_eq_true rfl) (Nat.le_of_ble_eq_true rfl) (ct_x11_isIn hK) (fun r2 => ?_)
    refine s_if_ne (tgt := 21) dX11_provide_16 rfl rfl (fun _ => ?_) (fun _ => ?_)
    · skip
      refine s_aload_n 0 dX11_provide_21 rfl rfl ?_
      refine s_callV0_i1 dX11_provide_22 rfl lkV_RX11_622 (S_102 hK) (Nat.le_of_ble_eq_true rfl) (Nat.le_of_ble_eq_true rfl) (Nat.le_of_ble_eq_true rfl) (ct_x11_afloatSet hK) (fun r3 I4 => ?_)
      refine s_istore_nL (fun v5 => [(3, .int v5), (0, .ref (X.1 + 102)), (1, .int p1), (2, .int p2)]) dX11_provide_25 rfl (by decide) (fun _ => rfl) (fun v5 => ?_)
      refine s_iconst (v := (-1)) dX11_provide_26 rfl cI_m1 ?_
      refine s_istoreL (fun v6 => [(4, .int v6), (3, .int v5), (0, .ref (X.1 + 102)), (1, .int p1), (2, .int p2)]) dX11_provide_27 rfl (by decide) (fun _ => rfl) (fun v6 => ?_)
      refine s_iconst (v := 1) dX11_provide_29 rfl cI_1 ?_
      refine s_istoreL (fun v7 => [(5, .int v7), (4, .int v6), (3, .int v5), (0, .ref (X.1 + 102)), (1, .int p1), (2, .int p2)]) dX11_provide_30 rfl (by decide) (fun _ => rfl) (fun v7 => ?_)
      refine s_pick [3, 4, 5, 2, 1, 0] rfl ?_
      refine sm_reg (x11_provide_L32_ok hK FU v6 v7 I4) (fun e28 => ?_)
      refine s_iload 1 dX11_provide_102 rfl rfl ?_
      refine s_if_ge (tgt := 111) dX11_provide_104 rfl rfl (fun _ => ?_) (fun _ => ?_)
      · skip
        refine s_iload_n 0 dX11_provide_111 rfl rfl ?_
        refine s_if_ne (tgt := 123) dX11_provide_112 rfl rfl (fun _ => ?_) (fun _ => ?_)
        · skip
          refine s_iload 1 dX11_provide_123 rfl rfl ?_
          exact s_iret dX11_provide_125 rfl (fun f h => h)
        · skip
          refine s_iload 1 dX11_provide_115 rfl rfl ?_
          refine s_callS1_i0 dX11_provide_117 rfl lkS_RX11_628 (Nat.le_of_ble_eq_true rfl) (Nat.le_of_ble_eq_true rfl) (Nat.le_of_ble_eq_true rfl) (ct_x11_members hK) (fun r29 => ?_)
          refine s_goto (tgt := 125) dX11_provide_120 rfl ?_
          exact s_iret dX11_provide_125 rfl (fun f h => h)
      · skip
        refine s_iconst (v := (-1)) dX11_provide_107 rfl cI_m1 ?_
        refine s_goto (tgt := 125) dX11_provide_108 rfl ?_
        exact s_iret dX11_provide_125 rfl (fun f h => h)
    · skip
      refine s_iconst (v := (-1)) dX11_provide_19 rfl cI_m1 ?_
      exact s_iret dX11_provide_20 rfl (fun f h => h)
noncomputable def x11_matchOf_L9s (c1 : Int32) (c2 : Int32) (rec : Int32 → Int32 → MI → Option (Int32 × MI)) (w3 : Int32) (w4 : Int32) (I : MI) : Option (Int32 × MI) :=
if w4 < 10 then (
b2 (x11_actsBy (0 : Int32) c1 I) fun r4 I5 =>
b1 (
if r4 = 0 then (
some (0 : Int32)) else
some (1 : Int32)) fun e6 =>
lt (w3 + e6) fun v7 =>
b2 (x11_actsBy (1 : Int32) c2 I5) fun r8 I9 =>
if r8 = 0 then (
lt (v7 - 0) fun v10 =>
lt (w4 + 1) fun v11 =>
rec v10 v11 I9) else
lt (v7 - 1) fun v12 =>
lt (w4 + 1) fun v13 =>
rec v12 v13 I9) else
some (w3, I)
noncomputable def x11_matchOf_L9 (c1 : Int32) (c2 : Int32) : Nat → Int32 → Int32 → MI → Option (Int32 × MI)
  | 0 => fun _ _ _ => none
  | n + 1 => x11_matchOf_L9s c1 c2 (x11_matchOf_L9 c1 c2 n)
noncomputable def x11_matchOf (p1 : Int32) (p2 : Int32) (I : MI) : Option (Int32 × MI) :=
b1 (x11_load I) fun I1 =>
lt (0 : Int32) fun v2 =>
lt (0 : Int32) fun v3 =>
b1 (x11_matchOf_L9 p1 p2 FU v2 v3 I1) fun e14 =>
some (e14.1, e14.2)
theorem x11_matchOf_L9_ok {X : WX} {n0 s0 : Nat} {c1 : Int32} {c2 : Int32} {L : ML} {R : MR} {S : MS} (hK : okm R S) : ∀ (n : Nat) (w3 : Int32) (w4 : Int32) (I : MI), Sim X yX11_matchOf cX11_matchOf 5 (some .int) 7 169 n0 s0 9 [(0, .ref (X.1 + 102)), (1, .int c1), (2, .int c2), (3, .int w3), (4, .int w4)] [] (I, L, R, S) (x11_matchOf_L9 c1 c2 n w3 w4 I) (fun b f => Ex X yX11_matchOf cX11_matchOf 5 (some .int) 7 169 n0 s0 56 [(3, .int b.1)] [] (b.2, L, R, S) f) := by
  intro n
  induction n with
  | zero =>
    intro w3 w4 I
    exact sm_none
  | succ n ih =>
    intro w3 w4 I
    change Sim _ _ _ _ _ _ _ _ _ _ _ _ _ (x11_matchOf_L9s c1 c2 (x11_matchOf_L9 c1 c2 n) w3 w4 I) _
    unfold x11_matchOf_L9s
    refine s_iload 4 dX11_matchOf_9 rfl rfl ?_
    refine s_bipush (v := 10) dX11_matchOf_11 rfl cB_10 ?_
    refine s_icmp_ge (tgt := 56) dX11_matchOf_13 rfl rfl (fun _ => ?_) (fun _ => ?_)
    · skip
      refine s_pick [3] rfl ?_
      exact sm_exit (fun f h => h)
    · skip
      refine s_iload_n 3 dX11_matchOf_16 rfl rfl ?_
      refine s_aload_n 0 dX11_matchOf_17 rfl rfl ?_
      refine s_iconst (v := 0) dX11_matchOf_18 rfl cI_0 ?_
      refine s_iload_n 1 dX11_matchOf_19 rfl rfl ?_
      refine s_callV2_i1 dX11_matchOf_20 rfl lkV_RX11_584 (S_102 hK) (Nat.le_of_ble_eq_true rfl) (Nat.le_of_ble_eq_true rfl) (Nat.le_of_ble_eq_true rfl) (ct_x11_actsBy hK) (fun r4 I5 => ?_)
      refine sm_reg (pcx := 31) (lsx := fun e6 => [(0, .ref (X.1 + 102)), (1, .int c1), (2, .int c2), (4, .int w4)]) (stx := fun e6 => [.int e6, .int w3]) (ux := fun e6 => (I5, L, R, S)) ?_ (fun e6 => ?_)
      · skip
        refine s_if_eq (tgt := 30) dX11_matchOf_23 rfl rfl (fun _ => ?_) (fun _ => ?_)
        · skip
          refine s_iconst (v := 0) dX11_matchOf_30 rfl cI_0 ?_
          refine s_pick [0, 1, 2, 4] rfl ?_
          exact sm_exit (fun f h => h)
        · skip
          refine s_iconst (v := 1) dX11_matchOf_26 rfl cI_1 ?_
          refine s_goto (tgt := 31) dX11_matchOf_27 rfl ?_
          refine s_pick [0, 1, 2, 4] rfl ?_
          exact sm_exit (fun f h => h)
      · skip
        refine s_iadd dX11_matchOf_31 rfl ?_
        refine s_istore_nL (fun v7 => [(3, .int v7), (0, .ref (X.1 + 102)), (1, .int c1), (2, .int c2), (4, .int w4)]) dX11_matchOf_32 rfl (by decide) (fun _ => rfl) (fun v7 => ?_)
        refine s_iload_n 0 dX11_matchOf_33 rfl rfl ?_
        refine s_aload_n 1 dX11_matchOf_34 rfl rfl ?_
        refine s_iconst (v := 1) dX11_matchOf_35 rfl cI_1 ?_
        refine s_iload_n 3 dX11_matchOf_36 rfl rfl ?_
        refine s_callV2_i1 dX11_matchOf_37 rfl lkV_RX11_584 (S_102 hK) (Nat.le_of_ble_eq_true rfl) (Nat.le_of_ble_eq_true rfl) (Nat.le_of_ble_eq_true rfl) (ct_x11_actsBy hK) (fun r8 I9 => ?_)
        refine s_if_eq (tgt := 47) dX11_matchOf_40 rfl rfl (fun _ => ?_) (fun _ => ?_)
        · skip
          refine s_iconst (v := 0) dX11_matchOf_47 rfl cI_0 ?_
          refine s_isub dX11_matchOf_48 rfl ?_
          refine s_istore_nL (fun v10 => [(3, .int v10), (0, .ref (X.1 + 102)), (1, .int c1), (2, .int c2), (4, .int w4)]) dX11_matchOf_49 rfl (by decide) (fun _ => rfl) (fun v10 => ?_)
          refine s_iincL 4 (c := 1) (fun v11 => [(4, .int v11), (3, .int v10), (0, .ref (X.1 + 102)), (1, .int c1), (2, .int c2)]) dX11_matchOf_50 rfl rfl cI_1 (by decide) (fun _ => rfl) (fun v11 => ?_)
          refine s_goto (tgt := 9) dX11_matchOf_53 rfl ?_
          refine s_pick [2, 3, 4, 1, 0] rfl ?_
          exact ih v10 v11 I9
        · skip
          refine s_iconst (v := 1) dX11_matchOf_43 rfl cI_1 ?_
          refine s_goto (tgt := 48) dX11_matchOf_44 rfl ?_
          refine s_isub dX11_matchOf_48 rfl ?_
          refine s_istore_nL (fun v12 => [(3, .int v12), (0, .ref (X.1 + 102)), (1, .int c1), (2, .int c2), (4, .int w4)]) dX11_matchOf_49 rfl (by decide) (fun _ => rfl) (fun v12 => ?_)
          refine s_iincL 4 (c := 1) (fun v13 => [(4, .int v13), (3, .int v12), (0, .ref (X.1 + 102)), (1, .int c1), (2, .int c2)]) dX11_matchOf_50 rfl rfl cI_1 (by decide) (fun _ => rfl) (fun v13 => ?_)
          refine s_goto (tgt := 9) dX11_matchOf_53 rfl ?_
          refine s_pick [2, 3, 4, 1, 0] rfl ?_
          exact ih v12 v13 I9
theorem ct_x11_matchOf {X : WX} {p1 : Int32} {p2 : Int32} {I : MI} {L : ML} {R : MR} {S : MS} (hK : okm R S) : Ct X yX11_matchOf cX11_matchOf 5 (some .int) 7 169 [.ref (X.1 + 102), .int p1, .int p2] (I, L, R, S) (x11_matchOf p1 p2 I) (fun r => (some (.int r.1), (r.2, L, R, S))) := by
  refine Ct.of (by decide) (Nat.le_of_ble_eq_true rfl) [(0, .ref (X.1 + 102)), (1, .int p1), (2, .int p2)] rfl ?_
  unfold x11_matchOf
  refine s_aload_n 0 dX11_matchOf_0 rfl rfl ?_
  refine s_callV0_v1 dX11_matchOf_1 rfl lkV_RX11_566 (S_102 hK) (Nat.le_of_ble_eq_true rfl) (Nat.le_of_ble_eq_true rfl) (Nat.le_of_ble_eq_true rfl) (ct_x11_load hK) (fun I1 => ?_)
  refine s_iconst (v := 0) dX11_matchOf_4 rfl cI_0 ?_
  refine s_istore_nL (fun v2 => [(3, .int v2), (0, .ref (X.1 + 102)), (1, .int p1), (2, .int p2)]) dX11_matchOf_5 rfl (by decide) (fun _ => rfl) (fun v2 => ?_)
  refine s_iconst (v := 0) dX11_matchOf_6 rfl cI_0 ?_
  refine s_istoreL (fun v3 => [(4, .int v3), (3, .int v2), (0, .ref (X.1 + 102)), (1, .int p1), (2, .int p2)]) dX11_matchOf_7 rfl (by decide) (fun _ => rfl) (fun v3 => ?_)
  refine s_pick [2, 3, 4, 1, 0] rfl ?_
  refine sm_reg (x11_matchOf_L9_ok hK FU v2 v3 I1) (fun e14 => ?_)
  refine s_iload_n 0 dX11_matchOf_56 rfl rfl ?_
  exact s_iret dX11_matchOf_57 rfl (fun f h => h)
