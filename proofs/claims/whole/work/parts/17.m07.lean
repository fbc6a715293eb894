noncomputable def x11_breathes (p1 : Int32) (I : MI) : Option (MI) :=
ck (vp_in p1 4) <|
ck (vp_in (50 + (3 * p1)) 128) <|
lt (wI I 137 (ix (50 + (3 * p1))) (I 133 (ix p1))) fun I2 =>
ck (vp_in (52 + (3 * p1)) 128) <|
ck (vp_in (52 + (3 * p1)) 128) <|
lt (wI I2 137 (ix (52 + (3 * p1))) ((I2 137 (ix (52 + (3 * p1)))) + 2)) fun I5 =>
some I5
theorem ct_x11_breathes {X : WX} {p1 : Int32} {I : MI} {L : ML} {R : MR} {S : MS} (hK : okm R S) : Ct X yX11_breathes cX11_breathes 2 none 0 0 [.ref (X.1 + 102), .int p1] (I, L, R, S) (x11_breathes p1 I) (fun r => (none, (r, L, R, S))) := by
  refine Ct.of (by decide) (Nat.le_of_ble_eq_true rfl) [(0, .ref (X.1 + 102)), (1, .int p1)] rfl ?_
  unfold x11_breathes
  refine s_aload_n 0 dX11_breathes_0 rfl rfl ?_
  refine s_getR 137 dX11_breathes_1 rfl fl_11_121 rfl (S_102 hK) (R_102_66 hK) ?_
  refine s_bipush (v := 50) dX11_breathes_4 rfl cB_50 ?_
  refine s_iconst (v := 3) dX11_breathes_6 rfl cI_3 ?_
  refine s_iload_n 1 dX11_breathes_7 rfl rfl ?_
  refine s_imul dX11_breathes_8 rfl ?_
  refine s_iadd dX11_breathes_9 rfl ?_
  refine s_aload_n 0 dX11_breathes_10 rfl rfl ?_
  refine s_getR 133 dX11_breathes_11 rfl fl_11_106 rfl (S_102 hK) (R_102_45 hK) ?_
  refine s_iload_n 1 dX11_breathes_14 rfl rfl ?_
  refine sm_ck (fun g1 => ?_)
  refine s_iald dX11_breathes_15 rfl (S_133 hK) g1 ?_
  refine sm_ck (fun g3 => ?_)
  refine s_iastL dX11_breathes_16 rfl (S_137 hK) g3 (fun I2 => ?_)
  refine s_aload_n 0 dX11_breathes_17 rfl rfl ?_
  refine s_getR 137 dX11_breathes_18 rfl fl_11_121 rfl (S_102 hK) (R_102_66 hK) ?_
  refine s_bipush (v := 52) dX11_breathes_21 rfl cB_52 ?_
  refine s_iconst (v := 3) dX11_breathes_23 rfl cI_3 ?_
  refine s_iload_n 1 dX11_breathes_24 rfl rfl ?_
  refine s_imul dX11_breathes_25 rfl ?_
  refine s_iadd dX11_breathes_26 rfl ?_
  refine s_dup2 dX11_breathes_27 rfl rfl rfl ?_
  refine sm_ck (fun g4 => ?_)
  refine s_iald dX11_breathes_28 rfl (S_137 hK) g4 ?_
  refine s_iconst (v := 2) dX11_breathes_29 rfl cI_2 ?_
  refine s_iadd dX11_breathes_30 rfl ?_
  refine sm_ck (fun g6 => ?_)
  refine s_iastL dX11_breathes_31 rfl (S_137 hK) g6 (fun I5 => ?_)
  exact s_vret dX11_breathes_32 rfl (fun f h => h)
noncomputable def x11_choice_L8s (c1 : Int32) (c2 : Int32) (rec : Int32 → Int32 → Int32 → MI → Option (Int32 × MI)) (w3 : Int32) (w4 : Int32) (w5 : Int32) (I : MI) : Option (Int32 × MI) :=
if w5 < (5 * (I 102 60)) then (
b2 (x11_canTry c1 (w5 / 5) (rm w5 5) I) fun r4 I5 =>
if r4 = 0 then (
lt (w5 + 1) fun v19 =>
rec w3 w4 v19 I5) else
b1 (
if (I5 102 59) = 0 then (
some ((0 : Int32), I5)) else
b2 (x11_oddsOf c1 (w5 / 5) (rm w5 5) I5) fun r7 I8 =>
b2 (x11_worked (5 + c2) c1 (w5 / 5) (rm w5 5) r7 I8) fun r9 I10 =>
some (r9, I10)) fun e6 =>
lt e6.1 fun v11 =>
if w3 < 0 then (
lt w5 fun v12 =>
lt v11 fun v13 =>
lt (w5 + 1) fun v14 =>
rec v12 v13 v14 e6.2) else
if w4 < v11 then (
lt w5 fun v15 =>
lt v11 fun v16 =>
lt (w5 + 1) fun v17 =>
rec v15 v16 v17 e6.2) else
lt (w5 + 1) fun v18 =>
rec w3 w4 v18 e6.2) else
some (w3, I)
noncomputable def x11_choice_L8 (c1 : Int32) (c2 : Int32) : Nat → Int32 → Int32 → Int32 → MI → Option (Int32 × MI)
  | 0 => fun _ _ _ _ => none
  | n + 1 => x11_choice_L8s c1 c2 (x11_choice_L8 c1 c2 n)
noncomputable def x11_choice (p1 : Int32) (p2 : Int32) (I : MI) : Option (Int32 × MI) :=
lt (-1 : Int32) fun v1 =>
lt (0 : Int32) fun v2 =>
lt (0 : Int32) fun v3 =>
b1 (x11_choice_L8 p1 p2 FU v1 v2 v3 I) fun e20 =>
some (e20.1, e20.2)
theorem x11_choice_L8_ok {X : WX} {n0 s0 : Nat} {c1 : Int32} {c2 : Int32} {L : ML} {R : MR} {S : MS} (hK : okm R S) : ∀ (n : Nat) (w3 : Int32) (w4 : Int32) (w5 : Int32) (I : MI), Sim X yX11_choice cX11_choice 7 (some .int) 5 120 n0 s0 8 [(0, .ref (X.1 + 102)), (1, .int c1), (2, .int c2), (3, .int w3), (4, .int w4), (5, .int w5)] [] (I, L, R, S) (x11_choice_L8 c1 c2 n w3 w4 w5 I) (fun b f => Ex X yX11_choice cX11_choice 7 (some .int) 5 120 n0 s0 107 [(3, .int b.1)] [] (b.2, L, R, S) f) := by
  intro n
  induction n with
  | zero =>
    intro w3 w4 w5 I
    exact sm_none
  | succ n ih =>
    intro w3 w4 w5 I
    change Sim _ _ _ _ _ _ _ _ _ _ _ _ _ (x11_choice_L8s c1 c2 (x11_choice_L8 c1 c2 n) w3 w4 w5 I) _
    unfold x11_choice_L8s
    refine s_iload 5 dX11_choice_8 rfl rfl ?_
    refine s_iconst (v := 5) dX11_choice_10 rfl cI_5 ?_
    refine s_aload_n 0 dX11_choice_11 rfl rfl ?_
    refine s_getI dX11_choice_12 rfl fl_11_467 (S_102 hK) ?_
    refine s_imul dX11_choice_15 rfl ?_
    refine s_icmp_ge (tgt := 107) dX11_choice_16 rfl rfl (fun _ => ?_) (fun _ => ?_)
    · skip
      refine s_pick [3] rfl ?_
      exact sm_exit (fun f h => h)
    · skip
      refine s_aload_n 0 dX11_choice_19 rfl rfl ?_
      refine s_iload_n 1 dX11_choice_20 rfl rfl ?_
      refine s_iload 5 dX11_choice_21 rfl rfl ?_
      refine s_iconst (v := 5) dX11_choice_23 rfl cI_5 ?_
      refine s_idiv dX11_choice_24 rfl (by decide) ?_
      refine s_iload 5 dX11_choice_25 rfl rfl ?_
      refine s_iconst (v := 5) dX11_choice_27 rfl cI_5 ?_
      refine s_irem dX11_choice_28 rfl (by decide) ?_
      refine s_callV3_i1 dX11_choice_29 rfl lkV_RX11_548 (S_102 hK) (Nat.le_of_ble_eq_true rfl) (Nat.le_of_ble_eq_true rfl) (Nat.le_of_ble_eq_true rfl) (ct_x11_canTry hK) (fun r4 I5 => ?_)
      refine s_if_ne (tgt := 38) dX11_choice_32 rfl rfl (fun _ => ?_) (fun _ => ?_)
      · skip
        refine s_aload_n 0 dX11_choice_38 rfl rfl ?_
        refine s_getI dX11_choice_39 rfl fl_11_464 (S_102 hK) ?_
        refine sm_reg (pcx := 78) (lsx := fun e6 => [(0, .ref (X.1 + 102)), (1, .int c1), (2, .int c2), (3, .int w3), (4, .int w4), (5, .int w5)]) (stx := fun e6 => [.int e6.1]) (ux := fun e6 => (e6.2, L, R, S)) ?_ (fun e6 => ?_)
        · skip
          refine s_if_ne (tgt := 49) dX11_choice_42 rfl rfl (fun _ => ?_) (fun _ => ?_)
          · skip
            refine s_aload_n 0 dX11_choice_49 rfl rfl ?_
            refine s_iconst (v := 5) dX11_choice_50 rfl cI_5 ?_
            refine s_iload_n 2 dX11_choice_51 rfl rfl ?_
            refine s_iadd dX11_choice_52 rfl ?_
            refine s_iload_n 1 dX11_choice_53 rfl rfl ?_
            refine s_iload 5 dX11_choice_54 rfl rfl ?_
            refine s_iconst (v := 5) dX11_choice_56 rfl cI_5 ?_
            refine s_idiv dX11_choice_57 rfl (by decide) ?_
            refine s_iload 5 dX11_choice_58 rfl rfl ?_
            refine s_iconst (v := 5) dX11_choice_60 rfl cI_5 ?_
            refine s_irem dX11_choice_61 rfl (by decide) ?_
            refine s_aload_n 0 dX11_choice_62 rfl rfl ?_
            refine s_iload_n 1 dX11_choice_63 rfl rfl ?_
            refine s_iload 5 dX11_choice_64 rfl rfl ?_
            refine s_iconst (v := 5) dX11_choice_66 rfl cI_5 ?_
            refine s_idiv dX11_choice_67 rfl (by decide) ?_
            refine s_iload 5 dX11_choice_68 rfl rfl ?_
            refine s_iconst (v := 5) dX11_choice_70 rfl cI_5 ?_
            refine s_irem dX11_choice_71 rfl (by decide) ?_
            refine s_callV3_i1 dX11_choice_72 rfl lkV_RX11_538 (S_102 hK) (Nat.le_of_ble_eq_true rfl) (Nat.le_of_ble_eq_true rfl) (Nat.le_of_ble_eq_true rfl) (ct_x11_oddsOf hK) (fun r7 I8 => ?_)
            refine s_callV5_i1 dX11_choice_75 rfl lkV_RX11_511 (S_102 hK) (Nat.le_of_ble_eq_true rfl) (Nat.le_of_ble_eq_true rfl) (Nat.le_of_ble_eq_true rfl) (ct_x11_worked hK) (fun r9 I10 => ?_)
            exact sm_exit (fun f h => h)
          · skip
            refine s_iconst (v := 0) dX11_choice_45 rfl cI_0 ?_
            refine s_goto (tgt := 78) dX11_choice_46 rfl ?_
            exact sm_exit (fun f h => h)
        · skip
          refine s_istoreL (fun v11 => [(6, .int v11), (0, .ref (X.1 + 102)), (1, .int c1), (2, .int c2), (3, .int w3), (4, .int w4), (5, .int w5)]) dX11_choice_78 rfl (by decide) (fun _ => rfl) (fun v11 => ?_)
          refine s_iload_n 4 dX11_choice_80 rfl rfl ?_
          refine s_if_lt (tgt := 94) dX11_choice_81 rfl rfl (fun _ => ?_) (fun _ => ?_)
          · skip
            refine s_iload 6 dX11_choice_94 rfl rfl ?_
            refine s_istore_nL (fun v12 => [(3, .int v12), (6, .int v11), (0, .ref (X.1 + 102)), (1, .int c1), (2, .int c2), (4, .int w4), (5, .int w5)]) dX11_choice_96 rfl (by decide) (fun _ => rfl) (fun v12 => ?_)
            refine s_iload 1 dX11_choice_97 rfl rfl ?_
            refine s_istoreL (fun v13 => [(4, .int v13), (3, .int v12), (6, .int v11), (0, .ref (X.1 + 102)), (1, .int c1), (2, .int c2), (5, .int w5)]) dX11_choice_99 rfl (by decide) (fun _ => rfl) (fun v13 => ?_)
            refine s_iincL 6 (c := 1) (fun v14 => [(5, .int v14), (4, .int v13), (3, .int v12), (6, .int v11), (0, .ref (X.1 + 102)), (1, .int c1), (2, .int c2)]) dX11_choice_101 rfl rfl cI_1 (by decide) (fun _ => rfl) (fun v14 => ?_)
            refine s_goto (tgt := 8) dX11_choice_104 rfl ?_
            refine s_pick [4, 5, 6, 2, 1, 0] rfl ?_
            exact ih v12 v13 v14 e6.2
          · skip
            refine s_iload 0 dX11_choice_84 rfl rfl ?_
            refine s_iload 5 dX11_choice_86 rfl rfl ?_
            refine s_icmp_gt (tgt := 94) dX11_choice_88 rfl rfl (fun _ => ?_) (fun _ => ?_)
            · skip
              refine s_iload 6 dX11_choice_94 rfl rfl ?_
              refine s_istore_nL (fun v15 => [(3, .int v15), (6, .int v11), (0, .ref (X.1 + 102)), (1, .int c1), (2, .int c2), (4, .int w4), (5, .int w5)]) dX11_choice_96 rfl (by decide) (fun _ => rfl) (fun v15 => ?_)
              refine s_iload 1 dX11_choice_97 rfl rfl ?_
              refine s_istoreL (fun v16 => [(4, .int v16), (3, .int v15), (6, .int v11), (0, .ref (X.1 + 102)), (1, .int c1), (2, .int c2), (5, .int w5)]) dX11_choice_99 rfl (by decide) (fun _ => rfl) (fun v16 => ?_)
              refine s_iincL 6 (c := 1) (fun v17 => [(5, .int v17), (4, .int v16), (3, .int v15), (6, .int v11), (0, .ref (X.1 + 102)), (1, .int c1), (2, .int c2)]) dX11_choice_101 rfl rfl cI_1 (by decide) (fun _ => rfl) (fun v17 => ?_)
              refine s_goto (tgt := 8) dX11_choice_104 rfl ?_
              refine s_pick [4, 5, 6, 2, 1, 0] rfl ?_
              exact ih v15 v16 v17 e6.2
            · skip
              refine s_goto (tgt := 101) dX11_choice_91 rfl ?_
              refine s_iincL 6 (c := 1) (fun v18 => [(5, .int v18), (6, .int v11), (0, .ref (X.1 + 102)), (1, .int c1), (2, .int c2), (3, .int w3), (4, .int w4)]) dX11_choice_101 rfl rfl cI_1 (by decide) (fun _ => rfl) (fun v18 => ?_)
              refine s_goto (tgt := 8) dX11_choice_104 rfl ?_
              refine s_pick [2, 3, 4, 5, 6, 0] rfl ?_
              exact ih w3 w4 v18 e6.2
      · skip
        refine s_goto (tgt := 101) dX11_choice_35 rfl ?_
        refine s_iincL 5 (c := 1) (fun v19 => [(5, .int v19), (0, .ref (X.1 + 102)), (1, .int c1), (2, .int c2), (3, .int w3), (4, .int w4)]) dX11_choice_101 rfl rfl cI_1 (by decide) (fun _ => rfl) (fun v19 => ?_)
        refine s_goto (tgt := 8) dX11_choice_104 rfl ?_
        refine s_pick [1, 2, 3, 4, 5, 0] rfl ?_
        exact ih w3 w4 v19 I5
theorem ct_x11_choice {X : WX} {p1 : Int32} {p2 : Int32} {I : MI} {L : ML} {R : MR} {S : MS} (hK : okm R S) : Ct X yX11_choice cX11_choice 7 (some .int) 5 120 [.ref (X.1 + 102), .int p1, .int p2] (I, L, R, S) (x11_choice p1 p2 I) (fun r => (some (.int r.1), (r.2, L, R, S))) := by
  refine Ct.of (by decide) (Nat.le_of_ble_eq_true rfl) [(0, .ref (X.1 + 102)), (1, .int p1), (2, .int p2)] rfl ?_
  unfold x11_choice
  refine s_iconst (v := (-1)) dX11_choice_0 rfl cI_m1 ?_
  refine s_istore_nL (fun v1 => [(3, .int v1), (0, .ref (X.1 + 102)), (1, .int p1), (2, .int p2)]) dX11_choice_1 rfl (by decide) (fun _ => rfl) (fun v1 => ?_)
  refine s_iconst (v := 0) dX11_choice_2 rfl cI_0 ?_
  refine s_istoreL (fun v2 => [(4, .int v2), (3, .int v1), (0, .ref (X.1 + 102)), (1, .int p1), (2, .int p2)]) dX11_choice_3 rfl (by decide) (fun _ => rfl) (fun v2 => ?_)
  refine s_iconst (v := 0) dX11_choice_5 rfl cI_0 ?_
  refine s_istoreL (fun v3 => [(5, .int v3), (4, .int v2), (3, .int v1), (0, .ref (X.1 + 102)), (1, .int p1), (2, .int p2)]) dX11_choice_6 rfl (by decide) (fun _ => rfl) (fun v3 => ?_)
  refine s_pick [3, 4, 5, 2, 1, 0] rfl ?_
  refine sm_reg (x11_choice_L8_ok hK FU v1 v2 v3 I) (fun e20 => ?_)
  refine s_iload_n 0 dX11_choice_107 rfl rfl ?_
  exact s_iret dX11_choice_108 rfl (fun f h => h)
noncomputable def x11_actsBy (p1 : Int32) (p2 : Int32) (I : MI) : Option (Int32 × MI) :=
b2 (x11_choice p1 p2 I) fun r1 I2 =>
lt r1 fun v3 =>
if v3 < 0 then (
b1 (x11_breathes p1 I2) fun I4 =>
some ((0 : Int32), I4)) else
b2 (x11_tries p1 (v3 / 5) (rm v3 5) I2) fun r5 I6 =>
ck (r5 = 0 ∨ r5 = 1) (some (r5, I6))
theorem ct_x11_actsBy {X : WX} {p1 : Int32} {p2 : Int32} {I : MI} {L : ML} {R : MR} {S : MS} (hK : okm R S) : Ct X yX11_actsBy cX11_actsBy 4 (some .boolean) 6 146 [.ref (X.1 + 102), .int p1, .int p2] (I, L, R, S) (x11_actsBy p1 p2 I) (fun r => (some (.int r.1), (r.2, L, R, S))) := by
  refine Ct.of (by decide) (Nat.le_of_ble_eq_true rfl) [(0, .ref (X.1 + 102)), (1, .int p1), (2, .int p2)] rfl ?_
  unfold x11_actsBy
  refine s_aload_n 0 dX11_actsBy_0 rfl rfl ?_
  refine s_iload_n 1 dX11_actsBy_1 rfl rfl ?_
  refine s_iload_n 2 dX11_actsBy_2 rfl rfl ?_
  refine s_callV2_i1 dX11_actsBy_3 rfl lkV_RX11_551 (S_102 hK) (Nat.le_of_ble_eq_true rfl) (Nat.le_of_ble_eq_true rfl) (Nat.le_of_ble_eq_true rfl) (ct_x11_choice hK) (fun r1 I2 => ?_)
  refine s_istore_nL (fun v3 => [(3, .int v3), (0, .ref (X.1 + 102)), (1, .int p1), (2, .int p2)]) dX11_actsBy_6 rfl (by decide) (fun _ => rfl) (fun v3 => ?_)
  refine s_iload_n 0 dX11_actsBy_7 rfl rfl ?_
  refine s_if_lt (tgt := 23) dX11_actsBy_8 rfl rfl (fun _ => ?_) (fun _ => ?_)
  · skip
    refine s_aload_n 1 dX11_actsBy_23 rfl rfl ?_
    refine s_iload_n 2 dX11_actsBy_24 rfl rfl ?_
    refine s_callV1_v1 dX11_actsBy_25 rfl lkV_RX11_557 (S_102 hK) (Nat.le_of_ble_eq_true rfl) (Nat.le_of_ble_eq_true rfl) (Nat.le_of_ble_eq_true rfl) (ct_x11_breathes hK) (fun I4 => ?_)
    refine s_iconst (v := 0) dX11_actsBy_28 rfl cI_0 ?_
    exact s_zret dX11_actsBy_29 rfl (Or.inl rfl) (fun f h => h)
  · skip
    refine s_aload_n 1 dX11_actsBy_11 rfl rfl ?_
    refine s_iload_n 2 dX11_actsBy_12 rfl rfl ?_
    refine s_iload_n 0 dX11_actsBy_13 rfl rfl ?_
    refine s_iconst (v := 5) dX11_actsBy_14 rfl cI_5 ?_
    refine s_idiv dX11_actsBy_15 rfl (by decide) ?_
    refine s_iload_n 0 dX11_actsBy_16 rfl rfl ?_
    refine s_iconst (v := 5) dX11_actsBy_17 rfl cI_5 ?_
    refine s_irem dX11_actsBy_18 rfl (by decide) ?_
    refine s_callV3_i1 dX11_actsBy_19 rfl lkV_RX11_554 (S_102 hK) (Nat.le_of_ble_eq_true rfl) (Nat.le_of_ble_eq_true rfl) (Nat.le_of_ble_eq_true rfl) (ct_x11_tries hK) (fun r5 I6 => ?_)
    refine sm_ck (fun g7 => ?_)
    exact s_zret dX11_actsBy_22 rfl g7 (fun f h => h)
noncomputable def x11_afloatAll_L4s (I : MI) (rec : Int32 → Int32 → Option (Int32)) (w1 : Int32) (w2 : Int32) : Option (Int32) :=
if w2 < (I 102 60) then (
b1 (x11_isAfloat w2 I) fun r3 =>
if r3 = 0 then (
lt (w1 + 0) fun v4 =>
lt (w2 + 1) fun v5 =>
rec v4 v5) else
lt (w1 + 1) fun v6 =>
lt (w2 + 1) fun v7 =>
rec v6 v7) else
some w1
noncomputable def x11_afloatAll_L4 (I : MI) : Nat → Int32 → Int32 → Option (Int32)
  | 0 => fun _ _ => none
  | n + 1 => x11_afloatAll_L4s I (x11_afloatAll_L4 I n)
noncomputable def x11_afloatAll (I : MI) : Option (Int32) :=
lt (0 : Int32) fun v1 =>
lt (0 : Int32) fun v2 =>
b1 (x11_afloatAll_L4 I FU v1 v2) fun e8 =>
some e8
theorem x11_afloatAll_L4_ok {X : WX} {n0 s0 : Nat} {I : MI} {L : ML} {R : MR} {S : MS} (hK : okm R S) : ∀ (n : Nat) (w1 : Int32) (w2 : Int32), Sim X yX11_afloatAll cX11_afloatAll 3 (some .int) 1 21 n0 s0 4 [(0, .ref (X.1 + 102)), (1, .int w1), (2, .int w2)] [] (I, L, R, S) (x11_afloatAll_L4 I n w1 w2) (fun b f => Ex X yX11_afloatAll cX11_afloatAll 3 (some .int) 1 21 n0 s0 34 [(1, .int b)] [] (I, L, R, S) f) := by
  intro n
  induction n with
  | zero =>
    intro w1 w2
    exact sm_none
  | succ n ih =>
    intro w1 w2
    change Sim _ _ _ _ _ _ _ _ _ _ _ _ _ (x11_afloatAll_L4s I (x11_afloatAll_L4 I n) w1 w2) _
    unfold x11_afloatAll_L4s
    refine s_iload_n 2 dX11_afloatAll_4 rfl rfl ?_
    refine s_aload_n 0 dX11_afloatAll_5 rfl rfl ?_
    refine s_getI dX11_afloatAll_6 rfl fl_11_467 (S_102 hK) ?_
    refine s_icmp_ge (tgt := 34) dX11_afloatAll_9 rfl rfl (fun _ => ?_) (fun _ => ?_)
    · skip
      refine s_pick [1] rfl ?_
      exact sm_exit (fun f h => h)
    · skip
      refine s_iload_n 1 dX11_afloatAll_12 rfl rfl ?_
      refine s_aload_n 0 dX11_afloatAll_13 rfl rfl ?_
      refine s_iload_n 2 dX11_afloatAll_14 rfl rfl ?_
      refine s_callV1_i0 dX11_afloatAll_15 rfl lkV_RX11_501 (S_102 hK) (Nat.le_of_ble_eq_true rfl) (Nat.le_of_ble_eq_true rfl) (Nat.le_of_ble_eq_true rfl) (ct_x11_isAfloat hK) (fun r3 => ?_)
      refine s_if_eq (tgt := 25) dX11_afloatAll_18 rfl rfl (fun _ => ?_) (fun _ => ?_)
      · skip
        refine s_iconst (v := 0) dX11_afloatAll_25 rfl cI_0 ?_
        refine s_iadd dX11_afloatAll_26 rfl ?_
        refine s_istore_nL (fun v4 => [(1, .int v4), (0, .ref (X.1 + 102)), (2, .int w2)]) dX11_afloatAll_27 rfl (by decide) (fun _ => rfl) (fun v4 => ?_)
        refine s_iincL 2 (c := 1) (fun v5 => [(2, .int v5), (1, .int v4), (0, .ref (X.1 + 102))]) dX11_afloatAll_28 rfl rfl cI_1 (by decide) (fun _ => rfl) (fun v5 => ?_)
        refine s_goto (tgt := 4) dX11_afloatAll_31 rfl ?_
        refine s_pick [2, 1, 0] rfl ?_
        exact ih v4 v5
      · skip
        refine s_iconst (v := 1) dX11_afloatAll_21 rfl cI_1 ?_
        refine s_goto (tgt := 26) dX11_afloatAll_22 rfl ?_
        refine s_iadd dX11_afloatAll_26 rfl ?_
        refine s_istore_nL (fun v6 => [(1, .int v6), (0, .ref (X.1 + 102)), (2, .int w2)]) dX11_afloatAll_27 rfl (by decide) (fun _ => rfl) (fun v6 => ?_)
        refine s_iincL 2 (c := 1) (fun v7 => [(2, .int v7), (1, .int v6), (0, .ref (X.1 + 102))]) dX11_afloatAll_28 rfl rfl cI_1 (by decide) (fun _ => rfl) (fun v7 => ?_)
        refine s_goto (tgt := 4) dX11_afloatAll_31 rfl ?_
        refine s_pick [2, 1, 0] rfl ?_
        exact ih v6 v7
theorem ct_x11_afloatAll {X : WX} {I : MI} {L : ML} {R : MR} {S : MS} (hK : okm R S) : Ct X yX11_afloatAll cX11_afloatAll 3 (some .int) 1 21 [.ref (X.1 + 102)] (I, L, R, S) (x11_afloatAll I) (fun r => (some (.int r), (I, L, R, S))) := by
  refine Ct.of (by decide) (Nat.le_of_ble_eq_true rfl) [(0, .ref (X.1 + 102))] rfl ?_
  unfold x11_afloatAll
  refine s_iconst (v := 0) dX11_afloatAll_0 rfl cI_0 ?_
  refine s_istore_nL (fun v1 => [(1, .int v1), (0, .ref (X.1 + 102))]) dX11_afloatAll_1 rfl (by decide) (fun _ => rfl) (fun v1 => ?_)
  refine s_iconst (v := 0) dX11_afloatAll_2 rfl cI_0 ?_
  refine s_istore_nL (fun v2 => [(2, .int v2), (1, .int v1), (0, .ref (X.1 + 102))]) dX11_afloatAll_3 rfl (by decide) (fun _ => rfl) (fun v2 => ?_)
  refine s_pick [2, 1, 0] rfl ?_
  refine sm_reg (x11_afloatAll_L4_ok hK FU v1 v2) (fun e8 => ?_)
  refine s_iload_n 0 dX11_afloatAll_34 rfl rfl ?_
  exact s_iret dX11_afloatAll_35 rfl (fun f h => h)
noncomputable def x11_apple (p1 : Int32) (p2 : Int32) (I : MI) : Option (Int32) :=
b1 (x11_isApple p1 I) fun r1 =>
if r1 = 0 then (
some (-2 : Int32)) else
b1 (x11_isIn p2 (0 : Int32) (4 : Int32) I) fun r2 =>
if r2 = 0 then (
some (-2 : Int32)) else
ck (vp_in ((5 * p1) + p2) 128) <|
some (I 138 (ix ((5 * p1) + p2)))
theorem ct_x11_apple {X : WX} {p1 : Int32} {p2 : Int32} {I : MI} {L : ML} {R : MR} {S : MS} (hK : okm R S) : Ct X yX11_apple cX11_apple 3 (some .int) 2 43 [.ref (X.1 + 102), .int p1, .int p2] (I, L, R, S) (x11_apple p1 p2 I) (fun r => (some (.int r), (I, L, R, S))) := by
  refine Ct.of (by decide) (Nat.le_of_ble_eq_true rfl) [(0, .ref (X.1 + 102)), (1, .int p1), (2, .int p2)] rfl ?_
  unfold x11_apple
  refine s_aload_n 0 dX11_apple_0 rfl rfl ?_
  refine s_iload_n 1 dX11_apple_1 rfl rfl ?_
  refine s_callV1_i0 dX11_apple_2 rfl lkV_RX11_560 (S_102 hK) (Nat.le_of_ble_eq_true rfl) (Nat.le_of_ble_eq_true rfl) (Nat.le_of_ble_eq_true rfl) (ct_x11_isApple hK) (fun r1 => ?_)
  refine s_if_eq (tgt := 30) dX11_apple_5 rfl rfl (fun _ => ?_) (fun _ => ?_)
  · skip
    refine s_bipush (v := (-2)) dX11_apple_30 rfl cB_m2 ?_
    exact s_iret dX11_apple_32 rfl (fun f h => h)
  · skip
    refine s_iload_n 2 dX11_apple_8 rfl rfl ?_
    refine s_iconst (v := 0) dX11_apple_9 rfl cI_0 ?_
    refine s_iconst (v := 4) dX11_apple_10 rfl cI_4 ?_
    refine s_callS3_i0 dX11_apple_11 rfl lkS_RX11_494 (Nat.le_of_ble_eq_true rfl) (Nat.le_of_ble_eq_true rfl) (Nat.le_of_ble_eq_true rfl) (ct_x11_isIn hK) (fun r2 => ?_)
    refine s_if_eq (tgt := 30) dX11_apple_14 rfl rfl (fun _ => ?_) (fun _ => ?_)
    · skip
      refine s_bipush (v := (-2)) dX11_apple_30 rfl cB_m2 ?_
      exact s_iret dX11_apple_32 rfl (fun f h => h)
    · skip
      refine s_aload_n 0 dX11_apple_17 rfl rfl ?_
      refine s_getR 138 dX11_apple_18 rfl fl_11_124 rfl (S_102 hK) (R_102_67 hK) ?_
      refine s_iconst (v := 5) dX11_apple_21 rfl cI_5 ?_
      refine s_iload_n 1 dX11_apple_22 rfl rfl ?_
      refine s_imul dX11_apple_23 rfl ?_
      refine s_iload_n 2 dX11_apple_24 rfl rfl ?_
      refine s_iadd dX11_apple_25 rfl ?_
      refine sm_ck (fun g3 => ?_)
      refine s_iald dX11_apple_26 rfl (S_138 hK) g3 ?_
      refine s_goto (tgt := 32) dX11_apple_27 rfl ?_
      exact s_iret dX11_apple_32 rfl (fun f h => h)
noncomputable def x11_bobber (p1 : Int32) (p2 : Int32) (I : MI) : Option (Int32) :=
b1 (x11_isBobber p1 I) fun r1 =>
if r1 = 0 then (
some (-1 : Int32)) else
b1 (x11_isIn p2 (0 : Int32) (2 : Int32) I) fun r2 =>
if r2 = 0 then (
some (-1 : Int32)) else
ck (vp_in ((50 + (3 * p1)) + p2) 128) <|
some (I 138 (ix ((50 + (3 * p1)) + p2)))
theorem ct_x11_bobber {X : WX} {p1 : Int32} {p2 : Int32} {I : MI} {L : ML} {R : MR} {S : MS} (hK : okm R S) : Ct X yX11_bobber cX11_bobber 3 (some .int) 2 43 [.ref (X.1 + 102), .int p1, .int p2] (I, L, R, S) (x11_bobber p1 p2 I) (fun r => (some (.int r), (I, L, R, S))) := by
  refine Ct.of (by decide) (Nat.le_of_ble_eq_true rfl) [(0, .ref (X.1 + 102)), (1, .int p1), (2, .int p2)] rfl ?_
  unfold x11_bobber
  refine s_aload_n 0 dX11_bobber_0 rfl rfl ?_
  refine s_iload_n 1 dX11_bobber_1 rfl rfl ?_
  refine s_callV1_i0 dX11_bobber_2 rfl lkV_RX11_563 (S_102 hK) (Nat.le_of_ble_eq_true rfl) (Nat.le_of_ble_eq_true rfl) (Nat.le_of_ble_eq_true rfl) (ct_x11_isBobber hK) (fun r1 => ?_)
  refine s_if_eq (tgt := 33) dX11_bobber_5 rfl rfl (fun _ => ?_) (fun _ => ?_)
  · skip
    refine s_iconst (v := (-1)) dX11_bobber_33 rfl cI_m1 ?_
    exact s_iret dX11_bobber_34 rfl (fun f h => h)
  · skip
    refine s_iload_n 2 dX11_bobber_8 rfl rfl ?_
    refine s_iconst (v := 0) dX11_bobber_9 rfl cI_0 ?_
    refine s_iconst (v := 2) dX11_bobber_10 rfl cI_2 ?_
    refine s_callS3_i0 dX11_bobber_11 rfl lkS_RX11_494 (Nat.le_of_ble_eq_true rfl) (Nat.le_of_ble_eq_true rfl) (Nat.le_of_ble_eq_true rfl) (ct_x11_isIn hK) (fun r2 => ?_)
    refine s_if_eq (tgt := 33) dX11_bobber_14 rfl rfl (fun _ => ?_) (fun _ => ?_)
    · skip
      refine s_iconst (v := (-1)) dX11_bobber_33 rfl cI_m1 ?_
      exact s_iret dX11_bobber_34 rfl (fun f h => h)
    · skip
      refine s_aload_n 0 dX11_bobber_17 rfl rfl ?_
      refine s_getR 138 dX11_bobber_18 rfl fl_11_124 rfl (S_102 hK) (R_102_67 hK) ?_
      refine s_bipush (v := 50) dX11_bobber_21 rfl cB_50 ?_
      refine s_iconst (v := 3) dX11_bobber_23 rfl cI_3 ?_
      refine s_iload_n 1 dX11_bobber_24 rfl rfl ?_
      refine s_imul dX11_bobber_25 rfl ?_
      refine s_iadd dX11_bobber_26 rfl ?_
      refine s_iload_n 2 dX11_bobber_27 rfl rfl ?_
      refine s_iadd dX11_bobber_28 rfl ?_
      refine sm_ck (fun g3 => ?_)
      refine s_iald dX11_bobber_29 rfl (S_138 hK) g3 ?_
      refine s_goto (tgt := 34) dX11_bobber_30 rfl ?_
      exact s_iret dX11_bobber_34 rfl (fun f h => h)
noncomputable def x11_mayTry (p1 : Int32) (p2 : Int32) (p3 : Int32) (I : MI) : Option (Int32 × MI) :=
b1 (x11_load I) fun I1 =>
b1 (x11_isBobber p1 I1) fun r2 =>
if r2 = 0 then (
some ((0 : Int32), I1)) else
b1 (x11_isApple p2 I1) fun r3 =>
if r3 = 0 then (
some ((0 : Int32), I1)) else
b1 (x11_isIn p3 (0 : Int32) (4 : Int32) I1) fun r4 =>
if r4 = 0 then (
some ((0 : Int32), I1)) else
b2 (x11_canTry p1 p2 p3 I1) fun r5 I6 =>
if r5 = 0 then (
some ((0 : Int32), I6)) else
some ((1 : Int32), I6)
theorem ct_x11_mayTry {X : WX} {p1 : Int32} {p2 : Int32} {p3 : Int32} {I : MI} {L : ML} {R : MR} {S : MS} (hK : okm R S) : Ct X yX11_mayTry cX11_mayTry 4 (some .boolean) 4 90 [.ref (X.1 + 102), .int p1, .int p2, .int p3] (I, L, R, S) (x11_mayTry p1 p2 p3 I) (fun r => (some (.int r.1), (r.2, L, R, S))) := by
  refine Ct.of (by decide) (Nat.le_of_ble_eq_true rfl) [(0, .ref (X.1 + 102)), (1, .int p1), (2, .int p2), (3, .int p3)] rfl ?_
  unfold x11_mayTry
  refine s_aload_n 0 dX11_mayTry_0 rfl rfl ?_
  refine s_callV0_v1 dX11_mayTry_1 rfl lkV_RX11_566 (S_102 hK) (Nat.le_of_ble_eq_true rfl) (Nat.le_of_ble_eq_true rfl) (Nat.le_of_ble_eq_true rfl) (ct_x11_load hK) (fun I1 => ?_)
  refine s_aload_n 0 dX11_mayTry_4 rfl rfl ?_
  refine s_iload_n 1 dX11_mayTry_5 rfl rfl ?_
  refine s_callV1_i0 dX11_mayTry_6 rfl lkV_RX11_563 (S_102 hK) (Nat.le_of_ble_eq_true rfl) (Nat.le_of_ble_eq_true rfl) (Nat.le_of_ble_eq_true rfl) (ct_x11_isBobber hK) (fun r2 => ?_)
  refine s_if_eq (tgt := 43) dX11_mayTry_9 rfl rfl (fun _ => ?_) (fun _ => ?_)
  · skip
    refine s_iconst (v := 0) dX11_mayTry_43 rfl cI_0 ?_
    exact s_zret dX11_mayTry_44 rfl (Or.inl rfl) (fun f h => h)
  · skip
    refine s_aload_n 0 dX11_mayTry_12 rfl rfl ?_
    refine s_iload_n 2 dX11_mayTry_13 rfl rfl ?_
    refine s_callV1_i0 dX11_mayTry_14 rfl lkV_RX11_560 (S_102 hK) (Nat.le_of_ble_eq_true rfl) (Nat.le_of_ble_eq_true rfl) (Nat.le_of_ble_eq_true rfl) (ct_x11_isApple hK) (fun r3 => ?_)
    refine s_if_eq (tgt := 43) dX11_mayTry_17 rfl rfl (fun _ => ?_) (fun _ => ?_)
    · skip
      refine s_iconst (v := 0) dX11_mayTry_43 rfl cI_0 ?_
      exact s_zret dX11_mayTry_44 rfl (Or.inl rfl) (fun f h => h)
    · skip
      refine s_iload_n 3 dX11_mayTry_20 rfl rfl ?_
      refine s_iconst (v := 0) dX11_mayTry_21 rfl cI_0 ?_
      refine s_iconst (v := 4) dX11_mayTry_22 rfl cI_4 ?_
      refine s_callS3_i0 dX11_mayTry_23 rfl lkS_RX11_494 (Nat.le_of_ble_eq_true rfl) (Nat.le_of_ble_eq_true rfl) (Nat.le_of_ble_eq_true rfl) (ct_x11_isIn hK) (fun r4 => ?_)
      refine s_if_eq (tgt := 43) dX11_mayTry_26 rfl rfl (fun _ => ?_) (fun _ => ?_)
      · skip
        refine s_iconst (v := 0) dX11_mayTry_43 rfl cI_0 ?_
        exact s_zret dX11_mayTry_44 rfl (Or.inl rfl) (fun f h => h)
      · skip
        refine s_aload_n 0 dX11_mayTry_29 rfl rfl ?_
        refine s_iload_n 1 dX11_mayTry_30 rfl rfl ?_
        refine s_iload_n 2 dX11_mayTry_31 rfl rfl ?_
        refine s_iload_n 3 dX11_mayTry_32 rfl rfl ?_
        refine s_callV3_i1 dX11_mayTry_33 rfl lkV_RX11_548 (S_102 hK) (Nat.le_of_ble_eq_true rfl) (Nat.le_of_ble_eq_true rfl) (Nat.le_of_ble_eq_true rfl) (ct_x11_canTry hK) (fun r5 I6 => ?_)
        refine s_if_eq (tgt := 43) dX11_mayTry_36 rfl rfl (fun _ => ?_) (fun _ => ?_)
        · skip
          refine s_iconst (v := 0) dX11_mayTry_43 rfl cI_0 ?_
          exact s_zret dX11_mayTry_44 rfl (Or.inl rfl) (fun f h => h)
        · skip
          refine s_iconst (v := 1) dX11_mayTry_39 rfl cI_1 ?_
          refine s_goto (tgt := 44) dX11_mayTry_40 rfl ?_
          exact s_zret dX11_mayTry_44 rfl (Or.inr rfl) (fun f h => h)
noncomputable def x11_odds (p1 : Int32) (p2 : Int32) (p3 : Int32) (I : MI) : Option (Int32 × MI) :=
b2 (x11_mayTry p1 p2 p3 I) fun r1 I2 =>
if r1 = 0 then (
some ((-1 : Int32), I2)) else
b2 (x11_oddsOf p1 p2 p3 I2) fun r3 I4 =>
some (r3, I4)
theorem ct_x11_odds {X : WX} {p1 : Int32} {p2 : Int32} {p3 : Int32} {I : MI} {L : ML} {R : MR} {S : MS} (hK : okm R S) : Ct X yX11_odds cX11_odds 4 (some .int) 5 120 [.ref (X.1 + 102), .int p1, .int p2, .int p3] (I, L, R, S) (x11_odds p1 p2 p3 I) (fun r => (some (.int r.1), (r.2, L, R, S))) := by
  refine Ct.of (by decide) (Nat.le_of_ble_eq_true rfl) [(0, .ref (X.1 + 102)), (1, .int p1), (2, .int p2), (3, .int p3)] rfl ?_
  unfold x11_odds
  refine s_aload_n 0 dX11_odds_0 rfl rfl ?_
  refine s_iload_n 1 dX11_odds_1 rfl rfl ?_
  refine s_iload_n 2 dX11_odds_2 rfl rfl ?_
  refine s_iload_n 3 dX11_odds_3 rfl rfl ?_
  refine s_callV3_i1 dX11_odds_4 rfl lkV_RX11_569 (S_102 hK) (Nat.le_of_ble_eq_true rfl) (Nat.le_of_ble_eq_true rfl) (Nat.le_of_ble_eq_true rfl) (ct_x11_mayTry hK) (fun r1 I2 => ?_)
  refine s_if_eq (tgt := 20) dX11_odds_7 rfl rfl (fun _ => ?_) (fun _ => ?_)
  · skip
    refine s_iconst (v := (-1)) dX11_odds_20 rfl cI_m1 ?_
    exact s_iret dX11_odds_21 rfl (fun f h => h)
  · skip
    refine s_aload_n 0 dX11_odds_10 rfl rfl ?_
    refine s_iload_n 1 dX11_odds_11 rfl rfl ?_
    refine s_iload_n 2 dX11_odds_12 rfl rfl ?_
    refine s_iload_n 3 dX11_odds_13 rfl rfl ?_
    refine s_callV3_i1 dX11_odds_14 rfl lkV_RX11_538 (S_102 hK) (Nat.le_of_ble_eq_true rfl) (Nat.le_of_ble_eq_true rfl) (Nat.le_of_ble_eq_true rfl) (ct_x11_oddsOf hK) (fun r3 I4 => ?_)
    refine s_goto (tgt := 21) dX11_odds_17 rfl ?_
    exact s_iret dX11_odds_21 rfl (fun f h => h)
noncomputable def x11_told10 (p0 : Int32) (I : MI) : Option (Int32) :=
if p0 < 0 then (
some (-1 : Int32)) else
some ((10 * (p0 / 5)) + (rm p0 5))
theorem ct_x11_told10 {X : WX} {p0 : Int32} {I : MI} {L : ML} {R : MR} {S : MS} (hK : okm R S) : Ct X yX11_told10 cX11_told10 1 (some .int) 0 0 [.int p0] (I, L, R, S) (x11_told10 p0 I) (fun r => (some (.int r), (I, L, R, S))) := by
  refine Ct.of (by decide) (Nat.le_of_ble_eq_true rfl) [(0, .int p0)] rfl ?_
  unfold x11_told10
  refine s_iload_n 0 dX11_told10_0 rfl rfl ?_
  refine s_if_ge (tgt := 8) dX11_told10_1 rfl rfl (fun _ => ?_) (fun _ => ?_)
  · skip
    refine s_bipush (v := 10) dX11_told10_8 rfl cB_10 ?_
    refine s_iload_n 0 dX11_told10_10 rfl rfl ?_
    refine s_iconst (v := 5) dX11_told10_11 rfl cI_5 ?_
    refine s_idiv dX11_told10_12 rfl (by decide) ?_
    refine s_imul dX11_told10_13 rfl ?_
    refine s_iload_n 0 dX11_told10_14 rfl rfl ?_
    refine s_iconst (v := 5) dX11_told10_15 rfl cI_5 ?_
    refine s_irem dX11_told10_16 rfl (by decide) ?_
    refine s_iadd dX11_told10_17 rfl ?_
    exact s_iret dX11_told10_18 rfl (fun f h => h)
  · skip
    refine s_iconst (v := (-1)) dX11_told10_4 rfl cI_m1 ?_
    refine s_goto (tgt := 18) dX11_told10_5 rfl ?_
    exact s_iret dX11_told10_18 rfl (fun f h => h)
noncomputable def x11_chooses (p1 : Int32) (I : MI) : Option (Int32 × MI) :=
b1 (x11_isBobber p1 I) fun r1 =>
if r1 = 0 then (
some ((-2 : Int32), I)) else
b1 (x11_load I) fun I2 =>
ck (vp_in p1 4) <|
b2 (x11_choice p1 (I2 135 (ix p1)) I2) fun r4 I5 =>
b1 (x11_told10 r4 I5) fun r6 =>
some (r6, I5)
theorem ct_x11_chooses {X : WX} {p1 : Int32} {I : MI} {L : ML} {R : MR} {S : MS} (hK : okm R S) : Ct X yX11_chooses cX11_chooses 2 (some .int) 6 146 [.ref (X.1 + 102), .int p1] (I, L, R, S) (x11_chooses p1 I) (fun r => (some (.int r.1), (r.2, L, R, S))) := by
  refine Ct.of (by decide) (Nat.le_of_ble_eq_true rfl) [(0, .ref (X.1 + 102)), (1, .int p1)] rfl ?_
  unfold x11_chooses
  refine s_aload_n 0 dX11_chooses_0 rfl rfl ?_
  refine s_iload_n 1 dX11_chooses_1 rfl rfl ?_
  refine s_callV1_i0 dX11_chooses_2 rfl lkV_RX11_563 (S_102 hK) (Nat.le_of_ble_eq_true rfl) (Nat.le_of_ble_eq_true rfl) (Nat.le_of_ble_eq_true rfl) (ct_x11_isBobber hK) (fun r1 => ?_)
  refine s_if_ne (tgt := 11) dX11_chooses_5 rfl rfl (fun _ => ?_) (fun _ => ?_)
  · skip
    refine s_aload_n 0 dX11_chooses_11 rfl rfl ?_
    refine s_callV0_v1 dX11_chooses_12 rfl lkV_RX11_566 (S_102 hK) (Nat.le_of_ble_eq_true rfl) (Nat.le_of_ble_eq_true rfl) (Nat.le_of_ble_eq_true rfl) (ct_x11_load hK) (fun I2 => ?_)
    refine s_aload_n 0 dX11_chooses_15 rfl rfl ?_
    refine s_iload_n 1 dX11_chooses_16 rfl rfl ?_
    refine s_aload_n 0 dX11_chooses_17 rfl rfl ?_
    refine s_getR 135 dX11_chooses_18 rfl fl_11_112 rfl (S_102 hK) (R_102_47 hK) ?_
    refine s_iload_n 1 dX11_chooses_21 rfl rfl ?_
    refine sm_ck (fun g3 => ?_)
    refine s_iald dX11_chooses_22 rfl (S_135 hK) g3 ?_
    refine s_callV2_i1 dX11_chooses_23 rfl lkV_RX11_551 (S_102 hK) (Nat.le_of_ble_eq_true rfl) (Nat.le_of_ble_eq_true rfl) (Nat.le_of_ble_eq_true rfl) (ct_x11_choice hK) (fun r4 I5 => ?_)
    refine s_callS1_i0 dX11_chooses_26 rfl lkS_RX11_572 (Nat.le_of_ble_eq_true rfl) (Nat.le_of_ble_eq_true rfl) (Nat.le_of_ble_eq_true rfl) (ct_x11_told10 hK) (fun r6 => ?_)
    exact s_iret dX11_chooses_29 rfl (fun f h => h)
  · skip
    refine s_bipush (v := (-2)) dX11_chooses_8 rfl cB_m2 ?_
    exact s_iret dX11_chooses_10 rfl (fun f h => h)
noncomputable def x11_act_L11s (rec : Int32 → MI → Option (MI)) (w1 : Int32) (I : MI) : Option (MI) :=
if w1 < 4992 then (
ck (vp_in (128 + w1) 5120) <|
ck (vp_in w1 5120) <|
lt (wI I 139 (ix w1) (I 139 (ix (128 + w1)))) fun I4 =>
lt (w1 + 1) fun v6 =>
rec v6 I4) else
some I
noncomputable def x11_act_L11 : Nat → Int32 → MI → Option (MI)
  | 0 => fun _ _ => none
  | n + 1 => x11_act_L11s (x11_act_L11 n)
noncomputable def x11_act_L52s (rec : Int32 → MI → Option (MI)) (w1 : Int32) (I : MI) : Option (MI) :=
if w1 < 123 then (
ck (vp_in w1 128) <|
ck (vp_in ((128 * (I 102 71)) + w1) 5120) <|
lt (wI I 139 (ix ((128 * (I 102 71)) + w1)) (I 138 (ix w1))) fun I11 =>
lt (w1 + 1) fun v13 =>
rec v13 I11) else
some I
noncomputable def x11_act_L52 : Nat → Int32 → MI → Option (MI)
  | 0 => fun _ _ => none
  | n + 1 => x11_act_L52s (x11_act_L52 n)
noncomputable def x11_act (I : MI) : Option (MI) :=
b1 (
if (I 102 71) = 40 then (
lt (0 : Int32) fun v2 =>
b1 (x11_act_L11 FU v2 I) fun e7 =>
lt (wI e7 102 71 ((e7 102 71) - 1)) fun I8 =>
some I8) else
some I) fun e1 =>
lt (0 : Int32) fun v9 =>
b1 (x11_act_L52 FU v9 e1) fun e14 =>
lt (wI e14 102 71 ((e14 102 71) + 1)) fun I15 =>
lt (wI I15 102 72 (0 : Int32)) fun I16 =>
some I16
theorem x11_act_L11_ok {X : WX} {n0 s0 : Nat} {L : ML} {R : MR} {S : MS} (hK : okm R S) : ∀ (n : Nat) (w1 : Int32) (I : MI), Sim X yX11_act cX11_act 2 none 0 0 n0 s0 11 [(0, .ref (X.1 + 102)), (1, .int w1)] [] (I, L, R, S) (x11_act_L11 n w1 I) (fun b f => Ex X yX11_act cX11_act 2 none 0 0 n0 s0 40 [(0, .ref (X.1 + 102))] [] (b, L, R, S) f) := by
  intro n
  induction n with
  | zero =>
    intro w1 I
    exact sm_none
  | succ n ih =>
    intro w1 I
    change Sim _ _ _ _ _ _ _ _ _ _ _ _ _ (x11_act_L11s (x11_act_L11 n) w1 I) _
    unfold x11_act_L11s
    refine s_iload_n 1 dX11_act_11 rfl rfl ?_
    refine s_sipush (v := 4992) dX11_act_12 rfl cS_4992 ?_
    refine s_icmp_ge (tgt := 40) dX11_act_15 rfl rfl (fun _ => ?_) (fun _ => ?_)
    · skip
      refine s_pick [0] rfl ?_
      exact sm_exit (fun f h => h)
    · skip
      refine s_aload_n 0 dX11_act_18 rfl rfl ?_
      refine s_getR 139 dX11_act_19 rfl fl_11_127 rfl (S_102 hK) (R_102_70 hK) ?_
      refine s_iload_n 1 dX11_act_22 rfl rfl ?_
      refine s_aload_n 0 dX11_act_23 rfl rfl ?_
      refine s_getR 139 dX11_act_24 rfl fl_11_127 rfl (S_102 hK) (R_102_70 hK) ?_
      refine s_sipush (v := 128) dX11_act_27 rfl cS_128 ?_
      refine s_iload_n 1 dX11_act_30 rfl rfl ?_
      refine s_iadd dX11_act_31 rfl ?_
      refine sm_ck (fun g3 => ?_)
      refine s_iald dX11_act_32 rfl (S_139 hK) g3 ?_
      refine sm_ck (fun g5 => ?_)
      refine s_iastL dX11_act_33 rfl (S_139 hK) g5 (fun I4 => ?_)
      refine s_iincL 1 (c := 1) (fun v6 => [(1, .int v6), (0, .ref (X.1 + 102))]) dX11_act_34 rfl rfl cI_1 (by decide) (fun _ => rfl) (fun v6 => ?_)
      refine s_goto (tgt := 11) dX11_act_37 rfl ?_
      refine s_pick [1, 0] rfl ?_
      exact ih v6 I4
theorem x11_act_L52_ok {X : WX} {n0 s0 : Nat} {L : ML} {R : MR} {S : MS} (hK : okm R S) : ∀ (n : Nat) (w1 : Int32) (I : MI), Sim X yX11_act cX11_act 2 none 0 0 n0 s0 52 [(0, .ref (X.1 + 102)), (1, .int w1)] [] (I, L, R, S) (x11_act_L52 n w1 I) (fun b f => Ex X yX11_act cX11_act 2 none 0 0 n0 s0 85 [(0, .ref (X.1 + 102))] [] (b, L, R, S) f) := by
  intro n
  induction n with
  | zero =>
    intro w1 I
    exact sm_none
  | succ n ih =>
    intro w1 I
    change Sim _ _ _ _ _ _ _ _ _ _ _ _ _ (x11_act_L52s (x11_act_L52 n) w1 I) _
    unfold x11_act_L52s
    refine s_iload_n 1 dX11_act_52 rfl rfl ?_
    refine s_bipush (v := 123) dX11_act_53 rfl cB_123 ?_
    refine s_icmp_ge (tgt := 85) dX11_act_55 rfl rfl (fun _ => ?_) (fun _ => ?_)
    · skip
      refine s_pick [0] rfl ?_
      exact sm_exit (fun f h => h)
    · skip
      refine s_aload_n 0 dX11_act_58 rfl rfl ?_
      refine s_getR 139 dX11_act_59 rfl fl_11_127 rfl (S_102 hK) (R_102_70 hK) ?_
      refine s_sipush (v := 128) dX11_act_62 rfl cS_128 ?_
      refine s_aload_n 0 dX11_act_65 rfl rfl ?_
      refine s_getI dX11_act_66 rfl fl_11_482 (S_102 hK) ?_
      refine s_imul dX11_act_69 rfl ?_
      refine s_iload_n 1 dX11_act_70 rfl rfl ?_
      refine s_iadd dX11_act_71 rfl ?_
      refine s_aload_n 0 dX11_act_72 rfl rfl ?_
      refine s_getR 138 dX11_act_73 rfl fl_11_124 rfl (S_102 hK) (R_102_67 hK) ?_
      refine s_iload_n 1 dX11_act_76 rfl rfl ?_
      refine sm_ck (fun g10 => ?_)
      refine s_iald dX11_act_77 rfl (S_138 hK) g10 ?_
      refine sm_ck (fun g12 => ?_)
      refine s_iastL dX11_act_78 rfl (S_139 hK) g12 (fun I11 => ?_)
      refine s_iincL 1 (c := 1) (fun v13 => [(1, .int v13), (0, .ref (X.1 + 102))]) dX11_act_79 rfl rfl cI_1 (by decide) (fun _ => rfl) (fun v13 => ?_)
      refine s_goto (tgt := 52) dX11_act_82 rfl ?_
      refine s_pick [1, 0] rfl ?_
      exact ih v13 I11
theorem ct_x11_act {X : WX} {I : MI} {L : ML} {R : MR} {S : MS} (hK : okm R S) : Ct X yX11_act cX11_act 2 none 0 0 [.ref (X.1 + 102)] (I, L, R, S) (x11_act I) (fun r => (none, (r, L, R, S))) := by
  refine Ct.of (by decide) (Nat.le_of_ble_eq_true rfl) [(0, .ref (X.1 + 102))] rfl ?_
  unfold x11_act
  refine s_aload_n 0 dX11_act_0 rfl rfl ?_
  refine s_getI dX11_act_1 rfl fl_11_482 (S_102 hK) ?_
  refine s_bipush (v := 40) dX11_act_4 rfl cB_40 ?_
  refine sm_reg (pcx := 50) (lsx := fun e1 => [(0, .ref (X.1 + 102))]) (stx := fun e1 => []) (ux := fun e1 => (e1, L, R, S)) ?_ (fun e1 => ?_)
  · skip
    refine s_icmp_ne (tgt := 50) dX11_act_6 rfl rfl (fun _ => ?_) (fun _ => ?_)
    · skip
      exact sm_exit (fun f h => h)
    · skip
      refine s_iconst (v := 0) dX11_act_9 rfl cI_0 ?_
      refine s_istore_nL (fun v2 => [(1, .int v2), (0, .ref (X.1 + 102))]) dX11_act_10 rfl (by decide) (fun _ => rfl) (fun v2 => ?_)
      refine s_pick [1, 0] rfl ?_
      refine sm_reg (x11_act_L11_ok hK FU v2 I) (fun e7 => ?_)
      refine s_aload_n 0 dX11_act_40 rfl rfl ?_
      refine s_dup dX11_act_41 rfl rfl ?_
      refine s_getI dX11_act_42 rfl fl_11_482 (S_102 hK) ?_
      refine s_iconst (v := 1) dX11_act_45 rfl cI_1 ?_
      refine s_isub dX11_act_46 rfl ?_
      refine s_putIL dX11_act_47 rfl fl_11_482 (S_102 hK) (fun I8 => ?_)
      exact sm_exit (fun f h => h)
  · skip
    refine s_iconst (v := 0) dX11_act_50 rfl cI_0 ?_
    refine s_istore_nL (fun v9 => [(1, .int v9), (0, .ref (X.1 + 102))]) dX11_act_51 rfl (by decide) (fun _ => rfl) (fun v9 => ?_)
    refine s_pick [1, 0] rfl ?_
    refine sm_reg (x11_act_L52_ok hK FU v9 e1) (fun e14 => ?_)
    refine s_aload_n 0 dX11_act_85 rfl rfl ?_
    refine s_dup dX11_act_86 rfl rfl ?_
    refine s_getI dX11_act_87 rfl fl_11_482 (S_102 hK) ?_
    refine s_iconst (v := 1) dX11_act_90 rfl cI_1 ?_
    refine s_iadd dX11_act_91 rfl ?_
    refine s_putIL dX11_act_92 rfl fl_11_482 (S_102 hK) (fun I15 => ?_)
    refine s_aload_n 0 dX11_act_95 rfl rfl ?_
    refine s_iconst (v := 0) dX11_act_96 rfl cI_0 ?_
    refine s_putIL dX11_act_97 rfl fl_11_485 (S_102 hK) (fun I16 => ?_)
    exact s_vret dX11_act_100 rfl (fun f h => h)
noncomputable def x11_exchange_L2s (c1 : Int32) (rec : Int32 → MI → Option (MI)) (w2 : Int32) (I : MI) : Option (MI) :=
if w2 < 123 then (
ck (vp_in (c1 + w2) 5120) <|
lt (I 139 (ix (c1 + w2))) fun v3 =>
ck (vp_in w2 128) <|
ck (vp_in (c1 + w2) 5120) <|
lt (wI I 139 (ix (c1 + w2)) (I 138 (ix w2))) fun I5 =>
ck (vp_in w2 128) <|
lt (wI I5 138 (ix w2) v3) fun I7 =>
lt (w2 + 1) fun v9 =>
rec v9 I7) else
some I
noncomputable def x11_exchange_L2 (c1 : Int32) : Nat → Int32 → MI → Option (MI)
  | 0 => fun _ _ => none
  | n + 1 => x11_exchange_L2s c1 (x11_exchange_L2 c1 n)
noncomputable def x11_exchange (p1 : Int32) (I : MI) : Option (MI) :=
lt (0 : Int32) fun v1 =>
b1 (x11_exchange_L2 p1 FU v1 I) fun e10 =>
some e10
theorem x11_exchange_L2_ok {X : WX} {n0 s0 : Nat} {c1 : Int32} {L : ML} {R : MR} {S : MS} (hK : okm R S) : ∀ (n : Nat) (w2 : Int32) (I : MI), Sim X yX11_exchange cX11_exchange 4 none 0 0 n0 s0 2 [(0, .ref (X.1 + 102)), (1, .int c1), (2, .int w2)] [] (I, L, R, S) (x11_exchange_L2 c1 n w2 I) (fun b f => Ex X yX11_exchange cX11_exchange 4 none 0 0 n0 s0 44 [] [] (b, L, R, S) f) := by
  intro n
  induction n with
  | zero =>
    intro w2 I
    exact sm_none
  | succ n ih =>
    intro w2 I
    change Sim _ _ _ _ _ _ _ _ _ _ _ _ _ (x11_exchange_L2s c1 (x11_exchange_L2 c1 n) w2 I) _
    unfold x11_exchange_L2s
    refine s_iload_n 2 dX11_exchange_2 rfl rfl ?_
    refine s_bipush (v := 123) dX11_exchange_3 rfl cB_123 ?_
    refine s_icmp_ge (tgt := 44) dX11_exchange_5 rfl rfl (fun _ => ?_) (fun _ => ?_)
    · skip
      refine s_pick [] rfl ?_
      exact sm_exit (fun f h => h)
    · skip
      refine s_aload_n 0 dX11_exchange_8 rfl rfl ?_
      refine s_getR 139 dX11_exchange_9 rfl fl_11_127 rfl (S_102 hK) (R_102_70 hK) ?_
      refine s_iload_n 1 dX11_exchange_12 rfl rfl ?_
      refine s_iload_n 2 dX11_exchange_13 rfl rfl ?_
      refine s_iadd dX11_exchange_14 rfl ?_
      refine sm_ck (fun g2 => ?_)
      refine s_iald dX11_exchange_15 rfl (S_139 hK) g2 ?_
      refine s_istore_nL (fun v3 => [(3, .int v3), (0, .ref (X.1 + 102)), (1, .int c1), (2, .int w2)]) dX11_exchange_16 rfl (by decide) (fun _ => rfl) (fun v3 => ?_)
      refine s_aload_n 1 dX11_exchange_17 rfl rfl ?_
      refine s_getR 139 dX11_exchange_18 rfl fl_11_127 rfl (S_102 hK) (R_102_70 hK) ?_
      refine s_iload_n 2 dX11_exchange_21 rfl rfl ?_
      refine s_iload_n 3 dX11_exchange_22 rfl rfl ?_
      refine s_iadd dX11_exchange_23 rfl ?_
      refine s_aload_n 1 dX11_exchange_24 rfl rfl ?_
      refine s_getR 138 dX11_exchange_25 rfl fl_11_124 rfl (S_102 hK) (R_102_67 hK) ?_
      refine s_iload_n 3 dX11_exchange_28 rfl rfl ?_
      refine sm_ck (fun g4 => ?_)
      refine s_iald dX11_exchange_29 rfl (S_138 hK) g4 ?_
      refine sm_ck (fun g6 => ?_)
      refine s_iastL dX11_exchange_30 rfl (S_139 hK) g6 (fun I5 => ?_)
      refine s_aload_n 1 dX11_exchange_31 rfl rfl ?_
      refine s_getR 138 dX11_exchange_32 rfl fl_11_124 rfl (S_102 hK) (R_102_67 hK) ?_
      refine s_iload_n 3 dX11_exchange_35 rfl rfl ?_
      refine s_iload_n 0 dX11_exchange_36 rfl rfl ?_
      refine sm_ck (fun g8 => ?_)
      refine s_iastL dX11_exchange_37 rfl (S_138 hK) g8 (fun I7 => ?_)
      refine s_iincL 3 (c := 1) (fun v9 => [(2, .int v9), (3, .int v3), (0, .ref (X.1 + 102)), (1, .int c1)]) dX11_exchange_38 rfl rfl cI_1 (by decide) (fun _ => rfl) (fun v9 => ?_)
      refine s_goto (tgt := 2) dX11_exchange_41 rfl ?_
      refine s_pick [2, 3, 0] rfl ?_
      exact ih v9 I7
theorem ct_x11_exchange {X : WX} {p1 : Int32} {I : MI} {L : ML} {R : MR} {S : MS} (hK : okm R S) : Ct X yX11_exchange cX11_exchange 4 none 0 0 [.ref (X.1 + 102), .int p1] (I, L, R, S) (x11_exchange p1 I) (fun r => (none, (r, L, R, S))) := by
  refine Ct.of (by decide) (Nat.le_of_ble_eq_true rfl) [(0, .ref (X.1 + 102)), (1, .int p1)] rfl ?_
  unfold x11_exchange
  refine s_iconst (v := 0) dX11_exchange_0 rfl cI_0 ?_
  refine s_istore_nL (fun v1 => [(2, .int v1), (0, .ref (X.1 + 102)), (1, .int p1)]) dX11_exchange_1 rfl (by decide) (fun _ => rfl) (fun v1 => ?_)
  refine s_pick [1, 2, 0] rfl ?_
  refine sm_reg (x11_exchange_L2_ok hK FU v1 I) (fun e10 => ?_)
  exact s_vret dX11_exchange_44 rfl (fun f h => h)
noncomputable def x11_go (p1 : Int32) (p2 : Int32) (p3 : Int32) (I : MI) : Option (Int32 × MI) :=
b2 (x11_mayTry p1 p2 p3 I) fun r1 I2 =>
if r1 = 0 then (
some ((-1 : Int32), I2)) else
b1 (x11_act I2) fun I3 =>
b2 (x11_tries p1 p2 p3 I3) fun r4 I5 =>
lt r4 fun v6 =>
b1 (x11_keep I5) fun I7 =>
if v6 = 0 then (
some ((0 : Int32), I7)) else
some ((1 : Int32), I7)
theorem ct_x11_go {X : WX} {p1 : Int32} {p2 : Int32} {p3 : Int32} {I : MI} {L : ML} {R : MR} {S : MS} (hK : okm R S) : Ct X yX11_go cX11_go 5 (some .int) 6 146 [.ref (X.1 + 102), .int p1, .int p2, .int p3] (I, L, R, S) (x11_go p1 p2 p3 I) (fun r => (some (.int r.1), (r.2, L, R, S))) := by
  refine Ct.of (by decide) (Nat.le_of_ble_eq_true rfl) [(0, .ref (X.1 + 102)), (1, .int p1), (2, .int p2), (3, .int p3)] rfl ?_
  unfold x11_go
  refine s_aload_n 0 dX11_go_0 rfl rfl ?_
  refine s_iload_n 1 dX11_go_1 rfl rfl ?_
  refine s_iload_n 2 dX11_go_2 rfl rfl ?_
  refine s_iload_n 3 dX11_go_3 rfl rfl ?_
  refine s_callV3_i1 dX11_go_4 rfl lkV_RX11_569 (S_102 hK) (Nat.le_of_ble_eq_true rfl) (Nat.le_of_ble_eq_true rfl) (Nat.le_of_ble_eq_true rfl) (ct_x11_mayTry hK) (fun r1 I2 => ?_)
  refine s_if_ne (tgt := 12) dX11_go_7 rfl rfl (fun _ => ?_) (fun _ => ?_)
  · skip
    refine s_aload_n 0 dX11_go_12 rfl rfl ?_
    refine s_callV0_v1 dX11_go_13 rfl lkV_RX11_575 (S_102 hK) (Nat.le_of_ble_eq_true rfl) (Nat.le_of_ble_eq_true rfl) (Nat.le_of_ble_eq_true rfl) (ct_x11_act hK) (fun I3 => ?_)
    refine s_aload_n 0 dX11_go_16 rfl rfl ?_
    refine s_iload_n 1 dX11_go_17 rfl rfl ?_
    refine s_iload_n 2 dX11_go_18 rfl rfl ?_
    refine s_iload_n 3 dX11_go_19 rfl rfl ?_
    refine s_callV3_i1 dX11_go_20 rfl lkV_RX11_554 (S_102 hK) (Nat.le_of_ble_eq_true rfl) (Nat.le_of_ble_eq_true rfl) (Nat.le_of_ble_eq_true rfl) (ct_x11_tries hK) (fun r4 I5 => ?_)
    refine s_istoreL (fun v6 => [(4, .int v6), (0, .ref (X.1 + 102)), (1, .int p1), (2, .int p2), (3, .int p3)]) dX11_go_23 rfl (by decide) (fun _ => rfl) (fun v6 => ?_)
    refine s_aload_n 1 dX11_go_25 rfl rfl ?_
    refine s_callV0_v1 dX11_go_26 rfl lkV_RX11_479 (S_102 hK) (Nat.le_of_ble_eq_true rfl) (Nat.le_of_ble_eq_true rfl) (Nat.le_of_ble_eq_true rfl) (ct_x11_keep hK) (fun I7 => ?_)
    refine s_iload 0 dX11_go_29 rfl rfl ?_
    refine s_if_eq (tgt := 38) dX11_go_31 rfl rfl (fun _ => ?_) (fun _ => ?_)
    · skip
      refine s_iconst (v := 0) dX11_go_38 rfl cI_0 ?_
      exact s_iret dX11_go_39 rfl (fun f h => h)
    · skip
      refine s_iconst (v := 1) dX11_go_34 rfl cI_1 ?_
      refine s_goto (tgt := 39) dX11_go_35 rfl ?_
      exact s_iret dX11_go_39 rfl (fun f h => h)
  · skip
    refine s_iconst (v := (-1)) dX11_go_10 rfl cI_m1 ?_
    exact s_iret dX11_go_11 rfl (fun f h => h)
noncomputable def x11_breathe (p1 : Int32) (I : MI) : Option (Int32 × MI) :=
b1 (x11_isBobber p1 I) fun r1 =>
if r1 = 0 then (
some ((-1 : Int32), I)) else
b1 (x11_act I) fun I2 =>
b1 (x11_load I2) fun I3 =>
b1 (x11_breathes p1 I3) fun I4 =>
b1 (x11_keep I4) fun I5 =>
ck (vp_in p1 4) <|
some ((I5 133 (ix p1)), I5)
theorem ct_x11_breathe {X : WX} {p1 : Int32} {I : MI} {L : ML} {R : MR} {S : MS} (hK : okm R S) : Ct X yX11_breathe cX11_breathe 2 (some .int) 2 43 [.ref (X.1 + 102), .int p1] (I, L, R, S) (x11_breathe p1 I) (fun r => (some (.int r.1), (r.2, L, R, S))) := by
  refine Ct.of (by decide) (Nat.le_of_ble_eq_true rfl) [(0, .ref (X.1 + 102)), (1, .int p1)] rfl ?_
  unfold x11_breathe
  refine s_aload_n 0 dX11_breathe_0 rfl rfl ?_
  refine s_iload_n 1 dX11_breathe_1 rfl rfl ?_
  refine s_callV1_i0 dX11_breathe_2 rfl lkV_RX11_563 (S_102 hK) (Nat.le_of_ble_eq_true rfl) (Nat.le_of_ble_eq_true rfl) (Nat.le_of_ble_eq_true rfl) (ct_x11_isBobber hK) (fun r1 => ?_)
  refine s_if_ne (tgt := 10) dX11_breathe_5 rfl rfl (fun _ => ?_) (fun _ => ?_)
  · skip
    refine s_aload_n 0 dX11_breathe_10 rfl rfl ?_
    refine s_callV0_v1 dX11_breathe_11 rfl lkV_RX11_575 (S_102 hK) (Nat.le_of_ble_eq_true rfl) (Nat.le_of_ble_eq_true rfl) (Nat.le_of_ble_eq_true rfl) (ct_x11_act hK) (fun I2 => ?_)
    refine s_aload_n 0 dX11_breathe_14 rfl rfl ?_
    refine s_callV0_v1 dX11_breathe_15 rfl lkV_RX11_566 (S_102 hK) (Nat.le_of_ble_eq_true rfl) (Nat.le_of_ble_eq_true rfl) (Nat.le_of_ble_eq_true rfl) (ct_x11_load hK) (fun I3 => ?_)
    refine s_aload_n 0 dX11_breathe_18 rfl rfl ?_
    refine s_iload_n 1 dX11_breathe_19 rfl rfl ?_
    refine s_callV1_v1 dX11_breathe_20 rfl lkV_RX11_557 (S_102 hK) (Nat.le_of_ble_eq_true rfl) (Nat.le_of_ble_eq_true rfl) (Nat.le_of_ble_eq_true rfl) (ct_x11_breathes hK) (fun I4 => ?_)
    refine s_aload_n 0 dX11_breathe_23 rfl rfl ?_
    refine s_callV0_v1 dX11_breathe_24 rfl lkV_RX11_479 (S_102 hK) (Nat.le_of_ble_eq_true rfl) (Nat.le_of_ble_eq_true rfl) (Nat.le_of_ble_eq_true rfl) (ct_x11_keep hK) (fun I5 => ?_)
    refine s_aload_n 0 dX11_breathe_27 rfl rfl ?_
    refine s_getR 133 dX11_breathe_28 rfl fl_11_106 rfl (S_102 hK) (R_102_45 hK) ?_
    refine s_iload_n 1 dX11_breathe_31 rfl rfl ?_
    refine sm_ck (fun g6 => ?_)
    refine s_iald dX11_breathe_32 rfl (S_133 hK) g6 ?_
    exact s_iret dX11_breathe_33 rfl (fun f h => h)
  · skip
    refine s_iconst (v := (-1)) dX11_breathe_8 rfl cI_m1 ?_
    exact s_iret dX11_breathe_9 rfl (fun f h => h)
noncomputable def x11_goesOn (p1 : Int32) (p2 : Int32) (p3 : Int32) (I : MI) : Option (Int32 × MI) :=
b1 (x11_afloat p1 p2 I) fun r1 =>
lt r1 fun v2 =>
b1 (
if p3 = 0 then (
some (p1 - 1)) else
if p3 = 1 then (
some (p1 + 1)) else
some p1) fun e3 =>
lt e3 fun v4 =>
b1 (
if p3 = 2 then (
some (p2 + 1)) else
if p3 = 3 then (
some (p2 - 1)) else
some p2) fun e5 =>
lt e5 fun v6 =>
if v2 < 0 then (
some ((0 : Int32), I)) else
b1 (x11_isCell v4 v6 I) fun r7 =>
if r7 = 0 then (
some ((0 : Int32), I)) else
b1 (x11_afloat v4 v6 I) fun r8 =>
if r8 < 0 then (
ck (vp_in (5 * v2) 128) <|
lt (wI I 137 (ix (5 * v2)) v4) fun I9 =>
ck (vp_in ((5 * v2) + 1) 128) <|
lt (wI I9 137 (ix ((5 * v2) + 1)) v6) fun I11 =>
some ((1 : Int32), I11)) else
some ((0 : Int32), I)
theorem ct_x11_goesOn {X : WX} {p1 : Int32} {p2 : Int32} {p3 : Int32} {I : MI} {L : ML} {R : MR} {S : MS} (hK : okm R S) : Ct X yX11_goesOn cX11_goesOn 7 (some .boolean) 2 45 [.ref (X.1 + 102), .int p1, .int p2, .int p3] (I, L, R, S) (x11_goesOn p1 p2 p3 I) (fun r => (some (.int r.1), (r.2, L, R, S))) := by
  refine Ct.of (by decide) (Nat.le_of_ble_eq_true rfl) [(0, .ref (X.1 + 102)), (1, .int p1), (2, .int p2), (3, .int p3)] rfl ?_
  unfold x11_goesOn
  refine s_aload_n 0 dX11_goesOn_0 rfl rfl ?_
  refine s_iload_n 1 dX11_goesOn_1 rfl rfl ?_
  refine s_iload_n 2 dX11_goesOn_2 rfl rfl ?_
  refine s_callV2_i0 dX11_goesOn_3 rfl lkV_RX11_523 (S_102 hK) (Nat.le_of_ble_eq_true rfl) (Nat.le_of_ble_eq_true rfl) (Nat.le_of_ble_eq_true rfl) (ct_x11_afloat hK) (fun r1 => ?_)
  refine s_istoreL (fun v2 => [(4, .int v2), (0, .ref (X.1 + 102)), (1, .int p1), (2, .int p2), (3, .int p3)]) dX11_goesOn_6 rfl (by decide) (fun _ => rfl) (fun v2 => ?_)
  refine s_iload_n 4 dX11_goesOn_8 rfl rfl ?_
  refine sm_reg (pcx := 30) (lsx := fun e3 => [(0, .ref (X.1 + 102)), (2, .int p2), (3, .int p3), (4, .int v2)]) (stx := fun e3 => [.int e3]) (ux := fun e3 => (I, L, R, S)) ?_ (fun e3 => ?_)
  · skip
    refine s_if_ne (tgt := 18) dX11_goesOn_9 rfl rfl (fun _ => ?_) (fun _ => ?_)
    · skip
      refine s_iload_n 4 dX11_goesOn_18 rfl rfl ?_
      refine s_iconst (v := 1) dX11_goesOn_19 rfl cI_1 ?_
      refine s_icmp_ne (tgt := 29) dX11_goesOn_20 rfl rfl (fun _ => ?_) (fun _ => ?_)
      · skip
        refine s_iload_n 2 dX11_goesOn_29 rfl rfl ?_
        refine s_pick [1, 3, 4, 0] rfl ?_
        exact sm_exit (fun f h => h)
      · skip
        refine s_iload_n 2 dX11_goesOn_23 rfl rfl ?_
        refine s_iconst (v := 1) dX11_goesOn_24 rfl cI_1 ?_
        refine s_iadd dX11_goesOn_25 rfl ?_
        refine s_goto (tgt := 30) dX11_goesOn_26 rfl ?_
        refine s_pick [1, 3, 4, 0] rfl ?_
        exact sm_exit (fun f h => h)
    · skip
      refine s_iload_n 2 dX11_goesOn_12 rfl rfl ?_
      refine s_iconst (v := 1) dX11_goesOn_13 rfl cI_1 ?_
      refine s_isub dX11_goesOn_14 rfl ?_
      refine s_goto (tgt := 30) dX11_goesOn_15 rfl ?_
      refine s_pick [1, 3, 4, 0] rfl ?_
      exact sm_exit (fun f h => h)
  · skip
    refine s_istoreL (fun v4 => [(5, .int v4), (0, .ref (X.1 + 102)), (2, .int p2), (3, .int p3), (4, .int v2)]) dX11_goesOn_30 rfl (by decide) (fun _ => rfl) (fun v4 => ?_)
    refine s_iload_n 3 dX11_goesOn_32 rfl rfl ?_
    refine s_iconst (v := 2) dX11_goesOn_33 rfl cI_2 ?_
    refine sm_reg (pcx := 55) (lsx := fun e5 => [(0, .ref (X.1 + 102)), (4, .int v2), (5, .int v4)]) (stx := fun e5 => [.int e5]) (ux := fun e5 => (I, L, R, S)) ?_ (fun e5 => ?_)
    · skip
      refine s_icmp_ne (tgt := 43) dX11_goesOn_34 rfl rfl (fun _ => ?_) (fun _ => ?_)
      · skip
        refine s_iload_n 3 dX11_goesOn_43 rfl rfl ?_
        refine s_iconst (v := 3) dX11_goesOn_44 rfl cI_3 ?_
        refine s_icmp_ne (tgt := 54) dX11_goesOn_45 rfl rfl (fun _ => ?_) (fun _ => ?_)
        · skip
          refine s_iload_n 2 dX11_goesOn_54 rfl rfl ?_
          refine s_pick [1, 4, 0] rfl ?_
          exact sm_exit (fun f h => h)
        · skip
          refine s_iload_n 2 dX11_goesOn_48 rfl rfl ?_
          refine s_iconst (v := 1) dX11_goesOn_49 rfl cI_1 ?_
          refine s_isub dX11_goesOn_50 rfl ?_
          refine s_goto (tgt := 55) dX11_goesOn_51 rfl ?_
          refine s_pick [1, 4, 0] rfl ?_
          exact sm_exit (fun f h => h)
      · skip
        refine s_iload_n 2 dX11_goesOn_37 rfl rfl ?_
        refine s_iconst (v := 1) dX11_goesOn_38 rfl cI_1 ?_
        refine s_iadd dX11_goesOn_39 rfl ?_
        refine s_goto (tgt := 55) dX11_goesOn_40 rfl ?_
        refine s_pick [1, 4, 0] rfl ?_
        exact sm_exit (fun f h => h)
    · skip
      refine s_istoreL (fun v6 => [(6, .int v6), (0, .ref (X.1 + 102)), (4, .int v2), (5, .int v4)]) dX11_goesOn_55 rfl (by decide) (fun _ => rfl) (fun v6 => ?_)
      refine s_iload 2 dX11_goesOn_57 rfl rfl ?_
      refine s_if_lt (tgt := 84) dX11_goesOn_59 rfl rfl (fun _ => ?_) (fun _ => ?_)
      · skip
        refine s_iconst (v := 0) dX11_goesOn_84 rfl cI_0 ?_
        exact s_zret dX11_goesOn_85 rfl (Or.inl rfl) (fun f h => h)
      · skip
        refine s_aload_n 1 dX11_goesOn_62 rfl rfl ?_
        refine s_iload 3 dX11_goesOn_63 rfl rfl ?_
        refine s_iload 0 dX11_goesOn_65 rfl rfl ?_
        refine s_callV2_i0 dX11_goesOn_67 rfl lkV_RX11_526 (S_102 hK) (Nat.le_of_ble_eq_true rfl) (Nat.le_of_ble_eq_true rfl) (Nat.le_of_ble_eq_true rfl) (ct_x11_isCell hK) (fun r7 => ?_)
        refine s_if_eq (tgt := 84) dX11_goesOn_70 rfl rfl (fun _ => ?_) (fun _ => ?_)
        · skip
          refine s_iconst (v := 0) dX11_goesOn_84 rfl cI_0 ?_
          exact s_zret dX11_goesOn_85 rfl (Or.inl rfl) (fun f h => h)
        · skip
          refine s_aload_n 1 dX11_goesOn_73 rfl rfl ?_
          refine s_iload 3 dX11_goesOn_74 rfl rfl ?_
          refine s_iload 0 dX11_goesOn_76 rfl rfl ?_
          refine s_callV2_i0 dX11_goesOn_78 rfl lkV_RX11_523 (S_102 hK) (Nat.le_of_ble_eq_true rfl) (Nat.le_of_ble_eq_true rfl) (Nat.le_of_ble_eq_true rfl) (ct_x11_afloat hK) (fun r8 => ?_)
          refine s_if_lt (tgt := 86) dX11_goesOn_81 rfl rfl (fun _ => ?_) (fun _ => ?_)
          · skip
            refine s_aload_n 1 dX11_goesOn_86 rfl rfl ?_
            refine s_getR 137 dX11_goesOn_87 rfl fl_11_121 rfl (S_102 hK) (R_102_66 hK) ?_
            refine s_iconst (v := 5) dX11_goesOn_90 rfl cI_5 ?_
            refine s_iload 2 dX11_goesOn_91 rfl rfl ?_
            refine s_imul dX11_goesOn_93 rfl ?_
            refine s_iload 3 dX11_goesOn_94 rfl rfl ?_
            refine sm_ck (fun g10 => ?_)
            refine s_iastL dX11_goesOn_96 rfl (S_137 hK) g10 (fun I9 => ?_)
            refine s_aload_n 1 dX11_goesOn_97 rfl rfl ?_
            refine s_getR 137 dX11_goesOn_98 rfl fl_11_121 rfl (S_102 hK) (R_102_66 hK) ?_
            refine s_iconst (v := 5) dX11_goesOn_101 rfl cI_5 ?_
            refine s_iload 2 dX11_goesOn_102 rfl rfl ?_
            refine s_imul dX11_goesOn_104 rfl ?_
            refine s_iconst (v := 1) dX11_goesOn_105 rfl cI_1 ?_
            refine s_iadd dX11_goesOn_106 rfl ?_
            refine s_iload 0 dX11_goesOn_107 rfl rfl ?_
            refine sm_ck (fun g12 => ?_)
            refine s_iastL dX11_goesOn_109 rfl (S_137 hK) g12 (fun I11 => ?_)
            refine s_iconst (v := 1) dX11_goesOn_110 rfl cI_1 ?_
            exact s_zret dX11_goesOn_111 rfl (Or.inr rfl) (fun f h => h)
          · skip
            refine s_iconst (v := 0) dX11_goesOn_84 rfl cI_0 ?_
            exact s_zret dX11_goesOn_85 rfl (Or.inl rfl) (fun f h => h)
noncomputable def x11_wavesTo_L49s (c1 : Int32) (c3 : Int32) (c4 : Int32) (c5 : Int32) (rec : Int32 → Int32 → MI → Option (Int32 × MI)) (w2 : Int32) (w6 : Int32) (I : MI) : Option (Int32 × MI) :=
if w6 < c4 then (
b1 (
if c1 = 1 then (
some ((c3 - 1) - c5)) else
if c1 = 2 then (
some ((c3 - 1) - c5)) else
some c5) fun e8 =>
lt e8 fun v9 =>
b1 (
if c1 < 2 then (
some v9) else
some w6) fun e10 =>
b1 (
if c1 < 2 then (
some w6) else
some v9) fun e11 =>
b2 (x11_goesOn e10 e11 c1 I) fun r12 I13 =>
if r12 = 0 then (
lt (w2 + 0) fun v14 =>
lt (w6 + 1) fun v15 =>
rec v14 v15 I13) else
lt (w2 + 1) fun v16 =>
lt (w6 + 1) fun v17 =>
rec v16 v17 I13) else
some (w2, I)
noncomputable def x11_wavesTo_L49 (c1 : Int32) (c3 : Int32) (c4 : Int32) (c5 : Int32) : Nat → Int32 → Int32 → MI → Option (Int32 × MI)
  | 0 => fun _ _ _ => none
  | n + 1 => x11_wavesTo_L49s c1 c3 c4 c5 (x11_wavesTo_L49 c1 c3 c4 c5 n)
noncomputable def x11_wavesTo_L40s (c1 : Int32) (c3 : Int32) (c4 : Int32) (rec : Int32 → Int32 → MI → Option (Int32 × MI)) (w2 : Int32) (w5 : Int32) (I : MI) : Option (Int32 × MI) :=
if w5 < c3 then (
lt (0 : Int32) fun v7 =>
b1 (x11_wavesTo_L49 c1 c3 c4 w5 FU w2 v7 I) fun e18 =>
lt (w5 + 1) fun v19 =>
rec e18.1 v19 e18.2) else
some (w2, I)
noncomputable def x11_wavesTo_L40 (c1 : Int32) (c3 : Int32) (c4 : Int32) : Nat → Int32 → Int32 → MI → Option (Int32 × MI)
  | 0 => fun _ _ _ => none
  | n + 1 => x11_wavesTo_L40s c1 c3 c4 (x11_wavesTo_L40 c1 c3 c4 n)
noncomputable def x11_wavesTo (p1 : Int32) (I : MI) : Option (Int32 × MI) :=
lt (0 : Int32) fun v1 =>
b1 (
if p1 < 2 then (
some (I 102 56)) else
some (I 102 57)) fun e2 =>
lt e2 fun v3 =>
b1 (
if p1 < 2 then (
some (I 102 57)) else
some (I 102 56)) fun e4 =>
lt e4 fun v5 =>
lt (0 : Int32) fun v6 =>
b1 (x11_wavesTo_L40 p1 v3 v5 FU v1 v6 I) fun e20 =>
some (e20.1, e20.2)
theorem x11_wavesTo_L49_ok {X : WX} {n0 s0 : Nat} {c1 : Int32} {c3 : Int32} {c4 : Int32} {c5 : Int32} {L : ML} {R : MR} {S : MS} (hK : okm R S) : ∀ (n : Nat) (w2 : Int32) (w6 : Int32) (I : MI), Sim X yX11_wavesTo cX11_wavesTo 8 (some .int) 3 71 n0 s0 49 [(0, .ref (X.1 + 102)), (1, .int c1), (2, .int w2), (3, .int c3), (4, .int c4), (5, .int c5), (6, .int w6)] [] (I, L, R, S) (x11_wavesTo_L49 c1 c3 c4 c5 n w2 w6 I) (fun b f => Ex X yX11_wavesTo cX11_wavesTo 8 (some .int) 3 71 n0 s0 125 [(0, .ref (X.1 + 102)), (1, .int c1), (2, .int b.1), (3, .int c3), (4, .int c4), (5, .int c5)] [] (b.2, L, R, S) f) := by
  intro n
  induction n with
  | zero =>
    intro w2 w6 I
    exact sm_none
  | succ n ih =>
    intro w2 w6 I
    change Sim _ _ _ _ _ _ _ _ _ _ _ _ _ (x11_wavesTo_L49s c1 c3 c4 c5 (x11_wavesTo_L49 c1 c3 c4 c5 n) w2 w6 I) _
    unfold x11_wavesTo_L49s
    refine s_iload 6 dX11_wavesTo_49 rfl rfl ?_
    refine s_iload 4 dX11_wavesTo_51 rfl rfl ?_
    refine s_icmp_ge (tgt := 125) dX11_wavesTo_53 rfl rfl (fun _ => ?_) (fun _ => ?_)
    · skip
      refine s_pick [0, 1, 2, 3, 4, 5] rfl ?_
      exact sm_exit (fun f h => h)
    · skip
      refine s_iload_n 1 dX11_wavesTo_56 rfl rfl ?_
      refine s_iconst (v := 1) dX11_wavesTo_57 rfl cI_1 ?_
      refine sm_reg (pcx := 77) (lsx := fun e8 => [(0, .ref (X.1 + 102)), (1, .int c1), (2, .int w2), (3, .int c3), (4, .int c4), (5, .int c5), (6, .int w6)]) (stx := fun e8 => [.int e8]) (ux := fun e8 => (I, L, R, S)) ?_ (fun e8 => ?_)
      · skip
        refine s_icmp_eq (tgt := 66) dX11_wavesTo_58 rfl rfl (fun _ => ?_) (fun _ => ?_)
        · skip
          refine s_iload_n 3 dX11_wavesTo_66 rfl rfl ?_
          refine s_iconst (v := 1) dX11_wavesTo_67 rfl cI_1 ?_
          refine s_isub dX11_wavesTo_68 rfl ?_
          refine s_iload 5 dX11_wavesTo_69 rfl rfl ?_
          refine s_isub dX11_wavesTo_71 rfl ?_
          refine s_goto (tgt := 77) dX11_wavesTo_72 rfl ?_
          exact sm_exit (fun f h => h)
        · skip
          refine s_iload_n 1 dX11_wavesTo_61 rfl rfl ?_
          refine s_iconst (v := 2) dX11_wavesTo_62 rfl cI_2 ?_
          refine s_icmp_ne (tgt := 75) dX11_wavesTo_63 rfl rfl (fun _ => ?_) (fun _ => ?_)
          · skip
            refine s_iload 5 dX11_wavesTo_75 rfl rfl ?_
            exact sm_exit (fun f h => h)
          · skip
            refine s_iload_n 3 dX11_wavesTo_66 rfl rfl ?_
            refine s_iconst (v := 1) dX11_wavesTo_67 rfl cI_1 ?_
            refine s_isub dX11_wavesTo_68 rfl ?_
            refine s_iload 5 dX11_wavesTo_69 rfl rfl ?_
            refine s_isub dX11_wavesTo_71 rfl ?_
            refine s_goto (tgt := 77) dX11_wavesTo_72 rfl ?_
            exact sm_exit (fun f h => h)
      · skip
        refine s_istoreL (fun v9 => [(7, .int v9), (0, .ref (X.1 + 102)), (1, .int c1), (2, .int w2), (3, .int c3), (4, .int c4), (5, .int c5), (6, .int w6)]) dX11_wavesTo_77 rfl (by decide) (fun _ => rfl) (fun v9 => ?_)
        refine s_iload_n 3 dX11_wavesTo_79 rfl rfl ?_
        refine s_aload_n 1 dX11_wavesTo_80 rfl rfl ?_
        refine s_iload_n 2 dX11_wavesTo_81 rfl rfl ?_
        refine s_iconst (v := 2) dX11_wavesTo_82 rfl cI_2 ?_
        refine sm_reg (pcx := 93) (lsx := fun e10 => [(0, .ref (X.1 + 102)), (1, .int c1), (3, .int c3), (4, .int c4), (5, .int c5), (6, .int w6), (7, .int v9)]) (stx := fun e10 => [.int e10, .ref (X.1 + 102), .int w2]) (ux := fun e10 => (I, L, R, S)) ?_ (fun e10 => ?_)
        · skip
          refine s_icmp_ge (tgt := 91) dX11_wavesTo_83 rfl rfl (fun _ => ?_) (fun _ => ?_)
          · skip
            refine s_iload 7 dX11_wavesTo_91 rfl rfl ?_
            refine s_pick [1, 2, 4, 5, 6, 7, 0] rfl ?_
            exact sm_exit (fun f h => h)
          · skip
            refine s_iload 0 dX11_wavesTo_86 rfl rfl ?_
            refine s_goto (tgt := 93) dX11_wavesTo_88 rfl ?_
            refine s_pick [1, 2, 4, 5, 6, 7, 0] rfl ?_
            exact sm_exit (fun f h => h)
        · skip
          refine s_iload_n 1 dX11_wavesTo_93 rfl rfl ?_
          refine s_iconst (v := 2) dX11_wavesTo_94 rfl cI_2 ?_
          refine sm_reg (pcx := 105) (lsx := fun e11 => [(0, .ref (X.1 + 102)), (1, .int c1), (3, .int c3), (4, .int c4), (5, .int c5), (6, .int w6)]) (stx := fun e11 => [.int e11, .int e10, .ref (X.1 + 102), .int w2]) (ux := fun e11 => (I, L, R, S)) ?_ (fun e11 => ?_)
          · skip
            refine s_icmp_ge (tgt := 103) dX11_wavesTo_95 rfl rfl (fun _ => ?_) (fun _ => ?_)
            · skip
              refine s_iload 6 dX11_wavesTo_103 rfl rfl ?_
              refine s_pick [0, 1, 2, 3, 4, 5] rfl ?_
              exact sm_exit (fun f h => h)
            · skip
              refine s_iload 5 dX11_wavesTo_98 rfl rfl ?_
              refine s_goto (tgt := 105) dX11_wavesTo_100 rfl ?_
              refine s_pick [0, 1, 2, 3, 4, 5] rfl ?_
              exact sm_exit (fun f h => h)
          · skip
            refine s_iload_n 1 dX11_wavesTo_105 rfl rfl ?_
            refine s_callV3_i1 dX11_wavesTo_106 rfl lkV_RX11_578 (S_102 hK) (Nat.le_of_ble_eq_true rfl) (Nat.le_of_ble_eq_true rfl) (Nat.le_of_ble_eq_true rfl) (ct_x11_goesOn hK) (fun r12 I13 => ?_)
            refine s_if_eq (tgt := 116) dX11_wavesTo_109 rfl rfl (fun _ => ?_) (fun _ => ?_)
            · skip
              refine s_iconst (v := 0) dX11_wavesTo_116 rfl cI_0 ?_
              refine s_iadd dX11_wavesTo_117 rfl ?_
              refine s_istore_nL (fun v14 => [(2, .int v14), (0, .ref (X.1 + 102)), (1, .int c1), (3, .int c3), (4, .int c4), (5, .int c5), (6, .int w6)]) dX11_wavesTo_118 rfl (by decide) (fun _ => rfl) (fun v14 => ?_)
              refine s_iincL 6 (c := 1) (fun v15 => [(6, .int v15), (2, .int v14), (0, .ref (X.1 + 102)), (1, .int c1), (3, .int c3), (4, .int c4), (5, .int c5)]) dX11_wavesTo_119 rfl rfl cI_1 (by decide) (fun _ => rfl) (fun v15 => ?_)
              refine s_goto (tgt := 49) dX11_wavesTo_122 rfl ?_
              refine s_pick [2, 3, 1, 4, 5, 6, 0] rfl ?_
              exact ih v14 v15 I13
            · skip
              refine s_iconst (v := 1) dX11_wavesTo_112 rfl cI_1 ?_
              refine s_goto (tgt := 117) dX11_wavesTo_113 rfl ?_
              refine s_iadd dX11_wavesTo_117 rfl ?_
              refine s_istore_nL (fun v16 => [(2, .int v16), (0, .ref (X.1 + 102)), (1, .int c1), (3, .int c3), (4, .int c4), (5, .int c5), (6, .int w6)]) dX11_wavesTo_118 rfl (by decide) (fun _ => rfl) (fun v16 => ?_)
              refine s_iincL 6 (c := 1) (fun v17 => [(6, .int v17), (2, .int v16), (0, .ref (X.1 + 102)), (1, .int c1), (3, .int c3), (4, .int c4), (5, .int c5)]) dX11_wavesTo_119 rfl rfl cI_1 (by decide) (fun _ => rfl) (fun v17 => ?_)
              refine s_goto (tgt := 49) dX11_wavesTo_122 rfl ?_
              refine s_pick [2, 3, 1, 4, 5, 6, 0] rfl ?_
              exact ih v16 v17 I13
theorem x11_wavesTo_L40_ok {X : WX} {n0 s0 : Nat} {c1 : Int32} {c3 : Int32} {c4 : Int32} {L : ML} {R : MR} {S : MS} (hK : okm R S) : ∀ (n : Nat) (w2 : Int32) (w5 : Int32) (I : MI), Sim X yX11_wavesTo cX11_wavesTo 8 (some .int) 3 71 n0 s0 40 [(0, .ref (X.1 + 102)), (1, .int c1), (2, .int w2), (3, .int c3), (4, .int c4), (5, .int w5)] [] (I, L, R, S) (x11_wavesTo_L40 c1 c3 c4 n w2 w5 I) (fun b f => Ex X yX11_wavesTo cX11_wavesTo 8 (some .int) 3 71 n0 s0 131 [(2, .int b.1)] [] (b.2, L, R, S) f) := by
  intro n
  induction n with
  | zero =>
    intro w2 w5 I
    exact sm_none
  | succ n ih =>
    intro w2 w5 I
    change Sim _ _ _ _ _ _ _ _ _ _ _ _ _ (x11_wavesTo_L40s c1 c3 c4 (x11_wavesTo_L40 c1 c3 c4 n) w2 w5 I) _
    unfold x11_wavesTo_L40s
    refine s_iload 5 dX11_wavesTo_40 rfl rfl ?_
    refine s_iload_n 3 dX11_wavesTo_42 rfl rfl ?_
    refine s_icmp_ge (tgt := 131) dX11_wavesTo_43 rfl rfl (fun _ => ?_) (fun _ => ?_)
    · skip
      refine s_pick [2] rfl ?_
      exact sm_exit (fun f h => h)
    · skip
      refine s_iconst (v := 0) dX11_wavesTo_46 rfl cI_0 ?_
      refine s_istoreL (fun v7 => [(6, .int v7), (0, .ref (X.1 + 102)), (1, .int c1), (2, .int w2), (3, .int c3), (4, .int c4), (5, .int w5)]) dX11_wavesTo_47 rfl (by decide) (fun _ => rfl) (fun v7 => ?_)
      refine s_pick [1, 2, 3, 4, 5, 6, 0] rfl ?_
      refine sm_reg (x11_wavesTo_L49_ok hK FU w2 v7 I) (fun e18 => ?_)
      refine s_iincL 5 (c := 1) (fun v19 => [(5, .int v19), (0, .ref (X.1 + 102)), (1, .int c1), (2, .int e18.1), (3, .int c3), (4, .int c4)]) dX11_wavesTo_125 rfl rfl cI_1 (by decide) (fun _ => rfl) (fun v19 => ?_)
      refine s_goto (tgt := 40) dX11_wavesTo_128 rfl ?_
      refine s_pick [1, 2, 3, 4, 5, 0] rfl ?_
      exact ih e18.1 v19 e18.2
theorem ct_x11_wavesTo {X : WX} {p1 : Int32} {I : MI} {L : ML} {R : MR} {S : MS} (hK : okm R S) : Ct X yX11_wavesTo cX11_wavesTo 8 (some .int) 3 71 [.ref (X.1 + 102), .int p1] (I, L, R, S) (x11_wavesTo p1 I) (fun r => (some (.int r.1), (r.2, L, R, S))) := by
  refine Ct.of (by decide) (Nat.le_of_ble_eq_true rfl) [(0, .ref (X.1 + 102)), (1, .int p1)] rfl ?_
  unfold x11_wavesTo
  refine s_iconst (v := 0) dX11_wavesTo_0 rfl cI_0 ?_
  refine s_istore_nL (fun v1 => [(2, .int v1), (0, .ref (X.1 + 102)), (1, .int p1)]) dX11_wavesTo_1 rfl (by decide) (fun _ => rfl) (fun v1 => ?_)
  refine s_iload_n 2 dX11_wavesTo_2 rfl rfl ?_
  refine s_iconst (v := 2) dX11_wavesTo_3 rfl cI_2 ?_
  refine sm_reg (pcx := 18) (lsx := fun e2 => [(0, .ref (X.1 + 102)), (1, .int p1), (2, .int v1)]) (stx := fun e2 => [.int e2]) (ux := fun e2 => (I, L, R, S)) ?_ (fun e2 => ?_)
  · skip
    refine s_icmp_ge (tgt := 14) dX11_wavesTo_4 rfl rfl (fun _ => ?_) (fun _ => ?_)
    · skip
      refine s_aload_n 1 dX11_wavesTo_14 rfl rfl ?_
      refine s_getI dX11_wavesTo_15 rfl fl_11_458 (S_102 hK) ?_
      refine s_pick [1, 2, 0] rfl ?_
      exact sm_exit (fun f h => h)
    · skip
      refine s_aload_n 1 dX11_wavesTo_7 rfl rfl ?_
      refine s_getI dX11_wavesTo_8 rfl fl_11_455 (S_102 hK) ?_
      refine s_goto (tgt := 18) dX11_wavesTo_11 rfl ?_
      refine s_pick [1, 2, 0] rfl ?_
      exact sm_exit (fun f h => h)
  · skip
    refine s_istore_nL (fun v3 => [(3, .int v3), (0, .ref (X.1 + 102)), (1, .int p1), (2, .int v1)]) dX11_wavesTo_18 rfl (by decide) (fun _ => rfl) (fun v3 => ?_)
    refine s_iload_n 2 dX11_wavesTo_19 rfl rfl ?_
    refine s_iconst (v := 2) dX11_wavesTo_20 rfl cI_2 ?_
    refine sm_reg (pcx := 35) (lsx := fun e4 => [(0, .ref (X.1 + 102)), (1, .int p1), (2, .int v1), (3, .int v3)]) (stx := fun e4 => [.int e4]) (ux := fun e4 => (I, L, R, S)) ?_ (fun e4 => ?_)
    · skip
      refine s_icmp_ge (tgt := 31) dX11_wavesTo_21 rfl rfl (fun _ => ?_) (fun _ => ?_)
      · skip
        refine s_aload_n 1 dX11_wavesTo_31 rfl rfl ?_
        refine s_getI dX11_wavesTo_32 rfl fl_11_455 (S_102 hK) ?_
        refine s_pick [1, 2, 3, 0] rfl ?_
        exact sm_exit (fun f h => h)
      · skip
        refine s_aload_n 1 dX11_wavesTo_24 rfl rfl ?_
        refine s_getI dX11_wavesTo_25 rfl fl_11_458 (S_102 hK) ?_
        refine s_goto (tgt := 35) dX11_wavesTo_28 rfl ?_
        refine s_pick [1, 2, 3, 0] rfl ?_
        exact sm_exit (fun f h => h)
    · skip
      refine s_istoreL (fun v5 => [(4, .int v5), (0, .ref (X.1 + 102)), (1, .int p1), (2, .int v1), (3, .int v3)]) dX11_wavesTo_35 rfl (by decide) (fun _ => rfl) (fun v5 => ?_)
      refine s_iconst (v := 0) dX11_wavesTo_37 rfl cI_0 ?_
      refine s_istoreL (fun v6 => [(5, .int v6), (4, .int v5), (0, .ref (X.1 + 102)), (1, .int p1), (2, .int v1), (3, .int v3)]) dX11_wavesTo_38 rfl (by decide) (fun _ => rfl) (fun v6 => ?_)
      refine s_pick [2, 3, 4, 5, 1, 0] rfl ?_
      refine sm_reg (x11_wavesTo_L40_ok hK FU v1 v6 I) (fun e20 => ?_)
      refine s_iload_n 0 dX11_wavesTo_131 rfl rfl ?_
      exact s_iret dX11_wavesTo_132 rfl (fun f h => h)
