noncomputable def x1_far (q1 : Nat) (p2 : Int32) (p3 : Int32) (I : MI) : Option (Int32) :=
ck (vp_in p3 10) <|
ck (vp_in p2 4) <|
lt (if 0 ≤ ((I (q1 + 1) (ix p3)) - (I (q1 + 6) (ix p2))) then ((I (q1 + 1) (ix p3)) - (I (q1 + 6) (ix p2))) else 0 - ((I (q1 + 1) (ix p3)) - (I (q1 + 6) (ix p2)))) fun v3 =>
ck (vp_in p3 10) <|
ck (vp_in p2 4) <|
lt (if 0 ≤ ((I (q1 + 2) (ix p3)) - (I (q1 + 7) (ix p2))) then ((I (q1 + 2) (ix p3)) - (I (q1 + 7) (ix p2))) else 0 - ((I (q1 + 2) (ix p3)) - (I (q1 + 7) (ix p2)))) fun v6 =>
some (if v3 < v6 then v6 else v3)
theorem ct_x1_far {X : WX} {q1 : Nat} {p2 : Int32} {p3 : Int32} {I : MI} {L : ML} {R : MR} {S : MS} (hK : okr R S) (hq1 : isSt R S q1) : Ct X yX1_far cX1_far 6 (some .int) 1 25 [.ref (X.1 + 27), .ref (X.1 + q1), .int p2, .int p3] (I, L, R, S) (x1_far q1 p2 p3 I) (fun r => (some (.int r), (I, L, R, S))) := by
  refine Ct.of (by decide) (Nat.le_of_ble_eq_true rfl) [(0, .ref (X.1 + 27)), (1, .ref (X.1 + q1)), (2, .int p2), (3, .int p3)] rfl ?_
  unfold x1_far
  refine s_aload_n 1 dX1_far_0 rfl rfl ?_
  refine s_getR (q1 + 1) dX1_far_1 rfl fl_1_21 rfl (qS_0 hq1) (qR_0 hq1) ?_
  refine s_iload_n 3 dX1_far_4 rfl rfl ?_
  refine sm_ck (fun g1 => ?_)
  refine s_iald dX1_far_5 rfl (qS_1 hq1) g1 ?_
  refine s_aload_n 1 dX1_far_6 rfl rfl ?_
  refine s_getR (q1 + 6) dX1_far_7 rfl fl_1_26 rfl (qS_0 hq1) (qR_5 hq1) ?_
  refine s_iload_n 2 dX1_far_10 rfl rfl ?_
  refine sm_ck (fun g2 => ?_)
  refine s_iald dX1_far_11 rfl (qS_6 hq1) g2 ?_
  refine s_isub dX1_far_12 rfl ?_
  refine s_mabs dX1_far_13 rfl lkw_1_29 lk_mabs (Nat.le_of_ble_eq_true rfl) (Nat.le_of_ble_eq_true rfl) (Nat.le_of_ble_eq_true rfl) ?_
  refine s_istoreL (fun v3 => [(4, .int v3), (0, .ref (X.1 + 27)), (1, .ref (X.1 + q1)), (2, .int p2), (3, .int p3)]) dX1_far_16 rfl (by decide) (fun _ => rfl) (fun v3 => ?_)
  refine s_aload_n 2 dX1_far_18 rfl rfl ?_
  refine s_getR (q1 + 2) dX1_far_19 rfl fl_1_35 rfl (qS_0 hq1) (qR_1 hq1) ?_
  refine s_iload_n 4 dX1_far_22 rfl rfl ?_
  refine sm_ck (fun g4 => ?_)
  refine s_iald dX1_far_23 rfl (qS_2 hq1) g4 ?_
  refine s_aload_n 2 dX1_far_24 rfl rfl ?_
  refine s_getR (q1 + 7) dX1_far_25 rfl fl_1_38 rfl (qS_0 hq1) (qR_6 hq1) ?_
  refine s_iload_n 3 dX1_far_28 rfl rfl ?_
  refine sm_ck (fun g5 => ?_)
  refine s_iald dX1_far_29 rfl (qS_7 hq1) g5 ?_
  refine s_isub dX1_far_30 rfl ?_
  refine s_mabs dX1_far_31 rfl lkw_1_29 lk_mabs (Nat.le_of_ble_eq_true rfl) (Nat.le_of_ble_eq_true rfl) (Nat.le_of_ble_eq_true rfl) ?_
  refine s_istoreL (fun v6 => [(5, .int v6), (4, .int v3), (0, .ref (X.1 + 27)), (1, .ref (X.1 + q1)), (2, .int p2), (3, .int p3)]) dX1_far_34 rfl (by decide) (fun _ => rfl) (fun v6 => ?_)
  refine s_iload 1 dX1_far_36 rfl rfl ?_
  refine s_iload 0 dX1_far_38 rfl rfl ?_
  refine s_mmax dX1_far_40 rfl lkw_1_41 lk_mmax (Nat.le_of_ble_eq_true rfl) (Nat.le_of_ble_eq_true rfl) (Nat.le_of_ble_eq_true rfl) ?_
  exact s_iret dX1_far_43 rfl (fun f h => h)
noncomputable def x1_reaches (t : Nat) (q1 : Nat) (p2 : Int32) (p3 : Int32) (I : MI) : Option (Int32) :=
ck (vp_in p3 10) <|
if (I (q1 + 3) (ix p3)) = (-1) then (
b1 (x1_far q1 p2 p3 I) fun r2 =>
ck (vp_in p2 4) <|
if (I (t + 9) (ix p2)) < r2 then (
some (0 : Int32)) else
some (1 : Int32)) else
some (0 : Int32)
theorem ct_x1_reaches {X : WX} {t : Nat} {q1 : Nat} {p2 : Int32} {p3 : Int32} {I : MI} {L : ML} {R : MR} {S : MS} (hK : okr R S) (ht : R 27 0 = some t ∧ isT t) (hq1 : isSt R S q1) : Ct X yX1_reaches cX1_reaches 4 (some .boolean) 2 50 [.ref (X.1 + 27), .ref (X.1 + q1), .int p2, .int p3] (I, L, R, S) (x1_reaches t q1 p2 p3 I) (fun r => (some (.int r), (I, L, R, S))) := by
  refine Ct.of (by decide) (Nat.le_of_ble_eq_true rfl) [(0, .ref (X.1 + 27)), (1, .ref (X.1 + q1)), (2, .int p2), (3, .int p3)] rfl ?_
  unfold x1_reaches
  refine s_aload_n 1 dX1_reaches_0 rfl rfl ?_
  refine s_getR (q1 + 3) dX1_reaches_1 rfl fl_1_51 rfl (qS_0 hq1) (qR_2 hq1) ?_
  refine s_iload_n 3 dX1_reaches_4 rfl rfl ?_
  refine sm_ck (fun g1 => ?_)
  refine s_iald dX1_reaches_5 rfl (qS_3 hq1) g1 ?_
  refine s_iconst (v := (-1)) dX1_reaches_6 rfl cI_m1 ?_
  refine s_icmp_ne (tgt := 33) dX1_reaches_7 rfl rfl (fun _ => ?_) (fun _ => ?_)
  · skip
    refine s_iconst (v := 0) dX1_reaches_33 rfl cI_0 ?_
    exact s_zret dX1_reaches_34 rfl (Or.inl rfl) (fun f h => h)
  · skip
    refine s_aload_n 0 dX1_reaches_10 rfl rfl ?_
    refine s_aload_n 1 dX1_reaches_11 rfl rfl ?_
    refine s_iload_n 2 dX1_reaches_12 rfl rfl ?_
    refine s_iload_n 3 dX1_reaches_13 rfl rfl ?_
    refine s_callV3_i0 dX1_reaches_14 rfl lkV_RX1_65 (S_27 hK) (Nat.le_of_ble_eq_true rfl) (Nat.le_of_ble_eq_true rfl) (Nat.le_of_ble_eq_true rfl) (ct_x1_far hK hq1) (fun r2 => ?_)
    refine s_aload_n 0 dX1_reaches_17 rfl rfl ?_
    refine s_getR t dX1_reaches_18 rfl fl_1_17 rfl (S_27 hK) ht.1 ?_
    refine s_getR (t + 9) dX1_reaches_21 rfl fl_1_69 rfl (tS_0 hK ht.2) (tR_0_14 hK ht.2) ?_
    refine s_iload_n 2 dX1_reaches_24 rfl rfl ?_
    refine sm_ck (fun g3 => ?_)
    refine s_iald dX1_reaches_25 rfl (tS_9 hK ht.2) g3 ?_
    refine s_icmp_gt (tgt := 33) dX1_reaches_26 rfl rfl (fun _ => ?_) (fun _ => ?_)
    · skip
      refine s_iconst (v := 0) dX1_reaches_33 rfl cI_0 ?_
      exact s_zret dX1_reaches_34 rfl (Or.inl rfl) (fun f h => h)
    · skip
      refine s_iconst (v := 1) dX1_reaches_29 rfl cI_1 ?_
      refine s_goto (tgt := 34) dX1_reaches_30 rfl ?_
      exact s_zret dX1_reaches_34 rfl (Or.inr rfl) (fun f h => h)
noncomputable def x8_isRim (t0 : Nat) (p1 : Int32) (p2 : Int32) (I : MI) : Option (Int32) :=
if p1 = 0 then (
some (1 : Int32)) else
if p1 = ((I t0 0) - 1) then (
some (1 : Int32)) else
if p2 = 0 then (
some (1 : Int32)) else
if p2 = ((I t0 1) - 1) then (
some (1 : Int32)) else
some (0 : Int32)
theorem ct_x8_isRim {X : WX} {t0 : Nat} {p1 : Int32} {p2 : Int32} {I : MI} {L : ML} {R : MR} {S : MS} (hK : okr R S) (ht0 : isT t0) : Ct X yX8_isRim cX8_isRim 3 (some .boolean) 0 0 [.ref (X.1 + t0), .int p1, .int p2] (I, L, R, S) (x8_isRim t0 p1 p2 I) (fun r => (some (.int r), (I, L, R, S))) := by
  refine Ct.of (by decide) (Nat.le_of_ble_eq_true rfl) [(0, .ref (X.1 + t0)), (1, .int p1), (2, .int p2)] rfl ?_
  unfold x8_isRim
  refine s_iload_n 1 dX8_isRim_0 rfl rfl ?_
  refine s_if_eq (tgt := 28) dX8_isRim_1 rfl rfl (fun _ => ?_) (fun _ => ?_)
  · skip
    refine s_iconst (v := 1) dX8_isRim_28 rfl cI_1 ?_
    refine s_goto (tgt := 33) dX8_isRim_29 rfl ?_
    exact s_zret dX8_isRim_33 rfl (Or.inr rfl) (fun f h => h)
  · skip
    refine s_iload_n 1 dX8_isRim_4 rfl rfl ?_
    refine s_aload_n 0 dX8_isRim_5 rfl rfl ?_
    refine s_getI dX8_isRim_6 rfl fl_8_58 (tS_0 hK ht0) ?_
    refine s_iconst (v := 1) dX8_isRim_9 rfl cI_1 ?_
    refine s_isub dX8_isRim_10 rfl ?_
    refine s_icmp_eq (tgt := 28) dX8_isRim_11 rfl rfl (fun _ => ?_) (fun _ => ?_)
    · skip
      refine s_iconst (v := 1) dX8_isRim_28 rfl cI_1 ?_
      refine s_goto (tgt := 33) dX8_isRim_29 rfl ?_
      exact s_zret dX8_isRim_33 rfl (Or.inr rfl) (fun f h => h)
    · skip
      refine s_iload_n 2 dX8_isRim_14 rfl rfl ?_
      refine s_if_eq (tgt := 28) dX8_isRim_15 rfl rfl (fun _ => ?_) (fun _ => ?_)
      · skip
        refine s_iconst (v := 1) dX8_isRim_28 rfl cI_1 ?_
        refine s_goto (tgt := 33) dX8_isRim_29 rfl ?_
        exact s_zret dX8_isRim_33 rfl (Or.inr rfl) (fun f h => h)
      · skip
        refine s_iload_n 2 dX8_isRim_18 rfl rfl ?_
        refine s_aload_n 0 dX8_isRim_19 rfl rfl ?_
        refine s_getI dX8_isRim_20 rfl fl_8_62 (tS_0 hK ht0) ?_
        refine s_iconst (v := 1) dX8_isRim_23 rfl cI_1 ?_
        refine s_isub dX8_isRim_24 rfl ?_
        refine s_icmp_ne (tgt := 32) dX8_isRim_25 rfl rfl (fun _ => ?_) (fun _ => ?_)
        · skip
          refine s_iconst (v := 0) dX8_isRim_32 rfl cI_0 ?_
          exact s_zret dX8_isRim_33 rfl (Or.inl rfl) (fun f h => h)
        · skip
          refine s_iconst (v := 1) dX8_isRim_28 rfl cI_1 ?_
          refine s_goto (tgt := 33) dX8_isRim_29 rfl ?_
          exact s_zret dX8_isRim_33 rfl (Or.inr rfl) (fun f h => h)
noncomputable def x1_aim (q1 : Nat) (p2 : Int32) (p3 : Int32) (I : MI) : Option (MI) :=
ck (vp_in p3 10) <|
ck (vp_in p2 4) <|
lt ((I (q1 + 1) (ix p3)) - (I (q1 + 6) (ix p2))) fun v3 =>
ck (vp_in p3 10) <|
ck (vp_in p2 4) <|
lt ((I (q1 + 2) (ix p3)) - (I (q1 + 7) (ix p2))) fun v6 =>
b1 (
if (if 0 ≤ v3 then v3 else 0 - v3) < (if 0 ≤ v6 then v6 else 0 - v6) then (
some (0 : Int32)) else
some (1 : Int32)) fun e7 =>
lt e7 fun v8 =>
b1 (
if v8 = 0 then (
some (0 : Int32)) else
b1 (j6_signum_0f7a4 v3 I) fun r10 =>
some r10) fun e9 =>
lt (wI I 27 2 e9) fun I11 =>
if v8 = 0 then (
b1 (j6_signum_0f7a4 v6 I11) fun r12 =>
lt (wI I11 27 3 r12) fun I13 =>
some I13) else
lt (wI I11 27 3 (0 : Int32)) fun I14 =>
some I14
theorem ct_x1_aim {X : WX} {q1 : Nat} {p2 : Int32} {p3 : Int32} {I : MI} {L : ML} {R : MR} {S : MS} (hK : okr R S) (hq1 : isSt R S q1) : Ct X yX1_aim cX1_aim 7 none 1 25 [.ref (X.1 + 27), .ref (X.1 + q1), .int p2, .int p3] (I, L, R, S) (x1_aim q1 p2 p3 I) (fun r => (none, (r, L, R, S))) := by
  refine Ct.of (by decide) (Nat.le_of_ble_eq_true rfl) [(0, .ref (X.1 + 27)), (1, .ref (X.1 + q1)), (2, .int p2), (3, .int p3)] rfl ?_
  unfold x1_aim
  refine s_aload_n 1 dX1_aim_0 rfl rfl ?_
  refine s_getR (q1 + 1) dX1_aim_1 rfl fl_1_21 rfl (qS_0 hq1) (qR_0 hq1) ?_
  refine s_iload_n 3 dX1_aim_4 rfl rfl ?_
  refine sm_ck (fun g1 => ?_)
  refine s_iald dX1_aim_5 rfl (qS_1 hq1) g1 ?_
  refine s_aload_n 1 dX1_aim_6 rfl rfl ?_
  refine s_getR (q1 + 6) dX1_aim_7 rfl fl_1_26 rfl (qS_0 hq1) (qR_5 hq1) ?_
  refine s_iload_n 2 dX1_aim_10 rfl rfl ?_
  refine sm_ck (fun g2 => ?_)
  refine s_iald dX1_aim_11 rfl (qS_6 hq1) g2 ?_
  refine s_isub dX1_aim_12 rfl ?_
  refine s_istoreL (fun v3 => [(4, .int v3), (0, .ref (X.1 + 27)), (1, .ref (X.1 + q1)), (2, .int p2), (3, .int p3)]) dX1_aim_13 rfl (by decide) (fun _ => rfl) (fun v3 => ?_)
  refine s_aload_n 2 dX1_aim_15 rfl rfl ?_
  refine s_getR (q1 + 2) dX1_aim_16 rfl fl_1_35 rfl (qS_0 hq1) (qR_1 hq1) ?_
  refine s_iload_n 4 dX1_aim_19 rfl rfl ?_
  refine sm_ck (fun g4 => ?_)
  refine s_iald dX1_aim_20 rfl (qS_2 hq1) g4 ?_
  refine s_aload_n 2 dX1_aim_21 rfl rfl ?_
  refine s_getR (q1 + 7) dX1_aim_22 rfl fl_1_38 rfl (qS_0 hq1) (qR_6 hq1) ?_
  refine s_iload_n 3 dX1_aim_25 rfl rfl ?_
  refine sm_ck (fun g5 => ?_)
  refine s_iald dX1_aim_26 rfl (qS_7 hq1) g5 ?_
  refine s_isub dX1_aim_27 rfl ?_
  refine s_istoreL (fun v6 => [(5, .int v6), (4, .int v3), (0, .ref (X.1 + 27)), (1, .ref (X.1 + q1)), (2, .int p2), (3, .int p3)]) dX1_aim_28 rfl (by decide) (fun _ => rfl) (fun v6 => ?_)
  refine s_iload 1 dX1_aim_30 rfl rfl ?_
  refine s_mabs dX1_aim_32 rfl lkw_1_29 lk_mabs (Nat.le_of_ble_eq_true rfl) (Nat.le_of_ble_eq_true rfl) (Nat.le_of_ble_eq_true rfl) ?_
  refine s_iload 0 dX1_aim_35 rfl rfl ?_
  refine s_mabs dX1_aim_37 rfl lkw_1_29 lk_mabs (Nat.le_of_ble_eq_true rfl) (Nat.le_of_ble_eq_true rfl) (Nat.le_of_ble_eq_true rfl) ?_
  refine sm_reg (pcx := 48) (lsx := fun e7 => [(0, .ref (X.1 + 27)), (4, .int v3), (5, .int v6)]) (stx := fun e7 => [.int e7]) (ux := fun e7 => (I, L, R, S)) ?_ (fun e7 => ?_)
  · skip
    refine s_icmp_lt (tgt := 47) dX1_aim_40 rfl rfl (fun _ => ?_) (fun _ => ?_)
    · skip
      refine s_iconst (v := 0) dX1_aim_47 rfl cI_0 ?_
      refine s_pick [2, 1, 0] rfl ?_
      exact sm_exit (fun f h => h)
    · skip
      refine s_iconst (v := 1) dX1_aim_43 rfl cI_1 ?_
      refine s_goto (tgt := 48) dX1_aim_44 rfl ?_
      refine s_pick [2, 1, 0] rfl ?_
      exact sm_exit (fun f h => h)
  · skip
    refine s_istoreL (fun v8 => [(6, .int v8), (0, .ref (X.1 + 27)), (4, .int v3), (5, .int v6)]) dX1_aim_48 rfl (by decide) (fun _ => rfl) (fun v8 => ?_)
    refine s_aload_n 1 dX1_aim_50 rfl rfl ?_
    refine s_iload 0 dX1_aim_51 rfl rfl ?_
    refine sm_reg (pcx := 65) (lsx := fun e9 => [(0, .ref (X.1 + 27)), (5, .int v6), (6, .int v8)]) (stx := fun e9 => [.int e9, .ref (X.1 + 27)]) (ux := fun e9 => (I, L, R, S)) ?_ (fun e9 => ?_)
    · skip
      refine s_if_eq (tgt := 64) dX1_aim_53 rfl rfl (fun _ => ?_) (fun _ => ?_)
      · skip
        refine s_iconst (v := 0) dX1_aim_64 rfl cI_0 ?_
        refine s_pick [1, 3, 0] rfl ?_
        exact sm_exit (fun f h => h)
      · skip
        refine s_iload 2 dX1_aim_56 rfl rfl ?_
        refine s_callS1_i0 dX1_aim_58 rfl lkS_RX1_54 (Nat.le_of_ble_eq_true rfl) (Nat.le_of_ble_eq_true rfl) (Nat.le_of_ble_eq_true rfl) ct_j6_signum_0f7a4 (fun r10 => ?_)
        refine s_goto (tgt := 65) dX1_aim_61 rfl ?_
        refine s_pick [1, 3, 0] rfl ?_
        exact sm_exit (fun f h => h)
    · skip
      refine s_putIL dX1_aim_65 rfl fl_1_59 (S_27 hK) (fun I11 => ?_)
      refine s_aload_n 0 dX1_aim_68 rfl rfl ?_
      refine s_iload 2 dX1_aim_69 rfl rfl ?_
      refine s_if_eq (tgt := 78) dX1_aim_71 rfl rfl (fun _ => ?_) (fun _ => ?_)
      · skip
        refine s_iload 1 dX1_aim_78 rfl rfl ?_
        refine s_callS1_i0 dX1_aim_80 rfl lkS_RX1_54 (Nat.le_of_ble_eq_true rfl) (Nat.le_of_ble_eq_true rfl) (Nat.le_of_ble_eq_true rfl) ct_j6_signum_0f7a4 (fun r12 => ?_)
        refine s_putIL dX1_aim_83 rfl fl_1_62 (S_27 hK) (fun I13 => ?_)
        exact s_vret dX1_aim_86 rfl (fun f h => h)
      · skip
        refine s_iconst (v := 0) dX1_aim_74 rfl cI_0 ?_
        refine s_goto (tgt := 83) dX1_aim_75 rfl ?_
        refine s_putIL dX1_aim_83 rfl fl_1_62 (S_27 hK) (fun I14 => ?_)
        exact s_vret dX1_aim_86 rfl (fun f h => h)
noncomputable def x1_appleIn_L3s (t : Nat) (q1 : Nat) (c2 : Int32) (c3 : Int32) (I : MI) (rec : Int32 → Option ((Unit) ⊕ (Int32))) (w4 : Int32) : Option ((Unit) ⊕ (Int32)) :=
if w4 < (I t 4) then (
ck (vp_in w4 10) <|
if (I (q1 + 3) (ix w4)) = (-1) then (
ck (vp_in w4 10) <|
if (I (q1 + 1) (ix w4)) = c2 then (
ck (vp_in w4 10) <|
if (I (q1 + 2) (ix w4)) = c3 then (
some (.inr w4)) else
lt (w4 + 1) fun v7 =>
rec v7) else
lt (w4 + 1) fun v5 =>
rec v5) else
lt (w4 + 1) fun v3 =>
rec v3) else
some (.inl ())
noncomputable def x1_appleIn_L3 (t : Nat) (q1 : Nat) (c2 : Int32) (c3 : Int32) (I : MI) : Nat → Int32 → Option ((Unit) ⊕ (Int32))
  | 0 => fun _ => none
  | n + 1 => x1_appleIn_L3s t q1 c2 c3 I (x1_appleIn_L3 t q1 c2 c3 I n)
noncomputable def x1_appleIn (t : Nat) (q1 : Nat) (p2 : Int32) (p3 : Int32) (I : MI) : Option (Int32) :=
lt (0 : Int32) fun v1 =>
bE (x1_appleIn_L3 t q1 p2 p3 I FU v1) fun e8 =>
some (-1 : Int32)
theorem x1_appleIn_L3_ok {X : WX} {n0 s0 : Nat} {t : Nat} {q1 : Nat} {c2 : Int32} {c3 : Int32} {I : MI} {L : ML} {R : MR} {S : MS} (hK : okr R S) (ht : R 27 0 = some t ∧ isT t) (hq1 : isSt R S q1) : ∀ (n : Nat) (w4 : Int32), Sim X yX1_appleIn cX1_appleIn 5 (some .int) 0 0 n0 s0 3 [(0, .ref (X.1 + 27)), (1, .ref (X.1 + q1)), (2, .int c2), (3, .int c3), (4, .int w4)] [] (I, L, R, S) (x1_appleIn_L3 t q1 c2 c3 I n w4) (SE (fun b f => Ex X yX1_appleIn cX1_appleIn 5 (some .int) 0 0 n0 s0 57 [] [] (I, L, R, S) f) (fun a f => f = (fun r => (some (.int r), (I, L, R, S))) a)) := by
  intro n
  induction n with
  | zero =>
    intro w4
    exact sm_none
  | succ n ih =>
    intro w4
    change Sim _ _ _ _ _ _ _ _ _ _ _ _ _ (x1_appleIn_L3s t q1 c2 c3 I (x1_appleIn_L3 t q1 c2 c3 I n) w4) _
    unfold x1_appleIn_L3s
    refine s_iload 4 dX1_appleIn_3 rfl rfl ?_
    refine s_aload_n 0 dX1_appleIn_5 rfl rfl ?_
    refine s_getR t dX1_appleIn_6 rfl fl_1_17 rfl (S_27 hK) ht.1 ?_
    refine s_getI dX1_appleIn_9 rfl fl_1_45 (tS_0 hK ht.2) ?_
    refine s_icmp_ge (tgt := 57) dX1_appleIn_12 rfl rfl (fun _ => ?_) (fun _ => ?_)
    · skip
      refine s_pick [] rfl ?_
      exact sm_exit (fun f h => h)
    · skip
      refine s_aload_n 1 dX1_appleIn_15 rfl rfl ?_
      refine s_getR (q1 + 3) dX1_appleIn_16 rfl fl_1_51 rfl (qS_0 hq1) (qR_2 hq1) ?_
      refine s_iload 4 dX1_appleIn_19 rfl rfl ?_
      refine sm_ck (fun g2 => ?_)
      refine s_iald dX1_appleIn_21 rfl (qS_3 hq1) g2 ?_
      refine s_iconst (v := (-1)) dX1_appleIn_22 rfl cI_m1 ?_
      refine s_icmp_ne (tgt := 51) dX1_appleIn_23 rfl rfl (fun _ => ?_) (fun _ => ?_)
      · skip
        refine s_iincL 4 (c := 1) (fun v3 => [(4, .int v3), (0, .ref (X.1 + 27)), (1, .ref (X.1 + q1)), (2, .int c2), (3, .int c3)]) dX1_appleIn_51 rfl rfl cI_1 (by decide) (fun _ => rfl) (fun v3 => ?_)
        refine s_goto (tgt := 3) dX1_appleIn_54 rfl ?_
        refine s_pick [1, 2, 3, 4, 0] rfl ?_
        exact ih v3
      · skip
        refine s_aload_n 1 dX1_appleIn_26 rfl rfl ?_
        refine s_getR (q1 + 1) dX1_appleIn_27 rfl fl_1_21 rfl (qS_0 hq1) (qR_0 hq1) ?_
        refine s_iload 4 dX1_appleIn_30 rfl rfl ?_
        refine sm_ck (fun g4 => ?_)
        refine s_iald dX1_appleIn_32 rfl (qS_1 hq1) g4 ?_
        refine s_iload_n 2 dX1_appleIn_33 rfl rfl ?_
        refine s_icmp_ne (tgt := 51) dX1_appleIn_34 rfl rfl (fun _ => ?_) (fun _ => ?_)
        · skip
          refine s_iincL 4 (c := 1) (fun v5 => [(4, .int v5), (0, .ref (X.1 + 27)), (1, .ref (X.1 + q1)), (2, .int c2), (3, .int c3)]) dX1_appleIn_51 rfl rfl cI_1 (by decide) (fun _ => rfl) (fun v5 => ?_)
          refine s_goto (tgt := 3) dX1_appleIn_54 rfl ?_
          refine s_pick [1, 2, 3, 4, 0] rfl ?_
          exact ih v5
        · skip
          refine s_aload_n 1 dX1_appleIn_37 rfl rfl ?_
          refine s_getR (q1 + 2) dX1_appleIn_38 rfl fl_1_35 rfl (qS_0 hq1) (qR_1 hq1) ?_
          refine s_iload 4 dX1_appleIn_41 rfl rfl ?_
          refine sm_ck (fun g6 => ?_)
          refine s_iald dX1_appleIn_43 rfl (qS_2 hq1) g6 ?_
          refine s_iload_n 3 dX1_appleIn_44 rfl rfl ?_
          refine s_icmp_ne (tgt := 51) dX1_appleIn_45 rfl rfl (fun _ => ?_) (fun _ => ?_)
          · skip
            refine s_iincL 4 (c := 1) (fun v7 => [(4, .int v7), (0, .ref (X.1 + 27)), (1, .ref (X.1 + q1)), (2, .int c2), (3, .int c3)]) dX1_appleIn_51 rfl rfl cI_1 (by decide) (fun _ => rfl) (fun v7 => ?_)
            refine s_goto (tgt := 3) dX1_appleIn_54 rfl ?_
            refine s_pick [1, 2, 3, 4, 0] rfl ?_
            exact ih v7
          · skip
            refine s_iload 4 dX1_appleIn_48 rfl rfl ?_
            exact s_iret dX1_appleIn_50 rfl (fun f h => h)
theorem ct_x1_appleIn {X : WX} {t : Nat} {q1 : Nat} {p2 : Int32} {p3 : Int32} {I : MI} {L : ML} {R : MR} {S : MS} (hK : okr R S) (ht : R 27 0 = some t ∧ isT t) (hq1 : isSt R S q1) : Ct X yX1_appleIn cX1_appleIn 5 (some .int) 0 0 [.ref (X.1 + 27), .ref (X.1 + q1), .int p2, .int p3] (I, L, R, S) (x1_appleIn t q1 p2 p3 I) (fun r => (some (.int r), (I, L, R, S))) := by
  refine Ct.of (by decide) (Nat.le_of_ble_eq_true rfl) [(0, .ref (X.1 + 27)), (1, .ref (X.1 + q1)), (2, .int p2), (3, .int p3)] rfl ?_
  unfold x1_appleIn
  refine s_iconst (v := 0) dX1_appleIn_0 rfl cI_0 ?_
  refine s_istoreL (fun v1 => [(4, .int v1), (0, .ref (X.1 + 27)), (1, .ref (X.1 + q1)), (2, .int p2), (3, .int p3)]) dX1_appleIn_1 rfl (by decide) (fun _ => rfl) (fun v1 => ?_)
  refine s_pick [1, 2, 3, 4, 0] rfl ?_
  refine sm_regE (x1_appleIn_L3_ok hK ht hq1 FU v1) (fun e8 => ?_)
  refine s_iconst (v := (-1)) dX1_appleIn_57 rfl cI_m1 ?_
  exact s_iret dX1_appleIn_58 rfl (fun f h => h)
noncomputable def x1_allows (t : Nat) (q1 : Nat) (p2 : Int32) (p3 : Int32) (p4 : Int32) (I : MI) : Option (Int32 × MI) :=
ck (vp_in p2 4) <|
ck (vp_in p4 5) <|
if (I (q1 + 8) (ix p2)) < (([0, 0, 1, 3, 0] : List Int32).getD (ix p4) 0) then (
some ((0 : Int32), I)) else
if p4 = 1 then (
ck (vp_in p3 10) <|
if (I (t + 5) (ix p3)) = 1 then (
some ((1 : Int32), I)) else
some ((0 : Int32), I)) else
if p4 = 2 then (
ck (vp_in p3 10) <|
ck (vp_in p3 10) <|
b1 (x8_isRim t (I (q1 + 1) (ix p3)) (I (q1 + 2) (ix p3)) I) fun r8 =>
ck (r8 = 0 ∨ r8 = 1) (some (r8, I))) else
if p4 = 3 then (
some ((1 : Int32), I)) else
if p4 = 4 then (
b1 (x1_aim q1 p2 p3 I) fun I12 =>
if (I12 27 2) = 0 then (
if (I12 27 3) = 0 then (
some ((0 : Int32), I12)) else
ck (vp_in p3 10) <|
ck (vp_in p3 10) <|
b1 (x1_appleIn t q1 ((I12 (q1 + 1) (ix p3)) + (I12 27 2)) ((I12 (q1 + 2) (ix p3)) + (I12 27 3)) I12) fun r18 =>
if r18 = (-1) then (
some ((0 : Int32), I12)) else
some ((1 : Int32), I12)) else
ck (vp_in p3 10) <|
ck (vp_in p3 10) <|
b1 (x1_appleIn t q1 ((I12 (q1 + 1) (ix p3)) + (I12 27 2)) ((I12 (q1 + 2) (ix p3)) + (I12 27 3)) I12) fun r15 =>
if r15 = (-1) then (
some ((0 : Int32), I12)) else
some ((1 : Int32), I12)) else
some ((1 : Int32), I)
theorem ct_x1_allows {X : WX} {t : Nat} {q1 : Nat} {p2 : Int32} {p3 : Int32} {p4 : Int32} {I : MI} {L : ML} {R : MR} {S : MS} (hK : okr R S) (ht : R 27 0 = some t ∧ isT t) (hq1 : isSt R S q1) : Ct X yX1_allows cX1_allows 5 (some .boolean) 2 51 [.ref (X.1 + 27), .ref (X.1 + q1), .int p2, .int p3, .int p4] (I, L, R, S) (x1_allows t q1 p2 p3 p4 I) (fun r => (some (.int r.1), (r.2, L, R, S))) := by
  refine Ct.of (by decide) (Nat.le_of_ble_eq_true rfl) [(0, .ref (X.1 + 27)), (1, .ref (X.1 + q1)), (2, .int p2), (3, .int p3), (4, .int p4)] rfl ?_
  unfold x1_allows
  refine s_aload_n 1 dX1_allows_0 rfl rfl ?_
  refine s_getR (q1 + 8) dX1_allows_1 rfl fl_1_72 rfl (qS_0 hq1) (qR_7 hq1) ?_
  refine s_iload_n 2 dX1_allows_4 rfl rfl ?_
  refine sm_ck (fun g1 => ?_)
  refine s_iald dX1_allows_5 rfl (qS_8 hq1) g1 ?_
  refine s_gets 1 3 dX1_allows_6 rfl rfl rfl ?_
  refine s_iload 4 dX1_allows_9 rfl rfl ?_
  refine sm_ck (fun g2 => ?_)
  refine s_tald 1 dX1_allows_11 rfl rfl g2 ?_
  refine s_icmp_ge (tgt := 17) dX1_allows_12 rfl rfl (fun _ => ?_) (fun _ => ?_)
  · skip
    refine s_iload 4 dX1_allows_17 rfl rfl ?_
    refine sm_ite (fun h3 => ?_) (fun h3 => ?_)
    · skip
      refine s_tin (tgt := 48) dX1_allows_19 (by rw [h3]; try decide) (by rw [h3]; try decide) (by rw [h3]; try rfl) rfl ?_
      refine s_aload_n 0 dX1_allows_48 rfl rfl ?_
      refine s_getR t dX1_allows_49 rfl fl_1_17 rfl (S_27 hK) ht.1 ?_
      refine s_getR (t + 5) dX1_allows_52 rfl fl_1_78 rfl (tS_0 hK ht.2) (tR_0_9 hK ht.2) ?_
      refine s_iload_n 3 dX1_allows_55 rfl rfl ?_
      refine sm_ck (fun g4 => ?_)
      refine s_iald dX1_allows_56 rfl (tS_5 hK ht.2) g4 ?_
      refine s_iconst (v := 1) dX1_allows_57 rfl cI_1 ?_
      refine s_icmp_ne (tgt := 65) dX1_allows_58 rfl rfl (fun _ => ?_) (fun _ => ?_)
      · skip
        refine s_iconst (v := 0) dX1_allows_65 rfl cI_0 ?_
        exact s_zret dX1_allows_66 rfl (Or.inl rfl) (fun f h => h)
      · skip
        refine s_iconst (v := 1) dX1_allows_61 rfl cI_1 ?_
        refine s_goto (tgt := 66) dX1_allows_62 rfl ?_
        exact s_zret dX1_allows_66 rfl (Or.inr rfl) (fun f h => h)
    refine sm_ite (fun h5 => ?_) (fun h5 => ?_)
    · skip
      refine s_tin (tgt := 67) dX1_allows_19 (by rw [h5]; try decide) (by rw [h5]; try decide) (by rw [h5]; try rfl) rfl ?_
      refine s_aload_n 0 dX1_allows_67 rfl rfl ?_
      refine s_getR t dX1_allows_68 rfl fl_1_17 rfl (S_27 hK) ht.1 ?_
      refine s_aload_n 1 dX1_allows_71 rfl rfl ?_
      refine s_getR (q1 + 1) dX1_allows_72 rfl fl_1_21 rfl (qS_0 hq1) (qR_0 hq1) ?_
      refine s_iload_n 3 dX1_allows_75 rfl rfl ?_
      refine sm_ck (fun g6 => ?_)
      refine s_iald dX1_allows_76 rfl (qS_1 hq1) g6 ?_
      refine s_aload_n 1 dX1_allows_77 rfl rfl ?_
      refine s_getR (q1 + 2) dX1_allows_78 rfl fl_1_35 rfl (qS_0 hq1) (qR_1 hq1) ?_
      refine s_iload_n 3 dX1_allows_81 rfl rfl ?_
      refine sm_ck (fun g7 => ?_)
      refine s_iald dX1_allows_82 rfl (qS_2 hq1) g7 ?_
      refine s_callV2_i0 dX1_allows_83 rfl lkV_RX1_81 (tS_0 hK ht.2) (Nat.le_of_ble_eq_true rfl) (Nat.le_of_ble_eq_true rfl) (Nat.le_of_ble_eq_true rfl) (ct_x8_isRim hK ht.2) (fun r8 => ?_)
      refine sm_ck (fun g9 => ?_)
      exact s_zret dX1_allows_86 rfl g9 (fun f h => h)
    refine sm_ite (fun h10 => ?_) (fun h10 => ?_)
    · skip
      refine s_tin (tgt := 145) dX1_allows_19 (by rw [h10]; try decide) (by rw [h10]; try decide) (by rw [h10]; try rfl) rfl ?_
      refine s_iconst (v := 1) dX1_allows_145 rfl cI_1 ?_
      exact s_zret dX1_allows_146 rfl (Or.inr rfl) (fun f h => h)
    refine sm_ite (fun h11 => ?_) (fun h11 => ?_)
    · skip
      refine s_tin (tgt := 87) dX1_allows_19 (by rw [h11]; try decide) (by rw [h11]; try decide) (by rw [h11]; try rfl) rfl ?_
      refine s_aload_n 0 dX1_allows_87 rfl rfl ?_
      refine s_aload_n 1 dX1_allows_88 rfl rfl ?_
      refine s_iload_n 2 dX1_allows_89 rfl rfl ?_
      refine s_iload_n 3 dX1_allows_90 rfl rfl ?_
      refine s_callV3_v1 dX1_allows_91 rfl lkV_RX1_85 (S_27 hK) (Nat.le_of_ble_eq_true rfl) (Nat.le_of_ble_eq_true rfl) (Nat.le_of_ble_eq_true rfl) (ct_x1_aim hK hq1) (fun I12 => ?_)
      refine s_aload_n 0 dX1_allows_94 rfl rfl ?_
      refine s_getI dX1_allows_95 rfl fl_1_59 (S_27 hK) ?_
      refine s_if_ne (tgt := 108) dX1_allows_98 rfl rfl (fun _ => ?_) (fun _ => ?_)
      · skip
        refine s_aload_n 0 dX1_allows_108 rfl rfl ?_
        refine s_aload_n 1 dX1_allows_109 rfl rfl ?_
        refine s_aload_n 1 dX1_allows_110 rfl rfl ?_
        refine s_getR (q1 + 1) dX1_allows_111 rfl fl_1_21 rfl (qS_0 hq1) (qR_0 hq1) ?_
        refine s_iload_n 3 dX1_allows_114 rfl rfl ?_
        refine sm_ck (fun g13 => ?_)
        refine s_iald dX1_allows_115 rfl (qS_1 hq1) g13 ?_
        refine s_aload_n 0 dX1_allows_116 rfl rfl ?_
        refine s_getI dX1_allows_117 rfl fl_1_59 (S_27 hK) ?_
        refine s_iadd dX1_allows_120 rfl ?_
        refine s_aload_n 1 dX1_allows_121 rfl rfl ?_
        refine s_getR (q1 + 2) dX1_allows_122 rfl fl_1_35 rfl (qS_0 hq1) (qR_1 hq1) ?_
        refine s_iload_n 3 dX1_allows_125 rfl rfl ?_
        refine sm_ck (fun g14 => ?_)
        refine s_iald dX1_allows_126 rfl (qS_2 hq1) g14 ?_
        refine s_aload_n 0 dX1_allows_127 rfl rfl ?_
        refine s_getI dX1_allows_128 rfl fl_1_62 (S_27 hK) ?_
        refine s_iadd dX1_allows_131 rfl ?_
        refine s_callV3_i0 dX1_allows_132 rfl lkV_RX1_89 (S_27 hK) (Nat.le_of_ble_eq_true rfl) (Nat.le_of_ble_eq_true rfl) (Nat.le_of_ble_eq_true rfl) (ct_x1_appleIn hK ht hq1) (fun r15 => ?_)
        refine s_iconst (v := (-1)) dX1_allows_135 rfl cI_m1 ?_
        refine s_icmp_eq (tgt := 143) dX1_allows_136 rfl rfl (fun _ => ?_) (fun _ => ?_)
        · skip
          refine s_iconst (v := 0) dX1_allows_143 rfl cI_0 ?_
          exact s_zret dX1_allows_144 rfl (Or.inl rfl) (fun f h => h)
        · skip
          refine s_iconst (v := 1) dX1_allows_139 rfl cI_1 ?_
          refine s_goto (tgt := 144) dX1_allows_140 rfl ?_
          exact s_zret dX1_allows_144 rfl (Or.inr rfl) (fun f h => h)
      · skip
        refine s_aload_n 0 dX1_allows_101 rfl rfl ?_
        refine s_getI dX1_allows_102 rfl fl_1_62 (S_27 hK) ?_
        refine s_if_eq (tgt := 143) dX1_allows_105 rfl rfl (fun _ => ?_) (fun _ => ?_)
        · skip
          refine s_iconst (v := 0) dX1_allows_143 rfl cI_0 ?_
          exact s_zret dX1_allows_144 rfl (Or.inl rfl) (fun f h => h)
        · skip
          refine s_aload_n 0 dX1_allows_108 rfl rfl ?_
          refine s_aload_n 1 dX1_allows_109 rfl rfl ?_
          refine s_aload_n 1 dX1_allows_110 rfl rfl ?_
          refine s_getR (q1 + 1) dX1_allows_111 rfl fl_1_21 rfl (qS_0 hq1) (qR_0 hq1) ?_
          refine s_iload_n 3 dX1_allows_114 rfl rfl ?_
          refine sm_ck (fun g16 => ?_)
          refine s_iald dX1_allows_115 rfl (qS_1 hq1) g16 ?_
          refine s_aload_n 0 dX1_allows_116 rfl rfl ?_
          refine s_getI dX1_allows_117 rfl fl_1_59 (S_27 hK) ?_
          refine s_iadd dX1_allows_120 rfl ?_
          refine s_aload_n 1 dX1_allows_121 rfl rfl ?_
          refine s_getR (q1 + 2) dX1_allows_122 rfl fl_1_35 rfl (qS_0 hq1) (qR_1 hq1) ?_
          refine s_iload_n 3 dX1_allows_125 rfl rfl ?_
          refine sm_ck (fun g17 => ?_)
          refine s_iald dX1_allows_126 rfl (qS_2 hq1) g17 ?_
          refine s_aload_n 0 dX1_allows_127 rfl rfl ?_
          refine s_getI dX1_allows_128 rfl fl_1_62 (S_27 hK) ?_
          refine s_iadd dX1_allows_131 rfl ?_
          refine s_callV3_i0 dX1_allows_132 rfl lkV_RX1_89 (S_27 hK) (Nat.le_of_ble_eq_true rfl) (Nat.le_of_ble_eq_true rfl) (Nat.le_of_ble_eq_true rfl) (ct_x1_appleIn hK ht hq1) (fun r18 => ?_)
          refine s_iconst (v := (-1)) dX1_allows_135 rfl cI_m1 ?_
          refine s_icmp_eq (tgt := 143) dX1_allows_136 rfl rfl (fun _ => ?_) (fun _ => ?_)
          · skip
            refine s_iconst (v := 0) dX1_allows_143 rfl cI_0 ?_
            exact s_zret dX1_allows_144 rfl (Or.inl rfl) (fun f h => h)
          · skip
            refine s_iconst (v := 1) dX1_allows_139 rfl cI_1 ?_
            refine s_goto (tgt := 144) dX1_allows_140 rfl ?_
            exact s_zret dX1_allows_144 rfl (Or.inr rfl) (fun f h => h)
    have hsw : ¬ (p4).toInt = 1 ∧ ¬ (p4).toInt = 2 ∧ ¬ (p4).toInt = 3 ∧ ¬ (p4).toInt = 4 := ⟨lv_neT h3 (a := 1) rfl, lv_neT h5 (a := 2) rfl, lv_neT h10 (a := 3) rfl, lv_neT h11 (a := 4) rfl⟩
    refine s_tout (tgt := 145) dX1_allows_19 (by omega) rfl ?_
    refine s_iconst (v := 1) dX1_allows_145 rfl cI_1 ?_
    exact s_zret dX1_allows_146 rfl (Or.inr rfl) (fun f h => h)
  · skip
    refine s_iconst (v := 0) dX1_allows_15 rfl cI_0 ?_
    exact s_zret dX1_allows_16 rfl (Or.inl rfl) (fun f h => h)
noncomputable def x1_canTry (t : Nat) (q1 : Nat) (p2 : Int32) (p3 : Int32) (p4 : Int32) (I : MI) : Option (Int32 × MI) :=
b1 (x1_reaches t q1 p2 p3 I) fun r1 =>
if r1 = 0 then (
some ((0 : Int32), I)) else
b2 (x1_allows t q1 p2 p3 p4 I) fun r2 I3 =>
if r2 = 0 then (
some ((0 : Int32), I3)) else
some ((1 : Int32), I3)
theorem ct_x1_canTry {X : WX} {t : Nat} {q1 : Nat} {p2 : Int32} {p3 : Int32} {p4 : Int32} {I : MI} {L : ML} {R : MR} {S : MS} (hK : okr R S) (ht : R 27 0 = some t ∧ isT t) (hq1 : isSt R S q1) : Ct X yX1_canTry cX1_canTry 5 (some .boolean) 3 75 [.ref (X.1 + 27), .ref (X.1 + q1), .int p2, .int p3, .int p4] (I, L, R, S) (x1_canTry t q1 p2 p3 p4 I) (fun r => (some (.int r.1), (r.2, L, R, S))) := by
  refine Ct.of (by decide) (Nat.le_of_ble_eq_true rfl) [(0, .ref (X.1 + 27)), (1, .ref (X.1 + q1)), (2, .int p2), (3, .int p3), (4, .int p4)] rfl ?_
  unfold x1_canTry
  refine s_aload_n 0 dX1_canTry_0 rfl rfl ?_
  refine s_aload_n 1 dX1_canTry_1 rfl rfl ?_
  refine s_iload_n 2 dX1_canTry_2 rfl rfl ?_
  refine s_iload_n 3 dX1_canTry_3 rfl rfl ?_
  refine s_callV3_i0 dX1_canTry_4 rfl lkV_RX1_92 (S_27 hK) (Nat.le_of_ble_eq_true rfl) (Nat.le_of_ble_eq_true rfl) (Nat.le_of_ble_eq_true rfl) (ct_x1_reaches hK ht hq1) (fun r1 => ?_)
  refine s_if_eq (tgt := 26) dX1_canTry_7 rfl rfl (fun _ => ?_) (fun _ => ?_)
  · skip
    refine s_iconst (v := 0) dX1_canTry_26 rfl cI_0 ?_
    exact s_zret dX1_canTry_27 rfl (Or.inl rfl) (fun f h => h)
  · skip
    refine s_aload_n 0 dX1_canTry_10 rfl rfl ?_
    refine s_aload_n 1 dX1_canTry_11 rfl rfl ?_
    refine s_iload_n 2 dX1_canTry_12 rfl rfl ?_
    refine s_iload_n 3 dX1_canTry_13 rfl rfl ?_
    refine s_iload 4 dX1_canTry_14 rfl rfl ?_
    refine s_callV4_i1 dX1_canTry_16 rfl lkV_RX1_96 (S_27 hK) (Nat.le_of_ble_eq_true rfl) (Nat.le_of_ble_eq_true rfl) (Nat.le_of_ble_eq_true rfl) (ct_x1_allows hK ht hq1) (fun r2 I3 => ?_)
    refine s_if_eq (tgt := 26) dX1_canTry_19 rfl rfl (fun _ => ?_) (fun _ => ?_)
    · skip
      refine s_iconst (v := 0) dX1_canTry_26 rfl cI_0 ?_
      exact s_zret dX1_canTry_27 rfl (Or.inl rfl) (fun f h => h)
    · skip
      refine s_iconst (v := 1) dX1_canTry_22 rfl cI_1 ?_
      refine s_goto (tgt := 27) dX1_canTry_23 rfl ?_
      exact s_zret dX1_canTry_27 rfl (Or.inr rfl) (fun f h => h)
noncomputable def x10_canTryNow (t : Nat) (p1 : Int32) (p2 : Int32) (p3 : Int32) (I : MI) : Option (Int32 × MI) :=
b1 (x10_isBobber t p1 I) fun r1 =>
if r1 = 0 then (
some ((0 : Int32), I)) else
b1 (x10_isApple t p2 I) fun r2 =>
if r2 = 0 then (
some ((0 : Int32), I)) else
b1 (x10_isKind p3 I) fun r3 =>
if r3 = 0 then (
some ((0 : Int32), I)) else
b2 (x1_canTry t 47 p1 p2 p3 I) fun r4 I5 =>
if r4 = 0 then (
some ((0 : Int32), I5)) else
some ((1 : Int32), I5)
theorem ct_x10_canTryNow {X : WX} {t : Nat} {p1 : Int32} {p2 : Int32} {p3 : Int32} {I : MI} {L : ML} {R : MR} {S : MS} (hK : okr R S) (ht : R 27 0 = some t ∧ isT t) : Ct X yX10_canTryNow cX10_canTryNow 4 (some .boolean) 4 99 [.ref (X.1 + 0), .int p1, .int p2, .int p3] (I, L, R, S) (x10_canTryNow t p1 p2 p3 I) (fun r => (some (.int r.1), (r.2, L, R, S))) := by
  refine Ct.of (by decide) (Nat.le_of_ble_eq_true rfl) [(0, .ref (X.1 + 0)), (1, .int p1), (2, .int p2), (3, .int p3)] rfl ?_
  unfold x10_canTryNow
  refine s_aload_n 0 dX10_canTryNow_0 rfl rfl ?_
  refine s_iload_n 1 dX10_canTryNow_1 rfl rfl ?_
  refine s_callV1_i0 dX10_canTryNow_2 rfl lkV_RX10_143 (S_0 hK) (Nat.le_of_ble_eq_true rfl) (Nat.le_of_ble_eq_true rfl) (Nat.le_of_ble_eq_true rfl) (ct_x10_isBobber hK ht) (fun r1 => ?_)
  refine s_if_eq (tgt := 44) dX10_canTryNow_5 rfl rfl (fun _ => ?_) (fun _ => ?_)
  · skip
    refine s_iconst (v := 0) dX10_canTryNow_44 rfl cI_0 ?_
    exact s_zret dX10_canTryNow_45 rfl (Or.inl rfl) (fun f h => h)
  · skip
    refine s_aload_n 0 dX10_canTryNow_8 rfl rfl ?_
    refine s_iload_n 2 dX10_canTryNow_9 rfl rfl ?_
    refine s_callV1_i0 dX10_canTryNow_10 rfl lkV_RX10_124 (S_0 hK) (Nat.le_of_ble_eq_true rfl) (Nat.le_of_ble_eq_true rfl) (Nat.le_of_ble_eq_true rfl) (ct_x10_isApple hK ht) (fun r2 => ?_)
    refine s_if_eq (tgt := 44) dX10_canTryNow_13 rfl rfl (fun _ => ?_) (fun _ => ?_)
    · skip
      refine s_iconst (v := 0) dX10_canTryNow_44 rfl cI_0 ?_
      exact s_zret dX10_canTryNow_45 rfl (Or.inl rfl) (fun f h => h)
    · skip
      refine s_iload_n 3 dX10_canTryNow_16 rfl rfl ?_
      refine s_callS1_i0 dX10_canTryNow_17 rfl lkS_RX10_230 (Nat.le_of_ble_eq_true rfl) (Nat.le_of_ble_eq_true rfl) (Nat.le_of_ble_eq_true rfl) (ct_x10_isKind hK) (fun r3 => ?_)
      refine s_if_eq (tgt := 44) dX10_canTryNow_20 rfl rfl (fun _ => ?_) (fun _ => ?_)
      · skip
        refine s_iconst (v := 0) dX10_canTryNow_44 rfl cI_0 ?_
        exact s_zret dX10_canTryNow_45 rfl (Or.inl rfl) (fun f h => h)
      · skip
        refine s_aload_n 0 dX10_canTryNow_23 rfl rfl ?_
        refine s_getR 27 dX10_canTryNow_24 rfl fl_10_32 rfl (S_0 hK) (R_0_4 hK) ?_
        refine s_aload_n 0 dX10_canTryNow_27 rfl rfl ?_
        refine s_getR 47 dX10_canTryNow_28 rfl fl_10_39 rfl (S_0 hK) (R_0_5 hK) ?_
        refine s_iload_n 1 dX10_canTryNow_31 rfl rfl ?_
        refine s_iload_n 2 dX10_canTryNow_32 rfl rfl ?_
        refine s_iload_n 3 dX10_canTryNow_33 rfl rfl ?_
        refine s_callV4_i1 dX10_canTryNow_34 rfl lkV_RX10_240 (S_27 hK) (Nat.le_of_ble_eq_true rfl) (Nat.le_of_ble_eq_true rfl) (Nat.le_of_ble_eq_true rfl) (ct_x1_canTry hK ht (st_47 hK)) (fun r4 I5 => ?_)
        refine s_if_eq (tgt := 44) dX10_canTryNow_37 rfl rfl (fun _ => ?_) (fun _ => ?_)
        · skip
          refine s_iconst (v := 0) dX10_canTryNow_44 rfl cI_0 ?_
          exact s_zret dX10_canTryNow_45 rfl (Or.inl rfl) (fun f h => h)
        · skip
          refine s_iconst (v := 1) dX10_canTryNow_40 rfl cI_1 ?_
          refine s_goto (tgt := 45) dX10_canTryNow_41 rfl ?_
          exact s_zret dX10_canTryNow_45 rfl (Or.inr rfl) (fun f h => h)
noncomputable def x1_hideTry (I : MI) : Option (MI) :=
lt (wI I 46 (ix (8 : Int32)) (0 : Int32)) fun I1 =>
lt (wI I1 46 (ix (9 : Int32)) (0 : Int32)) fun I2 =>
some I2
theorem ct_x1_hideTry {X : WX} {I : MI} {L : ML} {R : MR} {S : MS} (hK : okr R S) : Ct X yX1_hideTry cX1_hideTry 1 none 0 0 [.ref (X.1 + 27)] (I, L, R, S) (x1_hideTry I) (fun r => (none, (r, L, R, S))) := by
  refine Ct.of (by decide) (Nat.le_of_ble_eq_true rfl) [(0, .ref (X.1 + 27))] rfl ?_
  unfold x1_hideTry
  refine s_aload_n 0 dX1_hideTry_0 rfl rfl ?_
  refine s_getR 46 dX1_hideTry_1 rfl fl_1_11 rfl (S_27 hK) (R_27_1 hK) ?_
  refine s_bipush (v := 8) dX1_hideTry_4 rfl cB_8 ?_
  refine s_iconst (v := 0) dX1_hideTry_6 rfl cI_0 ?_
  refine s_iastL dX1_hideTry_7 rfl (S_46 hK) (by unfold vp_in; decide) (fun I1 => ?_)
  refine s_aload_n 0 dX1_hideTry_8 rfl rfl ?_
  refine s_getR 46 dX1_hideTry_9 rfl fl_1_11 rfl (S_27 hK) (R_27_1 hK) ?_
  refine s_bipush (v := 9) dX1_hideTry_12 rfl cB_9 ?_
  refine s_iconst (v := 0) dX1_hideTry_14 rfl cI_0 ?_
  refine s_iastL dX1_hideTry_15 rfl (S_46 hK) (by unfold vp_in; decide) (fun I2 => ?_)
  exact s_vret dX1_hideTry_16 rfl (fun f h => h)
noncomputable def x1_look (t : Nat) (q1 : Nat) (p2 : Int32) (p3 : Int32) (I : MI) : Option (MI) :=
ck (vp_in p3 10) <|
lt (wI I 46 (ix (0 : Int32)) (I (q1 + 5) (ix p3))) fun I2 =>
ck (vp_in p3 10) <|
lt (wI I2 46 (ix (1 : Int32)) (I2 (t + 4) (ix p3))) fun I4 =>
ck (vp_in p3 10) <|
lt (wI I4 46 (ix (2 : Int32)) (I4 (t + 5) (ix p3))) fun I6 =>
ck (vp_in p3 10) <|
ck (vp_in p3 10) <|
b1 (x8_isRim t (I6 (q1 + 1) (ix p3)) (I6 (q1 + 2) (ix p3)) I6) fun r9 =>
b1 (
if r9 = 0 then (
some (0 : Int32)) else
some (1 : Int32)) fun e10 =>
lt (wI I6 46 (ix (3 : Int32)) e10) fun I11 =>
b1 (x1_far q1 p2 p3 I11) fun r12 =>
lt (wI I11 46 (ix (4 : Int32)) r12) fun I13 =>
ck (vp_in p3 10) <|
lt (wI I13 46 (ix (5 : Int32)) (I13 (q1 + 4) (ix p3))) fun I15 =>
ck (vp_in p2 4) <|
lt (wI I15 46 (ix (6 : Int32)) (I15 (t + 11) (ix p2))) fun I17 =>
ck (vp_in p2 4) <|
lt (wI I17 46 (ix (7 : Int32)) (I17 (q1 + 8) (ix p2))) fun I19 =>
b1 (x1_hideTry I19) fun I20 =>
some I20
theorem ct_x1_look {X : WX} {t : Nat} {q1 : Nat} {p2 : Int32} {p3 : Int32} {I : MI} {L : ML} {R : MR} {S : MS} (hK : okr R S) (ht : R 27 0 = some t ∧ isT t) (hq1 : isSt R S q1) : Ct X yX1_look cX1_look 4 none 2 50 [.ref (X.1 + 27), .ref (X.1 + q1), .int p2, .int p3] (I, L, R, S) (x1_look t q1 p2 p3 I) (fun r => (none, (r, L, R, S))) := by
  refine Ct.of (by decide) (Nat.le_of_ble_eq_true rfl) [(0, .ref (X.1 + 27)), (1, .ref (X.1 + q1)), (2, .int p2), (3, .int p3)] rfl ?_
  unfold x1_look
  refine s_aload_n 0 dX1_look_0 rfl rfl ?_
  refine s_getR 46 dX1_look_1 rfl fl_1_11 rfl (S_27 hK) (R_27_1 hK) ?_
  refine s_iconst (v := 0) dX1_look_4 rfl cI_0 ?_
  refine s_aload_n 1 dX1_look_5 rfl rfl ?_
  refine s_getR (q1 + 5) dX1_look_6 rfl fl_1_100 rfl (qS_0 hq1) (qR_4 hq1) ?_
  refine s_iload_n 3 dX1_look_9 rfl rfl ?_
  refine sm_ck (fun g1 => ?_)
  refine s_iald dX1_look_10 rfl (qS_5 hq1) g1 ?_
  refine s_iastL dX1_look_11 rfl (S_46 hK) (by unfold vp_in; decide) (fun I2 => ?_)
  refine s_aload_n 0 dX1_look_12 rfl rfl ?_
  refine s_getR 46 dX1_look_13 rfl fl_1_11 rfl (S_27 hK) (R_27_1 hK) ?_
  refine s_iconst (v := 1) dX1_look_16 rfl cI_1 ?_
  refine s_aload_n 0 dX1_look_17 rfl rfl ?_
  refine s_getR t dX1_look_18 rfl fl_1_17 rfl (S_27 hK) ht.1 ?_
  refine s_getR (t + 4) dX1_look_21 rfl fl_1_103 rfl (tS_0 hK ht.2) (tR_0_8 hK ht.2) ?_
  refine s_iload_n 3 dX1_look_24 rfl rfl ?_
  refine sm_ck (fun g3 => ?_)
  refine s_iald dX1_look_25 rfl (tS_4 hK ht.2) g3 ?_
  refine s_iastL dX1_look_26 rfl (S_46 hK) (by unfold vp_in; decide) (fun I4 => ?_)
  refine s_aload_n 0 dX1_look_27 rfl rfl ?_
  refine s_getR 46 dX1_look_28 rfl fl_1_11 rfl (S_27 hK) (R_27_1 hK) ?_
  refine s_iconst (v := 2) dX1_look_31 rfl cI_2 ?_
  refine s_aload_n 0 dX1_look_32 rfl rfl ?_
  refine s_getR t dX1_look_33 rfl fl_1_17 rfl (S_27 hK) ht.1 ?_
  refine s_getR (t + 5) dX1_look_36 rfl fl_1_78 rfl (tS_0 hK ht.2) (tR_0_9 hK ht.2) ?_
  refine s_iload_n 3 dX1_look_39 rfl rfl ?_
  refine sm_ck (fun g5 => ?_)
  refine s_iald dX1_look_40 rfl (tS_5 hK ht.2) g5 ?_
  refine s_iastL dX1_look_41 rfl (S_46 hK) (by unfold vp_in; decide) (fun I6 => ?_)
  refine s_aload_n 0 dX1_look_42 rfl rfl ?_
  refine s_getR 46 dX1_look_43 rfl fl_1_11 rfl (S_27 hK) (R_27_1 hK) ?_
  refine s_iconst (v := 3) dX1_look_46 rfl cI_3 ?_
  refine s_aload_n 0 dX1_look_47 rfl rfl ?_
  refine s_getR t dX1_look_48 rfl fl_1_17 rfl (S_27 hK) ht.1 ?_
  refine s_aload_n 1 dX1_look_51 rfl rfl ?_
  refine s_getR (q1 + 1) dX1_look_52 rfl fl_1_21 rfl (qS_0 hq1) (qR_0 hq1) ?_
  refine s_iload_n 3 dX1_look_55 rfl rfl ?_
  refine sm_ck (fun g7 => ?_)
  refine s_iald dX1_look_56 rfl (qS_1 hq1) g7 ?_
  refine s_aload_n 1 dX1_look_57 rfl rfl ?_
  refine s_getR (q1 + 2) dX1_look_58 rfl fl_1_35 rfl (qS_0 hq1) (qR_1 hq1) ?_
  refine s_iload_n 3 dX1_look_61 rfl rfl ?_
  refine sm_ck (fun g8 => ?_)
  refine s_iald dX1_look_62 rfl (qS_2 hq1) g8 ?_
  refine s_callV2_i0 dX1_look_63 rfl lkV_RX1_81 (tS_0 hK ht.2) (Nat.le_of_ble_eq_true rfl) (Nat.le_of_ble_eq_true rfl) (Nat.le_of_ble_eq_true rfl) (ct_x8_isRim hK ht.2) (fun r9 => ?_)
  refine sm_reg (pcx := 74) (lsx := fun e10 => [(0, .ref (X.1 + 27)), (1, .ref (X.1 + q1)), (2, .int p2), (3, .int p3)]) (stx := fun e10 => [.int e10, .int 3, .ref (X.1 + 46)]) (ux := fun e10 => (I6, L, R, S)) ?_ (fun e10 => ?_)
  · skip
    refine s_if_eq (tgt := 73) dX1_look_66 rfl rfl (fun _ => ?_) (fun _ => ?_)
    · skip
      refine s_iconst (v := 0) dX1_look_73 rfl cI_0 ?_
      exact sm_exit (fun f h => h)
    · skip
      refine s_iconst (v := 1) dX1_look_69 rfl cI_1 ?_
      refine s_goto (tgt := 74) dX1_look_70 rfl ?_
      exact sm_exit (fun f h => h)
  · skip
    refine s_iastL dX1_look_74 rfl (S_46 hK) (by unfold vp_in; decide) (fun I11 => ?_)
    refine s_aload_n 0 dX1_look_75 rfl rfl ?_
    refine s_getR 46 dX1_look_76 rfl fl_1_11 rfl (S_27 hK) (R_27_1 hK) ?_
    refine s_iconst (v := 4) dX1_look_79 rfl cI_4 ?_
    refine s_aload_n 0 dX1_look_80 rfl rfl ?_
    refine s_aload_n 1 dX1_look_81 rfl rfl ?_
    refine s_iload_n 2 dX1_look_82 rfl rfl ?_
    refine s_iload_n 3 dX1_look_83 rfl rfl ?_
    refine s_callV3_i0 dX1_look_84 rfl lkV_RX1_65 (S_27 hK) (Nat.le_of_ble_eq_true rfl) (Nat.le_of_ble_eq_true rfl) (Nat.le_of_ble_eq_true rfl) (ct_x1_far hK hq1) (fun r12 => ?_)
    refine s_iastL dX1_look_87 rfl (S_46 hK) (by unfold vp_in; decide) (fun I13 => ?_)
    refine s_aload_n 0 dX1_look_88 rfl rfl ?_
    refine s_getR 46 dX1_look_89 rfl fl_1_11 rfl (S_27 hK) (R_27_1 hK) ?_
    refine s_iconst (v := 5) dX1_look_92 rfl cI_5 ?_
    refine s_aload_n 1 dX1_look_93 rfl rfl ?_
    refine s_getR (q1 + 4) dX1_look_94 rfl fl_1_106 rfl (qS_0 hq1) (qR_3 hq1) ?_
    refine s_iload_n 3 dX1_look_97 rfl rfl ?_
    refine sm_ck (fun g14 => ?_)
    refine s_iald dX1_look_98 rfl (qS_4 hq1) g14 ?_
    refine s_iastL dX1_look_99 rfl (S_46 hK) (by unfold vp_in; decide) (fun I15 => ?_)
    refine s_aload_n 0 dX1_look_100 rfl rfl ?_
    refine s_getR 46 dX1_look_101 rfl fl_1_11 rfl (S_27 hK) (R_27_1 hK) ?_
    refine s_bipush (v := 6) dX1_look_104 rfl cB_6 ?_
    refine s_aload_n 0 dX1_look_106 rfl rfl ?_
    refine s_getR t dX1_look_107 rfl fl_1_17 rfl (S_27 hK) ht.1 ?_
    refine s_getR (t + 11) dX1_look_110 rfl fl_1_109 rfl (tS_0 hK ht.2) (tR_0_16 hK ht.2) ?_
    refine s_iload_n 2 dX1_look_113 rfl rfl ?_
    refine sm_ck (fun g16 => ?_)
    refine s_iald dX1_look_114 rfl (tS_11 hK ht.2) g16 ?_
    refine s_iastL dX1_look_115 rfl (S_46 hK) (by unfold vp_in; decide) (fun I17 => ?_)
    refine s_aload_n 0 dX1_look_116 rfl rfl ?_
    refine s_getR 46 dX1_look_117 rfl fl_1_11 rfl (S_27 hK) (R_27_1 hK) ?_
    refine s_bipush (v := 7) dX1_look_120 rfl cB_7 ?_
    refine s_aload_n 1 dX1_look_122 rfl rfl ?_
    refine s_getR (q1 + 8) dX1_look_123 rfl fl_1_72 rfl (qS_0 hq1) (qR_7 hq1) ?_
    refine s_iload_n 2 dX1_look_126 rfl rfl ?_
    refine sm_ck (fun g18 => ?_)
    refine s_iald dX1_look_127 rfl (qS_8 hq1) g18 ?_
    refine s_iastL dX1_look_128 rfl (S_46 hK) (by unfold vp_in; decide) (fun I19 => ?_)
    refine s_aload_n 0 dX1_look_129 rfl rfl ?_
    refine s_callV0_v1 dX1_look_130 rfl lkV_RX1_112 (S_27 hK) (Nat.le_of_ble_eq_true rfl) (Nat.le_of_ble_eq_true rfl) (Nat.le_of_ble_eq_true rfl) (ct_x1_hideTry hK) (fun I20 => ?_)
    exact s_vret dX1_look_133 rfl (fun f h => h)
noncomputable def x0_joined (p0 : Int32) (p1 : Int32) (p2 : Int32) (I : MI) : Option (Int32) :=
if p0 = 24 then (
if p1 = 0 then (
some (0 : Int32)) else
if p2 = 0 then (
some (0 : Int32)) else
some (1 : Int32)) else
if p0 = 37 then (
if p2 = 0 then (
some (0 : Int32)) else
ck (¬ p2 = 0) <|
some (rm p1 p2)) else
if p0 = 42 then (
some (p1 * p2)) else
if p0 = 43 then (
some (p1 + p2)) else
if p0 = 45 then (
some (p1 - p2)) else
if p0 = 47 then (
if p2 = 0 then (
some (0 : Int32)) else
ck (¬ p2 = 0) <|
some (p1 / p2)) else
if p0 = 60 then (
if p1 < p2 then (
some (1 : Int32)) else
some (0 : Int32)) else
if p0 = 61 then (
if p1 = p2 then (
some (1 : Int32)) else
some (0 : Int32)) else
if p0 = 62 then (
if p2 < p1 then (
some (1 : Int32)) else
some (0 : Int32)) else
if p1 = 0 then (
if p2 = 0 then (
some (0 : Int32)) else
some (1 : Int32)) else
some (1 : Int32)
theorem ct_x0_joined {X : WX} {p0 : Int32} {p1 : Int32} {p2 : Int32} {I : MI} {L : ML} {R : MR} {S : MS} (hK : okr R S) : Ct X yX0_joined cX0_joined 3 (some .int) 0 0 [.int p0, .int p1, .int p2] (I, L, R, S) (x0_joined p0 p1 p2 I) (fun r => (some (.int r), (I, L, R, S))) := by
  refine Ct.of (by decide) (Nat.le_of_ble_eq_true rfl) [(0, .int p0), (1, .int p1), (2, .int p2)] rfl ?_
  unfold x0_joined
  refine s_iload_n 0 dX0_joined_0 rfl rfl ?_
  refine sm_ite (fun h1 => ?_) (fun h1 => ?_)
  · skip
    refine s_lookup (tgt := 153) dX0_joined_1 (by decide) (by rw [h1]; try rfl) rfl ?_
    refine s_iload_n 1 dX0_joined_153 rfl rfl ?_
    refine s_if_eq (tgt := 165) dX0_joined_154 rfl rfl (fun _ => ?_) (fun _ => ?_)
    · skip
      refine s_iconst (v := 0) dX0_joined_165 rfl cI_0 ?_
      exact s_iret dX0_joined_166 rfl (fun f h => h)
    · skip
      refine s_iload_n 2 dX0_joined_157 rfl rfl ?_
      refine s_if_eq (tgt := 165) dX0_joined_158 rfl rfl (fun _ => ?_) (fun _ => ?_)
      · skip
        refine s_iconst (v := 0) dX0_joined_165 rfl cI_0 ?_
        exact s_iret dX0_joined_166 rfl (fun f h => h)
      · skip
        refine s_iconst (v := 1) dX0_joined_161 rfl cI_1 ?_
        refine s_goto (tgt := 166) dX0_joined_162 rfl ?_
        exact s_iret dX0_joined_166 rfl (fun f h => h)
  refine sm_ite (fun h2 => ?_) (fun h2 => ?_)
  · skip
    refine s_lookup (tgt := 108) dX0_joined_1 (by decide) (by rw [h2]; try rfl) rfl ?_
    refine s_iload_n 2 dX0_joined_108 rfl rfl ?_
    refine s_if_ne (tgt := 116) dX0_joined_109 rfl rfl (fun _ => ?_) (fun _ => ?_)
    · skip
      refine s_iload_n 1 dX0_joined_116 rfl rfl ?_
      refine s_iload_n 2 dX0_joined_117 rfl rfl ?_
      refine sm_ck (fun g3 => ?_)
      refine s_irem dX0_joined_118 rfl g3 ?_
      exact s_iret dX0_joined_119 rfl (fun f h => h)
    · skip
      refine s_iconst (v := 0) dX0_joined_112 rfl cI_0 ?_
      refine s_goto (tgt := 119) dX0_joined_113 rfl ?_
      exact s_iret dX0_joined_119 rfl (fun f h => h)
  refine sm_ite (fun h4 => ?_) (fun h4 => ?_)
  · skip
    refine s_lookup (tgt := 92) dX0_joined_1 (by decide) (by rw [h4]; try rfl) rfl ?_
    refine s_iload_n 1 dX0_joined_92 rfl rfl ?_
    refine s_iload_n 2 dX0_joined_93 rfl rfl ?_
    refine s_imul dX0_joined_94 rfl ?_
    exact s_iret dX0_joined_95 rfl (fun f h => h)
  refine sm_ite (fun h5 => ?_) (fun h5 => ?_)
  · skip
    refine s_lookup (tgt := 84) dX0_joined_1 (by decide) (by rw [h5]; try rfl) rfl ?_
    refine s_iload_n 1 dX0_joined_84 rfl rfl ?_
    refine s_iload_n 2 dX0_joined_85 rfl rfl ?_
    refine s_iadd dX0_joined_86 rfl ?_
    exact s_iret dX0_joined_87 rfl (fun f h => h)
  refine sm_ite (fun h6 => ?_) (fun h6 => ?_)
  · skip
    refine s_lookup (tgt := 88) dX0_joined_1 (by decide) (by rw [h6]; try rfl) rfl ?_
    refine s_iload_n 1 dX0_joined_88 rfl rfl ?_
    refine s_iload_n 2 dX0_joined_89 rfl rfl ?_
    refine s_isub dX0_joined_90 rfl ?_
    exact s_iret dX0_joined_91 rfl (fun f h => h)
  refine sm_ite (fun h7 => ?_) (fun h7 => ?_)
  · skip
    refine s_lookup (tgt := 96) dX0_joined_1 (by decide) (by rw [h7]; try rfl) rfl ?_
    refine s_iload_n 2 dX0_joined_96 rfl rfl ?_
    refine s_if_ne (tgt := 104) dX0_joined_97 rfl rfl (fun _ => ?_) (fun _ => ?_)
    · skip
      refine s_iload_n 1 dX0_joined_104 rfl rfl ?_
      refine s_iload_n 2 dX0_joined_105 rfl rfl ?_
      refine sm_ck (fun g8 => ?_)
      refine s_idiv dX0_joined_106 rfl g8 ?_
      exact s_iret dX0_joined_107 rfl (fun f h => h)
    · skip
      refine s_iconst (v := 0) dX0_joined_100 rfl cI_0 ?_
      refine s_goto (tgt := 107) dX0_joined_101 rfl ?_
      exact s_iret dX0_joined_107 rfl (fun f h => h)
  refine sm_ite (fun h9 => ?_) (fun h9 => ?_)
  · skip
    refine s_lookup (tgt := 120) dX0_joined_1 (by decide) (by rw [h9]; try rfl) rfl ?_
    refine s_iload_n 1 dX0_joined_120 rfl rfl ?_
    refine s_iload_n 2 dX0_joined_121 rfl rfl ?_
    refine s_icmp_ge (tgt := 129) dX0_joined_122 rfl rfl (fun _ => ?_) (fun _ => ?_)
    · skip
      refine s_iconst (v := 0) dX0_joined_129 rfl cI_0 ?_
      exact s_iret dX0_joined_130 rfl (fun f h => h)
    · skip
      refine s_iconst (v := 1) dX0_joined_125 rfl cI_1 ?_
      refine s_goto (tgt := 130) dX0_joined_126 rfl ?_
      exact s_iret dX0_joined_130 rfl (fun f h => h)
  refine sm_ite (fun h10 => ?_) (fun h10 => ?_)
  · skip
    refine s_lookup (tgt := 142) dX0_joined_1 (by decide) (by rw [h10]; try rfl) rfl ?_
    refine s_iload_n 1 dX0_joined_142 rfl rfl ?_
    refine s_iload_n 2 dX0_joined_143 rfl rfl ?_
    refine s_icmp_ne (tgt := 151) dX0_joined_144 rfl rfl (fun _ => ?_) (fun _ => ?_)
    · skip
      refine s_iconst (v := 0) dX0_joined_151 rfl cI_0 ?_
      exact s_iret dX0_joined_152 rfl (fun f h => h)
    · skip
      refine s_iconst (v := 1) dX0_joined_147 rfl cI_1 ?_
      refine s_goto (tgt := 152) dX0_joined_148 rfl ?_
      exact s_iret dX0_joined_152 rfl (fun f h => h)
  refine sm_ite (fun h11 => ?_) (fun h11 => ?_)
  · skip
    refine s_lookup (tgt := 131) dX0_joined_1 (by decide) (by rw [h11]; try rfl) rfl ?_
    refine s_iload_n 1 dX0_joined_131 rfl rfl ?_
    refine s_iload_n 2 dX0_joined_132 rfl rfl ?_
    refine s_icmp_le (tgt := 140) dX0_joined_133 rfl rfl (fun _ => ?_) (fun _ => ?_)
    · skip
      refine s_iconst (v := 0) dX0_joined_140 rfl cI_0 ?_
      exact s_iret dX0_joined_141 rfl (fun f h => h)
    · skip
      refine s_iconst (v := 1) dX0_joined_136 rfl cI_1 ?_
      refine s_goto (tgt := 141) dX0_joined_137 rfl ?_
      exact s_iret dX0_joined_141 rfl (fun f h => h)
  refine s_lookup (tgt := 167) dX0_joined_1 (by decide) ((lv_osw h1 rfl).trans ((lv_osw h2 rfl).trans ((lv_osw h4 rfl).trans ((lv_osw h5 rfl).trans ((lv_osw h6 rfl).trans ((lv_osw h7 rfl).trans ((lv_osw h9 rfl).trans ((lv_osw h10 rfl).trans ((lv_osw h11 rfl).trans rfl))))))))) rfl ?_
  refine s_iload_n 1 dX0_joined_167 rfl rfl ?_
  refine s_if_ne (tgt := 175) dX0_joined_168 rfl rfl (fun _ => ?_) (fun _ => ?_)
  · skip
    refine s_iconst (v := 1) dX0_joined_175 rfl cI_1 ?_
    refine s_goto (tgt := 180) dX0_joined_176 rfl ?_
    exact s_iret dX0_joined_180 rfl (fun f h => h)
  · skip
    refine s_iload_n 2 dX0_joined_171 rfl rfl ?_
    refine s_if_eq (tgt := 179) dX0_joined_172 rfl rfl (fun _ => ?_) (fun _ => ?_)
    · skip
      refine s_iconst (v := 0) dX0_joined_179 rfl cI_0 ?_
      exact s_iret dX0_joined_180 rfl (fun f h => h)
    · skip
      refine s_iconst (v := 1) dX0_joined_175 rfl cI_1 ?_
      refine s_goto (tgt := 180) dX0_joined_176 rfl ?_
      exact s_iret dX0_joined_180 rfl (fun f h => h)
noncomputable def x0_value_L25s (t0 : Nat) (a2 : Nat) (ln2 : Nat) (c1 : Int32) (rec : Int32 → Int32 → MI → Option (Int32 × MI)) (w3 : Int32) (w4 : Int32) (I : MI) : Option (Int32 × MI) :=
ck (vp_in c1 11) <|
if w4 < (I (t0 + 16) (ix c1)) then (
ck (vp_in w4 640) <|
lt (I (t0 + 14) (ix w4)) fun v6 =>
if v6 < 20000 then (
if w3 < 31 then (
lt (w3 + 1) fun v24 =>
if v6 < 10000 then (
ck (vp_in v24 32) <|
lt (wI I (t0 + 17) (ix v24) v6) fun I29 =>
lt (w4 + 1) fun v31 =>
rec v24 v31 I29) else
ck (vp_in (v6 - 10000) ln2) <|
ck (vp_in v24 32) <|
lt (wI I (t0 + 17) (ix v24) (I a2 (ix (v6 - 10000)))) fun I26 =>
lt (w4 + 1) fun v28 =>
rec v24 v28 I26) else
lt (w4 + 1) fun v23 =>
rec w3 v23 I) else
if v6 = 20025 then (
if w3 < 0 then (
lt (w4 + 1) fun v15 =>
rec w3 v15 I) else
ck (vp_in w3 32) <|
if (I (t0 + 17) (ix w3)) = 0 then (
ck (vp_in w3 32) <|
lt (wI I (t0 + 17) (ix w3) (1 : Int32)) fun I20 =>
lt (w4 + 1) fun v22 =>
rec w3 v22 I20) else
ck (vp_in w3 32) <|
lt (wI I (t0 + 17) (ix w3) (0 : Int32)) fun I17 =>
lt (w4 + 1) fun v19 =>
rec w3 v19 I17) else
if w3 < 1 then (
lt (w4 + 1) fun v7 =>
rec w3 v7 I) else
lt (w3 + (-1)) fun v8 =>
ck (vp_in v8 32) <|
ck (vp_in (v8 + 1) 32) <|
b1 (x0_joined (v6 - 20000) (I (t0 + 17) (ix v8)) (I (t0 + 17) (ix (v8 + 1))) I) fun r11 =>
ck (vp_in v8 32) <|
lt (wI I (t0 + 17) (ix v8) r11) fun I12 =>
lt (w4 + 1) fun v14 =>
rec v8 v14 I12) else
some (w3, I)
noncomputable def x0_value_L25 (t0 : Nat) (a2 : Nat) (ln2 : Nat) (c1 : Int32) : Nat → Int32 → Int32 → MI → Option (Int32 × MI)
  | 0 => fun _ _ _ => none
  | n + 1 => x0_value_L25s t0 a2 ln2 c1 (x0_value_L25 t0 a2 ln2 c1 n)
noncomputable def x0_value (t0 : Nat) (a2 : Nat) (ln2 : Nat) (p1 : Int32) (I : MI) : Option (Int32 × MI) :=
if p1 < 0 then (
some ((0 : Int32), I)) else
if p1 < 11 then (
lt (-1 : Int32) fun v1 =>
ck (vp_in p1 11) <|
lt (I (t0 + 15) (ix p1)) fun v3 =>
b1 (x0_value_L25 t0 a2 ln2 p1 FU v1 v3 I) fun e32 =>
if e32.1 = 0 then (
some ((e32.2 (t0 + 17) (ix 0)), e32.2)) else
some ((0 : Int32), e32.2)) else
some ((0 : Int32), I)
theorem x0_value_L25_ok {X : WX} {n0 s0 : Nat} {t0 : Nat} {a2 : Nat} {ln2 : Nat} {c1 : Int32} {L : ML} {R : MR} {S : MS} (hK : okr R S) (ht0 : isT t0) (ha2 : S[a2]? = some (13, ln2)) : ∀ (n : Nat) (w3 : Int32) (w4 : Int32) (I : MI), Sim X yX0_value cX0_value 6 (some .int) 1 22 n0 s0 25 [(0, .ref (X.1 + (t0 + 13))), (1, .int c1), (2, .ref (X.1 + a2)), (3, .int w3), (4, .int w4)] [] (I, L, R, S) (x0_value_L25 t0 a2 ln2 c1 n w3 w4 I) (fun b f => Ex X yX0_value cX0_value 6 (some .int) 1 22 n0 s0 170 [(0, .ref (X.1 + (t0 + 13))), (3, .int b.1)] [] (b.2, L, R, S) f) := by
  intro n
  induction n with
  | zero =>
    intro w3 w4 I
    exact sm_none
  | succ n ih =>
    intro w3 w4 I
    change Sim _ _ _ _ _ _ _ _ _ _ _ _ _ (x0_value_L25s t0 a2 ln2 c1 (x0_value_L25 t0 a2 ln2 c1 n) w3 w4 I) _
    unfold x0_value_L25s
    refine s_iload 4 dX0_value_25 rfl rfl ?_
    refine s_aload_n 0 dX0_value_27 rfl rfl ?_
    refine s_getR (t0 + 16) dX0_value_28 rfl fl_0_18 rfl (tS_13 hK ht0) (tR_13_2 hK ht0) ?_
    refine s_iload_n 1 dX0_value_31 rfl rfl ?_
    refine sm_ck (fun g4 => ?_)
    refine s_iald dX0_value_32 rfl (tS_16 hK ht0) g4 ?_
    refine s_icmp_ge (tgt := 170) dX0_value_33 rfl rfl (fun _ => ?_) (fun _ => ?_)
    · skip
      refine s_pick [0, 3] rfl ?_
      exact sm_exit (fun f h => h)
    · skip
      refine s_aload_n 0 dX0_value_36 rfl rfl ?_
      refine s_getR (t0 + 14) dX0_value_37 rfl fl_0_11 rfl (tS_13 hK ht0) (tR_13_0 hK ht0) ?_
      refine s_iload 4 dX0_value_40 rfl rfl ?_
      refine sm_ck (fun g5 => ?_)
      refine s_iald dX0_value_42 rfl (tS_14 hK ht0) g5 ?_
      refine s_istoreL (fun v6 => [(5, .int v6), (0, .ref (X.1 + (t0 + 13))), (1, .int c1), (2, .ref (X.1 + a2)), (3, .int w3), (4, .int w4)]) dX0_value_43 rfl (by decide) (fun _ => rfl) (fun v6 => ?_)
      refine s_iload 0 dX0_value_45 rfl rfl ?_
      refine s_sipush (v := 20000) dX0_value_47 rfl cS_20000 ?_
      refine s_icmp_ge (tgt := 92) dX0_value_50 rfl rfl (fun _ => ?_) (fun _ => ?_)
      · skip
        refine s_iload 0 dX0_value_92 rfl rfl ?_
        refine s_sipush (v := 20025) dX0_value_94 rfl cS_20025 ?_
        refine s_icmp_ne (tgt := 127) dX0_value_97 rfl rfl (fun _ => ?_) (fun _ => ?_)
        · skip
          refine s_iload_n 4 dX0_value_127 rfl rfl ?_
          refine s_iconst (v := 1) dX0_value_128 rfl cI_1 ?_
          refine s_icmp_lt (tgt := 164) dX0_value_129 rfl rfl (fun _ => ?_) (fun _ => ?_)
          · skip
            refine s_iincL 5 (c := 1) (fun v7 => [(4, .int v7), (5, .int v6), (0, .ref (X.1 + (t0 + 13))), (1, .int c1), (2, .ref (X.1 + a2)), (3, .int w3)]) dX0_value_164 rfl rfl cI_1 (by decide) (fun _ => rfl) (fun v7 => ?_)
            refine s_goto (tgt := 25) dX0_value_167 rfl ?_
            refine s_pick [2, 3, 4, 5, 0] rfl ?_
            exact ih w3 v7 I
          · skip
            refine s_iincL 4 (c := (-1)) (fun v8 => [(3, .int v8), (5, .int v6), (0, .ref (X.1 + (t0 + 13))), (1, .int c1), (2, .ref (X.1 + a2)), (4, .int w4)]) dX0_value_132 rfl rfl cI_m1 (by decide) (fun _ => rfl) (fun v8 => ?_)
            refine s_aload_n 2 dX0_value_135 rfl rfl ?_
            refine s_getR (t0 + 17) dX0_value_136 rfl fl_0_21 rfl (tS_13 hK ht0) (tR_13_3 hK ht0) ?_
            refine s_iload_n 0 dX0_value_139 rfl rfl ?_
            refine s_iload 1 dX0_value_140 rfl rfl ?_
            refine s_sipush (v := 20000) dX0_value_142 rfl cS_20000 ?_
            refine s_isub dX0_value_145 rfl ?_
            refine s_aload_n 2 dX0_value_146 rfl rfl ?_
            refine s_getR (t0 + 17) dX0_value_147 rfl fl_0_21 rfl (tS_13 hK ht0) (tR_13_3 hK ht0) ?_
            refine s_iload_n 0 dX0_value_150 rfl rfl ?_
            refine sm_ck (fun g9 => ?_)
            refine s_iald dX0_value_151 rfl (tS_17 hK ht0) g9 ?_
            refine s_aload_n 2 dX0_value_152 rfl rfl ?_
            refine s_getR (t0 + 17) dX0_value_153 rfl fl_0_21 rfl (tS_13 hK ht0) (tR_13_3 hK ht0) ?_
            refine s_iload_n 0 dX0_value_156 rfl rfl ?_
            refine s_iconst (v := 1) dX0_value_157 rfl cI_1 ?_
            refine s_iadd dX0_value_158 rfl ?_
            refine sm_ck (fun g10 => ?_)
            refine s_iald dX0_value_159 rfl (tS_17 hK ht0) g10 ?_
            refine s_callS3_i0 dX0_value_160 rfl lkS_RX0_46 (Nat.le_of_ble_eq_true rfl) (Nat.le_of_ble_eq_true rfl) (Nat.le_of_ble_eq_true rfl) (ct_x0_joined hK) (fun r11 => ?_)
            refine sm_ck (fun g13 => ?_)
            refine s_iastL dX0_value_163 rfl (tS_17 hK ht0) g13 (fun I12 => ?_)
            refine s_iincL 5 (c := 1) (fun v14 => [(4, .int v14), (3, .int v8), (5, .int v6), (0, .ref (X.1 + (t0 + 13))), (1, .int c1), (2, .ref (X.1 + a2))]) dX0_value_164 rfl rfl cI_1 (by decide) (fun _ => rfl) (fun v14 => ?_)
            refine s_goto (tgt := 25) dX0_value_167 rfl ?_
            refine s_pick [3, 4, 5, 1, 0] rfl ?_
            exact ih v8 v14 I12
        · skip
          refine s_iload_n 4 dX0_value_100 rfl rfl ?_
          refine s_if_lt (tgt := 164) dX0_value_101 rfl rfl (fun _ => ?_) (fun _ => ?_)
          · skip
            refine s_iincL 5 (c := 1) (fun v15 => [(4, .int v15), (5, .int v6), (0, .ref (X.1 + (t0 + 13))), (1, .int c1), (2, .ref (X.1 + a2)), (3, .int w3)]) dX0_value_164 rfl rfl cI_1 (by decide) (fun _ => rfl) (fun v15 => ?_)
            refine s_goto (tgt := 25) dX0_value_167 rfl ?_
            refine s_pick [2, 3, 4, 5, 0] rfl ?_
            exact ih w3 v15 I
          · skip
            refine s_aload_n 1 dX0_value_104 rfl rfl ?_
            refine s_getR (t0 + 17) dX0_value_105 rfl fl_0_21 rfl (tS_13 hK ht0) (tR_13_3 hK ht0) ?_
            refine s_iload_n 4 dX0_value_108 rfl rfl ?_
            refine s_aload_n 1 dX0_value_109 rfl rfl ?_
            refine s_getR (t0 + 17) dX0_value_110 rfl fl_0_21 rfl (tS_13 hK ht0) (tR_13_3 hK ht0) ?_
            refine s_iload_n 4 dX0_value_113 rfl rfl ?_
            refine sm_ck (fun g16 => ?_)
            refine s_iald dX0_value_114 rfl (tS_17 hK ht0) g16 ?_
            refine s_if_ne (tgt := 122) dX0_value_115 rfl rfl (fun _ => ?_) (fun _ => ?_)
            · skip
              refine s_iconst (v := 0) dX0_value_122 rfl cI_0 ?_
              refine sm_ck (fun g18 => ?_)
              refine s_iastL dX0_value_123 rfl (tS_17 hK ht0) g18 (fun I17 => ?_)
              refine s_goto (tgt := 164) dX0_value_124 rfl ?_
              refine s_iincL 5 (c := 1) (fun v19 => [(4, .int v19), (5, .int v6), (0, .ref (X.1 + (t0 + 13))), (1, .int c1), (2, .ref (X.1 + a2)), (3, .int w3)]) dX0_value_164 rfl rfl cI_1 (by decide) (fun _ => rfl) (fun v19 => ?_)
              refine s_goto (tgt := 25) dX0_value_167 rfl ?_
              refine s_pick [2, 3, 4, 5, 0] rfl ?_
              exact ih w3 v19 I17
            · skip
              refine s_iconst (v := 1) dX0_value_118 rfl cI_1 ?_
              refine s_goto (tgt := 123) dX0_value_119 rfl ?_
              refine sm_ck (fun g21 => ?_)
              refine s_iastL dX0_value_123 rfl (tS_17 hK ht0) g21 (fun I20 => ?_)
              refine s_goto (tgt := 164) dX0_value_124 rfl ?_
              refine s_iincL 5 (c := 1) (fun v22 => [(4, .int v22), (5, .int v6), (0, .ref (X.1 + (t0 + 13))), (1, .int c1), (2, .ref (X.1 + a2)), (3, .int w3)]) dX0_value_164 rfl rfl cI_1 (by decide) (fun _ => rfl) (fun v22 => ?_)
              refine s_goto (tgt := 25) dX0_value_167 rfl ?_
              refine s_pick [2, 3, 4, 5, 0] rfl ?_
              exact ih w3 v22 I20
      · skip
        refine s_iload_n 4 dX0_value_53 rfl rfl ?_
        refine s_bipush (v := 31) dX0_value_54 rfl cB_31 ?_
        refine s_icmp_ge (tgt := 164) dX0_value_56 rfl rfl (fun _ => ?_) (fun _ => ?_)
        · skip
          refine s_iincL 5 (c := 1) (fun v23 => [(4, .int v23), (5, .int v6), (0, .ref (X.1 + (t0 + 13))), (1, .int c1), (2, .ref (X.1 + a2)), (3, .int w3)]) dX0_value_164 rfl rfl cI_1 (by decide) (fun _ => rfl) (fun v23 => ?_)
          refine s_goto (tgt := 25) dX0_value_167 rfl ?_
          refine s_pick [2, 3, 4, 5, 0] rfl ?_
          exact ih w3 v23 I
        · skip
          refine s_iincL 4 (c := 1) (fun v24 => [(3, .int v24), (5, .int v6), (0, .ref (X.1 + (t0 + 13))), (1, .int c1), (2, .ref (X.1 + a2)), (4, .int w4)]) dX0_value_59 rfl rfl cI_1 (by decide) (fun _ => rfl) (fun v24 => ?_)
          refine s_aload_n 2 dX0_value_62 rfl rfl ?_
          refine s_getR (t0 + 17) dX0_value_63 rfl fl_0_21 rfl (tS_13 hK ht0) (tR_13_3 hK ht0) ?_
          refine s_iload_n 0 dX0_value_66 rfl rfl ?_
          refine s_iload 1 dX0_value_67 rfl rfl ?_
          refine s_sipush (v := 10000) dX0_value_69 rfl cS_10000 ?_
          refine s_icmp_ge (tgt := 80) dX0_value_72 rfl rfl (fun _ => ?_) (fun _ => ?_)
          · skip
            refine s_aload_n 4 dX0_value_80 rfl rfl ?_
            refine s_iload 1 dX0_value_81 rfl rfl ?_
            refine s_sipush (v := 10000) dX0_value_83 rfl cS_10000 ?_
            refine s_isub dX0_value_86 rfl ?_
            refine sm_ck (fun g25 => ?_)
            refine s_iald dX0_value_87 rfl ha2 g25 ?_
            refine sm_ck (fun g27 => ?_)
            refine s_iastL dX0_value_88 rfl (tS_17 hK ht0) g27 (fun I26 => ?_)
            refine s_goto (tgt := 164) dX0_value_89 rfl ?_
            refine s_iincL 5 (c := 1) (fun v28 => [(4, .int v28), (3, .int v24), (5, .int v6), (0, .ref (X.1 + (t0 + 13))), (1, .int c1), (2, .ref (X.1 + a2))]) dX0_value_164 rfl rfl cI_1 (by decide) (fun _ => rfl) (fun v28 => ?_)
            refine s_goto (tgt := 25) dX0_value_167 rfl ?_
            refine s_pick [3, 4, 5, 1, 0] rfl ?_
            exact ih v24 v28 I26
          · skip
            refine s_iload 1 dX0_value_75 rfl rfl ?_
            refine s_goto (tgt := 88) dX0_value_77 rfl ?_
            refine sm_ck (fun g30 => ?_)
            refine s_iastL dX0_value_88 rfl (tS_17 hK ht0) g30 (fun I29 => ?_)
            refine s_goto (tgt := 164) dX0_value_89 rfl ?_
            refine s_iincL 5 (c := 1) (fun v31 => [(4, .int v31), (3, .int v24), (5, .int v6), (0, .ref (X.1 + (t0 + 13))), (1, .int c1), (2, .ref (X.1 + a2))]) dX0_value_164 rfl rfl cI_1 (by decide) (fun _ => rfl) (fun v31 => ?_)
            refine s_goto (tgt := 25) dX0_value_167 rfl ?_
            refine s_pick [3, 4, 5, 1, 0] rfl ?_
            exact ih v24 v31 I29
theorem ct_x0_value {X : WX} {t0 : Nat} {a2 : Nat} {ln2 : Nat} {p1 : Int32} {I : MI} {L : ML} {R : MR} {S : MS} (hK : okr R S) (ht0 : isT t0) (ha2 : S[a2]? = some (13, ln2)) : Ct X yX0_value cX0_value 6 (some .int) 1 22 [.ref (X.1 + (t0 + 13)), .int p1, .ref (X.1 + a2)] (I, L, R, S) (x0_value t0 a2 ln2 p1 I) (fun r => (some (.int r.1), (r.2, L, R, S))) := by
  refine Ct.of (by decide) (Nat.le_of_ble_eq_true rfl) [(0, .ref (X.1 + (t0 + 13))), (1, .int p1), (2, .ref (X.1 + a2))] rfl ?_
  unfold x0_value
  refine s_iload_n 1 dX0_value_0 rfl rfl ?_
  refine s_if_lt (tgt := 13) dX0_value_1 rfl rfl (fun _ => ?_) (fun _ => ?_)
  · skip
    refine s_iconst (v := 0) dX0_value_13 rfl cI_0 ?_
    exact s_iret dX0_value_14 rfl (fun f h => h)
  · skip
    refine s_iload_n 1 dX0_value_4 rfl rfl ?_
    refine s_aload_n 0 dX0_value_5 rfl rfl ?_
    refine s_getR (t0 + 15) dX0_value_6 rfl fl_0_15 rfl (tS_13 hK ht0) (tR_13_1 hK ht0) ?_
    refine s_alen 1 (v := 11) dX0_value_9 rfl (tS_15 hK ht0) (by decide) rfl rfl ?_
    refine s_icmp_lt (tgt := 15) dX0_value_10 rfl rfl (fun _ => ?_) (fun _ => ?_)
    · skip
      refine s_iconst (v := (-1)) dX0_value_15 rfl cI_m1 ?_
      refine s_istore_nL (fun v1 => [(3, .int v1), (0, .ref (X.1 + (t0 + 13))), (1, .int p1), (2, .ref (X.1 + a2))]) dX0_value_16 rfl (by decide) (fun _ => rfl) (fun v1 => ?_)
      refine s_aload_n 1 dX0_value_17 rfl rfl ?_
      refine s_getR (t0 + 15) dX0_value_18 rfl fl_0_15 rfl (tS_13 hK ht0) (tR_13_1 hK ht0) ?_
      refine s_iload_n 2 dX0_value_21 rfl rfl ?_
      refine sm_ck (fun g2 => ?_)
      refine s_iald dX0_value_22 rfl (tS_15 hK ht0) g2 ?_
      refine s_istoreL (fun v3 => [(4, .int v3), (3, .int v1), (0, .ref (X.1 + (t0 + 13))), (1, .int p1), (2, .ref (X.1 + a2))]) dX0_value_23 rfl (by decide) (fun _ => rfl) (fun v3 => ?_)
      refine s_pick [2, 3, 4, 1, 0] rfl ?_
      refine sm_reg (x0_value_L25_ok hK ht0 ha2 FU v1 v3 I) (fun e32 => ?_)
      refine s_iload_n 1 dX0_value_170 rfl rfl ?_
      refine s_if_ne (tgt := 183) dX0_value_171 rfl rfl (fun _ => ?_) (fun _ => ?_)
      · skip
        refine s_iconst (v := 0) dX0_value_183 rfl cI_0 ?_
        exact s_iret dX0_value_184 rfl (fun f h => h)
      · skip
        refine s_aload_n 0 dX0_value_174 rfl rfl ?_
        refine s_getR (t0 + 17) dX0_value_175 rfl fl_0_21 rfl (tS_13 hK ht0) (tR_13_3 hK ht0) ?_
        refine s_iconst (v := 0) dX0_value_178 rfl cI_0 ?_
        refine s_iald dX0_value_179 rfl (tS_17 hK ht0) (by unfold vp_in; decide) ?_
        refine s_goto (tgt := 184) dX0_value_180 rfl ?_
        exact s_iret dX0_value_184 rfl (fun f h => h)
    · skip
      refine s_iconst (v := 0) dX0_value_13 rfl cI_0 ?_
      exact s_iret dX0_value_14 rfl (fun f h => h)
