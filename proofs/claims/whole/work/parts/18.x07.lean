noncomputable def x2_keep (q1 : Nat) (I : MI) (L : ML) (R : MR) (S : MS) : Option (MI × ML × MR × MS) :=
ck (okr R S) <|
b1 (
if (I 59 2) < 40 then (
lt (wI I 59 2 ((I 59 2) + 1)) fun I4 =>
some I4) else
lt (wI I 59 1 (rm ((I 59 1) + 1) 41)) fun I3 =>
some I3) fun e2 =>
lt (wI e2 59 3 (0 : Int32)) fun I5 =>
b5 (x2_atHand I5 L R S) fun q_6 I7 L8 R9 S10 =>
ck (isSt R9 S10 q_6) <|
ck (isSt R9 S10 q1) <|
ck (okr R9 S10) <|
ck (S10[q_6]? = some (7, 12)) <|
b1 (x7_copyAll q_6 q1 I7) fun I14 =>
some (I14, L8, R9, S10)
theorem ct_x2_keep {X : WX} {q1 : Nat} {I : MI} {L : ML} {R : MR} {S : MS} : Ct X yX2_keep cX2_keep 2 none 3 102 [.ref (X.1 + 59), .ref (X.1 + q1)] (I, L, R, S) (x2_keep q1 I L R S) (fun r => (none, (r.1, r.2.1, r.2.2.1, r.2.2.2))) := by
  refine Ct.of (by decide) (Nat.le_of_ble_eq_true rfl) [(0, .ref (X.1 + 59)), (1, .ref (X.1 + q1))] rfl ?_
  unfold x2_keep
  refine s_aload_n 0 dX2_keep_0 rfl rfl ?_
  refine sm_ck (fun g1 => ?_)
  refine s_getI dX2_keep_1 rfl fl_2_19 (S_59 g1) ?_
  refine s_bipush (v := 40) dX2_keep_4 rfl cB_40 ?_
  refine sm_reg (pcx := 35) (lsx := fun e2 => [(0, .ref (X.1 + 59)), (1, .ref (X.1 + q1))]) (stx := fun e2 => []) (ux := fun e2 => (e2, L, R, S)) ?_ (fun e2 => ?_)
  · skip
    refine s_icmp_ge (tgt := 22) dX2_keep_6 rfl rfl (fun _ => ?_) (fun _ => ?_)
    · skip
      refine s_aload_n 0 dX2_keep_22 rfl rfl ?_
      refine s_aload_n 0 dX2_keep_23 rfl rfl ?_
      refine s_getI dX2_keep_24 rfl fl_2_15 (S_59 g1) ?_
      refine s_iconst (v := 1) dX2_keep_27 rfl cI_1 ?_
      refine s_iadd dX2_keep_28 rfl ?_
      refine s_bipush (v := 41) dX2_keep_29 rfl cB_41 ?_
      refine s_irem dX2_keep_31 rfl (by decide) ?_
      refine s_putIL dX2_keep_32 rfl fl_2_15 (S_59 g1) (fun I3 => ?_)
      exact sm_exit (fun f h => h)
    · skip
      refine s_aload_n 0 dX2_keep_9 rfl rfl ?_
      refine s_dup dX2_keep_10 rfl rfl ?_
      refine s_getI dX2_keep_11 rfl fl_2_19 (S_59 g1) ?_
      refine s_iconst (v := 1) dX2_keep_14 rfl cI_1 ?_
      refine s_iadd dX2_keep_15 rfl ?_
      refine s_putIL dX2_keep_16 rfl fl_2_19 (S_59 g1) (fun I4 => ?_)
      refine s_goto (tgt := 35) dX2_keep_19 rfl ?_
      exact sm_exit (fun f h => h)
  · skip
    refine s_aload_n 0 dX2_keep_35 rfl rfl ?_
    refine s_iconst (v := 0) dX2_keep_36 rfl cI_0 ?_
    refine s_putIL dX2_keep_37 rfl fl_2_22 (S_59 g1) (fun I5 => ?_)
    refine s_aload_n 0 dX2_keep_40 rfl rfl ?_
    refine s_callV0_r3 dX2_keep_41 rfl lkV_RX2_25 (S_59 g1) (Nat.le_of_ble_eq_true rfl) (Nat.le_of_ble_eq_true rfl) (Nat.le_of_ble_eq_true rfl) ct_x2_atHand (fun q_6 I7 L8 R9 S10 => ?_)
    refine s_aload_n 1 dX2_keep_44 rfl rfl ?_
    refine sm_ck (fun g11 => ?_)
    refine sm_ck (fun g12 => ?_)
    refine sm_ck (fun g13 => ?_)
    refine sm_ck (fun g15 => ?_)
    refine s_callV1_v1 dX2_keep_45 rfl lkV_RX2_29 g15 (Nat.le_of_ble_eq_true rfl) (Nat.le_of_ble_eq_true rfl) (Nat.le_of_ble_eq_true rfl) (ct_x7_copyAll g13 g11 g12) (fun I14 => ?_)
    exact s_vret dX2_keep_48 rfl (fun f h => h)
noncomputable def x10_go (p1 : Int32) (p2 : Int32) (p3 : Int32) (I : MI) (L : ML) (R : MR) (S : MS) : Option (Int32 × MI × ML × MR × MS) :=
ck (okr R S) <|
b1 (R 27 0) fun t_1 =>
ck (isT t_1) <|
b2 (x10_canTryNow t_1 p1 p2 p3 I) fun r5 I6 =>
if r5 = 0 then (
some ((-1 : Int32), I6, L, R, S)) else
b2 (x1_tryInEarnest t_1 47 p1 p2 p3 I6) fun r7 I8 =>
lt r7 fun v9 =>
b4 (x2_keep 47 I8 L R S) fun I10 L11 R12 S13 =>
if v9 = 0 then (
some ((0 : Int32), I10, L11, R12, S13)) else
some ((1 : Int32), I10, L11, R12, S13)
theorem ct_x10_go {X : WX} {p1 : Int32} {p2 : Int32} {p3 : Int32} {I : MI} {L : ML} {R : MR} {S : MS} : Ct X yX10_go cX10_go 5 (some .int) 5 123 [.ref (X.1 + 0), .int p1, .int p2, .int p3] (I, L, R, S) (x10_go p1 p2 p3 I L R S) (fun r => (some (.int r.1), (r.2.1, r.2.2.1, r.2.2.2.1, r.2.2.2.2))) := by
  refine Ct.of (by decide) (Nat.le_of_ble_eq_true rfl) [(0, .ref (X.1 + 0)), (1, .int p1), (2, .int p2), (3, .int p3)] rfl ?_
  unfold x10_go
  refine s_aload_n 0 dX10_go_0 rfl rfl ?_
  refine s_iload_n 1 dX10_go_1 rfl rfl ?_
  refine s_iload_n 2 dX10_go_2 rfl rfl ?_
  refine s_iload_n 3 dX10_go_3 rfl rfl ?_
  refine sm_ck (fun g3 => ?_)
  refine sm_b1 (fun t_1 h2 => ?_)
  refine sm_ck (fun g4 => ?_)
  refine s_callV3_i1 dX10_go_4 rfl lkV_RX10_155 (S_0 g3) (Nat.le_of_ble_eq_true rfl) (Nat.le_of_ble_eq_true rfl) (Nat.le_of_ble_eq_true rfl) (ct_x10_canTryNow g3 (⟨h2, g4⟩)) (fun r5 I6 => ?_)
  refine s_if_ne (tgt := 12) dX10_go_7 rfl rfl (fun _ => ?_) (fun _ => ?_)
  · skip
    refine s_aload_n 0 dX10_go_12 rfl rfl ?_
    refine s_getR 27 dX10_go_13 rfl fl_10_32 rfl (S_0 g3) (R_0_4 g3) ?_
    refine s_aload_n 0 dX10_go_16 rfl rfl ?_
    refine s_getR 47 dX10_go_17 rfl fl_10_39 rfl (S_0 g3) (R_0_5 g3) ?_
    refine s_iload_n 1 dX10_go_20 rfl rfl ?_
    refine s_iload_n 2 dX10_go_21 rfl rfl ?_
    refine s_iload_n 3 dX10_go_22 rfl rfl ?_
    refine s_callV4_i1 dX10_go_23 rfl lkV_RX10_171 (S_27 g3) (Nat.le_of_ble_eq_true rfl) (Nat.le_of_ble_eq_true rfl) (Nat.le_of_ble_eq_true rfl) (ct_x1_tryInEarnest g3 (⟨h2, g4⟩) (st_47 g3)) (fun r7 I8 => ?_)
    refine s_istoreL (fun v9 => [(4, .int v9), (0, .ref (X.1 + 0)), (1, .int p1), (2, .int p2), (3, .int p3)]) dX10_go_26 rfl (by decide) (fun _ => rfl) (fun v9 => ?_)
    refine s_aload_n 1 dX10_go_28 rfl rfl ?_
    refine s_getR 59 dX10_go_29 rfl fl_10_46 rfl (S_0 g3) (R_0_6 g3) ?_
    refine s_aload_n 1 dX10_go_32 rfl rfl ?_
    refine s_getR 47 dX10_go_33 rfl fl_10_39 rfl (S_0 g3) (R_0_5 g3) ?_
    refine s_callV1_v3 dX10_go_36 rfl lkV_RX10_175 (S_59 g3) (Nat.le_of_ble_eq_true rfl) (Nat.le_of_ble_eq_true rfl) (Nat.le_of_ble_eq_true rfl) ct_x2_keep (fun I10 L11 R12 S13 => ?_)
    refine s_iload 0 dX10_go_39 rfl rfl ?_
    refine s_if_eq (tgt := 48) dX10_go_41 rfl rfl (fun _ => ?_) (fun _ => ?_)
    · skip
      refine s_iconst (v := 0) dX10_go_48 rfl cI_0 ?_
      exact s_iret dX10_go_49 rfl (fun f h => h)
    · skip
      refine s_iconst (v := 1) dX10_go_44 rfl cI_1 ?_
      refine s_goto (tgt := 49) dX10_go_45 rfl ?_
      exact s_iret dX10_go_49 rfl (fun f h => h)
  · skip
    refine s_iconst (v := (-1)) dX10_go_10 rfl cI_m1 ?_
    exact s_iret dX10_go_11 rfl (fun f h => h)
noncomputable def x1_takeBreath (t : Nat) (q1 : Nat) (p2 : Int32) (I : MI) : Option (MI) :=
ck (vp_in p2 4) <|
ck (vp_in p2 4) <|
lt (wI I (q1 + 8) (ix p2) (I (t + 10) (ix p2))) fun I2 =>
ck (vp_in p2 4) <|
ck (vp_in p2 4) <|
lt (wI I2 (q1 + 10) (ix p2) ((I2 (q1 + 10) (ix p2)) + 2)) fun I5 =>
some I5
theorem ct_x1_takeBreath {X : WX} {t : Nat} {q1 : Nat} {p2 : Int32} {I : MI} {L : ML} {R : MR} {S : MS} (hK : okr R S) (ht : R 27 0 = some t ∧ isT t) (hq1 : isSt R S q1) : Ct X yX1_takeBreath cX1_takeBreath 3 none 0 0 [.ref (X.1 + 27), .ref (X.1 + q1), .int p2] (I, L, R, S) (x1_takeBreath t q1 p2 I) (fun r => (none, (r, L, R, S))) := by
  refine Ct.of (by decide) (Nat.le_of_ble_eq_true rfl) [(0, .ref (X.1 + 27)), (1, .ref (X.1 + q1)), (2, .int p2)] rfl ?_
  unfold x1_takeBreath
  refine s_aload_n 1 dX1_takeBreath_0 rfl rfl ?_
  refine s_getR (q1 + 8) dX1_takeBreath_1 rfl fl_1_72 rfl (qS_0 hq1) (qR_7 hq1) ?_
  refine s_iload_n 2 dX1_takeBreath_4 rfl rfl ?_
  refine s_aload_n 0 dX1_takeBreath_5 rfl rfl ?_
  refine s_getR t dX1_takeBreath_6 rfl fl_1_17 rfl (S_27 hK) ht.1 ?_
  refine s_getR (t + 10) dX1_takeBreath_9 rfl fl_1_170 rfl (tS_0 hK ht.2) (tR_0_15 hK ht.2) ?_
  refine s_iload_n 2 dX1_takeBreath_12 rfl rfl ?_
  refine sm_ck (fun g1 => ?_)
  refine s_iald dX1_takeBreath_13 rfl (tS_10 hK ht.2) g1 ?_
  refine sm_ck (fun g3 => ?_)
  refine s_iastL dX1_takeBreath_14 rfl (qS_8 hq1) g3 (fun I2 => ?_)
  refine s_aload_n 1 dX1_takeBreath_15 rfl rfl ?_
  refine s_getR (q1 + 10) dX1_takeBreath_16 rfl fl_1_138 rfl (qS_0 hq1) (qR_9 hq1) ?_
  refine s_iload_n 2 dX1_takeBreath_19 rfl rfl ?_
  refine s_dup2 dX1_takeBreath_20 rfl rfl rfl ?_
  refine sm_ck (fun g4 => ?_)
  refine s_iald dX1_takeBreath_21 rfl (qS_10 hq1) g4 ?_
  refine s_iconst (v := 2) dX1_takeBreath_22 rfl cI_2 ?_
  refine s_iadd dX1_takeBreath_23 rfl ?_
  refine sm_ck (fun g6 => ?_)
  refine s_iastL dX1_takeBreath_24 rfl (qS_10 hq1) g6 (fun I5 => ?_)
  exact s_vret dX1_takeBreath_25 rfl (fun f h => h)
noncomputable def x10_breathe (p1 : Int32) (I : MI) (L : ML) (R : MR) (S : MS) : Option (Int32 × MI × ML × MR × MS) :=
ck (okr R S) <|
b1 (R 27 0) fun t_1 =>
ck (isT t_1) <|
b1 (x10_isBobber t_1 p1 I) fun r5 =>
if r5 = 0 then (
some ((-1 : Int32), I, L, R, S)) else
b1 (x1_takeBreath t_1 47 p1 I) fun I6 =>
b4 (x2_keep 47 I6 L R S) fun I7 L8 R9 S10 =>
ck (okr R9 S10) <|
ck (vp_in p1 4) <|
some ((I7 55 (ix p1)), I7, L8, R9, S10)
theorem ct_x10_breathe {X : WX} {p1 : Int32} {I : MI} {L : ML} {R : MR} {S : MS} : Ct X yX10_breathe cX10_breathe 2 (some .int) 4 123 [.ref (X.1 + 0), .int p1] (I, L, R, S) (x10_breathe p1 I L R S) (fun r => (some (.int r.1), (r.2.1, r.2.2.1, r.2.2.2.1, r.2.2.2.2))) := by
  refine Ct.of (by decide) (Nat.le_of_ble_eq_true rfl) [(0, .ref (X.1 + 0)), (1, .int p1)] rfl ?_
  unfold x10_breathe
  refine s_aload_n 0 dX10_breathe_0 rfl rfl ?_
  refine s_iload_n 1 dX10_breathe_1 rfl rfl ?_
  refine sm_ck (fun g3 => ?_)
  refine sm_b1 (fun t_1 h2 => ?_)
  refine sm_ck (fun g4 => ?_)
  refine s_callV1_i0 dX10_breathe_2 rfl lkV_RX10_143 (S_0 g3) (Nat.le_of_ble_eq_true rfl) (Nat.le_of_ble_eq_true rfl) (Nat.le_of_ble_eq_true rfl) (ct_x10_isBobber g3 (⟨h2, g4⟩)) (fun r5 => ?_)
  refine s_if_ne (tgt := 10) dX10_breathe_5 rfl rfl (fun _ => ?_) (fun _ => ?_)
  · skip
    refine s_aload_n 0 dX10_breathe_10 rfl rfl ?_
    refine s_getR 27 dX10_breathe_11 rfl fl_10_32 rfl (S_0 g3) (R_0_4 g3) ?_
    refine s_aload_n 0 dX10_breathe_14 rfl rfl ?_
    refine s_getR 47 dX10_breathe_15 rfl fl_10_39 rfl (S_0 g3) (R_0_5 g3) ?_
    refine s_iload_n 1 dX10_breathe_18 rfl rfl ?_
    refine s_callV2_v1 dX10_breathe_19 rfl lkV_RX10_178 (S_27 g3) (Nat.le_of_ble_eq_true rfl) (Nat.le_of_ble_eq_true rfl) (Nat.le_of_ble_eq_true rfl) (ct_x1_takeBreath g3 (⟨h2, g4⟩) (st_47 g3)) (fun I6 => ?_)
    refine s_aload_n 0 dX10_breathe_22 rfl rfl ?_
    refine s_getR 59 dX10_breathe_23 rfl fl_10_46 rfl (S_0 g3) (R_0_6 g3) ?_
    refine s_aload_n 0 dX10_breathe_26 rfl rfl ?_
    refine s_getR 47 dX10_breathe_27 rfl fl_10_39 rfl (S_0 g3) (R_0_5 g3) ?_
    refine s_callV1_v3 dX10_breathe_30 rfl lkV_RX10_175 (S_59 g3) (Nat.le_of_ble_eq_true rfl) (Nat.le_of_ble_eq_true rfl) (Nat.le_of_ble_eq_true rfl) ct_x2_keep (fun I7 L8 R9 S10 => ?_)
    refine s_aload_n 0 dX10_breathe_33 rfl rfl ?_
    refine sm_ck (fun g11 => ?_)
    refine s_getR 47 dX10_breathe_34 rfl fl_10_39 rfl (S_0 g11) (R_0_5 g11) ?_
    refine s_getR 55 dX10_breathe_37 rfl fl_10_146 rfl (S_47 g11) (R_47_7 g11) ?_
    refine s_iload_n 1 dX10_breathe_40 rfl rfl ?_
    refine sm_ck (fun g12 => ?_)
    refine s_iald dX10_breathe_41 rfl (S_55 g11) g12 ?_
    exact s_iret dX10_breathe_42 rfl (fun f h => h)
  · skip
    refine s_iconst (v := (-1)) dX10_breathe_8 rfl cI_m1 ?_
    exact s_iret dX10_breathe_9 rfl (fun f h => h)
noncomputable def x1_rankFrom (t : Nat) (q1 : Nat) (p2 : Int32) (p3 : Int32) (I : MI) : Option (Int32) :=
if p2 = 0 then (
ck (vp_in p3 10) <|
some (I (q1 + 1) (ix p3))) else
if p2 = 1 then (
ck (vp_in p3 10) <|
some (((I t 0) - 1) - (I (q1 + 1) (ix p3)))) else
if p2 = 2 then (
ck (vp_in p3 10) <|
some (((I t 1) - 1) - (I (q1 + 2) (ix p3)))) else
ck (vp_in p3 10) <|
some (I (q1 + 2) (ix p3))
theorem ct_x1_rankFrom {X : WX} {t : Nat} {q1 : Nat} {p2 : Int32} {p3 : Int32} {I : MI} {L : ML} {R : MR} {S : MS} (hK : okr R S) (ht : R 27 0 = some t ∧ isT t) (hq1 : isSt R S q1) : Ct X yX1_rankFrom cX1_rankFrom 4 (some .int) 0 0 [.ref (X.1 + 27), .ref (X.1 + q1), .int p2, .int p3] (I, L, R, S) (x1_rankFrom t q1 p2 p3 I) (fun r => (some (.int r), (I, L, R, S))) := by
  refine Ct.of (by decide) (Nat.le_of_ble_eq_true rfl) [(0, .ref (X.1 + 27)), (1, .ref (X.1 + q1)), (2, .int p2), (3, .int p3)] rfl ?_
  unfold x1_rankFrom
  refine s_iload_n 2 dX1_rankFrom_0 rfl rfl ?_
  refine sm_ite (fun h1 => ?_) (fun h1 => ?_)
  · skip
    refine s_tin (tgt := 28) dX1_rankFrom_1 (by rw [h1]; try decide) (by rw [h1]; try decide) (by rw [h1]; try rfl) rfl ?_
    refine s_aload_n 1 dX1_rankFrom_28 rfl rfl ?_
    refine s_getR (q1 + 1) dX1_rankFrom_29 rfl fl_1_21 rfl (qS_0 hq1) (qR_0 hq1) ?_
    refine s_iload_n 3 dX1_rankFrom_32 rfl rfl ?_
    refine sm_ck (fun g2 => ?_)
    refine s_iald dX1_rankFrom_33 rfl (qS_1 hq1) g2 ?_
    exact s_iret dX1_rankFrom_34 rfl (fun f h => h)
  refine sm_ite (fun h3 => ?_) (fun h3 => ?_)
  · skip
    refine s_tin (tgt := 35) dX1_rankFrom_1 (by rw [h3]; try decide) (by rw [h3]; try decide) (by rw [h3]; try rfl) rfl ?_
    refine s_aload_n 0 dX1_rankFrom_35 rfl rfl ?_
    refine s_getR t dX1_rankFrom_36 rfl fl_1_17 rfl (S_27 hK) ht.1 ?_
    refine s_getI dX1_rankFrom_39 rfl fl_1_180 (tS_0 hK ht.2) ?_
    refine s_iconst (v := 1) dX1_rankFrom_42 rfl cI_1 ?_
    refine s_isub dX1_rankFrom_43 rfl ?_
    refine s_aload_n 1 dX1_rankFrom_44 rfl rfl ?_
    refine s_getR (q1 + 1) dX1_rankFrom_45 rfl fl_1_21 rfl (qS_0 hq1) (qR_0 hq1) ?_
    refine s_iload_n 3 dX1_rankFrom_48 rfl rfl ?_
    refine sm_ck (fun g4 => ?_)
    refine s_iald dX1_rankFrom_49 rfl (qS_1 hq1) g4 ?_
    refine s_isub dX1_rankFrom_50 rfl ?_
    exact s_iret dX1_rankFrom_51 rfl (fun f h => h)
  refine sm_ite (fun h5 => ?_) (fun h5 => ?_)
  · skip
    refine s_tin (tgt := 52) dX1_rankFrom_1 (by rw [h5]; try decide) (by rw [h5]; try decide) (by rw [h5]; try rfl) rfl ?_
    refine s_aload_n 0 dX1_rankFrom_52 rfl rfl ?_
    refine s_getR t dX1_rankFrom_53 rfl fl_1_17 rfl (S_27 hK) ht.1 ?_
    refine s_getI dX1_rankFrom_56 rfl fl_1_183 (tS_0 hK ht.2) ?_
    refine s_iconst (v := 1) dX1_rankFrom_59 rfl cI_1 ?_
    refine s_isub dX1_rankFrom_60 rfl ?_
    refine s_aload_n 1 dX1_rankFrom_61 rfl rfl ?_
    refine s_getR (q1 + 2) dX1_rankFrom_62 rfl fl_1_35 rfl (qS_0 hq1) (qR_1 hq1) ?_
    refine s_iload_n 3 dX1_rankFrom_65 rfl rfl ?_
    refine sm_ck (fun g6 => ?_)
    refine s_iald dX1_rankFrom_66 rfl (qS_2 hq1) g6 ?_
    refine s_isub dX1_rankFrom_67 rfl ?_
    exact s_iret dX1_rankFrom_68 rfl (fun f h => h)
  have hsw : ¬ (p2).toInt = 0 ∧ ¬ (p2).toInt = 1 ∧ ¬ (p2).toInt = 2 := ⟨lv_neT h1 (a := 0) rfl, lv_neT h3 (a := 1) rfl, lv_neT h5 (a := 2) rfl⟩
  refine s_tout (tgt := 69) dX1_rankFrom_1 (by omega) rfl ?_
  refine s_aload_n 1 dX1_rankFrom_69 rfl rfl ?_
  refine s_getR (q1 + 2) dX1_rankFrom_70 rfl fl_1_35 rfl (qS_0 hq1) (qR_1 hq1) ?_
  refine s_iload_n 3 dX1_rankFrom_73 rfl rfl ?_
  refine sm_ck (fun g7 => ?_)
  refine s_iald dX1_rankFrom_74 rfl (qS_2 hq1) g7 ?_
  exact s_iret dX1_rankFrom_75 rfl (fun f h => h)
noncomputable def x1_rock_L15s (t : Nat) (q1 : Nat) (c2 : Int32) (c4 : Int32) (rec : Int32 → Int32 → MI → Option (Int32 × MI)) (w3 : Int32) (w5 : Int32) (I : MI) : Option (Int32 × MI) :=
if w5 < (I t 4) then (
ck (vp_in w5 10) <|
if (I (q1 + 3) (ix w5)) = (-1) then (
b1 (x1_rankFrom t q1 c2 w5 I) fun r6 =>
if r6 = c4 then (
ck (vp_in w5 10) <|
ck (vp_in c2 4) <|
lt ((I (q1 + 1) (ix w5)) + (([-1, 1, 0, 0] : List Int32).getD (ix c2) 0)) fun v10 =>
ck (vp_in w5 10) <|
ck (vp_in c2 4) <|
lt ((I (q1 + 2) (ix w5)) + (([0, 0, 1, -1] : List Int32).getD (ix c2) 0)) fun v13 =>
b1 (x1_appleIn t q1 v10 v13 I) fun r14 =>
if r14 = (-1) then (
ck (vp_in w5 10) <|
lt (wI I (q1 + 1) (ix w5) v10) fun I16 =>
ck (vp_in w5 10) <|
lt (wI I16 (q1 + 2) (ix w5) v13) fun I18 =>
lt (w3 + 1) fun v20 =>
lt (w5 + 1) fun v21 =>
rec v20 v21 I18) else
lt (w5 + 1) fun v15 =>
rec w3 v15 I) else
lt (w5 + 1) fun v7 =>
rec w3 v7 I) else
lt (w5 + 1) fun v5 =>
rec w3 v5 I) else
some (w3, I)
noncomputable def x1_rock_L15 (t : Nat) (q1 : Nat) (c2 : Int32) (c4 : Int32) : Nat → Int32 → Int32 → MI → Option (Int32 × MI)
  | 0 => fun _ _ _ => none
  | n + 1 => x1_rock_L15s t q1 c2 c4 (x1_rock_L15 t q1 c2 c4 n)
noncomputable def x1_rock_L5s (t : Nat) (q1 : Nat) (c2 : Int32) (rec : Int32 → Int32 → MI → Option (Int32 × MI)) (w3 : Int32) (w4 : Int32) (I : MI) : Option (Int32 × MI) :=
if w4 < 6 then (
lt (0 : Int32) fun v3 =>
b1 (x1_rock_L15 t q1 c2 w4 FU w3 v3 I) fun e22 =>
lt (w4 + 1) fun v23 =>
rec e22.1 v23 e22.2) else
some (w3, I)
noncomputable def x1_rock_L5 (t : Nat) (q1 : Nat) (c2 : Int32) : Nat → Int32 → Int32 → MI → Option (Int32 × MI)
  | 0 => fun _ _ _ => none
  | n + 1 => x1_rock_L5s t q1 c2 (x1_rock_L5 t q1 c2 n)
noncomputable def x1_rock (t : Nat) (q1 : Nat) (p2 : Int32) (I : MI) : Option (Int32 × MI) :=
lt (0 : Int32) fun v1 =>
lt (1 : Int32) fun v2 =>
b1 (x1_rock_L5 t q1 p2 FU v1 v2 I) fun e24 =>
some (e24.1, e24.2)
theorem x1_rock_L15_ok {X : WX} {n0 s0 : Nat} {t : Nat} {q1 : Nat} {c2 : Int32} {c4 : Int32} {L : ML} {R : MR} {S : MS} (hK : okr R S) (ht : R 27 0 = some t ∧ isT t) (hq1 : isSt R S q1) : ∀ (n : Nat) (w3 : Int32) (w5 : Int32) (I : MI), Sim X yX1_rock cX1_rock 8 (some .int) 1 24 n0 s0 15 [(0, .ref (X.1 + 27)), (1, .ref (X.1 + q1)), (2, .int c2), (3, .int w3), (4, .int c4), (5, .int w5)] [] (I, L, R, S) (x1_rock_L15 t q1 c2 c4 n w3 w5 I) (fun b f => Ex X yX1_rock cX1_rock 8 (some .int) 1 24 n0 s0 121 [(0, .ref (X.1 + 27)), (1, .ref (X.1 + q1)), (2, .int c2), (3, .int b.1), (4, .int c4)] [] (b.2, L, R, S) f) := by
  intro n
  induction n with
  | zero =>
    intro w3 w5 I
    exact sm_none
  | succ n ih =>
    intro w3 w5 I
    change Sim _ _ _ _ _ _ _ _ _ _ _ _ _ (x1_rock_L15s t q1 c2 c4 (x1_rock_L15 t q1 c2 c4 n) w3 w5 I) _
    unfold x1_rock_L15s
    refine s_iload 5 dX1_rock_15 rfl rfl ?_
    refine s_aload_n 0 dX1_rock_17 rfl rfl ?_
    refine s_getR t dX1_rock_18 rfl fl_1_17 rfl (S_27 hK) ht.1 ?_
    refine s_getI dX1_rock_21 rfl fl_1_45 (tS_0 hK ht.2) ?_
    refine s_icmp_ge (tgt := 121) dX1_rock_24 rfl rfl (fun _ => ?_) (fun _ => ?_)
    · skip
      refine s_pick [0, 1, 2, 3, 4] rfl ?_
      exact sm_exit (fun f h => h)
    · skip
      refine s_aload_n 1 dX1_rock_27 rfl rfl ?_
      refine s_getR (q1 + 3) dX1_rock_28 rfl fl_1_51 rfl (qS_0 hq1) (qR_2 hq1) ?_
      refine s_iload 5 dX1_rock_31 rfl rfl ?_
      refine sm_ck (fun g4 => ?_)
      refine s_iald dX1_rock_33 rfl (qS_3 hq1) g4 ?_
      refine s_iconst (v := (-1)) dX1_rock_34 rfl cI_m1 ?_
      refine s_icmp_ne (tgt := 115) dX1_rock_35 rfl rfl (fun _ => ?_) (fun _ => ?_)
      · skip
        refine s_iincL 5 (c := 1) (fun v5 => [(5, .int v5), (0, .ref (X.1 + 27)), (1, .ref (X.1 + q1)), (2, .int c2), (3, .int w3), (4, .int c4)]) dX1_rock_115 rfl rfl cI_1 (by decide) (fun _ => rfl) (fun v5 => ?_)
        refine s_goto (tgt := 15) dX1_rock_118 rfl ?_
        refine s_pick [1, 2, 3, 4, 5, 0] rfl ?_
        exact ih w3 v5 I
      · skip
        refine s_aload_n 0 dX1_rock_38 rfl rfl ?_
        refine s_aload_n 1 dX1_rock_39 rfl rfl ?_
        refine s_iload_n 2 dX1_rock_40 rfl rfl ?_
        refine s_iload 5 dX1_rock_41 rfl rfl ?_
        refine s_callV3_i0 dX1_rock_43 rfl lkV_RX1_171 (S_27 hK) (Nat.le_of_ble_eq_true rfl) (Nat.le_of_ble_eq_true rfl) (Nat.le_of_ble_eq_true rfl) (ct_x1_rankFrom hK ht hq1) (fun r6 => ?_)
        refine s_iload 4 dX1_rock_46 rfl rfl ?_
        refine s_icmp_ne (tgt := 115) dX1_rock_48 rfl rfl (fun _ => ?_) (fun _ => ?_)
        · skip
          refine s_iincL 5 (c := 1) (fun v7 => [(5, .int v7), (0, .ref (X.1 + 27)), (1, .ref (X.1 + q1)), (2, .int c2), (3, .int w3), (4, .int c4)]) dX1_rock_115 rfl rfl cI_1 (by decide) (fun _ => rfl) (fun v7 => ?_)
          refine s_goto (tgt := 15) dX1_rock_118 rfl ?_
          refine s_pick [1, 2, 3, 4, 5, 0] rfl ?_
          exact ih w3 v7 I
        · skip
          refine s_aload_n 1 dX1_rock_51 rfl rfl ?_
          refine s_getR (q1 + 1) dX1_rock_52 rfl fl_1_21 rfl (qS_0 hq1) (qR_0 hq1) ?_
          refine s_iload 5 dX1_rock_55 rfl rfl ?_
          refine sm_ck (fun g8 => ?_)
          refine s_iald dX1_rock_57 rfl (qS_1 hq1) g8 ?_
          refine s_gets 2 1 dX1_rock_58 rfl rfl rfl ?_
          refine s_iload_n 2 dX1_rock_61 rfl rfl ?_
          refine sm_ck (fun g9 => ?_)
          refine s_tald 2 dX1_rock_62 rfl rfl g9 ?_
          refine s_iadd dX1_rock_63 rfl ?_
          refine s_istoreL (fun v10 => [(6, .int v10), (0, .ref (X.1 + 27)), (1, .ref (X.1 + q1)), (2, .int c2), (3, .int w3), (4, .int c4), (5, .int w5)]) dX1_rock_64 rfl (by decide) (fun _ => rfl) (fun v10 => ?_)
          refine s_aload_n 2 dX1_rock_66 rfl rfl ?_
          refine s_getR (q1 + 2) dX1_rock_67 rfl fl_1_35 rfl (qS_0 hq1) (qR_1 hq1) ?_
          refine s_iload 6 dX1_rock_70 rfl rfl ?_
          refine sm_ck (fun g11 => ?_)
          refine s_iald dX1_rock_72 rfl (qS_2 hq1) g11 ?_
          refine s_gets 3 2 dX1_rock_73 rfl rfl rfl ?_
          refine s_iload_n 3 dX1_rock_76 rfl rfl ?_
          refine sm_ck (fun g12 => ?_)
          refine s_tald 3 dX1_rock_77 rfl rfl g12 ?_
          refine s_iadd dX1_rock_78 rfl ?_
          refine s_istoreL (fun v13 => [(7, .int v13), (6, .int v10), (0, .ref (X.1 + 27)), (1, .ref (X.1 + q1)), (2, .int c2), (3, .int w3), (4, .int c4), (5, .int w5)]) dX1_rock_79 rfl (by decide) (fun _ => rfl) (fun v13 => ?_)
          refine s_aload_n 2 dX1_rock_81 rfl rfl ?_
          refine s_aload_n 3 dX1_rock_82 rfl rfl ?_
          refine s_iload 1 dX1_rock_83 rfl rfl ?_
          refine s_iload 0 dX1_rock_85 rfl rfl ?_
          refine s_callV3_i0 dX1_rock_87 rfl lkV_RX1_89 (S_27 hK) (Nat.le_of_ble_eq_true rfl) (Nat.le_of_ble_eq_true rfl) (Nat.le_of_ble_eq_true rfl) (ct_x1_appleIn hK ht hq1) (fun r14 => ?_)
          refine s_iconst (v := (-1)) dX1_rock_90 rfl cI_m1 ?_
          refine s_icmp_ne (tgt := 115) dX1_rock_91 rfl rfl (fun _ => ?_) (fun _ => ?_)
          · skip
            refine s_iincL 7 (c := 1) (fun v15 => [(5, .int v15), (7, .int v13), (6, .int v10), (0, .ref (X.1 + 27)), (1, .ref (X.1 + q1)), (2, .int c2), (3, .int w3), (4, .int c4)]) dX1_rock_115 rfl rfl cI_1 (by decide) (fun _ => rfl) (fun v15 => ?_)
            refine s_goto (tgt := 15) dX1_rock_118 rfl ?_
            refine s_pick [3, 4, 5, 6, 7, 0] rfl ?_
            exact ih w3 v15 I
          · skip
            refine s_aload_n 3 dX1_rock_94 rfl rfl ?_
            refine s_getR (q1 + 1) dX1_rock_95 rfl fl_1_21 rfl (qS_0 hq1) (qR_0 hq1) ?_
            refine s_iload 7 dX1_rock_98 rfl rfl ?_
            refine s_iload 1 dX1_rock_100 rfl rfl ?_
            refine sm_ck (fun g17 => ?_)
            refine s_iastL dX1_rock_102 rfl (qS_1 hq1) g17 (fun I16 => ?_)
            refine s_aload_n 3 dX1_rock_103 rfl rfl ?_
            refine s_getR (q1 + 2) dX1_rock_104 rfl fl_1_35 rfl (qS_0 hq1) (qR_1 hq1) ?_
            refine s_iload 7 dX1_rock_107 rfl rfl ?_
            refine s_iload 0 dX1_rock_109 rfl rfl ?_
            refine sm_ck (fun g19 => ?_)
            refine s_iastL dX1_rock_111 rfl (qS_2 hq1) g19 (fun I18 => ?_)
            refine s_iincL 5 (c := 1) (fun v20 => [(3, .int v20), (7, .int v13), (6, .int v10), (0, .ref (X.1 + 27)), (1, .ref (X.1 + q1)), (2, .int c2), (4, .int c4), (5, .int w5)]) dX1_rock_112 rfl rfl cI_1 (by decide) (fun _ => rfl) (fun v20 => ?_)
            refine s_iincL 7 (c := 1) (fun v21 => [(5, .int v21), (3, .int v20), (7, .int v13), (6, .int v10), (0, .ref (X.1 + 27)), (1, .ref (X.1 + q1)), (2, .int c2), (4, .int c4)]) dX1_rock_115 rfl rfl cI_1 (by decide) (fun _ => rfl) (fun v21 => ?_)
            refine s_goto (tgt := 15) dX1_rock_118 rfl ?_
            refine s_pick [4, 5, 6, 1, 7, 0] rfl ?_
            exact ih v20 v21 I18
theorem x1_rock_L5_ok {X : WX} {n0 s0 : Nat} {t : Nat} {q1 : Nat} {c2 : Int32} {L : ML} {R : MR} {S : MS} (hK : okr R S) (ht : R 27 0 = some t ∧ isT t) (hq1 : isSt R S q1) : ∀ (n : Nat) (w3 : Int32) (w4 : Int32) (I : MI), Sim X yX1_rock cX1_rock 8 (some .int) 1 24 n0 s0 5 [(0, .ref (X.1 + 27)), (1, .ref (X.1 + q1)), (2, .int c2), (3, .int w3), (4, .int w4)] [] (I, L, R, S) (x1_rock_L5 t q1 c2 n w3 w4 I) (fun b f => Ex X yX1_rock cX1_rock 8 (some .int) 1 24 n0 s0 127 [(3, .int b.1)] [] (b.2, L, R, S) f) := by
  intro n
  induction n with
  | zero =>
    intro w3 w4 I
    exact sm_none
  | succ n ih =>
    intro w3 w4 I
    change Sim _ _ _ _ _ _ _ _ _ _ _ _ _ (x1_rock_L5s t q1 c2 (x1_rock_L5 t q1 c2 n) w3 w4 I) _
    unfold x1_rock_L5s
    refine s_iload 4 dX1_rock_5 rfl rfl ?_
    refine s_bipush (v := 6) dX1_rock_7 rfl cB_6 ?_
    refine s_icmp_ge (tgt := 127) dX1_rock_9 rfl rfl (fun _ => ?_) (fun _ => ?_)
    · skip
      refine s_pick [3] rfl ?_
      exact sm_exit (fun f h => h)
    · skip
      refine s_iconst (v := 0) dX1_rock_12 rfl cI_0 ?_
      refine s_istoreL (fun v3 => [(5, .int v3), (0, .ref (X.1 + 27)), (1, .ref (X.1 + q1)), (2, .int c2), (3, .int w3), (4, .int w4)]) dX1_rock_13 rfl (by decide) (fun _ => rfl) (fun v3 => ?_)
      refine s_pick [1, 2, 3, 4, 5, 0] rfl ?_
      refine sm_reg (x1_rock_L15_ok hK ht hq1 FU w3 v3 I) (fun e22 => ?_)
      refine s_iincL 4 (c := 1) (fun v23 => [(4, .int v23), (0, .ref (X.1 + 27)), (1, .ref (X.1 + q1)), (2, .int c2), (3, .int e22.1)]) dX1_rock_121 rfl rfl cI_1 (by decide) (fun _ => rfl) (fun v23 => ?_)
      refine s_goto (tgt := 5) dX1_rock_124 rfl ?_
      refine s_pick [1, 2, 3, 4, 0] rfl ?_
      exact ih e22.1 v23 e22.2
theorem ct_x1_rock {X : WX} {t : Nat} {q1 : Nat} {p2 : Int32} {I : MI} {L : ML} {R : MR} {S : MS} (hK : okr R S) (ht : R 27 0 = some t ∧ isT t) (hq1 : isSt R S q1) : Ct X yX1_rock cX1_rock 8 (some .int) 1 24 [.ref (X.1 + 27), .ref (X.1 + q1), .int p2] (I, L, R, S) (x1_rock t q1 p2 I) (fun r => (some (.int r.1), (r.2, L, R, S))) := by
  refine Ct.of (by decide) (Nat.le_of_ble_eq_true rfl) [(0, .ref (X.1 + 27)), (1, .ref (X.1 + q1)), (2, .int p2)] rfl ?_
  unfold x1_rock
  refine s_iconst (v := 0) dX1_rock_0 rfl cI_0 ?_
  refine s_istore_nL (fun v1 => [(3, .int v1), (0, .ref (X.1 + 27)), (1, .ref (X.1 + q1)), (2, .int p2)]) dX1_rock_1 rfl (by decide) (fun _ => rfl) (fun v1 => ?_)
  refine s_iconst (v := 1) dX1_rock_2 rfl cI_1 ?_
  refine s_istoreL (fun v2 => [(4, .int v2), (3, .int v1), (0, .ref (X.1 + 27)), (1, .ref (X.1 + q1)), (2, .int p2)]) dX1_rock_3 rfl (by decide) (fun _ => rfl) (fun v2 => ?_)
  refine s_pick [2, 3, 4, 1, 0] rfl ?_
  refine sm_reg (x1_rock_L5_ok hK ht hq1 FU v1 v2 I) (fun e24 => ?_)
  refine s_iload_n 0 dX1_rock_127 rfl rfl ?_
  exact s_iret dX1_rock_128 rfl (fun f h => h)
noncomputable def x10_wave (p1 : Int32) (I : MI) (L : ML) (R : MR) (S : MS) : Option (Int32 × MI × ML × MR × MS) :=
if p1 < 0 then (
some ((-1 : Int32), I, L, R, S)) else
if p1 < 4 then (
ck (okr R S) <|
b1 (R 27 0) fun t_2 =>
ck (isT t_2) <|
b2 (x1_rock t_2 47 p1 I) fun r5 I6 =>
lt r5 fun v7 =>
b4 (x2_keep 47 I6 L R S) fun I8 L9 R10 S11 =>
some (v7, I8, L9, R10, S11)) else
some ((-1 : Int32), I, L, R, S)
theorem ct_x10_wave {X : WX} {p1 : Int32} {I : MI} {L : ML} {R : MR} {S : MS} : Ct X yX10_wave cX10_wave 3 (some .int) 4 123 [.ref (X.1 + 0), .int p1] (I, L, R, S) (x10_wave p1 I L R S) (fun r => (some (.int r.1), (r.2.1, r.2.2.1, r.2.2.2.1, r.2.2.2.2))) := by
  refine Ct.of (by decide) (Nat.le_of_ble_eq_true rfl) [(0, .ref (X.1 + 0)), (1, .int p1)] rfl ?_
  unfold x10_wave
  refine s_iload_n 1 dX10_wave_0 rfl rfl ?_
  refine s_if_lt (tgt := 9) dX10_wave_1 rfl rfl (fun _ => ?_) (fun _ => ?_)
  · skip
    refine s_iconst (v := (-1)) dX10_wave_9 rfl cI_m1 ?_
    exact s_iret dX10_wave_10 rfl (fun f h => h)
  · skip
    refine s_iload_n 1 dX10_wave_4 rfl rfl ?_
    refine s_iconst (v := 4) dX10_wave_5 rfl cI_4 ?_
    refine s_icmp_lt (tgt := 11) dX10_wave_6 rfl rfl (fun _ => ?_) (fun _ => ?_)
    · skip
      refine s_aload_n 0 dX10_wave_11 rfl rfl ?_
      refine sm_ck (fun g1 => ?_)
      refine s_getR 27 dX10_wave_12 rfl fl_10_32 rfl (S_0 g1) (R_0_4 g1) ?_
      refine s_aload_n 0 dX10_wave_15 rfl rfl ?_
      refine s_getR 47 dX10_wave_16 rfl fl_10_39 rfl (S_0 g1) (R_0_5 g1) ?_
      refine s_iload_n 1 dX10_wave_19 rfl rfl ?_
      refine sm_b1 (fun t_2 h3 => ?_)
      refine sm_ck (fun g4 => ?_)
      refine s_callV2_i1 dX10_wave_20 rfl lkV_RX10_182 (S_27 g1) (Nat.le_of_ble_eq_true rfl) (Nat.le_of_ble_eq_true rfl) (Nat.le_of_ble_eq_true rfl) (ct_x1_rock g1 (⟨h3, g4⟩) (st_47 g1)) (fun r5 I6 => ?_)
      refine s_istore_nL (fun v7 => [(2, .int v7), (0, .ref (X.1 + 0)), (1, .int p1)]) dX10_wave_23 rfl (by decide) (fun _ => rfl) (fun v7 => ?_)
      refine s_aload_n 1 dX10_wave_24 rfl rfl ?_
      refine s_getR 59 dX10_wave_25 rfl fl_10_46 rfl (S_0 g1) (R_0_6 g1) ?_
      refine s_aload_n 1 dX10_wave_28 rfl rfl ?_
      refine s_getR 47 dX10_wave_29 rfl fl_10_39 rfl (S_0 g1) (R_0_5 g1) ?_
      refine s_callV1_v3 dX10_wave_32 rfl lkV_RX10_175 (S_59 g1) (Nat.le_of_ble_eq_true rfl) (Nat.le_of_ble_eq_true rfl) (Nat.le_of_ble_eq_true rfl) ct_x2_keep (fun I8 L9 R10 S11 => ?_)
      refine s_iload_n 0 dX10_wave_35 rfl rfl ?_
      exact s_iret dX10_wave_36 rfl (fun f h => h)
    · skip
      refine s_iconst (v := (-1)) dX10_wave_9 rfl cI_m1 ?_
      exact s_iret dX10_wave_10 rfl (fun f h => h)
noncomputable def x1_turnOf (t : Nat) (q1 : Nat) (p2 : Int32) (p3 : Int32) (I : MI) : Option (Int32 × MI) :=
b2 (x1_choose t q1 p2 p3 I) fun r1 I2 =>
lt r1 fun v3 =>
if v3 = (-1) then (
b1 (x1_takeBreath t q1 p2 I2) fun I6 =>
some ((0 : Int32), I6)) else
b2 (x1_tryInEarnest t q1 p2 (v3 / 10) (rm v3 10) I2) fun r4 I5 =>
if r4 = 0 then (
some ((0 : Int32), I5)) else
some ((1 : Int32), I5)
theorem ct_x1_turnOf {X : WX} {t : Nat} {q1 : Nat} {p2 : Int32} {p3 : Int32} {I : MI} {L : ML} {R : MR} {S : MS} (hK : okr R S) (ht : R 27 0 = some t ∧ isT t) (hq1 : isSt R S q1) : Ct X yX1_turnOf cX1_turnOf 5 (some .int) 4 103 [.ref (X.1 + 27), .ref (X.1 + q1), .int p2, .int p3] (I, L, R, S) (x1_turnOf t q1 p2 p3 I) (fun r => (some (.int r.1), (r.2, L, R, S))) := by
  refine Ct.of (by decide) (Nat.le_of_ble_eq_true rfl) [(0, .ref (X.1 + 27)), (1, .ref (X.1 + q1)), (2, .int p2), (3, .int p3)] rfl ?_
  unfold x1_turnOf
  refine s_aload_n 0 dX1_turnOf_0 rfl rfl ?_
  refine s_aload_n 1 dX1_turnOf_1 rfl rfl ?_
  refine s_iload_n 2 dX1_turnOf_2 rfl rfl ?_
  refine s_iload_n 3 dX1_turnOf_3 rfl rfl ?_
  refine s_callV3_i1 dX1_turnOf_4 rfl lkV_RX1_186 (S_27 hK) (Nat.le_of_ble_eq_true rfl) (Nat.le_of_ble_eq_true rfl) (Nat.le_of_ble_eq_true rfl) (ct_x1_choose hK ht hq1) (fun r1 I2 => ?_)
  refine s_istoreL (fun v3 => [(4, .int v3), (0, .ref (X.1 + 27)), (1, .ref (X.1 + q1)), (2, .int p2), (3, .int p3)]) dX1_turnOf_7 rfl (by decide) (fun _ => rfl) (fun v3 => ?_)
  refine s_iload 0 dX1_turnOf_9 rfl rfl ?_
  refine s_iconst (v := (-1)) dX1_turnOf_11 rfl cI_m1 ?_
  refine s_icmp_ne (tgt := 23) dX1_turnOf_12 rfl rfl (fun _ => ?_) (fun _ => ?_)
  · skip
    refine s_aload_n 1 dX1_turnOf_23 rfl rfl ?_
    refine s_aload_n 2 dX1_turnOf_24 rfl rfl ?_
    refine s_iload_n 3 dX1_turnOf_25 rfl rfl ?_
    refine s_iload 0 dX1_turnOf_26 rfl rfl ?_
    refine s_bipush (v := 10) dX1_turnOf_28 rfl cB_10 ?_
    refine s_idiv dX1_turnOf_30 rfl (by decide) ?_
    refine s_iload 0 dX1_turnOf_31 rfl rfl ?_
    refine s_bipush (v := 10) dX1_turnOf_33 rfl cB_10 ?_
    refine s_irem dX1_turnOf_35 rfl (by decide) ?_
    refine s_callV4_i1 dX1_turnOf_36 rfl lkV_RX1_192 (S_27 hK) (Nat.le_of_ble_eq_true rfl) (Nat.le_of_ble_eq_true rfl) (Nat.le_of_ble_eq_true rfl) (ct_x1_tryInEarnest hK ht hq1) (fun r4 I5 => ?_)
    refine s_if_eq (tgt := 46) dX1_turnOf_39 rfl rfl (fun _ => ?_) (fun _ => ?_)
    · skip
      refine s_iconst (v := 0) dX1_turnOf_46 rfl cI_0 ?_
      exact s_iret dX1_turnOf_47 rfl (fun f h => h)
    · skip
      refine s_iconst (v := 1) dX1_turnOf_42 rfl cI_1 ?_
      refine s_goto (tgt := 47) dX1_turnOf_43 rfl ?_
      exact s_iret dX1_turnOf_47 rfl (fun f h => h)
  · skip
    refine s_aload_n 1 dX1_turnOf_15 rfl rfl ?_
    refine s_aload_n 2 dX1_turnOf_16 rfl rfl ?_
    refine s_iload_n 3 dX1_turnOf_17 rfl rfl ?_
    refine s_callV2_v1 dX1_turnOf_18 rfl lkV_RX1_189 (S_27 hK) (Nat.le_of_ble_eq_true rfl) (Nat.le_of_ble_eq_true rfl) (Nat.le_of_ble_eq_true rfl) (ct_x1_takeBreath hK ht hq1) (fun I6 => ?_)
    refine s_iconst (v := 0) dX1_turnOf_21 rfl cI_0 ?_
    exact s_iret dX1_turnOf_22 rfl (fun f h => h)
noncomputable def x1_turnOfAll_L4s (t : Nat) (q1 : Nat) (rec : Int32 → Int32 → MI → Option (Int32 × MI)) (w2 : Int32) (w3 : Int32) (I : MI) : Option (Int32 × MI) :=
if w3 < (I t 11) then (
b1 (x8_ruleOf t w3 I) fun r3 =>
b2 (x1_turnOf t q1 w3 r3 I) fun r4 I5 =>
lt (w2 + r4) fun v6 =>
lt (w3 + 1) fun v7 =>
rec v6 v7 I5) else
some (w2, I)
noncomputable def x1_turnOfAll_L4 (t : Nat) (q1 : Nat) : Nat → Int32 → Int32 → MI → Option (Int32 × MI)
  | 0 => fun _ _ _ => none
  | n + 1 => x1_turnOfAll_L4s t q1 (x1_turnOfAll_L4 t q1 n)
noncomputable def x1_turnOfAll (t : Nat) (q1 : Nat) (I : MI) : Option (Int32 × MI) :=
lt (0 : Int32) fun v1 =>
lt (0 : Int32) fun v2 =>
b1 (x1_turnOfAll_L4 t q1 FU v1 v2 I) fun e8 =>
some (e8.1, e8.2)
theorem x1_turnOfAll_L4_ok {X : WX} {n0 s0 : Nat} {t : Nat} {q1 : Nat} {L : ML} {R : MR} {S : MS} (hK : okr R S) (ht : R 27 0 = some t ∧ isT t) (hq1 : isSt R S q1) : ∀ (n : Nat) (w2 : Int32) (w3 : Int32) (I : MI), Sim X yX1_turnOfAll cX1_turnOfAll 4 (some .int) 5 127 n0 s0 4 [(0, .ref (X.1 + 27)), (1, .ref (X.1 + q1)), (2, .int w2), (3, .int w3)] [] (I, L, R, S) (x1_turnOfAll_L4 t q1 n w2 w3 I) (fun b f => Ex X yX1_turnOfAll cX1_turnOfAll 4 (some .int) 5 127 n0 s0 38 [(2, .int b.1)] [] (b.2, L, R, S) f) := by
  intro n
  induction n with
  | zero =>
    intro w2 w3 I
    exact sm_none
  | succ n ih =>
    intro w2 w3 I
    change Sim _ _ _ _ _ _ _ _ _ _ _ _ _ (x1_turnOfAll_L4s t q1 (x1_turnOfAll_L4 t q1 n) w2 w3 I) _
    unfold x1_turnOfAll_L4s
    refine s_iload_n 3 dX1_turnOfAll_4 rfl rfl ?_
    refine s_aload_n 0 dX1_turnOfAll_5 rfl rfl ?_
    refine s_getR t dX1_turnOfAll_6 rfl fl_1_17 rfl (S_27 hK) ht.1 ?_
    refine s_getI dX1_turnOfAll_9 rfl fl_1_195 (tS_0 hK ht.2) ?_
    refine s_icmp_ge (tgt := 38) dX1_turnOfAll_12 rfl rfl (fun _ => ?_) (fun _ => ?_)
    · skip
      refine s_pick [2] rfl ?_
      exact sm_exit (fun f h => h)
    · skip
      refine s_iload_n 2 dX1_turnOfAll_15 rfl rfl ?_
      refine s_aload_n 0 dX1_turnOfAll_16 rfl rfl ?_
      refine s_aload_n 1 dX1_turnOfAll_17 rfl rfl ?_
      refine s_iload_n 3 dX1_turnOfAll_18 rfl rfl ?_
      refine s_aload_n 0 dX1_turnOfAll_19 rfl rfl ?_
      refine s_getR t dX1_turnOfAll_20 rfl fl_1_17 rfl (S_27 hK) ht.1 ?_
      refine s_iload_n 3 dX1_turnOfAll_23 rfl rfl ?_
      refine s_callV1_i0 dX1_turnOfAll_24 rfl lkV_RX1_198 (tS_0 hK ht.2) (Nat.le_of_ble_eq_true rfl) (Nat.le_of_ble_eq_true rfl) (Nat.le_of_ble_eq_true rfl) (ct_x8_ruleOf hK ht.2) (fun r3 => ?_)
      refine s_callV3_i1 dX1_turnOfAll_27 rfl lkV_RX1_201 (S_27 hK) (Nat.le_of_ble_eq_true rfl) (Nat.le_of_ble_eq_true rfl) (Nat.le_of_ble_eq_true rfl) (ct_x1_turnOf hK ht hq1) (fun r4 I5 => ?_)
      refine s_iadd dX1_turnOfAll_30 rfl ?_
      refine s_istore_nL (fun v6 => [(2, .int v6), (0, .ref (X.1 + 27)), (1, .ref (X.1 + q1)), (3, .int w3)]) dX1_turnOfAll_31 rfl (by decide) (fun _ => rfl) (fun v6 => ?_)
      refine s_iincL 3 (c := 1) (fun v7 => [(3, .int v7), (2, .int v6), (0, .ref (X.1 + 27)), (1, .ref (X.1 + q1))]) dX1_turnOfAll_32 rfl rfl cI_1 (by decide) (fun _ => rfl) (fun v7 => ?_)
      refine s_goto (tgt := 4) dX1_turnOfAll_35 rfl ?_
      refine s_pick [2, 3, 1, 0] rfl ?_
      exact ih v6 v7 I5
theorem ct_x1_turnOfAll {X : WX} {t : Nat} {q1 : Nat} {I : MI} {L : ML} {R : MR} {S : MS} (hK : okr R S) (ht : R 27 0 = some t ∧ isT t) (hq1 : isSt R S q1) : Ct X yX1_turnOfAll cX1_turnOfAll 4 (some .int) 5 127 [.ref (X.1 + 27), .ref (X.1 + q1)] (I, L, R, S) (x1_turnOfAll t q1 I) (fun r => (some (.int r.1), (r.2, L, R, S))) := by
  refine Ct.of (by decide) (Nat.le_of_ble_eq_true rfl) [(0, .ref (X.1 + 27)), (1, .ref (X.1 + q1))] rfl ?_
  unfold x1_turnOfAll
  refine s_iconst (v := 0) dX1_turnOfAll_0 rfl cI_0 ?_
  refine s_istore_nL (fun v1 => [(2, .int v1), (0, .ref (X.1 + 27)), (1, .ref (X.1 + q1))]) dX1_turnOfAll_1 rfl (by decide) (fun _ => rfl) (fun v1 => ?_)
  refine s_iconst (v := 0) dX1_turnOfAll_2 rfl cI_0 ?_
  refine s_istore_nL (fun v2 => [(3, .int v2), (2, .int v1), (0, .ref (X.1 + 27)), (1, .ref (X.1 + q1))]) dX1_turnOfAll_3 rfl (by decide) (fun _ => rfl) (fun v2 => ?_)
  refine s_pick [2, 3, 1, 0] rfl ?_
  refine sm_reg (x1_turnOfAll_L4_ok hK ht hq1 FU v1 v2 I) (fun e8 => ?_)
  refine s_iload_n 0 dX1_turnOfAll_38 rfl rfl ?_
  exact s_iret dX1_turnOfAll_39 rfl (fun f h => h)
noncomputable def x10_party_L16s (c1 : Int32) (R : MR) (S : MS) (rec : Int32 → Int32 → MI → Option (Int32 × MI)) (w2 : Int32) (w3 : Int32) (I : MI) : Option (Int32 × MI) :=
if w3 < c1 then (
ck (okr R S) <|
b1 (R 27 0) fun t_4 =>
ck (isT t_4) <|
b2 (x1_turnOfAll t_4 47 I) fun r7 I8 =>
lt (w2 + r7) fun v9 =>
lt (w3 + 1) fun v10 =>
rec v9 v10 I8) else
some (w2, I)
noncomputable def x10_party_L16 (c1 : Int32) (R : MR) (S : MS) : Nat → Int32 → Int32 → MI → Option (Int32 × MI)
  | 0 => fun _ _ _ => none
  | n + 1 => x10_party_L16s c1 R S (x10_party_L16 c1 R S n)
noncomputable def x10_party (p1 : Int32) (I : MI) (L : ML) (R : MR) (S : MS) : Option (Int32 × MI × ML × MR × MS) :=
if p1 < 0 then (
some ((-1 : Int32), I, L, R, S)) else
if 20 < p1 then (
some ((-1 : Int32), I, L, R, S)) else
lt (0 : Int32) fun v1 =>
lt (0 : Int32) fun v2 =>
b1 (x10_party_L16 p1 R S FU v1 v2 I) fun e11 =>
ck (okr R S) <|
b4 (x2_keep 47 e11.2 L R S) fun I13 L14 R15 S16 =>
some (e11.1, I13, L14, R15, S16)
theorem x10_party_L16_ok {X : WX} {n0 s0 : Nat} {c1 : Int32} {L : ML} {R : MR} {S : MS} : ∀ (n : Nat) (w2 : Int32) (w3 : Int32) (I : MI), Sim X yX10_party cX10_party 4 (some .int) 6 150 n0 s0 16 [(0, .ref (X.1 + 0)), (1, .int c1), (2, .int w2), (3, .int w3)] [] (I, L, R, S) (x10_party_L16 c1 R S n w2 w3 I) (fun b f => Ex X yX10_party cX10_party 4 (some .int) 6 150 n0 s0 41 [(0, .ref (X.1 + 0)), (2, .int b.1)] [] (b.2, L, R, S) f) := by
  intro n
  induction n with
  | zero =>
    intro w2 w3 I
    exact sm_none
  | succ n ih =>
    intro w2 w3 I
    change Sim _ _ _ _ _ _ _ _ _ _ _ _ _ (x10_party_L16s c1 R S (x10_party_L16 c1 R S n) w2 w3 I) _
    unfold x10_party_L16s
    refine s_iload_n 3 dX10_party_16 rfl rfl ?_
    refine s_iload_n 1 dX10_party_17 rfl rfl ?_
    refine s_icmp_ge (tgt := 41) dX10_party_18 rfl rfl (fun _ => ?_) (fun _ => ?_)
    · skip
      refine s_pick [0, 2] rfl ?_
      exact sm_exit (fun f h => h)
    · skip
      refine s_iload_n 2 dX10_party_21 rfl rfl ?_
      refine s_aload_n 0 dX10_party_22 rfl rfl ?_
      refine sm_ck (fun g3 => ?_)
      refine s_getR 27 dX10_party_23 rfl fl_10_32 rfl (S_0 g3) (R_0_4 g3) ?_
      refine s_aload_n 0 dX10_party_26 rfl rfl ?_
      refine s_getR 47 dX10_party_27 rfl fl_10_39 rfl (S_0 g3) (R_0_5 g3) ?_
      refine sm_b1 (fun t_4 h5 => ?_)
      refine sm_ck (fun g6 => ?_)
      refine s_callV1_i1 dX10_party_30 rfl lkV_RX10_186 (S_27 g3) (Nat.le_of_ble_eq_true rfl) (Nat.le_of_ble_eq_true rfl) (Nat.le_of_ble_eq_true rfl) (ct_x1_turnOfAll g3 (⟨h5, g6⟩) (st_47 g3)) (fun r7 I8 => ?_)
      refine s_iadd dX10_party_33 rfl ?_
      refine s_istore_nL (fun v9 => [(2, .int v9), (0, .ref (X.1 + 0)), (1, .int c1), (3, .int w3)]) dX10_party_34 rfl (by decide) (fun _ => rfl) (fun v9 => ?_)
      refine s_iincL 3 (c := 1) (fun v10 => [(3, .int v10), (2, .int v9), (0, .ref (X.1 + 0)), (1, .int c1)]) dX10_party_35 rfl rfl cI_1 (by decide) (fun _ => rfl) (fun v10 => ?_)
      refine s_goto (tgt := 16) dX10_party_38 rfl ?_
      refine s_pick [2, 3, 1, 0] rfl ?_
      exact ih v9 v10 I8
theorem ct_x10_party {X : WX} {p1 : Int32} {I : MI} {L : ML} {R : MR} {S : MS} : Ct X yX10_party cX10_party 4 (some .int) 6 150 [.ref (X.1 + 0), .int p1] (I, L, R, S) (x10_party p1 I L R S) (fun r => (some (.int r.1), (r.2.1, r.2.2.1, r.2.2.2.1, r.2.2.2.2))) := by
  refine Ct.of (by decide) (Nat.le_of_ble_eq_true rfl) [(0, .ref (X.1 + 0)), (1, .int p1)] rfl ?_
  unfold x10_party
  refine s_iload_n 1 dX10_party_0 rfl rfl ?_
  refine s_if_lt (tgt := 10) dX10_party_1 rfl rfl (fun _ => ?_) (fun _ => ?_)
  · skip
    refine s_iconst (v := (-1)) dX10_party_10 rfl cI_m1 ?_
    exact s_iret dX10_party_11 rfl (fun f h => h)
  · skip
    refine s_iload_n 1 dX10_party_4 rfl rfl ?_
    refine s_bipush (v := 20) dX10_party_5 rfl cB_20 ?_
    refine s_icmp_le (tgt := 12) dX10_party_7 rfl rfl (fun _ => ?_) (fun _ => ?_)
    · skip
      refine s_iconst (v := 0) dX10_party_12 rfl cI_0 ?_
      refine s_istore_nL (fun v1 => [(2, .int v1), (0, .ref (X.1 + 0)), (1, .int p1)]) dX10_party_13 rfl (by decide) (fun _ => rfl) (fun v1 => ?_)
      refine s_iconst (v := 0) dX10_party_14 rfl cI_0 ?_
      refine s_istore_nL (fun v2 => [(3, .int v2), (2, .int v1), (0, .ref (X.1 + 0)), (1, .int p1)]) dX10_party_15 rfl (by decide) (fun _ => rfl) (fun v2 => ?_)
      refine s_pick [2, 3, 1, 0] rfl ?_
      refine sm_reg (x10_party_L16_ok  FU v1 v2 I) (fun e11 => ?_)
      refine s_aload_n 0 dX10_party_41 rfl rfl ?_
      refine sm_ck (fun g12 => ?_)
      refine s_getR 59 dX10_party_42 rfl fl_10_46 rfl (S_0 g12) (R_0_6 g12) ?_
      refine s_aload_n 0 dX10_party_45 rfl rfl ?_
      refine s_getR 47 dX10_party_46 rfl fl_10_39 rfl (S_0 g12) (R_0_5 g12) ?_
      refine s_callV1_v3 dX10_party_49 rfl lkV_RX10_175 (S_59 g12) (Nat.le_of_ble_eq_true rfl) (Nat.le_of_ble_eq_true rfl) (Nat.le_of_ble_eq_true rfl) ct_x2_keep (fun I13 L14 R15 S16 => ?_)
      refine s_iload_n 1 dX10_party_52 rfl rfl ?_
      exact s_iret dX10_party_53 rfl (fun f h => h)
    · skip
      refine s_iconst (v := (-1)) dX10_party_10 rfl cI_m1 ?_
      exact s_iret dX10_party_11 rfl (fun f h => h)
noncomputable def x2_stepBack (q1 : Nat) (I : MI) (L : ML) (R : MR) (S : MS) : Option (Int32 × MI × ML × MR × MS) :=
ck (okr R S) <|
if (I 59 2) = 0 then (
some ((0 : Int32), I, L, R, S)) else
lt (wI I 59 2 ((I 59 2) - 1)) fun I2 =>
lt (wI I2 59 3 ((I2 59 3) + 1)) fun I3 =>
b5 (x2_atHand I3 L R S) fun q_4 I5 L6 R7 S8 =>
ck (isSt R7 S8 q1) <|
ck (isSt R7 S8 q_4) <|
ck (okr R7 S8) <|
ck (S8[q1]? = some (7, 12)) <|
b1 (x7_copyAll q1 q_4 I5) fun I12 =>
some ((1 : Int32), I12, L6, R7, S8)
theorem ct_x2_stepBack {X : WX} {q1 : Nat} {I : MI} {L : ML} {R : MR} {S : MS} : Ct X yX2_stepBack cX2_stepBack 2 (some .boolean) 3 102 [.ref (X.1 + 59), .ref (X.1 + q1)] (I, L, R, S) (x2_stepBack q1 I L R S) (fun r => (some (.int r.1), (r.2.1, r.2.2.1, r.2.2.2.1, r.2.2.2.2))) := by
  refine Ct.of (by decide) (Nat.le_of_ble_eq_true rfl) [(0, .ref (X.1 + 59)), (1, .ref (X.1 + q1))] rfl ?_
  unfold x2_stepBack
  refine s_aload_n 0 dX2_stepBack_0 rfl rfl ?_
  refine sm_ck (fun g1 => ?_)
  refine s_getI dX2_stepBack_1 rfl fl_2_19 (S_59 g1) ?_
  refine s_if_ne (tgt := 9) dX2_stepBack_4 rfl rfl (fun _ => ?_) (fun _ => ?_)
  · skip
    refine s_aload_n 0 dX2_stepBack_9 rfl rfl ?_
    refine s_dup dX2_stepBack_10 rfl rfl ?_
    refine s_getI dX2_stepBack_11 rfl fl_2_19 (S_59 g1) ?_
    refine s_iconst (v := 1) dX2_stepBack_14 rfl cI_1 ?_
    refine s_isub dX2_stepBack_15 rfl ?_
    refine s_putIL dX2_stepBack_16 rfl fl_2_19 (S_59 g1) (fun I2 => ?_)
    refine s_aload_n 0 dX2_stepBack_19 rfl rfl ?_
    refine s_dup dX2_stepBack_20 rfl rfl ?_
    refine s_getI dX2_stepBack_21 rfl fl_2_22 (S_59 g1) ?_
    refine s_iconst (v := 1) dX2_stepBack_24 rfl cI_1 ?_
    refine s_iadd dX2_stepBack_25 rfl ?_
    refine s_putIL dX2_stepBack_26 rfl fl_2_22 (S_59 g1) (fun I3 => ?_)
    refine s_aload_n 1 dX2_stepBack_29 rfl rfl ?_
    refine s_aload_n 0 dX2_stepBack_30 rfl rfl ?_
    refine s_callV0_r3 dX2_stepBack_31 rfl lkV_RX2_25 (S_59 g1) (Nat.le_of_ble_eq_true rfl) (Nat.le_of_ble_eq_true rfl) (Nat.le_of_ble_eq_true rfl) ct_x2_atHand (fun q_4 I5 L6 R7 S8 => ?_)
    refine sm_ck (fun g9 => ?_)
    refine sm_ck (fun g10 => ?_)
    refine sm_ck (fun g11 => ?_)
    refine sm_ck (fun g13 => ?_)
    refine s_callV1_v1 dX2_stepBack_34 rfl lkV_RX2_29 g13 (Nat.le_of_ble_eq_true rfl) (Nat.le_of_ble_eq_true rfl) (Nat.le_of_ble_eq_true rfl) (ct_x7_copyAll g11 g9 g10) (fun I12 => ?_)
    refine s_iconst (v := 1) dX2_stepBack_37 rfl cI_1 ?_
    exact s_zret dX2_stepBack_38 rfl (Or.inr rfl) (fun f h => h)
  · skip
    refine s_iconst (v := 0) dX2_stepBack_7 rfl cI_0 ?_
    exact s_zret dX2_stepBack_8 rfl (Or.inl rfl) (fun f h => h)
noncomputable def x10_undo (I : MI) (L : ML) (R : MR) (S : MS) : Option (Int32 × MI × ML × MR × MS) :=
ck (okr R S) <|
b5 (x2_stepBack 47 I L R S) fun r2 I3 L4 R5 S6 =>
ck (r2 = 0 ∨ r2 = 1) (some (r2, I3, L4, R5, S6))
theorem ct_x10_undo {X : WX} {I : MI} {L : ML} {R : MR} {S : MS} : Ct X yX10_undo cX10_undo 1 (some .boolean) 4 123 [.ref (X.1 + 0)] (I, L, R, S) (x10_undo I L R S) (fun r => (some (.int r.1), (r.2.1, r.2.2.1, r.2.2.2.1, r.2.2.2.2))) := by
  refine Ct.of (by decide) (Nat.le_of_ble_eq_true rfl) [(0, .ref (X.1 + 0))] rfl ?_
  unfold x10_undo
  refine s_aload_n 0 dX10_undo_0 rfl rfl ?_
  refine sm_ck (fun g1 => ?_)
  refine s_getR 59 dX10_undo_1 rfl fl_10_46 rfl (S_0 g1) (R_0_6 g1) ?_
  refine s_aload_n 0 dX10_undo_4 rfl rfl ?_
  refine s_getR 47 dX10_undo_5 rfl fl_10_39 rfl (S_0 g1) (R_0_5 g1) ?_
  refine s_callV1_i3 dX10_undo_8 rfl lkV_RX10_190 (S_59 g1) (Nat.le_of_ble_eq_true rfl) (Nat.le_of_ble_eq_true rfl) (Nat.le_of_ble_eq_true rfl) ct_x2_stepBack (fun r2 I3 L4 R5 S6 => ?_)
  refine sm_ck (fun g7 => ?_)
  exact s_zret dX10_undo_11 rfl g7 (fun f h => h)
noncomputable def x2_stepOn (q1 : Nat) (I : MI) (L : ML) (R : MR) (S : MS) : Option (Int32 × MI × ML × MR × MS) :=
ck (okr R S) <|
if (I 59 3) = 0 then (
some ((0 : Int32), I, L, R, S)) else
lt (wI I 59 2 ((I 59 2) + 1)) fun I2 =>
lt (wI I2 59 3 ((I2 59 3) - 1)) fun I3 =>
b5 (x2_atHand I3 L R S) fun q_4 I5 L6 R7 S8 =>
ck (isSt R7 S8 q1) <|
ck (isSt R7 S8 q_4) <|
ck (okr R7 S8) <|
ck (S8[q1]? = some (7, 12)) <|
b1 (x7_copyAll q1 q_4 I5) fun I12 =>
some ((1 : Int32), I12, L6, R7, S8)
theorem ct_x2_stepOn {X : WX} {q1 : Nat} {I : MI} {L : ML} {R : MR} {S : MS} : Ct X yX2_stepOn cX2_stepOn 2 (some .boolean) 3 102 [.ref (X.1 + 59), .ref (X.1 + q1)] (I, L, R, S) (x2_stepOn q1 I L R S) (fun r => (some (.int r.1), (r.2.1, r.2.2.1, r.2.2.2.1, r.2.2.2.2))) := by
  refine Ct.of (by decide) (Nat.le_of_ble_eq_true rfl) [(0, .ref (X.1 + 59)), (1, .ref (X.1 + q1))] rfl ?_
  unfold x2_stepOn
  refine s_aload_n 0 dX2_stepOn_0 rfl rfl ?_
  refine sm_ck (fun g1 => ?_)
  refine s_getI dX2_stepOn_1 rfl fl_2_22 (S_59 g1) ?_
  refine s_if_ne (tgt := 9) dX2_stepOn_4 rfl rfl (fun _ => ?_) (fun _ => ?_)
  · skip
    refine s_aload_n 0 dX2_stepOn_9 rfl rfl ?_
    refine s_dup dX2_stepOn_10 rfl rfl ?_
    refine s_getI dX2_stepOn_11 rfl fl_2_19 (S_59 g1) ?_
    refine s_iconst (v := 1) dX2_stepOn_14 rfl cI_1 ?_
    refine s_iadd dX2_stepOn_15 rfl ?_
    refine s_putIL dX2_stepOn_16 rfl fl_2_19 (S_59 g1) (fun I2 => ?_)
    refine s_aload_n 0 dX2_stepOn_19 rfl rfl ?_
    refine s_dup dX2_stepOn_20 rfl rfl ?_
    refine s_getI dX2_stepOn_21 rfl fl_2_22 (S_59 g1) ?_
    refine s_iconst (v := 1) dX2_stepOn_24 rfl cI_1 ?_
    refine s_isub dX2_stepOn_25 rfl ?_
    refine s_putIL dX2_stepOn_26 rfl fl_2_22 (S_59 g1) (fun I3 => ?_)
    refine s_aload_n 1 dX2_stepOn_29 rfl rfl ?_
    refine s_aload_n 0 dX2_stepOn_30 rfl rfl ?_
    refine s_callV0_r3 dX2_stepOn_31 rfl lkV_RX2_25 (S_59 g1) (Nat.le_of_ble_eq_true rfl) (Nat.le_of_ble_eq_true rfl) (Nat.le_of_ble_eq_true rfl) ct_x2_atHand (fun q_4 I5 L6 R7 S8 => ?_)
    refine sm_ck (fun g9 => ?_)
    refine sm_ck (fun g10 => ?_)
    refine sm_ck (fun g11 => ?_)
    refine sm_ck (fun g13 => ?_)
    refine s_callV1_v1 dX2_stepOn_34 rfl lkV_RX2_29 g13 (Nat.le_of_ble_eq_true rfl) (Nat.le_of_ble_eq_true rfl) (Nat.le_of_ble_eq_true rfl) (ct_x7_copyAll g11 g9 g10) (fun I12 => ?_)
    refine s_iconst (v := 1) dX2_stepOn_37 rfl cI_1 ?_
    exact s_zret dX2_stepOn_38 rfl (Or.inr rfl) (fun f h => h)
  · skip
    refine s_iconst (v := 0) dX2_stepOn_7 rfl cI_0 ?_
    exact s_zret dX2_stepOn_8 rfl (Or.inl rfl) (fun f h => h)
noncomputable def x10_redo (I : MI) (L : ML) (R : MR) (S : MS) : Option (Int32 × MI × ML × MR × MS) :=
ck (okr R S) <|
b5 (x2_stepOn 47 I L R S) fun r2 I3 L4 R5 S6 =>
ck (r2 = 0 ∨ r2 = 1) (some (r2, I3, L4, R5, S6))
theorem ct_x10_redo {X : WX} {I : MI} {L : ML} {R : MR} {S : MS} : Ct X yX10_redo cX10_redo 1 (some .boolean) 4 123 [.ref (X.1 + 0)] (I, L, R, S) (x10_redo I L R S) (fun r => (some (.int r.1), (r.2.1, r.2.2.1, r.2.2.2.1, r.2.2.2.2))) := by
  refine Ct.of (by decide) (Nat.le_of_ble_eq_true rfl) [(0, .ref (X.1 + 0))] rfl ?_
  unfold x10_redo
  refine s_aload_n 0 dX10_redo_0 rfl rfl ?_
  refine sm_ck (fun g1 => ?_)
  refine s_getR 59 dX10_redo_1 rfl fl_10_46 rfl (S_0 g1) (R_0_6 g1) ?_
  refine s_aload_n 0 dX10_redo_4 rfl rfl ?_
  refine s_getR 47 dX10_redo_5 rfl fl_10_39 rfl (S_0 g1) (R_0_5 g1) ?_
  refine s_callV1_i3 dX10_redo_8 rfl lkV_RX10_194 (S_59 g1) (Nat.le_of_ble_eq_true rfl) (Nat.le_of_ble_eq_true rfl) (Nat.le_of_ble_eq_true rfl) ct_x2_stepOn (fun r2 I3 L4 R5 S6 => ?_)
  refine sm_ck (fun g7 => ?_)
  exact s_zret dX10_redo_11 rfl g7 (fun f h => h)
noncomputable def x6_level (p1 : Int32) (I : MI) (L : ML) (R : MR) (S : MS) : Option (Nat × MI × ML × MR × MS) :=
lt (if (0 : Int32) < (if p1 < 8 then p1 else 8) then (if p1 < 8 then p1 else 8) else 0) fun v1 =>
ck (okr R S) <|
ck (vp_in v1 9) <|
if (R 64 (ix v1)).isNone = true then (
al (7, 12) I L R S fun o_4 I5 L6 R7 S8 =>
b4 (x7_init o_4 I5 L6 R7 S8) fun I9 L10 R11 S12 =>
ck (okr R11 S12) <|
ck (S12[o_4]? = some (7, 12)) <|
ck (vp_in v1 9) <|
lt (wR R11 64 (ix v1) (some o_4)) fun R16 =>
ck (okr R16 S12) <|
ck (vp_in v1 9) <|
b1 (R16 64 (ix v1)) fun q_19 =>
some (q_19, I9, L10, R16, S12)) else
ck (vp_in v1 9) <|
b1 (R 64 (ix v1)) fun q_22 =>
some (q_22, I, L, R, S)
theorem ct_x6_level {X : WX} {p1 : Int32} {I : MI} {L : ML} {R : MR} {S : MS} : Ct X yX6_level cX6_level 3 (some (.object "TubBites$State")) 2 40 [.ref (X.1 + 63), .int p1] (I, L, R, S) (x6_level p1 I L R S) (fun r => (some (.ref (X.1 + r.1)), (r.2.1, r.2.2.1, r.2.2.2.1, r.2.2.2.2))) := by
  refine Ct.of (by decide) (Nat.le_of_ble_eq_true rfl) [(0, .ref (X.1 + 63)), (1, .int p1)] rfl ?_
  unfold x6_level
  refine s_iconst (v := 0) dX6_level_0 rfl cI_0 ?_
  refine s_bipush (v := 8) dX6_level_1 rfl cB_8 ?_
  refine s_iload_n 1 dX6_level_3 rfl rfl ?_
  refine s_mmin dX6_level_4 rfl lkw_6_25 lk_mmin (Nat.le_of_ble_eq_true rfl) (Nat.le_of_ble_eq_true rfl) (Nat.le_of_ble_eq_true rfl) ?_
  refine s_mmax dX6_level_7 rfl lkw_6_31 lk_mmax (Nat.le_of_ble_eq_true rfl) (Nat.le_of_ble_eq_true rfl) (Nat.le_of_ble_eq_true rfl) ?_
  refine s_istore_nL (fun v1 => [(2, .int v1), (0, .ref (X.1 + 63)), (1, .int p1)]) dX6_level_10 rfl (by decide) (fun _ => rfl) (fun v1 => ?_)
  refine s_aload_n 1 dX6_level_11 rfl rfl ?_
  refine sm_ck (fun g2 => ?_)
  refine s_getR 64 dX6_level_12 rfl fl_6_13 rfl (S_63 g2) (R_63_1 g2) ?_
  refine s_iload_n 0 dX6_level_15 rfl rfl ?_
  refine sm_ck (fun g3 => ?_)
  refine s_aaldN (tgt := 33) dX6_level_16 dX6_level_17 rfl rfl (S_64 g2) g3 (fun _ => ?_) (fun _ _ => ?_)
  · skip
    refine s_aload_n 1 dX6_level_20 rfl rfl ?_
    refine s_getR 64 dX6_level_21 rfl fl_6_13 rfl (S_63 g2) (R_63_1 g2) ?_
    refine s_iload_n 0 dX6_level_24 rfl rfl ?_
    refine s_newL dX6_level_25 rfl nl_6_11 (fun o_4 I5 L6 R7 S8 => ?_)
    refine s_dup dX6_level_28 rfl rfl ?_
    refine s_callI0_v3 dX6_level_29 rfl lkI_RX6_34 (Nat.le_of_ble_eq_true rfl) (Nat.le_of_ble_eq_true rfl) (Nat.le_of_ble_eq_true rfl) ct_x7_init (fun I9 L10 R11 S12 => ?_)
    refine sm_ck (fun g13 => ?_)
    refine sm_ck (fun g14 => ?_)
    refine sm_ck (fun g15 => ?_)
    refine s_aastL dX6_level_32 rfl (S_64 g13) g14 g15 (fun R16 => ?_)
    refine s_aload_n 1 dX6_level_33 rfl rfl ?_
    refine sm_ck (fun g17 => ?_)
    refine s_getR 64 dX6_level_34 rfl fl_6_13 rfl (S_63 g17) (R_63_1 g17) ?_
    refine s_iload_n 0 dX6_level_37 rfl rfl ?_
    refine sm_ck (fun g18 => ?_)
    refine s_aald dX6_level_38 rfl (S_64 g17) g18 (fun q_19 h20 => ?_)
    exact s_aret dX6_level_39 rfl (fun f h => h)
  · skip
    refine s_aload_n 1 dX6_level_33 rfl rfl ?_
    refine s_getR 64 dX6_level_34 rfl fl_6_13 rfl (S_63 g2) (R_63_1 g2) ?_
    refine s_iload_n 0 dX6_level_37 rfl rfl ?_
    refine sm_ck (fun g21 => ?_)
    refine s_aald dX6_level_38 rfl (S_64 g2) g21 (fun q_22 h23 => ?_)
    exact s_aret dX6_level_39 rfl (fun f h => h)
noncomputable def x6_nextLevel (p1 : Int32) (I : MI) (L : ML) (R : MR) (S : MS) : Option (Nat × MI × ML × MR × MS) :=
ck (okr R S) <|
b5 (x6_level (p1 + 1) I L R S) fun q_2 I3 L4 R5 S6 =>
ck (okr R5 S6) <|
b5 (x6_level p1 I3 L4 R5 S6) fun q_8 I9 L10 R11 S12 =>
ck (isSt R11 S12 q_2) <|
ck (isSt R11 S12 q_8) <|
ck (okr R11 S12) <|
ck (S12[q_2]? = some (7, 12)) <|
b1 (x7_copyPlay q_2 q_8 I9) fun I16 =>
some (q_2, I16, L10, R11, S12)
theorem ct_x6_nextLevel {X : WX} {p1 : Int32} {I : MI} {L : ML} {R : MR} {S : MS} : Ct X yX6_nextLevel cX6_nextLevel 3 (some (.object "TubBites$State")) 3 81 [.ref (X.1 + 63), .int p1] (I, L, R, S) (x6_nextLevel p1 I L R S) (fun r => (some (.ref (X.1 + r.1)), (r.2.1, r.2.2.1, r.2.2.2.1, r.2.2.2.2))) := by
  refine Ct.of (by decide) (Nat.le_of_ble_eq_true rfl) [(0, .ref (X.1 + 63)), (1, .int p1)] rfl ?_
  unfold x6_nextLevel
  refine s_aload_n 0 dX6_nextLevel_0 rfl rfl ?_
  refine s_iload_n 1 dX6_nextLevel_1 rfl rfl ?_
  refine s_iconst (v := 1) dX6_nextLevel_2 rfl cI_1 ?_
  refine s_iadd dX6_nextLevel_3 rfl ?_
  refine sm_ck (fun g1 => ?_)
  refine s_callV1_r3 dX6_nextLevel_4 rfl lkV_RX6_35 (S_63 g1) (Nat.le_of_ble_eq_true rfl) (Nat.le_of_ble_eq_true rfl) (Nat.le_of_ble_eq_true rfl) ct_x6_level (fun q_2 I3 L4 R5 S6 => ?_)
  refine s_astore_n [(2, .ref (X.1 + q_2)), (0, .ref (X.1 + 63)), (1, .int p1)] dX6_nextLevel_7 rfl (by decide) rfl ?_
  refine s_aload_n 0 dX6_nextLevel_8 rfl rfl ?_
  refine s_aload_n 1 dX6_nextLevel_9 rfl rfl ?_
  refine s_iload_n 2 dX6_nextLevel_10 rfl rfl ?_
  refine sm_ck (fun g7 => ?_)
  refine s_callV1_r3 dX6_nextLevel_11 rfl lkV_RX6_35 (S_63 g7) (Nat.le_of_ble_eq_true rfl) (Nat.le_of_ble_eq_true rfl) (Nat.le_of_ble_eq_true rfl) ct_x6_level (fun q_8 I9 L10 R11 S12 => ?_)
  refine sm_ck (fun g13 => ?_)
  refine sm_ck (fun g14 => ?_)
  refine sm_ck (fun g15 => ?_)
  refine sm_ck (fun g17 => ?_)
  refine s_callV1_v1 dX6_nextLevel_14 rfl lkV_RX6_39 g17 (Nat.le_of_ble_eq_true rfl) (Nat.le_of_ble_eq_true rfl) (Nat.le_of_ble_eq_true rfl) (ct_x7_copyPlay g15 g13 g14) (fun I16 => ?_)
  refine s_aload_n 0 dX6_nextLevel_17 rfl rfl ?_
  exact s_aret dX6_nextLevel_18 rfl (fun f h => h)
noncomputable def x6_bestByTry (rc_bestFrom : Int32 → Int32 → MI → ML → MR → MS → Option (Int32 × MI × ML × MR × MS)) (p1 : Int32) (p2 : Int32) (p3 : Int32) (p4 : Int32) (I : MI) (L : ML) (R : MR) (S : MS) : Option (Int32 × MI × ML × MR × MS) :=
ck (okr R S) <|
if (I 63 3) = 0 then (
b5 (x6_level p1 I L R S) fun q_2 I3 L4 R5 S6 =>
ck (okr R5 S6) <|
b1 (R5 27 0) fun t_8 =>
ck (isT t_8) <|
ck (isSt R5 S6 q_2) <|
b2 (x1_oddsOf t_8 q_2 (I3 63 6) p3 p4 I3) fun r12 I13 =>
lt r12 fun v14 =>
ck (vp_in p4 5) <|
lt (p2 - (([1, 1, 2, 3, 1] : List Int32).getD (ix p4) 0)) fun v16 =>
b5 (x6_nextLevel p1 I13 L4 R5 S6) fun q_17 I18 L19 R20 S21 =>
ck (okr R20 S21) <|
ck (isSt R20 S21 q_17) <|
b1 (x1_getBy q_17 (I18 63 6) p3 p4 I18) fun I24 =>
b5 (rc_bestFrom (p1 + 1) v16 I24 L19 R20 S21) fun r25 I26 L27 R28 S29 =>
lt ((r25).toInt64) fun v30 =>
ck (okr R28 S29) <|
b5 (x6_nextLevel p1 I26 L27 R28 S29) fun q_32 I33 L34 R35 S36 =>
ck (okr R35 S36) <|
b1 (R35 27 0) fun t_38 =>
ck (isT t_38) <|
ck (isSt R35 S36 q_32) <|
b1 (x1_missBy t_38 q_32 (I33 63 6) p3 p4 I33) fun I42 =>
b5 (rc_bestFrom (p1 + 1) v16 I42 L34 R35 S36) fun r43 I44 L45 R46 S47 =>
lt ((r43).toInt64) fun v48 =>
some ((((((v14).toInt64 * (1000000 + v30)) + (((100 - v14)).toInt64 * v48)) / 100)).toInt32, I44, L45, R46, S47)) else
some ((0 : Int32), I, L, R, S)
theorem ct_x6_bestByTry {X : WX} {rc_bestFrom : Int32 → Int32 → MI → ML → MR → MS → Option (Int32 × MI × ML × MR × MS)} {Fb Lb : Nat} {p1 : Int32} {p2 : Int32} {p3 : Int32} {p4 : Int32} {I : MI} {L : ML} {R : MR} {S : MS} (h_rc_bestFrom : ∀ (p1 : Int32) (p2 : Int32) (I : MI) (L : ML) (R : MR) (S : MS), Ct X yX6_bestFrom cX6_bestFrom 9 (some .int) Fb Lb [.ref (X.1 + 63), .int p1, .int p2] (I, L, R, S) (rc_bestFrom p1 p2 I L R S) (fun r => (some (.int r.1), (r.2.1, r.2.2.1, r.2.2.2.1, r.2.2.2.2)))) : Ct X yX6_bestByTry cX6_bestByTry 11 (some .int) (Fb + 4) (Lb + 103) [.ref (X.1 + 63), .int p1, .int p2, .int p3, .int p4] (I, L, R, S) (x6_bestByTry rc_bestFrom p1 p2 p3 p4 I L R S) (fun r => (some (.int r.1), (r.2.1, r.2.2.1, r.2.2.2.1, r.2.2.2.2))) := by
  refine Ct.of (by decide) (Nat.le_of_ble_eq_true rfl) [(0, .ref (X.1 + 63)), (1, .int p1), (2, .int p2), (3, .int p3), (4, .int p4)] rfl ?_
  unfold x6_bestByTry
  refine s_aload_n 0 dX6_bestByTry_0 rfl rfl ?_
  refine sm_ck (fun g1 => ?_)
  refine s_getZ dX6_bestByTry_1 rfl fl_6_50 (S_63 g1) ?_
  refine s_if_eq (tgt := 9) dX6_bestByTry_4 rfl rfl (fun _ => ?_) (fun _ => ?_)
  · skip
    refine s_aload_n 0 dX6_bestByTry_9 rfl rfl ?_
    refine s_getR 27 dX6_bestByTry_10 rfl fl_6_21 rfl (S_63 g1) (R_63_0 g1) ?_
    refine s_aload_n 0 dX6_bestByTry_13 rfl rfl ?_
    refine s_iload_n 1 dX6_bestByTry_14 rfl rfl ?_
    refine s_callV1_r3 dX6_bestByTry_15 rfl lkV_RX6_35 (S_63 g1) (Nat.le_of_ble_eq_true rfl) (by omega) (by omega) ct_x6_level (fun q_2 I3 L4 R5 S6 => ?_)
    refine s_aload_n 0 dX6_bestByTry_18 rfl rfl ?_
    refine sm_ck (fun g7 => ?_)
    refine s_getI dX6_bestByTry_19 rfl fl_6_43 (S_63 g7) ?_
    refine s_iload_n 3 dX6_bestByTry_22 rfl rfl ?_
    refine s_iload 4 dX6_bestByTry_23 rfl rfl ?_
    refine sm_b1 (fun t_8 h9 => ?_)
    refine sm_ck (fun g10 => ?_)
    refine sm_ck (fun g11 => ?_)
    refine s_callV4_i1 dX6_bestByTry_25 rfl lkV_RX6_89 (S_27 g7) (Nat.le_of_ble_eq_true rfl) (by omega) (by omega) (ct_x1_oddsOf g7 (⟨h9, g10⟩) g11) (fun r12 I13 => ?_)
    refine s_istoreL (fun v14 => [(5, .int v14), (0, .ref (X.1 + 63)), (1, .int p1), (2, .int p2), (3, .int p3), (4, .int p4)]) dX6_bestByTry_28 rfl (by decide) (fun _ => rfl) (fun v14 => ?_)
    refine s_iload_n 3 dX6_bestByTry_30 rfl rfl ?_
    refine s_gets 0 4 dX6_bestByTry_31 rfl rfl rfl ?_
    refine s_iload 5 dX6_bestByTry_34 rfl rfl ?_
    refine sm_ck (fun g15 => ?_)
    refine s_tald 0 dX6_bestByTry_36 rfl rfl g15 ?_
    refine s_isub dX6_bestByTry_37 rfl ?_
    refine s_istoreL (fun v16 => [(6, .int v16), (5, .int v14), (0, .ref (X.1 + 63)), (1, .int p1), (2, .int p2), (3, .int p3), (4, .int p4)]) dX6_bestByTry_38 rfl (by decide) (fun _ => rfl) (fun v16 => ?_)
    refine s_aload_n 2 dX6_bestByTry_40 rfl rfl ?_
    refine s_getR 27 dX6_bestByTry_41 rfl fl_6_21 rfl (S_63 g7) (R_63_0 g7) ?_
    refine s_aload_n 2 dX6_bestByTry_44 rfl rfl ?_
    refine s_iload_n 3 dX6_bestByTry_45 rfl rfl ?_
    refine s_callV1_r3 dX6_bestByTry_46 rfl lkV_RX6_93 (S_63 g7) (Nat.le_of_ble_eq_true rfl) (by omega) (by omega) ct_x6_nextLevel (fun q_17 I18 L19 R20 S21 => ?_)
    refine s_aload_n 2 dX6_bestByTry_49 rfl rfl ?_
    refine sm_ck (fun g22 => ?_)
    refine s_getI dX6_bestByTry_50 rfl fl_6_43 (S_63 g22) ?_
    refine s_iload_n 5 dX6_bestByTry_53 rfl rfl ?_
    refine s_iload 6 dX6_bestByTry_54 rfl rfl ?_
    refine sm_ck (fun g23 => ?_)
    refine s_callV4_v1 dX6_bestByTry_56 rfl lkV_RX6_96 (S_27 g22) (Nat.le_of_ble_eq_true rfl) (by omega) (by omega) (ct_x1_getBy g22 g23) (fun I24 => ?_)
    refine s_aload_n 2 dX6_bestByTry_59 rfl rfl ?_
    refine s_iload_n 3 dX6_bestByTry_60 rfl rfl ?_
    refine s_iconst (v := 1) dX6_bestByTry_61 rfl cI_1 ?_
    refine s_iadd dX6_bestByTry_62 rfl ?_
    refine s_iload 0 dX6_bestByTry_63 rfl rfl ?_
    refine s_callV2_i3 dX6_bestByTry_65 rfl lkV_RX6_57 (S_63 g22) (Nat.le_of_ble_eq_true rfl) (by omega) (by omega) (h_rc_bestFrom _ _ _ _ _ _) (fun r25 I26 L27 R28 S29 => ?_)
    refine s_i2l dX6_bestByTry_68 rfl ?_
    refine s_lstoreL (fun v30 => [(7, .long v30), (6, .int v16), (5, .int v14), (0, .ref (X.1 + 63)), (1, .int p1), (2, .int p2), (3, .int p3), (4, .int p4)]) dX6_bestByTry_69 rfl (by decide) (fun _ => rfl) (fun v30 => ?_)
    refine s_aload_n 3 dX6_bestByTry_71 rfl rfl ?_
    refine sm_ck (fun g31 => ?_)
    refine s_getR 27 dX6_bestByTry_72 rfl fl_6_21 rfl (S_63 g31) (R_63_0 g31) ?_
    refine s_aload_n 3 dX6_bestByTry_75 rfl rfl ?_
    refine s_iload_n 4 dX6_bestByTry_76 rfl rfl ?_
    refine s_callV1_r3 dX6_bestByTry_77 rfl lkV_RX6_93 (S_63 g31) (Nat.le_of_ble_eq_true rfl) (by omega) (by omega) ct_x6_nextLevel (fun q_32 I33 L34 R35 S36 => ?_)
    refine s_aload_n 3 dX6_bestByTry_80 rfl rfl ?_
    refine sm_ck (fun g37 => ?_)
    refine s_getI dX6_bestByTry_81 rfl fl_6_43 (S_63 g37) ?_
    refine s_iload_n 6 dX6_bestByTry_84 rfl rfl ?_
    refine s_iload 7 dX6_bestByTry_85 rfl rfl ?_
    refine sm_b1 (fun t_38 h39 => ?_)
    refine sm_ck (fun g40 => ?_)
    refine sm_ck (fun g41 => ?_)
    refine s_callV4_v1 dX6_bestByTry_87 rfl lkV_RX6_100 (S_27 g37) (Nat.le_of_ble_eq_true rfl) (by omega) (by omega) (ct_x1_missBy g37 (⟨h39, g40⟩) g41) (fun I42 => ?_)
    refine s_aload_n 3 dX6_bestByTry_90 rfl rfl ?_
    refine s_iload_n 4 dX6_bestByTry_91 rfl rfl ?_
    refine s_iconst (v := 1) dX6_bestByTry_92 rfl cI_1 ?_
    refine s_iadd dX6_bestByTry_93 rfl ?_
    refine s_iload 1 dX6_bestByTry_94 rfl rfl ?_
    refine s_callV2_i3 dX6_bestByTry_96 rfl lkV_RX6_57 (S_63 g37) (Nat.le_of_ble_eq_true rfl) (by omega) (by omega) (h_rc_bestFrom _ _ _ _ _ _) (fun r43 I44 L45 R46 S47 => ?_)
    refine s_i2l dX6_bestByTry_99 rfl ?_
    refine s_lstoreL (fun v48 => [(9, .long v48), (7, .long v30), (6, .int v16), (5, .int v14), (0, .ref (X.1 + 63)), (1, .int p1), (2, .int p2), (3, .int p3), (4, .int p4)]) dX6_bestByTry_100 rfl (by decide) (fun _ => rfl) (fun v48 => ?_)
    refine s_iload 3 dX6_bestByTry_102 rfl rfl ?_
    refine s_i2l dX6_bestByTry_104 rfl ?_
    refine s_ldc2 (v := 1000000) dX6_bestByTry_105 rfl kl_6_103c ?_
    refine s_lload 1 dX6_bestByTry_108 rfl rfl ?_
    refine s_ladd dX6_bestByTry_110 rfl ?_
    refine s_lmul dX6_bestByTry_111 rfl ?_
    refine s_bipush (v := 100) dX6_bestByTry_112 rfl cB_100 ?_
    refine s_iload 3 dX6_bestByTry_114 rfl rfl ?_
    refine s_isub dX6_bestByTry_116 rfl ?_
    refine s_i2l dX6_bestByTry_117 rfl ?_
    refine s_lload 0 dX6_bestByTry_118 rfl rfl ?_
    refine s_lmul dX6_bestByTry_120 rfl ?_
    refine s_ladd dX6_bestByTry_121 rfl ?_
    refine s_ldc2 (v := 100) dX6_bestByTry_122 rfl kl_6_105c ?_
    refine s_ldiv dX6_bestByTry_125 rfl (by decide) ?_
    refine s_l2i dX6_bestByTry_126 rfl ?_
    exact s_iret dX6_bestByTry_127 rfl (fun f h => h)
  · skip
    refine s_iconst (v := 0) dX6_bestByTry_7 rfl cI_0 ?_
    exact s_iret dX6_bestByTry_8 rfl (fun f h => h)
noncomputable def x6_bestByBreathing (rc_bestFrom : Int32 → Int32 → MI → ML → MR → MS → Option (Int32 × MI × ML × MR × MS)) (p1 : Int32) (p2 : Int32) (I : MI) (L : ML) (R : MR) (S : MS) : Option (Int32 × MI × ML × MR × MS) :=
ck (okr R S) <|
b5 (x6_nextLevel p1 I L R S) fun q_2 I3 L4 R5 S6 =>
ck (okr R5 S6) <|
b1 (R5 27 0) fun t_8 =>
ck (isT t_8) <|
ck (isSt R5 S6 q_2) <|
b1 (x1_takeBreath t_8 q_2 (I3 63 6) I3) fun I12 =>
b5 (rc_bestFrom (p1 + 1) (p2 - 2) I12 L4 R5 S6) fun r13 I14 L15 R16 S17 =>
some (r13, I14, L15, R16, S17)
theorem ct_x6_bestByBreathing {X : WX} {rc_bestFrom : Int32 → Int32 → MI → ML → MR → MS → Option (Int32 × MI × ML × MR × MS)} {Fb Lb : Nat} {p1 : Int32} {p2 : Int32} {I : MI} {L : ML} {R : MR} {S : MS} (h_rc_bestFrom : ∀ (p1 : Int32) (p2 : Int32) (I : MI) (L : ML) (R : MR) (S : MS), Ct X yX6_bestFrom cX6_bestFrom 9 (some .int) Fb Lb [.ref (X.1 + 63), .int p1, .int p2] (I, L, R, S) (rc_bestFrom p1 p2 I L R S) (fun r => (some (.int r.1), (r.2.1, r.2.2.1, r.2.2.2.1, r.2.2.2.2)))) : Ct X yX6_bestByBreathing cX6_bestByBreathing 3 (some .int) (Fb + 4) (Lb + 103) [.ref (X.1 + 63), .int p1, .int p2] (I, L, R, S) (x6_bestByBreathing rc_bestFrom p1 p2 I L R S) (fun r => (some (.int r.1), (r.2.1, r.2.2.1, r.2.2.2.1, r.2.2.2.2))) := by
  refine Ct.of (by decide) (Nat.le_of_ble_eq_true rfl) [(0, .ref (X.1 + 63)), (1, .int p1), (2, .int p2)] rfl ?_
  unfold x6_bestByBreathing
  refine s_aload_n 0 dX6_bestByBreathing_0 rfl rfl ?_
  refine sm_ck (fun g1 => ?_)
  refine s_getR 27 dX6_bestByBreathing_1 rfl fl_6_21 rfl (S_63 g1) (R_63_0 g1) ?_
  refine s_aload_n 0 dX6_bestByBreathing_4 rfl rfl ?_
  refine s_iload_n 1 dX6_bestByBreathing_5 rfl rfl ?_
  refine s_callV1_r3 dX6_bestByBreathing_6 rfl lkV_RX6_93 (S_63 g1) (Nat.le_of_ble_eq_true rfl) (by omega) (by omega) ct_x6_nextLevel (fun q_2 I3 L4 R5 S6 => ?_)
  refine s_aload_n 0 dX6_bestByBreathing_9 rfl rfl ?_
  refine sm_ck (fun g7 => ?_)
  refine s_getI dX6_bestByBreathing_10 rfl fl_6_43 (S_63 g7) ?_
  refine sm_b1 (fun t_8 h9 => ?_)
  refine sm_ck (fun g10 => ?_)
  refine sm_ck (fun g11 => ?_)
  refine s_callV2_v1 dX6_bestByBreathing_13 rfl lkV_RX6_107 (S_27 g7) (Nat.le_of_ble_eq_true rfl) (by omega) (by omega) (ct_x1_takeBreath g7 (⟨h9, g10⟩) g11) (fun I12 => ?_)
  refine s_aload_n 0 dX6_bestByBreathing_16 rfl rfl ?_
  refine s_iload_n 1 dX6_bestByBreathing_17 rfl rfl ?_
  refine s_iconst (v := 1) dX6_bestByBreathing_18 rfl cI_1 ?_
  refine s_iadd dX6_bestByBreathing_19 rfl ?_
  refine s_iload_n 2 dX6_bestByBreathing_20 rfl rfl ?_
  refine s_iconst (v := 2) dX6_bestByBreathing_21 rfl cI_2 ?_
  refine s_isub dX6_bestByBreathing_22 rfl ?_
  refine s_callV2_i3 dX6_bestByBreathing_23 rfl lkV_RX6_57 (S_63 g7) (Nat.le_of_ble_eq_true rfl) (by omega) (by omega) (h_rc_bestFrom _ _ _ _ _ _) (fun r13 I14 L15 R16 S17 => ?_)
  exact s_iret dX6_bestByBreathing_26 rfl (fun f h => h)
noncomputable def x6_bestFrom_L95s (rc_bestFrom : Int32 → Int32 → MI → ML → MR → MS → Option (Int32 × MI × ML × MR × MS)) (c1 : Int32) (c2 : Int32) (c6 : Int32) (q_6 : Nat) (rec : Int32 → Int32 → Int32 → MI → ML → MR → MS → Option (Int32 × Int32 × MI × ML × MR × MS)) (w4 : Int32) (w5 : Int32) (w7 : Int32) (I : MI) (L : ML) (R : MR) (S : MS) : Option (Int32 × Int32 × MI × ML × MR × MS) :=
if w7 < 5 then (
ck (vp_in w7 5) <|
if c2 < (([1, 1, 2, 3, 1] : List Int32).getD (ix w7) 0) then (
lt (w7 + 1) fun v20 =>
rec w4 w5 v20 I L R S) else
ck (okr R S) <|
b1 (R 27 0) fun t_22 =>
ck (isT t_22) <|
ck (isSt R S q_6) <|
b2 (x1_canTry t_22 q_6 (I 63 6) c6 w7 I) fun r26 I27 =>
if r26 = 0 then (
lt (w7 + 1) fun v28 =>
rec w4 w5 v28 I27 L R S) else
b5 (x6_bestByTry rc_bestFrom c1 c2 c6 w7 I27 L R S) fun r29 I30 L31 R32 S33 =>
lt r29 fun v34 =>
if w4 < v34 then (
lt v34 fun v36 =>
lt ((10 * c6) + w7) fun v37 =>
lt (w7 + 1) fun v38 =>
rec v36 v37 v38 I30 L31 R32 S33) else
lt (w7 + 1) fun v35 =>
rec w4 w5 v35 I30 L31 R32 S33) else
some (w4, w5, I, L, R, S)
noncomputable def x6_bestFrom_L95 (rc_bestFrom : Int32 → Int32 → MI → ML → MR → MS → Option (Int32 × MI × ML × MR × MS)) (c1 : Int32) (c2 : Int32) (c6 : Int32) (q_6 : Nat) : Nat → Int32 → Int32 → Int32 → MI → ML → MR → MS → Option (Int32 × Int32 × MI × ML × MR × MS)
  | 0 => fun _ _ _ _ _ _ _ => none
  | n + 1 => x6_bestFrom_L95s rc_bestFrom c1 c2 c6 q_6 (x6_bestFrom_L95 rc_bestFrom c1 c2 c6 q_6 n)
noncomputable def x6_bestFrom_L70s (rc_bestFrom : Int32 → Int32 → MI → ML → MR → MS → Option (Int32 × MI × ML × MR × MS)) (c1 : Int32) (c2 : Int32) (q_6 : Nat) (rec : Int32 → Int32 → Int32 → MI → ML → MR → MS → Option (Int32 × Int32 × MI × ML × MR × MS)) (w4 : Int32) (w5 : Int32) (w6 : Int32) (I : MI) (L : ML) (R : MR) (S : MS) : Option (Int32 × Int32 × MI × ML × MR × MS) :=
ck (okr R S) <|
b1 (R 27 0) fun t_15 =>
ck (isT t_15) <|
if w6 < (I t_15 4) then (
if (I 63 3) = 0 then (
lt (0 : Int32) fun v18 =>
b1 (x6_bestFrom_L95 rc_bestFrom c1 c2 w6 q_6 FU w4 w5 v18 I L R S) fun e39 =>
lt (w6 + 1) fun v40 =>
rec e39.1 e39.2.1 v40 e39.2.2.1 e39.2.2.2.1 e39.2.2.2.2.1 e39.2.2.2.2.2) else
some (w4, w5, I, L, R, S)) else
some (w4, w5, I, L, R, S)
noncomputable def x6_bestFrom_L70 (rc_bestFrom : Int32 → Int32 → MI → ML → MR → MS → Option (Int32 × MI × ML × MR × MS)) (c1 : Int32) (c2 : Int32) (q_6 : Nat) : Nat → Int32 → Int32 → Int32 → MI → ML → MR → MS → Option (Int32 × Int32 × MI × ML × MR × MS)
  | 0 => fun _ _ _ _ _ _ _ => none
  | n + 1 => x6_bestFrom_L70s rc_bestFrom c1 c2 q_6 (x6_bestFrom_L70 rc_bestFrom c1 c2 q_6 n)
noncomputable def x6_bestFrom (rc_bestFrom : Int32 → Int32 → MI → ML → MR → MS → Option (Int32 × MI × ML × MR × MS)) (p1 : Int32) (p2 : Int32) (I : MI) (L : ML) (R : MR) (S : MS) : Option (Int32 × MI × ML × MR × MS) :=
ck (okr R S) <|
lt (wI I 63 2 ((I 63 2) + 1)) fun I2 =>
b1 (
if (I2 63 3) = 0 then (
if 20000 < (I2 63 2) then (
some (1 : Int32)) else
some (0 : Int32)) else
some (1 : Int32)) fun e3 =>
ck (e3 = 0 ∨ e3 = 1) <|
lt (wI I2 63 3 e3) fun I4 =>
if (I4 63 3) = 0 then (
if 0 < p2 then (
if p1 < 8 then (
b5 (x6_level p1 I4 L R S) fun q_6 I7 L8 R9 S10 =>
lt (0 : Int32) fun v11 =>
lt (-1 : Int32) fun v12 =>
lt (0 : Int32) fun v13 =>
b1 (x6_bestFrom_L70 rc_bestFrom p1 p2 q_6 FU v11 v12 v13 I7 L8 R9 S10) fun e41 =>
b1 (
if p2 < 2 then (
some (e41.1, e41.2.1, e41.2.2.1, e41.2.2.2.1, e41.2.2.2.2.1, e41.2.2.2.2.2)) else
ck (isSt e41.2.2.2.2.1 e41.2.2.2.2.2 q_6) <|
ck (e41.2.2.2.2.2[q_6]? = some (7, 12)) <|
ck (okr e41.2.2.2.2.1 e41.2.2.2.2.2) <|
ck (vp_in (e41.2.2.1 63 6) 4) <|
b1 (e41.2.2.2.2.1 27 0) fun t_47 =>
ck (isT t_47) <|
ck (vp_in (e41.2.2.1 63 6) 4) <|
if (e41.2.2.1 (q_6 + 8) (ix (e41.2.2.1 63 6))) < (e41.2.2.1 (t_47 + 10) (ix (e41.2.2.1 63 6))) then (
b5 (x6_bestByBreathing rc_bestFrom p1 p2 e41.2.2.1 e41.2.2.2.1 e41.2.2.2.2.1 e41.2.2.2.2.2) fun r51 I52 L53 R54 S55 =>
lt r51 fun v56 =>
if e41.1 < v56 then (
lt v56 fun v57 =>
lt (-2 : Int32) fun v58 =>
some (v57, v58, I52, L53, R54, S55)) else
some (e41.1, e41.2.1, I52, L53, R54, S55)) else
some (e41.1, e41.2.1, e41.2.2.1, e41.2.2.2.1, e41.2.2.2.2.1, e41.2.2.2.2.2)) fun e42 =>
if p1 = 0 then (
ck (okr e42.2.2.2.2.1 e42.2.2.2.2.2) <|
lt (wI e42.2.2.1 63 4 e42.2.1) fun I62 =>
some (e42.1, I62, e42.2.2.2.1, e42.2.2.2.2.1, e42.2.2.2.2.2)) else
ck (okr e42.2.2.2.2.1 e42.2.2.2.2.2) <|
lt (wI e42.2.2.1 63 4 (e42.2.2.1 63 4)) fun I60 =>
some (e42.1, I60, e42.2.2.2.1, e42.2.2.2.2.1, e42.2.2.2.2.2)) else
some ((0 : Int32), I4, L, R, S)) else
some ((0 : Int32), I4, L, R, S)) else
some ((0 : Int32), I4, L, R, S)
theorem x6_bestFrom_L95_ok {X : WX} {n0 s0 : Nat} {rc_bestFrom : Int32 → Int32 → MI → ML → MR → MS → Option (Int32 × MI × ML × MR × MS)} {Fb Lb : Nat} {c1 : Int32} {c2 : Int32} {c6 : Int32} {q_6 : Nat} (h_rc_bestFrom : ∀ (p1 : Int32) (p2 : Int32) (I : MI) (L : ML) (R : MR) (S : MS), Ct X yX6_bestFrom cX6_bestFrom 9 (some .int) Fb Lb [.ref (X.1 + 63), .int p1, .int p2] (I, L, R, S) (rc_bestFrom p1 p2 I L R S) (fun r => (some (.int r.1), (r.2.1, r.2.2.1, r.2.2.2.1, r.2.2.2.2)))) : ∀ (n : Nat) (w4 : Int32) (w5 : Int32) (w7 : Int32) (I : MI) (L : ML) (R : MR) (S : MS), Sim X yX6_bestFrom cX6_bestFrom 9 (some .int) (Fb + 5) (Lb + 133) n0 s0 95 [(0, .ref (X.1 + 63)), (1, .int c1), (2, .int c2), (3, .ref (X.1 + q_6)), (4, .int w4), (5, .int w5), (6, .int c6), (7, .int w7)] [] (I, L, R, S) (x6_bestFrom_L95 rc_bestFrom c1 c2 c6 q_6 n w4 w5 w7 I L R S) (fun b f => Ex X yX6_bestFrom cX6_bestFrom 9 (some .int) (Fb + 5) (Lb + 133) n0 s0 169 [(0, .ref (X.1 + 63)), (1, .int c1), (2, .int c2), (3, .ref (X.1 + q_6)), (4, .int b.1), (5, .int b.2.1), (6, .int c6)] [] (b.2.2.1, b.2.2.2.1, b.2.2.2.2.1, b.2.2.2.2.2) f) := by
  intro n
  induction n with
  | zero =>
    intro w4 w5 w7 I L R S
    exact sm_none
  | succ n ih =>
    intro w4 w5 w7 I L R S
    change Sim _ _ _ _ _ _ _ _ _ _ _ _ _ (x6_bestFrom_L95s rc_bestFrom c1 c2 c6 q_6 (x6_bestFrom_L95 rc_bestFrom c1 c2 c6 q_6 n) w4 w5 w7 I L R S) _
    unfold x6_bestFrom_L95s
    refine s_iload 7 dX6_bestFrom_95 rfl rfl ?_
    refine s_iconst (v := 5) dX6_bestFrom_97 rfl cI_5 ?_
    refine s_icmp_ge (tgt := 169) dX6_bestFrom_98 rfl rfl (fun _ => ?_) (fun _ => ?_)
    · skip
      refine s_pick [0, 1, 2, 3, 4, 5, 6] rfl ?_
      exact sm_exit (fun f h => h)
    · skip
      refine s_gets 0 4 dX6_bestFrom_101 rfl rfl rfl ?_
      refine s_iload 7 dX6_bestFrom_104 rfl rfl ?_
      refine sm_ck (fun g19 => ?_)
      refine s_tald 0 dX6_bestFrom_106 rfl rfl g19 ?_
      refine s_iload_n 2 dX6_bestFrom_107 rfl rfl ?_
      refine s_icmp_gt (tgt := 163) dX6_bestFrom_108 rfl rfl (fun _ => ?_) (fun _ => ?_)
      · skip
        refine s_iincL 7 (c := 1) (fun v20 => [(7, .int v20), (0, .ref (X.1 + 63)), (1, .int c1), (2, .int c2), (3, .ref (X.1 + q_6)), (4, .int w4), (5, .int w5), (6, .int c6)]) dX6_bestFrom_163 rfl rfl cI_1 (by decide) (fun _ => rfl) (fun v20 => ?_)
        refine s_goto (tgt := 95) dX6_bestFrom_166 rfl ?_
        refine s_pick [1, 2, 3, 4, 5, 6, 7, 0] rfl ?_
        exact ih w4 w5 v20 I L R S
      · skip
        refine s_aload_n 0 dX6_bestFrom_111 rfl rfl ?_
        refine sm_ck (fun g21 => ?_)
        refine s_getR 27 dX6_bestFrom_112 rfl fl_6_21 rfl (S_63 g21) (R_63_0 g21) ?_
        refine s_aload_n 3 dX6_bestFrom_115 rfl rfl ?_
        refine s_aload_n 0 dX6_bestFrom_116 rfl rfl ?_
        refine s_getI dX6_bestFrom_117 rfl fl_6_43 (S_63 g21) ?_
        refine s_iload 6 dX6_bestFrom_120 rfl rfl ?_
        refine s_iload 7 dX6_bestFrom_122 rfl rfl ?_
        refine sm_b1 (fun t_22 h23 => ?_)
        refine sm_ck (fun g24 => ?_)
        refine sm_ck (fun g25 => ?_)
        refine s_callV4_i1 dX6_bestFrom_124 rfl lkV_RX6_74 (S_27 g21) (Nat.le_of_ble_eq_true rfl) (by omega) (by omega) (ct_x1_canTry g21 (⟨h23, g24⟩) g25) (fun r26 I27 => ?_)
        refine s_if_eq (tgt := 163) dX6_bestFrom_127 rfl rfl (fun _ => ?_) (fun _ => ?_)
        · skip
          refine s_iincL 7 (c := 1) (fun v28 => [(7, .int v28), (0, .ref (X.1 + 63)), (1, .int c1), (2, .int c2), (3, .ref (X.1 + q_6)), (4, .int w4), (5, .int w5), (6, .int c6)]) dX6_bestFrom_163 rfl rfl cI_1 (by decide) (fun _ => rfl) (fun v28 => ?_)
          refine s_goto (tgt := 95) dX6_bestFrom_166 rfl ?_
          refine s_pick [1, 2, 3, 4, 5, 6, 7, 0] rfl ?_
          exact ih w4 w5 v28 I27 L R S
        · skip
          refine s_aload_n 0 dX6_bestFrom_130 rfl rfl ?_
          refine s_iload_n 1 dX6_bestFrom_131 rfl rfl ?_
          refine s_iload_n 2 dX6_bestFrom_132 rfl rfl ?_
          refine s_iload 6 dX6_bestFrom_133 rfl rfl ?_
          refine s_iload 7 dX6_bestFrom_135 rfl rfl ?_
          refine s_callV4_i3 dX6_bestFrom_137 rfl lkV_RX6_78 (S_63 g21) (Nat.le_of_ble_eq_true rfl) (by omega) (by omega) (ct_x6_bestByTry h_rc_bestFrom) (fun r29 I30 L31 R32 S33 => ?_)
          refine s_istoreL (fun v34 => [(8, .int v34), (0, .ref (X.1 + 63)), (1, .int c1), (2, .int c2), (3, .ref (X.1 + q_6)), (4, .int w4), (5, .int w5), (6, .int c6), (7, .int w7)]) dX6_bestFrom_140 rfl (by decide) (fun _ => rfl) (fun v34 => ?_)
          refine s_iload 0 dX6_bestFrom_142 rfl rfl ?_
          refine s_iload 5 dX6_bestFrom_144 rfl rfl ?_
          refine s_icmp_le (tgt := 163) dX6_bestFrom_146 rfl rfl (fun _ => ?_) (fun _ => ?_)
          · skip
            refine s_iincL 8 (c := 1) (fun v35 => [(7, .int v35), (8, .int v34), (0, .ref (X.1 + 63)), (1, .int c1), (2, .int c2), (3, .ref (X.1 + q_6)), (4, .int w4), (5, .int w5), (6, .int c6)]) dX6_bestFrom_163 rfl rfl cI_1 (by decide) (fun _ => rfl) (fun v35 => ?_)
            refine s_goto (tgt := 95) dX6_bestFrom_166 rfl ?_
            refine s_pick [2, 3, 4, 5, 6, 7, 8, 0] rfl ?_
            exact ih w4 w5 v35 I30 L31 R32 S33
          · skip
            refine s_iload 0 dX6_bestFrom_149 rfl rfl ?_
            refine s_istoreL (fun v36 => [(4, .int v36), (8, .int v34), (0, .ref (X.1 + 63)), (1, .int c1), (2, .int c2), (3, .ref (X.1 + q_6)), (5, .int w5), (6, .int c6), (7, .int w7)]) dX6_bestFrom_151 rfl (by decide) (fun _ => rfl) (fun v36 => ?_)
            refine s_bipush (v := 10) dX6_bestFrom_153 rfl cB_10 ?_
            refine s_iload 7 dX6_bestFrom_155 rfl rfl ?_
            refine s_imul dX6_bestFrom_157 rfl ?_
            refine s_iload 8 dX6_bestFrom_158 rfl rfl ?_
            refine s_iadd dX6_bestFrom_160 rfl ?_
            refine s_istoreL (fun v37 => [(5, .int v37), (4, .int v36), (8, .int v34), (0, .ref (X.1 + 63)), (1, .int c1), (2, .int c2), (3, .ref (X.1 + q_6)), (6, .int c6), (7, .int w7)]) dX6_bestFrom_161 rfl (by decide) (fun _ => rfl) (fun v37 => ?_)
            refine s_iincL 8 (c := 1) (fun v38 => [(7, .int v38), (5, .int v37), (4, .int v36), (8, .int v34), (0, .ref (X.1 + 63)), (1, .int c1), (2, .int c2), (3, .ref (X.1 + q_6)), (6, .int c6)]) dX6_bestFrom_163 rfl rfl cI_1 (by decide) (fun _ => rfl) (fun v38 => ?_)
            refine s_goto (tgt := 95) dX6_bestFrom_166 rfl ?_
            refine s_pick [4, 5, 6, 7, 2, 1, 8, 0] rfl ?_
            exact ih v36 v37 v38 I30 L31 R32 S33
theorem x6_bestFrom_L70_ok {X : WX} {n0 s0 : Nat} {rc_bestFrom : Int32 → Int32 → MI → ML → MR → MS → Option (Int32 × MI × ML × MR × MS)} {Fb Lb : Nat} {c1 : Int32} {c2 : Int32} {q_6 : Nat} (h_rc_bestFrom : ∀ (p1 : Int32) (p2 : Int32) (I : MI) (L : ML) (R : MR) (S : MS), Ct X yX6_bestFrom cX6_bestFrom 9 (some .int) Fb Lb [.ref (X.1 + 63), .int p1, .int p2] (I, L, R, S) (rc_bestFrom p1 p2 I L R S) (fun r => (some (.int r.1), (r.2.1, r.2.2.1, r.2.2.2.1, r.2.2.2.2)))) : ∀ (n : Nat) (w4 : Int32) (w5 : Int32) (w6 : Int32) (I : MI) (L : ML) (R : MR) (S : MS), Sim X yX6_bestFrom cX6_bestFrom 9 (some .int) (Fb + 5) (Lb + 133) n0 s0 70 [(0, .ref (X.1 + 63)), (1, .int c1), (2, .int c2), (3, .ref (X.1 + q_6)), (4, .int w4), (5, .int w5), (6, .int w6)] [] (I, L, R, S) (x6_bestFrom_L70 rc_bestFrom c1 c2 q_6 n w4 w5 w6 I L R S) (fun b f => Ex X yX6_bestFrom cX6_bestFrom 9 (some .int) (Fb + 5) (Lb + 133) n0 s0 175 [(0, .ref (X.1 + 63)), (1, .int c1), (2, .int c2), (3, .ref (X.1 + q_6)), (4, .int b.1), (5, .int b.2.1)] [] (b.2.2.1, b.2.2.2.1, b.2.2.2.2.1, b.2.2.2.2.2) f) := by
  intro n
  induction n with
  | zero =>
    intro w4 w5 w6 I L R S
    exact sm_none
  | succ n ih =>
    intro w4 w5 w6 I L R S
    change Sim _ _ _ _ _ _ _ _ _ _ _ _ _ (x6_bestFrom_L70s rc_bestFrom c1 c2 q_6 (x6_bestFrom_L70 rc_bestFrom c1 c2 q_6 n) w4 w5 w6 I L R S) _
    unfold x6_bestFrom_L70s
    refine s_iload 6 dX6_bestFrom_70 rfl rfl ?_
    refine s_aload_n 0 dX6_bestFrom_72 rfl rfl ?_
    refine sm_ck (fun g14 => ?_)
    refine s_getR 27 dX6_bestFrom_73 rfl fl_6_21 rfl (S_63 g14) (R_63_0 g14) ?_
    refine sm_b1 (fun t_15 h16 => ?_)
    refine s_getR t_15 dX6_bestFrom_76 rfl fl_6_60 rfl (S_27 g14) h16 ?_
    refine sm_ck (fun g17 => ?_)
    refine s_getI dX6_bestFrom_79 rfl fl_6_66 (tS_0 g14 g17) ?_
    refine s_icmp_ge (tgt := 175) dX6_bestFrom_82 rfl rfl (fun _ => ?_) (fun _ => ?_)
    · skip
      refine s_pick [0, 1, 2, 3, 4, 5] rfl ?_
      exact sm_exit (fun f h => h)
    · skip
      refine s_aload_n 0 dX6_bestFrom_85 rfl rfl ?_
      refine s_getZ dX6_bestFrom_86 rfl fl_6_50 (S_63 g14) ?_
      refine s_if_ne (tgt := 175) dX6_bestFrom_89 rfl rfl (fun _ => ?_) (fun _ => ?_)
      · skip
        refine s_pick [0, 1, 2, 3, 4, 5] rfl ?_
        exact sm_exit (fun f h => h)
      · skip
        refine s_iconst (v := 0) dX6_bestFrom_92 rfl cI_0 ?_
        refine s_istoreL (fun v18 => [(7, .int v18), (0, .ref (X.1 + 63)), (1, .int c1), (2, .int c2), (3, .ref (X.1 + q_6)), (4, .int w4), (5, .int w5), (6, .int w6)]) dX6_bestFrom_93 rfl (by decide) (fun _ => rfl) (fun v18 => ?_)
        refine s_pick [1, 2, 3, 4, 5, 6, 7, 0] rfl ?_
        refine sm_reg (x6_bestFrom_L95_ok h_rc_bestFrom FU w4 w5 v18 I L R S) (fun e39 => ?_)
        refine s_iincL 6 (c := 1) (fun v40 => [(6, .int v40), (0, .ref (X.1 + 63)), (1, .int c1), (2, .int c2), (3, .ref (X.1 + q_6)), (4, .int e39.1), (5, .int e39.2.1)]) dX6_bestFrom_169 rfl rfl cI_1 (by decide) (fun _ => rfl) (fun v40 => ?_)
        refine s_goto (tgt := 70) dX6_bestFrom_172 rfl ?_
        refine s_pick [1, 2, 3, 4, 5, 6, 0] rfl ?_
        exact ih e39.1 e39.2.1 v40 e39.2.2.1 e39.2.2.2.1 e39.2.2.2.2.1 e39.2.2.2.2.2
theorem ct_x6_bestFrom {X : WX} {rc_bestFrom : Int32 → Int32 → MI → ML → MR → MS → Option (Int32 × MI × ML × MR × MS)} {Fb Lb : Nat} {p1 : Int32} {p2 : Int32} {I : MI} {L : ML} {R : MR} {S : MS} (h_rc_bestFrom : ∀ (p1 : Int32) (p2 : Int32) (I : MI) (L : ML) (R : MR) (S : MS), Ct X yX6_bestFrom cX6_bestFrom 9 (some .int) Fb Lb [.ref (X.1 + 63), .int p1, .int p2] (I, L, R, S) (rc_bestFrom p1 p2 I L R S) (fun r => (some (.int r.1), (r.2.1, r.2.2.1, r.2.2.2.1, r.2.2.2.2)))) : Ct X yX6_bestFrom cX6_bestFrom 9 (some .int) (Fb + 5) (Lb + 133) [.ref (X.1 + 63), .int p1, .int p2] (I, L, R, S) (x6_bestFrom rc_bestFrom p1 p2 I L R S) (fun r => (some (.int r.1), (r.2.1, r.2.2.1, r.2.2.2.1, r.2.2.2.2))) := by
  refine Ct.of (by decide) (Nat.le_of_ble_eq_true rfl) [(0, .ref (X.1 + 63)), (1, .int p1), (2, .int p2)] rfl ?_
  unfold x6_bestFrom
  refine s_aload_n 0 dX6_bestFrom_0 rfl rfl ?_
  refine s_dup dX6_bestFrom_1 rfl rfl ?_
  refine sm_ck (fun g1 => ?_)
  refine s_getI dX6_bestFrom_2 rfl fl_6_47 (S_63 g1) ?_
  refine s_iconst (v := 1) dX6_bestFrom_5 rfl cI_1 ?_
  refine s_iadd dX6_bestFrom_6 rfl ?_
  refine s_putIL dX6_bestFrom_7 rfl fl_6_47 (S_63 g1) (fun I2 => ?_)
  refine s_aload_n 0 dX6_bestFrom_10 rfl rfl ?_
  refine s_aload_n 0 dX6_bestFrom_11 rfl rfl ?_
  refine s_getZ dX6_bestFrom_12 rfl fl_6_50 (S_63 g1) ?_
  refine sm_reg (pcx := 33) (lsx := fun e3 => [(0, .ref (X.1 + 63)), (1, .int p1), (2, .int p2)]) (stx := fun e3 => [.int e3, .ref (X.1 + 63)]) (ux := fun e3 => (I2, L, R, S)) ?_ (fun e3 => ?_)
  · skip
    refine s_if_ne (tgt := 28) dX6_bestFrom_15 rfl rfl (fun _ => ?_) (fun _ => ?_)
    · skip
      refine s_iconst (v := 1) dX6_bestFrom_28 rfl cI_1 ?_
      refine s_goto (tgt := 33) dX6_bestFrom_29 rfl ?_
      exact sm_exit (fun f h => h)
    · skip
      refine s_aload_n 0 dX6_bestFrom_18 rfl rfl ?_
      refine s_getI dX6_bestFrom_19 rfl fl_6_47 (S_63 g1) ?_
      refine s_sipush (v := 20000) dX6_bestFrom_22 rfl cS_20000 ?_
      refine s_icmp_le (tgt := 32) dX6_bestFrom_25 rfl rfl (fun _ => ?_) (fun _ => ?_)
      · skip
        refine s_iconst (v := 0) dX6_bestFrom_32 rfl cI_0 ?_
        exact sm_exit (fun f h => h)
      · skip
        refine s_iconst (v := 1) dX6_bestFrom_28 rfl cI_1 ?_
        refine s_goto (tgt := 33) dX6_bestFrom_29 rfl ?_
        exact sm_exit (fun f h => h)
  · skip
    refine sm_ck (fun g5 => ?_)
    refine s_putZL dX6_bestFrom_33 rfl fl_6_50 (S_63 g1) g5 (fun I4 => ?_)
    refine s_aload_n 0 dX6_bestFrom_36 rfl rfl ?_
    refine s_getZ dX6_bestFrom_37 rfl fl_6_50 (S_63 g1) ?_
    refine s_if_ne (tgt := 53) dX6_bestFrom_40 rfl rfl (fun _ => ?_) (fun _ => ?_)
    · skip
      refine s_iconst (v := 0) dX6_bestFrom_53 rfl cI_0 ?_
      exact s_iret dX6_bestFrom_54 rfl (fun f h => h)
    · skip
      refine s_iload_n 2 dX6_bestFrom_43 rfl rfl ?_
      refine s_if_le (tgt := 53) dX6_bestFrom_44 rfl rfl (fun _ => ?_) (fun _ => ?_)
      · skip
        refine s_iconst (v := 0) dX6_bestFrom_53 rfl cI_0 ?_
        exact s_iret dX6_bestFrom_54 rfl (fun f h => h)
      · skip
        refine s_iload_n 1 dX6_bestFrom_47 rfl rfl ?_
        refine s_bipush (v := 8) dX6_bestFrom_48 rfl cB_8 ?_
        refine s_icmp_lt (tgt := 55) dX6_bestFrom_50 rfl rfl (fun _ => ?_) (fun _ => ?_)
        · skip
          refine s_aload_n 0 dX6_bestFrom_55 rfl rfl ?_
          refine s_iload_n 1 dX6_bestFrom_56 rfl rfl ?_
          refine s_callV1_r3 dX6_bestFrom_57 rfl lkV_RX6_35 (S_63 g1) (Nat.le_of_ble_eq_true rfl) (by omega) (by omega) ct_x6_level (fun q_6 I7 L8 R9 S10 => ?_)
          refine s_astore_n [(3, .ref (X.1 + q_6)), (0, .ref (X.1 + 63)), (1, .int p1), (2, .int p2)] dX6_bestFrom_60 rfl (by decide) rfl ?_
          refine s_iconst (v := 0) dX6_bestFrom_61 rfl cI_0 ?_
          refine s_istoreL (fun v11 => [(4, .int v11), (3, .ref (X.1 + q_6)), (0, .ref (X.1 + 63)), (1, .int p1), (2, .int p2)]) dX6_bestFrom_62 rfl (by decide) (fun _ => rfl) (fun v11 => ?_)
          refine s_iconst (v := (-1)) dX6_bestFrom_64 rfl cI_m1 ?_
          refine s_istoreL (fun v12 => [(5, .int v12), (4, .int v11), (3, .ref (X.1 + q_6)), (0, .ref (X.1 + 63)), (1, .int p1), (2, .int p2)]) dX6_bestFrom_65 rfl (by decide) (fun _ => rfl) (fun v12 => ?_)
          refine s_iconst (v := 0) dX6_bestFrom_67 rfl cI_0 ?_
          refine s_istoreL (fun v13 => [(6, .int v13), (5, .int v12), (4, .int v11), (3, .ref (X.1 + q_6)), (0, .ref (X.1 + 63)), (1, .int p1), (2, .int p2)]) dX6_bestFrom_68 rfl (by decide) (fun _ => rfl) (fun v13 => ?_)
          refine s_pick [4, 5, 6, 3, 2, 1, 0] rfl ?_
          refine sm_reg (x6_bestFrom_L70_ok h_rc_bestFrom FU v11 v12 v13 I7 L8 R9 S10) (fun e41 => ?_)
          refine s_iload_n 2 dX6_bestFrom_175 rfl rfl ?_
          refine s_iconst (v := 2) dX6_bestFrom_176 rfl cI_2 ?_
          refine sm_reg (pcx := 230) (lsx := fun e42 => [(0, .ref (X.1 + 63)), (1, .int p1), (4, .int e42.1), (5, .int e42.2.1)]) (stx := fun e42 => []) (ux := fun e42 => (e42.2.2.1, e42.2.2.2.1, e42.2.2.2.2.1, e42.2.2.2.2.2)) ?_ (fun e42 => ?_)
          · skip
            refine s_icmp_lt (tgt := 230) dX6_bestFrom_177 rfl rfl (fun _ => ?_) (fun _ => ?_)
            · skip
              refine s_pick [0, 1, 4, 5] rfl ?_
              exact sm_exit (fun f h => h)
            · skip
              refine s_aload_n 3 dX6_bestFrom_180 rfl rfl ?_
              refine sm_ck (fun g43 => ?_)
              refine sm_ck (fun g44 => ?_)
              refine s_getR (q_6 + 8) dX6_bestFrom_181 rfl fl_6_82 rfl g44 (qR_7 g43) ?_
              refine s_aload_n 0 dX6_bestFrom_184 rfl rfl ?_
              refine sm_ck (fun g45 => ?_)
              refine s_getI dX6_bestFrom_185 rfl fl_6_43 (S_63 g45) ?_
              refine sm_ck (fun g46 => ?_)
              refine s_iald dX6_bestFrom_188 rfl (qS_8 g43) g46 ?_
              refine s_aload_n 0 dX6_bestFrom_189 rfl rfl ?_
              refine s_getR 27 dX6_bestFrom_190 rfl fl_6_21 rfl (S_63 g45) (R_63_0 g45) ?_
              refine sm_b1 (fun t_47 h48 => ?_)
              refine s_getR t_47 dX6_bestFrom_193 rfl fl_6_60 rfl (S_27 g45) h48 ?_
              refine sm_ck (fun g49 => ?_)
              refine s_getR (t_47 + 10) dX6_bestFrom_196 rfl fl_6_85 rfl (tS_0 g45 g49) (tR_0_15 g45 g49) ?_
              refine s_aload_n 0 dX6_bestFrom_199 rfl rfl ?_
              refine s_getI dX6_bestFrom_200 rfl fl_6_43 (S_63 g45) ?_
              refine sm_ck (fun g50 => ?_)
              refine s_iald dX6_bestFrom_203 rfl (tS_10 g45 g49) g50 ?_
              refine s_icmp_ge (tgt := 230) dX6_bestFrom_204 rfl rfl (fun _ => ?_) (fun _ => ?_)
              · skip
                refine s_pick [0, 1, 4, 5] rfl ?_
                exact sm_exit (fun f h => h)
              · skip
                refine s_aload_n 0 dX6_bestFrom_207 rfl rfl ?_
                refine s_iload_n 1 dX6_bestFrom_208 rfl rfl ?_
                refine s_iload_n 2 dX6_bestFrom_209 rfl rfl ?_
                refine s_callV2_i3 dX6_bestFrom_210 rfl lkV_RX6_86 (S_63 g45) (Nat.le_of_ble_eq_true rfl) (by omega) (by omega) (ct_x6_bestByBreathing h_rc_bestFrom) (fun r51 I52 L53 R54 S55 => ?_)
                refine s_istoreL (fun v56 => [(6, .int v56), (0, .ref (X.1 + 63)), (1, .int p1), (2, .int p2), (3, .ref (X.1 + q_6)), (4, .int e41.1), (5, .int e41.2.1)]) dX6_bestFrom_213 rfl (by decide) (fun _ => rfl) (fun v56 => ?_)
                refine s_iload 0 dX6_bestFrom_215 rfl rfl ?_
                refine s_iload 5 dX6_bestFrom_217 rfl rfl ?_
                refine s_icmp_le (tgt := 230) dX6_bestFrom_219 rfl rfl (fun _ => ?_) (fun _ => ?_)
                · skip
                  refine s_pick [1, 2, 5, 6] rfl ?_
                  exact sm_exit (fun f h => h)
                · skip
                  refine s_iload 0 dX6_bestFrom_222 rfl rfl ?_
                  refine s_istoreL (fun v57 => [(4, .int v57), (6, .int v56), (0, .ref (X.1 + 63)), (1, .int p1), (2, .int p2), (3, .ref (X.1 + q_6)), (5, .int e41.2.1)]) dX6_bestFrom_224 rfl (by decide) (fun _ => rfl) (fun v57 => ?_)
                  refine s_bipush (v := (-2)) dX6_bestFrom_226 rfl cB_m2 ?_
                  refine s_istoreL (fun v58 => [(5, .int v58), (4, .int v57), (6, .int v56), (0, .ref (X.1 + 63)), (1, .int p1), (2, .int p2), (3, .ref (X.1 + q_6))]) dX6_bestFrom_228 rfl (by decide) (fun _ => rfl) (fun v58 => ?_)
                  refine s_pick [3, 4, 1, 0] rfl ?_
                  exact sm_exit (fun f h => h)
          · skip
            refine s_aload_n 0 dX6_bestFrom_230 rfl rfl ?_
            refine s_iload_n 1 dX6_bestFrom_231 rfl rfl ?_
            refine s_if_ne (tgt := 240) dX6_bestFrom_232 rfl rfl (fun _ => ?_) (fun _ => ?_)
            · skip
              refine s_aload_n 0 dX6_bestFrom_240 rfl rfl ?_
              refine sm_ck (fun g59 => ?_)
              refine s_getI dX6_bestFrom_241 rfl fl_6_54 (S_63 g59) ?_
              refine s_putIL dX6_bestFrom_244 rfl fl_6_54 (S_63 g59) (fun I60 => ?_)
              refine s_iload 2 dX6_bestFrom_247 rfl rfl ?_
              exact s_iret dX6_bestFrom_249 rfl (fun f h => h)
            · skip
              refine s_iload 3 dX6_bestFrom_235 rfl rfl ?_
              refine s_goto (tgt := 244) dX6_bestFrom_237 rfl ?_
              refine sm_ck (fun g61 => ?_)
              refine s_putIL dX6_bestFrom_244 rfl fl_6_54 (S_63 g61) (fun I62 => ?_)
              refine s_iload 2 dX6_bestFrom_247 rfl rfl ?_
              exact s_iret dX6_bestFrom_249 rfl (fun f h => h)
        · skip
          refine s_iconst (v := 0) dX6_bestFrom_53 rfl cI_0 ?_
          exact s_iret dX6_bestFrom_54 rfl (fun f h => h)
noncomputable def x6_BF : Nat → Int32 → Int32 → MI → ML → MR → MS → Option (Int32 × MI × ML × MR × MS)
  | 0 => fun _ _ _ _ _ _ => none
  | n + 1 => fun z0 z1 z2 z3 z4 z5 => x6_bestFrom (x6_BF n) z0 z1 z2 z3 z4 z5
theorem ct_x6_BF {X : WX} : ∀ n : Nat, (∀ (p1 : Int32) (p2 : Int32) (I : MI) (L : ML) (R : MR) (S : MS), Ct X yX6_bestFrom cX6_bestFrom 9 (some .int) (5 * n) (133 * n) [.ref (X.1 + 63), .int p1, .int p2] (I, L, R, S) (x6_BF n p1 p2 I L R S) (fun r => (some (.int r.1), (r.2.1, r.2.2.1, r.2.2.2.1, r.2.2.2.2)))) := by
  intro n
  induction n with
  | zero => exact fun _ _ _ _ _ _ a ha => (by cases ha)
  | succ n ih =>
    intro p1 p2 I L R S
    exact ct_x6_bestFrom (Fb := 5 * n) (Lb := 133 * n) ih
theorem ct_x6_BF_0 {X : WX} (n : Nat) (p1 : Int32) (p2 : Int32) (I : MI) (L : ML) (R : MR) (S : MS) : Ct X yX6_bestFrom cX6_bestFrom 9 (some .int) (5 * n) (133 * n) [.ref (X.1 + 63), .int p1, .int p2] (I, L, R, S) (x6_BF n p1 p2 I L R S) (fun r => (some (.int r.1), (r.2.1, r.2.2.1, r.2.2.2.1, r.2.2.2.2))) := (ct_x6_BF n) p1 p2 I L R S
