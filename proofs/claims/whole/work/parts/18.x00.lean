noncomputable def x0_clearC (o0 : Nat) (I : MI) (L : ML) (R : MR) (S : MS) : Option (MI × ML × MR × MS) :=
ck (S[o0]? = some (0, 6)) <|
lt (wI I o0 5 (0 : Int32)) fun I2 =>
b1 (R o0 0) fun o_3 =>
ck (S[o_3]? = some (13, 640)) <|
lt (wI I2 o_3 (ix (0 : Int32)) (50 : Int32)) fun I6 =>
lt (wI I6 o0 4 (1 : Int32)) fun I7 =>
b1 (R o0 1) fun o_8 =>
ck (S[o_8]? = some (13, 11)) <|
b1 (j7_fill_53178 o_8 11 (0 : Int32) I7) fun I11 =>
b1 (R o0 2) fun o_12 =>
ck (S[o_12]? = some (13, 11)) <|
b1 (j7_fill_53178 o_12 11 (1 : Int32) I11) fun I15 =>
some (I15, L, R, S)
theorem ct_x0_clearC {X : WX} {o0 : Nat} {I : MI} {L : ML} {R : MR} {S : MS} : Ct X yX0_clear cX0_clear 1 none 1 23 [.ref (X.1 + o0)] (I, L, R, S) (x0_clearC o0 I L R S) (fun r => (none, (r.1, r.2.1, r.2.2.1, r.2.2.2))) := by
  refine Ct.of (by decide) (Nat.le_of_ble_eq_true rfl) [(0, .ref (X.1 + o0))] rfl ?_
  unfold x0_clearC
  refine s_aload_n 0 dX0_clear_0 rfl rfl ?_
  refine s_iconst (v := 0) dX0_clear_1 rfl cI_0 ?_
  refine sm_ck (fun g1 => ?_)
  refine s_putIL dX0_clear_2 rfl fl_0_27 g1 (fun I2 => ?_)
  refine s_aload_n 0 dX0_clear_5 rfl rfl ?_
  refine sm_b1 (fun o_3 h4 => ?_)
  refine s_getR o_3 dX0_clear_6 rfl fl_0_11 rfl g1 h4 ?_
  refine s_iconst (v := 0) dX0_clear_9 rfl cI_0 ?_
  refine s_bipush (v := 50) dX0_clear_10 rfl cB_50 ?_
  refine sm_ck (fun g5 => ?_)
  refine s_iastL dX0_clear_12 rfl g5 (by unfold vp_in; decide) (fun I6 => ?_)
  refine s_aload_n 0 dX0_clear_13 rfl rfl ?_
  refine s_iconst (v := 1) dX0_clear_14 rfl cI_1 ?_
  refine s_putIL dX0_clear_15 rfl fl_0_31 g1 (fun I7 => ?_)
  refine s_aload_n 0 dX0_clear_18 rfl rfl ?_
  refine sm_b1 (fun o_8 h9 => ?_)
  refine s_getR o_8 dX0_clear_19 rfl fl_0_15 rfl g1 h9 ?_
  refine s_iconst (v := 0) dX0_clear_22 rfl cI_0 ?_
  refine sm_ck (fun g10 => ?_)
  refine s_callS2_v1 dX0_clear_23 rfl lkS_RX0_34 (Nat.le_of_ble_eq_true rfl) (Nat.le_of_ble_eq_true rfl) (Nat.le_of_ble_eq_true rfl) (ct_j7_fill_53178 g10) (fun I11 => ?_)
  refine s_aload_n 0 dX0_clear_26 rfl rfl ?_
  refine sm_b1 (fun o_12 h13 => ?_)
  refine s_getR o_12 dX0_clear_27 rfl fl_0_18 rfl g1 h13 ?_
  refine s_iconst (v := 1) dX0_clear_30 rfl cI_1 ?_
  refine sm_ck (fun g14 => ?_)
  refine s_callS2_v1 dX0_clear_31 rfl lkS_RX0_34 (Nat.le_of_ble_eq_true rfl) (Nat.le_of_ble_eq_true rfl) (Nat.le_of_ble_eq_true rfl) (ct_j7_fill_53178 g14) (fun I15 => ?_)
  exact s_vret dX0_clear_34 rfl (fun f h => h)
noncomputable def x8_clearC (o0 : Nat) (I : MI) (L : ML) (R : MR) (S : MS) : Option (MI × ML × MR × MS) :=
ck (S[o0]? = some (8, 20)) <|
lt (wI I o0 0 (0 : Int32)) fun I2 =>
lt (wI I2 o0 1 (0 : Int32)) fun I3 =>
lt (wI I3 o0 2 (0 : Int32)) fun I4 =>
lt (wI I4 o0 3 (10 : Int32)) fun I5 =>
lt (wI I5 o0 4 (0 : Int32)) fun I6 =>
lt (wI I6 o0 11 (0 : Int32)) fun I7 =>
lt (wI I7 o0 18 (0 : Int32)) fun I8 =>
b1 (R o0 19) fun o_9 =>
ck (S[o_9]? = some (0, 6)) <|
b4 (x0_clearC o_9 I8 L R S) fun I12 L13 R14 S15 =>
some (I12, L13, R14, S15)
theorem ct_x8_clearC {X : WX} {o0 : Nat} {I : MI} {L : ML} {R : MR} {S : MS} : Ct X yX8_clear cX8_clear 1 none 2 43 [.ref (X.1 + o0)] (I, L, R, S) (x8_clearC o0 I L R S) (fun r => (none, (r.1, r.2.1, r.2.2.1, r.2.2.2))) := by
  refine Ct.of (by decide) (Nat.le_of_ble_eq_true rfl) [(0, .ref (X.1 + o0))] rfl ?_
  unfold x8_clearC
  refine s_aload_n 0 dX8_clear_0 rfl rfl ?_
  refine s_iconst (v := 0) dX8_clear_1 rfl cI_0 ?_
  refine sm_ck (fun g1 => ?_)
  refine s_putIL dX8_clear_2 rfl fl_8_58 g1 (fun I2 => ?_)
  refine s_aload_n 0 dX8_clear_5 rfl rfl ?_
  refine s_iconst (v := 0) dX8_clear_6 rfl cI_0 ?_
  refine s_putIL dX8_clear_7 rfl fl_8_62 g1 (fun I3 => ?_)
  refine s_aload_n 0 dX8_clear_10 rfl rfl ?_
  refine s_iconst (v := 0) dX8_clear_11 rfl cI_0 ?_
  refine s_putIL dX8_clear_12 rfl fl_8_65 g1 (fun I4 => ?_)
  refine s_aload_n 0 dX8_clear_15 rfl rfl ?_
  refine s_bipush (v := 10) dX8_clear_16 rfl cB_10 ?_
  refine s_putIL dX8_clear_18 rfl fl_8_68 g1 (fun I5 => ?_)
  refine s_aload_n 0 dX8_clear_21 rfl rfl ?_
  refine s_iconst (v := 0) dX8_clear_22 rfl cI_0 ?_
  refine s_putIL dX8_clear_23 rfl fl_8_71 g1 (fun I6 => ?_)
  refine s_aload_n 0 dX8_clear_26 rfl rfl ?_
  refine s_iconst (v := 0) dX8_clear_27 rfl cI_0 ?_
  refine s_putIL dX8_clear_28 rfl fl_8_74 g1 (fun I7 => ?_)
  refine s_aload_n 0 dX8_clear_31 rfl rfl ?_
  refine s_iconst (v := 0) dX8_clear_32 rfl cI_0 ?_
  refine s_putIL dX8_clear_33 rfl fl_8_77 g1 (fun I8 => ?_)
  refine s_aload_n 0 dX8_clear_36 rfl rfl ?_
  refine sm_b1 (fun o_9 h10 => ?_)
  refine s_getR o_9 dX8_clear_37 rfl fl_8_51 rfl g1 h10 ?_
  refine sm_ck (fun g11 => ?_)
  refine s_callV0_v3 dX8_clear_40 rfl lkV_RX8_80 g11 (Nat.le_of_ble_eq_true rfl) (Nat.le_of_ble_eq_true rfl) (Nat.le_of_ble_eq_true rfl) ct_x0_clearC (fun I12 L13 R14 S15 => ?_)
  exact s_vret dX8_clear_43 rfl (fun f h => h)
noncomputable def x0_clear (t0 : Nat) (I : MI) : Option (MI) :=
lt (wI I (t0 + 13) 5 (0 : Int32)) fun I1 =>
lt (wI I1 (t0 + 14) (ix (0 : Int32)) (50 : Int32)) fun I2 =>
lt (wI I2 (t0 + 13) 4 (1 : Int32)) fun I3 =>
b1 (j7_fill_53178 (t0 + 15) 11 (0 : Int32) I3) fun I4 =>
b1 (j7_fill_53178 (t0 + 16) 11 (1 : Int32) I4) fun I5 =>
some I5
theorem ct_x0_clear {X : WX} {t0 : Nat} {I : MI} {L : ML} {R : MR} {S : MS} (hK : okr R S) (ht0 : isT t0) : Ct X yX0_clear cX0_clear 1 none 1 23 [.ref (X.1 + (t0 + 13))] (I, L, R, S) (x0_clear t0 I) (fun r => (none, (r, L, R, S))) := by
  refine Ct.of (by decide) (Nat.le_of_ble_eq_true rfl) [(0, .ref (X.1 + (t0 + 13)))] rfl ?_
  unfold x0_clear
  refine s_aload_n 0 dX0_clear_0 rfl rfl ?_
  refine s_iconst (v := 0) dX0_clear_1 rfl cI_0 ?_
  refine s_putIL dX0_clear_2 rfl fl_0_27 (tS_13 hK ht0) (fun I1 => ?_)
  refine s_aload_n 0 dX0_clear_5 rfl rfl ?_
  refine s_getR (t0 + 14) dX0_clear_6 rfl fl_0_11 rfl (tS_13 hK ht0) (tR_13_0 hK ht0) ?_
  refine s_iconst (v := 0) dX0_clear_9 rfl cI_0 ?_
  refine s_bipush (v := 50) dX0_clear_10 rfl cB_50 ?_
  refine s_iastL dX0_clear_12 rfl (tS_14 hK ht0) (by unfold vp_in; decide) (fun I2 => ?_)
  refine s_aload_n 0 dX0_clear_13 rfl rfl ?_
  refine s_iconst (v := 1) dX0_clear_14 rfl cI_1 ?_
  refine s_putIL dX0_clear_15 rfl fl_0_31 (tS_13 hK ht0) (fun I3 => ?_)
  refine s_aload_n 0 dX0_clear_18 rfl rfl ?_
  refine s_getR (t0 + 15) dX0_clear_19 rfl fl_0_15 rfl (tS_13 hK ht0) (tR_13_1 hK ht0) ?_
  refine s_iconst (v := 0) dX0_clear_22 rfl cI_0 ?_
  refine s_callS2_v1 dX0_clear_23 rfl lkS_RX0_34 (Nat.le_of_ble_eq_true rfl) (Nat.le_of_ble_eq_true rfl) (Nat.le_of_ble_eq_true rfl) (ct_j7_fill_53178 (tS_15 hK ht0)) (fun I4 => ?_)
  refine s_aload_n 0 dX0_clear_26 rfl rfl ?_
  refine s_getR (t0 + 16) dX0_clear_27 rfl fl_0_18 rfl (tS_13 hK ht0) (tR_13_2 hK ht0) ?_
  refine s_iconst (v := 1) dX0_clear_30 rfl cI_1 ?_
  refine s_callS2_v1 dX0_clear_31 rfl lkS_RX0_34 (Nat.le_of_ble_eq_true rfl) (Nat.le_of_ble_eq_true rfl) (Nat.le_of_ble_eq_true rfl) (ct_j7_fill_53178 (tS_16 hK ht0)) (fun I5 => ?_)
  exact s_vret dX0_clear_34 rfl (fun f h => h)
noncomputable def x0_init (o0 : Nat) (I : MI) (L : ML) (R : MR) (S : MS) : Option (MI × ML × MR × MS) :=
al (13, 640) I L R S fun o_1 I2 L3 R4 S5 =>
ck (S5[o0]? = some (0, 6)) <|
lt (wR R4 o0 0 (some o_1)) fun R7 =>
al (13, 11) I2 L3 R7 S5 fun o_8 I9 L10 R11 S12 =>
ck (S12[o0]? = some (0, 6)) <|
lt (wR R11 o0 1 (some o_8)) fun R14 =>
al (13, 11) I9 L10 R14 S12 fun o_15 I16 L17 R18 S19 =>
ck (S19[o0]? = some (0, 6)) <|
lt (wR R18 o0 2 (some o_15)) fun R21 =>
al (13, 32) I16 L17 R21 S19 fun o_22 I23 L24 R25 S26 =>
ck (S26[o0]? = some (0, 6)) <|
lt (wR R25 o0 3 (some o_22)) fun R28 =>
b4 (x0_clearC o0 I23 L24 R28 S26) fun I29 L30 R31 S32 =>
some (I29, L30, R31, S32)
theorem ct_x0_init {X : WX} {o0 : Nat} {I : MI} {L : ML} {R : MR} {S : MS} : Ct X yX0_init cX0_init 1 none 2 43 [.ref (X.1 + o0)] (I, L, R, S) (x0_init o0 I L R S) (fun r => (none, (r.1, r.2.1, r.2.2.1, r.2.2.2))) := by
  refine Ct.of (by decide) (Nat.le_of_ble_eq_true rfl) [(0, .ref (X.1 + o0))] rfl ?_
  unfold x0_init
  refine s_aload_n 0 dX0_init_0 rfl rfl ?_
  refine s_oinit dX0_init_1 rfl lko_0_3 lk_o1 lk_o2 (Nat.le_of_ble_eq_true rfl) (Nat.le_of_ble_eq_true rfl) (Nat.le_of_ble_eq_true rfl) ?_
  refine s_aload_n 0 dX0_init_4 rfl rfl ?_
  refine s_sipush (v := 640) dX0_init_5 rfl cS_640 ?_
  refine s_newIL dX0_init_8 rfl ac_I (by decide) rfl (by decide) (fun o_1 I2 L3 R4 S5 => ?_)
  refine sm_ck (fun g6 => ?_)
  refine s_putRFL dX0_init_10 rfl fl_0_11 rfl ⟨_, _, rfl⟩ (Or.inr ⟨_, rfl⟩) g6 (fun R7 => ?_)
  refine s_aload_n 0 dX0_init_13 rfl rfl ?_
  refine s_bipush (v := 11) dX0_init_14 rfl cB_11 ?_
  refine s_newIL dX0_init_16 rfl ac_I (by decide) rfl (by decide) (fun o_8 I9 L10 R11 S12 => ?_)
  refine sm_ck (fun g13 => ?_)
  refine s_putRFL dX0_init_18 rfl fl_0_15 rfl ⟨_, _, rfl⟩ (Or.inr ⟨_, rfl⟩) g13 (fun R14 => ?_)
  refine s_aload_n 0 dX0_init_21 rfl rfl ?_
  refine s_bipush (v := 11) dX0_init_22 rfl cB_11 ?_
  refine s_newIL dX0_init_24 rfl ac_I (by decide) rfl (by decide) (fun o_15 I16 L17 R18 S19 => ?_)
  refine sm_ck (fun g20 => ?_)
  refine s_putRFL dX0_init_26 rfl fl_0_18 rfl ⟨_, _, rfl⟩ (Or.inr ⟨_, rfl⟩) g20 (fun R21 => ?_)
  refine s_aload_n 0 dX0_init_29 rfl rfl ?_
  refine s_bipush (v := 32) dX0_init_30 rfl cB_32 ?_
  refine s_newIL dX0_init_32 rfl ac_I (by decide) rfl (by decide) (fun o_22 I23 L24 R25 S26 => ?_)
  refine sm_ck (fun g27 => ?_)
  refine s_putRFL dX0_init_34 rfl fl_0_21 rfl ⟨_, _, rfl⟩ (Or.inr ⟨_, rfl⟩) g27 (fun R28 => ?_)
  refine s_aload_n 0 dX0_init_37 rfl rfl ?_
  refine s_callV0_v3 dX0_init_38 rfl lkV_RX0_24 g27 (Nat.le_of_ble_eq_true rfl) (Nat.le_of_ble_eq_true rfl) (Nat.le_of_ble_eq_true rfl) ct_x0_clearC (fun I29 L30 R31 S32 => ?_)
  exact s_vret dX0_init_41 rfl (fun f h => h)
noncomputable def x8_clear (t0 : Nat) (I : MI) : Option (MI) :=
lt (wI I t0 0 (0 : Int32)) fun I1 =>
lt (wI I1 t0 1 (0 : Int32)) fun I2 =>
lt (wI I2 t0 2 (0 : Int32)) fun I3 =>
lt (wI I3 t0 3 (10 : Int32)) fun I4 =>
lt (wI I4 t0 4 (0 : Int32)) fun I5 =>
lt (wI I5 t0 11 (0 : Int32)) fun I6 =>
lt (wI I6 t0 18 (0 : Int32)) fun I7 =>
b1 (x0_clear t0 I7) fun I8 =>
some I8
theorem ct_x8_clear {X : WX} {t0 : Nat} {I : MI} {L : ML} {R : MR} {S : MS} (hK : okr R S) (ht0 : isT t0) : Ct X yX8_clear cX8_clear 1 none 2 43 [.ref (X.1 + t0)] (I, L, R, S) (x8_clear t0 I) (fun r => (none, (r, L, R, S))) := by
  refine Ct.of (by decide) (Nat.le_of_ble_eq_true rfl) [(0, .ref (X.1 + t0))] rfl ?_
  unfold x8_clear
  refine s_aload_n 0 dX8_clear_0 rfl rfl ?_
  refine s_iconst (v := 0) dX8_clear_1 rfl cI_0 ?_
  refine s_putIL dX8_clear_2 rfl fl_8_58 (tS_0 hK ht0) (fun I1 => ?_)
  refine s_aload_n 0 dX8_clear_5 rfl rfl ?_
  refine s_iconst (v := 0) dX8_clear_6 rfl cI_0 ?_
  refine s_putIL dX8_clear_7 rfl fl_8_62 (tS_0 hK ht0) (fun I2 => ?_)
  refine s_aload_n 0 dX8_clear_10 rfl rfl ?_
  refine s_iconst (v := 0) dX8_clear_11 rfl cI_0 ?_
  refine s_putIL dX8_clear_12 rfl fl_8_65 (tS_0 hK ht0) (fun I3 => ?_)
  refine s_aload_n 0 dX8_clear_15 rfl rfl ?_
  refine s_bipush (v := 10) dX8_clear_16 rfl cB_10 ?_
  refine s_putIL dX8_clear_18 rfl fl_8_68 (tS_0 hK ht0) (fun I4 => ?_)
  refine s_aload_n 0 dX8_clear_21 rfl rfl ?_
  refine s_iconst (v := 0) dX8_clear_22 rfl cI_0 ?_
  refine s_putIL dX8_clear_23 rfl fl_8_71 (tS_0 hK ht0) (fun I5 => ?_)
  refine s_aload_n 0 dX8_clear_26 rfl rfl ?_
  refine s_iconst (v := 0) dX8_clear_27 rfl cI_0 ?_
  refine s_putIL dX8_clear_28 rfl fl_8_74 (tS_0 hK ht0) (fun I6 => ?_)
  refine s_aload_n 0 dX8_clear_31 rfl rfl ?_
  refine s_iconst (v := 0) dX8_clear_32 rfl cI_0 ?_
  refine s_putIL dX8_clear_33 rfl fl_8_77 (tS_0 hK ht0) (fun I7 => ?_)
  refine s_aload_n 0 dX8_clear_36 rfl rfl ?_
  refine s_getR (t0 + 13) dX8_clear_37 rfl fl_8_51 rfl (tS_0 hK ht0) (tR_0_19 hK ht0) ?_
  refine s_callV0_v1 dX8_clear_40 rfl lkV_RX8_80 (tS_13 hK ht0) (Nat.le_of_ble_eq_true rfl) (Nat.le_of_ble_eq_true rfl) (Nat.le_of_ble_eq_true rfl) (ct_x0_clear hK ht0) (fun I8 => ?_)
  exact s_vret dX8_clear_43 rfl (fun f h => h)
noncomputable def x8_init (o0 : Nat) (I : MI) (L : ML) (R : MR) (S : MS) : Option (MI × ML × MR × MS) :=
al (13, 10) I L R S fun o_1 I2 L3 R4 S5 =>
ck (S5[o0]? = some (8, 20)) <|
lt (wR R4 o0 5 (some o_1)) fun R7 =>
al (13, 10) I2 L3 R7 S5 fun o_8 I9 L10 R11 S12 =>
ck (S12[o0]? = some (8, 20)) <|
lt (wR R11 o0 6 (some o_8)) fun R14 =>
al (13, 10) I9 L10 R14 S12 fun o_15 I16 L17 R18 S19 =>
ck (S19[o0]? = some (8, 20)) <|
lt (wR R18 o0 7 (some o_15)) fun R21 =>
al (13, 10) I16 L17 R21 S19 fun o_22 I23 L24 R25 S26 =>
ck (S26[o0]? = some (8, 20)) <|
lt (wR R25 o0 8 (some o_22)) fun R28 =>
al (13, 10) I23 L24 R28 S26 fun o_29 I30 L31 R32 S33 =>
ck (S33[o0]? = some (8, 20)) <|
lt (wR R32 o0 9 (some o_29)) fun R35 =>
al (13, 10) I30 L31 R35 S33 fun o_36 I37 L38 R39 S40 =>
ck (S40[o0]? = some (8, 20)) <|
lt (wR R39 o0 10 (some o_36)) fun R42 =>
al (13, 4) I37 L38 R42 S40 fun o_43 I44 L45 R46 S47 =>
ck (S47[o0]? = some (8, 20)) <|
lt (wR R46 o0 12 (some o_43)) fun R49 =>
al (13, 4) I44 L45 R49 S47 fun o_50 I51 L52 R53 S54 =>
ck (S54[o0]? = some (8, 20)) <|
lt (wR R53 o0 13 (some o_50)) fun R56 =>
al (13, 4) I51 L52 R56 S54 fun o_57 I58 L59 R60 S61 =>
ck (S61[o0]? = some (8, 20)) <|
lt (wR R60 o0 14 (some o_57)) fun R63 =>
al (13, 4) I58 L59 R63 S61 fun o_64 I65 L66 R67 S68 =>
ck (S68[o0]? = some (8, 20)) <|
lt (wR R67 o0 15 (some o_64)) fun R70 =>
al (13, 4) I65 L66 R70 S68 fun o_71 I72 L73 R74 S75 =>
ck (S75[o0]? = some (8, 20)) <|
lt (wR R74 o0 16 (some o_71)) fun R77 =>
al (13, 4) I72 L73 R77 S75 fun o_78 I79 L80 R81 S82 =>
ck (S82[o0]? = some (8, 20)) <|
lt (wR R81 o0 17 (some o_78)) fun R84 =>
al (0, 6) I79 L80 R84 S82 fun o_85 I86 L87 R88 S89 =>
b4 (x0_init o_85 I86 L87 R88 S89) fun I90 L91 R92 S93 =>
ck (S93[o0]? = some (8, 20)) <|
lt (wR R92 o0 19 (some o_85)) fun R95 =>
b4 (x8_clearC o0 I90 L91 R95 S93) fun I96 L97 R98 S99 =>
some (I96, L97, R98, S99)
theorem ct_x8_init {X : WX} {o0 : Nat} {I : MI} {L : ML} {R : MR} {S : MS} : Ct X yX8_init cX8_init 1 none 3 63 [.ref (X.1 + o0)] (I, L, R, S) (x8_init o0 I L R S) (fun r => (none, (r.1, r.2.1, r.2.2.1, r.2.2.2))) := by
  refine Ct.of (by decide) (Nat.le_of_ble_eq_true rfl) [(0, .ref (X.1 + o0))] rfl ?_
  unfold x8_init
  refine s_aload_n 0 dX8_init_0 rfl rfl ?_
  refine s_oinit dX8_init_1 rfl lko_8_3 lk_o1 lk_o2 (Nat.le_of_ble_eq_true rfl) (Nat.le_of_ble_eq_true rfl) (Nat.le_of_ble_eq_true rfl) ?_
  refine s_aload_n 0 dX8_init_4 rfl rfl ?_
  refine s_bipush (v := 10) dX8_init_5 rfl cB_10 ?_
  refine s_newIL dX8_init_7 rfl ac_I (by decide) rfl (by decide) (fun o_1 I2 L3 R4 S5 => ?_)
  refine sm_ck (fun g6 => ?_)
  refine s_putRFL dX8_init_9 rfl fl_8_9 rfl ⟨_, _, rfl⟩ (Or.inr ⟨_, rfl⟩) g6 (fun R7 => ?_)
  refine s_aload_n 0 dX8_init_12 rfl rfl ?_
  refine s_bipush (v := 10) dX8_init_13 rfl cB_10 ?_
  refine s_newIL dX8_init_15 rfl ac_I (by decide) rfl (by decide) (fun o_8 I9 L10 R11 S12 => ?_)
  refine sm_ck (fun g13 => ?_)
  refine s_putRFL dX8_init_17 rfl fl_8_15 rfl ⟨_, _, rfl⟩ (Or.inr ⟨_, rfl⟩) g13 (fun R14 => ?_)
  refine s_aload_n 0 dX8_init_20 rfl rfl ?_
  refine s_bipush (v := 10) dX8_init_21 rfl cB_10 ?_
  refine s_newIL dX8_init_23 rfl ac_I (by decide) rfl (by decide) (fun o_15 I16 L17 R18 S19 => ?_)
  refine sm_ck (fun g20 => ?_)
  refine s_putRFL dX8_init_25 rfl fl_8_18 rfl ⟨_, _, rfl⟩ (Or.inr ⟨_, rfl⟩) g20 (fun R21 => ?_)
  refine s_aload_n 0 dX8_init_28 rfl rfl ?_
  refine s_bipush (v := 10) dX8_init_29 rfl cB_10 ?_
  refine s_newIL dX8_init_31 rfl ac_I (by decide) rfl (by decide) (fun o_22 I23 L24 R25 S26 => ?_)
  refine sm_ck (fun g27 => ?_)
  refine s_putRFL dX8_init_33 rfl fl_8_21 rfl ⟨_, _, rfl⟩ (Or.inr ⟨_, rfl⟩) g27 (fun R28 => ?_)
  refine s_aload_n 0 dX8_init_36 rfl rfl ?_
  refine s_bipush (v := 10) dX8_init_37 rfl cB_10 ?_
  refine s_newIL dX8_init_39 rfl ac_I (by decide) rfl (by decide) (fun o_29 I30 L31 R32 S33 => ?_)
  refine sm_ck (fun g34 => ?_)
  refine s_putRFL dX8_init_41 rfl fl_8_24 rfl ⟨_, _, rfl⟩ (Or.inr ⟨_, rfl⟩) g34 (fun R35 => ?_)
  refine s_aload_n 0 dX8_init_44 rfl rfl ?_
  refine s_bipush (v := 10) dX8_init_45 rfl cB_10 ?_
  refine s_newIL dX8_init_47 rfl ac_I (by decide) rfl (by decide) (fun o_36 I37 L38 R39 S40 => ?_)
  refine sm_ck (fun g41 => ?_)
  refine s_putRFL dX8_init_49 rfl fl_8_27 rfl ⟨_, _, rfl⟩ (Or.inr ⟨_, rfl⟩) g41 (fun R42 => ?_)
  refine s_aload_n 0 dX8_init_52 rfl rfl ?_
  refine s_iconst (v := 4) dX8_init_53 rfl cI_4 ?_
  refine s_newIL dX8_init_54 rfl ac_I (by decide) rfl (by decide) (fun o_43 I44 L45 R46 S47 => ?_)
  refine sm_ck (fun g48 => ?_)
  refine s_putRFL dX8_init_56 rfl fl_8_30 rfl ⟨_, _, rfl⟩ (Or.inr ⟨_, rfl⟩) g48 (fun R49 => ?_)
  refine s_aload_n 0 dX8_init_59 rfl rfl ?_
  refine s_iconst (v := 4) dX8_init_60 rfl cI_4 ?_
  refine s_newIL dX8_init_61 rfl ac_I (by decide) rfl (by decide) (fun o_50 I51 L52 R53 S54 => ?_)
  refine sm_ck (fun g55 => ?_)
  refine s_putRFL dX8_init_63 rfl fl_8_33 rfl ⟨_, _, rfl⟩ (Or.inr ⟨_, rfl⟩) g55 (fun R56 => ?_)
  refine s_aload_n 0 dX8_init_66 rfl rfl ?_
  refine s_iconst (v := 4) dX8_init_67 rfl cI_4 ?_
  refine s_newIL dX8_init_68 rfl ac_I (by decide) rfl (by decide) (fun o_57 I58 L59 R60 S61 => ?_)
  refine sm_ck (fun g62 => ?_)
  refine s_putRFL dX8_init_70 rfl fl_8_36 rfl ⟨_, _, rfl⟩ (Or.inr ⟨_, rfl⟩) g62 (fun R63 => ?_)
  refine s_aload_n 0 dX8_init_73 rfl rfl ?_
  refine s_iconst (v := 4) dX8_init_74 rfl cI_4 ?_
  refine s_newIL dX8_init_75 rfl ac_I (by decide) rfl (by decide) (fun o_64 I65 L66 R67 S68 => ?_)
  refine sm_ck (fun g69 => ?_)
  refine s_putRFL dX8_init_77 rfl fl_8_39 rfl ⟨_, _, rfl⟩ (Or.inr ⟨_, rfl⟩) g69 (fun R70 => ?_)
  refine s_aload_n 0 dX8_init_80 rfl rfl ?_
  refine s_iconst (v := 4) dX8_init_81 rfl cI_4 ?_
  refine s_newIL dX8_init_82 rfl ac_I (by decide) rfl (by decide) (fun o_71 I72 L73 R74 S75 => ?_)
  refine sm_ck (fun g76 => ?_)
  refine s_putRFL dX8_init_84 rfl fl_8_42 rfl ⟨_, _, rfl⟩ (Or.inr ⟨_, rfl⟩) g76 (fun R77 => ?_)
  refine s_aload_n 0 dX8_init_87 rfl rfl ?_
  refine s_iconst (v := 4) dX8_init_88 rfl cI_4 ?_
  refine s_newIL dX8_init_89 rfl ac_I (by decide) rfl (by decide) (fun o_78 I79 L80 R81 S82 => ?_)
  refine sm_ck (fun g83 => ?_)
  refine s_putRFL dX8_init_91 rfl fl_8_45 rfl ⟨_, _, rfl⟩ (Or.inr ⟨_, rfl⟩) g83 (fun R84 => ?_)
  refine s_aload_n 0 dX8_init_94 rfl rfl ?_
  refine s_newL dX8_init_95 rfl nl_8_48 (fun o_85 I86 L87 R88 S89 => ?_)
  refine s_dup dX8_init_98 rfl rfl ?_
  refine s_callI0_v3 dX8_init_99 rfl lkI_RX8_50 (Nat.le_of_ble_eq_true rfl) (Nat.le_of_ble_eq_true rfl) (Nat.le_of_ble_eq_true rfl) ct_x0_init (fun I90 L91 R92 S93 => ?_)
  refine sm_ck (fun g94 => ?_)
  refine s_putRFL dX8_init_102 rfl fl_8_51 rfl ⟨_, _, rfl⟩ (Or.inl ⟨_, rfl⟩) g94 (fun R95 => ?_)
  refine s_aload_n 0 dX8_init_105 rfl rfl ?_
  refine s_callV0_v3 dX8_init_106 rfl lkV_RX8_55 g94 (Nat.le_of_ble_eq_true rfl) (Nat.le_of_ble_eq_true rfl) (Nat.le_of_ble_eq_true rfl) ct_x8_clearC (fun I96 L97 R98 S99 => ?_)
  exact s_vret dX8_init_109 rfl (fun f h => h)
noncomputable def x3_init_L26s (o0 : Nat) (rec : Int32 → Int64 → Int32 → MI → ML → MR → MS → Option (MI × ML × MR × MS)) (w1 : Int32) (w2 : Int64) (w4 : Int32) (I : MI) (L : ML) (R : MR) (S : MS) : Option (MI × ML × MR × MS) :=
b1 (some js_len) fun r18 =>
if w4 < r18 then (
if w1 < 26 then (
b1 (js_at w4) fun r19 =>
lt r19 fun v20 =>
if v20 = 32 then (
ck (S[o0]? = some (3, 8)) <|
b1 (R o0 0) fun o_23 =>
ck (S[o_23]? = some (14, 26)) <|
ck (vp_in w1 26) <|
lt (wL L o_23 (ix w1) w2) fun L27 =>
lt (w1 + 1) fun v29 =>
lt (0 : Int64) fun v30 =>
lt (w4 + 1) fun v31 =>
rec v29 v30 v31 I L27 R S) else
lt ((w2 * 32) + (((v20 - 97) + 1)).toInt64) fun v21 =>
lt (w4 + 1) fun v22 =>
rec w1 v21 v22 I L R S) else
some (I, L, R, S)) else
some (I, L, R, S)
noncomputable def x3_init_L26 (o0 : Nat) : Nat → Int32 → Int64 → Int32 → MI → ML → MR → MS → Option (MI × ML × MR × MS)
  | 0 => fun _ _ _ _ _ _ _ => none
  | n + 1 => x3_init_L26s o0 (x3_init_L26 o0 n)
noncomputable def x3_init (o0 : Nat) (I : MI) (L : ML) (R : MR) (S : MS) : Option (MI × ML × MR × MS) :=
al (14, 26) I L R S fun o_1 I2 L3 R4 S5 =>
ck (S5[o0]? = some (3, 8)) <|
lt (wR R4 o0 0 (some o_1)) fun R7 =>
al (12, 0) I2 L3 R7 S5 fun o_8 I9 L10 R11 S12 =>
ck (S12[o0]? = some (3, 8)) <|
lt (wR R11 o0 1 (some o_8)) fun R14 =>
lt (0 : Int32) fun v15 =>
lt (0 : Int64) fun v16 =>
lt (0 : Int32) fun v17 =>
b1 (x3_init_L26 o0 FU v15 v16 v17 I9 L10 R14 S12) fun e32 =>
some (e32.1, e32.2.1, e32.2.2.1, e32.2.2.2)
theorem x3_init_L26_ok {X : WX} {n0 s0 : Nat} {o0 : Nat} : ∀ (n : Nat) (w1 : Int32) (w2 : Int64) (w4 : Int32) (I : MI) (L : ML) (R : MR) (S : MS), Sim X yX3_init cX3_init 6 none 4 85 n0 s0 26 [(0, .ref (X.1 + o0)), (1, .int w1), (2, .long w2), (4, .int w4)] [] (I, L, R, S) (x3_init_L26 o0 n w1 w2 w4 I L R S) (fun b f => Ex X yX3_init cX3_init 6 none 4 85 n0 s0 94 [] [] (b.1, b.2.1, b.2.2.1, b.2.2.2) f) := by
  intro n
  induction n with
  | zero =>
    intro w1 w2 w4 I L R S
    exact sm_none
  | succ n ih =>
    intro w1 w2 w4 I L R S
    change Sim _ _ _ _ _ _ _ _ _ _ _ _ _ (x3_init_L26s o0 (x3_init_L26 o0 n) w1 w2 w4 I L R S) _
    unfold x3_init_L26s
    refine s_iload 3 dX3_init_26 rfl rfl ?_
    refine s_ldcS dX3_init_28 rfl rfl ?_
    refine sm_callT [] [.int w4] dX3_init_30 rfl lt_len rfl rfl (Nat.le_of_ble_eq_true rfl) (Nat.le_of_ble_eq_true rfl) (Nat.le_of_ble_eq_true rfl) ct_slen (fun r18 _ => ?_)
    refine s_icmp_ge (tgt := 94) dX3_init_33 rfl rfl (fun _ => ?_) (fun _ => ?_)
    · skip
      refine s_pick [] rfl ?_
      exact sm_exit (fun f h => h)
    · skip
      refine s_iload_n 1 dX3_init_36 rfl rfl ?_
      refine s_bipush (v := 26) dX3_init_37 rfl cB_26 ?_
      refine s_icmp_ge (tgt := 94) dX3_init_39 rfl rfl (fun _ => ?_) (fun _ => ?_)
      · skip
        refine s_pick [] rfl ?_
        exact sm_exit (fun f h => h)
      · skip
        refine s_ldcS dX3_init_42 rfl rfl ?_
        refine s_iload 3 dX3_init_44 rfl rfl ?_
        refine sm_callT [.int w4] [] dX3_init_46 rfl lt_at rfl rfl (Nat.le_of_ble_eq_true rfl) (Nat.le_of_ble_eq_true rfl) (Nat.le_of_ble_eq_true rfl) ct_sat (fun r19 _ => ?_)
        refine s_istoreL (fun v20 => [(5, .int v20), (0, .ref (X.1 + o0)), (1, .int w1), (2, .long w2), (4, .int w4)]) dX3_init_49 rfl (by decide) (fun _ => rfl) (fun v20 => ?_)
        refine s_iload 0 dX3_init_51 rfl rfl ?_
        refine s_bipush (v := 32) dX3_init_53 rfl cB_32 ?_
        refine s_icmp_ne (tgt := 73) dX3_init_55 rfl rfl (fun _ => ?_) (fun _ => ?_)
        · skip
          refine s_lload_n 3 dX3_init_73 rfl rfl ?_
          refine s_ldc2 (v := 32) dX3_init_74 rfl kl_3_29c ?_
          refine s_lmul dX3_init_77 rfl ?_
          refine s_iload 0 dX3_init_78 rfl rfl ?_
          refine s_bipush (v := 97) dX3_init_80 rfl cB_97 ?_
          refine s_isub dX3_init_82 rfl ?_
          refine s_iconst (v := 1) dX3_init_83 rfl cI_1 ?_
          refine s_iadd dX3_init_84 rfl ?_
          refine s_i2l dX3_init_85 rfl ?_
          refine s_ladd dX3_init_86 rfl ?_
          refine s_lstore_nL (fun v21 => [(2, .long v21), (5, .int v20), (0, .ref (X.1 + o0)), (1, .int w1), (4, .int w4)]) dX3_init_87 rfl (by decide) (fun _ => rfl) (fun v21 => ?_)
          refine s_iincL 4 (c := 1) (fun v22 => [(4, .int v22), (2, .long v21), (5, .int v20), (0, .ref (X.1 + o0)), (1, .int w1)]) dX3_init_88 rfl rfl cI_1 (by decide) (fun _ => rfl) (fun v22 => ?_)
          refine s_goto (tgt := 26) dX3_init_91 rfl ?_
          refine s_pick [3, 4, 1, 0] rfl ?_
          exact ih w1 v21 v22 I L R S
        · skip
          refine s_aload_n 1 dX3_init_58 rfl rfl ?_
          refine sm_ck (fun g25 => ?_)
          refine sm_b1 (fun o_23 h24 => ?_)
          refine s_getR o_23 dX3_init_59 rfl fl_3_9 rfl g25 h24 ?_
          refine s_iload_n 2 dX3_init_62 rfl rfl ?_
          refine s_lload_n 3 dX3_init_63 rfl rfl ?_
          refine sm_ck (fun g26 => ?_)
          refine sm_ck (fun g28 => ?_)
          refine s_lastL dX3_init_64 rfl g26 g28 (fun L27 => ?_)
          refine s_iincL 2 (c := 1) (fun v29 => [(1, .int v29), (5, .int v20), (0, .ref (X.1 + o0)), (2, .long w2), (4, .int w4)]) dX3_init_65 rfl rfl cI_1 (by decide) (fun _ => rfl) (fun v29 => ?_)
          refine s_lconst (v := 0) dX3_init_68 rfl rfl ?_
          refine s_lstore_nL (fun v30 => [(2, .long v30), (1, .int v29), (5, .int v20), (0, .ref (X.1 + o0)), (4, .int w4)]) dX3_init_69 rfl (by decide) (fun _ => rfl) (fun v30 => ?_)
          refine s_goto (tgt := 88) dX3_init_70 rfl ?_
          refine s_iincL 4 (c := 1) (fun v31 => [(4, .int v31), (2, .long v30), (1, .int v29), (5, .int v20), (0, .ref (X.1 + o0))]) dX3_init_88 rfl rfl cI_1 (by decide) (fun _ => rfl) (fun v31 => ?_)
          refine s_goto (tgt := 26) dX3_init_91 rfl ?_
          refine s_pick [4, 2, 1, 0] rfl ?_
          exact ih v29 v30 v31 I L27 R S
theorem ct_x3_init {X : WX} {o0 : Nat} {I : MI} {L : ML} {R : MR} {S : MS} : Ct X yX3_init cX3_init 6 none 4 85 [.ref (X.1 + o0)] (I, L, R, S) (x3_init o0 I L R S) (fun r => (none, (r.1, r.2.1, r.2.2.1, r.2.2.2))) := by
  refine Ct.of (by decide) (Nat.le_of_ble_eq_true rfl) [(0, .ref (X.1 + o0))] rfl ?_
  unfold x3_init
  refine s_aload_n 0 dX3_init_0 rfl rfl ?_
  refine s_oinit dX3_init_1 rfl lko_3_1 lk_o1 lk_o2 (Nat.le_of_ble_eq_true rfl) (Nat.le_of_ble_eq_true rfl) (Nat.le_of_ble_eq_true rfl) ?_
  refine s_aload_n 0 dX3_init_4 rfl rfl ?_
  refine s_bipush (v := 26) dX3_init_5 rfl cB_26 ?_
  refine s_newJL dX3_init_7 rfl ac_J (by decide) rfl (by decide) (fun o_1 I2 L3 R4 S5 => ?_)
  refine sm_ck (fun g6 => ?_)
  refine s_putRFL dX3_init_9 rfl fl_3_9 rfl ⟨_, _, rfl⟩ (Or.inr ⟨_, rfl⟩) g6 (fun R7 => ?_)
  refine s_aload_n 0 dX3_init_12 rfl rfl ?_
  refine s_iconst (v := 0) dX3_init_13 rfl cI_0 ?_
  refine s_newBL dX3_init_14 rfl ac_B (by decide) rfl (by decide) (fun o_8 I9 L10 R11 S12 => ?_)
  refine sm_ck (fun g13 => ?_)
  refine s_putRL dX3_init_16 rfl fl_3_13 (Or.inr ⟨_, rfl⟩) g13 (fun R14 _ => ?_)
  refine s_iconst (v := 0) dX3_init_19 rfl cI_0 ?_
  refine s_istore_nL (fun v15 => [(1, .int v15), (0, .ref (X.1 + o0))]) dX3_init_20 rfl (by decide) (fun _ => rfl) (fun v15 => ?_)
  refine s_lconst (v := 0) dX3_init_21 rfl rfl ?_
  refine s_lstore_nL (fun v16 => [(2, .long v16), (1, .int v15), (0, .ref (X.1 + o0))]) dX3_init_22 rfl (by decide) (fun _ => rfl) (fun v16 => ?_)
  refine s_iconst (v := 0) dX3_init_23 rfl cI_0 ?_
  refine s_istoreL (fun v17 => [(4, .int v17), (2, .long v16), (1, .int v15), (0, .ref (X.1 + o0))]) dX3_init_24 rfl (by decide) (fun _ => rfl) (fun v17 => ?_)
  refine s_pick [3, 2, 1, 0] rfl ?_
  refine sm_reg (x3_init_L26_ok  FU v15 v16 v17 I9 L10 R14 S12) (fun e32 => ?_)
  exact s_vret dX3_init_94 rfl (fun f h => h)
noncomputable def x5_init (o0 : Nat) (q1 : Nat) (I : MI) (L : ML) (R : MR) (S : MS) : Option (MI × ML × MR × MS) :=
al (3, 8) I L R S fun o_1 I2 L3 R4 S5 =>
b4 (x3_init o_1 I2 L3 R4 S5) fun I6 L7 R8 S9 =>
ck (S9[o0]? = some (5, 10)) <|
lt (wR R8 o0 0 (some o_1)) fun R11 =>
al (14, 6) I6 L7 R11 S9 fun o_12 I13 L14 R15 S16 =>
ck (S16[o0]? = some (5, 10)) <|
lt (wR R15 o0 1 (some o_12)) fun R18 =>
al (14, 10) I13 L14 R18 S16 fun o_19 I20 L21 R22 S23 =>
ck (S23[o0]? = some (5, 10)) <|
lt (wR R22 o0 2 (some o_19)) fun R25 =>
al (14, 4) I20 L21 R25 S23 fun o_26 I27 L28 R29 S30 =>
ck (S30[o0]? = some (5, 10)) <|
lt (wR R29 o0 3 (some o_26)) fun R32 =>
lt (wI I27 o0 9 (-1 : Int32)) fun I33 =>
lt (wR R32 o0 4 (some q1)) fun R34 =>
some (I33, L28, R34, S30)
theorem ct_x5_init {X : WX} {o0 : Nat} {q1 : Nat} {I : MI} {L : ML} {R : MR} {S : MS} : Ct X yX5_init cX5_init 2 none 5 110 [.ref (X.1 + o0), .ref (X.1 + q1)] (I, L, R, S) (x5_init o0 q1 I L R S) (fun r => (none, (r.1, r.2.1, r.2.2.1, r.2.2.2))) := by
  refine Ct.of (by decide) (Nat.le_of_ble_eq_true rfl) [(0, .ref (X.1 + o0)), (1, .ref (X.1 + q1))] rfl ?_
  unfold x5_init
  refine s_aload_n 0 dX5_init_0 rfl rfl ?_
  refine s_oinit dX5_init_1 rfl lko_5_3 lk_o1 lk_o2 (Nat.le_of_ble_eq_true rfl) (Nat.le_of_ble_eq_true rfl) (Nat.le_of_ble_eq_true rfl) ?_
  refine s_aload_n 0 dX5_init_4 rfl rfl ?_
  refine s_newL dX5_init_5 rfl nl_5_9 (fun o_1 I2 L3 R4 S5 => ?_)
  refine s_dup dX5_init_8 rfl rfl ?_
  refine s_callI0_v3 dX5_init_9 rfl lkI_RX5_11 (Nat.le_of_ble_eq_true rfl) (Nat.le_of_ble_eq_true rfl) (Nat.le_of_ble_eq_true rfl) ct_x3_init (fun I6 L7 R8 S9 => ?_)
  refine sm_ck (fun g10 => ?_)
  refine s_putRFL dX5_init_12 rfl fl_5_12 rfl ⟨_, _, rfl⟩ (Or.inl ⟨_, rfl⟩) g10 (fun R11 => ?_)
  refine s_aload_n 0 dX5_init_15 rfl rfl ?_
  refine s_bipush (v := 6) dX5_init_16 rfl cB_6 ?_
  refine s_newJL dX5_init_18 rfl ac_J (by decide) rfl (by decide) (fun o_12 I13 L14 R15 S16 => ?_)
  refine sm_ck (fun g17 => ?_)
  refine s_putRFL dX5_init_20 rfl fl_5_18 rfl ⟨_, _, rfl⟩ (Or.inr ⟨_, rfl⟩) g17 (fun R18 => ?_)
  refine s_aload_n 0 dX5_init_23 rfl rfl ?_
  refine s_bipush (v := 10) dX5_init_24 rfl cB_10 ?_
  refine s_newJL dX5_init_26 rfl ac_J (by decide) rfl (by decide) (fun o_19 I20 L21 R22 S23 => ?_)
  refine sm_ck (fun g24 => ?_)
  refine s_putRFL dX5_init_28 rfl fl_5_22 rfl ⟨_, _, rfl⟩ (Or.inr ⟨_, rfl⟩) g24 (fun R25 => ?_)
  refine s_aload_n 0 dX5_init_31 rfl rfl ?_
  refine s_iconst (v := 4) dX5_init_32 rfl cI_4 ?_
  refine s_newJL dX5_init_33 rfl ac_J (by decide) rfl (by decide) (fun o_26 I27 L28 R29 S30 => ?_)
  refine sm_ck (fun g31 => ?_)
  refine s_putRFL dX5_init_35 rfl fl_5_25 rfl ⟨_, _, rfl⟩ (Or.inr ⟨_, rfl⟩) g31 (fun R32 => ?_)
  refine s_aload_n 0 dX5_init_38 rfl rfl ?_
  refine s_iconst (v := (-1)) dX5_init_39 rfl cI_m1 ?_
  refine s_putIL dX5_init_40 rfl fl_5_28 g31 (fun I33 => ?_)
  refine s_aload_n 0 dX5_init_43 rfl rfl ?_
  refine s_aload_n 1 dX5_init_44 rfl rfl ?_
  refine s_putRL dX5_init_45 rfl fl_5_32 (Or.inl ⟨_, rfl⟩) g31 (fun R34 _ => ?_)
  exact s_vret dX5_init_48 rfl (fun f h => h)
noncomputable def x1_init (o0 : Nat) (q1 : Nat) (I : MI) (L : ML) (R : MR) (S : MS) : Option (MI × ML × MR × MS) :=
al (13, 10) I L R S fun o_1 I2 L3 R4 S5 =>
ck (S5[o0]? = some (1, 4)) <|
lt (wR R4 o0 1 (some o_1)) fun R7 =>
lt (wR R7 o0 0 (some q1)) fun R8 =>
some (I2, L3, R8, S5)
theorem ct_x1_init {X : WX} {o0 : Nat} {q1 : Nat} {I : MI} {L : ML} {R : MR} {S : MS} : Ct X yX1_init cX1_init 2 none 1 20 [.ref (X.1 + o0), .ref (X.1 + q1)] (I, L, R, S) (x1_init o0 q1 I L R S) (fun r => (none, (r.1, r.2.1, r.2.2.1, r.2.2.2))) := by
  refine Ct.of (by decide) (Nat.le_of_ble_eq_true rfl) [(0, .ref (X.1 + o0)), (1, .ref (X.1 + q1))] rfl ?_
  unfold x1_init
  refine s_aload_n 0 dX1_init_0 rfl rfl ?_
  refine s_oinit dX1_init_1 rfl lko_1_3 lk_o1 lk_o2 (Nat.le_of_ble_eq_true rfl) (Nat.le_of_ble_eq_true rfl) (Nat.le_of_ble_eq_true rfl) ?_
  refine s_aload_n 0 dX1_init_4 rfl rfl ?_
  refine s_bipush (v := 10) dX1_init_5 rfl cB_10 ?_
  refine s_newIL dX1_init_7 rfl ac_I (by decide) rfl (by decide) (fun o_1 I2 L3 R4 S5 => ?_)
  refine sm_ck (fun g6 => ?_)
  refine s_putRFL dX1_init_9 rfl fl_1_11 rfl ⟨_, _, rfl⟩ (Or.inr ⟨_, rfl⟩) g6 (fun R7 => ?_)
  refine s_aload_n 0 dX1_init_12 rfl rfl ?_
  refine s_aload_n 1 dX1_init_13 rfl rfl ?_
  refine s_putRL dX1_init_14 rfl fl_1_17 (Or.inl ⟨_, rfl⟩) g6 (fun R8 _ => ?_)
  exact s_vret dX1_init_17 rfl (fun f h => h)
noncomputable def x7_init (o0 : Nat) (I : MI) (L : ML) (R : MR) (S : MS) : Option (MI × ML × MR × MS) :=
al (13, 10) I L R S fun o_1 I2 L3 R4 S5 =>
ck (S5[o0]? = some (7, 12)) <|
lt (wR R4 o0 0 (some o_1)) fun R7 =>
al (13, 10) I2 L3 R7 S5 fun o_8 I9 L10 R11 S12 =>
ck (S12[o0]? = some (7, 12)) <|
lt (wR R11 o0 1 (some o_8)) fun R14 =>
al (13, 10) I9 L10 R14 S12 fun o_15 I16 L17 R18 S19 =>
ck (S19[o0]? = some (7, 12)) <|
lt (wR R18 o0 2 (some o_15)) fun R21 =>
al (13, 10) I16 L17 R21 S19 fun o_22 I23 L24 R25 S26 =>
ck (S26[o0]? = some (7, 12)) <|
lt (wR R25 o0 3 (some o_22)) fun R28 =>
al (13, 10) I23 L24 R28 S26 fun o_29 I30 L31 R32 S33 =>
ck (S33[o0]? = some (7, 12)) <|
lt (wR R32 o0 4 (some o_29)) fun R35 =>
al (13, 4) I30 L31 R35 S33 fun o_36 I37 L38 R39 S40 =>
ck (S40[o0]? = some (7, 12)) <|
lt (wR R39 o0 5 (some o_36)) fun R42 =>
al (13, 4) I37 L38 R42 S40 fun o_43 I44 L45 R46 S47 =>
ck (S47[o0]? = some (7, 12)) <|
lt (wR R46 o0 6 (some o_43)) fun R49 =>
al (13, 4) I44 L45 R49 S47 fun o_50 I51 L52 R53 S54 =>
ck (S54[o0]? = some (7, 12)) <|
lt (wR R53 o0 7 (some o_50)) fun R56 =>
al (13, 4) I51 L52 R56 S54 fun o_57 I58 L59 R60 S61 =>
ck (S61[o0]? = some (7, 12)) <|
lt (wR R60 o0 8 (some o_57)) fun R63 =>
al (13, 4) I58 L59 R63 S61 fun o_64 I65 L66 R67 S68 =>
ck (S68[o0]? = some (7, 12)) <|
lt (wR R67 o0 9 (some o_64)) fun R70 =>
al (13, 60) I65 L66 R70 S68 fun o_71 I72 L73 R74 S75 =>
ck (S75[o0]? = some (7, 12)) <|
lt (wR R74 o0 10 (some o_71)) fun R77 =>
some (I72, L73, R77, S75)
theorem ct_x7_init {X : WX} {o0 : Nat} {I : MI} {L : ML} {R : MR} {S : MS} : Ct X yX7_init cX7_init 1 none 1 20 [.ref (X.1 + o0)] (I, L, R, S) (x7_init o0 I L R S) (fun r => (none, (r.1, r.2.1, r.2.2.1, r.2.2.2))) := by
  refine Ct.of (by decide) (Nat.le_of_ble_eq_true rfl) [(0, .ref (X.1 + o0))] rfl ?_
  unfold x7_init
  refine s_aload_n 0 dX7_init_0 rfl rfl ?_
  refine s_oinit dX7_init_1 rfl lko_7_3 lk_o1 lk_o2 (Nat.le_of_ble_eq_true rfl) (Nat.le_of_ble_eq_true rfl) (Nat.le_of_ble_eq_true rfl) ?_
  refine s_aload_n 0 dX7_init_4 rfl rfl ?_
  refine s_bipush (v := 10) dX7_init_5 rfl cB_10 ?_
  refine s_newIL dX7_init_7 rfl ac_I (by decide) rfl (by decide) (fun o_1 I2 L3 R4 S5 => ?_)
  refine sm_ck (fun g6 => ?_)
  refine s_putRFL dX7_init_9 rfl fl_7_9 rfl ⟨_, _, rfl⟩ (Or.inr ⟨_, rfl⟩) g6 (fun R7 => ?_)
  refine s_aload_n 0 dX7_init_12 rfl rfl ?_
  refine s_bipush (v := 10) dX7_init_13 rfl cB_10 ?_
  refine s_newIL dX7_init_15 rfl ac_I (by decide) rfl (by decide) (fun o_8 I9 L10 R11 S12 => ?_)
  refine sm_ck (fun g13 => ?_)
  refine s_putRFL dX7_init_17 rfl fl_7_15 rfl ⟨_, _, rfl⟩ (Or.inr ⟨_, rfl⟩) g13 (fun R14 => ?_)
  refine s_aload_n 0 dX7_init_20 rfl rfl ?_
  refine s_bipush (v := 10) dX7_init_21 rfl cB_10 ?_
  refine s_newIL dX7_init_23 rfl ac_I (by decide) rfl (by decide) (fun o_15 I16 L17 R18 S19 => ?_)
  refine sm_ck (fun g20 => ?_)
  refine s_putRFL dX7_init_25 rfl fl_7_18 rfl ⟨_, _, rfl⟩ (Or.inr ⟨_, rfl⟩) g20 (fun R21 => ?_)
  refine s_aload_n 0 dX7_init_28 rfl rfl ?_
  refine s_bipush (v := 10) dX7_init_29 rfl cB_10 ?_
  refine s_newIL dX7_init_31 rfl ac_I (by decide) rfl (by decide) (fun o_22 I23 L24 R25 S26 => ?_)
  refine sm_ck (fun g27 => ?_)
  refine s_putRFL dX7_init_33 rfl fl_7_21 rfl ⟨_, _, rfl⟩ (Or.inr ⟨_, rfl⟩) g27 (fun R28 => ?_)
  refine s_aload_n 0 dX7_init_36 rfl rfl ?_
  refine s_bipush (v := 10) dX7_init_37 rfl cB_10 ?_
  refine s_newIL dX7_init_39 rfl ac_I (by decide) rfl (by decide) (fun o_29 I30 L31 R32 S33 => ?_)
  refine sm_ck (fun g34 => ?_)
  refine s_putRFL dX7_init_41 rfl fl_7_24 rfl ⟨_, _, rfl⟩ (Or.inr ⟨_, rfl⟩) g34 (fun R35 => ?_)
  refine s_aload_n 0 dX7_init_44 rfl rfl ?_
  refine s_iconst (v := 4) dX7_init_45 rfl cI_4 ?_
  refine s_newIL dX7_init_46 rfl ac_I (by decide) rfl (by decide) (fun o_36 I37 L38 R39 S40 => ?_)
  refine sm_ck (fun g41 => ?_)
  refine s_putRFL dX7_init_48 rfl fl_7_27 rfl ⟨_, _, rfl⟩ (Or.inr ⟨_, rfl⟩) g41 (fun R42 => ?_)
  refine s_aload_n 0 dX7_init_51 rfl rfl ?_
  refine s_iconst (v := 4) dX7_init_52 rfl cI_4 ?_
  refine s_newIL dX7_init_53 rfl ac_I (by decide) rfl (by decide) (fun o_43 I44 L45 R46 S47 => ?_)
  refine sm_ck (fun g48 => ?_)
  refine s_putRFL dX7_init_55 rfl fl_7_30 rfl ⟨_, _, rfl⟩ (Or.inr ⟨_, rfl⟩) g48 (fun R49 => ?_)
  refine s_aload_n 0 dX7_init_58 rfl rfl ?_
  refine s_iconst (v := 4) dX7_init_59 rfl cI_4 ?_
  refine s_newIL dX7_init_60 rfl ac_I (by decide) rfl (by decide) (fun o_50 I51 L52 R53 S54 => ?_)
  refine sm_ck (fun g55 => ?_)
  refine s_putRFL dX7_init_62 rfl fl_7_33 rfl ⟨_, _, rfl⟩ (Or.inr ⟨_, rfl⟩) g55 (fun R56 => ?_)
  refine s_aload_n 0 dX7_init_65 rfl rfl ?_
  refine s_iconst (v := 4) dX7_init_66 rfl cI_4 ?_
  refine s_newIL dX7_init_67 rfl ac_I (by decide) rfl (by decide) (fun o_57 I58 L59 R60 S61 => ?_)
  refine sm_ck (fun g62 => ?_)
  refine s_putRFL dX7_init_69 rfl fl_7_36 rfl ⟨_, _, rfl⟩ (Or.inr ⟨_, rfl⟩) g62 (fun R63 => ?_)
  refine s_aload_n 0 dX7_init_72 rfl rfl ?_
  refine s_iconst (v := 4) dX7_init_73 rfl cI_4 ?_
  refine s_newIL dX7_init_74 rfl ac_I (by decide) rfl (by decide) (fun o_64 I65 L66 R67 S68 => ?_)
  refine sm_ck (fun g69 => ?_)
  refine s_putRFL dX7_init_76 rfl fl_7_39 rfl ⟨_, _, rfl⟩ (Or.inr ⟨_, rfl⟩) g69 (fun R70 => ?_)
  refine s_aload_n 0 dX7_init_79 rfl rfl ?_
  refine s_bipush (v := 60) dX7_init_80 rfl cB_60 ?_
  refine s_newIL dX7_init_82 rfl ac_I (by decide) rfl (by decide) (fun o_71 I72 L73 R74 S75 => ?_)
  refine sm_ck (fun g76 => ?_)
  refine s_putRFL dX7_init_84 rfl fl_7_42 rfl ⟨_, _, rfl⟩ (Or.inr ⟨_, rfl⟩) g76 (fun R77 => ?_)
  exact s_vret dX7_init_87 rfl (fun f h => h)
noncomputable def x2_init (o0 : Nat) (I : MI) (L : ML) (R : MR) (S : MS) : Option (MI × ML × MR × MS) :=
al (16, 41) I L R S fun o_1 I2 L3 R4 S5 =>
ck (S5[o0]? = some (2, 4)) <|
lt (wR R4 o0 0 (some o_1)) fun R7 =>
some (I2, L3, R7, S5)
theorem ct_x2_init {X : WX} {o0 : Nat} {I : MI} {L : ML} {R : MR} {S : MS} : Ct X yX2_init cX2_init 1 none 1 20 [.ref (X.1 + o0)] (I, L, R, S) (x2_init o0 I L R S) (fun r => (none, (r.1, r.2.1, r.2.2.1, r.2.2.2))) := by
  refine Ct.of (by decide) (Nat.le_of_ble_eq_true rfl) [(0, .ref (X.1 + o0))] rfl ?_
  unfold x2_init
  refine s_aload_n 0 dX2_init_0 rfl rfl ?_
  refine s_oinit dX2_init_1 rfl lko_2_3 lk_o1 lk_o2 (Nat.le_of_ble_eq_true rfl) (Nat.le_of_ble_eq_true rfl) (Nat.le_of_ble_eq_true rfl) ?_
  refine s_aload_n 0 dX2_init_4 rfl rfl ?_
  refine s_bipush (v := 41) dX2_init_5 rfl cB_41 ?_
  refine s_newQL dX2_init_7 rfl cl_2_9 (by decide) rfl (by decide) (fun o_1 I2 L3 R4 S5 => ?_)
  refine sm_ck (fun g6 => ?_)
  refine s_putRFL dX2_init_10 rfl fl_2_11 rfl ⟨_, _, rfl⟩ (Or.inr ⟨_, rfl⟩) g6 (fun R7 => ?_)
  exact s_vret dX2_init_13 rfl (fun f h => h)
noncomputable def x6_init (o0 : Nat) (q1 : Nat) (I : MI) (L : ML) (R : MR) (S : MS) : Option (MI × ML × MR × MS) :=
al (16, 9) I L R S fun o_1 I2 L3 R4 S5 =>
ck (S5[o0]? = some (6, 11)) <|
lt (wR R4 o0 1 (some o_1)) fun R7 =>
al (13, 8) I2 L3 R7 S5 fun o_8 I9 L10 R11 S12 =>
ck (S12[o0]? = some (6, 11)) <|
lt (wR R11 o0 5 (some o_8)) fun R14 =>
lt (wR R14 o0 0 (some q1)) fun R15 =>
some (I9, L10, R15, S12)
theorem ct_x6_init {X : WX} {o0 : Nat} {q1 : Nat} {I : MI} {L : ML} {R : MR} {S : MS} : Ct X yX6_init cX6_init 2 none 1 20 [.ref (X.1 + o0), .ref (X.1 + q1)] (I, L, R, S) (x6_init o0 q1 I L R S) (fun r => (none, (r.1, r.2.1, r.2.2.1, r.2.2.2))) := by
  refine Ct.of (by decide) (Nat.le_of_ble_eq_true rfl) [(0, .ref (X.1 + o0)), (1, .ref (X.1 + q1))] rfl ?_
  unfold x6_init
  refine s_aload_n 0 dX6_init_0 rfl rfl ?_
  refine s_oinit dX6_init_1 rfl lko_6_3 lk_o1 lk_o2 (Nat.le_of_ble_eq_true rfl) (Nat.le_of_ble_eq_true rfl) (Nat.le_of_ble_eq_true rfl) ?_
  refine s_aload_n 0 dX6_init_4 rfl rfl ?_
  refine s_bipush (v := 9) dX6_init_5 rfl cB_9 ?_
  refine s_newQL dX6_init_7 rfl cl_6_11 (by decide) rfl (by decide) (fun o_1 I2 L3 R4 S5 => ?_)
  refine sm_ck (fun g6 => ?_)
  refine s_putRFL dX6_init_10 rfl fl_6_13 rfl ⟨_, _, rfl⟩ (Or.inr ⟨_, rfl⟩) g6 (fun R7 => ?_)
  refine s_aload_n 0 dX6_init_13 rfl rfl ?_
  refine s_bipush (v := 8) dX6_init_14 rfl cB_8 ?_
  refine s_newIL dX6_init_16 rfl ac_I (by decide) rfl (by decide) (fun o_8 I9 L10 R11 S12 => ?_)
  refine sm_ck (fun g13 => ?_)
  refine s_putRFL dX6_init_18 rfl fl_6_17 rfl ⟨_, _, rfl⟩ (Or.inr ⟨_, rfl⟩) g13 (fun R14 => ?_)
  refine s_aload_n 0 dX6_init_21 rfl rfl ?_
  refine s_aload_n 1 dX6_init_22 rfl rfl ?_
  refine s_putRFL dX6_init_23 rfl fl_6_21 rfl ⟨_, _, rfl⟩ (Or.inl ⟨_, rfl⟩) g13 (fun R15 => ?_)
  exact s_vret dX6_init_26 rfl (fun f h => h)
noncomputable def x9_init (o0 : Nat) (q1 : Nat) (I : MI) (L : ML) (R : MR) (S : MS) : Option (MI × ML × MR × MS) :=
al (7, 12) I L R S fun o_1 I2 L3 R4 S5 =>
b4 (x7_init o_1 I2 L3 R4 S5) fun I6 L7 R8 S9 =>
ck (S9[o0]? = some (9, 11)) <|
lt (wR R8 o0 1 (some o_1)) fun R11 =>
al (13, 36) I6 L7 R11 S9 fun o_12 I13 L14 R15 S16 =>
ck (S16[o0]? = some (9, 11)) <|
lt (wR R15 o0 2 (some o_12)) fun R18 =>
al (13, 4) I13 L14 R18 S16 fun o_19 I20 L21 R22 S23 =>
ck (S23[o0]? = some (9, 11)) <|
lt (wR R22 o0 3 (some o_19)) fun R25 =>
al (13, 10) I20 L21 R25 S23 fun o_26 I27 L28 R29 S30 =>
ck (S30[o0]? = some (9, 11)) <|
lt (wR R29 o0 4 (some o_26)) fun R32 =>
al (13, 4) I27 L28 R32 S30 fun o_33 I34 L35 R36 S37 =>
ck (S37[o0]? = some (9, 11)) <|
lt (wR R36 o0 5 (some o_33)) fun R39 =>
lt (wR R39 o0 0 (some q1)) fun R40 =>
some (I34, L35, R40, S37)
theorem ct_x9_init {X : WX} {o0 : Nat} {q1 : Nat} {I : MI} {L : ML} {R : MR} {S : MS} : Ct X yX9_init cX9_init 2 none 2 40 [.ref (X.1 + o0), .ref (X.1 + q1)] (I, L, R, S) (x9_init o0 q1 I L R S) (fun r => (none, (r.1, r.2.1, r.2.2.1, r.2.2.2))) := by
  refine Ct.of (by decide) (Nat.le_of_ble_eq_true rfl) [(0, .ref (X.1 + o0)), (1, .ref (X.1 + q1))] rfl ?_
  unfold x9_init
  refine s_aload_n 0 dX9_init_0 rfl rfl ?_
  refine s_oinit dX9_init_1 rfl lko_9_3 lk_o1 lk_o2 (Nat.le_of_ble_eq_true rfl) (Nat.le_of_ble_eq_true rfl) (Nat.le_of_ble_eq_true rfl) ?_
  refine s_aload_n 0 dX9_init_4 rfl rfl ?_
  refine s_newL dX9_init_5 rfl nl_9_9 (fun o_1 I2 L3 R4 S5 => ?_)
  refine s_dup dX9_init_8 rfl rfl ?_
  refine s_callI0_v3 dX9_init_9 rfl lkI_RX9_11 (Nat.le_of_ble_eq_true rfl) (Nat.le_of_ble_eq_true rfl) (Nat.le_of_ble_eq_true rfl) ct_x7_init (fun I6 L7 R8 S9 => ?_)
  refine sm_ck (fun g10 => ?_)
  refine s_putRFL dX9_init_12 rfl fl_9_12 rfl ⟨_, _, rfl⟩ (Or.inl ⟨_, rfl⟩) g10 (fun R11 => ?_)
  refine s_aload_n 0 dX9_init_15 rfl rfl ?_
  refine s_bipush (v := 36) dX9_init_16 rfl cB_36 ?_
  refine s_newIL dX9_init_18 rfl ac_I (by decide) rfl (by decide) (fun o_12 I13 L14 R15 S16 => ?_)
  refine sm_ck (fun g17 => ?_)
  refine s_putRFL dX9_init_20 rfl fl_9_18 rfl ⟨_, _, rfl⟩ (Or.inr ⟨_, rfl⟩) g17 (fun R18 => ?_)
  refine s_aload_n 0 dX9_init_23 rfl rfl ?_
  refine s_iconst (v := 4) dX9_init_24 rfl cI_4 ?_
  refine s_newIL dX9_init_25 rfl ac_I (by decide) rfl (by decide) (fun o_19 I20 L21 R22 S23 => ?_)
  refine sm_ck (fun g24 => ?_)
  refine s_putRFL dX9_init_27 rfl fl_9_22 rfl ⟨_, _, rfl⟩ (Or.inr ⟨_, rfl⟩) g24 (fun R25 => ?_)
  refine s_aload_n 0 dX9_init_30 rfl rfl ?_
  refine s_bipush (v := 10) dX9_init_31 rfl cB_10 ?_
  refine s_newIL dX9_init_33 rfl ac_I (by decide) rfl (by decide) (fun o_26 I27 L28 R29 S30 => ?_)
  refine sm_ck (fun g31 => ?_)
  refine s_putRFL dX9_init_35 rfl fl_9_25 rfl ⟨_, _, rfl⟩ (Or.inr ⟨_, rfl⟩) g31 (fun R32 => ?_)
  refine s_aload_n 0 dX9_init_38 rfl rfl ?_
  refine s_iconst (v := 4) dX9_init_39 rfl cI_4 ?_
  refine s_newIL dX9_init_40 rfl ac_I (by decide) rfl (by decide) (fun o_33 I34 L35 R36 S37 => ?_)
  refine sm_ck (fun g38 => ?_)
  refine s_putRFL dX9_init_42 rfl fl_9_28 rfl ⟨_, _, rfl⟩ (Or.inr ⟨_, rfl⟩) g38 (fun R39 => ?_)
  refine s_aload_n 0 dX9_init_45 rfl rfl ?_
  refine s_aload_n 1 dX9_init_46 rfl rfl ?_
  refine s_putRFL dX9_init_47 rfl fl_9_31 rfl ⟨_, _, rfl⟩ (Or.inl ⟨_, rfl⟩) g38 (fun R40 => ?_)
  exact s_vret dX9_init_50 rfl (fun f h => h)
noncomputable def x4_init (o0 : Nat) (q1 : Nat) (I : MI) (L : ML) (R : MR) (S : MS) : Option (MI × ML × MR × MS) :=
al (13, 30) I L R S fun o_1 I2 L3 R4 S5 =>
ck (S5[o0]? = some (4, 7)) <|
lt (wR R4 o0 1 (some o_1)) fun R7 =>
al (13, 30) I2 L3 R7 S5 fun o_8 I9 L10 R11 S12 =>
ck (S12[o0]? = some (4, 7)) <|
lt (wR R11 o0 2 (some o_8)) fun R14 =>
al (13, 30) I9 L10 R14 S12 fun o_15 I16 L17 R18 S19 =>
ck (S19[o0]? = some (4, 7)) <|
lt (wR R18 o0 3 (some o_15)) fun R21 =>
al (13, 30) I16 L17 R21 S19 fun o_22 I23 L24 R25 S26 =>
ck (S26[o0]? = some (4, 7)) <|
lt (wR R25 o0 4 (some o_22)) fun R28 =>
al (13, 30) I23 L24 R28 S26 fun o_29 I30 L31 R32 S33 =>
ck (S33[o0]? = some (4, 7)) <|
lt (wR R32 o0 5 (some o_29)) fun R35 =>
lt (wR R35 o0 0 (some q1)) fun R36 =>
some (I30, L31, R36, S33)
theorem ct_x4_init {X : WX} {o0 : Nat} {q1 : Nat} {I : MI} {L : ML} {R : MR} {S : MS} : Ct X yX4_init cX4_init 2 none 1 20 [.ref (X.1 + o0), .ref (X.1 + q1)] (I, L, R, S) (x4_init o0 q1 I L R S) (fun r => (none, (r.1, r.2.1, r.2.2.1, r.2.2.2))) := by
  refine Ct.of (by decide) (Nat.le_of_ble_eq_true rfl) [(0, .ref (X.1 + o0)), (1, .ref (X.1 + q1))] rfl ?_
  unfold x4_init
  refine s_aload_n 0 dX4_init_0 rfl rfl ?_
  refine s_oinit dX4_init_1 rfl lko_4_3 lk_o1 lk_o2 (Nat.le_of_ble_eq_true rfl) (Nat.le_of_ble_eq_true rfl) (Nat.le_of_ble_eq_true rfl) ?_
  refine s_aload_n 0 dX4_init_4 rfl rfl ?_
  refine s_bipush (v := 30) dX4_init_5 rfl cB_30 ?_
  refine s_newIL dX4_init_7 rfl ac_I (by decide) rfl (by decide) (fun o_1 I2 L3 R4 S5 => ?_)
  refine sm_ck (fun g6 => ?_)
  refine s_putRFL dX4_init_9 rfl fl_4_11 rfl ⟨_, _, rfl⟩ (Or.inr ⟨_, rfl⟩) g6 (fun R7 => ?_)
  refine s_aload_n 0 dX4_init_12 rfl rfl ?_
  refine s_bipush (v := 30) dX4_init_13 rfl cB_30 ?_
  refine s_newIL dX4_init_15 rfl ac_I (by decide) rfl (by decide) (fun o_8 I9 L10 R11 S12 => ?_)
  refine sm_ck (fun g13 => ?_)
  refine s_putRFL dX4_init_17 rfl fl_4_15 rfl ⟨_, _, rfl⟩ (Or.inr ⟨_, rfl⟩) g13 (fun R14 => ?_)
  refine s_aload_n 0 dX4_init_20 rfl rfl ?_
  refine s_bipush (v := 30) dX4_init_21 rfl cB_30 ?_
  refine s_newIL dX4_init_23 rfl ac_I (by decide) rfl (by decide) (fun o_15 I16 L17 R18 S19 => ?_)
  refine sm_ck (fun g20 => ?_)
  refine s_putRFL dX4_init_25 rfl fl_4_18 rfl ⟨_, _, rfl⟩ (Or.inr ⟨_, rfl⟩) g20 (fun R21 => ?_)
  refine s_aload_n 0 dX4_init_28 rfl rfl ?_
  refine s_bipush (v := 30) dX4_init_29 rfl cB_30 ?_
  refine s_newIL dX4_init_31 rfl ac_I (by decide) rfl (by decide) (fun o_22 I23 L24 R25 S26 => ?_)
  refine sm_ck (fun g27 => ?_)
  refine s_putRFL dX4_init_33 rfl fl_4_21 rfl ⟨_, _, rfl⟩ (Or.inr ⟨_, rfl⟩) g27 (fun R28 => ?_)
  refine s_aload_n 0 dX4_init_36 rfl rfl ?_
  refine s_bipush (v := 30) dX4_init_37 rfl cB_30 ?_
  refine s_newIL dX4_init_39 rfl ac_I (by decide) rfl (by decide) (fun o_29 I30 L31 R32 S33 => ?_)
  refine sm_ck (fun g34 => ?_)
  refine s_putRFL dX4_init_41 rfl fl_4_24 rfl ⟨_, _, rfl⟩ (Or.inr ⟨_, rfl⟩) g34 (fun R35 => ?_)
  refine s_aload_n 0 dX4_init_44 rfl rfl ?_
  refine s_aload_n 1 dX4_init_45 rfl rfl ?_
  refine s_putRFL dX4_init_46 rfl fl_4_27 rfl ⟨_, _, rfl⟩ (Or.inl ⟨_, rfl⟩) g34 (fun R36 => ?_)
  exact s_vret dX4_init_49 rfl (fun f h => h)
noncomputable def x7_begin (q0 : Nat) (t1 : Nat) (I : MI) : Option (MI) :=
lt (cpI I (t1 + 1) (q0 + 1) 0 0 10) fun I1 =>
lt (cpI I1 (t1 + 2) (q0 + 2) 0 0 10) fun I2 =>
b1 (j7_fill_53178 (q0 + 3) 10 (-1 : Int32) I2) fun I3 =>
b1 (j7_fill_53178 (q0 + 4) 10 (0 : Int32) I3) fun I4 =>
lt (cpI I4 (t1 + 3) (q0 + 5) 0 0 10) fun I5 =>
lt (cpI I5 (t1 + 7) (q0 + 6) 0 0 4) fun I6 =>
lt (cpI I6 (t1 + 8) (q0 + 7) 0 0 4) fun I7 =>
lt (cpI I7 (t1 + 10) (q0 + 8) 0 0 4) fun I8 =>
b1 (j7_fill_53178 (q0 + 9) 4 (0 : Int32) I8) fun I9 =>
b1 (j7_fill_53178 (q0 + 10) 4 (0 : Int32) I9) fun I10 =>
b1 (j7_fill_53178 (q0 + 11) 60 (0 : Int32) I10) fun I11 =>
lt (wI I11 q0 11 (I11 t1 2)) fun I12 =>
some I12
theorem ct_x7_begin {X : WX} {q0 : Nat} {t1 : Nat} {I : MI} {L : ML} {R : MR} {S : MS} (hK : okr R S) (hq0 : isSt R S q0) (ht1 : isT t1) : Ct X yX7_begin cX7_begin 2 none 1 60 [.ref (X.1 + q0), .ref (X.1 + t1)] (I, L, R, S) (x7_begin q0 t1 I) (fun r => (none, (r, L, R, S))) := by
  refine Ct.of (by decide) (Nat.le_of_ble_eq_true rfl) [(0, .ref (X.1 + q0)), (1, .ref (X.1 + t1))] rfl ?_
  unfold x7_begin
  refine s_aload_n 1 dX7_begin_0 rfl rfl ?_
  refine s_getR (t1 + 1) dX7_begin_1 rfl fl_7_45 rfl (tS_0 hK ht1) (tR_0_5 hK ht1) ?_
  refine s_iconst (v := 0) dX7_begin_4 rfl cI_0 ?_
  refine s_aload_n 0 dX7_begin_5 rfl rfl ?_
  refine s_getR (q0 + 1) dX7_begin_6 rfl fl_7_9 rfl (qS_0 hq0) (qR_0 hq0) ?_
  refine s_iconst (v := 0) dX7_begin_9 rfl cI_0 ?_
  refine s_bipush (v := 10) dX7_begin_10 rfl cB_10 ?_
  refine s_copyiL dX7_begin_12 rfl lkw_7_48 lk_copy (tS_1 hK ht1) (qS_1 hq0) (by decide) (by decide) (by decide) (Nat.le_of_ble_eq_true rfl) (Nat.le_of_ble_eq_true rfl) (Nat.le_of_ble_eq_true rfl) (Nat.le_of_ble_eq_true rfl) (Nat.le_of_ble_eq_true rfl) (fun I1 => ?_)
  refine s_aload_n 1 dX7_begin_15 rfl rfl ?_
  refine s_getR (t1 + 2) dX7_begin_16 rfl fl_7_54 rfl (tS_0 hK ht1) (tR_0_6 hK ht1) ?_
  refine s_iconst (v := 0) dX7_begin_19 rfl cI_0 ?_
  refine s_aload_n 0 dX7_begin_20 rfl rfl ?_
  refine s_getR (q0 + 2) dX7_begin_21 rfl fl_7_15 rfl (qS_0 hq0) (qR_1 hq0) ?_
  refine s_iconst (v := 0) dX7_begin_24 rfl cI_0 ?_
  refine s_bipush (v := 10) dX7_begin_25 rfl cB_10 ?_
  refine s_copyiL dX7_begin_27 rfl lkw_7_48 lk_copy (tS_2 hK ht1) (qS_2 hq0) (by decide) (by decide) (by decide) (Nat.le_of_ble_eq_true rfl) (Nat.le_of_ble_eq_true rfl) (Nat.le_of_ble_eq_true rfl) (Nat.le_of_ble_eq_true rfl) (Nat.le_of_ble_eq_true rfl) (fun I2 => ?_)
  refine s_aload_n 0 dX7_begin_30 rfl rfl ?_
  refine s_getR (q0 + 3) dX7_begin_31 rfl fl_7_18 rfl (qS_0 hq0) (qR_2 hq0) ?_
  refine s_iconst (v := (-1)) dX7_begin_34 rfl cI_m1 ?_
  refine s_callS2_v1 dX7_begin_35 rfl lkS_RX7_55 (Nat.le_of_ble_eq_true rfl) (Nat.le_of_ble_eq_true rfl) (Nat.le_of_ble_eq_true rfl) (ct_j7_fill_53178 (qS_3 hq0)) (fun I3 => ?_)
  refine s_aload_n 0 dX7_begin_38 rfl rfl ?_
  refine s_getR (q0 + 4) dX7_begin_39 rfl fl_7_21 rfl (qS_0 hq0) (qR_3 hq0) ?_
  refine s_iconst (v := 0) dX7_begin_42 rfl cI_0 ?_
  refine s_callS2_v1 dX7_begin_43 rfl lkS_RX7_55 (Nat.le_of_ble_eq_true rfl) (Nat.le_of_ble_eq_true rfl) (Nat.le_of_ble_eq_true rfl) (ct_j7_fill_53178 (qS_4 hq0)) (fun I4 => ?_)
  refine s_aload_n 1 dX7_begin_46 rfl rfl ?_
  refine s_getR (t1 + 3) dX7_begin_47 rfl fl_7_61 rfl (tS_0 hK ht1) (tR_0_7 hK ht1) ?_
  refine s_iconst (v := 0) dX7_begin_50 rfl cI_0 ?_
  refine s_aload_n 0 dX7_begin_51 rfl rfl ?_
  refine s_getR (q0 + 5) dX7_begin_52 rfl fl_7_24 rfl (qS_0 hq0) (qR_4 hq0) ?_
  refine s_iconst (v := 0) dX7_begin_55 rfl cI_0 ?_
  refine s_bipush (v := 10) dX7_begin_56 rfl cB_10 ?_
  refine s_copyiL dX7_begin_58 rfl lkw_7_48 lk_copy (tS_3 hK ht1) (qS_5 hq0) (by decide) (by decide) (by decide) (Nat.le_of_ble_eq_true rfl) (Nat.le_of_ble_eq_true rfl) (Nat.le_of_ble_eq_true rfl) (Nat.le_of_ble_eq_true rfl) (Nat.le_of_ble_eq_true rfl) (fun I5 => ?_)
  refine s_aload_n 1 dX7_begin_61 rfl rfl ?_
  refine s_getR (t1 + 7) dX7_begin_62 rfl fl_7_62 rfl (tS_0 hK ht1) (tR_0_12 hK ht1) ?_
  refine s_iconst (v := 0) dX7_begin_65 rfl cI_0 ?_
  refine s_aload_n 0 dX7_begin_66 rfl rfl ?_
  refine s_getR (q0 + 6) dX7_begin_67 rfl fl_7_27 rfl (qS_0 hq0) (qR_5 hq0) ?_
  refine s_iconst (v := 0) dX7_begin_70 rfl cI_0 ?_
  refine s_iconst (v := 4) dX7_begin_71 rfl cI_4 ?_
  refine s_copyiL dX7_begin_72 rfl lkw_7_48 lk_copy (tS_7 hK ht1) (qS_6 hq0) (by decide) (by decide) (by decide) (Nat.le_of_ble_eq_true rfl) (Nat.le_of_ble_eq_true rfl) (Nat.le_of_ble_eq_true rfl) (Nat.le_of_ble_eq_true rfl) (Nat.le_of_ble_eq_true rfl) (fun I6 => ?_)
  refine s_aload_n 1 dX7_begin_75 rfl rfl ?_
  refine s_getR (t1 + 8) dX7_begin_76 rfl fl_7_63 rfl (tS_0 hK ht1) (tR_0_13 hK ht1) ?_
  refine s_iconst (v := 0) dX7_begin_79 rfl cI_0 ?_
  refine s_aload_n 0 dX7_begin_80 rfl rfl ?_
  refine s_getR (q0 + 7) dX7_begin_81 rfl fl_7_30 rfl (qS_0 hq0) (qR_6 hq0) ?_
  refine s_iconst (v := 0) dX7_begin_84 rfl cI_0 ?_
  refine s_iconst (v := 4) dX7_begin_85 rfl cI_4 ?_
  refine s_copyiL dX7_begin_86 rfl lkw_7_48 lk_copy (tS_8 hK ht1) (qS_7 hq0) (by decide) (by decide) (by decide) (Nat.le_of_ble_eq_true rfl) (Nat.le_of_ble_eq_true rfl) (Nat.le_of_ble_eq_true rfl) (Nat.le_of_ble_eq_true rfl) (Nat.le_of_ble_eq_true rfl) (fun I7 => ?_)
  refine s_aload_n 1 dX7_begin_89 rfl rfl ?_
  refine s_getR (t1 + 10) dX7_begin_90 rfl fl_7_64 rfl (tS_0 hK ht1) (tR_0_15 hK ht1) ?_
  refine s_iconst (v := 0) dX7_begin_93 rfl cI_0 ?_
  refine s_aload_n 0 dX7_begin_94 rfl rfl ?_
  refine s_getR (q0 + 8) dX7_begin_95 rfl fl_7_33 rfl (qS_0 hq0) (qR_7 hq0) ?_
  refine s_iconst (v := 0) dX7_begin_98 rfl cI_0 ?_
  refine s_iconst (v := 4) dX7_begin_99 rfl cI_4 ?_
  refine s_copyiL dX7_begin_100 rfl lkw_7_48 lk_copy (tS_10 hK ht1) (qS_8 hq0) (by decide) (by decide) (by decide) (Nat.le_of_ble_eq_true rfl) (Nat.le_of_ble_eq_true rfl) (Nat.le_of_ble_eq_true rfl) (Nat.le_of_ble_eq_true rfl) (Nat.le_of_ble_eq_true rfl) (fun I8 => ?_)
  refine s_aload_n 0 dX7_begin_103 rfl rfl ?_
  refine s_getR (q0 + 9) dX7_begin_104 rfl fl_7_36 rfl (qS_0 hq0) (qR_8 hq0) ?_
  refine s_iconst (v := 0) dX7_begin_107 rfl cI_0 ?_
  refine s_callS2_v1 dX7_begin_108 rfl lkS_RX7_55 (Nat.le_of_ble_eq_true rfl) (Nat.le_of_ble_eq_true rfl) (Nat.le_of_ble_eq_true rfl) (ct_j7_fill_53178 (qS_9 hq0)) (fun I9 => ?_)
  refine s_aload_n 0 dX7_begin_111 rfl rfl ?_
  refine s_getR (q0 + 10) dX7_begin_112 rfl fl_7_39 rfl (qS_0 hq0) (qR_9 hq0) ?_
  refine s_iconst (v := 0) dX7_begin_115 rfl cI_0 ?_
  refine s_callS2_v1 dX7_begin_116 rfl lkS_RX7_55 (Nat.le_of_ble_eq_true rfl) (Nat.le_of_ble_eq_true rfl) (Nat.le_of_ble_eq_true rfl) (ct_j7_fill_53178 (qS_10 hq0)) (fun I10 => ?_)
  refine s_aload_n 0 dX7_begin_119 rfl rfl ?_
  refine s_getR (q0 + 11) dX7_begin_120 rfl fl_7_42 rfl (qS_0 hq0) (qR_10 hq0) ?_
  refine s_iconst (v := 0) dX7_begin_123 rfl cI_0 ?_
  refine s_callS2_v1 dX7_begin_124 rfl lkS_RX7_55 (Nat.le_of_ble_eq_true rfl) (Nat.le_of_ble_eq_true rfl) (Nat.le_of_ble_eq_true rfl) (ct_j7_fill_53178 (qS_11 hq0)) (fun I11 => ?_)
  refine s_aload_n 0 dX7_begin_127 rfl rfl ?_
  refine s_aload_n 1 dX7_begin_128 rfl rfl ?_
  refine s_getI dX7_begin_129 rfl fl_7_65 (tS_0 hK ht1) ?_
  refine s_putIL dX7_begin_132 rfl fl_7_69 (qS_0 hq0) (fun I12 => ?_)
  exact s_vret dX7_begin_135 rfl (fun f h => h)
noncomputable def x2_atHand (I : MI) (L : ML) (R : MR) (S : MS) : Option (Nat × MI × ML × MR × MS) :=
ck (okr R S) <|
b1 (j9_floorMod_7cf53 ((I 59 1) + (I 59 2)) (41 : Int32) I) fun r2 =>
lt r2 fun v3 =>
ck (vp_in v3 41) <|
if (R 60 (ix v3)).isNone = true then (
al (7, 12) I L R S fun o_5 I6 L7 R8 S9 =>
b4 (x7_init o_5 I6 L7 R8 S9) fun I10 L11 R12 S13 =>
ck (okr R12 S13) <|
ck (S13[o_5]? = some (7, 12)) <|
ck (vp_in v3 41) <|
lt (wR R12 60 (ix v3) (some o_5)) fun R17 =>
ck (okr R17 S13) <|
ck (vp_in v3 41) <|
b1 (R17 60 (ix v3)) fun q_20 =>
some (q_20, I10, L11, R17, S13)) else
ck (vp_in v3 41) <|
b1 (R 60 (ix v3)) fun q_23 =>
some (q_23, I, L, R, S)
theorem ct_x2_atHand {X : WX} {I : MI} {L : ML} {R : MR} {S : MS} : Ct X yX2_atHand cX2_atHand 2 (some (.object "TubBites$State")) 2 40 [.ref (X.1 + 59)] (I, L, R, S) (x2_atHand I L R S) (fun r => (some (.ref (X.1 + r.1)), (r.2.1, r.2.2.1, r.2.2.2.1, r.2.2.2.2))) := by
  refine Ct.of (by decide) (Nat.le_of_ble_eq_true rfl) [(0, .ref (X.1 + 59))] rfl ?_
  unfold x2_atHand
  refine s_aload_n 0 dX2_atHand_0 rfl rfl ?_
  refine sm_ck (fun g1 => ?_)
  refine s_getI dX2_atHand_1 rfl fl_2_15 (S_59 g1) ?_
  refine s_aload_n 0 dX2_atHand_4 rfl rfl ?_
  refine s_getI dX2_atHand_5 rfl fl_2_19 (S_59 g1) ?_
  refine s_iadd dX2_atHand_8 rfl ?_
  refine s_bipush (v := 41) dX2_atHand_9 rfl cB_41 ?_
  refine s_callS2_i0 dX2_atHand_11 rfl lkS_RX2_33 (Nat.le_of_ble_eq_true rfl) (Nat.le_of_ble_eq_true rfl) (Nat.le_of_ble_eq_true rfl) ct_j9_floorMod_7cf53 (fun r2 => ?_)
  refine s_istore_nL (fun v3 => [(1, .int v3), (0, .ref (X.1 + 59))]) dX2_atHand_14 rfl (by decide) (fun _ => rfl) (fun v3 => ?_)
  refine s_aload_n 1 dX2_atHand_15 rfl rfl ?_
  refine s_getR 60 dX2_atHand_16 rfl fl_2_11 rfl (S_59 g1) (R_59_0 g1) ?_
  refine s_iload_n 0 dX2_atHand_19 rfl rfl ?_
  refine sm_ck (fun g4 => ?_)
  refine s_aaldN (tgt := 37) dX2_atHand_20 dX2_atHand_21 rfl rfl (S_60 g1) g4 (fun _ => ?_) (fun _ _ => ?_)
  · skip
    refine s_aload_n 1 dX2_atHand_24 rfl rfl ?_
    refine s_getR 60 dX2_atHand_25 rfl fl_2_11 rfl (S_59 g1) (R_59_0 g1) ?_
    refine s_iload_n 0 dX2_atHand_28 rfl rfl ?_
    refine s_newL dX2_atHand_29 rfl nl_2_9 (fun o_5 I6 L7 R8 S9 => ?_)
    refine s_dup dX2_atHand_32 rfl rfl ?_
    refine s_callI0_v3 dX2_atHand_33 rfl lkI_RX2_39 (Nat.le_of_ble_eq_true rfl) (Nat.le_of_ble_eq_true rfl) (Nat.le_of_ble_eq_true rfl) ct_x7_init (fun I10 L11 R12 S13 => ?_)
    refine sm_ck (fun g14 => ?_)
    refine sm_ck (fun g15 => ?_)
    refine sm_ck (fun g16 => ?_)
    refine s_aastL dX2_atHand_36 rfl (S_60 g14) g15 g16 (fun R17 => ?_)
    refine s_aload_n 1 dX2_atHand_37 rfl rfl ?_
    refine sm_ck (fun g18 => ?_)
    refine s_getR 60 dX2_atHand_38 rfl fl_2_11 rfl (S_59 g18) (R_59_0 g18) ?_
    refine s_iload_n 0 dX2_atHand_41 rfl rfl ?_
    refine sm_ck (fun g19 => ?_)
    refine s_aald dX2_atHand_42 rfl (S_60 g18) g19 (fun q_20 h21 => ?_)
    exact s_aret dX2_atHand_43 rfl (fun f h => h)
  · skip
    refine s_aload_n 1 dX2_atHand_37 rfl rfl ?_
    refine s_getR 60 dX2_atHand_38 rfl fl_2_11 rfl (S_59 g1) (R_59_0 g1) ?_
    refine s_iload_n 0 dX2_atHand_41 rfl rfl ?_
    refine sm_ck (fun g22 => ?_)
    refine s_aald dX2_atHand_42 rfl (S_60 g1) g22 (fun q_23 h24 => ?_)
    exact s_aret dX2_atHand_43 rfl (fun f h => h)
noncomputable def x7_copyPlay (q0 : Nat) (q1 : Nat) (I : MI) : Option (MI) :=
lt (cpI I (q1 + 1) (q0 + 1) 0 0 10) fun I1 =>
lt (cpI I1 (q1 + 2) (q0 + 2) 0 0 10) fun I2 =>
lt (cpI I2 (q1 + 3) (q0 + 3) 0 0 10) fun I3 =>
lt (cpI I3 (q1 + 4) (q0 + 4) 0 0 10) fun I4 =>
lt (cpI I4 (q1 + 5) (q0 + 5) 0 0 10) fun I5 =>
lt (cpI I5 (q1 + 6) (q0 + 6) 0 0 4) fun I6 =>
lt (cpI I6 (q1 + 7) (q0 + 7) 0 0 4) fun I7 =>
lt (cpI I7 (q1 + 8) (q0 + 8) 0 0 4) fun I8 =>
lt (cpI I8 (q1 + 9) (q0 + 9) 0 0 4) fun I9 =>
lt (cpI I9 (q1 + 10) (q0 + 10) 0 0 4) fun I10 =>
lt (wI I10 q0 11 (I10 q1 11)) fun I11 =>
some I11
theorem ct_x7_copyPlay {X : WX} {q0 : Nat} {q1 : Nat} {I : MI} {L : ML} {R : MR} {S : MS} (hK : okr R S) (hq0 : isSt R S q0) (hq1 : isSt R S q1) : Ct X yX7_copyPlay cX7_copyPlay 2 none 1 60 [.ref (X.1 + q0), .ref (X.1 + q1)] (I, L, R, S) (x7_copyPlay q0 q1 I) (fun r => (none, (r, L, R, S))) := by
  refine Ct.of (by decide) (Nat.le_of_ble_eq_true rfl) [(0, .ref (X.1 + q0)), (1, .ref (X.1 + q1))] rfl ?_
  unfold x7_copyPlay
  refine s_aload_n 1 dX7_copyPlay_0 rfl rfl ?_
  refine s_getR (q1 + 1) dX7_copyPlay_1 rfl fl_7_9 rfl (qS_0 hq1) (qR_0 hq1) ?_
  refine s_iconst (v := 0) dX7_copyPlay_4 rfl cI_0 ?_
  refine s_aload_n 0 dX7_copyPlay_5 rfl rfl ?_
  refine s_getR (q0 + 1) dX7_copyPlay_6 rfl fl_7_9 rfl (qS_0 hq0) (qR_0 hq0) ?_
  refine s_iconst (v := 0) dX7_copyPlay_9 rfl cI_0 ?_
  refine s_bipush (v := 10) dX7_copyPlay_10 rfl cB_10 ?_
  refine s_copyiL dX7_copyPlay_12 rfl lkw_7_48 lk_copy (qS_1 hq1) (qS_1 hq0) (by decide) (by decide) (by decide) (Nat.le_of_ble_eq_true rfl) (Nat.le_of_ble_eq_true rfl) (Nat.le_of_ble_eq_true rfl) (Nat.le_of_ble_eq_true rfl) (Nat.le_of_ble_eq_true rfl) (fun I1 => ?_)
  refine s_aload_n 1 dX7_copyPlay_15 rfl rfl ?_
  refine s_getR (q1 + 2) dX7_copyPlay_16 rfl fl_7_15 rfl (qS_0 hq1) (qR_1 hq1) ?_
  refine s_iconst (v := 0) dX7_copyPlay_19 rfl cI_0 ?_
  refine s_aload_n 0 dX7_copyPlay_20 rfl rfl ?_
  refine s_getR (q0 + 2) dX7_copyPlay_21 rfl fl_7_15 rfl (qS_0 hq0) (qR_1 hq0) ?_
  refine s_iconst (v := 0) dX7_copyPlay_24 rfl cI_0 ?_
  refine s_bipush (v := 10) dX7_copyPlay_25 rfl cB_10 ?_
  refine s_copyiL dX7_copyPlay_27 rfl lkw_7_48 lk_copy (qS_2 hq1) (qS_2 hq0) (by decide) (by decide) (by decide) (Nat.le_of_ble_eq_true rfl) (Nat.le_of_ble_eq_true rfl) (Nat.le_of_ble_eq_true rfl) (Nat.le_of_ble_eq_true rfl) (Nat.le_of_ble_eq_true rfl) (fun I2 => ?_)
  refine s_aload_n 1 dX7_copyPlay_30 rfl rfl ?_
  refine s_getR (q1 + 3) dX7_copyPlay_31 rfl fl_7_18 rfl (qS_0 hq1) (qR_2 hq1) ?_
  refine s_iconst (v := 0) dX7_copyPlay_34 rfl cI_0 ?_
  refine s_aload_n 0 dX7_copyPlay_35 rfl rfl ?_
  refine s_getR (q0 + 3) dX7_copyPlay_36 rfl fl_7_18 rfl (qS_0 hq0) (qR_2 hq0) ?_
  refine s_iconst (v := 0) dX7_copyPlay_39 rfl cI_0 ?_
  refine s_bipush (v := 10) dX7_copyPlay_40 rfl cB_10 ?_
  refine s_copyiL dX7_copyPlay_42 rfl lkw_7_48 lk_copy (qS_3 hq1) (qS_3 hq0) (by decide) (by decide) (by decide) (Nat.le_of_ble_eq_true rfl) (Nat.le_of_ble_eq_true rfl) (Nat.le_of_ble_eq_true rfl) (Nat.le_of_ble_eq_true rfl) (Nat.le_of_ble_eq_true rfl) (fun I3 => ?_)
  refine s_aload_n 1 dX7_copyPlay_45 rfl rfl ?_
  refine s_getR (q1 + 4) dX7_copyPlay_46 rfl fl_7_21 rfl (qS_0 hq1) (qR_3 hq1) ?_
  refine s_iconst (v := 0) dX7_copyPlay_49 rfl cI_0 ?_
  refine s_aload_n 0 dX7_copyPlay_50 rfl rfl ?_
  refine s_getR (q0 + 4) dX7_copyPlay_51 rfl fl_7_21 rfl (qS_0 hq0) (qR_3 hq0) ?_
  refine s_iconst (v := 0) dX7_copyPlay_54 rfl cI_0 ?_
  refine s_bipush (v := 10) dX7_copyPlay_55 rfl cB_10 ?_
  refine s_copyiL dX7_copyPlay_57 rfl lkw_7_48 lk_copy (qS_4 hq1) (qS_4 hq0) (by decide) (by decide) (by decide) (Nat.le_of_ble_eq_true rfl) (Nat.le_of_ble_eq_true rfl) (Nat.le_of_ble_eq_true rfl) (Nat.le_of_ble_eq_true rfl) (Nat.le_of_ble_eq_true rfl) (fun I4 => ?_)
  refine s_aload_n 1 dX7_copyPlay_60 rfl rfl ?_
  refine s_getR (q1 + 5) dX7_copyPlay_61 rfl fl_7_24 rfl (qS_0 hq1) (qR_4 hq1) ?_
  refine s_iconst (v := 0) dX7_copyPlay_64 rfl cI_0 ?_
  refine s_aload_n 0 dX7_copyPlay_65 rfl rfl ?_
  refine s_getR (q0 + 5) dX7_copyPlay_66 rfl fl_7_24 rfl (qS_0 hq0) (qR_4 hq0) ?_
  refine s_iconst (v := 0) dX7_copyPlay_69 rfl cI_0 ?_
  refine s_bipush (v := 10) dX7_copyPlay_70 rfl cB_10 ?_
  refine s_copyiL dX7_copyPlay_72 rfl lkw_7_48 lk_copy (qS_5 hq1) (qS_5 hq0) (by decide) (by decide) (by decide) (Nat.le_of_ble_eq_true rfl) (Nat.le_of_ble_eq_true rfl) (Nat.le_of_ble_eq_true rfl) (Nat.le_of_ble_eq_true rfl) (Nat.le_of_ble_eq_true rfl) (fun I5 => ?_)
  refine s_aload_n 1 dX7_copyPlay_75 rfl rfl ?_
  refine s_getR (q1 + 6) dX7_copyPlay_76 rfl fl_7_27 rfl (qS_0 hq1) (qR_5 hq1) ?_
  refine s_iconst (v := 0) dX7_copyPlay_79 rfl cI_0 ?_
  refine s_aload_n 0 dX7_copyPlay_80 rfl rfl ?_
  refine s_getR (q0 + 6) dX7_copyPlay_81 rfl fl_7_27 rfl (qS_0 hq0) (qR_5 hq0) ?_
  refine s_iconst (v := 0) dX7_copyPlay_84 rfl cI_0 ?_
  refine s_iconst (v := 4) dX7_copyPlay_85 rfl cI_4 ?_
  refine s_copyiL dX7_copyPlay_86 rfl lkw_7_48 lk_copy (qS_6 hq1) (qS_6 hq0) (by decide) (by decide) (by decide) (Nat.le_of_ble_eq_true rfl) (Nat.le_of_ble_eq_true rfl) (Nat.le_of_ble_eq_true rfl) (Nat.le_of_ble_eq_true rfl) (Nat.le_of_ble_eq_true rfl) (fun I6 => ?_)
  refine s_aload_n 1 dX7_copyPlay_89 rfl rfl ?_
  refine s_getR (q1 + 7) dX7_copyPlay_90 rfl fl_7_30 rfl (qS_0 hq1) (qR_6 hq1) ?_
  refine s_iconst (v := 0) dX7_copyPlay_93 rfl cI_0 ?_
  refine s_aload_n 0 dX7_copyPlay_94 rfl rfl ?_
  refine s_getR (q0 + 7) dX7_copyPlay_95 rfl fl_7_30 rfl (qS_0 hq0) (qR_6 hq0) ?_
  refine s_iconst (v := 0) dX7_copyPlay_98 rfl cI_0 ?_
  refine s_iconst (v := 4) dX7_copyPlay_99 rfl cI_4 ?_
  refine s_copyiL dX7_copyPlay_100 rfl lkw_7_48 lk_copy (qS_7 hq1) (qS_7 hq0) (by decide) (by decide) (by decide) (Nat.le_of_ble_eq_true rfl) (Nat.le_of_ble_eq_true rfl) (Nat.le_of_ble_eq_true rfl) (Nat.le_of_ble_eq_true rfl) (Nat.le_of_ble_eq_true rfl) (fun I7 => ?_)
  refine s_aload_n 1 dX7_copyPlay_103 rfl rfl ?_
  refine s_getR (q1 + 8) dX7_copyPlay_104 rfl fl_7_33 rfl (qS_0 hq1) (qR_7 hq1) ?_
  refine s_iconst (v := 0) dX7_copyPlay_107 rfl cI_0 ?_
  refine s_aload_n 0 dX7_copyPlay_108 rfl rfl ?_
  refine s_getR (q0 + 8) dX7_copyPlay_109 rfl fl_7_33 rfl (qS_0 hq0) (qR_7 hq0) ?_
  refine s_iconst (v := 0) dX7_copyPlay_112 rfl cI_0 ?_
  refine s_iconst (v := 4) dX7_copyPlay_113 rfl cI_4 ?_
  refine s_copyiL dX7_copyPlay_114 rfl lkw_7_48 lk_copy (qS_8 hq1) (qS_8 hq0) (by decide) (by decide) (by decide) (Nat.le_of_ble_eq_true rfl) (Nat.le_of_ble_eq_true rfl) (Nat.le_of_ble_eq_true rfl) (Nat.le_of_ble_eq_true rfl) (Nat.le_of_ble_eq_true rfl) (fun I8 => ?_)
  refine s_aload_n 1 dX7_copyPlay_117 rfl rfl ?_
  refine s_getR (q1 + 9) dX7_copyPlay_118 rfl fl_7_36 rfl (qS_0 hq1) (qR_8 hq1) ?_
  refine s_iconst (v := 0) dX7_copyPlay_121 rfl cI_0 ?_
  refine s_aload_n 0 dX7_copyPlay_122 rfl rfl ?_
  refine s_getR (q0 + 9) dX7_copyPlay_123 rfl fl_7_36 rfl (qS_0 hq0) (qR_8 hq0) ?_
  refine s_iconst (v := 0) dX7_copyPlay_126 rfl cI_0 ?_
  refine s_iconst (v := 4) dX7_copyPlay_127 rfl cI_4 ?_
  refine s_copyiL dX7_copyPlay_128 rfl lkw_7_48 lk_copy (qS_9 hq1) (qS_9 hq0) (by decide) (by decide) (by decide) (Nat.le_of_ble_eq_true rfl) (Nat.le_of_ble_eq_true rfl) (Nat.le_of_ble_eq_true rfl) (Nat.le_of_ble_eq_true rfl) (Nat.le_of_ble_eq_true rfl) (fun I9 => ?_)
  refine s_aload_n 1 dX7_copyPlay_131 rfl rfl ?_
  refine s_getR (q1 + 10) dX7_copyPlay_132 rfl fl_7_39 rfl (qS_0 hq1) (qR_9 hq1) ?_
  refine s_iconst (v := 0) dX7_copyPlay_135 rfl cI_0 ?_
  refine s_aload_n 0 dX7_copyPlay_136 rfl rfl ?_
  refine s_getR (q0 + 10) dX7_copyPlay_137 rfl fl_7_39 rfl (qS_0 hq0) (qR_9 hq0) ?_
  refine s_iconst (v := 0) dX7_copyPlay_140 rfl cI_0 ?_
  refine s_iconst (v := 4) dX7_copyPlay_141 rfl cI_4 ?_
  refine s_copyiL dX7_copyPlay_142 rfl lkw_7_48 lk_copy (qS_10 hq1) (qS_10 hq0) (by decide) (by decide) (by decide) (Nat.le_of_ble_eq_true rfl) (Nat.le_of_ble_eq_true rfl) (Nat.le_of_ble_eq_true rfl) (Nat.le_of_ble_eq_true rfl) (Nat.le_of_ble_eq_true rfl) (fun I10 => ?_)
  refine s_aload_n 0 dX7_copyPlay_145 rfl rfl ?_
  refine s_aload_n 1 dX7_copyPlay_146 rfl rfl ?_
  refine s_getI dX7_copyPlay_147 rfl fl_7_69 (qS_0 hq1) ?_
  refine s_putIL dX7_copyPlay_150 rfl fl_7_69 (qS_0 hq0) (fun I11 => ?_)
  exact s_vret dX7_copyPlay_153 rfl (fun f h => h)
