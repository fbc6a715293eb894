noncomputable def x3_open (a1 : Nat) (p2 : Int32) (I : MI) (L : ML) (R : MR) (S : MS) : Option (MI × ML × MR × MS) :=
ck (okr R S) <|
lt (wR R 21 1 (some a1)) fun R2 =>
ck (S[a1]? = some (12, 1600)) <|
ck (okr R2 S) <|
lt (wI I 21 2 (if (1600 : Int32) < p2 then 1600 else p2)) fun I5 =>
lt (wI I5 21 3 (0 : Int32)) fun I6 =>
ck (R2 21 1 = some 1) <|
b2 (x3_next I6 L) fun I8 L9 =>
some (I8, L9, R2, S)
theorem ct_x3_open {X : WX} {a1 : Nat} {p2 : Int32} {I : MI} {L : ML} {R : MR} {S : MS} : Ct X yX3_open cX3_open 3 none 2 41 [.ref (X.1 + 21), .ref (X.1 + a1), .int p2] (I, L, R, S) (x3_open a1 p2 I L R S) (fun r => (none, (r.1, r.2.1, r.2.2.1, r.2.2.2))) := by
  refine Ct.of (by decide) (Nat.le_of_ble_eq_true rfl) [(0, .ref (X.1 + 21)), (1, .ref (X.1 + a1)), (2, .int p2)] rfl ?_
  unfold x3_open
  refine s_aload_n 0 dX3_open_0 rfl rfl ?_
  refine s_aload_n 1 dX3_open_1 rfl rfl ?_
  refine sm_ck (fun g1 => ?_)
  refine s_putRL dX3_open_2 rfl fl_3_13 (Or.inr ⟨_, rfl⟩) (S_21 g1) (fun R2 _ => ?_)
  refine s_aload_n 0 dX3_open_5 rfl rfl ?_
  refine s_iload_n 2 dX3_open_6 rfl rfl ?_
  refine s_aload_n 1 dX3_open_7 rfl rfl ?_
  refine sm_ck (fun g3 => ?_)
  refine s_alen 0 (v := 1600) dX3_open_8 rfl g3 (by decide) rfl rfl ?_
  refine s_mmin dX3_open_9 rfl lkw_3_31 lk_mmin (Nat.le_of_ble_eq_true rfl) (Nat.le_of_ble_eq_true rfl) (Nat.le_of_ble_eq_true rfl) ?_
  refine sm_ck (fun g4 => ?_)
  refine s_putIL dX3_open_12 rfl fl_3_37 (S_21 g4) (fun I5 => ?_)
  refine s_aload_n 0 dX3_open_15 rfl rfl ?_
  refine s_iconst (v := 0) dX3_open_16 rfl cI_0 ?_
  refine s_putIL dX3_open_17 rfl fl_3_40 (S_21 g4) (fun I6 => ?_)
  refine s_aload_n 0 dX3_open_20 rfl rfl ?_
  refine sm_ck (fun g7 => ?_)
  refine s_callV0_v2 dX3_open_21 rfl lkV_RX3_43 (S_21 g4) (Nat.le_of_ble_eq_true rfl) (Nat.le_of_ble_eq_true rfl) (Nat.le_of_ble_eq_true rfl) (ct_x3_next g4 g7) (fun I8 L9 => ?_)
  exact s_vret dX3_open_24 rfl (fun f h => h)
noncomputable def x5_fail (p1 : Int32) (I : MI) : Option (Int32 × MI) :=
if (I 21 4) = 29 then (
lt (wI I 20 8 (1 : Int32)) fun I3 =>
lt (wI I3 20 9 (I3 21 5)) fun I4 =>
some ((0 : Int32), I4)) else
lt (wI I 20 8 p1) fun I1 =>
lt (wI I1 20 9 (I1 21 5)) fun I2 =>
some ((0 : Int32), I2)
theorem ct_x5_fail {X : WX} {p1 : Int32} {I : MI} {L : ML} {R : MR} {S : MS} (hK : okr R S) : Ct X yX5_fail cX5_fail 2 (some .boolean) 0 0 [.ref (X.1 + 20), .int p1] (I, L, R, S) (x5_fail p1 I) (fun r => (some (.int r.1), (r.2, L, R, S))) := by
  refine Ct.of (by decide) (Nat.le_of_ble_eq_true rfl) [(0, .ref (X.1 + 20)), (1, .int p1)] rfl ?_
  unfold x5_fail
  refine s_aload_n 0 dX5_fail_0 rfl rfl ?_
  refine s_aload_n 0 dX5_fail_1 rfl rfl ?_
  refine s_getR 21 dX5_fail_2 rfl fl_5_12 rfl (S_20 hK) (R_20_0 hK) ?_
  refine s_getI dX5_fail_5 rfl fl_5_55 (S_21 hK) ?_
  refine s_bipush (v := 29) dX5_fail_8 rfl cB_29 ?_
  refine s_icmp_ne (tgt := 17) dX5_fail_10 rfl rfl (fun _ => ?_) (fun _ => ?_)
  · skip
    refine s_iload_n 1 dX5_fail_17 rfl rfl ?_
    refine s_putIL dX5_fail_18 rfl fl_5_48 (S_20 hK) (fun I1 => ?_)
    refine s_aload_n 0 dX5_fail_21 rfl rfl ?_
    refine s_aload_n 0 dX5_fail_22 rfl rfl ?_
    refine s_getR 21 dX5_fail_23 rfl fl_5_12 rfl (S_20 hK) (R_20_0 hK) ?_
    refine s_getI dX5_fail_26 rfl fl_5_62 (S_21 hK) ?_
    refine s_putIL dX5_fail_29 rfl fl_5_28 (S_20 hK) (fun I2 => ?_)
    refine s_iconst (v := 0) dX5_fail_32 rfl cI_0 ?_
    exact s_zret dX5_fail_33 rfl (Or.inl rfl) (fun f h => h)
  · skip
    refine s_iconst (v := 1) dX5_fail_13 rfl cI_1 ?_
    refine s_goto (tgt := 18) dX5_fail_14 rfl ?_
    refine s_putIL dX5_fail_18 rfl fl_5_48 (S_20 hK) (fun I3 => ?_)
    refine s_aload_n 0 dX5_fail_21 rfl rfl ?_
    refine s_aload_n 0 dX5_fail_22 rfl rfl ?_
    refine s_getR 21 dX5_fail_23 rfl fl_5_12 rfl (S_20 hK) (R_20_0 hK) ?_
    refine s_getI dX5_fail_26 rfl fl_5_62 (S_21 hK) ?_
    refine s_putIL dX5_fail_29 rfl fl_5_28 (S_20 hK) (fun I4 => ?_)
    refine s_iconst (v := 0) dX5_fail_32 rfl cI_0 ?_
    exact s_zret dX5_fail_33 rfl (Or.inl rfl) (fun f h => h)
noncomputable def x5_number (p1 : Int32) (p2 : Int32) (I : MI) (L : ML) : Option (Int32 × MI × ML) :=
if (I 21 4) = 27 then (
lt (I 21 6) fun v1 =>
if v1 < p1 then (
b2 (x5_fail (4 : Int32) I) fun r2 I3 =>
some ((-1 : Int32), I3, L)) else
if p2 < v1 then (
b2 (x5_fail (4 : Int32) I) fun r6 I7 =>
some ((-1 : Int32), I7, L)) else
b2 (x3_next I L) fun I4 L5 =>
some (v1, I4, L5)) else
b2 (x5_fail (2 : Int32) I) fun r8 I9 =>
some ((-1 : Int32), I9, L)
theorem ct_x5_number {X : WX} {p1 : Int32} {p2 : Int32} {I : MI} {L : ML} {R : MR} {S : MS} (hK : okr R S) (hx : R 21 1 = some 1) : Ct X yX5_number cX5_number 4 (some .int) 2 41 [.ref (X.1 + 20), .int p1, .int p2] (I, L, R, S) (x5_number p1 p2 I L) (fun r => (some (.int r.1), (r.2.1, r.2.2, R, S))) := by
  refine Ct.of (by decide) (Nat.le_of_ble_eq_true rfl) [(0, .ref (X.1 + 20)), (1, .int p1), (2, .int p2)] rfl ?_
  unfold x5_number
  refine s_aload_n 0 dX5_number_0 rfl rfl ?_
  refine s_getR 21 dX5_number_1 rfl fl_5_12 rfl (S_20 hK) (R_20_0 hK) ?_
  refine s_getI dX5_number_4 rfl fl_5_55 (S_21 hK) ?_
  refine s_bipush (v := 27) dX5_number_7 rfl cB_27 ?_
  refine s_icmp_eq (tgt := 20) dX5_number_9 rfl rfl (fun _ => ?_) (fun _ => ?_)
  · skip
    refine s_aload_n 0 dX5_number_20 rfl rfl ?_
    refine s_getR 21 dX5_number_21 rfl fl_5_12 rfl (S_20 hK) (R_20_0 hK) ?_
    refine s_getI dX5_number_24 rfl fl_5_97 (S_21 hK) ?_
    refine s_istore_nL (fun v1 => [(3, .int v1), (0, .ref (X.1 + 20)), (1, .int p1), (2, .int p2)]) dX5_number_27 rfl (by decide) (fun _ => rfl) (fun v1 => ?_)
    refine s_iload_n 0 dX5_number_28 rfl rfl ?_
    refine s_iload_n 2 dX5_number_29 rfl rfl ?_
    refine s_icmp_lt (tgt := 38) dX5_number_30 rfl rfl (fun _ => ?_) (fun _ => ?_)
    · skip
      refine s_aload_n 1 dX5_number_38 rfl rfl ?_
      refine s_iconst (v := 4) dX5_number_39 rfl cI_4 ?_
      refine s_callV1_i1 dX5_number_40 rfl lkV_RX5_66 (S_20 hK) (Nat.le_of_ble_eq_true rfl) (Nat.le_of_ble_eq_true rfl) (Nat.le_of_ble_eq_true rfl) (ct_x5_fail hK) (fun r2 I3 => ?_)
      refine s_pop dX5_number_43 rfl rfl ?_
      refine s_iconst (v := (-1)) dX5_number_44 rfl cI_m1 ?_
      exact s_iret dX5_number_45 rfl (fun f h => h)
    · skip
      refine s_iload_n 0 dX5_number_33 rfl rfl ?_
      refine s_iload_n 3 dX5_number_34 rfl rfl ?_
      refine s_icmp_le (tgt := 46) dX5_number_35 rfl rfl (fun _ => ?_) (fun _ => ?_)
      · skip
        refine s_aload_n 1 dX5_number_46 rfl rfl ?_
        refine s_getR 21 dX5_number_47 rfl fl_5_12 rfl (S_20 hK) (R_20_0 hK) ?_
        refine s_callV0_v2 dX5_number_50 rfl lkV_RX5_94 (S_21 hK) (Nat.le_of_ble_eq_true rfl) (Nat.le_of_ble_eq_true rfl) (Nat.le_of_ble_eq_true rfl) (ct_x3_next hK hx) (fun I4 L5 => ?_)
        refine s_iload_n 0 dX5_number_53 rfl rfl ?_
        exact s_iret dX5_number_54 rfl (fun f h => h)
      · skip
        refine s_aload_n 1 dX5_number_38 rfl rfl ?_
        refine s_iconst (v := 4) dX5_number_39 rfl cI_4 ?_
        refine s_callV1_i1 dX5_number_40 rfl lkV_RX5_66 (S_20 hK) (Nat.le_of_ble_eq_true rfl) (Nat.le_of_ble_eq_true rfl) (Nat.le_of_ble_eq_true rfl) (ct_x5_fail hK) (fun r6 I7 => ?_)
        refine s_pop dX5_number_43 rfl rfl ?_
        refine s_iconst (v := (-1)) dX5_number_44 rfl cI_m1 ?_
        exact s_iret dX5_number_45 rfl (fun f h => h)
  · skip
    refine s_aload_n 0 dX5_number_12 rfl rfl ?_
    refine s_iconst (v := 2) dX5_number_13 rfl cI_2 ?_
    refine s_callV1_i1 dX5_number_14 rfl lkV_RX5_66 (S_20 hK) (Nat.le_of_ble_eq_true rfl) (Nat.le_of_ble_eq_true rfl) (Nat.le_of_ble_eq_true rfl) (ct_x5_fail hK) (fun r8 I9 => ?_)
    refine s_pop dX5_number_17 rfl rfl ?_
    refine s_iconst (v := (-1)) dX5_number_18 rfl cI_m1 ?_
    exact s_iret dX5_number_19 rfl (fun f h => h)
noncomputable def x5_token (p1 : Int32) (I : MI) (L : ML) : Option (Int32 × MI × ML) :=
if (I 21 4) = p1 then (
b2 (x3_next I L) fun I1 L2 =>
some ((1 : Int32), I1, L2)) else
b2 (x5_fail (2 : Int32) I) fun r3 I4 =>
ck (r3 = 0 ∨ r3 = 1) (some (r3, I4, L))
theorem ct_x5_token {X : WX} {p1 : Int32} {I : MI} {L : ML} {R : MR} {S : MS} (hK : okr R S) (hx : R 21 1 = some 1) : Ct X yX5_token cX5_token 2 (some .boolean) 2 41 [.ref (X.1 + 20), .int p1] (I, L, R, S) (x5_token p1 I L) (fun r => (some (.int r.1), (r.2.1, r.2.2, R, S))) := by
  refine Ct.of (by decide) (Nat.le_of_ble_eq_true rfl) [(0, .ref (X.1 + 20)), (1, .int p1)] rfl ?_
  unfold x5_token
  refine s_aload_n 0 dX5_token_0 rfl rfl ?_
  refine s_getR 21 dX5_token_1 rfl fl_5_12 rfl (S_20 hK) (R_20_0 hK) ?_
  refine s_getI dX5_token_4 rfl fl_5_55 (S_21 hK) ?_
  refine s_iload_n 1 dX5_token_7 rfl rfl ?_
  refine s_icmp_eq (tgt := 17) dX5_token_8 rfl rfl (fun _ => ?_) (fun _ => ?_)
  · skip
    refine s_aload_n 0 dX5_token_17 rfl rfl ?_
    refine s_getR 21 dX5_token_18 rfl fl_5_12 rfl (S_20 hK) (R_20_0 hK) ?_
    refine s_callV0_v2 dX5_token_21 rfl lkV_RX5_94 (S_21 hK) (Nat.le_of_ble_eq_true rfl) (Nat.le_of_ble_eq_true rfl) (Nat.le_of_ble_eq_true rfl) (ct_x3_next hK hx) (fun I1 L2 => ?_)
    refine s_iconst (v := 1) dX5_token_24 rfl cI_1 ?_
    exact s_zret dX5_token_25 rfl (Or.inr rfl) (fun f h => h)
  · skip
    refine s_aload_n 0 dX5_token_11 rfl rfl ?_
    refine s_iconst (v := 2) dX5_token_12 rfl cI_2 ?_
    refine s_callV1_i1 dX5_token_13 rfl lkV_RX5_66 (S_20 hK) (Nat.le_of_ble_eq_true rfl) (Nat.le_of_ble_eq_true rfl) (Nat.le_of_ble_eq_true rfl) (ct_x5_fail hK) (fun r3 I4 => ?_)
    refine sm_ck (fun g5 => ?_)
    exact s_zret dX5_token_16 rfl g5 (fun f h => h)
noncomputable def x5_numberBehind (p1 : Int32) (p2 : Int32) (p3 : Int32) (I : MI) (L : ML) : Option (Int32 × MI × ML) :=
b3 (x5_token p1 I L) fun r1 I2 L3 =>
if r1 = 0 then (
some ((-1 : Int32), I2, L3)) else
b3 (x5_number p2 p3 I2 L3) fun r4 I5 L6 =>
some (r4, I5, L6)
theorem ct_x5_numberBehind {X : WX} {p1 : Int32} {p2 : Int32} {p3 : Int32} {I : MI} {L : ML} {R : MR} {S : MS} (hK : okr R S) (hx : R 21 1 = some 1) : Ct X yX5_numberBehind cX5_numberBehind 4 (some .int) 3 64 [.ref (X.1 + 20), .int p1, .int p2, .int p3] (I, L, R, S) (x5_numberBehind p1 p2 p3 I L) (fun r => (some (.int r.1), (r.2.1, r.2.2, R, S))) := by
  refine Ct.of (by decide) (Nat.le_of_ble_eq_true rfl) [(0, .ref (X.1 + 20)), (1, .int p1), (2, .int p2), (3, .int p3)] rfl ?_
  unfold x5_numberBehind
  refine s_aload_n 0 dX5_numberBehind_0 rfl rfl ?_
  refine s_iload_n 1 dX5_numberBehind_1 rfl rfl ?_
  refine s_callV1_i2 dX5_numberBehind_2 rfl lkV_RX5_73 (S_20 hK) (Nat.le_of_ble_eq_true rfl) (Nat.le_of_ble_eq_true rfl) (Nat.le_of_ble_eq_true rfl) (ct_x5_token hK hx) (fun r1 I2 L3 => ?_)
  refine s_if_eq (tgt := 17) dX5_numberBehind_5 rfl rfl (fun _ => ?_) (fun _ => ?_)
  · skip
    refine s_iconst (v := (-1)) dX5_numberBehind_17 rfl cI_m1 ?_
    exact s_iret dX5_numberBehind_18 rfl (fun f h => h)
  · skip
    refine s_aload_n 0 dX5_numberBehind_8 rfl rfl ?_
    refine s_iload_n 2 dX5_numberBehind_9 rfl rfl ?_
    refine s_iload_n 3 dX5_numberBehind_10 rfl rfl ?_
    refine s_callV2_i2 dX5_numberBehind_11 rfl lkV_RX5_100 (S_20 hK) (Nat.le_of_ble_eq_true rfl) (Nat.le_of_ble_eq_true rfl) (Nat.le_of_ble_eq_true rfl) (ct_x5_number hK hx) (fun r4 I5 L6 => ?_)
    refine s_goto (tgt := 18) dX5_numberBehind_14 rfl ?_
    exact s_iret dX5_numberBehind_18 rfl (fun f h => h)
noncomputable def x5_tubLine (r : Nat) (I : MI) (L : ML) : Option (Int32 × MI × ML) :=
b2 (x3_next I L) fun I1 L2 =>
b3 (x5_number (1 : Int32) (6 : Int32) I1 L2) fun r3 I4 L5 =>
lt r3 fun v6 =>
if v6 = (-1) then (
some ((0 : Int32), I4, L5)) else
lt (wI I4 r 0 v6) fun I7 =>
b3 (x5_numberBehind (1 : Int32) (1 : Int32) (6 : Int32) I7 L5) fun r8 I9 L10 =>
lt (wI I9 r 1 r8) fun I11 =>
if (I11 r 1) = (-1) then (
some ((0 : Int32), I11, L10)) else
some ((1 : Int32), I11, L10)
theorem ct_x5_tubLine {X : WX} {r : Nat} {I : MI} {L : ML} {R : MR} {S : MS} (hK : okr R S) (hr : R 20 4 = some r ∧ isT r) (hx : R 21 1 = some 1) : Ct X yX5_tubLine cX5_tubLine 2 (some .boolean) 4 87 [.ref (X.1 + 20)] (I, L, R, S) (x5_tubLine r I L) (fun r => (some (.int r.1), (r.2.1, r.2.2, R, S))) := by
  refine Ct.of (by decide) (Nat.le_of_ble_eq_true rfl) [(0, .ref (X.1 + 20))] rfl ?_
  unfold x5_tubLine
  refine s_aload_n 0 dX5_tubLine_0 rfl rfl ?_
  refine s_getR 21 dX5_tubLine_1 rfl fl_5_12 rfl (S_20 hK) (R_20_0 hK) ?_
  refine s_callV0_v2 dX5_tubLine_4 rfl lkV_RX5_94 (S_21 hK) (Nat.le_of_ble_eq_true rfl) (Nat.le_of_ble_eq_true rfl) (Nat.le_of_ble_eq_true rfl) (ct_x3_next hK hx) (fun I1 L2 => ?_)
  refine s_aload_n 0 dX5_tubLine_7 rfl rfl ?_
  refine s_iconst (v := 1) dX5_tubLine_8 rfl cI_1 ?_
  refine s_bipush (v := 6) dX5_tubLine_9 rfl cB_6 ?_
  refine s_callV2_i2 dX5_tubLine_11 rfl lkV_RX5_100 (S_20 hK) (Nat.le_of_ble_eq_true rfl) (Nat.le_of_ble_eq_true rfl) (Nat.le_of_ble_eq_true rfl) (ct_x5_number hK hx) (fun r3 I4 L5 => ?_)
  refine s_istore_nL (fun v6 => [(1, .int v6), (0, .ref (X.1 + 20))]) dX5_tubLine_14 rfl (by decide) (fun _ => rfl) (fun v6 => ?_)
  refine s_iload_n 0 dX5_tubLine_15 rfl rfl ?_
  refine s_iconst (v := (-1)) dX5_tubLine_16 rfl cI_m1 ?_
  refine s_icmp_ne (tgt := 22) dX5_tubLine_17 rfl rfl (fun _ => ?_) (fun _ => ?_)
  · skip
    refine s_aload_n 1 dX5_tubLine_22 rfl rfl ?_
    refine s_getR r dX5_tubLine_23 rfl fl_5_32 rfl (S_20 hK) hr.1 ?_
    refine s_iload_n 0 dX5_tubLine_26 rfl rfl ?_
    refine s_putIL dX5_tubLine_27 rfl fl_5_63 (tS_0 hK hr.2) (fun I7 => ?_)
    refine s_aload_n 1 dX5_tubLine_30 rfl rfl ?_
    refine s_getR r dX5_tubLine_31 rfl fl_5_32 rfl (S_20 hK) hr.1 ?_
    refine s_aload_n 1 dX5_tubLine_34 rfl rfl ?_
    refine s_iconst (v := 1) dX5_tubLine_35 rfl cI_1 ?_
    refine s_iconst (v := 1) dX5_tubLine_36 rfl cI_1 ?_
    refine s_bipush (v := 6) dX5_tubLine_37 rfl cB_6 ?_
    refine s_callV3_i2 dX5_tubLine_39 rfl lkV_RX5_111 (S_20 hK) (Nat.le_of_ble_eq_true rfl) (Nat.le_of_ble_eq_true rfl) (Nat.le_of_ble_eq_true rfl) (ct_x5_numberBehind hK hx) (fun r8 I9 L10 => ?_)
    refine s_putIL dX5_tubLine_42 rfl fl_5_115 (tS_0 hK hr.2) (fun I11 => ?_)
    refine s_aload_n 1 dX5_tubLine_45 rfl rfl ?_
    refine s_getR r dX5_tubLine_46 rfl fl_5_32 rfl (S_20 hK) hr.1 ?_
    refine s_getI dX5_tubLine_49 rfl fl_5_115 (tS_0 hK hr.2) ?_
    refine s_iconst (v := (-1)) dX5_tubLine_52 rfl cI_m1 ?_
    refine s_icmp_eq (tgt := 60) dX5_tubLine_53 rfl rfl (fun _ => ?_) (fun _ => ?_)
    · skip
      refine s_iconst (v := 0) dX5_tubLine_60 rfl cI_0 ?_
      exact s_zret dX5_tubLine_61 rfl (Or.inl rfl) (fun f h => h)
    · skip
      refine s_iconst (v := 1) dX5_tubLine_56 rfl cI_1 ?_
      refine s_goto (tgt := 61) dX5_tubLine_57 rfl ?_
      exact s_zret dX5_tubLine_61 rfl (Or.inr rfl) (fun f h => h)
  · skip
    refine s_iconst (v := 0) dX5_tubLine_20 rfl cI_0 ?_
    exact s_zret dX5_tubLine_21 rfl (Or.inl rfl) (fun f h => h)
noncomputable def x0_isTold (t0 : Nat) (p1 : Int32) (I : MI) : Option (Int32) :=
if p1 < 0 then (
some (0 : Int32)) else
if p1 < 11 then (
ck (vp_in p1 11) <|
if 0 < (I (t0 + 15) (ix p1)) then (
some (1 : Int32)) else
some (0 : Int32)) else
some (0 : Int32)
theorem ct_x0_isTold {X : WX} {t0 : Nat} {p1 : Int32} {I : MI} {L : ML} {R : MR} {S : MS} (hK : okr R S) (ht0 : isT t0) : Ct X yX0_isTold cX0_isTold 2 (some .boolean) 0 0 [.ref (X.1 + (t0 + 13)), .int p1] (I, L, R, S) (x0_isTold t0 p1 I) (fun r => (some (.int r), (I, L, R, S))) := by
  refine Ct.of (by decide) (Nat.le_of_ble_eq_true rfl) [(0, .ref (X.1 + (t0 + 13))), (1, .int p1)] rfl ?_
  unfold x0_isTold
  refine s_iload_n 1 dX0_isTold_0 rfl rfl ?_
  refine s_if_lt (tgt := 26) dX0_isTold_1 rfl rfl (fun _ => ?_) (fun _ => ?_)
  · skip
    refine s_iconst (v := 0) dX0_isTold_26 rfl cI_0 ?_
    exact s_zret dX0_isTold_27 rfl (Or.inl rfl) (fun f h => h)
  · skip
    refine s_iload_n 1 dX0_isTold_4 rfl rfl ?_
    refine s_aload_n 0 dX0_isTold_5 rfl rfl ?_
    refine s_getR (t0 + 15) dX0_isTold_6 rfl fl_0_15 rfl (tS_13 hK ht0) (tR_13_1 hK ht0) ?_
    refine s_alen 1 (v := 11) dX0_isTold_9 rfl (tS_15 hK ht0) (by decide) rfl rfl ?_
    refine s_icmp_ge (tgt := 26) dX0_isTold_10 rfl rfl (fun _ => ?_) (fun _ => ?_)
    · skip
      refine s_iconst (v := 0) dX0_isTold_26 rfl cI_0 ?_
      exact s_zret dX0_isTold_27 rfl (Or.inl rfl) (fun f h => h)
    · skip
      refine s_aload_n 0 dX0_isTold_13 rfl rfl ?_
      refine s_getR (t0 + 15) dX0_isTold_14 rfl fl_0_15 rfl (tS_13 hK ht0) (tR_13_1 hK ht0) ?_
      refine s_iload_n 1 dX0_isTold_17 rfl rfl ?_
      refine sm_ck (fun g1 => ?_)
      refine s_iald dX0_isTold_18 rfl (tS_15 hK ht0) g1 ?_
      refine s_if_le (tgt := 26) dX0_isTold_19 rfl rfl (fun _ => ?_) (fun _ => ?_)
      · skip
        refine s_iconst (v := 0) dX0_isTold_26 rfl cI_0 ?_
        exact s_zret dX0_isTold_27 rfl (Or.inl rfl) (fun f h => h)
      · skip
        refine s_iconst (v := 1) dX0_isTold_22 rfl cI_1 ?_
        refine s_goto (tgt := 27) dX0_isTold_23 rfl ?_
        exact s_zret dX0_isTold_27 rfl (Or.inr rfl) (fun f h => h)
noncomputable def x0_begin (t0 : Nat) (p1 : Int32) (I : MI) : Option (MI) :=
if p1 < 0 then (
some I) else
if p1 < 11 then (
ck (vp_in p1 11) <|
lt (wI I (t0 + 15) (ix p1) (I (t0 + 13) 4)) fun I1 =>
some I1) else
some I
theorem ct_x0_begin {X : WX} {t0 : Nat} {p1 : Int32} {I : MI} {L : ML} {R : MR} {S : MS} (hK : okr R S) (ht0 : isT t0) : Ct X yX0_begin cX0_begin 2 none 0 0 [.ref (X.1 + (t0 + 13)), .int p1] (I, L, R, S) (x0_begin t0 p1 I) (fun r => (none, (r, L, R, S))) := by
  refine Ct.of (by decide) (Nat.le_of_ble_eq_true rfl) [(0, .ref (X.1 + (t0 + 13))), (1, .int p1)] rfl ?_
  unfold x0_begin
  refine s_iload_n 1 dX0_begin_0 rfl rfl ?_
  refine s_if_lt (tgt := 23) dX0_begin_1 rfl rfl (fun _ => ?_) (fun _ => ?_)
  · skip
    exact s_vret dX0_begin_23 rfl (fun f h => h)
  · skip
    refine s_iload_n 1 dX0_begin_4 rfl rfl ?_
    refine s_aload_n 0 dX0_begin_5 rfl rfl ?_
    refine s_getR (t0 + 15) dX0_begin_6 rfl fl_0_15 rfl (tS_13 hK ht0) (tR_13_1 hK ht0) ?_
    refine s_alen 1 (v := 11) dX0_begin_9 rfl (tS_15 hK ht0) (by decide) rfl rfl ?_
    refine s_icmp_ge (tgt := 23) dX0_begin_10 rfl rfl (fun _ => ?_) (fun _ => ?_)
    · skip
      exact s_vret dX0_begin_23 rfl (fun f h => h)
    · skip
      refine s_aload_n 0 dX0_begin_13 rfl rfl ?_
      refine s_getR (t0 + 15) dX0_begin_14 rfl fl_0_15 rfl (tS_13 hK ht0) (tR_13_1 hK ht0) ?_
      refine s_iload_n 1 dX0_begin_17 rfl rfl ?_
      refine s_aload_n 0 dX0_begin_18 rfl rfl ?_
      refine s_getI dX0_begin_19 rfl fl_0_31 (tS_13 hK ht0) ?_
      refine sm_ck (fun g2 => ?_)
      refine s_iastL dX0_begin_22 rfl (tS_15 hK ht0) g2 (fun I1 => ?_)
      exact s_vret dX0_begin_23 rfl (fun f h => h)
noncomputable def x0_add (t0 : Nat) (p1 : Int32) (I : MI) : Option (MI) :=
if (I (t0 + 13) 4) < 640 then (
ck (vp_in (I (t0 + 13) 4) 640) <|
lt (wI I (t0 + 14) (ix (I (t0 + 13) 4)) p1) fun I1 =>
lt (wI I1 (t0 + 13) 4 ((I1 (t0 + 13) 4) + 1)) fun I3 =>
some I3) else
some I
theorem ct_x0_add {X : WX} {t0 : Nat} {p1 : Int32} {I : MI} {L : ML} {R : MR} {S : MS} (hK : okr R S) (ht0 : isT t0) : Ct X yX0_add cX0_add 2 none 0 0 [.ref (X.1 + (t0 + 13)), .int p1] (I, L, R, S) (x0_add t0 p1 I) (fun r => (none, (r, L, R, S))) := by
  refine Ct.of (by decide) (Nat.le_of_ble_eq_true rfl) [(0, .ref (X.1 + (t0 + 13))), (1, .int p1)] rfl ?_
  unfold x0_add
  refine s_aload_n 0 dX0_add_0 rfl rfl ?_
  refine s_getI dX0_add_1 rfl fl_0_31 (tS_13 hK ht0) ?_
  refine s_sipush (v := 640) dX0_add_4 rfl cS_640 ?_
  refine s_icmp_ge (tgt := 30) dX0_add_7 rfl rfl (fun _ => ?_) (fun _ => ?_)
  · skip
    exact s_vret dX0_add_30 rfl (fun f h => h)
  · skip
    refine s_aload_n 0 dX0_add_10 rfl rfl ?_
    refine s_getR (t0 + 14) dX0_add_11 rfl fl_0_11 rfl (tS_13 hK ht0) (tR_13_0 hK ht0) ?_
    refine s_aload_n 0 dX0_add_14 rfl rfl ?_
    refine s_getI dX0_add_15 rfl fl_0_31 (tS_13 hK ht0) ?_
    refine s_iload_n 1 dX0_add_18 rfl rfl ?_
    refine sm_ck (fun g2 => ?_)
    refine s_iastL dX0_add_19 rfl (tS_14 hK ht0) g2 (fun I1 => ?_)
    refine s_aload_n 0 dX0_add_20 rfl rfl ?_
    refine s_dup dX0_add_21 rfl rfl ?_
    refine s_getI dX0_add_22 rfl fl_0_31 (tS_13 hK ht0) ?_
    refine s_iconst (v := 1) dX0_add_25 rfl cI_1 ?_
    refine s_iadd dX0_add_26 rfl ?_
    refine s_putIL dX0_add_27 rfl fl_0_31 (tS_13 hK ht0) (fun I3 => ?_)
    exact s_vret dX0_add_30 rfl (fun f h => h)
noncomputable def x0_addOperator (t0 : Nat) (p1 : Int32) (I : MI) : Option (MI) :=
b1 (x0_add t0 (20000 + p1) I) fun I1 =>
some I1
theorem ct_x0_addOperator {X : WX} {t0 : Nat} {p1 : Int32} {I : MI} {L : ML} {R : MR} {S : MS} (hK : okr R S) (ht0 : isT t0) : Ct X yX0_addOperator cX0_addOperator 2 none 1 21 [.ref (X.1 + (t0 + 13)), .int p1] (I, L, R, S) (x0_addOperator t0 p1 I) (fun r => (none, (r, L, R, S))) := by
  refine Ct.of (by decide) (Nat.le_of_ble_eq_true rfl) [(0, .ref (X.1 + (t0 + 13))), (1, .int p1)] rfl ?_
  unfold x0_addOperator
  refine s_aload_n 0 dX0_addOperator_0 rfl rfl ?_
  refine s_sipush (v := 20000) dX0_addOperator_1 rfl cS_20000 ?_
  refine s_iload_n 1 dX0_addOperator_4 rfl rfl ?_
  refine s_iadd dX0_addOperator_5 rfl ?_
  refine s_callV1_v1 dX0_addOperator_6 rfl lkV_RX0_40 (tS_13 hK ht0) (Nat.le_of_ble_eq_true rfl) (Nat.le_of_ble_eq_true rfl) (Nat.le_of_ble_eq_true rfl) (ct_x0_add hK ht0) (fun I1 => ?_)
  exact s_vret dX0_addOperator_9 rfl (fun f h => h)
noncomputable def x0_seenBy (p0 : Int32) (I : MI) : Option (Int32) :=
if p0 = 2 then (
some (9 : Int32)) else
if p0 = 3 then (
some (-1 : Int32)) else
if p0 = 4 then (
some (2 : Int32)) else
if p0 = 5 then (
some (3 : Int32)) else
if p0 = 6 then (
some (-1 : Int32)) else
if p0 = 7 then (
some (-1 : Int32)) else
if p0 = 8 then (
some (-1 : Int32)) else
if p0 = 9 then (
some (-1 : Int32)) else
if p0 = 10 then (
some (-1 : Int32)) else
if p0 = 11 then (
some (0 : Int32)) else
if p0 = 12 then (
some (1 : Int32)) else
if p0 = 13 then (
some (-1 : Int32)) else
if p0 = 14 then (
some (-1 : Int32)) else
if p0 = 15 then (
some (-1 : Int32)) else
if p0 = 16 then (
some (7 : Int32)) else
if p0 = 17 then (
some (6 : Int32)) else
if p0 = 18 then (
some (-1 : Int32)) else
if p0 = 19 then (
some (-1 : Int32)) else
if p0 = 20 then (
some (4 : Int32)) else
if p0 = 21 then (
some (5 : Int32)) else
if p0 = 22 then (
some (8 : Int32)) else
some (-1 : Int32)
theorem ct_x0_seenBy {X : WX} {p0 : Int32} {I : MI} {L : ML} {R : MR} {S : MS} (hK : okr R S) : Ct X yX0_seenBy cX0_seenBy 1 (some .int) 0 0 [.int p0] (I, L, R, S) (x0_seenBy p0 I) (fun r => (some (.int r), (I, L, R, S))) := by
  refine Ct.of (by decide) (Nat.le_of_ble_eq_true rfl) [(0, .int p0)] rfl ?_
  unfold x0_seenBy
  refine s_iload_n 0 dX0_seenBy_0 rfl rfl ?_
  refine sm_ite (fun h1 => ?_) (fun h1 => ?_)
  · skip
    refine s_tin (tgt := 121) dX0_seenBy_1 (by rw [h1]; try decide) (by rw [h1]; try decide) (by rw [h1]; try rfl) rfl ?_
    refine s_bipush (v := 9) dX0_seenBy_121 rfl cB_9 ?_
    exact s_iret dX0_seenBy_123 rfl (fun f h => h)
  refine sm_ite (fun h2 => ?_) (fun h2 => ?_)
  · skip
    refine s_tin (tgt := 124) dX0_seenBy_1 (by rw [h2]; try decide) (by rw [h2]; try decide) (by rw [h2]; try rfl) rfl ?_
    refine s_iconst (v := (-1)) dX0_seenBy_124 rfl cI_m1 ?_
    exact s_iret dX0_seenBy_125 rfl (fun f h => h)
  refine sm_ite (fun h3 => ?_) (fun h3 => ?_)
  · skip
    refine s_tin (tgt := 104) dX0_seenBy_1 (by rw [h3]; try decide) (by rw [h3]; try decide) (by rw [h3]; try rfl) rfl ?_
    refine s_iconst (v := 2) dX0_seenBy_104 rfl cI_2 ?_
    exact s_iret dX0_seenBy_105 rfl (fun f h => h)
  refine sm_ite (fun h4 => ?_) (fun h4 => ?_)
  · skip
    refine s_tin (tgt := 106) dX0_seenBy_1 (by rw [h4]; try decide) (by rw [h4]; try decide) (by rw [h4]; try rfl) rfl ?_
    refine s_iconst (v := 3) dX0_seenBy_106 rfl cI_3 ?_
    exact s_iret dX0_seenBy_107 rfl (fun f h => h)
  refine sm_ite (fun h5 => ?_) (fun h5 => ?_)
  · skip
    refine s_tin (tgt := 124) dX0_seenBy_1 (by rw [h5]; try decide) (by rw [h5]; try decide) (by rw [h5]; try rfl) rfl ?_
    refine s_iconst (v := (-1)) dX0_seenBy_124 rfl cI_m1 ?_
    exact s_iret dX0_seenBy_125 rfl (fun f h => h)
  refine sm_ite (fun h6 => ?_) (fun h6 => ?_)
  · skip
    refine s_tin (tgt := 124) dX0_seenBy_1 (by rw [h6]; try decide) (by rw [h6]; try decide) (by rw [h6]; try rfl) rfl ?_
    refine s_iconst (v := (-1)) dX0_seenBy_124 rfl cI_m1 ?_
    exact s_iret dX0_seenBy_125 rfl (fun f h => h)
  refine sm_ite (fun h7 => ?_) (fun h7 => ?_)
  · skip
    refine s_tin (tgt := 124) dX0_seenBy_1 (by rw [h7]; try decide) (by rw [h7]; try decide) (by rw [h7]; try rfl) rfl ?_
    refine s_iconst (v := (-1)) dX0_seenBy_124 rfl cI_m1 ?_
    exact s_iret dX0_seenBy_125 rfl (fun f h => h)
  refine sm_ite (fun h8 => ?_) (fun h8 => ?_)
  · skip
    refine s_tin (tgt := 124) dX0_seenBy_1 (by rw [h8]; try decide) (by rw [h8]; try decide) (by rw [h8]; try rfl) rfl ?_
    refine s_iconst (v := (-1)) dX0_seenBy_124 rfl cI_m1 ?_
    exact s_iret dX0_seenBy_125 rfl (fun f h => h)
  refine sm_ite (fun h9 => ?_) (fun h9 => ?_)
  · skip
    refine s_tin (tgt := 124) dX0_seenBy_1 (by rw [h9]; try decide) (by rw [h9]; try decide) (by rw [h9]; try rfl) rfl ?_
    refine s_iconst (v := (-1)) dX0_seenBy_124 rfl cI_m1 ?_
    exact s_iret dX0_seenBy_125 rfl (fun f h => h)
  refine sm_ite (fun h10 => ?_) (fun h10 => ?_)
  · skip
    refine s_tin (tgt := 100) dX0_seenBy_1 (by rw [h10]; try decide) (by rw [h10]; try decide) (by rw [h10]; try rfl) rfl ?_
    refine s_iconst (v := 0) dX0_seenBy_100 rfl cI_0 ?_
    exact s_iret dX0_seenBy_101 rfl (fun f h => h)
  refine sm_ite (fun h11 => ?_) (fun h11 => ?_)
  · skip
    refine s_tin (tgt := 102) dX0_seenBy_1 (by rw [h11]; try decide) (by rw [h11]; try decide) (by rw [h11]; try rfl) rfl ?_
    refine s_iconst (v := 1) dX0_seenBy_102 rfl cI_1 ?_
    exact s_iret dX0_seenBy_103 rfl (fun f h => h)
  refine sm_ite (fun h12 => ?_) (fun h12 => ?_)
  · skip
    refine s_tin (tgt := 124) dX0_seenBy_1 (by rw [h12]; try decide) (by rw [h12]; try decide) (by rw [h12]; try rfl) rfl ?_
    refine s_iconst (v := (-1)) dX0_seenBy_124 rfl cI_m1 ?_
    exact s_iret dX0_seenBy_125 rfl (fun f h => h)
  refine sm_ite (fun h13 => ?_) (fun h13 => ?_)
  · skip
    refine s_tin (tgt := 124) dX0_seenBy_1 (by rw [h13]; try decide) (by rw [h13]; try decide) (by rw [h13]; try rfl) rfl ?_
    refine s_iconst (v := (-1)) dX0_seenBy_124 rfl cI_m1 ?_
    exact s_iret dX0_seenBy_125 rfl (fun f h => h)
  refine sm_ite (fun h14 => ?_) (fun h14 => ?_)
  · skip
    refine s_tin (tgt := 124) dX0_seenBy_1 (by rw [h14]; try decide) (by rw [h14]; try decide) (by rw [h14]; try rfl) rfl ?_
    refine s_iconst (v := (-1)) dX0_seenBy_124 rfl cI_m1 ?_
    exact s_iret dX0_seenBy_125 rfl (fun f h => h)
  refine sm_ite (fun h15 => ?_) (fun h15 => ?_)
  · skip
    refine s_tin (tgt := 115) dX0_seenBy_1 (by rw [h15]; try decide) (by rw [h15]; try decide) (by rw [h15]; try rfl) rfl ?_
    refine s_bipush (v := 7) dX0_seenBy_115 rfl cB_7 ?_
    exact s_iret dX0_seenBy_117 rfl (fun f h => h)
  refine sm_ite (fun h16 => ?_) (fun h16 => ?_)
  · skip
    refine s_tin (tgt := 112) dX0_seenBy_1 (by rw [h16]; try decide) (by rw [h16]; try decide) (by rw [h16]; try rfl) rfl ?_
    refine s_bipush (v := 6) dX0_seenBy_112 rfl cB_6 ?_
    exact s_iret dX0_seenBy_114 rfl (fun f h => h)
  refine sm_ite (fun h17 => ?_) (fun h17 => ?_)
  · skip
    refine s_tin (tgt := 124) dX0_seenBy_1 (by rw [h17]; try decide) (by rw [h17]; try decide) (by rw [h17]; try rfl) rfl ?_
    refine s_iconst (v := (-1)) dX0_seenBy_124 rfl cI_m1 ?_
    exact s_iret dX0_seenBy_125 rfl (fun f h => h)
  refine sm_ite (fun h18 => ?_) (fun h18 => ?_)
  · skip
    refine s_tin (tgt := 124) dX0_seenBy_1 (by rw [h18]; try decide) (by rw [h18]; try decide) (by rw [h18]; try rfl) rfl ?_
    refine s_iconst (v := (-1)) dX0_seenBy_124 rfl cI_m1 ?_
    exact s_iret dX0_seenBy_125 rfl (fun f h => h)
  refine sm_ite (fun h19 => ?_) (fun h19 => ?_)
  · skip
    refine s_tin (tgt := 108) dX0_seenBy_1 (by rw [h19]; try decide) (by rw [h19]; try decide) (by rw [h19]; try rfl) rfl ?_
    refine s_iconst (v := 4) dX0_seenBy_108 rfl cI_4 ?_
    exact s_iret dX0_seenBy_109 rfl (fun f h => h)
  refine sm_ite (fun h20 => ?_) (fun h20 => ?_)
  · skip
    refine s_tin (tgt := 110) dX0_seenBy_1 (by rw [h20]; try decide) (by rw [h20]; try decide) (by rw [h20]; try rfl) rfl ?_
    refine s_iconst (v := 5) dX0_seenBy_110 rfl cI_5 ?_
    exact s_iret dX0_seenBy_111 rfl (fun f h => h)
  refine sm_ite (fun h21 => ?_) (fun h21 => ?_)
  · skip
    refine s_tin (tgt := 118) dX0_seenBy_1 (by rw [h21]; try decide) (by rw [h21]; try decide) (by rw [h21]; try rfl) rfl ?_
    refine s_bipush (v := 8) dX0_seenBy_118 rfl cB_8 ?_
    exact s_iret dX0_seenBy_120 rfl (fun f h => h)
  have hsw : ¬ (p0).toInt = 2 ∧ ¬ (p0).toInt = 3 ∧ ¬ (p0).toInt = 4 ∧ ¬ (p0).toInt = 5 ∧ ¬ (p0).toInt = 6 ∧ ¬ (p0).toInt = 7 ∧ ¬ (p0).toInt = 8 ∧ ¬ (p0).toInt = 9 ∧ ¬ (p0).toInt = 10 ∧ ¬ (p0).toInt = 11 ∧ ¬ (p0).toInt = 12 ∧ ¬ (p0).toInt = 13 ∧ ¬ (p0).toInt = 14 ∧ ¬ (p0).toInt = 15 ∧ ¬ (p0).toInt = 16 ∧ ¬ (p0).toInt = 17 ∧ ¬ (p0).toInt = 18 ∧ ¬ (p0).toInt = 19 ∧ ¬ (p0).toInt = 20 ∧ ¬ (p0).toInt = 21 ∧ ¬ (p0).toInt = 22 := ⟨lv_neT h1 (a := 2) rfl, lv_neT h2 (a := 3) rfl, lv_neT h3 (a := 4) rfl, lv_neT h4 (a := 5) rfl, lv_neT h5 (a := 6) rfl, lv_neT h6 (a := 7) rfl, lv_neT h7 (a := 8) rfl, lv_neT h8 (a := 9) rfl, lv_neT h9 (a := 10) rfl, lv_neT h10 (a := 11) rfl, lv_neT h11 (a := 12) rfl, lv_neT h12 (a := 13) rfl, lv_neT h13 (a := 14) rfl, lv_neT h14 (a := 15) rfl, lv_neT h15 (a := 16) rfl, lv_neT h16 (a := 17) rfl, lv_neT h17 (a := 18) rfl, lv_neT h18 (a := 19) rfl, lv_neT h19 (a := 20) rfl, lv_neT h20 (a := 21) rfl, lv_neT h21 (a := 22) rfl⟩
  refine s_tout (tgt := 124) dX0_seenBy_1 (by omega) rfl ?_
  refine s_iconst (v := (-1)) dX0_seenBy_124 rfl cI_m1 ?_
  exact s_iret dX0_seenBy_125 rfl (fun f h => h)
noncomputable def x0_addNumber (t0 : Nat) (p1 : Int32) (I : MI) : Option (MI) :=
b1 (x0_add t0 p1 I) fun I1 =>
some I1
theorem ct_x0_addNumber {X : WX} {t0 : Nat} {p1 : Int32} {I : MI} {L : ML} {R : MR} {S : MS} (hK : okr R S) (ht0 : isT t0) : Ct X yX0_addNumber cX0_addNumber 2 none 1 21 [.ref (X.1 + (t0 + 13)), .int p1] (I, L, R, S) (x0_addNumber t0 p1 I) (fun r => (none, (r, L, R, S))) := by
  refine Ct.of (by decide) (Nat.le_of_ble_eq_true rfl) [(0, .ref (X.1 + (t0 + 13))), (1, .int p1)] rfl ?_
  unfold x0_addNumber
  refine s_aload_n 0 dX0_addNumber_0 rfl rfl ?_
  refine s_iload_n 1 dX0_addNumber_1 rfl rfl ?_
  refine s_callV1_v1 dX0_addNumber_2 rfl lkV_RX0_40 (tS_13 hK ht0) (Nat.le_of_ble_eq_true rfl) (Nat.le_of_ble_eq_true rfl) (Nat.le_of_ble_eq_true rfl) (ct_x0_add hK ht0) (fun I1 => ?_)
  exact s_vret dX0_addNumber_5 rfl (fun f h => h)
noncomputable def x0_addSeen (t0 : Nat) (p1 : Int32) (I : MI) : Option (MI) :=
b1 (x0_add t0 (10000 + p1) I) fun I1 =>
some I1
theorem ct_x0_addSeen {X : WX} {t0 : Nat} {p1 : Int32} {I : MI} {L : ML} {R : MR} {S : MS} (hK : okr R S) (ht0 : isT t0) : Ct X yX0_addSeen cX0_addSeen 2 none 1 21 [.ref (X.1 + (t0 + 13)), .int p1] (I, L, R, S) (x0_addSeen t0 p1 I) (fun r => (none, (r, L, R, S))) := by
  refine Ct.of (by decide) (Nat.le_of_ble_eq_true rfl) [(0, .ref (X.1 + (t0 + 13))), (1, .int p1)] rfl ?_
  unfold x0_addSeen
  refine s_aload_n 0 dX0_addSeen_0 rfl rfl ?_
  refine s_sipush (v := 10000) dX0_addSeen_1 rfl cS_10000 ?_
  refine s_iload_n 1 dX0_addSeen_4 rfl rfl ?_
  refine s_iadd dX0_addSeen_5 rfl ?_
  refine s_callV1_v1 dX0_addSeen_6 rfl lkV_RX0_40 (tS_13 hK ht0) (Nat.le_of_ble_eq_true rfl) (Nat.le_of_ble_eq_true rfl) (Nat.le_of_ble_eq_true rfl) (ct_x0_add hK ht0) (fun I1 => ?_)
  exact s_vret dX0_addSeen_9 rfl (fun f h => h)
noncomputable def x5_isTermSign (p0 : Int32) (I : MI) : Option (Int32) :=
if p0 = 42 then (
some (1 : Int32)) else
if p0 = 47 then (
some (1 : Int32)) else
if p0 = 37 then (
some (1 : Int32)) else
some (0 : Int32)
theorem ct_x5_isTermSign {X : WX} {p0 : Int32} {I : MI} {L : ML} {R : MR} {S : MS} (hK : okr R S) : Ct X yX5_isTermSign cX5_isTermSign 1 (some .boolean) 0 0 [.int p0] (I, L, R, S) (x5_isTermSign p0 I) (fun r => (some (.int r), (I, L, R, S))) := by
  refine Ct.of (by decide) (Nat.le_of_ble_eq_true rfl) [(0, .int p0)] rfl ?_
  unfold x5_isTermSign
  refine s_iload_n 0 dX5_isTermSign_0 rfl rfl ?_
  refine s_bipush (v := 42) dX5_isTermSign_1 rfl cB_42 ?_
  refine s_icmp_eq (tgt := 18) dX5_isTermSign_3 rfl rfl (fun _ => ?_) (fun _ => ?_)
  · skip
    refine s_iconst (v := 1) dX5_isTermSign_18 rfl cI_1 ?_
    refine s_goto (tgt := 23) dX5_isTermSign_19 rfl ?_
    exact s_zret dX5_isTermSign_23 rfl (Or.inr rfl) (fun f h => h)
  · skip
    refine s_iload_n 0 dX5_isTermSign_6 rfl rfl ?_
    refine s_bipush (v := 47) dX5_isTermSign_7 rfl cB_47 ?_
    refine s_icmp_eq (tgt := 18) dX5_isTermSign_9 rfl rfl (fun _ => ?_) (fun _ => ?_)
    · skip
      refine s_iconst (v := 1) dX5_isTermSign_18 rfl cI_1 ?_
      refine s_goto (tgt := 23) dX5_isTermSign_19 rfl ?_
      exact s_zret dX5_isTermSign_23 rfl (Or.inr rfl) (fun f h => h)
    · skip
      refine s_iload_n 0 dX5_isTermSign_12 rfl rfl ?_
      refine s_bipush (v := 37) dX5_isTermSign_13 rfl cB_37 ?_
      refine s_icmp_ne (tgt := 22) dX5_isTermSign_15 rfl rfl (fun _ => ?_) (fun _ => ?_)
      · skip
        refine s_iconst (v := 0) dX5_isTermSign_22 rfl cI_0 ?_
        exact s_zret dX5_isTermSign_23 rfl (Or.inl rfl) (fun f h => h)
      · skip
        refine s_iconst (v := 1) dX5_isTermSign_18 rfl cI_1 ?_
        refine s_goto (tgt := 23) dX5_isTermSign_19 rfl ?_
        exact s_zret dX5_isTermSign_23 rfl (Or.inr rfl) (fun f h => h)
noncomputable def x5_unit (r : Nat) (rc_either : Int32 → MI → ML → Option (Int32 × MI × ML)) (rc_one : Int32 → MI → ML → Option (Int32 × MI × ML)) (p1 : Int32) (I : MI) (L : ML) : Option (Int32 × MI × ML) :=
if (I 20 7) < 30 then (
if (I (r + 13) 5) < 90 then (
lt (wI I 20 7 ((I 20 7) + 1)) fun I4 =>
lt (wI I4 (r + 13) 5 ((I4 (r + 13) 5) + 1)) fun I5 =>
if (I5 21 4) = 40 then (
if 6 < p1 then (
b2 (x5_fail (2 : Int32) I5) fun r27 I28 =>
ck (r27 = 0 ∨ r27 = 1) (some (r27, I28, L))) else
b2 (x3_next I5 L) fun I17 L18 =>
b3 (rc_either (p1 + 1) I17 L18) fun r19 I20 L21 =>
if r19 = 0 then (
some ((0 : Int32), I20, L21)) else
if (I20 21 4) = 41 then (
b2 (x3_next I20 L21) fun I22 L23 =>
some ((1 : Int32), I22, L23)) else
b2 (x5_fail (2 : Int32) I20) fun r24 I25 =>
ck (r24 = 0 ∨ r24 = 1) (some (r24, I25, L21))) else
b1 (x0_seenBy (I5 21 4) I5) fun r6 =>
lt r6 fun v7 =>
if (I5 21 4) = 27 then (
b1 (x0_addNumber r (I5 21 6) I5) fun I14 =>
b2 (x3_next I14 L) fun I15 L16 =>
some ((1 : Int32), I15, L16)) else
if v7 = (-1) then (
b2 (x5_fail (2 : Int32) I5) fun r8 I9 =>
ck (r8 = 0 ∨ r8 = 1) (some (r8, I9, L))) else
b1 (x0_addSeen r v7 I5) fun I11 =>
b2 (x3_next I11 L) fun I12 L13 =>
some ((1 : Int32), I12, L13)) else
b2 (x5_fail (2 : Int32) I) fun r30 I31 =>
ck (r30 = 0 ∨ r30 = 1) (some (r30, I31, L))) else
b2 (x5_fail (2 : Int32) I) fun r1 I2 =>
ck (r1 = 0 ∨ r1 = 1) (some (r1, I2, L))
theorem ct_x5_unit {X : WX} {r : Nat} {rc_either : Int32 → MI → ML → Option (Int32 × MI × ML)} {rc_one : Int32 → MI → ML → Option (Int32 × MI × ML)} {Fb Lb : Nat} {p1 : Int32} {I : MI} {L : ML} {R : MR} {S : MS} (hK : okr R S) (hr : R 20 4 = some r ∧ isT r) (hx : R 21 1 = some 1) (h_rc_either : ∀ (p1 : Int32) (I : MI) (L : ML), Ct X yX5_either cX5_either 4 (some .boolean) Fb Lb [.ref (X.1 + 20), .int p1] (I, L, R, S) (rc_either p1 I L) (fun r => (some (.int r.1), (r.2.1, r.2.2, R, S)))) (h_rc_one : ∀ (p1 : Int32) (I : MI) (L : ML), Ct X yX5_one cX5_one 2 (some .boolean) Fb Lb [.ref (X.1 + 20), .int p1] (I, L, R, S) (rc_one p1 I L) (fun r => (some (.int r.1), (r.2.1, r.2.2, R, S)))) : Ct X yX5_unit cX5_unit 3 (some .boolean) (Fb + 2) (Lb + 42) [.ref (X.1 + 20), .int p1] (I, L, R, S) (x5_unit r rc_either rc_one p1 I L) (fun r => (some (.int r.1), (r.2.1, r.2.2, R, S))) := by
  refine Ct.of (by decide) (Nat.le_of_ble_eq_true rfl) [(0, .ref (X.1 + 20)), (1, .int p1)] rfl ?_
  unfold x5_unit
  refine s_aload_n 0 dX5_unit_0 rfl rfl ?_
  refine s_getI dX5_unit_1 rfl fl_5_195 (S_20 hK) ?_
  refine s_bipush (v := 30) dX5_unit_4 rfl cB_30 ?_
  refine s_icmp_ge (tgt := 24) dX5_unit_6 rfl rfl (fun _ => ?_) (fun _ => ?_)
  · skip
    refine s_aload_n 0 dX5_unit_24 rfl rfl ?_
    refine s_iconst (v := 2) dX5_unit_25 rfl cI_2 ?_
    refine s_callV1_i1 dX5_unit_26 rfl lkV_RX5_66 (S_20 hK) (Nat.le_of_ble_eq_true rfl) (by omega) (by omega) (ct_x5_fail hK) (fun r1 I2 => ?_)
    refine sm_ck (fun g3 => ?_)
    exact s_zret dX5_unit_29 rfl g3 (fun f h => h)
  · skip
    refine s_aload_n 0 dX5_unit_9 rfl rfl ?_
    refine s_getR r dX5_unit_10 rfl fl_5_32 rfl (S_20 hK) hr.1 ?_
    refine s_getR (r + 13) dX5_unit_13 rfl fl_5_118 rfl (tS_0 hK hr.2) (tR_0_19 hK hr.2) ?_
    refine s_getI dX5_unit_16 rfl fl_5_235 (tS_13 hK hr.2) ?_
    refine s_bipush (v := 90) dX5_unit_19 rfl cB_90 ?_
    refine s_icmp_lt (tgt := 30) dX5_unit_21 rfl rfl (fun _ => ?_) (fun _ => ?_)
    · skip
      refine s_aload_n 0 dX5_unit_30 rfl rfl ?_
      refine s_dup dX5_unit_31 rfl rfl ?_
      refine s_getI dX5_unit_32 rfl fl_5_195 (S_20 hK) ?_
      refine s_iconst (v := 1) dX5_unit_35 rfl cI_1 ?_
      refine s_iadd dX5_unit_36 rfl ?_
      refine s_putIL dX5_unit_37 rfl fl_5_195 (S_20 hK) (fun I4 => ?_)
      refine s_aload_n 0 dX5_unit_40 rfl rfl ?_
      refine s_getR r dX5_unit_41 rfl fl_5_32 rfl (S_20 hK) hr.1 ?_
      refine s_getR (r + 13) dX5_unit_44 rfl fl_5_118 rfl (tS_0 hK hr.2) (tR_0_19 hK hr.2) ?_
      refine s_dup dX5_unit_47 rfl rfl ?_
      refine s_getI dX5_unit_48 rfl fl_5_235 (tS_13 hK hr.2) ?_
      refine s_iconst (v := 1) dX5_unit_51 rfl cI_1 ?_
      refine s_iadd dX5_unit_52 rfl ?_
      refine s_putIL dX5_unit_53 rfl fl_5_235 (tS_13 hK hr.2) (fun I5 => ?_)
      refine s_aload_n 0 dX5_unit_56 rfl rfl ?_
      refine s_getR 21 dX5_unit_57 rfl fl_5_12 rfl (S_20 hK) (R_20_0 hK) ?_
      refine s_getI dX5_unit_60 rfl fl_5_55 (S_21 hK) ?_
      refine s_bipush (v := 40) dX5_unit_63 rfl cB_40 ?_
      refine s_icmp_ne (tgt := 126) dX5_unit_65 rfl rfl (fun _ => ?_) (fun _ => ?_)
      · skip
        refine s_aload_n 0 dX5_unit_126 rfl rfl ?_
        refine s_getR 21 dX5_unit_127 rfl fl_5_12 rfl (S_20 hK) (R_20_0 hK) ?_
        refine s_getI dX5_unit_130 rfl fl_5_55 (S_21 hK) ?_
        refine s_callS1_i0 dX5_unit_133 rfl lkS_RX5_238 (Nat.le_of_ble_eq_true rfl) (by omega) (by omega) (ct_x0_seenBy hK) (fun r6 => ?_)
        refine s_istore_nL (fun v7 => [(2, .int v7), (0, .ref (X.1 + 20)), (1, .int p1)]) dX5_unit_136 rfl (by decide) (fun _ => rfl) (fun v7 => ?_)
        refine s_aload_n 1 dX5_unit_137 rfl rfl ?_
        refine s_getR 21 dX5_unit_138 rfl fl_5_12 rfl (S_20 hK) (R_20_0 hK) ?_
        refine s_getI dX5_unit_141 rfl fl_5_55 (S_21 hK) ?_
        refine s_bipush (v := 27) dX5_unit_144 rfl cB_27 ?_
        refine s_icmp_ne (tgt := 169) dX5_unit_146 rfl rfl (fun _ => ?_) (fun _ => ?_)
        · skip
          refine s_iload_n 0 dX5_unit_169 rfl rfl ?_
          refine s_iconst (v := (-1)) dX5_unit_170 rfl cI_m1 ?_
          refine s_icmp_eq (tgt := 188) dX5_unit_171 rfl rfl (fun _ => ?_) (fun _ => ?_)
          · skip
            refine s_aload_n 1 dX5_unit_188 rfl rfl ?_
            refine s_iconst (v := 2) dX5_unit_189 rfl cI_2 ?_
            refine s_callV1_i1 dX5_unit_190 rfl lkV_RX5_66 (S_20 hK) (Nat.le_of_ble_eq_true rfl) (by omega) (by omega) (ct_x5_fail hK) (fun r8 I9 => ?_)
            refine sm_ck (fun g10 => ?_)
            exact s_zret dX5_unit_193 rfl g10 (fun f h => h)
          · skip
            refine s_aload_n 1 dX5_unit_174 rfl rfl ?_
            refine s_getR r dX5_unit_175 rfl fl_5_32 rfl (S_20 hK) hr.1 ?_
            refine s_getR (r + 13) dX5_unit_178 rfl fl_5_118 rfl (tS_0 hK hr.2) (tR_0_19 hK hr.2) ?_
            refine s_iload_n 0 dX5_unit_181 rfl rfl ?_
            refine s_callV1_v1 dX5_unit_182 rfl lkV_RX5_245 (tS_13 hK hr.2) (Nat.le_of_ble_eq_true rfl) (by omega) (by omega) (ct_x0_addSeen hK hr.2) (fun I11 => ?_)
            refine s_goto (tgt := 194) dX5_unit_185 rfl ?_
            refine s_aload_n 1 dX5_unit_194 rfl rfl ?_
            refine s_getR 21 dX5_unit_195 rfl fl_5_12 rfl (S_20 hK) (R_20_0 hK) ?_
            refine s_callV0_v2 dX5_unit_198 rfl lkV_RX5_94 (S_21 hK) (Nat.le_of_ble_eq_true rfl) (by omega) (by omega) (ct_x3_next hK hx) (fun I12 L13 => ?_)
            refine s_iconst (v := 1) dX5_unit_201 rfl cI_1 ?_
            exact s_zret dX5_unit_202 rfl (Or.inr rfl) (fun f h => h)
        · skip
          refine s_aload_n 1 dX5_unit_149 rfl rfl ?_
          refine s_getR r dX5_unit_150 rfl fl_5_32 rfl (S_20 hK) hr.1 ?_
          refine s_getR (r + 13) dX5_unit_153 rfl fl_5_118 rfl (tS_0 hK hr.2) (tR_0_19 hK hr.2) ?_
          refine s_aload_n 1 dX5_unit_156 rfl rfl ?_
          refine s_getR 21 dX5_unit_157 rfl fl_5_12 rfl (S_20 hK) (R_20_0 hK) ?_
          refine s_getI dX5_unit_160 rfl fl_5_97 (S_21 hK) ?_
          refine s_callV1_v1 dX5_unit_163 rfl lkV_RX5_242 (tS_13 hK hr.2) (Nat.le_of_ble_eq_true rfl) (by omega) (by omega) (ct_x0_addNumber hK hr.2) (fun I14 => ?_)
          refine s_goto (tgt := 194) dX5_unit_166 rfl ?_
          refine s_aload_n 1 dX5_unit_194 rfl rfl ?_
          refine s_getR 21 dX5_unit_195 rfl fl_5_12 rfl (S_20 hK) (R_20_0 hK) ?_
          refine s_callV0_v2 dX5_unit_198 rfl lkV_RX5_94 (S_21 hK) (Nat.le_of_ble_eq_true rfl) (by omega) (by omega) (ct_x3_next hK hx) (fun I15 L16 => ?_)
          refine s_iconst (v := 1) dX5_unit_201 rfl cI_1 ?_
          exact s_zret dX5_unit_202 rfl (Or.inr rfl) (fun f h => h)
      · skip
        refine s_iload_n 1 dX5_unit_68 rfl rfl ?_
        refine s_bipush (v := 6) dX5_unit_69 rfl cB_6 ?_
        refine s_icmp_le (tgt := 80) dX5_unit_71 rfl rfl (fun _ => ?_) (fun _ => ?_)
        · skip
          refine s_aload_n 0 dX5_unit_80 rfl rfl ?_
          refine s_getR 21 dX5_unit_81 rfl fl_5_12 rfl (S_20 hK) (R_20_0 hK) ?_
          refine s_callV0_v2 dX5_unit_84 rfl lkV_RX5_94 (S_21 hK) (Nat.le_of_ble_eq_true rfl) (by omega) (by omega) (ct_x3_next hK hx) (fun I17 L18 => ?_)
          refine s_aload_n 0 dX5_unit_87 rfl rfl ?_
          refine s_iload_n 1 dX5_unit_88 rfl rfl ?_
          refine s_iconst (v := 1) dX5_unit_89 rfl cI_1 ?_
          refine s_iadd dX5_unit_90 rfl ?_
          refine s_callV1_i2 dX5_unit_91 rfl lkV_RX5_202 (S_20 hK) (Nat.le_of_ble_eq_true rfl) (by omega) (by omega) (h_rc_either _  _ _) (fun r19 I20 L21 => ?_)
          refine s_if_ne (tgt := 99) dX5_unit_94 rfl rfl (fun _ => ?_) (fun _ => ?_)
          · skip
            refine s_aload_n 0 dX5_unit_99 rfl rfl ?_
            refine s_getR 21 dX5_unit_100 rfl fl_5_12 rfl (S_20 hK) (R_20_0 hK) ?_
            refine s_getI dX5_unit_103 rfl fl_5_55 (S_21 hK) ?_
            refine s_bipush (v := 41) dX5_unit_106 rfl cB_41 ?_
            refine s_icmp_eq (tgt := 117) dX5_unit_108 rfl rfl (fun _ => ?_) (fun _ => ?_)
            · skip
              refine s_aload_n 0 dX5_unit_117 rfl rfl ?_
              refine s_getR 21 dX5_unit_118 rfl fl_5_12 rfl (S_20 hK) (R_20_0 hK) ?_
              refine s_callV0_v2 dX5_unit_121 rfl lkV_RX5_94 (S_21 hK) (Nat.le_of_ble_eq_true rfl) (by omega) (by omega) (ct_x3_next hK hx) (fun I22 L23 => ?_)
              refine s_iconst (v := 1) dX5_unit_124 rfl cI_1 ?_
              exact s_zret dX5_unit_125 rfl (Or.inr rfl) (fun f h => h)
            · skip
              refine s_aload_n 0 dX5_unit_111 rfl rfl ?_
              refine s_iconst (v := 2) dX5_unit_112 rfl cI_2 ?_
              refine s_callV1_i1 dX5_unit_113 rfl lkV_RX5_66 (S_20 hK) (Nat.le_of_ble_eq_true rfl) (by omega) (by omega) (ct_x5_fail hK) (fun r24 I25 => ?_)
              refine sm_ck (fun g26 => ?_)
              exact s_zret dX5_unit_116 rfl g26 (fun f h => h)
          · skip
            refine s_iconst (v := 0) dX5_unit_97 rfl cI_0 ?_
            exact s_zret dX5_unit_98 rfl (Or.inl rfl) (fun f h => h)
        · skip
          refine s_aload_n 0 dX5_unit_74 rfl rfl ?_
          refine s_iconst (v := 2) dX5_unit_75 rfl cI_2 ?_
          refine s_callV1_i1 dX5_unit_76 rfl lkV_RX5_66 (S_20 hK) (Nat.le_of_ble_eq_true rfl) (by omega) (by omega) (ct_x5_fail hK) (fun r27 I28 => ?_)
          refine sm_ck (fun g29 => ?_)
          exact s_zret dX5_unit_79 rfl g29 (fun f h => h)
    · skip
      refine s_aload_n 0 dX5_unit_24 rfl rfl ?_
      refine s_iconst (v := 2) dX5_unit_25 rfl cI_2 ?_
      refine s_callV1_i1 dX5_unit_26 rfl lkV_RX5_66 (S_20 hK) (Nat.le_of_ble_eq_true rfl) (by omega) (by omega) (ct_x5_fail hK) (fun r30 I31 => ?_)
      refine sm_ck (fun g32 => ?_)
      exact s_zret dX5_unit_29 rfl g32 (fun f h => h)
noncomputable def x5_term_L8s (r : Nat) (rc_either : Int32 → MI → ML → Option (Int32 × MI × ML)) (rc_one : Int32 → MI → ML → Option (Int32 × MI × ML)) (c1 : Int32) (rec : Int32 → Int32 → MI → ML → Option (Int32 × MI × ML)) (w2 : Int32) (w3 : Int32) (I : MI) (L : ML) : Option (Int32 × MI × ML) :=
if w3 < 1600 then (
if w2 = 0 then (
some (w2, I, L)) else
b1 (x5_isTermSign (I 21 4) I) fun r6 =>
if r6 = 0 then (
some (w2, I, L)) else
lt (I 21 4) fun v7 =>
b2 (x3_next I L) fun I8 L9 =>
b3 (x5_unit r rc_either rc_one c1 I8 L9) fun r10 I11 L12 =>
lt r10 fun v13 =>
b1 (x0_addOperator r v7 I11) fun I14 =>
lt (w3 + 1) fun v15 =>
rec v13 v15 I14 L12) else
some (w2, I, L)
noncomputable def x5_term_L8 (r : Nat) (rc_either : Int32 → MI → ML → Option (Int32 × MI × ML)) (rc_one : Int32 → MI → ML → Option (Int32 × MI × ML)) (c1 : Int32) : Nat → Int32 → Int32 → MI → ML → Option (Int32 × MI × ML)
  | 0 => fun _ _ _ _ => none
  | n + 1 => x5_term_L8s r rc_either rc_one c1 (x5_term_L8 r rc_either rc_one c1 n)
noncomputable def x5_term (r : Nat) (rc_either : Int32 → MI → ML → Option (Int32 × MI × ML)) (rc_one : Int32 → MI → ML → Option (Int32 × MI × ML)) (p1 : Int32) (I : MI) (L : ML) : Option (Int32 × MI × ML) :=
b3 (x5_unit r rc_either rc_one p1 I L) fun r1 I2 L3 =>
lt r1 fun v4 =>
lt (0 : Int32) fun v5 =>
b1 (x5_term_L8 r rc_either rc_one p1 FU v4 v5 I2 L3) fun e16 =>
ck (e16.1 = 0 ∨ e16.1 = 1) (some (e16.1, e16.2.1, e16.2.2))
theorem x5_term_L8_ok {X : WX} {n0 s0 : Nat} {r : Nat} {rc_either : Int32 → MI → ML → Option (Int32 × MI × ML)} {rc_one : Int32 → MI → ML → Option (Int32 × MI × ML)} {Fb Lb : Nat} {c1 : Int32} {R : MR} {S : MS} (hK : okr R S) (hr : R 20 4 = some r ∧ isT r) (hx : R 21 1 = some 1) (h_rc_either : ∀ (p1 : Int32) (I : MI) (L : ML), Ct X yX5_either cX5_either 4 (some .boolean) Fb Lb [.ref (X.1 + 20), .int p1] (I, L, R, S) (rc_either p1 I L) (fun r => (some (.int r.1), (r.2.1, r.2.2, R, S)))) (h_rc_one : ∀ (p1 : Int32) (I : MI) (L : ML), Ct X yX5_one cX5_one 2 (some .boolean) Fb Lb [.ref (X.1 + 20), .int p1] (I, L, R, S) (rc_one p1 I L) (fun r => (some (.int r.1), (r.2.1, r.2.2, R, S)))) : ∀ (n : Nat) (w2 : Int32) (w3 : Int32) (I : MI) (L : ML), Sim X yX5_term cX5_term 5 (some .boolean) (Fb + 3) (Lb + 64) n0 s0 8 [(0, .ref (X.1 + 20)), (1, .int c1), (2, .int w2), (3, .int w3)] [] (I, L, R, S) (x5_term_L8 r rc_either rc_one c1 n w2 w3 I L) (fun b f => Ex X yX5_term cX5_term 5 (some .boolean) (Fb + 3) (Lb + 64) n0 s0 72 [(2, .int b.1)] [] (b.2.1, b.2.2, R, S) f) := by
  intro n
  induction n with
  | zero =>
    intro w2 w3 I L
    exact sm_none
  | succ n ih =>
    intro w2 w3 I L
    change Sim _ _ _ _ _ _ _ _ _ _ _ _ _ (x5_term_L8s r rc_either rc_one c1 (x5_term_L8 r rc_either rc_one c1 n) w2 w3 I L) _
    unfold x5_term_L8s
    refine s_iload_n 3 dX5_term_8 rfl rfl ?_
    refine s_sipush (v := 1600) dX5_term_9 rfl cS_1600 ?_
    refine s_icmp_ge (tgt := 72) dX5_term_12 rfl rfl (fun _ => ?_) (fun _ => ?_)
    · skip
      refine s_pick [2] rfl ?_
      exact sm_exit (fun f h => h)
    · skip
      refine s_iload_n 2 dX5_term_15 rfl rfl ?_
      refine s_if_eq (tgt := 72) dX5_term_16 rfl rfl (fun _ => ?_) (fun _ => ?_)
      · skip
        refine s_pick [2] rfl ?_
        exact sm_exit (fun f h => h)
      · skip
        refine s_aload_n 0 dX5_term_19 rfl rfl ?_
        refine s_getR 21 dX5_term_20 rfl fl_5_12 rfl (S_20 hK) (R_20_0 hK) ?_
        refine s_getI dX5_term_23 rfl fl_5_55 (S_21 hK) ?_
        refine s_callS1_i0 dX5_term_26 rfl lkS_RX5_232 (Nat.le_of_ble_eq_true rfl) (by omega) (by omega) (ct_x5_isTermSign hK) (fun r6 => ?_)
        refine s_if_eq (tgt := 72) dX5_term_29 rfl rfl (fun _ => ?_) (fun _ => ?_)
        · skip
          refine s_pick [2] rfl ?_
          exact sm_exit (fun f h => h)
        · skip
          refine s_aload_n 0 dX5_term_32 rfl rfl ?_
          refine s_getR 21 dX5_term_33 rfl fl_5_12 rfl (S_20 hK) (R_20_0 hK) ?_
          refine s_getI dX5_term_36 rfl fl_5_55 (S_21 hK) ?_
          refine s_istoreL (fun v7 => [(4, .int v7), (0, .ref (X.1 + 20)), (1, .int c1), (2, .int w2), (3, .int w3)]) dX5_term_39 rfl (by decide) (fun _ => rfl) (fun v7 => ?_)
          refine s_aload_n 1 dX5_term_41 rfl rfl ?_
          refine s_getR 21 dX5_term_42 rfl fl_5_12 rfl (S_20 hK) (R_20_0 hK) ?_
          refine s_callV0_v2 dX5_term_45 rfl lkV_RX5_94 (S_21 hK) (Nat.le_of_ble_eq_true rfl) (by omega) (by omega) (ct_x3_next hK hx) (fun I8 L9 => ?_)
          refine s_aload_n 1 dX5_term_48 rfl rfl ?_
          refine s_iload_n 2 dX5_term_49 rfl rfl ?_
          refine s_callV1_i2 dX5_term_50 rfl lkV_RX5_229 (S_20 hK) (Nat.le_of_ble_eq_true rfl) (by omega) (by omega) (ct_x5_unit hK hr hx h_rc_either h_rc_one) (fun r10 I11 L12 => ?_)
          refine s_istore_nL (fun v13 => [(2, .int v13), (4, .int v7), (0, .ref (X.1 + 20)), (1, .int c1), (3, .int w3)]) dX5_term_53 rfl (by decide) (fun _ => rfl) (fun v13 => ?_)
          refine s_aload_n 2 dX5_term_54 rfl rfl ?_
          refine s_getR r dX5_term_55 rfl fl_5_32 rfl (S_20 hK) hr.1 ?_
          refine s_getR (r + 13) dX5_term_58 rfl fl_5_118 rfl (tS_0 hK hr.2) (tR_0_19 hK hr.2) ?_
          refine s_iload 1 dX5_term_61 rfl rfl ?_
          refine s_callV1_v1 dX5_term_63 rfl lkV_RX5_211 (tS_13 hK hr.2) (Nat.le_of_ble_eq_true rfl) (by omega) (by omega) (ct_x0_addOperator hK hr.2) (fun I14 => ?_)
          refine s_iincL 4 (c := 1) (fun v15 => [(3, .int v15), (2, .int v13), (4, .int v7), (0, .ref (X.1 + 20)), (1, .int c1)]) dX5_term_66 rfl rfl cI_1 (by decide) (fun _ => rfl) (fun v15 => ?_)
          refine s_goto (tgt := 8) dX5_term_69 rfl ?_
          refine s_pick [3, 4, 1, 0] rfl ?_
          exact ih v13 v15 I14 L12
theorem ct_x5_term {X : WX} {r : Nat} {rc_either : Int32 → MI → ML → Option (Int32 × MI × ML)} {rc_one : Int32 → MI → ML → Option (Int32 × MI × ML)} {Fb Lb : Nat} {p1 : Int32} {I : MI} {L : ML} {R : MR} {S : MS} (hK : okr R S) (hr : R 20 4 = some r ∧ isT r) (hx : R 21 1 = some 1) (h_rc_either : ∀ (p1 : Int32) (I : MI) (L : ML), Ct X yX5_either cX5_either 4 (some .boolean) Fb Lb [.ref (X.1 + 20), .int p1] (I, L, R, S) (rc_either p1 I L) (fun r => (some (.int r.1), (r.2.1, r.2.2, R, S)))) (h_rc_one : ∀ (p1 : Int32) (I : MI) (L : ML), Ct X yX5_one cX5_one 2 (some .boolean) Fb Lb [.ref (X.1 + 20), .int p1] (I, L, R, S) (rc_one p1 I L) (fun r => (some (.int r.1), (r.2.1, r.2.2, R, S)))) : Ct X yX5_term cX5_term 5 (some .boolean) (Fb + 3) (Lb + 64) [.ref (X.1 + 20), .int p1] (I, L, R, S) (x5_term r rc_either rc_one p1 I L) (fun r => (some (.int r.1), (r.2.1, r.2.2, R, S))) := by
  refine Ct.of (by decide) (Nat.le_of_ble_eq_true rfl) [(0, .ref (X.1 + 20)), (1, .int p1)] rfl ?_
  unfold x5_term
  refine s_aload_n 0 dX5_term_0 rfl rfl ?_
  refine s_iload_n 1 dX5_term_1 rfl rfl ?_
  refine s_callV1_i2 dX5_term_2 rfl lkV_RX5_229 (S_20 hK) (Nat.le_of_ble_eq_true rfl) (by omega) (by omega) (ct_x5_unit hK hr hx h_rc_either h_rc_one) (fun r1 I2 L3 => ?_)
  refine s_istore_nL (fun v4 => [(2, .int v4), (0, .ref (X.1 + 20)), (1, .int p1)]) dX5_term_5 rfl (by decide) (fun _ => rfl) (fun v4 => ?_)
  refine s_iconst (v := 0) dX5_term_6 rfl cI_0 ?_
  refine s_istore_nL (fun v5 => [(3, .int v5), (2, .int v4), (0, .ref (X.1 + 20)), (1, .int p1)]) dX5_term_7 rfl (by decide) (fun _ => rfl) (fun v5 => ?_)
  refine s_pick [2, 3, 1, 0] rfl ?_
  refine sm_reg (x5_term_L8_ok hK hr hx h_rc_either h_rc_one FU v4 v5 I2 L3) (fun e16 => ?_)
  refine s_iload_n 0 dX5_term_72 rfl rfl ?_
  refine sm_ck (fun g17 => ?_)
  exact s_zret dX5_term_73 rfl g17 (fun f h => h)
noncomputable def x5_sum_L8s (r : Nat) (rc_either : Int32 → MI → ML → Option (Int32 × MI × ML)) (rc_one : Int32 → MI → ML → Option (Int32 × MI × ML)) (c1 : Int32) (rec : Int32 → Int32 → MI → ML → Option (Int32 × MI × ML)) (w2 : Int32) (w3 : Int32) (I : MI) (L : ML) : Option (Int32 × MI × ML) :=
if w3 < 1600 then (
if w2 = 0 then (
some (w2, I, L)) else
if (I 21 4) = 43 then (
lt (I 21 4) fun v6 =>
b2 (x3_next I L) fun I7 L8 =>
b3 (x5_term r rc_either rc_one c1 I7 L8) fun r9 I10 L11 =>
lt r9 fun v12 =>
b1 (x0_addOperator r v6 I10) fun I13 =>
lt (w3 + 1) fun v14 =>
rec v12 v14 I13 L11) else
if (I 21 4) = 45 then (
lt (I 21 4) fun v15 =>
b2 (x3_next I L) fun I16 L17 =>
b3 (x5_term r rc_either rc_one c1 I16 L17) fun r18 I19 L20 =>
lt r18 fun v21 =>
b1 (x0_addOperator r v15 I19) fun I22 =>
lt (w3 + 1) fun v23 =>
rec v21 v23 I22 L20) else
some (w2, I, L)) else
some (w2, I, L)
noncomputable def x5_sum_L8 (r : Nat) (rc_either : Int32 → MI → ML → Option (Int32 × MI × ML)) (rc_one : Int32 → MI → ML → Option (Int32 × MI × ML)) (c1 : Int32) : Nat → Int32 → Int32 → MI → ML → Option (Int32 × MI × ML)
  | 0 => fun _ _ _ _ => none
  | n + 1 => x5_sum_L8s r rc_either rc_one c1 (x5_sum_L8 r rc_either rc_one c1 n)
noncomputable def x5_sum (r : Nat) (rc_either : Int32 → MI → ML → Option (Int32 × MI × ML)) (rc_one : Int32 → MI → ML → Option (Int32 × MI × ML)) (p1 : Int32) (I : MI) (L : ML) : Option (Int32 × MI × ML) :=
b3 (x5_term r rc_either rc_one p1 I L) fun r1 I2 L3 =>
lt r1 fun v4 =>
lt (0 : Int32) fun v5 =>
b1 (x5_sum_L8 r rc_either rc_one p1 FU v4 v5 I2 L3) fun e24 =>
ck (e24.1 = 0 ∨ e24.1 = 1) (some (e24.1, e24.2.1, e24.2.2))
theorem x5_sum_L8_ok {X : WX} {n0 s0 : Nat} {r : Nat} {rc_either : Int32 → MI → ML → Option (Int32 × MI × ML)} {rc_one : Int32 → MI → ML → Option (Int32 × MI × ML)} {Fb Lb : Nat} {c1 : Int32} {R : MR} {S : MS} (hK : okr R S) (hr : R 20 4 = some r ∧ isT r) (hx : R 21 1 = some 1) (h_rc_either : ∀ (p1 : Int32) (I : MI) (L : ML), Ct X yX5_either cX5_either 4 (some .boolean) Fb Lb [.ref (X.1 + 20), .int p1] (I, L, R, S) (rc_either p1 I L) (fun r => (some (.int r.1), (r.2.1, r.2.2, R, S)))) (h_rc_one : ∀ (p1 : Int32) (I : MI) (L : ML), Ct X yX5_one cX5_one 2 (some .boolean) Fb Lb [.ref (X.1 + 20), .int p1] (I, L, R, S) (rc_one p1 I L) (fun r => (some (.int r.1), (r.2.1, r.2.2, R, S)))) : ∀ (n : Nat) (w2 : Int32) (w3 : Int32) (I : MI) (L : ML), Sim X yX5_sum cX5_sum 5 (some .boolean) (Fb + 4) (Lb + 88) n0 s0 8 [(0, .ref (X.1 + 20)), (1, .int c1), (2, .int w2), (3, .int w3)] [] (I, L, R, S) (x5_sum_L8 r rc_either rc_one c1 n w2 w3 I L) (fun b f => Ex X yX5_sum cX5_sum 5 (some .boolean) (Fb + 4) (Lb + 88) n0 s0 83 [(2, .int b.1)] [] (b.2.1, b.2.2, R, S) f) := by
  intro n
  induction n with
  | zero =>
    intro w2 w3 I L
    exact sm_none
  | succ n ih =>
    intro w2 w3 I L
    change Sim _ _ _ _ _ _ _ _ _ _ _ _ _ (x5_sum_L8s r rc_either rc_one c1 (x5_sum_L8 r rc_either rc_one c1 n) w2 w3 I L) _
    unfold x5_sum_L8s
    refine s_iload_n 3 dX5_sum_8 rfl rfl ?_
    refine s_sipush (v := 1600) dX5_sum_9 rfl cS_1600 ?_
    refine s_icmp_ge (tgt := 83) dX5_sum_12 rfl rfl (fun _ => ?_) (fun _ => ?_)
    · skip
      refine s_pick [2] rfl ?_
      exact sm_exit (fun f h => h)
    · skip
      refine s_iload_n 2 dX5_sum_15 rfl rfl ?_
      refine s_if_eq (tgt := 83) dX5_sum_16 rfl rfl (fun _ => ?_) (fun _ => ?_)
      · skip
        refine s_pick [2] rfl ?_
        exact sm_exit (fun f h => h)
      · skip
        refine s_aload_n 0 dX5_sum_19 rfl rfl ?_
        refine s_getR 21 dX5_sum_20 rfl fl_5_12 rfl (S_20 hK) (R_20_0 hK) ?_
        refine s_getI dX5_sum_23 rfl fl_5_55 (S_21 hK) ?_
        refine s_bipush (v := 43) dX5_sum_26 rfl cB_43 ?_
        refine s_icmp_eq (tgt := 43) dX5_sum_28 rfl rfl (fun _ => ?_) (fun _ => ?_)
        · skip
          refine s_aload_n 0 dX5_sum_43 rfl rfl ?_
          refine s_getR 21 dX5_sum_44 rfl fl_5_12 rfl (S_20 hK) (R_20_0 hK) ?_
          refine s_getI dX5_sum_47 rfl fl_5_55 (S_21 hK) ?_
          refine s_istoreL (fun v6 => [(4, .int v6), (0, .ref (X.1 + 20)), (1, .int c1), (2, .int w2), (3, .int w3)]) dX5_sum_50 rfl (by decide) (fun _ => rfl) (fun v6 => ?_)
          refine s_aload_n 1 dX5_sum_52 rfl rfl ?_
          refine s_getR 21 dX5_sum_53 rfl fl_5_12 rfl (S_20 hK) (R_20_0 hK) ?_
          refine s_callV0_v2 dX5_sum_56 rfl lkV_RX5_94 (S_21 hK) (Nat.le_of_ble_eq_true rfl) (by omega) (by omega) (ct_x3_next hK hx) (fun I7 L8 => ?_)
          refine s_aload_n 1 dX5_sum_59 rfl rfl ?_
          refine s_iload_n 2 dX5_sum_60 rfl rfl ?_
          refine s_callV1_i2 dX5_sum_61 rfl lkV_RX5_226 (S_20 hK) (Nat.le_of_ble_eq_true rfl) (by omega) (by omega) (ct_x5_term hK hr hx h_rc_either h_rc_one) (fun r9 I10 L11 => ?_)
          refine s_istore_nL (fun v12 => [(2, .int v12), (4, .int v6), (0, .ref (X.1 + 20)), (1, .int c1), (3, .int w3)]) dX5_sum_64 rfl (by decide) (fun _ => rfl) (fun v12 => ?_)
          refine s_aload_n 2 dX5_sum_65 rfl rfl ?_
          refine s_getR r dX5_sum_66 rfl fl_5_32 rfl (S_20 hK) hr.1 ?_
          refine s_getR (r + 13) dX5_sum_69 rfl fl_5_118 rfl (tS_0 hK hr.2) (tR_0_19 hK hr.2) ?_
          refine s_iload 1 dX5_sum_72 rfl rfl ?_
          refine s_callV1_v1 dX5_sum_74 rfl lkV_RX5_211 (tS_13 hK hr.2) (Nat.le_of_ble_eq_true rfl) (by omega) (by omega) (ct_x0_addOperator hK hr.2) (fun I13 => ?_)
          refine s_iincL 4 (c := 1) (fun v14 => [(3, .int v14), (2, .int v12), (4, .int v6), (0, .ref (X.1 + 20)), (1, .int c1)]) dX5_sum_77 rfl rfl cI_1 (by decide) (fun _ => rfl) (fun v14 => ?_)
          refine s_goto (tgt := 8) dX5_sum_80 rfl ?_
          refine s_pick [3, 4, 1, 0] rfl ?_
          exact ih v12 v14 I13 L11
        · skip
          refine s_aload_n 0 dX5_sum_31 rfl rfl ?_
          refine s_getR 21 dX5_sum_32 rfl fl_5_12 rfl (S_20 hK) (R_20_0 hK) ?_
          refine s_getI dX5_sum_35 rfl fl_5_55 (S_21 hK) ?_
          refine s_bipush (v := 45) dX5_sum_38 rfl cB_45 ?_
          refine s_icmp_ne (tgt := 83) dX5_sum_40 rfl rfl (fun _ => ?_) (fun _ => ?_)
          · skip
            refine s_pick [2] rfl ?_
            exact sm_exit (fun f h => h)
          · skip
            refine s_aload_n 0 dX5_sum_43 rfl rfl ?_
            refine s_getR 21 dX5_sum_44 rfl fl_5_12 rfl (S_20 hK) (R_20_0 hK) ?_
            refine s_getI dX5_sum_47 rfl fl_5_55 (S_21 hK) ?_
            refine s_istoreL (fun v15 => [(4, .int v15), (0, .ref (X.1 + 20)), (1, .int c1), (2, .int w2), (3, .int w3)]) dX5_sum_50 rfl (by decide) (fun _ => rfl) (fun v15 => ?_)
            refine s_aload_n 1 dX5_sum_52 rfl rfl ?_
            refine s_getR 21 dX5_sum_53 rfl fl_5_12 rfl (S_20 hK) (R_20_0 hK) ?_
            refine s_callV0_v2 dX5_sum_56 rfl lkV_RX5_94 (S_21 hK) (Nat.le_of_ble_eq_true rfl) (by omega) (by omega) (ct_x3_next hK hx) (fun I16 L17 => ?_)
            refine s_aload_n 1 dX5_sum_59 rfl rfl ?_
            refine s_iload_n 2 dX5_sum_60 rfl rfl ?_
            refine s_callV1_i2 dX5_sum_61 rfl lkV_RX5_226 (S_20 hK) (Nat.le_of_ble_eq_true rfl) (by omega) (by omega) (ct_x5_term hK hr hx h_rc_either h_rc_one) (fun r18 I19 L20 => ?_)
            refine s_istore_nL (fun v21 => [(2, .int v21), (4, .int v15), (0, .ref (X.1 + 20)), (1, .int c1), (3, .int w3)]) dX5_sum_64 rfl (by decide) (fun _ => rfl) (fun v21 => ?_)
            refine s_aload_n 2 dX5_sum_65 rfl rfl ?_
            refine s_getR r dX5_sum_66 rfl fl_5_32 rfl (S_20 hK) hr.1 ?_
            refine s_getR (r + 13) dX5_sum_69 rfl fl_5_118 rfl (tS_0 hK hr.2) (tR_0_19 hK hr.2) ?_
            refine s_iload 1 dX5_sum_72 rfl rfl ?_
            refine s_callV1_v1 dX5_sum_74 rfl lkV_RX5_211 (tS_13 hK hr.2) (Nat.le_of_ble_eq_true rfl) (by omega) (by omega) (ct_x0_addOperator hK hr.2) (fun I22 => ?_)
            refine s_iincL 4 (c := 1) (fun v23 => [(3, .int v23), (2, .int v21), (4, .int v15), (0, .ref (X.1 + 20)), (1, .int c1)]) dX5_sum_77 rfl rfl cI_1 (by decide) (fun _ => rfl) (fun v23 => ?_)
            refine s_goto (tgt := 8) dX5_sum_80 rfl ?_
            refine s_pick [3, 4, 1, 0] rfl ?_
            exact ih v21 v23 I22 L20
theorem ct_x5_sum {X : WX} {r : Nat} {rc_either : Int32 → MI → ML → Option (Int32 × MI × ML)} {rc_one : Int32 → MI → ML → Option (Int32 × MI × ML)} {Fb Lb : Nat} {p1 : Int32} {I : MI} {L : ML} {R : MR} {S : MS} (hK : okr R S) (hr : R 20 4 = some r ∧ isT r) (hx : R 21 1 = some 1) (h_rc_either : ∀ (p1 : Int32) (I : MI) (L : ML), Ct X yX5_either cX5_either 4 (some .boolean) Fb Lb [.ref (X.1 + 20), .int p1] (I, L, R, S) (rc_either p1 I L) (fun r => (some (.int r.1), (r.2.1, r.2.2, R, S)))) (h_rc_one : ∀ (p1 : Int32) (I : MI) (L : ML), Ct X yX5_one cX5_one 2 (some .boolean) Fb Lb [.ref (X.1 + 20), .int p1] (I, L, R, S) (rc_one p1 I L) (fun r => (some (.int r.1), (r.2.1, r.2.2, R, S)))) : Ct X yX5_sum cX5_sum 5 (some .boolean) (Fb + 4) (Lb + 88) [.ref (X.1 + 20), .int p1] (I, L, R, S) (x5_sum r rc_either rc_one p1 I L) (fun r => (some (.int r.1), (r.2.1, r.2.2, R, S))) := by
  refine Ct.of (by decide) (Nat.le_of_ble_eq_true rfl) [(0, .ref (X.1 + 20)), (1, .int p1)] rfl ?_
  unfold x5_sum
  refine s_aload_n 0 dX5_sum_0 rfl rfl ?_
  refine s_iload_n 1 dX5_sum_1 rfl rfl ?_
  refine s_callV1_i2 dX5_sum_2 rfl lkV_RX5_226 (S_20 hK) (Nat.le_of_ble_eq_true rfl) (by omega) (by omega) (ct_x5_term hK hr hx h_rc_either h_rc_one) (fun r1 I2 L3 => ?_)
  refine s_istore_nL (fun v4 => [(2, .int v4), (0, .ref (X.1 + 20)), (1, .int p1)]) dX5_sum_5 rfl (by decide) (fun _ => rfl) (fun v4 => ?_)
  refine s_iconst (v := 0) dX5_sum_6 rfl cI_0 ?_
  refine s_istore_nL (fun v5 => [(3, .int v5), (2, .int v4), (0, .ref (X.1 + 20)), (1, .int p1)]) dX5_sum_7 rfl (by decide) (fun _ => rfl) (fun v5 => ?_)
  refine s_pick [2, 3, 1, 0] rfl ?_
  refine sm_reg (x5_sum_L8_ok hK hr hx h_rc_either h_rc_one FU v4 v5 I2 L3) (fun e24 => ?_)
  refine s_iload_n 0 dX5_sum_83 rfl rfl ?_
  refine sm_ck (fun g25 => ?_)
  exact s_zret dX5_sum_84 rfl g25 (fun f h => h)
noncomputable def x5_comparison (r : Nat) (rc_either : Int32 → MI → ML → Option (Int32 × MI × ML)) (rc_one : Int32 → MI → ML → Option (Int32 × MI × ML)) (p1 : Int32) (I : MI) (L : ML) : Option (Int32 × MI × ML) :=
b3 (x5_sum r rc_either rc_one p1 I L) fun r1 I2 L3 =>
lt r1 fun v4 =>
lt (I2 21 4) fun v5 =>
if v4 = 0 then (
ck (v4 = 0 ∨ v4 = 1) (some (v4, I2, L3))) else
if v5 = 60 then (
b2 (x3_next I2 L3) fun I7 L8 =>
b3 (x5_sum r rc_either rc_one p1 I7 L8) fun r9 I10 L11 =>
lt r9 fun v12 =>
b1 (x0_addOperator r v5 I10) fun I13 =>
ck (v12 = 0 ∨ v12 = 1) (some (v12, I13, L11))) else
if v5 = 62 then (
b2 (x3_next I2 L3) fun I15 L16 =>
b3 (x5_sum r rc_either rc_one p1 I15 L16) fun r17 I18 L19 =>
lt r17 fun v20 =>
b1 (x0_addOperator r v5 I18) fun I21 =>
ck (v20 = 0 ∨ v20 = 1) (some (v20, I21, L19))) else
if v5 = 61 then (
b2 (x3_next I2 L3) fun I24 L25 =>
b3 (x5_sum r rc_either rc_one p1 I24 L25) fun r26 I27 L28 =>
lt r26 fun v29 =>
b1 (x0_addOperator r v5 I27) fun I30 =>
ck (v29 = 0 ∨ v29 = 1) (some (v29, I30, L28))) else
ck (v4 = 0 ∨ v4 = 1) (some (v4, I2, L3))
theorem ct_x5_comparison {X : WX} {r : Nat} {rc_either : Int32 → MI → ML → Option (Int32 × MI × ML)} {rc_one : Int32 → MI → ML → Option (Int32 × MI × ML)} {Fb Lb : Nat} {p1 : Int32} {I : MI} {L : ML} {R : MR} {S : MS} (hK : okr R S) (hr : R 20 4 = some r ∧ isT r) (hx : R 21 1 = some 1) (h_rc_either : ∀ (p1 : Int32) (I : MI) (L : ML), Ct X yX5_either cX5_either 4 (some .boolean) Fb Lb [.ref (X.1 + 20), .int p1] (I, L, R, S) (rc_either p1 I L) (fun r => (some (.int r.1), (r.2.1, r.2.2, R, S)))) (h_rc_one : ∀ (p1 : Int32) (I : MI) (L : ML), Ct X yX5_one cX5_one 2 (some .boolean) Fb Lb [.ref (X.1 + 20), .int p1] (I, L, R, S) (rc_one p1 I L) (fun r => (some (.int r.1), (r.2.1, r.2.2, R, S)))) : Ct X yX5_comparison cX5_comparison 4 (some .boolean) (Fb + 5) (Lb + 112) [.ref (X.1 + 20), .int p1] (I, L, R, S) (x5_comparison r rc_either rc_one p1 I L) (fun r => (some (.int r.1), (r.2.1, r.2.2, R, S))) := by
  refine Ct.of (by decide) (Nat.le_of_ble_eq_true rfl) [(0, .ref (X.1 + 20)), (1, .int p1)] rfl ?_
  unfold x5_comparison
  refine s_aload_n 0 dX5_comparison_0 rfl rfl ?_
  refine s_iload_n 1 dX5_comparison_1 rfl rfl ?_
  refine s_callV1_i2 dX5_comparison_2 rfl lkV_RX5_223 (S_20 hK) (Nat.le_of_ble_eq_true rfl) (by omega) (by omega) (ct_x5_sum hK hr hx h_rc_either h_rc_one) (fun r1 I2 L3 => ?_)
  refine s_istore_nL (fun v4 => [(2, .int v4), (0, .ref (X.1 + 20)), (1, .int p1)]) dX5_comparison_5 rfl (by decide) (fun _ => rfl) (fun v4 => ?_)
  refine s_aload_n 1 dX5_comparison_6 rfl rfl ?_
  refine s_getR 21 dX5_comparison_7 rfl fl_5_12 rfl (S_20 hK) (R_20_0 hK) ?_
  refine s_getI dX5_comparison_10 rfl fl_5_55 (S_21 hK) ?_
  refine s_istore_nL (fun v5 => [(3, .int v5), (2, .int v4), (0, .ref (X.1 + 20)), (1, .int p1)]) dX5_comparison_13 rfl (by decide) (fun _ => rfl) (fun v5 => ?_)
  refine s_iload_n 1 dX5_comparison_14 rfl rfl ?_
  refine s_if_eq (tgt := 60) dX5_comparison_15 rfl rfl (fun _ => ?_) (fun _ => ?_)
  · skip
    refine s_iload_n 1 dX5_comparison_60 rfl rfl ?_
    refine sm_ck (fun g6 => ?_)
    exact s_zret dX5_comparison_61 rfl g6 (fun f h => h)
  · skip
    refine s_iload_n 0 dX5_comparison_18 rfl rfl ?_
    refine s_bipush (v := 60) dX5_comparison_19 rfl cB_60 ?_
    refine s_icmp_eq (tgt := 36) dX5_comparison_21 rfl rfl (fun _ => ?_) (fun _ => ?_)
    · skip
      refine s_aload_n 2 dX5_comparison_36 rfl rfl ?_
      refine s_getR 21 dX5_comparison_37 rfl fl_5_12 rfl (S_20 hK) (R_20_0 hK) ?_
      refine s_callV0_v2 dX5_comparison_40 rfl lkV_RX5_94 (S_21 hK) (Nat.le_of_ble_eq_true rfl) (by omega) (by omega) (ct_x3_next hK hx) (fun I7 L8 => ?_)
      refine s_aload_n 2 dX5_comparison_43 rfl rfl ?_
      refine s_iload_n 3 dX5_comparison_44 rfl rfl ?_
      refine s_callV1_i2 dX5_comparison_45 rfl lkV_RX5_223 (S_20 hK) (Nat.le_of_ble_eq_true rfl) (by omega) (by omega) (ct_x5_sum hK hr hx h_rc_either h_rc_one) (fun r9 I10 L11 => ?_)
      refine s_istore_nL (fun v12 => [(2, .int v12), (3, .int v5), (0, .ref (X.1 + 20)), (1, .int p1)]) dX5_comparison_48 rfl (by decide) (fun _ => rfl) (fun v12 => ?_)
      refine s_aload_n 2 dX5_comparison_49 rfl rfl ?_
      refine s_getR r dX5_comparison_50 rfl fl_5_32 rfl (S_20 hK) hr.1 ?_
      refine s_getR (r + 13) dX5_comparison_53 rfl fl_5_118 rfl (tS_0 hK hr.2) (tR_0_19 hK hr.2) ?_
      refine s_iload_n 1 dX5_comparison_56 rfl rfl ?_
      refine s_callV1_v1 dX5_comparison_57 rfl lkV_RX5_211 (tS_13 hK hr.2) (Nat.le_of_ble_eq_true rfl) (by omega) (by omega) (ct_x0_addOperator hK hr.2) (fun I13 => ?_)
      refine s_iload_n 0 dX5_comparison_60 rfl rfl ?_
      refine sm_ck (fun g14 => ?_)
      exact s_zret dX5_comparison_61 rfl g14 (fun f h => h)
    · skip
      refine s_iload_n 0 dX5_comparison_24 rfl rfl ?_
      refine s_bipush (v := 62) dX5_comparison_25 rfl cB_62 ?_
      refine s_icmp_eq (tgt := 36) dX5_comparison_27 rfl rfl (fun _ => ?_) (fun _ => ?_)
      · skip
        refine s_aload_n 2 dX5_comparison_36 rfl rfl ?_
        refine s_getR 21 dX5_comparison_37 rfl fl_5_12 rfl (S_20 hK) (R_20_0 hK) ?_
        refine s_callV0_v2 dX5_comparison_40 rfl lkV_RX5_94 (S_21 hK) (Nat.le_of_ble_eq_true rfl) (by omega) (by omega) (ct_x3_next hK hx) (fun I15 L16 => ?_)
        refine s_aload_n 2 dX5_comparison_43 rfl rfl ?_
        refine s_iload_n 3 dX5_comparison_44 rfl rfl ?_
        refine s_callV1_i2 dX5_comparison_45 rfl lkV_RX5_223 (S_20 hK) (Nat.le_of_ble_eq_true rfl) (by omega) (by omega) (ct_x5_sum hK hr hx h_rc_either h_rc_one) (fun r17 I18 L19 => ?_)
        refine s_istore_nL (fun v20 => [(2, .int v20), (3, .int v5), (0, .ref (X.1 + 20)), (1, .int p1)]) dX5_comparison_48 rfl (by decide) (fun _ => rfl) (fun v20 => ?_)
        refine s_aload_n 2 dX5_comparison_49 rfl rfl ?_
        refine s_getR r dX5_comparison_50 rfl fl_5_32 rfl (S_20 hK) hr.1 ?_
        refine s_getR (r + 13) dX5_comparison_53 rfl fl_5_118 rfl (tS_0 hK hr.2) (tR_0_19 hK hr.2) ?_
        refine s_iload_n 1 dX5_comparison_56 rfl rfl ?_
        refine s_callV1_v1 dX5_comparison_57 rfl lkV_RX5_211 (tS_13 hK hr.2) (Nat.le_of_ble_eq_true rfl) (by omega) (by omega) (ct_x0_addOperator hK hr.2) (fun I21 => ?_)
        refine s_iload_n 0 dX5_comparison_60 rfl rfl ?_
        refine sm_ck (fun g22 => ?_)
        exact s_zret dX5_comparison_61 rfl g22 (fun f h => h)
      · skip
        refine s_iload_n 0 dX5_comparison_30 rfl rfl ?_
        refine s_bipush (v := 61) dX5_comparison_31 rfl cB_61 ?_
        refine s_icmp_ne (tgt := 60) dX5_comparison_33 rfl rfl (fun _ => ?_) (fun _ => ?_)
        · skip
          refine s_iload_n 1 dX5_comparison_60 rfl rfl ?_
          refine sm_ck (fun g23 => ?_)
          exact s_zret dX5_comparison_61 rfl g23 (fun f h => h)
        · skip
          refine s_aload_n 2 dX5_comparison_36 rfl rfl ?_
          refine s_getR 21 dX5_comparison_37 rfl fl_5_12 rfl (S_20 hK) (R_20_0 hK) ?_
          refine s_callV0_v2 dX5_comparison_40 rfl lkV_RX5_94 (S_21 hK) (Nat.le_of_ble_eq_true rfl) (by omega) (by omega) (ct_x3_next hK hx) (fun I24 L25 => ?_)
          refine s_aload_n 2 dX5_comparison_43 rfl rfl ?_
          refine s_iload_n 3 dX5_comparison_44 rfl rfl ?_
          refine s_callV1_i2 dX5_comparison_45 rfl lkV_RX5_223 (S_20 hK) (Nat.le_of_ble_eq_true rfl) (by omega) (by omega) (ct_x5_sum hK hr hx h_rc_either h_rc_one) (fun r26 I27 L28 => ?_)
          refine s_istore_nL (fun v29 => [(2, .int v29), (3, .int v5), (0, .ref (X.1 + 20)), (1, .int p1)]) dX5_comparison_48 rfl (by decide) (fun _ => rfl) (fun v29 => ?_)
          refine s_aload_n 2 dX5_comparison_49 rfl rfl ?_
          refine s_getR r dX5_comparison_50 rfl fl_5_32 rfl (S_20 hK) hr.1 ?_
          refine s_getR (r + 13) dX5_comparison_53 rfl fl_5_118 rfl (tS_0 hK hr.2) (tR_0_19 hK hr.2) ?_
          refine s_iload_n 1 dX5_comparison_56 rfl rfl ?_
          refine s_callV1_v1 dX5_comparison_57 rfl lkV_RX5_211 (tS_13 hK hr.2) (Nat.le_of_ble_eq_true rfl) (by omega) (by omega) (ct_x0_addOperator hK hr.2) (fun I30 => ?_)
          refine s_iload_n 0 dX5_comparison_60 rfl rfl ?_
          refine sm_ck (fun g31 => ?_)
          exact s_zret dX5_comparison_61 rfl g31 (fun f h => h)
noncomputable def x5_opposite (r : Nat) (rc_either : Int32 → MI → ML → Option (Int32 × MI × ML)) (rc_one : Int32 → MI → ML → Option (Int32 × MI × ML)) (p1 : Int32) (I : MI) (L : ML) : Option (Int32 × MI × ML) :=
if 6 < p1 then (
b2 (x5_fail (2 : Int32) I) fun r9 I10 =>
ck (r9 = 0 ∨ r9 = 1) (some (r9, I10, L))) else
b2 (x3_next I L) fun I1 L2 =>
b3 (rc_one (p1 + 1) I1 L2) fun r3 I4 L5 =>
lt r3 fun v6 =>
b1 (x0_addOperator r (25 : Int32) I4) fun I7 =>
ck (v6 = 0 ∨ v6 = 1) (some (v6, I7, L5))
theorem ct_x5_opposite {X : WX} {r : Nat} {rc_either : Int32 → MI → ML → Option (Int32 × MI × ML)} {rc_one : Int32 → MI → ML → Option (Int32 × MI × ML)} {Fb Lb : Nat} {p1 : Int32} {I : MI} {L : ML} {R : MR} {S : MS} (hK : okr R S) (hr : R 20 4 = some r ∧ isT r) (hx : R 21 1 = some 1) (h_rc_either : ∀ (p1 : Int32) (I : MI) (L : ML), Ct X yX5_either cX5_either 4 (some .boolean) Fb Lb [.ref (X.1 + 20), .int p1] (I, L, R, S) (rc_either p1 I L) (fun r => (some (.int r.1), (r.2.1, r.2.2, R, S)))) (h_rc_one : ∀ (p1 : Int32) (I : MI) (L : ML), Ct X yX5_one cX5_one 2 (some .boolean) Fb Lb [.ref (X.1 + 20), .int p1] (I, L, R, S) (rc_one p1 I L) (fun r => (some (.int r.1), (r.2.1, r.2.2, R, S)))) : Ct X yX5_opposite cX5_opposite 3 (some .boolean) (Fb + 2) (Lb + 42) [.ref (X.1 + 20), .int p1] (I, L, R, S) (x5_opposite r rc_either rc_one p1 I L) (fun r => (some (.int r.1), (r.2.1, r.2.2, R, S))) := by
  refine Ct.of (by decide) (Nat.le_of_ble_eq_true rfl) [(0, .ref (X.1 + 20)), (1, .int p1)] rfl ?_
  unfold x5_opposite
  refine s_iload_n 1 dX5_opposite_0 rfl rfl ?_
  refine s_bipush (v := 6) dX5_opposite_1 rfl cB_6 ?_
  refine s_icmp_le (tgt := 12) dX5_opposite_3 rfl rfl (fun _ => ?_) (fun _ => ?_)
  · skip
    refine s_aload_n 0 dX5_opposite_12 rfl rfl ?_
    refine s_getR 21 dX5_opposite_13 rfl fl_5_12 rfl (S_20 hK) (R_20_0 hK) ?_
    refine s_callV0_v2 dX5_opposite_16 rfl lkV_RX5_94 (S_21 hK) (Nat.le_of_ble_eq_true rfl) (by omega) (by omega) (ct_x3_next hK hx) (fun I1 L2 => ?_)
    refine s_aload_n 0 dX5_opposite_19 rfl rfl ?_
    refine s_iload_n 1 dX5_opposite_20 rfl rfl ?_
    refine s_iconst (v := 1) dX5_opposite_21 rfl cI_1 ?_
    refine s_iadd dX5_opposite_22 rfl ?_
    refine s_callV1_i2 dX5_opposite_23 rfl lkV_RX5_214 (S_20 hK) (Nat.le_of_ble_eq_true rfl) (by omega) (by omega) (h_rc_one _  _ _) (fun r3 I4 L5 => ?_)
    refine s_istore_nL (fun v6 => [(2, .int v6), (0, .ref (X.1 + 20)), (1, .int p1)]) dX5_opposite_26 rfl (by decide) (fun _ => rfl) (fun v6 => ?_)
    refine s_aload_n 1 dX5_opposite_27 rfl rfl ?_
    refine s_getR r dX5_opposite_28 rfl fl_5_32 rfl (S_20 hK) hr.1 ?_
    refine s_getR (r + 13) dX5_opposite_31 rfl fl_5_118 rfl (tS_0 hK hr.2) (tR_0_19 hK hr.2) ?_
    refine s_bipush (v := 25) dX5_opposite_34 rfl cB_25 ?_
    refine s_callV1_v1 dX5_opposite_36 rfl lkV_RX5_211 (tS_13 hK hr.2) (Nat.le_of_ble_eq_true rfl) (by omega) (by omega) (ct_x0_addOperator hK hr.2) (fun I7 => ?_)
    refine s_iload_n 0 dX5_opposite_39 rfl rfl ?_
    refine sm_ck (fun g8 => ?_)
    exact s_zret dX5_opposite_40 rfl g8 (fun f h => h)
  · skip
    refine s_aload_n 0 dX5_opposite_6 rfl rfl ?_
    refine s_iconst (v := 2) dX5_opposite_7 rfl cI_2 ?_
    refine s_callV1_i1 dX5_opposite_8 rfl lkV_RX5_66 (S_20 hK) (Nat.le_of_ble_eq_true rfl) (by omega) (by omega) (ct_x5_fail hK) (fun r9 I10 => ?_)
    refine sm_ck (fun g11 => ?_)
    exact s_zret dX5_opposite_11 rfl g11 (fun f h => h)
noncomputable def x5_one (r : Nat) (rc_either : Int32 → MI → ML → Option (Int32 × MI × ML)) (rc_one : Int32 → MI → ML → Option (Int32 × MI × ML)) (p1 : Int32) (I : MI) (L : ML) : Option (Int32 × MI × ML) :=
if (I 21 4) = 25 then (
b3 (x5_opposite r rc_either rc_one p1 I L) fun r5 I6 L7 =>
ck (r5 = 0 ∨ r5 = 1) (some (r5, I6, L7))) else
b3 (x5_comparison r rc_either rc_one p1 I L) fun r1 I2 L3 =>
ck (r1 = 0 ∨ r1 = 1) (some (r1, I2, L3))
theorem ct_x5_one {X : WX} {r : Nat} {rc_either : Int32 → MI → ML → Option (Int32 × MI × ML)} {rc_one : Int32 → MI → ML → Option (Int32 × MI × ML)} {Fb Lb : Nat} {p1 : Int32} {I : MI} {L : ML} {R : MR} {S : MS} (hK : okr R S) (hr : R 20 4 = some r ∧ isT r) (hx : R 21 1 = some 1) (h_rc_either : ∀ (p1 : Int32) (I : MI) (L : ML), Ct X yX5_either cX5_either 4 (some .boolean) Fb Lb [.ref (X.1 + 20), .int p1] (I, L, R, S) (rc_either p1 I L) (fun r => (some (.int r.1), (r.2.1, r.2.2, R, S)))) (h_rc_one : ∀ (p1 : Int32) (I : MI) (L : ML), Ct X yX5_one cX5_one 2 (some .boolean) Fb Lb [.ref (X.1 + 20), .int p1] (I, L, R, S) (rc_one p1 I L) (fun r => (some (.int r.1), (r.2.1, r.2.2, R, S)))) : Ct X yX5_one cX5_one 2 (some .boolean) (Fb + 6) (Lb + 135) [.ref (X.1 + 20), .int p1] (I, L, R, S) (x5_one r rc_either rc_one p1 I L) (fun r => (some (.int r.1), (r.2.1, r.2.2, R, S))) := by
  refine Ct.of (by decide) (Nat.le_of_ble_eq_true rfl) [(0, .ref (X.1 + 20)), (1, .int p1)] rfl ?_
  unfold x5_one
  refine s_aload_n 0 dX5_one_0 rfl rfl ?_
  refine s_getR 21 dX5_one_1 rfl fl_5_12 rfl (S_20 hK) (R_20_0 hK) ?_
  refine s_getI dX5_one_4 rfl fl_5_55 (S_21 hK) ?_
  refine s_bipush (v := 25) dX5_one_7 rfl cB_25 ?_
  refine s_icmp_ne (tgt := 20) dX5_one_9 rfl rfl (fun _ => ?_) (fun _ => ?_)
  · skip
    refine s_aload_n 0 dX5_one_20 rfl rfl ?_
    refine s_iload_n 1 dX5_one_21 rfl rfl ?_
    refine s_callV1_i2 dX5_one_22 rfl lkV_RX5_220 (S_20 hK) (Nat.le_of_ble_eq_true rfl) (by omega) (by omega) (ct_x5_comparison hK hr hx h_rc_either h_rc_one) (fun r1 I2 L3 => ?_)
    refine sm_ck (fun g4 => ?_)
    exact s_zret dX5_one_25 rfl g4 (fun f h => h)
  · skip
    refine s_aload_n 0 dX5_one_12 rfl rfl ?_
    refine s_iload_n 1 dX5_one_13 rfl rfl ?_
    refine s_callV1_i2 dX5_one_14 rfl lkV_RX5_217 (S_20 hK) (Nat.le_of_ble_eq_true rfl) (by omega) (by omega) (ct_x5_opposite hK hr hx h_rc_either h_rc_one) (fun r5 I6 L7 => ?_)
    refine s_goto (tgt := 25) dX5_one_17 rfl ?_
    refine sm_ck (fun g8 => ?_)
    exact s_zret dX5_one_25 rfl g8 (fun f h => h)
noncomputable def x5_both_L8s (r : Nat) (rc_either : Int32 → MI → ML → Option (Int32 × MI × ML)) (rc_one : Int32 → MI → ML → Option (Int32 × MI × ML)) (c1 : Int32) (rec : Int32 → Int32 → MI → ML → Option (Int32 × MI × ML)) (w2 : Int32) (w3 : Int32) (I : MI) (L : ML) : Option (Int32 × MI × ML) :=
if w3 < 1600 then (
if w2 = 0 then (
some (w2, I, L)) else
if (I 21 4) = 24 then (
b2 (x3_next I L) fun I6 L7 =>
b3 (rc_one c1 I6 L7) fun r8 I9 L10 =>
lt r8 fun v11 =>
b1 (x0_addOperator r (24 : Int32) I9) fun I12 =>
lt (w3 + 1) fun v13 =>
rec v11 v13 I12 L10) else
some (w2, I, L)) else
some (w2, I, L)
noncomputable def x5_both_L8 (r : Nat) (rc_either : Int32 → MI → ML → Option (Int32 × MI × ML)) (rc_one : Int32 → MI → ML → Option (Int32 × MI × ML)) (c1 : Int32) : Nat → Int32 → Int32 → MI → ML → Option (Int32 × MI × ML)
  | 0 => fun _ _ _ _ => none
  | n + 1 => x5_both_L8s r rc_either rc_one c1 (x5_both_L8 r rc_either rc_one c1 n)
noncomputable def x5_both (r : Nat) (rc_either : Int32 → MI → ML → Option (Int32 × MI × ML)) (rc_one : Int32 → MI → ML → Option (Int32 × MI × ML)) (p1 : Int32) (I : MI) (L : ML) : Option (Int32 × MI × ML) :=
b3 (rc_one p1 I L) fun r1 I2 L3 =>
lt r1 fun v4 =>
lt (0 : Int32) fun v5 =>
b1 (x5_both_L8 r rc_either rc_one p1 FU v4 v5 I2 L3) fun e14 =>
ck (e14.1 = 0 ∨ e14.1 = 1) (some (e14.1, e14.2.1, e14.2.2))
theorem x5_both_L8_ok {X : WX} {n0 s0 : Nat} {r : Nat} {rc_either : Int32 → MI → ML → Option (Int32 × MI × ML)} {rc_one : Int32 → MI → ML → Option (Int32 × MI × ML)} {Fb Lb : Nat} {c1 : Int32} {R : MR} {S : MS} (hK : okr R S) (hr : R 20 4 = some r ∧ isT r) (hx : R 21 1 = some 1) (h_rc_either : ∀ (p1 : Int32) (I : MI) (L : ML), Ct X yX5_either cX5_either 4 (some .boolean) Fb Lb [.ref (X.1 + 20), .int p1] (I, L, R, S) (rc_either p1 I L) (fun r => (some (.int r.1), (r.2.1, r.2.2, R, S)))) (h_rc_one : ∀ (p1 : Int32) (I : MI) (L : ML), Ct X yX5_one cX5_one 2 (some .boolean) Fb Lb [.ref (X.1 + 20), .int p1] (I, L, R, S) (rc_one p1 I L) (fun r => (some (.int r.1), (r.2.1, r.2.2, R, S)))) : ∀ (n : Nat) (w2 : Int32) (w3 : Int32) (I : MI) (L : ML), Sim X yX5_both cX5_both 4 (some .boolean) (Fb + 2) (Lb + 42) n0 s0 8 [(0, .ref (X.1 + 20)), (1, .int c1), (2, .int w2), (3, .int w3)] [] (I, L, R, S) (x5_both_L8 r rc_either rc_one c1 n w2 w3 I L) (fun b f => Ex X yX5_both cX5_both 4 (some .boolean) (Fb + 2) (Lb + 42) n0 s0 62 [(2, .int b.1)] [] (b.2.1, b.2.2, R, S) f) := by
  intro n
  induction n with
  | zero =>
    intro w2 w3 I L
    exact sm_none
  | succ n ih =>
    intro w2 w3 I L
    change Sim _ _ _ _ _ _ _ _ _ _ _ _ _ (x5_both_L8s r rc_either rc_one c1 (x5_both_L8 r rc_either rc_one c1 n) w2 w3 I L) _
    unfold x5_both_L8s
    refine s_iload_n 3 dX5_both_8 rfl rfl ?_
    refine s_sipush (v := 1600) dX5_both_9 rfl cS_1600 ?_
    refine s_icmp_ge (tgt := 62) dX5_both_12 rfl rfl (fun _ => ?_) (fun _ => ?_)
    · skip
      refine s_pick [2] rfl ?_
      exact sm_exit (fun f h => h)
    · skip
      refine s_iload_n 2 dX5_both_15 rfl rfl ?_
      refine s_if_eq (tgt := 62) dX5_both_16 rfl rfl (fun _ => ?_) (fun _ => ?_)
      · skip
        refine s_pick [2] rfl ?_
        exact sm_exit (fun f h => h)
      · skip
        refine s_aload_n 0 dX5_both_19 rfl rfl ?_
        refine s_getR 21 dX5_both_20 rfl fl_5_12 rfl (S_20 hK) (R_20_0 hK) ?_
        refine s_getI dX5_both_23 rfl fl_5_55 (S_21 hK) ?_
        refine s_bipush (v := 24) dX5_both_26 rfl cB_24 ?_
        refine s_icmp_ne (tgt := 62) dX5_both_28 rfl rfl (fun _ => ?_) (fun _ => ?_)
        · skip
          refine s_pick [2] rfl ?_
          exact sm_exit (fun f h => h)
        · skip
          refine s_aload_n 0 dX5_both_31 rfl rfl ?_
          refine s_getR 21 dX5_both_32 rfl fl_5_12 rfl (S_20 hK) (R_20_0 hK) ?_
          refine s_callV0_v2 dX5_both_35 rfl lkV_RX5_94 (S_21 hK) (Nat.le_of_ble_eq_true rfl) (by omega) (by omega) (ct_x3_next hK hx) (fun I6 L7 => ?_)
          refine s_aload_n 0 dX5_both_38 rfl rfl ?_
          refine s_iload_n 1 dX5_both_39 rfl rfl ?_
          refine s_callV1_i2 dX5_both_40 rfl lkV_RX5_214 (S_20 hK) (Nat.le_of_ble_eq_true rfl) (by omega) (by omega) (h_rc_one _  _ _) (fun r8 I9 L10 => ?_)
          refine s_istore_nL (fun v11 => [(2, .int v11), (0, .ref (X.1 + 20)), (1, .int c1), (3, .int w3)]) dX5_both_43 rfl (by decide) (fun _ => rfl) (fun v11 => ?_)
          refine s_aload_n 1 dX5_both_44 rfl rfl ?_
          refine s_getR r dX5_both_45 rfl fl_5_32 rfl (S_20 hK) hr.1 ?_
          refine s_getR (r + 13) dX5_both_48 rfl fl_5_118 rfl (tS_0 hK hr.2) (tR_0_19 hK hr.2) ?_
          refine s_bipush (v := 24) dX5_both_51 rfl cB_24 ?_
          refine s_callV1_v1 dX5_both_53 rfl lkV_RX5_211 (tS_13 hK hr.2) (Nat.le_of_ble_eq_true rfl) (by omega) (by omega) (ct_x0_addOperator hK hr.2) (fun I12 => ?_)
          refine s_iincL 3 (c := 1) (fun v13 => [(3, .int v13), (2, .int v11), (0, .ref (X.1 + 20)), (1, .int c1)]) dX5_both_56 rfl rfl cI_1 (by decide) (fun _ => rfl) (fun v13 => ?_)
          refine s_goto (tgt := 8) dX5_both_59 rfl ?_
          refine s_pick [2, 3, 1, 0] rfl ?_
          exact ih v11 v13 I12 L10
theorem ct_x5_both {X : WX} {r : Nat} {rc_either : Int32 → MI → ML → Option (Int32 × MI × ML)} {rc_one : Int32 → MI → ML → Option (Int32 × MI × ML)} {Fb Lb : Nat} {p1 : Int32} {I : MI} {L : ML} {R : MR} {S : MS} (hK : okr R S) (hr : R 20 4 = some r ∧ isT r) (hx : R 21 1 = some 1) (h_rc_either : ∀ (p1 : Int32) (I : MI) (L : ML), Ct X yX5_either cX5_either 4 (some .boolean) Fb Lb [.ref (X.1 + 20), .int p1] (I, L, R, S) (rc_either p1 I L) (fun r => (some (.int r.1), (r.2.1, r.2.2, R, S)))) (h_rc_one : ∀ (p1 : Int32) (I : MI) (L : ML), Ct X yX5_one cX5_one 2 (some .boolean) Fb Lb [.ref (X.1 + 20), .int p1] (I, L, R, S) (rc_one p1 I L) (fun r => (some (.int r.1), (r.2.1, r.2.2, R, S)))) : Ct X yX5_both cX5_both 4 (some .boolean) (Fb + 2) (Lb + 42) [.ref (X.1 + 20), .int p1] (I, L, R, S) (x5_both r rc_either rc_one p1 I L) (fun r => (some (.int r.1), (r.2.1, r.2.2, R, S))) := by
  refine Ct.of (by decide) (Nat.le_of_ble_eq_true rfl) [(0, .ref (X.1 + 20)), (1, .int p1)] rfl ?_
  unfold x5_both
  refine s_aload_n 0 dX5_both_0 rfl rfl ?_
  refine s_iload_n 1 dX5_both_1 rfl rfl ?_
  refine s_callV1_i2 dX5_both_2 rfl lkV_RX5_214 (S_20 hK) (Nat.le_of_ble_eq_true rfl) (by omega) (by omega) (h_rc_one _  _ _) (fun r1 I2 L3 => ?_)
  refine s_istore_nL (fun v4 => [(2, .int v4), (0, .ref (X.1 + 20)), (1, .int p1)]) dX5_both_5 rfl (by decide) (fun _ => rfl) (fun v4 => ?_)
  refine s_iconst (v := 0) dX5_both_6 rfl cI_0 ?_
  refine s_istore_nL (fun v5 => [(3, .int v5), (2, .int v4), (0, .ref (X.1 + 20)), (1, .int p1)]) dX5_both_7 rfl (by decide) (fun _ => rfl) (fun v5 => ?_)
  refine s_pick [2, 3, 1, 0] rfl ?_
  refine sm_reg (x5_both_L8_ok hK hr hx h_rc_either h_rc_one FU v4 v5 I2 L3) (fun e14 => ?_)
  refine s_iload_n 0 dX5_both_62 rfl rfl ?_
  refine sm_ck (fun g15 => ?_)
  exact s_zret dX5_both_63 rfl g15 (fun f h => h)
noncomputable def x5_either_L8s (r : Nat) (rc_either : Int32 → MI → ML → Option (Int32 × MI × ML)) (rc_one : Int32 → MI → ML → Option (Int32 × MI × ML)) (c1 : Int32) (rec : Int32 → Int32 → MI → ML → Option (Int32 × MI × ML)) (w2 : Int32) (w3 : Int32) (I : MI) (L : ML) : Option (Int32 × MI × ML) :=
if w3 < 1600 then (
if w2 = 0 then (
some (w2, I, L)) else
if (I 21 4) = 23 then (
b2 (x3_next I L) fun I6 L7 =>
b3 (x5_both r rc_either rc_one c1 I6 L7) fun r8 I9 L10 =>
lt r8 fun v11 =>
b1 (x0_addOperator r (23 : Int32) I9) fun I12 =>
lt (w3 + 1) fun v13 =>
rec v11 v13 I12 L10) else
some (w2, I, L)) else
some (w2, I, L)
noncomputable def x5_either_L8 (r : Nat) (rc_either : Int32 → MI → ML → Option (Int32 × MI × ML)) (rc_one : Int32 → MI → ML → Option (Int32 × MI × ML)) (c1 : Int32) : Nat → Int32 → Int32 → MI → ML → Option (Int32 × MI × ML)
  | 0 => fun _ _ _ _ => none
  | n + 1 => x5_either_L8s r rc_either rc_one c1 (x5_either_L8 r rc_either rc_one c1 n)
noncomputable def x5_either (r : Nat) (rc_either : Int32 → MI → ML → Option (Int32 × MI × ML)) (rc_one : Int32 → MI → ML → Option (Int32 × MI × ML)) (p1 : Int32) (I : MI) (L : ML) : Option (Int32 × MI × ML) :=
b3 (x5_both r rc_either rc_one p1 I L) fun r1 I2 L3 =>
lt r1 fun v4 =>
lt (0 : Int32) fun v5 =>
b1 (x5_either_L8 r rc_either rc_one p1 FU v4 v5 I2 L3) fun e14 =>
ck (e14.1 = 0 ∨ e14.1 = 1) (some (e14.1, e14.2.1, e14.2.2))
theorem x5_either_L8_ok {X : WX} {n0 s0 : Nat} {r : Nat} {rc_either : Int32 → MI → ML → Option (Int32 × MI × ML)} {rc_one : Int32 → MI → ML → Option (Int32 × MI × ML)} {Fb Lb : Nat} {c1 : Int32} {R : MR} {S : MS} (hK : okr R S) (hr : R 20 4 = some r ∧ isT r) (hx : R 21 1 = some 1) (h_rc_either : ∀ (p1 : Int32) (I : MI) (L : ML), Ct X yX5_either cX5_either 4 (some .boolean) Fb Lb [.ref (X.1 + 20), .int p1] (I, L, R, S) (rc_either p1 I L) (fun r => (some (.int r.1), (r.2.1, r.2.2, R, S)))) (h_rc_one : ∀ (p1 : Int32) (I : MI) (L : ML), Ct X yX5_one cX5_one 2 (some .boolean) Fb Lb [.ref (X.1 + 20), .int p1] (I, L, R, S) (rc_one p1 I L) (fun r => (some (.int r.1), (r.2.1, r.2.2, R, S)))) : ∀ (n : Nat) (w2 : Int32) (w3 : Int32) (I : MI) (L : ML), Sim X yX5_either cX5_either 4 (some .boolean) (Fb + 6) (Lb + 135) n0 s0 8 [(0, .ref (X.1 + 20)), (1, .int c1), (2, .int w2), (3, .int w3)] [] (I, L, R, S) (x5_either_L8 r rc_either rc_one c1 n w2 w3 I L) (fun b f => Ex X yX5_either cX5_either 4 (some .boolean) (Fb + 6) (Lb + 135) n0 s0 62 [(2, .int b.1)] [] (b.2.1, b.2.2, R, S) f) := by
  intro n
  induction n with
  | zero =>
    intro w2 w3 I L
    exact sm_none
  | succ n ih =>
    intro w2 w3 I L
    change Sim _ _ _ _ _ _ _ _ _ _ _ _ _ (x5_either_L8s r rc_either rc_one c1 (x5_either_L8 r rc_either rc_one c1 n) w2 w3 I L) _
    unfold x5_either_L8s
    refine s_iload_n 3 dX5_either_8 rfl rfl ?_
    refine s_sipush (v := 1600) dX5_either_9 rfl cS_1600 ?_
    refine s_icmp_ge (tgt := 62) dX5_either_12 rfl rfl (fun _ => ?_) (fun _ => ?_)
    · skip
      refine s_pick [2] rfl ?_
      exact sm_exit (fun f h => h)
    · skip
      refine s_iload_n 2 dX5_either_15 rfl rfl ?_
      refine s_if_eq (tgt := 62) dX5_either_16 rfl rfl (fun _ => ?_) (fun _ => ?_)
      · skip
        refine s_pick [2] rfl ?_
        exact sm_exit (fun f h => h)
      · skip
        refine s_aload_n 0 dX5_either_19 rfl rfl ?_
        refine s_getR 21 dX5_either_20 rfl fl_5_12 rfl (S_20 hK) (R_20_0 hK) ?_
        refine s_getI dX5_either_23 rfl fl_5_55 (S_21 hK) ?_
        refine s_bipush (v := 23) dX5_either_26 rfl cB_23 ?_
        refine s_icmp_ne (tgt := 62) dX5_either_28 rfl rfl (fun _ => ?_) (fun _ => ?_)
        · skip
          refine s_pick [2] rfl ?_
          exact sm_exit (fun f h => h)
        · skip
          refine s_aload_n 0 dX5_either_31 rfl rfl ?_
          refine s_getR 21 dX5_either_32 rfl fl_5_12 rfl (S_20 hK) (R_20_0 hK) ?_
          refine s_callV0_v2 dX5_either_35 rfl lkV_RX5_94 (S_21 hK) (Nat.le_of_ble_eq_true rfl) (by omega) (by omega) (ct_x3_next hK hx) (fun I6 L7 => ?_)
          refine s_aload_n 0 dX5_either_38 rfl rfl ?_
          refine s_iload_n 1 dX5_either_39 rfl rfl ?_
          refine s_callV1_i2 dX5_either_40 rfl lkV_RX5_208 (S_20 hK) (Nat.le_of_ble_eq_true rfl) (by omega) (by omega) (ct_x5_both hK hr hx h_rc_either h_rc_one) (fun r8 I9 L10 => ?_)
          refine s_istore_nL (fun v11 => [(2, .int v11), (0, .ref (X.1 + 20)), (1, .int c1), (3, .int w3)]) dX5_either_43 rfl (by decide) (fun _ => rfl) (fun v11 => ?_)
          refine s_aload_n 1 dX5_either_44 rfl rfl ?_
          refine s_getR r dX5_either_45 rfl fl_5_32 rfl (S_20 hK) hr.1 ?_
          refine s_getR (r + 13) dX5_either_48 rfl fl_5_118 rfl (tS_0 hK hr.2) (tR_0_19 hK hr.2) ?_
          refine s_bipush (v := 23) dX5_either_51 rfl cB_23 ?_
          refine s_callV1_v1 dX5_either_53 rfl lkV_RX5_211 (tS_13 hK hr.2) (Nat.le_of_ble_eq_true rfl) (by omega) (by omega) (ct_x0_addOperator hK hr.2) (fun I12 => ?_)
          refine s_iincL 3 (c := 1) (fun v13 => [(3, .int v13), (2, .int v11), (0, .ref (X.1 + 20)), (1, .int c1)]) dX5_either_56 rfl rfl cI_1 (by decide) (fun _ => rfl) (fun v13 => ?_)
          refine s_goto (tgt := 8) dX5_either_59 rfl ?_
          refine s_pick [2, 3, 1, 0] rfl ?_
          exact ih v11 v13 I12 L10
theorem ct_x5_either {X : WX} {r : Nat} {rc_either : Int32 → MI → ML → Option (Int32 × MI × ML)} {rc_one : Int32 → MI → ML → Option (Int32 × MI × ML)} {Fb Lb : Nat} {p1 : Int32} {I : MI} {L : ML} {R : MR} {S : MS} (hK : okr R S) (hr : R 20 4 = some r ∧ isT r) (hx : R 21 1 = some 1) (h_rc_either : ∀ (p1 : Int32) (I : MI) (L : ML), Ct X yX5_either cX5_either 4 (some .boolean) Fb Lb [.ref (X.1 + 20), .int p1] (I, L, R, S) (rc_either p1 I L) (fun r => (some (.int r.1), (r.2.1, r.2.2, R, S)))) (h_rc_one : ∀ (p1 : Int32) (I : MI) (L : ML), Ct X yX5_one cX5_one 2 (some .boolean) Fb Lb [.ref (X.1 + 20), .int p1] (I, L, R, S) (rc_one p1 I L) (fun r => (some (.int r.1), (r.2.1, r.2.2, R, S)))) : Ct X yX5_either cX5_either 4 (some .boolean) (Fb + 6) (Lb + 135) [.ref (X.1 + 20), .int p1] (I, L, R, S) (x5_either r rc_either rc_one p1 I L) (fun r => (some (.int r.1), (r.2.1, r.2.2, R, S))) := by
  refine Ct.of (by decide) (Nat.le_of_ble_eq_true rfl) [(0, .ref (X.1 + 20)), (1, .int p1)] rfl ?_
  unfold x5_either
  refine s_aload_n 0 dX5_either_0 rfl rfl ?_
  refine s_iload_n 1 dX5_either_1 rfl rfl ?_
  refine s_callV1_i2 dX5_either_2 rfl lkV_RX5_208 (S_20 hK) (Nat.le_of_ble_eq_true rfl) (by omega) (by omega) (ct_x5_both hK hr hx h_rc_either h_rc_one) (fun r1 I2 L3 => ?_)
  refine s_istore_nL (fun v4 => [(2, .int v4), (0, .ref (X.1 + 20)), (1, .int p1)]) dX5_either_5 rfl (by decide) (fun _ => rfl) (fun v4 => ?_)
  refine s_iconst (v := 0) dX5_either_6 rfl cI_0 ?_
  refine s_istore_nL (fun v5 => [(3, .int v5), (2, .int v4), (0, .ref (X.1 + 20)), (1, .int p1)]) dX5_either_7 rfl (by decide) (fun _ => rfl) (fun v5 => ?_)
  refine s_pick [2, 3, 1, 0] rfl ?_
  refine sm_reg (x5_either_L8_ok hK hr hx h_rc_either h_rc_one FU v4 v5 I2 L3) (fun e14 => ?_)
  refine s_iload_n 0 dX5_either_62 rfl rfl ?_
  refine sm_ck (fun g15 => ?_)
  exact s_zret dX5_either_63 rfl g15 (fun f h => h)
noncomputable def x5_RD (r : Nat) : Nat → Nat → Int32 → MI → ML → Option (Int32 × MI × ML)
  | 0 => fun _ _ _ _ => none
  | n + 1 => fun sel z0 z1 z2 => if sel = 0 then x5_either r (x5_RD r n 0) (x5_RD r n 1) z0 z1 z2 else x5_one r (x5_RD r n 0) (x5_RD r n 1) z0 z1 z2
theorem ct_x5_RD {X : WX} {r : Nat} {R : MR} {S : MS} (hK : okr R S) (hr : R 20 4 = some r ∧ isT r) (hx : R 21 1 = some 1) : ∀ n : Nat, (∀ (p1 : Int32) (I : MI) (L : ML), Ct X yX5_either cX5_either 4 (some .boolean) (6 * n) (135 * n) [.ref (X.1 + 20), .int p1] (I, L, R, S) (x5_RD r n 0 p1 I L) (fun r => (some (.int r.1), (r.2.1, r.2.2, R, S)))) ∧ (∀ (p1 : Int32) (I : MI) (L : ML), Ct X yX5_one cX5_one 2 (some .boolean) (6 * n) (135 * n) [.ref (X.1 + 20), .int p1] (I, L, R, S) (x5_RD r n 1 p1 I L) (fun r => (some (.int r.1), (r.2.1, r.2.2, R, S)))) := by
  intro n
  induction n with
  | zero => exact ⟨fun _ _ _ a ha => (by cases ha), fun _ _ _ a ha => (by cases ha)⟩
  | succ n ih =>
    obtain ⟨ih0, ih1⟩ := ih
    refine ⟨?_, ?_⟩
    · intro p1 I L
      exact ct_x5_either hK hr hx (Fb := 6 * n) (Lb := 135 * n) ih0 ih1
    · intro p1 I L
      exact ct_x5_one hK hr hx (Fb := 6 * n) (Lb := 135 * n) ih0 ih1
theorem ct_x5_RD_0 {X : WX} {r : Nat} {R : MR} {S : MS} (hK : okr R S) (hr : R 20 4 = some r ∧ isT r) (hx : R 21 1 = some 1) (n : Nat) (p1 : Int32) (I : MI) (L : ML) : Ct X yX5_either cX5_either 4 (some .boolean) (6 * n) (135 * n) [.ref (X.1 + 20), .int p1] (I, L, R, S) (x5_RD r n 0 p1 I L) (fun r => (some (.int r.1), (r.2.1, r.2.2, R, S))) := (ct_x5_RD hK hr hx n).1 p1 I L
theorem ct_x5_RD_1 {X : WX} {r : Nat} {R : MR} {S : MS} (hK : okr R S) (hr : R 20 4 = some r ∧ isT r) (hx : R 21 1 = some 1) (n : Nat) (p1 : Int32) (I : MI) (L : ML) : Ct X yX5_one cX5_one 2 (some .boolean) (6 * n) (135 * n) [.ref (X.1 + 20), .int p1] (I, L, R, S) (x5_RD r n 1 p1 I L) (fun r => (some (.int r.1), (r.2.1, r.2.2, R, S))) := (ct_x5_RD hK hr hx n).2 p1 I L
