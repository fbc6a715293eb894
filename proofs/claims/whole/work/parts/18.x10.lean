noncomputable def x6_fewestDrives_L28s (q1 : Nat) (rec : Int32 → MI → ML → MR → MS → Option ((MI × ML × MR × MS) ⊕ (Int32 × MI × ML × MR × MS))) (w5 : Int32) (I : MI) (L : ML) (R : MR) (S : MS) : Option ((MI × ML × MR × MS) ⊕ (Int32 × MI × ML × MR × MS)) :=
if 4 < w5 then (
some (.inl (I, L, R, S))) else
ck (okr R S) <|
b5 (x6_DW 8 (0 : Int32) w5 I L R S) fun r17 I18 L19 R20 S21 =>
if r17 = 0 then (
lt (w5 + 1) fun v22 =>
rec v22 I18 L19 R20 S21) else
some (.inr (w5, I18, L19, R20, S21))
noncomputable def x6_fewestDrives_L28 (q1 : Nat) : Nat → Int32 → MI → ML → MR → MS → Option ((MI × ML × MR × MS) ⊕ (Int32 × MI × ML × MR × MS))
  | 0 => fun _ _ _ _ _ => none
  | n + 1 => x6_fewestDrives_L28s q1 (x6_fewestDrives_L28 q1 n)
noncomputable def x6_fewestDrives (q1 : Nat) (p2 : Int32) (p3 : Int32) (p4 : Int32) (I : MI) (L : ML) (R : MR) (S : MS) : Option (Int32 × MI × ML × MR × MS) :=
ck (okr R S) <|
b5 (x6_level (0 : Int32) I L R S) fun q_2 I3 L4 R5 S6 =>
ck (isSt R5 S6 q_2) <|
ck (isSt R5 S6 q1) <|
ck (okr R5 S6) <|
ck (S6[q_2]? = some (7, 12)) <|
b1 (x7_copyPlay q_2 q1 I3) fun I10 =>
lt (wI I10 63 6 p2) fun I12 =>
lt (wI I12 63 7 p3) fun I13 =>
lt (wI I13 63 8 p4) fun I14 =>
lt (0 : Int32) fun v15 =>
bE (x6_fewestDrives_L28 q1 FU v15 I14 L4 R5 S6) fun e23 =>
some ((-1 : Int32), e23.1, e23.2.1, e23.2.2.1, e23.2.2.2)
theorem x6_fewestDrives_L28_ok {X : WX} {n0 s0 : Nat} {q1 : Nat} : ∀ (n : Nat) (w5 : Int32) (I : MI) (L : ML) (R : MR) (S : MS), Sim X yX6_fewestDrives cX6_fewestDrives 6 (some .int) 41 1040 n0 s0 28 [(0, .ref (X.1 + 63)), (5, .int w5)] [] (I, L, R, S) (x6_fewestDrives_L28 q1 n w5 I L R S) (SE (fun b f => Ex X yX6_fewestDrives cX6_fewestDrives 6 (some .int) 41 1040 n0 s0 53 [] [] (b.1, b.2.1, b.2.2.1, b.2.2.2) f) (fun a f => f = (fun r => (some (.int r.1), (r.2.1, r.2.2.1, r.2.2.2.1, r.2.2.2.2))) a)) := by
  intro n
  induction n with
  | zero =>
    intro w5 I L R S
    exact sm_none
  | succ n ih =>
    intro w5 I L R S
    change Sim _ _ _ _ _ _ _ _ _ _ _ _ _ (x6_fewestDrives_L28s q1 (x6_fewestDrives_L28 q1 n) w5 I L R S) _
    unfold x6_fewestDrives_L28s
    refine s_iload 1 dX6_fewestDrives_28 rfl rfl ?_
    refine s_iconst (v := 4) dX6_fewestDrives_30 rfl cI_4 ?_
    refine s_icmp_gt (tgt := 53) dX6_fewestDrives_31 rfl rfl (fun _ => ?_) (fun _ => ?_)
    · skip
      refine s_pick [] rfl ?_
      exact sm_exit (fun f h => h)
    · skip
      refine s_aload_n 0 dX6_fewestDrives_34 rfl rfl ?_
      refine s_iconst (v := 0) dX6_fewestDrives_35 rfl cI_0 ?_
      refine s_iload 1 dX6_fewestDrives_36 rfl rfl ?_
      refine sm_ck (fun g16 => ?_)
      refine s_callV2_i3 dX6_fewestDrives_38 rfl lkV_RX6_117 (S_63 g16) (Nat.le_of_ble_eq_true rfl) (Nat.le_of_ble_eq_true rfl) (Nat.le_of_ble_eq_true rfl) (ct_x6_DW_0 8 _ _ _ _ _ _) (fun r17 I18 L19 R20 S21 => ?_)
      refine s_if_eq (tgt := 47) dX6_fewestDrives_41 rfl rfl (fun _ => ?_) (fun _ => ?_)
      · skip
        refine s_iincL 1 (c := 1) (fun v22 => [(5, .int v22), (0, .ref (X.1 + 63))]) dX6_fewestDrives_47 rfl rfl cI_1 (by decide) (fun _ => rfl) (fun v22 => ?_)
        refine s_goto (tgt := 28) dX6_fewestDrives_50 rfl ?_
        refine s_pick [1, 0] rfl ?_
        exact ih v22 I18 L19 R20 S21
      · skip
        refine s_iload 1 dX6_fewestDrives_44 rfl rfl ?_
        exact s_iret dX6_fewestDrives_46 rfl (fun f h => h)
theorem ct_x6_fewestDrives {X : WX} {q1 : Nat} {p2 : Int32} {p3 : Int32} {p4 : Int32} {I : MI} {L : ML} {R : MR} {S : MS} : Ct X yX6_fewestDrives cX6_fewestDrives 6 (some .int) 41 1040 [.ref (X.1 + 63), .ref (X.1 + q1), .int p2, .int p3, .int p4] (I, L, R, S) (x6_fewestDrives q1 p2 p3 p4 I L R S) (fun r => (some (.int r.1), (r.2.1, r.2.2.1, r.2.2.2.1, r.2.2.2.2))) := by
  refine Ct.of (by decide) (Nat.le_of_ble_eq_true rfl) [(0, .ref (X.1 + 63)), (1, .ref (X.1 + q1)), (2, .int p2), (3, .int p3), (4, .int p4)] rfl ?_
  unfold x6_fewestDrives
  refine s_aload_n 0 dX6_fewestDrives_0 rfl rfl ?_
  refine s_iconst (v := 0) dX6_fewestDrives_1 rfl cI_0 ?_
  refine sm_ck (fun g1 => ?_)
  refine s_callV1_r3 dX6_fewestDrives_2 rfl lkV_RX6_35 (S_63 g1) (Nat.le_of_ble_eq_true rfl) (Nat.le_of_ble_eq_true rfl) (Nat.le_of_ble_eq_true rfl) ct_x6_level (fun q_2 I3 L4 R5 S6 => ?_)
  refine s_aload_n 1 dX6_fewestDrives_5 rfl rfl ?_
  refine sm_ck (fun g7 => ?_)
  refine sm_ck (fun g8 => ?_)
  refine sm_ck (fun g9 => ?_)
  refine sm_ck (fun g11 => ?_)
  refine s_callV1_v1 dX6_fewestDrives_6 rfl lkV_RX6_39 g11 (Nat.le_of_ble_eq_true rfl) (Nat.le_of_ble_eq_true rfl) (Nat.le_of_ble_eq_true rfl) (ct_x7_copyPlay g9 g7 g8) (fun I10 => ?_)
  refine s_aload_n 0 dX6_fewestDrives_9 rfl rfl ?_
  refine s_iload_n 2 dX6_fewestDrives_10 rfl rfl ?_
  refine s_putIL dX6_fewestDrives_11 rfl fl_6_43 (S_63 g9) (fun I12 => ?_)
  refine s_aload_n 0 dX6_fewestDrives_14 rfl rfl ?_
  refine s_iload_n 3 dX6_fewestDrives_15 rfl rfl ?_
  refine s_putIL dX6_fewestDrives_16 rfl fl_6_111 (S_63 g9) (fun I13 => ?_)
  refine s_aload_n 0 dX6_fewestDrives_19 rfl rfl ?_
  refine s_iload 4 dX6_fewestDrives_20 rfl rfl ?_
  refine s_putIL dX6_fewestDrives_22 rfl fl_6_114 (S_63 g9) (fun I14 => ?_)
  refine s_iconst (v := 0) dX6_fewestDrives_25 rfl cI_0 ?_
  refine s_istoreL (fun v15 => [(5, .int v15), (0, .ref (X.1 + 63)), (1, .ref (X.1 + q1)), (2, .int p2), (3, .int p3), (4, .int p4)]) dX6_fewestDrives_26 rfl (by decide) (fun _ => rfl) (fun v15 => ?_)
  refine s_pick [1, 0] rfl ?_
  refine sm_regE (x6_fewestDrives_L28_ok  FU v15 I14 L4 R5 S6) (fun e23 => ?_)
  refine s_iconst (v := (-1)) dX6_fewestDrives_53 rfl cI_m1 ?_
  exact s_iret dX6_fewestDrives_54 rfl (fun f h => h)
noncomputable def x10_drives (p1 : Int32) (p2 : Int32) (p3 : Int32) (I : MI) (L : ML) (R : MR) (S : MS) : Option (Int32 × MI × ML × MR × MS) :=
ck (okr R S) <|
lt (wI I 0 14 (0 : Int32)) fun I2 =>
b1 (R 27 0) fun t_3 =>
ck (isT t_3) <|
b1 (x10_isBobber t_3 p1 I2) fun r6 =>
if r6 = 0 then (
some ((-2 : Int32), I2, L, R, S)) else
b1 (x10_isBobber t_3 p2 I2) fun r7 =>
if r7 = 0 then (
some ((-2 : Int32), I2, L, R, S)) else
if p1 = p2 then (
some ((-2 : Int32), I2, L, R, S)) else
b1 (x10_isAfloat t_3 p3 I2) fun r8 =>
if r8 = 0 then (
some ((-2 : Int32), I2, L, R, S)) else
b5 (x6_fewestDrives 47 p1 p2 p3 I2 L R S) fun r9 I10 L11 R12 S13 =>
lt r9 fun v14 =>
ck (okr R12 S13) <|
b1 (x10_layAll 65 8 v14 I10) fun I16 =>
some (v14, I16, L11, R12, S13)
theorem ct_x10_drives {X : WX} {p1 : Int32} {p2 : Int32} {p3 : Int32} {I : MI} {L : ML} {R : MR} {S : MS} : Ct X yX10_drives cX10_drives 5 (some .int) 42 1065 [.ref (X.1 + 0), .int p1, .int p2, .int p3] (I, L, R, S) (x10_drives p1 p2 p3 I L R S) (fun r => (some (.int r.1), (r.2.1, r.2.2.1, r.2.2.2.1, r.2.2.2.2))) := by
  refine Ct.of (by decide) (Nat.le_of_ble_eq_true rfl) [(0, .ref (X.1 + 0)), (1, .int p1), (2, .int p2), (3, .int p3)] rfl ?_
  unfold x10_drives
  refine s_aload_n 0 dX10_drives_0 rfl rfl ?_
  refine s_iconst (v := 0) dX10_drives_1 rfl cI_0 ?_
  refine sm_ck (fun g1 => ?_)
  refine s_putIL dX10_drives_2 rfl fl_10_112 (S_0 g1) (fun I2 => ?_)
  refine s_aload_n 0 dX10_drives_5 rfl rfl ?_
  refine s_iload_n 1 dX10_drives_6 rfl rfl ?_
  refine sm_b1 (fun t_3 h4 => ?_)
  refine sm_ck (fun g5 => ?_)
  refine s_callV1_i0 dX10_drives_7 rfl lkV_RX10_143 (S_0 g1) (Nat.le_of_ble_eq_true rfl) (Nat.le_of_ble_eq_true rfl) (Nat.le_of_ble_eq_true rfl) (ct_x10_isBobber g1 (⟨h4, g5⟩)) (fun r6 => ?_)
  refine s_if_eq (tgt := 34) dX10_drives_10 rfl rfl (fun _ => ?_) (fun _ => ?_)
  · skip
    refine s_bipush (v := (-2)) dX10_drives_34 rfl cB_m2 ?_
    exact s_iret dX10_drives_36 rfl (fun f h => h)
  · skip
    refine s_aload_n 0 dX10_drives_13 rfl rfl ?_
    refine s_iload_n 2 dX10_drives_14 rfl rfl ?_
    refine s_callV1_i0 dX10_drives_15 rfl lkV_RX10_143 (S_0 g1) (Nat.le_of_ble_eq_true rfl) (Nat.le_of_ble_eq_true rfl) (Nat.le_of_ble_eq_true rfl) (ct_x10_isBobber g1 (⟨h4, g5⟩)) (fun r7 => ?_)
    refine s_if_eq (tgt := 34) dX10_drives_18 rfl rfl (fun _ => ?_) (fun _ => ?_)
    · skip
      refine s_bipush (v := (-2)) dX10_drives_34 rfl cB_m2 ?_
      exact s_iret dX10_drives_36 rfl (fun f h => h)
    · skip
      refine s_iload_n 1 dX10_drives_21 rfl rfl ?_
      refine s_iload_n 2 dX10_drives_22 rfl rfl ?_
      refine s_icmp_eq (tgt := 34) dX10_drives_23 rfl rfl (fun _ => ?_) (fun _ => ?_)
      · skip
        refine s_bipush (v := (-2)) dX10_drives_34 rfl cB_m2 ?_
        exact s_iret dX10_drives_36 rfl (fun f h => h)
      · skip
        refine s_aload_n 0 dX10_drives_26 rfl rfl ?_
        refine s_iload_n 3 dX10_drives_27 rfl rfl ?_
        refine s_callV1_i0 dX10_drives_28 rfl lkV_RX10_269 (S_0 g1) (Nat.le_of_ble_eq_true rfl) (Nat.le_of_ble_eq_true rfl) (Nat.le_of_ble_eq_true rfl) (ct_x10_isAfloat g1 (⟨h4, g5⟩)) (fun r8 => ?_)
        refine s_if_ne (tgt := 37) dX10_drives_31 rfl rfl (fun _ => ?_) (fun _ => ?_)
        · skip
          refine s_aload_n 0 dX10_drives_37 rfl rfl ?_
          refine s_getR 63 dX10_drives_38 rfl fl_10_63 rfl (S_0 g1) (R_0_9 g1) ?_
          refine s_aload_n 0 dX10_drives_41 rfl rfl ?_
          refine s_getR 47 dX10_drives_42 rfl fl_10_39 rfl (S_0 g1) (R_0_5 g1) ?_
          refine s_iload_n 1 dX10_drives_45 rfl rfl ?_
          refine s_iload_n 2 dX10_drives_46 rfl rfl ?_
          refine s_iload_n 3 dX10_drives_47 rfl rfl ?_
          refine s_callV4_i3 dX10_drives_48 rfl lkV_RX10_272 (S_63 g1) (Nat.le_of_ble_eq_true rfl) (Nat.le_of_ble_eq_true rfl) (Nat.le_of_ble_eq_true rfl) ct_x6_fewestDrives (fun r9 I10 L11 R12 S13 => ?_)
          refine s_istoreL (fun v14 => [(4, .int v14), (0, .ref (X.1 + 0)), (1, .int p1), (2, .int p2), (3, .int p3)]) dX10_drives_51 rfl (by decide) (fun _ => rfl) (fun v14 => ?_)
          refine s_aload_n 1 dX10_drives_53 rfl rfl ?_
          refine s_aload_n 1 dX10_drives_54 rfl rfl ?_
          refine sm_ck (fun g15 => ?_)
          refine s_getR 63 dX10_drives_55 rfl fl_10_63 rfl (S_0 g15) (R_0_9 g15) ?_
          refine s_getR 65 dX10_drives_58 rfl fl_10_275 rfl (S_63 g15) (R_63_5 g15) ?_
          refine s_iload 0 dX10_drives_61 rfl rfl ?_
          refine s_callV2_v1 dX10_drives_63 rfl lkV_RX10_265 (S_0 g15) (Nat.le_of_ble_eq_true rfl) (Nat.le_of_ble_eq_true rfl) (Nat.le_of_ble_eq_true rfl) (ct_x10_layAll g15 (S_65 g15)) (fun I16 => ?_)
          refine s_iload 0 dX10_drives_66 rfl rfl ?_
          exact s_iret dX10_drives_68 rfl (fun f h => h)
        · skip
          refine s_bipush (v := (-2)) dX10_drives_34 rfl cB_m2 ?_
          exact s_iret dX10_drives_36 rfl (fun f h => h)
noncomputable def x10_isSet (t : Nat) (p1 : Int32) (I : MI) : Option (Int32) :=
if p1 < 0 then (
some (0 : Int32)) else
if p1 < ((1 : Int32) <<< ((I t 4) &&& 31)) then (
some (1 : Int32)) else
some (0 : Int32)
theorem ct_x10_isSet {X : WX} {t : Nat} {p1 : Int32} {I : MI} {L : ML} {R : MR} {S : MS} (hK : okr R S) (ht : R 27 0 = some t ∧ isT t) : Ct X yX10_isSet cX10_isSet 2 (some .boolean) 0 0 [.ref (X.1 + 0), .int p1] (I, L, R, S) (x10_isSet t p1 I) (fun r => (some (.int r), (I, L, R, S))) := by
  refine Ct.of (by decide) (Nat.le_of_ble_eq_true rfl) [(0, .ref (X.1 + 0)), (1, .int p1)] rfl ?_
  unfold x10_isSet
  refine s_iload_n 1 dX10_isSet_0 rfl rfl ?_
  refine s_if_lt (tgt := 24) dX10_isSet_1 rfl rfl (fun _ => ?_) (fun _ => ?_)
  · skip
    refine s_iconst (v := 0) dX10_isSet_24 rfl cI_0 ?_
    exact s_zret dX10_isSet_25 rfl (Or.inl rfl) (fun f h => h)
  · skip
    refine s_iload_n 1 dX10_isSet_4 rfl rfl ?_
    refine s_iconst (v := 1) dX10_isSet_5 rfl cI_1 ?_
    refine s_aload_n 0 dX10_isSet_6 rfl rfl ?_
    refine s_getR 27 dX10_isSet_7 rfl fl_10_32 rfl (S_0 hK) (R_0_4 hK) ?_
    refine s_getR t dX10_isSet_10 rfl fl_10_87 rfl (S_27 hK) ht.1 ?_
    refine s_getI dX10_isSet_13 rfl fl_10_115 (tS_0 hK ht.2) ?_
    refine s_ishl dX10_isSet_16 rfl ?_
    refine s_icmp_ge (tgt := 24) dX10_isSet_17 rfl rfl (fun _ => ?_) (fun _ => ?_)
    · skip
      refine s_iconst (v := 0) dX10_isSet_24 rfl cI_0 ?_
      exact s_zret dX10_isSet_25 rfl (Or.inl rfl) (fun f h => h)
    · skip
      refine s_iconst (v := 1) dX10_isSet_20 rfl cI_1 ?_
      refine s_goto (tgt := 25) dX10_isSet_21 rfl ?_
      exact s_zret dX10_isSet_25 rfl (Or.inr rfl) (fun f h => h)
noncomputable def x10_afloatSet_L4s (t : Nat) (I : MI) (rec : Int32 → Int32 → Option (Int32)) (w1 : Int32) (w2 : Int32) : Option (Int32) :=
if w2 < (I t 4) then (
b1 (x10_isAfloat t w2 I) fun r3 =>
if r3 = 0 then (
lt (w2 + 1) fun v4 =>
rec w1 v4) else
lt (w1 ||| ((1 : Int32) <<< (w2 &&& 31))) fun v5 =>
lt (w2 + 1) fun v6 =>
rec v5 v6) else
some w1
noncomputable def x10_afloatSet_L4 (t : Nat) (I : MI) : Nat → Int32 → Int32 → Option (Int32)
  | 0 => fun _ _ => none
  | n + 1 => x10_afloatSet_L4s t I (x10_afloatSet_L4 t I n)
noncomputable def x10_afloatSet (t : Nat) (I : MI) : Option (Int32) :=
lt (0 : Int32) fun v1 =>
lt (0 : Int32) fun v2 =>
b1 (x10_afloatSet_L4 t I FU v1 v2) fun e7 =>
some e7
theorem x10_afloatSet_L4_ok {X : WX} {n0 s0 : Nat} {t : Nat} {I : MI} {L : ML} {R : MR} {S : MS} (hK : okr R S) (ht : R 27 0 = some t ∧ isT t) : ∀ (n : Nat) (w1 : Int32) (w2 : Int32), Sim X yX10_afloatSet cX10_afloatSet 3 (some .int) 2 42 n0 s0 4 [(0, .ref (X.1 + 0)), (1, .int w1), (2, .int w2)] [] (I, L, R, S) (x10_afloatSet_L4 t I n w1 w2) (fun b f => Ex X yX10_afloatSet cX10_afloatSet 3 (some .int) 2 42 n0 s0 38 [(1, .int b)] [] (I, L, R, S) f) := by
  intro n
  induction n with
  | zero =>
    intro w1 w2
    exact sm_none
  | succ n ih =>
    intro w1 w2
    change Sim _ _ _ _ _ _ _ _ _ _ _ _ _ (x10_afloatSet_L4s t I (x10_afloatSet_L4 t I n) w1 w2) _
    unfold x10_afloatSet_L4s
    refine s_iload_n 2 dX10_afloatSet_4 rfl rfl ?_
    refine s_aload_n 0 dX10_afloatSet_5 rfl rfl ?_
    refine s_getR 27 dX10_afloatSet_6 rfl fl_10_32 rfl (S_0 hK) (R_0_4 hK) ?_
    refine s_getR t dX10_afloatSet_9 rfl fl_10_87 rfl (S_27 hK) ht.1 ?_
    refine s_getI dX10_afloatSet_12 rfl fl_10_115 (tS_0 hK ht.2) ?_
    refine s_icmp_ge (tgt := 38) dX10_afloatSet_15 rfl rfl (fun _ => ?_) (fun _ => ?_)
    · skip
      refine s_pick [1] rfl ?_
      exact sm_exit (fun f h => h)
    · skip
      refine s_aload_n 0 dX10_afloatSet_18 rfl rfl ?_
      refine s_iload_n 2 dX10_afloatSet_19 rfl rfl ?_
      refine s_callV1_i0 dX10_afloatSet_20 rfl lkV_RX10_269 (S_0 hK) (Nat.le_of_ble_eq_true rfl) (Nat.le_of_ble_eq_true rfl) (Nat.le_of_ble_eq_true rfl) (ct_x10_isAfloat hK ht) (fun r3 => ?_)
      refine s_if_eq (tgt := 32) dX10_afloatSet_23 rfl rfl (fun _ => ?_) (fun _ => ?_)
      · skip
        refine s_iincL 2 (c := 1) (fun v4 => [(2, .int v4), (0, .ref (X.1 + 0)), (1, .int w1)]) dX10_afloatSet_32 rfl rfl cI_1 (by decide) (fun _ => rfl) (fun v4 => ?_)
        refine s_goto (tgt := 4) dX10_afloatSet_35 rfl ?_
        refine s_pick [1, 2, 0] rfl ?_
        exact ih w1 v4
      · skip
        refine s_iload_n 1 dX10_afloatSet_26 rfl rfl ?_
        refine s_iconst (v := 1) dX10_afloatSet_27 rfl cI_1 ?_
        refine s_iload_n 2 dX10_afloatSet_28 rfl rfl ?_
        refine s_ishl dX10_afloatSet_29 rfl ?_
        refine s_ior dX10_afloatSet_30 rfl ?_
        refine s_istore_nL (fun v5 => [(1, .int v5), (0, .ref (X.1 + 0)), (2, .int w2)]) dX10_afloatSet_31 rfl (by decide) (fun _ => rfl) (fun v5 => ?_)
        refine s_iincL 2 (c := 1) (fun v6 => [(2, .int v6), (1, .int v5), (0, .ref (X.1 + 0))]) dX10_afloatSet_32 rfl rfl cI_1 (by decide) (fun _ => rfl) (fun v6 => ?_)
        refine s_goto (tgt := 4) dX10_afloatSet_35 rfl ?_
        refine s_pick [2, 1, 0] rfl ?_
        exact ih v5 v6
theorem ct_x10_afloatSet {X : WX} {t : Nat} {I : MI} {L : ML} {R : MR} {S : MS} (hK : okr R S) (ht : R 27 0 = some t ∧ isT t) : Ct X yX10_afloatSet cX10_afloatSet 3 (some .int) 2 42 [.ref (X.1 + 0)] (I, L, R, S) (x10_afloatSet t I) (fun r => (some (.int r), (I, L, R, S))) := by
  refine Ct.of (by decide) (Nat.le_of_ble_eq_true rfl) [(0, .ref (X.1 + 0))] rfl ?_
  unfold x10_afloatSet
  refine s_iconst (v := 0) dX10_afloatSet_0 rfl cI_0 ?_
  refine s_istore_nL (fun v1 => [(1, .int v1), (0, .ref (X.1 + 0))]) dX10_afloatSet_1 rfl (by decide) (fun _ => rfl) (fun v1 => ?_)
  refine s_iconst (v := 0) dX10_afloatSet_2 rfl cI_0 ?_
  refine s_istore_nL (fun v2 => [(2, .int v2), (1, .int v1), (0, .ref (X.1 + 0))]) dX10_afloatSet_3 rfl (by decide) (fun _ => rfl) (fun v2 => ?_)
  refine s_pick [2, 1, 0] rfl ?_
  refine sm_reg (x10_afloatSet_L4_ok hK ht FU v1 v2) (fun e7 => ?_)
  refine s_iload_n 0 dX10_afloatSet_38 rfl rfl ?_
  exact s_iret dX10_afloatSet_39 rfl (fun f h => h)
noncomputable def x1_isEmpty_L2s (t : Nat) (q1 : Nat) (I : MI) (rec : Int32 → Option ((Unit) ⊕ (Int32))) (w2 : Int32) : Option ((Unit) ⊕ (Int32)) :=
if w2 < (I t 4) then (
ck (vp_in w2 10) <|
if (I (q1 + 3) (ix w2)) = (-1) then (
some (.inr (0 : Int32))) else
lt (w2 + 1) fun v3 =>
rec v3) else
some (.inl ())
noncomputable def x1_isEmpty_L2 (t : Nat) (q1 : Nat) (I : MI) : Nat → Int32 → Option ((Unit) ⊕ (Int32))
  | 0 => fun _ => none
  | n + 1 => x1_isEmpty_L2s t q1 I (x1_isEmpty_L2 t q1 I n)
noncomputable def x1_isEmpty (t : Nat) (q1 : Nat) (I : MI) : Option (Int32) :=
lt (0 : Int32) fun v1 =>
bE (x1_isEmpty_L2 t q1 I FU v1) fun e4 =>
some (1 : Int32)
theorem x1_isEmpty_L2_ok {X : WX} {n0 s0 : Nat} {t : Nat} {q1 : Nat} {I : MI} {L : ML} {R : MR} {S : MS} (hK : okr R S) (ht : R 27 0 = some t ∧ isT t) (hq1 : isSt R S q1) : ∀ (n : Nat) (w2 : Int32), Sim X yX1_isEmpty cX1_isEmpty 3 (some .boolean) 0 0 n0 s0 2 [(0, .ref (X.1 + 27)), (1, .ref (X.1 + q1)), (2, .int w2)] [] (I, L, R, S) (x1_isEmpty_L2 t q1 I n w2) (SE (fun b f => Ex X yX1_isEmpty cX1_isEmpty 3 (some .boolean) 0 0 n0 s0 31 [] [] (I, L, R, S) f) (fun a f => f = (fun r => (some (.int r), (I, L, R, S))) a)) := by
  intro n
  induction n with
  | zero =>
    intro w2
    exact sm_none
  | succ n ih =>
    intro w2
    change Sim _ _ _ _ _ _ _ _ _ _ _ _ _ (x1_isEmpty_L2s t q1 I (x1_isEmpty_L2 t q1 I n) w2) _
    unfold x1_isEmpty_L2s
    refine s_iload_n 2 dX1_isEmpty_2 rfl rfl ?_
    refine s_aload_n 0 dX1_isEmpty_3 rfl rfl ?_
    refine s_getR t dX1_isEmpty_4 rfl fl_1_17 rfl (S_27 hK) ht.1 ?_
    refine s_getI dX1_isEmpty_7 rfl fl_1_45 (tS_0 hK ht.2) ?_
    refine s_icmp_ge (tgt := 31) dX1_isEmpty_10 rfl rfl (fun _ => ?_) (fun _ => ?_)
    · skip
      refine s_pick [] rfl ?_
      exact sm_exit (fun f h => h)
    · skip
      refine s_aload_n 1 dX1_isEmpty_13 rfl rfl ?_
      refine s_getR (q1 + 3) dX1_isEmpty_14 rfl fl_1_51 rfl (qS_0 hq1) (qR_2 hq1) ?_
      refine s_iload_n 2 dX1_isEmpty_17 rfl rfl ?_
      refine sm_ck (fun g2 => ?_)
      refine s_iald dX1_isEmpty_18 rfl (qS_3 hq1) g2 ?_
      refine s_iconst (v := (-1)) dX1_isEmpty_19 rfl cI_m1 ?_
      refine s_icmp_ne (tgt := 25) dX1_isEmpty_20 rfl rfl (fun _ => ?_) (fun _ => ?_)
      · skip
        refine s_iincL 2 (c := 1) (fun v3 => [(2, .int v3), (0, .ref (X.1 + 27)), (1, .ref (X.1 + q1))]) dX1_isEmpty_25 rfl rfl cI_1 (by decide) (fun _ => rfl) (fun v3 => ?_)
        refine s_goto (tgt := 2) dX1_isEmpty_28 rfl ?_
        refine s_pick [1, 2, 0] rfl ?_
        exact ih v3
      · skip
        refine s_iconst (v := 0) dX1_isEmpty_23 rfl cI_0 ?_
        exact s_zret dX1_isEmpty_24 rfl (Or.inl rfl) (fun f h => h)
theorem ct_x1_isEmpty {X : WX} {t : Nat} {q1 : Nat} {I : MI} {L : ML} {R : MR} {S : MS} (hK : okr R S) (ht : R 27 0 = some t ∧ isT t) (hq1 : isSt R S q1) : Ct X yX1_isEmpty cX1_isEmpty 3 (some .boolean) 0 0 [.ref (X.1 + 27), .ref (X.1 + q1)] (I, L, R, S) (x1_isEmpty t q1 I) (fun r => (some (.int r), (I, L, R, S))) := by
  refine Ct.of (by decide) (Nat.le_of_ble_eq_true rfl) [(0, .ref (X.1 + 27)), (1, .ref (X.1 + q1))] rfl ?_
  unfold x1_isEmpty
  refine s_iconst (v := 0) dX1_isEmpty_0 rfl cI_0 ?_
  refine s_istore_nL (fun v1 => [(2, .int v1), (0, .ref (X.1 + 27)), (1, .ref (X.1 + q1))]) dX1_isEmpty_1 rfl (by decide) (fun _ => rfl) (fun v1 => ?_)
  refine s_pick [1, 2, 0] rfl ?_
  refine sm_regE (x1_isEmpty_L2_ok hK ht hq1 FU v1) (fun e4 => ?_)
  refine s_iconst (v := 1) dX1_isEmpty_31 rfl cI_1 ?_
  exact s_zret dX1_isEmpty_32 rfl (Or.inr rfl) (fun f h => h)
noncomputable def x9_goneWith_L11s (t : Nat) (q1 : Nat) (c2 : Int32) (rec : Int32 → MI → Option (MI)) (w4 : Int32) (I : MI) : Option (MI) :=
if w4 < (I t 4) then (
if ((c2 >>> (w4 &&& 31)) &&& 1) = 0 then (
ck (vp_in w4 10) <|
lt (wI I 70 (ix w4) (9 : Int32)) fun I4 =>
lt (w4 + 1) fun v6 =>
rec v6 I4) else
lt (w4 + 1) fun v3 =>
rec v3 I) else
some I
noncomputable def x9_goneWith_L11 (t : Nat) (q1 : Nat) (c2 : Int32) : Nat → Int32 → MI → Option (MI)
  | 0 => fun _ _ => none
  | n + 1 => x9_goneWith_L11s t q1 c2 (x9_goneWith_L11 t q1 c2 n)
noncomputable def x9_goneWith_L56s (t : Nat) (q1 : Nat) (c3 : Int32) (rec : Int32 → MI → Option ((MI) ⊕ (Int32 × MI))) (w4 : Int32) (I : MI) : Option ((MI) ⊕ (Int32 × MI)) :=
if c3 < w4 then (
some (.inl I)) else
b1 (x1_isEmpty t 67 I) fun r9 =>
if r9 = 0 then (
if w4 < c3 then (
b2 (x1_turnOfAll t 67 I) fun r11 I12 =>
lt (w4 + 1) fun v13 =>
rec v13 I12) else
lt (w4 + 1) fun v10 =>
rec v10 I) else
some (.inr (w4, I))
noncomputable def x9_goneWith_L56 (t : Nat) (q1 : Nat) (c3 : Int32) : Nat → Int32 → MI → Option ((MI) ⊕ (Int32 × MI))
  | 0 => fun _ _ => none
  | n + 1 => x9_goneWith_L56s t q1 c3 (x9_goneWith_L56 t q1 c3 n)
noncomputable def x9_goneWith (t : Nat) (q1 : Nat) (p2 : Int32) (p3 : Int32) (I : MI) : Option (Int32 × MI) :=
b1 (x7_copyPlay 67 q1 I) fun I1 =>
lt (0 : Int32) fun v2 =>
b1 (x9_goneWith_L11 t q1 p2 FU v2 I1) fun e7 =>
lt (0 : Int32) fun v8 =>
bE (x9_goneWith_L56 t q1 p3 FU v8 e7) fun e14 =>
some ((-1 : Int32), e14)
theorem x9_goneWith_L11_ok {X : WX} {n0 s0 : Nat} {t : Nat} {q1 : Nat} {c2 : Int32} {c3 : Int32} {L : ML} {R : MR} {S : MS} (hK : okr R S) (ht : R 27 0 = some t ∧ isT t) (hq1 : isSt R S q1) : ∀ (n : Nat) (w4 : Int32) (I : MI), Sim X yX9_goneWith cX9_goneWith 5 (some .int) 6 150 n0 s0 11 [(0, .ref (X.1 + 66)), (2, .int c2), (3, .int c3), (4, .int w4)] [] (I, L, R, S) (x9_goneWith_L11 t q1 c2 n w4 I) (fun b f => Ex X yX9_goneWith cX9_goneWith 5 (some .int) 6 150 n0 s0 53 [(0, .ref (X.1 + 66)), (3, .int c3)] [] (b, L, R, S) f) := by
  intro n
  induction n with
  | zero =>
    intro w4 I
    exact sm_none
  | succ n ih =>
    intro w4 I
    change Sim _ _ _ _ _ _ _ _ _ _ _ _ _ (x9_goneWith_L11s t q1 c2 (x9_goneWith_L11 t q1 c2 n) w4 I) _
    unfold x9_goneWith_L11s
    refine s_iload 3 dX9_goneWith_11 rfl rfl ?_
    refine s_aload_n 0 dX9_goneWith_13 rfl rfl ?_
    refine s_getR 27 dX9_goneWith_14 rfl fl_9_31 rfl (S_66 hK) (R_66_0 hK) ?_
    refine s_getR t dX9_goneWith_17 rfl fl_9_45 rfl (S_27 hK) ht.1 ?_
    refine s_getI dX9_goneWith_20 rfl fl_9_112 (tS_0 hK ht.2) ?_
    refine s_icmp_ge (tgt := 53) dX9_goneWith_23 rfl rfl (fun _ => ?_) (fun _ => ?_)
    · skip
      refine s_pick [0, 2] rfl ?_
      exact sm_exit (fun f h => h)
    · skip
      refine s_iload_n 1 dX9_goneWith_26 rfl rfl ?_
      refine s_iload 3 dX9_goneWith_27 rfl rfl ?_
      refine s_ishr dX9_goneWith_29 rfl ?_
      refine s_iconst (v := 1) dX9_goneWith_30 rfl cI_1 ?_
      refine s_iand dX9_goneWith_31 rfl ?_
      refine s_if_ne (tgt := 47) dX9_goneWith_32 rfl rfl (fun _ => ?_) (fun _ => ?_)
      · skip
        refine s_iincL 3 (c := 1) (fun v3 => [(4, .int v3), (0, .ref (X.1 + 66)), (2, .int c2), (3, .int c3)]) dX9_goneWith_47 rfl rfl cI_1 (by decide) (fun _ => rfl) (fun v3 => ?_)
        refine s_goto (tgt := 11) dX9_goneWith_50 rfl ?_
        refine s_pick [1, 2, 3, 0] rfl ?_
        exact ih v3 I
      · skip
        refine s_aload_n 0 dX9_goneWith_35 rfl rfl ?_
        refine s_getR 67 dX9_goneWith_36 rfl fl_9_12 rfl (S_66 hK) (R_66_1 hK) ?_
        refine s_getR 70 dX9_goneWith_39 rfl fl_9_115 rfl (S_67 hK) (R_67_2 hK) ?_
        refine s_iload 3 dX9_goneWith_42 rfl rfl ?_
        refine s_bipush (v := 9) dX9_goneWith_44 rfl cB_9 ?_
        refine sm_ck (fun g5 => ?_)
        refine s_iastL dX9_goneWith_46 rfl (S_70 hK) g5 (fun I4 => ?_)
        refine s_iincL 3 (c := 1) (fun v6 => [(4, .int v6), (0, .ref (X.1 + 66)), (2, .int c2), (3, .int c3)]) dX9_goneWith_47 rfl rfl cI_1 (by decide) (fun _ => rfl) (fun v6 => ?_)
        refine s_goto (tgt := 11) dX9_goneWith_50 rfl ?_
        refine s_pick [1, 2, 3, 0] rfl ?_
        exact ih v6 I4
theorem x9_goneWith_L56_ok {X : WX} {n0 s0 : Nat} {t : Nat} {q1 : Nat} {c3 : Int32} {L : ML} {R : MR} {S : MS} (hK : okr R S) (ht : R 27 0 = some t ∧ isT t) (hq1 : isSt R S q1) : ∀ (n : Nat) (w4 : Int32) (I : MI), Sim X yX9_goneWith cX9_goneWith 5 (some .int) 6 150 n0 s0 56 [(0, .ref (X.1 + 66)), (3, .int c3), (4, .int w4)] [] (I, L, R, S) (x9_goneWith_L56 t q1 c3 n w4 I) (SE (fun b f => Ex X yX9_goneWith cX9_goneWith 5 (some .int) 6 150 n0 s0 103 [] [] (b, L, R, S) f) (fun a f => f = (fun r => (some (.int r.1), (r.2, L, R, S))) a)) := by
  intro n
  induction n with
  | zero =>
    intro w4 I
    exact sm_none
  | succ n ih =>
    intro w4 I
    change Sim _ _ _ _ _ _ _ _ _ _ _ _ _ (x9_goneWith_L56s t q1 c3 (x9_goneWith_L56 t q1 c3 n) w4 I) _
    unfold x9_goneWith_L56s
    refine s_iload 2 dX9_goneWith_56 rfl rfl ?_
    refine s_iload_n 1 dX9_goneWith_58 rfl rfl ?_
    refine s_icmp_gt (tgt := 103) dX9_goneWith_59 rfl rfl (fun _ => ?_) (fun _ => ?_)
    · skip
      refine s_pick [] rfl ?_
      exact sm_exit (fun f h => h)
    · skip
      refine s_aload_n 0 dX9_goneWith_62 rfl rfl ?_
      refine s_getR 27 dX9_goneWith_63 rfl fl_9_31 rfl (S_66 hK) (R_66_0 hK) ?_
      refine s_aload_n 0 dX9_goneWith_66 rfl rfl ?_
      refine s_getR 67 dX9_goneWith_67 rfl fl_9_12 rfl (S_66 hK) (R_66_1 hK) ?_
      refine s_callV1_i0 dX9_goneWith_70 rfl lkV_RX9_118 (S_27 hK) (Nat.le_of_ble_eq_true rfl) (Nat.le_of_ble_eq_true rfl) (Nat.le_of_ble_eq_true rfl) (ct_x1_isEmpty hK ht (st_67 hK)) (fun r9 => ?_)
      refine s_if_eq (tgt := 79) dX9_goneWith_73 rfl rfl (fun _ => ?_) (fun _ => ?_)
      · skip
        refine s_iload 2 dX9_goneWith_79 rfl rfl ?_
        refine s_iload_n 1 dX9_goneWith_81 rfl rfl ?_
        refine s_icmp_ge (tgt := 97) dX9_goneWith_82 rfl rfl (fun _ => ?_) (fun _ => ?_)
        · skip
          refine s_iincL 2 (c := 1) (fun v10 => [(4, .int v10), (0, .ref (X.1 + 66)), (3, .int c3)]) dX9_goneWith_97 rfl rfl cI_1 (by decide) (fun _ => rfl) (fun v10 => ?_)
          refine s_goto (tgt := 56) dX9_goneWith_100 rfl ?_
          refine s_pick [1, 2, 0] rfl ?_
          exact ih v10 I
        · skip
          refine s_aload_n 0 dX9_goneWith_85 rfl rfl ?_
          refine s_getR 27 dX9_goneWith_86 rfl fl_9_31 rfl (S_66 hK) (R_66_0 hK) ?_
          refine s_aload_n 0 dX9_goneWith_89 rfl rfl ?_
          refine s_getR 67 dX9_goneWith_90 rfl fl_9_12 rfl (S_66 hK) (R_66_1 hK) ?_
          refine s_callV1_i1 dX9_goneWith_93 rfl lkV_RX9_122 (S_27 hK) (Nat.le_of_ble_eq_true rfl) (Nat.le_of_ble_eq_true rfl) (Nat.le_of_ble_eq_true rfl) (ct_x1_turnOfAll hK ht (st_67 hK)) (fun r11 I12 => ?_)
          refine s_pop dX9_goneWith_96 rfl rfl ?_
          refine s_iincL 2 (c := 1) (fun v13 => [(4, .int v13), (0, .ref (X.1 + 66)), (3, .int c3)]) dX9_goneWith_97 rfl rfl cI_1 (by decide) (fun _ => rfl) (fun v13 => ?_)
          refine s_goto (tgt := 56) dX9_goneWith_100 rfl ?_
          refine s_pick [1, 2, 0] rfl ?_
          exact ih v13 I12
      · skip
        refine s_iload 2 dX9_goneWith_76 rfl rfl ?_
        exact s_iret dX9_goneWith_78 rfl (fun f h => h)
theorem ct_x9_goneWith {X : WX} {t : Nat} {q1 : Nat} {p2 : Int32} {p3 : Int32} {I : MI} {L : ML} {R : MR} {S : MS} (hK : okr R S) (ht : R 27 0 = some t ∧ isT t) (hq1 : isSt R S q1) : Ct X yX9_goneWith cX9_goneWith 5 (some .int) 6 150 [.ref (X.1 + 66), .ref (X.1 + q1), .int p2, .int p3] (I, L, R, S) (x9_goneWith t q1 p2 p3 I) (fun r => (some (.int r.1), (r.2, L, R, S))) := by
  refine Ct.of (by decide) (Nat.le_of_ble_eq_true rfl) [(0, .ref (X.1 + 66)), (1, .ref (X.1 + q1)), (2, .int p2), (3, .int p3)] rfl ?_
  unfold x9_goneWith
  refine s_aload_n 0 dX9_goneWith_0 rfl rfl ?_
  refine s_getR 67 dX9_goneWith_1 rfl fl_9_12 rfl (S_66 hK) (R_66_1 hK) ?_
  refine s_aload_n 1 dX9_goneWith_4 rfl rfl ?_
  refine s_callV1_v1 dX9_goneWith_5 rfl lkV_RX9_35 (S_67 hK) (Nat.le_of_ble_eq_true rfl) (Nat.le_of_ble_eq_true rfl) (Nat.le_of_ble_eq_true rfl) (ct_x7_copyPlay hK (st_67 hK) hq1) (fun I1 => ?_)
  refine s_iconst (v := 0) dX9_goneWith_8 rfl cI_0 ?_
  refine s_istoreL (fun v2 => [(4, .int v2), (0, .ref (X.1 + 66)), (1, .ref (X.1 + q1)), (2, .int p2), (3, .int p3)]) dX9_goneWith_9 rfl (by decide) (fun _ => rfl) (fun v2 => ?_)
  refine s_pick [1, 3, 4, 0] rfl ?_
  refine sm_reg (x9_goneWith_L11_ok hK ht hq1 FU v2 I1) (fun e7 => ?_)
  refine s_iconst (v := 0) dX9_goneWith_53 rfl cI_0 ?_
  refine s_istoreL (fun v8 => [(4, .int v8), (0, .ref (X.1 + 66)), (3, .int p3)]) dX9_goneWith_54 rfl (by decide) (fun _ => rfl) (fun v8 => ?_)
  refine s_pick [1, 2, 0] rfl ?_
  refine sm_regE (x9_goneWith_L56_ok hK ht hq1 FU v8 e7) (fun e14 => ?_)
  refine s_iconst (v := (-1)) dX9_goneWith_103 rfl cI_m1 ?_
  exact s_iret dX9_goneWith_104 rfl (fun f h => h)
noncomputable def x10_gone (t : Nat) (p1 : Int32) (I : MI) : Option (Int32 × MI) :=
b1 (x10_isSet t p1 I) fun r1 =>
if r1 = 0 then (
some ((-2 : Int32), I)) else
b1 (x10_afloatSet t I) fun r2 =>
if (p1 &&& (r2 ^^^ (-1))) = 0 then (
b2 (x9_goneWith t 47 p1 (60 : Int32) I) fun r3 I4 =>
some (r3, I4)) else
some ((-2 : Int32), I)
theorem ct_x10_gone {X : WX} {t : Nat} {p1 : Int32} {I : MI} {L : ML} {R : MR} {S : MS} (hK : okr R S) (ht : R 27 0 = some t ∧ isT t) : Ct X yX10_gone cX10_gone 2 (some .int) 7 174 [.ref (X.1 + 0), .int p1] (I, L, R, S) (x10_gone t p1 I) (fun r => (some (.int r.1), (r.2, L, R, S))) := by
  refine Ct.of (by decide) (Nat.le_of_ble_eq_true rfl) [(0, .ref (X.1 + 0)), (1, .int p1)] rfl ?_
  unfold x10_gone
  refine s_aload_n 0 dX10_gone_0 rfl rfl ?_
  refine s_iload_n 1 dX10_gone_1 rfl rfl ?_
  refine s_callV1_i0 dX10_gone_2 rfl lkV_RX10_278 (S_0 hK) (Nat.le_of_ble_eq_true rfl) (Nat.le_of_ble_eq_true rfl) (Nat.le_of_ble_eq_true rfl) (ct_x10_isSet hK ht) (fun r1 => ?_)
  refine s_if_eq (tgt := 19) dX10_gone_5 rfl rfl (fun _ => ?_) (fun _ => ?_)
  · skip
    refine s_bipush (v := (-2)) dX10_gone_19 rfl cB_m2 ?_
    exact s_iret dX10_gone_21 rfl (fun f h => h)
  · skip
    refine s_iload_n 1 dX10_gone_8 rfl rfl ?_
    refine s_aload_n 0 dX10_gone_9 rfl rfl ?_
    refine s_callV0_i0 dX10_gone_10 rfl lkV_RX10_281 (S_0 hK) (Nat.le_of_ble_eq_true rfl) (Nat.le_of_ble_eq_true rfl) (Nat.le_of_ble_eq_true rfl) (ct_x10_afloatSet hK ht) (fun r2 => ?_)
    refine s_iconst (v := (-1)) dX10_gone_13 rfl cI_m1 ?_
    refine s_ixor dX10_gone_14 rfl ?_
    refine s_iand dX10_gone_15 rfl ?_
    refine s_if_eq (tgt := 22) dX10_gone_16 rfl rfl (fun _ => ?_) (fun _ => ?_)
    · skip
      refine s_aload_n 0 dX10_gone_22 rfl rfl ?_
      refine s_getR 66 dX10_gone_23 rfl fl_10_70 rfl (S_0 hK) (R_0_10 hK) ?_
      refine s_aload_n 0 dX10_gone_26 rfl rfl ?_
      refine s_getR 47 dX10_gone_27 rfl fl_10_39 rfl (S_0 hK) (R_0_5 hK) ?_
      refine s_iload_n 1 dX10_gone_30 rfl rfl ?_
      refine s_bipush (v := 60) dX10_gone_31 rfl cB_60 ?_
      refine s_callV3_i1 dX10_gone_33 rfl lkV_RX10_285 (S_66 hK) (Nat.le_of_ble_eq_true rfl) (Nat.le_of_ble_eq_true rfl) (Nat.le_of_ble_eq_true rfl) (ct_x9_goneWith hK ht (st_47 hK)) (fun r3 I4 => ?_)
      exact s_iret dX10_gone_36 rfl (fun f h => h)
    · skip
      refine s_bipush (v := (-2)) dX10_gone_19 rfl cB_m2 ?_
      exact s_iret dX10_gone_21 rfl (fun f h => h)
noncomputable def x10_provide_L48s (t : Nat) (c1 : Int32) (c2 : Int32) (c3 : Int32) (c4 : Int32) (rec : Int32 → MI → Option ((MI) ⊕ (Int32 × MI))) (w5 : Int32) (I : MI) : Option ((MI) ⊕ (Int32 × MI)) :=
if c3 < w5 then (
some (.inl I)) else
b1 (
if (w5 &&& (c3 ^^^ (-1))) = 0 then (
b1 (j6_bitCount_0f7a4 w5 I) fun r6 =>
if r6 = c4 then (
some (1 : Int32)) else
some (0 : Int32)) else
some (0 : Int32)) fun e5 =>
lt e5 fun v7 =>
if v7 = 0 then (
lt (w5 + 1) fun v8 =>
rec v8 I) else
b2 (x9_goneWith t 47 w5 c1 I) fun r9 I10 =>
if r9 = (-1) then (
if c2 = 0 then (
some (.inr (c4, I10))) else
some (.inr (w5, I10))) else
lt (w5 + 1) fun v11 =>
rec v11 I10
noncomputable def x10_provide_L48 (t : Nat) (c1 : Int32) (c2 : Int32) (c3 : Int32) (c4 : Int32) : Nat → Int32 → MI → Option ((MI) ⊕ (Int32 × MI))
  | 0 => fun _ _ => none
  | n + 1 => x10_provide_L48s t c1 c2 c3 c4 (x10_provide_L48 t c1 c2 c3 c4 n)
noncomputable def x10_provide_L30s (t : Nat) (c1 : Int32) (c2 : Int32) (c3 : Int32) (rec : Int32 → MI → Option ((MI) ⊕ (Int32 × MI))) (w4 : Int32) (I : MI) : Option ((MI) ⊕ (Int32 × MI)) :=
if (I t 4) < w4 then (
some (.inl I)) else
lt (1 : Int32) fun v4 =>
bF (x10_provide_L48 t c1 c2 c3 w4 FU v4 I) fun e12 =>
lt (w4 + 1) fun v13 =>
rec v13 e12
noncomputable def x10_provide_L30 (t : Nat) (c1 : Int32) (c2 : Int32) (c3 : Int32) : Nat → Int32 → MI → Option ((MI) ⊕ (Int32 × MI))
  | 0 => fun _ _ => none
  | n + 1 => x10_provide_L30s t c1 c2 c3 (x10_provide_L30 t c1 c2 c3 n)
noncomputable def x10_provide (t : Nat) (p1 : Int32) (p2 : Int32) (I : MI) : Option (Int32 × MI) :=
if p1 < 1 then (
some ((-1 : Int32), I)) else
if 60 < p1 then (
some ((-1 : Int32), I)) else
if p2 < 0 then (
some ((-1 : Int32), I)) else
if 1 < p2 then (
some ((-1 : Int32), I)) else
b1 (x10_afloatSet t I) fun r1 =>
lt r1 fun v2 =>
lt (1 : Int32) fun v3 =>
bE (x10_provide_L30 t p1 p2 v2 FU v3 I) fun e14 =>
some ((-1 : Int32), e14)
theorem x10_provide_L48_ok {X : WX} {n0 s0 : Nat} {t : Nat} {c1 : Int32} {c2 : Int32} {c3 : Int32} {c4 : Int32} {L : ML} {R : MR} {S : MS} (hK : okr R S) (ht : R 27 0 = some t ∧ isT t) : ∀ (n : Nat) (w5 : Int32) (I : MI), Sim X yX10_provide cX10_provide 7 (some .int) 7 174 n0 s0 48 [(0, .ref (X.1 + 0)), (1, .int c1), (2, .int c2), (3, .int c3), (4, .int c4), (5, .int w5)] [] (I, L, R, S) (x10_provide_L48 t c1 c2 c3 c4 n w5 I) (SE (fun b f => Ex X yX10_provide cX10_provide 7 (some .int) 7 174 n0 s0 121 [(0, .ref (X.1 + 0)), (1, .int c1), (2, .int c2), (3, .int c3), (4, .int c4)] [] (b, L, R, S) f) (fun a f => f = (fun r => (some (.int r.1), (r.2, L, R, S))) a)) := by
  intro n
  induction n with
  | zero =>
    intro w5 I
    exact sm_none
  | succ n ih =>
    intro w5 I
    change Sim _ _ _ _ _ _ _ _ _ _ _ _ _ (x10_provide_L48s t c1 c2 c3 c4 (x10_provide_L48 t c1 c2 c3 c4 n) w5 I) _
    unfold x10_provide_L48s
    refine s_iload 5 dX10_provide_48 rfl rfl ?_
    refine s_iload_n 3 dX10_provide_50 rfl rfl ?_
    refine s_icmp_gt (tgt := 121) dX10_provide_51 rfl rfl (fun _ => ?_) (fun _ => ?_)
    · skip
      refine s_pick [0, 1, 2, 3, 4] rfl ?_
      exact sm_exit (fun f h => h)
    · skip
      refine s_iload 5 dX10_provide_54 rfl rfl ?_
      refine s_iload_n 3 dX10_provide_56 rfl rfl ?_
      refine s_iconst (v := (-1)) dX10_provide_57 rfl cI_m1 ?_
      refine s_ixor dX10_provide_58 rfl ?_
      refine s_iand dX10_provide_59 rfl ?_
      refine sm_reg (pcx := 78) (lsx := fun e5 => [(0, .ref (X.1 + 0)), (1, .int c1), (2, .int c2), (3, .int c3), (4, .int c4), (5, .int w5)]) (stx := fun e5 => [.int e5]) (ux := fun e5 => (I, L, R, S)) ?_ (fun e5 => ?_)
      · skip
        refine s_if_ne (tgt := 77) dX10_provide_60 rfl rfl (fun _ => ?_) (fun _ => ?_)
        · skip
          refine s_iconst (v := 0) dX10_provide_77 rfl cI_0 ?_
          exact sm_exit (fun f h => h)
        · skip
          refine s_iload 5 dX10_provide_63 rfl rfl ?_
          refine s_callS1_i0 dX10_provide_65 rfl lkS_RX10_288 (Nat.le_of_ble_eq_true rfl) (Nat.le_of_ble_eq_true rfl) (Nat.le_of_ble_eq_true rfl) ct_j6_bitCount_0f7a4 (fun r6 => ?_)
          refine s_iload 4 dX10_provide_68 rfl rfl ?_
          refine s_icmp_ne (tgt := 77) dX10_provide_70 rfl rfl (fun _ => ?_) (fun _ => ?_)
          · skip
            refine s_iconst (v := 0) dX10_provide_77 rfl cI_0 ?_
            exact sm_exit (fun f h => h)
          · skip
            refine s_iconst (v := 1) dX10_provide_73 rfl cI_1 ?_
            refine s_goto (tgt := 78) dX10_provide_74 rfl ?_
            exact sm_exit (fun f h => h)
      · skip
        refine s_istoreL (fun v7 => [(6, .int v7), (0, .ref (X.1 + 0)), (1, .int c1), (2, .int c2), (3, .int c3), (4, .int c4), (5, .int w5)]) dX10_provide_78 rfl (by decide) (fun _ => rfl) (fun v7 => ?_)
        refine s_iload 0 dX10_provide_80 rfl rfl ?_
        refine s_if_eq (tgt := 115) dX10_provide_82 rfl rfl (fun _ => ?_) (fun _ => ?_)
        · skip
          refine s_iincL 6 (c := 1) (fun v8 => [(5, .int v8), (6, .int v7), (0, .ref (X.1 + 0)), (1, .int c1), (2, .int c2), (3, .int c3), (4, .int c4)]) dX10_provide_115 rfl rfl cI_1 (by decide) (fun _ => rfl) (fun v8 => ?_)
          refine s_goto (tgt := 48) dX10_provide_118 rfl ?_
          refine s_pick [2, 3, 4, 5, 6, 0] rfl ?_
          exact ih v8 I
        · skip
          refine s_aload_n 1 dX10_provide_85 rfl rfl ?_
          refine s_getR 66 dX10_provide_86 rfl fl_10_70 rfl (S_0 hK) (R_0_10 hK) ?_
          refine s_aload_n 1 dX10_provide_89 rfl rfl ?_
          refine s_getR 47 dX10_provide_90 rfl fl_10_39 rfl (S_0 hK) (R_0_5 hK) ?_
          refine s_iload 6 dX10_provide_93 rfl rfl ?_
          refine s_iload_n 2 dX10_provide_95 rfl rfl ?_
          refine s_callV3_i1 dX10_provide_96 rfl lkV_RX10_285 (S_66 hK) (Nat.le_of_ble_eq_true rfl) (Nat.le_of_ble_eq_true rfl) (Nat.le_of_ble_eq_true rfl) (ct_x9_goneWith hK ht (st_47 hK)) (fun r9 I10 => ?_)
          refine s_iconst (v := (-1)) dX10_provide_99 rfl cI_m1 ?_
          refine s_icmp_ne (tgt := 115) dX10_provide_100 rfl rfl (fun _ => ?_) (fun _ => ?_)
          · skip
            refine s_iincL 6 (c := 1) (fun v11 => [(5, .int v11), (6, .int v7), (0, .ref (X.1 + 0)), (1, .int c1), (2, .int c2), (3, .int c3), (4, .int c4)]) dX10_provide_115 rfl rfl cI_1 (by decide) (fun _ => rfl) (fun v11 => ?_)
            refine s_goto (tgt := 48) dX10_provide_118 rfl ?_
            refine s_pick [2, 3, 4, 5, 6, 0] rfl ?_
            exact ih v11 I10
          · skip
            refine s_iload_n 3 dX10_provide_103 rfl rfl ?_
            refine s_if_ne (tgt := 112) dX10_provide_104 rfl rfl (fun _ => ?_) (fun _ => ?_)
            · skip
              refine s_iload 6 dX10_provide_112 rfl rfl ?_
              exact s_iret dX10_provide_114 rfl (fun f h => h)
            · skip
              refine s_iload 5 dX10_provide_107 rfl rfl ?_
              refine s_goto (tgt := 114) dX10_provide_109 rfl ?_
              exact s_iret dX10_provide_114 rfl (fun f h => h)
theorem x10_provide_L30_ok {X : WX} {n0 s0 : Nat} {t : Nat} {c1 : Int32} {c2 : Int32} {c3 : Int32} {L : ML} {R : MR} {S : MS} (hK : okr R S) (ht : R 27 0 = some t ∧ isT t) : ∀ (n : Nat) (w4 : Int32) (I : MI), Sim X yX10_provide cX10_provide 7 (some .int) 7 174 n0 s0 30 [(0, .ref (X.1 + 0)), (1, .int c1), (2, .int c2), (3, .int c3), (4, .int w4)] [] (I, L, R, S) (x10_provide_L30 t c1 c2 c3 n w4 I) (SE (fun b f => Ex X yX10_provide cX10_provide 7 (some .int) 7 174 n0 s0 127 [] [] (b, L, R, S) f) (fun a f => f = (fun r => (some (.int r.1), (r.2, L, R, S))) a)) := by
  intro n
  induction n with
  | zero =>
    intro w4 I
    exact sm_none
  | succ n ih =>
    intro w4 I
    change Sim _ _ _ _ _ _ _ _ _ _ _ _ _ (x10_provide_L30s t c1 c2 c3 (x10_provide_L30 t c1 c2 c3 n) w4 I) _
    unfold x10_provide_L30s
    refine s_iload 4 dX10_provide_30 rfl rfl ?_
    refine s_aload_n 0 dX10_provide_32 rfl rfl ?_
    refine s_getR 27 dX10_provide_33 rfl fl_10_32 rfl (S_0 hK) (R_0_4 hK) ?_
    refine s_getR t dX10_provide_36 rfl fl_10_87 rfl (S_27 hK) ht.1 ?_
    refine s_getI dX10_provide_39 rfl fl_10_115 (tS_0 hK ht.2) ?_
    refine s_icmp_gt (tgt := 127) dX10_provide_42 rfl rfl (fun _ => ?_) (fun _ => ?_)
    · skip
      refine s_pick [] rfl ?_
      exact sm_exit (fun f h => h)
    · skip
      refine s_iconst (v := 1) dX10_provide_45 rfl cI_1 ?_
      refine s_istoreL (fun v4 => [(5, .int v4), (0, .ref (X.1 + 0)), (1, .int c1), (2, .int c2), (3, .int c3), (4, .int w4)]) dX10_provide_46 rfl (by decide) (fun _ => rfl) (fun v4 => ?_)
      refine s_pick [1, 2, 3, 4, 5, 0] rfl ?_
      refine sm_regF (x10_provide_L48_ok hK ht FU v4 I) (fun e12 => ?_)
      refine s_iincL 4 (c := 1) (fun v13 => [(4, .int v13), (0, .ref (X.1 + 0)), (1, .int c1), (2, .int c2), (3, .int c3)]) dX10_provide_121 rfl rfl cI_1 (by decide) (fun _ => rfl) (fun v13 => ?_)
      refine s_goto (tgt := 30) dX10_provide_124 rfl ?_
      refine s_pick [1, 2, 3, 4, 0] rfl ?_
      exact ih v13 e12
theorem ct_x10_provide {X : WX} {t : Nat} {p1 : Int32} {p2 : Int32} {I : MI} {L : ML} {R : MR} {S : MS} (hK : okr R S) (ht : R 27 0 = some t ∧ isT t) : Ct X yX10_provide cX10_provide 7 (some .int) 7 174 [.ref (X.1 + 0), .int p1, .int p2] (I, L, R, S) (x10_provide t p1 p2 I) (fun r => (some (.int r.1), (r.2, L, R, S))) := by
  refine Ct.of (by decide) (Nat.le_of_ble_eq_true rfl) [(0, .ref (X.1 + 0)), (1, .int p1), (2, .int p2)] rfl ?_
  unfold x10_provide
  refine s_iload_n 1 dX10_provide_0 rfl rfl ?_
  refine s_iconst (v := 1) dX10_provide_1 rfl cI_1 ?_
  refine s_icmp_lt (tgt := 20) dX10_provide_2 rfl rfl (fun _ => ?_) (fun _ => ?_)
  · skip
    refine s_iconst (v := (-1)) dX10_provide_20 rfl cI_m1 ?_
    exact s_iret dX10_provide_21 rfl (fun f h => h)
  · skip
    refine s_iload_n 1 dX10_provide_5 rfl rfl ?_
    refine s_bipush (v := 60) dX10_provide_6 rfl cB_60 ?_
    refine s_icmp_gt (tgt := 20) dX10_provide_8 rfl rfl (fun _ => ?_) (fun _ => ?_)
    · skip
      refine s_iconst (v := (-1)) dX10_provide_20 rfl cI_m1 ?_
      exact s_iret dX10_provide_21 rfl (fun f h => h)
    · skip
      refine s_iload_n 2 dX10_provide_11 rfl rfl ?_
      refine s_if_lt (tgt := 20) dX10_provide_12 rfl rfl (fun _ => ?_) (fun _ => ?_)
      · skip
        refine s_iconst (v := (-1)) dX10_provide_20 rfl cI_m1 ?_
        exact s_iret dX10_provide_21 rfl (fun f h => h)
      · skip
        refine s_iload_n 2 dX10_provide_15 rfl rfl ?_
        refine s_iconst (v := 1) dX10_provide_16 rfl cI_1 ?_
        refine s_icmp_le (tgt := 22) dX10_provide_17 rfl rfl (fun _ => ?_) (fun _ => ?_)
        · skip
          refine s_aload_n 0 dX10_provide_22 rfl rfl ?_
          refine s_callV0_i0 dX10_provide_23 rfl lkV_RX10_281 (S_0 hK) (Nat.le_of_ble_eq_true rfl) (Nat.le_of_ble_eq_true rfl) (Nat.le_of_ble_eq_true rfl) (ct_x10_afloatSet hK ht) (fun r1 => ?_)
          refine s_istore_nL (fun v2 => [(3, .int v2), (0, .ref (X.1 + 0)), (1, .int p1), (2, .int p2)]) dX10_provide_26 rfl (by decide) (fun _ => rfl) (fun v2 => ?_)
          refine s_iconst (v := 1) dX10_provide_27 rfl cI_1 ?_
          refine s_istoreL (fun v3 => [(4, .int v3), (3, .int v2), (0, .ref (X.1 + 0)), (1, .int p1), (2, .int p2)]) dX10_provide_28 rfl (by decide) (fun _ => rfl) (fun v3 => ?_)
          refine s_pick [2, 3, 4, 1, 0] rfl ?_
          refine sm_regE (x10_provide_L30_ok hK ht FU v3 I) (fun e14 => ?_)
          refine s_iconst (v := (-1)) dX10_provide_127 rfl cI_m1 ?_
          exact s_iret dX10_provide_128 rfl (fun f h => h)
        · skip
          refine s_iconst (v := (-1)) dX10_provide_20 rfl cI_m1 ?_
          exact s_iret dX10_provide_21 rfl (fun f h => h)
noncomputable def x4_isKnown (p1 : Int32) (p2 : Int32) (I : MI) : Option (Int32) :=
ck (vp_in p1 30) <|
if p2 < (I 87 (ix p1)) then (
some (0 : Int32)) else
ck (vp_in p1 30) <|
if (I 88 (ix p1)) = (-1) then (
some (1 : Int32)) else
ck (vp_in p1 30) <|
if p2 < (I 88 (ix p1)) then (
some (1 : Int32)) else
some (0 : Int32)
theorem ct_x4_isKnown {X : WX} {p1 : Int32} {p2 : Int32} {I : MI} {L : ML} {R : MR} {S : MS} (hK : okr R S) : Ct X yX4_isKnown cX4_isKnown 3 (some .boolean) 0 0 [.ref (X.1 + 83), .int p1, .int p2] (I, L, R, S) (x4_isKnown p1 p2 I) (fun r => (some (.int r), (I, L, R, S))) := by
  refine Ct.of (by decide) (Nat.le_of_ble_eq_true rfl) [(0, .ref (X.1 + 83)), (1, .int p1), (2, .int p2)] rfl ?_
  unfold x4_isKnown
  refine s_aload_n 0 dX4_isKnown_0 rfl rfl ?_
  refine s_getR 87 dX4_isKnown_1 rfl fl_4_21 rfl (S_83 hK) (R_83_4 hK) ?_
  refine s_iload_n 1 dX4_isKnown_4 rfl rfl ?_
  refine sm_ck (fun g1 => ?_)
  refine s_iald dX4_isKnown_5 rfl (S_87 hK) g1 ?_
  refine s_iload_n 2 dX4_isKnown_6 rfl rfl ?_
  refine s_icmp_gt (tgt := 34) dX4_isKnown_7 rfl rfl (fun _ => ?_) (fun _ => ?_)
  · skip
    refine s_iconst (v := 0) dX4_isKnown_34 rfl cI_0 ?_
    exact s_zret dX4_isKnown_35 rfl (Or.inl rfl) (fun f h => h)
  · skip
    refine s_aload_n 0 dX4_isKnown_10 rfl rfl ?_
    refine s_getR 88 dX4_isKnown_11 rfl fl_4_24 rfl (S_83 hK) (R_83_5 hK) ?_
    refine s_iload_n 1 dX4_isKnown_14 rfl rfl ?_
    refine sm_ck (fun g2 => ?_)
    refine s_iald dX4_isKnown_15 rfl (S_88 hK) g2 ?_
    refine s_iconst (v := (-1)) dX4_isKnown_16 rfl cI_m1 ?_
    refine s_icmp_eq (tgt := 30) dX4_isKnown_17 rfl rfl (fun _ => ?_) (fun _ => ?_)
    · skip
      refine s_iconst (v := 1) dX4_isKnown_30 rfl cI_1 ?_
      refine s_goto (tgt := 35) dX4_isKnown_31 rfl ?_
      exact s_zret dX4_isKnown_35 rfl (Or.inr rfl) (fun f h => h)
    · skip
      refine s_aload_n 0 dX4_isKnown_20 rfl rfl ?_
      refine s_getR 88 dX4_isKnown_21 rfl fl_4_24 rfl (S_83 hK) (R_83_5 hK) ?_
      refine s_iload_n 1 dX4_isKnown_24 rfl rfl ?_
      refine sm_ck (fun g3 => ?_)
      refine s_iald dX4_isKnown_25 rfl (S_88 hK) g3 ?_
      refine s_iload_n 2 dX4_isKnown_26 rfl rfl ?_
      refine s_icmp_le (tgt := 34) dX4_isKnown_27 rfl rfl (fun _ => ?_) (fun _ => ?_)
      · skip
        refine s_iconst (v := 0) dX4_isKnown_34 rfl cI_0 ?_
        exact s_zret dX4_isKnown_35 rfl (Or.inl rfl) (fun f h => h)
      · skip
        refine s_iconst (v := 1) dX4_isKnown_30 rfl cI_1 ?_
        refine s_goto (tgt := 35) dX4_isKnown_31 rfl ?_
        exact s_zret dX4_isKnown_35 rfl (Or.inr rfl) (fun f h => h)
noncomputable def x1_worthOf (t : Nat) (q1 : Nat) (p2 : Int32) (p3 : Int32) (p4 : Int32) (I : MI) : Option (Int32 × MI) :=
b1 (x1_look t q1 p2 p3 I) fun I1 =>
b2 (x1_worthSeen t p4 (0 : Int32) I1) fun r2 I3 =>
some (r2, I3)
theorem ct_x1_worthOf {X : WX} {t : Nat} {q1 : Nat} {p2 : Int32} {p3 : Int32} {p4 : Int32} {I : MI} {L : ML} {R : MR} {S : MS} (hK : okr R S) (ht : R 27 0 = some t ∧ isT t) (hq1 : isSt R S q1) : Ct X yX1_worthOf cX1_worthOf 5 (some .int) 3 73 [.ref (X.1 + 27), .ref (X.1 + q1), .int p2, .int p3, .int p4] (I, L, R, S) (x1_worthOf t q1 p2 p3 p4 I) (fun r => (some (.int r.1), (r.2, L, R, S))) := by
  refine Ct.of (by decide) (Nat.le_of_ble_eq_true rfl) [(0, .ref (X.1 + 27)), (1, .ref (X.1 + q1)), (2, .int p2), (3, .int p3), (4, .int p4)] rfl ?_
  unfold x1_worthOf
  refine s_aload_n 0 dX1_worthOf_0 rfl rfl ?_
  refine s_aload_n 1 dX1_worthOf_1 rfl rfl ?_
  refine s_iload_n 2 dX1_worthOf_2 rfl rfl ?_
  refine s_iload_n 3 dX1_worthOf_3 rfl rfl ?_
  refine s_callV3_v1 dX1_worthOf_4 rfl lkV_RX1_115 (S_27 hK) (Nat.le_of_ble_eq_true rfl) (Nat.le_of_ble_eq_true rfl) (Nat.le_of_ble_eq_true rfl) (ct_x1_look hK ht hq1) (fun I1 => ?_)
  refine s_aload_n 0 dX1_worthOf_7 rfl rfl ?_
  refine s_iload 4 dX1_worthOf_8 rfl rfl ?_
  refine s_iconst (v := 0) dX1_worthOf_10 rfl cI_0 ?_
  refine s_callV2_i1 dX1_worthOf_11 rfl lkV_RX1_132 (S_27 hK) (Nat.le_of_ble_eq_true rfl) (Nat.le_of_ble_eq_true rfl) (Nat.le_of_ble_eq_true rfl) (ct_x1_worthSeen hK ht) (fun r2 I3 => ?_)
  exact s_iret dX1_worthOf_14 rfl (fun f h => h)
noncomputable def x9_wouldTake_L23s (t : Nat) (c1 : Int32) (c2 : Int32) (c3 : Int32) (rec : Int32 → Int32 → Int32 → MI → Option (Int32 × MI)) (w5 : Int32) (w6 : Int32) (w7 : Int32) (I : MI) : Option (Int32 × MI) :=
if w7 < (I t 4) then (
if ((c3 >>> (w7 &&& 31)) &&& 1) = 1 then (
b2 (x1_worthOf t 67 c2 w7 c1 I) fun r6 I7 =>
lt r6 fun v8 =>
if w5 = (-1) then (
lt w7 fun v9 =>
lt v8 fun v10 =>
lt (w7 + 1) fun v11 =>
rec v9 v10 v11 I7) else
if w6 < v8 then (
lt w7 fun v13 =>
lt v8 fun v14 =>
lt (w7 + 1) fun v15 =>
rec v13 v14 v15 I7) else
lt (w7 + 1) fun v12 =>
rec w5 w6 v12 I7) else
lt (w7 + 1) fun v5 =>
rec w5 w6 v5 I) else
some (w5, I)
noncomputable def x9_wouldTake_L23 (t : Nat) (c1 : Int32) (c2 : Int32) (c3 : Int32) : Nat → Int32 → Int32 → Int32 → MI → Option (Int32 × MI)
  | 0 => fun _ _ _ _ => none
  | n + 1 => x9_wouldTake_L23s t c1 c2 c3 (x9_wouldTake_L23 t c1 c2 c3 n)
noncomputable def x9_wouldTake (t : Nat) (p1 : Int32) (p2 : Int32) (p3 : Int32) (p4 : Int32) (I : MI) : Option (Int32 × MI) :=
b1 (x7_begin 67 t I) fun I1 =>
lt (-1 : Int32) fun v2 =>
lt (0 : Int32) fun v3 =>
lt (0 : Int32) fun v4 =>
b1 (x9_wouldTake_L23 t p1 p2 p3 FU v2 v3 v4 I1) fun e16 =>
if e16.1 = p4 then (
some ((1 : Int32), e16.2)) else
some ((0 : Int32), e16.2)
theorem x9_wouldTake_L23_ok {X : WX} {n0 s0 : Nat} {t : Nat} {c1 : Int32} {c2 : Int32} {c3 : Int32} {c4 : Int32} {L : ML} {R : MR} {S : MS} (hK : okr R S) (ht : R 27 0 = some t ∧ isT t) : ∀ (n : Nat) (w5 : Int32) (w6 : Int32) (w7 : Int32) (I : MI), Sim X yX9_wouldTake cX9_wouldTake 9 (some .boolean) 4 97 n0 s0 23 [(0, .ref (X.1 + 66)), (1, .int c1), (2, .int c2), (3, .int c3), (4, .int c4), (5, .int w5), (6, .int w6), (7, .int w7)] [] (I, L, R, S) (x9_wouldTake_L23 t c1 c2 c3 n w5 w6 w7 I) (fun b f => Ex X yX9_wouldTake cX9_wouldTake 9 (some .boolean) 4 97 n0 s0 92 [(4, .int c4), (5, .int b.1)] [] (b.2, L, R, S) f) := by
  intro n
  induction n with
  | zero =>
    intro w5 w6 w7 I
    exact sm_none
  | succ n ih =>
    intro w5 w6 w7 I
    change Sim _ _ _ _ _ _ _ _ _ _ _ _ _ (x9_wouldTake_L23s t c1 c2 c3 (x9_wouldTake_L23 t c1 c2 c3 n) w5 w6 w7 I) _
    unfold x9_wouldTake_L23s
    refine s_iload 7 dX9_wouldTake_23 rfl rfl ?_
    refine s_aload_n 0 dX9_wouldTake_25 rfl rfl ?_
    refine s_getR 27 dX9_wouldTake_26 rfl fl_9_31 rfl (S_66 hK) (R_66_0 hK) ?_
    refine s_getR t dX9_wouldTake_29 rfl fl_9_45 rfl (S_27 hK) ht.1 ?_
    refine s_getI dX9_wouldTake_32 rfl fl_9_112 (tS_0 hK ht.2) ?_
    refine s_icmp_ge (tgt := 92) dX9_wouldTake_35 rfl rfl (fun _ => ?_) (fun _ => ?_)
    · skip
      refine s_pick [4, 5] rfl ?_
      exact sm_exit (fun f h => h)
    · skip
      refine s_iload_n 3 dX9_wouldTake_38 rfl rfl ?_
      refine s_iload 7 dX9_wouldTake_39 rfl rfl ?_
      refine s_ishr dX9_wouldTake_41 rfl ?_
      refine s_iconst (v := 1) dX9_wouldTake_42 rfl cI_1 ?_
      refine s_iand dX9_wouldTake_43 rfl ?_
      refine s_iconst (v := 1) dX9_wouldTake_44 rfl cI_1 ?_
      refine s_icmp_ne (tgt := 86) dX9_wouldTake_45 rfl rfl (fun _ => ?_) (fun _ => ?_)
      · skip
        refine s_iincL 7 (c := 1) (fun v5 => [(7, .int v5), (0, .ref (X.1 + 66)), (1, .int c1), (2, .int c2), (3, .int c3), (4, .int c4), (5, .int w5), (6, .int w6)]) dX9_wouldTake_86 rfl rfl cI_1 (by decide) (fun _ => rfl) (fun v5 => ?_)
        refine s_goto (tgt := 23) dX9_wouldTake_89 rfl ?_
        refine s_pick [1, 2, 3, 4, 5, 6, 7, 0] rfl ?_
        exact ih w5 w6 v5 I
      · skip
        refine s_aload_n 0 dX9_wouldTake_48 rfl rfl ?_
        refine s_getR 27 dX9_wouldTake_49 rfl fl_9_31 rfl (S_66 hK) (R_66_0 hK) ?_
        refine s_aload_n 0 dX9_wouldTake_52 rfl rfl ?_
        refine s_getR 67 dX9_wouldTake_53 rfl fl_9_12 rfl (S_66 hK) (R_66_1 hK) ?_
        refine s_iload_n 2 dX9_wouldTake_56 rfl rfl ?_
        refine s_iload 7 dX9_wouldTake_57 rfl rfl ?_
        refine s_iload_n 1 dX9_wouldTake_59 rfl rfl ?_
        refine s_callV4_i1 dX9_wouldTake_60 rfl lkV_RX9_147 (S_27 hK) (Nat.le_of_ble_eq_true rfl) (Nat.le_of_ble_eq_true rfl) (Nat.le_of_ble_eq_true rfl) (ct_x1_worthOf hK ht (st_67 hK)) (fun r6 I7 => ?_)
        refine s_istoreL (fun v8 => [(8, .int v8), (0, .ref (X.1 + 66)), (1, .int c1), (2, .int c2), (3, .int c3), (4, .int c4), (5, .int w5), (6, .int w6), (7, .int w7)]) dX9_wouldTake_63 rfl (by decide) (fun _ => rfl) (fun v8 => ?_)
        refine s_iload 6 dX9_wouldTake_65 rfl rfl ?_
        refine s_iconst (v := (-1)) dX9_wouldTake_67 rfl cI_m1 ?_
        refine s_icmp_eq (tgt := 78) dX9_wouldTake_68 rfl rfl (fun _ => ?_) (fun _ => ?_)
        · skip
          refine s_iload 8 dX9_wouldTake_78 rfl rfl ?_
          refine s_istoreL (fun v9 => [(5, .int v9), (8, .int v8), (0, .ref (X.1 + 66)), (1, .int c1), (2, .int c2), (3, .int c3), (4, .int c4), (6, .int w6), (7, .int w7)]) dX9_wouldTake_80 rfl (by decide) (fun _ => rfl) (fun v9 => ?_)
          refine s_iload 1 dX9_wouldTake_82 rfl rfl ?_
          refine s_istoreL (fun v10 => [(6, .int v10), (5, .int v9), (8, .int v8), (0, .ref (X.1 + 66)), (1, .int c1), (2, .int c2), (3, .int c3), (4, .int c4), (7, .int w7)]) dX9_wouldTake_84 rfl (by decide) (fun _ => rfl) (fun v10 => ?_)
          refine s_iincL 8 (c := 1) (fun v11 => [(7, .int v11), (6, .int v10), (5, .int v9), (8, .int v8), (0, .ref (X.1 + 66)), (1, .int c1), (2, .int c2), (3, .int c3), (4, .int c4)]) dX9_wouldTake_86 rfl rfl cI_1 (by decide) (fun _ => rfl) (fun v11 => ?_)
          refine s_goto (tgt := 23) dX9_wouldTake_89 rfl ?_
          refine s_pick [4, 5, 6, 7, 8, 2, 1, 0] rfl ?_
          exact ih v9 v10 v11 I7
        · skip
          refine s_iload 0 dX9_wouldTake_71 rfl rfl ?_
          refine s_iload 7 dX9_wouldTake_73 rfl rfl ?_
          refine s_icmp_le (tgt := 86) dX9_wouldTake_75 rfl rfl (fun _ => ?_) (fun _ => ?_)
          · skip
            refine s_iincL 8 (c := 1) (fun v12 => [(7, .int v12), (8, .int v8), (0, .ref (X.1 + 66)), (1, .int c1), (2, .int c2), (3, .int c3), (4, .int c4), (5, .int w5), (6, .int w6)]) dX9_wouldTake_86 rfl rfl cI_1 (by decide) (fun _ => rfl) (fun v12 => ?_)
            refine s_goto (tgt := 23) dX9_wouldTake_89 rfl ?_
            refine s_pick [2, 3, 4, 5, 6, 7, 8, 0] rfl ?_
            exact ih w5 w6 v12 I7
          · skip
            refine s_iload 8 dX9_wouldTake_78 rfl rfl ?_
            refine s_istoreL (fun v13 => [(5, .int v13), (8, .int v8), (0, .ref (X.1 + 66)), (1, .int c1), (2, .int c2), (3, .int c3), (4, .int c4), (6, .int w6), (7, .int w7)]) dX9_wouldTake_80 rfl (by decide) (fun _ => rfl) (fun v13 => ?_)
            refine s_iload 1 dX9_wouldTake_82 rfl rfl ?_
            refine s_istoreL (fun v14 => [(6, .int v14), (5, .int v13), (8, .int v8), (0, .ref (X.1 + 66)), (1, .int c1), (2, .int c2), (3, .int c3), (4, .int c4), (7, .int w7)]) dX9_wouldTake_84 rfl (by decide) (fun _ => rfl) (fun v14 => ?_)
            refine s_iincL 8 (c := 1) (fun v15 => [(7, .int v15), (6, .int v14), (5, .int v13), (8, .int v8), (0, .ref (X.1 + 66)), (1, .int c1), (2, .int c2), (3, .int c3), (4, .int c4)]) dX9_wouldTake_86 rfl rfl cI_1 (by decide) (fun _ => rfl) (fun v15 => ?_)
            refine s_goto (tgt := 23) dX9_wouldTake_89 rfl ?_
            refine s_pick [4, 5, 6, 7, 8, 2, 1, 0] rfl ?_
            exact ih v13 v14 v15 I7
theorem ct_x9_wouldTake {X : WX} {t : Nat} {p1 : Int32} {p2 : Int32} {p3 : Int32} {p4 : Int32} {I : MI} {L : ML} {R : MR} {S : MS} (hK : okr R S) (ht : R 27 0 = some t ∧ isT t) : Ct X yX9_wouldTake cX9_wouldTake 9 (some .boolean) 4 97 [.ref (X.1 + 66), .int p1, .int p2, .int p3, .int p4] (I, L, R, S) (x9_wouldTake t p1 p2 p3 p4 I) (fun r => (some (.int r.1), (r.2, L, R, S))) := by
  refine Ct.of (by decide) (Nat.le_of_ble_eq_true rfl) [(0, .ref (X.1 + 66)), (1, .int p1), (2, .int p2), (3, .int p3), (4, .int p4)] rfl ?_
  unfold x9_wouldTake
  refine s_aload_n 0 dX9_wouldTake_0 rfl rfl ?_
  refine s_getR 67 dX9_wouldTake_1 rfl fl_9_12 rfl (S_66 hK) (R_66_1 hK) ?_
  refine s_aload_n 0 dX9_wouldTake_4 rfl rfl ?_
  refine s_getR 27 dX9_wouldTake_5 rfl fl_9_31 rfl (S_66 hK) (R_66_0 hK) ?_
  refine s_getR t dX9_wouldTake_8 rfl fl_9_45 rfl (S_27 hK) ht.1 ?_
  refine s_callV1_v1 dX9_wouldTake_11 rfl lkV_RX9_143 (S_67 hK) (Nat.le_of_ble_eq_true rfl) (Nat.le_of_ble_eq_true rfl) (Nat.le_of_ble_eq_true rfl) (ct_x7_begin hK (st_67 hK) ht.2) (fun I1 => ?_)
  refine s_iconst (v := (-1)) dX9_wouldTake_14 rfl cI_m1 ?_
  refine s_istoreL (fun v2 => [(5, .int v2), (0, .ref (X.1 + 66)), (1, .int p1), (2, .int p2), (3, .int p3), (4, .int p4)]) dX9_wouldTake_15 rfl (by decide) (fun _ => rfl) (fun v2 => ?_)
  refine s_iconst (v := 0) dX9_wouldTake_17 rfl cI_0 ?_
  refine s_istoreL (fun v3 => [(6, .int v3), (5, .int v2), (0, .ref (X.1 + 66)), (1, .int p1), (2, .int p2), (3, .int p3), (4, .int p4)]) dX9_wouldTake_18 rfl (by decide) (fun _ => rfl) (fun v3 => ?_)
  refine s_iconst (v := 0) dX9_wouldTake_20 rfl cI_0 ?_
  refine s_istoreL (fun v4 => [(7, .int v4), (6, .int v3), (5, .int v2), (0, .ref (X.1 + 66)), (1, .int p1), (2, .int p2), (3, .int p3), (4, .int p4)]) dX9_wouldTake_21 rfl (by decide) (fun _ => rfl) (fun v4 => ?_)
  refine s_pick [3, 4, 5, 6, 7, 2, 1, 0] rfl ?_
  refine sm_reg (x9_wouldTake_L23_ok hK ht FU v2 v3 v4 I1) (fun e16 => ?_)
  refine s_iload 1 dX9_wouldTake_92 rfl rfl ?_
  refine s_iload 0 dX9_wouldTake_94 rfl rfl ?_
  refine s_icmp_ne (tgt := 103) dX9_wouldTake_96 rfl rfl (fun _ => ?_) (fun _ => ?_)
  · skip
    refine s_iconst (v := 0) dX9_wouldTake_103 rfl cI_0 ?_
    exact s_zret dX9_wouldTake_104 rfl (Or.inl rfl) (fun f h => h)
  · skip
    refine s_iconst (v := 1) dX9_wouldTake_99 rfl cI_1 ?_
    refine s_goto (tgt := 104) dX9_wouldTake_100 rfl ?_
    exact s_zret dX9_wouldTake_104 rfl (Or.inr rfl) (fun f h => h)
noncomputable def x4_misfits_L5s (t : Nat) (c1 : Int32) (c2 : Int32) (rec : Int32 → Int32 → MI → Option (Int32 × MI)) (w3 : Int32) (w4 : Int32) (I : MI) : Option (Int32 × MI) :=
if w4 < (I 83 6) then (
b1 (x4_isKnown w4 c2 I) fun r3 =>
if r3 = 0 then (
lt (w4 + 1) fun v4 =>
rec w3 v4 I) else
ck (vp_in w4 30) <|
ck (vp_in w4 30) <|
ck (vp_in w4 30) <|
b2 (x9_wouldTake t c1 (I 84 (ix w4)) (I 85 (ix w4)) (I 86 (ix w4)) I) fun r8 I9 =>
if r8 = 0 then (
lt (w3 + 1) fun v11 =>
lt (w4 + 1) fun v12 =>
rec v11 v12 I9) else
lt (w4 + 1) fun v10 =>
rec w3 v10 I9) else
some (w3, I)
noncomputable def x4_misfits_L5 (t : Nat) (c1 : Int32) (c2 : Int32) : Nat → Int32 → Int32 → MI → Option (Int32 × MI)
  | 0 => fun _ _ _ => none
  | n + 1 => x4_misfits_L5s t c1 c2 (x4_misfits_L5 t c1 c2 n)
noncomputable def x4_misfits (t : Nat) (p1 : Int32) (p2 : Int32) (I : MI) : Option (Int32 × MI) :=
lt (0 : Int32) fun v1 =>
lt (0 : Int32) fun v2 =>
b1 (x4_misfits_L5 t p1 p2 FU v1 v2 I) fun e13 =>
some (e13.1, e13.2)
theorem x4_misfits_L5_ok {X : WX} {n0 s0 : Nat} {t : Nat} {c1 : Int32} {c2 : Int32} {L : ML} {R : MR} {S : MS} (hK : okr R S) (ht : R 27 0 = some t ∧ isT t) : ∀ (n : Nat) (w3 : Int32) (w4 : Int32) (I : MI), Sim X yX4_misfits cX4_misfits 5 (some .int) 5 125 n0 s0 5 [(0, .ref (X.1 + 83)), (1, .int c1), (2, .int c2), (3, .int w3), (4, .int w4)] [] (I, L, R, S) (x4_misfits_L5 t c1 c2 n w3 w4 I) (fun b f => Ex X yX4_misfits cX4_misfits 5 (some .int) 5 125 n0 s0 65 [(3, .int b.1)] [] (b.2, L, R, S) f) := by
  intro n
  induction n with
  | zero =>
    intro w3 w4 I
    exact sm_none
  | succ n ih =>
    intro w3 w4 I
    change Sim _ _ _ _ _ _ _ _ _ _ _ _ _ (x4_misfits_L5s t c1 c2 (x4_misfits_L5 t c1 c2 n) w3 w4 I) _
    unfold x4_misfits_L5s
    refine s_iload 4 dX4_misfits_5 rfl rfl ?_
    refine s_aload_n 0 dX4_misfits_7 rfl rfl ?_
    refine s_getI dX4_misfits_8 rfl fl_4_31 (S_83 hK) ?_
    refine s_icmp_ge (tgt := 65) dX4_misfits_11 rfl rfl (fun _ => ?_) (fun _ => ?_)
    · skip
      refine s_pick [3] rfl ?_
      exact sm_exit (fun f h => h)
    · skip
      refine s_aload_n 0 dX4_misfits_14 rfl rfl ?_
      refine s_iload 4 dX4_misfits_15 rfl rfl ?_
      refine s_iload_n 2 dX4_misfits_17 rfl rfl ?_
      refine s_callV2_i0 dX4_misfits_18 rfl lkV_RX4_35 (S_83 hK) (Nat.le_of_ble_eq_true rfl) (Nat.le_of_ble_eq_true rfl) (Nat.le_of_ble_eq_true rfl) (ct_x4_isKnown hK) (fun r3 => ?_)
      refine s_if_eq (tgt := 59) dX4_misfits_21 rfl rfl (fun _ => ?_) (fun _ => ?_)
      · skip
        refine s_iincL 4 (c := 1) (fun v4 => [(4, .int v4), (0, .ref (X.1 + 83)), (1, .int c1), (2, .int c2), (3, .int w3)]) dX4_misfits_59 rfl rfl cI_1 (by decide) (fun _ => rfl) (fun v4 => ?_)
        refine s_goto (tgt := 5) dX4_misfits_62 rfl ?_
        refine s_pick [1, 2, 3, 4, 0] rfl ?_
        exact ih w3 v4 I
      · skip
        refine s_aload_n 0 dX4_misfits_24 rfl rfl ?_
        refine s_getR 66 dX4_misfits_25 rfl fl_4_27 rfl (S_83 hK) (R_83_0 hK) ?_
        refine s_iload_n 1 dX4_misfits_28 rfl rfl ?_
        refine s_aload_n 0 dX4_misfits_29 rfl rfl ?_
        refine s_getR 84 dX4_misfits_30 rfl fl_4_11 rfl (S_83 hK) (R_83_1 hK) ?_
        refine s_iload 4 dX4_misfits_33 rfl rfl ?_
        refine sm_ck (fun g5 => ?_)
        refine s_iald dX4_misfits_35 rfl (S_84 hK) g5 ?_
        refine s_aload_n 0 dX4_misfits_36 rfl rfl ?_
        refine s_getR 85 dX4_misfits_37 rfl fl_4_15 rfl (S_83 hK) (R_83_2 hK) ?_
        refine s_iload 4 dX4_misfits_40 rfl rfl ?_
        refine sm_ck (fun g6 => ?_)
        refine s_iald dX4_misfits_42 rfl (S_85 hK) g6 ?_
        refine s_aload_n 0 dX4_misfits_43 rfl rfl ?_
        refine s_getR 86 dX4_misfits_44 rfl fl_4_18 rfl (S_83 hK) (R_83_3 hK) ?_
        refine s_iload 4 dX4_misfits_47 rfl rfl ?_
        refine sm_ck (fun g7 => ?_)
        refine s_iald dX4_misfits_49 rfl (S_86 hK) g7 ?_
        refine s_callV4_i1 dX4_misfits_50 rfl lkV_RX4_39 (S_66 hK) (Nat.le_of_ble_eq_true rfl) (Nat.le_of_ble_eq_true rfl) (Nat.le_of_ble_eq_true rfl) (ct_x9_wouldTake hK ht) (fun r8 I9 => ?_)
        refine s_if_ne (tgt := 59) dX4_misfits_53 rfl rfl (fun _ => ?_) (fun _ => ?_)
        · skip
          refine s_iincL 4 (c := 1) (fun v10 => [(4, .int v10), (0, .ref (X.1 + 83)), (1, .int c1), (2, .int c2), (3, .int w3)]) dX4_misfits_59 rfl rfl cI_1 (by decide) (fun _ => rfl) (fun v10 => ?_)
          refine s_goto (tgt := 5) dX4_misfits_62 rfl ?_
          refine s_pick [1, 2, 3, 4, 0] rfl ?_
          exact ih w3 v10 I9
        · skip
          refine s_iincL 3 (c := 1) (fun v11 => [(3, .int v11), (0, .ref (X.1 + 83)), (1, .int c1), (2, .int c2), (4, .int w4)]) dX4_misfits_56 rfl rfl cI_1 (by decide) (fun _ => rfl) (fun v11 => ?_)
          refine s_iincL 4 (c := 1) (fun v12 => [(4, .int v12), (3, .int v11), (0, .ref (X.1 + 83)), (1, .int c1), (2, .int c2)]) dX4_misfits_59 rfl rfl cI_1 (by decide) (fun _ => rfl) (fun v12 => ?_)
          refine s_goto (tgt := 5) dX4_misfits_62 rfl ?_
          refine s_pick [2, 3, 4, 1, 0] rfl ?_
          exact ih v11 v12 I9
theorem ct_x4_misfits {X : WX} {t : Nat} {p1 : Int32} {p2 : Int32} {I : MI} {L : ML} {R : MR} {S : MS} (hK : okr R S) (ht : R 27 0 = some t ∧ isT t) : Ct X yX4_misfits cX4_misfits 5 (some .int) 5 125 [.ref (X.1 + 83), .int p1, .int p2] (I, L, R, S) (x4_misfits t p1 p2 I) (fun r => (some (.int r.1), (r.2, L, R, S))) := by
  refine Ct.of (by decide) (Nat.le_of_ble_eq_true rfl) [(0, .ref (X.1 + 83)), (1, .int p1), (2, .int p2)] rfl ?_
  unfold x4_misfits
  refine s_iconst (v := 0) dX4_misfits_0 rfl cI_0 ?_
  refine s_istore_nL (fun v1 => [(3, .int v1), (0, .ref (X.1 + 83)), (1, .int p1), (2, .int p2)]) dX4_misfits_1 rfl (by decide) (fun _ => rfl) (fun v1 => ?_)
  refine s_iconst (v := 0) dX4_misfits_2 rfl cI_0 ?_
  refine s_istoreL (fun v2 => [(4, .int v2), (3, .int v1), (0, .ref (X.1 + 83)), (1, .int p1), (2, .int p2)]) dX4_misfits_3 rfl (by decide) (fun _ => rfl) (fun v2 => ?_)
  refine s_pick [2, 3, 4, 1, 0] rfl ?_
  refine sm_reg (x4_misfits_L5_ok hK ht FU v1 v2 I) (fun e13 => ?_)
  refine s_iload_n 0 dX4_misfits_65 rfl rfl ?_
  exact s_iret dX4_misfits_66 rfl (fun f h => h)
