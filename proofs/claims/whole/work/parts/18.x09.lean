noncomputable def x9_getsFrom_L35s (t : Nat) (q1 : Nat) (c2 : Int32) (c5 : Int32) (rec : Int32 → Int32 → MI → Option (Int32 × MI)) (w6 : Int32) (w7 : Int32) (I : MI) : Option (Int32 × MI) :=
if w7 < c5 then (
b1 (x8_ruleOf t c2 I) fun r8 =>
b2 (x1_turnOf t 67 c2 r8 I) fun r9 I10 =>
lt (w6 + r9) fun v11 =>
lt (w7 + 1) fun v12 =>
rec v11 v12 I10) else
some (w6, I)
noncomputable def x9_getsFrom_L35 (t : Nat) (q1 : Nat) (c2 : Int32) (c5 : Int32) : Nat → Int32 → Int32 → MI → Option (Int32 × MI)
  | 0 => fun _ _ _ => none
  | n + 1 => x9_getsFrom_L35s t q1 c2 c5 (x9_getsFrom_L35 t q1 c2 c5 n)
noncomputable def x9_getsFrom (t : Nat) (q1 : Nat) (p2 : Int32) (p3 : Int32) (p4 : Int32) (p5 : Int32) (I : MI) : Option (Int32 × MI) :=
b1 (x7_copyPlay 67 q1 I) fun I1 =>
ck (vp_in p2 4) <|
lt (wI I1 73 (ix p2) p3) fun I2 =>
ck (vp_in p2 4) <|
lt (wI I2 74 (ix p2) p4) fun I4 =>
lt (0 : Int32) fun v6 =>
lt (0 : Int32) fun v7 =>
b1 (x9_getsFrom_L35 t q1 p2 p5 FU v6 v7 I4) fun e13 =>
some (e13.1, e13.2)
theorem x9_getsFrom_L35_ok {X : WX} {n0 s0 : Nat} {t : Nat} {q1 : Nat} {c2 : Int32} {c5 : Int32} {L : ML} {R : MR} {S : MS} (hK : okr R S) (ht : R 27 0 = some t ∧ isT t) (hq1 : isSt R S q1) : ∀ (n : Nat) (w6 : Int32) (w7 : Int32) (I : MI), Sim X yX9_getsFrom cX9_getsFrom 8 (some .int) 5 127 n0 s0 35 [(0, .ref (X.1 + 66)), (2, .int c2), (5, .int c5), (6, .int w6), (7, .int w7)] [] (I, L, R, S) (x9_getsFrom_L35 t q1 c2 c5 n w6 w7 I) (fun b f => Ex X yX9_getsFrom cX9_getsFrom 8 (some .int) 5 127 n0 s0 76 [(6, .int b.1)] [] (b.2, L, R, S) f) := by
  intro n
  induction n with
  | zero =>
    intro w6 w7 I
    exact sm_none
  | succ n ih =>
    intro w6 w7 I
    change Sim _ _ _ _ _ _ _ _ _ _ _ _ _ (x9_getsFrom_L35s t q1 c2 c5 (x9_getsFrom_L35 t q1 c2 c5 n) w6 w7 I) _
    unfold x9_getsFrom_L35s
    refine s_iload 4 dX9_getsFrom_35 rfl rfl ?_
    refine s_iload 2 dX9_getsFrom_37 rfl rfl ?_
    refine s_icmp_ge (tgt := 76) dX9_getsFrom_39 rfl rfl (fun _ => ?_) (fun _ => ?_)
    · skip
      refine s_pick [3] rfl ?_
      exact sm_exit (fun f h => h)
    · skip
      refine s_iload 3 dX9_getsFrom_42 rfl rfl ?_
      refine s_aload_n 0 dX9_getsFrom_44 rfl rfl ?_
      refine s_getR 27 dX9_getsFrom_45 rfl fl_9_31 rfl (S_66 hK) (R_66_0 hK) ?_
      refine s_aload_n 0 dX9_getsFrom_48 rfl rfl ?_
      refine s_getR 67 dX9_getsFrom_49 rfl fl_9_12 rfl (S_66 hK) (R_66_1 hK) ?_
      refine s_iload_n 1 dX9_getsFrom_52 rfl rfl ?_
      refine s_aload_n 0 dX9_getsFrom_53 rfl rfl ?_
      refine s_getR 27 dX9_getsFrom_54 rfl fl_9_31 rfl (S_66 hK) (R_66_0 hK) ?_
      refine s_getR t dX9_getsFrom_57 rfl fl_9_45 rfl (S_27 hK) ht.1 ?_
      refine s_iload_n 1 dX9_getsFrom_60 rfl rfl ?_
      refine s_callV1_i0 dX9_getsFrom_61 rfl lkV_RX9_87 (tS_0 hK ht.2) (Nat.le_of_ble_eq_true rfl) (Nat.le_of_ble_eq_true rfl) (Nat.le_of_ble_eq_true rfl) (ct_x8_ruleOf hK ht.2) (fun r8 => ?_)
      refine s_callV3_i1 dX9_getsFrom_64 rfl lkV_RX9_39 (S_27 hK) (Nat.le_of_ble_eq_true rfl) (Nat.le_of_ble_eq_true rfl) (Nat.le_of_ble_eq_true rfl) (ct_x1_turnOf hK ht (st_67 hK)) (fun r9 I10 => ?_)
      refine s_iadd dX9_getsFrom_67 rfl ?_
      refine s_istoreL (fun v11 => [(6, .int v11), (0, .ref (X.1 + 66)), (2, .int c2), (5, .int c5), (7, .int w7)]) dX9_getsFrom_68 rfl (by decide) (fun _ => rfl) (fun v11 => ?_)
      refine s_iincL 4 (c := 1) (fun v12 => [(7, .int v12), (6, .int v11), (0, .ref (X.1 + 66)), (2, .int c2), (5, .int c5)]) dX9_getsFrom_70 rfl rfl cI_1 (by decide) (fun _ => rfl) (fun v12 => ?_)
      refine s_goto (tgt := 35) dX9_getsFrom_73 rfl ?_
      refine s_pick [2, 3, 4, 1, 0] rfl ?_
      exact ih v11 v12 I10
theorem ct_x9_getsFrom {X : WX} {t : Nat} {q1 : Nat} {p2 : Int32} {p3 : Int32} {p4 : Int32} {p5 : Int32} {I : MI} {L : ML} {R : MR} {S : MS} (hK : okr R S) (ht : R 27 0 = some t ∧ isT t) (hq1 : isSt R S q1) : Ct X yX9_getsFrom cX9_getsFrom 8 (some .int) 5 127 [.ref (X.1 + 66), .ref (X.1 + q1), .int p2, .int p3, .int p4, .int p5] (I, L, R, S) (x9_getsFrom t q1 p2 p3 p4 p5 I) (fun r => (some (.int r.1), (r.2, L, R, S))) := by
  refine Ct.of (by decide) (Nat.le_of_ble_eq_true rfl) [(0, .ref (X.1 + 66)), (1, .ref (X.1 + q1)), (2, .int p2), (3, .int p3), (4, .int p4), (5, .int p5)] rfl ?_
  unfold x9_getsFrom
  refine s_aload_n 0 dX9_getsFrom_0 rfl rfl ?_
  refine s_getR 67 dX9_getsFrom_1 rfl fl_9_12 rfl (S_66 hK) (R_66_1 hK) ?_
  refine s_aload_n 1 dX9_getsFrom_4 rfl rfl ?_
  refine s_callV1_v1 dX9_getsFrom_5 rfl lkV_RX9_35 (S_67 hK) (Nat.le_of_ble_eq_true rfl) (Nat.le_of_ble_eq_true rfl) (Nat.le_of_ble_eq_true rfl) (ct_x7_copyPlay hK (st_67 hK) hq1) (fun I1 => ?_)
  refine s_aload_n 0 dX9_getsFrom_8 rfl rfl ?_
  refine s_getR 67 dX9_getsFrom_9 rfl fl_9_12 rfl (S_66 hK) (R_66_1 hK) ?_
  refine s_getR 73 dX9_getsFrom_12 rfl fl_9_81 rfl (S_67 hK) (R_67_5 hK) ?_
  refine s_iload_n 2 dX9_getsFrom_15 rfl rfl ?_
  refine s_iload_n 3 dX9_getsFrom_16 rfl rfl ?_
  refine sm_ck (fun g3 => ?_)
  refine s_iastL dX9_getsFrom_17 rfl (S_73 hK) g3 (fun I2 => ?_)
  refine s_aload_n 0 dX9_getsFrom_18 rfl rfl ?_
  refine s_getR 67 dX9_getsFrom_19 rfl fl_9_12 rfl (S_66 hK) (R_66_1 hK) ?_
  refine s_getR 74 dX9_getsFrom_22 rfl fl_9_84 rfl (S_67 hK) (R_67_6 hK) ?_
  refine s_iload_n 2 dX9_getsFrom_25 rfl rfl ?_
  refine s_iload 4 dX9_getsFrom_26 rfl rfl ?_
  refine sm_ck (fun g5 => ?_)
  refine s_iastL dX9_getsFrom_28 rfl (S_74 hK) g5 (fun I4 => ?_)
  refine s_iconst (v := 0) dX9_getsFrom_29 rfl cI_0 ?_
  refine s_istoreL (fun v6 => [(6, .int v6), (0, .ref (X.1 + 66)), (1, .ref (X.1 + q1)), (2, .int p2), (3, .int p3), (4, .int p4), (5, .int p5)]) dX9_getsFrom_30 rfl (by decide) (fun _ => rfl) (fun v6 => ?_)
  refine s_iconst (v := 0) dX9_getsFrom_32 rfl cI_0 ?_
  refine s_istoreL (fun v7 => [(7, .int v7), (6, .int v6), (0, .ref (X.1 + 66)), (1, .ref (X.1 + q1)), (2, .int p2), (3, .int p3), (4, .int p4), (5, .int p5)]) dX9_getsFrom_33 rfl (by decide) (fun _ => rfl) (fun v7 => ?_)
  refine s_pick [2, 4, 7, 1, 0] rfl ?_
  refine sm_reg (x9_getsFrom_L35_ok hK ht hq1 FU v6 v7 I4) (fun e13 => ?_)
  refine s_iload 0 dX9_getsFrom_76 rfl rfl ?_
  exact s_iret dX9_getsFrom_78 rfl (fun f h => h)
noncomputable def x9_findSeat_L26s (t : Nat) (q1 : Nat) (c2 : Int32) (c3 : Int32) (c4 : Int32) (rec : Int32 → MI → Option (MI)) (w5 : Int32) (I : MI) : Option (MI) :=
if w5 < (I t 0) then (
b1 (x8_isRim t w5 c4 I) fun r4 =>
b1 (
if r4 = 0 then (
some ((-1 : Int32), I)) else
b2 (x9_getsFrom t q1 c2 w5 c4 c3 I) fun r6 I7 =>
some (r6, I7)) fun e5 =>
lt e5.1 fun v8 =>
if (e5.2 66 8) < v8 then (
lt (wI e5.2 66 8 v8) fun I10 =>
lt (wI I10 66 6 w5) fun I11 =>
lt (wI I11 66 7 c4) fun I12 =>
lt (w5 + 1) fun v13 =>
rec v13 I12) else
lt (w5 + 1) fun v9 =>
rec v9 e5.2) else
some I
noncomputable def x9_findSeat_L26 (t : Nat) (q1 : Nat) (c2 : Int32) (c3 : Int32) (c4 : Int32) : Nat → Int32 → MI → Option (MI)
  | 0 => fun _ _ => none
  | n + 1 => x9_findSeat_L26s t q1 c2 c3 c4 (x9_findSeat_L26 t q1 c2 c3 c4 n)
noncomputable def x9_findSeat_L8s (t : Nat) (q1 : Nat) (c2 : Int32) (c3 : Int32) (rec : Int32 → MI → Option (MI)) (w4 : Int32) (I : MI) : Option (MI) :=
if w4 < (I t 1) then (
lt (0 : Int32) fun v3 =>
b1 (x9_findSeat_L26 t q1 c2 c3 w4 FU v3 I) fun e14 =>
lt (w4 + 1) fun v15 =>
rec v15 e14) else
some I
noncomputable def x9_findSeat_L8 (t : Nat) (q1 : Nat) (c2 : Int32) (c3 : Int32) : Nat → Int32 → MI → Option (MI)
  | 0 => fun _ _ => none
  | n + 1 => x9_findSeat_L8s t q1 c2 c3 (x9_findSeat_L8 t q1 c2 c3 n)
noncomputable def x9_findSeat (t : Nat) (q1 : Nat) (p2 : Int32) (p3 : Int32) (I : MI) : Option (MI) :=
lt (wI I 66 8 (-1 : Int32)) fun I1 =>
lt (0 : Int32) fun v2 =>
b1 (x9_findSeat_L8 t q1 p2 p3 FU v2 I1) fun e16 =>
some e16
theorem x9_findSeat_L26_ok {X : WX} {n0 s0 : Nat} {t : Nat} {q1 : Nat} {c2 : Int32} {c3 : Int32} {c4 : Int32} {L : ML} {R : MR} {S : MS} (hK : okr R S) (ht : R 27 0 = some t ∧ isT t) (hq1 : isSt R S q1) : ∀ (n : Nat) (w5 : Int32) (I : MI), Sim X yX9_findSeat cX9_findSeat 7 none 6 154 n0 s0 26 [(0, .ref (X.1 + 66)), (1, .ref (X.1 + q1)), (2, .int c2), (3, .int c3), (4, .int c4), (5, .int w5)] [] (I, L, R, S) (x9_findSeat_L26 t q1 c2 c3 c4 n w5 I) (fun b f => Ex X yX9_findSeat cX9_findSeat 7 none 6 154 n0 s0 108 [(0, .ref (X.1 + 66)), (1, .ref (X.1 + q1)), (2, .int c2), (3, .int c3), (4, .int c4)] [] (b, L, R, S) f) := by
  intro n
  induction n with
  | zero =>
    intro w5 I
    exact sm_none
  | succ n ih =>
    intro w5 I
    change Sim _ _ _ _ _ _ _ _ _ _ _ _ _ (x9_findSeat_L26s t q1 c2 c3 c4 (x9_findSeat_L26 t q1 c2 c3 c4 n) w5 I) _
    unfold x9_findSeat_L26s
    refine s_iload 5 dX9_findSeat_26 rfl rfl ?_
    refine s_aload_n 0 dX9_findSeat_28 rfl rfl ?_
    refine s_getR 27 dX9_findSeat_29 rfl fl_9_31 rfl (S_66 hK) (R_66_0 hK) ?_
    refine s_getR t dX9_findSeat_32 rfl fl_9_45 rfl (S_27 hK) ht.1 ?_
    refine s_getI dX9_findSeat_35 rfl fl_9_64 (tS_0 hK ht.2) ?_
    refine s_icmp_ge (tgt := 108) dX9_findSeat_38 rfl rfl (fun _ => ?_) (fun _ => ?_)
    · skip
      refine s_pick [0, 1, 2, 3, 4] rfl ?_
      exact sm_exit (fun f h => h)
    · skip
      refine s_aload_n 0 dX9_findSeat_41 rfl rfl ?_
      refine s_getR 27 dX9_findSeat_42 rfl fl_9_31 rfl (S_66 hK) (R_66_0 hK) ?_
      refine s_getR t dX9_findSeat_45 rfl fl_9_45 rfl (S_27 hK) ht.1 ?_
      refine s_iload 5 dX9_findSeat_48 rfl rfl ?_
      refine s_iload 4 dX9_findSeat_50 rfl rfl ?_
      refine s_callV2_i0 dX9_findSeat_52 rfl lkV_RX9_67 (tS_0 hK ht.2) (Nat.le_of_ble_eq_true rfl) (Nat.le_of_ble_eq_true rfl) (Nat.le_of_ble_eq_true rfl) (ct_x8_isRim hK ht.2) (fun r4 => ?_)
      refine sm_reg (pcx := 73) (lsx := fun e5 => [(0, .ref (X.1 + 66)), (1, .ref (X.1 + q1)), (2, .int c2), (3, .int c3), (4, .int c4), (5, .int w5)]) (stx := fun e5 => [.int e5.1]) (ux := fun e5 => (e5.2, L, R, S)) ?_ (fun e5 => ?_)
      · skip
        refine s_if_eq (tgt := 72) dX9_findSeat_55 rfl rfl (fun _ => ?_) (fun _ => ?_)
        · skip
          refine s_iconst (v := (-1)) dX9_findSeat_72 rfl cI_m1 ?_
          exact sm_exit (fun f h => h)
        · skip
          refine s_aload_n 0 dX9_findSeat_58 rfl rfl ?_
          refine s_aload_n 1 dX9_findSeat_59 rfl rfl ?_
          refine s_iload_n 2 dX9_findSeat_60 rfl rfl ?_
          refine s_iload 5 dX9_findSeat_61 rfl rfl ?_
          refine s_iload 4 dX9_findSeat_63 rfl rfl ?_
          refine s_iload_n 3 dX9_findSeat_65 rfl rfl ?_
          refine s_callV5_i1 dX9_findSeat_66 rfl lkV_RX9_71 (S_66 hK) (Nat.le_of_ble_eq_true rfl) (Nat.le_of_ble_eq_true rfl) (Nat.le_of_ble_eq_true rfl) (ct_x9_getsFrom hK ht hq1) (fun r6 I7 => ?_)
          refine s_goto (tgt := 73) dX9_findSeat_69 rfl ?_
          exact sm_exit (fun f h => h)
      · skip
        refine s_istoreL (fun v8 => [(6, .int v8), (0, .ref (X.1 + 66)), (1, .ref (X.1 + q1)), (2, .int c2), (3, .int c3), (4, .int c4), (5, .int w5)]) dX9_findSeat_73 rfl (by decide) (fun _ => rfl) (fun v8 => ?_)
        refine s_iload 0 dX9_findSeat_75 rfl rfl ?_
        refine s_aload_n 1 dX9_findSeat_77 rfl rfl ?_
        refine s_getI dX9_findSeat_78 rfl fl_9_58 (S_66 hK) ?_
        refine s_icmp_le (tgt := 102) dX9_findSeat_81 rfl rfl (fun _ => ?_) (fun _ => ?_)
        · skip
          refine s_iincL 6 (c := 1) (fun v9 => [(5, .int v9), (6, .int v8), (0, .ref (X.1 + 66)), (1, .ref (X.1 + q1)), (2, .int c2), (3, .int c3), (4, .int c4)]) dX9_findSeat_102 rfl rfl cI_1 (by decide) (fun _ => rfl) (fun v9 => ?_)
          refine s_goto (tgt := 26) dX9_findSeat_105 rfl ?_
          refine s_pick [2, 3, 4, 5, 6, 0] rfl ?_
          exact ih v9 e5.2
        · skip
          refine s_aload_n 1 dX9_findSeat_84 rfl rfl ?_
          refine s_iload 0 dX9_findSeat_85 rfl rfl ?_
          refine s_putIL dX9_findSeat_87 rfl fl_9_58 (S_66 hK) (fun I10 => ?_)
          refine s_aload_n 1 dX9_findSeat_90 rfl rfl ?_
          refine s_iload 6 dX9_findSeat_91 rfl rfl ?_
          refine s_putIL dX9_findSeat_93 rfl fl_9_75 (S_66 hK) (fun I11 => ?_)
          refine s_aload_n 1 dX9_findSeat_96 rfl rfl ?_
          refine s_iload 5 dX9_findSeat_97 rfl rfl ?_
          refine s_putIL dX9_findSeat_99 rfl fl_9_78 (S_66 hK) (fun I12 => ?_)
          refine s_iincL 6 (c := 1) (fun v13 => [(5, .int v13), (6, .int v8), (0, .ref (X.1 + 66)), (1, .ref (X.1 + q1)), (2, .int c2), (3, .int c3), (4, .int c4)]) dX9_findSeat_102 rfl rfl cI_1 (by decide) (fun _ => rfl) (fun v13 => ?_)
          refine s_goto (tgt := 26) dX9_findSeat_105 rfl ?_
          refine s_pick [2, 3, 4, 5, 6, 0] rfl ?_
          exact ih v13 I12
theorem x9_findSeat_L8_ok {X : WX} {n0 s0 : Nat} {t : Nat} {q1 : Nat} {c2 : Int32} {c3 : Int32} {L : ML} {R : MR} {S : MS} (hK : okr R S) (ht : R 27 0 = some t ∧ isT t) (hq1 : isSt R S q1) : ∀ (n : Nat) (w4 : Int32) (I : MI), Sim X yX9_findSeat cX9_findSeat 7 none 6 154 n0 s0 8 [(0, .ref (X.1 + 66)), (1, .ref (X.1 + q1)), (2, .int c2), (3, .int c3), (4, .int w4)] [] (I, L, R, S) (x9_findSeat_L8 t q1 c2 c3 n w4 I) (fun b f => Ex X yX9_findSeat cX9_findSeat 7 none 6 154 n0 s0 114 [] [] (b, L, R, S) f) := by
  intro n
  induction n with
  | zero =>
    intro w4 I
    exact sm_none
  | succ n ih =>
    intro w4 I
    change Sim _ _ _ _ _ _ _ _ _ _ _ _ _ (x9_findSeat_L8s t q1 c2 c3 (x9_findSeat_L8 t q1 c2 c3 n) w4 I) _
    unfold x9_findSeat_L8s
    refine s_iload 4 dX9_findSeat_8 rfl rfl ?_
    refine s_aload_n 0 dX9_findSeat_10 rfl rfl ?_
    refine s_getR 27 dX9_findSeat_11 rfl fl_9_31 rfl (S_66 hK) (R_66_0 hK) ?_
    refine s_getR t dX9_findSeat_14 rfl fl_9_45 rfl (S_27 hK) ht.1 ?_
    refine s_getI dX9_findSeat_17 rfl fl_9_61 (tS_0 hK ht.2) ?_
    refine s_icmp_ge (tgt := 114) dX9_findSeat_20 rfl rfl (fun _ => ?_) (fun _ => ?_)
    · skip
      refine s_pick [] rfl ?_
      exact sm_exit (fun f h => h)
    · skip
      refine s_iconst (v := 0) dX9_findSeat_23 rfl cI_0 ?_
      refine s_istoreL (fun v3 => [(5, .int v3), (0, .ref (X.1 + 66)), (1, .ref (X.1 + q1)), (2, .int c2), (3, .int c3), (4, .int w4)]) dX9_findSeat_24 rfl (by decide) (fun _ => rfl) (fun v3 => ?_)
      refine s_pick [1, 2, 3, 4, 5, 0] rfl ?_
      refine sm_reg (x9_findSeat_L26_ok hK ht hq1 FU v3 I) (fun e14 => ?_)
      refine s_iincL 4 (c := 1) (fun v15 => [(4, .int v15), (0, .ref (X.1 + 66)), (1, .ref (X.1 + q1)), (2, .int c2), (3, .int c3)]) dX9_findSeat_108 rfl rfl cI_1 (by decide) (fun _ => rfl) (fun v15 => ?_)
      refine s_goto (tgt := 8) dX9_findSeat_111 rfl ?_
      refine s_pick [1, 2, 3, 4, 0] rfl ?_
      exact ih v15 e14
theorem ct_x9_findSeat {X : WX} {t : Nat} {q1 : Nat} {p2 : Int32} {p3 : Int32} {I : MI} {L : ML} {R : MR} {S : MS} (hK : okr R S) (ht : R 27 0 = some t ∧ isT t) (hq1 : isSt R S q1) : Ct X yX9_findSeat cX9_findSeat 7 none 6 154 [.ref (X.1 + 66), .ref (X.1 + q1), .int p2, .int p3] (I, L, R, S) (x9_findSeat t q1 p2 p3 I) (fun r => (none, (r, L, R, S))) := by
  refine Ct.of (by decide) (Nat.le_of_ble_eq_true rfl) [(0, .ref (X.1 + 66)), (1, .ref (X.1 + q1)), (2, .int p2), (3, .int p3)] rfl ?_
  unfold x9_findSeat
  refine s_aload_n 0 dX9_findSeat_0 rfl rfl ?_
  refine s_iconst (v := (-1)) dX9_findSeat_1 rfl cI_m1 ?_
  refine s_putIL dX9_findSeat_2 rfl fl_9_58 (S_66 hK) (fun I1 => ?_)
  refine s_iconst (v := 0) dX9_findSeat_5 rfl cI_0 ?_
  refine s_istoreL (fun v2 => [(4, .int v2), (0, .ref (X.1 + 66)), (1, .ref (X.1 + q1)), (2, .int p2), (3, .int p3)]) dX9_findSeat_6 rfl (by decide) (fun _ => rfl) (fun v2 => ?_)
  refine s_pick [1, 2, 3, 4, 0] rfl ?_
  refine sm_reg (x9_findSeat_L8_ok hK ht hq1 FU v2 I1) (fun e16 => ?_)
  exact s_vret dX9_findSeat_114 rfl (fun f h => h)
noncomputable def x10_seat (t : Nat) (p1 : Int32) (p2 : Int32) (p3 : Int32) (I : MI) : Option (Int32 × MI) :=
b1 (x10_isBobber t p1 I) fun r1 =>
if r1 = 0 then (
some ((-1 : Int32), I)) else
b1 (x10_isTrialTurns p2 I) fun r2 =>
if r2 = 0 then (
some ((-1 : Int32), I)) else
if p3 < 0 then (
some ((-1 : Int32), I)) else
if 2 < p3 then (
some ((-1 : Int32), I)) else
b1 (x9_findSeat t 47 p1 p2 I) fun I3 =>
if p3 = 0 then (
some ((I3 66 6), I3)) else
if p3 = 1 then (
some ((I3 66 7), I3)) else
some ((I3 66 8), I3)
theorem ct_x10_seat {X : WX} {t : Nat} {p1 : Int32} {p2 : Int32} {p3 : Int32} {I : MI} {L : ML} {R : MR} {S : MS} (hK : okr R S) (ht : R 27 0 = some t ∧ isT t) : Ct X yX10_seat cX10_seat 4 (some .int) 7 180 [.ref (X.1 + 0), .int p1, .int p2, .int p3] (I, L, R, S) (x10_seat t p1 p2 p3 I) (fun r => (some (.int r.1), (r.2, L, R, S))) := by
  refine Ct.of (by decide) (Nat.le_of_ble_eq_true rfl) [(0, .ref (X.1 + 0)), (1, .int p1), (2, .int p2), (3, .int p3)] rfl ?_
  unfold x10_seat
  refine s_aload_n 0 dX10_seat_0 rfl rfl ?_
  refine s_iload_n 1 dX10_seat_1 rfl rfl ?_
  refine s_callV1_i0 dX10_seat_2 rfl lkV_RX10_143 (S_0 hK) (Nat.le_of_ble_eq_true rfl) (Nat.le_of_ble_eq_true rfl) (Nat.le_of_ble_eq_true rfl) (ct_x10_isBobber hK ht) (fun r1 => ?_)
  refine s_if_eq (tgt := 24) dX10_seat_5 rfl rfl (fun _ => ?_) (fun _ => ?_)
  · skip
    refine s_iconst (v := (-1)) dX10_seat_24 rfl cI_m1 ?_
    exact s_iret dX10_seat_25 rfl (fun f h => h)
  · skip
    refine s_iload_n 2 dX10_seat_8 rfl rfl ?_
    refine s_callS1_i0 dX10_seat_9 rfl lkS_RX10_243 (Nat.le_of_ble_eq_true rfl) (Nat.le_of_ble_eq_true rfl) (Nat.le_of_ble_eq_true rfl) (ct_x10_isTrialTurns hK) (fun r2 => ?_)
    refine s_if_eq (tgt := 24) dX10_seat_12 rfl rfl (fun _ => ?_) (fun _ => ?_)
    · skip
      refine s_iconst (v := (-1)) dX10_seat_24 rfl cI_m1 ?_
      exact s_iret dX10_seat_25 rfl (fun f h => h)
    · skip
      refine s_iload_n 3 dX10_seat_15 rfl rfl ?_
      refine s_if_lt (tgt := 24) dX10_seat_16 rfl rfl (fun _ => ?_) (fun _ => ?_)
      · skip
        refine s_iconst (v := (-1)) dX10_seat_24 rfl cI_m1 ?_
        exact s_iret dX10_seat_25 rfl (fun f h => h)
      · skip
        refine s_iload_n 3 dX10_seat_19 rfl rfl ?_
        refine s_iconst (v := 2) dX10_seat_20 rfl cI_2 ?_
        refine s_icmp_le (tgt := 26) dX10_seat_21 rfl rfl (fun _ => ?_) (fun _ => ?_)
        · skip
          refine s_aload_n 0 dX10_seat_26 rfl rfl ?_
          refine s_getR 66 dX10_seat_27 rfl fl_10_70 rfl (S_0 hK) (R_0_10 hK) ?_
          refine s_aload_n 0 dX10_seat_30 rfl rfl ?_
          refine s_getR 47 dX10_seat_31 rfl fl_10_39 rfl (S_0 hK) (R_0_5 hK) ?_
          refine s_iload_n 1 dX10_seat_34 rfl rfl ?_
          refine s_iload_n 2 dX10_seat_35 rfl rfl ?_
          refine s_callV3_v1 dX10_seat_36 rfl lkV_RX10_246 (S_66 hK) (Nat.le_of_ble_eq_true rfl) (Nat.le_of_ble_eq_true rfl) (Nat.le_of_ble_eq_true rfl) (ct_x9_findSeat hK ht (st_47 hK)) (fun I3 => ?_)
          refine s_iload_n 3 dX10_seat_39 rfl rfl ?_
          refine s_if_ne (tgt := 51) dX10_seat_40 rfl rfl (fun _ => ?_) (fun _ => ?_)
          · skip
            refine s_iload_n 3 dX10_seat_51 rfl rfl ?_
            refine s_iconst (v := 1) dX10_seat_52 rfl cI_1 ?_
            refine s_icmp_ne (tgt := 66) dX10_seat_53 rfl rfl (fun _ => ?_) (fun _ => ?_)
            · skip
              refine s_aload_n 0 dX10_seat_66 rfl rfl ?_
              refine s_getR 66 dX10_seat_67 rfl fl_10_70 rfl (S_0 hK) (R_0_10 hK) ?_
              refine s_getI dX10_seat_70 rfl fl_10_256 (S_66 hK) ?_
              exact s_iret dX10_seat_73 rfl (fun f h => h)
            · skip
              refine s_aload_n 0 dX10_seat_56 rfl rfl ?_
              refine s_getR 66 dX10_seat_57 rfl fl_10_70 rfl (S_0 hK) (R_0_10 hK) ?_
              refine s_getI dX10_seat_60 rfl fl_10_253 (S_66 hK) ?_
              refine s_goto (tgt := 73) dX10_seat_63 rfl ?_
              exact s_iret dX10_seat_73 rfl (fun f h => h)
          · skip
            refine s_aload_n 0 dX10_seat_43 rfl rfl ?_
            refine s_getR 66 dX10_seat_44 rfl fl_10_70 rfl (S_0 hK) (R_0_10 hK) ?_
            refine s_getI dX10_seat_47 rfl fl_10_250 (S_66 hK) ?_
            exact s_iret dX10_seat_50 rfl (fun f h => h)
        · skip
          refine s_iconst (v := (-1)) dX10_seat_24 rfl cI_m1 ?_
          exact s_iret dX10_seat_25 rfl (fun f h => h)
noncomputable def x9_isOrder_L10s (c2 : Int32) (rec : Int32 → Int32 → Int32 → MI → Option (Int32 × MI)) (w3 : Int32) (w4 : Int32) (w5 : Int32) (I : MI) : Option (Int32 × MI) :=
if w5 < 0 then (
some (w4, I)) else
ck (¬ c2 = 0) <|
ck (vp_in w5 4) <|
lt (wI I 80 (ix w5) (rm w3 c2)) fun I5 =>
ck (vp_in w5 4) <|
lt (w4 ||| ((1 : Int32) <<< ((I5 80 (ix w5)) &&& 31))) fun v8 =>
ck (¬ c2 = 0) <|
lt (w3 / c2) fun v10 =>
lt (w5 + (-1)) fun v11 =>
rec v10 v8 v11 I5
noncomputable def x9_isOrder_L10 (c2 : Int32) : Nat → Int32 → Int32 → Int32 → MI → Option (Int32 × MI)
  | 0 => fun _ _ _ _ => none
  | n + 1 => x9_isOrder_L10s c2 (x9_isOrder_L10 c2 n)
noncomputable def x9_isOrder (p1 : Int32) (p2 : Int32) (I : MI) : Option (Int32 × MI) :=
lt p1 fun v1 =>
lt (0 : Int32) fun v2 =>
lt (p2 - 1) fun v3 =>
b1 (x9_isOrder_L10 p2 FU v1 v2 v3 I) fun e12 =>
b1 (j6_bitCount_0f7a4 e12.1 e12.2) fun r13 =>
if r13 = p2 then (
some ((1 : Int32), e12.2)) else
some ((0 : Int32), e12.2)
theorem x9_isOrder_L10_ok {X : WX} {n0 s0 : Nat} {c2 : Int32} {L : ML} {R : MR} {S : MS} (hK : okr R S) : ∀ (n : Nat) (w3 : Int32) (w4 : Int32) (w5 : Int32) (I : MI), Sim X yX9_isOrder cX9_isOrder 6 (some .boolean) 1 20 n0 s0 10 [(0, .ref (X.1 + 66)), (2, .int c2), (3, .int w3), (4, .int w4), (5, .int w5)] [] (I, L, R, S) (x9_isOrder_L10 c2 n w3 w4 w5 I) (fun b f => Ex X yX9_isOrder cX9_isOrder 6 (some .boolean) 1 20 n0 s0 49 [(2, .int c2), (4, .int b.1)] [] (b.2, L, R, S) f) := by
  intro n
  induction n with
  | zero =>
    intro w3 w4 w5 I
    exact sm_none
  | succ n ih =>
    intro w3 w4 w5 I
    change Sim _ _ _ _ _ _ _ _ _ _ _ _ _ (x9_isOrder_L10s c2 (x9_isOrder_L10 c2 n) w3 w4 w5 I) _
    unfold x9_isOrder_L10s
    refine s_iload 4 dX9_isOrder_10 rfl rfl ?_
    refine s_if_lt (tgt := 49) dX9_isOrder_12 rfl rfl (fun _ => ?_) (fun _ => ?_)
    · skip
      refine s_pick [1, 3] rfl ?_
      exact sm_exit (fun f h => h)
    · skip
      refine s_aload_n 0 dX9_isOrder_15 rfl rfl ?_
      refine s_getR 80 dX9_isOrder_16 rfl fl_9_22 rfl (S_66 hK) (R_66_3 hK) ?_
      refine s_iload 4 dX9_isOrder_19 rfl rfl ?_
      refine s_iload_n 2 dX9_isOrder_21 rfl rfl ?_
      refine s_iload_n 1 dX9_isOrder_22 rfl rfl ?_
      refine sm_ck (fun g4 => ?_)
      refine s_irem dX9_isOrder_23 rfl g4 ?_
      refine sm_ck (fun g6 => ?_)
      refine s_iastL dX9_isOrder_24 rfl (S_80 hK) g6 (fun I5 => ?_)
      refine s_iload 3 dX9_isOrder_25 rfl rfl ?_
      refine s_iconst (v := 1) dX9_isOrder_27 rfl cI_1 ?_
      refine s_aload_n 0 dX9_isOrder_28 rfl rfl ?_
      refine s_getR 80 dX9_isOrder_29 rfl fl_9_22 rfl (S_66 hK) (R_66_3 hK) ?_
      refine s_iload 4 dX9_isOrder_32 rfl rfl ?_
      refine sm_ck (fun g7 => ?_)
      refine s_iald dX9_isOrder_34 rfl (S_80 hK) g7 ?_
      refine s_ishl dX9_isOrder_35 rfl ?_
      refine s_ior dX9_isOrder_36 rfl ?_
      refine s_istoreL (fun v8 => [(4, .int v8), (0, .ref (X.1 + 66)), (2, .int c2), (3, .int w3), (5, .int w5)]) dX9_isOrder_37 rfl (by decide) (fun _ => rfl) (fun v8 => ?_)
      refine s_iload_n 3 dX9_isOrder_39 rfl rfl ?_
      refine s_iload_n 2 dX9_isOrder_40 rfl rfl ?_
      refine sm_ck (fun g9 => ?_)
      refine s_idiv dX9_isOrder_41 rfl g9 ?_
      refine s_istore_nL (fun v10 => [(3, .int v10), (4, .int v8), (0, .ref (X.1 + 66)), (2, .int c2), (5, .int w5)]) dX9_isOrder_42 rfl (by decide) (fun _ => rfl) (fun v10 => ?_)
      refine s_iincL 4 (c := (-1)) (fun v11 => [(5, .int v11), (3, .int v10), (4, .int v8), (0, .ref (X.1 + 66)), (2, .int c2)]) dX9_isOrder_43 rfl rfl cI_m1 (by decide) (fun _ => rfl) (fun v11 => ?_)
      refine s_goto (tgt := 10) dX9_isOrder_46 rfl ?_
      refine s_pick [3, 4, 1, 2, 0] rfl ?_
      exact ih v10 v8 v11 I5
theorem ct_x9_isOrder {X : WX} {p1 : Int32} {p2 : Int32} {I : MI} {L : ML} {R : MR} {S : MS} (hK : okr R S) : Ct X yX9_isOrder cX9_isOrder 6 (some .boolean) 1 20 [.ref (X.1 + 66), .int p1, .int p2] (I, L, R, S) (x9_isOrder p1 p2 I) (fun r => (some (.int r.1), (r.2, L, R, S))) := by
  refine Ct.of (by decide) (Nat.le_of_ble_eq_true rfl) [(0, .ref (X.1 + 66)), (1, .int p1), (2, .int p2)] rfl ?_
  unfold x9_isOrder
  refine s_iload_n 1 dX9_isOrder_0 rfl rfl ?_
  refine s_istore_nL (fun v1 => [(3, .int v1), (0, .ref (X.1 + 66)), (1, .int p1), (2, .int p2)]) dX9_isOrder_1 rfl (by decide) (fun _ => rfl) (fun v1 => ?_)
  refine s_iconst (v := 0) dX9_isOrder_2 rfl cI_0 ?_
  refine s_istoreL (fun v2 => [(4, .int v2), (3, .int v1), (0, .ref (X.1 + 66)), (1, .int p1), (2, .int p2)]) dX9_isOrder_3 rfl (by decide) (fun _ => rfl) (fun v2 => ?_)
  refine s_iload_n 4 dX9_isOrder_5 rfl rfl ?_
  refine s_iconst (v := 1) dX9_isOrder_6 rfl cI_1 ?_
  refine s_isub dX9_isOrder_7 rfl ?_
  refine s_istoreL (fun v3 => [(5, .int v3), (4, .int v2), (3, .int v1), (0, .ref (X.1 + 66)), (1, .int p1), (2, .int p2)]) dX9_isOrder_8 rfl (by decide) (fun _ => rfl) (fun v3 => ?_)
  refine s_pick [3, 5, 2, 1, 0] rfl ?_
  refine sm_reg (x9_isOrder_L10_ok hK FU v1 v2 v3 I) (fun e12 => ?_)
  refine s_iload 1 dX9_isOrder_49 rfl rfl ?_
  refine s_callS1_i0 dX9_isOrder_51 rfl lkS_RX9_107 (Nat.le_of_ble_eq_true rfl) (Nat.le_of_ble_eq_true rfl) (Nat.le_of_ble_eq_true rfl) ct_j6_bitCount_0f7a4 (fun r13 => ?_)
  refine s_iload_n 0 dX9_isOrder_54 rfl rfl ?_
  refine s_icmp_ne (tgt := 62) dX9_isOrder_55 rfl rfl (fun _ => ?_) (fun _ => ?_)
  · skip
    refine s_iconst (v := 0) dX9_isOrder_62 rfl cI_0 ?_
    exact s_zret dX9_isOrder_63 rfl (Or.inl rfl) (fun f h => h)
  · skip
    refine s_iconst (v := 1) dX9_isOrder_58 rfl cI_1 ?_
    refine s_goto (tgt := 63) dX9_isOrder_59 rfl ?_
    exact s_zret dX9_isOrder_63 rfl (Or.inr rfl) (fun f h => h)
noncomputable def x9_gotInOrder_L22s (t : Nat) (q1 : Nat) (rec : Int32 → Int32 → MI → Option (Int32 × MI)) (w3 : Int32) (w5 : Int32) (I : MI) : Option (Int32 × MI) :=
if w5 < (I t 11) then (
ck (vp_in w5 4) <|
ck (vp_in w5 4) <|
b1 (x8_ruleOf t (I 80 (ix w5)) I) fun r7 =>
b2 (x1_turnOf t 67 (I 80 (ix w5)) r7 I) fun r8 I9 =>
lt (w3 + r8) fun v10 =>
lt (w5 + 1) fun v11 =>
rec v10 v11 I9) else
some (w3, I)
noncomputable def x9_gotInOrder_L22 (t : Nat) (q1 : Nat) : Nat → Int32 → Int32 → MI → Option (Int32 × MI)
  | 0 => fun _ _ _ => none
  | n + 1 => x9_gotInOrder_L22s t q1 (x9_gotInOrder_L22 t q1 n)
noncomputable def x9_gotInOrder_L13s (t : Nat) (q1 : Nat) (c2 : Int32) (rec : Int32 → Int32 → MI → Option (Int32 × MI)) (w3 : Int32) (w4 : Int32) (I : MI) : Option (Int32 × MI) :=
if w4 < c2 then (
lt (0 : Int32) fun v4 =>
b1 (x9_gotInOrder_L22 t q1 FU w3 v4 I) fun e12 =>
lt (w4 + 1) fun v13 =>
rec e12.1 v13 e12.2) else
some (w3, I)
noncomputable def x9_gotInOrder_L13 (t : Nat) (q1 : Nat) (c2 : Int32) : Nat → Int32 → Int32 → MI → Option (Int32 × MI)
  | 0 => fun _ _ _ => none
  | n + 1 => x9_gotInOrder_L13s t q1 c2 (x9_gotInOrder_L13 t q1 c2 n)
noncomputable def x9_gotInOrder (t : Nat) (q1 : Nat) (p2 : Int32) (I : MI) : Option (Int32 × MI) :=
b1 (x7_copyPlay 67 q1 I) fun I1 =>
lt (0 : Int32) fun v2 =>
lt (0 : Int32) fun v3 =>
b1 (x9_gotInOrder_L13 t q1 p2 FU v2 v3 I1) fun e14 =>
some (e14.1, e14.2)
theorem x9_gotInOrder_L22_ok {X : WX} {n0 s0 : Nat} {t : Nat} {q1 : Nat} {c2 : Int32} {c4 : Int32} {L : ML} {R : MR} {S : MS} (hK : okr R S) (ht : R 27 0 = some t ∧ isT t) (hq1 : isSt R S q1) : ∀ (n : Nat) (w3 : Int32) (w5 : Int32) (I : MI), Sim X yX9_gotInOrder cX9_gotInOrder 6 (some .int) 5 127 n0 s0 22 [(0, .ref (X.1 + 66)), (2, .int c2), (3, .int w3), (4, .int c4), (5, .int w5)] [] (I, L, R, S) (x9_gotInOrder_L22 t q1 n w3 w5 I) (fun b f => Ex X yX9_gotInOrder cX9_gotInOrder 6 (some .int) 5 127 n0 s0 81 [(0, .ref (X.1 + 66)), (2, .int c2), (3, .int b.1), (4, .int c4)] [] (b.2, L, R, S) f) := by
  intro n
  induction n with
  | zero =>
    intro w3 w5 I
    exact sm_none
  | succ n ih =>
    intro w3 w5 I
    change Sim _ _ _ _ _ _ _ _ _ _ _ _ _ (x9_gotInOrder_L22s t q1 (x9_gotInOrder_L22 t q1 n) w3 w5 I) _
    unfold x9_gotInOrder_L22s
    refine s_iload 4 dX9_gotInOrder_22 rfl rfl ?_
    refine s_aload_n 0 dX9_gotInOrder_24 rfl rfl ?_
    refine s_getR 27 dX9_gotInOrder_25 rfl fl_9_31 rfl (S_66 hK) (R_66_0 hK) ?_
    refine s_getR t dX9_gotInOrder_28 rfl fl_9_45 rfl (S_27 hK) ht.1 ?_
    refine s_getI dX9_gotInOrder_31 rfl fl_9_91 (tS_0 hK ht.2) ?_
    refine s_icmp_ge (tgt := 81) dX9_gotInOrder_34 rfl rfl (fun _ => ?_) (fun _ => ?_)
    · skip
      refine s_pick [0, 1, 2, 3] rfl ?_
      exact sm_exit (fun f h => h)
    · skip
      refine s_iload_n 2 dX9_gotInOrder_37 rfl rfl ?_
      refine s_aload_n 0 dX9_gotInOrder_38 rfl rfl ?_
      refine s_getR 27 dX9_gotInOrder_39 rfl fl_9_31 rfl (S_66 hK) (R_66_0 hK) ?_
      refine s_aload_n 0 dX9_gotInOrder_42 rfl rfl ?_
      refine s_getR 67 dX9_gotInOrder_43 rfl fl_9_12 rfl (S_66 hK) (R_66_1 hK) ?_
      refine s_aload_n 0 dX9_gotInOrder_46 rfl rfl ?_
      refine s_getR 80 dX9_gotInOrder_47 rfl fl_9_22 rfl (S_66 hK) (R_66_3 hK) ?_
      refine s_iload 4 dX9_gotInOrder_50 rfl rfl ?_
      refine sm_ck (fun g5 => ?_)
      refine s_iald dX9_gotInOrder_52 rfl (S_80 hK) g5 ?_
      refine s_aload_n 0 dX9_gotInOrder_53 rfl rfl ?_
      refine s_getR 27 dX9_gotInOrder_54 rfl fl_9_31 rfl (S_66 hK) (R_66_0 hK) ?_
      refine s_getR t dX9_gotInOrder_57 rfl fl_9_45 rfl (S_27 hK) ht.1 ?_
      refine s_aload_n 0 dX9_gotInOrder_60 rfl rfl ?_
      refine s_getR 80 dX9_gotInOrder_61 rfl fl_9_22 rfl (S_66 hK) (R_66_3 hK) ?_
      refine s_iload 4 dX9_gotInOrder_64 rfl rfl ?_
      refine sm_ck (fun g6 => ?_)
      refine s_iald dX9_gotInOrder_66 rfl (S_80 hK) g6 ?_
      refine s_callV1_i0 dX9_gotInOrder_67 rfl lkV_RX9_87 (tS_0 hK ht.2) (Nat.le_of_ble_eq_true rfl) (Nat.le_of_ble_eq_true rfl) (Nat.le_of_ble_eq_true rfl) (ct_x8_ruleOf hK ht.2) (fun r7 => ?_)
      refine s_callV3_i1 dX9_gotInOrder_70 rfl lkV_RX9_39 (S_27 hK) (Nat.le_of_ble_eq_true rfl) (Nat.le_of_ble_eq_true rfl) (Nat.le_of_ble_eq_true rfl) (ct_x1_turnOf hK ht (st_67 hK)) (fun r8 I9 => ?_)
      refine s_iadd dX9_gotInOrder_73 rfl ?_
      refine s_istore_nL (fun v10 => [(3, .int v10), (0, .ref (X.1 + 66)), (2, .int c2), (4, .int c4), (5, .int w5)]) dX9_gotInOrder_74 rfl (by decide) (fun _ => rfl) (fun v10 => ?_)
      refine s_iincL 4 (c := 1) (fun v11 => [(5, .int v11), (3, .int v10), (0, .ref (X.1 + 66)), (2, .int c2), (4, .int c4)]) dX9_gotInOrder_75 rfl rfl cI_1 (by decide) (fun _ => rfl) (fun v11 => ?_)
      refine s_goto (tgt := 22) dX9_gotInOrder_78 rfl ?_
      refine s_pick [2, 3, 1, 4, 0] rfl ?_
      exact ih v10 v11 I9
theorem x9_gotInOrder_L13_ok {X : WX} {n0 s0 : Nat} {t : Nat} {q1 : Nat} {c2 : Int32} {L : ML} {R : MR} {S : MS} (hK : okr R S) (ht : R 27 0 = some t ∧ isT t) (hq1 : isSt R S q1) : ∀ (n : Nat) (w3 : Int32) (w4 : Int32) (I : MI), Sim X yX9_gotInOrder cX9_gotInOrder 6 (some .int) 5 127 n0 s0 13 [(0, .ref (X.1 + 66)), (2, .int c2), (3, .int w3), (4, .int w4)] [] (I, L, R, S) (x9_gotInOrder_L13 t q1 c2 n w3 w4 I) (fun b f => Ex X yX9_gotInOrder cX9_gotInOrder 6 (some .int) 5 127 n0 s0 87 [(3, .int b.1)] [] (b.2, L, R, S) f) := by
  intro n
  induction n with
  | zero =>
    intro w3 w4 I
    exact sm_none
  | succ n ih =>
    intro w3 w4 I
    change Sim _ _ _ _ _ _ _ _ _ _ _ _ _ (x9_gotInOrder_L13s t q1 c2 (x9_gotInOrder_L13 t q1 c2 n) w3 w4 I) _
    unfold x9_gotInOrder_L13s
    refine s_iload 3 dX9_gotInOrder_13 rfl rfl ?_
    refine s_iload_n 1 dX9_gotInOrder_15 rfl rfl ?_
    refine s_icmp_ge (tgt := 87) dX9_gotInOrder_16 rfl rfl (fun _ => ?_) (fun _ => ?_)
    · skip
      refine s_pick [2] rfl ?_
      exact sm_exit (fun f h => h)
    · skip
      refine s_iconst (v := 0) dX9_gotInOrder_19 rfl cI_0 ?_
      refine s_istoreL (fun v4 => [(5, .int v4), (0, .ref (X.1 + 66)), (2, .int c2), (3, .int w3), (4, .int w4)]) dX9_gotInOrder_20 rfl (by decide) (fun _ => rfl) (fun v4 => ?_)
      refine s_pick [1, 2, 3, 4, 0] rfl ?_
      refine sm_reg (x9_gotInOrder_L22_ok hK ht hq1 FU w3 v4 I) (fun e12 => ?_)
      refine s_iincL 3 (c := 1) (fun v13 => [(4, .int v13), (0, .ref (X.1 + 66)), (2, .int c2), (3, .int e12.1)]) dX9_gotInOrder_81 rfl rfl cI_1 (by decide) (fun _ => rfl) (fun v13 => ?_)
      refine s_goto (tgt := 13) dX9_gotInOrder_84 rfl ?_
      refine s_pick [1, 2, 3, 0] rfl ?_
      exact ih e12.1 v13 e12.2
theorem ct_x9_gotInOrder {X : WX} {t : Nat} {q1 : Nat} {p2 : Int32} {I : MI} {L : ML} {R : MR} {S : MS} (hK : okr R S) (ht : R 27 0 = some t ∧ isT t) (hq1 : isSt R S q1) : Ct X yX9_gotInOrder cX9_gotInOrder 6 (some .int) 5 127 [.ref (X.1 + 66), .ref (X.1 + q1), .int p2] (I, L, R, S) (x9_gotInOrder t q1 p2 I) (fun r => (some (.int r.1), (r.2, L, R, S))) := by
  refine Ct.of (by decide) (Nat.le_of_ble_eq_true rfl) [(0, .ref (X.1 + 66)), (1, .ref (X.1 + q1)), (2, .int p2)] rfl ?_
  unfold x9_gotInOrder
  refine s_aload_n 0 dX9_gotInOrder_0 rfl rfl ?_
  refine s_getR 67 dX9_gotInOrder_1 rfl fl_9_12 rfl (S_66 hK) (R_66_1 hK) ?_
  refine s_aload_n 1 dX9_gotInOrder_4 rfl rfl ?_
  refine s_callV1_v1 dX9_gotInOrder_5 rfl lkV_RX9_35 (S_67 hK) (Nat.le_of_ble_eq_true rfl) (Nat.le_of_ble_eq_true rfl) (Nat.le_of_ble_eq_true rfl) (ct_x7_copyPlay hK (st_67 hK) hq1) (fun I1 => ?_)
  refine s_iconst (v := 0) dX9_gotInOrder_8 rfl cI_0 ?_
  refine s_istore_nL (fun v2 => [(3, .int v2), (0, .ref (X.1 + 66)), (1, .ref (X.1 + q1)), (2, .int p2)]) dX9_gotInOrder_9 rfl (by decide) (fun _ => rfl) (fun v2 => ?_)
  refine s_iconst (v := 0) dX9_gotInOrder_10 rfl cI_0 ?_
  refine s_istoreL (fun v3 => [(4, .int v3), (3, .int v2), (0, .ref (X.1 + 66)), (1, .ref (X.1 + q1)), (2, .int p2)]) dX9_gotInOrder_11 rfl (by decide) (fun _ => rfl) (fun v3 => ?_)
  refine s_pick [2, 4, 1, 0] rfl ?_
  refine sm_reg (x9_gotInOrder_L13_ok hK ht hq1 FU v2 v3 I1) (fun e14 => ?_)
  refine s_iload_n 0 dX9_gotInOrder_87 rfl rfl ?_
  exact s_iret dX9_gotInOrder_88 rfl (fun f h => h)
noncomputable def x9_findOrder_L17s (t : Nat) (q1 : Nat) (c3 : Int32) (rec : Int32 → Int32 → Option (Int32)) (w4 : Int32) (w5 : Int32) : Option (Int32) :=
if w5 < c3 then (
lt (w4 * c3) fun v4 =>
lt (w5 + 1) fun v5 =>
rec v4 v5) else
some w4
noncomputable def x9_findOrder_L17 (t : Nat) (q1 : Nat) (c3 : Int32) : Nat → Int32 → Int32 → Option (Int32)
  | 0 => fun _ _ => none
  | n + 1 => x9_findOrder_L17s t q1 c3 (x9_findOrder_L17 t q1 c3 n)
noncomputable def x9_findOrder_L41s (t : Nat) (q1 : Nat) (c2 : Int32) (c3 : Int32) (c4 : Int32) (rec : Int32 → Int32 → MI → Option (Int32 × MI)) (w5 : Int32) (w6 : Int32) (I : MI) : Option (Int32 × MI) :=
if w6 < c4 then (
b2 (x9_isOrder w6 c3 I) fun r9 I10 =>
if r9 = 0 then (
lt (w6 + 1) fun v11 =>
rec w5 v11 I10) else
b2 (x9_gotInOrder t q1 c2 I10) fun r12 I13 =>
lt r12 fun v14 =>
if w5 < v14 then (
lt v14 fun v16 =>
lt (cpI I13 80 82 0 0 4) fun I17 =>
lt (w6 + 1) fun v18 =>
rec v16 v18 I17) else
lt (w6 + 1) fun v15 =>
rec w5 v15 I13) else
some (w5, I)
noncomputable def x9_findOrder_L41 (t : Nat) (q1 : Nat) (c2 : Int32) (c3 : Int32) (c4 : Int32) : Nat → Int32 → Int32 → MI → Option (Int32 × MI)
  | 0 => fun _ _ _ => none
  | n + 1 => x9_findOrder_L41s t q1 c2 c3 c4 (x9_findOrder_L41 t q1 c2 c3 c4 n)
noncomputable def x9_findOrder (t : Nat) (q1 : Nat) (p2 : Int32) (I : MI) : Option (Int32 × MI) :=
lt (I t 11) fun v1 =>
lt (1 : Int32) fun v2 =>
lt (0 : Int32) fun v3 =>
b1 (x9_findOrder_L17 t q1 v1 FU v2 v3) fun e6 =>
lt (-1 : Int32) fun v7 =>
lt (0 : Int32) fun v8 =>
b1 (x9_findOrder_L41 t q1 p2 v1 e6 FU v7 v8 I) fun e19 =>
some (e19.1, e19.2)
theorem x9_findOrder_L17_ok {X : WX} {n0 s0 : Nat} {t : Nat} {q1 : Nat} {c2 : Int32} {c3 : Int32} {I : MI} {L : ML} {R : MR} {S : MS} (hK : okr R S) (ht : R 27 0 = some t ∧ isT t) (hq1 : isSt R S q1) : ∀ (n : Nat) (w4 : Int32) (w5 : Int32), Sim X yX9_findOrder cX9_findOrder 8 (some .int) 6 152 n0 s0 17 [(0, .ref (X.1 + 66)), (1, .ref (X.1 + q1)), (2, .int c2), (3, .int c3), (4, .int w4), (5, .int w5)] [] (I, L, R, S) (x9_findOrder_L17 t q1 c3 n w4 w5) (fun b f => Ex X yX9_findOrder cX9_findOrder 8 (some .int) 6 152 n0 s0 35 [(0, .ref (X.1 + 66)), (1, .ref (X.1 + q1)), (2, .int c2), (3, .int c3), (4, .int b)] [] (I, L, R, S) f) := by
  intro n
  induction n with
  | zero =>
    intro w4 w5
    exact sm_none
  | succ n ih =>
    intro w4 w5
    change Sim _ _ _ _ _ _ _ _ _ _ _ _ _ (x9_findOrder_L17s t q1 c3 (x9_findOrder_L17 t q1 c3 n) w4 w5) _
    unfold x9_findOrder_L17s
    refine s_iload 5 dX9_findOrder_17 rfl rfl ?_
    refine s_iload_n 3 dX9_findOrder_19 rfl rfl ?_
    refine s_icmp_ge (tgt := 35) dX9_findOrder_20 rfl rfl (fun _ => ?_) (fun _ => ?_)
    · skip
      refine s_pick [0, 1, 2, 3, 4] rfl ?_
      exact sm_exit (fun f h => h)
    · skip
      refine s_iload 4 dX9_findOrder_23 rfl rfl ?_
      refine s_iload_n 3 dX9_findOrder_25 rfl rfl ?_
      refine s_imul dX9_findOrder_26 rfl ?_
      refine s_istoreL (fun v4 => [(4, .int v4), (0, .ref (X.1 + 66)), (1, .ref (X.1 + q1)), (2, .int c2), (3, .int c3), (5, .int w5)]) dX9_findOrder_27 rfl (by decide) (fun _ => rfl) (fun v4 => ?_)
      refine s_iincL 5 (c := 1) (fun v5 => [(5, .int v5), (4, .int v4), (0, .ref (X.1 + 66)), (1, .ref (X.1 + q1)), (2, .int c2), (3, .int c3)]) dX9_findOrder_29 rfl rfl cI_1 (by decide) (fun _ => rfl) (fun v5 => ?_)
      refine s_goto (tgt := 17) dX9_findOrder_32 rfl ?_
      refine s_pick [2, 3, 4, 5, 1, 0] rfl ?_
      exact ih v4 v5
theorem x9_findOrder_L41_ok {X : WX} {n0 s0 : Nat} {t : Nat} {q1 : Nat} {c2 : Int32} {c3 : Int32} {c4 : Int32} {L : ML} {R : MR} {S : MS} (hK : okr R S) (ht : R 27 0 = some t ∧ isT t) (hq1 : isSt R S q1) : ∀ (n : Nat) (w5 : Int32) (w6 : Int32) (I : MI), Sim X yX9_findOrder cX9_findOrder 8 (some .int) 6 152 n0 s0 41 [(0, .ref (X.1 + 66)), (1, .ref (X.1 + q1)), (2, .int c2), (3, .int c3), (4, .int c4), (5, .int w5), (6, .int w6)] [] (I, L, R, S) (x9_findOrder_L41 t q1 c2 c3 c4 n w5 w6 I) (fun b f => Ex X yX9_findOrder cX9_findOrder 8 (some .int) 6 152 n0 s0 97 [(5, .int b.1)] [] (b.2, L, R, S) f) := by
  intro n
  induction n with
  | zero =>
    intro w5 w6 I
    exact sm_none
  | succ n ih =>
    intro w5 w6 I
    change Sim _ _ _ _ _ _ _ _ _ _ _ _ _ (x9_findOrder_L41s t q1 c2 c3 c4 (x9_findOrder_L41 t q1 c2 c3 c4 n) w5 w6 I) _
    unfold x9_findOrder_L41s
    refine s_iload 6 dX9_findOrder_41 rfl rfl ?_
    refine s_iload 4 dX9_findOrder_43 rfl rfl ?_
    refine s_icmp_ge (tgt := 97) dX9_findOrder_45 rfl rfl (fun _ => ?_) (fun _ => ?_)
    · skip
      refine s_pick [5] rfl ?_
      exact sm_exit (fun f h => h)
    · skip
      refine s_aload_n 0 dX9_findOrder_48 rfl rfl ?_
      refine s_iload 6 dX9_findOrder_49 rfl rfl ?_
      refine s_iload_n 3 dX9_findOrder_51 rfl rfl ?_
      refine s_callV2_i1 dX9_findOrder_52 rfl lkV_RX9_94 (S_66 hK) (Nat.le_of_ble_eq_true rfl) (Nat.le_of_ble_eq_true rfl) (Nat.le_of_ble_eq_true rfl) (ct_x9_isOrder hK) (fun r9 I10 => ?_)
      refine s_if_eq (tgt := 91) dX9_findOrder_55 rfl rfl (fun _ => ?_) (fun _ => ?_)
      · skip
        refine s_iincL 6 (c := 1) (fun v11 => [(6, .int v11), (0, .ref (X.1 + 66)), (1, .ref (X.1 + q1)), (2, .int c2), (3, .int c3), (4, .int c4), (5, .int w5)]) dX9_findOrder_91 rfl rfl cI_1 (by decide) (fun _ => rfl) (fun v11 => ?_)
        refine s_goto (tgt := 41) dX9_findOrder_94 rfl ?_
        refine s_pick [1, 2, 3, 4, 5, 6, 0] rfl ?_
        exact ih w5 v11 I10
      · skip
        refine s_aload_n 0 dX9_findOrder_58 rfl rfl ?_
        refine s_aload_n 1 dX9_findOrder_59 rfl rfl ?_
        refine s_iload_n 2 dX9_findOrder_60 rfl rfl ?_
        refine s_callV2_i1 dX9_findOrder_61 rfl lkV_RX9_97 (S_66 hK) (Nat.le_of_ble_eq_true rfl) (Nat.le_of_ble_eq_true rfl) (Nat.le_of_ble_eq_true rfl) (ct_x9_gotInOrder hK ht hq1) (fun r12 I13 => ?_)
        refine s_istoreL (fun v14 => [(7, .int v14), (0, .ref (X.1 + 66)), (1, .ref (X.1 + q1)), (2, .int c2), (3, .int c3), (4, .int c4), (5, .int w5), (6, .int w6)]) dX9_findOrder_64 rfl (by decide) (fun _ => rfl) (fun v14 => ?_)
        refine s_iload 0 dX9_findOrder_66 rfl rfl ?_
        refine s_iload 6 dX9_findOrder_68 rfl rfl ?_
        refine s_icmp_le (tgt := 91) dX9_findOrder_70 rfl rfl (fun _ => ?_) (fun _ => ?_)
        · skip
          refine s_iincL 7 (c := 1) (fun v15 => [(6, .int v15), (7, .int v14), (0, .ref (X.1 + 66)), (1, .ref (X.1 + q1)), (2, .int c2), (3, .int c3), (4, .int c4), (5, .int w5)]) dX9_findOrder_91 rfl rfl cI_1 (by decide) (fun _ => rfl) (fun v15 => ?_)
          refine s_goto (tgt := 41) dX9_findOrder_94 rfl ?_
          refine s_pick [2, 3, 4, 5, 6, 7, 0] rfl ?_
          exact ih w5 v15 I13
        · skip
          refine s_iload 0 dX9_findOrder_73 rfl rfl ?_
          refine s_istoreL (fun v16 => [(5, .int v16), (7, .int v14), (0, .ref (X.1 + 66)), (1, .ref (X.1 + q1)), (2, .int c2), (3, .int c3), (4, .int c4), (6, .int w6)]) dX9_findOrder_75 rfl (by decide) (fun _ => rfl) (fun v16 => ?_)
          refine s_aload_n 2 dX9_findOrder_77 rfl rfl ?_
          refine s_getR 80 dX9_findOrder_78 rfl fl_9_22 rfl (S_66 hK) (R_66_3 hK) ?_
          refine s_iconst (v := 0) dX9_findOrder_81 rfl cI_0 ?_
          refine s_aload_n 2 dX9_findOrder_82 rfl rfl ?_
          refine s_getR 82 dX9_findOrder_83 rfl fl_9_28 rfl (S_66 hK) (R_66_5 hK) ?_
          refine s_iconst (v := 0) dX9_findOrder_86 rfl cI_0 ?_
          refine s_iconst (v := 4) dX9_findOrder_87 rfl cI_4 ?_
          refine s_copyiL dX9_findOrder_88 rfl lkw_9_101 lk_copy (S_80 hK) (S_82 hK) (by decide) (by decide) (by decide) (Nat.le_of_ble_eq_true rfl) (Nat.le_of_ble_eq_true rfl) (Nat.le_of_ble_eq_true rfl) (Nat.le_of_ble_eq_true rfl) (Nat.le_of_ble_eq_true rfl) (fun I17 => ?_)
          refine s_iincL 7 (c := 1) (fun v18 => [(6, .int v18), (5, .int v16), (7, .int v14), (0, .ref (X.1 + 66)), (1, .ref (X.1 + q1)), (2, .int c2), (3, .int c3), (4, .int c4)]) dX9_findOrder_91 rfl rfl cI_1 (by decide) (fun _ => rfl) (fun v18 => ?_)
          refine s_goto (tgt := 41) dX9_findOrder_94 rfl ?_
          refine s_pick [3, 4, 5, 6, 7, 1, 0] rfl ?_
          exact ih v16 v18 I17
theorem ct_x9_findOrder {X : WX} {t : Nat} {q1 : Nat} {p2 : Int32} {I : MI} {L : ML} {R : MR} {S : MS} (hK : okr R S) (ht : R 27 0 = some t ∧ isT t) (hq1 : isSt R S q1) : Ct X yX9_findOrder cX9_findOrder 8 (some .int) 6 152 [.ref (X.1 + 66), .ref (X.1 + q1), .int p2] (I, L, R, S) (x9_findOrder t q1 p2 I) (fun r => (some (.int r.1), (r.2, L, R, S))) := by
  refine Ct.of (by decide) (Nat.le_of_ble_eq_true rfl) [(0, .ref (X.1 + 66)), (1, .ref (X.1 + q1)), (2, .int p2)] rfl ?_
  unfold x9_findOrder
  refine s_aload_n 0 dX9_findOrder_0 rfl rfl ?_
  refine s_getR 27 dX9_findOrder_1 rfl fl_9_31 rfl (S_66 hK) (R_66_0 hK) ?_
  refine s_getR t dX9_findOrder_4 rfl fl_9_45 rfl (S_27 hK) ht.1 ?_
  refine s_getI dX9_findOrder_7 rfl fl_9_91 (tS_0 hK ht.2) ?_
  refine s_istore_nL (fun v1 => [(3, .int v1), (0, .ref (X.1 + 66)), (1, .ref (X.1 + q1)), (2, .int p2)]) dX9_findOrder_10 rfl (by decide) (fun _ => rfl) (fun v1 => ?_)
  refine s_iconst (v := 1) dX9_findOrder_11 rfl cI_1 ?_
  refine s_istoreL (fun v2 => [(4, .int v2), (3, .int v1), (0, .ref (X.1 + 66)), (1, .ref (X.1 + q1)), (2, .int p2)]) dX9_findOrder_12 rfl (by decide) (fun _ => rfl) (fun v2 => ?_)
  refine s_iconst (v := 0) dX9_findOrder_14 rfl cI_0 ?_
  refine s_istoreL (fun v3 => [(5, .int v3), (4, .int v2), (3, .int v1), (0, .ref (X.1 + 66)), (1, .ref (X.1 + q1)), (2, .int p2)]) dX9_findOrder_15 rfl (by decide) (fun _ => rfl) (fun v3 => ?_)
  refine s_pick [3, 4, 5, 2, 1, 0] rfl ?_
  refine sm_reg (x9_findOrder_L17_ok hK ht hq1 FU v2 v3) (fun e6 => ?_)
  refine s_iconst (v := (-1)) dX9_findOrder_35 rfl cI_m1 ?_
  refine s_istoreL (fun v7 => [(5, .int v7), (0, .ref (X.1 + 66)), (1, .ref (X.1 + q1)), (2, .int p2), (3, .int v1), (4, .int e6)]) dX9_findOrder_36 rfl (by decide) (fun _ => rfl) (fun v7 => ?_)
  refine s_iconst (v := 0) dX9_findOrder_38 rfl cI_0 ?_
  refine s_istoreL (fun v8 => [(6, .int v8), (5, .int v7), (0, .ref (X.1 + 66)), (1, .ref (X.1 + q1)), (2, .int p2), (3, .int v1), (4, .int e6)]) dX9_findOrder_39 rfl (by decide) (fun _ => rfl) (fun v8 => ?_)
  refine s_pick [2, 3, 4, 5, 6, 1, 0] rfl ?_
  refine sm_reg (x9_findOrder_L41_ok hK ht hq1 FU v7 v8 I) (fun e19 => ?_)
  refine s_iload 0 dX9_findOrder_97 rfl rfl ?_
  exact s_iret dX9_findOrder_99 rfl (fun f h => h)
noncomputable def x10_layAll_L2s (a1 : Nat) (ln1 : Nat) (c2 : Int32) (rec : Int32 → MI → Option (MI)) (w3 : Int32) (I : MI) : Option (MI) :=
if w3 < c2 then (
if w3 < (Int32.ofNat ln1) then (
ck (vp_in w3 ln1) <|
b1 (x10_lay (I a1 (ix w3)) I) fun I3 =>
lt (w3 + 1) fun v4 =>
rec v4 I3) else
some I) else
some I
noncomputable def x10_layAll_L2 (a1 : Nat) (ln1 : Nat) (c2 : Int32) : Nat → Int32 → MI → Option (MI)
  | 0 => fun _ _ => none
  | n + 1 => x10_layAll_L2s a1 ln1 c2 (x10_layAll_L2 a1 ln1 c2 n)
noncomputable def x10_layAll (a1 : Nat) (ln1 : Nat) (p2 : Int32) (I : MI) : Option (MI) :=
lt (0 : Int32) fun v1 =>
b1 (x10_layAll_L2 a1 ln1 p2 FU v1 I) fun e5 =>
some e5
theorem x10_layAll_L2_ok {X : WX} {n0 s0 : Nat} {a1 : Nat} {ln1 : Nat} {c2 : Int32} {L : ML} {R : MR} {S : MS} (hK : okr R S) (ha1 : S[a1]? = some (13, ln1)) : ∀ (n : Nat) (w3 : Int32) (I : MI), Sim X yX10_layAll cX10_layAll 4 none 1 21 n0 s0 2 [(0, .ref (X.1 + 0)), (1, .ref (X.1 + a1)), (2, .int c2), (3, .int w3)] [] (I, L, R, S) (x10_layAll_L2 a1 ln1 c2 n w3 I) (fun b f => Ex X yX10_layAll cX10_layAll 4 none 1 21 n0 s0 26 [] [] (b, L, R, S) f) := by
  intro n
  induction n with
  | zero =>
    intro w3 I
    exact sm_none
  | succ n ih =>
    intro w3 I
    change Sim _ _ _ _ _ _ _ _ _ _ _ _ _ (x10_layAll_L2s a1 ln1 c2 (x10_layAll_L2 a1 ln1 c2 n) w3 I) _
    unfold x10_layAll_L2s
    refine s_iload_n 3 dX10_layAll_2 rfl rfl ?_
    refine s_iload_n 2 dX10_layAll_3 rfl rfl ?_
    refine s_icmp_ge (tgt := 26) dX10_layAll_4 rfl rfl (fun _ => ?_) (fun _ => ?_)
    · skip
      refine s_pick [] rfl ?_
      exact sm_exit (fun f h => h)
    · skip
      refine s_iload_n 3 dX10_layAll_7 rfl rfl ?_
      refine s_aload_n 1 dX10_layAll_8 rfl rfl ?_
      refine s_alen 1 dX10_layAll_9 rfl ha1 (by decide) rfl rfl ?_
      refine s_icmp_ge (tgt := 26) dX10_layAll_10 rfl rfl (fun _ => ?_) (fun _ => ?_)
      · skip
        refine s_pick [] rfl ?_
        exact sm_exit (fun f h => h)
      · skip
        refine s_aload_n 0 dX10_layAll_13 rfl rfl ?_
        refine s_aload_n 1 dX10_layAll_14 rfl rfl ?_
        refine s_iload_n 3 dX10_layAll_15 rfl rfl ?_
        refine sm_ck (fun g2 => ?_)
        refine s_iald dX10_layAll_16 rfl ha1 g2 ?_
        refine s_callV1_v1 dX10_layAll_17 rfl lkV_RX10_227 (S_0 hK) (Nat.le_of_ble_eq_true rfl) (Nat.le_of_ble_eq_true rfl) (Nat.le_of_ble_eq_true rfl) (ct_x10_lay hK) (fun I3 => ?_)
        refine s_iincL 3 (c := 1) (fun v4 => [(3, .int v4), (0, .ref (X.1 + 0)), (1, .ref (X.1 + a1)), (2, .int c2)]) dX10_layAll_20 rfl rfl cI_1 (by decide) (fun _ => rfl) (fun v4 => ?_)
        refine s_goto (tgt := 2) dX10_layAll_23 rfl ?_
        refine s_pick [1, 2, 3, 0] rfl ?_
        exact ih v4 I3
theorem ct_x10_layAll {X : WX} {a1 : Nat} {ln1 : Nat} {p2 : Int32} {I : MI} {L : ML} {R : MR} {S : MS} (hK : okr R S) (ha1 : S[a1]? = some (13, ln1)) : Ct X yX10_layAll cX10_layAll 4 none 1 21 [.ref (X.1 + 0), .ref (X.1 + a1), .int p2] (I, L, R, S) (x10_layAll a1 ln1 p2 I) (fun r => (none, (r, L, R, S))) := by
  refine Ct.of (by decide) (Nat.le_of_ble_eq_true rfl) [(0, .ref (X.1 + 0)), (1, .ref (X.1 + a1)), (2, .int p2)] rfl ?_
  unfold x10_layAll
  refine s_iconst (v := 0) dX10_layAll_0 rfl cI_0 ?_
  refine s_istore_nL (fun v1 => [(3, .int v1), (0, .ref (X.1 + 0)), (1, .ref (X.1 + a1)), (2, .int p2)]) dX10_layAll_1 rfl (by decide) (fun _ => rfl) (fun v1 => ?_)
  refine s_pick [1, 2, 3, 0] rfl ?_
  refine sm_reg (x10_layAll_L2_ok hK ha1 FU v1 I) (fun e5 => ?_)
  exact s_vret dX10_layAll_26 rfl (fun f h => h)
noncomputable def x10_order (t : Nat) (p1 : Int32) (I : MI) : Option (Int32 × MI) :=
lt (wI I 0 14 (0 : Int32)) fun I1 =>
b1 (x10_isTrialTurns p1 I1) fun r2 =>
if r2 = 0 then (
some ((-1 : Int32), I1)) else
b2 (x9_findOrder t 47 p1 I1) fun r3 I4 =>
lt r3 fun v5 =>
b1 (x10_layAll 82 4 (I4 t 11) I4) fun I6 =>
some (v5, I6)
theorem ct_x10_order {X : WX} {t : Nat} {p1 : Int32} {I : MI} {L : ML} {R : MR} {S : MS} (hK : okr R S) (ht : R 27 0 = some t ∧ isT t) : Ct X yX10_order cX10_order 3 (some .int) 7 179 [.ref (X.1 + 0), .int p1] (I, L, R, S) (x10_order t p1 I) (fun r => (some (.int r.1), (r.2, L, R, S))) := by
  refine Ct.of (by decide) (Nat.le_of_ble_eq_true rfl) [(0, .ref (X.1 + 0)), (1, .int p1)] rfl ?_
  unfold x10_order
  refine s_aload_n 0 dX10_order_0 rfl rfl ?_
  refine s_iconst (v := 0) dX10_order_1 rfl cI_0 ?_
  refine s_putIL dX10_order_2 rfl fl_10_112 (S_0 hK) (fun I1 => ?_)
  refine s_iload_n 1 dX10_order_5 rfl rfl ?_
  refine s_callS1_i0 dX10_order_6 rfl lkS_RX10_243 (Nat.le_of_ble_eq_true rfl) (Nat.le_of_ble_eq_true rfl) (Nat.le_of_ble_eq_true rfl) (ct_x10_isTrialTurns hK) (fun r2 => ?_)
  refine s_if_ne (tgt := 14) dX10_order_9 rfl rfl (fun _ => ?_) (fun _ => ?_)
  · skip
    refine s_aload_n 0 dX10_order_14 rfl rfl ?_
    refine s_getR 66 dX10_order_15 rfl fl_10_70 rfl (S_0 hK) (R_0_10 hK) ?_
    refine s_aload_n 0 dX10_order_18 rfl rfl ?_
    refine s_getR 47 dX10_order_19 rfl fl_10_39 rfl (S_0 hK) (R_0_5 hK) ?_
    refine s_iload_n 1 dX10_order_22 rfl rfl ?_
    refine s_callV2_i1 dX10_order_23 rfl lkV_RX10_259 (S_66 hK) (Nat.le_of_ble_eq_true rfl) (Nat.le_of_ble_eq_true rfl) (Nat.le_of_ble_eq_true rfl) (ct_x9_findOrder hK ht (st_47 hK)) (fun r3 I4 => ?_)
    refine s_istore_nL (fun v5 => [(2, .int v5), (0, .ref (X.1 + 0)), (1, .int p1)]) dX10_order_26 rfl (by decide) (fun _ => rfl) (fun v5 => ?_)
    refine s_aload_n 1 dX10_order_27 rfl rfl ?_
    refine s_aload_n 1 dX10_order_28 rfl rfl ?_
    refine s_getR 66 dX10_order_29 rfl fl_10_70 rfl (S_0 hK) (R_0_10 hK) ?_
    refine s_getR 82 dX10_order_32 rfl fl_10_262 rfl (S_66 hK) (R_66_5 hK) ?_
    refine s_aload_n 1 dX10_order_35 rfl rfl ?_
    refine s_getR 27 dX10_order_36 rfl fl_10_32 rfl (S_0 hK) (R_0_4 hK) ?_
    refine s_getR t dX10_order_39 rfl fl_10_87 rfl (S_27 hK) ht.1 ?_
    refine s_getI dX10_order_42 rfl fl_10_207 (tS_0 hK ht.2) ?_
    refine s_callV2_v1 dX10_order_45 rfl lkV_RX10_265 (S_0 hK) (Nat.le_of_ble_eq_true rfl) (Nat.le_of_ble_eq_true rfl) (Nat.le_of_ble_eq_true rfl) (ct_x10_layAll hK (S_82 hK)) (fun I6 => ?_)
    refine s_iload_n 0 dX10_order_48 rfl rfl ?_
    exact s_iret dX10_order_49 rfl (fun f h => h)
  · skip
    refine s_iconst (v := (-1)) dX10_order_12 rfl cI_m1 ?_
    exact s_iret dX10_order_13 rfl (fun f h => h)
noncomputable def x10_isAfloat (t : Nat) (p1 : Int32) (I : MI) : Option (Int32) :=
b1 (x10_isApple t p1 I) fun r1 =>
if r1 = 0 then (
some (0 : Int32)) else
ck (vp_in p1 10) <|
if (I 50 (ix p1)) = (-1) then (
some (1 : Int32)) else
some (0 : Int32)
theorem ct_x10_isAfloat {X : WX} {t : Nat} {p1 : Int32} {I : MI} {L : ML} {R : MR} {S : MS} (hK : okr R S) (ht : R 27 0 = some t ∧ isT t) : Ct X yX10_isAfloat cX10_isAfloat 2 (some .boolean) 1 21 [.ref (X.1 + 0), .int p1] (I, L, R, S) (x10_isAfloat t p1 I) (fun r => (some (.int r), (I, L, R, S))) := by
  refine Ct.of (by decide) (Nat.le_of_ble_eq_true rfl) [(0, .ref (X.1 + 0)), (1, .int p1)] rfl ?_
  unfold x10_isAfloat
  refine s_aload_n 0 dX10_isAfloat_0 rfl rfl ?_
  refine s_iload_n 1 dX10_isAfloat_1 rfl rfl ?_
  refine s_callV1_i0 dX10_isAfloat_2 rfl lkV_RX10_124 (S_0 hK) (Nat.le_of_ble_eq_true rfl) (Nat.le_of_ble_eq_true rfl) (Nat.le_of_ble_eq_true rfl) (ct_x10_isApple hK ht) (fun r1 => ?_)
  refine s_if_eq (tgt := 25) dX10_isAfloat_5 rfl rfl (fun _ => ?_) (fun _ => ?_)
  · skip
    refine s_iconst (v := 0) dX10_isAfloat_25 rfl cI_0 ?_
    exact s_zret dX10_isAfloat_26 rfl (Or.inl rfl) (fun f h => h)
  · skip
    refine s_aload_n 0 dX10_isAfloat_8 rfl rfl ?_
    refine s_getR 47 dX10_isAfloat_9 rfl fl_10_39 rfl (S_0 hK) (R_0_5 hK) ?_
    refine s_getR 50 dX10_isAfloat_12 rfl fl_10_134 rfl (S_47 hK) (R_47_2 hK) ?_
    refine s_iload_n 1 dX10_isAfloat_15 rfl rfl ?_
    refine sm_ck (fun g2 => ?_)
    refine s_iald dX10_isAfloat_16 rfl (S_50 hK) g2 ?_
    refine s_iconst (v := (-1)) dX10_isAfloat_17 rfl cI_m1 ?_
    refine s_icmp_ne (tgt := 25) dX10_isAfloat_18 rfl rfl (fun _ => ?_) (fun _ => ?_)
    · skip
      refine s_iconst (v := 0) dX10_isAfloat_25 rfl cI_0 ?_
      exact s_zret dX10_isAfloat_26 rfl (Or.inl rfl) (fun f h => h)
    · skip
      refine s_iconst (v := 1) dX10_isAfloat_21 rfl cI_1 ?_
      refine s_goto (tgt := 26) dX10_isAfloat_22 rfl ?_
      exact s_zret dX10_isAfloat_26 rfl (Or.inr rfl) (fun f h => h)
noncomputable def x6_isChanged (q0 : Nat) (q1 : Nat) (p2 : Int32) (I : MI) : Option (Int32) :=
ck (vp_in p2 10) <|
ck (vp_in p2 10) <|
if (I (q0 + 1) (ix p2)) = (I (q1 + 1) (ix p2)) then (
ck (vp_in p2 10) <|
ck (vp_in p2 10) <|
if (I (q0 + 2) (ix p2)) = (I (q1 + 2) (ix p2)) then (
ck (vp_in p2 10) <|
ck (vp_in p2 10) <|
if (I (q0 + 5) (ix p2)) = (I (q1 + 5) (ix p2)) then (
some (0 : Int32)) else
some (1 : Int32)) else
some (1 : Int32)) else
some (1 : Int32)
theorem ct_x6_isChanged {X : WX} {q0 : Nat} {q1 : Nat} {p2 : Int32} {I : MI} {L : ML} {R : MR} {S : MS} (hK : okr R S) (hq0 : isSt R S q0) (hq1 : isSt R S q1) : Ct X yX6_isChanged cX6_isChanged 3 (some .boolean) 0 0 [.ref (X.1 + q0), .ref (X.1 + q1), .int p2] (I, L, R, S) (x6_isChanged q0 q1 p2 I) (fun r => (some (.int r), (I, L, R, S))) := by
  refine Ct.of (by decide) (Nat.le_of_ble_eq_true rfl) [(0, .ref (X.1 + q0)), (1, .ref (X.1 + q1)), (2, .int p2)] rfl ?_
  unfold x6_isChanged
  refine s_aload_n 0 dX6_isChanged_0 rfl rfl ?_
  refine s_getR (q0 + 1) dX6_isChanged_1 rfl fl_6_139 rfl (qS_0 hq0) (qR_0 hq0) ?_
  refine s_iload_n 2 dX6_isChanged_4 rfl rfl ?_
  refine sm_ck (fun g1 => ?_)
  refine s_iald dX6_isChanged_5 rfl (qS_1 hq0) g1 ?_
  refine s_aload_n 1 dX6_isChanged_6 rfl rfl ?_
  refine s_getR (q1 + 1) dX6_isChanged_7 rfl fl_6_139 rfl (qS_0 hq1) (qR_0 hq1) ?_
  refine s_iload_n 2 dX6_isChanged_10 rfl rfl ?_
  refine sm_ck (fun g2 => ?_)
  refine s_iald dX6_isChanged_11 rfl (qS_1 hq1) g2 ?_
  refine s_icmp_ne (tgt := 45) dX6_isChanged_12 rfl rfl (fun _ => ?_) (fun _ => ?_)
  · skip
    refine s_iconst (v := 1) dX6_isChanged_45 rfl cI_1 ?_
    refine s_goto (tgt := 50) dX6_isChanged_46 rfl ?_
    exact s_zret dX6_isChanged_50 rfl (Or.inr rfl) (fun f h => h)
  · skip
    refine s_aload_n 0 dX6_isChanged_15 rfl rfl ?_
    refine s_getR (q0 + 2) dX6_isChanged_16 rfl fl_6_142 rfl (qS_0 hq0) (qR_1 hq0) ?_
    refine s_iload_n 2 dX6_isChanged_19 rfl rfl ?_
    refine sm_ck (fun g3 => ?_)
    refine s_iald dX6_isChanged_20 rfl (qS_2 hq0) g3 ?_
    refine s_aload_n 1 dX6_isChanged_21 rfl rfl ?_
    refine s_getR (q1 + 2) dX6_isChanged_22 rfl fl_6_142 rfl (qS_0 hq1) (qR_1 hq1) ?_
    refine s_iload_n 2 dX6_isChanged_25 rfl rfl ?_
    refine sm_ck (fun g4 => ?_)
    refine s_iald dX6_isChanged_26 rfl (qS_2 hq1) g4 ?_
    refine s_icmp_ne (tgt := 45) dX6_isChanged_27 rfl rfl (fun _ => ?_) (fun _ => ?_)
    · skip
      refine s_iconst (v := 1) dX6_isChanged_45 rfl cI_1 ?_
      refine s_goto (tgt := 50) dX6_isChanged_46 rfl ?_
      exact s_zret dX6_isChanged_50 rfl (Or.inr rfl) (fun f h => h)
    · skip
      refine s_aload_n 0 dX6_isChanged_30 rfl rfl ?_
      refine s_getR (q0 + 5) dX6_isChanged_31 rfl fl_6_145 rfl (qS_0 hq0) (qR_4 hq0) ?_
      refine s_iload_n 2 dX6_isChanged_34 rfl rfl ?_
      refine sm_ck (fun g5 => ?_)
      refine s_iald dX6_isChanged_35 rfl (qS_5 hq0) g5 ?_
      refine s_aload_n 1 dX6_isChanged_36 rfl rfl ?_
      refine s_getR (q1 + 5) dX6_isChanged_37 rfl fl_6_145 rfl (qS_0 hq1) (qR_4 hq1) ?_
      refine s_iload_n 2 dX6_isChanged_40 rfl rfl ?_
      refine sm_ck (fun g6 => ?_)
      refine s_iald dX6_isChanged_41 rfl (qS_5 hq1) g6 ?_
      refine s_icmp_eq (tgt := 49) dX6_isChanged_42 rfl rfl (fun _ => ?_) (fun _ => ?_)
      · skip
        refine s_iconst (v := 0) dX6_isChanged_49 rfl cI_0 ?_
        exact s_zret dX6_isChanged_50 rfl (Or.inl rfl) (fun f h => h)
      · skip
        refine s_iconst (v := 1) dX6_isChanged_45 rfl cI_1 ?_
        refine s_goto (tgt := 50) dX6_isChanged_46 rfl ?_
        exact s_zret dX6_isChanged_50 rfl (Or.inr rfl) (fun f h => h)
noncomputable def x6_drivesByMissing (rc_drivesWithin : Int32 → Int32 → MI → ML → MR → MS → Option (Int32 × MI × ML × MR × MS)) (p1 : Int32) (p2 : Int32) (p3 : Int32) (I : MI) (L : ML) (R : MR) (S : MS) : Option (Int32 × MI × ML × MR × MS) :=
ck (okr R S) <|
b5 (x6_nextLevel p1 I L R S) fun q_2 I3 L4 R5 S6 =>
ck (okr R5 S6) <|
b1 (R5 27 0) fun t_8 =>
ck (isT t_8) <|
ck (isSt R5 S6 q_2) <|
b1 (x1_missBy t_8 q_2 (I3 63 6) p3 (0 : Int32) I3) fun I12 =>
b5 (x6_level p1 I12 L4 R5 S6) fun q_13 I14 L15 R16 S17 =>
ck (isSt R16 S17 q_13) <|
ck (isSt R16 S17 q_2) <|
ck (okr R16 S17) <|
b1 (x6_isChanged q_13 q_2 p3 I14) fun r21 =>
if r21 = 0 then (
some ((0 : Int32), I14, L15, R16, S17)) else
b5 (rc_drivesWithin (p1 + 1) (p2 - 1) I14 L15 R16 S17) fun r22 I23 L24 R25 S26 =>
if r22 = 0 then (
some ((0 : Int32), I23, L24, R25, S26)) else
some ((1 : Int32), I23, L24, R25, S26)
theorem ct_x6_drivesByMissing {X : WX} {rc_drivesWithin : Int32 → Int32 → MI → ML → MR → MS → Option (Int32 × MI × ML × MR × MS)} {Fb Lb : Nat} {p1 : Int32} {p2 : Int32} {p3 : Int32} {I : MI} {L : ML} {R : MR} {S : MS} (h_rc_drivesWithin : ∀ (p1 : Int32) (p2 : Int32) (I : MI) (L : ML) (R : MR) (S : MS), Ct X yX6_drivesWithin cX6_drivesWithin 5 (some .boolean) Fb Lb [.ref (X.1 + 63), .int p1, .int p2] (I, L, R, S) (rc_drivesWithin p1 p2 I L R S) (fun r => (some (.int r.1), (r.2.1, r.2.2.1, r.2.2.2.1, r.2.2.2.2)))) : Ct X yX6_drivesByMissing cX6_drivesByMissing 5 (some .boolean) (Fb + 4) (Lb + 103) [.ref (X.1 + 63), .int p1, .int p2, .int p3] (I, L, R, S) (x6_drivesByMissing rc_drivesWithin p1 p2 p3 I L R S) (fun r => (some (.int r.1), (r.2.1, r.2.2.1, r.2.2.2.1, r.2.2.2.2))) := by
  refine Ct.of (by decide) (Nat.le_of_ble_eq_true rfl) [(0, .ref (X.1 + 63)), (1, .int p1), (2, .int p2), (3, .int p3)] rfl ?_
  unfold x6_drivesByMissing
  refine s_aload_n 0 dX6_drivesByMissing_0 rfl rfl ?_
  refine s_iload_n 1 dX6_drivesByMissing_1 rfl rfl ?_
  refine sm_ck (fun g1 => ?_)
  refine s_callV1_r3 dX6_drivesByMissing_2 rfl lkV_RX6_93 (S_63 g1) (Nat.le_of_ble_eq_true rfl) (by omega) (by omega) ct_x6_nextLevel (fun q_2 I3 L4 R5 S6 => ?_)
  refine s_astore [(4, .ref (X.1 + q_2)), (0, .ref (X.1 + 63)), (1, .int p1), (2, .int p2), (3, .int p3)] dX6_drivesByMissing_5 rfl (by decide) rfl ?_
  refine s_aload_n 1 dX6_drivesByMissing_7 rfl rfl ?_
  refine sm_ck (fun g7 => ?_)
  refine s_getR 27 dX6_drivesByMissing_8 rfl fl_6_21 rfl (S_63 g7) (R_63_0 g7) ?_
  refine s_aload 0 dX6_drivesByMissing_11 rfl rfl ?_
  refine s_aload_n 1 dX6_drivesByMissing_13 rfl rfl ?_
  refine s_getI dX6_drivesByMissing_14 rfl fl_6_43 (S_63 g7) ?_
  refine s_iload_n 4 dX6_drivesByMissing_17 rfl rfl ?_
  refine s_iconst (v := 0) dX6_drivesByMissing_18 rfl cI_0 ?_
  refine sm_b1 (fun t_8 h9 => ?_)
  refine sm_ck (fun g10 => ?_)
  refine sm_ck (fun g11 => ?_)
  refine s_callV4_v1 dX6_drivesByMissing_19 rfl lkV_RX6_100 (S_27 g7) (Nat.le_of_ble_eq_true rfl) (by omega) (by omega) (ct_x1_missBy g7 (⟨h9, g10⟩) g11) (fun I12 => ?_)
  refine s_aload_n 1 dX6_drivesByMissing_22 rfl rfl ?_
  refine s_iload_n 2 dX6_drivesByMissing_23 rfl rfl ?_
  refine s_callV1_r3 dX6_drivesByMissing_24 rfl lkV_RX6_35 (S_63 g7) (Nat.le_of_ble_eq_true rfl) (by omega) (by omega) ct_x6_level (fun q_13 I14 L15 R16 S17 => ?_)
  refine s_aload 0 dX6_drivesByMissing_27 rfl rfl ?_
  refine s_iload_n 4 dX6_drivesByMissing_29 rfl rfl ?_
  refine sm_ck (fun g18 => ?_)
  refine sm_ck (fun g19 => ?_)
  refine sm_ck (fun g20 => ?_)
  refine s_callS3_i0 dX6_drivesByMissing_30 rfl lkS_RX6_135 (Nat.le_of_ble_eq_true rfl) (by omega) (by omega) (ct_x6_isChanged g20 g18 g19) (fun r21 => ?_)
  refine s_if_eq (tgt := 53) dX6_drivesByMissing_33 rfl rfl (fun _ => ?_) (fun _ => ?_)
  · skip
    refine s_iconst (v := 0) dX6_drivesByMissing_53 rfl cI_0 ?_
    exact s_zret dX6_drivesByMissing_54 rfl (Or.inl rfl) (fun f h => h)
  · skip
    refine s_aload_n 1 dX6_drivesByMissing_36 rfl rfl ?_
    refine s_iload_n 2 dX6_drivesByMissing_37 rfl rfl ?_
    refine s_iconst (v := 1) dX6_drivesByMissing_38 rfl cI_1 ?_
    refine s_iadd dX6_drivesByMissing_39 rfl ?_
    refine s_iload_n 3 dX6_drivesByMissing_40 rfl rfl ?_
    refine s_iconst (v := 1) dX6_drivesByMissing_41 rfl cI_1 ?_
    refine s_isub dX6_drivesByMissing_42 rfl ?_
    refine s_callV2_i3 dX6_drivesByMissing_43 rfl lkV_RX6_117 (S_63 g20) (Nat.le_of_ble_eq_true rfl) (by omega) (by omega) (h_rc_drivesWithin _ _ _ _ _ _) (fun r22 I23 L24 R25 S26 => ?_)
    refine s_if_eq (tgt := 53) dX6_drivesByMissing_46 rfl rfl (fun _ => ?_) (fun _ => ?_)
    · skip
      refine s_iconst (v := 0) dX6_drivesByMissing_53 rfl cI_0 ?_
      exact s_zret dX6_drivesByMissing_54 rfl (Or.inl rfl) (fun f h => h)
    · skip
      refine s_iconst (v := 1) dX6_drivesByMissing_49 rfl cI_1 ?_
      refine s_goto (tgt := 54) dX6_drivesByMissing_50 rfl ?_
      exact s_zret dX6_drivesByMissing_54 rfl (Or.inr rfl) (fun f h => h)
noncomputable def x6_drivesWithin_L87s (rc_drivesWithin : Int32 → Int32 → MI → ML → MR → MS → Option (Int32 × MI × ML × MR × MS)) (c1 : Int32) (c2 : Int32) (q_2 : Nat) (rec : Int32 → MI → ML → MR → MS → Option ((MI × ML × MR × MS) ⊕ (Int32 × MI × ML × MR × MS))) (w4 : Int32) (I : MI) (L : ML) (R : MR) (S : MS) : Option ((MI × ML × MR × MS) ⊕ (Int32 × MI × ML × MR × MS)) :=
ck (okr R S) <|
b1 (R 27 0) fun t_26 =>
ck (isT t_26) <|
if w4 < (I t_26 4) then (
ck (vp_in c1 8) <|
lt (wI I 65 (ix c1) w4) fun I29 =>
ck (isSt R S q_2) <|
b2 (x1_canTry t_26 q_2 (I29 63 6) w4 (0 : Int32) I29) fun r32 I33 =>
if r32 = 0 then (
lt (w4 + 1) fun v34 =>
rec v34 I33 L R S) else
b5 (x6_drivesByMissing rc_drivesWithin c1 c2 w4 I33 L R S) fun r35 I36 L37 R38 S39 =>
if r35 = 0 then (
lt (w4 + 1) fun v40 =>
rec v40 I36 L37 R38 S39) else
some (.inr ((1 : Int32), I36, L37, R38, S39))) else
some (.inl (I, L, R, S))
noncomputable def x6_drivesWithin_L87 (rc_drivesWithin : Int32 → Int32 → MI → ML → MR → MS → Option (Int32 × MI × ML × MR × MS)) (c1 : Int32) (c2 : Int32) (q_2 : Nat) : Nat → Int32 → MI → ML → MR → MS → Option ((MI × ML × MR × MS) ⊕ (Int32 × MI × ML × MR × MS))
  | 0 => fun _ _ _ _ _ => none
  | n + 1 => x6_drivesWithin_L87s rc_drivesWithin c1 c2 q_2 (x6_drivesWithin_L87 rc_drivesWithin c1 c2 q_2 n)
noncomputable def x6_drivesWithin (rc_drivesWithin : Int32 → Int32 → MI → ML → MR → MS → Option (Int32 × MI × ML × MR × MS)) (p1 : Int32) (p2 : Int32) (I : MI) (L : ML) (R : MR) (S : MS) : Option (Int32 × MI × ML × MR × MS) :=
ck (okr R S) <|
b5 (x6_level p1 I L R S) fun q_2 I3 L4 R5 S6 =>
if 0 < p2 then (
if p1 < 4 then (
ck (isSt R5 S6 q_2) <|
ck (S6[q_2]? = some (7, 12)) <|
ck (okr R5 S6) <|
ck (vp_in (I3 63 8) 10) <|
if (I3 (q_2 + 3) (ix (I3 63 8))) = (-1) then (
b1 (x1_far q_2 (I3 63 7) (I3 63 8) I3) fun r19 =>
b1 (R5 27 0) fun t_20 =>
ck (isT t_20) <|
ck (vp_in (I3 63 7) 4) <|
if p2 < (r19 - (I3 (t_20 + 9) (ix (I3 63 7)))) then (
some ((0 : Int32), I3, L4, R5, S6)) else
lt (0 : Int32) fun v24 =>
bE (x6_drivesWithin_L87 rc_drivesWithin p1 p2 q_2 FU v24 I3 L4 R5 S6) fun e41 =>
some ((0 : Int32), e41.1, e41.2.1, e41.2.2.1, e41.2.2.2)) else
some ((0 : Int32), I3, L4, R5, S6)) else
ck (okr R5 S6) <|
b1 (R5 27 0) fun t_43 =>
ck (isT t_43) <|
ck (isSt R5 S6 q_2) <|
b2 (x1_canTry t_43 q_2 (I3 63 7) (I3 63 8) (0 : Int32) I3) fun r47 I48 =>
ck (r47 = 0 ∨ r47 = 1) (some (r47, I48, L4, R5, S6))) else
ck (okr R5 S6) <|
b1 (R5 27 0) fun t_8 =>
ck (isT t_8) <|
ck (isSt R5 S6 q_2) <|
b2 (x1_canTry t_8 q_2 (I3 63 7) (I3 63 8) (0 : Int32) I3) fun r12 I13 =>
ck (r12 = 0 ∨ r12 = 1) (some (r12, I13, L4, R5, S6))
theorem x6_drivesWithin_L87_ok {X : WX} {n0 s0 : Nat} {rc_drivesWithin : Int32 → Int32 → MI → ML → MR → MS → Option (Int32 × MI × ML × MR × MS)} {Fb Lb : Nat} {c1 : Int32} {c2 : Int32} {q_2 : Nat} (h_rc_drivesWithin : ∀ (p1 : Int32) (p2 : Int32) (I : MI) (L : ML) (R : MR) (S : MS), Ct X yX6_drivesWithin cX6_drivesWithin 5 (some .boolean) Fb Lb [.ref (X.1 + 63), .int p1, .int p2] (I, L, R, S) (rc_drivesWithin p1 p2 I L R S) (fun r => (some (.int r.1), (r.2.1, r.2.2.1, r.2.2.2.1, r.2.2.2.2)))) : ∀ (n : Nat) (w4 : Int32) (I : MI) (L : ML) (R : MR) (S : MS), Sim X yX6_drivesWithin cX6_drivesWithin 5 (some .boolean) (Fb + 5) (Lb + 127) n0 s0 87 [(0, .ref (X.1 + 63)), (1, .int c1), (2, .int c2), (3, .ref (X.1 + q_2)), (4, .int w4)] [] (I, L, R, S) (x6_drivesWithin_L87 rc_drivesWithin c1 c2 q_2 n w4 I L R S) (SE (fun b f => Ex X yX6_drivesWithin cX6_drivesWithin 5 (some .boolean) (Fb + 5) (Lb + 127) n0 s0 147 [] [] (b.1, b.2.1, b.2.2.1, b.2.2.2) f) (fun a f => f = (fun r => (some (.int r.1), (r.2.1, r.2.2.1, r.2.2.2.1, r.2.2.2.2))) a)) := by
  intro n
  induction n with
  | zero =>
    intro w4 I L R S
    exact sm_none
  | succ n ih =>
    intro w4 I L R S
    change Sim _ _ _ _ _ _ _ _ _ _ _ _ _ (x6_drivesWithin_L87s rc_drivesWithin c1 c2 q_2 (x6_drivesWithin_L87 rc_drivesWithin c1 c2 q_2 n) w4 I L R S) _
    unfold x6_drivesWithin_L87s
    refine s_iload 4 dX6_drivesWithin_87 rfl rfl ?_
    refine s_aload_n 0 dX6_drivesWithin_89 rfl rfl ?_
    refine sm_ck (fun g25 => ?_)
    refine s_getR 27 dX6_drivesWithin_90 rfl fl_6_21 rfl (S_63 g25) (R_63_0 g25) ?_
    refine sm_b1 (fun t_26 h27 => ?_)
    refine s_getR t_26 dX6_drivesWithin_93 rfl fl_6_60 rfl (S_27 g25) h27 ?_
    refine sm_ck (fun g28 => ?_)
    refine s_getI dX6_drivesWithin_96 rfl fl_6_66 (tS_0 g25 g28) ?_
    refine s_icmp_ge (tgt := 147) dX6_drivesWithin_99 rfl rfl (fun _ => ?_) (fun _ => ?_)
    · skip
      refine s_pick [] rfl ?_
      exact sm_exit (fun f h => h)
    · skip
      refine s_aload_n 0 dX6_drivesWithin_102 rfl rfl ?_
      refine s_getR 65 dX6_drivesWithin_103 rfl fl_6_17 rfl (S_63 g25) (R_63_5 g25) ?_
      refine s_iload_n 1 dX6_drivesWithin_106 rfl rfl ?_
      refine s_iload 4 dX6_drivesWithin_107 rfl rfl ?_
      refine sm_ck (fun g30 => ?_)
      refine s_iastL dX6_drivesWithin_109 rfl (S_65 g25) g30 (fun I29 => ?_)
      refine s_aload_n 0 dX6_drivesWithin_110 rfl rfl ?_
      refine s_getR 27 dX6_drivesWithin_111 rfl fl_6_21 rfl (S_63 g25) (R_63_0 g25) ?_
      refine s_aload_n 3 dX6_drivesWithin_114 rfl rfl ?_
      refine s_aload_n 0 dX6_drivesWithin_115 rfl rfl ?_
      refine s_getI dX6_drivesWithin_116 rfl fl_6_43 (S_63 g25) ?_
      refine s_iload 4 dX6_drivesWithin_119 rfl rfl ?_
      refine s_iconst (v := 0) dX6_drivesWithin_121 rfl cI_0 ?_
      refine sm_ck (fun g31 => ?_)
      refine s_callV4_i1 dX6_drivesWithin_122 rfl lkV_RX6_74 (S_27 g25) (Nat.le_of_ble_eq_true rfl) (by omega) (by omega) (ct_x1_canTry g25 (⟨h27, g28⟩) g31) (fun r32 I33 => ?_)
      refine s_if_eq (tgt := 141) dX6_drivesWithin_125 rfl rfl (fun _ => ?_) (fun _ => ?_)
      · skip
        refine s_iincL 4 (c := 1) (fun v34 => [(4, .int v34), (0, .ref (X.1 + 63)), (1, .int c1), (2, .int c2), (3, .ref (X.1 + q_2))]) dX6_drivesWithin_141 rfl rfl cI_1 (by decide) (fun _ => rfl) (fun v34 => ?_)
        refine s_goto (tgt := 87) dX6_drivesWithin_144 rfl ?_
        refine s_pick [1, 2, 3, 4, 0] rfl ?_
        exact ih v34 I33 L R S
      · skip
        refine s_aload_n 0 dX6_drivesWithin_128 rfl rfl ?_
        refine s_iload_n 1 dX6_drivesWithin_129 rfl rfl ?_
        refine s_iload_n 2 dX6_drivesWithin_130 rfl rfl ?_
        refine s_iload 4 dX6_drivesWithin_131 rfl rfl ?_
        refine s_callV3_i3 dX6_drivesWithin_133 rfl lkV_RX6_131 (S_63 g25) (Nat.le_of_ble_eq_true rfl) (by omega) (by omega) (ct_x6_drivesByMissing h_rc_drivesWithin) (fun r35 I36 L37 R38 S39 => ?_)
        refine s_if_eq (tgt := 141) dX6_drivesWithin_136 rfl rfl (fun _ => ?_) (fun _ => ?_)
        · skip
          refine s_iincL 4 (c := 1) (fun v40 => [(4, .int v40), (0, .ref (X.1 + 63)), (1, .int c1), (2, .int c2), (3, .ref (X.1 + q_2))]) dX6_drivesWithin_141 rfl rfl cI_1 (by decide) (fun _ => rfl) (fun v40 => ?_)
          refine s_goto (tgt := 87) dX6_drivesWithin_144 rfl ?_
          refine s_pick [1, 2, 3, 4, 0] rfl ?_
          exact ih v40 I36 L37 R38 S39
        · skip
          refine s_iconst (v := 1) dX6_drivesWithin_139 rfl cI_1 ?_
          exact s_zret dX6_drivesWithin_140 rfl (Or.inr rfl) (fun f h => h)
theorem ct_x6_drivesWithin {X : WX} {rc_drivesWithin : Int32 → Int32 → MI → ML → MR → MS → Option (Int32 × MI × ML × MR × MS)} {Fb Lb : Nat} {p1 : Int32} {p2 : Int32} {I : MI} {L : ML} {R : MR} {S : MS} (h_rc_drivesWithin : ∀ (p1 : Int32) (p2 : Int32) (I : MI) (L : ML) (R : MR) (S : MS), Ct X yX6_drivesWithin cX6_drivesWithin 5 (some .boolean) Fb Lb [.ref (X.1 + 63), .int p1, .int p2] (I, L, R, S) (rc_drivesWithin p1 p2 I L R S) (fun r => (some (.int r.1), (r.2.1, r.2.2.1, r.2.2.2.1, r.2.2.2.2)))) : Ct X yX6_drivesWithin cX6_drivesWithin 5 (some .boolean) (Fb + 5) (Lb + 127) [.ref (X.1 + 63), .int p1, .int p2] (I, L, R, S) (x6_drivesWithin rc_drivesWithin p1 p2 I L R S) (fun r => (some (.int r.1), (r.2.1, r.2.2.1, r.2.2.2.1, r.2.2.2.2))) := by
  refine Ct.of (by decide) (Nat.le_of_ble_eq_true rfl) [(0, .ref (X.1 + 63)), (1, .int p1), (2, .int p2)] rfl ?_
  unfold x6_drivesWithin
  refine s_aload_n 0 dX6_drivesWithin_0 rfl rfl ?_
  refine s_iload_n 1 dX6_drivesWithin_1 rfl rfl ?_
  refine sm_ck (fun g1 => ?_)
  refine s_callV1_r3 dX6_drivesWithin_2 rfl lkV_RX6_35 (S_63 g1) (Nat.le_of_ble_eq_true rfl) (by omega) (by omega) ct_x6_level (fun q_2 I3 L4 R5 S6 => ?_)
  refine s_astore_n [(3, .ref (X.1 + q_2)), (0, .ref (X.1 + 63)), (1, .int p1), (2, .int p2)] dX6_drivesWithin_5 rfl (by decide) rfl ?_
  refine s_iload_n 3 dX6_drivesWithin_6 rfl rfl ?_
  refine s_if_le (tgt := 15) dX6_drivesWithin_7 rfl rfl (fun _ => ?_) (fun _ => ?_)
  · skip
    refine s_aload_n 1 dX6_drivesWithin_15 rfl rfl ?_
    refine sm_ck (fun g7 => ?_)
    refine s_getR 27 dX6_drivesWithin_16 rfl fl_6_21 rfl (S_63 g7) (R_63_0 g7) ?_
    refine s_aload_n 0 dX6_drivesWithin_19 rfl rfl ?_
    refine s_aload_n 1 dX6_drivesWithin_20 rfl rfl ?_
    refine s_getI dX6_drivesWithin_21 rfl fl_6_111 (S_63 g7) ?_
    refine s_aload_n 1 dX6_drivesWithin_24 rfl rfl ?_
    refine s_getI dX6_drivesWithin_25 rfl fl_6_114 (S_63 g7) ?_
    refine s_iconst (v := 0) dX6_drivesWithin_28 rfl cI_0 ?_
    refine sm_b1 (fun t_8 h9 => ?_)
    refine sm_ck (fun g10 => ?_)
    refine sm_ck (fun g11 => ?_)
    refine s_callV4_i1 dX6_drivesWithin_29 rfl lkV_RX6_74 (S_27 g7) (Nat.le_of_ble_eq_true rfl) (by omega) (by omega) (ct_x1_canTry g7 (⟨h9, g10⟩) g11) (fun r12 I13 => ?_)
    refine sm_ck (fun g14 => ?_)
    exact s_zret dX6_drivesWithin_32 rfl g14 (fun f h => h)
  · skip
    refine s_iload_n 2 dX6_drivesWithin_10 rfl rfl ?_
    refine s_iconst (v := 4) dX6_drivesWithin_11 rfl cI_4 ?_
    refine s_icmp_lt (tgt := 33) dX6_drivesWithin_12 rfl rfl (fun _ => ?_) (fun _ => ?_)
    · skip
      refine s_aload_n 0 dX6_drivesWithin_33 rfl rfl ?_
      refine sm_ck (fun g15 => ?_)
      refine sm_ck (fun g16 => ?_)
      refine s_getR (q_2 + 3) dX6_drivesWithin_34 rfl fl_6_121 rfl g16 (qR_2 g15) ?_
      refine s_aload_n 1 dX6_drivesWithin_37 rfl rfl ?_
      refine sm_ck (fun g17 => ?_)
      refine s_getI dX6_drivesWithin_38 rfl fl_6_114 (S_63 g17) ?_
      refine sm_ck (fun g18 => ?_)
      refine s_iald dX6_drivesWithin_41 rfl (qS_3 g15) g18 ?_
      refine s_iconst (v := (-1)) dX6_drivesWithin_42 rfl cI_m1 ?_
      refine s_icmp_ne (tgt := 82) dX6_drivesWithin_43 rfl rfl (fun _ => ?_) (fun _ => ?_)
      · skip
        refine s_iconst (v := 0) dX6_drivesWithin_82 rfl cI_0 ?_
        exact s_zret dX6_drivesWithin_83 rfl (Or.inl rfl) (fun f h => h)
      · skip
        refine s_aload_n 1 dX6_drivesWithin_46 rfl rfl ?_
        refine s_getR 27 dX6_drivesWithin_47 rfl fl_6_21 rfl (S_63 g17) (R_63_0 g17) ?_
        refine s_aload_n 0 dX6_drivesWithin_50 rfl rfl ?_
        refine s_aload_n 1 dX6_drivesWithin_51 rfl rfl ?_
        refine s_getI dX6_drivesWithin_52 rfl fl_6_111 (S_63 g17) ?_
        refine s_aload_n 1 dX6_drivesWithin_55 rfl rfl ?_
        refine s_getI dX6_drivesWithin_56 rfl fl_6_114 (S_63 g17) ?_
        refine s_callV3_i0 dX6_drivesWithin_59 rfl lkV_RX6_124 (S_27 g17) (Nat.le_of_ble_eq_true rfl) (by omega) (by omega) (ct_x1_far g17 g15) (fun r19 => ?_)
        refine s_aload_n 1 dX6_drivesWithin_62 rfl rfl ?_
        refine s_getR 27 dX6_drivesWithin_63 rfl fl_6_21 rfl (S_63 g17) (R_63_0 g17) ?_
        refine sm_b1 (fun t_20 h21 => ?_)
        refine s_getR t_20 dX6_drivesWithin_66 rfl fl_6_60 rfl (S_27 g17) h21 ?_
        refine sm_ck (fun g22 => ?_)
        refine s_getR (t_20 + 9) dX6_drivesWithin_69 rfl fl_6_128 rfl (tS_0 g17 g22) (tR_0_14 g17 g22) ?_
        refine s_aload_n 1 dX6_drivesWithin_72 rfl rfl ?_
        refine s_getI dX6_drivesWithin_73 rfl fl_6_111 (S_63 g17) ?_
        refine sm_ck (fun g23 => ?_)
        refine s_iald dX6_drivesWithin_76 rfl (tS_9 g17 g22) g23 ?_
        refine s_isub dX6_drivesWithin_77 rfl ?_
        refine s_iload_n 3 dX6_drivesWithin_78 rfl rfl ?_
        refine s_icmp_le (tgt := 84) dX6_drivesWithin_79 rfl rfl (fun _ => ?_) (fun _ => ?_)
        · skip
          refine s_iconst (v := 0) dX6_drivesWithin_84 rfl cI_0 ?_
          refine s_istoreL (fun v24 => [(4, .int v24), (3, .ref (X.1 + q_2)), (0, .ref (X.1 + 63)), (1, .int p1), (2, .int p2)]) dX6_drivesWithin_85 rfl (by decide) (fun _ => rfl) (fun v24 => ?_)
          refine s_pick [2, 3, 4, 1, 0] rfl ?_
          refine sm_regE (x6_drivesWithin_L87_ok h_rc_drivesWithin FU v24 I3 L4 R5 S6) (fun e41 => ?_)
          refine s_iconst (v := 0) dX6_drivesWithin_147 rfl cI_0 ?_
          exact s_zret dX6_drivesWithin_148 rfl (Or.inl rfl) (fun f h => h)
        · skip
          refine s_iconst (v := 0) dX6_drivesWithin_82 rfl cI_0 ?_
          exact s_zret dX6_drivesWithin_83 rfl (Or.inl rfl) (fun f h => h)
    · skip
      refine s_aload_n 1 dX6_drivesWithin_15 rfl rfl ?_
      refine sm_ck (fun g42 => ?_)
      refine s_getR 27 dX6_drivesWithin_16 rfl fl_6_21 rfl (S_63 g42) (R_63_0 g42) ?_
      refine s_aload_n 0 dX6_drivesWithin_19 rfl rfl ?_
      refine s_aload_n 1 dX6_drivesWithin_20 rfl rfl ?_
      refine s_getI dX6_drivesWithin_21 rfl fl_6_111 (S_63 g42) ?_
      refine s_aload_n 1 dX6_drivesWithin_24 rfl rfl ?_
      refine s_getI dX6_drivesWithin_25 rfl fl_6_114 (S_63 g42) ?_
      refine s_iconst (v := 0) dX6_drivesWithin_28 rfl cI_0 ?_
      refine sm_b1 (fun t_43 h44 => ?_)
      refine sm_ck (fun g45 => ?_)
      refine sm_ck (fun g46 => ?_)
      refine s_callV4_i1 dX6_drivesWithin_29 rfl lkV_RX6_74 (S_27 g42) (Nat.le_of_ble_eq_true rfl) (by omega) (by omega) (ct_x1_canTry g42 (⟨h44, g45⟩) g46) (fun r47 I48 => ?_)
      refine sm_ck (fun g49 => ?_)
      exact s_zret dX6_drivesWithin_32 rfl g49 (fun f h => h)
noncomputable def x6_DW : Nat → Int32 → Int32 → MI → ML → MR → MS → Option (Int32 × MI × ML × MR × MS)
  | 0 => fun _ _ _ _ _ _ => none
  | n + 1 => fun z0 z1 z2 z3 z4 z5 => x6_drivesWithin (x6_DW n) z0 z1 z2 z3 z4 z5
theorem ct_x6_DW {X : WX} : ∀ n : Nat, (∀ (p1 : Int32) (p2 : Int32) (I : MI) (L : ML) (R : MR) (S : MS), Ct X yX6_drivesWithin cX6_drivesWithin 5 (some .boolean) (5 * n) (127 * n) [.ref (X.1 + 63), .int p1, .int p2] (I, L, R, S) (x6_DW n p1 p2 I L R S) (fun r => (some (.int r.1), (r.2.1, r.2.2.1, r.2.2.2.1, r.2.2.2.2)))) := by
  intro n
  induction n with
  | zero => exact fun _ _ _ _ _ _ a ha => (by cases ha)
  | succ n ih =>
    intro p1 p2 I L R S
    exact ct_x6_drivesWithin (Fb := 5 * n) (Lb := 127 * n) ih
theorem ct_x6_DW_0 {X : WX} (n : Nat) (p1 : Int32) (p2 : Int32) (I : MI) (L : ML) (R : MR) (S : MS) : Ct X yX6_drivesWithin cX6_drivesWithin 5 (some .boolean) (5 * n) (127 * n) [.ref (X.1 + 63), .int p1, .int p2] (I, L, R, S) (x6_DW n p1 p2 I L R S) (fun r => (some (.int r.1), (r.2.1, r.2.2.1, r.2.2.2.1, r.2.2.2.2))) := (ct_x6_DW n) p1 p2 I L R S
