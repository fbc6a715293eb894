noncomputable def x6_bestAlone (q1 : Nat) (p2 : Int32) (p3 : Int32) (I : MI) (L : ML) (R : MR) (S : MS) : Option (Int32 × MI × ML × MR × MS) :=
ck (okr R S) <|
b5 (x6_level (0 : Int32) I L R S) fun q_2 I3 L4 R5 S6 =>
ck (isSt R5 S6 q_2) <|
ck (isSt R5 S6 q1) <|
ck (okr R5 S6) <|
ck (S6[q_2]? = some (7, 12)) <|
b1 (x7_copyPlay q_2 q1 I3) fun I10 =>
lt (wI I10 63 6 p2) fun I12 =>
lt (wI I12 63 2 (0 : Int32)) fun I13 =>
lt (wI I13 63 3 (0 : Int32)) fun I14 =>
lt (wI I14 63 4 (-1 : Int32)) fun I15 =>
b5 (x6_BF 12 (0 : Int32) p3 I15 L4 R5 S6) fun r16 I17 L18 R19 S20 =>
some (r16, I17, L18, R19, S20)
theorem ct_x6_bestAlone {X : WX} {q1 : Nat} {p2 : Int32} {p3 : Int32} {I : MI} {L : ML} {R : MR} {S : MS} : Ct X yX6_bestAlone cX6_bestAlone 4 (some .int) 61 1624 [.ref (X.1 + 63), .ref (X.1 + q1), .int p2, .int p3] (I, L, R, S) (x6_bestAlone q1 p2 p3 I L R S) (fun r => (some (.int r.1), (r.2.1, r.2.2.1, r.2.2.2.1, r.2.2.2.2))) := by
  refine Ct.of (by decide) (Nat.le_of_ble_eq_true rfl) [(0, .ref (X.1 + 63)), (1, .ref (X.1 + q1)), (2, .int p2), (3, .int p3)] rfl ?_
  unfold x6_bestAlone
  refine s_aload_n 0 dX6_bestAlone_0 rfl rfl ?_
  refine s_iconst (v := 0) dX6_bestAlone_1 rfl cI_0 ?_
  refine sm_ck (fun g1 => ?_)
  refine s_callV1_r3 dX6_bestAlone_2 rfl lkV_RX6_35 (S_63 g1) (Nat.le_of_ble_eq_true rfl) (Nat.le_of_ble_eq_true rfl) (Nat.le_of_ble_eq_true rfl) ct_x6_level (fun q_2 I3 L4 R5 S6 => ?_)
  refine s_aload_n 1 dX6_bestAlone_5 rfl rfl ?_
  refine sm_ck (fun g7 => ?_)
  refine sm_ck (fun g8 => ?_)
  refine sm_ck (fun g9 => ?_)
  refine sm_ck (fun g11 => ?_)
  refine s_callV1_v1 dX6_bestAlone_6 rfl lkV_RX6_39 g11 (Nat.le_of_ble_eq_true rfl) (Nat.le_of_ble_eq_true rfl) (Nat.le_of_ble_eq_true rfl) (ct_x7_copyPlay g9 g7 g8) (fun I10 => ?_)
  refine s_aload_n 0 dX6_bestAlone_9 rfl rfl ?_
  refine s_iload_n 2 dX6_bestAlone_10 rfl rfl ?_
  refine s_putIL dX6_bestAlone_11 rfl fl_6_43 (S_63 g9) (fun I12 => ?_)
  refine s_aload_n 0 dX6_bestAlone_14 rfl rfl ?_
  refine s_iconst (v := 0) dX6_bestAlone_15 rfl cI_0 ?_
  refine s_putIL dX6_bestAlone_16 rfl fl_6_47 (S_63 g9) (fun I13 => ?_)
  refine s_aload_n 0 dX6_bestAlone_19 rfl rfl ?_
  refine s_iconst (v := 0) dX6_bestAlone_20 rfl cI_0 ?_
  refine s_putZL dX6_bestAlone_21 rfl fl_6_50 (S_63 g9) (Or.inl rfl) (fun I14 => ?_)
  refine s_aload_n 0 dX6_bestAlone_24 rfl rfl ?_
  refine s_iconst (v := (-1)) dX6_bestAlone_25 rfl cI_m1 ?_
  refine s_putIL dX6_bestAlone_26 rfl fl_6_54 (S_63 g9) (fun I15 => ?_)
  refine s_aload_n 0 dX6_bestAlone_29 rfl rfl ?_
  refine s_iconst (v := 0) dX6_bestAlone_30 rfl cI_0 ?_
  refine s_iload_n 3 dX6_bestAlone_31 rfl rfl ?_
  refine s_callV2_i3 dX6_bestAlone_32 rfl lkV_RX6_57 (S_63 g9) (Nat.le_of_ble_eq_true rfl) (Nat.le_of_ble_eq_true rfl) (Nat.le_of_ble_eq_true rfl) (ct_x6_BF_0 12 _ _ _ _ _ _) (fun r16 I17 L18 R19 S20 => ?_)
  exact s_iret dX6_bestAlone_35 rfl (fun f h => h)
noncomputable def x10_best (p1 : Int32) (p2 : Int32) (p3 : Int32) (I : MI) (L : ML) (R : MR) (S : MS) : Option (Int32 × MI × ML × MR × MS) :=
ck (okr R S) <|
b1 (R 27 0) fun t_1 =>
ck (isT t_1) <|
b1 (x10_isBobber t_1 p1 I) fun r5 =>
if r5 = 0 then (
some ((-1 : Int32), I, L, R, S)) else
if p2 < 0 then (
some ((-1 : Int32), I, L, R, S)) else
if 8 < p2 then (
some ((-1 : Int32), I, L, R, S)) else
if p3 < 0 then (
some ((-1 : Int32), I, L, R, S)) else
if 2 < p3 then (
some ((-1 : Int32), I, L, R, S)) else
b5 (x6_bestAlone 47 p1 p2 I L R S) fun r6 I7 L8 R9 S10 =>
lt r6 fun v11 =>
ck (okr R9 S10) <|
if (I7 63 3) = 0 then (
if p3 = 0 then (
some (v11, I7, L8, R9, S10)) else
if p3 = 1 then (
if (I7 63 4) < 0 then (
some ((-1 : Int32), I7, L8, R9, S10)) else
some ((I7 63 4), I7, L8, R9, S10)) else
if (I7 63 4) = (-2) then (
some ((1 : Int32), I7, L8, R9, S10)) else
some ((0 : Int32), I7, L8, R9, S10)) else
some ((-2 : Int32), I7, L8, R9, S10)
theorem ct_x10_best {X : WX} {p1 : Int32} {p2 : Int32} {p3 : Int32} {I : MI} {L : ML} {R : MR} {S : MS} : Ct X yX10_best cX10_best 5 (some .int) 62 1647 [.ref (X.1 + 0), .int p1, .int p2, .int p3] (I, L, R, S) (x10_best p1 p2 p3 I L R S) (fun r => (some (.int r.1), (r.2.1, r.2.2.1, r.2.2.2.1, r.2.2.2.2))) := by
  refine Ct.of (by decide) (Nat.le_of_ble_eq_true rfl) [(0, .ref (X.1 + 0)), (1, .int p1), (2, .int p2), (3, .int p3)] rfl ?_
  unfold x10_best
  refine s_aload_n 0 dX10_best_0 rfl rfl ?_
  refine s_iload_n 1 dX10_best_1 rfl rfl ?_
  refine sm_ck (fun g3 => ?_)
  refine sm_b1 (fun t_1 h2 => ?_)
  refine sm_ck (fun g4 => ?_)
  refine s_callV1_i0 dX10_best_2 rfl lkV_RX10_143 (S_0 g3) (Nat.le_of_ble_eq_true rfl) (Nat.le_of_ble_eq_true rfl) (Nat.le_of_ble_eq_true rfl) (ct_x10_isBobber g3 (⟨h2, g4⟩)) (fun r5 => ?_)
  refine s_if_eq (tgt := 27) dX10_best_5 rfl rfl (fun _ => ?_) (fun _ => ?_)
  · skip
    refine s_iconst (v := (-1)) dX10_best_27 rfl cI_m1 ?_
    exact s_iret dX10_best_28 rfl (fun f h => h)
  · skip
    refine s_iload_n 2 dX10_best_8 rfl rfl ?_
    refine s_if_lt (tgt := 27) dX10_best_9 rfl rfl (fun _ => ?_) (fun _ => ?_)
    · skip
      refine s_iconst (v := (-1)) dX10_best_27 rfl cI_m1 ?_
      exact s_iret dX10_best_28 rfl (fun f h => h)
    · skip
      refine s_iload_n 2 dX10_best_12 rfl rfl ?_
      refine s_bipush (v := 8) dX10_best_13 rfl cB_8 ?_
      refine s_icmp_gt (tgt := 27) dX10_best_15 rfl rfl (fun _ => ?_) (fun _ => ?_)
      · skip
        refine s_iconst (v := (-1)) dX10_best_27 rfl cI_m1 ?_
        exact s_iret dX10_best_28 rfl (fun f h => h)
      · skip
        refine s_iload_n 3 dX10_best_18 rfl rfl ?_
        refine s_if_lt (tgt := 27) dX10_best_19 rfl rfl (fun _ => ?_) (fun _ => ?_)
        · skip
          refine s_iconst (v := (-1)) dX10_best_27 rfl cI_m1 ?_
          exact s_iret dX10_best_28 rfl (fun f h => h)
        · skip
          refine s_iload_n 3 dX10_best_22 rfl rfl ?_
          refine s_iconst (v := 2) dX10_best_23 rfl cI_2 ?_
          refine s_icmp_le (tgt := 29) dX10_best_24 rfl rfl (fun _ => ?_) (fun _ => ?_)
          · skip
            refine s_aload_n 0 dX10_best_29 rfl rfl ?_
            refine s_getR 63 dX10_best_30 rfl fl_10_63 rfl (S_0 g3) (R_0_9 g3) ?_
            refine s_aload_n 0 dX10_best_33 rfl rfl ?_
            refine s_getR 47 dX10_best_34 rfl fl_10_39 rfl (S_0 g3) (R_0_5 g3) ?_
            refine s_iload_n 1 dX10_best_37 rfl rfl ?_
            refine s_iload_n 2 dX10_best_38 rfl rfl ?_
            refine s_callV3_i3 dX10_best_39 rfl lkV_RX10_197 (S_63 g3) (Nat.le_of_ble_eq_true rfl) (Nat.le_of_ble_eq_true rfl) (Nat.le_of_ble_eq_true rfl) ct_x6_bestAlone (fun r6 I7 L8 R9 S10 => ?_)
            refine s_istoreL (fun v11 => [(4, .int v11), (0, .ref (X.1 + 0)), (1, .int p1), (2, .int p2), (3, .int p3)]) dX10_best_42 rfl (by decide) (fun _ => rfl) (fun v11 => ?_)
            refine s_aload_n 1 dX10_best_44 rfl rfl ?_
            refine sm_ck (fun g12 => ?_)
            refine s_getR 63 dX10_best_45 rfl fl_10_63 rfl (S_0 g12) (R_0_9 g12) ?_
            refine s_getZ dX10_best_48 rfl fl_10_200 (S_63 g12) ?_
            refine s_if_eq (tgt := 57) dX10_best_51 rfl rfl (fun _ => ?_) (fun _ => ?_)
            · skip
              refine s_iload_n 4 dX10_best_57 rfl rfl ?_
              refine s_if_ne (tgt := 64) dX10_best_58 rfl rfl (fun _ => ?_) (fun _ => ?_)
              · skip
                refine s_iload_n 4 dX10_best_64 rfl rfl ?_
                refine s_iconst (v := 1) dX10_best_65 rfl cI_1 ?_
                refine s_icmp_ne (tgt := 91) dX10_best_66 rfl rfl (fun _ => ?_) (fun _ => ?_)
                · skip
                  refine s_aload_n 1 dX10_best_91 rfl rfl ?_
                  refine s_getR 63 dX10_best_92 rfl fl_10_63 rfl (S_0 g12) (R_0_9 g12) ?_
                  refine s_getI dX10_best_95 rfl fl_10_204 (S_63 g12) ?_
                  refine s_bipush (v := (-2)) dX10_best_98 rfl cB_m2 ?_
                  refine s_icmp_ne (tgt := 107) dX10_best_100 rfl rfl (fun _ => ?_) (fun _ => ?_)
                  · skip
                    refine s_iconst (v := 0) dX10_best_107 rfl cI_0 ?_
                    exact s_iret dX10_best_108 rfl (fun f h => h)
                  · skip
                    refine s_iconst (v := 1) dX10_best_103 rfl cI_1 ?_
                    refine s_goto (tgt := 108) dX10_best_104 rfl ?_
                    exact s_iret dX10_best_108 rfl (fun f h => h)
                · skip
                  refine s_aload_n 1 dX10_best_69 rfl rfl ?_
                  refine s_getR 63 dX10_best_70 rfl fl_10_63 rfl (S_0 g12) (R_0_9 g12) ?_
                  refine s_getI dX10_best_73 rfl fl_10_204 (S_63 g12) ?_
                  refine s_if_lt (tgt := 89) dX10_best_76 rfl rfl (fun _ => ?_) (fun _ => ?_)
                  · skip
                    refine s_iconst (v := (-1)) dX10_best_89 rfl cI_m1 ?_
                    exact s_iret dX10_best_90 rfl (fun f h => h)
                  · skip
                    refine s_aload_n 1 dX10_best_79 rfl rfl ?_
                    refine s_getR 63 dX10_best_80 rfl fl_10_63 rfl (S_0 g12) (R_0_9 g12) ?_
                    refine s_getI dX10_best_83 rfl fl_10_204 (S_63 g12) ?_
                    refine s_goto (tgt := 90) dX10_best_86 rfl ?_
                    exact s_iret dX10_best_90 rfl (fun f h => h)
              · skip
                refine s_iload 0 dX10_best_61 rfl rfl ?_
                exact s_iret dX10_best_63 rfl (fun f h => h)
            · skip
              refine s_bipush (v := (-2)) dX10_best_54 rfl cB_m2 ?_
              exact s_iret dX10_best_56 rfl (fun f h => h)
          · skip
            refine s_iconst (v := (-1)) dX10_best_27 rfl cI_m1 ?_
            exact s_iret dX10_best_28 rfl (fun f h => h)
noncomputable def x10_isRule (t : Nat) (p1 : Int32) (I : MI) : Option (Int32) :=
if p1 < 0 then (
some (0 : Int32)) else
if p1 < (I t 18) then (
some (1 : Int32)) else
some (0 : Int32)
theorem ct_x10_isRule {X : WX} {t : Nat} {p1 : Int32} {I : MI} {L : ML} {R : MR} {S : MS} (hK : okr R S) (ht : R 27 0 = some t ∧ isT t) : Ct X yX10_isRule cX10_isRule 2 (some .boolean) 0 0 [.ref (X.1 + 0), .int p1] (I, L, R, S) (x10_isRule t p1 I) (fun r => (some (.int r), (I, L, R, S))) := by
  refine Ct.of (by decide) (Nat.le_of_ble_eq_true rfl) [(0, .ref (X.1 + 0)), (1, .int p1)] rfl ?_
  unfold x10_isRule
  refine s_iload_n 1 dX10_isRule_0 rfl rfl ?_
  refine s_if_lt (tgt := 22) dX10_isRule_1 rfl rfl (fun _ => ?_) (fun _ => ?_)
  · skip
    refine s_iconst (v := 0) dX10_isRule_22 rfl cI_0 ?_
    exact s_zret dX10_isRule_23 rfl (Or.inl rfl) (fun f h => h)
  · skip
    refine s_iload_n 1 dX10_isRule_4 rfl rfl ?_
    refine s_aload_n 0 dX10_isRule_5 rfl rfl ?_
    refine s_getR 27 dX10_isRule_6 rfl fl_10_32 rfl (S_0 hK) (R_0_4 hK) ?_
    refine s_getR t dX10_isRule_9 rfl fl_10_87 rfl (S_27 hK) ht.1 ?_
    refine s_getI dX10_isRule_12 rfl fl_10_217 (tS_0 hK ht.2) ?_
    refine s_icmp_ge (tgt := 22) dX10_isRule_15 rfl rfl (fun _ => ?_) (fun _ => ?_)
    · skip
      refine s_iconst (v := 0) dX10_isRule_22 rfl cI_0 ?_
      exact s_zret dX10_isRule_23 rfl (Or.inl rfl) (fun f h => h)
    · skip
      refine s_iconst (v := 1) dX10_isRule_18 rfl cI_1 ?_
      refine s_goto (tgt := 23) dX10_isRule_19 rfl ?_
      exact s_zret dX10_isRule_23 rfl (Or.inr rfl) (fun f h => h)
noncomputable def x9_lead_L14s (t : Nat) (q1 : Nat) (c2 : Int32) (c3 : Int32) (rec : Int32 → Int32 → MI → Option (Int32 × MI)) (w4 : Int32) (w5 : Int32) (I : MI) : Option (Int32 × MI) :=
if w5 < 10 then (
b2 (x1_turnOf t 67 (0 : Int32) c2 I) fun r4 I5 =>
lt (w4 + r4) fun v6 =>
b2 (x1_turnOf t 67 (1 : Int32) c3 I5) fun r7 I8 =>
lt (v6 - r7) fun v9 =>
lt (w5 + 1) fun v10 =>
rec v9 v10 I8) else
some (w4, I)
noncomputable def x9_lead_L14 (t : Nat) (q1 : Nat) (c2 : Int32) (c3 : Int32) : Nat → Int32 → Int32 → MI → Option (Int32 × MI)
  | 0 => fun _ _ _ => none
  | n + 1 => x9_lead_L14s t q1 c2 c3 (x9_lead_L14 t q1 c2 c3 n)
noncomputable def x9_lead (t : Nat) (q1 : Nat) (p2 : Int32) (p3 : Int32) (I : MI) : Option (Int32 × MI) :=
b1 (x7_copyPlay 67 q1 I) fun I1 =>
lt (0 : Int32) fun v2 =>
lt (0 : Int32) fun v3 =>
b1 (x9_lead_L14 t q1 p2 p3 FU v2 v3 I1) fun e11 =>
some (e11.1, e11.2)
theorem x9_lead_L14_ok {X : WX} {n0 s0 : Nat} {t : Nat} {q1 : Nat} {c2 : Int32} {c3 : Int32} {L : ML} {R : MR} {S : MS} (hK : okr R S) (ht : R 27 0 = some t ∧ isT t) (hq1 : isSt R S q1) : ∀ (n : Nat) (w4 : Int32) (w5 : Int32) (I : MI), Sim X yX9_lead cX9_lead 6 (some .int) 5 127 n0 s0 14 [(0, .ref (X.1 + 66)), (2, .int c2), (3, .int c3), (4, .int w4), (5, .int w5)] [] (I, L, R, S) (x9_lead_L14 t q1 c2 c3 n w4 w5 I) (fun b f => Ex X yX9_lead cX9_lead 6 (some .int) 5 127 n0 s0 63 [(4, .int b.1)] [] (b.2, L, R, S) f) := by
  intro n
  induction n with
  | zero =>
    intro w4 w5 I
    exact sm_none
  | succ n ih =>
    intro w4 w5 I
    change Sim _ _ _ _ _ _ _ _ _ _ _ _ _ (x9_lead_L14s t q1 c2 c3 (x9_lead_L14 t q1 c2 c3 n) w4 w5 I) _
    unfold x9_lead_L14s
    refine s_iload 4 dX9_lead_14 rfl rfl ?_
    refine s_bipush (v := 10) dX9_lead_16 rfl cB_10 ?_
    refine s_icmp_ge (tgt := 63) dX9_lead_18 rfl rfl (fun _ => ?_) (fun _ => ?_)
    · skip
      refine s_pick [3] rfl ?_
      exact sm_exit (fun f h => h)
    · skip
      refine s_iload 3 dX9_lead_21 rfl rfl ?_
      refine s_aload_n 0 dX9_lead_23 rfl rfl ?_
      refine s_getR 27 dX9_lead_24 rfl fl_9_31 rfl (S_66 hK) (R_66_0 hK) ?_
      refine s_aload_n 0 dX9_lead_27 rfl rfl ?_
      refine s_getR 67 dX9_lead_28 rfl fl_9_12 rfl (S_66 hK) (R_66_1 hK) ?_
      refine s_iconst (v := 0) dX9_lead_31 rfl cI_0 ?_
      refine s_iload_n 1 dX9_lead_32 rfl rfl ?_
      refine s_callV3_i1 dX9_lead_33 rfl lkV_RX9_39 (S_27 hK) (Nat.le_of_ble_eq_true rfl) (Nat.le_of_ble_eq_true rfl) (Nat.le_of_ble_eq_true rfl) (ct_x1_turnOf hK ht (st_67 hK)) (fun r4 I5 => ?_)
      refine s_iadd dX9_lead_36 rfl ?_
      refine s_istoreL (fun v6 => [(4, .int v6), (0, .ref (X.1 + 66)), (2, .int c2), (3, .int c3), (5, .int w5)]) dX9_lead_37 rfl (by decide) (fun _ => rfl) (fun v6 => ?_)
      refine s_iload 0 dX9_lead_39 rfl rfl ?_
      refine s_aload_n 1 dX9_lead_41 rfl rfl ?_
      refine s_getR 27 dX9_lead_42 rfl fl_9_31 rfl (S_66 hK) (R_66_0 hK) ?_
      refine s_aload_n 1 dX9_lead_45 rfl rfl ?_
      refine s_getR 67 dX9_lead_46 rfl fl_9_12 rfl (S_66 hK) (R_66_1 hK) ?_
      refine s_iconst (v := 1) dX9_lead_49 rfl cI_1 ?_
      refine s_iload_n 3 dX9_lead_50 rfl rfl ?_
      refine s_callV3_i1 dX9_lead_51 rfl lkV_RX9_39 (S_27 hK) (Nat.le_of_ble_eq_true rfl) (Nat.le_of_ble_eq_true rfl) (Nat.le_of_ble_eq_true rfl) (ct_x1_turnOf hK ht (st_67 hK)) (fun r7 I8 => ?_)
      refine s_isub dX9_lead_54 rfl ?_
      refine s_istoreL (fun v9 => [(4, .int v9), (0, .ref (X.1 + 66)), (2, .int c2), (3, .int c3), (5, .int w5)]) dX9_lead_55 rfl (by decide) (fun _ => rfl) (fun v9 => ?_)
      refine s_iincL 4 (c := 1) (fun v10 => [(5, .int v10), (4, .int v9), (0, .ref (X.1 + 66)), (2, .int c2), (3, .int c3)]) dX9_lead_57 rfl rfl cI_1 (by decide) (fun _ => rfl) (fun v10 => ?_)
      refine s_goto (tgt := 14) dX9_lead_60 rfl ?_
      refine s_pick [2, 3, 4, 1, 0] rfl ?_
      exact ih v9 v10 I8
theorem ct_x9_lead {X : WX} {t : Nat} {q1 : Nat} {p2 : Int32} {p3 : Int32} {I : MI} {L : ML} {R : MR} {S : MS} (hK : okr R S) (ht : R 27 0 = some t ∧ isT t) (hq1 : isSt R S q1) : Ct X yX9_lead cX9_lead 6 (some .int) 5 127 [.ref (X.1 + 66), .ref (X.1 + q1), .int p2, .int p3] (I, L, R, S) (x9_lead t q1 p2 p3 I) (fun r => (some (.int r.1), (r.2, L, R, S))) := by
  refine Ct.of (by decide) (Nat.le_of_ble_eq_true rfl) [(0, .ref (X.1 + 66)), (1, .ref (X.1 + q1)), (2, .int p2), (3, .int p3)] rfl ?_
  unfold x9_lead
  refine s_aload_n 0 dX9_lead_0 rfl rfl ?_
  refine s_getR 67 dX9_lead_1 rfl fl_9_12 rfl (S_66 hK) (R_66_1 hK) ?_
  refine s_aload_n 1 dX9_lead_4 rfl rfl ?_
  refine s_callV1_v1 dX9_lead_5 rfl lkV_RX9_35 (S_67 hK) (Nat.le_of_ble_eq_true rfl) (Nat.le_of_ble_eq_true rfl) (Nat.le_of_ble_eq_true rfl) (ct_x7_copyPlay hK (st_67 hK) hq1) (fun I1 => ?_)
  refine s_iconst (v := 0) dX9_lead_8 rfl cI_0 ?_
  refine s_istoreL (fun v2 => [(4, .int v2), (0, .ref (X.1 + 66)), (1, .ref (X.1 + q1)), (2, .int p2), (3, .int p3)]) dX9_lead_9 rfl (by decide) (fun _ => rfl) (fun v2 => ?_)
  refine s_iconst (v := 0) dX9_lead_11 rfl cI_0 ?_
  refine s_istoreL (fun v3 => [(5, .int v3), (4, .int v2), (0, .ref (X.1 + 66)), (1, .ref (X.1 + q1)), (2, .int p2), (3, .int p3)]) dX9_lead_12 rfl (by decide) (fun _ => rfl) (fun v3 => ?_)
  refine s_pick [2, 4, 5, 1, 0] rfl ?_
  refine sm_reg (x9_lead_L14_ok hK ht hq1 FU v2 v3 I1) (fun e11 => ?_)
  refine s_iload 0 dX9_lead_63 rfl rfl ?_
  exact s_iret dX9_lead_65 rfl (fun f h => h)
noncomputable def x10_match (t : Nat) (p1 : Int32) (p2 : Int32) (I : MI) : Option (Int32 × MI) :=
if (I t 11) < 2 then (
some ((-1000000 : Int32), I)) else
b1 (x10_isRule t p1 I) fun r1 =>
if r1 = 0 then (
some ((-1000000 : Int32), I)) else
b1 (x10_isRule t p2 I) fun r2 =>
if r2 = 0 then (
some ((-1000000 : Int32), I)) else
b2 (x9_lead t 47 p1 p2 I) fun r3 I4 =>
some (r3, I4)
theorem ct_x10_match {X : WX} {t : Nat} {p1 : Int32} {p2 : Int32} {I : MI} {L : ML} {R : MR} {S : MS} (hK : okr R S) (ht : R 27 0 = some t ∧ isT t) : Ct X yX10_match cX10_match 3 (some .int) 6 152 [.ref (X.1 + 0), .int p1, .int p2] (I, L, R, S) (x10_match t p1 p2 I) (fun r => (some (.int r.1), (r.2, L, R, S))) := by
  refine Ct.of (by decide) (Nat.le_of_ble_eq_true rfl) [(0, .ref (X.1 + 0)), (1, .int p1), (2, .int p2)] rfl ?_
  unfold x10_match
  refine s_aload_n 0 dX10_match_0 rfl rfl ?_
  refine s_getR 27 dX10_match_1 rfl fl_10_32 rfl (S_0 hK) (R_0_4 hK) ?_
  refine s_getR t dX10_match_4 rfl fl_10_87 rfl (S_27 hK) ht.1 ?_
  refine s_getI dX10_match_7 rfl fl_10_207 (tS_0 hK ht.2) ?_
  refine s_iconst (v := 2) dX10_match_10 rfl cI_2 ?_
  refine s_icmp_lt (tgt := 30) dX10_match_11 rfl rfl (fun _ => ?_) (fun _ => ?_)
  · skip
    refine s_ldc (v := (-1000000)) dX10_match_30 rfl (tw_mem 1209 (by decide +kernel) rfl) ?_
    exact s_iret dX10_match_32 rfl (fun f h => h)
  · skip
    refine s_aload_n 0 dX10_match_14 rfl rfl ?_
    refine s_iload_n 1 dX10_match_15 rfl rfl ?_
    refine s_callV1_i0 dX10_match_16 rfl lkV_RX10_210 (S_0 hK) (Nat.le_of_ble_eq_true rfl) (Nat.le_of_ble_eq_true rfl) (Nat.le_of_ble_eq_true rfl) (ct_x10_isRule hK ht) (fun r1 => ?_)
    refine s_if_eq (tgt := 30) dX10_match_19 rfl rfl (fun _ => ?_) (fun _ => ?_)
    · skip
      refine s_ldc (v := (-1000000)) dX10_match_30 rfl (tw_mem 1209 (by decide +kernel) rfl) ?_
      exact s_iret dX10_match_32 rfl (fun f h => h)
    · skip
      refine s_aload_n 0 dX10_match_22 rfl rfl ?_
      refine s_iload_n 2 dX10_match_23 rfl rfl ?_
      refine s_callV1_i0 dX10_match_24 rfl lkV_RX10_210 (S_0 hK) (Nat.le_of_ble_eq_true rfl) (Nat.le_of_ble_eq_true rfl) (Nat.le_of_ble_eq_true rfl) (ct_x10_isRule hK ht) (fun r2 => ?_)
      refine s_if_ne (tgt := 33) dX10_match_27 rfl rfl (fun _ => ?_) (fun _ => ?_)
      · skip
        refine s_aload_n 0 dX10_match_33 rfl rfl ?_
        refine s_getR 66 dX10_match_34 rfl fl_10_70 rfl (S_0 hK) (R_0_10 hK) ?_
        refine s_aload_n 0 dX10_match_37 rfl rfl ?_
        refine s_getR 47 dX10_match_38 rfl fl_10_39 rfl (S_0 hK) (R_0_5 hK) ?_
        refine s_iload_n 1 dX10_match_41 rfl rfl ?_
        refine s_iload_n 2 dX10_match_42 rfl rfl ?_
        refine s_callV3_i1 dX10_match_43 rfl lkV_RX10_214 (S_66 hK) (Nat.le_of_ble_eq_true rfl) (Nat.le_of_ble_eq_true rfl) (Nat.le_of_ble_eq_true rfl) (ct_x9_lead hK ht (st_47 hK)) (fun r3 I4 => ?_)
        exact s_iret dX10_match_46 rfl (fun f h => h)
      · skip
        refine s_ldc (v := (-1000000)) dX10_match_30 rfl (tw_mem 1209 (by decide +kernel) rfl) ?_
        exact s_iret dX10_match_32 rfl (fun f h => h)
noncomputable def x10_reply_L43s (t : Nat) (c1 : Int32) (rec : Int32 → Int32 → Int32 → MI → Option (Int32 × MI)) (w2 : Int32) (w3 : Int32) (w4 : Int32) (I : MI) : Option (Int32 × MI) :=
if w4 < (I t 18) then (
b2 (x9_lead t 47 w4 c1 I) fun r7 I8 =>
lt r7 fun v9 =>
if w3 < v9 then (
lt v9 fun v11 =>
lt w4 fun v12 =>
lt (w4 + 1) fun v13 =>
rec v12 v11 v13 I8) else
lt (w4 + 1) fun v10 =>
rec w2 w3 v10 I8) else
some (w2, I)
noncomputable def x10_reply_L43 (t : Nat) (c1 : Int32) : Nat → Int32 → Int32 → Int32 → MI → Option (Int32 × MI)
  | 0 => fun _ _ _ _ => none
  | n + 1 => x10_reply_L43s t c1 (x10_reply_L43 t c1 n)
noncomputable def x10_reply (t : Nat) (p1 : Int32) (I : MI) : Option (Int32 × MI) :=
if (I t 11) < 2 then (
some ((-1 : Int32), I)) else
b1 (x10_isRule t p1 I) fun r1 =>
if r1 = 0 then (
some ((-1 : Int32), I)) else
lt (0 : Int32) fun v2 =>
b2 (x9_lead t 47 (0 : Int32) p1 I) fun r3 I4 =>
lt r3 fun v5 =>
lt (1 : Int32) fun v6 =>
b1 (x10_reply_L43 t p1 FU v2 v5 v6 I4) fun e14 =>
some (e14.1, e14.2)
theorem x10_reply_L43_ok {X : WX} {n0 s0 : Nat} {t : Nat} {c1 : Int32} {L : ML} {R : MR} {S : MS} (hK : okr R S) (ht : R 27 0 = some t ∧ isT t) : ∀ (n : Nat) (w2 : Int32) (w3 : Int32) (w4 : Int32) (I : MI), Sim X yX10_reply cX10_reply 6 (some .int) 6 152 n0 s0 43 [(0, .ref (X.1 + 0)), (1, .int c1), (2, .int w2), (3, .int w3), (4, .int w4)] [] (I, L, R, S) (x10_reply_L43 t c1 n w2 w3 w4 I) (fun b f => Ex X yX10_reply cX10_reply 6 (some .int) 6 152 n0 s0 92 [(2, .int b.1)] [] (b.2, L, R, S) f) := by
  intro n
  induction n with
  | zero =>
    intro w2 w3 w4 I
    exact sm_none
  | succ n ih =>
    intro w2 w3 w4 I
    change Sim _ _ _ _ _ _ _ _ _ _ _ _ _ (x10_reply_L43s t c1 (x10_reply_L43 t c1 n) w2 w3 w4 I) _
    unfold x10_reply_L43s
    refine s_iload 4 dX10_reply_43 rfl rfl ?_
    refine s_aload_n 0 dX10_reply_45 rfl rfl ?_
    refine s_getR 27 dX10_reply_46 rfl fl_10_32 rfl (S_0 hK) (R_0_4 hK) ?_
    refine s_getR t dX10_reply_49 rfl fl_10_87 rfl (S_27 hK) ht.1 ?_
    refine s_getI dX10_reply_52 rfl fl_10_217 (tS_0 hK ht.2) ?_
    refine s_icmp_ge (tgt := 92) dX10_reply_55 rfl rfl (fun _ => ?_) (fun _ => ?_)
    · skip
      refine s_pick [2] rfl ?_
      exact sm_exit (fun f h => h)
    · skip
      refine s_aload_n 0 dX10_reply_58 rfl rfl ?_
      refine s_getR 66 dX10_reply_59 rfl fl_10_70 rfl (S_0 hK) (R_0_10 hK) ?_
      refine s_aload_n 0 dX10_reply_62 rfl rfl ?_
      refine s_getR 47 dX10_reply_63 rfl fl_10_39 rfl (S_0 hK) (R_0_5 hK) ?_
      refine s_iload 4 dX10_reply_66 rfl rfl ?_
      refine s_iload_n 1 dX10_reply_68 rfl rfl ?_
      refine s_callV3_i1 dX10_reply_69 rfl lkV_RX10_214 (S_66 hK) (Nat.le_of_ble_eq_true rfl) (Nat.le_of_ble_eq_true rfl) (Nat.le_of_ble_eq_true rfl) (ct_x9_lead hK ht (st_47 hK)) (fun r7 I8 => ?_)
      refine s_istoreL (fun v9 => [(5, .int v9), (0, .ref (X.1 + 0)), (1, .int c1), (2, .int w2), (3, .int w3), (4, .int w4)]) dX10_reply_72 rfl (by decide) (fun _ => rfl) (fun v9 => ?_)
      refine s_iload 0 dX10_reply_74 rfl rfl ?_
      refine s_iload_n 4 dX10_reply_76 rfl rfl ?_
      refine s_icmp_le (tgt := 86) dX10_reply_77 rfl rfl (fun _ => ?_) (fun _ => ?_)
      · skip
        refine s_iincL 5 (c := 1) (fun v10 => [(4, .int v10), (5, .int v9), (0, .ref (X.1 + 0)), (1, .int c1), (2, .int w2), (3, .int w3)]) dX10_reply_86 rfl rfl cI_1 (by decide) (fun _ => rfl) (fun v10 => ?_)
        refine s_goto (tgt := 43) dX10_reply_89 rfl ?_
        refine s_pick [2, 3, 4, 5, 0] rfl ?_
        exact ih w2 w3 v10 I8
      · skip
        refine s_iload 0 dX10_reply_80 rfl rfl ?_
        refine s_istore_nL (fun v11 => [(3, .int v11), (5, .int v9), (0, .ref (X.1 + 0)), (1, .int c1), (2, .int w2), (4, .int w4)]) dX10_reply_82 rfl (by decide) (fun _ => rfl) (fun v11 => ?_)
        refine s_iload 5 dX10_reply_83 rfl rfl ?_
        refine s_istore_nL (fun v12 => [(2, .int v12), (3, .int v11), (5, .int v9), (0, .ref (X.1 + 0)), (1, .int c1), (4, .int w4)]) dX10_reply_85 rfl (by decide) (fun _ => rfl) (fun v12 => ?_)
        refine s_iincL 5 (c := 1) (fun v13 => [(4, .int v13), (2, .int v12), (3, .int v11), (5, .int v9), (0, .ref (X.1 + 0)), (1, .int c1)]) dX10_reply_86 rfl rfl cI_1 (by decide) (fun _ => rfl) (fun v13 => ?_)
        refine s_goto (tgt := 43) dX10_reply_89 rfl ?_
        refine s_pick [4, 5, 1, 2, 0] rfl ?_
        exact ih v12 v11 v13 I8
theorem ct_x10_reply {X : WX} {t : Nat} {p1 : Int32} {I : MI} {L : ML} {R : MR} {S : MS} (hK : okr R S) (ht : R 27 0 = some t ∧ isT t) : Ct X yX10_reply cX10_reply 6 (some .int) 6 152 [.ref (X.1 + 0), .int p1] (I, L, R, S) (x10_reply t p1 I) (fun r => (some (.int r.1), (r.2, L, R, S))) := by
  refine Ct.of (by decide) (Nat.le_of_ble_eq_true rfl) [(0, .ref (X.1 + 0)), (1, .int p1)] rfl ?_
  unfold x10_reply
  refine s_aload_n 0 dX10_reply_0 rfl rfl ?_
  refine s_getR 27 dX10_reply_1 rfl fl_10_32 rfl (S_0 hK) (R_0_4 hK) ?_
  refine s_getR t dX10_reply_4 rfl fl_10_87 rfl (S_27 hK) ht.1 ?_
  refine s_getI dX10_reply_7 rfl fl_10_207 (tS_0 hK ht.2) ?_
  refine s_iconst (v := 2) dX10_reply_10 rfl cI_2 ?_
  refine s_icmp_lt (tgt := 22) dX10_reply_11 rfl rfl (fun _ => ?_) (fun _ => ?_)
  · skip
    refine s_iconst (v := (-1)) dX10_reply_22 rfl cI_m1 ?_
    exact s_iret dX10_reply_23 rfl (fun f h => h)
  · skip
    refine s_aload_n 0 dX10_reply_14 rfl rfl ?_
    refine s_iload_n 1 dX10_reply_15 rfl rfl ?_
    refine s_callV1_i0 dX10_reply_16 rfl lkV_RX10_210 (S_0 hK) (Nat.le_of_ble_eq_true rfl) (Nat.le_of_ble_eq_true rfl) (Nat.le_of_ble_eq_true rfl) (ct_x10_isRule hK ht) (fun r1 => ?_)
    refine s_if_ne (tgt := 24) dX10_reply_19 rfl rfl (fun _ => ?_) (fun _ => ?_)
    · skip
      refine s_iconst (v := 0) dX10_reply_24 rfl cI_0 ?_
      refine s_istore_nL (fun v2 => [(2, .int v2), (0, .ref (X.1 + 0)), (1, .int p1)]) dX10_reply_25 rfl (by decide) (fun _ => rfl) (fun v2 => ?_)
      refine s_aload_n 1 dX10_reply_26 rfl rfl ?_
      refine s_getR 66 dX10_reply_27 rfl fl_10_70 rfl (S_0 hK) (R_0_10 hK) ?_
      refine s_aload_n 1 dX10_reply_30 rfl rfl ?_
      refine s_getR 47 dX10_reply_31 rfl fl_10_39 rfl (S_0 hK) (R_0_5 hK) ?_
      refine s_iconst (v := 0) dX10_reply_34 rfl cI_0 ?_
      refine s_iload_n 2 dX10_reply_35 rfl rfl ?_
      refine s_callV3_i1 dX10_reply_36 rfl lkV_RX10_214 (S_66 hK) (Nat.le_of_ble_eq_true rfl) (Nat.le_of_ble_eq_true rfl) (Nat.le_of_ble_eq_true rfl) (ct_x9_lead hK ht (st_47 hK)) (fun r3 I4 => ?_)
      refine s_istore_nL (fun v5 => [(3, .int v5), (2, .int v2), (0, .ref (X.1 + 0)), (1, .int p1)]) dX10_reply_39 rfl (by decide) (fun _ => rfl) (fun v5 => ?_)
      refine s_iconst (v := 1) dX10_reply_40 rfl cI_1 ?_
      refine s_istoreL (fun v6 => [(4, .int v6), (3, .int v5), (2, .int v2), (0, .ref (X.1 + 0)), (1, .int p1)]) dX10_reply_41 rfl (by decide) (fun _ => rfl) (fun v6 => ?_)
      refine s_pick [3, 4, 2, 1, 0] rfl ?_
      refine sm_reg (x10_reply_L43_ok hK ht FU v2 v5 v6 I4) (fun e14 => ?_)
      refine s_iload_n 0 dX10_reply_92 rfl rfl ?_
      exact s_iret dX10_reply_93 rfl (fun f h => h)
    · skip
      refine s_iconst (v := (-1)) dX10_reply_22 rfl cI_m1 ?_
      exact s_iret dX10_reply_23 rfl (fun f h => h)
noncomputable def x9_playAllPairs_L18s (t : Nat) (q1 : Nat) (c2 : Int32) (rec : Int32 → MI → Option (MI)) (w3 : Int32) (I : MI) : Option (MI) :=
if w3 < (I t 18) then (
b2 (x9_lead t q1 c2 w3 I) fun r3 I4 =>
ck (vp_in ((c2 * 6) + w3) 36) <|
lt (wI I4 79 (ix ((c2 * 6) + w3)) r3) fun I5 =>
lt (w3 + 1) fun v7 =>
rec v7 I5) else
some I
noncomputable def x9_playAllPairs_L18 (t : Nat) (q1 : Nat) (c2 : Int32) : Nat → Int32 → MI → Option (MI)
  | 0 => fun _ _ => none
  | n + 1 => x9_playAllPairs_L18s t q1 c2 (x9_playAllPairs_L18 t q1 c2 n)
noncomputable def x9_playAllPairs_L2s (t : Nat) (q1 : Nat) (rec : Int32 → MI → Option (MI)) (w2 : Int32) (I : MI) : Option (MI) :=
if w2 < (I t 18) then (
lt (0 : Int32) fun v2 =>
b1 (x9_playAllPairs_L18 t q1 w2 FU v2 I) fun e8 =>
lt (w2 + 1) fun v9 =>
rec v9 e8) else
some I
noncomputable def x9_playAllPairs_L2 (t : Nat) (q1 : Nat) : Nat → Int32 → MI → Option (MI)
  | 0 => fun _ _ => none
  | n + 1 => x9_playAllPairs_L2s t q1 (x9_playAllPairs_L2 t q1 n)
noncomputable def x9_playAllPairs (t : Nat) (q1 : Nat) (I : MI) : Option (MI) :=
lt (0 : Int32) fun v1 =>
b1 (x9_playAllPairs_L2 t q1 FU v1 I) fun e10 =>
some e10
theorem x9_playAllPairs_L18_ok {X : WX} {n0 s0 : Nat} {t : Nat} {q1 : Nat} {c2 : Int32} {L : ML} {R : MR} {S : MS} (hK : okr R S) (ht : R 27 0 = some t ∧ isT t) (hq1 : isSt R S q1) : ∀ (n : Nat) (w3 : Int32) (I : MI), Sim X yX9_playAllPairs cX9_playAllPairs 4 none 6 152 n0 s0 18 [(0, .ref (X.1 + 66)), (1, .ref (X.1 + q1)), (2, .int c2), (3, .int w3)] [] (I, L, R, S) (x9_playAllPairs_L18 t q1 c2 n w3 I) (fun b f => Ex X yX9_playAllPairs cX9_playAllPairs 4 none 6 152 n0 s0 56 [(0, .ref (X.1 + 66)), (1, .ref (X.1 + q1)), (2, .int c2)] [] (b, L, R, S) f) := by
  intro n
  induction n with
  | zero =>
    intro w3 I
    exact sm_none
  | succ n ih =>
    intro w3 I
    change Sim _ _ _ _ _ _ _ _ _ _ _ _ _ (x9_playAllPairs_L18s t q1 c2 (x9_playAllPairs_L18 t q1 c2 n) w3 I) _
    unfold x9_playAllPairs_L18s
    refine s_iload_n 3 dX9_playAllPairs_18 rfl rfl ?_
    refine s_aload_n 0 dX9_playAllPairs_19 rfl rfl ?_
    refine s_getR 27 dX9_playAllPairs_20 rfl fl_9_31 rfl (S_66 hK) (R_66_0 hK) ?_
    refine s_getR t dX9_playAllPairs_23 rfl fl_9_45 rfl (S_27 hK) ht.1 ?_
    refine s_getI dX9_playAllPairs_26 rfl fl_9_49 (tS_0 hK ht.2) ?_
    refine s_icmp_ge (tgt := 56) dX9_playAllPairs_29 rfl rfl (fun _ => ?_) (fun _ => ?_)
    · skip
      refine s_pick [0, 1, 2] rfl ?_
      exact sm_exit (fun f h => h)
    · skip
      refine s_aload_n 0 dX9_playAllPairs_32 rfl rfl ?_
      refine s_getR 79 dX9_playAllPairs_33 rfl fl_9_18 rfl (S_66 hK) (R_66_2 hK) ?_
      refine s_iload_n 2 dX9_playAllPairs_36 rfl rfl ?_
      refine s_bipush (v := 6) dX9_playAllPairs_37 rfl cB_6 ?_
      refine s_imul dX9_playAllPairs_39 rfl ?_
      refine s_iload_n 3 dX9_playAllPairs_40 rfl rfl ?_
      refine s_iadd dX9_playAllPairs_41 rfl ?_
      refine s_aload_n 0 dX9_playAllPairs_42 rfl rfl ?_
      refine s_aload_n 1 dX9_playAllPairs_43 rfl rfl ?_
      refine s_iload_n 2 dX9_playAllPairs_44 rfl rfl ?_
      refine s_iload_n 3 dX9_playAllPairs_45 rfl rfl ?_
      refine s_callV3_i1 dX9_playAllPairs_46 rfl lkV_RX9_55 (S_66 hK) (Nat.le_of_ble_eq_true rfl) (Nat.le_of_ble_eq_true rfl) (Nat.le_of_ble_eq_true rfl) (ct_x9_lead hK ht hq1) (fun r3 I4 => ?_)
      refine sm_ck (fun g6 => ?_)
      refine s_iastL dX9_playAllPairs_49 rfl (S_79 hK) g6 (fun I5 => ?_)
      refine s_iincL 3 (c := 1) (fun v7 => [(3, .int v7), (0, .ref (X.1 + 66)), (1, .ref (X.1 + q1)), (2, .int c2)]) dX9_playAllPairs_50 rfl rfl cI_1 (by decide) (fun _ => rfl) (fun v7 => ?_)
      refine s_goto (tgt := 18) dX9_playAllPairs_53 rfl ?_
      refine s_pick [1, 2, 3, 0] rfl ?_
      exact ih v7 I5
theorem x9_playAllPairs_L2_ok {X : WX} {n0 s0 : Nat} {t : Nat} {q1 : Nat} {L : ML} {R : MR} {S : MS} (hK : okr R S) (ht : R 27 0 = some t ∧ isT t) (hq1 : isSt R S q1) : ∀ (n : Nat) (w2 : Int32) (I : MI), Sim X yX9_playAllPairs cX9_playAllPairs 4 none 6 152 n0 s0 2 [(0, .ref (X.1 + 66)), (1, .ref (X.1 + q1)), (2, .int w2)] [] (I, L, R, S) (x9_playAllPairs_L2 t q1 n w2 I) (fun b f => Ex X yX9_playAllPairs cX9_playAllPairs 4 none 6 152 n0 s0 62 [] [] (b, L, R, S) f) := by
  intro n
  induction n with
  | zero =>
    intro w2 I
    exact sm_none
  | succ n ih =>
    intro w2 I
    change Sim _ _ _ _ _ _ _ _ _ _ _ _ _ (x9_playAllPairs_L2s t q1 (x9_playAllPairs_L2 t q1 n) w2 I) _
    unfold x9_playAllPairs_L2s
    refine s_iload_n 2 dX9_playAllPairs_2 rfl rfl ?_
    refine s_aload_n 0 dX9_playAllPairs_3 rfl rfl ?_
    refine s_getR 27 dX9_playAllPairs_4 rfl fl_9_31 rfl (S_66 hK) (R_66_0 hK) ?_
    refine s_getR t dX9_playAllPairs_7 rfl fl_9_45 rfl (S_27 hK) ht.1 ?_
    refine s_getI dX9_playAllPairs_10 rfl fl_9_49 (tS_0 hK ht.2) ?_
    refine s_icmp_ge (tgt := 62) dX9_playAllPairs_13 rfl rfl (fun _ => ?_) (fun _ => ?_)
    · skip
      refine s_pick [] rfl ?_
      exact sm_exit (fun f h => h)
    · skip
      refine s_iconst (v := 0) dX9_playAllPairs_16 rfl cI_0 ?_
      refine s_istore_nL (fun v2 => [(3, .int v2), (0, .ref (X.1 + 66)), (1, .ref (X.1 + q1)), (2, .int w2)]) dX9_playAllPairs_17 rfl (by decide) (fun _ => rfl) (fun v2 => ?_)
      refine s_pick [1, 2, 3, 0] rfl ?_
      refine sm_reg (x9_playAllPairs_L18_ok hK ht hq1 FU v2 I) (fun e8 => ?_)
      refine s_iincL 2 (c := 1) (fun v9 => [(2, .int v9), (0, .ref (X.1 + 66)), (1, .ref (X.1 + q1))]) dX9_playAllPairs_56 rfl rfl cI_1 (by decide) (fun _ => rfl) (fun v9 => ?_)
      refine s_goto (tgt := 2) dX9_playAllPairs_59 rfl ?_
      refine s_pick [1, 2, 0] rfl ?_
      exact ih v9 e8
theorem ct_x9_playAllPairs {X : WX} {t : Nat} {q1 : Nat} {I : MI} {L : ML} {R : MR} {S : MS} (hK : okr R S) (ht : R 27 0 = some t ∧ isT t) (hq1 : isSt R S q1) : Ct X yX9_playAllPairs cX9_playAllPairs 4 none 6 152 [.ref (X.1 + 66), .ref (X.1 + q1)] (I, L, R, S) (x9_playAllPairs t q1 I) (fun r => (none, (r, L, R, S))) := by
  refine Ct.of (by decide) (Nat.le_of_ble_eq_true rfl) [(0, .ref (X.1 + 66)), (1, .ref (X.1 + q1))] rfl ?_
  unfold x9_playAllPairs
  refine s_iconst (v := 0) dX9_playAllPairs_0 rfl cI_0 ?_
  refine s_istore_nL (fun v1 => [(2, .int v1), (0, .ref (X.1 + 66)), (1, .ref (X.1 + q1))]) dX9_playAllPairs_1 rfl (by decide) (fun _ => rfl) (fun v1 => ?_)
  refine s_pick [1, 2, 0] rfl ?_
  refine sm_reg (x9_playAllPairs_L2_ok hK ht hq1 FU v1 I) (fun e10 => ?_)
  exact s_vret dX9_playAllPairs_62 rfl (fun f h => h)
noncomputable def x9_isAtRest_L15s (t : Nat) (c1 : Int32) (c2 : Int32) (c3 : Int32) (I : MI) (rec : Int32 → Option ((Unit) ⊕ (Int32))) (w4 : Int32) : Option ((Unit) ⊕ (Int32)) :=
if w4 < (I t 18) then (
ck (vp_in ((w4 * 6) + c2) 36) <|
if c3 < (I 79 (ix ((w4 * 6) + c2))) then (
some (.inr (0 : Int32))) else
ck (vp_in ((c1 * 6) + w4) 36) <|
if (I 79 (ix ((c1 * 6) + w4))) < c3 then (
some (.inr (0 : Int32))) else
lt (w4 + 1) fun v6 =>
rec v6) else
some (.inl ())
noncomputable def x9_isAtRest_L15 (t : Nat) (c1 : Int32) (c2 : Int32) (c3 : Int32) (I : MI) : Nat → Int32 → Option ((Unit) ⊕ (Int32))
  | 0 => fun _ => none
  | n + 1 => x9_isAtRest_L15s t c1 c2 c3 I (x9_isAtRest_L15 t c1 c2 c3 I n)
noncomputable def x9_isAtRest (t : Nat) (p1 : Int32) (p2 : Int32) (I : MI) : Option (Int32) :=
ck (vp_in ((p1 * 6) + p2) 36) <|
lt (I 79 (ix ((p1 * 6) + p2))) fun v2 =>
lt (0 : Int32) fun v3 =>
bE (x9_isAtRest_L15 t p1 p2 v2 I FU v3) fun e7 =>
some (1 : Int32)
theorem x9_isAtRest_L15_ok {X : WX} {n0 s0 : Nat} {t : Nat} {c1 : Int32} {c2 : Int32} {c3 : Int32} {I : MI} {L : ML} {R : MR} {S : MS} (hK : okr R S) (ht : R 27 0 = some t ∧ isT t) : ∀ (n : Nat) (w4 : Int32), Sim X yX9_isAtRest cX9_isAtRest 5 (some .boolean) 0 0 n0 s0 15 [(0, .ref (X.1 + 66)), (1, .int c1), (2, .int c2), (3, .int c3), (4, .int w4)] [] (I, L, R, S) (x9_isAtRest_L15 t c1 c2 c3 I n w4) (SE (fun b f => Ex X yX9_isAtRest cX9_isAtRest 5 (some .boolean) 0 0 n0 s0 70 [] [] (I, L, R, S) f) (fun a f => f = (fun r => (some (.int r), (I, L, R, S))) a)) := by
  intro n
  induction n with
  | zero =>
    intro w4
    exact sm_none
  | succ n ih =>
    intro w4
    change Sim _ _ _ _ _ _ _ _ _ _ _ _ _ (x9_isAtRest_L15s t c1 c2 c3 I (x9_isAtRest_L15 t c1 c2 c3 I n) w4) _
    unfold x9_isAtRest_L15s
    refine s_iload 4 dX9_isAtRest_15 rfl rfl ?_
    refine s_aload_n 0 dX9_isAtRest_17 rfl rfl ?_
    refine s_getR 27 dX9_isAtRest_18 rfl fl_9_31 rfl (S_66 hK) (R_66_0 hK) ?_
    refine s_getR t dX9_isAtRest_21 rfl fl_9_45 rfl (S_27 hK) ht.1 ?_
    refine s_getI dX9_isAtRest_24 rfl fl_9_49 (tS_0 hK ht.2) ?_
    refine s_icmp_ge (tgt := 70) dX9_isAtRest_27 rfl rfl (fun _ => ?_) (fun _ => ?_)
    · skip
      refine s_pick [] rfl ?_
      exact sm_exit (fun f h => h)
    · skip
      refine s_aload_n 0 dX9_isAtRest_30 rfl rfl ?_
      refine s_getR 79 dX9_isAtRest_31 rfl fl_9_18 rfl (S_66 hK) (R_66_2 hK) ?_
      refine s_iload 4 dX9_isAtRest_34 rfl rfl ?_
      refine s_bipush (v := 6) dX9_isAtRest_36 rfl cB_6 ?_
      refine s_imul dX9_isAtRest_38 rfl ?_
      refine s_iload_n 2 dX9_isAtRest_39 rfl rfl ?_
      refine s_iadd dX9_isAtRest_40 rfl ?_
      refine sm_ck (fun g4 => ?_)
      refine s_iald dX9_isAtRest_41 rfl (S_79 hK) g4 ?_
      refine s_iload_n 3 dX9_isAtRest_42 rfl rfl ?_
      refine s_icmp_gt (tgt := 62) dX9_isAtRest_43 rfl rfl (fun _ => ?_) (fun _ => ?_)
      · skip
        refine s_iconst (v := 0) dX9_isAtRest_62 rfl cI_0 ?_
        exact s_zret dX9_isAtRest_63 rfl (Or.inl rfl) (fun f h => h)
      · skip
        refine s_aload_n 0 dX9_isAtRest_46 rfl rfl ?_
        refine s_getR 79 dX9_isAtRest_47 rfl fl_9_18 rfl (S_66 hK) (R_66_2 hK) ?_
        refine s_iload_n 1 dX9_isAtRest_50 rfl rfl ?_
        refine s_bipush (v := 6) dX9_isAtRest_51 rfl cB_6 ?_
        refine s_imul dX9_isAtRest_53 rfl ?_
        refine s_iload 4 dX9_isAtRest_54 rfl rfl ?_
        refine s_iadd dX9_isAtRest_56 rfl ?_
        refine sm_ck (fun g5 => ?_)
        refine s_iald dX9_isAtRest_57 rfl (S_79 hK) g5 ?_
        refine s_iload_n 3 dX9_isAtRest_58 rfl rfl ?_
        refine s_icmp_ge (tgt := 64) dX9_isAtRest_59 rfl rfl (fun _ => ?_) (fun _ => ?_)
        · skip
          refine s_iincL 4 (c := 1) (fun v6 => [(4, .int v6), (0, .ref (X.1 + 66)), (1, .int c1), (2, .int c2), (3, .int c3)]) dX9_isAtRest_64 rfl rfl cI_1 (by decide) (fun _ => rfl) (fun v6 => ?_)
          refine s_goto (tgt := 15) dX9_isAtRest_67 rfl ?_
          refine s_pick [1, 2, 3, 4, 0] rfl ?_
          exact ih v6
        · skip
          refine s_iconst (v := 0) dX9_isAtRest_62 rfl cI_0 ?_
          exact s_zret dX9_isAtRest_63 rfl (Or.inl rfl) (fun f h => h)
theorem ct_x9_isAtRest {X : WX} {t : Nat} {p1 : Int32} {p2 : Int32} {I : MI} {L : ML} {R : MR} {S : MS} (hK : okr R S) (ht : R 27 0 = some t ∧ isT t) : Ct X yX9_isAtRest cX9_isAtRest 5 (some .boolean) 0 0 [.ref (X.1 + 66), .int p1, .int p2] (I, L, R, S) (x9_isAtRest t p1 p2 I) (fun r => (some (.int r), (I, L, R, S))) := by
  refine Ct.of (by decide) (Nat.le_of_ble_eq_true rfl) [(0, .ref (X.1 + 66)), (1, .int p1), (2, .int p2)] rfl ?_
  unfold x9_isAtRest
  refine s_aload_n 0 dX9_isAtRest_0 rfl rfl ?_
  refine s_getR 79 dX9_isAtRest_1 rfl fl_9_18 rfl (S_66 hK) (R_66_2 hK) ?_
  refine s_iload_n 1 dX9_isAtRest_4 rfl rfl ?_
  refine s_bipush (v := 6) dX9_isAtRest_5 rfl cB_6 ?_
  refine s_imul dX9_isAtRest_7 rfl ?_
  refine s_iload_n 2 dX9_isAtRest_8 rfl rfl ?_
  refine s_iadd dX9_isAtRest_9 rfl ?_
  refine sm_ck (fun g1 => ?_)
  refine s_iald dX9_isAtRest_10 rfl (S_79 hK) g1 ?_
  refine s_istore_nL (fun v2 => [(3, .int v2), (0, .ref (X.1 + 66)), (1, .int p1), (2, .int p2)]) dX9_isAtRest_11 rfl (by decide) (fun _ => rfl) (fun v2 => ?_)
  refine s_iconst (v := 0) dX9_isAtRest_12 rfl cI_0 ?_
  refine s_istoreL (fun v3 => [(4, .int v3), (3, .int v2), (0, .ref (X.1 + 66)), (1, .int p1), (2, .int p2)]) dX9_isAtRest_13 rfl (by decide) (fun _ => rfl) (fun v3 => ?_)
  refine s_pick [2, 3, 4, 1, 0] rfl ?_
  refine sm_regE (x9_isAtRest_L15_ok hK ht FU v3) (fun e7 => ?_)
  refine s_iconst (v := 1) dX9_isAtRest_70 rfl cI_1 ?_
  exact s_zret dX9_isAtRest_71 rfl (Or.inr rfl) (fun f h => h)
noncomputable def x10_lay (p1 : Int32) (I : MI) : Option (MI) :=
if (I 0 14) < 36 then (
ck (vp_in (I 0 14) 36) <|
lt (wI I 89 (ix (I 0 14)) p1) fun I1 =>
lt (wI I1 0 14 ((I1 0 14) + 1)) fun I3 =>
some I3) else
some I
theorem ct_x10_lay {X : WX} {p1 : Int32} {I : MI} {L : ML} {R : MR} {S : MS} (hK : okr R S) : Ct X yX10_lay cX10_lay 2 none 0 0 [.ref (X.1 + 0), .int p1] (I, L, R, S) (x10_lay p1 I) (fun r => (none, (r, L, R, S))) := by
  refine Ct.of (by decide) (Nat.le_of_ble_eq_true rfl) [(0, .ref (X.1 + 0)), (1, .int p1)] rfl ?_
  unfold x10_lay
  refine s_aload_n 0 dX10_lay_0 rfl rfl ?_
  refine s_getI dX10_lay_1 rfl fl_10_112 (S_0 hK) ?_
  refine s_bipush (v := 36) dX10_lay_4 rfl cB_36 ?_
  refine s_icmp_ge (tgt := 29) dX10_lay_6 rfl rfl (fun _ => ?_) (fun _ => ?_)
  · skip
    exact s_vret dX10_lay_29 rfl (fun f h => h)
  · skip
    refine s_aload_n 0 dX10_lay_9 rfl rfl ?_
    refine s_getR 89 dX10_lay_10 rfl fl_10_83 rfl (S_0 hK) (R_0_13 hK) ?_
    refine s_aload_n 0 dX10_lay_13 rfl rfl ?_
    refine s_getI dX10_lay_14 rfl fl_10_112 (S_0 hK) ?_
    refine s_iload_n 1 dX10_lay_17 rfl rfl ?_
    refine sm_ck (fun g2 => ?_)
    refine s_iastL dX10_lay_18 rfl (S_89 hK) g2 (fun I1 => ?_)
    refine s_aload_n 0 dX10_lay_19 rfl rfl ?_
    refine s_dup dX10_lay_20 rfl rfl ?_
    refine s_getI dX10_lay_21 rfl fl_10_112 (S_0 hK) ?_
    refine s_iconst (v := 1) dX10_lay_24 rfl cI_1 ?_
    refine s_iadd dX10_lay_25 rfl ?_
    refine s_putIL dX10_lay_26 rfl fl_10_112 (S_0 hK) (fun I3 => ?_)
    exact s_vret dX10_lay_29 rfl (fun f h => h)
noncomputable def x10_rests_L50s (t : Nat) (c1 : Int32) (rec : Int32 → MI → Option (MI)) (w2 : Int32) (I : MI) : Option (MI) :=
if w2 < (I t 18) then (
b1 (x9_isAtRest t c1 w2 I) fun r5 =>
if r5 = 0 then (
lt (w2 + 1) fun v6 =>
rec v6 I) else
b1 (x10_lay ((10 * c1) + w2) I) fun I7 =>
lt (w2 + 1) fun v8 =>
rec v8 I7) else
some I
noncomputable def x10_rests_L50 (t : Nat) (c1 : Int32) : Nat → Int32 → MI → Option (MI)
  | 0 => fun _ _ => none
  | n + 1 => x10_rests_L50s t c1 (x10_rests_L50 t c1 n)
noncomputable def x10_rests_L34s (t : Nat) (rec : Int32 → MI → Option (MI)) (w1 : Int32) (I : MI) : Option (MI) :=
if w1 < (I t 18) then (
lt (0 : Int32) fun v4 =>
b1 (x10_rests_L50 t w1 FU v4 I) fun e9 =>
lt (w1 + 1) fun v10 =>
rec v10 e9) else
some I
noncomputable def x10_rests_L34 (t : Nat) : Nat → Int32 → MI → Option (MI)
  | 0 => fun _ _ => none
  | n + 1 => x10_rests_L34s t (x10_rests_L34 t n)
noncomputable def x10_rests (t : Nat) (I : MI) : Option (Int32 × MI) :=
lt (wI I 0 14 (0 : Int32)) fun I1 =>
if (I1 t 11) < 2 then (
some ((0 : Int32), I1)) else
b1 (x9_playAllPairs t 47 I1) fun I2 =>
lt (0 : Int32) fun v3 =>
b1 (x10_rests_L34 t FU v3 I2) fun e11 =>
some ((e11 0 14), e11)
theorem x10_rests_L50_ok {X : WX} {n0 s0 : Nat} {t : Nat} {c1 : Int32} {L : ML} {R : MR} {S : MS} (hK : okr R S) (ht : R 27 0 = some t ∧ isT t) : ∀ (n : Nat) (w2 : Int32) (I : MI), Sim X yX10_rests cX10_rests 3 (some .int) 7 175 n0 s0 50 [(0, .ref (X.1 + 0)), (1, .int c1), (2, .int w2)] [] (I, L, R, S) (x10_rests_L50 t c1 n w2 I) (fun b f => Ex X yX10_rests cX10_rests 3 (some .int) 7 175 n0 s0 92 [(0, .ref (X.1 + 0)), (1, .int c1)] [] (b, L, R, S) f) := by
  intro n
  induction n with
  | zero =>
    intro w2 I
    exact sm_none
  | succ n ih =>
    intro w2 I
    change Sim _ _ _ _ _ _ _ _ _ _ _ _ _ (x10_rests_L50s t c1 (x10_rests_L50 t c1 n) w2 I) _
    unfold x10_rests_L50s
    refine s_iload_n 2 dX10_rests_50 rfl rfl ?_
    refine s_aload_n 0 dX10_rests_51 rfl rfl ?_
    refine s_getR 27 dX10_rests_52 rfl fl_10_32 rfl (S_0 hK) (R_0_4 hK) ?_
    refine s_getR t dX10_rests_55 rfl fl_10_87 rfl (S_27 hK) ht.1 ?_
    refine s_getI dX10_rests_58 rfl fl_10_217 (tS_0 hK ht.2) ?_
    refine s_icmp_ge (tgt := 92) dX10_rests_61 rfl rfl (fun _ => ?_) (fun _ => ?_)
    · skip
      refine s_pick [0, 1] rfl ?_
      exact sm_exit (fun f h => h)
    · skip
      refine s_aload_n 0 dX10_rests_64 rfl rfl ?_
      refine s_getR 66 dX10_rests_65 rfl fl_10_70 rfl (S_0 hK) (R_0_10 hK) ?_
      refine s_iload_n 1 dX10_rests_68 rfl rfl ?_
      refine s_iload_n 2 dX10_rests_69 rfl rfl ?_
      refine s_callV2_i0 dX10_rests_70 rfl lkV_RX10_223 (S_66 hK) (Nat.le_of_ble_eq_true rfl) (Nat.le_of_ble_eq_true rfl) (Nat.le_of_ble_eq_true rfl) (ct_x9_isAtRest hK ht) (fun r5 => ?_)
      refine s_if_eq (tgt := 86) dX10_rests_73 rfl rfl (fun _ => ?_) (fun _ => ?_)
      · skip
        refine s_iincL 2 (c := 1) (fun v6 => [(2, .int v6), (0, .ref (X.1 + 0)), (1, .int c1)]) dX10_rests_86 rfl rfl cI_1 (by decide) (fun _ => rfl) (fun v6 => ?_)
        refine s_goto (tgt := 50) dX10_rests_89 rfl ?_
        refine s_pick [1, 2, 0] rfl ?_
        exact ih v6 I
      · skip
        refine s_aload_n 0 dX10_rests_76 rfl rfl ?_
        refine s_bipush (v := 10) dX10_rests_77 rfl cB_10 ?_
        refine s_iload_n 1 dX10_rests_79 rfl rfl ?_
        refine s_imul dX10_rests_80 rfl ?_
        refine s_iload_n 2 dX10_rests_81 rfl rfl ?_
        refine s_iadd dX10_rests_82 rfl ?_
        refine s_callV1_v1 dX10_rests_83 rfl lkV_RX10_227 (S_0 hK) (Nat.le_of_ble_eq_true rfl) (Nat.le_of_ble_eq_true rfl) (Nat.le_of_ble_eq_true rfl) (ct_x10_lay hK) (fun I7 => ?_)
        refine s_iincL 2 (c := 1) (fun v8 => [(2, .int v8), (0, .ref (X.1 + 0)), (1, .int c1)]) dX10_rests_86 rfl rfl cI_1 (by decide) (fun _ => rfl) (fun v8 => ?_)
        refine s_goto (tgt := 50) dX10_rests_89 rfl ?_
        refine s_pick [1, 2, 0] rfl ?_
        exact ih v8 I7
theorem x10_rests_L34_ok {X : WX} {n0 s0 : Nat} {t : Nat} {L : ML} {R : MR} {S : MS} (hK : okr R S) (ht : R 27 0 = some t ∧ isT t) : ∀ (n : Nat) (w1 : Int32) (I : MI), Sim X yX10_rests cX10_rests 3 (some .int) 7 175 n0 s0 34 [(0, .ref (X.1 + 0)), (1, .int w1)] [] (I, L, R, S) (x10_rests_L34 t n w1 I) (fun b f => Ex X yX10_rests cX10_rests 3 (some .int) 7 175 n0 s0 98 [(0, .ref (X.1 + 0))] [] (b, L, R, S) f) := by
  intro n
  induction n with
  | zero =>
    intro w1 I
    exact sm_none
  | succ n ih =>
    intro w1 I
    change Sim _ _ _ _ _ _ _ _ _ _ _ _ _ (x10_rests_L34s t (x10_rests_L34 t n) w1 I) _
    unfold x10_rests_L34s
    refine s_iload_n 1 dX10_rests_34 rfl rfl ?_
    refine s_aload_n 0 dX10_rests_35 rfl rfl ?_
    refine s_getR 27 dX10_rests_36 rfl fl_10_32 rfl (S_0 hK) (R_0_4 hK) ?_
    refine s_getR t dX10_rests_39 rfl fl_10_87 rfl (S_27 hK) ht.1 ?_
    refine s_getI dX10_rests_42 rfl fl_10_217 (tS_0 hK ht.2) ?_
    refine s_icmp_ge (tgt := 98) dX10_rests_45 rfl rfl (fun _ => ?_) (fun _ => ?_)
    · skip
      refine s_pick [0] rfl ?_
      exact sm_exit (fun f h => h)
    · skip
      refine s_iconst (v := 0) dX10_rests_48 rfl cI_0 ?_
      refine s_istore_nL (fun v4 => [(2, .int v4), (0, .ref (X.1 + 0)), (1, .int w1)]) dX10_rests_49 rfl (by decide) (fun _ => rfl) (fun v4 => ?_)
      refine s_pick [1, 2, 0] rfl ?_
      refine sm_reg (x10_rests_L50_ok hK ht FU v4 I) (fun e9 => ?_)
      refine s_iincL 1 (c := 1) (fun v10 => [(1, .int v10), (0, .ref (X.1 + 0))]) dX10_rests_92 rfl rfl cI_1 (by decide) (fun _ => rfl) (fun v10 => ?_)
      refine s_goto (tgt := 34) dX10_rests_95 rfl ?_
      refine s_pick [1, 0] rfl ?_
      exact ih v10 e9
theorem ct_x10_rests {X : WX} {t : Nat} {I : MI} {L : ML} {R : MR} {S : MS} (hK : okr R S) (ht : R 27 0 = some t ∧ isT t) : Ct X yX10_rests cX10_rests 3 (some .int) 7 175 [.ref (X.1 + 0)] (I, L, R, S) (x10_rests t I) (fun r => (some (.int r.1), (r.2, L, R, S))) := by
  refine Ct.of (by decide) (Nat.le_of_ble_eq_true rfl) [(0, .ref (X.1 + 0))] rfl ?_
  unfold x10_rests
  refine s_aload_n 0 dX10_rests_0 rfl rfl ?_
  refine s_iconst (v := 0) dX10_rests_1 rfl cI_0 ?_
  refine s_putIL dX10_rests_2 rfl fl_10_112 (S_0 hK) (fun I1 => ?_)
  refine s_aload_n 0 dX10_rests_5 rfl rfl ?_
  refine s_getR 27 dX10_rests_6 rfl fl_10_32 rfl (S_0 hK) (R_0_4 hK) ?_
  refine s_getR t dX10_rests_9 rfl fl_10_87 rfl (S_27 hK) ht.1 ?_
  refine s_getI dX10_rests_12 rfl fl_10_207 (tS_0 hK ht.2) ?_
  refine s_iconst (v := 2) dX10_rests_15 rfl cI_2 ?_
  refine s_icmp_ge (tgt := 21) dX10_rests_16 rfl rfl (fun _ => ?_) (fun _ => ?_)
  · skip
    refine s_aload_n 0 dX10_rests_21 rfl rfl ?_
    refine s_getR 66 dX10_rests_22 rfl fl_10_70 rfl (S_0 hK) (R_0_10 hK) ?_
    refine s_aload_n 0 dX10_rests_25 rfl rfl ?_
    refine s_getR 47 dX10_rests_26 rfl fl_10_39 rfl (S_0 hK) (R_0_5 hK) ?_
    refine s_callV1_v1 dX10_rests_29 rfl lkV_RX10_220 (S_66 hK) (Nat.le_of_ble_eq_true rfl) (Nat.le_of_ble_eq_true rfl) (Nat.le_of_ble_eq_true rfl) (ct_x9_playAllPairs hK ht (st_47 hK)) (fun I2 => ?_)
    refine s_iconst (v := 0) dX10_rests_32 rfl cI_0 ?_
    refine s_istore_nL (fun v3 => [(1, .int v3), (0, .ref (X.1 + 0))]) dX10_rests_33 rfl (by decide) (fun _ => rfl) (fun v3 => ?_)
    refine s_pick [1, 0] rfl ?_
    refine sm_reg (x10_rests_L34_ok hK ht FU v3 I2) (fun e11 => ?_)
    refine s_aload_n 0 dX10_rests_98 rfl rfl ?_
    refine s_getI dX10_rests_99 rfl fl_10_112 (S_0 hK) ?_
    exact s_iret dX10_rests_102 rfl (fun f h => h)
  · skip
    refine s_iconst (v := 0) dX10_rests_19 rfl cI_0 ?_
    exact s_iret dX10_rests_20 rfl (fun f h => h)
noncomputable def x10_record (t : Nat) (p1 : Int32) (p2 : Int32) (p3 : Int32) (I : MI) : Option (Int32) :=
b1 (x10_isBobber t p1 I) fun r1 =>
if r1 = 0 then (
some (-1 : Int32)) else
b1 (x10_isKind p2 I) fun r2 =>
if r2 = 0 then (
some (-1 : Int32)) else
if p3 < 0 then (
some (-1 : Int32)) else
if p3 < 3 then (
b1 (x7_recordAt p1 p2 I) fun r3 =>
ck (vp_in (r3 + p3) 60) <|
some (I 58 (ix (r3 + p3)))) else
some (-1 : Int32)
theorem ct_x10_record {X : WX} {t : Nat} {p1 : Int32} {p2 : Int32} {p3 : Int32} {I : MI} {L : ML} {R : MR} {S : MS} (hK : okr R S) (ht : R 27 0 = some t ∧ isT t) : Ct X yX10_record cX10_record 4 (some .int) 1 21 [.ref (X.1 + 0), .int p1, .int p2, .int p3] (I, L, R, S) (x10_record t p1 p2 p3 I) (fun r => (some (.int r), (I, L, R, S))) := by
  refine Ct.of (by decide) (Nat.le_of_ble_eq_true rfl) [(0, .ref (X.1 + 0)), (1, .int p1), (2, .int p2), (3, .int p3)] rfl ?_
  unfold x10_record
  refine s_aload_n 0 dX10_record_0 rfl rfl ?_
  refine s_iload_n 1 dX10_record_1 rfl rfl ?_
  refine s_callV1_i0 dX10_record_2 rfl lkV_RX10_143 (S_0 hK) (Nat.le_of_ble_eq_true rfl) (Nat.le_of_ble_eq_true rfl) (Nat.le_of_ble_eq_true rfl) (ct_x10_isBobber hK ht) (fun r1 => ?_)
  refine s_if_eq (tgt := 24) dX10_record_5 rfl rfl (fun _ => ?_) (fun _ => ?_)
  · skip
    refine s_iconst (v := (-1)) dX10_record_24 rfl cI_m1 ?_
    exact s_iret dX10_record_25 rfl (fun f h => h)
  · skip
    refine s_iload_n 2 dX10_record_8 rfl rfl ?_
    refine s_callS1_i0 dX10_record_9 rfl lkS_RX10_230 (Nat.le_of_ble_eq_true rfl) (Nat.le_of_ble_eq_true rfl) (Nat.le_of_ble_eq_true rfl) (ct_x10_isKind hK) (fun r2 => ?_)
    refine s_if_eq (tgt := 24) dX10_record_12 rfl rfl (fun _ => ?_) (fun _ => ?_)
    · skip
      refine s_iconst (v := (-1)) dX10_record_24 rfl cI_m1 ?_
      exact s_iret dX10_record_25 rfl (fun f h => h)
    · skip
      refine s_iload_n 3 dX10_record_15 rfl rfl ?_
      refine s_if_lt (tgt := 24) dX10_record_16 rfl rfl (fun _ => ?_) (fun _ => ?_)
      · skip
        refine s_iconst (v := (-1)) dX10_record_24 rfl cI_m1 ?_
        exact s_iret dX10_record_25 rfl (fun f h => h)
      · skip
        refine s_iload_n 3 dX10_record_19 rfl rfl ?_
        refine s_iconst (v := 3) dX10_record_20 rfl cI_3 ?_
        refine s_icmp_lt (tgt := 26) dX10_record_21 rfl rfl (fun _ => ?_) (fun _ => ?_)
        · skip
          refine s_aload_n 0 dX10_record_26 rfl rfl ?_
          refine s_getR 47 dX10_record_27 rfl fl_10_39 rfl (S_0 hK) (R_0_5 hK) ?_
          refine s_getR 58 dX10_record_30 rfl fl_10_233 rfl (S_47 hK) (R_47_10 hK) ?_
          refine s_iload_n 1 dX10_record_33 rfl rfl ?_
          refine s_iload_n 2 dX10_record_34 rfl rfl ?_
          refine s_callS2_i0 dX10_record_35 rfl lkS_RX10_236 (Nat.le_of_ble_eq_true rfl) (Nat.le_of_ble_eq_true rfl) (Nat.le_of_ble_eq_true rfl) (ct_x7_recordAt hK) (fun r3 => ?_)
          refine s_iload_n 3 dX10_record_38 rfl rfl ?_
          refine s_iadd dX10_record_39 rfl ?_
          refine sm_ck (fun g4 => ?_)
          refine s_iald dX10_record_40 rfl (S_58 hK) g4 ?_
          exact s_iret dX10_record_41 rfl (fun f h => h)
        · skip
          refine s_iconst (v := (-1)) dX10_record_24 rfl cI_m1 ?_
          exact s_iret dX10_record_25 rfl (fun f h => h)
noncomputable def x10_easier_L33s (t : Nat) (c1 : Int32) (c3 : Int32) (rec : Int32 → Int32 → MI → Option (Int32 × MI)) (w4 : Int32) (w5 : Int32) (I : MI) : Option (Int32 × MI) :=
if w5 < (I t 4) then (
b2 (x1_canTry t 47 c1 w5 (0 : Int32) I) fun r8 I9 =>
if r8 = 0 then (
lt (w5 + 1) fun v10 =>
rec w4 v10 I9) else
b2 (x1_oddsOf t 47 c1 w5 (0 : Int32) I9) fun r11 I12 =>
if c3 < r11 then (
lt (w4 + 1) fun v14 =>
lt (w5 + 1) fun v15 =>
rec v14 v15 I12) else
lt (w5 + 1) fun v13 =>
rec w4 v13 I12) else
some (w4, I)
noncomputable def x10_easier_L33 (t : Nat) (c1 : Int32) (c3 : Int32) : Nat → Int32 → Int32 → MI → Option (Int32 × MI)
  | 0 => fun _ _ _ => none
  | n + 1 => x10_easier_L33s t c1 c3 (x10_easier_L33 t c1 c3 n)
noncomputable def x10_easier (t : Nat) (p1 : Int32) (p2 : Int32) (I : MI) : Option (Int32 × MI) :=
b2 (x10_canTryNow t p1 p2 (0 : Int32) I) fun r1 I2 =>
if r1 = 0 then (
some ((-1 : Int32), I2)) else
b2 (x1_oddsOf t 47 p1 p2 (0 : Int32) I2) fun r3 I4 =>
lt r3 fun v5 =>
lt (0 : Int32) fun v6 =>
lt (0 : Int32) fun v7 =>
b1 (x10_easier_L33 t p1 v5 FU v6 v7 I4) fun e16 =>
some (e16.1, e16.2)
theorem x10_easier_L33_ok {X : WX} {n0 s0 : Nat} {t : Nat} {c1 : Int32} {c3 : Int32} {L : ML} {R : MR} {S : MS} (hK : okr R S) (ht : R 27 0 = some t ∧ isT t) : ∀ (n : Nat) (w4 : Int32) (w5 : Int32) (I : MI), Sim X yX10_easier cX10_easier 6 (some .int) 5 122 n0 s0 33 [(0, .ref (X.1 + 0)), (1, .int c1), (3, .int c3), (4, .int w4), (5, .int w5)] [] (I, L, R, S) (x10_easier_L33 t c1 c3 n w4 w5 I) (fun b f => Ex X yX10_easier cX10_easier 6 (some .int) 5 122 n0 s0 94 [(4, .int b.1)] [] (b.2, L, R, S) f) := by
  intro n
  induction n with
  | zero =>
    intro w4 w5 I
    exact sm_none
  | succ n ih =>
    intro w4 w5 I
    change Sim _ _ _ _ _ _ _ _ _ _ _ _ _ (x10_easier_L33s t c1 c3 (x10_easier_L33 t c1 c3 n) w4 w5 I) _
    unfold x10_easier_L33s
    refine s_iload 4 dX10_easier_33 rfl rfl ?_
    refine s_aload_n 0 dX10_easier_35 rfl rfl ?_
    refine s_getR 27 dX10_easier_36 rfl fl_10_32 rfl (S_0 hK) (R_0_4 hK) ?_
    refine s_getR t dX10_easier_39 rfl fl_10_87 rfl (S_27 hK) ht.1 ?_
    refine s_getI dX10_easier_42 rfl fl_10_115 (tS_0 hK ht.2) ?_
    refine s_icmp_ge (tgt := 94) dX10_easier_45 rfl rfl (fun _ => ?_) (fun _ => ?_)
    · skip
      refine s_pick [3] rfl ?_
      exact sm_exit (fun f h => h)
    · skip
      refine s_aload_n 0 dX10_easier_48 rfl rfl ?_
      refine s_getR 27 dX10_easier_49 rfl fl_10_32 rfl (S_0 hK) (R_0_4 hK) ?_
      refine s_aload_n 0 dX10_easier_52 rfl rfl ?_
      refine s_getR 47 dX10_easier_53 rfl fl_10_39 rfl (S_0 hK) (R_0_5 hK) ?_
      refine s_iload_n 1 dX10_easier_56 rfl rfl ?_
      refine s_iload 4 dX10_easier_57 rfl rfl ?_
      refine s_iconst (v := 0) dX10_easier_59 rfl cI_0 ?_
      refine s_callV4_i1 dX10_easier_60 rfl lkV_RX10_240 (S_27 hK) (Nat.le_of_ble_eq_true rfl) (Nat.le_of_ble_eq_true rfl) (Nat.le_of_ble_eq_true rfl) (ct_x1_canTry hK ht (st_47 hK)) (fun r8 I9 => ?_)
      refine s_if_eq (tgt := 88) dX10_easier_63 rfl rfl (fun _ => ?_) (fun _ => ?_)
      · skip
        refine s_iincL 4 (c := 1) (fun v10 => [(5, .int v10), (0, .ref (X.1 + 0)), (1, .int c1), (3, .int c3), (4, .int w4)]) dX10_easier_88 rfl rfl cI_1 (by decide) (fun _ => rfl) (fun v10 => ?_)
        refine s_goto (tgt := 33) dX10_easier_91 rfl ?_
        refine s_pick [1, 2, 3, 4, 0] rfl ?_
        exact ih w4 v10 I9
      · skip
        refine s_aload_n 0 dX10_easier_66 rfl rfl ?_
        refine s_getR 27 dX10_easier_67 rfl fl_10_32 rfl (S_0 hK) (R_0_4 hK) ?_
        refine s_aload_n 0 dX10_easier_70 rfl rfl ?_
        refine s_getR 47 dX10_easier_71 rfl fl_10_39 rfl (S_0 hK) (R_0_5 hK) ?_
        refine s_iload_n 1 dX10_easier_74 rfl rfl ?_
        refine s_iload 4 dX10_easier_75 rfl rfl ?_
        refine s_iconst (v := 0) dX10_easier_77 rfl cI_0 ?_
        refine s_callV4_i1 dX10_easier_78 rfl lkV_RX10_159 (S_27 hK) (Nat.le_of_ble_eq_true rfl) (Nat.le_of_ble_eq_true rfl) (Nat.le_of_ble_eq_true rfl) (ct_x1_oddsOf hK ht (st_47 hK)) (fun r11 I12 => ?_)
        refine s_iload_n 2 dX10_easier_81 rfl rfl ?_
        refine s_icmp_le (tgt := 88) dX10_easier_82 rfl rfl (fun _ => ?_) (fun _ => ?_)
        · skip
          refine s_iincL 4 (c := 1) (fun v13 => [(5, .int v13), (0, .ref (X.1 + 0)), (1, .int c1), (3, .int c3), (4, .int w4)]) dX10_easier_88 rfl rfl cI_1 (by decide) (fun _ => rfl) (fun v13 => ?_)
          refine s_goto (tgt := 33) dX10_easier_91 rfl ?_
          refine s_pick [1, 2, 3, 4, 0] rfl ?_
          exact ih w4 v13 I12
        · skip
          refine s_iincL 3 (c := 1) (fun v14 => [(4, .int v14), (0, .ref (X.1 + 0)), (1, .int c1), (3, .int c3), (5, .int w5)]) dX10_easier_85 rfl rfl cI_1 (by decide) (fun _ => rfl) (fun v14 => ?_)
          refine s_iincL 4 (c := 1) (fun v15 => [(5, .int v15), (4, .int v14), (0, .ref (X.1 + 0)), (1, .int c1), (3, .int c3)]) dX10_easier_88 rfl rfl cI_1 (by decide) (fun _ => rfl) (fun v15 => ?_)
          refine s_goto (tgt := 33) dX10_easier_91 rfl ?_
          refine s_pick [2, 3, 4, 1, 0] rfl ?_
          exact ih v14 v15 I12
theorem ct_x10_easier {X : WX} {t : Nat} {p1 : Int32} {p2 : Int32} {I : MI} {L : ML} {R : MR} {S : MS} (hK : okr R S) (ht : R 27 0 = some t ∧ isT t) : Ct X yX10_easier cX10_easier 6 (some .int) 5 122 [.ref (X.1 + 0), .int p1, .int p2] (I, L, R, S) (x10_easier t p1 p2 I) (fun r => (some (.int r.1), (r.2, L, R, S))) := by
  refine Ct.of (by decide) (Nat.le_of_ble_eq_true rfl) [(0, .ref (X.1 + 0)), (1, .int p1), (2, .int p2)] rfl ?_
  unfold x10_easier
  refine s_aload_n 0 dX10_easier_0 rfl rfl ?_
  refine s_iload_n 1 dX10_easier_1 rfl rfl ?_
  refine s_iload_n 2 dX10_easier_2 rfl rfl ?_
  refine s_iconst (v := 0) dX10_easier_3 rfl cI_0 ?_
  refine s_callV3_i1 dX10_easier_4 rfl lkV_RX10_155 (S_0 hK) (Nat.le_of_ble_eq_true rfl) (Nat.le_of_ble_eq_true rfl) (Nat.le_of_ble_eq_true rfl) (ct_x10_canTryNow hK ht) (fun r1 I2 => ?_)
  refine s_if_ne (tgt := 12) dX10_easier_7 rfl rfl (fun _ => ?_) (fun _ => ?_)
  · skip
    refine s_aload_n 0 dX10_easier_12 rfl rfl ?_
    refine s_getR 27 dX10_easier_13 rfl fl_10_32 rfl (S_0 hK) (R_0_4 hK) ?_
    refine s_aload_n 0 dX10_easier_16 rfl rfl ?_
    refine s_getR 47 dX10_easier_17 rfl fl_10_39 rfl (S_0 hK) (R_0_5 hK) ?_
    refine s_iload_n 1 dX10_easier_20 rfl rfl ?_
    refine s_iload_n 2 dX10_easier_21 rfl rfl ?_
    refine s_iconst (v := 0) dX10_easier_22 rfl cI_0 ?_
    refine s_callV4_i1 dX10_easier_23 rfl lkV_RX10_159 (S_27 hK) (Nat.le_of_ble_eq_true rfl) (Nat.le_of_ble_eq_true rfl) (Nat.le_of_ble_eq_true rfl) (ct_x1_oddsOf hK ht (st_47 hK)) (fun r3 I4 => ?_)
    refine s_istore_nL (fun v5 => [(3, .int v5), (0, .ref (X.1 + 0)), (1, .int p1), (2, .int p2)]) dX10_easier_26 rfl (by decide) (fun _ => rfl) (fun v5 => ?_)
    refine s_iconst (v := 0) dX10_easier_27 rfl cI_0 ?_
    refine s_istoreL (fun v6 => [(4, .int v6), (3, .int v5), (0, .ref (X.1 + 0)), (1, .int p1), (2, .int p2)]) dX10_easier_28 rfl (by decide) (fun _ => rfl) (fun v6 => ?_)
    refine s_iconst (v := 0) dX10_easier_30 rfl cI_0 ?_
    refine s_istoreL (fun v7 => [(5, .int v7), (4, .int v6), (3, .int v5), (0, .ref (X.1 + 0)), (1, .int p1), (2, .int p2)]) dX10_easier_31 rfl (by decide) (fun _ => rfl) (fun v7 => ?_)
    refine s_pick [3, 4, 2, 1, 0] rfl ?_
    refine sm_reg (x10_easier_L33_ok hK ht FU v6 v7 I4) (fun e16 => ?_)
    refine s_iload 0 dX10_easier_94 rfl rfl ?_
    exact s_iret dX10_easier_96 rfl (fun f h => h)
  · skip
    refine s_iconst (v := (-1)) dX10_easier_10 rfl cI_m1 ?_
    exact s_iret dX10_easier_11 rfl (fun f h => h)
noncomputable def x10_isTrialTurns (p0 : Int32) (I : MI) : Option (Int32) :=
if p0 < 1 then (
some (0 : Int32)) else
if 10 < p0 then (
some (0 : Int32)) else
some (1 : Int32)
theorem ct_x10_isTrialTurns {X : WX} {p0 : Int32} {I : MI} {L : ML} {R : MR} {S : MS} (hK : okr R S) : Ct X yX10_isTrialTurns cX10_isTrialTurns 1 (some .boolean) 0 0 [.int p0] (I, L, R, S) (x10_isTrialTurns p0 I) (fun r => (some (.int r), (I, L, R, S))) := by
  refine Ct.of (by decide) (Nat.le_of_ble_eq_true rfl) [(0, .int p0)] rfl ?_
  unfold x10_isTrialTurns
  refine s_iload_n 0 dX10_isTrialTurns_0 rfl rfl ?_
  refine s_iconst (v := 1) dX10_isTrialTurns_1 rfl cI_1 ?_
  refine s_icmp_lt (tgt := 15) dX10_isTrialTurns_2 rfl rfl (fun _ => ?_) (fun _ => ?_)
  · skip
    refine s_iconst (v := 0) dX10_isTrialTurns_15 rfl cI_0 ?_
    exact s_zret dX10_isTrialTurns_16 rfl (Or.inl rfl) (fun f h => h)
  · skip
    refine s_iload_n 0 dX10_isTrialTurns_5 rfl rfl ?_
    refine s_bipush (v := 10) dX10_isTrialTurns_6 rfl cB_10 ?_
    refine s_icmp_gt (tgt := 15) dX10_isTrialTurns_8 rfl rfl (fun _ => ?_) (fun _ => ?_)
    · skip
      refine s_iconst (v := 0) dX10_isTrialTurns_15 rfl cI_0 ?_
      exact s_zret dX10_isTrialTurns_16 rfl (Or.inl rfl) (fun f h => h)
    · skip
      refine s_iconst (v := 1) dX10_isTrialTurns_11 rfl cI_1 ?_
      refine s_goto (tgt := 16) dX10_isTrialTurns_12 rfl ?_
      exact s_zret dX10_isTrialTurns_16 rfl (Or.inr rfl) (fun f h => h)
