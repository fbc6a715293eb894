noncomputable def x1_asOdds (p0 : Int32) (I : MI) : Option (Int32) :=
some (if (0 : Int32) < (if p0 < 100 then p0 else 100) then (if p0 < 100 then p0 else 100) else 0)
theorem ct_x1_asOdds {X : WX} {p0 : Int32} {I : MI} {L : ML} {R : MR} {S : MS} (hK : okr R S) : Ct X yX1_asOdds cX1_asOdds 1 (some .int) 1 25 [.int p0] (I, L, R, S) (x1_asOdds p0 I) (fun r => (some (.int r), (I, L, R, S))) := by
  refine Ct.of (by decide) (Nat.le_of_ble_eq_true rfl) [(0, .int p0)] rfl ?_
  unfold x1_asOdds
  refine s_iconst (v := 0) dX1_asOdds_0 rfl cI_0 ?_
  refine s_bipush (v := 100) dX1_asOdds_1 rfl cB_100 ?_
  refine s_iload_n 0 dX1_asOdds_3 rfl rfl ?_
  refine s_mmin dX1_asOdds_4 rfl lkw_1_129 lk_mmin (Nat.le_of_ble_eq_true rfl) (Nat.le_of_ble_eq_true rfl) (Nat.le_of_ble_eq_true rfl) ?_
  refine s_mmax dX1_asOdds_7 rfl lkw_1_41 lk_mmax (Nat.le_of_ble_eq_true rfl) (Nat.le_of_ble_eq_true rfl) (Nat.le_of_ble_eq_true rfl) ?_
  exact s_iret dX1_asOdds_10 rfl (fun f h => h)
noncomputable def x1_oddsOf (t : Nat) (q1 : Nat) (p2 : Int32) (p3 : Int32) (p4 : Int32) (I : MI) : Option (Int32 × MI) :=
b1 (x1_look t q1 p2 p3 I) fun I1 =>
b2 (x0_value t 46 10 p4 I1) fun r2 I3 =>
b1 (x1_asOdds r2 I3) fun r4 =>
some (r4, I3)
theorem ct_x1_oddsOf {X : WX} {t : Nat} {q1 : Nat} {p2 : Int32} {p3 : Int32} {p4 : Int32} {I : MI} {L : ML} {R : MR} {S : MS} (hK : okr R S) (ht : R 27 0 = some t ∧ isT t) (hq1 : isSt R S q1) : Ct X yX1_oddsOf cX1_oddsOf 5 (some .int) 3 73 [.ref (X.1 + 27), .ref (X.1 + q1), .int p2, .int p3, .int p4] (I, L, R, S) (x1_oddsOf t q1 p2 p3 p4 I) (fun r => (some (.int r.1), (r.2, L, R, S))) := by
  refine Ct.of (by decide) (Nat.le_of_ble_eq_true rfl) [(0, .ref (X.1 + 27)), (1, .ref (X.1 + q1)), (2, .int p2), (3, .int p3), (4, .int p4)] rfl ?_
  unfold x1_oddsOf
  refine s_aload_n 0 dX1_oddsOf_0 rfl rfl ?_
  refine s_aload_n 1 dX1_oddsOf_1 rfl rfl ?_
  refine s_iload_n 2 dX1_oddsOf_2 rfl rfl ?_
  refine s_iload_n 3 dX1_oddsOf_3 rfl rfl ?_
  refine s_callV3_v1 dX1_oddsOf_4 rfl lkV_RX1_115 (S_27 hK) (Nat.le_of_ble_eq_true rfl) (Nat.le_of_ble_eq_true rfl) (Nat.le_of_ble_eq_true rfl) (ct_x1_look hK ht hq1) (fun I1 => ?_)
  refine s_aload_n 0 dX1_oddsOf_7 rfl rfl ?_
  refine s_getR t dX1_oddsOf_8 rfl fl_1_17 rfl (S_27 hK) ht.1 ?_
  refine s_getR (t + 13) dX1_oddsOf_11 rfl fl_1_118 rfl (tS_0 hK ht.2) (tR_0_19 hK ht.2) ?_
  refine s_iload 4 dX1_oddsOf_14 rfl rfl ?_
  refine s_aload_n 0 dX1_oddsOf_16 rfl rfl ?_
  refine s_getR 46 dX1_oddsOf_17 rfl fl_1_11 rfl (S_27 hK) (R_27_1 hK) ?_
  refine s_callV2_i1 dX1_oddsOf_20 rfl lkV_RX1_122 (tS_13 hK ht.2) (Nat.le_of_ble_eq_true rfl) (Nat.le_of_ble_eq_true rfl) (Nat.le_of_ble_eq_true rfl) (ct_x0_value hK ht.2 (S_46 hK)) (fun r2 I3 => ?_)
  refine s_callS1_i0 dX1_oddsOf_23 rfl lkS_RX1_126 (Nat.le_of_ble_eq_true rfl) (Nat.le_of_ble_eq_true rfl) (Nat.le_of_ble_eq_true rfl) (ct_x1_asOdds hK) (fun r4 => ?_)
  exact s_iret dX1_oddsOf_26 rfl (fun f h => h)
noncomputable def x10_odds (t : Nat) (p1 : Int32) (p2 : Int32) (p3 : Int32) (I : MI) : Option (Int32 × MI) :=
b2 (x10_canTryNow t p1 p2 p3 I) fun r1 I2 =>
if r1 = 0 then (
some ((-1 : Int32), I2)) else
b2 (x1_oddsOf t 47 p1 p2 p3 I2) fun r3 I4 =>
some (r3, I4)
theorem ct_x10_odds {X : WX} {t : Nat} {p1 : Int32} {p2 : Int32} {p3 : Int32} {I : MI} {L : ML} {R : MR} {S : MS} (hK : okr R S) (ht : R 27 0 = some t ∧ isT t) : Ct X yX10_odds cX10_odds 4 (some .int) 5 122 [.ref (X.1 + 0), .int p1, .int p2, .int p3] (I, L, R, S) (x10_odds t p1 p2 p3 I) (fun r => (some (.int r.1), (r.2, L, R, S))) := by
  refine Ct.of (by decide) (Nat.le_of_ble_eq_true rfl) [(0, .ref (X.1 + 0)), (1, .int p1), (2, .int p2), (3, .int p3)] rfl ?_
  unfold x10_odds
  refine s_aload_n 0 dX10_odds_0 rfl rfl ?_
  refine s_iload_n 1 dX10_odds_1 rfl rfl ?_
  refine s_iload_n 2 dX10_odds_2 rfl rfl ?_
  refine s_iload_n 3 dX10_odds_3 rfl rfl ?_
  refine s_callV3_i1 dX10_odds_4 rfl lkV_RX10_155 (S_0 hK) (Nat.le_of_ble_eq_true rfl) (Nat.le_of_ble_eq_true rfl) (Nat.le_of_ble_eq_true rfl) (ct_x10_canTryNow hK ht) (fun r1 I2 => ?_)
  refine s_if_eq (tgt := 27) dX10_odds_7 rfl rfl (fun _ => ?_) (fun _ => ?_)
  · skip
    refine s_iconst (v := (-1)) dX10_odds_27 rfl cI_m1 ?_
    exact s_iret dX10_odds_28 rfl (fun f h => h)
  · skip
    refine s_aload_n 0 dX10_odds_10 rfl rfl ?_
    refine s_getR 27 dX10_odds_11 rfl fl_10_32 rfl (S_0 hK) (R_0_4 hK) ?_
    refine s_aload_n 0 dX10_odds_14 rfl rfl ?_
    refine s_getR 47 dX10_odds_15 rfl fl_10_39 rfl (S_0 hK) (R_0_5 hK) ?_
    refine s_iload_n 1 dX10_odds_18 rfl rfl ?_
    refine s_iload_n 2 dX10_odds_19 rfl rfl ?_
    refine s_iload_n 3 dX10_odds_20 rfl rfl ?_
    refine s_callV4_i1 dX10_odds_21 rfl lkV_RX10_159 (S_27 hK) (Nat.le_of_ble_eq_true rfl) (Nat.le_of_ble_eq_true rfl) (Nat.le_of_ble_eq_true rfl) (ct_x1_oddsOf hK ht (st_47 hK)) (fun r3 I4 => ?_)
    refine s_goto (tgt := 28) dX10_odds_24 rfl ?_
    exact s_iret dX10_odds_28 rfl (fun f h => h)
noncomputable def x8_ruleOf (t0 : Nat) (p1 : Int32) (I : MI) : Option (Int32) :=
if (I t0 18) = 0 then (
some (-1 : Int32)) else
ck (vp_in p1 4) <|
some (I (t0 + 12) (ix p1))
theorem ct_x8_ruleOf {X : WX} {t0 : Nat} {p1 : Int32} {I : MI} {L : ML} {R : MR} {S : MS} (hK : okr R S) (ht0 : isT t0) : Ct X yX8_ruleOf cX8_ruleOf 2 (some .int) 0 0 [.ref (X.1 + t0), .int p1] (I, L, R, S) (x8_ruleOf t0 p1 I) (fun r => (some (.int r), (I, L, R, S))) := by
  refine Ct.of (by decide) (Nat.le_of_ble_eq_true rfl) [(0, .ref (X.1 + t0)), (1, .int p1)] rfl ?_
  unfold x8_ruleOf
  refine s_aload_n 0 dX8_ruleOf_0 rfl rfl ?_
  refine s_getI dX8_ruleOf_1 rfl fl_8_77 (tS_0 hK ht0) ?_
  refine s_if_ne (tgt := 11) dX8_ruleOf_4 rfl rfl (fun _ => ?_) (fun _ => ?_)
  · skip
    refine s_aload_n 0 dX8_ruleOf_11 rfl rfl ?_
    refine s_getR (t0 + 12) dX8_ruleOf_12 rfl fl_8_45 rfl (tS_0 hK ht0) (tR_0_17 hK ht0) ?_
    refine s_iload_n 1 dX8_ruleOf_15 rfl rfl ?_
    refine sm_ck (fun g1 => ?_)
    refine s_iald dX8_ruleOf_16 rfl (tS_12 hK ht0) g1 ?_
    exact s_iret dX8_ruleOf_17 rfl (fun f h => h)
  · skip
    refine s_iconst (v := (-1)) dX8_ruleOf_7 rfl cI_m1 ?_
    refine s_goto (tgt := 17) dX8_ruleOf_8 rfl ?_
    exact s_iret dX8_ruleOf_17 rfl (fun f h => h)
noncomputable def x1_worthSeen (t : Nat) (p1 : Int32) (p2 : Int32) (I : MI) : Option (Int32 × MI) :=
if p1 = (-1) then (
some ((0 : Int32), I)) else
b2 (x0_value t 46 10 p2 I) fun r1 I2 =>
b1 (x1_asOdds r1 I2) fun r3 =>
lt r3 fun v4 =>
lt (wI I2 46 (ix (8 : Int32)) p2) fun I5 =>
lt (wI I5 46 (ix (9 : Int32)) v4) fun I6 =>
b2 (x0_value t 46 10 (5 + p1) I6) fun r7 I8 =>
lt r7 fun v9 =>
b1 (x1_hideTry I8) fun I10 =>
some (v9, I10)
theorem ct_x1_worthSeen {X : WX} {t : Nat} {p1 : Int32} {p2 : Int32} {I : MI} {L : ML} {R : MR} {S : MS} (hK : okr R S) (ht : R 27 0 = some t ∧ isT t) : Ct X yX1_worthSeen cX1_worthSeen 5 (some .int) 2 47 [.ref (X.1 + 27), .int p1, .int p2] (I, L, R, S) (x1_worthSeen t p1 p2 I) (fun r => (some (.int r.1), (r.2, L, R, S))) := by
  refine Ct.of (by decide) (Nat.le_of_ble_eq_true rfl) [(0, .ref (X.1 + 27)), (1, .int p1), (2, .int p2)] rfl ?_
  unfold x1_worthSeen
  refine s_iload_n 1 dX1_worthSeen_0 rfl rfl ?_
  refine s_iconst (v := (-1)) dX1_worthSeen_1 rfl cI_m1 ?_
  refine s_icmp_ne (tgt := 7) dX1_worthSeen_2 rfl rfl (fun _ => ?_) (fun _ => ?_)
  · skip
    refine s_aload_n 0 dX1_worthSeen_7 rfl rfl ?_
    refine s_getR t dX1_worthSeen_8 rfl fl_1_17 rfl (S_27 hK) ht.1 ?_
    refine s_getR (t + 13) dX1_worthSeen_11 rfl fl_1_118 rfl (tS_0 hK ht.2) (tR_0_19 hK ht.2) ?_
    refine s_iload_n 2 dX1_worthSeen_14 rfl rfl ?_
    refine s_aload_n 0 dX1_worthSeen_15 rfl rfl ?_
    refine s_getR 46 dX1_worthSeen_16 rfl fl_1_11 rfl (S_27 hK) (R_27_1 hK) ?_
    refine s_callV2_i1 dX1_worthSeen_19 rfl lkV_RX1_122 (tS_13 hK ht.2) (Nat.le_of_ble_eq_true rfl) (Nat.le_of_ble_eq_true rfl) (Nat.le_of_ble_eq_true rfl) (ct_x0_value hK ht.2 (S_46 hK)) (fun r1 I2 => ?_)
    refine s_callS1_i0 dX1_worthSeen_22 rfl lkS_RX1_126 (Nat.le_of_ble_eq_true rfl) (Nat.le_of_ble_eq_true rfl) (Nat.le_of_ble_eq_true rfl) (ct_x1_asOdds hK) (fun r3 => ?_)
    refine s_istore_nL (fun v4 => [(3, .int v4), (0, .ref (X.1 + 27)), (1, .int p1), (2, .int p2)]) dX1_worthSeen_25 rfl (by decide) (fun _ => rfl) (fun v4 => ?_)
    refine s_aload_n 1 dX1_worthSeen_26 rfl rfl ?_
    refine s_getR 46 dX1_worthSeen_27 rfl fl_1_11 rfl (S_27 hK) (R_27_1 hK) ?_
    refine s_bipush (v := 8) dX1_worthSeen_30 rfl cB_8 ?_
    refine s_iload_n 3 dX1_worthSeen_32 rfl rfl ?_
    refine s_iastL dX1_worthSeen_33 rfl (S_46 hK) (by unfold vp_in; decide) (fun I5 => ?_)
    refine s_aload_n 1 dX1_worthSeen_34 rfl rfl ?_
    refine s_getR 46 dX1_worthSeen_35 rfl fl_1_11 rfl (S_27 hK) (R_27_1 hK) ?_
    refine s_bipush (v := 9) dX1_worthSeen_38 rfl cB_9 ?_
    refine s_iload_n 0 dX1_worthSeen_40 rfl rfl ?_
    refine s_iastL dX1_worthSeen_41 rfl (S_46 hK) (by unfold vp_in; decide) (fun I6 => ?_)
    refine s_aload_n 1 dX1_worthSeen_42 rfl rfl ?_
    refine s_getR t dX1_worthSeen_43 rfl fl_1_17 rfl (S_27 hK) ht.1 ?_
    refine s_getR (t + 13) dX1_worthSeen_46 rfl fl_1_118 rfl (tS_0 hK ht.2) (tR_0_19 hK ht.2) ?_
    refine s_iconst (v := 5) dX1_worthSeen_49 rfl cI_5 ?_
    refine s_iload_n 2 dX1_worthSeen_50 rfl rfl ?_
    refine s_iadd dX1_worthSeen_51 rfl ?_
    refine s_aload_n 1 dX1_worthSeen_52 rfl rfl ?_
    refine s_getR 46 dX1_worthSeen_53 rfl fl_1_11 rfl (S_27 hK) (R_27_1 hK) ?_
    refine s_callV2_i1 dX1_worthSeen_56 rfl lkV_RX1_122 (tS_13 hK ht.2) (Nat.le_of_ble_eq_true rfl) (Nat.le_of_ble_eq_true rfl) (Nat.le_of_ble_eq_true rfl) (ct_x0_value hK ht.2 (S_46 hK)) (fun r7 I8 => ?_)
    refine s_istoreL (fun v9 => [(4, .int v9), (3, .int v4), (0, .ref (X.1 + 27)), (1, .int p1), (2, .int p2)]) dX1_worthSeen_59 rfl (by decide) (fun _ => rfl) (fun v9 => ?_)
    refine s_aload_n 2 dX1_worthSeen_61 rfl rfl ?_
    refine s_callV0_v1 dX1_worthSeen_62 rfl lkV_RX1_112 (S_27 hK) (Nat.le_of_ble_eq_true rfl) (Nat.le_of_ble_eq_true rfl) (Nat.le_of_ble_eq_true rfl) (ct_x1_hideTry hK) (fun I10 => ?_)
    refine s_iload 0 dX1_worthSeen_65 rfl rfl ?_
    exact s_iret dX1_worthSeen_67 rfl (fun f h => h)
  · skip
    refine s_iconst (v := 0) dX1_worthSeen_5 rfl cI_0 ?_
    exact s_iret dX1_worthSeen_6 rfl (fun f h => h)
noncomputable def x1_choose_L46s (t : Nat) (q1 : Nat) (c2 : Int32) (c3 : Int32) (c6 : Int32) (rec : Int32 → Int32 → Int32 → MI → Option (Int32 × Int32 × MI)) (w4 : Int32) (w5 : Int32) (w7 : Int32) (I : MI) : Option (Int32 × Int32 × MI) :=
if w7 < 5 then (
b2 (x1_allows t q1 c2 c6 w7 I) fun r7 I8 =>
if r7 = 0 then (
lt (w7 + 1) fun v19 =>
rec w4 w5 v19 I8) else
b2 (x1_worthSeen t c3 w7 I8) fun r9 I10 =>
lt r9 fun v11 =>
if w4 = (-1) then (
lt ((10 * c6) + w7) fun v12 =>
lt v11 fun v13 =>
lt (w7 + 1) fun v14 =>
rec v12 v13 v14 I10) else
if w5 < v11 then (
lt ((10 * c6) + w7) fun v16 =>
lt v11 fun v17 =>
lt (w7 + 1) fun v18 =>
rec v16 v17 v18 I10) else
lt (w7 + 1) fun v15 =>
rec w4 w5 v15 I10) else
some (w4, w5, I)
noncomputable def x1_choose_L46 (t : Nat) (q1 : Nat) (c2 : Int32) (c3 : Int32) (c6 : Int32) : Nat → Int32 → Int32 → Int32 → MI → Option (Int32 × Int32 × MI)
  | 0 => fun _ _ _ _ => none
  | n + 1 => x1_choose_L46s t q1 c2 c3 c6 (x1_choose_L46 t q1 c2 c3 c6 n)
noncomputable def x1_choose_L9s (t : Nat) (q1 : Nat) (c2 : Int32) (c3 : Int32) (rec : Int32 → Int32 → Int32 → MI → Option (Int32 × MI)) (w4 : Int32) (w5 : Int32) (w6 : Int32) (I : MI) : Option (Int32 × MI) :=
if w6 < (I t 4) then (
b1 (x1_reaches t q1 c2 w6 I) fun r4 =>
if r4 = 0 then (
lt (w6 + 1) fun v22 =>
rec w4 w5 v22 I) else
b1 (x1_look t q1 c2 w6 I) fun I5 =>
lt (0 : Int32) fun v6 =>
b1 (x1_choose_L46 t q1 c2 c3 w6 FU w4 w5 v6 I5) fun e20 =>
lt (w6 + 1) fun v21 =>
rec e20.1 e20.2.1 v21 e20.2.2) else
some (w4, I)
noncomputable def x1_choose_L9 (t : Nat) (q1 : Nat) (c2 : Int32) (c3 : Int32) : Nat → Int32 → Int32 → Int32 → MI → Option (Int32 × MI)
  | 0 => fun _ _ _ _ => none
  | n + 1 => x1_choose_L9s t q1 c2 c3 (x1_choose_L9 t q1 c2 c3 n)
noncomputable def x1_choose (t : Nat) (q1 : Nat) (p2 : Int32) (p3 : Int32) (I : MI) : Option (Int32 × MI) :=
lt (-1 : Int32) fun v1 =>
lt (0 : Int32) fun v2 =>
lt (0 : Int32) fun v3 =>
b1 (x1_choose_L9 t q1 p2 p3 FU v1 v2 v3 I) fun e23 =>
some (e23.1, e23.2)
theorem x1_choose_L46_ok {X : WX} {n0 s0 : Nat} {t : Nat} {q1 : Nat} {c2 : Int32} {c3 : Int32} {c6 : Int32} {L : ML} {R : MR} {S : MS} (hK : okr R S) (ht : R 27 0 = some t ∧ isT t) (hq1 : isSt R S q1) : ∀ (n : Nat) (w4 : Int32) (w5 : Int32) (w7 : Int32) (I : MI), Sim X yX1_choose cX1_choose 9 (some .int) 3 75 n0 s0 46 [(0, .ref (X.1 + 27)), (1, .ref (X.1 + q1)), (2, .int c2), (3, .int c3), (4, .int w4), (5, .int w5), (6, .int c6), (7, .int w7)] [] (I, L, R, S) (x1_choose_L46 t q1 c2 c3 c6 n w4 w5 w7 I) (fun b f => Ex X yX1_choose cX1_choose 9 (some .int) 3 75 n0 s0 110 [(0, .ref (X.1 + 27)), (1, .ref (X.1 + q1)), (2, .int c2), (3, .int c3), (4, .int b.1), (5, .int b.2.1), (6, .int c6)] [] (b.2.2, L, R, S) f) := by
  intro n
  induction n with
  | zero =>
    intro w4 w5 w7 I
    exact sm_none
  | succ n ih =>
    intro w4 w5 w7 I
    change Sim _ _ _ _ _ _ _ _ _ _ _ _ _ (x1_choose_L46s t q1 c2 c3 c6 (x1_choose_L46 t q1 c2 c3 c6 n) w4 w5 w7 I) _
    unfold x1_choose_L46s
    refine s_iload 7 dX1_choose_46 rfl rfl ?_
    refine s_iconst (v := 5) dX1_choose_48 rfl cI_5 ?_
    refine s_icmp_ge (tgt := 110) dX1_choose_49 rfl rfl (fun _ => ?_) (fun _ => ?_)
    · skip
      refine s_pick [0, 1, 2, 3, 4, 5, 6] rfl ?_
      exact sm_exit (fun f h => h)
    · skip
      refine s_aload_n 0 dX1_choose_52 rfl rfl ?_
      refine s_aload_n 1 dX1_choose_53 rfl rfl ?_
      refine s_iload_n 2 dX1_choose_54 rfl rfl ?_
      refine s_iload 6 dX1_choose_55 rfl rfl ?_
      refine s_iload 7 dX1_choose_57 rfl rfl ?_
      refine s_callV4_i1 dX1_choose_59 rfl lkV_RX1_96 (S_27 hK) (Nat.le_of_ble_eq_true rfl) (Nat.le_of_ble_eq_true rfl) (Nat.le_of_ble_eq_true rfl) (ct_x1_allows hK ht hq1) (fun r7 I8 => ?_)
      refine s_if_ne (tgt := 68) dX1_choose_62 rfl rfl (fun _ => ?_) (fun _ => ?_)
      · skip
        refine s_aload_n 0 dX1_choose_68 rfl rfl ?_
        refine s_iload_n 3 dX1_choose_69 rfl rfl ?_
        refine s_iload 7 dX1_choose_70 rfl rfl ?_
        refine s_callV2_i1 dX1_choose_72 rfl lkV_RX1_132 (S_27 hK) (Nat.le_of_ble_eq_true rfl) (Nat.le_of_ble_eq_true rfl) (Nat.le_of_ble_eq_true rfl) (ct_x1_worthSeen hK ht) (fun r9 I10 => ?_)
        refine s_istoreL (fun v11 => [(8, .int v11), (0, .ref (X.1 + 27)), (1, .ref (X.1 + q1)), (2, .int c2), (3, .int c3), (4, .int w4), (5, .int w5), (6, .int c6), (7, .int w7)]) dX1_choose_75 rfl (by decide) (fun _ => rfl) (fun v11 => ?_)
        refine s_iload 5 dX1_choose_77 rfl rfl ?_
        refine s_iconst (v := (-1)) dX1_choose_79 rfl cI_m1 ?_
        refine s_icmp_eq (tgt := 90) dX1_choose_80 rfl rfl (fun _ => ?_) (fun _ => ?_)
        · skip
          refine s_bipush (v := 10) dX1_choose_90 rfl cB_10 ?_
          refine s_iload 7 dX1_choose_92 rfl rfl ?_
          refine s_imul dX1_choose_94 rfl ?_
          refine s_iload 8 dX1_choose_95 rfl rfl ?_
          refine s_iadd dX1_choose_97 rfl ?_
          refine s_istoreL (fun v12 => [(4, .int v12), (8, .int v11), (0, .ref (X.1 + 27)), (1, .ref (X.1 + q1)), (2, .int c2), (3, .int c3), (5, .int w5), (6, .int c6), (7, .int w7)]) dX1_choose_98 rfl (by decide) (fun _ => rfl) (fun v12 => ?_)
          refine s_iload 1 dX1_choose_100 rfl rfl ?_
          refine s_istoreL (fun v13 => [(5, .int v13), (4, .int v12), (8, .int v11), (0, .ref (X.1 + 27)), (1, .ref (X.1 + q1)), (2, .int c2), (3, .int c3), (6, .int c6), (7, .int w7)]) dX1_choose_102 rfl (by decide) (fun _ => rfl) (fun v13 => ?_)
          refine s_iincL 8 (c := 1) (fun v14 => [(7, .int v14), (5, .int v13), (4, .int v12), (8, .int v11), (0, .ref (X.1 + 27)), (1, .ref (X.1 + q1)), (2, .int c2), (3, .int c3), (6, .int c6)]) dX1_choose_104 rfl rfl cI_1 (by decide) (fun _ => rfl) (fun v14 => ?_)
          refine s_goto (tgt := 46) dX1_choose_107 rfl ?_
          refine s_pick [4, 5, 6, 7, 2, 1, 8, 0] rfl ?_
          exact ih v12 v13 v14 I10
        · skip
          refine s_iload 0 dX1_choose_83 rfl rfl ?_
          refine s_iload 6 dX1_choose_85 rfl rfl ?_
          refine s_icmp_le (tgt := 104) dX1_choose_87 rfl rfl (fun _ => ?_) (fun _ => ?_)
          · skip
            refine s_iincL 8 (c := 1) (fun v15 => [(7, .int v15), (8, .int v11), (0, .ref (X.1 + 27)), (1, .ref (X.1 + q1)), (2, .int c2), (3, .int c3), (4, .int w4), (5, .int w5), (6, .int c6)]) dX1_choose_104 rfl rfl cI_1 (by decide) (fun _ => rfl) (fun v15 => ?_)
            refine s_goto (tgt := 46) dX1_choose_107 rfl ?_
            refine s_pick [2, 3, 4, 5, 6, 7, 8, 0] rfl ?_
            exact ih w4 w5 v15 I10
          · skip
            refine s_bipush (v := 10) dX1_choose_90 rfl cB_10 ?_
            refine s_iload 7 dX1_choose_92 rfl rfl ?_
            refine s_imul dX1_choose_94 rfl ?_
            refine s_iload 8 dX1_choose_95 rfl rfl ?_
            refine s_iadd dX1_choose_97 rfl ?_
            refine s_istoreL (fun v16 => [(4, .int v16), (8, .int v11), (0, .ref (X.1 + 27)), (1, .ref (X.1 + q1)), (2, .int c2), (3, .int c3), (5, .int w5), (6, .int c6), (7, .int w7)]) dX1_choose_98 rfl (by decide) (fun _ => rfl) (fun v16 => ?_)
            refine s_iload 1 dX1_choose_100 rfl rfl ?_
            refine s_istoreL (fun v17 => [(5, .int v17), (4, .int v16), (8, .int v11), (0, .ref (X.1 + 27)), (1, .ref (X.1 + q1)), (2, .int c2), (3, .int c3), (6, .int c6), (7, .int w7)]) dX1_choose_102 rfl (by decide) (fun _ => rfl) (fun v17 => ?_)
            refine s_iincL 8 (c := 1) (fun v18 => [(7, .int v18), (5, .int v17), (4, .int v16), (8, .int v11), (0, .ref (X.1 + 27)), (1, .ref (X.1 + q1)), (2, .int c2), (3, .int c3), (6, .int c6)]) dX1_choose_104 rfl rfl cI_1 (by decide) (fun _ => rfl) (fun v18 => ?_)
            refine s_goto (tgt := 46) dX1_choose_107 rfl ?_
            refine s_pick [4, 5, 6, 7, 2, 1, 8, 0] rfl ?_
            exact ih v16 v17 v18 I10
      · skip
        refine s_goto (tgt := 104) dX1_choose_65 rfl ?_
        refine s_iincL 7 (c := 1) (fun v19 => [(7, .int v19), (0, .ref (X.1 + 27)), (1, .ref (X.1 + q1)), (2, .int c2), (3, .int c3), (4, .int w4), (5, .int w5), (6, .int c6)]) dX1_choose_104 rfl rfl cI_1 (by decide) (fun _ => rfl) (fun v19 => ?_)
        refine s_goto (tgt := 46) dX1_choose_107 rfl ?_
        refine s_pick [1, 2, 3, 4, 5, 6, 7, 0] rfl ?_
        exact ih w4 w5 v19 I8
theorem x1_choose_L9_ok {X : WX} {n0 s0 : Nat} {t : Nat} {q1 : Nat} {c2 : Int32} {c3 : Int32} {L : ML} {R : MR} {S : MS} (hK : okr R S) (ht : R 27 0 = some t ∧ isT t) (hq1 : isSt R S q1) : ∀ (n : Nat) (w4 : Int32) (w5 : Int32) (w6 : Int32) (I : MI), Sim X yX1_choose cX1_choose 9 (some .int) 3 75 n0 s0 9 [(0, .ref (X.1 + 27)), (1, .ref (X.1 + q1)), (2, .int c2), (3, .int c3), (4, .int w4), (5, .int w5), (6, .int w6)] [] (I, L, R, S) (x1_choose_L9 t q1 c2 c3 n w4 w5 w6 I) (fun b f => Ex X yX1_choose cX1_choose 9 (some .int) 3 75 n0 s0 116 [(4, .int b.1)] [] (b.2, L, R, S) f) := by
  intro n
  induction n with
  | zero =>
    intro w4 w5 w6 I
    exact sm_none
  | succ n ih =>
    intro w4 w5 w6 I
    change Sim _ _ _ _ _ _ _ _ _ _ _ _ _ (x1_choose_L9s t q1 c2 c3 (x1_choose_L9 t q1 c2 c3 n) w4 w5 w6 I) _
    unfold x1_choose_L9s
    refine s_iload 6 dX1_choose_9 rfl rfl ?_
    refine s_aload_n 0 dX1_choose_11 rfl rfl ?_
    refine s_getR t dX1_choose_12 rfl fl_1_17 rfl (S_27 hK) ht.1 ?_
    refine s_getI dX1_choose_15 rfl fl_1_45 (tS_0 hK ht.2) ?_
    refine s_icmp_ge (tgt := 116) dX1_choose_18 rfl rfl (fun _ => ?_) (fun _ => ?_)
    · skip
      refine s_pick [4] rfl ?_
      exact sm_exit (fun f h => h)
    · skip
      refine s_aload_n 0 dX1_choose_21 rfl rfl ?_
      refine s_aload_n 1 dX1_choose_22 rfl rfl ?_
      refine s_iload_n 2 dX1_choose_23 rfl rfl ?_
      refine s_iload 6 dX1_choose_24 rfl rfl ?_
      refine s_callV3_i0 dX1_choose_26 rfl lkV_RX1_92 (S_27 hK) (Nat.le_of_ble_eq_true rfl) (Nat.le_of_ble_eq_true rfl) (Nat.le_of_ble_eq_true rfl) (ct_x1_reaches hK ht hq1) (fun r4 => ?_)
      refine s_if_ne (tgt := 35) dX1_choose_29 rfl rfl (fun _ => ?_) (fun _ => ?_)
      · skip
        refine s_aload_n 0 dX1_choose_35 rfl rfl ?_
        refine s_aload_n 1 dX1_choose_36 rfl rfl ?_
        refine s_iload_n 2 dX1_choose_37 rfl rfl ?_
        refine s_iload 6 dX1_choose_38 rfl rfl ?_
        refine s_callV3_v1 dX1_choose_40 rfl lkV_RX1_115 (S_27 hK) (Nat.le_of_ble_eq_true rfl) (Nat.le_of_ble_eq_true rfl) (Nat.le_of_ble_eq_true rfl) (ct_x1_look hK ht hq1) (fun I5 => ?_)
        refine s_iconst (v := 0) dX1_choose_43 rfl cI_0 ?_
        refine s_istoreL (fun v6 => [(7, .int v6), (0, .ref (X.1 + 27)), (1, .ref (X.1 + q1)), (2, .int c2), (3, .int c3), (4, .int w4), (5, .int w5), (6, .int w6)]) dX1_choose_44 rfl (by decide) (fun _ => rfl) (fun v6 => ?_)
        refine s_pick [1, 2, 3, 4, 5, 6, 7, 0] rfl ?_
        refine sm_reg (x1_choose_L46_ok hK ht hq1 FU w4 w5 v6 I5) (fun e20 => ?_)
        refine s_iincL 6 (c := 1) (fun v21 => [(6, .int v21), (0, .ref (X.1 + 27)), (1, .ref (X.1 + q1)), (2, .int c2), (3, .int c3), (4, .int e20.1), (5, .int e20.2.1)]) dX1_choose_110 rfl rfl cI_1 (by decide) (fun _ => rfl) (fun v21 => ?_)
        refine s_goto (tgt := 9) dX1_choose_113 rfl ?_
        refine s_pick [1, 2, 3, 4, 5, 6, 0] rfl ?_
        exact ih e20.1 e20.2.1 v21 e20.2.2
      · skip
        refine s_goto (tgt := 110) dX1_choose_32 rfl ?_
        refine s_iincL 6 (c := 1) (fun v22 => [(6, .int v22), (0, .ref (X.1 + 27)), (1, .ref (X.1 + q1)), (2, .int c2), (3, .int c3), (4, .int w4), (5, .int w5)]) dX1_choose_110 rfl rfl cI_1 (by decide) (fun _ => rfl) (fun v22 => ?_)
        refine s_goto (tgt := 9) dX1_choose_113 rfl ?_
        refine s_pick [1, 2, 3, 4, 5, 6, 0] rfl ?_
        exact ih w4 w5 v22 I
theorem ct_x1_choose {X : WX} {t : Nat} {q1 : Nat} {p2 : Int32} {p3 : Int32} {I : MI} {L : ML} {R : MR} {S : MS} (hK : okr R S) (ht : R 27 0 = some t ∧ isT t) (hq1 : isSt R S q1) : Ct X yX1_choose cX1_choose 9 (some .int) 3 75 [.ref (X.1 + 27), .ref (X.1 + q1), .int p2, .int p3] (I, L, R, S) (x1_choose t q1 p2 p3 I) (fun r => (some (.int r.1), (r.2, L, R, S))) := by
  refine Ct.of (by decide) (Nat.le_of_ble_eq_true rfl) [(0, .ref (X.1 + 27)), (1, .ref (X.1 + q1)), (2, .int p2), (3, .int p3)] rfl ?_
  unfold x1_choose
  refine s_iconst (v := (-1)) dX1_choose_0 rfl cI_m1 ?_
  refine s_istoreL (fun v1 => [(4, .int v1), (0, .ref (X.1 + 27)), (1, .ref (X.1 + q1)), (2, .int p2), (3, .int p3)]) dX1_choose_1 rfl (by decide) (fun _ => rfl) (fun v1 => ?_)
  refine s_iconst (v := 0) dX1_choose_3 rfl cI_0 ?_
  refine s_istoreL (fun v2 => [(5, .int v2), (4, .int v1), (0, .ref (X.1 + 27)), (1, .ref (X.1 + q1)), (2, .int p2), (3, .int p3)]) dX1_choose_4 rfl (by decide) (fun _ => rfl) (fun v2 => ?_)
  refine s_iconst (v := 0) dX1_choose_6 rfl cI_0 ?_
  refine s_istoreL (fun v3 => [(6, .int v3), (5, .int v2), (4, .int v1), (0, .ref (X.1 + 27)), (1, .ref (X.1 + q1)), (2, .int p2), (3, .int p3)]) dX1_choose_7 rfl (by decide) (fun _ => rfl) (fun v3 => ?_)
  refine s_pick [3, 4, 5, 6, 2, 1, 0] rfl ?_
  refine sm_reg (x1_choose_L9_ok hK ht hq1 FU v1 v2 v3 I) (fun e23 => ?_)
  refine s_iload 0 dX1_choose_116 rfl rfl ?_
  exact s_iret dX1_choose_118 rfl (fun f h => h)
noncomputable def x10_chooses (t : Nat) (p1 : Int32) (I : MI) : Option (Int32 × MI) :=
b1 (x10_isBobber t p1 I) fun r1 =>
if r1 = 0 then (
some ((-2 : Int32), I)) else
b1 (x8_ruleOf t p1 I) fun r2 =>
b2 (x1_choose t 47 p1 r2 I) fun r3 I4 =>
some (r3, I4)
theorem ct_x10_chooses {X : WX} {t : Nat} {p1 : Int32} {I : MI} {L : ML} {R : MR} {S : MS} (hK : okr R S) (ht : R 27 0 = some t ∧ isT t) : Ct X yX10_chooses cX10_chooses 2 (some .int) 4 103 [.ref (X.1 + 0), .int p1] (I, L, R, S) (x10_chooses t p1 I) (fun r => (some (.int r.1), (r.2, L, R, S))) := by
  refine Ct.of (by decide) (Nat.le_of_ble_eq_true rfl) [(0, .ref (X.1 + 0)), (1, .int p1)] rfl ?_
  unfold x10_chooses
  refine s_aload_n 0 dX10_chooses_0 rfl rfl ?_
  refine s_iload_n 1 dX10_chooses_1 rfl rfl ?_
  refine s_callV1_i0 dX10_chooses_2 rfl lkV_RX10_143 (S_0 hK) (Nat.le_of_ble_eq_true rfl) (Nat.le_of_ble_eq_true rfl) (Nat.le_of_ble_eq_true rfl) (ct_x10_isBobber hK ht) (fun r1 => ?_)
  refine s_if_ne (tgt := 11) dX10_chooses_5 rfl rfl (fun _ => ?_) (fun _ => ?_)
  · skip
    refine s_aload_n 0 dX10_chooses_11 rfl rfl ?_
    refine s_getR 27 dX10_chooses_12 rfl fl_10_32 rfl (S_0 hK) (R_0_4 hK) ?_
    refine s_aload_n 0 dX10_chooses_15 rfl rfl ?_
    refine s_getR 47 dX10_chooses_16 rfl fl_10_39 rfl (S_0 hK) (R_0_5 hK) ?_
    refine s_iload_n 1 dX10_chooses_19 rfl rfl ?_
    refine s_aload_n 0 dX10_chooses_20 rfl rfl ?_
    refine s_getR 27 dX10_chooses_21 rfl fl_10_32 rfl (S_0 hK) (R_0_4 hK) ?_
    refine s_getR t dX10_chooses_24 rfl fl_10_87 rfl (S_27 hK) ht.1 ?_
    refine s_iload_n 1 dX10_chooses_27 rfl rfl ?_
    refine s_callV1_i0 dX10_chooses_28 rfl lkV_RX10_163 (tS_0 hK ht.2) (Nat.le_of_ble_eq_true rfl) (Nat.le_of_ble_eq_true rfl) (Nat.le_of_ble_eq_true rfl) (ct_x8_ruleOf hK ht.2) (fun r2 => ?_)
    refine s_callV3_i1 dX10_chooses_31 rfl lkV_RX10_167 (S_27 hK) (Nat.le_of_ble_eq_true rfl) (Nat.le_of_ble_eq_true rfl) (Nat.le_of_ble_eq_true rfl) (ct_x1_choose hK ht (st_47 hK)) (fun r3 I4 => ?_)
    exact s_iret dX10_chooses_34 rfl (fun f h => h)
  · skip
    refine s_bipush (v := (-2)) dX10_chooses_8 rfl cB_m2 ?_
    exact s_iret dX10_chooses_10 rfl (fun f h => h)
noncomputable def x7_recordAt (p0 : Int32) (p1 : Int32) (I : MI) : Option (Int32) :=
some (((p0 * 5) + p1) * 3)
theorem ct_x7_recordAt {X : WX} {p0 : Int32} {p1 : Int32} {I : MI} {L : ML} {R : MR} {S : MS} (hK : okr R S) : Ct X yX7_recordAt cX7_recordAt 2 (some .int) 0 0 [.int p0, .int p1] (I, L, R, S) (x7_recordAt p0 p1 I) (fun r => (some (.int r), (I, L, R, S))) := by
  refine Ct.of (by decide) (Nat.le_of_ble_eq_true rfl) [(0, .int p0), (1, .int p1)] rfl ?_
  unfold x7_recordAt
  refine s_iload_n 0 dX7_recordAt_0 rfl rfl ?_
  refine s_iconst (v := 5) dX7_recordAt_1 rfl cI_5 ?_
  refine s_imul dX7_recordAt_2 rfl ?_
  refine s_iload_n 1 dX7_recordAt_3 rfl rfl ?_
  refine s_iadd dX7_recordAt_4 rfl ?_
  refine s_iconst (v := 3) dX7_recordAt_5 rfl cI_3 ?_
  refine s_imul dX7_recordAt_6 rfl ?_
  exact s_iret dX7_recordAt_7 rfl (fun f h => h)
noncomputable def x1_getBy (q1 : Nat) (p2 : Int32) (p3 : Int32) (p4 : Int32) (I : MI) : Option (MI) :=
ck (vp_in p2 4) <|
ck (vp_in p4 5) <|
ck (vp_in p2 4) <|
lt (wI I (q1 + 8) (ix p2) ((I (q1 + 8) (ix p2)) - (([0, 0, 1, 3, 0] : List Int32).getD (ix p4) 0))) fun I3 =>
ck (vp_in p3 10) <|
lt (wI I3 (q1 + 3) (ix p3) p2) fun I5 =>
ck (vp_in p2 4) <|
ck (vp_in p2 4) <|
lt (wI I5 (q1 + 9) (ix p2) ((I5 (q1 + 9) (ix p2)) + 1)) fun I8 =>
some I8
theorem ct_x1_getBy {X : WX} {q1 : Nat} {p2 : Int32} {p3 : Int32} {p4 : Int32} {I : MI} {L : ML} {R : MR} {S : MS} (hK : okr R S) (hq1 : isSt R S q1) : Ct X yX1_getBy cX1_getBy 5 none 0 0 [.ref (X.1 + 27), .ref (X.1 + q1), .int p2, .int p3, .int p4] (I, L, R, S) (x1_getBy q1 p2 p3 p4 I) (fun r => (none, (r, L, R, S))) := by
  refine Ct.of (by decide) (Nat.le_of_ble_eq_true rfl) [(0, .ref (X.1 + 27)), (1, .ref (X.1 + q1)), (2, .int p2), (3, .int p3), (4, .int p4)] rfl ?_
  unfold x1_getBy
  refine s_aload_n 1 dX1_getBy_0 rfl rfl ?_
  refine s_getR (q1 + 8) dX1_getBy_1 rfl fl_1_72 rfl (qS_0 hq1) (qR_7 hq1) ?_
  refine s_iload_n 2 dX1_getBy_4 rfl rfl ?_
  refine s_dup2 dX1_getBy_5 rfl rfl rfl ?_
  refine sm_ck (fun g1 => ?_)
  refine s_iald dX1_getBy_6 rfl (qS_8 hq1) g1 ?_
  refine s_gets 1 3 dX1_getBy_7 rfl rfl rfl ?_
  refine s_iload 4 dX1_getBy_10 rfl rfl ?_
  refine sm_ck (fun g2 => ?_)
  refine s_tald 1 dX1_getBy_12 rfl rfl g2 ?_
  refine s_isub dX1_getBy_13 rfl ?_
  refine sm_ck (fun g4 => ?_)
  refine s_iastL dX1_getBy_14 rfl (qS_8 hq1) g4 (fun I3 => ?_)
  refine s_aload_n 1 dX1_getBy_15 rfl rfl ?_
  refine s_getR (q1 + 3) dX1_getBy_16 rfl fl_1_51 rfl (qS_0 hq1) (qR_2 hq1) ?_
  refine s_iload_n 3 dX1_getBy_19 rfl rfl ?_
  refine s_iload_n 2 dX1_getBy_20 rfl rfl ?_
  refine sm_ck (fun g6 => ?_)
  refine s_iastL dX1_getBy_21 rfl (qS_3 hq1) g6 (fun I5 => ?_)
  refine s_aload_n 1 dX1_getBy_22 rfl rfl ?_
  refine s_getR (q1 + 9) dX1_getBy_23 rfl fl_1_157 rfl (qS_0 hq1) (qR_8 hq1) ?_
  refine s_iload_n 2 dX1_getBy_26 rfl rfl ?_
  refine s_dup2 dX1_getBy_27 rfl rfl rfl ?_
  refine sm_ck (fun g7 => ?_)
  refine s_iald dX1_getBy_28 rfl (qS_9 hq1) g7 ?_
  refine s_iconst (v := 1) dX1_getBy_29 rfl cI_1 ?_
  refine s_iadd dX1_getBy_30 rfl ?_
  refine sm_ck (fun g9 => ?_)
  refine s_iastL dX1_getBy_31 rfl (qS_9 hq1) g9 (fun I8 => ?_)
  exact s_vret dX1_getBy_32 rfl (fun f h => h)
noncomputable def x8_isCell (t0 : Nat) (p1 : Int32) (p2 : Int32) (I : MI) : Option (Int32) :=
if p1 < 0 then (
some (0 : Int32)) else
if p1 < (I t0 0) then (
if p2 < 0 then (
some (0 : Int32)) else
if p2 < (I t0 1) then (
some (1 : Int32)) else
some (0 : Int32)) else
some (0 : Int32)
theorem ct_x8_isCell {X : WX} {t0 : Nat} {p1 : Int32} {p2 : Int32} {I : MI} {L : ML} {R : MR} {S : MS} (hK : okr R S) (ht0 : isT t0) : Ct X yX8_isCell cX8_isCell 3 (some .boolean) 0 0 [.ref (X.1 + t0), .int p1, .int p2] (I, L, R, S) (x8_isCell t0 p1 p2 I) (fun r => (some (.int r), (I, L, R, S))) := by
  refine Ct.of (by decide) (Nat.le_of_ble_eq_true rfl) [(0, .ref (X.1 + t0)), (1, .int p1), (2, .int p2)] rfl ?_
  unfold x8_isCell
  refine s_iload_n 1 dX8_isCell_0 rfl rfl ?_
  refine s_if_lt (tgt := 28) dX8_isCell_1 rfl rfl (fun _ => ?_) (fun _ => ?_)
  · skip
    refine s_iconst (v := 0) dX8_isCell_28 rfl cI_0 ?_
    exact s_zret dX8_isCell_29 rfl (Or.inl rfl) (fun f h => h)
  · skip
    refine s_iload_n 1 dX8_isCell_4 rfl rfl ?_
    refine s_aload_n 0 dX8_isCell_5 rfl rfl ?_
    refine s_getI dX8_isCell_6 rfl fl_8_58 (tS_0 hK ht0) ?_
    refine s_icmp_ge (tgt := 28) dX8_isCell_9 rfl rfl (fun _ => ?_) (fun _ => ?_)
    · skip
      refine s_iconst (v := 0) dX8_isCell_28 rfl cI_0 ?_
      exact s_zret dX8_isCell_29 rfl (Or.inl rfl) (fun f h => h)
    · skip
      refine s_iload_n 2 dX8_isCell_12 rfl rfl ?_
      refine s_if_lt (tgt := 28) dX8_isCell_13 rfl rfl (fun _ => ?_) (fun _ => ?_)
      · skip
        refine s_iconst (v := 0) dX8_isCell_28 rfl cI_0 ?_
        exact s_zret dX8_isCell_29 rfl (Or.inl rfl) (fun f h => h)
      · skip
        refine s_iload_n 2 dX8_isCell_16 rfl rfl ?_
        refine s_aload_n 0 dX8_isCell_17 rfl rfl ?_
        refine s_getI dX8_isCell_18 rfl fl_8_62 (tS_0 hK ht0) ?_
        refine s_icmp_ge (tgt := 28) dX8_isCell_21 rfl rfl (fun _ => ?_) (fun _ => ?_)
        · skip
          refine s_iconst (v := 0) dX8_isCell_28 rfl cI_0 ?_
          exact s_zret dX8_isCell_29 rfl (Or.inl rfl) (fun f h => h)
        · skip
          refine s_iconst (v := 1) dX8_isCell_24 rfl cI_1 ?_
          refine s_goto (tgt := 29) dX8_isCell_25 rfl ?_
          exact s_zret dX8_isCell_29 rfl (Or.inr rfl) (fun f h => h)
noncomputable def x1_push_L33s (t : Nat) (q1 : Nat) (c3 : Int32) (c4 : Int32) (I : MI) (rec : Int32 → Option (Int32)) (w5 : Int32) : Option (Int32) :=
if w5 < 6 then (
b1 (x1_appleIn t q1 (c3 + (w5 * (I 27 2))) (c4 + (w5 * (I 27 3))) I) fun r7 =>
if r7 = (-1) then (
some w5) else
lt (w5 + 1) fun v8 =>
rec v8) else
some w5
noncomputable def x1_push_L33 (t : Nat) (q1 : Nat) (c3 : Int32) (c4 : Int32) (I : MI) : Nat → Int32 → Option (Int32)
  | 0 => fun _ => none
  | n + 1 => x1_push_L33s t q1 c3 c4 I (x1_push_L33 t q1 c3 c4 I n)
noncomputable def x1_push_L110s (t : Nat) (q1 : Nat) (c3 : Int32) (c4 : Int32) (rec : Int32 → MI → Option (MI)) (w6 : Int32) (I : MI) : Option (MI) :=
if w6 < 0 then (
some I) else
b1 (x1_appleIn t q1 (c3 + (w6 * (I 27 2))) (c4 + (w6 * (I 27 3))) I) fun r12 =>
lt r12 fun v13 =>
if v13 = (-1) then (
lt (w6 + (-1)) fun v14 =>
rec v14 I) else
ck (vp_in v13 10) <|
ck (vp_in v13 10) <|
lt (wI I (q1 + 1) (ix v13) ((I (q1 + 1) (ix v13)) + (I 27 2))) fun I16 =>
ck (vp_in v13 10) <|
ck (vp_in v13 10) <|
lt (wI I16 (q1 + 2) (ix v13) ((I16 (q1 + 2) (ix v13)) + (I16 27 3))) fun I19 =>
lt (w6 + (-1)) fun v21 =>
rec v21 I19
noncomputable def x1_push_L110 (t : Nat) (q1 : Nat) (c3 : Int32) (c4 : Int32) : Nat → Int32 → MI → Option (MI)
  | 0 => fun _ _ => none
  | n + 1 => x1_push_L110s t q1 c3 c4 (x1_push_L110 t q1 c3 c4 n)
noncomputable def x1_push (t : Nat) (q1 : Nat) (p2 : Int32) (I : MI) : Option (MI) :=
bE (
if (I 27 2) = 0 then (
if (I 27 3) = 0 then (
some (.inr I)) else
some (.inl ())) else
some (.inl ())) fun e1 =>
ck (vp_in p2 10) <|
lt (I (q1 + 1) (ix p2)) fun v3 =>
ck (vp_in p2 10) <|
lt (I (q1 + 2) (ix p2)) fun v5 =>
lt (1 : Int32) fun v6 =>
b1 (x1_push_L33 t q1 v3 v5 I FU v6) fun e9 =>
b1 (x8_isCell t (v3 + (e9 * (I 27 2))) (v5 + (e9 * (I 27 3))) I) fun r10 =>
if r10 = 0 then (
some I) else
lt (e9 - 1) fun v11 =>
b1 (x1_push_L110 t q1 v3 v5 FU v11 I) fun e22 =>
some e22
theorem x1_push_L33_ok {X : WX} {n0 s0 : Nat} {t : Nat} {q1 : Nat} {c3 : Int32} {c4 : Int32} {I : MI} {L : ML} {R : MR} {S : MS} (hK : okr R S) (ht : R 27 0 = some t ∧ isT t) (hq1 : isSt R S q1) : ∀ (n : Nat) (w5 : Int32), Sim X yX1_push cX1_push 8 none 1 24 n0 s0 33 [(0, .ref (X.1 + 27)), (1, .ref (X.1 + q1)), (3, .int c3), (4, .int c4), (5, .int w5)] [] (I, L, R, S) (x1_push_L33 t q1 c3 c4 I n w5) (fun b f => Ex X yX1_push cX1_push 8 none 1 24 n0 s0 74 [(0, .ref (X.1 + 27)), (1, .ref (X.1 + q1)), (3, .int c3), (4, .int c4), (5, .int b)] [] (I, L, R, S) f) := by
  intro n
  induction n with
  | zero =>
    intro w5
    exact sm_none
  | succ n ih =>
    intro w5
    change Sim _ _ _ _ _ _ _ _ _ _ _ _ _ (x1_push_L33s t q1 c3 c4 I (x1_push_L33 t q1 c3 c4 I n) w5) _
    unfold x1_push_L33s
    refine s_iload 4 dX1_push_33 rfl rfl ?_
    refine s_bipush (v := 6) dX1_push_35 rfl cB_6 ?_
    refine s_icmp_ge (tgt := 74) dX1_push_37 rfl rfl (fun _ => ?_) (fun _ => ?_)
    · skip
      exact sm_exit (fun f h => h)
    · skip
      refine s_aload_n 0 dX1_push_40 rfl rfl ?_
      refine s_aload_n 1 dX1_push_41 rfl rfl ?_
      refine s_iload_n 2 dX1_push_42 rfl rfl ?_
      refine s_iload 4 dX1_push_43 rfl rfl ?_
      refine s_aload_n 0 dX1_push_45 rfl rfl ?_
      refine s_getI dX1_push_46 rfl fl_1_59 (S_27 hK) ?_
      refine s_imul dX1_push_49 rfl ?_
      refine s_iadd dX1_push_50 rfl ?_
      refine s_iload 3 dX1_push_51 rfl rfl ?_
      refine s_iload 4 dX1_push_53 rfl rfl ?_
      refine s_aload_n 0 dX1_push_55 rfl rfl ?_
      refine s_getI dX1_push_56 rfl fl_1_62 (S_27 hK) ?_
      refine s_imul dX1_push_59 rfl ?_
      refine s_iadd dX1_push_60 rfl ?_
      refine s_callV3_i0 dX1_push_61 rfl lkV_RX1_89 (S_27 hK) (Nat.le_of_ble_eq_true rfl) (Nat.le_of_ble_eq_true rfl) (Nat.le_of_ble_eq_true rfl) (ct_x1_appleIn hK ht hq1) (fun r7 => ?_)
      refine s_iconst (v := (-1)) dX1_push_64 rfl cI_m1 ?_
      refine s_icmp_eq (tgt := 74) dX1_push_65 rfl rfl (fun _ => ?_) (fun _ => ?_)
      · skip
        exact sm_exit (fun f h => h)
      · skip
        refine s_iincL 4 (c := 1) (fun v8 => [(5, .int v8), (0, .ref (X.1 + 27)), (1, .ref (X.1 + q1)), (3, .int c3), (4, .int c4)]) dX1_push_68 rfl rfl cI_1 (by decide) (fun _ => rfl) (fun v8 => ?_)
        refine s_goto (tgt := 33) dX1_push_71 rfl ?_
        refine s_pick [1, 2, 3, 4, 0] rfl ?_
        exact ih v8
theorem x1_push_L110_ok {X : WX} {n0 s0 : Nat} {t : Nat} {q1 : Nat} {c3 : Int32} {c4 : Int32} {L : ML} {R : MR} {S : MS} (hK : okr R S) (ht : R 27 0 = some t ∧ isT t) (hq1 : isSt R S q1) : ∀ (n : Nat) (w6 : Int32) (I : MI), Sim X yX1_push cX1_push 8 none 1 24 n0 s0 110 [(0, .ref (X.1 + 27)), (1, .ref (X.1 + q1)), (3, .int c3), (4, .int c4), (6, .int w6)] [] (I, L, R, S) (x1_push_L110 t q1 c3 c4 n w6 I) (fun b f => Ex X yX1_push cX1_push 8 none 1 24 n0 s0 181 [] [] (b, L, R, S) f) := by
  intro n
  induction n with
  | zero =>
    intro w6 I
    exact sm_none
  | succ n ih =>
    intro w6 I
    change Sim _ _ _ _ _ _ _ _ _ _ _ _ _ (x1_push_L110s t q1 c3 c4 (x1_push_L110 t q1 c3 c4 n) w6 I) _
    unfold x1_push_L110s
    refine s_iload 4 dX1_push_110 rfl rfl ?_
    refine s_if_lt (tgt := 181) dX1_push_112 rfl rfl (fun _ => ?_) (fun _ => ?_)
    · skip
      refine s_pick [] rfl ?_
      exact sm_exit (fun f h => h)
    · skip
      refine s_aload_n 0 dX1_push_115 rfl rfl ?_
      refine s_aload_n 1 dX1_push_116 rfl rfl ?_
      refine s_iload_n 2 dX1_push_117 rfl rfl ?_
      refine s_iload 4 dX1_push_118 rfl rfl ?_
      refine s_aload_n 0 dX1_push_120 rfl rfl ?_
      refine s_getI dX1_push_121 rfl fl_1_59 (S_27 hK) ?_
      refine s_imul dX1_push_124 rfl ?_
      refine s_iadd dX1_push_125 rfl ?_
      refine s_iload 3 dX1_push_126 rfl rfl ?_
      refine s_iload 4 dX1_push_128 rfl rfl ?_
      refine s_aload_n 0 dX1_push_130 rfl rfl ?_
      refine s_getI dX1_push_131 rfl fl_1_62 (S_27 hK) ?_
      refine s_imul dX1_push_134 rfl ?_
      refine s_iadd dX1_push_135 rfl ?_
      refine s_callV3_i0 dX1_push_136 rfl lkV_RX1_89 (S_27 hK) (Nat.le_of_ble_eq_true rfl) (Nat.le_of_ble_eq_true rfl) (Nat.le_of_ble_eq_true rfl) (ct_x1_appleIn hK ht hq1) (fun r12 => ?_)
      refine s_istoreL (fun v13 => [(7, .int v13), (0, .ref (X.1 + 27)), (1, .ref (X.1 + q1)), (3, .int c3), (4, .int c4), (6, .int w6)]) dX1_push_139 rfl (by decide) (fun _ => rfl) (fun v13 => ?_)
      refine s_iload 0 dX1_push_141 rfl rfl ?_
      refine s_iconst (v := (-1)) dX1_push_143 rfl cI_m1 ?_
      refine s_icmp_eq (tgt := 175) dX1_push_144 rfl rfl (fun _ => ?_) (fun _ => ?_)
      · skip
        refine s_iincL 5 (c := (-1)) (fun v14 => [(6, .int v14), (7, .int v13), (0, .ref (X.1 + 27)), (1, .ref (X.1 + q1)), (3, .int c3), (4, .int c4)]) dX1_push_175 rfl rfl cI_m1 (by decide) (fun _ => rfl) (fun v14 => ?_)
        refine s_goto (tgt := 110) dX1_push_178 rfl ?_
        refine s_pick [2, 3, 4, 5, 0] rfl ?_
        exact ih v14 I
      · skip
        refine s_aload_n 2 dX1_push_147 rfl rfl ?_
        refine s_getR (q1 + 1) dX1_push_148 rfl fl_1_21 rfl (qS_0 hq1) (qR_0 hq1) ?_
        refine s_iload 0 dX1_push_151 rfl rfl ?_
        refine s_dup2 dX1_push_153 rfl rfl rfl ?_
        refine sm_ck (fun g15 => ?_)
        refine s_iald dX1_push_154 rfl (qS_1 hq1) g15 ?_
        refine s_aload_n 1 dX1_push_155 rfl rfl ?_
        refine s_getI dX1_push_156 rfl fl_1_59 (S_27 hK) ?_
        refine s_iadd dX1_push_159 rfl ?_
        refine sm_ck (fun g17 => ?_)
        refine s_iastL dX1_push_160 rfl (qS_1 hq1) g17 (fun I16 => ?_)
        refine s_aload_n 2 dX1_push_161 rfl rfl ?_
        refine s_getR (q1 + 2) dX1_push_162 rfl fl_1_35 rfl (qS_0 hq1) (qR_1 hq1) ?_
        refine s_iload 0 dX1_push_165 rfl rfl ?_
        refine s_dup2 dX1_push_167 rfl rfl rfl ?_
        refine sm_ck (fun g18 => ?_)
        refine s_iald dX1_push_168 rfl (qS_2 hq1) g18 ?_
        refine s_aload_n 1 dX1_push_169 rfl rfl ?_
        refine s_getI dX1_push_170 rfl fl_1_62 (S_27 hK) ?_
        refine s_iadd dX1_push_173 rfl ?_
        refine sm_ck (fun g20 => ?_)
        refine s_iastL dX1_push_174 rfl (qS_2 hq1) g20 (fun I19 => ?_)
        refine s_iincL 5 (c := (-1)) (fun v21 => [(6, .int v21), (7, .int v13), (0, .ref (X.1 + 27)), (1, .ref (X.1 + q1)), (3, .int c3), (4, .int c4)]) dX1_push_175 rfl rfl cI_m1 (by decide) (fun _ => rfl) (fun v21 => ?_)
        refine s_goto (tgt := 110) dX1_push_178 rfl ?_
        refine s_pick [2, 3, 4, 5, 0] rfl ?_
        exact ih v21 I19
theorem ct_x1_push {X : WX} {t : Nat} {q1 : Nat} {p2 : Int32} {I : MI} {L : ML} {R : MR} {S : MS} (hK : okr R S) (ht : R 27 0 = some t ∧ isT t) (hq1 : isSt R S q1) : Ct X yX1_push cX1_push 8 none 1 24 [.ref (X.1 + 27), .ref (X.1 + q1), .int p2] (I, L, R, S) (x1_push t q1 p2 I) (fun r => (none, (r, L, R, S))) := by
  refine Ct.of (by decide) (Nat.le_of_ble_eq_true rfl) [(0, .ref (X.1 + 27)), (1, .ref (X.1 + q1)), (2, .int p2)] rfl ?_
  unfold x1_push
  refine s_aload_n 0 dX1_push_0 rfl rfl ?_
  refine s_getI dX1_push_1 rfl fl_1_59 (S_27 hK) ?_
  refine sm_regE (pcx := 15) (lsx := fun e1 => [(0, .ref (X.1 + 27)), (1, .ref (X.1 + q1)), (2, .int p2)]) (stx := fun e1 => []) (ux := fun e1 => (I, L, R, S)) ?_ (fun e1 => ?_)
  · skip
    refine s_if_ne (tgt := 15) dX1_push_4 rfl rfl (fun _ => ?_) (fun _ => ?_)
    · skip
      exact sm_exit (fun f h => h)
    · skip
      refine s_aload_n 0 dX1_push_7 rfl rfl ?_
      refine s_getI dX1_push_8 rfl fl_1_62 (S_27 hK) ?_
      refine s_if_ne (tgt := 15) dX1_push_11 rfl rfl (fun _ => ?_) (fun _ => ?_)
      · skip
        exact sm_exit (fun f h => h)
      · skip
        exact s_vret dX1_push_14 rfl (fun f h => h)
  · skip
    refine s_aload_n 1 dX1_push_15 rfl rfl ?_
    refine s_getR (q1 + 1) dX1_push_16 rfl fl_1_21 rfl (qS_0 hq1) (qR_0 hq1) ?_
    refine s_iload_n 2 dX1_push_19 rfl rfl ?_
    refine sm_ck (fun g2 => ?_)
    refine s_iald dX1_push_20 rfl (qS_1 hq1) g2 ?_
    refine s_istore_nL (fun v3 => [(3, .int v3), (0, .ref (X.1 + 27)), (1, .ref (X.1 + q1)), (2, .int p2)]) dX1_push_21 rfl (by decide) (fun _ => rfl) (fun v3 => ?_)
    refine s_aload_n 2 dX1_push_22 rfl rfl ?_
    refine s_getR (q1 + 2) dX1_push_23 rfl fl_1_35 rfl (qS_0 hq1) (qR_1 hq1) ?_
    refine s_iload_n 3 dX1_push_26 rfl rfl ?_
    refine sm_ck (fun g4 => ?_)
    refine s_iald dX1_push_27 rfl (qS_2 hq1) g4 ?_
    refine s_istoreL (fun v5 => [(4, .int v5), (3, .int v3), (0, .ref (X.1 + 27)), (1, .ref (X.1 + q1)), (2, .int p2)]) dX1_push_28 rfl (by decide) (fun _ => rfl) (fun v5 => ?_)
    refine s_iconst (v := 1) dX1_push_30 rfl cI_1 ?_
    refine s_istoreL (fun v6 => [(5, .int v6), (4, .int v5), (3, .int v3), (0, .ref (X.1 + 27)), (1, .ref (X.1 + q1)), (2, .int p2)]) dX1_push_31 rfl (by decide) (fun _ => rfl) (fun v6 => ?_)
    refine s_pick [3, 4, 2, 1, 0] rfl ?_
    refine sm_reg (x1_push_L33_ok hK ht hq1 FU v6) (fun e9 => ?_)
    refine s_aload_n 0 dX1_push_74 rfl rfl ?_
    refine s_getR t dX1_push_75 rfl fl_1_17 rfl (S_27 hK) ht.1 ?_
    refine s_iload_n 2 dX1_push_78 rfl rfl ?_
    refine s_iload 4 dX1_push_79 rfl rfl ?_
    refine s_aload_n 0 dX1_push_81 rfl rfl ?_
    refine s_getI dX1_push_82 rfl fl_1_59 (S_27 hK) ?_
    refine s_imul dX1_push_85 rfl ?_
    refine s_iadd dX1_push_86 rfl ?_
    refine s_iload 3 dX1_push_87 rfl rfl ?_
    refine s_iload 4 dX1_push_89 rfl rfl ?_
    refine s_aload_n 0 dX1_push_91 rfl rfl ?_
    refine s_getI dX1_push_92 rfl fl_1_62 (S_27 hK) ?_
    refine s_imul dX1_push_95 rfl ?_
    refine s_iadd dX1_push_96 rfl ?_
    refine s_callV2_i0 dX1_push_97 rfl lkV_RX1_167 (tS_0 hK ht.2) (Nat.le_of_ble_eq_true rfl) (Nat.le_of_ble_eq_true rfl) (Nat.le_of_ble_eq_true rfl) (ct_x8_isCell hK ht.2) (fun r10 => ?_)
    refine s_if_ne (tgt := 104) dX1_push_100 rfl rfl (fun _ => ?_) (fun _ => ?_)
    · skip
      refine s_iload 4 dX1_push_104 rfl rfl ?_
      refine s_iconst (v := 1) dX1_push_106 rfl cI_1 ?_
      refine s_isub dX1_push_107 rfl ?_
      refine s_istoreL (fun v11 => [(6, .int v11), (0, .ref (X.1 + 27)), (1, .ref (X.1 + q1)), (3, .int v3), (4, .int v5), (5, .int e9)]) dX1_push_108 rfl (by decide) (fun _ => rfl) (fun v11 => ?_)
      refine s_pick [1, 2, 3, 4, 0] rfl ?_
      refine sm_reg (x1_push_L110_ok hK ht hq1 FU v11 I) (fun e22 => ?_)
      exact s_vret dX1_push_181 rfl (fun f h => h)
    · skip
      exact s_vret dX1_push_103 rfl (fun f h => h)
noncomputable def x1_missBy (t : Nat) (q1 : Nat) (p2 : Int32) (p3 : Int32) (p4 : Int32) (I : MI) : Option (MI) :=
ck (vp_in p2 4) <|
ck (vp_in p4 5) <|
ck (vp_in p2 4) <|
lt (wI I (q1 + 8) (ix p2) ((I (q1 + 8) (ix p2)) - (([0, 0, 1, 3, 0] : List Int32).getD (ix p4) 0))) fun I3 =>
ck (vp_in p3 10) <|
ck (vp_in p3 10) <|
lt (wI I3 (q1 + 4) (ix p3) ((I3 (q1 + 4) (ix p3)) + 1)) fun I6 =>
bE (
if p4 = 0 then (
ck (vp_in p3 10) <|
if (I6 (t + 4) (ix p3)) < (I6 t 3) then (
some (.inl I6)) else
ck (vp_in p3 10) <|
ck (vp_in p2 4) <|
ck (vp_in p3 10) <|
lt (wI I6 (q1 + 5) (ix p3) (if (0 : Int32) < (((I6 (q1 + 5) (ix p3)) - (I6 (t + 11) (ix p2))) - 1) then (((I6 (q1 + 5) (ix p3)) - (I6 (t + 11) (ix p2))) - 1) else 0)) fun I12 =>
ck (vp_in p3 10) <|
if (I12 (q1 + 5) (ix p3)) = 0 then (
ck (vp_in p3 10) <|
lt (wI I12 (q1 + 3) (ix p3) (9 : Int32)) fun I15 =>
some (.inr I15)) else
some (.inl I12)) else
some (.inl I6)) fun e8 =>
if p4 = 0 then (
b1 (x1_aim q1 p2 p3 e8) fun I17 =>
b1 (x1_push t q1 p3 I17) fun I18 =>
some I18) else
if p4 = 1 then (
b1 (x1_aim q1 p2 p3 e8) fun I19 =>
b1 (x1_push t q1 p3 I19) fun I20 =>
some I20) else
some e8
theorem ct_x1_missBy {X : WX} {t : Nat} {q1 : Nat} {p2 : Int32} {p3 : Int32} {p4 : Int32} {I : MI} {L : ML} {R : MR} {S : MS} (hK : okr R S) (ht : R 27 0 = some t ∧ isT t) (hq1 : isSt R S q1) : Ct X yX1_missBy cX1_missBy 5 none 2 51 [.ref (X.1 + 27), .ref (X.1 + q1), .int p2, .int p3, .int p4] (I, L, R, S) (x1_missBy t q1 p2 p3 p4 I) (fun r => (none, (r, L, R, S))) := by
  refine Ct.of (by decide) (Nat.le_of_ble_eq_true rfl) [(0, .ref (X.1 + 27)), (1, .ref (X.1 + q1)), (2, .int p2), (3, .int p3), (4, .int p4)] rfl ?_
  unfold x1_missBy
  refine s_aload_n 1 dX1_missBy_0 rfl rfl ?_
  refine s_getR (q1 + 8) dX1_missBy_1 rfl fl_1_72 rfl (qS_0 hq1) (qR_7 hq1) ?_
  refine s_iload_n 2 dX1_missBy_4 rfl rfl ?_
  refine s_dup2 dX1_missBy_5 rfl rfl rfl ?_
  refine sm_ck (fun g1 => ?_)
  refine s_iald dX1_missBy_6 rfl (qS_8 hq1) g1 ?_
  refine s_gets 1 3 dX1_missBy_7 rfl rfl rfl ?_
  refine s_iload 4 dX1_missBy_10 rfl rfl ?_
  refine sm_ck (fun g2 => ?_)
  refine s_tald 1 dX1_missBy_12 rfl rfl g2 ?_
  refine s_isub dX1_missBy_13 rfl ?_
  refine sm_ck (fun g4 => ?_)
  refine s_iastL dX1_missBy_14 rfl (qS_8 hq1) g4 (fun I3 => ?_)
  refine s_aload_n 1 dX1_missBy_15 rfl rfl ?_
  refine s_getR (q1 + 4) dX1_missBy_16 rfl fl_1_106 rfl (qS_0 hq1) (qR_3 hq1) ?_
  refine s_iload_n 3 dX1_missBy_19 rfl rfl ?_
  refine s_dup2 dX1_missBy_20 rfl rfl rfl ?_
  refine sm_ck (fun g5 => ?_)
  refine s_iald dX1_missBy_21 rfl (qS_4 hq1) g5 ?_
  refine s_iconst (v := 1) dX1_missBy_22 rfl cI_1 ?_
  refine s_iadd dX1_missBy_23 rfl ?_
  refine sm_ck (fun g7 => ?_)
  refine s_iastL dX1_missBy_24 rfl (qS_4 hq1) g7 (fun I6 => ?_)
  refine s_iload 4 dX1_missBy_25 rfl rfl ?_
  refine sm_regE (pcx := 95) (lsx := fun e8 => [(0, .ref (X.1 + 27)), (1, .ref (X.1 + q1)), (2, .int p2), (3, .int p3), (4, .int p4)]) (stx := fun e8 => []) (ux := fun e8 => (e8, L, R, S)) ?_ (fun e8 => ?_)
  · skip
    refine s_if_ne (tgt := 95) dX1_missBy_27 rfl rfl (fun _ => ?_) (fun _ => ?_)
    · skip
      exact sm_exit (fun f h => h)
    · skip
      refine s_aload_n 0 dX1_missBy_30 rfl rfl ?_
      refine s_getR t dX1_missBy_31 rfl fl_1_17 rfl (S_27 hK) ht.1 ?_
      refine s_getR (t + 4) dX1_missBy_34 rfl fl_1_103 rfl (tS_0 hK ht.2) (tR_0_8 hK ht.2) ?_
      refine s_iload_n 3 dX1_missBy_37 rfl rfl ?_
      refine sm_ck (fun g9 => ?_)
      refine s_iald dX1_missBy_38 rfl (tS_4 hK ht.2) g9 ?_
      refine s_aload_n 0 dX1_missBy_39 rfl rfl ?_
      refine s_getR t dX1_missBy_40 rfl fl_1_17 rfl (S_27 hK) ht.1 ?_
      refine s_getI dX1_missBy_43 rfl fl_1_160 (tS_0 hK ht.2) ?_
      refine s_icmp_lt (tgt := 95) dX1_missBy_46 rfl rfl (fun _ => ?_) (fun _ => ?_)
      · skip
        exact sm_exit (fun f h => h)
      · skip
        refine s_aload_n 1 dX1_missBy_49 rfl rfl ?_
        refine s_getR (q1 + 5) dX1_missBy_50 rfl fl_1_100 rfl (qS_0 hq1) (qR_4 hq1) ?_
        refine s_iload_n 3 dX1_missBy_53 rfl rfl ?_
        refine s_iconst (v := 0) dX1_missBy_54 rfl cI_0 ?_
        refine s_aload_n 1 dX1_missBy_55 rfl rfl ?_
        refine s_getR (q1 + 5) dX1_missBy_56 rfl fl_1_100 rfl (qS_0 hq1) (qR_4 hq1) ?_
        refine s_iload_n 3 dX1_missBy_59 rfl rfl ?_
        refine sm_ck (fun g10 => ?_)
        refine s_iald dX1_missBy_60 rfl (qS_5 hq1) g10 ?_
        refine s_aload_n 0 dX1_missBy_61 rfl rfl ?_
        refine s_getR t dX1_missBy_62 rfl fl_1_17 rfl (S_27 hK) ht.1 ?_
        refine s_getR (t + 11) dX1_missBy_65 rfl fl_1_109 rfl (tS_0 hK ht.2) (tR_0_16 hK ht.2) ?_
        refine s_iload_n 2 dX1_missBy_68 rfl rfl ?_
        refine sm_ck (fun g11 => ?_)
        refine s_iald dX1_missBy_69 rfl (tS_11 hK ht.2) g11 ?_
        refine s_isub dX1_missBy_70 rfl ?_
        refine s_iconst (v := 1) dX1_missBy_71 rfl cI_1 ?_
        refine s_isub dX1_missBy_72 rfl ?_
        refine s_mmax dX1_missBy_73 rfl lkw_1_41 lk_mmax (Nat.le_of_ble_eq_true rfl) (Nat.le_of_ble_eq_true rfl) (Nat.le_of_ble_eq_true rfl) ?_
        refine sm_ck (fun g13 => ?_)
        refine s_iastL dX1_missBy_76 rfl (qS_5 hq1) g13 (fun I12 => ?_)
        refine s_aload_n 1 dX1_missBy_77 rfl rfl ?_
        refine s_getR (q1 + 5) dX1_missBy_78 rfl fl_1_100 rfl (qS_0 hq1) (qR_4 hq1) ?_
        refine s_iload_n 3 dX1_missBy_81 rfl rfl ?_
        refine sm_ck (fun g14 => ?_)
        refine s_iald dX1_missBy_82 rfl (qS_5 hq1) g14 ?_
        refine s_if_ne (tgt := 95) dX1_missBy_83 rfl rfl (fun _ => ?_) (fun _ => ?_)
        · skip
          exact sm_exit (fun f h => h)
        · skip
          refine s_aload_n 1 dX1_missBy_86 rfl rfl ?_
          refine s_getR (q1 + 3) dX1_missBy_87 rfl fl_1_51 rfl (qS_0 hq1) (qR_2 hq1) ?_
          refine s_iload_n 3 dX1_missBy_90 rfl rfl ?_
          refine s_bipush (v := 9) dX1_missBy_91 rfl cB_9 ?_
          refine sm_ck (fun g16 => ?_)
          refine s_iastL dX1_missBy_93 rfl (qS_3 hq1) g16 (fun I15 => ?_)
          exact s_vret dX1_missBy_94 rfl (fun f h => h)
  · skip
    refine s_iload 4 dX1_missBy_95 rfl rfl ?_
    refine s_if_eq (tgt := 106) dX1_missBy_97 rfl rfl (fun _ => ?_) (fun _ => ?_)
    · skip
      refine s_aload_n 0 dX1_missBy_106 rfl rfl ?_
      refine s_aload_n 1 dX1_missBy_107 rfl rfl ?_
      refine s_iload_n 2 dX1_missBy_108 rfl rfl ?_
      refine s_iload_n 3 dX1_missBy_109 rfl rfl ?_
      refine s_callV3_v1 dX1_missBy_110 rfl lkV_RX1_85 (S_27 hK) (Nat.le_of_ble_eq_true rfl) (Nat.le_of_ble_eq_true rfl) (Nat.le_of_ble_eq_true rfl) (ct_x1_aim hK hq1) (fun I17 => ?_)
      refine s_aload_n 0 dX1_missBy_113 rfl rfl ?_
      refine s_aload_n 1 dX1_missBy_114 rfl rfl ?_
      refine s_iload_n 3 dX1_missBy_115 rfl rfl ?_
      refine s_callV2_v1 dX1_missBy_116 rfl lkV_RX1_163 (S_27 hK) (Nat.le_of_ble_eq_true rfl) (Nat.le_of_ble_eq_true rfl) (Nat.le_of_ble_eq_true rfl) (ct_x1_push hK ht hq1) (fun I18 => ?_)
      exact s_vret dX1_missBy_119 rfl (fun f h => h)
    · skip
      refine s_iload 4 dX1_missBy_100 rfl rfl ?_
      refine s_iconst (v := 1) dX1_missBy_102 rfl cI_1 ?_
      refine s_icmp_ne (tgt := 119) dX1_missBy_103 rfl rfl (fun _ => ?_) (fun _ => ?_)
      · skip
        exact s_vret dX1_missBy_119 rfl (fun f h => h)
      · skip
        refine s_aload_n 0 dX1_missBy_106 rfl rfl ?_
        refine s_aload_n 1 dX1_missBy_107 rfl rfl ?_
        refine s_iload_n 2 dX1_missBy_108 rfl rfl ?_
        refine s_iload_n 3 dX1_missBy_109 rfl rfl ?_
        refine s_callV3_v1 dX1_missBy_110 rfl lkV_RX1_85 (S_27 hK) (Nat.le_of_ble_eq_true rfl) (Nat.le_of_ble_eq_true rfl) (Nat.le_of_ble_eq_true rfl) (ct_x1_aim hK hq1) (fun I19 => ?_)
        refine s_aload_n 0 dX1_missBy_113 rfl rfl ?_
        refine s_aload_n 1 dX1_missBy_114 rfl rfl ?_
        refine s_iload_n 3 dX1_missBy_115 rfl rfl ?_
        refine s_callV2_v1 dX1_missBy_116 rfl lkV_RX1_163 (S_27 hK) (Nat.le_of_ble_eq_true rfl) (Nat.le_of_ble_eq_true rfl) (Nat.le_of_ble_eq_true rfl) (ct_x1_push hK ht hq1) (fun I20 => ?_)
        exact s_vret dX1_missBy_119 rfl (fun f h => h)
noncomputable def x1_tryInEarnest (t : Nat) (q1 : Nat) (p2 : Int32) (p3 : Int32) (p4 : Int32) (I : MI) : Option (Int32 × MI) :=
b1 (x1_look t q1 p2 p3 I) fun I1 =>
b2 (x0_value t 46 10 p4 I1) fun r2 I3 =>
b1 (x1_asOdds r2 I3) fun r4 =>
lt r4 fun v5 =>
lt (wI I3 q1 11 (rm (((I3 q1 11) * 137) + 71) 1000)) fun I6 =>
b1 (
if ((I6 q1 11) / 10) < v5 then (
some (1 : Int32)) else
some (0 : Int32)) fun e7 =>
lt e7 fun v8 =>
ck (vp_in p2 4) <|
ck (vp_in p4 5) <|
ck (vp_in p2 4) <|
lt (wI I6 (q1 + 10) (ix p2) ((I6 (q1 + 10) (ix p2)) + (([1, 1, 2, 3, 1] : List Int32).getD (ix p4) 0))) fun I11 =>
b1 (x7_recordAt p2 p4 I11) fun r13 =>
lt r13 fun v14 =>
ck (vp_in v14 60) <|
ck (vp_in v14 60) <|
lt (wI I11 (q1 + 11) (ix v14) ((I11 (q1 + 11) (ix v14)) + 1)) fun I16 =>
ck (vp_in (v14 + 1) 60) <|
b1 (
if v8 = 0 then (
some (0 : Int32)) else
some (1 : Int32)) fun e19 =>
ck (vp_in (v14 + 1) 60) <|
lt (wI I16 (q1 + 11) (ix (v14 + 1)) ((I16 (q1 + 11) (ix (v14 + 1))) + e19)) fun I20 =>
ck (vp_in (v14 + 2) 60) <|
ck (vp_in (v14 + 2) 60) <|
lt (wI I20 (q1 + 11) (ix (v14 + 2)) ((I20 (q1 + 11) (ix (v14 + 2))) + v5)) fun I23 =>
if v8 = 0 then (
b1 (x1_missBy t q1 p2 p3 p4 I23) fun I25 =>
ck (v8 = 0 ∨ v8 = 1) (some (v8, I25))) else
b1 (x1_getBy q1 p2 p3 p4 I23) fun I27 =>
ck (v8 = 0 ∨ v8 = 1) (some (v8, I27))
theorem ct_x1_tryInEarnest {X : WX} {t : Nat} {q1 : Nat} {p2 : Int32} {p3 : Int32} {p4 : Int32} {I : MI} {L : ML} {R : MR} {S : MS} (hK : okr R S) (ht : R 27 0 = some t ∧ isT t) (hq1 : isSt R S q1) : Ct X yX1_tryInEarnest cX1_tryInEarnest 8 (some .boolean) 3 75 [.ref (X.1 + 27), .ref (X.1 + q1), .int p2, .int p3, .int p4] (I, L, R, S) (x1_tryInEarnest t q1 p2 p3 p4 I) (fun r => (some (.int r.1), (r.2, L, R, S))) := by
  refine Ct.of (by decide) (Nat.le_of_ble_eq_true rfl) [(0, .ref (X.1 + 27)), (1, .ref (X.1 + q1)), (2, .int p2), (3, .int p3), (4, .int p4)] rfl ?_
  unfold x1_tryInEarnest
  refine s_aload_n 0 dX1_tryInEarnest_0 rfl rfl ?_
  refine s_aload_n 1 dX1_tryInEarnest_1 rfl rfl ?_
  refine s_iload_n 2 dX1_tryInEarnest_2 rfl rfl ?_
  refine s_iload_n 3 dX1_tryInEarnest_3 rfl rfl ?_
  refine s_callV3_v1 dX1_tryInEarnest_4 rfl lkV_RX1_115 (S_27 hK) (Nat.le_of_ble_eq_true rfl) (Nat.le_of_ble_eq_true rfl) (Nat.le_of_ble_eq_true rfl) (ct_x1_look hK ht hq1) (fun I1 => ?_)
  refine s_aload_n 0 dX1_tryInEarnest_7 rfl rfl ?_
  refine s_getR t dX1_tryInEarnest_8 rfl fl_1_17 rfl (S_27 hK) ht.1 ?_
  refine s_getR (t + 13) dX1_tryInEarnest_11 rfl fl_1_118 rfl (tS_0 hK ht.2) (tR_0_19 hK ht.2) ?_
  refine s_iload 4 dX1_tryInEarnest_14 rfl rfl ?_
  refine s_aload_n 0 dX1_tryInEarnest_16 rfl rfl ?_
  refine s_getR 46 dX1_tryInEarnest_17 rfl fl_1_11 rfl (S_27 hK) (R_27_1 hK) ?_
  refine s_callV2_i1 dX1_tryInEarnest_20 rfl lkV_RX1_122 (tS_13 hK ht.2) (Nat.le_of_ble_eq_true rfl) (Nat.le_of_ble_eq_true rfl) (Nat.le_of_ble_eq_true rfl) (ct_x0_value hK ht.2 (S_46 hK)) (fun r2 I3 => ?_)
  refine s_callS1_i0 dX1_tryInEarnest_23 rfl lkS_RX1_126 (Nat.le_of_ble_eq_true rfl) (Nat.le_of_ble_eq_true rfl) (Nat.le_of_ble_eq_true rfl) (ct_x1_asOdds hK) (fun r4 => ?_)
  refine s_istoreL (fun v5 => [(5, .int v5), (0, .ref (X.1 + 27)), (1, .ref (X.1 + q1)), (2, .int p2), (3, .int p3), (4, .int p4)]) dX1_tryInEarnest_26 rfl (by decide) (fun _ => rfl) (fun v5 => ?_)
  refine s_aload_n 2 dX1_tryInEarnest_28 rfl rfl ?_
  refine s_aload_n 2 dX1_tryInEarnest_29 rfl rfl ?_
  refine s_getI dX1_tryInEarnest_30 rfl fl_1_135 (qS_0 hq1) ?_
  refine s_sipush (v := 137) dX1_tryInEarnest_33 rfl cS_137 ?_
  refine s_imul dX1_tryInEarnest_36 rfl ?_
  refine s_bipush (v := 71) dX1_tryInEarnest_37 rfl cB_71 ?_
  refine s_iadd dX1_tryInEarnest_39 rfl ?_
  refine s_sipush (v := 1000) dX1_tryInEarnest_40 rfl cS_1000 ?_
  refine s_irem dX1_tryInEarnest_43 rfl (by decide) ?_
  refine s_putIL dX1_tryInEarnest_44 rfl fl_1_135 (qS_0 hq1) (fun I6 => ?_)
  refine s_aload_n 2 dX1_tryInEarnest_47 rfl rfl ?_
  refine s_getI dX1_tryInEarnest_48 rfl fl_1_135 (qS_0 hq1) ?_
  refine s_bipush (v := 10) dX1_tryInEarnest_51 rfl cB_10 ?_
  refine s_idiv dX1_tryInEarnest_53 rfl (by decide) ?_
  refine s_iload 0 dX1_tryInEarnest_54 rfl rfl ?_
  refine sm_reg (pcx := 64) (lsx := fun e7 => [(0, .ref (X.1 + 27)), (1, .ref (X.1 + q1)), (2, .int p2), (3, .int p3), (4, .int p4), (5, .int v5)]) (stx := fun e7 => [.int e7]) (ux := fun e7 => (I6, L, R, S)) ?_ (fun e7 => ?_)
  · skip
    refine s_icmp_ge (tgt := 63) dX1_tryInEarnest_56 rfl rfl (fun _ => ?_) (fun _ => ?_)
    · skip
      refine s_iconst (v := 0) dX1_tryInEarnest_63 rfl cI_0 ?_
      refine s_pick [1, 2, 3, 4, 5, 0] rfl ?_
      exact sm_exit (fun f h => h)
    · skip
      refine s_iconst (v := 1) dX1_tryInEarnest_59 rfl cI_1 ?_
      refine s_goto (tgt := 64) dX1_tryInEarnest_60 rfl ?_
      refine s_pick [1, 2, 3, 4, 5, 0] rfl ?_
      exact sm_exit (fun f h => h)
  · skip
    refine s_istoreL (fun v8 => [(6, .int v8), (0, .ref (X.1 + 27)), (1, .ref (X.1 + q1)), (2, .int p2), (3, .int p3), (4, .int p4), (5, .int v5)]) dX1_tryInEarnest_64 rfl (by decide) (fun _ => rfl) (fun v8 => ?_)
    refine s_aload_n 2 dX1_tryInEarnest_66 rfl rfl ?_
    refine s_getR (q1 + 10) dX1_tryInEarnest_67 rfl fl_1_138 rfl (qS_0 hq1) (qR_9 hq1) ?_
    refine s_iload_n 3 dX1_tryInEarnest_70 rfl rfl ?_
    refine s_dup2 dX1_tryInEarnest_71 rfl rfl rfl ?_
    refine sm_ck (fun g9 => ?_)
    refine s_iald dX1_tryInEarnest_72 rfl (qS_10 hq1) g9 ?_
    refine s_gets 0 0 dX1_tryInEarnest_73 rfl rfl rfl ?_
    refine s_iload 5 dX1_tryInEarnest_76 rfl rfl ?_
    refine sm_ck (fun g10 => ?_)
    refine s_tald 0 dX1_tryInEarnest_78 rfl rfl g10 ?_
    refine s_iadd dX1_tryInEarnest_79 rfl ?_
    refine sm_ck (fun g12 => ?_)
    refine s_iastL dX1_tryInEarnest_80 rfl (qS_10 hq1) g12 (fun I11 => ?_)
    refine s_iload_n 3 dX1_tryInEarnest_81 rfl rfl ?_
    refine s_iload 5 dX1_tryInEarnest_82 rfl rfl ?_
    refine s_callS2_i0 dX1_tryInEarnest_84 rfl lkS_RX1_144 (Nat.le_of_ble_eq_true rfl) (Nat.le_of_ble_eq_true rfl) (Nat.le_of_ble_eq_true rfl) (ct_x7_recordAt hK) (fun r13 => ?_)
    refine s_istoreL (fun v14 => [(7, .int v14), (6, .int v8), (0, .ref (X.1 + 27)), (1, .ref (X.1 + q1)), (2, .int p2), (3, .int p3), (4, .int p4), (5, .int v5)]) dX1_tryInEarnest_87 rfl (by decide) (fun _ => rfl) (fun v14 => ?_)
    refine s_aload_n 3 dX1_tryInEarnest_89 rfl rfl ?_
    refine s_getR (q1 + 11) dX1_tryInEarnest_90 rfl fl_1_147 rfl (qS_0 hq1) (qR_10 hq1) ?_
    refine s_iload 0 dX1_tryInEarnest_93 rfl rfl ?_
    refine s_dup2 dX1_tryInEarnest_95 rfl rfl rfl ?_
    refine sm_ck (fun g15 => ?_)
    refine s_iald dX1_tryInEarnest_96 rfl (qS_11 hq1) g15 ?_
    refine s_iconst (v := 1) dX1_tryInEarnest_97 rfl cI_1 ?_
    refine s_iadd dX1_tryInEarnest_98 rfl ?_
    refine sm_ck (fun g17 => ?_)
    refine s_iastL dX1_tryInEarnest_99 rfl (qS_11 hq1) g17 (fun I16 => ?_)
    refine s_aload_n 3 dX1_tryInEarnest_100 rfl rfl ?_
    refine s_getR (q1 + 11) dX1_tryInEarnest_101 rfl fl_1_147 rfl (qS_0 hq1) (qR_10 hq1) ?_
    refine s_iload 0 dX1_tryInEarnest_104 rfl rfl ?_
    refine s_iconst (v := 1) dX1_tryInEarnest_106 rfl cI_1 ?_
    refine s_iadd dX1_tryInEarnest_107 rfl ?_
    refine s_dup2 dX1_tryInEarnest_108 rfl rfl rfl ?_
    refine sm_ck (fun g18 => ?_)
    refine s_iald dX1_tryInEarnest_109 rfl (qS_11 hq1) g18 ?_
    refine s_iload 1 dX1_tryInEarnest_110 rfl rfl ?_
    refine sm_reg (pcx := 120) (lsx := fun e19 => [(0, .ref (X.1 + 27)), (1, .ref (X.1 + q1)), (2, .int p2), (3, .int p3), (4, .int p4), (5, .int v5), (6, .int v8), (7, .int v14)]) (stx := fun e19 => [.int e19, .int (I16 (q1 + 11) (ix (v14 + 1))), .int (v14 + 1), .ref (X.1 + (q1 + 11))]) (ux := fun e19 => (I16, L, R, S)) ?_ (fun e19 => ?_)
    · skip
      refine s_if_eq (tgt := 119) dX1_tryInEarnest_112 rfl rfl (fun _ => ?_) (fun _ => ?_)
      · skip
        refine s_iconst (v := 0) dX1_tryInEarnest_119 rfl cI_0 ?_
        refine s_pick [2, 3, 4, 5, 6, 7, 1, 0] rfl ?_
        exact sm_exit (fun f h => h)
      · skip
        refine s_iconst (v := 1) dX1_tryInEarnest_115 rfl cI_1 ?_
        refine s_goto (tgt := 120) dX1_tryInEarnest_116 rfl ?_
        refine s_pick [2, 3, 4, 5, 6, 7, 1, 0] rfl ?_
        exact sm_exit (fun f h => h)
    · skip
      refine s_iadd dX1_tryInEarnest_120 rfl ?_
      refine sm_ck (fun g21 => ?_)
      refine s_iastL dX1_tryInEarnest_121 rfl (qS_11 hq1) g21 (fun I20 => ?_)
      refine s_aload_n 1 dX1_tryInEarnest_122 rfl rfl ?_
      refine s_getR (q1 + 11) dX1_tryInEarnest_123 rfl fl_1_147 rfl (qS_0 hq1) (qR_10 hq1) ?_
      refine s_iload 7 dX1_tryInEarnest_126 rfl rfl ?_
      refine s_iconst (v := 2) dX1_tryInEarnest_128 rfl cI_2 ?_
      refine s_iadd dX1_tryInEarnest_129 rfl ?_
      refine s_dup2 dX1_tryInEarnest_130 rfl rfl rfl ?_
      refine sm_ck (fun g22 => ?_)
      refine s_iald dX1_tryInEarnest_131 rfl (qS_11 hq1) g22 ?_
      refine s_iload 5 dX1_tryInEarnest_132 rfl rfl ?_
      refine s_iadd dX1_tryInEarnest_134 rfl ?_
      refine sm_ck (fun g24 => ?_)
      refine s_iastL dX1_tryInEarnest_135 rfl (qS_11 hq1) g24 (fun I23 => ?_)
      refine s_iload 6 dX1_tryInEarnest_136 rfl rfl ?_
      refine s_if_eq (tgt := 153) dX1_tryInEarnest_138 rfl rfl (fun _ => ?_) (fun _ => ?_)
      · skip
        refine s_aload_n 0 dX1_tryInEarnest_153 rfl rfl ?_
        refine s_aload_n 1 dX1_tryInEarnest_154 rfl rfl ?_
        refine s_iload_n 2 dX1_tryInEarnest_155 rfl rfl ?_
        refine s_iload_n 3 dX1_tryInEarnest_156 rfl rfl ?_
        refine s_iload 4 dX1_tryInEarnest_157 rfl rfl ?_
        refine s_callV4_v1 dX1_tryInEarnest_159 rfl lkV_RX1_154 (S_27 hK) (Nat.le_of_ble_eq_true rfl) (Nat.le_of_ble_eq_true rfl) (Nat.le_of_ble_eq_true rfl) (ct_x1_missBy hK ht hq1) (fun I25 => ?_)
        refine s_iload 6 dX1_tryInEarnest_162 rfl rfl ?_
        refine sm_ck (fun g26 => ?_)
        exact s_zret dX1_tryInEarnest_164 rfl g26 (fun f h => h)
      · skip
        refine s_aload_n 0 dX1_tryInEarnest_141 rfl rfl ?_
        refine s_aload_n 1 dX1_tryInEarnest_142 rfl rfl ?_
        refine s_iload_n 2 dX1_tryInEarnest_143 rfl rfl ?_
        refine s_iload_n 3 dX1_tryInEarnest_144 rfl rfl ?_
        refine s_iload 4 dX1_tryInEarnest_145 rfl rfl ?_
        refine s_callV4_v1 dX1_tryInEarnest_147 rfl lkV_RX1_150 (S_27 hK) (Nat.le_of_ble_eq_true rfl) (Nat.le_of_ble_eq_true rfl) (Nat.le_of_ble_eq_true rfl) (ct_x1_getBy hK hq1) (fun I27 => ?_)
        refine s_goto (tgt := 162) dX1_tryInEarnest_150 rfl ?_
        refine s_iload 6 dX1_tryInEarnest_162 rfl rfl ?_
        refine sm_ck (fun g28 => ?_)
        exact s_zret dX1_tryInEarnest_164 rfl g28 (fun f h => h)
