noncomputable def x10_append_L3s (c1 : Int32) (rec : Int32 → MI → Option (MI)) (w2 : Int32) (I : MI) : Option (MI) :=
if w2 < 0 then (
some I) else
if (I 0 1) < 1600 then (
ck (vp_in (I 0 1) 1600) <|
lt (wI I 1 (ix (I 0 1)) (((c1 >>> (w2 &&& 31))).toInt8.toInt32).toInt8.toInt32) fun I2 =>
lt (wI I2 0 1 ((I2 0 1) + 1)) fun I4 =>
lt (w2 + (-8)) fun v5 =>
rec v5 I4) else
some I
noncomputable def x10_append_L3 (c1 : Int32) : Nat → Int32 → MI → Option (MI)
  | 0 => fun _ _ => none
  | n + 1 => x10_append_L3s c1 (x10_append_L3 c1 n)
noncomputable def x10_append (p1 : Int32) (I : MI) : Option (MI) :=
lt (24 : Int32) fun v1 =>
b1 (x10_append_L3 p1 FU v1 I) fun e6 =>
some e6
noncomputable def x10_feed (p1 : Int32) (p2 : Int32) (p3 : Int32) (p4 : Int32) (p5 : Int32) (I : MI) : Option (Int32 × MI) :=
if 1580 < (I 0 1) then (
some ((-1 : Int32), I)) else
b1 (x10_append p1 I) fun I1 =>
b1 (x10_append p2 I1) fun I2 =>
b1 (x10_append p3 I2) fun I3 =>
b1 (x10_append p4 I3) fun I4 =>
b1 (x10_append p5 I4) fun I5 =>
some ((I5 0 1), I5)
noncomputable def x10_end (p1 : Int32) (I : MI) : Option (Int32 × MI) :=
if p1 < 0 then (
some ((-1 : Int32), I)) else
if (I 0 1) < p1 then (
some ((-1 : Int32), I)) else
lt (wI I 0 1 p1) fun I1 =>
some (p1, I1)
noncomputable def x1_far (q1 : Nat) (p2 : Int32) (p3 : Int32) (I : MI) : Option (Int32) :=
ck (vp_in p3 10) <|
ck (vp_in p2 4) <|
lt (if 0 ≤ ((I (q1 + 1) (ix p3)) - (I (q1 + 6) (ix p2))) then ((I (q1 + 1) (ix p3)) - (I (q1 + 6) (ix p2))) else 0 - ((I (q1 + 1) (ix p3)) - (I (q1 + 6) (ix p2)))) fun v3 =>
ck (vp_in p3 10) <|
ck (vp_in p2 4) <|
lt (if 0 ≤ ((I (q1 + 2) (ix p3)) - (I (q1 + 7) (ix p2))) then ((I (q1 + 2) (ix p3)) - (I (q1 + 7) (ix p2))) else 0 - ((I (q1 + 2) (ix p3)) - (I (q1 + 7) (ix p2)))) fun v6 =>
some (if v3 < v6 then v6 else v3)
noncomputable def x1_appleIn_L3s (t : Nat) (q1 : Nat) (c2 : Int32) (c3 : Int32) (I : MI) (rec : Int32 → Option ((Unit) ⊕ (Int32))) (w4 : Int32) : Option ((Unit) ⊕ (Int32)) :=
if w4 < (I t 4) then (
ck (vp_in w4 10) <|
if (I (q1 + 3) (ix w4)) = (-1) then (
ck (vp_in w4 10) <|
if (I (q1 + 1) (ix w4)) = c2 then (
ck (vp_in w4 10) <|
if (I (q1 + 2) (ix w4)) = c3 then (
some (.inr w4)) else
lt (w4 + 1) fun v7 =>
rec v7) else
lt (w4 + 1) fun v5 =>
rec v5) else
lt (w4 + 1) fun v3 =>
rec v3) else
some (.inl ())
noncomputable def x1_appleIn_L3 (t : Nat) (q1 : Nat) (c2 : Int32) (c3 : Int32) (I : MI) : Nat → Int32 → Option ((Unit) ⊕ (Int32))
  | 0 => fun _ => none
  | n + 1 => x1_appleIn_L3s t q1 c2 c3 I (x1_appleIn_L3 t q1 c2 c3 I n)
noncomputable def x1_appleIn (t : Nat) (q1 : Nat) (p2 : Int32) (p3 : Int32) (I : MI) : Option (Int32) :=
lt (0 : Int32) fun v1 =>
bE (x1_appleIn_L3 t q1 p2 p3 I FU v1) fun e8 =>
some (-1 : Int32)
theorem x10_append_L3_ok {X : WX} {n0 s0 : Nat} {c1 : Int32} {L : ML} {R : MR} {S : MS} (hK : okr R S) : ∀ (n : Nat) (w2 : Int32) (I : MI), Sim X yX10_append cX10_append 3 none 0 0 n0 s0 3 [(0, .ref (X.1 + 0)), (1, .int c1), (2, .int w2)] [] (I, L, R, S) (x10_append_L3 c1 n w2 I) (fun b f => Ex X yX10_append cX10_append 3 none 0 0 n0 s0 46 [] [] (b, L, R, S) f) := by
  intro n
  induction n with
  | zero =>
    intro w2 I
    exact sm_none
  | succ n ih =>
    intro w2 I
    change Sim _ _ _ _ _ _ _ _ _ _ _ _ _ (x10_append_L3s c1 (x10_append_L3 c1 n) w2 I) _
    unfold x10_append_L3s
    refine s_iload_n 2 dX10_append_3 rfl rfl ?_
    refine s_if_lt (tgt := 46) dX10_append_4 rfl rfl (fun _ => ?_) (fun _ => ?_)
    · skip
      refine s_pick [] rfl ?_
      exact sm_exit (fun f h => h)
    · skip
      refine s_aload_n 0 dX10_append_7 rfl rfl ?_
      refine s_getI dX10_append_8 rfl fl_10_97 (S_0 hK) ?_
      refine s_sipush (v := 1600) dX10_append_11 rfl cS_1600 ?_
      refine s_icmp_ge (tgt := 46) dX10_append_14 rfl rfl (fun _ => ?_) (fun _ => ?_)
      · skip
        refine s_pick [] rfl ?_
        exact sm_exit (fun f h => h)
      · skip
        refine s_aload_n 0 dX10_append_17 rfl rfl ?_
        refine s_getR 1 dX10_append_18 rfl fl_10_9 rfl (S_0 hK) (R_0_0 hK) ?_
        refine s_aload_n 0 dX10_append_21 rfl rfl ?_
        refine s_getI dX10_append_22 rfl fl_10_97 (S_0 hK) ?_
        refine s_iload_n 1 dX10_append_25 rfl rfl ?_
        refine s_iload_n 2 dX10_append_26 rfl rfl ?_
        refine s_ishr dX10_append_27 rfl ?_
        refine s_i2b dX10_append_28 rfl ?_
        refine sm_ck (fun g3 => ?_)
        refine s_bastL dX10_append_29 rfl (S_1 hK) g3 (fun I2 => ?_)
        refine s_aload_n 0 dX10_append_30 rfl rfl ?_
        refine s_dup dX10_append_31 rfl rfl ?_
        refine s_getI dX10_append_32 rfl fl_10_97 (S_0 hK) ?_
        refine s_iconst (v := 1) dX10_append_35 rfl cI_1 ?_
        refine s_iadd dX10_append_36 rfl ?_
        refine s_putIL dX10_append_37 rfl fl_10_97 (S_0 hK) (fun I4 => ?_)
        refine s_iincL 2 (c := (-8)) (fun v5 => [(2, .int v5), (0, .ref (X.1 + 0)), (1, .int c1)]) dX10_append_40 rfl rfl cI_m8 (by decide) (fun _ => rfl) (fun v5 => ?_)
        refine s_goto (tgt := 3) dX10_append_43 rfl ?_
        refine s_pick [1, 2, 0] rfl ?_
        exact ih v5 I4
theorem ct_x10_append {X : WX} {p1 : Int32} {I : MI} {L : ML} {R : MR} {S : MS} (hK : okr R S) : Ct X yX10_append cX10_append 3 none 0 0 [.ref (X.1 + 0), .int p1] (I, L, R, S) (x10_append p1 I) (fun r => (none, (r, L, R, S))) := by
  refine Ct.of (by decide) (Nat.le_of_ble_eq_true rfl) [(0, .ref (X.1 + 0)), (1, .int p1)] rfl ?_
  unfold x10_append
  refine s_bipush (v := 24) dX10_append_0 rfl cB_24 ?_
  refine s_istore_nL (fun v1 => [(2, .int v1), (0, .ref (X.1 + 0)), (1, .int p1)]) dX10_append_2 rfl (by decide) (fun _ => rfl) (fun v1 => ?_)
  refine s_pick [1, 2, 0] rfl ?_
  refine sm_reg (x10_append_L3_ok hK FU v1 I) (fun e6 => ?_)
  exact s_vret dX10_append_46 rfl (fun f h => h)
theorem ct_x10_feed {X : WX} {p1 : Int32} {p2 : Int32} {p3 : Int32} {p4 : Int32} {p5 : Int32} {I : MI} {L : ML} {R : MR} {S : MS} (hK : okr R S) : Ct X yX10_feed cX10_feed 6 (some .int) 1 22 [.ref (X.1 + 0), .int p1, .int p2, .int p3, .int p4, .int p5] (I, L, R, S) (x10_feed p1 p2 p3 p4 p5 I) (fun r => (some (.int r.1), (r.2, L, R, S))) := by
  refine Ct.of (by decide) (Nat.le_of_ble_eq_true rfl) [(0, .ref (X.1 + 0)), (1, .int p1), (2, .int p2), (3, .int p3), (4, .int p4), (5, .int p5)] rfl ?_
  unfold x10_feed
  refine s_aload_n 0 dX10_feed_0 rfl rfl ?_
  refine s_getI dX10_feed_1 rfl fl_10_97 (S_0 hK) ?_
  refine s_sipush (v := 1580) dX10_feed_4 rfl cS_1580 ?_
  refine s_icmp_le (tgt := 12) dX10_feed_7 rfl rfl (fun _ => ?_) (fun _ => ?_)
  · skip
    refine s_aload_n 0 dX10_feed_12 rfl rfl ?_
    refine s_iload_n 1 dX10_feed_13 rfl rfl ?_
    refine s_callV1_v1 dX10_feed_14 rfl lkV_RX10_101 (S_0 hK) (Nat.le_of_ble_eq_true rfl) (Nat.le_of_ble_eq_true rfl) (Nat.le_of_ble_eq_true rfl) (ct_x10_append hK) (fun I1 => ?_)
    refine s_aload_n 0 dX10_feed_17 rfl rfl ?_
    refine s_iload_n 2 dX10_feed_18 rfl rfl ?_
    refine s_callV1_v1 dX10_feed_19 rfl lkV_RX10_101 (S_0 hK) (Nat.le_of_ble_eq_true rfl) (Nat.le_of_ble_eq_true rfl) (Nat.le_of_ble_eq_true rfl) (ct_x10_append hK) (fun I2 => ?_)
    refine s_aload_n 0 dX10_feed_22 rfl rfl ?_
    refine s_iload_n 3 dX10_feed_23 rfl rfl ?_
    refine s_callV1_v1 dX10_feed_24 rfl lkV_RX10_101 (S_0 hK) (Nat.le_of_ble_eq_true rfl) (Nat.le_of_ble_eq_true rfl) (Nat.le_of_ble_eq_true rfl) (ct_x10_append hK) (fun I3 => ?_)
    refine s_aload_n 0 dX10_feed_27 rfl rfl ?_
    refine s_iload 4 dX10_feed_28 rfl rfl ?_
    refine s_callV1_v1 dX10_feed_30 rfl lkV_RX10_101 (S_0 hK) (Nat.le_of_ble_eq_true rfl) (Nat.le_of_ble_eq_true rfl) (Nat.le_of_ble_eq_true rfl) (ct_x10_append hK) (fun I4 => ?_)
    refine s_aload_n 0 dX10_feed_33 rfl rfl ?_
    refine s_iload 5 dX10_feed_34 rfl rfl ?_
    refine s_callV1_v1 dX10_feed_36 rfl lkV_RX10_101 (S_0 hK) (Nat.le_of_ble_eq_true rfl) (Nat.le_of_ble_eq_true rfl) (Nat.le_of_ble_eq_true rfl) (ct_x10_append hK) (fun I5 => ?_)
    refine s_aload_n 0 dX10_feed_39 rfl rfl ?_
    refine s_getI dX10_feed_40 rfl fl_10_97 (S_0 hK) ?_
    exact s_iret dX10_feed_43 rfl (fun f h => h)
  · skip
    refine s_iconst (v := (-1)) dX10_feed_10 rfl cI_m1 ?_
    exact s_iret dX10_feed_11 rfl (fun f h => h)
theorem ct_x10_end {X : WX} {p1 : Int32} {I : MI} {L : ML} {R : MR} {S : MS} (hK : okr R S) : Ct X yX10_end cX10_end 2 (some .int) 0 0 [.ref (X.1 + 0), .int p1] (I, L, R, S) (x10_end p1 I) (fun r => (some (.int r.1), (r.2, L, R, S))) := by
  refine Ct.of (by decide) (Nat.le_of_ble_eq_true rfl) [(0, .ref (X.1 + 0)), (1, .int p1)] rfl ?_
  unfold x10_end
  refine s_iload_n 1 dX10_end_0 rfl rfl ?_
  refine s_if_lt (tgt := 12) dX10_end_1 rfl rfl (fun _ => ?_) (fun _ => ?_)
  · skip
    refine s_iconst (v := (-1)) dX10_end_12 rfl cI_m1 ?_
    exact s_iret dX10_end_13 rfl (fun f h => h)
  · skip
    refine s_iload_n 1 dX10_end_4 rfl rfl ?_
    refine s_aload_n 0 dX10_end_5 rfl rfl ?_
    refine s_getI dX10_end_6 rfl fl_10_97 (S_0 hK) ?_
    refine s_icmp_le (tgt := 14) dX10_end_9 rfl rfl (fun _ => ?_) (fun _ => ?_)
    · skip
      refine s_aload_n 0 dX10_end_14 rfl rfl ?_
      refine s_iload_n 1 dX10_end_15 rfl rfl ?_
      refine s_putIL dX10_end_16 rfl fl_10_97 (S_0 hK) (fun I1 => ?_)
      refine s_iload_n 1 dX10_end_19 rfl rfl ?_
      exact s_iret dX10_end_20 rfl (fun f h => h)
    · skip
      refine s_iconst (v := (-1)) dX10_end_12 rfl cI_m1 ?_
      exact s_iret dX10_end_13 rfl (fun f h => h)
theorem ct_x1_far {X : WX} {q1 : Nat} {p2 : Int32} {p3 : Int32} {I : MI} {L : ML} {R : MR} {S : MS} (hK : okr R S) (hq1 : isSt R S q1) : Ct X yX1_far cX1_far 6 (some .int) 1 25 [.ref (X.1 + 27), .ref (X.1 + q1), .int p2, .int p3] (I, L, R, S) (x1_far q1 p2 p3 I) (fun r => (some (.int r), (I, L, R, S))) := by
  refine Ct.of (by decide) (Nat.le_of_ble_eq_true rfl) [(0, .ref (X.1 + 27)), (1, .ref (X.1 + q1)), (2, .int p2), (3, .int p3)] rfl ?_
  unfold x1_far
  refine s_aload_n 1 dX1_far_0 rfl rfl ?_
  refine s_getR (q1 + 1) dX1_far_1 rfl fl_1_21 rfl (qS_0 hq1) (qR_0 hq1) ?_
  refine s_iload_n 3 dX1_far_4 rfl rfl ?_
  refine sm_ck (fun g1 => ?_)
  refine s_iald dX1_far_5 rfl (qS_1 hq1) g1 ?_
  refine s_aload_n 1 dX1_far_6 rfl rfl ?_
  refine s_getR (q1 + 6) dX1_far_7 rfl fl_1_26 rfl (qS_0 hq1) (qR_5 hq1) ?_
  refine s_iload_n 2 dX1_far_10 rfl rfl ?_
  refine sm_ck (fun g2 => ?_)
  refine s_iald dX1_far_11 rfl (qS_6 hq1) g2 ?_
  refine s_isub dX1_far_12 rfl ?_
  refine s_mabs dX1_far_13 rfl lkw_1_29 lk_mabs (Nat.le_of_ble_eq_true rfl) (Nat.le_of_ble_eq_true rfl) (Nat.le_of_ble_eq_true rfl) ?_
  refine s_istoreL (fun v3 => [(4, .int v3), (0, .ref (X.1 + 27)), (1, .ref (X.1 + q1)), (2, .int p2), (3, .int p3)]) dX1_far_16 rfl (by decide) (fun _ => rfl) (fun v3 => ?_)
  refine s_aload_n 2 dX1_far_18 rfl rfl ?_
  refine s_getR (q1 + 2) dX1_far_19 rfl fl_1_35 rfl (qS_0 hq1) (qR_1 hq1) ?_
  refine s_iload_n 4 dX1_far_22 rfl rfl ?_
  refine sm_ck (fun g4 => ?_)
  refine s_iald dX1_far_23 rfl (qS_2 hq1) g4 ?_
  refine s_aload_n 2 dX1_far_24 rfl rfl ?_
  refine s_getR (q1 + 7) dX1_far_25 rfl fl_1_38 rfl (qS_0 hq1) (qR_6 hq1) ?_
  refine s_iload_n 3 dX1_far_28 rfl rfl ?_
  refine sm_ck (fun g5 => ?_)
  refine s_iald dX1_far_29 rfl (qS_7 hq1) g5 ?_
  refine s_isub dX1_far_30 rfl ?_
  refine s_mabs dX1_far_31 rfl lkw_1_29 lk_mabs (Nat.le_of_ble_eq_true rfl) (Nat.le_of_ble_eq_true rfl) (Nat.le_of_ble_eq_true rfl) ?_
  refine s_istoreL (fun v6 => [(5, .int v6), (4, .int v3), (0, .ref (X.1 + 27)), (1, .ref (X.1 + q1)), (2, .int p2), (3, .int p3)]) dX1_far_34 rfl (by decide) (fun _ => rfl) (fun v6 => ?_)
  refine s_iload 1 dX1_far_36 rfl rfl ?_
  refine s_iload 0 dX1_far_38 rfl rfl ?_
  refine s_mmax dX1_far_40 rfl lkw_1_41 lk_mmax (Nat.le_of_ble_eq_true rfl) (Nat.le_of_ble_eq_true rfl) (Nat.le_of_ble_eq_true rfl) ?_
  exact s_iret dX1_far_43 rfl (fun f h => h)
theorem x1_appleIn_L3_ok {X : WX} {n0 s0 : Nat} {t : Nat} {q1 : Nat} {c2 : Int32} {c3 : Int32} {I : MI} {L : ML} {R : MR} {S : MS} (hK : okr R S) (ht : R 27 0 = some t ∧ isT t) (hq1 : isSt R S q1) : ∀ (n : Nat) (w4 : Int32), Sim X yX1_appleIn cX1_appleIn 5 (some .int) 0 0 n0 s0 3 [(0, .ref (X.1 + 27)), (1, .ref (X.1 + q1)), (2, .int c2), (3, .int c3), (4, .int w4)] [] (I, L, R, S) (x1_appleIn_L3 t q1 c2 c3 I n w4) (SE (fun b f => Ex X yX1_appleIn cX1_appleIn 5 (some .int) 0 0 n0 s0 57 [] [] (I, L, R, S) f) (fun a f => f = (fun r => (some (.int r), (I, L, R, S))) a)) := by
  intro n
  induction n with
  | zero =>
    intro w4
    exact sm_none
  | succ n ih =>
    intro w4
    change Sim _ _ _ _ _ _ _ _ _ _ _ _ _ (x1_appleIn_L3s t q1 c2 c3 I (x1_appleIn_L3 t q1 c2 c3 I n) w4) _
    unfold x1_appleIn_L3s
    refine s_iload 4 dX1_appleIn_3 rfl rfl ?_
    refine s_aload_n 0 dX1_appleIn_5 rfl rfl ?_
    refine s_getR t dX1_appleIn_6 rfl fl_1_17 rfl (S_27 hK) ht.1 ?_
    refine s_getI dX1_appleIn_9 rfl fl_1_45 (tS_0 hK ht.2) ?_
    refine s_icmp_ge (tgt := 57) dX1_appleIn_12 rfl rfl (fun _ => ?_) (fun _ => ?_)
    · skip
      refine s_pick [] rfl ?_
      exact sm_exit (fun f h => h)
    · skip
      refine s_aload_n 1 dX1_appleIn_15 rfl rfl ?_
      refine s_getR (q1 + 3) dX1_appleIn_16 rfl fl_1_51 rfl (qS_0 hq1) (qR_2 hq1) ?_
      refine s_iload 4 dX1_appleIn_19 rfl rfl ?_
      refine sm_ck (fun g2 => ?_)
      refine s_iald dX1_appleIn_21 rfl (qS_3 hq1) g2 ?_
      refine s_iconst (v := (-1)) dX1_appleIn_22 rfl cI_m1 ?_
      refine s_icmp_ne (tgt := 51) dX1_appleIn_23 rfl rfl (fun _ => ?_) (fun _ => ?_)
      · skip
        refine s_iincL 4 (c := 1) (fun v3 => [(4, .int v3), (0, .ref (X.1 + 27)), (1, .ref (X.1 + q1)), (2, .int c2), (3, .int c3)]) dX1_appleIn_51 rfl rfl cI_1 (by decide) (fun _ => rfl) (fun v3 => ?_)
        refine s_goto (tgt := 3) dX1_appleIn_54 rfl ?_
        refine s_pick [1, 2, 3, 4, 0] rfl ?_
        exact ih v3
      · skip
        refine s_aload_n 1 dX1_appleIn_26 rfl rfl ?_
        refine s_getR (q1 + 1) dX1_appleIn_27 rfl fl_1_21 rfl (qS_0 hq1) (qR_0 hq1) ?_
        refine s_iload 4 dX1_appleIn_30 rfl rfl ?_
        refine sm_ck (fun g4 => ?_)
        refine s_iald dX1_appleIn_32 rfl (qS_1 hq1) g4 ?_
        refine s_iload_n 2 dX1_appleIn_33 rfl rfl ?_
        refine s_icmp_ne (tgt := 51) dX1_appleIn_34 rfl rfl (fun _ => ?_) (fun _ => ?_)
        · skip
          refine s_iincL 4 (c := 1) (fun v5 => [(4, .int v5), (0, .ref (X.1 + 27)), (1, .ref (X.1 + q1)), (2, .int c2), (3, .int c3)]) dX1_appleIn_51 rfl rfl cI_1 (by decide) (fun _ => rfl) (fun v5 => ?_)
          refine s_goto (tgt := 3) dX1_appleIn_54 rfl ?_
          refine s_pick [1, 2, 3, 4, 0] rfl ?_
          exact ih v5
        · skip
          refine s_aload_n 1 dX1_appleIn_37 rfl rfl ?_
          refine s_getR (q1 + 2) dX1_appleIn_38 rfl fl_1_35 rfl (qS_0 hq1) (qR_1 hq1) ?_
          refine s_iload 4 dX1_appleIn_41 rfl rfl ?_
          refine sm_ck (fun g6 => ?_)
          refine s_iald dX1_appleIn_43 rfl (qS_2 hq1) g6 ?_
          refine s_iload_n 3 dX1_appleIn_44 rfl rfl ?_
          refine s_icmp_ne (tgt := 51) dX1_appleIn_45 rfl rfl (fun _ => ?_) (fun _ => ?_)
          · skip
            refine s_iincL 4 (c := 1) (fun v7 => [(4, .int v7), (0, .ref (X.1 + 27)), (1, .ref (X.1 + q1)), (2, .int c2), (3, .int c3)]) dX1_appleIn_51 rfl rfl cI_1 (by decide) (fun _ => rfl) (fun v7 => ?_)
            refine s_goto (tgt := 3) dX1_appleIn_54 rfl ?_
            refine s_pick [1, 2, 3, 4, 0] rfl ?_
            exact ih v7
          · skip
            refine s_iload 4 dX1_appleIn_48 rfl rfl ?_
            exact s_iret dX1_appleIn_50 rfl (fun f h => h)
theorem ct_x1_appleIn {X : WX} {t : Nat} {q1 : Nat} {p2 : Int32} {p3 : Int32} {I : MI} {L : ML} {R : MR} {S : MS} (hK : okr R S) (ht : R 27 0 = some t ∧ isT t) (hq1 : isSt R S q1) : Ct X yX1_appleIn cX1_appleIn 5 (some .int) 0 0 [.ref (X.1 + 27), .ref (X.1 + q1), .int p2, .int p3] (I, L, R, S) (x1_appleIn t q1 p2 p3 I) (fun r => (some (.int r), (I, L, R, S))) := by
  refine Ct.of (by decide) (Nat.le_of_ble_eq_true rfl) [(0, .ref (X.1 + 27)), (1, .ref (X.1 + q1)), (2, .int p2), (3, .int p3)] rfl ?_
  unfold x1_appleIn
  refine s_iconst (v := 0) dX1_appleIn_0 rfl cI_0 ?_
  refine s_istoreL (fun v1 => [(4, .int v1), (0, .ref (X.1 + 27)), (1, .ref (X.1 + q1)), (2, .int p2), (3, .int p3)]) dX1_appleIn_1 rfl (by decide) (fun _ => rfl) (fun v1 => ?_)
  refine s_pick [1, 2, 3, 4, 0] rfl ?_
  refine sm_regE (x1_appleIn_L3_ok hK ht hq1 FU v1) (fun e8 => ?_)
  refine s_iconst (v := (-1)) dX1_appleIn_57 rfl cI_m1 ?_
  exact s_iret dX1_appleIn_58 rfl (fun f h => h)
