noncomputable def x10_lies (p1 : Int32) (I : MI) : Option (Int32) :=
if p1 < 0 then (
some (-1 : Int32)) else
if p1 < (I 0 14) then (
ck (vp_in p1 36) <|
some (I 89 (ix p1))) else
some (-1 : Int32)
theorem ct_x10_lies {X : WX} {p1 : Int32} {I : MI} {L : ML} {R : MR} {S : MS} (hK : okr R S) : Ct X yX10_lies cX10_lies 2 (some .int) 0 0 [.ref (X.1 + 0), .int p1] (I, L, R, S) (x10_lies p1 I) (fun r => (some (.int r), (I, L, R, S))) := by
  refine Ct.of (by decide) (Nat.le_of_ble_eq_true rfl) [(0, .ref (X.1 + 0)), (1, .int p1)] rfl ?_
  unfold x10_lies
  refine s_iload_n 1 dX10_lies_0 rfl rfl ?_
  refine s_if_lt (tgt := 21) dX10_lies_1 rfl rfl (fun _ => ?_) (fun _ => ?_)
  · skip
    refine s_iconst (v := (-1)) dX10_lies_21 rfl cI_m1 ?_
    exact s_iret dX10_lies_22 rfl (fun f h => h)
  · skip
    refine s_iload_n 1 dX10_lies_4 rfl rfl ?_
    refine s_aload_n 0 dX10_lies_5 rfl rfl ?_
    refine s_getI dX10_lies_6 rfl fl_10_112 (S_0 hK) ?_
    refine s_icmp_ge (tgt := 21) dX10_lies_9 rfl rfl (fun _ => ?_) (fun _ => ?_)
    · skip
      refine s_iconst (v := (-1)) dX10_lies_21 rfl cI_m1 ?_
      exact s_iret dX10_lies_22 rfl (fun f h => h)
    · skip
      refine s_aload_n 0 dX10_lies_12 rfl rfl ?_
      refine s_getR 89 dX10_lies_13 rfl fl_10_83 rfl (S_0 hK) (R_0_13 hK) ?_
      refine s_iload_n 1 dX10_lies_16 rfl rfl ?_
      refine sm_ck (fun g1 => ?_)
      refine s_iald dX10_lies_17 rfl (S_89 hK) g1 ?_
      refine s_goto (tgt := 22) dX10_lies_18 rfl ?_
      exact s_iret dX10_lies_22 rfl (fun f h => h)
noncomputable def x4_tell (p1 : Int32) (p2 : Int32) (p3 : Int32) (p4 : Int32) (I : MI) : Option (Int32 × MI) :=
if (I 83 6) < 30 then (
ck (vp_in (I 83 6) 30) <|
lt (wI I 84 (ix (I 83 6)) p1) fun I1 =>
ck (vp_in (I1 83 6) 30) <|
lt (wI I1 85 (ix (I1 83 6)) p2) fun I3 =>
ck (vp_in (I3 83 6) 30) <|
lt (wI I3 86 (ix (I3 83 6)) p3) fun I5 =>
ck (vp_in (I5 83 6) 30) <|
lt (wI I5 87 (ix (I5 83 6)) p4) fun I7 =>
ck (vp_in (I7 83 6) 30) <|
lt (wI I7 88 (ix (I7 83 6)) (-1 : Int32)) fun I9 =>
lt (wI I9 83 6 ((I9 83 6) + 1)) fun I11 =>
some (((I11 83 6) - 1), I11)) else
some ((-1 : Int32), I)
theorem ct_x4_tell {X : WX} {p1 : Int32} {p2 : Int32} {p3 : Int32} {p4 : Int32} {I : MI} {L : ML} {R : MR} {S : MS} (hK : okr R S) : Ct X yX4_tell cX4_tell 5 (some .int) 0 0 [.ref (X.1 + 83), .int p1, .int p2, .int p3, .int p4] (I, L, R, S) (x4_tell p1 p2 p3 p4 I) (fun r => (some (.int r.1), (r.2, L, R, S))) := by
  refine Ct.of (by decide) (Nat.le_of_ble_eq_true rfl) [(0, .ref (X.1 + 83)), (1, .int p1), (2, .int p2), (3, .int p3), (4, .int p4)] rfl ?_
  unfold x4_tell
  refine s_aload_n 0 dX4_tell_0 rfl rfl ?_
  refine s_getI dX4_tell_1 rfl fl_4_31 (S_83 hK) ?_
  refine s_bipush (v := 30) dX4_tell_4 rfl cB_30 ?_
  refine s_icmp_lt (tgt := 11) dX4_tell_6 rfl rfl (fun _ => ?_) (fun _ => ?_)
  · skip
    refine s_aload_n 0 dX4_tell_11 rfl rfl ?_
    refine s_getR 84 dX4_tell_12 rfl fl_4_11 rfl (S_83 hK) (R_83_1 hK) ?_
    refine s_aload_n 0 dX4_tell_15 rfl rfl ?_
    refine s_getI dX4_tell_16 rfl fl_4_31 (S_83 hK) ?_
    refine s_iload_n 1 dX4_tell_19 rfl rfl ?_
    refine sm_ck (fun g2 => ?_)
    refine s_iastL dX4_tell_20 rfl (S_84 hK) g2 (fun I1 => ?_)
    refine s_aload_n 0 dX4_tell_21 rfl rfl ?_
    refine s_getR 85 dX4_tell_22 rfl fl_4_15 rfl (S_83 hK) (R_83_2 hK) ?_
    refine s_aload_n 0 dX4_tell_25 rfl rfl ?_
    refine s_getI dX4_tell_26 rfl fl_4_31 (S_83 hK) ?_
    refine s_iload_n 2 dX4_tell_29 rfl rfl ?_
    refine sm_ck (fun g4 => ?_)
    refine s_iastL dX4_tell_30 rfl (S_85 hK) g4 (fun I3 => ?_)
    refine s_aload_n 0 dX4_tell_31 rfl rfl ?_
    refine s_getR 86 dX4_tell_32 rfl fl_4_18 rfl (S_83 hK) (R_83_3 hK) ?_
    refine s_aload_n 0 dX4_tell_35 rfl rfl ?_
    refine s_getI dX4_tell_36 rfl fl_4_31 (S_83 hK) ?_
    refine s_iload_n 3 dX4_tell_39 rfl rfl ?_
    refine sm_ck (fun g6 => ?_)
    refine s_iastL dX4_tell_40 rfl (S_86 hK) g6 (fun I5 => ?_)
    refine s_aload_n 0 dX4_tell_41 rfl rfl ?_
    refine s_getR 87 dX4_tell_42 rfl fl_4_21 rfl (S_83 hK) (R_83_4 hK) ?_
    refine s_aload_n 0 dX4_tell_45 rfl rfl ?_
    refine s_getI dX4_tell_46 rfl fl_4_31 (S_83 hK) ?_
    refine s_iload 4 dX4_tell_49 rfl rfl ?_
    refine sm_ck (fun g8 => ?_)
    refine s_iastL dX4_tell_51 rfl (S_87 hK) g8 (fun I7 => ?_)
    refine s_aload_n 0 dX4_tell_52 rfl rfl ?_
    refine s_getR 88 dX4_tell_53 rfl fl_4_24 rfl (S_83 hK) (R_83_5 hK) ?_
    refine s_aload_n 0 dX4_tell_56 rfl rfl ?_
    refine s_getI dX4_tell_57 rfl fl_4_31 (S_83 hK) ?_
    refine s_iconst (v := (-1)) dX4_tell_60 rfl cI_m1 ?_
    refine sm_ck (fun g10 => ?_)
    refine s_iastL dX4_tell_61 rfl (S_88 hK) g10 (fun I9 => ?_)
    refine s_aload_n 0 dX4_tell_62 rfl rfl ?_
    refine s_dup dX4_tell_63 rfl rfl ?_
    refine s_getI dX4_tell_64 rfl fl_4_31 (S_83 hK) ?_
    refine s_iconst (v := 1) dX4_tell_67 rfl cI_1 ?_
    refine s_iadd dX4_tell_68 rfl ?_
    refine s_putIL dX4_tell_69 rfl fl_4_31 (S_83 hK) (fun I11 => ?_)
    refine s_aload_n 0 dX4_tell_72 rfl rfl ?_
    refine s_getI dX4_tell_73 rfl fl_4_31 (S_83 hK) ?_
    refine s_iconst (v := 1) dX4_tell_76 rfl cI_1 ?_
    refine s_isub dX4_tell_77 rfl ?_
    exact s_iret dX4_tell_78 rfl (fun f h => h)
  · skip
    refine s_iconst (v := (-1)) dX4_tell_9 rfl cI_m1 ?_
    exact s_iret dX4_tell_10 rfl (fun f h => h)
noncomputable def x10_pick (t : Nat) (p1 : Int32) (p2 : Int32) (p3 : Int32) (I : MI) : Option (Int32 × MI) :=
b1 (x10_isBobber t p1 I) fun r1 =>
if r1 = 0 then (
some ((-1 : Int32), I)) else
b1 (x10_isSet t p2 I) fun r2 =>
if r2 = 0 then (
some ((-1 : Int32), I)) else
b1 (x10_isApple t p3 I) fun r3 =>
if r3 = 0 then (
some ((-1 : Int32), I)) else
if ((p2 >>> (p3 &&& 31)) &&& 1) = 0 then (
some ((-1 : Int32), I)) else
b2 (x4_tell p1 p2 p3 (I 0 12) I) fun r4 I5 =>
some (r4, I5)
theorem ct_x10_pick {X : WX} {t : Nat} {p1 : Int32} {p2 : Int32} {p3 : Int32} {I : MI} {L : ML} {R : MR} {S : MS} (hK : okr R S) (ht : R 27 0 = some t ∧ isT t) : Ct X yX10_pick cX10_pick 4 (some .int) 1 24 [.ref (X.1 + 0), .int p1, .int p2, .int p3] (I, L, R, S) (x10_pick t p1 p2 p3 I) (fun r => (some (.int r.1), (r.2, L, R, S))) := by
  refine Ct.of (by decide) (Nat.le_of_ble_eq_true rfl) [(0, .ref (X.1 + 0)), (1, .int p1), (2, .int p2), (3, .int p3)] rfl ?_
  unfold x10_pick
  refine s_aload_n 0 dX10_pick_0 rfl rfl ?_
  refine s_iload_n 1 dX10_pick_1 rfl rfl ?_
  refine s_callV1_i0 dX10_pick_2 rfl lkV_RX10_143 (S_0 hK) (Nat.le_of_ble_eq_true rfl) (Nat.le_of_ble_eq_true rfl) (Nat.le_of_ble_eq_true rfl) (ct_x10_isBobber hK ht) (fun r1 => ?_)
  refine s_if_eq (tgt := 32) dX10_pick_5 rfl rfl (fun _ => ?_) (fun _ => ?_)
  · skip
    refine s_iconst (v := (-1)) dX10_pick_32 rfl cI_m1 ?_
    exact s_iret dX10_pick_33 rfl (fun f h => h)
  · skip
    refine s_aload_n 0 dX10_pick_8 rfl rfl ?_
    refine s_iload_n 2 dX10_pick_9 rfl rfl ?_
    refine s_callV1_i0 dX10_pick_10 rfl lkV_RX10_278 (S_0 hK) (Nat.le_of_ble_eq_true rfl) (Nat.le_of_ble_eq_true rfl) (Nat.le_of_ble_eq_true rfl) (ct_x10_isSet hK ht) (fun r2 => ?_)
    refine s_if_eq (tgt := 32) dX10_pick_13 rfl rfl (fun _ => ?_) (fun _ => ?_)
    · skip
      refine s_iconst (v := (-1)) dX10_pick_32 rfl cI_m1 ?_
      exact s_iret dX10_pick_33 rfl (fun f h => h)
    · skip
      refine s_aload_n 0 dX10_pick_16 rfl rfl ?_
      refine s_iload_n 3 dX10_pick_17 rfl rfl ?_
      refine s_callV1_i0 dX10_pick_18 rfl lkV_RX10_124 (S_0 hK) (Nat.le_of_ble_eq_true rfl) (Nat.le_of_ble_eq_true rfl) (Nat.le_of_ble_eq_true rfl) (ct_x10_isApple hK ht) (fun r3 => ?_)
      refine s_if_eq (tgt := 32) dX10_pick_21 rfl rfl (fun _ => ?_) (fun _ => ?_)
      · skip
        refine s_iconst (v := (-1)) dX10_pick_32 rfl cI_m1 ?_
        exact s_iret dX10_pick_33 rfl (fun f h => h)
      · skip
        refine s_iload_n 2 dX10_pick_24 rfl rfl ?_
        refine s_iload_n 3 dX10_pick_25 rfl rfl ?_
        refine s_ishr dX10_pick_26 rfl ?_
        refine s_iconst (v := 1) dX10_pick_27 rfl cI_1 ?_
        refine s_iand dX10_pick_28 rfl ?_
        refine s_if_ne (tgt := 34) dX10_pick_29 rfl rfl (fun _ => ?_) (fun _ => ?_)
        · skip
          refine s_aload_n 0 dX10_pick_34 rfl rfl ?_
          refine s_getR 83 dX10_pick_35 rfl fl_10_79 rfl (S_0 hK) (R_0_11 hK) ?_
          refine s_iload_n 1 dX10_pick_38 rfl rfl ?_
          refine s_iload_n 2 dX10_pick_39 rfl rfl ?_
          refine s_iload_n 3 dX10_pick_40 rfl rfl ?_
          refine s_aload_n 0 dX10_pick_41 rfl rfl ?_
          refine s_getI dX10_pick_42 rfl fl_10_323 (S_0 hK) ?_
          refine s_callV4_i1 dX10_pick_45 rfl lkV_RX10_326 (S_83 hK) (Nat.le_of_ble_eq_true rfl) (Nat.le_of_ble_eq_true rfl) (Nat.le_of_ble_eq_true rfl) (ct_x4_tell hK) (fun r4 I5 => ?_)
          exact s_iret dX10_pick_48 rfl (fun f h => h)
        · skip
          refine s_iconst (v := (-1)) dX10_pick_32 rfl cI_m1 ?_
          exact s_iret dX10_pick_33 rfl (fun f h => h)
noncomputable def x4_takeBack (p1 : Int32) (p2 : Int32) (I : MI) : Option (Int32 × MI) :=
if p1 < 0 then (
some ((0 : Int32), I)) else
if p1 < (I 83 6) then (
ck (vp_in p1 30) <|
if (I 88 (ix p1)) = (-1) then (
ck (vp_in p1 30) <|
lt (wI I 88 (ix p1) p2) fun I2 =>
some ((1 : Int32), I2)) else
some ((0 : Int32), I)) else
some ((0 : Int32), I)
theorem ct_x4_takeBack {X : WX} {p1 : Int32} {p2 : Int32} {I : MI} {L : ML} {R : MR} {S : MS} (hK : okr R S) : Ct X yX4_takeBack cX4_takeBack 3 (some .boolean) 0 0 [.ref (X.1 + 83), .int p1, .int p2] (I, L, R, S) (x4_takeBack p1 p2 I) (fun r => (some (.int r.1), (r.2, L, R, S))) := by
  refine Ct.of (by decide) (Nat.le_of_ble_eq_true rfl) [(0, .ref (X.1 + 83)), (1, .int p1), (2, .int p2)] rfl ?_
  unfold x4_takeBack
  refine s_iload_n 1 dX4_takeBack_0 rfl rfl ?_
  refine s_if_lt (tgt := 22) dX4_takeBack_1 rfl rfl (fun _ => ?_) (fun _ => ?_)
  · skip
    refine s_iconst (v := 0) dX4_takeBack_22 rfl cI_0 ?_
    exact s_zret dX4_takeBack_23 rfl (Or.inl rfl) (fun f h => h)
  · skip
    refine s_iload_n 1 dX4_takeBack_4 rfl rfl ?_
    refine s_aload_n 0 dX4_takeBack_5 rfl rfl ?_
    refine s_getI dX4_takeBack_6 rfl fl_4_31 (S_83 hK) ?_
    refine s_icmp_ge (tgt := 22) dX4_takeBack_9 rfl rfl (fun _ => ?_) (fun _ => ?_)
    · skip
      refine s_iconst (v := 0) dX4_takeBack_22 rfl cI_0 ?_
      exact s_zret dX4_takeBack_23 rfl (Or.inl rfl) (fun f h => h)
    · skip
      refine s_aload_n 0 dX4_takeBack_12 rfl rfl ?_
      refine s_getR 88 dX4_takeBack_13 rfl fl_4_24 rfl (S_83 hK) (R_83_5 hK) ?_
      refine s_iload_n 1 dX4_takeBack_16 rfl rfl ?_
      refine sm_ck (fun g1 => ?_)
      refine s_iald dX4_takeBack_17 rfl (S_88 hK) g1 ?_
      refine s_iconst (v := (-1)) dX4_takeBack_18 rfl cI_m1 ?_
      refine s_icmp_eq (tgt := 24) dX4_takeBack_19 rfl rfl (fun _ => ?_) (fun _ => ?_)
      · skip
        refine s_aload_n 0 dX4_takeBack_24 rfl rfl ?_
        refine s_getR 88 dX4_takeBack_25 rfl fl_4_24 rfl (S_83 hK) (R_83_5 hK) ?_
        refine s_iload_n 1 dX4_takeBack_28 rfl rfl ?_
        refine s_iload_n 2 dX4_takeBack_29 rfl rfl ?_
        refine sm_ck (fun g3 => ?_)
        refine s_iastL dX4_takeBack_30 rfl (S_88 hK) g3 (fun I2 => ?_)
        refine s_iconst (v := 1) dX4_takeBack_31 rfl cI_1 ?_
        exact s_zret dX4_takeBack_32 rfl (Or.inr rfl) (fun f h => h)
      · skip
        refine s_iconst (v := 0) dX4_takeBack_22 rfl cI_0 ?_
        exact s_zret dX4_takeBack_23 rfl (Or.inl rfl) (fun f h => h)
noncomputable def x10_untell (p1 : Int32) (I : MI) : Option (Int32 × MI) :=
b2 (x4_takeBack p1 (I 0 12) I) fun r1 I2 =>
ck (r1 = 0 ∨ r1 = 1) (some (r1, I2))
theorem ct_x10_untell {X : WX} {p1 : Int32} {I : MI} {L : ML} {R : MR} {S : MS} (hK : okr R S) : Ct X yX10_untell cX10_untell 2 (some .boolean) 1 22 [.ref (X.1 + 0), .int p1] (I, L, R, S) (x10_untell p1 I) (fun r => (some (.int r.1), (r.2, L, R, S))) := by
  refine Ct.of (by decide) (Nat.le_of_ble_eq_true rfl) [(0, .ref (X.1 + 0)), (1, .int p1)] rfl ?_
  unfold x10_untell
  refine s_aload_n 0 dX10_untell_0 rfl rfl ?_
  refine s_getR 83 dX10_untell_1 rfl fl_10_79 rfl (S_0 hK) (R_0_11 hK) ?_
  refine s_iload_n 1 dX10_untell_4 rfl rfl ?_
  refine s_aload_n 0 dX10_untell_5 rfl rfl ?_
  refine s_getI dX10_untell_6 rfl fl_10_323 (S_0 hK) ?_
  refine s_callV2_i1 dX10_untell_9 rfl lkV_RX10_330 (S_83 hK) (Nat.le_of_ble_eq_true rfl) (Nat.le_of_ble_eq_true rfl) (Nat.le_of_ble_eq_true rfl) (ct_x4_takeBack hK) (fun r1 I2 => ?_)
  refine sm_ck (fun g3 => ?_)
  exact s_zret dX10_untell_12 rfl g3 (fun f h => h)
noncomputable def x10_later (p1 : Int32) (I : MI) : Option (Int32 × MI) :=
if p1 < 0 then (
some ((-1 : Int32), I)) else
if 1000 < p1 then (
some ((-1 : Int32), I)) else
if 100000 < ((I 0 12) + p1) then (
some ((-1 : Int32), I)) else
lt (wI I 0 12 ((I 0 12) + p1)) fun I1 =>
some ((I1 0 12), I1)
theorem ct_x10_later {X : WX} {p1 : Int32} {I : MI} {L : ML} {R : MR} {S : MS} (hK : okr R S) : Ct X yX10_later cX10_later 2 (some .int) 0 0 [.ref (X.1 + 0), .int p1] (I, L, R, S) (x10_later p1 I) (fun r => (some (.int r.1), (r.2, L, R, S))) := by
  refine Ct.of (by decide) (Nat.le_of_ble_eq_true rfl) [(0, .ref (X.1 + 0)), (1, .int p1)] rfl ?_
  unfold x10_later
  refine s_iload_n 1 dX10_later_0 rfl rfl ?_
  refine s_if_lt (tgt := 23) dX10_later_1 rfl rfl (fun _ => ?_) (fun _ => ?_)
  · skip
    refine s_iconst (v := (-1)) dX10_later_23 rfl cI_m1 ?_
    exact s_iret dX10_later_24 rfl (fun f h => h)
  · skip
    refine s_iload_n 1 dX10_later_4 rfl rfl ?_
    refine s_sipush (v := 1000) dX10_later_5 rfl cS_1000 ?_
    refine s_icmp_gt (tgt := 23) dX10_later_8 rfl rfl (fun _ => ?_) (fun _ => ?_)
    · skip
      refine s_iconst (v := (-1)) dX10_later_23 rfl cI_m1 ?_
      exact s_iret dX10_later_24 rfl (fun f h => h)
    · skip
      refine s_aload_n 0 dX10_later_11 rfl rfl ?_
      refine s_getI dX10_later_12 rfl fl_10_323 (S_0 hK) ?_
      refine s_iload_n 1 dX10_later_15 rfl rfl ?_
      refine s_iadd dX10_later_16 rfl ?_
      refine s_ldcw (v := 100000) dX10_later_17 rfl (tw_mem 1425 (by decide +kernel) rfl) ?_
      refine s_icmp_le (tgt := 25) dX10_later_20 rfl rfl (fun _ => ?_) (fun _ => ?_)
      · skip
        refine s_aload_n 0 dX10_later_25 rfl rfl ?_
        refine s_dup dX10_later_26 rfl rfl ?_
        refine s_getI dX10_later_27 rfl fl_10_323 (S_0 hK) ?_
        refine s_iload_n 1 dX10_later_30 rfl rfl ?_
        refine s_iadd dX10_later_31 rfl ?_
        refine s_putIL dX10_later_32 rfl fl_10_323 (S_0 hK) (fun I1 => ?_)
        refine s_aload_n 0 dX10_later_35 rfl rfl ?_
        refine s_getI dX10_later_36 rfl fl_10_323 (S_0 hK) ?_
        exact s_iret dX10_later_39 rfl (fun f h => h)
      · skip
        refine s_iconst (v := (-1)) dX10_later_23 rfl cI_m1 ?_
        exact s_iret dX10_later_24 rfl (fun f h => h)
noncomputable def x10_fits_L4s (t : Nat) (c1 : Int32) (rec : Int32 → Int32 → MI → Option (Int32 × MI)) (w2 : Int32) (w3 : Int32) (I : MI) : Option (Int32 × MI) :=
if w3 < (I t 18) then (
b2 (x4_misfits t w3 c1 I) fun r3 I4 =>
if r3 = 0 then (
lt (w2 ||| ((1 : Int32) <<< (w3 &&& 31))) fun v6 =>
lt (w3 + 1) fun v7 =>
rec v6 v7 I4) else
lt (w3 + 1) fun v5 =>
rec w2 v5 I4) else
some (w2, I)
noncomputable def x10_fits_L4 (t : Nat) (c1 : Int32) : Nat → Int32 → Int32 → MI → Option (Int32 × MI)
  | 0 => fun _ _ _ => none
  | n + 1 => x10_fits_L4s t c1 (x10_fits_L4 t c1 n)
noncomputable def x10_fits (t : Nat) (p1 : Int32) (I : MI) : Option (Int32 × MI) :=
lt (0 : Int32) fun v1 =>
lt (0 : Int32) fun v2 =>
b1 (x10_fits_L4 t p1 FU v1 v2 I) fun e8 =>
some (e8.1, e8.2)
theorem x10_fits_L4_ok {X : WX} {n0 s0 : Nat} {t : Nat} {c1 : Int32} {L : ML} {R : MR} {S : MS} (hK : okr R S) (ht : R 27 0 = some t ∧ isT t) : ∀ (n : Nat) (w2 : Int32) (w3 : Int32) (I : MI), Sim X yX10_fits cX10_fits 4 (some .int) 6 149 n0 s0 4 [(0, .ref (X.1 + 0)), (1, .int c1), (2, .int w2), (3, .int w3)] [] (I, L, R, S) (x10_fits_L4 t c1 n w2 w3 I) (fun b f => Ex X yX10_fits cX10_fits 4 (some .int) 6 149 n0 s0 42 [(2, .int b.1)] [] (b.2, L, R, S) f) := by
  intro n
  induction n with
  | zero =>
    intro w2 w3 I
    exact sm_none
  | succ n ih =>
    intro w2 w3 I
    change Sim _ _ _ _ _ _ _ _ _ _ _ _ _ (x10_fits_L4s t c1 (x10_fits_L4 t c1 n) w2 w3 I) _
    unfold x10_fits_L4s
    refine s_iload_n 3 dX10_fits_4 rfl rfl ?_
    refine s_aload_n 0 dX10_fits_5 rfl rfl ?_
    refine s_getR 27 dX10_fits_6 rfl fl_10_32 rfl (S_0 hK) (R_0_4 hK) ?_
    refine s_getR t dX10_fits_9 rfl fl_10_87 rfl (S_27 hK) ht.1 ?_
    refine s_getI dX10_fits_12 rfl fl_10_217 (tS_0 hK ht.2) ?_
    refine s_icmp_ge (tgt := 42) dX10_fits_15 rfl rfl (fun _ => ?_) (fun _ => ?_)
    · skip
      refine s_pick [2] rfl ?_
      exact sm_exit (fun f h => h)
    · skip
      refine s_aload_n 0 dX10_fits_18 rfl rfl ?_
      refine s_getR 83 dX10_fits_19 rfl fl_10_79 rfl (S_0 hK) (R_0_11 hK) ?_
      refine s_iload_n 3 dX10_fits_22 rfl rfl ?_
      refine s_iload_n 1 dX10_fits_23 rfl rfl ?_
      refine s_callV2_i1 dX10_fits_24 rfl lkV_RX10_293 (S_83 hK) (Nat.le_of_ble_eq_true rfl) (Nat.le_of_ble_eq_true rfl) (Nat.le_of_ble_eq_true rfl) (ct_x4_misfits hK ht) (fun r3 I4 => ?_)
      refine s_if_ne (tgt := 36) dX10_fits_27 rfl rfl (fun _ => ?_) (fun _ => ?_)
      · skip
        refine s_iincL 3 (c := 1) (fun v5 => [(3, .int v5), (0, .ref (X.1 + 0)), (1, .int c1), (2, .int w2)]) dX10_fits_36 rfl rfl cI_1 (by decide) (fun _ => rfl) (fun v5 => ?_)
        refine s_goto (tgt := 4) dX10_fits_39 rfl ?_
        refine s_pick [1, 2, 3, 0] rfl ?_
        exact ih w2 v5 I4
      · skip
        refine s_iload_n 2 dX10_fits_30 rfl rfl ?_
        refine s_iconst (v := 1) dX10_fits_31 rfl cI_1 ?_
        refine s_iload_n 3 dX10_fits_32 rfl rfl ?_
        refine s_ishl dX10_fits_33 rfl ?_
        refine s_ior dX10_fits_34 rfl ?_
        refine s_istore_nL (fun v6 => [(2, .int v6), (0, .ref (X.1 + 0)), (1, .int c1), (3, .int w3)]) dX10_fits_35 rfl (by decide) (fun _ => rfl) (fun v6 => ?_)
        refine s_iincL 3 (c := 1) (fun v7 => [(3, .int v7), (2, .int v6), (0, .ref (X.1 + 0)), (1, .int c1)]) dX10_fits_36 rfl rfl cI_1 (by decide) (fun _ => rfl) (fun v7 => ?_)
        refine s_goto (tgt := 4) dX10_fits_39 rfl ?_
        refine s_pick [2, 3, 1, 0] rfl ?_
        exact ih v6 v7 I4
theorem ct_x10_fits {X : WX} {t : Nat} {p1 : Int32} {I : MI} {L : ML} {R : MR} {S : MS} (hK : okr R S) (ht : R 27 0 = some t ∧ isT t) : Ct X yX10_fits cX10_fits 4 (some .int) 6 149 [.ref (X.1 + 0), .int p1] (I, L, R, S) (x10_fits t p1 I) (fun r => (some (.int r.1), (r.2, L, R, S))) := by
  refine Ct.of (by decide) (Nat.le_of_ble_eq_true rfl) [(0, .ref (X.1 + 0)), (1, .int p1)] rfl ?_
  unfold x10_fits
  refine s_iconst (v := 0) dX10_fits_0 rfl cI_0 ?_
  refine s_istore_nL (fun v1 => [(2, .int v1), (0, .ref (X.1 + 0)), (1, .int p1)]) dX10_fits_1 rfl (by decide) (fun _ => rfl) (fun v1 => ?_)
  refine s_iconst (v := 0) dX10_fits_2 rfl cI_0 ?_
  refine s_istore_nL (fun v2 => [(3, .int v2), (2, .int v1), (0, .ref (X.1 + 0)), (1, .int p1)]) dX10_fits_3 rfl (by decide) (fun _ => rfl) (fun v2 => ?_)
  refine s_pick [2, 3, 1, 0] rfl ?_
  refine sm_reg (x10_fits_L4_ok hK ht FU v1 v2 I) (fun e8 => ?_)
  refine s_iload_n 0 dX10_fits_42 rfl rfl ?_
  exact s_iret dX10_fits_43 rfl (fun f h => h)
noncomputable def x4_oneIn_L5s (c1 : Int32) (I : MI) (rec : Int64 → Int32 → Option (Int64)) (w2 : Int64) (w4 : Int32) : Option (Int64) :=
if w4 < (I 83 6) then (
b1 (x4_isKnown w4 c1 I) fun r3 =>
if r3 = 0 then (
lt (w4 + 1) fun v4 =>
rec w2 v4) else
ck (vp_in w4 30) <|
b1 (j6_bitCount_0f7a4 (I 85 (ix w4)) I) fun r6 =>
lt (if (w2 * (r6).toInt64) < 1000000000000000 then (w2 * (r6).toInt64) else 1000000000000000) fun v7 =>
lt (w4 + 1) fun v8 =>
rec v7 v8) else
some w2
noncomputable def x4_oneIn_L5 (c1 : Int32) (I : MI) : Nat → Int64 → Int32 → Option (Int64)
  | 0 => fun _ _ => none
  | n + 1 => x4_oneIn_L5s c1 I (x4_oneIn_L5 c1 I n)
noncomputable def x4_oneIn (p1 : Int32) (I : MI) : Option (Int64) :=
lt (1 : Int64) fun v1 =>
lt (0 : Int32) fun v2 =>
b1 (x4_oneIn_L5 p1 I FU v1 v2) fun e9 =>
some e9
theorem x4_oneIn_L5_ok {X : WX} {n0 s0 : Nat} {c1 : Int32} {I : MI} {L : ML} {R : MR} {S : MS} (hK : okr R S) : ∀ (n : Nat) (w2 : Int64) (w4 : Int32), Sim X yX4_oneIn cX4_oneIn 5 (some .long) 1 25 n0 s0 5 [(0, .ref (X.1 + 83)), (1, .int c1), (2, .long w2), (4, .int w4)] [] (I, L, R, S) (x4_oneIn_L5 c1 I n w2 w4) (fun b f => Ex X yX4_oneIn cX4_oneIn 5 (some .long) 1 25 n0 s0 50 [(2, .long b)] [] (I, L, R, S) f) := by
  intro n
  induction n with
  | zero =>
    intro w2 w4
    exact sm_none
  | succ n ih =>
    intro w2 w4
    change Sim _ _ _ _ _ _ _ _ _ _ _ _ _ (x4_oneIn_L5s c1 I (x4_oneIn_L5 c1 I n) w2 w4) _
    unfold x4_oneIn_L5s
    refine s_iload 3 dX4_oneIn_5 rfl rfl ?_
    refine s_aload_n 0 dX4_oneIn_7 rfl rfl ?_
    refine s_getI dX4_oneIn_8 rfl fl_4_31 (S_83 hK) ?_
    refine s_icmp_ge (tgt := 50) dX4_oneIn_11 rfl rfl (fun _ => ?_) (fun _ => ?_)
    · skip
      refine s_pick [2] rfl ?_
      exact sm_exit (fun f h => h)
    · skip
      refine s_aload_n 0 dX4_oneIn_14 rfl rfl ?_
      refine s_iload 3 dX4_oneIn_15 rfl rfl ?_
      refine s_iload_n 1 dX4_oneIn_17 rfl rfl ?_
      refine s_callV2_i0 dX4_oneIn_18 rfl lkV_RX4_35 (S_83 hK) (Nat.le_of_ble_eq_true rfl) (Nat.le_of_ble_eq_true rfl) (Nat.le_of_ble_eq_true rfl) (ct_x4_isKnown hK) (fun r3 => ?_)
      refine s_if_eq (tgt := 44) dX4_oneIn_21 rfl rfl (fun _ => ?_) (fun _ => ?_)
      · skip
        refine s_iincL 3 (c := 1) (fun v4 => [(4, .int v4), (0, .ref (X.1 + 83)), (1, .int c1), (2, .long w2)]) dX4_oneIn_44 rfl rfl cI_1 (by decide) (fun _ => rfl) (fun v4 => ?_)
        refine s_goto (tgt := 5) dX4_oneIn_47 rfl ?_
        refine s_pick [1, 2, 3, 0] rfl ?_
        exact ih w2 v4
      · skip
        refine s_ldc2 (v := 1000000000000000) dX4_oneIn_24 rfl kl_4_45c ?_
        refine s_lload_n 2 dX4_oneIn_27 rfl rfl ?_
        refine s_aload_n 0 dX4_oneIn_28 rfl rfl ?_
        refine s_getR 85 dX4_oneIn_29 rfl fl_4_15 rfl (S_83 hK) (R_83_2 hK) ?_
        refine s_iload 3 dX4_oneIn_32 rfl rfl ?_
        refine sm_ck (fun g5 => ?_)
        refine s_iald dX4_oneIn_34 rfl (S_85 hK) g5 ?_
        refine s_callS1_i0 dX4_oneIn_35 rfl lkS_RX4_47 (Nat.le_of_ble_eq_true rfl) (Nat.le_of_ble_eq_true rfl) (Nat.le_of_ble_eq_true rfl) ct_j6_bitCount_0f7a4 (fun r6 => ?_)
        refine s_i2l dX4_oneIn_38 rfl ?_
        refine s_lmul dX4_oneIn_39 rfl ?_
        refine s_mminL dX4_oneIn_40 rfl lkw_4_53 lk_mminL (Nat.le_of_ble_eq_true rfl) (Nat.le_of_ble_eq_true rfl) (Nat.le_of_ble_eq_true rfl) ?_
        refine s_lstore_nL (fun v7 => [(2, .long v7), (0, .ref (X.1 + 83)), (1, .int c1), (4, .int w4)]) dX4_oneIn_43 rfl (by decide) (fun _ => rfl) (fun v7 => ?_)
        refine s_iincL 3 (c := 1) (fun v8 => [(4, .int v8), (2, .long v7), (0, .ref (X.1 + 83)), (1, .int c1)]) dX4_oneIn_44 rfl rfl cI_1 (by decide) (fun _ => rfl) (fun v8 => ?_)
        refine s_goto (tgt := 5) dX4_oneIn_47 rfl ?_
        refine s_pick [2, 3, 1, 0] rfl ?_
        exact ih v7 v8
theorem ct_x4_oneIn {X : WX} {p1 : Int32} {I : MI} {L : ML} {R : MR} {S : MS} (hK : okr R S) : Ct X yX4_oneIn cX4_oneIn 5 (some .long) 1 25 [.ref (X.1 + 83), .int p1] (I, L, R, S) (x4_oneIn p1 I) (fun r => (some (.long r), (I, L, R, S))) := by
  refine Ct.of (by decide) (Nat.le_of_ble_eq_true rfl) [(0, .ref (X.1 + 83)), (1, .int p1)] rfl ?_
  unfold x4_oneIn
  refine s_lconst (v := 1) dX4_oneIn_0 rfl rfl ?_
  refine s_lstore_nL (fun v1 => [(2, .long v1), (0, .ref (X.1 + 83)), (1, .int p1)]) dX4_oneIn_1 rfl (by decide) (fun _ => rfl) (fun v1 => ?_)
  refine s_iconst (v := 0) dX4_oneIn_2 rfl cI_0 ?_
  refine s_istoreL (fun v2 => [(4, .int v2), (2, .long v1), (0, .ref (X.1 + 83)), (1, .int p1)]) dX4_oneIn_3 rfl (by decide) (fun _ => rfl) (fun v2 => ?_)
  refine s_pick [2, 3, 1, 0] rfl ?_
  refine sm_reg (x4_oneIn_L5_ok hK FU v1 v2) (fun e9 => ?_)
  refine s_lload_n 0 dX4_oneIn_50 rfl rfl ?_
  exact s_lret dX4_oneIn_51 rfl (fun f h => h)
noncomputable def x10_chance (p1 : Int32) (I : MI) : Option (Int64) :=
b1 (x4_oneIn p1 I) fun r1 =>
some r1
theorem ct_x10_chance {X : WX} {p1 : Int32} {I : MI} {L : ML} {R : MR} {S : MS} (hK : okr R S) : Ct X yX10_chance cX10_chance 2 (some .long) 2 49 [.ref (X.1 + 0), .int p1] (I, L, R, S) (x10_chance p1 I) (fun r => (some (.long r), (I, L, R, S))) := by
  refine Ct.of (by decide) (Nat.le_of_ble_eq_true rfl) [(0, .ref (X.1 + 0)), (1, .int p1)] rfl ?_
  unfold x10_chance
  refine s_aload_n 0 dX10_chance_0 rfl rfl ?_
  refine s_getR 83 dX10_chance_1 rfl fl_10_79 rfl (S_0 hK) (R_0_11 hK) ?_
  refine s_iload_n 1 dX10_chance_4 rfl rfl ?_
  refine s_callV1_l0 dX10_chance_5 rfl lkV_RX10_334 (S_83 hK) (Nat.le_of_ble_eq_true rfl) (Nat.le_of_ble_eq_true rfl) (Nat.le_of_ble_eq_true rfl) (ct_x4_oneIn hK) (fun r1 => ?_)
  exact s_lret dX10_chance_8 rfl (fun f h => h)
noncomputable def x10_image (p1 : Int32) (I : MI) (L : ML) (R : MR) (S : MS) : Option (Int32 × MI × ML × MR × MS) :=
if p1 < 0 then (
some ((-1 : Int32), I, L, R, S)) else
if p1 < 3 then (
ck (okr R S) <|
ck (vp_in p1 3) <|
if (R 61 (ix p1)).isNone = true then (
al (7, 12) I L R S fun o_3 I4 L5 R6 S7 =>
b4 (x7_init o_3 I4 L5 R6 S7) fun I8 L9 R10 S11 =>
ck (okr R10 S11) <|
ck (S11[o_3]? = some (7, 12)) <|
ck (vp_in p1 3) <|
lt (wR R10 61 (ix p1) (some o_3)) fun R15 =>
ck (okr R15 S11) <|
ck (vp_in p1 3) <|
b1 (R15 61 (ix p1)) fun q_18 =>
ck (isSt R15 S11 q_18) <|
ck (S11[q_18]? = some (7, 12)) <|
b1 (x7_copyAll q_18 47 I8) fun I21 =>
ck (vp_in p1 3) <|
lt (wI I21 62 (ix p1) (zb (1 : Int32))) fun I23 =>
b1 (R15 27 0) fun t_25 =>
ck (isT t_25) <|
b1 (x10_afloatSet t_25 I23) fun r28 =>
b1 (j6_bitCount_0f7a4 r28 I23) fun r29 =>
some (r29, I23, L9, R15, S11)) else
ck (vp_in p1 3) <|
b1 (R 61 (ix p1)) fun q_31 =>
ck (isSt R S q_31) <|
ck (S[q_31]? = some (7, 12)) <|
b1 (x7_copyAll q_31 47 I) fun I34 =>
ck (vp_in p1 3) <|
lt (wI I34 62 (ix p1) (zb (1 : Int32))) fun I36 =>
b1 (R 27 0) fun t_38 =>
ck (isT t_38) <|
b1 (x10_afloatSet t_38 I36) fun r41 =>
b1 (j6_bitCount_0f7a4 r41 I36) fun r42 =>
some (r42, I36, L, R, S)) else
some ((-1 : Int32), I, L, R, S)
theorem ct_x10_image {X : WX} {p1 : Int32} {I : MI} {L : ML} {R : MR} {S : MS} : Ct X yX10_image cX10_image 2 (some .int) 3 102 [.ref (X.1 + 0), .int p1] (I, L, R, S) (x10_image p1 I L R S) (fun r => (some (.int r.1), (r.2.1, r.2.2.1, r.2.2.2.1, r.2.2.2.2))) := by
  refine Ct.of (by decide) (Nat.le_of_ble_eq_true rfl) [(0, .ref (X.1 + 0)), (1, .int p1)] rfl ?_
  unfold x10_image
  refine s_iload_n 1 dX10_image_0 rfl rfl ?_
  refine s_if_lt (tgt := 9) dX10_image_1 rfl rfl (fun _ => ?_) (fun _ => ?_)
  · skip
    refine s_iconst (v := (-1)) dX10_image_9 rfl cI_m1 ?_
    exact s_iret dX10_image_10 rfl (fun f h => h)
  · skip
    refine s_iload_n 1 dX10_image_4 rfl rfl ?_
    refine s_iconst (v := 3) dX10_image_5 rfl cI_3 ?_
    refine s_icmp_lt (tgt := 11) dX10_image_6 rfl rfl (fun _ => ?_) (fun _ => ?_)
    · skip
      refine s_aload_n 0 dX10_image_11 rfl rfl ?_
      refine sm_ck (fun g1 => ?_)
      refine s_getR 61 dX10_image_12 rfl fl_10_50 rfl (S_0 g1) (R_0_7 g1) ?_
      refine s_iload_n 1 dX10_image_15 rfl rfl ?_
      refine sm_ck (fun g2 => ?_)
      refine s_aaldN (tgt := 33) dX10_image_16 dX10_image_17 rfl rfl (S_61 g1) g2 (fun _ => ?_) (fun _ _ => ?_)
      · skip
        refine s_aload_n 0 dX10_image_20 rfl rfl ?_
        refine s_getR 61 dX10_image_21 rfl fl_10_50 rfl (S_0 g1) (R_0_7 g1) ?_
        refine s_iload_n 1 dX10_image_24 rfl rfl ?_
        refine s_newL dX10_image_25 rfl nl_10_36 (fun o_3 I4 L5 R6 S7 => ?_)
        refine s_dup dX10_image_28 rfl rfl ?_
        refine s_callI0_v3 dX10_image_29 rfl lkI_RX10_38 (Nat.le_of_ble_eq_true rfl) (Nat.le_of_ble_eq_true rfl) (Nat.le_of_ble_eq_true rfl) ct_x7_init (fun I8 L9 R10 S11 => ?_)
        refine sm_ck (fun g12 => ?_)
        refine sm_ck (fun g13 => ?_)
        refine sm_ck (fun g14 => ?_)
        refine s_aastL dX10_image_32 rfl (S_61 g12) g13 g14 (fun R15 => ?_)
        refine s_aload_n 0 dX10_image_33 rfl rfl ?_
        refine sm_ck (fun g16 => ?_)
        refine s_getR 61 dX10_image_34 rfl fl_10_50 rfl (S_0 g16) (R_0_7 g16) ?_
        refine s_iload_n 1 dX10_image_37 rfl rfl ?_
        refine sm_ck (fun g17 => ?_)
        refine s_aald dX10_image_38 rfl (S_61 g16) g17 (fun q_18 h19 => ?_)
        refine s_aload_n 0 dX10_image_39 rfl rfl ?_
        refine s_getR 47 dX10_image_40 rfl fl_10_39 rfl (S_0 g16) (R_0_5 g16) ?_
        refine sm_ck (fun g20 => ?_)
        refine sm_ck (fun g22 => ?_)
        refine s_callV1_v1 dX10_image_43 rfl lkV_RX10_338 g22 (Nat.le_of_ble_eq_true rfl) (Nat.le_of_ble_eq_true rfl) (Nat.le_of_ble_eq_true rfl) (ct_x7_copyAll g16 g20 (st_47 g16)) (fun I21 => ?_)
        refine s_aload_n 0 dX10_image_46 rfl rfl ?_
        refine s_getR 62 dX10_image_47 rfl fl_10_54 rfl (S_0 g16) (R_0_8 g16) ?_
        refine s_iload_n 1 dX10_image_50 rfl rfl ?_
        refine s_iconst (v := 1) dX10_image_51 rfl cI_1 ?_
        refine sm_ck (fun g24 => ?_)
        refine s_zastL dX10_image_52 rfl (S_62 g16) g24 (fun I23 => ?_)
        refine s_aload_n 0 dX10_image_53 rfl rfl ?_
        refine sm_b1 (fun t_25 h26 => ?_)
        refine sm_ck (fun g27 => ?_)
        refine s_callV0_i0 dX10_image_54 rfl lkV_RX10_281 (S_0 g16) (Nat.le_of_ble_eq_true rfl) (Nat.le_of_ble_eq_true rfl) (Nat.le_of_ble_eq_true rfl) (ct_x10_afloatSet g16 (⟨h26, g27⟩)) (fun r28 => ?_)
        refine s_callS1_i0 dX10_image_57 rfl lkS_RX10_288 (Nat.le_of_ble_eq_true rfl) (Nat.le_of_ble_eq_true rfl) (Nat.le_of_ble_eq_true rfl) ct_j6_bitCount_0f7a4 (fun r29 => ?_)
        exact s_iret dX10_image_60 rfl (fun f h => h)
      · skip
        refine s_aload_n 0 dX10_image_33 rfl rfl ?_
        refine s_getR 61 dX10_image_34 rfl fl_10_50 rfl (S_0 g1) (R_0_7 g1) ?_
        refine s_iload_n 1 dX10_image_37 rfl rfl ?_
        refine sm_ck (fun g30 => ?_)
        refine s_aald dX10_image_38 rfl (S_61 g1) g30 (fun q_31 h32 => ?_)
        refine s_aload_n 0 dX10_image_39 rfl rfl ?_
        refine s_getR 47 dX10_image_40 rfl fl_10_39 rfl (S_0 g1) (R_0_5 g1) ?_
        refine sm_ck (fun g33 => ?_)
        refine sm_ck (fun g35 => ?_)
        refine s_callV1_v1 dX10_image_43 rfl lkV_RX10_338 g35 (Nat.le_of_ble_eq_true rfl) (Nat.le_of_ble_eq_true rfl) (Nat.le_of_ble_eq_true rfl) (ct_x7_copyAll g1 g33 (st_47 g1)) (fun I34 => ?_)
        refine s_aload_n 0 dX10_image_46 rfl rfl ?_
        refine s_getR 62 dX10_image_47 rfl fl_10_54 rfl (S_0 g1) (R_0_8 g1) ?_
        refine s_iload_n 1 dX10_image_50 rfl rfl ?_
        refine s_iconst (v := 1) dX10_image_51 rfl cI_1 ?_
        refine sm_ck (fun g37 => ?_)
        refine s_zastL dX10_image_52 rfl (S_62 g1) g37 (fun I36 => ?_)
        refine s_aload_n 0 dX10_image_53 rfl rfl ?_
        refine sm_b1 (fun t_38 h39 => ?_)
        refine sm_ck (fun g40 => ?_)
        refine s_callV0_i0 dX10_image_54 rfl lkV_RX10_281 (S_0 g1) (Nat.le_of_ble_eq_true rfl) (Nat.le_of_ble_eq_true rfl) (Nat.le_of_ble_eq_true rfl) (ct_x10_afloatSet g1 (⟨h39, g40⟩)) (fun r41 => ?_)
        refine s_callS1_i0 dX10_image_57 rfl lkS_RX10_288 (Nat.le_of_ble_eq_true rfl) (Nat.le_of_ble_eq_true rfl) (Nat.le_of_ble_eq_true rfl) ct_j6_bitCount_0f7a4 (fun r42 => ?_)
        exact s_iret dX10_image_60 rfl (fun f h => h)
    · skip
      refine s_iconst (v := (-1)) dX10_image_9 rfl cI_m1 ?_
      exact s_iret dX10_image_10 rfl (fun f h => h)
noncomputable def x10_back (p1 : Int32) (I : MI) (L : ML) (R : MR) (S : MS) : Option (Int32 × MI × ML × MR × MS) :=
if p1 < 0 then (
some ((-1 : Int32), I, L, R, S)) else
if p1 < 3 then (
ck (okr R S) <|
ck (vp_in p1 3) <|
if (I 62 (ix p1)) = 0 then (
some ((-1 : Int32), I, L, R, S)) else
ck (vp_in p1 3) <|
if (R 61 (ix p1)).isNone = true then (
some ((-1 : Int32), I, L, R, S)) else
ck (vp_in p1 3) <|
b1 (R 61 (ix p1)) fun q_5 =>
ck (isSt R S q_5) <|
b1 (x7_copyAll 47 q_5 I) fun I8 =>
b4 (x2_start 47 I8 L R S) fun I9 L10 R11 S12 =>
ck (okr R11 S12) <|
b1 (R11 27 0) fun t_13 =>
ck (isT t_13) <|
b1 (x10_afloatSet t_13 I9) fun r17 =>
b1 (j6_bitCount_0f7a4 r17 I9) fun r18 =>
some (r18, I9, L10, R11, S12)) else
some ((-1 : Int32), I, L, R, S)
theorem ct_x10_back {X : WX} {p1 : Int32} {I : MI} {L : ML} {R : MR} {S : MS} : Ct X yX10_back cX10_back 2 (some .int) 4 123 [.ref (X.1 + 0), .int p1] (I, L, R, S) (x10_back p1 I L R S) (fun r => (some (.int r.1), (r.2.1, r.2.2.1, r.2.2.2.1, r.2.2.2.2))) := by
  refine Ct.of (by decide) (Nat.le_of_ble_eq_true rfl) [(0, .ref (X.1 + 0)), (1, .int p1)] rfl ?_
  unfold x10_back
  refine s_iload_n 1 dX10_back_0 rfl rfl ?_
  refine s_if_lt (tgt := 27) dX10_back_1 rfl rfl (fun _ => ?_) (fun _ => ?_)
  · skip
    refine s_iconst (v := (-1)) dX10_back_27 rfl cI_m1 ?_
    exact s_iret dX10_back_28 rfl (fun f h => h)
  · skip
    refine s_iload_n 1 dX10_back_4 rfl rfl ?_
    refine s_iconst (v := 3) dX10_back_5 rfl cI_3 ?_
    refine s_icmp_ge (tgt := 27) dX10_back_6 rfl rfl (fun _ => ?_) (fun _ => ?_)
    · skip
      refine s_iconst (v := (-1)) dX10_back_27 rfl cI_m1 ?_
      exact s_iret dX10_back_28 rfl (fun f h => h)
    · skip
      refine s_aload_n 0 dX10_back_9 rfl rfl ?_
      refine sm_ck (fun g1 => ?_)
      refine s_getR 62 dX10_back_10 rfl fl_10_54 rfl (S_0 g1) (R_0_8 g1) ?_
      refine s_iload_n 1 dX10_back_13 rfl rfl ?_
      refine sm_ck (fun g2 => ?_)
      refine s_zald dX10_back_14 rfl (S_62 g1) g2 ?_
      refine s_if_eq (tgt := 27) dX10_back_15 rfl rfl (fun _ => ?_) (fun _ => ?_)
      · skip
        refine s_iconst (v := (-1)) dX10_back_27 rfl cI_m1 ?_
        exact s_iret dX10_back_28 rfl (fun f h => h)
      · skip
        refine s_aload_n 0 dX10_back_18 rfl rfl ?_
        refine s_getR 61 dX10_back_19 rfl fl_10_50 rfl (S_0 g1) (R_0_7 g1) ?_
        refine s_iload_n 1 dX10_back_22 rfl rfl ?_
        refine sm_ck (fun g3 => ?_)
        refine s_aaldN (tgt := 29) dX10_back_23 dX10_back_24 rfl rfl (S_61 g1) g3 (fun _ => ?_) (fun _ _ => ?_)
        · skip
          refine s_iconst (v := (-1)) dX10_back_27 rfl cI_m1 ?_
          exact s_iret dX10_back_28 rfl (fun f h => h)
        · skip
          refine s_aload_n 0 dX10_back_29 rfl rfl ?_
          refine s_getR 47 dX10_back_30 rfl fl_10_39 rfl (S_0 g1) (R_0_5 g1) ?_
          refine s_aload_n 0 dX10_back_33 rfl rfl ?_
          refine s_getR 61 dX10_back_34 rfl fl_10_50 rfl (S_0 g1) (R_0_7 g1) ?_
          refine s_iload_n 1 dX10_back_37 rfl rfl ?_
          refine sm_ck (fun g4 => ?_)
          refine s_aald dX10_back_38 rfl (S_61 g1) g4 (fun q_5 h6 => ?_)
          refine sm_ck (fun g7 => ?_)
          refine s_callV1_v1 dX10_back_39 rfl lkV_RX10_338 (S_47 g1) (Nat.le_of_ble_eq_true rfl) (Nat.le_of_ble_eq_true rfl) (Nat.le_of_ble_eq_true rfl) (ct_x7_copyAll g1 (st_47 g1) g7) (fun I8 => ?_)
          refine s_aload_n 0 dX10_back_42 rfl rfl ?_
          refine s_getR 59 dX10_back_43 rfl fl_10_46 rfl (S_0 g1) (R_0_6 g1) ?_
          refine s_aload_n 0 dX10_back_46 rfl rfl ?_
          refine s_getR 47 dX10_back_47 rfl fl_10_39 rfl (S_0 g1) (R_0_5 g1) ?_
          refine s_callV1_v3 dX10_back_50 rfl lkV_RX10_93 (S_59 g1) (Nat.le_of_ble_eq_true rfl) (Nat.le_of_ble_eq_true rfl) (Nat.le_of_ble_eq_true rfl) ct_x2_start (fun I9 L10 R11 S12 => ?_)
          refine s_aload_n 0 dX10_back_53 rfl rfl ?_
          refine sm_ck (fun g15 => ?_)
          refine sm_b1 (fun t_13 h14 => ?_)
          refine sm_ck (fun g16 => ?_)
          refine s_callV0_i0 dX10_back_54 rfl lkV_RX10_281 (S_0 g15) (Nat.le_of_ble_eq_true rfl) (Nat.le_of_ble_eq_true rfl) (Nat.le_of_ble_eq_true rfl) (ct_x10_afloatSet g15 (⟨h14, g16⟩)) (fun r17 => ?_)
          refine s_callS1_i0 dX10_back_57 rfl lkS_RX10_288 (Nat.le_of_ble_eq_true rfl) (Nat.le_of_ble_eq_true rfl) (Nat.le_of_ble_eq_true rfl) ct_j6_bitCount_0f7a4 (fun r18 => ?_)
          exact s_iret dX10_back_60 rfl (fun f h => h)
noncomputable def x10_about (t : Nat) (p1 : Int32) (I : MI) : Option (Int32) :=
if p1 = 0 then (
some (I t 0)) else
if p1 = 1 then (
some (I t 1)) else
if p1 = 2 then (
some (I t 4)) else
if p1 = 3 then (
b1 (x10_afloatSet t I) fun r5 =>
b1 (j6_bitCount_0f7a4 r5 I) fun r6 =>
some r6) else
if p1 = 4 then (
some (I t 11)) else
if p1 = 5 then (
some (I t 18)) else
if p1 = 6 then (
some (I 47 11)) else
if p1 = 7 then (
some (I 59 2)) else
if p1 = 8 then (
some (I 59 3)) else
if p1 = 9 then (
some (I 83 6)) else
if p1 = 10 then (
some (I 0 12)) else
if p1 = 11 then (
some (I 0 1)) else
if p1 = 12 then (
some (I (t + 13) 5)) else
if p1 = 13 then (
some (I 0 14)) else
some (-1 : Int32)
theorem ct_x10_about {X : WX} {t : Nat} {p1 : Int32} {I : MI} {L : ML} {R : MR} {S : MS} (hK : okr R S) (ht : R 27 0 = some t ∧ isT t) : Ct X yX10_about cX10_about 2 (some .int) 3 64 [.ref (X.1 + 0), .int p1] (I, L, R, S) (x10_about t p1 I) (fun r => (some (.int r), (I, L, R, S))) := by
  refine Ct.of (by decide) (Nat.le_of_ble_eq_true rfl) [(0, .ref (X.1 + 0)), (1, .int p1)] rfl ?_
  unfold x10_about
  refine s_iload_n 1 dX10_about_0 rfl rfl ?_
  refine sm_ite (fun h1 => ?_) (fun h1 => ?_)
  · skip
    refine s_tin (tgt := 72) dX10_about_1 (by rw [h1]; try decide) (by rw [h1]; try decide) (by rw [h1]; try rfl) rfl ?_
    refine s_aload_n 0 dX10_about_72 rfl rfl ?_
    refine s_getR 27 dX10_about_73 rfl fl_10_32 rfl (S_0 hK) (R_0_4 hK) ?_
    refine s_getR t dX10_about_76 rfl fl_10_87 rfl (S_27 hK) ht.1 ?_
    refine s_getI dX10_about_79 rfl fl_10_341 (tS_0 hK ht.2) ?_
    exact s_iret dX10_about_82 rfl (fun f h => h)
  refine sm_ite (fun h2 => ?_) (fun h2 => ?_)
  · skip
    refine s_tin (tgt := 83) dX10_about_1 (by rw [h2]; try decide) (by rw [h2]; try decide) (by rw [h2]; try rfl) rfl ?_
    refine s_aload_n 0 dX10_about_83 rfl rfl ?_
    refine s_getR 27 dX10_about_84 rfl fl_10_32 rfl (S_0 hK) (R_0_4 hK) ?_
    refine s_getR t dX10_about_87 rfl fl_10_87 rfl (S_27 hK) ht.1 ?_
    refine s_getI dX10_about_90 rfl fl_10_344 (tS_0 hK ht.2) ?_
    exact s_iret dX10_about_93 rfl (fun f h => h)
  refine sm_ite (fun h3 => ?_) (fun h3 => ?_)
  · skip
    refine s_tin (tgt := 94) dX10_about_1 (by rw [h3]; try decide) (by rw [h3]; try decide) (by rw [h3]; try rfl) rfl ?_
    refine s_aload_n 0 dX10_about_94 rfl rfl ?_
    refine s_getR 27 dX10_about_95 rfl fl_10_32 rfl (S_0 hK) (R_0_4 hK) ?_
    refine s_getR t dX10_about_98 rfl fl_10_87 rfl (S_27 hK) ht.1 ?_
    refine s_getI dX10_about_101 rfl fl_10_115 (tS_0 hK ht.2) ?_
    exact s_iret dX10_about_104 rfl (fun f h => h)
  refine sm_ite (fun h4 => ?_) (fun h4 => ?_)
  · skip
    refine s_tin (tgt := 105) dX10_about_1 (by rw [h4]; try decide) (by rw [h4]; try decide) (by rw [h4]; try rfl) rfl ?_
    refine s_aload_n 0 dX10_about_105 rfl rfl ?_
    refine s_callV0_i0 dX10_about_106 rfl lkV_RX10_281 (S_0 hK) (Nat.le_of_ble_eq_true rfl) (Nat.le_of_ble_eq_true rfl) (Nat.le_of_ble_eq_true rfl) (ct_x10_afloatSet hK ht) (fun r5 => ?_)
    refine s_callS1_i0 dX10_about_109 rfl lkS_RX10_288 (Nat.le_of_ble_eq_true rfl) (Nat.le_of_ble_eq_true rfl) (Nat.le_of_ble_eq_true rfl) ct_j6_bitCount_0f7a4 (fun r6 => ?_)
    exact s_iret dX10_about_112 rfl (fun f h => h)
  refine sm_ite (fun h7 => ?_) (fun h7 => ?_)
  · skip
    refine s_tin (tgt := 113) dX10_about_1 (by rw [h7]; try decide) (by rw [h7]; try decide) (by rw [h7]; try rfl) rfl ?_
    refine s_aload_n 0 dX10_about_113 rfl rfl ?_
    refine s_getR 27 dX10_about_114 rfl fl_10_32 rfl (S_0 hK) (R_0_4 hK) ?_
    refine s_getR t dX10_about_117 rfl fl_10_87 rfl (S_27 hK) ht.1 ?_
    refine s_getI dX10_about_120 rfl fl_10_207 (tS_0 hK ht.2) ?_
    exact s_iret dX10_about_123 rfl (fun f h => h)
  refine sm_ite (fun h8 => ?_) (fun h8 => ?_)
  · skip
    refine s_tin (tgt := 124) dX10_about_1 (by rw [h8]; try decide) (by rw [h8]; try decide) (by rw [h8]; try rfl) rfl ?_
    refine s_aload_n 0 dX10_about_124 rfl rfl ?_
    refine s_getR 27 dX10_about_125 rfl fl_10_32 rfl (S_0 hK) (R_0_4 hK) ?_
    refine s_getR t dX10_about_128 rfl fl_10_87 rfl (S_27 hK) ht.1 ?_
    refine s_getI dX10_about_131 rfl fl_10_217 (tS_0 hK ht.2) ?_
    exact s_iret dX10_about_134 rfl (fun f h => h)
  refine sm_ite (fun h9 => ?_) (fun h9 => ?_)
  · skip
    refine s_tin (tgt := 135) dX10_about_1 (by rw [h9]; try decide) (by rw [h9]; try decide) (by rw [h9]; try rfl) rfl ?_
    refine s_aload_n 0 dX10_about_135 rfl rfl ?_
    refine s_getR 47 dX10_about_136 rfl fl_10_39 rfl (S_0 hK) (R_0_5 hK) ?_
    refine s_getI dX10_about_139 rfl fl_10_347 (S_47 hK) ?_
    exact s_iret dX10_about_142 rfl (fun f h => h)
  refine sm_ite (fun h10 => ?_) (fun h10 => ?_)
  · skip
    refine s_tin (tgt := 143) dX10_about_1 (by rw [h10]; try decide) (by rw [h10]; try decide) (by rw [h10]; try rfl) rfl ?_
    refine s_aload_n 0 dX10_about_143 rfl rfl ?_
    refine s_getR 59 dX10_about_144 rfl fl_10_46 rfl (S_0 hK) (R_0_6 hK) ?_
    refine s_getI dX10_about_147 rfl fl_10_350 (S_59 hK) ?_
    exact s_iret dX10_about_150 rfl (fun f h => h)
  refine sm_ite (fun h11 => ?_) (fun h11 => ?_)
  · skip
    refine s_tin (tgt := 151) dX10_about_1 (by rw [h11]; try decide) (by rw [h11]; try decide) (by rw [h11]; try rfl) rfl ?_
    refine s_aload_n 0 dX10_about_151 rfl rfl ?_
    refine s_getR 59 dX10_about_152 rfl fl_10_46 rfl (S_0 hK) (R_0_6 hK) ?_
    refine s_getI dX10_about_155 rfl fl_10_353 (S_59 hK) ?_
    exact s_iret dX10_about_158 rfl (fun f h => h)
  refine sm_ite (fun h12 => ?_) (fun h12 => ?_)
  · skip
    refine s_tin (tgt := 159) dX10_about_1 (by rw [h12]; try decide) (by rw [h12]; try decide) (by rw [h12]; try rfl) rfl ?_
    refine s_aload_n 0 dX10_about_159 rfl rfl ?_
    refine s_getR 83 dX10_about_160 rfl fl_10_79 rfl (S_0 hK) (R_0_11 hK) ?_
    refine s_getI dX10_about_163 rfl fl_10_356 (S_83 hK) ?_
    exact s_iret dX10_about_166 rfl (fun f h => h)
  refine sm_ite (fun h13 => ?_) (fun h13 => ?_)
  · skip
    refine s_tin (tgt := 167) dX10_about_1 (by rw [h13]; try decide) (by rw [h13]; try decide) (by rw [h13]; try rfl) rfl ?_
    refine s_aload_n 0 dX10_about_167 rfl rfl ?_
    refine s_getI dX10_about_168 rfl fl_10_323 (S_0 hK) ?_
    exact s_iret dX10_about_171 rfl (fun f h => h)
  refine sm_ite (fun h14 => ?_) (fun h14 => ?_)
  · skip
    refine s_tin (tgt := 172) dX10_about_1 (by rw [h14]; try decide) (by rw [h14]; try decide) (by rw [h14]; try rfl) rfl ?_
    refine s_aload_n 0 dX10_about_172 rfl rfl ?_
    refine s_getI dX10_about_173 rfl fl_10_97 (S_0 hK) ?_
    exact s_iret dX10_about_176 rfl (fun f h => h)
  refine sm_ite (fun h15 => ?_) (fun h15 => ?_)
  · skip
    refine s_tin (tgt := 177) dX10_about_1 (by rw [h15]; try decide) (by rw [h15]; try decide) (by rw [h15]; try rfl) rfl ?_
    refine s_aload_n 0 dX10_about_177 rfl rfl ?_
    refine s_getR 27 dX10_about_178 rfl fl_10_32 rfl (S_0 hK) (R_0_4 hK) ?_
    refine s_getR t dX10_about_181 rfl fl_10_87 rfl (S_27 hK) ht.1 ?_
    refine s_getR (t + 13) dX10_about_184 rfl fl_10_359 rfl (tS_0 hK ht.2) (tR_0_19 hK ht.2) ?_
    refine s_getI dX10_about_187 rfl fl_10_363 (tS_13 hK ht.2) ?_
    exact s_iret dX10_about_190 rfl (fun f h => h)
  refine sm_ite (fun h16 => ?_) (fun h16 => ?_)
  · skip
    refine s_tin (tgt := 191) dX10_about_1 (by rw [h16]; try decide) (by rw [h16]; try decide) (by rw [h16]; try rfl) rfl ?_
    refine s_aload_n 0 dX10_about_191 rfl rfl ?_
    refine s_getI dX10_about_192 rfl fl_10_112 (S_0 hK) ?_
    exact s_iret dX10_about_195 rfl (fun f h => h)
  have hsw : ¬ (p1).toInt = 0 ∧ ¬ (p1).toInt = 1 ∧ ¬ (p1).toInt = 2 ∧ ¬ (p1).toInt = 3 ∧ ¬ (p1).toInt = 4 ∧ ¬ (p1).toInt = 5 ∧ ¬ (p1).toInt = 6 ∧ ¬ (p1).toInt = 7 ∧ ¬ (p1).toInt = 8 ∧ ¬ (p1).toInt = 9 ∧ ¬ (p1).toInt = 10 ∧ ¬ (p1).toInt = 11 ∧ ¬ (p1).toInt = 12 ∧ ¬ (p1).toInt = 13 := ⟨lv_neT h1 (a := 0) rfl, lv_neT h2 (a := 1) rfl, lv_neT h3 (a := 2) rfl, lv_neT h4 (a := 3) rfl, lv_neT h7 (a := 4) rfl, lv_neT h8 (a := 5) rfl, lv_neT h9 (a := 6) rfl, lv_neT h10 (a := 7) rfl, lv_neT h11 (a := 8) rfl, lv_neT h12 (a := 9) rfl, lv_neT h13 (a := 10) rfl, lv_neT h14 (a := 11) rfl, lv_neT h15 (a := 12) rfl, lv_neT h16 (a := 13) rfl⟩
  refine s_tout (tgt := 196) dX10_about_1 (by omega) rfl ?_
  refine s_iconst (v := (-1)) dX10_about_196 rfl cI_m1 ?_
  exact s_iret dX10_about_197 rfl (fun f h => h)
noncomputable def x11_init (o0 : Nat) (I : MI) (L : ML) (R : MR) (S : MS) : Option (MI × ML × MR × MS) :=
al (13, 1600) I L R S fun o_1 I2 L3 R4 S5 =>
ck (S5[o0]? = some (11, 95)) <|
lt (wR R4 o0 0 (some o_1)) fun R7 =>
lt (wI I2 o0 3 (-1 : Int32)) fun I8 =>
al (13, 3520) I8 L3 R7 S5 fun o_9 I10 L11 R12 S13 =>
ck (S13[o0]? = some (11, 95)) <|
lt (wR R12 o0 10 (some o_9)) fun R15 =>
al (13, 3520) I10 L11 R15 S13 fun o_16 I17 L18 R19 S20 =>
ck (S20[o0]? = some (11, 95)) <|
lt (wR R19 o0 11 (some o_16)) fun R22 =>
al (13, 11) I17 L18 R22 S20 fun o_23 I24 L25 R26 S27 =>
ck (S27[o0]? = some (11, 95)) <|
lt (wR R26 o0 12 (some o_23)) fun R29 =>
al (13, 3520) I24 L25 R29 S27 fun o_30 I31 L32 R33 S34 =>
ck (S34[o0]? = some (11, 95)) <|
lt (wR R33 o0 13 (some o_30)) fun R36 =>
al (13, 3520) I31 L32 R36 S34 fun o_37 I38 L39 R40 S41 =>
ck (S41[o0]? = some (11, 95)) <|
lt (wR R40 o0 14 (some o_37)) fun R43 =>
al (13, 11) I38 L39 R43 S41 fun o_44 I45 L46 R47 S48 =>
ck (S48[o0]? = some (11, 95)) <|
lt (wR R47 o0 15 (some o_44)) fun R50 =>
al (13, 160) I45 L46 R50 S48 fun o_51 I52 L53 R54 S55 =>
ck (S55[o0]? = some (11, 95)) <|
lt (wR R54 o0 16 (some o_51)) fun R57 =>
al (13, 64) I52 L53 R57 S55 fun o_58 I59 L60 R61 S62 =>
ck (S62[o0]? = some (11, 95)) <|
lt (wR R61 o0 17 (some o_58)) fun R64 =>
al (14, 20) I59 L60 R64 S62 fun o_65 I66 L67 R68 S69 =>
ck (S69[o0]? = some (11, 95)) <|
lt (wR R68 o0 24 (some o_65)) fun R71 =>
al (13, 10) I66 L67 R71 S69 fun o_72 I73 L74 R75 S76 =>
ck (S76[o0]? = some (11, 95)) <|
lt (wR R75 o0 25 (some o_72)) fun R78 =>
al (13, 10) I73 L74 R78 S76 fun o_79 I80 L81 R82 S83 =>
ck (S83[o0]? = some (11, 95)) <|
lt (wR R82 o0 26 (some o_79)) fun R85 =>
al (13, 10) I80 L81 R85 S83 fun o_86 I87 L88 R89 S90 =>
ck (S90[o0]? = some (11, 95)) <|
lt (wR R89 o0 27 (some o_86)) fun R92 =>
al (13, 10) I87 L88 R92 S90 fun o_93 I94 L95 R96 S97 =>
ck (S97[o0]? = some (11, 95)) <|
lt (wR R96 o0 28 (some o_93)) fun R99 =>
al (13, 10) I94 L95 R99 S97 fun o_100 I101 L102 R103 S104 =>
ck (S104[o0]? = some (11, 95)) <|
lt (wR R103 o0 29 (some o_100)) fun R106 =>
al (13, 4) I101 L102 R106 S104 fun o_107 I108 L109 R110 S111 =>
ck (S111[o0]? = some (11, 95)) <|
lt (wR R110 o0 30 (some o_107)) fun R113 =>
al (13, 4) I108 L109 R113 S111 fun o_114 I115 L116 R117 S118 =>
ck (S118[o0]? = some (11, 95)) <|
lt (wR R117 o0 31 (some o_114)) fun R120 =>
al (13, 4) I115 L116 R120 S118 fun o_121 I122 L123 R124 S125 =>
ck (S125[o0]? = some (11, 95)) <|
lt (wR R124 o0 32 (some o_121)) fun R127 =>
al (13, 4) I122 L123 R127 S125 fun o_128 I129 L130 R131 S132 =>
ck (S132[o0]? = some (11, 95)) <|
lt (wR R131 o0 33 (some o_128)) fun R134 =>
al (13, 4) I129 L130 R134 S132 fun o_135 I136 L137 R138 S139 =>
ck (S139[o0]? = some (11, 95)) <|
lt (wR R138 o0 34 (some o_135)) fun R141 =>
al (13, 4) I136 L137 R141 S139 fun o_142 I143 L144 R145 S146 =>
ck (S146[o0]? = some (11, 95)) <|
lt (wR R145 o0 35 (some o_142)) fun R148 =>
al (15, 10) I143 L144 R148 S146 fun o_149 I150 L151 R152 S153 =>
ck (S153[o0]? = some (11, 95)) <|
lt (wR R152 o0 36 (some o_149)) fun R155 =>
al (13, 10) I150 L151 R155 S153 fun o_156 I157 L158 R159 S160 =>
ck (S160[o0]? = some (11, 95)) <|
lt (wR R159 o0 37 (some o_156)) fun R162 =>
al (13, 10) I157 L158 R162 S160 fun o_163 I164 L165 R166 S167 =>
ck (S167[o0]? = some (11, 95)) <|
lt (wR R166 o0 38 (some o_163)) fun R169 =>
al (13, 10) I164 L165 R169 S167 fun o_170 I171 L172 R173 S174 =>
ck (S174[o0]? = some (11, 95)) <|
lt (wR R173 o0 39 (some o_170)) fun R176 =>
al (13, 10) I171 L172 R176 S174 fun o_177 I178 L179 R180 S181 =>
ck (S181[o0]? = some (11, 95)) <|
lt (wR R180 o0 40 (some o_177)) fun R183 =>
al (13, 10) I178 L179 R183 S181 fun o_184 I185 L186 R187 S188 =>
ck (S188[o0]? = some (11, 95)) <|
lt (wR R187 o0 41 (some o_184)) fun R190 =>
al (13, 4) I185 L186 R190 S188 fun o_191 I192 L193 R194 S195 =>
ck (S195[o0]? = some (11, 95)) <|
lt (wR R194 o0 42 (some o_191)) fun R197 =>
al (13, 4) I192 L193 R197 S195 fun o_198 I199 L200 R201 S202 =>
ck (S202[o0]? = some (11, 95)) <|
lt (wR R201 o0 43 (some o_198)) fun R204 =>
al (13, 4) I199 L200 R204 S202 fun o_205 I206 L207 R208 S209 =>
ck (S209[o0]? = some (11, 95)) <|
lt (wR R208 o0 44 (some o_205)) fun R211 =>
al (13, 4) I206 L207 R211 S209 fun o_212 I213 L214 R215 S216 =>
ck (S216[o0]? = some (11, 95)) <|
lt (wR R215 o0 45 (some o_212)) fun R218 =>
al (13, 4) I213 L214 R218 S216 fun o_219 I220 L221 R222 S223 =>
ck (S223[o0]? = some (11, 95)) <|
lt (wR R222 o0 46 (some o_219)) fun R225 =>
al (13, 4) I220 L221 R225 S223 fun o_226 I227 L228 R229 S230 =>
ck (S230[o0]? = some (11, 95)) <|
lt (wR R229 o0 47 (some o_226)) fun R232 =>
al (15, 10) I227 L228 R232 S230 fun o_233 I234 L235 R236 S237 =>
ck (S237[o0]? = some (11, 95)) <|
lt (wR R236 o0 48 (some o_233)) fun R239 =>
lt (wI I234 o0 65 (10 : Int32)) fun I240 =>
al (13, 128) I240 L235 R239 S237 fun o_241 I242 L243 R244 S245 =>
ck (S245[o0]? = some (11, 95)) <|
lt (wR R244 o0 66 (some o_241)) fun R247 =>
al (13, 128) I242 L243 R247 S245 fun o_248 I249 L250 R251 S252 =>
ck (S252[o0]? = some (11, 95)) <|
lt (wR R251 o0 67 (some o_248)) fun R254 =>
al (13, 5120) I249 L250 R254 S252 fun o_255 I256 L257 R258 S259 =>
ck (S259[o0]? = some (11, 95)) <|
lt (wR R258 o0 70 (some o_255)) fun R261 =>
al (13, 2048) I256 L257 R261 S259 fun o_262 I263 L264 R265 S266 =>
ck (S266[o0]? = some (11, 95)) <|
lt (wR R265 o0 73 (some o_262)) fun R268 =>
al (13, 16) I263 L264 R268 S266 fun o_269 I270 L271 R272 S273 =>
ck (S273[o0]? = some (11, 95)) <|
lt (wR R272 o0 74 (some o_269)) fun R275 =>
al (13, 16) I270 L271 R275 S273 fun o_276 I277 L278 R279 S280 =>
ck (S280[o0]? = some (11, 95)) <|
lt (wR R279 o0 75 (some o_276)) fun R282 =>
al (13, 16) I277 L278 R282 S280 fun o_283 I284 L285 R286 S287 =>
ck (S287[o0]? = some (11, 95)) <|
lt (wR R286 o0 76 (some o_283)) fun R289 =>
al (13, 16) I284 L285 R289 S287 fun o_290 I291 L292 R293 S294 =>
ck (S294[o0]? = some (11, 95)) <|
lt (wR R293 o0 77 (some o_290)) fun R296 =>
al (13, 16) I291 L292 R296 S294 fun o_297 I298 L299 R300 S301 =>
ck (S301[o0]? = some (11, 95)) <|
lt (wR R300 o0 78 (some o_297)) fun R303 =>
al (13, 16) I298 L299 R303 S301 fun o_304 I305 L306 R307 S308 =>
ck (S308[o0]? = some (11, 95)) <|
lt (wR R307 o0 79 (some o_304)) fun R310 =>
al (13, 4) I305 L306 R310 S308 fun o_311 I312 L313 R314 S315 =>
ck (S315[o0]? = some (11, 95)) <|
lt (wR R314 o0 81 (some o_311)) fun R317 =>
al (13, 4) I312 L313 R317 S315 fun o_318 I319 L320 R321 S322 =>
ck (S322[o0]? = some (11, 95)) <|
lt (wR R321 o0 82 (some o_318)) fun R324 =>
al (13, 40) I319 L320 R324 S322 fun o_325 I326 L327 R328 S329 =>
ck (S329[o0]? = some (11, 95)) <|
lt (wR R328 o0 83 (some o_325)) fun R331 =>
al (13, 36) I326 L327 R331 S329 fun o_332 I333 L334 R335 S336 =>
ck (S336[o0]? = some (11, 95)) <|
lt (wR R335 o0 84 (some o_332)) fun R338 =>
al (13, 30) I333 L334 R338 S336 fun o_339 I340 L341 R342 S343 =>
ck (S343[o0]? = some (11, 95)) <|
lt (wR R342 o0 86 (some o_339)) fun R345 =>
al (13, 30) I340 L341 R345 S343 fun o_346 I347 L348 R349 S350 =>
ck (S350[o0]? = some (11, 95)) <|
lt (wR R349 o0 87 (some o_346)) fun R352 =>
al (13, 30) I347 L348 R352 S350 fun o_353 I354 L355 R356 S357 =>
ck (S357[o0]? = some (11, 95)) <|
lt (wR R356 o0 88 (some o_353)) fun R359 =>
al (13, 30) I354 L355 R359 S357 fun o_360 I361 L362 R363 S364 =>
ck (S364[o0]? = some (11, 95)) <|
lt (wR R363 o0 89 (some o_360)) fun R366 =>
al (13, 30) I361 L362 R366 S364 fun o_367 I368 L369 R370 S371 =>
ck (S371[o0]? = some (11, 95)) <|
lt (wR R370 o0 90 (some o_367)) fun R373 =>
al (15, 3) I368 L369 R373 S371 fun o_374 I375 L376 R377 S378 =>
ck (S378[o0]? = some (11, 95)) <|
lt (wR R377 o0 93 (some o_374)) fun R380 =>
al (13, 384) I375 L376 R380 S378 fun o_381 I382 L383 R384 S385 =>
ck (S385[o0]? = some (11, 95)) <|
lt (wR R384 o0 94 (some o_381)) fun R387 =>
some (I382, L383, R387, S385)
theorem ct_x11_init {X : WX} {o0 : Nat} {I : MI} {L : ML} {R : MR} {S : MS} : Ct X yX11_init cX11_init 1 none 1 20 [.ref (X.1 + o0)] (I, L, R, S) (x11_init o0 I L R S) (fun r => (none, (r.1, r.2.1, r.2.2.1, r.2.2.2))) := by
  refine Ct.of (by decide) (Nat.le_of_ble_eq_true rfl) [(0, .ref (X.1 + o0))] rfl ?_
  unfold x11_init
  refine s_aload_n 0 dX11_init_0 rfl rfl ?_
  refine s_oinit dX11_init_1 rfl lko_11_1 lk_o1 lk_o2 (Nat.le_of_ble_eq_true rfl) (Nat.le_of_ble_eq_true rfl) (Nat.le_of_ble_eq_true rfl) ?_
  refine s_aload_n 0 dX11_init_4 rfl rfl ?_
  refine s_sipush (v := 1600) dX11_init_5 rfl cS_1600 ?_
  refine s_newIL dX11_init_8 rfl ac_I (by decide) rfl (by decide) (fun o_1 I2 L3 R4 S5 => ?_)
  refine sm_ck (fun g6 => ?_)
  refine s_putRFL dX11_init_10 rfl fl_11_7 rfl ⟨_, _, rfl⟩ (Or.inr ⟨_, rfl⟩) g6 (fun R7 => ?_)
  refine s_aload_n 0 dX11_init_13 rfl rfl ?_
  refine s_iconst (v := (-1)) dX11_init_14 rfl cI_m1 ?_
  refine s_putIL dX11_init_15 rfl fl_11_13 g6 (fun I8 => ?_)
  refine s_aload_n 0 dX11_init_18 rfl rfl ?_
  refine s_sipush (v := 3520) dX11_init_19 rfl cS_3520 ?_
  refine s_newIL dX11_init_22 rfl ac_I (by decide) rfl (by decide) (fun o_9 I10 L11 R12 S13 => ?_)
  refine sm_ck (fun g14 => ?_)
  refine s_putRFL dX11_init_24 rfl fl_11_17 rfl ⟨_, _, rfl⟩ (Or.inr ⟨_, rfl⟩) g14 (fun R15 => ?_)
  refine s_aload_n 0 dX11_init_27 rfl rfl ?_
  refine s_sipush (v := 3520) dX11_init_28 rfl cS_3520 ?_
  refine s_newIL dX11_init_31 rfl ac_I (by decide) rfl (by decide) (fun o_16 I17 L18 R19 S20 => ?_)
  refine sm_ck (fun g21 => ?_)
  refine s_putRFL dX11_init_33 rfl fl_11_20 rfl ⟨_, _, rfl⟩ (Or.inr ⟨_, rfl⟩) g21 (fun R22 => ?_)
  refine s_aload_n 0 dX11_init_36 rfl rfl ?_
  refine s_bipush (v := 11) dX11_init_37 rfl cB_11 ?_
  refine s_newIL dX11_init_39 rfl ac_I (by decide) rfl (by decide) (fun o_23 I24 L25 R26 S27 => ?_)
  refine sm_ck (fun g28 => ?_)
  refine s_putRFL dX11_init_41 rfl fl_11_23 rfl ⟨_, _, rfl⟩ (Or.inr ⟨_, rfl⟩) g28 (fun R29 => ?_)
  refine s_aload_n 0 dX11_init_44 rfl rfl ?_
  refine s_sipush (v := 3520) dX11_init_45 rfl cS_3520 ?_
  refine s_newIL dX11_init_48 rfl ac_I (by decide) rfl (by decide) (fun o_30 I31 L32 R33 S34 => ?_)
  refine sm_ck (fun g35 => ?_)
  refine s_putRFL dX11_init_50 rfl fl_11_26 rfl ⟨_, _, rfl⟩ (Or.inr ⟨_, rfl⟩) g35 (fun R36 => ?_)
  refine s_aload_n 0 dX11_init_53 rfl rfl ?_
  refine s_sipush (v := 3520) dX11_init_54 rfl cS_3520 ?_
  refine s_newIL dX11_init_57 rfl ac_I (by decide) rfl (by decide) (fun o_37 I38 L39 R40 S41 => ?_)
  refine sm_ck (fun g42 => ?_)
  refine s_putRFL dX11_init_59 rfl fl_11_29 rfl ⟨_, _, rfl⟩ (Or.inr ⟨_, rfl⟩) g42 (fun R43 => ?_)
  refine s_aload_n 0 dX11_init_62 rfl rfl ?_
  refine s_bipush (v := 11) dX11_init_63 rfl cB_11 ?_
  refine s_newIL dX11_init_65 rfl ac_I (by decide) rfl (by decide) (fun o_44 I45 L46 R47 S48 => ?_)
  refine sm_ck (fun g49 => ?_)
  refine s_putRFL dX11_init_67 rfl fl_11_32 rfl ⟨_, _, rfl⟩ (Or.inr ⟨_, rfl⟩) g49 (fun R50 => ?_)
  refine s_aload_n 0 dX11_init_70 rfl rfl ?_
  refine s_sipush (v := 160) dX11_init_71 rfl cS_160 ?_
  refine s_newIL dX11_init_74 rfl ac_I (by decide) rfl (by decide) (fun o_51 I52 L53 R54 S55 => ?_)
  refine sm_ck (fun g56 => ?_)
  refine s_putRFL dX11_init_76 rfl fl_11_35 rfl ⟨_, _, rfl⟩ (Or.inr ⟨_, rfl⟩) g56 (fun R57 => ?_)
  refine s_aload_n 0 dX11_init_79 rfl rfl ?_
  refine s_bipush (v := 64) dX11_init_80 rfl cB_64 ?_
  refine s_newIL dX11_init_82 rfl ac_I (by decide) rfl (by decide) (fun o_58 I59 L60 R61 S62 => ?_)
  refine sm_ck (fun g63 => ?_)
  refine s_putRFL dX11_init_84 rfl fl_11_38 rfl ⟨_, _, rfl⟩ (Or.inr ⟨_, rfl⟩) g63 (fun R64 => ?_)
  refine s_aload_n 0 dX11_init_87 rfl rfl ?_
  refine s_bipush (v := 20) dX11_init_88 rfl cB_20 ?_
  refine s_newJL dX11_init_90 rfl ac_J (by decide) rfl (by decide) (fun o_65 I66 L67 R68 S69 => ?_)
  refine sm_ck (fun g70 => ?_)
  refine s_putRFL dX11_init_92 rfl fl_11_41 rfl ⟨_, _, rfl⟩ (Or.inr ⟨_, rfl⟩) g70 (fun R71 => ?_)
  refine s_aload_n 0 dX11_init_95 rfl rfl ?_
  refine s_bipush (v := 10) dX11_init_96 rfl cB_10 ?_
  refine s_newIL dX11_init_98 rfl ac_I (by decide) rfl (by decide) (fun o_72 I73 L74 R75 S76 => ?_)
  refine sm_ck (fun g77 => ?_)
  refine s_putRFL dX11_init_100 rfl fl_11_45 rfl ⟨_, _, rfl⟩ (Or.inr ⟨_, rfl⟩) g77 (fun R78 => ?_)
  refine s_aload_n 0 dX11_init_103 rfl rfl ?_
  refine s_bipush (v := 10) dX11_init_104 rfl cB_10 ?_
  refine s_newIL dX11_init_106 rfl ac_I (by decide) rfl (by decide) (fun o_79 I80 L81 R82 S83 => ?_)
  refine sm_ck (fun g84 => ?_)
  refine s_putRFL dX11_init_108 rfl fl_11_48 rfl ⟨_, _, rfl⟩ (Or.inr ⟨_, rfl⟩) g84 (fun R85 => ?_)
  refine s_aload_n 0 dX11_init_111 rfl rfl ?_
  refine s_bipush (v := 10) dX11_init_112 rfl cB_10 ?_
  refine s_newIL dX11_init_114 rfl ac_I (by decide) rfl (by decide) (fun o_86 I87 L88 R89 S90 => ?_)
  refine sm_ck (fun g91 => ?_)
  refine s_putRFL dX11_init_116 rfl fl_11_51 rfl ⟨_, _, rfl⟩ (Or.inr ⟨_, rfl⟩) g91 (fun R92 => ?_)
  refine s_aload_n 0 dX11_init_119 rfl rfl ?_
  refine s_bipush (v := 10) dX11_init_120 rfl cB_10 ?_
  refine s_newIL dX11_init_122 rfl ac_I (by decide) rfl (by decide) (fun o_93 I94 L95 R96 S97 => ?_)
  refine sm_ck (fun g98 => ?_)
  refine s_putRFL dX11_init_124 rfl fl_11_54 rfl ⟨_, _, rfl⟩ (Or.inr ⟨_, rfl⟩) g98 (fun R99 => ?_)
  refine s_aload_n 0 dX11_init_127 rfl rfl ?_
  refine s_bipush (v := 10) dX11_init_128 rfl cB_10 ?_
  refine s_newIL dX11_init_130 rfl ac_I (by decide) rfl (by decide) (fun o_100 I101 L102 R103 S104 => ?_)
  refine sm_ck (fun g105 => ?_)
  refine s_putRFL dX11_init_132 rfl fl_11_57 rfl ⟨_, _, rfl⟩ (Or.inr ⟨_, rfl⟩) g105 (fun R106 => ?_)
  refine s_aload_n 0 dX11_init_135 rfl rfl ?_
  refine s_iconst (v := 4) dX11_init_136 rfl cI_4 ?_
  refine s_newIL dX11_init_137 rfl ac_I (by decide) rfl (by decide) (fun o_107 I108 L109 R110 S111 => ?_)
  refine sm_ck (fun g112 => ?_)
  refine s_putRFL dX11_init_139 rfl fl_11_60 rfl ⟨_, _, rfl⟩ (Or.inr ⟨_, rfl⟩) g112 (fun R113 => ?_)
  refine s_aload_n 0 dX11_init_142 rfl rfl ?_
  refine s_iconst (v := 4) dX11_init_143 rfl cI_4 ?_
  refine s_newIL dX11_init_144 rfl ac_I (by decide) rfl (by decide) (fun o_114 I115 L116 R117 S118 => ?_)
  refine sm_ck (fun g119 => ?_)
  refine s_putRFL dX11_init_146 rfl fl_11_63 rfl ⟨_, _, rfl⟩ (Or.inr ⟨_, rfl⟩) g119 (fun R120 => ?_)
  refine s_aload_n 0 dX11_init_149 rfl rfl ?_
  refine s_iconst (v := 4) dX11_init_150 rfl cI_4 ?_
  refine s_newIL dX11_init_151 rfl ac_I (by decide) rfl (by decide) (fun o_121 I122 L123 R124 S125 => ?_)
  refine sm_ck (fun g126 => ?_)
  refine s_putRFL dX11_init_153 rfl fl_11_66 rfl ⟨_, _, rfl⟩ (Or.inr ⟨_, rfl⟩) g126 (fun R127 => ?_)
  refine s_aload_n 0 dX11_init_156 rfl rfl ?_
  refine s_iconst (v := 4) dX11_init_157 rfl cI_4 ?_
  refine s_newIL dX11_init_158 rfl ac_I (by decide) rfl (by decide) (fun o_128 I129 L130 R131 S132 => ?_)
  refine sm_ck (fun g133 => ?_)
  refine s_putRFL dX11_init_160 rfl fl_11_69 rfl ⟨_, _, rfl⟩ (Or.inr ⟨_, rfl⟩) g133 (fun R134 => ?_)
  refine s_aload_n 0 dX11_init_163 rfl rfl ?_
  refine s_iconst (v := 4) dX11_init_164 rfl cI_4 ?_
  refine s_newIL dX11_init_165 rfl ac_I (by decide) rfl (by decide) (fun o_135 I136 L137 R138 S139 => ?_)
  refine sm_ck (fun g140 => ?_)
  refine s_putRFL dX11_init_167 rfl fl_11_72 rfl ⟨_, _, rfl⟩ (Or.inr ⟨_, rfl⟩) g140 (fun R141 => ?_)
  refine s_aload_n 0 dX11_init_170 rfl rfl ?_
  refine s_iconst (v := 4) dX11_init_171 rfl cI_4 ?_
  refine s_newIL dX11_init_172 rfl ac_I (by decide) rfl (by decide) (fun o_142 I143 L144 R145 S146 => ?_)
  refine sm_ck (fun g147 => ?_)
  refine s_putRFL dX11_init_174 rfl fl_11_75 rfl ⟨_, _, rfl⟩ (Or.inr ⟨_, rfl⟩) g147 (fun R148 => ?_)
  refine s_aload_n 0 dX11_init_177 rfl rfl ?_
  refine s_bipush (v := 10) dX11_init_178 rfl cB_10 ?_
  refine s_newZL dX11_init_180 rfl ac_Z (by decide) rfl (by decide) (fun o_149 I150 L151 R152 S153 => ?_)
  refine sm_ck (fun g154 => ?_)
  refine s_putRFL dX11_init_182 rfl fl_11_78 rfl ⟨_, _, rfl⟩ (Or.inr ⟨_, rfl⟩) g154 (fun R155 => ?_)
  refine s_aload_n 0 dX11_init_185 rfl rfl ?_
  refine s_bipush (v := 10) dX11_init_186 rfl cB_10 ?_
  refine s_newIL dX11_init_188 rfl ac_I (by decide) rfl (by decide) (fun o_156 I157 L158 R159 S160 => ?_)
  refine sm_ck (fun g161 => ?_)
  refine s_putRFL dX11_init_190 rfl fl_11_82 rfl ⟨_, _, rfl⟩ (Or.inr ⟨_, rfl⟩) g161 (fun R162 => ?_)
  refine s_aload_n 0 dX11_init_193 rfl rfl ?_
  refine s_bipush (v := 10) dX11_init_194 rfl cB_10 ?_
  refine s_newIL dX11_init_196 rfl ac_I (by decide) rfl (by decide) (fun o_163 I164 L165 R166 S167 => ?_)
  refine sm_ck (fun g168 => ?_)
  refine s_putRFL dX11_init_198 rfl fl_11_85 rfl ⟨_, _, rfl⟩ (Or.inr ⟨_, rfl⟩) g168 (fun R169 => ?_)
  refine s_aload_n 0 dX11_init_201 rfl rfl ?_
  refine s_bipush (v := 10) dX11_init_202 rfl cB_10 ?_
  refine s_newIL dX11_init_204 rfl ac_I (by decide) rfl (by decide) (fun o_170 I171 L172 R173 S174 => ?_)
  refine sm_ck (fun g175 => ?_)
  refine s_putRFL dX11_init_206 rfl fl_11_88 rfl ⟨_, _, rfl⟩ (Or.inr ⟨_, rfl⟩) g175 (fun R176 => ?_)
  refine s_aload_n 0 dX11_init_209 rfl rfl ?_
  refine s_bipush (v := 10) dX11_init_210 rfl cB_10 ?_
  refine s_newIL dX11_init_212 rfl ac_I (by decide) rfl (by decide) (fun o_177 I178 L179 R180 S181 => ?_)
  refine sm_ck (fun g182 => ?_)
  refine s_putRFL dX11_init_214 rfl fl_11_91 rfl ⟨_, _, rfl⟩ (Or.inr ⟨_, rfl⟩) g182 (fun R183 => ?_)
  refine s_aload_n 0 dX11_init_217 rfl rfl ?_
  refine s_bipush (v := 10) dX11_init_218 rfl cB_10 ?_
  refine s_newIL dX11_init_220 rfl ac_I (by decide) rfl (by decide) (fun o_184 I185 L186 R187 S188 => ?_)
  refine sm_ck (fun g189 => ?_)
  refine s_putRFL dX11_init_222 rfl fl_11_94 rfl ⟨_, _, rfl⟩ (Or.inr ⟨_, rfl⟩) g189 (fun R190 => ?_)
  refine s_aload_n 0 dX11_init_225 rfl rfl ?_
  refine s_iconst (v := 4) dX11_init_226 rfl cI_4 ?_
  refine s_newIL dX11_init_227 rfl ac_I (by decide) rfl (by decide) (fun o_191 I192 L193 R194 S195 => ?_)
  refine sm_ck (fun g196 => ?_)
  refine s_putRFL dX11_init_229 rfl fl_11_97 rfl ⟨_, _, rfl⟩ (Or.inr ⟨_, rfl⟩) g196 (fun R197 => ?_)
  refine s_aload_n 0 dX11_init_232 rfl rfl ?_
  refine s_iconst (v := 4) dX11_init_233 rfl cI_4 ?_
  refine s_newIL dX11_init_234 rfl ac_I (by decide) rfl (by decide) (fun o_198 I199 L200 R201 S202 => ?_)
  refine sm_ck (fun g203 => ?_)
  refine s_putRFL dX11_init_236 rfl fl_11_100 rfl ⟨_, _, rfl⟩ (Or.inr ⟨_, rfl⟩) g203 (fun R204 => ?_)
  refine s_aload_n 0 dX11_init_239 rfl rfl ?_
  refine s_iconst (v := 4) dX11_init_240 rfl cI_4 ?_
  refine s_newIL dX11_init_241 rfl ac_I (by decide) rfl (by decide) (fun o_205 I206 L207 R208 S209 => ?_)
  refine sm_ck (fun g210 => ?_)
  refine s_putRFL dX11_init_243 rfl fl_11_103 rfl ⟨_, _, rfl⟩ (Or.inr ⟨_, rfl⟩) g210 (fun R211 => ?_)
  refine s_aload_n 0 dX11_init_246 rfl rfl ?_
  refine s_iconst (v := 4) dX11_init_247 rfl cI_4 ?_
  refine s_newIL dX11_init_248 rfl ac_I (by decide) rfl (by decide) (fun o_212 I213 L214 R215 S216 => ?_)
  refine sm_ck (fun g217 => ?_)
  refine s_putRFL dX11_init_250 rfl fl_11_106 rfl ⟨_, _, rfl⟩ (Or.inr ⟨_, rfl⟩) g217 (fun R218 => ?_)
  refine s_aload_n 0 dX11_init_253 rfl rfl ?_
  refine s_iconst (v := 4) dX11_init_254 rfl cI_4 ?_
  refine s_newIL dX11_init_255 rfl ac_I (by decide) rfl (by decide) (fun o_219 I220 L221 R222 S223 => ?_)
  refine sm_ck (fun g224 => ?_)
  refine s_putRFL dX11_init_257 rfl fl_11_109 rfl ⟨_, _, rfl⟩ (Or.inr ⟨_, rfl⟩) g224 (fun R225 => ?_)
  refine s_aload_n 0 dX11_init_260 rfl rfl ?_
  refine s_iconst (v := 4) dX11_init_261 rfl cI_4 ?_
  refine s_newIL dX11_init_262 rfl ac_I (by decide) rfl (by decide) (fun o_226 I227 L228 R229 S230 => ?_)
  refine sm_ck (fun g231 => ?_)
  refine s_putRFL dX11_init_264 rfl fl_11_112 rfl ⟨_, _, rfl⟩ (Or.inr ⟨_, rfl⟩) g231 (fun R232 => ?_)
  refine s_aload_n 0 dX11_init_267 rfl rfl ?_
  refine s_bipush (v := 10) dX11_init_268 rfl cB_10 ?_
  refine s_newZL dX11_init_270 rfl ac_Z (by decide) rfl (by decide) (fun o_233 I234 L235 R236 S237 => ?_)
  refine sm_ck (fun g238 => ?_)
  refine s_putRFL dX11_init_272 rfl fl_11_115 rfl ⟨_, _, rfl⟩ (Or.inr ⟨_, rfl⟩) g238 (fun R239 => ?_)
  refine s_aload_n 0 dX11_init_275 rfl rfl ?_
  refine s_bipush (v := 10) dX11_init_276 rfl cB_10 ?_
  refine s_putIL dX11_init_278 rfl fl_11_118 g238 (fun I240 => ?_)
  refine s_aload_n 0 dX11_init_281 rfl rfl ?_
  refine s_sipush (v := 128) dX11_init_282 rfl cS_128 ?_
  refine s_newIL dX11_init_285 rfl ac_I (by decide) rfl (by decide) (fun o_241 I242 L243 R244 S245 => ?_)
  refine sm_ck (fun g246 => ?_)
  refine s_putRFL dX11_init_287 rfl fl_11_121 rfl ⟨_, _, rfl⟩ (Or.inr ⟨_, rfl⟩) g246 (fun R247 => ?_)
  refine s_aload_n 0 dX11_init_290 rfl rfl ?_
  refine s_sipush (v := 128) dX11_init_291 rfl cS_128 ?_
  refine s_newIL dX11_init_294 rfl ac_I (by decide) rfl (by decide) (fun o_248 I249 L250 R251 S252 => ?_)
  refine sm_ck (fun g253 => ?_)
  refine s_putRFL dX11_init_296 rfl fl_11_124 rfl ⟨_, _, rfl⟩ (Or.inr ⟨_, rfl⟩) g253 (fun R254 => ?_)
  refine s_aload_n 0 dX11_init_299 rfl rfl ?_
  refine s_sipush (v := 5120) dX11_init_300 rfl cS_5120 ?_
  refine s_newIL dX11_init_303 rfl ac_I (by decide) rfl (by decide) (fun o_255 I256 L257 R258 S259 => ?_)
  refine sm_ck (fun g260 => ?_)
  refine s_putRFL dX11_init_305 rfl fl_11_127 rfl ⟨_, _, rfl⟩ (Or.inr ⟨_, rfl⟩) g260 (fun R261 => ?_)
  refine s_aload_n 0 dX11_init_308 rfl rfl ?_
  refine s_sipush (v := 2048) dX11_init_309 rfl cS_2048 ?_
  refine s_newIL dX11_init_312 rfl ac_I (by decide) rfl (by decide) (fun o_262 I263 L264 R265 S266 => ?_)
  refine sm_ck (fun g267 => ?_)
  refine s_putRFL dX11_init_314 rfl fl_11_130 rfl ⟨_, _, rfl⟩ (Or.inr ⟨_, rfl⟩) g267 (fun R268 => ?_)
  refine s_aload_n 0 dX11_init_317 rfl rfl ?_
  refine s_bipush (v := 16) dX11_init_318 rfl cB_16 ?_
  refine s_newIL dX11_init_320 rfl ac_I (by decide) rfl (by decide) (fun o_269 I270 L271 R272 S273 => ?_)
  refine sm_ck (fun g274 => ?_)
  refine s_putRFL dX11_init_322 rfl fl_11_133 rfl ⟨_, _, rfl⟩ (Or.inr ⟨_, rfl⟩) g274 (fun R275 => ?_)
  refine s_aload_n 0 dX11_init_325 rfl rfl ?_
  refine s_bipush (v := 16) dX11_init_326 rfl cB_16 ?_
  refine s_newIL dX11_init_328 rfl ac_I (by decide) rfl (by decide) (fun o_276 I277 L278 R279 S280 => ?_)
  refine sm_ck (fun g281 => ?_)
  refine s_putRFL dX11_init_330 rfl fl_11_136 rfl ⟨_, _, rfl⟩ (Or.inr ⟨_, rfl⟩) g281 (fun R282 => ?_)
  refine s_aload_n 0 dX11_init_333 rfl rfl ?_
  refine s_bipush (v := 16) dX11_init_334 rfl cB_16 ?_
  refine s_newIL dX11_init_336 rfl ac_I (by decide) rfl (by decide) (fun o_283 I284 L285 R286 S287 => ?_)
  refine sm_ck (fun g288 => ?_)
  refine s_putRFL dX11_init_338 rfl fl_11_139 rfl ⟨_, _, rfl⟩ (Or.inr ⟨_, rfl⟩) g288 (fun R289 => ?_)
  refine s_aload_n 0 dX11_init_341 rfl rfl ?_
  refine s_bipush (v := 16) dX11_init_342 rfl cB_16 ?_
  refine s_newIL dX11_init_344 rfl ac_I (by decide) rfl (by decide) (fun o_290 I291 L292 R293 S294 => ?_)
  refine sm_ck (fun g295 => ?_)
  refine s_putRFL dX11_init_346 rfl fl_11_142 rfl ⟨_, _, rfl⟩ (Or.inr ⟨_, rfl⟩) g295 (fun R296 => ?_)
  refine s_aload_n 0 dX11_init_349 rfl rfl ?_
  refine s_bipush (v := 16) dX11_init_350 rfl cB_16 ?_
  refine s_newIL dX11_init_352 rfl ac_I (by decide) rfl (by decide) (fun o_297 I298 L299 R300 S301 => ?_)
  refine sm_ck (fun g302 => ?_)
  refine s_putRFL dX11_init_354 rfl fl_11_145 rfl ⟨_, _, rfl⟩ (Or.inr ⟨_, rfl⟩) g302 (fun R303 => ?_)
  refine s_aload_n 0 dX11_init_357 rfl rfl ?_
  refine s_bipush (v := 16) dX11_init_358 rfl cB_16 ?_
  refine s_newIL dX11_init_360 rfl ac_I (by decide) rfl (by decide) (fun o_304 I305 L306 R307 S308 => ?_)
  refine sm_ck (fun g309 => ?_)
  refine s_putRFL dX11_init_362 rfl fl_11_148 rfl ⟨_, _, rfl⟩ (Or.inr ⟨_, rfl⟩) g309 (fun R310 => ?_)
  refine s_aload_n 0 dX11_init_365 rfl rfl ?_
  refine s_iconst (v := 4) dX11_init_366 rfl cI_4 ?_
  refine s_newIL dX11_init_367 rfl ac_I (by decide) rfl (by decide) (fun o_311 I312 L313 R314 S315 => ?_)
  refine sm_ck (fun g316 => ?_)
  refine s_putRFL dX11_init_369 rfl fl_11_151 rfl ⟨_, _, rfl⟩ (Or.inr ⟨_, rfl⟩) g316 (fun R317 => ?_)
  refine s_aload_n 0 dX11_init_372 rfl rfl ?_
  refine s_iconst (v := 4) dX11_init_373 rfl cI_4 ?_
  refine s_newIL dX11_init_374 rfl ac_I (by decide) rfl (by decide) (fun o_318 I319 L320 R321 S322 => ?_)
  refine sm_ck (fun g323 => ?_)
  refine s_putRFL dX11_init_376 rfl fl_11_154 rfl ⟨_, _, rfl⟩ (Or.inr ⟨_, rfl⟩) g323 (fun R324 => ?_)
  refine s_aload_n 0 dX11_init_379 rfl rfl ?_
  refine s_bipush (v := 40) dX11_init_380 rfl cB_40 ?_
  refine s_newIL dX11_init_382 rfl ac_I (by decide) rfl (by decide) (fun o_325 I326 L327 R328 S329 => ?_)
  refine sm_ck (fun g330 => ?_)
  refine s_putRFL dX11_init_384 rfl fl_11_157 rfl ⟨_, _, rfl⟩ (Or.inr ⟨_, rfl⟩) g330 (fun R331 => ?_)
  refine s_aload_n 0 dX11_init_387 rfl rfl ?_
  refine s_bipush (v := 36) dX11_init_388 rfl cB_36 ?_
  refine s_newIL dX11_init_390 rfl ac_I (by decide) rfl (by decide) (fun o_332 I333 L334 R335 S336 => ?_)
  refine sm_ck (fun g337 => ?_)
  refine s_putRFL dX11_init_392 rfl fl_11_160 rfl ⟨_, _, rfl⟩ (Or.inr ⟨_, rfl⟩) g337 (fun R338 => ?_)
  refine s_aload_n 0 dX11_init_395 rfl rfl ?_
  refine s_bipush (v := 30) dX11_init_396 rfl cB_30 ?_
  refine s_newIL dX11_init_398 rfl ac_I (by decide) rfl (by decide) (fun o_339 I340 L341 R342 S343 => ?_)
  refine sm_ck (fun g344 => ?_)
  refine s_putRFL dX11_init_400 rfl fl_11_163 rfl ⟨_, _, rfl⟩ (Or.inr ⟨_, rfl⟩) g344 (fun R345 => ?_)
  refine s_aload_n 0 dX11_init_403 rfl rfl ?_
  refine s_bipush (v := 30) dX11_init_404 rfl cB_30 ?_
  refine s_newIL dX11_init_406 rfl ac_I (by decide) rfl (by decide) (fun o_346 I347 L348 R349 S350 => ?_)
  refine sm_ck (fun g351 => ?_)
  refine s_putRFL dX11_init_408 rfl fl_11_166 rfl ⟨_, _, rfl⟩ (Or.inr ⟨_, rfl⟩) g351 (fun R352 => ?_)
  refine s_aload_n 0 dX11_init_411 rfl rfl ?_
  refine s_bipush (v := 30) dX11_init_412 rfl cB_30 ?_
  refine s_newIL dX11_init_414 rfl ac_I (by decide) rfl (by decide) (fun o_353 I354 L355 R356 S357 => ?_)
  refine sm_ck (fun g358 => ?_)
  refine s_putRFL dX11_init_416 rfl fl_11_169 rfl ⟨_, _, rfl⟩ (Or.inr ⟨_, rfl⟩) g358 (fun R359 => ?_)
  refine s_aload_n 0 dX11_init_419 rfl rfl ?_
  refine s_bipush (v := 30) dX11_init_420 rfl cB_30 ?_
  refine s_newIL dX11_init_422 rfl ac_I (by decide) rfl (by decide) (fun o_360 I361 L362 R363 S364 => ?_)
  refine sm_ck (fun g365 => ?_)
  refine s_putRFL dX11_init_424 rfl fl_11_172 rfl ⟨_, _, rfl⟩ (Or.inr ⟨_, rfl⟩) g365 (fun R366 => ?_)
  refine s_aload_n 0 dX11_init_427 rfl rfl ?_
  refine s_bipush (v := 30) dX11_init_428 rfl cB_30 ?_
  refine s_newIL dX11_init_430 rfl ac_I (by decide) rfl (by decide) (fun o_367 I368 L369 R370 S371 => ?_)
  refine sm_ck (fun g372 => ?_)
  refine s_putRFL dX11_init_432 rfl fl_11_175 rfl ⟨_, _, rfl⟩ (Or.inr ⟨_, rfl⟩) g372 (fun R373 => ?_)
  refine s_aload_n 0 dX11_init_435 rfl rfl ?_
  refine s_iconst (v := 3) dX11_init_436 rfl cI_3 ?_
  refine s_newZL dX11_init_437 rfl ac_Z (by decide) rfl (by decide) (fun o_374 I375 L376 R377 S378 => ?_)
  refine sm_ck (fun g379 => ?_)
  refine s_putRFL dX11_init_439 rfl fl_11_178 rfl ⟨_, _, rfl⟩ (Or.inr ⟨_, rfl⟩) g379 (fun R380 => ?_)
  refine s_aload_n 0 dX11_init_442 rfl rfl ?_
  refine s_sipush (v := 384) dX11_init_443 rfl cS_384 ?_
  refine s_newIL dX11_init_446 rfl ac_I (by decide) rfl (by decide) (fun o_381 I382 L383 R384 S385 => ?_)
  refine sm_ck (fun g386 => ?_)
  refine s_putRFL dX11_init_448 rfl fl_11_181 rfl ⟨_, _, rfl⟩ (Or.inr ⟨_, rfl⟩) g386 (fun R387 => ?_)
  exact s_vret dX11_init_451 rfl (fun f h => h)
