noncomputable def x11_seconds (p0 : Int32) (I : MI) : Option (Int32) :=
if p0 = 2 then (
some p0) else
if p0 = 3 then (
some p0) else
some (1 : Int32)
theorem ct_x11_seconds {X : WX} {p0 : Int32} {I : MI} {L : ML} {R : MR} {S : MS} (hK : okm R S) : Ct X yX11_seconds cX11_seconds 1 (some .int) 0 0 [.int p0] (I, L, R, S) (x11_seconds p0 I) (fun r => (some (.int r), (I, L, R, S))) := by
  refine Ct.of (by decide) (Nat.le_of_ble_eq_true rfl) [(0, .int p0)] rfl ?_
  unfold x11_seconds
  refine s_iload_n 0 dX11_seconds_0 rfl rfl ?_
  refine s_iconst (v := 2) dX11_seconds_1 rfl cI_2 ?_
  refine s_icmp_eq (tgt := 10) dX11_seconds_2 rfl rfl (fun _ => ?_) (fun _ => ?_)
  · skip
    refine s_iload_n 0 dX11_seconds_10 rfl rfl ?_
    refine s_goto (tgt := 15) dX11_seconds_11 rfl ?_
    exact s_iret dX11_seconds_15 rfl (fun f h => h)
  · skip
    refine s_iload_n 0 dX11_seconds_5 rfl rfl ?_
    refine s_iconst (v := 3) dX11_seconds_6 rfl cI_3 ?_
    refine s_icmp_ne (tgt := 14) dX11_seconds_7 rfl rfl (fun _ => ?_) (fun _ => ?_)
    · skip
      refine s_iconst (v := 1) dX11_seconds_14 rfl cI_1 ?_
      exact s_iret dX11_seconds_15 rfl (fun f h => h)
    · skip
      refine s_iload_n 0 dX11_seconds_10 rfl rfl ?_
      refine s_goto (tgt := 15) dX11_seconds_11 rfl ?_
      exact s_iret dX11_seconds_15 rfl (fun f h => h)
noncomputable def x11_takesBreath (p0 : Int32) (I : MI) : Option (Int32) :=
if p0 = 2 then (
some (1 : Int32)) else
if p0 = 3 then (
some (3 : Int32)) else
some (0 : Int32)
theorem ct_x11_takesBreath {X : WX} {p0 : Int32} {I : MI} {L : ML} {R : MR} {S : MS} (hK : okm R S) : Ct X yX11_takesBreath cX11_takesBreath 1 (some .int) 0 0 [.int p0] (I, L, R, S) (x11_takesBreath p0 I) (fun r => (some (.int r), (I, L, R, S))) := by
  refine Ct.of (by decide) (Nat.le_of_ble_eq_true rfl) [(0, .int p0)] rfl ?_
  unfold x11_takesBreath
  refine s_iload_n 0 dX11_takesBreath_0 rfl rfl ?_
  refine s_iconst (v := 2) dX11_takesBreath_1 rfl cI_2 ?_
  refine s_icmp_ne (tgt := 9) dX11_takesBreath_2 rfl rfl (fun _ => ?_) (fun _ => ?_)
  · skip
    refine s_iload_n 0 dX11_takesBreath_9 rfl rfl ?_
    refine s_iconst (v := 3) dX11_takesBreath_10 rfl cI_3 ?_
    refine s_icmp_ne (tgt := 18) dX11_takesBreath_11 rfl rfl (fun _ => ?_) (fun _ => ?_)
    · skip
      refine s_iconst (v := 0) dX11_takesBreath_18 rfl cI_0 ?_
      exact s_iret dX11_takesBreath_19 rfl (fun f h => h)
    · skip
      refine s_iconst (v := 3) dX11_takesBreath_14 rfl cI_3 ?_
      refine s_goto (tgt := 19) dX11_takesBreath_15 rfl ?_
      exact s_iret dX11_takesBreath_19 rfl (fun f h => h)
  · skip
    refine s_iconst (v := 1) dX11_takesBreath_5 rfl cI_1 ?_
    refine s_goto (tgt := 19) dX11_takesBreath_6 rfl ?_
    exact s_iret dX11_takesBreath_19 rfl (fun f h => h)
noncomputable def x11_layWay (p1 : Int32) (p2 : Int32) (I : MI) : Option (Int32 × MI) :=
ck (vp_in (5 * p2) 128) <|
ck (vp_in p1 4) <|
lt ((I 137 (ix (5 * p2))) - (I 130 (ix p1))) fun v3 =>
ck (vp_in ((5 * p2) + 1) 128) <|
ck (vp_in p1 4) <|
lt ((I 137 (ix ((5 * p2) + 1))) - (I 131 (ix p1))) fun v6 =>
b1 (x11_amount v3 I) fun r7 =>
b1 (x11_amount v6 I) fun r8 =>
b1 (
if r7 < r8 then (
some (0 : Int32)) else
some (1 : Int32)) fun e9 =>
lt e9 fun v10 =>
b1 (
if v10 = 0 then (
some (0 : Int32)) else
if v3 = 0 then (
some (0 : Int32)) else
if v3 < 0 then (
some (-1 : Int32)) else
some (1 : Int32)) fun e11 =>
lt (wI I 102 68 e11) fun I12 =>
b1 (
if v10 = 0 then (
if v6 < 0 then (
some (-1 : Int32)) else
some (1 : Int32)) else
some (0 : Int32)) fun e13 =>
lt (wI I12 102 69 e13) fun I14 =>
if v3 = 0 then (
if v6 = 0 then (
some ((0 : Int32), I14)) else
some ((1 : Int32), I14)) else
some ((1 : Int32), I14)
theorem ct_x11_layWay {X : WX} {p1 : Int32} {p2 : Int32} {I : MI} {L : ML} {R : MR} {S : MS} (hK : okm R S) : Ct X yX11_layWay cX11_layWay 6 (some .boolean) 1 20 [.ref (X.1 + 102), .int p1, .int p2] (I, L, R, S) (x11_layWay p1 p2 I) (fun r => (some (.int r.1), (r.2, L, R, S))) := by
  refine Ct.of (by decide) (Nat.le_of_ble_eq_true rfl) [(0, .ref (X.1 + 102)), (1, .int p1), (2, .int p2)] rfl ?_
  unfold x11_layWay
  refine s_aload_n 0 dX11_layWay_0 rfl rfl ?_
  refine s_getR 137 dX11_layWay_1 rfl fl_11_121 rfl (S_102 hK) (R_102_66 hK) ?_
  refine s_iconst (v := 5) dX11_layWay_4 rfl cI_5 ?_
  refine s_iload_n 2 dX11_layWay_5 rfl rfl ?_
  refine s_imul dX11_layWay_6 rfl ?_
  refine sm_ck (fun g1 => ?_)
  refine s_iald dX11_layWay_7 rfl (S_137 hK) g1 ?_
  refine s_aload_n 0 dX11_layWay_8 rfl rfl ?_
  refine s_getR 130 dX11_layWay_9 rfl fl_11_97 rfl (S_102 hK) (R_102_42 hK) ?_
  refine s_iload_n 1 dX11_layWay_12 rfl rfl ?_
  refine sm_ck (fun g2 => ?_)
  refine s_iald dX11_layWay_13 rfl (S_130 hK) g2 ?_
  refine s_isub dX11_layWay_14 rfl ?_
  refine s_istore_nL (fun v3 => [(3, .int v3), (0, .ref (X.1 + 102)), (1, .int p1), (2, .int p2)]) dX11_layWay_15 rfl (by decide) (fun _ => rfl) (fun v3 => ?_)
  refine s_aload_n 1 dX11_layWay_16 rfl rfl ?_
  refine s_getR 137 dX11_layWay_17 rfl fl_11_121 rfl (S_102 hK) (R_102_66 hK) ?_
  refine s_iconst (v := 5) dX11_layWay_20 rfl cI_5 ?_
  refine s_iload_n 3 dX11_layWay_21 rfl rfl ?_
  refine s_imul dX11_layWay_22 rfl ?_
  refine s_iconst (v := 1) dX11_layWay_23 rfl cI_1 ?_
  refine s_iadd dX11_layWay_24 rfl ?_
  refine sm_ck (fun g4 => ?_)
  refine s_iald dX11_layWay_25 rfl (S_137 hK) g4 ?_
  refine s_aload_n 1 dX11_layWay_26 rfl rfl ?_
  refine s_getR 131 dX11_layWay_27 rfl fl_11_100 rfl (S_102 hK) (R_102_43 hK) ?_
  refine s_iload_n 2 dX11_layWay_30 rfl rfl ?_
  refine sm_ck (fun g5 => ?_)
  refine s_iald dX11_layWay_31 rfl (S_131 hK) g5 ?_
  refine s_isub dX11_layWay_32 rfl ?_
  refine s_istoreL (fun v6 => [(4, .int v6), (3, .int v3), (0, .ref (X.1 + 102)), (1, .int p1), (2, .int p2)]) dX11_layWay_33 rfl (by decide) (fun _ => rfl) (fun v6 => ?_)
  refine s_iload_n 1 dX11_layWay_35 rfl rfl ?_
  refine s_callS1_i0 dX11_layWay_36 rfl lkS_RX11_498 (Nat.le_of_ble_eq_true rfl) (Nat.le_of_ble_eq_true rfl) (Nat.le_of_ble_eq_true rfl) (ct_x11_amount hK) (fun r7 => ?_)
  refine s_iload 0 dX11_layWay_39 rfl rfl ?_
  refine s_callS1_i0 dX11_layWay_41 rfl lkS_RX11_498 (Nat.le_of_ble_eq_true rfl) (Nat.le_of_ble_eq_true rfl) (Nat.le_of_ble_eq_true rfl) (ct_x11_amount hK) (fun r8 => ?_)
  refine sm_reg (pcx := 52) (lsx := fun e9 => [(0, .ref (X.1 + 102)), (3, .int v3), (4, .int v6)]) (stx := fun e9 => [.int e9]) (ux := fun e9 => (I, L, R, S)) ?_ (fun e9 => ?_)
  · skip
    refine s_icmp_lt (tgt := 51) dX11_layWay_44 rfl rfl (fun _ => ?_) (fun _ => ?_)
    · skip
      refine s_iconst (v := 0) dX11_layWay_51 rfl cI_0 ?_
      refine s_pick [2, 1, 0] rfl ?_
      exact sm_exit (fun f h => h)
    · skip
      refine s_iconst (v := 1) dX11_layWay_47 rfl cI_1 ?_
      refine s_goto (tgt := 52) dX11_layWay_48 rfl ?_
      refine s_pick [2, 1, 0] rfl ?_
      exact sm_exit (fun f h => h)
  · skip
    refine s_istoreL (fun v10 => [(5, .int v10), (0, .ref (X.1 + 102)), (3, .int v3), (4, .int v6)]) dX11_layWay_52 rfl (by decide) (fun _ => rfl) (fun v10 => ?_)
    refine s_aload_n 1 dX11_layWay_54 rfl rfl ?_
    refine s_iload 0 dX11_layWay_55 rfl rfl ?_
    refine sm_reg (pcx := 77) (lsx := fun e11 => [(0, .ref (X.1 + 102)), (3, .int v3), (4, .int v6), (5, .int v10)]) (stx := fun e11 => [.int e11, .ref (X.1 + 102)]) (ux := fun e11 => (I, L, R, S)) ?_ (fun e11 => ?_)
    · skip
      refine s_if_eq (tgt := 64) dX11_layWay_57 rfl rfl (fun _ => ?_) (fun _ => ?_)
      · skip
        refine s_iconst (v := 0) dX11_layWay_64 rfl cI_0 ?_
        refine s_goto (tgt := 77) dX11_layWay_65 rfl ?_
        refine s_pick [1, 2, 3, 0] rfl ?_
        exact sm_exit (fun f h => h)
      · skip
        refine s_iload_n 2 dX11_layWay_60 rfl rfl ?_
        refine s_if_ne (tgt := 68) dX11_layWay_61 rfl rfl (fun _ => ?_) (fun _ => ?_)
        · skip
          refine s_iload_n 2 dX11_layWay_68 rfl rfl ?_
          refine s_if_ge (tgt := 76) dX11_layWay_69 rfl rfl (fun _ => ?_) (fun _ => ?_)
          · skip
            refine s_iconst (v := 1) dX11_layWay_76 rfl cI_1 ?_
            refine s_pick [1, 2, 3, 0] rfl ?_
            exact sm_exit (fun f h => h)
          · skip
            refine s_iconst (v := (-1)) dX11_layWay_72 rfl cI_m1 ?_
            refine s_goto (tgt := 77) dX11_layWay_73 rfl ?_
            refine s_pick [1, 2, 3, 0] rfl ?_
            exact sm_exit (fun f h => h)
        · skip
          refine s_iconst (v := 0) dX11_layWay_64 rfl cI_0 ?_
          refine s_goto (tgt := 77) dX11_layWay_65 rfl ?_
          refine s_pick [1, 2, 3, 0] rfl ?_
          exact sm_exit (fun f h => h)
    · skip
      refine s_putIL dX11_layWay_77 rfl fl_11_514 (S_102 hK) (fun I12 => ?_)
      refine s_aload_n 0 dX11_layWay_80 rfl rfl ?_
      refine s_iload 3 dX11_layWay_81 rfl rfl ?_
      refine sm_reg (pcx := 100) (lsx := fun e13 => [(3, .int v3), (4, .int v6)]) (stx := fun e13 => [.int e13, .ref (X.1 + 102)]) (ux := fun e13 => (I12, L, R, S)) ?_ (fun e13 => ?_)
      · skip
        refine s_if_eq (tgt := 90) dX11_layWay_83 rfl rfl (fun _ => ?_) (fun _ => ?_)
        · skip
          refine s_iload 2 dX11_layWay_90 rfl rfl ?_
          refine s_if_ge (tgt := 99) dX11_layWay_92 rfl rfl (fun _ => ?_) (fun _ => ?_)
          · skip
            refine s_iconst (v := 1) dX11_layWay_99 rfl cI_1 ?_
            refine s_pick [1, 2] rfl ?_
            exact sm_exit (fun f h => h)
          · skip
            refine s_iconst (v := (-1)) dX11_layWay_95 rfl cI_m1 ?_
            refine s_goto (tgt := 100) dX11_layWay_96 rfl ?_
            refine s_pick [1, 2] rfl ?_
            exact sm_exit (fun f h => h)
        · skip
          refine s_iconst (v := 0) dX11_layWay_86 rfl cI_0 ?_
          refine s_goto (tgt := 100) dX11_layWay_87 rfl ?_
          refine s_pick [1, 2] rfl ?_
          exact sm_exit (fun f h => h)
      · skip
        refine s_putIL dX11_layWay_100 rfl fl_11_517 (S_102 hK) (fun I14 => ?_)
        refine s_iload_n 0 dX11_layWay_103 rfl rfl ?_
        refine s_if_ne (tgt := 112) dX11_layWay_104 rfl rfl (fun _ => ?_) (fun _ => ?_)
        · skip
          refine s_iconst (v := 1) dX11_layWay_112 rfl cI_1 ?_
          refine s_goto (tgt := 117) dX11_layWay_113 rfl ?_
          exact s_zret dX11_layWay_117 rfl (Or.inr rfl) (fun f h => h)
        · skip
          refine s_iload 1 dX11_layWay_107 rfl rfl ?_
          refine s_if_eq (tgt := 116) dX11_layWay_109 rfl rfl (fun _ => ?_) (fun _ => ?_)
          · skip
            refine s_iconst (v := 0) dX11_layWay_116 rfl cI_0 ?_
            exact s_zret dX11_layWay_117 rfl (Or.inl rfl) (fun f h => h)
          · skip
            refine s_iconst (v := 1) dX11_layWay_112 rfl cI_1 ?_
            refine s_goto (tgt := 117) dX11_layWay_113 rfl ?_
            exact s_zret dX11_layWay_117 rfl (Or.inr rfl) (fun f h => h)
noncomputable def x11_leans (p1 : Int32) (p2 : Int32) (I : MI) : Option (Int32 × MI) :=
b2 (x11_layWay p1 p2 I) fun r1 I2 =>
if r1 = 0 then (
some ((0 : Int32), I2)) else
ck (vp_in (5 * p2) 128) <|
ck (vp_in ((5 * p2) + 1) 128) <|
b1 (x11_afloat ((I2 137 (ix (5 * p2))) + (I2 102 68)) ((I2 137 (ix ((5 * p2) + 1))) + (I2 102 69)) I2) fun r5 =>
if r5 < 0 then (
some ((0 : Int32), I2)) else
some ((1 : Int32), I2)
theorem ct_x11_leans {X : WX} {p1 : Int32} {p2 : Int32} {I : MI} {L : ML} {R : MR} {S : MS} (hK : okm R S) : Ct X yX11_leans cX11_leans 3 (some .boolean) 2 45 [.ref (X.1 + 102), .int p1, .int p2] (I, L, R, S) (x11_leans p1 p2 I) (fun r => (some (.int r.1), (r.2, L, R, S))) := by
  refine Ct.of (by decide) (Nat.le_of_ble_eq_true rfl) [(0, .ref (X.1 + 102)), (1, .int p1), (2, .int p2)] rfl ?_
  unfold x11_leans
  refine s_aload_n 0 dX11_leans_0 rfl rfl ?_
  refine s_iload_n 1 dX11_leans_1 rfl rfl ?_
  refine s_iload_n 2 dX11_leans_2 rfl rfl ?_
  refine s_callV2_i1 dX11_leans_3 rfl lkV_RX11_520 (S_102 hK) (Nat.le_of_ble_eq_true rfl) (Nat.le_of_ble_eq_true rfl) (Nat.le_of_ble_eq_true rfl) (ct_x11_layWay hK) (fun r1 I2 => ?_)
  refine s_if_eq (tgt := 48) dX11_leans_6 rfl rfl (fun _ => ?_) (fun _ => ?_)
  · skip
    refine s_iconst (v := 0) dX11_leans_48 rfl cI_0 ?_
    exact s_zret dX11_leans_49 rfl (Or.inl rfl) (fun f h => h)
  · skip
    refine s_aload_n 0 dX11_leans_9 rfl rfl ?_
    refine s_aload_n 0 dX11_leans_10 rfl rfl ?_
    refine s_getR 137 dX11_leans_11 rfl fl_11_121 rfl (S_102 hK) (R_102_66 hK) ?_
    refine s_iconst (v := 5) dX11_leans_14 rfl cI_5 ?_
    refine s_iload_n 2 dX11_leans_15 rfl rfl ?_
    refine s_imul dX11_leans_16 rfl ?_
    refine sm_ck (fun g3 => ?_)
    refine s_iald dX11_leans_17 rfl (S_137 hK) g3 ?_
    refine s_aload_n 0 dX11_leans_18 rfl rfl ?_
    refine s_getI dX11_leans_19 rfl fl_11_514 (S_102 hK) ?_
    refine s_iadd dX11_leans_22 rfl ?_
    refine s_aload_n 0 dX11_leans_23 rfl rfl ?_
    refine s_getR 137 dX11_leans_24 rfl fl_11_121 rfl (S_102 hK) (R_102_66 hK) ?_
    refine s_iconst (v := 5) dX11_leans_27 rfl cI_5 ?_
    refine s_iload_n 2 dX11_leans_28 rfl rfl ?_
    refine s_imul dX11_leans_29 rfl ?_
    refine s_iconst (v := 1) dX11_leans_30 rfl cI_1 ?_
    refine s_iadd dX11_leans_31 rfl ?_
    refine sm_ck (fun g4 => ?_)
    refine s_iald dX11_leans_32 rfl (S_137 hK) g4 ?_
    refine s_aload_n 0 dX11_leans_33 rfl rfl ?_
    refine s_getI dX11_leans_34 rfl fl_11_517 (S_102 hK) ?_
    refine s_iadd dX11_leans_37 rfl ?_
    refine s_callV2_i0 dX11_leans_38 rfl lkV_RX11_523 (S_102 hK) (Nat.le_of_ble_eq_true rfl) (Nat.le_of_ble_eq_true rfl) (Nat.le_of_ble_eq_true rfl) (ct_x11_afloat hK) (fun r5 => ?_)
    refine s_if_lt (tgt := 48) dX11_leans_41 rfl rfl (fun _ => ?_) (fun _ => ?_)
    · skip
      refine s_iconst (v := 0) dX11_leans_48 rfl cI_0 ?_
      exact s_zret dX11_leans_49 rfl (Or.inl rfl) (fun f h => h)
    · skip
      refine s_iconst (v := 1) dX11_leans_44 rfl cI_1 ?_
      refine s_goto (tgt := 49) dX11_leans_45 rfl ?_
      exact s_zret dX11_leans_49 rfl (Or.inr rfl) (fun f h => h)
noncomputable def x11_canTry (p1 : Int32) (p2 : Int32) (p3 : Int32) (I : MI) : Option (Int32 × MI) :=
b1 (x11_isAfloat p2 I) fun r1 =>
if r1 = 0 then (
some ((0 : Int32), I)) else
b1 (x11_far p1 p2 I) fun r2 =>
ck (vp_in p1 4) <|
if (I 132 (ix p1)) < r2 then (
some ((0 : Int32), I)) else
ck (vp_in (50 + (3 * p1)) 128) <|
b1 (x11_takesBreath p3 I) fun r5 =>
if (I 137 (ix (50 + (3 * p1)))) < r5 then (
some ((0 : Int32), I)) else
if p3 = 1 then (
ck (vp_in p2 10) <|
if (I 136 (ix p2)) = 0 then (
some ((0 : Int32), I)) else
if p3 = 2 then (
b1 (x11_isRim p2 I) fun r14 =>
if r14 = 0 then (
some ((0 : Int32), I)) else
if p3 = 4 then (
b2 (x11_leans p1 p2 I) fun r15 I16 =>
if r15 = 0 then (
some ((0 : Int32), I16)) else
some ((1 : Int32), I16)) else
some ((1 : Int32), I)) else
if p3 = 4 then (
b2 (x11_leans p1 p2 I) fun r12 I13 =>
if r12 = 0 then (
some ((0 : Int32), I13)) else
some ((1 : Int32), I13)) else
some ((1 : Int32), I)) else
if p3 = 2 then (
b1 (x11_isRim p2 I) fun r8 =>
if r8 = 0 then (
some ((0 : Int32), I)) else
if p3 = 4 then (
b2 (x11_leans p1 p2 I) fun r9 I10 =>
if r9 = 0 then (
some ((0 : Int32), I10)) else
some ((1 : Int32), I10)) else
some ((1 : Int32), I)) else
if p3 = 4 then (
b2 (x11_leans p1 p2 I) fun r6 I7 =>
if r6 = 0 then (
some ((0 : Int32), I7)) else
some ((1 : Int32), I7)) else
some ((1 : Int32), I)
theorem ct_x11_canTry {X : WX} {p1 : Int32} {p2 : Int32} {p3 : Int32} {I : MI} {L : ML} {R : MR} {S : MS} (hK : okm R S) : Ct X yX11_canTry cX11_canTry 4 (some .boolean) 3 67 [.ref (X.1 + 102), .int p1, .int p2, .int p3] (I, L, R, S) (x11_canTry p1 p2 p3 I) (fun r => (some (.int r.1), (r.2, L, R, S))) := by
  refine Ct.of (by decide) (Nat.le_of_ble_eq_true rfl) [(0, .ref (X.1 + 102)), (1, .int p1), (2, .int p2), (3, .int p3)] rfl ?_
  unfold x11_canTry
  refine s_aload_n 0 dX11_canTry_0 rfl rfl ?_
  refine s_iload_n 2 dX11_canTry_1 rfl rfl ?_
  refine s_callV1_i0 dX11_canTry_2 rfl lkV_RX11_501 (S_102 hK) (Nat.le_of_ble_eq_true rfl) (Nat.le_of_ble_eq_true rfl) (Nat.le_of_ble_eq_true rfl) (ct_x11_isAfloat hK) (fun r1 => ?_)
  refine s_if_eq (tgt := 86) dX11_canTry_5 rfl rfl (fun _ => ?_) (fun _ => ?_)
  · skip
    refine s_iconst (v := 0) dX11_canTry_86 rfl cI_0 ?_
    exact s_zret dX11_canTry_87 rfl (Or.inl rfl) (fun f h => h)
  · skip
    refine s_aload_n 0 dX11_canTry_8 rfl rfl ?_
    refine s_iload_n 1 dX11_canTry_9 rfl rfl ?_
    refine s_iload_n 2 dX11_canTry_10 rfl rfl ?_
    refine s_callV2_i0 dX11_canTry_11 rfl lkV_RX11_361 (S_102 hK) (Nat.le_of_ble_eq_true rfl) (Nat.le_of_ble_eq_true rfl) (Nat.le_of_ble_eq_true rfl) (ct_x11_far hK) (fun r2 => ?_)
    refine s_aload_n 0 dX11_canTry_14 rfl rfl ?_
    refine s_getR 132 dX11_canTry_15 rfl fl_11_103 rfl (S_102 hK) (R_102_44 hK) ?_
    refine s_iload_n 1 dX11_canTry_18 rfl rfl ?_
    refine sm_ck (fun g3 => ?_)
    refine s_iald dX11_canTry_19 rfl (S_132 hK) g3 ?_
    refine s_icmp_gt (tgt := 86) dX11_canTry_20 rfl rfl (fun _ => ?_) (fun _ => ?_)
    · skip
      refine s_iconst (v := 0) dX11_canTry_86 rfl cI_0 ?_
      exact s_zret dX11_canTry_87 rfl (Or.inl rfl) (fun f h => h)
    · skip
      refine s_aload_n 0 dX11_canTry_23 rfl rfl ?_
      refine s_getR 137 dX11_canTry_24 rfl fl_11_121 rfl (S_102 hK) (R_102_66 hK) ?_
      refine s_bipush (v := 50) dX11_canTry_27 rfl cB_50 ?_
      refine s_iconst (v := 3) dX11_canTry_29 rfl cI_3 ?_
      refine s_iload_n 1 dX11_canTry_30 rfl rfl ?_
      refine s_imul dX11_canTry_31 rfl ?_
      refine s_iadd dX11_canTry_32 rfl ?_
      refine sm_ck (fun g4 => ?_)
      refine s_iald dX11_canTry_33 rfl (S_137 hK) g4 ?_
      refine s_iload_n 3 dX11_canTry_34 rfl rfl ?_
      refine s_callS1_i0 dX11_canTry_35 rfl lkS_RX11_504 (Nat.le_of_ble_eq_true rfl) (Nat.le_of_ble_eq_true rfl) (Nat.le_of_ble_eq_true rfl) (ct_x11_takesBreath hK) (fun r5 => ?_)
      refine s_icmp_lt (tgt := 86) dX11_canTry_38 rfl rfl (fun _ => ?_) (fun _ => ?_)
      · skip
        refine s_iconst (v := 0) dX11_canTry_86 rfl cI_0 ?_
        exact s_zret dX11_canTry_87 rfl (Or.inl rfl) (fun f h => h)
      · skip
        refine s_iload_n 3 dX11_canTry_41 rfl rfl ?_
        refine s_iconst (v := 1) dX11_canTry_42 rfl cI_1 ?_
        refine s_icmp_ne (tgt := 55) dX11_canTry_43 rfl rfl (fun _ => ?_) (fun _ => ?_)
        · skip
          refine s_iload_n 3 dX11_canTry_55 rfl rfl ?_
          refine s_iconst (v := 2) dX11_canTry_56 rfl cI_2 ?_
          refine s_icmp_ne (tgt := 68) dX11_canTry_57 rfl rfl (fun _ => ?_) (fun _ => ?_)
          · skip
            refine s_iload_n 3 dX11_canTry_68 rfl rfl ?_
            refine s_iconst (v := 4) dX11_canTry_69 rfl cI_4 ?_
            refine s_icmp_ne (tgt := 82) dX11_canTry_70 rfl rfl (fun _ => ?_) (fun _ => ?_)
            · skip
              refine s_iconst (v := 1) dX11_canTry_82 rfl cI_1 ?_
              refine s_goto (tgt := 87) dX11_canTry_83 rfl ?_
              exact s_zret dX11_canTry_87 rfl (Or.inr rfl) (fun f h => h)
            · skip
              refine s_aload_n 0 dX11_canTry_73 rfl rfl ?_
              refine s_iload_n 1 dX11_canTry_74 rfl rfl ?_
              refine s_iload_n 2 dX11_canTry_75 rfl rfl ?_
              refine s_callV2_i1 dX11_canTry_76 rfl lkV_RX11_507 (S_102 hK) (Nat.le_of_ble_eq_true rfl) (Nat.le_of_ble_eq_true rfl) (Nat.le_of_ble_eq_true rfl) (ct_x11_leans hK) (fun r6 I7 => ?_)
              refine s_if_eq (tgt := 86) dX11_canTry_79 rfl rfl (fun _ => ?_) (fun _ => ?_)
              · skip
                refine s_iconst (v := 0) dX11_canTry_86 rfl cI_0 ?_
                exact s_zret dX11_canTry_87 rfl (Or.inl rfl) (fun f h => h)
              · skip
                refine s_iconst (v := 1) dX11_canTry_82 rfl cI_1 ?_
                refine s_goto (tgt := 87) dX11_canTry_83 rfl ?_
                exact s_zret dX11_canTry_87 rfl (Or.inr rfl) (fun f h => h)
          · skip
            refine s_aload_n 0 dX11_canTry_60 rfl rfl ?_
            refine s_iload_n 2 dX11_canTry_61 rfl rfl ?_
            refine s_callV1_i0 dX11_canTry_62 rfl lkV_RX11_358 (S_102 hK) (Nat.le_of_ble_eq_true rfl) (Nat.le_of_ble_eq_true rfl) (Nat.le_of_ble_eq_true rfl) (ct_x11_isRim hK) (fun r8 => ?_)
            refine s_if_eq (tgt := 86) dX11_canTry_65 rfl rfl (fun _ => ?_) (fun _ => ?_)
            · skip
              refine s_iconst (v := 0) dX11_canTry_86 rfl cI_0 ?_
              exact s_zret dX11_canTry_87 rfl (Or.inl rfl) (fun f h => h)
            · skip
              refine s_iload_n 3 dX11_canTry_68 rfl rfl ?_
              refine s_iconst (v := 4) dX11_canTry_69 rfl cI_4 ?_
              refine s_icmp_ne (tgt := 82) dX11_canTry_70 rfl rfl (fun _ => ?_) (fun _ => ?_)
              · skip
                refine s_iconst (v := 1) dX11_canTry_82 rfl cI_1 ?_
                refine s_goto (tgt := 87) dX11_canTry_83 rfl ?_
                exact s_zret dX11_canTry_87 rfl (Or.inr rfl) (fun f h => h)
              · skip
                refine s_aload_n 0 dX11_canTry_73 rfl rfl ?_
                refine s_iload_n 1 dX11_canTry_74 rfl rfl ?_
                refine s_iload_n 2 dX11_canTry_75 rfl rfl ?_
                refine s_callV2_i1 dX11_canTry_76 rfl lkV_RX11_507 (S_102 hK) (Nat.le_of_ble_eq_true rfl) (Nat.le_of_ble_eq_true rfl) (Nat.le_of_ble_eq_true rfl) (ct_x11_leans hK) (fun r9 I10 => ?_)
                refine s_if_eq (tgt := 86) dX11_canTry_79 rfl rfl (fun _ => ?_) (fun _ => ?_)
                · skip
                  refine s_iconst (v := 0) dX11_canTry_86 rfl cI_0 ?_
                  exact s_zret dX11_canTry_87 rfl (Or.inl rfl) (fun f h => h)
                · skip
                  refine s_iconst (v := 1) dX11_canTry_82 rfl cI_1 ?_
                  refine s_goto (tgt := 87) dX11_canTry_83 rfl ?_
                  exact s_zret dX11_canTry_87 rfl (Or.inr rfl) (fun f h => h)
        · skip
          refine s_aload_n 0 dX11_canTry_46 rfl rfl ?_
          refine s_getR 136 dX11_canTry_47 rfl fl_11_115 rfl (S_102 hK) (R_102_48 hK) ?_
          refine s_iload_n 2 dX11_canTry_50 rfl rfl ?_
          refine sm_ck (fun g11 => ?_)
          refine s_zald dX11_canTry_51 rfl (S_136 hK) g11 ?_
          refine s_if_eq (tgt := 86) dX11_canTry_52 rfl rfl (fun _ => ?_) (fun _ => ?_)
          · skip
            refine s_iconst (v := 0) dX11_canTry_86 rfl cI_0 ?_
            exact s_zret dX11_canTry_87 rfl (Or.inl rfl) (fun f h => h)
          · skip
            refine s_iload_n 3 dX11_canTry_55 rfl rfl ?_
            refine s_iconst (v := 2) dX11_canTry_56 rfl cI_2 ?_
            refine s_icmp_ne (tgt := 68) dX11_canTry_57 rfl rfl (fun _ => ?_) (fun _ => ?_)
            · skip
              refine s_iload_n 3 dX11_canTry_68 rfl rfl ?_
              refine s_iconst (v := 4) dX11_canTry_69 rfl cI_4 ?_
              refine s_icmp_ne (tgt := 82) dX11_canTry_70 rfl rfl (fun _ => ?_) (fun _ => ?_)
              · skip
                refine s_iconst (v := 1) dX11_canTry_82 rfl cI_1 ?_
                refine s_goto (tgt := 87) dX11_canTry_83 rfl ?_
                exact s_zret dX11_canTry_87 rfl (Or.inr rfl) (fun f h => h)
              · skip
                refine s_aload_n 0 dX11_canTry_73 rfl rfl ?_
                refine s_iload_n 1 dX11_canTry_74 rfl rfl ?_
                refine s_iload_n 2 dX11_canTry_75 rfl rfl ?_
                refine s_callV2_i1 dX11_canTry_76 rfl lkV_RX11_507 (S_102 hK) (Nat.le_of_ble_eq_true rfl) (Nat.le_of_ble_eq_true rfl) (Nat.le_of_ble_eq_true rfl) (ct_x11_leans hK) (fun r12 I13 => ?_)
                refine s_if_eq (tgt := 86) dX11_canTry_79 rfl rfl (fun _ => ?_) (fun _ => ?_)
                · skip
                  refine s_iconst (v := 0) dX11_canTry_86 rfl cI_0 ?_
                  exact s_zret dX11_canTry_87 rfl (Or.inl rfl) (fun f h => h)
                · skip
                  refine s_iconst (v := 1) dX11_canTry_82 rfl cI_1 ?_
                  refine s_goto (tgt := 87) dX11_canTry_83 rfl ?_
                  exact s_zret dX11_canTry_87 rfl (Or.inr rfl) (fun f h => h)
            · skip
              refine s_aload_n 0 dX11_canTry_60 rfl rfl ?_
              refine s_iload_n 2 dX11_canTry_61 rfl rfl ?_
              refine s_callV1_i0 dX11_canTry_62 rfl lkV_RX11_358 (S_102 hK) (Nat.le_of_ble_eq_true rfl) (Nat.le_of_ble_eq_true rfl) (Nat.le_of_ble_eq_true rfl) (ct_x11_isRim hK) (fun r14 => ?_)
              refine s_if_eq (tgt := 86) dX11_canTry_65 rfl rfl (fun _ => ?_) (fun _ => ?_)
              · skip
                refine s_iconst (v := 0) dX11_canTry_86 rfl cI_0 ?_
                exact s_zret dX11_canTry_87 rfl (Or.inl rfl) (fun f h => h)
              · skip
                refine s_iload_n 3 dX11_canTry_68 rfl rfl ?_
                refine s_iconst (v := 4) dX11_canTry_69 rfl cI_4 ?_
                refine s_icmp_ne (tgt := 82) dX11_canTry_70 rfl rfl (fun _ => ?_) (fun _ => ?_)
                · skip
                  refine s_iconst (v := 1) dX11_canTry_82 rfl cI_1 ?_
                  refine s_goto (tgt := 87) dX11_canTry_83 rfl ?_
                  exact s_zret dX11_canTry_87 rfl (Or.inr rfl) (fun f h => h)
                · skip
                  refine s_aload_n 0 dX11_canTry_73 rfl rfl ?_
                  refine s_iload_n 1 dX11_canTry_74 rfl rfl ?_
                  refine s_iload_n 2 dX11_canTry_75 rfl rfl ?_
                  refine s_callV2_i1 dX11_canTry_76 rfl lkV_RX11_507 (S_102 hK) (Nat.le_of_ble_eq_true rfl) (Nat.le_of_ble_eq_true rfl) (Nat.le_of_ble_eq_true rfl) (ct_x11_leans hK) (fun r15 I16 => ?_)
                  refine s_if_eq (tgt := 86) dX11_canTry_79 rfl rfl (fun _ => ?_) (fun _ => ?_)
                  · skip
                    refine s_iconst (v := 0) dX11_canTry_86 rfl cI_0 ?_
                    exact s_zret dX11_canTry_87 rfl (Or.inl rfl) (fun f h => h)
                  · skip
                    refine s_iconst (v := 1) dX11_canTry_82 rfl cI_1 ?_
                    refine s_goto (tgt := 87) dX11_canTry_83 rfl ?_
                    exact s_zret dX11_canTry_87 rfl (Or.inr rfl) (fun f h => h)
noncomputable def x11_oddsOf (p1 : Int32) (p2 : Int32) (p3 : Int32) (I : MI) : Option (Int32 × MI) :=
b1 (
if (((I 102 58) >>> (p3 &&& 31)) &&& 1) = 1 then (
b2 (x11_worked p3 p1 p2 (0 : Int32) (0 : Int32) I) fun r2 I3 =>
some (r2, I3)) else
some ((50 : Int32), I)) fun e1 =>
lt e1.1 fun v4 =>
if v4 < 0 then (
some ((0 : Int32), e1.2)) else
if 100 < v4 then (
some ((100 : Int32), e1.2)) else
some (v4, e1.2)
theorem ct_x11_oddsOf {X : WX} {p1 : Int32} {p2 : Int32} {p3 : Int32} {I : MI} {L : ML} {R : MR} {S : MS} (hK : okm R S) : Ct X yX11_oddsOf cX11_oddsOf 5 (some .int) 4 96 [.ref (X.1 + 102), .int p1, .int p2, .int p3] (I, L, R, S) (x11_oddsOf p1 p2 p3 I) (fun r => (some (.int r.1), (r.2, L, R, S))) := by
  refine Ct.of (by decide) (Nat.le_of_ble_eq_true rfl) [(0, .ref (X.1 + 102)), (1, .int p1), (2, .int p2), (3, .int p3)] rfl ?_
  unfold x11_oddsOf
  refine s_aload_n 0 dX11_oddsOf_0 rfl rfl ?_
  refine s_getI dX11_oddsOf_1 rfl fl_11_461 (S_102 hK) ?_
  refine s_iload_n 3 dX11_oddsOf_4 rfl rfl ?_
  refine s_ishr dX11_oddsOf_5 rfl ?_
  refine s_iconst (v := 1) dX11_oddsOf_6 rfl cI_1 ?_
  refine s_iand dX11_oddsOf_7 rfl ?_
  refine s_iconst (v := 1) dX11_oddsOf_8 rfl cI_1 ?_
  refine sm_reg (pcx := 26) (lsx := fun e1 => []) (stx := fun e1 => [.int e1.1]) (ux := fun e1 => (e1.2, L, R, S)) ?_ (fun e1 => ?_)
  · skip
    refine s_icmp_ne (tgt := 24) dX11_oddsOf_9 rfl rfl (fun _ => ?_) (fun _ => ?_)
    · skip
      refine s_bipush (v := 50) dX11_oddsOf_24 rfl cB_50 ?_
      refine s_pick [] rfl ?_
      exact sm_exit (fun f h => h)
    · skip
      refine s_aload_n 0 dX11_oddsOf_12 rfl rfl ?_
      refine s_iload_n 3 dX11_oddsOf_13 rfl rfl ?_
      refine s_iload_n 1 dX11_oddsOf_14 rfl rfl ?_
      refine s_iload_n 2 dX11_oddsOf_15 rfl rfl ?_
      refine s_iconst (v := 0) dX11_oddsOf_16 rfl cI_0 ?_
      refine s_iconst (v := 0) dX11_oddsOf_17 rfl cI_0 ?_
      refine s_callV5_i1 dX11_oddsOf_18 rfl lkV_RX11_511 (S_102 hK) (Nat.le_of_ble_eq_true rfl) (Nat.le_of_ble_eq_true rfl) (Nat.le_of_ble_eq_true rfl) (ct_x11_worked hK) (fun r2 I3 => ?_)
      refine s_goto (tgt := 26) dX11_oddsOf_21 rfl ?_
      refine s_pick [] rfl ?_
      exact sm_exit (fun f h => h)
  · skip
    refine s_istoreL (fun v4 => [(4, .int v4)]) dX11_oddsOf_26 rfl (by decide) (fun _ => rfl) (fun v4 => ?_)
    refine s_iload 0 dX11_oddsOf_28 rfl rfl ?_
    refine s_if_ge (tgt := 37) dX11_oddsOf_30 rfl rfl (fun _ => ?_) (fun _ => ?_)
    · skip
      refine s_iload 0 dX11_oddsOf_37 rfl rfl ?_
      refine s_bipush (v := 100) dX11_oddsOf_39 rfl cB_100 ?_
      refine s_icmp_le (tgt := 49) dX11_oddsOf_41 rfl rfl (fun _ => ?_) (fun _ => ?_)
      · skip
        refine s_iload 0 dX11_oddsOf_49 rfl rfl ?_
        exact s_iret dX11_oddsOf_51 rfl (fun f h => h)
      · skip
        refine s_bipush (v := 100) dX11_oddsOf_44 rfl cB_100 ?_
        refine s_goto (tgt := 51) dX11_oddsOf_46 rfl ?_
        exact s_iret dX11_oddsOf_51 rfl (fun f h => h)
    · skip
      refine s_iconst (v := 0) dX11_oddsOf_33 rfl cI_0 ?_
      refine s_goto (tgt := 51) dX11_oddsOf_34 rfl ?_
      exact s_iret dX11_oddsOf_51 rfl (fun f h => h)
noncomputable def x11_push_L34s (I : MI) (rec : Int32 → Int32 → Int32 → Option (Int32 × Int32 × Int32)) (w3 : Int32) (w4 : Int32) (w5 : Int32) : Option (Int32 × Int32 × Int32) :=
b1 (x11_isCell w3 w4 I) fun r8 =>
if r8 = 0 then (
some (w3, w4, w5)) else
b1 (x11_afloat w3 w4 I) fun r9 =>
if r9 < 0 then (
some (w3, w4, w5)) else
lt (w3 + (I 102 68)) fun v10 =>
lt (w4 + (I 102 69)) fun v11 =>
lt (w5 + 1) fun v12 =>
rec v10 v11 v12
noncomputable def x11_push_L34 (I : MI) : Nat → Int32 → Int32 → Int32 → Option (Int32 × Int32 × Int32)
  | 0 => fun _ _ _ => none
  | n + 1 => x11_push_L34s I (x11_push_L34 I n)
noncomputable def x11_push_L90s (c5 : Int32) (rec : Int32 → Int32 → Int32 → MI → Option (MI)) (w3 : Int32) (w4 : Int32) (w6 : Int32) (I : MI) : Option (MI) :=
if w6 < c5 then (
b1 (x11_afloat (w3 - (I 102 68)) (w4 - (I 102 69)) I) fun r16 =>
lt r16 fun v17 =>
ck (vp_in (5 * v17) 128) <|
lt (wI I 137 (ix (5 * v17)) w3) fun I18 =>
ck (vp_in ((5 * v17) + 1) 128) <|
lt (wI I18 137 (ix ((5 * v17) + 1)) w4) fun I20 =>
lt (w3 - (I20 102 68)) fun v22 =>
lt (w4 - (I20 102 69)) fun v23 =>
lt (w6 + 1) fun v24 =>
rec v22 v23 v24 I20) else
some I
noncomputable def x11_push_L90 (c5 : Int32) : Nat → Int32 → Int32 → Int32 → MI → Option (MI)
  | 0 => fun _ _ _ _ => none
  | n + 1 => x11_push_L90s c5 (x11_push_L90 c5 n)
noncomputable def x11_push (p1 : Int32) (p2 : Int32) (I : MI) : Option (MI) :=
b2 (x11_layWay p1 p2 I) fun r1 I2 =>
if r1 = 0 then (
some I2) else
ck (vp_in (5 * p2) 128) <|
lt (I2 137 (ix (5 * p2))) fun v4 =>
ck (vp_in ((5 * p2) + 1) 128) <|
lt (I2 137 (ix ((5 * p2) + 1))) fun v6 =>
lt (0 : Int32) fun v7 =>
b1 (x11_push_L34 I2 FU v4 v6 v7) fun e13 =>
b1 (x11_isCell e13.1 e13.2.1 I2) fun r14 =>
if r14 = 0 then (
some I2) else
lt (0 : Int32) fun v15 =>
b1 (x11_push_L90 e13.2.2 FU e13.1 e13.2.1 v15 I2) fun e25 =>
some e25
theorem x11_push_L34_ok {X : WX} {n0 s0 : Nat} {I : MI} {L : ML} {R : MR} {S : MS} (hK : okm R S) : ∀ (n : Nat) (w3 : Int32) (w4 : Int32) (w5 : Int32), Sim X yX11_push cX11_push 8 none 2 45 n0 s0 34 [(0, .ref (X.1 + 102)), (3, .int w3), (4, .int w4), (5, .int w5)] [] (I, L, R, S) (x11_push_L34 I n w3 w4 w5) (fun b f => Ex X yX11_push cX11_push 8 none 2 45 n0 s0 76 [(0, .ref (X.1 + 102)), (3, .int b.1), (4, .int b.2.1), (5, .int b.2.2)] [] (I, L, R, S) f) := by
  intro n
  induction n with
  | zero =>
    intro w3 w4 w5
    exact sm_none
  | succ n ih =>
    intro w3 w4 w5
    change Sim _ _ _ _ _ _ _ _ _ _ _ _ _ (x11_push_L34s I (x11_push_L34 I n) w3 w4 w5) _
    unfold x11_push_L34s
    refine s_aload_n 0 dX11_push_34 rfl rfl ?_
    refine s_iload_n 1 dX11_push_35 rfl rfl ?_
    refine s_iload 2 dX11_push_36 rfl rfl ?_
    refine s_callV2_i0 dX11_push_38 rfl lkV_RX11_526 (S_102 hK) (Nat.le_of_ble_eq_true rfl) (Nat.le_of_ble_eq_true rfl) (Nat.le_of_ble_eq_true rfl) (ct_x11_isCell hK) (fun r8 => ?_)
    refine s_if_eq (tgt := 76) dX11_push_41 rfl rfl (fun _ => ?_) (fun _ => ?_)
    · skip
      exact sm_exit (fun f h => h)
    · skip
      refine s_aload_n 0 dX11_push_44 rfl rfl ?_
      refine s_iload_n 1 dX11_push_45 rfl rfl ?_
      refine s_iload 2 dX11_push_46 rfl rfl ?_
      refine s_callV2_i0 dX11_push_48 rfl lkV_RX11_523 (S_102 hK) (Nat.le_of_ble_eq_true rfl) (Nat.le_of_ble_eq_true rfl) (Nat.le_of_ble_eq_true rfl) (ct_x11_afloat hK) (fun r9 => ?_)
      refine s_if_lt (tgt := 76) dX11_push_51 rfl rfl (fun _ => ?_) (fun _ => ?_)
      · skip
        exact sm_exit (fun f h => h)
      · skip
        refine s_iload_n 1 dX11_push_54 rfl rfl ?_
        refine s_aload_n 0 dX11_push_55 rfl rfl ?_
        refine s_getI dX11_push_56 rfl fl_11_514 (S_102 hK) ?_
        refine s_iadd dX11_push_59 rfl ?_
        refine s_istore_nL (fun v10 => [(3, .int v10), (0, .ref (X.1 + 102)), (4, .int w4), (5, .int w5)]) dX11_push_60 rfl (by decide) (fun _ => rfl) (fun v10 => ?_)
        refine s_iload 2 dX11_push_61 rfl rfl ?_
        refine s_aload_n 1 dX11_push_63 rfl rfl ?_
        refine s_getI dX11_push_64 rfl fl_11_517 (S_102 hK) ?_
        refine s_iadd dX11_push_67 rfl ?_
        refine s_istoreL (fun v11 => [(4, .int v11), (3, .int v10), (0, .ref (X.1 + 102)), (5, .int w5)]) dX11_push_68 rfl (by decide) (fun _ => rfl) (fun v11 => ?_)
        refine s_iincL 3 (c := 1) (fun v12 => [(5, .int v12), (4, .int v11), (3, .int v10), (0, .ref (X.1 + 102))]) dX11_push_70 rfl rfl cI_1 (by decide) (fun _ => rfl) (fun v12 => ?_)
        refine s_goto (tgt := 34) dX11_push_73 rfl ?_
        refine s_pick [3, 2, 1, 0] rfl ?_
        exact ih v10 v11 v12
theorem x11_push_L90_ok {X : WX} {n0 s0 : Nat} {c5 : Int32} {L : ML} {R : MR} {S : MS} (hK : okm R S) : ∀ (n : Nat) (w3 : Int32) (w4 : Int32) (w6 : Int32) (I : MI), Sim X yX11_push cX11_push 8 none 2 45 n0 s0 90 [(0, .ref (X.1 + 102)), (3, .int w3), (4, .int w4), (5, .int c5), (6, .int w6)] [] (I, L, R, S) (x11_push_L90 c5 n w3 w4 w6 I) (fun b f => Ex X yX11_push cX11_push 8 none 2 45 n0 s0 161 [] [] (b, L, R, S) f) := by
  intro n
  induction n with
  | zero =>
    intro w3 w4 w6 I
    exact sm_none
  | succ n ih =>
    intro w3 w4 w6 I
    change Sim _ _ _ _ _ _ _ _ _ _ _ _ _ (x11_push_L90s c5 (x11_push_L90 c5 n) w3 w4 w6 I) _
    unfold x11_push_L90s
    refine s_iload 4 dX11_push_90 rfl rfl ?_
    refine s_iload 3 dX11_push_92 rfl rfl ?_
    refine s_icmp_ge (tgt := 161) dX11_push_94 rfl rfl (fun _ => ?_) (fun _ => ?_)
    · skip
      refine s_pick [] rfl ?_
      exact sm_exit (fun f h => h)
    · skip
      refine s_aload_n 0 dX11_push_97 rfl rfl ?_
      refine s_iload_n 1 dX11_push_98 rfl rfl ?_
      refine s_aload_n 0 dX11_push_99 rfl rfl ?_
      refine s_getI dX11_push_100 rfl fl_11_514 (S_102 hK) ?_
      refine s_isub dX11_push_103 rfl ?_
      refine s_iload 2 dX11_push_104 rfl rfl ?_
      refine s_aload_n 0 dX11_push_106 rfl rfl ?_
      refine s_getI dX11_push_107 rfl fl_11_517 (S_102 hK) ?_
      refine s_isub dX11_push_110 rfl ?_
      refine s_callV2_i0 dX11_push_111 rfl lkV_RX11_523 (S_102 hK) (Nat.le_of_ble_eq_true rfl) (Nat.le_of_ble_eq_true rfl) (Nat.le_of_ble_eq_true rfl) (ct_x11_afloat hK) (fun r16 => ?_)
      refine s_istoreL (fun v17 => [(7, .int v17), (0, .ref (X.1 + 102)), (3, .int w3), (4, .int w4), (5, .int c5), (6, .int w6)]) dX11_push_114 rfl (by decide) (fun _ => rfl) (fun v17 => ?_)
      refine s_aload_n 1 dX11_push_116 rfl rfl ?_
      refine s_getR 137 dX11_push_117 rfl fl_11_121 rfl (S_102 hK) (R_102_66 hK) ?_
      refine s_iconst (v := 5) dX11_push_120 rfl cI_5 ?_
      refine s_iload 0 dX11_push_121 rfl rfl ?_
      refine s_imul dX11_push_123 rfl ?_
      refine s_iload_n 2 dX11_push_124 rfl rfl ?_
      refine sm_ck (fun g19 => ?_)
      refine s_iastL dX11_push_125 rfl (S_137 hK) g19 (fun I18 => ?_)
      refine s_aload_n 1 dX11_push_126 rfl rfl ?_
      refine s_getR 137 dX11_push_127 rfl fl_11_121 rfl (S_102 hK) (R_102_66 hK) ?_
      refine s_iconst (v := 5) dX11_push_130 rfl cI_5 ?_
      refine s_iload 0 dX11_push_131 rfl rfl ?_
      refine s_imul dX11_push_133 rfl ?_
      refine s_iconst (v := 1) dX11_push_134 rfl cI_1 ?_
      refine s_iadd dX11_push_135 rfl ?_
      refine s_iload 3 dX11_push_136 rfl rfl ?_
      refine sm_ck (fun g21 => ?_)
      refine s_iastL dX11_push_138 rfl (S_137 hK) g21 (fun I20 => ?_)
      refine s_iload_n 2 dX11_push_139 rfl rfl ?_
      refine s_aload_n 1 dX11_push_140 rfl rfl ?_
      refine s_getI dX11_push_141 rfl fl_11_514 (S_102 hK) ?_
      refine s_isub dX11_push_144 rfl ?_
      refine s_istore_nL (fun v22 => [(3, .int v22), (7, .int v17), (0, .ref (X.1 + 102)), (4, .int w4), (5, .int c5), (6, .int w6)]) dX11_push_145 rfl (by decide) (fun _ => rfl) (fun v22 => ?_)
      refine s_iload 3 dX11_push_146 rfl rfl ?_
      refine s_aload_n 2 dX11_push_148 rfl rfl ?_
      refine s_getI dX11_push_149 rfl fl_11_517 (S_102 hK) ?_
      refine s_isub dX11_push_152 rfl ?_
      refine s_istoreL (fun v23 => [(4, .int v23), (3, .int v22), (7, .int v17), (0, .ref (X.1 + 102)), (5, .int c5), (6, .int w6)]) dX11_push_153 rfl (by decide) (fun _ => rfl) (fun v23 => ?_)
      refine s_iincL 5 (c := 1) (fun v24 => [(6, .int v24), (4, .int v23), (3, .int v22), (7, .int v17), (0, .ref (X.1 + 102)), (5, .int c5)]) dX11_push_155 rfl rfl cI_1 (by decide) (fun _ => rfl) (fun v24 => ?_)
      refine s_goto (tgt := 90) dX11_push_158 rfl ?_
      refine s_pick [4, 2, 1, 5, 0] rfl ?_
      exact ih v22 v23 v24 I20
theorem ct_x11_push {X : WX} {p1 : Int32} {p2 : Int32} {I : MI} {L : ML} {R : MR} {S : MS} (hK : okm R S) : Ct X yX11_push cX11_push 8 none 2 45 [.ref (X.1 + 102), .int p1, .int p2] (I, L, R, S) (x11_push p1 p2 I) (fun r => (none, (r, L, R, S))) := by
  refine Ct.of (by decide) (Nat.le_of_ble_eq_true rfl) [(0, .ref (X.1 + 102)), (1, .int p1), (2, .int p2)] rfl ?_
  unfold x11_push
  refine s_aload_n 0 dX11_push_0 rfl rfl ?_
  refine s_iload_n 1 dX11_push_1 rfl rfl ?_
  refine s_iload_n 2 dX11_push_2 rfl rfl ?_
  refine s_callV2_i1 dX11_push_3 rfl lkV_RX11_520 (S_102 hK) (Nat.le_of_ble_eq_true rfl) (Nat.le_of_ble_eq_true rfl) (Nat.le_of_ble_eq_true rfl) (ct_x11_layWay hK) (fun r1 I2 => ?_)
  refine s_if_ne (tgt := 10) dX11_push_6 rfl rfl (fun _ => ?_) (fun _ => ?_)
  · skip
    refine s_aload_n 0 dX11_push_10 rfl rfl ?_
    refine s_getR 137 dX11_push_11 rfl fl_11_121 rfl (S_102 hK) (R_102_66 hK) ?_
    refine s_iconst (v := 5) dX11_push_14 rfl cI_5 ?_
    refine s_iload_n 2 dX11_push_15 rfl rfl ?_
    refine s_imul dX11_push_16 rfl ?_
    refine sm_ck (fun g3 => ?_)
    refine s_iald dX11_push_17 rfl (S_137 hK) g3 ?_
    refine s_istore_nL (fun v4 => [(3, .int v4), (0, .ref (X.1 + 102)), (1, .int p1), (2, .int p2)]) dX11_push_18 rfl (by decide) (fun _ => rfl) (fun v4 => ?_)
    refine s_aload_n 1 dX11_push_19 rfl rfl ?_
    refine s_getR 137 dX11_push_20 rfl fl_11_121 rfl (S_102 hK) (R_102_66 hK) ?_
    refine s_iconst (v := 5) dX11_push_23 rfl cI_5 ?_
    refine s_iload_n 3 dX11_push_24 rfl rfl ?_
    refine s_imul dX11_push_25 rfl ?_
    refine s_iconst (v := 1) dX11_push_26 rfl cI_1 ?_
    refine s_iadd dX11_push_27 rfl ?_
    refine sm_ck (fun g5 => ?_)
    refine s_iald dX11_push_28 rfl (S_137 hK) g5 ?_
    refine s_istoreL (fun v6 => [(4, .int v6), (3, .int v4), (0, .ref (X.1 + 102)), (1, .int p1), (2, .int p2)]) dX11_push_29 rfl (by decide) (fun _ => rfl) (fun v6 => ?_)
    refine s_iconst (v := 0) dX11_push_31 rfl cI_0 ?_
    refine s_istoreL (fun v7 => [(5, .int v7), (4, .int v6), (3, .int v4), (0, .ref (X.1 + 102)), (1, .int p1), (2, .int p2)]) dX11_push_32 rfl (by decide) (fun _ => rfl) (fun v7 => ?_)
    refine s_pick [3, 2, 1, 0] rfl ?_
    refine sm_reg (x11_push_L34_ok hK FU v4 v6 v7) (fun e13 => ?_)
    refine s_aload_n 0 dX11_push_76 rfl rfl ?_
    refine s_iload_n 1 dX11_push_77 rfl rfl ?_
    refine s_iload 2 dX11_push_78 rfl rfl ?_
    refine s_callV2_i0 dX11_push_80 rfl lkV_RX11_526 (S_102 hK) (Nat.le_of_ble_eq_true rfl) (Nat.le_of_ble_eq_true rfl) (Nat.le_of_ble_eq_true rfl) (ct_x11_isCell hK) (fun r14 => ?_)
    refine s_if_ne (tgt := 87) dX11_push_83 rfl rfl (fun _ => ?_) (fun _ => ?_)
    · skip
      refine s_iconst (v := 0) dX11_push_87 rfl cI_0 ?_
      refine s_istoreL (fun v15 => [(6, .int v15), (0, .ref (X.1 + 102)), (3, .int e13.1), (4, .int e13.2.1), (5, .int e13.2.2)]) dX11_push_88 rfl (by decide) (fun _ => rfl) (fun v15 => ?_)
      refine s_pick [1, 2, 3, 4, 0] rfl ?_
      refine sm_reg (x11_push_L90_ok hK FU e13.1 e13.2.1 v15 I2) (fun e25 => ?_)
      exact s_vret dX11_push_161 rfl (fun f h => h)
    · skip
      exact s_vret dX11_push_86 rfl (fun f h => h)
  · skip
    exact s_vret dX11_push_9 rfl (fun f h => h)
noncomputable def x11_spend (p1 : Int32) (p2 : Int32) (I : MI) : Option (MI) :=
ck (vp_in (50 + (3 * p1)) 128) <|
b1 (x11_takesBreath p2 I) fun r2 =>
ck (vp_in (50 + (3 * p1)) 128) <|
lt (wI I 137 (ix (50 + (3 * p1))) ((I 137 (ix (50 + (3 * p1)))) - r2)) fun I3 =>
ck (vp_in (52 + (3 * p1)) 128) <|
b1 (x11_seconds p2 I3) fun r6 =>
ck (vp_in (52 + (3 * p1)) 128) <|
lt (wI I3 137 (ix (52 + (3 * p1))) ((I3 137 (ix (52 + (3 * p1)))) + r6)) fun I7 =>
some I7
theorem ct_x11_spend {X : WX} {p1 : Int32} {p2 : Int32} {I : MI} {L : ML} {R : MR} {S : MS} (hK : okm R S) : Ct X yX11_spend cX11_spend 3 none 1 20 [.ref (X.1 + 102), .int p1, .int p2] (I, L, R, S) (x11_spend p1 p2 I) (fun r => (none, (r, L, R, S))) := by
  refine Ct.of (by decide) (Nat.le_of_ble_eq_true rfl) [(0, .ref (X.1 + 102)), (1, .int p1), (2, .int p2)] rfl ?_
  unfold x11_spend
  refine s_aload_n 0 dX11_spend_0 rfl rfl ?_
  refine s_getR 137 dX11_spend_1 rfl fl_11_121 rfl (S_102 hK) (R_102_66 hK) ?_
  refine s_bipush (v := 50) dX11_spend_4 rfl cB_50 ?_
  refine s_iconst (v := 3) dX11_spend_6 rfl cI_3 ?_
  refine s_iload_n 1 dX11_spend_7 rfl rfl ?_
  refine s_imul dX11_spend_8 rfl ?_
  refine s_iadd dX11_spend_9 rfl ?_
  refine s_dup2 dX11_spend_10 rfl rfl rfl ?_
  refine sm_ck (fun g1 => ?_)
  refine s_iald dX11_spend_11 rfl (S_137 hK) g1 ?_
  refine s_iload_n 2 dX11_spend_12 rfl rfl ?_
  refine s_callS1_i0 dX11_spend_13 rfl lkS_RX11_504 (Nat.le_of_ble_eq_true rfl) (Nat.le_of_ble_eq_true rfl) (Nat.le_of_ble_eq_true rfl) (ct_x11_takesBreath hK) (fun r2 => ?_)
  refine s_isub dX11_spend_16 rfl ?_
  refine sm_ck (fun g4 => ?_)
  refine s_iastL dX11_spend_17 rfl (S_137 hK) g4 (fun I3 => ?_)
  refine s_aload_n 0 dX11_spend_18 rfl rfl ?_
  refine s_getR 137 dX11_spend_19 rfl fl_11_121 rfl (S_102 hK) (R_102_66 hK) ?_
  refine s_bipush (v := 52) dX11_spend_22 rfl cB_52 ?_
  refine s_iconst (v := 3) dX11_spend_24 rfl cI_3 ?_
  refine s_iload_n 1 dX11_spend_25 rfl rfl ?_
  refine s_imul dX11_spend_26 rfl ?_
  refine s_iadd dX11_spend_27 rfl ?_
  refine s_dup2 dX11_spend_28 rfl rfl rfl ?_
  refine sm_ck (fun g5 => ?_)
  refine s_iald dX11_spend_29 rfl (S_137 hK) g5 ?_
  refine s_iload_n 2 dX11_spend_30 rfl rfl ?_
  refine s_callS1_i0 dX11_spend_31 rfl lkS_RX11_529 (Nat.le_of_ble_eq_true rfl) (Nat.le_of_ble_eq_true rfl) (Nat.le_of_ble_eq_true rfl) (ct_x11_seconds hK) (fun r6 => ?_)
  refine s_iadd dX11_spend_34 rfl ?_
  refine sm_ck (fun g8 => ?_)
  refine s_iastL dX11_spend_35 rfl (S_137 hK) g8 (fun I7 => ?_)
  exact s_vret dX11_spend_36 rfl (fun f h => h)
noncomputable def x11_get (p1 : Int32) (p2 : Int32) (p3 : Int32) (I : MI) : Option (MI) :=
b1 (x11_spend p1 p3 I) fun I1 =>
ck (vp_in ((5 * p2) + 2) 128) <|
lt (wI I1 137 (ix ((5 * p2) + 2)) p1) fun I2 =>
ck (vp_in (51 + (3 * p1)) 128) <|
ck (vp_in (51 + (3 * p1)) 128) <|
lt (wI I2 137 (ix (51 + (3 * p1))) ((I2 137 (ix (51 + (3 * p1)))) + 1)) fun I5 =>
some I5
theorem ct_x11_get {X : WX} {p1 : Int32} {p2 : Int32} {p3 : Int32} {I : MI} {L : ML} {R : MR} {S : MS} (hK : okm R S) : Ct X yX11_get cX11_get 4 none 2 42 [.ref (X.1 + 102), .int p1, .int p2, .int p3] (I, L, R, S) (x11_get p1 p2 p3 I) (fun r => (none, (r, L, R, S))) := by
  refine Ct.of (by decide) (Nat.le_of_ble_eq_true rfl) [(0, .ref (X.1 + 102)), (1, .int p1), (2, .int p2), (3, .int p3)] rfl ?_
  unfold x11_get
  refine s_aload_n 0 dX11_get_0 rfl rfl ?_
  refine s_iload_n 1 dX11_get_1 rfl rfl ?_
  refine s_iload_n 3 dX11_get_2 rfl rfl ?_
  refine s_callV2_v1 dX11_get_3 rfl lkV_RX11_532 (S_102 hK) (Nat.le_of_ble_eq_true rfl) (Nat.le_of_ble_eq_true rfl) (Nat.le_of_ble_eq_true rfl) (ct_x11_spend hK) (fun I1 => ?_)
  refine s_aload_n 0 dX11_get_6 rfl rfl ?_
  refine s_getR 137 dX11_get_7 rfl fl_11_121 rfl (S_102 hK) (R_102_66 hK) ?_
  refine s_iconst (v := 5) dX11_get_10 rfl cI_5 ?_
  refine s_iload_n 2 dX11_get_11 rfl rfl ?_
  refine s_imul dX11_get_12 rfl ?_
  refine s_iconst (v := 2) dX11_get_13 rfl cI_2 ?_
  refine s_iadd dX11_get_14 rfl ?_
  refine s_iload_n 1 dX11_get_15 rfl rfl ?_
  refine sm_ck (fun g3 => ?_)
  refine s_iastL dX11_get_16 rfl (S_137 hK) g3 (fun I2 => ?_)
  refine s_aload_n 0 dX11_get_17 rfl rfl ?_
  refine s_getR 137 dX11_get_18 rfl fl_11_121 rfl (S_102 hK) (R_102_66 hK) ?_
  refine s_bipush (v := 51) dX11_get_21 rfl cB_51 ?_
  refine s_iconst (v := 3) dX11_get_23 rfl cI_3 ?_
  refine s_iload_n 1 dX11_get_24 rfl rfl ?_
  refine s_imul dX11_get_25 rfl ?_
  refine s_iadd dX11_get_26 rfl ?_
  refine s_dup2 dX11_get_27 rfl rfl rfl ?_
  refine sm_ck (fun g4 => ?_)
  refine s_iald dX11_get_28 rfl (S_137 hK) g4 ?_
  refine s_iconst (v := 1) dX11_get_29 rfl cI_1 ?_
  refine s_iadd dX11_get_30 rfl ?_
  refine sm_ck (fun g6 => ?_)
  refine s_iastL dX11_get_31 rfl (S_137 hK) g6 (fun I5 => ?_)
  exact s_vret dX11_get_32 rfl (fun f h => h)
noncomputable def x11_miss (p1 : Int32) (p2 : Int32) (p3 : Int32) (I : MI) : Option (MI) :=
b1 (x11_spend p1 p3 I) fun I1 =>
ck (vp_in ((5 * p2) + 3) 128) <|
ck (vp_in ((5 * p2) + 3) 128) <|
lt (wI I1 137 (ix ((5 * p2) + 3)) ((I1 137 (ix ((5 * p2) + 3))) + 1)) fun I3 =>
b1 (
if p3 = 0 then (
ck (vp_in p2 10) <|
if (I3 126 (ix p2)) < (I3 102 65) then (
some I3) else
ck (vp_in ((5 * p2) + 4) 128) <|
ck (vp_in p1 4) <|
ck (vp_in ((5 * p2) + 4) 128) <|
lt (wI I3 137 (ix ((5 * p2) + 4)) ((I3 137 (ix ((5 * p2) + 4))) - ((I3 134 (ix p1)) + 1))) fun I9 =>
some I9) else
some I3) fun e5 =>
ck (vp_in ((5 * p2) + 4) 128) <|
b1 (
if 0 < (e5 137 (ix ((5 * p2) + 4))) then (
some e5) else
ck (vp_in ((5 * p2) + 4) 128) <|
lt (wI e5 137 (ix ((5 * p2) + 4)) (0 : Int32)) fun I13 =>
ck (vp_in ((5 * p2) + 2) 128) <|
lt (wI I13 137 (ix ((5 * p2) + 2)) (9 : Int32)) fun I15 =>
some I15) fun e12 =>
if p3 < 2 then (
b1 (x11_isAfloat p2 e12) fun r17 =>
if r17 = 0 then (
some e12) else
b1 (x11_push p1 p2 e12) fun I18 =>
some I18) else
some e12
theorem ct_x11_miss {X : WX} {p1 : Int32} {p2 : Int32} {p3 : Int32} {I : MI} {L : ML} {R : MR} {S : MS} (hK : okm R S) : Ct X yX11_miss cX11_miss 4 none 3 72 [.ref (X.1 + 102), .int p1, .int p2, .int p3] (I, L, R, S) (x11_miss p1 p2 p3 I) (fun r => (none, (r, L, R, S))) := by
  refine Ct.of (by decide) (Nat.le_of_ble_eq_true rfl) [(0, .ref (X.1 + 102)), (1, .int p1), (2, .int p2), (3, .int p3)] rfl ?_
  unfold x11_miss
  refine s_aload_n 0 dX11_miss_0 rfl rfl ?_
  refine s_iload_n 1 dX11_miss_1 rfl rfl ?_
  refine s_iload_n 3 dX11_miss_2 rfl rfl ?_
  refine s_callV2_v1 dX11_miss_3 rfl lkV_RX11_532 (S_102 hK) (Nat.le_of_ble_eq_true rfl) (Nat.le_of_ble_eq_true rfl) (Nat.le_of_ble_eq_true rfl) (ct_x11_spend hK) (fun I1 => ?_)
  refine s_aload_n 0 dX11_miss_6 rfl rfl ?_
  refine s_getR 137 dX11_miss_7 rfl fl_11_121 rfl (S_102 hK) (R_102_66 hK) ?_
  refine s_iconst (v := 5) dX11_miss_10 rfl cI_5 ?_
  refine s_iload_n 2 dX11_miss_11 rfl rfl ?_
  refine s_imul dX11_miss_12 rfl ?_
  refine s_iconst (v := 3) dX11_miss_13 rfl cI_3 ?_
  refine s_iadd dX11_miss_14 rfl ?_
  refine s_dup2 dX11_miss_15 rfl rfl rfl ?_
  refine sm_ck (fun g2 => ?_)
  refine s_iald dX11_miss_16 rfl (S_137 hK) g2 ?_
  refine s_iconst (v := 1) dX11_miss_17 rfl cI_1 ?_
  refine s_iadd dX11_miss_18 rfl ?_
  refine sm_ck (fun g4 => ?_)
  refine s_iastL dX11_miss_19 rfl (S_137 hK) g4 (fun I3 => ?_)
  refine s_iload_n 3 dX11_miss_20 rfl rfl ?_
  refine sm_reg (pcx := 58) (lsx := fun e5 => [(0, .ref (X.1 + 102)), (1, .int p1), (2, .int p2), (3, .int p3)]) (stx := fun e5 => []) (ux := fun e5 => (e5, L, R, S)) ?_ (fun e5 => ?_)
  · skip
    refine s_if_ne (tgt := 58) dX11_miss_21 rfl rfl (fun _ => ?_) (fun _ => ?_)
    · skip
      exact sm_exit (fun f h => h)
    · skip
      refine s_aload_n 0 dX11_miss_24 rfl rfl ?_
      refine s_getR 126 dX11_miss_25 rfl fl_11_85 rfl (S_102 hK) (R_102_38 hK) ?_
      refine s_iload_n 2 dX11_miss_28 rfl rfl ?_
      refine sm_ck (fun g6 => ?_)
      refine s_iald dX11_miss_29 rfl (S_126 hK) g6 ?_
      refine s_aload_n 0 dX11_miss_30 rfl rfl ?_
      refine s_getI dX11_miss_31 rfl fl_11_118 (S_102 hK) ?_
      refine s_icmp_lt (tgt := 58) dX11_miss_34 rfl rfl (fun _ => ?_) (fun _ => ?_)
      · skip
        exact sm_exit (fun f h => h)
      · skip
        refine s_aload_n 0 dX11_miss_37 rfl rfl ?_
        refine s_getR 137 dX11_miss_38 rfl fl_11_121 rfl (S_102 hK) (R_102_66 hK) ?_
        refine s_iconst (v := 5) dX11_miss_41 rfl cI_5 ?_
        refine s_iload_n 2 dX11_miss_42 rfl rfl ?_
        refine s_imul dX11_miss_43 rfl ?_
        refine s_iconst (v := 4) dX11_miss_44 rfl cI_4 ?_
        refine s_iadd dX11_miss_45 rfl ?_
        refine s_dup2 dX11_miss_46 rfl rfl rfl ?_
        refine sm_ck (fun g7 => ?_)
        refine s_iald dX11_miss_47 rfl (S_137 hK) g7 ?_
        refine s_aload_n 0 dX11_miss_48 rfl rfl ?_
        refine s_getR 134 dX11_miss_49 rfl fl_11_109 rfl (S_102 hK) (R_102_46 hK) ?_
        refine s_iload_n 1 dX11_miss_52 rfl rfl ?_
        refine sm_ck (fun g8 => ?_)
        refine s_iald dX11_miss_53 rfl (S_134 hK) g8 ?_
        refine s_iconst (v := 1) dX11_miss_54 rfl cI_1 ?_
        refine s_iadd dX11_miss_55 rfl ?_
        refine s_isub dX11_miss_56 rfl ?_
        refine sm_ck (fun g10 => ?_)
        refine s_iastL dX11_miss_57 rfl (S_137 hK) g10 (fun I9 => ?_)
        exact sm_exit (fun f h => h)
  · skip
    refine s_aload_n 0 dX11_miss_58 rfl rfl ?_
    refine s_getR 137 dX11_miss_59 rfl fl_11_121 rfl (S_102 hK) (R_102_66 hK) ?_
    refine s_iconst (v := 5) dX11_miss_62 rfl cI_5 ?_
    refine s_iload_n 2 dX11_miss_63 rfl rfl ?_
    refine s_imul dX11_miss_64 rfl ?_
    refine s_iconst (v := 4) dX11_miss_65 rfl cI_4 ?_
    refine s_iadd dX11_miss_66 rfl ?_
    refine sm_ck (fun g11 => ?_)
    refine s_iald dX11_miss_67 rfl (S_137 hK) g11 ?_
    refine sm_reg (pcx := 94) (lsx := fun e12 => [(0, .ref (X.1 + 102)), (1, .int p1), (2, .int p2), (3, .int p3)]) (stx := fun e12 => []) (ux := fun e12 => (e12, L, R, S)) ?_ (fun e12 => ?_)
    · skip
      refine s_if_gt (tgt := 94) dX11_miss_68 rfl rfl (fun _ => ?_) (fun _ => ?_)
      · skip
        exact sm_exit (fun f h => h)
      · skip
        refine s_aload_n 0 dX11_miss_71 rfl rfl ?_
        refine s_getR 137 dX11_miss_72 rfl fl_11_121 rfl (S_102 hK) (R_102_66 hK) ?_
        refine s_iconst (v := 5) dX11_miss_75 rfl cI_5 ?_
        refine s_iload_n 2 dX11_miss_76 rfl rfl ?_
        refine s_imul dX11_miss_77 rfl ?_
        refine s_iconst (v := 4) dX11_miss_78 rfl cI_4 ?_
        refine s_iadd dX11_miss_79 rfl ?_
        refine s_iconst (v := 0) dX11_miss_80 rfl cI_0 ?_
        refine sm_ck (fun g14 => ?_)
        refine s_iastL dX11_miss_81 rfl (S_137 hK) g14 (fun I13 => ?_)
        refine s_aload_n 0 dX11_miss_82 rfl rfl ?_
        refine s_getR 137 dX11_miss_83 rfl fl_11_121 rfl (S_102 hK) (R_102_66 hK) ?_
        refine s_iconst (v := 5) dX11_miss_86 rfl cI_5 ?_
        refine s_iload_n 2 dX11_miss_87 rfl rfl ?_
        refine s_imul dX11_miss_88 rfl ?_
        refine s_iconst (v := 2) dX11_miss_89 rfl cI_2 ?_
        refine s_iadd dX11_miss_90 rfl ?_
        refine s_bipush (v := 9) dX11_miss_91 rfl cB_9 ?_
        refine sm_ck (fun g16 => ?_)
        refine s_iastL dX11_miss_93 rfl (S_137 hK) g16 (fun I15 => ?_)
        exact sm_exit (fun f h => h)
    · skip
      refine s_iload_n 3 dX11_miss_94 rfl rfl ?_
      refine s_iconst (v := 2) dX11_miss_95 rfl cI_2 ?_
      refine s_icmp_ge (tgt := 113) dX11_miss_96 rfl rfl (fun _ => ?_) (fun _ => ?_)
      · skip
        exact s_vret dX11_miss_113 rfl (fun f h => h)
      · skip
        refine s_aload_n 0 dX11_miss_99 rfl rfl ?_
        refine s_iload_n 2 dX11_miss_100 rfl rfl ?_
        refine s_callV1_i0 dX11_miss_101 rfl lkV_RX11_501 (S_102 hK) (Nat.le_of_ble_eq_true rfl) (Nat.le_of_ble_eq_true rfl) (Nat.le_of_ble_eq_true rfl) (ct_x11_isAfloat hK) (fun r17 => ?_)
        refine s_if_eq (tgt := 113) dX11_miss_104 rfl rfl (fun _ => ?_) (fun _ => ?_)
        · skip
          exact s_vret dX11_miss_113 rfl (fun f h => h)
        · skip
          refine s_aload_n 0 dX11_miss_107 rfl rfl ?_
          refine s_iload_n 1 dX11_miss_108 rfl rfl ?_
          refine s_iload_n 2 dX11_miss_109 rfl rfl ?_
          refine s_callV2_v1 dX11_miss_110 rfl lkV_RX11_535 (S_102 hK) (Nat.le_of_ble_eq_true rfl) (Nat.le_of_ble_eq_true rfl) (Nat.le_of_ble_eq_true rfl) (ct_x11_push hK) (fun I18 => ?_)
          exact s_vret dX11_miss_113 rfl (fun f h => h)
noncomputable def x11_tries (p1 : Int32) (p2 : Int32) (p3 : Int32) (I : MI) : Option (Int32 × MI) :=
b2 (x11_oddsOf p1 p2 p3 I) fun r1 I2 =>
lt r1 fun v3 =>
lt (wI I2 137 (ix (62 : Int32)) (rm (((I2 137 (ix 62)) * 137) + 71) 1000)) fun I4 =>
b1 (
if ((I4 137 (ix 62)) / 10) < v3 then (
some (1 : Int32)) else
some (0 : Int32)) fun e5 =>
lt e5 fun v6 =>
lt ((63 + (15 * p1)) + (3 * p3)) fun v7 =>
ck (vp_in v7 128) <|
ck (vp_in v7 128) <|
lt (wI I4 137 (ix v7) ((I4 137 (ix v7)) + 1)) fun I9 =>
ck (vp_in (v7 + 1) 128) <|
b1 (
if v6 = 0 then (
some (0 : Int32)) else
some (1 : Int32)) fun e12 =>
ck (vp_in (v7 + 1) 128) <|
lt (wI I9 137 (ix (v7 + 1)) ((I9 137 (ix (v7 + 1))) + e12)) fun I13 =>
ck (vp_in (v7 + 2) 128) <|
ck (vp_in (v7 + 2) 128) <|
lt (wI I13 137 (ix (v7 + 2)) ((I13 137 (ix (v7 + 2))) + v3)) fun I16 =>
if v6 = 0 then (
b1 (x11_miss p1 p2 p3 I16) fun I18 =>
ck (v6 = 0 ∨ v6 = 1) (some (v6, I18))) else
b1 (x11_get p1 p2 p3 I16) fun I20 =>
ck (v6 = 0 ∨ v6 = 1) (some (v6, I20))
theorem ct_x11_tries {X : WX} {p1 : Int32} {p2 : Int32} {p3 : Int32} {I : MI} {L : ML} {R : MR} {S : MS} (hK : okm R S) : Ct X yX11_tries cX11_tries 7 (some .boolean) 5 120 [.ref (X.1 + 102), .int p1, .int p2, .int p3] (I, L, R, S) (x11_tries p1 p2 p3 I) (fun r => (some (.int r.1), (r.2, L, R, S))) := by
  refine Ct.of (by decide) (Nat.le_of_ble_eq_true rfl) [(0, .ref (X.1 + 102)), (1, .int p1), (2, .int p2), (3, .int p3)] rfl ?_
  unfold x11_tries
  refine s_aload_n 0 dX11_tries_0 rfl rfl ?_
  refine s_iload_n 1 dX11_tries_1 rfl rfl ?_
  refine s_iload_n 2 dX11_tries_2 rfl rfl ?_
  refine s_iload_n 3 dX11_tries_3 rfl rfl ?_
  refine s_callV3_i1 dX11_tries_4 rfl lkV_RX11_538 (S_102 hK) (Nat.le_of_ble_eq_true rfl) (Nat.le_of_ble_eq_true rfl) (Nat.le_of_ble_eq_true rfl) (ct_x11_oddsOf hK) (fun r1 I2 => ?_)
  refine s_istoreL (fun v3 => [(4, .int v3), (0, .ref (X.1 + 102)), (1, .int p1), (2, .int p2), (3, .int p3)]) dX11_tries_7 rfl (by decide) (fun _ => rfl) (fun v3 => ?_)
  refine s_aload_n 1 dX11_tries_9 rfl rfl ?_
  refine s_getR 137 dX11_tries_10 rfl fl_11_121 rfl (S_102 hK) (R_102_66 hK) ?_
  refine s_bipush (v := 62) dX11_tries_13 rfl cB_62 ?_
  refine s_aload_n 1 dX11_tries_15 rfl rfl ?_
  refine s_getR 137 dX11_tries_16 rfl fl_11_121 rfl (S_102 hK) (R_102_66 hK) ?_
  refine s_bipush (v := 62) dX11_tries_19 rfl cB_62 ?_
  refine s_iald dX11_tries_21 rfl (S_137 hK) (by unfold vp_in; decide) ?_
  refine s_sipush (v := 137) dX11_tries_22 rfl cS_137 ?_
  refine s_imul dX11_tries_25 rfl ?_
  refine s_bipush (v := 71) dX11_tries_26 rfl cB_71 ?_
  refine s_iadd dX11_tries_28 rfl ?_
  refine s_sipush (v := 1000) dX11_tries_29 rfl cS_1000 ?_
  refine s_irem dX11_tries_32 rfl (by decide) ?_
  refine s_iastL dX11_tries_33 rfl (S_137 hK) (by unfold vp_in; decide) (fun I4 => ?_)
  refine s_aload_n 1 dX11_tries_34 rfl rfl ?_
  refine s_getR 137 dX11_tries_35 rfl fl_11_121 rfl (S_102 hK) (R_102_66 hK) ?_
  refine s_bipush (v := 62) dX11_tries_38 rfl cB_62 ?_
  refine s_iald dX11_tries_40 rfl (S_137 hK) (by unfold vp_in; decide) ?_
  refine s_bipush (v := 10) dX11_tries_41 rfl cB_10 ?_
  refine s_idiv dX11_tries_43 rfl (by decide) ?_
  refine s_iload 0 dX11_tries_44 rfl rfl ?_
  refine sm_reg (pcx := 54) (lsx := fun e5 => [(0, .ref (X.1 + 102)), (1, .int p1), (2, .int p2), (3, .int p3), (4, .int v3)]) (stx := fun e5 => [.int e5]) (ux := fun e5 => (I4, L, R, S)) ?_ (fun e5 => ?_)
  · skip
    refine s_icmp_ge (tgt := 53) dX11_tries_46 rfl rfl (fun _ => ?_) (fun _ => ?_)
    · skip
      refine s_iconst (v := 0) dX11_tries_53 rfl cI_0 ?_
      refine s_pick [1, 2, 3, 4, 0] rfl ?_
      exact sm_exit (fun f h => h)
    · skip
      refine s_iconst (v := 1) dX11_tries_49 rfl cI_1 ?_
      refine s_goto (tgt := 54) dX11_tries_50 rfl ?_
      refine s_pick [1, 2, 3, 4, 0] rfl ?_
      exact sm_exit (fun f h => h)
  · skip
    refine s_istoreL (fun v6 => [(5, .int v6), (0, .ref (X.1 + 102)), (1, .int p1), (2, .int p2), (3, .int p3), (4, .int v3)]) dX11_tries_54 rfl (by decide) (fun _ => rfl) (fun v6 => ?_)
    refine s_bipush (v := 63) dX11_tries_56 rfl cB_63 ?_
    refine s_bipush (v := 15) dX11_tries_58 rfl cB_15 ?_
    refine s_iload_n 2 dX11_tries_60 rfl rfl ?_
    refine s_imul dX11_tries_61 rfl ?_
    refine s_iadd dX11_tries_62 rfl ?_
    refine s_iconst (v := 3) dX11_tries_63 rfl cI_3 ?_
    refine s_iload_n 4 dX11_tries_64 rfl rfl ?_
    refine s_imul dX11_tries_65 rfl ?_
    refine s_iadd dX11_tries_66 rfl ?_
    refine s_istoreL (fun v7 => [(6, .int v7), (5, .int v6), (0, .ref (X.1 + 102)), (1, .int p1), (2, .int p2), (3, .int p3), (4, .int v3)]) dX11_tries_67 rfl (by decide) (fun _ => rfl) (fun v7 => ?_)
    refine s_aload_n 2 dX11_tries_69 rfl rfl ?_
    refine s_getR 137 dX11_tries_70 rfl fl_11_121 rfl (S_102 hK) (R_102_66 hK) ?_
    refine s_iload 0 dX11_tries_73 rfl rfl ?_
    refine s_dup2 dX11_tries_75 rfl rfl rfl ?_
    refine sm_ck (fun g8 => ?_)
    refine s_iald dX11_tries_76 rfl (S_137 hK) g8 ?_
    refine s_iconst (v := 1) dX11_tries_77 rfl cI_1 ?_
    refine s_iadd dX11_tries_78 rfl ?_
    refine sm_ck (fun g10 => ?_)
    refine s_iastL dX11_tries_79 rfl (S_137 hK) g10 (fun I9 => ?_)
    refine s_aload_n 2 dX11_tries_80 rfl rfl ?_
    refine s_getR 137 dX11_tries_81 rfl fl_11_121 rfl (S_102 hK) (R_102_66 hK) ?_
    refine s_iload 0 dX11_tries_84 rfl rfl ?_
    refine s_iconst (v := 1) dX11_tries_86 rfl cI_1 ?_
    refine s_iadd dX11_tries_87 rfl ?_
    refine s_dup2 dX11_tries_88 rfl rfl rfl ?_
    refine sm_ck (fun g11 => ?_)
    refine s_iald dX11_tries_89 rfl (S_137 hK) g11 ?_
    refine s_iload 1 dX11_tries_90 rfl rfl ?_
    refine sm_reg (pcx := 100) (lsx := fun e12 => [(0, .ref (X.1 + 102)), (1, .int p1), (2, .int p2), (3, .int p3), (4, .int v3), (5, .int v6), (6, .int v7)]) (stx := fun e12 => [.int e12, .int (I9 137 (ix (v7 + 1))), .int (v7 + 1), .ref (X.1 + 137)]) (ux := fun e12 => (I9, L, R, S)) ?_ (fun e12 => ?_)
    · skip
      refine s_if_eq (tgt := 99) dX11_tries_92 rfl rfl (fun _ => ?_) (fun _ => ?_)
      · skip
        refine s_iconst (v := 0) dX11_tries_99 rfl cI_0 ?_
        refine s_pick [2, 3, 4, 5, 6, 1, 0] rfl ?_
        exact sm_exit (fun f h => h)
      · skip
        refine s_iconst (v := 1) dX11_tries_95 rfl cI_1 ?_
        refine s_goto (tgt := 100) dX11_tries_96 rfl ?_
        refine s_pick [2, 3, 4, 5, 6, 1, 0] rfl ?_
        exact sm_exit (fun f h => h)
    · skip
      refine s_iadd dX11_tries_100 rfl ?_
      refine sm_ck (fun g14 => ?_)
      refine s_iastL dX11_tries_101 rfl (S_137 hK) g14 (fun I13 => ?_)
      refine s_aload_n 0 dX11_tries_102 rfl rfl ?_
      refine s_getR 137 dX11_tries_103 rfl fl_11_121 rfl (S_102 hK) (R_102_66 hK) ?_
      refine s_iload 6 dX11_tries_106 rfl rfl ?_
      refine s_iconst (v := 2) dX11_tries_108 rfl cI_2 ?_
      refine s_iadd dX11_tries_109 rfl ?_
      refine s_dup2 dX11_tries_110 rfl rfl rfl ?_
      refine sm_ck (fun g15 => ?_)
      refine s_iald dX11_tries_111 rfl (S_137 hK) g15 ?_
      refine s_iload 4 dX11_tries_112 rfl rfl ?_
      refine s_iadd dX11_tries_114 rfl ?_
      refine sm_ck (fun g17 => ?_)
      refine s_iastL dX11_tries_115 rfl (S_137 hK) g17 (fun I16 => ?_)
      refine s_iload 5 dX11_tries_116 rfl rfl ?_
      refine s_if_eq (tgt := 131) dX11_tries_118 rfl rfl (fun _ => ?_) (fun _ => ?_)
      · skip
        refine s_aload_n 0 dX11_tries_131 rfl rfl ?_
        refine s_iload_n 1 dX11_tries_132 rfl rfl ?_
        refine s_iload_n 2 dX11_tries_133 rfl rfl ?_
        refine s_iload_n 3 dX11_tries_134 rfl rfl ?_
        refine s_callV3_v1 dX11_tries_135 rfl lkV_RX11_545 (S_102 hK) (Nat.le_of_ble_eq_true rfl) (Nat.le_of_ble_eq_true rfl) (Nat.le_of_ble_eq_true rfl) (ct_x11_miss hK) (fun I18 => ?_)
        refine s_iload 5 dX11_tries_138 rfl rfl ?_
        refine sm_ck (fun g19 => ?_)
        exact s_zret dX11_tries_140 rfl g19 (fun f h => h)
      · skip
        refine s_aload_n 0 dX11_tries_121 rfl rfl ?_
        refine s_iload_n 1 dX11_tries_122 rfl rfl ?_
        refine s_iload_n 2 dX11_tries_123 rfl rfl ?_
        refine s_iload_n 3 dX11_tries_124 rfl rfl ?_
        refine s_callV3_v1 dX11_tries_125 rfl lkV_RX11_541 (S_102 hK) (Nat.le_of_ble_eq_true rfl) (Nat.le_of_ble_eq_true rfl) (Nat.le_of_ble_eq_true rfl) (ct_x11_get hK) (fun I20 => ?_)
        refine s_goto (tgt := 138) dX11_tries_128 rfl ?_
        refine s_iload 5 dX11_tries_138 rfl rfl ?_
        refine sm_ck (fun g21 => ?_)
        exact s_zret dX11_tries_140 rfl g21 (fun f h => h)
