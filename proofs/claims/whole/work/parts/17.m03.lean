noncomputable def x11_isRim (p1 : Int32) (I : MI) : Option (Int32) :=
ck (vp_in (5 * p1) 128) <|
if (I 137 (ix (5 * p1))) = 0 then (
some (1 : Int32)) else
ck (vp_in (5 * p1) 128) <|
if (I 137 (ix (5 * p1))) = ((I 102 56) - 1) then (
some (1 : Int32)) else
ck (vp_in ((5 * p1) + 1) 128) <|
if (I 137 (ix ((5 * p1) + 1))) = 0 then (
some (1 : Int32)) else
ck (vp_in ((5 * p1) + 1) 128) <|
if (I 137 (ix ((5 * p1) + 1))) = ((I 102 57) - 1) then (
some (1 : Int32)) else
some (0 : Int32)
theorem ct_x11_isRim {X : WX} {p1 : Int32} {I : MI} {L : ML} {R : MR} {S : MS} (hK : okm R S) : Ct X yX11_isRim cX11_isRim 2 (some .boolean) 0 0 [.ref (X.1 + 102), .int p1] (I, L, R, S) (x11_isRim p1 I) (fun r => (some (.int r), (I, L, R, S))) := by
  refine Ct.of (by decide) (Nat.le_of_ble_eq_true rfl) [(0, .ref (X.1 + 102)), (1, .int p1)] rfl ?_
  unfold x11_isRim
  refine s_aload_n 0 dX11_isRim_0 rfl rfl ?_
  refine s_getR 137 dX11_isRim_1 rfl fl_11_121 rfl (S_102 hK) (R_102_66 hK) ?_
  refine s_iconst (v := 5) dX11_isRim_4 rfl cI_5 ?_
  refine s_iload_n 1 dX11_isRim_5 rfl rfl ?_
  refine s_imul dX11_isRim_6 rfl ?_
  refine sm_ck (fun g1 => ?_)
  refine s_iald dX11_isRim_7 rfl (S_137 hK) g1 ?_
  refine s_if_eq (tgt := 60) dX11_isRim_8 rfl rfl (fun _ => ?_) (fun _ => ?_)
  · skip
    refine s_iconst (v := 1) dX11_isRim_60 rfl cI_1 ?_
    refine s_goto (tgt := 65) dX11_isRim_61 rfl ?_
    exact s_zret dX11_isRim_65 rfl (Or.inr rfl) (fun f h => h)
  · skip
    refine s_aload_n 0 dX11_isRim_11 rfl rfl ?_
    refine s_getR 137 dX11_isRim_12 rfl fl_11_121 rfl (S_102 hK) (R_102_66 hK) ?_
    refine s_iconst (v := 5) dX11_isRim_15 rfl cI_5 ?_
    refine s_iload_n 1 dX11_isRim_16 rfl rfl ?_
    refine s_imul dX11_isRim_17 rfl ?_
    refine sm_ck (fun g2 => ?_)
    refine s_iald dX11_isRim_18 rfl (S_137 hK) g2 ?_
    refine s_aload_n 0 dX11_isRim_19 rfl rfl ?_
    refine s_getI dX11_isRim_20 rfl fl_11_455 (S_102 hK) ?_
    refine s_iconst (v := 1) dX11_isRim_23 rfl cI_1 ?_
    refine s_isub dX11_isRim_24 rfl ?_
    refine s_icmp_eq (tgt := 60) dX11_isRim_25 rfl rfl (fun _ => ?_) (fun _ => ?_)
    · skip
      refine s_iconst (v := 1) dX11_isRim_60 rfl cI_1 ?_
      refine s_goto (tgt := 65) dX11_isRim_61 rfl ?_
      exact s_zret dX11_isRim_65 rfl (Or.inr rfl) (fun f h => h)
    · skip
      refine s_aload_n 0 dX11_isRim_28 rfl rfl ?_
      refine s_getR 137 dX11_isRim_29 rfl fl_11_121 rfl (S_102 hK) (R_102_66 hK) ?_
      refine s_iconst (v := 5) dX11_isRim_32 rfl cI_5 ?_
      refine s_iload_n 1 dX11_isRim_33 rfl rfl ?_
      refine s_imul dX11_isRim_34 rfl ?_
      refine s_iconst (v := 1) dX11_isRim_35 rfl cI_1 ?_
      refine s_iadd dX11_isRim_36 rfl ?_
      refine sm_ck (fun g3 => ?_)
      refine s_iald dX11_isRim_37 rfl (S_137 hK) g3 ?_
      refine s_if_eq (tgt := 60) dX11_isRim_38 rfl rfl (fun _ => ?_) (fun _ => ?_)
      · skip
        refine s_iconst (v := 1) dX11_isRim_60 rfl cI_1 ?_
        refine s_goto (tgt := 65) dX11_isRim_61 rfl ?_
        exact s_zret dX11_isRim_65 rfl (Or.inr rfl) (fun f h => h)
      · skip
        refine s_aload_n 0 dX11_isRim_41 rfl rfl ?_
        refine s_getR 137 dX11_isRim_42 rfl fl_11_121 rfl (S_102 hK) (R_102_66 hK) ?_
        refine s_iconst (v := 5) dX11_isRim_45 rfl cI_5 ?_
        refine s_iload_n 1 dX11_isRim_46 rfl rfl ?_
        refine s_imul dX11_isRim_47 rfl ?_
        refine s_iconst (v := 1) dX11_isRim_48 rfl cI_1 ?_
        refine s_iadd dX11_isRim_49 rfl ?_
        refine sm_ck (fun g4 => ?_)
        refine s_iald dX11_isRim_50 rfl (S_137 hK) g4 ?_
        refine s_aload_n 0 dX11_isRim_51 rfl rfl ?_
        refine s_getI dX11_isRim_52 rfl fl_11_458 (S_102 hK) ?_
        refine s_iconst (v := 1) dX11_isRim_55 rfl cI_1 ?_
        refine s_isub dX11_isRim_56 rfl ?_
        refine s_icmp_ne (tgt := 64) dX11_isRim_57 rfl rfl (fun _ => ?_) (fun _ => ?_)
        · skip
          refine s_iconst (v := 0) dX11_isRim_64 rfl cI_0 ?_
          exact s_zret dX11_isRim_65 rfl (Or.inl rfl) (fun f h => h)
        · skip
          refine s_iconst (v := 1) dX11_isRim_60 rfl cI_1 ?_
          refine s_goto (tgt := 65) dX11_isRim_61 rfl ?_
          exact s_zret dX11_isRim_65 rfl (Or.inr rfl) (fun f h => h)
noncomputable def x11_amount (p0 : Int32) (I : MI) : Option (Int32) :=
if p0 < 0 then (
some (-p0)) else
some p0
theorem ct_x11_amount {X : WX} {p0 : Int32} {I : MI} {L : ML} {R : MR} {S : MS} (hK : okm R S) : Ct X yX11_amount cX11_amount 1 (some .int) 0 0 [.int p0] (I, L, R, S) (x11_amount p0 I) (fun r => (some (.int r), (I, L, R, S))) := by
  refine Ct.of (by decide) (Nat.le_of_ble_eq_true rfl) [(0, .int p0)] rfl ?_
  unfold x11_amount
  refine s_iload_n 0 dX11_amount_0 rfl rfl ?_
  refine s_if_ge (tgt := 9) dX11_amount_1 rfl rfl (fun _ => ?_) (fun _ => ?_)
  · skip
    refine s_iload_n 0 dX11_amount_9 rfl rfl ?_
    exact s_iret dX11_amount_10 rfl (fun f h => h)
  · skip
    refine s_iload_n 0 dX11_amount_4 rfl rfl ?_
    refine s_ineg dX11_amount_5 rfl ?_
    refine s_goto (tgt := 10) dX11_amount_6 rfl ?_
    exact s_iret dX11_amount_10 rfl (fun f h => h)
noncomputable def x11_far (p1 : Int32) (p2 : Int32) (I : MI) : Option (Int32) :=
ck (vp_in (5 * p2) 128) <|
ck (vp_in p1 4) <|
b1 (x11_amount ((I 137 (ix (5 * p2))) - (I 130 (ix p1))) I) fun r3 =>
lt r3 fun v4 =>
ck (vp_in ((5 * p2) + 1) 128) <|
ck (vp_in p1 4) <|
b1 (x11_amount ((I 137 (ix ((5 * p2) + 1))) - (I 131 (ix p1))) I) fun r7 =>
lt r7 fun v8 =>
if v8 < v4 then (
some v4) else
some v8
theorem ct_x11_far {X : WX} {p1 : Int32} {p2 : Int32} {I : MI} {L : ML} {R : MR} {S : MS} (hK : okm R S) : Ct X yX11_far cX11_far 5 (some .int) 1 20 [.ref (X.1 + 102), .int p1, .int p2] (I, L, R, S) (x11_far p1 p2 I) (fun r => (some (.int r), (I, L, R, S))) := by
  refine Ct.of (by decide) (Nat.le_of_ble_eq_true rfl) [(0, .ref (X.1 + 102)), (1, .int p1), (2, .int p2)] rfl ?_
  unfold x11_far
  refine s_aload_n 0 dX11_far_0 rfl rfl ?_
  refine s_getR 137 dX11_far_1 rfl fl_11_121 rfl (S_102 hK) (R_102_66 hK) ?_
  refine s_iconst (v := 5) dX11_far_4 rfl cI_5 ?_
  refine s_iload_n 2 dX11_far_5 rfl rfl ?_
  refine s_imul dX11_far_6 rfl ?_
  refine sm_ck (fun g1 => ?_)
  refine s_iald dX11_far_7 rfl (S_137 hK) g1 ?_
  refine s_aload_n 0 dX11_far_8 rfl rfl ?_
  refine s_getR 130 dX11_far_9 rfl fl_11_97 rfl (S_102 hK) (R_102_42 hK) ?_
  refine s_iload_n 1 dX11_far_12 rfl rfl ?_
  refine sm_ck (fun g2 => ?_)
  refine s_iald dX11_far_13 rfl (S_130 hK) g2 ?_
  refine s_isub dX11_far_14 rfl ?_
  refine s_callS1_i0 dX11_far_15 rfl lkS_RX11_498 (Nat.le_of_ble_eq_true rfl) (Nat.le_of_ble_eq_true rfl) (Nat.le_of_ble_eq_true rfl) (ct_x11_amount hK) (fun r3 => ?_)
  refine s_istore_nL (fun v4 => [(3, .int v4), (0, .ref (X.1 + 102)), (1, .int p1), (2, .int p2)]) dX11_far_18 rfl (by decide) (fun _ => rfl) (fun v4 => ?_)
  refine s_aload_n 1 dX11_far_19 rfl rfl ?_
  refine s_getR 137 dX11_far_20 rfl fl_11_121 rfl (S_102 hK) (R_102_66 hK) ?_
  refine s_iconst (v := 5) dX11_far_23 rfl cI_5 ?_
  refine s_iload_n 3 dX11_far_24 rfl rfl ?_
  refine s_imul dX11_far_25 rfl ?_
  refine s_iconst (v := 1) dX11_far_26 rfl cI_1 ?_
  refine s_iadd dX11_far_27 rfl ?_
  refine sm_ck (fun g5 => ?_)
  refine s_iald dX11_far_28 rfl (S_137 hK) g5 ?_
  refine s_aload_n 1 dX11_far_29 rfl rfl ?_
  refine s_getR 131 dX11_far_30 rfl fl_11_100 rfl (S_102 hK) (R_102_43 hK) ?_
  refine s_iload_n 2 dX11_far_33 rfl rfl ?_
  refine sm_ck (fun g6 => ?_)
  refine s_iald dX11_far_34 rfl (S_131 hK) g6 ?_
  refine s_isub dX11_far_35 rfl ?_
  refine s_callS1_i0 dX11_far_36 rfl lkS_RX11_498 (Nat.le_of_ble_eq_true rfl) (Nat.le_of_ble_eq_true rfl) (Nat.le_of_ble_eq_true rfl) (ct_x11_amount hK) (fun r7 => ?_)
  refine s_istoreL (fun v8 => [(4, .int v8), (3, .int v4), (0, .ref (X.1 + 102)), (1, .int p1), (2, .int p2)]) dX11_far_39 rfl (by decide) (fun _ => rfl) (fun v8 => ?_)
  refine s_iload_n 1 dX11_far_41 rfl rfl ?_
  refine s_iload 0 dX11_far_42 rfl rfl ?_
  refine s_icmp_le (tgt := 51) dX11_far_44 rfl rfl (fun _ => ?_) (fun _ => ?_)
  · skip
    refine s_iload 0 dX11_far_51 rfl rfl ?_
    exact s_iret dX11_far_53 rfl (fun f h => h)
  · skip
    refine s_iload_n 1 dX11_far_47 rfl rfl ?_
    refine s_goto (tgt := 53) dX11_far_48 rfl ?_
    exact s_iret dX11_far_53 rfl (fun f h => h)
noncomputable def x11_askOf (p1 : Int32) (p2 : Int32) (p3 : Int32) (p4 : Int32) (p5 : Int32) (I : MI) : Option (Int32) :=
if p1 = 0 then (
ck (vp_in ((5 * p3) + 4) 128) <|
some (I 137 (ix ((5 * p3) + 4)))) else
if p1 = 1 then (
ck (vp_in p3 10) <|
some (I 126 (ix p3))) else
if p1 = 2 then (
ck (vp_in p3 10) <|
b1 (x11_truth (I 136 (ix p3)) I) fun r7 =>
some r7) else
if p1 = 3 then (
b1 (x11_isRim p3 I) fun r9 =>
b1 (x11_truth r9 I) fun r10 =>
some r10) else
if p1 = 4 then (
b1 (x11_far p2 p3 I) fun r12 =>
some r12) else
if p1 = 5 then (
ck (vp_in ((5 * p3) + 3) 128) <|
some (I 137 (ix ((5 * p3) + 3)))) else
if p1 = 6 then (
ck (vp_in p2 4) <|
some (I 134 (ix p2))) else
if p1 = 7 then (
ck (vp_in (50 + (3 * p2)) 128) <|
some (I 137 (ix (50 + (3 * p2))))) else
if p1 = 8 then (
some p4) else
some p5
theorem ct_x11_askOf {X : WX} {p1 : Int32} {p2 : Int32} {p3 : Int32} {p4 : Int32} {p5 : Int32} {I : MI} {L : ML} {R : MR} {S : MS} (hK : okm R S) : Ct X yX11_askOf cX11_askOf 6 (some .int) 2 44 [.ref (X.1 + 102), .int p1, .int p2, .int p3, .int p4, .int p5] (I, L, R, S) (x11_askOf p1 p2 p3 p4 p5 I) (fun r => (some (.int r), (I, L, R, S))) := by
  refine Ct.of (by decide) (Nat.le_of_ble_eq_true rfl) [(0, .ref (X.1 + 102)), (1, .int p1), (2, .int p2), (3, .int p3), (4, .int p4), (5, .int p5)] rfl ?_
  unfold x11_askOf
  refine s_iload_n 1 dX11_askOf_0 rfl rfl ?_
  refine sm_ite (fun h1 => ?_) (fun h1 => ?_)
  · skip
    refine s_tin (tgt := 52) dX11_askOf_1 (by rw [h1]; try decide) (by rw [h1]; try decide) (by rw [h1]; try rfl) rfl ?_
    refine s_aload_n 0 dX11_askOf_52 rfl rfl ?_
    refine s_getR 137 dX11_askOf_53 rfl fl_11_121 rfl (S_102 hK) (R_102_66 hK) ?_
    refine s_iconst (v := 5) dX11_askOf_56 rfl cI_5 ?_
    refine s_iload_n 3 dX11_askOf_57 rfl rfl ?_
    refine s_imul dX11_askOf_58 rfl ?_
    refine s_iconst (v := 4) dX11_askOf_59 rfl cI_4 ?_
    refine s_iadd dX11_askOf_60 rfl ?_
    refine sm_ck (fun g2 => ?_)
    refine s_iald dX11_askOf_61 rfl (S_137 hK) g2 ?_
    exact s_iret dX11_askOf_62 rfl (fun f h => h)
  refine sm_ite (fun h3 => ?_) (fun h3 => ?_)
  · skip
    refine s_tin (tgt := 63) dX11_askOf_1 (by rw [h3]; try decide) (by rw [h3]; try decide) (by rw [h3]; try rfl) rfl ?_
    refine s_aload_n 0 dX11_askOf_63 rfl rfl ?_
    refine s_getR 126 dX11_askOf_64 rfl fl_11_85 rfl (S_102 hK) (R_102_38 hK) ?_
    refine s_iload_n 3 dX11_askOf_67 rfl rfl ?_
    refine sm_ck (fun g4 => ?_)
    refine s_iald dX11_askOf_68 rfl (S_126 hK) g4 ?_
    exact s_iret dX11_askOf_69 rfl (fun f h => h)
  refine sm_ite (fun h5 => ?_) (fun h5 => ?_)
  · skip
    refine s_tin (tgt := 70) dX11_askOf_1 (by rw [h5]; try decide) (by rw [h5]; try decide) (by rw [h5]; try rfl) rfl ?_
    refine s_aload_n 0 dX11_askOf_70 rfl rfl ?_
    refine s_getR 136 dX11_askOf_71 rfl fl_11_115 rfl (S_102 hK) (R_102_48 hK) ?_
    refine s_iload_n 3 dX11_askOf_74 rfl rfl ?_
    refine sm_ck (fun g6 => ?_)
    refine s_zald dX11_askOf_75 rfl (S_136 hK) g6 ?_
    refine s_callS1_i0 dX11_askOf_76 rfl lkS_RX11_354 (Nat.le_of_ble_eq_true rfl) (Nat.le_of_ble_eq_true rfl) (Nat.le_of_ble_eq_true rfl) (ct_x11_truth hK) (fun r7 => ?_)
    exact s_iret dX11_askOf_79 rfl (fun f h => h)
  refine sm_ite (fun h8 => ?_) (fun h8 => ?_)
  · skip
    refine s_tin (tgt := 80) dX11_askOf_1 (by rw [h8]; try decide) (by rw [h8]; try decide) (by rw [h8]; try rfl) rfl ?_
    refine s_aload_n 0 dX11_askOf_80 rfl rfl ?_
    refine s_iload_n 3 dX11_askOf_81 rfl rfl ?_
    refine s_callV1_i0 dX11_askOf_82 rfl lkV_RX11_358 (S_102 hK) (Nat.le_of_ble_eq_true rfl) (Nat.le_of_ble_eq_true rfl) (Nat.le_of_ble_eq_true rfl) (ct_x11_isRim hK) (fun r9 => ?_)
    refine s_callS1_i0 dX11_askOf_85 rfl lkS_RX11_354 (Nat.le_of_ble_eq_true rfl) (Nat.le_of_ble_eq_true rfl) (Nat.le_of_ble_eq_true rfl) (ct_x11_truth hK) (fun r10 => ?_)
    exact s_iret dX11_askOf_88 rfl (fun f h => h)
  refine sm_ite (fun h11 => ?_) (fun h11 => ?_)
  · skip
    refine s_tin (tgt := 89) dX11_askOf_1 (by rw [h11]; try decide) (by rw [h11]; try decide) (by rw [h11]; try rfl) rfl ?_
    refine s_aload_n 0 dX11_askOf_89 rfl rfl ?_
    refine s_iload_n 2 dX11_askOf_90 rfl rfl ?_
    refine s_iload_n 3 dX11_askOf_91 rfl rfl ?_
    refine s_callV2_i0 dX11_askOf_92 rfl lkV_RX11_361 (S_102 hK) (Nat.le_of_ble_eq_true rfl) (Nat.le_of_ble_eq_true rfl) (Nat.le_of_ble_eq_true rfl) (ct_x11_far hK) (fun r12 => ?_)
    exact s_iret dX11_askOf_95 rfl (fun f h => h)
  refine sm_ite (fun h13 => ?_) (fun h13 => ?_)
  · skip
    refine s_tin (tgt := 96) dX11_askOf_1 (by rw [h13]; try decide) (by rw [h13]; try decide) (by rw [h13]; try rfl) rfl ?_
    refine s_aload_n 0 dX11_askOf_96 rfl rfl ?_
    refine s_getR 137 dX11_askOf_97 rfl fl_11_121 rfl (S_102 hK) (R_102_66 hK) ?_
    refine s_iconst (v := 5) dX11_askOf_100 rfl cI_5 ?_
    refine s_iload_n 3 dX11_askOf_101 rfl rfl ?_
    refine s_imul dX11_askOf_102 rfl ?_
    refine s_iconst (v := 3) dX11_askOf_103 rfl cI_3 ?_
    refine s_iadd dX11_askOf_104 rfl ?_
    refine sm_ck (fun g14 => ?_)
    refine s_iald dX11_askOf_105 rfl (S_137 hK) g14 ?_
    exact s_iret dX11_askOf_106 rfl (fun f h => h)
  refine sm_ite (fun h15 => ?_) (fun h15 => ?_)
  · skip
    refine s_tin (tgt := 107) dX11_askOf_1 (by rw [h15]; try decide) (by rw [h15]; try decide) (by rw [h15]; try rfl) rfl ?_
    refine s_aload_n 0 dX11_askOf_107 rfl rfl ?_
    refine s_getR 134 dX11_askOf_108 rfl fl_11_109 rfl (S_102 hK) (R_102_46 hK) ?_
    refine s_iload_n 2 dX11_askOf_111 rfl rfl ?_
    refine sm_ck (fun g16 => ?_)
    refine s_iald dX11_askOf_112 rfl (S_134 hK) g16 ?_
    exact s_iret dX11_askOf_113 rfl (fun f h => h)
  refine sm_ite (fun h17 => ?_) (fun h17 => ?_)
  · skip
    refine s_tin (tgt := 114) dX11_askOf_1 (by rw [h17]; try decide) (by rw [h17]; try decide) (by rw [h17]; try rfl) rfl ?_
    refine s_aload_n 0 dX11_askOf_114 rfl rfl ?_
    refine s_getR 137 dX11_askOf_115 rfl fl_11_121 rfl (S_102 hK) (R_102_66 hK) ?_
    refine s_bipush (v := 50) dX11_askOf_118 rfl cB_50 ?_
    refine s_iconst (v := 3) dX11_askOf_120 rfl cI_3 ?_
    refine s_iload_n 2 dX11_askOf_121 rfl rfl ?_
    refine s_imul dX11_askOf_122 rfl ?_
    refine s_iadd dX11_askOf_123 rfl ?_
    refine sm_ck (fun g18 => ?_)
    refine s_iald dX11_askOf_124 rfl (S_137 hK) g18 ?_
    exact s_iret dX11_askOf_125 rfl (fun f h => h)
  refine sm_ite (fun h19 => ?_) (fun h19 => ?_)
  · skip
    refine s_tin (tgt := 126) dX11_askOf_1 (by rw [h19]; try decide) (by rw [h19]; try decide) (by rw [h19]; try rfl) rfl ?_
    refine s_iload 4 dX11_askOf_126 rfl rfl ?_
    exact s_iret dX11_askOf_128 rfl (fun f h => h)
  have hsw : ¬ (p1).toInt = 0 ∧ ¬ (p1).toInt = 1 ∧ ¬ (p1).toInt = 2 ∧ ¬ (p1).toInt = 3 ∧ ¬ (p1).toInt = 4 ∧ ¬ (p1).toInt = 5 ∧ ¬ (p1).toInt = 6 ∧ ¬ (p1).toInt = 7 ∧ ¬ (p1).toInt = 8 := ⟨lv_neT h1 (a := 0) rfl, lv_neT h3 (a := 1) rfl, lv_neT h5 (a := 2) rfl, lv_neT h8 (a := 3) rfl, lv_neT h11 (a := 4) rfl, lv_neT h13 (a := 5) rfl, lv_neT h15 (a := 6) rfl, lv_neT h17 (a := 7) rfl, lv_neT h19 (a := 8) rfl⟩
  refine s_tout (tgt := 129) dX11_askOf_1 (by omega) rfl ?_
  refine s_iload 5 dX11_askOf_129 rfl rfl ?_
  exact s_iret dX11_askOf_131 rfl (fun f h => h)
noncomputable def x11_worked_L10s (c1 : Int32) (c2 : Int32) (c3 : Int32) (c4 : Int32) (c5 : Int32) (rec : Int32 → Int32 → MI → Option (MI)) (w6 : Int32) (w7 : Int32) (I : MI) : Option (MI) :=
ck (vp_in c1 11) <|
if w7 < ((320 * c1) + (I 109 (ix c1))) then (
ck (vp_in w7 3520) <|
if (I 107 (ix w7)) = 0 then (
ck (vp_in w7 3520) <|
if (I 107 (ix w7)) = 0 then (
ck (vp_in w7 3520) <|
ck (vp_in w6 64) <|
lt (wI I 111 (ix w6) (I 108 (ix w7))) fun I13 =>
lt (w6 + 1) fun v15 =>
lt (w7 + 1) fun v16 =>
rec v15 v16 I13) else
ck (vp_in w7 3520) <|
b1 (x11_askOf (I 108 (ix w7)) c2 c3 c4 c5 I) fun r7 =>
ck (vp_in w6 64) <|
lt (wI I 111 (ix w6) r7) fun I8 =>
lt (w6 + 1) fun v10 =>
lt (w7 + 1) fun v11 =>
rec v10 v11 I8) else
ck (vp_in w7 3520) <|
if (I 107 (ix w7)) = 1 then (
ck (vp_in w7 3520) <|
if (I 107 (ix w7)) = 0 then (
ck (vp_in w7 3520) <|
ck (vp_in w6 64) <|
lt (wI I 111 (ix w6) (I 108 (ix w7))) fun I41 =>
lt (w6 + 1) fun v43 =>
lt (w7 + 1) fun v44 =>
rec v43 v44 I41) else
ck (vp_in w7 3520) <|
b1 (x11_askOf (I 108 (ix w7)) c2 c3 c4 c5 I) fun r35 =>
ck (vp_in w6 64) <|
lt (wI I 111 (ix w6) r35) fun I36 =>
lt (w6 + 1) fun v38 =>
lt (w7 + 1) fun v39 =>
rec v38 v39 I36) else
ck (vp_in w7 3520) <|
if (I 107 (ix w7)) = 2 then (
ck (vp_in (w6 - 1) 64) <|
b1 (
if (I 111 (ix (w6 - 1))) = 0 then (
some (1 : Int32)) else
some (0 : Int32)) fun e28 =>
b1 (x11_truth e28 I) fun r29 =>
ck (vp_in (w6 - 1) 64) <|
lt (wI I 111 (ix (w6 - 1)) r29) fun I30 =>
lt (w7 + 1) fun v32 =>
rec w6 v32 I30) else
lt (w6 + (-1)) fun v19 =>
ck (vp_in w7 3520) <|
ck (vp_in (v19 - 1) 64) <|
ck (vp_in v19 64) <|
b1 (x11_done (I 108 (ix w7)) (I 111 (ix (v19 - 1))) (I 111 (ix v19)) I) fun r23 =>
ck (vp_in (v19 - 1) 64) <|
lt (wI I 111 (ix (v19 - 1)) r23) fun I24 =>
lt (w7 + 1) fun v26 =>
rec v19 v26 I24) else
some I
noncomputable def x11_worked_L10 (c1 : Int32) (c2 : Int32) (c3 : Int32) (c4 : Int32) (c5 : Int32) : Nat → Int32 → Int32 → MI → Option (MI)
  | 0 => fun _ _ _ => none
  | n + 1 => x11_worked_L10s c1 c2 c3 c4 c5 (x11_worked_L10 c1 c2 c3 c4 c5 n)
noncomputable def x11_worked (p1 : Int32) (p2 : Int32) (p3 : Int32) (p4 : Int32) (p5 : Int32) (I : MI) : Option (Int32 × MI) :=
lt (0 : Int32) fun v1 =>
lt (320 * p1) fun v2 =>
b1 (x11_worked_L10 p1 p2 p3 p4 p5 FU v1 v2 I) fun e45 =>
some ((e45 111 (ix 0)), e45)
theorem x11_worked_L10_ok {X : WX} {n0 s0 : Nat} {c1 : Int32} {c2 : Int32} {c3 : Int32} {c4 : Int32} {c5 : Int32} {L : ML} {R : MR} {S : MS} (hK : okm R S) : ∀ (n : Nat) (w6 : Int32) (w7 : Int32) (I : MI), Sim X yX11_worked cX11_worked 8 (some .int) 3 69 n0 s0 10 [(0, .ref (X.1 + 102)), (1, .int c1), (2, .int c2), (3, .int c3), (4, .int c4), (5, .int c5), (6, .int w6), (7, .int w7)] [] (I, L, R, S) (x11_worked_L10 c1 c2 c3 c4 c5 n w6 w7 I) (fun b f => Ex X yX11_worked cX11_worked 8 (some .int) 3 69 n0 s0 185 [(0, .ref (X.1 + 102))] [] (b, L, R, S) f) := by
  intro n
  induction n with
  | zero =>
    intro w6 w7 I
    exact sm_none
  | succ n ih =>
    intro w6 w7 I
    change Sim _ _ _ _ _ _ _ _ _ _ _ _ _ (x11_worked_L10s c1 c2 c3 c4 c5 (x11_worked_L10 c1 c2 c3 c4 c5 n) w6 w7 I) _
    unfold x11_worked_L10s
    refine s_iload 7 dX11_worked_10 rfl rfl ?_
    refine s_sipush (v := 320) dX11_worked_12 rfl cS_320 ?_
    refine s_iload_n 1 dX11_worked_15 rfl rfl ?_
    refine s_imul dX11_worked_16 rfl ?_
    refine s_aload_n 0 dX11_worked_17 rfl rfl ?_
    refine s_getR 109 dX11_worked_18 rfl fl_11_32 rfl (S_102 hK) (R_102_15 hK) ?_
    refine s_iload_n 1 dX11_worked_21 rfl rfl ?_
    refine sm_ck (fun g3 => ?_)
    refine s_iald dX11_worked_22 rfl (S_109 hK) g3 ?_
    refine s_iadd dX11_worked_23 rfl ?_
    refine s_icmp_ge (tgt := 185) dX11_worked_24 rfl rfl (fun _ => ?_) (fun _ => ?_)
    · skip
      refine s_pick [0] rfl ?_
      exact sm_exit (fun f h => h)
    · skip
      refine s_aload_n 0 dX11_worked_27 rfl rfl ?_
      refine s_getR 107 dX11_worked_28 rfl fl_11_26 rfl (S_102 hK) (R_102_13 hK) ?_
      refine s_iload 7 dX11_worked_31 rfl rfl ?_
      refine sm_ck (fun g4 => ?_)
      refine s_iald dX11_worked_33 rfl (S_107 hK) g4 ?_
      refine s_if_eq (tgt := 48) dX11_worked_34 rfl rfl (fun _ => ?_) (fun _ => ?_)
      · skip
        refine s_aload_n 0 dX11_worked_48 rfl rfl ?_
        refine s_getR 111 dX11_worked_49 rfl fl_11_38 rfl (S_102 hK) (R_102_17 hK) ?_
        refine s_iload 6 dX11_worked_52 rfl rfl ?_
        refine s_aload_n 0 dX11_worked_54 rfl rfl ?_
        refine s_getR 107 dX11_worked_55 rfl fl_11_26 rfl (S_102 hK) (R_102_13 hK) ?_
        refine s_iload 7 dX11_worked_58 rfl rfl ?_
        refine sm_ck (fun g5 => ?_)
        refine s_iald dX11_worked_60 rfl (S_107 hK) g5 ?_
        refine s_if_ne (tgt := 74) dX11_worked_61 rfl rfl (fun _ => ?_) (fun _ => ?_)
        · skip
          refine s_aload_n 0 dX11_worked_74 rfl rfl ?_
          refine s_aload_n 0 dX11_worked_75 rfl rfl ?_
          refine s_getR 108 dX11_worked_76 rfl fl_11_29 rfl (S_102 hK) (R_102_14 hK) ?_
          refine s_iload 7 dX11_worked_79 rfl rfl ?_
          refine sm_ck (fun g6 => ?_)
          refine s_iald dX11_worked_81 rfl (S_108 hK) g6 ?_
          refine s_iload_n 2 dX11_worked_82 rfl rfl ?_
          refine s_iload_n 3 dX11_worked_83 rfl rfl ?_
          refine s_iload 4 dX11_worked_84 rfl rfl ?_
          refine s_iload 5 dX11_worked_86 rfl rfl ?_
          refine s_callV5_i0 dX11_worked_88 rfl lkV_RX11_364 (S_102 hK) (Nat.le_of_ble_eq_true rfl) (Nat.le_of_ble_eq_true rfl) (Nat.le_of_ble_eq_true rfl) (ct_x11_askOf hK) (fun r7 => ?_)
          refine sm_ck (fun g9 => ?_)
          refine s_iastL dX11_worked_91 rfl (S_111 hK) g9 (fun I8 => ?_)
          refine s_iincL 6 (c := 1) (fun v10 => [(6, .int v10), (0, .ref (X.1 + 102)), (1, .int c1), (2, .int c2), (3, .int c3), (4, .int c4), (5, .int c5), (7, .int w7)]) dX11_worked_92 rfl rfl cI_1 (by decide) (fun _ => rfl) (fun v10 => ?_)
          refine s_goto (tgt := 179) dX11_worked_95 rfl ?_
          refine s_iincL 7 (c := 1) (fun v11 => [(7, .int v11), (6, .int v10), (0, .ref (X.1 + 102)), (1, .int c1), (2, .int c2), (3, .int c3), (4, .int c4), (5, .int c5)]) dX11_worked_179 rfl rfl cI_1 (by decide) (fun _ => rfl) (fun v11 => ?_)
          refine s_goto (tgt := 10) dX11_worked_182 rfl ?_
          refine s_pick [2, 3, 4, 5, 6, 7, 1, 0] rfl ?_
          exact ih v10 v11 I8
        · skip
          refine s_aload_n 0 dX11_worked_64 rfl rfl ?_
          refine s_getR 108 dX11_worked_65 rfl fl_11_29 rfl (S_102 hK) (R_102_14 hK) ?_
          refine s_iload 7 dX11_worked_68 rfl rfl ?_
          refine sm_ck (fun g12 => ?_)
          refine s_iald dX11_worked_70 rfl (S_108 hK) g12 ?_
          refine s_goto (tgt := 91) dX11_worked_71 rfl ?_
          refine sm_ck (fun g14 => ?_)
          refine s_iastL dX11_worked_91 rfl (S_111 hK) g14 (fun I13 => ?_)
          refine s_iincL 6 (c := 1) (fun v15 => [(6, .int v15), (0, .ref (X.1 + 102)), (1, .int c1), (2, .int c2), (3, .int c3), (4, .int c4), (5, .int c5), (7, .int w7)]) dX11_worked_92 rfl rfl cI_1 (by decide) (fun _ => rfl) (fun v15 => ?_)
          refine s_goto (tgt := 179) dX11_worked_95 rfl ?_
          refine s_iincL 7 (c := 1) (fun v16 => [(7, .int v16), (6, .int v15), (0, .ref (X.1 + 102)), (1, .int c1), (2, .int c2), (3, .int c3), (4, .int c4), (5, .int c5)]) dX11_worked_179 rfl rfl cI_1 (by decide) (fun _ => rfl) (fun v16 => ?_)
          refine s_goto (tgt := 10) dX11_worked_182 rfl ?_
          refine s_pick [2, 3, 4, 5, 6, 7, 1, 0] rfl ?_
          exact ih v15 v16 I13
      · skip
        refine s_aload_n 0 dX11_worked_37 rfl rfl ?_
        refine s_getR 107 dX11_worked_38 rfl fl_11_26 rfl (S_102 hK) (R_102_13 hK) ?_
        refine s_iload 7 dX11_worked_41 rfl rfl ?_
        refine sm_ck (fun g17 => ?_)
        refine s_iald dX11_worked_43 rfl (S_107 hK) g17 ?_
        refine s_iconst (v := 1) dX11_worked_44 rfl cI_1 ?_
        refine s_icmp_ne (tgt := 98) dX11_worked_45 rfl rfl (fun _ => ?_) (fun _ => ?_)
        · skip
          refine s_aload_n 0 dX11_worked_98 rfl rfl ?_
          refine s_getR 107 dX11_worked_99 rfl fl_11_26 rfl (S_102 hK) (R_102_13 hK) ?_
          refine s_iload 7 dX11_worked_102 rfl rfl ?_
          refine sm_ck (fun g18 => ?_)
          refine s_iald dX11_worked_104 rfl (S_107 hK) g18 ?_
          refine s_iconst (v := 2) dX11_worked_105 rfl cI_2 ?_
          refine s_icmp_ne (tgt := 141) dX11_worked_106 rfl rfl (fun _ => ?_) (fun _ => ?_)
          · skip
            refine s_iincL 6 (c := (-1)) (fun v19 => [(6, .int v19), (0, .ref (X.1 + 102)), (1, .int c1), (2, .int c2), (3, .int c3), (4, .int c4), (5, .int c5), (7, .int w7)]) dX11_worked_141 rfl rfl cI_m1 (by decide) (fun _ => rfl) (fun v19 => ?_)
            refine s_aload_n 1 dX11_worked_144 rfl rfl ?_
            refine s_getR 111 dX11_worked_145 rfl fl_11_38 rfl (S_102 hK) (R_102_17 hK) ?_
            refine s_iload 0 dX11_worked_148 rfl rfl ?_
            refine s_iconst (v := 1) dX11_worked_150 rfl cI_1 ?_
            refine s_isub dX11_worked_151 rfl ?_
            refine s_aload_n 1 dX11_worked_152 rfl rfl ?_
            refine s_getR 108 dX11_worked_153 rfl fl_11_29 rfl (S_102 hK) (R_102_14 hK) ?_
            refine s_iload 7 dX11_worked_156 rfl rfl ?_
            refine sm_ck (fun g20 => ?_)
            refine s_iald dX11_worked_158 rfl (S_108 hK) g20 ?_
            refine s_aload_n 1 dX11_worked_159 rfl rfl ?_
            refine s_getR 111 dX11_worked_160 rfl fl_11_38 rfl (S_102 hK) (R_102_17 hK) ?_
            refine s_iload 0 dX11_worked_163 rfl rfl ?_
            refine s_iconst (v := 1) dX11_worked_165 rfl cI_1 ?_
            refine s_isub dX11_worked_166 rfl ?_
            refine sm_ck (fun g21 => ?_)
            refine s_iald dX11_worked_167 rfl (S_111 hK) g21 ?_
            refine s_aload_n 1 dX11_worked_168 rfl rfl ?_
            refine s_getR 111 dX11_worked_169 rfl fl_11_38 rfl (S_102 hK) (R_102_17 hK) ?_
            refine s_iload 0 dX11_worked_172 rfl rfl ?_
            refine sm_ck (fun g22 => ?_)
            refine s_iald dX11_worked_174 rfl (S_111 hK) g22 ?_
            refine s_callS3_i0 dX11_worked_175 rfl lkS_RX11_368 (Nat.le_of_ble_eq_true rfl) (Nat.le_of_ble_eq_true rfl) (Nat.le_of_ble_eq_true rfl) (ct_x11_done hK) (fun r23 => ?_)
            refine sm_ck (fun g25 => ?_)
            refine s_iastL dX11_worked_178 rfl (S_111 hK) g25 (fun I24 => ?_)
            refine s_iincL 7 (c := 1) (fun v26 => [(7, .int v26), (6, .int v19), (0, .ref (X.1 + 102)), (1, .int c1), (2, .int c2), (3, .int c3), (4, .int c4), (5, .int c5)]) dX11_worked_179 rfl rfl cI_1 (by decide) (fun _ => rfl) (fun v26 => ?_)
            refine s_goto (tgt := 10) dX11_worked_182 rfl ?_
            refine s_pick [2, 3, 4, 5, 6, 7, 1, 0] rfl ?_
            exact ih v19 v26 I24
          · skip
            refine s_aload_n 0 dX11_worked_109 rfl rfl ?_
            refine s_getR 111 dX11_worked_110 rfl fl_11_38 rfl (S_102 hK) (R_102_17 hK) ?_
            refine s_iload 6 dX11_worked_113 rfl rfl ?_
            refine s_iconst (v := 1) dX11_worked_115 rfl cI_1 ?_
            refine s_isub dX11_worked_116 rfl ?_
            refine s_aload_n 0 dX11_worked_117 rfl rfl ?_
            refine s_getR 111 dX11_worked_118 rfl fl_11_38 rfl (S_102 hK) (R_102_17 hK) ?_
            refine s_iload 6 dX11_worked_121 rfl rfl ?_
            refine s_iconst (v := 1) dX11_worked_123 rfl cI_1 ?_
            refine s_isub dX11_worked_124 rfl ?_
            refine sm_ck (fun g27 => ?_)
            refine s_iald dX11_worked_125 rfl (S_111 hK) g27 ?_
            refine sm_reg (pcx := 134) (lsx := fun e28 => [(0, .ref (X.1 + 102)), (1, .int c1), (2, .int c2), (3, .int c3), (4, .int c4), (5, .int c5), (6, .int w6), (7, .int w7)]) (stx := fun e28 => [.int e28, .int (w6 - 1), .ref (X.1 + 111)]) (ux := fun e28 => (I, L, R, S)) ?_ (fun e28 => ?_)
            · skip
              refine s_if_ne (tgt := 133) dX11_worked_126 rfl rfl (fun _ => ?_) (fun _ => ?_)
              · skip
                refine s_iconst (v := 0) dX11_worked_133 rfl cI_0 ?_
                exact sm_exit (fun f h => h)
              · skip
                refine s_iconst (v := 1) dX11_worked_129 rfl cI_1 ?_
                refine s_goto (tgt := 134) dX11_worked_130 rfl ?_
                exact sm_exit (fun f h => h)
            · skip
              refine s_callS1_i0 dX11_worked_134 rfl lkS_RX11_354 (Nat.le_of_ble_eq_true rfl) (Nat.le_of_ble_eq_true rfl) (Nat.le_of_ble_eq_true rfl) (ct_x11_truth hK) (fun r29 => ?_)
              refine sm_ck (fun g31 => ?_)
              refine s_iastL dX11_worked_137 rfl (S_111 hK) g31 (fun I30 => ?_)
              refine s_goto (tgt := 179) dX11_worked_138 rfl ?_
              refine s_iincL 7 (c := 1) (fun v32 => [(7, .int v32), (0, .ref (X.1 + 102)), (1, .int c1), (2, .int c2), (3, .int c3), (4, .int c4), (5, .int c5), (6, .int w6)]) dX11_worked_179 rfl rfl cI_1 (by decide) (fun _ => rfl) (fun v32 => ?_)
              refine s_goto (tgt := 10) dX11_worked_182 rfl ?_
              refine s_pick [1, 2, 3, 4, 5, 6, 7, 0] rfl ?_
              exact ih w6 v32 I30
        · skip
          refine s_aload_n 0 dX11_worked_48 rfl rfl ?_
          refine s_getR 111 dX11_worked_49 rfl fl_11_38 rfl (S_102 hK) (R_102_17 hK) ?_
          refine s_iload 6 dX11_worked_52 rfl rfl ?_
          refine s_aload_n 0 dX11_worked_54 rfl rfl ?_
          refine s_getR 107 dX11_worked_55 rfl fl_11_26 rfl (S_102 hK) (R_102_13 hK) ?_
          refine s_iload 7 dX11_worked_58 rfl rfl ?_
          refine sm_ck (fun g33 => ?_)
          refine s_iald dX11_worked_60 rfl (S_107 hK) g33 ?_
          refine s_if_ne (tgt := 74) dX11_worked_61 rfl rfl (fun _ => ?_) (fun _ => ?_)
          · skip
            refine s_aload_n 0 dX11_worked_74 rfl rfl ?_
            refine s_aload_n 0 dX11_worked_75 rfl rfl ?_
            refine s_getR 108 dX11_worked_76 rfl fl_11_29 rfl (S_102 hK) (R_102_14 hK) ?_
            refine s_iload 7 dX11_worked_79 rfl rfl ?_
            refine sm_ck (fun g34 => ?_)
            refine s_iald dX11_worked_81 rfl (S_108 hK) g34 ?_
            refine s_iload_n 2 dX11_worked_82 rfl rfl ?_
            refine s_iload_n 3 dX11_worked_83 rfl rfl ?_
            refine s_iload 4 dX11_worked_84 rfl rfl ?_
            refine s_iload 5 dX11_worked_86 rfl rfl ?_
            refine s_callV5_i0 dX11_worked_88 rfl lkV_RX11_364 (S_102 hK) (Nat.le_of_ble_eq_true rfl) (Nat.le_of_ble_eq_true rfl) (Nat.le_of_ble_eq_true rfl) (ct_x11_askOf hK) (fun r35 => ?_)
            refine sm_ck (fun g37 => ?_)
            refine s_iastL dX11_worked_91 rfl (S_111 hK) g37 (fun I36 => ?_)
            refine s_iincL 6 (c := 1) (fun v38 => [(6, .int v38), (0, .ref (X.1 + 102)), (1, .int c1), (2, .int c2), (3, .int c3), (4, .int c4), (5, .int c5), (7, .int w7)]) dX11_worked_92 rfl rfl cI_1 (by decide) (fun _ => rfl) (fun v38 => ?_)
            refine s_goto (tgt := 179) dX11_worked_95 rfl ?_
            refine s_iincL 7 (c := 1) (fun v39 => [(7, .int v39), (6, .int v38), (0, .ref (X.1 + 102)), (1, .int c1), (2, .int c2), (3, .int c3), (4, .int c4), (5, .int c5)]) dX11_worked_179 rfl rfl cI_1 (by decide) (fun _ => rfl) (fun v39 => ?_)
            refine s_goto (tgt := 10) dX11_worked_182 rfl ?_
            refine s_pick [2, 3, 4, 5, 6, 7, 1, 0] rfl ?_
            exact ih v38 v39 I36
          · skip
            refine s_aload_n 0 dX11_worked_64 rfl rfl ?_
            refine s_getR 108 dX11_worked_65 rfl fl_11_29 rfl (S_102 hK) (R_102_14 hK) ?_
            refine s_iload 7 dX11_worked_68 rfl rfl ?_
            refine sm_ck (fun g40 => ?_)
            refine s_iald dX11_worked_70 rfl (S_108 hK) g40 ?_
            refine s_goto (tgt := 91) dX11_worked_71 rfl ?_
            refine sm_ck (fun g42 => ?_)
            refine s_iastL dX11_worked_91 rfl (S_111 hK) g42 (fun I41 => ?_)
            refine s_iincL 6 (c := 1) (fun v43 => [(6, .int v43), (0, .ref (X.1 + 102)), (1, .int c1), (2, .int c2), (3, .int c3), (4, .int c4), (5, .int c5), (7, .int w7)]) dX11_worked_92 rfl rfl cI_1 (by decide) (fun _ => rfl) (fun v43 => ?_)
            refine s_goto (tgt := 179) dX11_worked_95 rfl ?_
            refine s_iincL 7 (c := 1) (fun v44 => [(7, .int v44), (6, .int v43), (0, .ref (X.1 + 102)), (1, .int c1), (2, .int c2), (3, .int c3), (4, .int c4), (5, .int c5)]) dX11_worked_179 rfl rfl cI_1 (by decide) (fun _ => rfl) (fun v44 => ?_)
            refine s_goto (tgt := 10) dX11_worked_182 rfl ?_
            refine s_pick [2, 3, 4, 5, 6, 7, 1, 0] rfl ?_
            exact ih v43 v44 I41
theorem ct_x11_worked {X : WX} {p1 : Int32} {p2 : Int32} {p3 : Int32} {p4 : Int32} {p5 : Int32} {I : MI} {L : ML} {R : MR} {S : MS} (hK : okm R S) : Ct X yX11_worked cX11_worked 8 (some .int) 3 69 [.ref (X.1 + 102), .int p1, .int p2, .int p3, .int p4, .int p5] (I, L, R, S) (x11_worked p1 p2 p3 p4 p5 I) (fun r => (some (.int r.1), (r.2, L, R, S))) := by
  refine Ct.of (by decide) (Nat.le_of_ble_eq_true rfl) [(0, .ref (X.1 + 102)), (1, .int p1), (2, .int p2), (3, .int p3), (4, .int p4), (5, .int p5)] rfl ?_
  unfold x11_worked
  refine s_iconst (v := 0) dX11_worked_0 rfl cI_0 ?_
  refine s_istoreL (fun v1 => [(6, .int v1), (0, .ref (X.1 + 102)), (1, .int p1), (2, .int p2), (3, .int p3), (4, .int p4), (5, .int p5)]) dX11_worked_1 rfl (by decide) (fun _ => rfl) (fun v1 => ?_)
  refine s_sipush (v := 320) dX11_worked_3 rfl cS_320 ?_
  refine s_iload_n 2 dX11_worked_6 rfl rfl ?_
  refine s_imul dX11_worked_7 rfl ?_
  refine s_istoreL (fun v2 => [(7, .int v2), (6, .int v1), (0, .ref (X.1 + 102)), (1, .int p1), (2, .int p2), (3, .int p3), (4, .int p4), (5, .int p5)]) dX11_worked_8 rfl (by decide) (fun _ => rfl) (fun v2 => ?_)
  refine s_pick [2, 3, 4, 5, 6, 7, 1, 0] rfl ?_
  refine sm_reg (x11_worked_L10_ok hK FU v1 v2 I) (fun e45 => ?_)
  refine s_aload_n 0 dX11_worked_185 rfl rfl ?_
  refine s_getR 111 dX11_worked_186 rfl fl_11_38 rfl (S_102 hK) (R_102_17 hK) ?_
  refine s_iconst (v := 0) dX11_worked_189 rfl cI_0 ?_
  refine s_iald dX11_worked_190 rfl (S_111 hK) (by unfold vp_in; decide) ?_
  exact s_iret dX11_worked_191 rfl (fun f h => h)
noncomputable def x11_find_L5s (c1 : Int32) (c2 : Int32) (L : ML) (rec : Int32 → Int32 → Option (Int32)) (w3 : Int32) (w4 : Int32) : Option (Int32) :=
if w4 < c2 then (
ck (vp_in (c1 + w4) 20) <|
if (lg_cmp (L 112 (ix (c1 + w4))) (L 102 9)) = 0 then (
lt w4 fun v6 =>
lt (w4 + 1) fun v7 =>
rec v6 v7) else
lt w3 fun v4 =>
lt (w4 + 1) fun v5 =>
rec v4 v5) else
some w3
noncomputable def x11_find_L5 (c1 : Int32) (c2 : Int32) (L : ML) : Nat → Int32 → Int32 → Option (Int32)
  | 0 => fun _ _ => none
  | n + 1 => x11_find_L5s c1 c2 L (x11_find_L5 c1 c2 L n)
noncomputable def x11_find (p1 : Int32) (p2 : Int32) (I : MI) (L : ML) : Option (Int32) :=
lt (-1 : Int32) fun v1 =>
lt (0 : Int32) fun v2 =>
b1 (x11_find_L5 p1 p2 L FU v1 v2) fun e8 =>
some e8
theorem x11_find_L5_ok {X : WX} {n0 s0 : Nat} {c1 : Int32} {c2 : Int32} {I : MI} {L : ML} {R : MR} {S : MS} (hK : okm R S) : ∀ (n : Nat) (w3 : Int32) (w4 : Int32), Sim X yX11_find cX11_find 5 (some .int) 0 0 n0 s0 5 [(0, .ref (X.1 + 102)), (1, .int c1), (2, .int c2), (3, .int w3), (4, .int w4)] [] (I, L, R, S) (x11_find_L5 c1 c2 L n w3 w4) (fun b f => Ex X yX11_find cX11_find 5 (some .int) 0 0 n0 s0 41 [(3, .int b)] [] (I, L, R, S) f) := by
  intro n
  induction n with
  | zero =>
    intro w3 w4
    exact sm_none
  | succ n ih =>
    intro w3 w4
    change Sim _ _ _ _ _ _ _ _ _ _ _ _ _ (x11_find_L5s c1 c2 L (x11_find_L5 c1 c2 L n) w3 w4) _
    unfold x11_find_L5s
    refine s_iload 4 dX11_find_5 rfl rfl ?_
    refine s_iload_n 2 dX11_find_7 rfl rfl ?_
    refine s_icmp_ge (tgt := 41) dX11_find_8 rfl rfl (fun _ => ?_) (fun _ => ?_)
    · skip
      refine s_pick [3] rfl ?_
      exact sm_exit (fun f h => h)
    · skip
      refine s_aload_n 0 dX11_find_11 rfl rfl ?_
      refine s_getR 112 dX11_find_12 rfl fl_11_41 rfl (S_102 hK) (R_102_24 hK) ?_
      refine s_iload_n 1 dX11_find_15 rfl rfl ?_
      refine s_iload 4 dX11_find_16 rfl rfl ?_
      refine s_iadd dX11_find_18 rfl ?_
      refine sm_ck (fun g3 => ?_)
      refine s_lald dX11_find_19 rfl (S_112 hK) g3 ?_
      refine s_aload_n 0 dX11_find_20 rfl rfl ?_
      refine s_getL dX11_find_21 rfl fl_11_204 (S_102 hK) ?_
      refine s_lcmp dX11_find_24 rfl ?_
      refine s_if_ne (tgt := 33) dX11_find_25 rfl rfl (fun _ => ?_) (fun _ => ?_)
      · skip
        refine s_iload_n 3 dX11_find_33 rfl rfl ?_
        refine s_istore_nL (fun v4 => [(3, .int v4), (0, .ref (X.1 + 102)), (1, .int c1), (2, .int c2), (4, .int w4)]) dX11_find_34 rfl (by decide) (fun _ => rfl) (fun v4 => ?_)
        refine s_iincL 4 (c := 1) (fun v5 => [(4, .int v5), (3, .int v4), (0, .ref (X.1 + 102)), (1, .int c1), (2, .int c2)]) dX11_find_35 rfl rfl cI_1 (by decide) (fun _ => rfl) (fun v5 => ?_)
        refine s_goto (tgt := 5) dX11_find_38 rfl ?_
        refine s_pick [2, 3, 4, 1, 0] rfl ?_
        exact ih v4 v5
      · skip
        refine s_iload 4 dX11_find_28 rfl rfl ?_
        refine s_goto (tgt := 34) dX11_find_30 rfl ?_
        refine s_istore_nL (fun v6 => [(3, .int v6), (0, .ref (X.1 + 102)), (1, .int c1), (2, .int c2), (4, .int w4)]) dX11_find_34 rfl (by decide) (fun _ => rfl) (fun v6 => ?_)
        refine s_iincL 4 (c := 1) (fun v7 => [(4, .int v7), (3, .int v6), (0, .ref (X.1 + 102)), (1, .int c1), (2, .int c2)]) dX11_find_35 rfl rfl cI_1 (by decide) (fun _ => rfl) (fun v7 => ?_)
        refine s_goto (tgt := 5) dX11_find_38 rfl ?_
        refine s_pick [2, 3, 4, 1, 0] rfl ?_
        exact ih v6 v7
theorem ct_x11_find {X : WX} {p1 : Int32} {p2 : Int32} {I : MI} {L : ML} {R : MR} {S : MS} (hK : okm R S) : Ct X yX11_find cX11_find 5 (some .int) 0 0 [.ref (X.1 + 102), .int p1, .int p2] (I, L, R, S) (x11_find p1 p2 I L) (fun r => (some (.int r), (I, L, R, S))) := by
  refine Ct.of (by decide) (Nat.le_of_ble_eq_true rfl) [(0, .ref (X.1 + 102)), (1, .int p1), (2, .int p2)] rfl ?_
  unfold x11_find
  refine s_iconst (v := (-1)) dX11_find_0 rfl cI_m1 ?_
  refine s_istore_nL (fun v1 => [(3, .int v1), (0, .ref (X.1 + 102)), (1, .int p1), (2, .int p2)]) dX11_find_1 rfl (by decide) (fun _ => rfl) (fun v1 => ?_)
  refine s_iconst (v := 0) dX11_find_2 rfl cI_0 ?_
  refine s_istoreL (fun v2 => [(4, .int v2), (3, .int v1), (0, .ref (X.1 + 102)), (1, .int p1), (2, .int p2)]) dX11_find_3 rfl (by decide) (fun _ => rfl) (fun v2 => ?_)
  refine s_pick [2, 3, 4, 1, 0] rfl ?_
  refine sm_reg (x11_find_L5_ok hK FU v1 v2) (fun e8 => ?_)
  refine s_iload_n 0 dX11_find_41 rfl rfl ?_
  exact s_iret dX11_find_42 rfl (fun f h => h)
noncomputable def x11_newName (p1 : Int32) (p2 : Int32) (I : MI) (L : ML) : Option (MI × ML) :=
b2 (x11_token I L) fun I1 L2 =>
b1 (x11_isName I1 L2) fun r3 =>
b1 (
if r3 = 0 then (
b1 (x11_wrong (2 : Int32) I1) fun I7 =>
some I7) else
b1 (x11_find p1 p2 I1 L2) fun r5 =>
if r5 < 0 then (
some I1) else
b1 (x11_wrong (3 : Int32) I1) fun I6 =>
some I6) fun e4 =>
if 0 < (e4 102 2) then (
some (e4, L2)) else
ck (vp_in (p1 + p2) 20) <|
lt (wL L2 112 (ix (p1 + p2)) (L2 102 9)) fun L8 =>
b2 (x11_token e4 L8) fun I10 L11 =>
some (I10, L11)
theorem ct_x11_newName {X : WX} {p1 : Int32} {p2 : Int32} {I : MI} {L : ML} {R : MR} {S : MS} (hK : okm R S) : Ct X yX11_newName cX11_newName 3 none 2 43 [.ref (X.1 + 102), .int p1, .int p2] (I, L, R, S) (x11_newName p1 p2 I L) (fun r => (none, (r.1, r.2, R, S))) := by
  refine Ct.of (by decide) (Nat.le_of_ble_eq_true rfl) [(0, .ref (X.1 + 102)), (1, .int p1), (2, .int p2)] rfl ?_
  unfold x11_newName
  refine s_aload_n 0 dX11_newName_0 rfl rfl ?_
  refine s_callV0_v2 dX11_newName_1 rfl lkV_RX11_287 (S_102 hK) (Nat.le_of_ble_eq_true rfl) (Nat.le_of_ble_eq_true rfl) (Nat.le_of_ble_eq_true rfl) (ct_x11_token hK) (fun I1 L2 => ?_)
  refine s_aload_n 0 dX11_newName_4 rfl rfl ?_
  refine s_callV0_i0 dX11_newName_5 rfl lkV_RX11_372 (S_102 hK) (Nat.le_of_ble_eq_true rfl) (Nat.le_of_ble_eq_true rfl) (Nat.le_of_ble_eq_true rfl) (ct_x11_isName hK) (fun r3 => ?_)
  refine sm_reg (pcx := 33) (lsx := fun e4 => [(0, .ref (X.1 + 102)), (1, .int p1), (2, .int p2)]) (stx := fun e4 => []) (ux := fun e4 => (e4, L2, R, S)) ?_ (fun e4 => ?_)
  · skip
    refine s_if_ne (tgt := 19) dX11_newName_8 rfl rfl (fun _ => ?_) (fun _ => ?_)
    · skip
      refine s_aload_n 0 dX11_newName_19 rfl rfl ?_
      refine s_iload_n 1 dX11_newName_20 rfl rfl ?_
      refine s_iload_n 2 dX11_newName_21 rfl rfl ?_
      refine s_callV2_i0 dX11_newName_22 rfl lkV_RX11_375 (S_102 hK) (Nat.le_of_ble_eq_true rfl) (Nat.le_of_ble_eq_true rfl) (Nat.le_of_ble_eq_true rfl) (ct_x11_find hK) (fun r5 => ?_)
      refine s_if_lt (tgt := 33) dX11_newName_25 rfl rfl (fun _ => ?_) (fun _ => ?_)
      · skip
        exact sm_exit (fun f h => h)
      · skip
        refine s_aload_n 0 dX11_newName_28 rfl rfl ?_
        refine s_iconst (v := 3) dX11_newName_29 rfl cI_3 ?_
        refine s_callV1_v1 dX11_newName_30 rfl lkV_RX11_290 (S_102 hK) (Nat.le_of_ble_eq_true rfl) (Nat.le_of_ble_eq_true rfl) (Nat.le_of_ble_eq_true rfl) (ct_x11_wrong hK) (fun I6 => ?_)
        exact sm_exit (fun f h => h)
    · skip
      refine s_aload_n 0 dX11_newName_11 rfl rfl ?_
      refine s_iconst (v := 2) dX11_newName_12 rfl cI_2 ?_
      refine s_callV1_v1 dX11_newName_13 rfl lkV_RX11_290 (S_102 hK) (Nat.le_of_ble_eq_true rfl) (Nat.le_of_ble_eq_true rfl) (Nat.le_of_ble_eq_true rfl) (ct_x11_wrong hK) (fun I7 => ?_)
      refine s_goto (tgt := 33) dX11_newName_16 rfl ?_
      exact sm_exit (fun f h => h)
  · skip
    refine s_aload_n 0 dX11_newName_33 rfl rfl ?_
    refine s_getI dX11_newName_34 rfl fl_11_224 (S_102 hK) ?_
    refine s_if_le (tgt := 41) dX11_newName_37 rfl rfl (fun _ => ?_) (fun _ => ?_)
    · skip
      refine s_aload_n 0 dX11_newName_41 rfl rfl ?_
      refine s_getR 112 dX11_newName_42 rfl fl_11_41 rfl (S_102 hK) (R_102_24 hK) ?_
      refine s_iload_n 1 dX11_newName_45 rfl rfl ?_
      refine s_iload_n 2 dX11_newName_46 rfl rfl ?_
      refine s_iadd dX11_newName_47 rfl ?_
      refine s_aload_n 0 dX11_newName_48 rfl rfl ?_
      refine s_getL dX11_newName_49 rfl fl_11_204 (S_102 hK) ?_
      refine sm_ck (fun g9 => ?_)
      refine s_lastL dX11_newName_52 rfl (S_112 hK) g9 (fun L8 => ?_)
      refine s_aload_n 0 dX11_newName_53 rfl rfl ?_
      refine s_callV0_v2 dX11_newName_54 rfl lkV_RX11_287 (S_102 hK) (Nat.le_of_ble_eq_true rfl) (Nat.le_of_ble_eq_true rfl) (Nat.le_of_ble_eq_true rfl) (ct_x11_token hK) (fun I10 L11 => ?_)
      exact s_vret dX11_newName_57 rfl (fun f h => h)
    · skip
      exact s_vret dX11_newName_40 rfl (fun f h => h)
noncomputable def x11_readTub (I : MI) (L : ML) : Option (MI × ML) :=
b3 (x11_told (7632226 : Int64) (1 : Int32) (6 : Int32) I L) fun r1 I2 L3 =>
lt (wI I2 102 49 r1) fun I4 =>
b3 (x11_told (25209 : Int64) (1 : Int32) (6 : Int32) I4 L3) fun r5 I6 L7 =>
lt (wI I6 102 50 r5) fun I8 =>
some (I8, L7)
theorem ct_x11_readTub {X : WX} {I : MI} {L : ML} {R : MR} {S : MS} (hK : okm R S) : Ct X yX11_readTub cX11_readTub 1 none 4 90 [.ref (X.1 + 102)] (I, L, R, S) (x11_readTub I L) (fun r => (none, (r.1, r.2, R, S))) := by
  refine Ct.of (by decide) (Nat.le_of_ble_eq_true rfl) [(0, .ref (X.1 + 102))] rfl ?_
  unfold x11_readTub
  refine s_aload_n 0 dX11_readTub_0 rfl rfl ?_
  refine s_aload_n 0 dX11_readTub_1 rfl rfl ?_
  refine s_ldc2 (v := 7632226) dX11_readTub_2 rfl kl_11_227c ?_
  refine s_iconst (v := 1) dX11_readTub_5 rfl cI_1 ?_
  refine s_bipush (v := 6) dX11_readTub_6 rfl cB_6 ?_
  refine s_callV3_i2 dX11_readTub_8 rfl lkV_RX11_378 (S_102 hK) (Nat.le_of_ble_eq_true rfl) (Nat.le_of_ble_eq_true rfl) (Nat.le_of_ble_eq_true rfl) (ct_x11_told hK) (fun r1 I2 L3 => ?_)
  refine s_putIL dX11_readTub_11 rfl fl_11_382 (S_102 hK) (fun I4 => ?_)
  refine s_aload_n 0 dX11_readTub_14 rfl rfl ?_
  refine s_aload_n 0 dX11_readTub_15 rfl rfl ?_
  refine s_ldc2 (v := 25209) dX11_readTub_16 rfl kl_11_229c ?_
  refine s_iconst (v := 1) dX11_readTub_19 rfl cI_1 ?_
  refine s_bipush (v := 6) dX11_readTub_20 rfl cB_6 ?_
  refine s_callV3_i2 dX11_readTub_22 rfl lkV_RX11_378 (S_102 hK) (Nat.le_of_ble_eq_true rfl) (Nat.le_of_ble_eq_true rfl) (Nat.le_of_ble_eq_true rfl) (ct_x11_told hK) (fun r5 I6 L7 => ?_)
  refine s_putIL dX11_readTub_25 rfl fl_11_385 (S_102 hK) (fun I8 => ?_)
  exact s_vret dX11_readTub_28 rfl (fun f h => h)
noncomputable def x11_readOdds (I : MI) (L : ML) : Option (MI × ML) :=
b2 (x11_token I L) fun I1 L2 =>
b1 (x11_isWord (1718773093 : Int64) I1 L2) fun r3 =>
b1 (
if r3 = 0 then (
b1 (x11_isWord (495873780843 : Int64) I1 L2) fun r5 =>
if r5 = 0 then (
b1 (x11_isWord (2002873452 : Int64) I1 L2) fun r6 =>
if r6 = 0 then (
b1 (x11_isWord (113741193899620 : Int64) I1 L2) fun r7 =>
if r7 = 0 then (
b1 (x11_isWord (1818583406 : Int64) I1 L2) fun r8 =>
if r8 = 0 then (
some (-1 : Int32)) else
some (4 : Int32)) else
some (3 : Int32)) else
some (2 : Int32)) else
some (1 : Int32)) else
some (0 : Int32)) fun e4 =>
lt e4 fun v9 =>
b1 (
if v9 < 0 then (
b1 (x11_wrong (2 : Int32) I1) fun I11 =>
some I11) else
if (((I1 102 51) >>> (v9 &&& 31)) &&& 1) = 1 then (
b1 (x11_wrong (2 : Int32) I1) fun I12 =>
some I12) else
some I1) fun e10 =>
if 0 < (e10 102 2) then (
some (e10, L2)) else
lt (wI e10 102 51 ((e10 102 51) ||| ((1 : Int32) <<< (v9 &&& 31)))) fun I13 =>
b2 (x11_token I13 L2) fun I14 L15 =>
b2 (x11_formula v9 I14 L15) fun I16 L17 =>
some (I16, L17)
theorem ct_x11_readOdds {X : WX} {I : MI} {L : ML} {R : MR} {S : MS} (hK : okm R S) : Ct X yX11_readOdds cX11_readOdds 2 none 5 109 [.ref (X.1 + 102)] (I, L, R, S) (x11_readOdds I L) (fun r => (none, (r.1, r.2, R, S))) := by
  refine Ct.of (by decide) (Nat.le_of_ble_eq_true rfl) [(0, .ref (X.1 + 102))] rfl ?_
  unfold x11_readOdds
  refine s_aload_n 0 dX11_readOdds_0 rfl rfl ?_
  refine s_callV0_v2 dX11_readOdds_1 rfl lkV_RX11_287 (S_102 hK) (Nat.le_of_ble_eq_true rfl) (Nat.le_of_ble_eq_true rfl) (Nat.le_of_ble_eq_true rfl) (ct_x11_token hK) (fun I1 L2 => ?_)
  refine s_aload_n 0 dX11_readOdds_4 rfl rfl ?_
  refine s_ldc2 (v := 1718773093) dX11_readOdds_5 rfl kl_11_233c ?_
  refine s_callV1_i0 dX11_readOdds_8 rfl lkV_RX11_283 (S_102 hK) (Nat.le_of_ble_eq_true rfl) (Nat.le_of_ble_eq_true rfl) (Nat.le_of_ble_eq_true rfl) (ct_x11_isWord hK) (fun r3 => ?_)
  refine sm_reg (pcx := 75) (lsx := fun e4 => [(0, .ref (X.1 + 102))]) (stx := fun e4 => [.int e4]) (ux := fun e4 => (I1, L2, R, S)) ?_ (fun e4 => ?_)
  · skip
    refine s_if_eq (tgt := 18) dX11_readOdds_11 rfl rfl (fun _ => ?_) (fun _ => ?_)
    · skip
      refine s_aload_n 0 dX11_readOdds_18 rfl rfl ?_
      refine s_ldc2 (v := 495873780843) dX11_readOdds_19 rfl kl_11_235c ?_
      refine s_callV1_i0 dX11_readOdds_22 rfl lkV_RX11_283 (S_102 hK) (Nat.le_of_ble_eq_true rfl) (Nat.le_of_ble_eq_true rfl) (Nat.le_of_ble_eq_true rfl) (ct_x11_isWord hK) (fun r5 => ?_)
      refine s_if_eq (tgt := 32) dX11_readOdds_25 rfl rfl (fun _ => ?_) (fun _ => ?_)
      · skip
        refine s_aload_n 0 dX11_readOdds_32 rfl rfl ?_
        refine s_ldc2 (v := 2002873452) dX11_readOdds_33 rfl kl_11_237c ?_
        refine s_callV1_i0 dX11_readOdds_36 rfl lkV_RX11_283 (S_102 hK) (Nat.le_of_ble_eq_true rfl) (Nat.le_of_ble_eq_true rfl) (Nat.le_of_ble_eq_true rfl) (ct_x11_isWord hK) (fun r6 => ?_)
        refine s_if_eq (tgt := 46) dX11_readOdds_39 rfl rfl (fun _ => ?_) (fun _ => ?_)
        · skip
          refine s_aload_n 0 dX11_readOdds_46 rfl rfl ?_
          refine s_ldc2 (v := 113741193899620) dX11_readOdds_47 rfl kl_11_239c ?_
          refine s_callV1_i0 dX11_readOdds_50 rfl lkV_RX11_283 (S_102 hK) (Nat.le_of_ble_eq_true rfl) (Nat.le_of_ble_eq_true rfl) (Nat.le_of_ble_eq_true rfl) (ct_x11_isWord hK) (fun r7 => ?_)
          refine s_if_eq (tgt := 60) dX11_readOdds_53 rfl rfl (fun _ => ?_) (fun _ => ?_)
          · skip
            refine s_aload_n 0 dX11_readOdds_60 rfl rfl ?_
            refine s_ldc2 (v := 1818583406) dX11_readOdds_61 rfl kl_11_269c ?_
            refine s_callV1_i0 dX11_readOdds_64 rfl lkV_RX11_283 (S_102 hK) (Nat.le_of_ble_eq_true rfl) (Nat.le_of_ble_eq_true rfl) (Nat.le_of_ble_eq_true rfl) (ct_x11_isWord hK) (fun r8 => ?_)
            refine s_if_eq (tgt := 74) dX11_readOdds_67 rfl rfl (fun _ => ?_) (fun _ => ?_)
            · skip
              refine s_iconst (v := (-1)) dX11_readOdds_74 rfl cI_m1 ?_
              exact sm_exit (fun f h => h)
            · skip
              refine s_iconst (v := 4) dX11_readOdds_70 rfl cI_4 ?_
              refine s_goto (tgt := 75) dX11_readOdds_71 rfl ?_
              exact sm_exit (fun f h => h)
          · skip
            refine s_iconst (v := 3) dX11_readOdds_56 rfl cI_3 ?_
            refine s_goto (tgt := 75) dX11_readOdds_57 rfl ?_
            exact sm_exit (fun f h => h)
        · skip
          refine s_iconst (v := 2) dX11_readOdds_42 rfl cI_2 ?_
          refine s_goto (tgt := 75) dX11_readOdds_43 rfl ?_
          exact sm_exit (fun f h => h)
      · skip
        refine s_iconst (v := 1) dX11_readOdds_28 rfl cI_1 ?_
        refine s_goto (tgt := 75) dX11_readOdds_29 rfl ?_
        exact sm_exit (fun f h => h)
    · skip
      refine s_iconst (v := 0) dX11_readOdds_14 rfl cI_0 ?_
      refine s_goto (tgt := 75) dX11_readOdds_15 rfl ?_
      exact sm_exit (fun f h => h)
  · skip
    refine s_istore_nL (fun v9 => [(1, .int v9), (0, .ref (X.1 + 102))]) dX11_readOdds_75 rfl (by decide) (fun _ => rfl) (fun v9 => ?_)
    refine s_iload_n 0 dX11_readOdds_76 rfl rfl ?_
    refine sm_reg (pcx := 97) (lsx := fun e10 => [(0, .ref (X.1 + 102)), (1, .int v9)]) (stx := fun e10 => []) (ux := fun e10 => (e10, L2, R, S)) ?_ (fun e10 => ?_)
    · skip
      refine s_if_lt (tgt := 92) dX11_readOdds_77 rfl rfl (fun _ => ?_) (fun _ => ?_)
      · skip
        refine s_aload_n 1 dX11_readOdds_92 rfl rfl ?_
        refine s_iconst (v := 2) dX11_readOdds_93 rfl cI_2 ?_
        refine s_callV1_v1 dX11_readOdds_94 rfl lkV_RX11_290 (S_102 hK) (Nat.le_of_ble_eq_true rfl) (Nat.le_of_ble_eq_true rfl) (Nat.le_of_ble_eq_true rfl) (ct_x11_wrong hK) (fun I11 => ?_)
        refine s_pick [1, 0] rfl ?_
        exact sm_exit (fun f h => h)
      · skip
        refine s_aload_n 1 dX11_readOdds_80 rfl rfl ?_
        refine s_getI dX11_readOdds_81 rfl fl_11_388 (S_102 hK) ?_
        refine s_iload_n 0 dX11_readOdds_84 rfl rfl ?_
        refine s_ishr dX11_readOdds_85 rfl ?_
        refine s_iconst (v := 1) dX11_readOdds_86 rfl cI_1 ?_
        refine s_iand dX11_readOdds_87 rfl ?_
        refine s_iconst (v := 1) dX11_readOdds_88 rfl cI_1 ?_
        refine s_icmp_ne (tgt := 97) dX11_readOdds_89 rfl rfl (fun _ => ?_) (fun _ => ?_)
        · skip
          refine s_pick [1, 0] rfl ?_
          exact sm_exit (fun f h => h)
        · skip
          refine s_aload_n 1 dX11_readOdds_92 rfl rfl ?_
          refine s_iconst (v := 2) dX11_readOdds_93 rfl cI_2 ?_
          refine s_callV1_v1 dX11_readOdds_94 rfl lkV_RX11_290 (S_102 hK) (Nat.le_of_ble_eq_true rfl) (Nat.le_of_ble_eq_true rfl) (Nat.le_of_ble_eq_true rfl) (ct_x11_wrong hK) (fun I12 => ?_)
          refine s_pick [1, 0] rfl ?_
          exact sm_exit (fun f h => h)
    · skip
      refine s_aload_n 0 dX11_readOdds_97 rfl rfl ?_
      refine s_getI dX11_readOdds_98 rfl fl_11_224 (S_102 hK) ?_
      refine s_if_le (tgt := 105) dX11_readOdds_101 rfl rfl (fun _ => ?_) (fun _ => ?_)
      · skip
        refine s_aload_n 0 dX11_readOdds_105 rfl rfl ?_
        refine s_dup dX11_readOdds_106 rfl rfl ?_
        refine s_getI dX11_readOdds_107 rfl fl_11_388 (S_102 hK) ?_
        refine s_iconst (v := 1) dX11_readOdds_110 rfl cI_1 ?_
        refine s_iload_n 1 dX11_readOdds_111 rfl rfl ?_
        refine s_ishl dX11_readOdds_112 rfl ?_
        refine s_ior dX11_readOdds_113 rfl ?_
        refine s_putIL dX11_readOdds_114 rfl fl_11_388 (S_102 hK) (fun I13 => ?_)
        refine s_aload_n 0 dX11_readOdds_117 rfl rfl ?_
        refine s_callV0_v2 dX11_readOdds_118 rfl lkV_RX11_287 (S_102 hK) (Nat.le_of_ble_eq_true rfl) (Nat.le_of_ble_eq_true rfl) (Nat.le_of_ble_eq_true rfl) (ct_x11_token hK) (fun I14 L15 => ?_)
        refine s_aload_n 0 dX11_readOdds_121 rfl rfl ?_
        refine s_iload_n 1 dX11_readOdds_122 rfl rfl ?_
        refine s_callV1_v2 dX11_readOdds_123 rfl lkV_RX11_391 (S_102 hK) (Nat.le_of_ble_eq_true rfl) (Nat.le_of_ble_eq_true rfl) (Nat.le_of_ble_eq_true rfl) (ct_x11_formula hK) (fun I16 L17 => ?_)
        exact s_vret dX11_readOdds_126 rfl (fun f h => h)
      · skip
        exact s_vret dX11_readOdds_104 rfl (fun f h => h)
noncomputable def x11_readRule (I : MI) (L : ML) : Option (MI × ML) :=
b2 (x11_newName (0 : Int32) (I 102 52) I L) fun I1 L2 =>
if 0 < (I1 102 2) then (
some (I1, L2)) else
b2 (x11_formula (5 + (I1 102 52)) I1 L2) fun I3 L4 =>
if (I3 102 2) = 0 then (
lt (wI I3 102 52 ((I3 102 52) + 1)) fun I5 =>
some (I5, L4)) else
some (I3, L4)
theorem ct_x11_readRule {X : WX} {I : MI} {L : ML} {R : MR} {S : MS} (hK : okm R S) : Ct X yX11_readRule cX11_readRule 1 none 5 109 [.ref (X.1 + 102)] (I, L, R, S) (x11_readRule I L) (fun r => (none, (r.1, r.2, R, S))) := by
  refine Ct.of (by decide) (Nat.le_of_ble_eq_true rfl) [(0, .ref (X.1 + 102))] rfl ?_
  unfold x11_readRule
  refine s_aload_n 0 dX11_readRule_0 rfl rfl ?_
  refine s_iconst (v := 0) dX11_readRule_1 rfl cI_0 ?_
  refine s_aload_n 0 dX11_readRule_2 rfl rfl ?_
  refine s_getI dX11_readRule_3 rfl fl_11_394 (S_102 hK) ?_
  refine s_callV2_v2 dX11_readRule_6 rfl lkV_RX11_397 (S_102 hK) (Nat.le_of_ble_eq_true rfl) (Nat.le_of_ble_eq_true rfl) (Nat.le_of_ble_eq_true rfl) (ct_x11_newName hK) (fun I1 L2 => ?_)
  refine s_aload_n 0 dX11_readRule_9 rfl rfl ?_
  refine s_getI dX11_readRule_10 rfl fl_11_224 (S_102 hK) ?_
  refine s_if_le (tgt := 17) dX11_readRule_13 rfl rfl (fun _ => ?_) (fun _ => ?_)
  · skip
    refine s_aload_n 0 dX11_readRule_17 rfl rfl ?_
    refine s_iconst (v := 5) dX11_readRule_18 rfl cI_5 ?_
    refine s_aload_n 0 dX11_readRule_19 rfl rfl ?_
    refine s_getI dX11_readRule_20 rfl fl_11_394 (S_102 hK) ?_
    refine s_iadd dX11_readRule_23 rfl ?_
    refine s_callV1_v2 dX11_readRule_24 rfl lkV_RX11_391 (S_102 hK) (Nat.le_of_ble_eq_true rfl) (Nat.le_of_ble_eq_true rfl) (Nat.le_of_ble_eq_true rfl) (ct_x11_formula hK) (fun I3 L4 => ?_)
    refine s_aload_n 0 dX11_readRule_27 rfl rfl ?_
    refine s_getI dX11_readRule_28 rfl fl_11_224 (S_102 hK) ?_
    refine s_if_ne (tgt := 44) dX11_readRule_31 rfl rfl (fun _ => ?_) (fun _ => ?_)
    · skip
      exact s_vret dX11_readRule_44 rfl (fun f h => h)
    · skip
      refine s_aload_n 0 dX11_readRule_34 rfl rfl ?_
      refine s_dup dX11_readRule_35 rfl rfl ?_
      refine s_getI dX11_readRule_36 rfl fl_11_394 (S_102 hK) ?_
      refine s_iconst (v := 1) dX11_readRule_39 rfl cI_1 ?_
      refine s_iadd dX11_readRule_40 rfl ?_
      refine s_putIL dX11_readRule_41 rfl fl_11_394 (S_102 hK) (fun I5 => ?_)
      exact s_vret dX11_readRule_44 rfl (fun f h => h)
  · skip
    exact s_vret dX11_readRule_16 rfl (fun f h => h)
noncomputable def x11_readApple_L64s (c1 : Int32) (rec : Int32 → MI → Option (MI)) (w2 : Int32) (I : MI) : Option (MI) :=
if w2 < (I 102 53) then (
if (I 102 2) = 0 then (
ck (vp_in w2 10) <|
ck (vp_in (I 102 53) 10) <|
if (I 115 (ix w2)) = (I 115 (ix (I 102 53))) then (
ck (vp_in w2 10) <|
ck (vp_in (I 102 53) 10) <|
if (I 116 (ix w2)) = (I 116 (ix (I 102 53))) then (
b1 (x11_wrongAt (3 : Int32) c1 I) fun I24 =>
lt (w2 + 1) fun v25 =>
rec v25 I24) else
lt (w2 + 1) fun v23 =>
rec v23 I) else
lt (w2 + 1) fun v20 =>
rec v20 I) else
lt (w2 + 1) fun v17 =>
rec v17 I) else
some I
noncomputable def x11_readApple_L64 (c1 : Int32) : Nat → Int32 → MI → Option (MI)
  | 0 => fun _ _ => none
  | n + 1 => x11_readApple_L64s c1 (x11_readApple_L64 c1 n)
noncomputable def x11_readApple (I : MI) (L : ML) : Option (MI × ML) :=
b2 (x11_newName (6 : Int32) (I 102 53) I L) fun I1 L2 =>
b2 (x11_want (24948 : Int64) I1 L2) fun I3 L4 =>
b3 (x11_toldNumber (0 : Int32) ((I3 102 49) - 1) I3 L4) fun r5 I6 L7 =>
ck (vp_in (I3 102 53) 10) <|
lt (wI I6 115 (ix (I3 102 53)) r5) fun I8 =>
lt (I8 102 7) fun v10 =>
b3 (x11_toldNumber (0 : Int32) ((I8 102 50) - 1) I8 L7) fun r11 I12 L13 =>
ck (vp_in (I8 102 53) 10) <|
lt (wI I12 116 (ix (I8 102 53)) r11) fun I14 =>
lt (0 : Int32) fun v16 =>
b1 (x11_readApple_L64 v10 FU v16 I14) fun e26 =>
b3 (x11_told (1936292453 : Int64) (1 : Int32) (99 : Int32) e26 L13) fun r27 I28 L29 =>
ck (vp_in (e26 102 53) 10) <|
lt (wI I28 113 (ix (e26 102 53)) r27) fun I30 =>
b3 (x11_told (1936680564 : Int64) (0 : Int32) (9 : Int32) I30 L29) fun r32 I33 L34 =>
ck (vp_in (I30 102 53) 10) <|
lt (wI I33 114 (ix (I30 102 53)) r32) fun I35 =>
b3 (x11_takes (495873780843 : Int64) I35 L34) fun r37 I38 L39 =>
ck (vp_in (I35 102 53) 10) <|
lt (wI I38 124 (ix (I35 102 53)) (zb r37)) fun I40 =>
b3 (x11_takes (1668245870 : Int64) I40 L39) fun r42 I43 L44 =>
b1 (
if r42 = 0 then (
some ((1 : Int32), I43, L44)) else
b3 (x11_toldNumber (0 : Int32) (99 : Int32) I43 L44) fun r46 I47 L48 =>
some (r46, I47, L48)) fun e45 =>
ck (vp_in (I40 102 53) 10) <|
lt (wI e45.2.1 117 (ix (I40 102 53)) e45.1) fun I49 =>
if (I49 102 2) = 0 then (
lt (wI I49 102 53 ((I49 102 53) + 1)) fun I51 =>
some (I51, e45.2.2)) else
some (I49, e45.2.2)
theorem x11_readApple_L64_ok {X : WX} {n0 s0 : Nat} {c1 : Int32} {L : ML} {R : MR} {S : MS} (hK : okm R S) : ∀ (n : Nat) (w2 : Int32) (I : MI), Sim X yX11_readApple cX11_readApple 3 none 4 90 n0 s0 64 [(0, .ref (X.1 + 102)), (1, .int c1), (2, .int w2)] [] (I, L, R, S) (x11_readApple_L64 c1 n w2 I) (fun b f => Ex X yX11_readApple cX11_readApple 3 none 4 90 n0 s0 127 [(0, .ref (X.1 + 102))] [] (b, L, R, S) f) := by
  intro n
  induction n with
  | zero =>
    intro w2 I
    exact sm_none
  | succ n ih =>
    intro w2 I
    change Sim _ _ _ _ _ _ _ _ _ _ _ _ _ (x11_readApple_L64s c1 (x11_readApple_L64 c1 n) w2 I) _
    unfold x11_readApple_L64s
    refine s_iload_n 2 dX11_readApple_64 rfl rfl ?_
    refine s_aload_n 0 dX11_readApple_65 rfl rfl ?_
    refine s_getI dX11_readApple_66 rfl fl_11_400 (S_102 hK) ?_
    refine s_icmp_ge (tgt := 127) dX11_readApple_69 rfl rfl (fun _ => ?_) (fun _ => ?_)
    · skip
      refine s_pick [0] rfl ?_
      exact sm_exit (fun f h => h)
    · skip
      refine s_aload_n 0 dX11_readApple_72 rfl rfl ?_
      refine s_getI dX11_readApple_73 rfl fl_11_224 (S_102 hK) ?_
      refine s_if_ne (tgt := 121) dX11_readApple_76 rfl rfl (fun _ => ?_) (fun _ => ?_)
      · skip
        refine s_iincL 2 (c := 1) (fun v17 => [(2, .int v17), (0, .ref (X.1 + 102)), (1, .int c1)]) dX11_readApple_121 rfl rfl cI_1 (by decide) (fun _ => rfl) (fun v17 => ?_)
        refine s_goto (tgt := 64) dX11_readApple_124 rfl ?_
        refine s_pick [1, 2, 0] rfl ?_
        exact ih v17 I
      · skip
        refine s_aload_n 0 dX11_readApple_79 rfl rfl ?_
        refine s_getR 115 dX11_readApple_80 rfl fl_11_51 rfl (S_102 hK) (R_102_27 hK) ?_
        refine s_iload_n 2 dX11_readApple_83 rfl rfl ?_
        refine sm_ck (fun g18 => ?_)
        refine s_iald dX11_readApple_84 rfl (S_115 hK) g18 ?_
        refine s_aload_n 0 dX11_readApple_85 rfl rfl ?_
        refine s_getR 115 dX11_readApple_86 rfl fl_11_51 rfl (S_102 hK) (R_102_27 hK) ?_
        refine s_aload_n 0 dX11_readApple_89 rfl rfl ?_
        refine s_getI dX11_readApple_90 rfl fl_11_400 (S_102 hK) ?_
        refine sm_ck (fun g19 => ?_)
        refine s_iald dX11_readApple_93 rfl (S_115 hK) g19 ?_
        refine s_icmp_ne (tgt := 121) dX11_readApple_94 rfl rfl (fun _ => ?_) (fun _ => ?_)
        · skip
          refine s_iincL 2 (c := 1) (fun v20 => [(2, .int v20), (0, .ref (X.1 + 102)), (1, .int c1)]) dX11_readApple_121 rfl rfl cI_1 (by decide) (fun _ => rfl) (fun v20 => ?_)
          refine s_goto (tgt := 64) dX11_readApple_124 rfl ?_
          refine s_pick [1, 2, 0] rfl ?_
          exact ih v20 I
        · skip
          refine s_aload_n 0 dX11_readApple_97 rfl rfl ?_
          refine s_getR 116 dX11_readApple_98 rfl fl_11_54 rfl (S_102 hK) (R_102_28 hK) ?_
          refine s_iload_n 2 dX11_readApple_101 rfl rfl ?_
          refine sm_ck (fun g21 => ?_)
          refine s_iald dX11_readApple_102 rfl (S_116 hK) g21 ?_
          refine s_aload_n 0 dX11_readApple_103 rfl rfl ?_
          refine s_getR 116 dX11_readApple_104 rfl fl_11_54 rfl (S_102 hK) (R_102_28 hK) ?_
          refine s_aload_n 0 dX11_readApple_107 rfl rfl ?_
          refine s_getI dX11_readApple_108 rfl fl_11_400 (S_102 hK) ?_
          refine sm_ck (fun g22 => ?_)
          refine s_iald dX11_readApple_111 rfl (S_116 hK) g22 ?_
          refine s_icmp_ne (tgt := 121) dX11_readApple_112 rfl rfl (fun _ => ?_) (fun _ => ?_)
          · skip
            refine s_iincL 2 (c := 1) (fun v23 => [(2, .int v23), (0, .ref (X.1 + 102)), (1, .int c1)]) dX11_readApple_121 rfl rfl cI_1 (by decide) (fun _ => rfl) (fun v23 => ?_)
            refine s_goto (tgt := 64) dX11_readApple_124 rfl ?_
            refine s_pick [1, 2, 0] rfl ?_
            exact ih v23 I
          · skip
            refine s_aload_n 0 dX11_readApple_115 rfl rfl ?_
            refine s_iconst (v := 3) dX11_readApple_116 rfl cI_3 ?_
            refine s_iload_n 1 dX11_readApple_117 rfl rfl ?_
            refine s_callV2_v1 dX11_readApple_118 rfl lkV_RX11_403 (S_102 hK) (Nat.le_of_ble_eq_true rfl) (Nat.le_of_ble_eq_true rfl) (Nat.le_of_ble_eq_true rfl) (ct_x11_wrongAt hK) (fun I24 => ?_)
            refine s_iincL 2 (c := 1) (fun v25 => [(2, .int v25), (0, .ref (X.1 + 102)), (1, .int c1)]) dX11_readApple_121 rfl rfl cI_1 (by decide) (fun _ => rfl) (fun v25 => ?_)
            refine s_goto (tgt := 64) dX11_readApple_124 rfl ?_
            refine s_pick [1, 2, 0] rfl ?_
            exact ih v25 I24
theorem ct_x11_readApple {X : WX} {I : MI} {L : ML} {R : MR} {S : MS} (hK : okm R S) : Ct X yX11_readApple cX11_readApple 3 none 4 90 [.ref (X.1 + 102)] (I, L, R, S) (x11_readApple I L) (fun r => (none, (r.1, r.2, R, S))) := by
  refine Ct.of (by decide) (Nat.le_of_ble_eq_true rfl) [(0, .ref (X.1 + 102))] rfl ?_
  unfold x11_readApple
  refine s_aload_n 0 dX11_readApple_0 rfl rfl ?_
  refine s_bipush (v := 6) dX11_readApple_1 rfl cB_6 ?_
  refine s_aload_n 0 dX11_readApple_3 rfl rfl ?_
  refine s_getI dX11_readApple_4 rfl fl_11_400 (S_102 hK) ?_
  refine s_callV2_v2 dX11_readApple_7 rfl lkV_RX11_397 (S_102 hK) (Nat.le_of_ble_eq_true rfl) (Nat.le_of_ble_eq_true rfl) (Nat.le_of_ble_eq_true rfl) (ct_x11_newName hK) (fun I1 L2 => ?_)
  refine s_aload_n 0 dX11_readApple_10 rfl rfl ?_
  refine s_ldc2 (v := 24948) dX11_readApple_11 rfl kl_11_245c ?_
  refine s_callV1_v2 dX11_readApple_14 rfl lkV_RX11_293 (S_102 hK) (Nat.le_of_ble_eq_true rfl) (Nat.le_of_ble_eq_true rfl) (Nat.le_of_ble_eq_true rfl) (ct_x11_want hK) (fun I3 L4 => ?_)
  refine s_aload_n 0 dX11_readApple_17 rfl rfl ?_
  refine s_getR 115 dX11_readApple_18 rfl fl_11_51 rfl (S_102 hK) (R_102_27 hK) ?_
  refine s_aload_n 0 dX11_readApple_21 rfl rfl ?_
  refine s_getI dX11_readApple_22 rfl fl_11_400 (S_102 hK) ?_
  refine s_aload_n 0 dX11_readApple_25 rfl rfl ?_
  refine s_iconst (v := 0) dX11_readApple_26 rfl cI_0 ?_
  refine s_aload_n 0 dX11_readApple_27 rfl rfl ?_
  refine s_getI dX11_readApple_28 rfl fl_11_382 (S_102 hK) ?_
  refine s_iconst (v := 1) dX11_readApple_31 rfl cI_1 ?_
  refine s_isub dX11_readApple_32 rfl ?_
  refine s_callV2_i2 dX11_readApple_33 rfl lkV_RX11_297 (S_102 hK) (Nat.le_of_ble_eq_true rfl) (Nat.le_of_ble_eq_true rfl) (Nat.le_of_ble_eq_true rfl) (ct_x11_toldNumber hK) (fun r5 I6 L7 => ?_)
  refine sm_ck (fun g9 => ?_)
  refine s_iastL dX11_readApple_36 rfl (S_115 hK) g9 (fun I8 => ?_)
  refine s_aload_n 0 dX11_readApple_37 rfl rfl ?_
  refine s_getI dX11_readApple_38 rfl fl_11_201 (S_102 hK) ?_
  refine s_istore_nL (fun v10 => [(1, .int v10), (0, .ref (X.1 + 102))]) dX11_readApple_41 rfl (by decide) (fun _ => rfl) (fun v10 => ?_)
  refine s_aload_n 1 dX11_readApple_42 rfl rfl ?_
  refine s_getR 116 dX11_readApple_43 rfl fl_11_54 rfl (S_102 hK) (R_102_28 hK) ?_
  refine s_aload_n 1 dX11_readApple_46 rfl rfl ?_
  refine s_getI dX11_readApple_47 rfl fl_11_400 (S_102 hK) ?_
  refine s_aload_n 1 dX11_readApple_50 rfl rfl ?_
  refine s_iconst (v := 0) dX11_readApple_51 rfl cI_0 ?_
  refine s_aload_n 1 dX11_readApple_52 rfl rfl ?_
  refine s_getI dX11_readApple_53 rfl fl_11_385 (S_102 hK) ?_
  refine s_iconst (v := 1) dX11_readApple_56 rfl cI_1 ?_
  refine s_isub dX11_readApple_57 rfl ?_
  refine s_callV2_i2 dX11_readApple_58 rfl lkV_RX11_297 (S_102 hK) (Nat.le_of_ble_eq_true rfl) (Nat.le_of_ble_eq_true rfl) (Nat.le_of_ble_eq_true rfl) (ct_x11_toldNumber hK) (fun r11 I12 L13 => ?_)
  refine sm_ck (fun g15 => ?_)
  refine s_iastL dX11_readApple_61 rfl (S_116 hK) g15 (fun I14 => ?_)
  refine s_iconst (v := 0) dX11_readApple_62 rfl cI_0 ?_
  refine s_istore_nL (fun v16 => [(2, .int v16), (1, .int v10), (0, .ref (X.1 + 102))]) dX11_readApple_63 rfl (by decide) (fun _ => rfl) (fun v16 => ?_)
  refine s_pick [2, 1, 0] rfl ?_
  refine sm_reg (x11_readApple_L64_ok hK FU v16 I14) (fun e26 => ?_)
  refine s_aload_n 0 dX11_readApple_127 rfl rfl ?_
  refine s_getR 113 dX11_readApple_128 rfl fl_11_45 rfl (S_102 hK) (R_102_25 hK) ?_
  refine s_aload_n 0 dX11_readApple_131 rfl rfl ?_
  refine s_getI dX11_readApple_132 rfl fl_11_400 (S_102 hK) ?_
  refine s_aload_n 0 dX11_readApple_135 rfl rfl ?_
  refine s_ldc2 (v := 1936292453) dX11_readApple_136 rfl kl_11_247c ?_
  refine s_iconst (v := 1) dX11_readApple_139 rfl cI_1 ?_
  refine s_bipush (v := 99) dX11_readApple_140 rfl cB_99 ?_
  refine s_callV3_i2 dX11_readApple_142 rfl lkV_RX11_378 (S_102 hK) (Nat.le_of_ble_eq_true rfl) (Nat.le_of_ble_eq_true rfl) (Nat.le_of_ble_eq_true rfl) (ct_x11_told hK) (fun r27 I28 L29 => ?_)
  refine sm_ck (fun g31 => ?_)
  refine s_iastL dX11_readApple_145 rfl (S_113 hK) g31 (fun I30 => ?_)
  refine s_aload_n 0 dX11_readApple_146 rfl rfl ?_
  refine s_getR 114 dX11_readApple_147 rfl fl_11_48 rfl (S_102 hK) (R_102_26 hK) ?_
  refine s_aload_n 0 dX11_readApple_150 rfl rfl ?_
  refine s_getI dX11_readApple_151 rfl fl_11_400 (S_102 hK) ?_
  refine s_aload_n 0 dX11_readApple_154 rfl rfl ?_
  refine s_ldc2 (v := 1936680564) dX11_readApple_155 rfl kl_11_249c ?_
  refine s_iconst (v := 0) dX11_readApple_158 rfl cI_0 ?_
  refine s_bipush (v := 9) dX11_readApple_159 rfl cB_9 ?_
  refine s_callV3_i2 dX11_readApple_161 rfl lkV_RX11_378 (S_102 hK) (Nat.le_of_ble_eq_true rfl) (Nat.le_of_ble_eq_true rfl) (Nat.le_of_ble_eq_true rfl) (ct_x11_told hK) (fun r32 I33 L34 => ?_)
  refine sm_ck (fun g36 => ?_)
  refine s_iastL dX11_readApple_164 rfl (S_114 hK) g36 (fun I35 => ?_)
  refine s_aload_n 0 dX11_readApple_165 rfl rfl ?_
  refine s_getR 124 dX11_readApple_166 rfl fl_11_78 rfl (S_102 hK) (R_102_36 hK) ?_
  refine s_aload_n 0 dX11_readApple_169 rfl rfl ?_
  refine s_getI dX11_readApple_170 rfl fl_11_400 (S_102 hK) ?_
  refine s_aload_n 0 dX11_readApple_173 rfl rfl ?_
  refine s_ldc2 (v := 495873780843) dX11_readApple_174 rfl kl_11_235c ?_
  refine s_callV1_i2 dX11_readApple_177 rfl lkV_RX11_406 (S_102 hK) (Nat.le_of_ble_eq_true rfl) (Nat.le_of_ble_eq_true rfl) (Nat.le_of_ble_eq_true rfl) (ct_x11_takes hK) (fun r37 I38 L39 => ?_)
  refine sm_ck (fun g41 => ?_)
  refine s_zastL dX11_readApple_180 rfl (S_124 hK) g41 (fun I40 => ?_)
  refine s_aload_n 0 dX11_readApple_181 rfl rfl ?_
  refine s_getR 117 dX11_readApple_182 rfl fl_11_57 rfl (S_102 hK) (R_102_29 hK) ?_
  refine s_aload_n 0 dX11_readApple_185 rfl rfl ?_
  refine s_getI dX11_readApple_186 rfl fl_11_400 (S_102 hK) ?_
  refine s_aload_n 0 dX11_readApple_189 rfl rfl ?_
  refine s_ldc2 (v := 1668245870) dX11_readApple_190 rfl kl_11_251c ?_
  refine s_callV1_i2 dX11_readApple_193 rfl lkV_RX11_406 (S_102 hK) (Nat.le_of_ble_eq_true rfl) (Nat.le_of_ble_eq_true rfl) (Nat.le_of_ble_eq_true rfl) (ct_x11_takes hK) (fun r42 I43 L44 => ?_)
  refine sm_reg (pcx := 210) (lsx := fun e45 => [(0, .ref (X.1 + 102))]) (stx := fun e45 => [.int e45.1, .int (I40 102 53), .ref (X.1 + 117)]) (ux := fun e45 => (e45.2.1, e45.2.2, R, S)) ?_ (fun e45 => ?_)
  · skip
    refine s_if_eq (tgt := 209) dX11_readApple_196 rfl rfl (fun _ => ?_) (fun _ => ?_)
    · skip
      refine s_iconst (v := 1) dX11_readApple_209 rfl cI_1 ?_
      exact sm_exit (fun f h => h)
    · skip
      refine s_aload_n 0 dX11_readApple_199 rfl rfl ?_
      refine s_iconst (v := 0) dX11_readApple_200 rfl cI_0 ?_
      refine s_bipush (v := 99) dX11_readApple_201 rfl cB_99 ?_
      refine s_callV2_i2 dX11_readApple_203 rfl lkV_RX11_297 (S_102 hK) (Nat.le_of_ble_eq_true rfl) (Nat.le_of_ble_eq_true rfl) (Nat.le_of_ble_eq_true rfl) (ct_x11_toldNumber hK) (fun r46 I47 L48 => ?_)
      refine s_goto (tgt := 210) dX11_readApple_206 rfl ?_
      exact sm_exit (fun f h => h)
  · skip
    refine sm_ck (fun g50 => ?_)
    refine s_iastL dX11_readApple_210 rfl (S_117 hK) g50 (fun I49 => ?_)
    refine s_aload_n 0 dX11_readApple_211 rfl rfl ?_
    refine s_getI dX11_readApple_212 rfl fl_11_224 (S_102 hK) ?_
    refine s_if_ne (tgt := 228) dX11_readApple_215 rfl rfl (fun _ => ?_) (fun _ => ?_)
    · skip
      exact s_vret dX11_readApple_228 rfl (fun f h => h)
    · skip
      refine s_aload_n 0 dX11_readApple_218 rfl rfl ?_
      refine s_dup dX11_readApple_219 rfl rfl ?_
      refine s_getI dX11_readApple_220 rfl fl_11_400 (S_102 hK) ?_
      refine s_iconst (v := 1) dX11_readApple_223 rfl cI_1 ?_
      refine s_iadd dX11_readApple_224 rfl ?_
      refine s_putIL dX11_readApple_225 rfl fl_11_400 (S_102 hK) (fun I51 => ?_)
      exact s_vret dX11_readApple_228 rfl (fun f h => h)
