noncomputable def x11_readBy (I : MI) (L : ML) : Option (MI × ML) :=
b1 (x11_isName I L) fun r1 =>
b1 (
if r1 = 0 then (
b1 (x11_wrong (2 : Int32) I) fun I5 =>
some I5) else
b1 (x11_find (0 : Int32) (I 102 52) I L) fun r3 =>
if r3 < 0 then (
b1 (x11_wrong (5 : Int32) I) fun I4 =>
some I4) else
some I) fun e2 =>
if 0 < (e2 102 2) then (
some (e2, L)) else
b1 (x11_find (0 : Int32) (e2 102 52) e2 L) fun r6 =>
ck (vp_in (e2 102 54) 4) <|
lt (wI e2 123 (ix (e2 102 54)) r6) fun I7 =>
b2 (x11_token I7 L) fun I9 L10 =>
some (I9, L10)
theorem ct_x11_readBy {X : WX} {I : MI} {L : ML} {R : MR} {S : MS} (hK : okr R S) : Ct X yX11_readBy cX11_readBy 1 none 2 43 [.ref (X.1 + 102)] (I, L, R, S) (x11_readBy I L) (fun r => (none, (r.1, r.2, R, S))) := by
  refine Ct.of (by decide) (Nat.le_of_ble_eq_true rfl) [(0, .ref (X.1 + 102))] rfl ?_
  unfold x11_readBy
  refine s_aload_n 0 dX11_readBy_0 rfl rfl ?_
  refine s_callV0_i0 dX11_readBy_1 rfl lkV_RX11_372 (S_102 hK) (Nat.le_of_ble_eq_true rfl) (Nat.le_of_ble_eq_true rfl) (Nat.le_of_ble_eq_true rfl) (ct_x11_isName hK) (fun r1 => ?_)
  refine sm_reg (pcx := 32) (lsx := fun e2 => [(0, .ref (X.1 + 102))]) (stx := fun e2 => []) (ux := fun e2 => (e2, L, R, S)) ?_ (fun e2 => ?_)
  · skip
    refine s_if_ne (tgt := 15) dX11_readBy_4 rfl rfl (fun _ => ?_) (fun _ => ?_)
    · skip
      refine s_aload_n 0 dX11_readBy_15 rfl rfl ?_
      refine s_iconst (v := 0) dX11_readBy_16 rfl cI_0 ?_
      refine s_aload_n 0 dX11_readBy_17 rfl rfl ?_
      refine s_getI dX11_readBy_18 rfl fl_11_394 (S_102 hK) ?_
      refine s_callV2_i0 dX11_readBy_21 rfl lkV_RX11_375 (S_102 hK) (Nat.le_of_ble_eq_true rfl) (Nat.le_of_ble_eq_true rfl) (Nat.le_of_ble_eq_true rfl) (ct_x11_find hK) (fun r3 => ?_)
      refine s_if_ge (tgt := 32) dX11_readBy_24 rfl rfl (fun _ => ?_) (fun _ => ?_)
      · skip
        exact sm_exit (fun f h => h)
      · skip
        refine s_aload_n 0 dX11_readBy_27 rfl rfl ?_
        refine s_iconst (v := 5) dX11_readBy_28 rfl cI_5 ?_
        refine s_callV1_v1 dX11_readBy_29 rfl lkV_RX11_290 (S_102 hK) (Nat.le_of_ble_eq_true rfl) (Nat.le_of_ble_eq_true rfl) (Nat.le_of_ble_eq_true rfl) (ct_x11_wrong hK) (fun I4 => ?_)
        exact sm_exit (fun f h => h)
    · skip
      refine s_aload_n 0 dX11_readBy_7 rfl rfl ?_
      refine s_iconst (v := 2) dX11_readBy_8 rfl cI_2 ?_
      refine s_callV1_v1 dX11_readBy_9 rfl lkV_RX11_290 (S_102 hK) (Nat.le_of_ble_eq_true rfl) (Nat.le_of_ble_eq_true rfl) (Nat.le_of_ble_eq_true rfl) (ct_x11_wrong hK) (fun I5 => ?_)
      refine s_goto (tgt := 32) dX11_readBy_12 rfl ?_
      exact sm_exit (fun f h => h)
  · skip
    refine s_aload_n 0 dX11_readBy_32 rfl rfl ?_
    refine s_getI dX11_readBy_33 rfl fl_11_224 (S_102 hK) ?_
    refine s_if_le (tgt := 40) dX11_readBy_36 rfl rfl (fun _ => ?_) (fun _ => ?_)
    · skip
      refine s_aload_n 0 dX11_readBy_40 rfl rfl ?_
      refine s_getR 123 dX11_readBy_41 rfl fl_11_75 rfl (S_102 hK) (R_102_35 hK) ?_
      refine s_aload_n 0 dX11_readBy_44 rfl rfl ?_
      refine s_getI dX11_readBy_45 rfl fl_11_409 (S_102 hK) ?_
      refine s_aload_n 0 dX11_readBy_48 rfl rfl ?_
      refine s_iconst (v := 0) dX11_readBy_49 rfl cI_0 ?_
      refine s_aload_n 0 dX11_readBy_50 rfl rfl ?_
      refine s_getI dX11_readBy_51 rfl fl_11_394 (S_102 hK) ?_
      refine s_callV2_i0 dX11_readBy_54 rfl lkV_RX11_375 (S_102 hK) (Nat.le_of_ble_eq_true rfl) (Nat.le_of_ble_eq_true rfl) (Nat.le_of_ble_eq_true rfl) (ct_x11_find hK) (fun r6 => ?_)
      refine sm_ck (fun g8 => ?_)
      refine s_iastL dX11_readBy_57 rfl (S_123 hK) g8 (fun I7 => ?_)
      refine s_aload_n 0 dX11_readBy_58 rfl rfl ?_
      refine s_callV0_v2 dX11_readBy_59 rfl lkV_RX11_287 (S_102 hK) (Nat.le_of_ble_eq_true rfl) (Nat.le_of_ble_eq_true rfl) (Nat.le_of_ble_eq_true rfl) (ct_x11_token hK) (fun I9 L10 => ?_)
      exact s_vret dX11_readBy_62 rfl (fun f h => h)
    · skip
      exact s_vret dX11_readBy_39 rfl (fun f h => h)
noncomputable def x11_readBobber (I : MI) (L : ML) : Option (MI × ML) :=
b2 (x11_newName (16 : Int32) (I 102 54) I L) fun I1 L2 =>
b2 (x11_want (24948 : Int64) I1 L2) fun I3 L4 =>
b3 (x11_toldNumber (0 : Int32) ((I3 102 49) - 1) I3 L4) fun r5 I6 L7 =>
ck (vp_in (I3 102 54) 4) <|
lt (wI I6 118 (ix (I3 102 54)) r5) fun I8 =>
b3 (x11_toldNumber (0 : Int32) ((I8 102 50) - 1) I8 L7) fun r10 I11 L12 =>
ck (vp_in (I8 102 54) 4) <|
lt (wI I11 119 (ix (I8 102 54)) r10) fun I13 =>
b3 (x11_told (491327153000 : Int64) (0 : Int32) (5 : Int32) I13 L12) fun r15 I16 L17 =>
ck (vp_in (I13 102 54) 4) <|
lt (wI I16 120 (ix (I13 102 54)) r15) fun I18 =>
b3 (x11_told (108243466679400 : Int64) (0 : Int32) (20 : Int32) I18 L17) fun r20 I21 L22 =>
ck (vp_in (I18 102 54) 4) <|
lt (wI I21 121 (ix (I18 102 54)) r20) fun I23 =>
b3 (x11_told (470021403752 : Int64) (0 : Int32) (9 : Int32) I23 L22) fun r25 I26 L27 =>
ck (vp_in (I23 102 54) 4) <|
lt (wI I26 122 (ix (I23 102 54)) r25) fun I28 =>
ck (vp_in (I28 102 54) 4) <|
lt (wI I28 123 (ix (I28 102 54)) (0 : Int32)) fun I30 =>
b3 (x11_takes (25209 : Int64) I30 L27) fun r32 I33 L34 =>
b1 (
if r32 = 0 then (
some (I33, L34)) else
b2 (x11_readBy I33 L34) fun I36 L37 =>
some (I36, L37)) fun e35 =>
if (e35.1 102 2) = 0 then (
lt (wI e35.1 102 54 ((e35.1 102 54) + 1)) fun I38 =>
some (I38, e35.2)) else
some (e35.1, e35.2)
theorem ct_x11_readBobber {X : WX} {I : MI} {L : ML} {R : MR} {S : MS} (hK : okr R S) : Ct X yX11_readBobber cX11_readBobber 1 none 4 90 [.ref (X.1 + 102)] (I, L, R, S) (x11_readBobber I L) (fun r => (none, (r.1, r.2, R, S))) := by
  refine Ct.of (by decide) (Nat.le_of_ble_eq_true rfl) [(0, .ref (X.1 + 102))] rfl ?_
  unfold x11_readBobber
  refine s_aload_n 0 dX11_readBobber_0 rfl rfl ?_
  refine s_bipush (v := 16) dX11_readBobber_1 rfl cB_16 ?_
  refine s_aload_n 0 dX11_readBobber_3 rfl rfl ?_
  refine s_getI dX11_readBobber_4 rfl fl_11_409 (S_102 hK) ?_
  refine s_callV2_v2 dX11_readBobber_7 rfl lkV_RX11_397 (S_102 hK) (Nat.le_of_ble_eq_true rfl) (Nat.le_of_ble_eq_true rfl) (Nat.le_of_ble_eq_true rfl) (ct_x11_newName hK) (fun I1 L2 => ?_)
  refine s_aload_n 0 dX11_readBobber_10 rfl rfl ?_
  refine s_ldc2 (v := 24948) dX11_readBobber_11 rfl kl_11_245c ?_
  refine s_callV1_v2 dX11_readBobber_14 rfl lkV_RX11_293 (S_102 hK) (Nat.le_of_ble_eq_true rfl) (Nat.le_of_ble_eq_true rfl) (Nat.le_of_ble_eq_true rfl) (ct_x11_want hK) (fun I3 L4 => ?_)
  refine s_aload_n 0 dX11_readBobber_17 rfl rfl ?_
  refine s_getR 118 dX11_readBobber_18 rfl fl_11_60 rfl (S_102 hK) (R_102_30 hK) ?_
  refine s_aload_n 0 dX11_readBobber_21 rfl rfl ?_
  refine s_getI dX11_readBobber_22 rfl fl_11_409 (S_102 hK) ?_
  refine s_aload_n 0 dX11_readBobber_25 rfl rfl ?_
  refine s_iconst (v := 0) dX11_readBobber_26 rfl cI_0 ?_
  refine s_aload_n 0 dX11_readBobber_27 rfl rfl ?_
  refine s_getI dX11_readBobber_28 rfl fl_11_382 (S_102 hK) ?_
  refine s_iconst (v := 1) dX11_readBobber_31 rfl cI_1 ?_
  refine s_isub dX11_readBobber_32 rfl ?_
  refine s_callV2_i2 dX11_readBobber_33 rfl lkV_RX11_297 (S_102 hK) (Nat.le_of_ble_eq_true rfl) (Nat.le_of_ble_eq_true rfl) (Nat.le_of_ble_eq_true rfl) (ct_x11_toldNumber hK) (fun r5 I6 L7 => ?_)
  refine sm_ck (fun g9 => ?_)
  refine s_iastL dX11_readBobber_36 rfl (S_118 hK) g9 (fun I8 => ?_)
  refine s_aload_n 0 dX11_readBobber_37 rfl rfl ?_
  refine s_getR 119 dX11_readBobber_38 rfl fl_11_63 rfl (S_102 hK) (R_102_31 hK) ?_
  refine s_aload_n 0 dX11_readBobber_41 rfl rfl ?_
  refine s_getI dX11_readBobber_42 rfl fl_11_409 (S_102 hK) ?_
  refine s_aload_n 0 dX11_readBobber_45 rfl rfl ?_
  refine s_iconst (v := 0) dX11_readBobber_46 rfl cI_0 ?_
  refine s_aload_n 0 dX11_readBobber_47 rfl rfl ?_
  refine s_getI dX11_readBobber_48 rfl fl_11_385 (S_102 hK) ?_
  refine s_iconst (v := 1) dX11_readBobber_51 rfl cI_1 ?_
  refine s_isub dX11_readBobber_52 rfl ?_
  refine s_callV2_i2 dX11_readBobber_53 rfl lkV_RX11_297 (S_102 hK) (Nat.le_of_ble_eq_true rfl) (Nat.le_of_ble_eq_true rfl) (Nat.le_of_ble_eq_true rfl) (ct_x11_toldNumber hK) (fun r10 I11 L12 => ?_)
  refine sm_ck (fun g14 => ?_)
  refine s_iastL dX11_readBobber_56 rfl (S_119 hK) g14 (fun I13 => ?_)
  refine s_aload_n 0 dX11_readBobber_57 rfl rfl ?_
  refine s_getR 120 dX11_readBobber_58 rfl fl_11_66 rfl (S_102 hK) (R_102_32 hK) ?_
  refine s_aload_n 0 dX11_readBobber_61 rfl rfl ?_
  refine s_getI dX11_readBobber_62 rfl fl_11_409 (S_102 hK) ?_
  refine s_aload_n 0 dX11_readBobber_65 rfl rfl ?_
  refine s_ldc2 (v := 491327153000) dX11_readBobber_66 rfl kl_11_255c ?_
  refine s_iconst (v := 0) dX11_readBobber_69 rfl cI_0 ?_
  refine s_iconst (v := 5) dX11_readBobber_70 rfl cI_5 ?_
  refine s_callV3_i2 dX11_readBobber_71 rfl lkV_RX11_378 (S_102 hK) (Nat.le_of_ble_eq_true rfl) (Nat.le_of_ble_eq_true rfl) (Nat.le_of_ble_eq_true rfl) (ct_x11_told hK) (fun r15 I16 L17 => ?_)
  refine sm_ck (fun g19 => ?_)
  refine s_iastL dX11_readBobber_74 rfl (S_120 hK) g19 (fun I18 => ?_)
  refine s_aload_n 0 dX11_readBobber_75 rfl rfl ?_
  refine s_getR 121 dX11_readBobber_76 rfl fl_11_69 rfl (S_102 hK) (R_102_33 hK) ?_
  refine s_aload_n 0 dX11_readBobber_79 rfl rfl ?_
  refine s_getI dX11_readBobber_80 rfl fl_11_409 (S_102 hK) ?_
  refine s_aload_n 0 dX11_readBobber_83 rfl rfl ?_
  refine s_ldc2 (v := 108243466679400) dX11_readBobber_84 rfl kl_11_257c ?_
  refine s_iconst (v := 0) dX11_readBobber_87 rfl cI_0 ?_
  refine s_bipush (v := 20) dX11_readBobber_88 rfl cB_20 ?_
  refine s_callV3_i2 dX11_readBobber_90 rfl lkV_RX11_378 (S_102 hK) (Nat.le_of_ble_eq_true rfl) (Nat.le_of_ble_eq_true rfl) (Nat.le_of_ble_eq_true rfl) (ct_x11_told hK) (fun r20 I21 L22 => ?_)
  refine sm_ck (fun g24 => ?_)
  refine s_iastL dX11_readBobber_93 rfl (S_121 hK) g24 (fun I23 => ?_)
  refine s_aload_n 0 dX11_readBobber_94 rfl rfl ?_
  refine s_getR 122 dX11_readBobber_95 rfl fl_11_72 rfl (S_102 hK) (R_102_34 hK) ?_
  refine s_aload_n 0 dX11_readBobber_98 rfl rfl ?_
  refine s_getI dX11_readBobber_99 rfl fl_11_409 (S_102 hK) ?_
  refine s_aload_n 0 dX11_readBobber_102 rfl rfl ?_
  refine s_ldc2 (v := 470021403752) dX11_readBobber_103 rfl kl_11_259c ?_
  refine s_iconst (v := 0) dX11_readBobber_106 rfl cI_0 ?_
  refine s_bipush (v := 9) dX11_readBobber_107 rfl cB_9 ?_
  refine s_callV3_i2 dX11_readBobber_109 rfl lkV_RX11_378 (S_102 hK) (Nat.le_of_ble_eq_true rfl) (Nat.le_of_ble_eq_true rfl) (Nat.le_of_ble_eq_true rfl) (ct_x11_told hK) (fun r25 I26 L27 => ?_)
  refine sm_ck (fun g29 => ?_)
  refine s_iastL dX11_readBobber_112 rfl (S_122 hK) g29 (fun I28 => ?_)
  refine s_aload_n 0 dX11_readBobber_113 rfl rfl ?_
  refine s_getR 123 dX11_readBobber_114 rfl fl_11_75 rfl (S_102 hK) (R_102_35 hK) ?_
  refine s_aload_n 0 dX11_readBobber_117 rfl rfl ?_
  refine s_getI dX11_readBobber_118 rfl fl_11_409 (S_102 hK) ?_
  refine s_iconst (v := 0) dX11_readBobber_121 rfl cI_0 ?_
  refine sm_ck (fun g31 => ?_)
  refine s_iastL dX11_readBobber_122 rfl (S_123 hK) g31 (fun I30 => ?_)
  refine s_aload_n 0 dX11_readBobber_123 rfl rfl ?_
  refine s_ldc2 (v := 25209) dX11_readBobber_124 rfl kl_11_229c ?_
  refine s_callV1_i2 dX11_readBobber_127 rfl lkV_RX11_406 (S_102 hK) (Nat.le_of_ble_eq_true rfl) (Nat.le_of_ble_eq_true rfl) (Nat.le_of_ble_eq_true rfl) (ct_x11_takes hK) (fun r32 I33 L34 => ?_)
  refine sm_reg (pcx := 137) (lsx := fun e35 => [(0, .ref (X.1 + 102))]) (stx := fun e35 => []) (ux := fun e35 => (e35.1, e35.2, R, S)) ?_ (fun e35 => ?_)
  · skip
    refine s_if_eq (tgt := 137) dX11_readBobber_130 rfl rfl (fun _ => ?_) (fun _ => ?_)
    · skip
      exact sm_exit (fun f h => h)
    · skip
      refine s_aload_n 0 dX11_readBobber_133 rfl rfl ?_
      refine s_callV0_v2 dX11_readBobber_134 rfl lkV_RX11_412 (S_102 hK) (Nat.le_of_ble_eq_true rfl) (Nat.le_of_ble_eq_true rfl) (Nat.le_of_ble_eq_true rfl) (ct_x11_readBy hK) (fun I36 L37 => ?_)
      exact sm_exit (fun f h => h)
  · skip
    refine s_aload_n 0 dX11_readBobber_137 rfl rfl ?_
    refine s_getI dX11_readBobber_138 rfl fl_11_224 (S_102 hK) ?_
    refine s_if_ne (tgt := 154) dX11_readBobber_141 rfl rfl (fun _ => ?_) (fun _ => ?_)
    · skip
      exact s_vret dX11_readBobber_154 rfl (fun f h => h)
    · skip
      refine s_aload_n 0 dX11_readBobber_144 rfl rfl ?_
      refine s_dup dX11_readBobber_145 rfl rfl ?_
      refine s_getI dX11_readBobber_146 rfl fl_11_409 (S_102 hK) ?_
      refine s_iconst (v := 1) dX11_readBobber_149 rfl cI_1 ?_
      refine s_iadd dX11_readBobber_150 rfl ?_
      refine s_putIL dX11_readBobber_151 rfl fl_11_409 (S_102 hK) (fun I38 => ?_)
      exact s_vret dX11_readBobber_154 rfl (fun f h => h)
noncomputable def x11_readDraw (I : MI) (L : ML) : Option (MI × ML) :=
lt (wI I 102 62 (1 : Int32)) fun I1 =>
b3 (x11_told (1685217655 : Int64) (0 : Int32) (999 : Int32) I1 L) fun r2 I3 L4 =>
lt (wI I3 102 55 r2) fun I5 =>
some (I5, L4)
theorem ct_x11_readDraw {X : WX} {I : MI} {L : ML} {R : MR} {S : MS} (hK : okr R S) : Ct X yX11_readDraw cX11_readDraw 1 none 4 90 [.ref (X.1 + 102)] (I, L, R, S) (x11_readDraw I L) (fun r => (none, (r.1, r.2, R, S))) := by
  refine Ct.of (by decide) (Nat.le_of_ble_eq_true rfl) [(0, .ref (X.1 + 102))] rfl ?_
  unfold x11_readDraw
  refine s_aload_n 0 dX11_readDraw_0 rfl rfl ?_
  refine s_iconst (v := 1) dX11_readDraw_1 rfl cI_1 ?_
  refine s_putZL dX11_readDraw_2 rfl fl_11_415 (S_102 hK) (Or.inr rfl) (fun I1 => ?_)
  refine s_aload_n 0 dX11_readDraw_5 rfl rfl ?_
  refine s_aload_n 0 dX11_readDraw_6 rfl rfl ?_
  refine s_ldc2 (v := 1685217655) dX11_readDraw_7 rfl kl_11_261c ?_
  refine s_iconst (v := 0) dX11_readDraw_10 rfl cI_0 ?_
  refine s_sipush (v := 999) dX11_readDraw_11 rfl cS_999 ?_
  refine s_callV3_i2 dX11_readDraw_14 rfl lkV_RX11_378 (S_102 hK) (Nat.le_of_ble_eq_true rfl) (Nat.le_of_ble_eq_true rfl) (Nat.le_of_ble_eq_true rfl) (ct_x11_told hK) (fun r2 I3 L4 => ?_)
  refine s_putIL dX11_readDraw_17 rfl fl_11_419 (S_102 hK) (fun I5 => ?_)
  exact s_vret dX11_readDraw_20 rfl (fun f h => h)
noncomputable def x11_readBite (I : MI) (L : ML) : Option (MI × ML) :=
lt (wI I 102 63 (1 : Int32)) fun I1 =>
b3 (x11_told (1651078245 : Int64) (0 : Int32) (9 : Int32) I1 L) fun r2 I3 L4 =>
lt (wI I3 102 64 r2) fun I5 =>
some (I5, L4)
theorem ct_x11_readBite {X : WX} {I : MI} {L : ML} {R : MR} {S : MS} (hK : okr R S) : Ct X yX11_readBite cX11_readBite 1 none 4 90 [.ref (X.1 + 102)] (I, L, R, S) (x11_readBite I L) (fun r => (none, (r.1, r.2, R, S))) := by
  refine Ct.of (by decide) (Nat.le_of_ble_eq_true rfl) [(0, .ref (X.1 + 102))] rfl ?_
  unfold x11_readBite
  refine s_aload_n 0 dX11_readBite_0 rfl rfl ?_
  refine s_iconst (v := 1) dX11_readBite_1 rfl cI_1 ?_
  refine s_putZL dX11_readBite_2 rfl fl_11_422 (S_102 hK) (Or.inr rfl) (fun I1 => ?_)
  refine s_aload_n 0 dX11_readBite_5 rfl rfl ?_
  refine s_aload_n 0 dX11_readBite_6 rfl rfl ?_
  refine s_ldc2 (v := 1651078245) dX11_readBite_7 rfl kl_11_271c ?_
  refine s_iconst (v := 0) dX11_readBite_10 rfl cI_0 ?_
  refine s_bipush (v := 9) dX11_readBite_11 rfl cB_9 ?_
  refine s_callV3_i2 dX11_readBite_13 rfl lkV_RX11_378 (S_102 hK) (Nat.le_of_ble_eq_true rfl) (Nat.le_of_ble_eq_true rfl) (Nat.le_of_ble_eq_true rfl) (ct_x11_told hK) (fun r2 I3 L4 => ?_)
  refine s_putIL dX11_readBite_16 rfl fl_11_425 (S_102 hK) (fun I5 => ?_)
  exact s_vret dX11_readBite_19 rfl (fun f h => h)
noncomputable def x11_readLine (I : MI) (L : ML) : Option (MI × ML) :=
b1 (x11_isWord (7632226 : Int64) I L) fun r1 =>
bE (
if r1 = 0 then (
some (.inl (I, L))) else
if (I 102 49) = 0 then (
b2 (x11_readTub I L) fun I3 L4 =>
b1 (
if (I3 102 2) = 0 then (
if (I3 102 6) = 59 then (
some I3) else
b1 (x11_wrong (2 : Int32) I3) fun I6 =>
some I6) else
some I3) fun e5 =>
if (e5 102 2) = 0 then (
b2 (x11_token e5 L4) fun I7 L8 =>
some (.inr (I7, L8))) else
some (.inr (e5, L4))) else
some (.inl (I, L))) fun e2 =>
b1 (
if (e2.1 102 49) = 0 then (
b1 (x11_wrong (2 : Int32) e2.1) fun I138 =>
some (I138, e2.2)) else
b1 (x11_isWord (1868850291 : Int64) e2.1 e2.2) fun r10 =>
if r10 = 0 then (
b1 (x11_isWord (1920298085 : Int64) e2.1 e2.2) fun r11 =>
if r11 = 0 then (
b1 (x11_isWord (418498243685 : Int64) e2.1 e2.2) fun r12 =>
if r12 = 0 then (
b1 (x11_isWord (108230531507570 : Int64) e2.1 e2.2) fun r13 =>
if r13 = 0 then (
b1 (x11_isWord (1685217655 : Int64) e2.1 e2.2) fun r14 =>
if r14 = 0 then (
b1 (x11_isWord (1651078245 : Int64) e2.1 e2.2) fun r15 =>
if r15 = 0 then (
b1 (x11_wrong (2 : Int32) e2.1) fun I16 =>
some (I16, e2.2)) else
if (e2.1 102 63) = 0 then (
b2 (x11_readBite e2.1 e2.2) fun I18 L19 =>
some (I18, L19)) else
b1 (x11_wrong (2 : Int32) e2.1) fun I17 =>
some (I17, e2.2)) else
if (e2.1 102 62) = 0 then (
b2 (x11_readDraw e2.1 e2.2) fun I25 L26 =>
some (I25, L26)) else
b1 (x11_isWord (1651078245 : Int64) e2.1 e2.2) fun r20 =>
if r20 = 0 then (
b1 (x11_wrong (2 : Int32) e2.1) fun I21 =>
some (I21, e2.2)) else
if (e2.1 102 63) = 0 then (
b2 (x11_readBite e2.1 e2.2) fun I23 L24 =>
some (I23, L24)) else
b1 (x11_wrong (2 : Int32) e2.1) fun I22 =>
some (I22, e2.2)) else
if (e2.1 102 54) < 4 then (
b2 (x11_readBobber e2.1 e2.2) fun I40 L41 =>
some (I40, L41)) else
b1 (x11_isWord (1685217655 : Int64) e2.1 e2.2) fun r27 =>
if r27 = 0 then (
b1 (x11_isWord (1651078245 : Int64) e2.1 e2.2) fun r28 =>
if r28 = 0 then (
b1 (x11_wrong (2 : Int32) e2.1) fun I29 =>
some (I29, e2.2)) else
if (e2.1 102 63) = 0 then (
b2 (x11_readBite e2.1 e2.2) fun I31 L32 =>
some (I31, L32)) else
b1 (x11_wrong (2 : Int32) e2.1) fun I30 =>
some (I30, e2.2)) else
if (e2.1 102 62) = 0 then (
b2 (x11_readDraw e2.1 e2.2) fun I38 L39 =>
some (I38, L39)) else
b1 (x11_isWord (1651078245 : Int64) e2.1 e2.2) fun r33 =>
if r33 = 0 then (
b1 (x11_wrong (2 : Int32) e2.1) fun I34 =>
some (I34, e2.2)) else
if (e2.1 102 63) = 0 then (
b2 (x11_readBite e2.1 e2.2) fun I36 L37 =>
some (I36, L37)) else
b1 (x11_wrong (2 : Int32) e2.1) fun I35 =>
some (I35, e2.2)) else
if (e2.1 102 53) < 10 then (
b2 (x11_readApple e2.1 e2.2) fun I71 L72 =>
some (I71, L72)) else
b1 (x11_isWord (108230531507570 : Int64) e2.1 e2.2) fun r42 =>
if r42 = 0 then (
b1 (x11_isWord (1685217655 : Int64) e2.1 e2.2) fun r43 =>
if r43 = 0 then (
b1 (x11_isWord (1651078245 : Int64) e2.1 e2.2) fun r44 =>
if r44 = 0 then (
b1 (x11_wrong (2 : Int32) e2.1) fun I45 =>
some (I45, e2.2)) else
if (e2.1 102 63) = 0 then (
b2 (x11_readBite e2.1 e2.2) fun I47 L48 =>
some (I47, L48)) else
b1 (x11_wrong (2 : Int32) e2.1) fun I46 =>
some (I46, e2.2)) else
if (e2.1 102 62) = 0 then (
b2 (x11_readDraw e2.1 e2.2) fun I54 L55 =>
some (I54, L55)) else
b1 (x11_isWord (1651078245 : Int64) e2.1 e2.2) fun r49 =>
if r49 = 0 then (
b1 (x11_wrong (2 : Int32) e2.1) fun I50 =>
some (I50, e2.2)) else
if (e2.1 102 63) = 0 then (
b2 (x11_readBite e2.1 e2.2) fun I52 L53 =>
some (I52, L53)) else
b1 (x11_wrong (2 : Int32) e2.1) fun I51 =>
some (I51, e2.2)) else
if (e2.1 102 54) < 4 then (
b2 (x11_readBobber e2.1 e2.2) fun I69 L70 =>
some (I69, L70)) else
b1 (x11_isWord (1685217655 : Int64) e2.1 e2.2) fun r56 =>
if r56 = 0 then (
b1 (x11_isWord (1651078245 : Int64) e2.1 e2.2) fun r57 =>
if r57 = 0 then (
b1 (x11_wrong (2 : Int32) e2.1) fun I58 =>
some (I58, e2.2)) else
if (e2.1 102 63) = 0 then (
b2 (x11_readBite e2.1 e2.2) fun I60 L61 =>
some (I60, L61)) else
b1 (x11_wrong (2 : Int32) e2.1) fun I59 =>
some (I59, e2.2)) else
if (e2.1 102 62) = 0 then (
b2 (x11_readDraw e2.1 e2.2) fun I67 L68 =>
some (I67, L68)) else
b1 (x11_isWord (1651078245 : Int64) e2.1 e2.2) fun r62 =>
if r62 = 0 then (
b1 (x11_wrong (2 : Int32) e2.1) fun I63 =>
some (I63, e2.2)) else
if (e2.1 102 63) = 0 then (
b2 (x11_readBite e2.1 e2.2) fun I65 L66 =>
some (I65, L66)) else
b1 (x11_wrong (2 : Int32) e2.1) fun I64 =>
some (I64, e2.2)) else
if (e2.1 102 52) < 6 then (
b2 (x11_readRule e2.1 e2.2) fun I134 L135 =>
some (I134, L135)) else
b1 (x11_isWord (418498243685 : Int64) e2.1 e2.2) fun r73 =>
if r73 = 0 then (
b1 (x11_isWord (108230531507570 : Int64) e2.1 e2.2) fun r74 =>
if r74 = 0 then (
b1 (x11_isWord (1685217655 : Int64) e2.1 e2.2) fun r75 =>
if r75 = 0 then (
b1 (x11_isWord (1651078245 : Int64) e2.1 e2.2) fun r76 =>
if r76 = 0 then (
b1 (x11_wrong (2 : Int32) e2.1) fun I77 =>
some (I77, e2.2)) else
if (e2.1 102 63) = 0 then (
b2 (x11_readBite e2.1 e2.2) fun I79 L80 =>
some (I79, L80)) else
b1 (x11_wrong (2 : Int32) e2.1) fun I78 =>
some (I78, e2.2)) else
if (e2.1 102 62) = 0 then (
b2 (x11_readDraw e2.1 e2.2) fun I86 L87 =>
some (I86, L87)) else
b1 (x11_isWord (1651078245 : Int64) e2.1 e2.2) fun r81 =>
if r81 = 0 then (
b1 (x11_wrong (2 : Int32) e2.1) fun I82 =>
some (I82, e2.2)) else
if (e2.1 102 63) = 0 then (
b2 (x11_readBite e2.1 e2.2) fun I84 L85 =>
some (I84, L85)) else
b1 (x11_wrong (2 : Int32) e2.1) fun I83 =>
some (I83, e2.2)) else
if (e2.1 102 54) < 4 then (
b2 (x11_readBobber e2.1 e2.2) fun I101 L102 =>
some (I101, L102)) else
b1 (x11_isWord (1685217655 : Int64) e2.1 e2.2) fun r88 =>
if r88 = 0 then (
b1 (x11_isWord (1651078245 : Int64) e2.1 e2.2) fun r89 =>
if r89 = 0 then (
b1 (x11_wrong (2 : Int32) e2.1) fun I90 =>
some (I90, e2.2)) else
if (e2.1 102 63) = 0 then (
b2 (x11_readBite e2.1 e2.2) fun I92 L93 =>
some (I92, L93)) else
b1 (x11_wrong (2 : Int32) e2.1) fun I91 =>
some (I91, e2.2)) else
if (e2.1 102 62) = 0 then (
b2 (x11_readDraw e2.1 e2.2) fun I99 L100 =>
some (I99, L100)) else
b1 (x11_isWord (1651078245 : Int64) e2.1 e2.2) fun r94 =>
if r94 = 0 then (
b1 (x11_wrong (2 : Int32) e2.1) fun I95 =>
some (I95, e2.2)) else
if (e2.1 102 63) = 0 then (
b2 (x11_readBite e2.1 e2.2) fun I97 L98 =>
some (I97, L98)) else
b1 (x11_wrong (2 : Int32) e2.1) fun I96 =>
some (I96, e2.2)) else
if (e2.1 102 53) < 10 then (
b2 (x11_readApple e2.1 e2.2) fun I132 L133 =>
some (I132, L133)) else
b1 (x11_isWord (108230531507570 : Int64) e2.1 e2.2) fun r103 =>
if r103 = 0 then (
b1 (x11_isWord (1685217655 : Int64) e2.1 e2.2) fun r104 =>
if r104 = 0 then (
b1 (x11_isWord (1651078245 : Int64) e2.1 e2.2) fun r105 =>
if r105 = 0 then (
b1 (x11_wrong (2 : Int32) e2.1) fun I106 =>
some (I106, e2.2)) else
if (e2.1 102 63) = 0 then (
b2 (x11_readBite e2.1 e2.2) fun I108 L109 =>
some (I108, L109)) else
b1 (x11_wrong (2 : Int32) e2.1) fun I107 =>
some (I107, e2.2)) else
if (e2.1 102 62) = 0 then (
b2 (x11_readDraw e2.1 e2.2) fun I115 L116 =>
some (I115, L116)) else
b1 (x11_isWord (1651078245 : Int64) e2.1 e2.2) fun r110 =>
if r110 = 0 then (
b1 (x11_wrong (2 : Int32) e2.1) fun I111 =>
some (I111, e2.2)) else
if (e2.1 102 63) = 0 then (
b2 (x11_readBite e2.1 e2.2) fun I113 L114 =>
some (I113, L114)) else
b1 (x11_wrong (2 : Int32) e2.1) fun I112 =>
some (I112, e2.2)) else
if (e2.1 102 54) < 4 then (
b2 (x11_readBobber e2.1 e2.2) fun I130 L131 =>
some (I130, L131)) else
b1 (x11_isWord (1685217655 : Int64) e2.1 e2.2) fun r117 =>
if r117 = 0 then (
b1 (x11_isWord (1651078245 : Int64) e2.1 e2.2) fun r118 =>
if r118 = 0 then (
b1 (x11_wrong (2 : Int32) e2.1) fun I119 =>
some (I119, e2.2)) else
if (e2.1 102 63) = 0 then (
b2 (x11_readBite e2.1 e2.2) fun I121 L122 =>
some (I121, L122)) else
b1 (x11_wrong (2 : Int32) e2.1) fun I120 =>
some (I120, e2.2)) else
if (e2.1 102 62) = 0 then (
b2 (x11_readDraw e2.1 e2.2) fun I128 L129 =>
some (I128, L129)) else
b1 (x11_isWord (1651078245 : Int64) e2.1 e2.2) fun r123 =>
if r123 = 0 then (
b1 (x11_wrong (2 : Int32) e2.1) fun I124 =>
some (I124, e2.2)) else
if (e2.1 102 63) = 0 then (
b2 (x11_readBite e2.1 e2.2) fun I126 L127 =>
some (I126, L127)) else
b1 (x11_wrong (2 : Int32) e2.1) fun I125 =>
some (I125, e2.2)) else
b2 (x11_readOdds e2.1 e2.2) fun I136 L137 =>
some (I136, L137)) fun e9 =>
b1 (
if (e9.1 102 2) = 0 then (
if (e9.1 102 6) = 59 then (
some e9.1) else
b1 (x11_wrong (2 : Int32) e9.1) fun I140 =>
some I140) else
some e9.1) fun e139 =>
if (e139 102 2) = 0 then (
b2 (x11_token e139 e9.2) fun I141 L142 =>
some (I141, L142)) else
some (e139, e9.2)
theorem ct_x11_readLine {X : WX} {I : MI} {L : ML} {R : MR} {S : MS} (hK : okr R S) : Ct X yX11_readLine cX11_readLine 1 none 6 130 [.ref (X.1 + 102)] (I, L, R, S) (x11_readLine I L) (fun r => (none, (r.1, r.2, R, S))) := by
  refine Ct.of (by decide) (Nat.le_of_ble_eq_true rfl) [(0, .ref (X.1 + 102))] rfl ?_
  unfold x11_readLine
  refine s_aload_n 0 dX11_readLine_0 rfl rfl ?_
  refine s_ldc2 (v := 7632226) dX11_readLine_1 rfl kl_11_227c ?_
  refine s_callV1_i0 dX11_readLine_4 rfl lkV_RX11_283 (S_102 hK) (Nat.le_of_ble_eq_true rfl) (Nat.le_of_ble_eq_true rfl) (Nat.le_of_ble_eq_true rfl) (ct_x11_isWord hK) (fun r1 => ?_)
  refine sm_regE (pcx := 24) (lsx := fun e2 => [(0, .ref (X.1 + 102))]) (stx := fun e2 => []) (ux := fun e2 => (e2.1, e2.2, R, S)) ?_ (fun e2 => ?_)
  · skip
    refine s_if_eq (tgt := 24) dX11_readLine_7 rfl rfl (fun _ => ?_) (fun _ => ?_)
    · skip
      exact sm_exit (fun f h => h)
    · skip
      refine s_aload_n 0 dX11_readLine_10 rfl rfl ?_
      refine s_getI dX11_readLine_11 rfl fl_11_382 (S_102 hK) ?_
      refine s_if_ne (tgt := 24) dX11_readLine_14 rfl rfl (fun _ => ?_) (fun _ => ?_)
      · skip
        exact sm_exit (fun f h => h)
      · skip
        refine s_aload_n 0 dX11_readLine_17 rfl rfl ?_
        refine s_callV0_v2 dX11_readLine_18 rfl lkV_RX11_428 (S_102 hK) (Nat.le_of_ble_eq_true rfl) (Nat.le_of_ble_eq_true rfl) (Nat.le_of_ble_eq_true rfl) (ct_x11_readTub hK) (fun I3 L4 => ?_)
        refine s_goto (tgt := 186) dX11_readLine_21 rfl ?_
        refine s_aload_n 0 dX11_readLine_186 rfl rfl ?_
        refine s_getI dX11_readLine_187 rfl fl_11_224 (S_102 hK) ?_
        refine sm_reg (pcx := 207) (lsx := fun e5 => [(0, .ref (X.1 + 102))]) (stx := fun e5 => []) (ux := fun e5 => (e5, L4, R, S)) ?_ (fun e5 => ?_)
        · skip
          refine s_if_ne (tgt := 207) dX11_readLine_190 rfl rfl (fun _ => ?_) (fun _ => ?_)
          · skip
            exact sm_exit (fun f h => h)
          · skip
            refine s_aload_n 0 dX11_readLine_193 rfl rfl ?_
            refine s_getI dX11_readLine_194 rfl fl_11_211 (S_102 hK) ?_
            refine s_bipush (v := 59) dX11_readLine_197 rfl cB_59 ?_
            refine s_icmp_eq (tgt := 207) dX11_readLine_199 rfl rfl (fun _ => ?_) (fun _ => ?_)
            · skip
              exact sm_exit (fun f h => h)
            · skip
              refine s_aload_n 0 dX11_readLine_202 rfl rfl ?_
              refine s_iconst (v := 2) dX11_readLine_203 rfl cI_2 ?_
              refine s_callV1_v1 dX11_readLine_204 rfl lkV_RX11_290 (S_102 hK) (Nat.le_of_ble_eq_true rfl) (Nat.le_of_ble_eq_true rfl) (Nat.le_of_ble_eq_true rfl) (ct_x11_wrong hK) (fun I6 => ?_)
              exact sm_exit (fun f h => h)
        · skip
          refine s_aload_n 0 dX11_readLine_207 rfl rfl ?_
          refine s_getI dX11_readLine_208 rfl fl_11_224 (S_102 hK) ?_
          refine s_if_ne (tgt := 218) dX11_readLine_211 rfl rfl (fun _ => ?_) (fun _ => ?_)
          · skip
            exact s_vret dX11_readLine_218 rfl (fun f h => h)
          · skip
            refine s_aload_n 0 dX11_readLine_214 rfl rfl ?_
            refine s_callV0_v2 dX11_readLine_215 rfl lkV_RX11_287 (S_102 hK) (Nat.le_of_ble_eq_true rfl) (Nat.le_of_ble_eq_true rfl) (Nat.le_of_ble_eq_true rfl) (ct_x11_token hK) (fun I7 L8 => ?_)
            exact s_vret dX11_readLine_218 rfl (fun f h => h)
  · skip
    refine s_aload_n 0 dX11_readLine_24 rfl rfl ?_
    refine s_getI dX11_readLine_25 rfl fl_11_382 (S_102 hK) ?_
    refine sm_reg (pcx := 186) (lsx := fun e9 => [(0, .ref (X.1 + 102))]) (stx := fun e9 => []) (ux := fun e9 => (e9.1, e9.2, R, S)) ?_ (fun e9 => ?_)
    · skip
      refine s_if_ne (tgt := 39) dX11_readLine_28 rfl rfl (fun _ => ?_) (fun _ => ?_)
      · skip
        refine s_aload_n 0 dX11_readLine_39 rfl rfl ?_
        refine s_ldc2 (v := 1868850291) dX11_readLine_40 rfl kl_11_231c ?_
        refine s_callV1_i0 dX11_readLine_43 rfl lkV_RX11_283 (S_102 hK) (Nat.le_of_ble_eq_true rfl) (Nat.le_of_ble_eq_true rfl) (Nat.le_of_ble_eq_true rfl) (ct_x11_isWord hK) (fun r10 => ?_)
        refine s_if_eq (tgt := 56) dX11_readLine_46 rfl rfl (fun _ => ?_) (fun _ => ?_)
        · skip
          refine s_aload_n 0 dX11_readLine_56 rfl rfl ?_
          refine s_ldc2 (v := 1920298085) dX11_readLine_57 rfl kl_11_241c ?_
          refine s_callV1_i0 dX11_readLine_60 rfl lkV_RX11_283 (S_102 hK) (Nat.le_of_ble_eq_true rfl) (Nat.le_of_ble_eq_true rfl) (Nat.le_of_ble_eq_true rfl) (ct_x11_isWord hK) (fun r11 => ?_)
          refine s_if_eq (tgt := 82) dX11_readLine_63 rfl rfl (fun _ => ?_) (fun _ => ?_)
          · skip
            refine s_aload_n 0 dX11_readLine_82 rfl rfl ?_
            refine s_ldc2 (v := 418498243685) dX11_readLine_83 rfl kl_11_243c ?_
            refine s_callV1_i0 dX11_readLine_86 rfl lkV_RX11_283 (S_102 hK) (Nat.le_of_ble_eq_true rfl) (Nat.le_of_ble_eq_true rfl) (Nat.le_of_ble_eq_true rfl) (ct_x11_isWord hK) (fun r12 => ?_)
            refine s_if_eq (tgt := 108) dX11_readLine_89 rfl rfl (fun _ => ?_) (fun _ => ?_)
            · skip
              refine s_aload_n 0 dX11_readLine_108 rfl rfl ?_
              refine s_ldc2 (v := 108230531507570) dX11_readLine_109 rfl kl_11_253c ?_
              refine s_callV1_i0 dX11_readLine_112 rfl lkV_RX11_283 (S_102 hK) (Nat.le_of_ble_eq_true rfl) (Nat.le_of_ble_eq_true rfl) (Nat.le_of_ble_eq_true rfl) (ct_x11_isWord hK) (fun r13 => ?_)
              refine s_if_eq (tgt := 133) dX11_readLine_115 rfl rfl (fun _ => ?_) (fun _ => ?_)
              · skip
                refine s_aload_n 0 dX11_readLine_133 rfl rfl ?_
                refine s_ldc2 (v := 1685217655) dX11_readLine_134 rfl kl_11_261c ?_
                refine s_callV1_i0 dX11_readLine_137 rfl lkV_RX11_283 (S_102 hK) (Nat.le_of_ble_eq_true rfl) (Nat.le_of_ble_eq_true rfl) (Nat.le_of_ble_eq_true rfl) (ct_x11_isWord hK) (fun r14 => ?_)
                refine s_if_eq (tgt := 157) dX11_readLine_140 rfl rfl (fun _ => ?_) (fun _ => ?_)
                · skip
                  refine s_aload_n 0 dX11_readLine_157 rfl rfl ?_
                  refine s_ldc2 (v := 1651078245) dX11_readLine_158 rfl kl_11_271c ?_
                  refine s_callV1_i0 dX11_readLine_161 rfl lkV_RX11_283 (S_102 hK) (Nat.le_of_ble_eq_true rfl) (Nat.le_of_ble_eq_true rfl) (Nat.le_of_ble_eq_true rfl) (ct_x11_isWord hK) (fun r15 => ?_)
                  refine s_if_eq (tgt := 181) dX11_readLine_164 rfl rfl (fun _ => ?_) (fun _ => ?_)
                  · skip
                    refine s_aload_n 0 dX11_readLine_181 rfl rfl ?_
                    refine s_iconst (v := 2) dX11_readLine_182 rfl cI_2 ?_
                    refine s_callV1_v1 dX11_readLine_183 rfl lkV_RX11_290 (S_102 hK) (Nat.le_of_ble_eq_true rfl) (Nat.le_of_ble_eq_true rfl) (Nat.le_of_ble_eq_true rfl) (ct_x11_wrong hK) (fun I16 => ?_)
                    exact sm_exit (fun f h => h)
                  · skip
                    refine s_aload_n 0 dX11_readLine_167 rfl rfl ?_
                    refine s_getZ dX11_readLine_168 rfl fl_11_422 (S_102 hK) ?_
                    refine s_if_ne (tgt := 181) dX11_readLine_171 rfl rfl (fun _ => ?_) (fun _ => ?_)
                    · skip
                      refine s_aload_n 0 dX11_readLine_181 rfl rfl ?_
                      refine s_iconst (v := 2) dX11_readLine_182 rfl cI_2 ?_
                      refine s_callV1_v1 dX11_readLine_183 rfl lkV_RX11_290 (S_102 hK) (Nat.le_of_ble_eq_true rfl) (Nat.le_of_ble_eq_true rfl) (Nat.le_of_ble_eq_true rfl) (ct_x11_wrong hK) (fun I17 => ?_)
                      exact sm_exit (fun f h => h)
                    · skip
                      refine s_aload_n 0 dX11_readLine_174 rfl rfl ?_
                      refine s_callV0_v2 dX11_readLine_175 rfl lkV_RX11_446 (S_102 hK) (Nat.le_of_ble_eq_true rfl) (Nat.le_of_ble_eq_true rfl) (Nat.le_of_ble_eq_true rfl) (ct_x11_readBite hK) (fun I18 L19 => ?_)
                      refine s_goto (tgt := 186) dX11_readLine_178 rfl ?_
                      exact sm_exit (fun f h => h)
                · skip
                  refine s_aload_n 0 dX11_readLine_143 rfl rfl ?_
                  refine s_getZ dX11_readLine_144 rfl fl_11_415 (S_102 hK) ?_
                  refine s_if_ne (tgt := 157) dX11_readLine_147 rfl rfl (fun _ => ?_) (fun _ => ?_)
                  · skip
                    refine s_aload_n 0 dX11_readLine_157 rfl rfl ?_
                    refine s_ldc2 (v := 1651078245) dX11_readLine_158 rfl kl_11_271c ?_
                    refine s_callV1_i0 dX11_readLine_161 rfl lkV_RX11_283 (S_102 hK) (Nat.le_of_ble_eq_true rfl) (Nat.le_of_ble_eq_true rfl) (Nat.le_of_ble_eq_true rfl) (ct_x11_isWord hK) (fun r20 => ?_)
                    refine s_if_eq (tgt := 181) dX11_readLine_164 rfl rfl (fun _ => ?_) (fun _ => ?_)
                    · skip
                      refine s_aload_n 0 dX11_readLine_181 rfl rfl ?_
                      refine s_iconst (v := 2) dX11_readLine_182 rfl cI_2 ?_
                      refine s_callV1_v1 dX11_readLine_183 rfl lkV_RX11_290 (S_102 hK) (Nat.le_of_ble_eq_true rfl) (Nat.le_of_ble_eq_true rfl) (Nat.le_of_ble_eq_true rfl) (ct_x11_wrong hK) (fun I21 => ?_)
                      exact sm_exit (fun f h => h)
                    · skip
                      refine s_aload_n 0 dX11_readLine_167 rfl rfl ?_
                      refine s_getZ dX11_readLine_168 rfl fl_11_422 (S_102 hK) ?_
                      refine s_if_ne (tgt := 181) dX11_readLine_171 rfl rfl (fun _ => ?_) (fun _ => ?_)
                      · skip
                        refine s_aload_n 0 dX11_readLine_181 rfl rfl ?_
                        refine s_iconst (v := 2) dX11_readLine_182 rfl cI_2 ?_
                        refine s_callV1_v1 dX11_readLine_183 rfl lkV_RX11_290 (S_102 hK) (Nat.le_of_ble_eq_true rfl) (Nat.le_of_ble_eq_true rfl) (Nat.le_of_ble_eq_true rfl) (ct_x11_wrong hK) (fun I22 => ?_)
                        exact sm_exit (fun f h => h)
                      · skip
                        refine s_aload_n 0 dX11_readLine_174 rfl rfl ?_
                        refine s_callV0_v2 dX11_readLine_175 rfl lkV_RX11_446 (S_102 hK) (Nat.le_of_ble_eq_true rfl) (Nat.le_of_ble_eq_true rfl) (Nat.le_of_ble_eq_true rfl) (ct_x11_readBite hK) (fun I23 L24 => ?_)
                        refine s_goto (tgt := 186) dX11_readLine_178 rfl ?_
                        exact sm_exit (fun f h => h)
                  · skip
                    refine s_aload_n 0 dX11_readLine_150 rfl rfl ?_
                    refine s_callV0_v2 dX11_readLine_151 rfl lkV_RX11_443 (S_102 hK) (Nat.le_of_ble_eq_true rfl) (Nat.le_of_ble_eq_true rfl) (Nat.le_of_ble_eq_true rfl) (ct_x11_readDraw hK) (fun I25 L26 => ?_)
                    refine s_goto (tgt := 186) dX11_readLine_154 rfl ?_
                    exact sm_exit (fun f h => h)
              · skip
                refine s_aload_n 0 dX11_readLine_118 rfl rfl ?_
                refine s_getI dX11_readLine_119 rfl fl_11_409 (S_102 hK) ?_
                refine s_iconst (v := 4) dX11_readLine_122 rfl cI_4 ?_
                refine s_icmp_ge (tgt := 133) dX11_readLine_123 rfl rfl (fun _ => ?_) (fun _ => ?_)
                · skip
                  refine s_aload_n 0 dX11_readLine_133 rfl rfl ?_
                  refine s_ldc2 (v := 1685217655) dX11_readLine_134 rfl kl_11_261c ?_
                  refine s_callV1_i0 dX11_readLine_137 rfl lkV_RX11_283 (S_102 hK) (Nat.le_of_ble_eq_true rfl) (Nat.le_of_ble_eq_true rfl) (Nat.le_of_ble_eq_true rfl) (ct_x11_isWord hK) (fun r27 => ?_)
                  refine s_if_eq (tgt := 157) dX11_readLine_140 rfl rfl (fun _ => ?_) (fun _ => ?_)
                  · skip
                    refine s_aload_n 0 dX11_readLine_157 rfl rfl ?_
                    refine s_ldc2 (v := 1651078245) dX11_readLine_158 rfl kl_11_271c ?_
                    refine s_callV1_i0 dX11_readLine_161 rfl lkV_RX11_283 (S_102 hK) (Nat.le_of_ble_eq_true rfl) (Nat.le_of_ble_eq_true rfl) (Nat.le_of_ble_eq_true rfl) (ct_x11_isWord hK) (fun r28 => ?_)
                    refine s_if_eq (tgt := 181) dX11_readLine_164 rfl rfl (fun _ => ?_) (fun _ => ?_)
                    · skip
                      refine s_aload_n 0 dX11_readLine_181 rfl rfl ?_
                      refine s_iconst (v := 2) dX11_readLine_182 rfl cI_2 ?_
                      refine s_callV1_v1 dX11_readLine_183 rfl lkV_RX11_290 (S_102 hK) (Nat.le_of_ble_eq_true rfl) (Nat.le_of_ble_eq_true rfl) (Nat.le_of_ble_eq_true rfl) (ct_x11_wrong hK) (fun I29 => ?_)
                      exact sm_exit (fun f h => h)
                    · skip
                      refine s_aload_n 0 dX11_readLine_167 rfl rfl ?_
                      refine s_getZ dX11_readLine_168 rfl fl_11_422 (S_102 hK) ?_
                      refine s_if_ne (tgt := 181) dX11_readLine_171 rfl rfl (fun _ => ?_) (fun _ => ?_)
                      · skip
                        refine s_aload_n 0 dX11_readLine_181 rfl rfl ?_
                        refine s_iconst (v := 2) dX11_readLine_182 rfl cI_2 ?_
                        refine s_callV1_v1 dX11_readLine_183 rfl lkV_RX11_290 (S_102 hK) (Nat.le_of_ble_eq_true rfl) (Nat.le_of_ble_eq_true rfl) (Nat.le_of_ble_eq_true rfl) (ct_x11_wrong hK) (fun I30 => ?_)
                        exact sm_exit (fun f h => h)
                      · skip
                        refine s_aload_n 0 dX11_readLine_174 rfl rfl ?_
                        refine s_callV0_v2 dX11_readLine_175 rfl lkV_RX11_446 (S_102 hK) (Nat.le_of_ble_eq_true rfl) (Nat.le_of_ble_eq_true rfl) (Nat.le_of_ble_eq_true rfl) (ct_x11_readBite hK) (fun I31 L32 => ?_)
                        refine s_goto (tgt := 186) dX11_readLine_178 rfl ?_
                        exact sm_exit (fun f h => h)
                  · skip
                    refine s_aload_n 0 dX11_readLine_143 rfl rfl ?_
                    refine s_getZ dX11_readLine_144 rfl fl_11_415 (S_102 hK) ?_
                    refine s_if_ne (tgt := 157) dX11_readLine_147 rfl rfl (fun _ => ?_) (fun _ => ?_)
                    · skip
                      refine s_aload_n 0 dX11_readLine_157 rfl rfl ?_
                      refine s_ldc2 (v := 1651078245) dX11_readLine_158 rfl kl_11_271c ?_
                      refine s_callV1_i0 dX11_readLine_161 rfl lkV_RX11_283 (S_102 hK) (Nat.le_of_ble_eq_true rfl) (Nat.le_of_ble_eq_true rfl) (Nat.le_of_ble_eq_true rfl) (ct_x11_isWord hK) (fun r33 => ?_)
                      refine s_if_eq (tgt := 181) dX11_readLine_164 rfl rfl (fun _ => ?_) (fun _ => ?_)
                      · skip
                        refine s_aload_n 0 dX11_readLine_181 rfl rfl ?_
                        refine s_iconst (v := 2) dX11_readLine_182 rfl cI_2 ?_
                        refine s_callV1_v1 dX11_readLine_183 rfl lkV_RX11_290 (S_102 hK) (Nat.le_of_ble_eq_true rfl) (Nat.le_of_ble_eq_true rfl) (Nat.le_of_ble_eq_true rfl) (ct_x11_wrong hK) (fun I34 => ?_)
                        exact sm_exit (fun f h => h)
                      · skip
                        refine s_aload_n 0 dX11_readLine_167 rfl rfl ?_
                        refine s_getZ dX11_readLine_168 rfl fl_11_422 (S_102 hK) ?_
                        refine s_if_ne (tgt := 181) dX11_readLine_171 rfl rfl (fun _ => ?_) (fun _ => ?_)
                        · skip
                          refine s_aload_n 0 dX11_readLine_181 rfl rfl ?_
                          refine s_iconst (v := 2) dX11_readLine_182 rfl cI_2 ?_
                          refine s_callV1_v1 dX11_readLine_183 rfl lkV_RX11_290 (S_102 hK) (Nat.le_of_ble_eq_true rfl) (Nat.le_of_ble_eq_true rfl) (Nat.le_of_ble_eq_true rfl) (ct_x11_wrong hK) (fun I35 => ?_)
                          exact sm_exit (fun f h => h)
                        · skip
                          refine s_aload_n 0 dX11_readLine_174 rfl rfl ?_
                          refine s_callV0_v2 dX11_readLine_175 rfl lkV_RX11_446 (S_102 hK) (Nat.le_of_ble_eq_true rfl) (Nat.le_of_ble_eq_true rfl) (Nat.le_of_ble_eq_true rfl) (ct_x11_readBite hK) (fun I36 L37 => ?_)
                          refine s_goto (tgt := 186) dX11_readLine_178 rfl ?_
                          exact sm_exit (fun f h => h)
                    · skip
                      refine s_aload_n 0 dX11_readLine_150 rfl rfl ?_
                      refine s_callV0_v2 dX11_readLine_151 rfl lkV_RX11_443 (S_102 hK) (Nat.le_of_ble_eq_true rfl) (Nat.le_of_ble_eq_true rfl) (Nat.le_of_ble_eq_true rfl) (ct_x11_readDraw hK) (fun I38 L39 => ?_)
                      refine s_goto (tgt := 186) dX11_readLine_154 rfl ?_
                      exact sm_exit (fun f h => h)
                · skip
                  refine s_aload_n 0 dX11_readLine_126 rfl rfl ?_
                  refine s_callV0_v2 dX11_readLine_127 rfl lkV_RX11_440 (S_102 hK) (Nat.le_of_ble_eq_true rfl) (Nat.le_of_ble_eq_true rfl) (Nat.le_of_ble_eq_true rfl) (ct_x11_readBobber hK) (fun I40 L41 => ?_)
                  refine s_goto (tgt := 186) dX11_readLine_130 rfl ?_
                  exact sm_exit (fun f h => h)
            · skip
              refine s_aload_n 0 dX11_readLine_92 rfl rfl ?_
              refine s_getI dX11_readLine_93 rfl fl_11_400 (S_102 hK) ?_
              refine s_bipush (v := 10) dX11_readLine_96 rfl cB_10 ?_
              refine s_icmp_ge (tgt := 108) dX11_readLine_98 rfl rfl (fun _ => ?_) (fun _ => ?_)
              · skip
                refine s_aload_n 0 dX11_readLine_108 rfl rfl ?_
                refine s_ldc2 (v := 108230531507570) dX11_readLine_109 rfl kl_11_253c ?_
                refine s_callV1_i0 dX11_readLine_112 rfl lkV_RX11_283 (S_102 hK) (Nat.le_of_ble_eq_true rfl) (Nat.le_of_ble_eq_true rfl) (Nat.le_of_ble_eq_true rfl) (ct_x11_isWord hK) (fun r42 => ?_)
                refine s_if_eq (tgt := 133) dX11_readLine_115 rfl rfl (fun _ => ?_) (fun _ => ?_)
                · skip
                  refine s_aload_n 0 dX11_readLine_133 rfl rfl ?_
                  refine s_ldc2 (v := 1685217655) dX11_readLine_134 rfl kl_11_261c ?_
                  refine s_callV1_i0 dX11_readLine_137 rfl lkV_RX11_283 (S_102 hK) (Nat.le_of_ble_eq_true rfl) (Nat.le_of_ble_eq_true rfl) (Nat.le_of_ble_eq_true rfl) (ct_x11_isWord hK) (fun r43 => ?_)
                  refine s_if_eq (tgt := 157) dX11_readLine_140 rfl rfl (fun _ => ?_) (fun _ => ?_)
                  · skip
                    refine s_aload_n 0 dX11_readLine_157 rfl rfl ?_
                    refine s_ldc2 (v := 1651078245) dX11_readLine_158 rfl kl_11_271c ?_
                    refine s_callV1_i0 dX11_readLine_161 rfl lkV_RX11_283 (S_102 hK) (Nat.le_of_ble_eq_true rfl) (Nat.le_of_ble_eq_true rfl) (Nat.le_of_ble_eq_true rfl) (ct_x11_isWord hK) (fun r44 => ?_)
                    refine s_if_eq (tgt := 181) dX11_readLine_164 rfl rfl (fun _ => ?_) (fun _ => ?_)
                    · skip
                      refine s_aload_n 0 dX11_readLine_181 rfl rfl ?_
                      refine s_iconst (v := 2) dX11_readLine_182 rfl cI_2 ?_
                      refine s_callV1_v1 dX11_readLine_183 rfl lkV_RX11_290 (S_102 hK) (Nat.le_of_ble_eq_true rfl) (Nat.le_of_ble_eq_true rfl) (Nat.le_of_ble_eq_true rfl) (ct_x11_wrong hK) (fun I45 => ?_)
                      exact sm_exit (fun f h => h)
                    · skip
                      refine s_aload_n 0 dX11_readLine_167 rfl rfl ?_
                      refine s_getZ dX11_readLine_168 rfl fl_11_422 (S_102 hK) ?_
                      refine s_if_ne (tgt := 181) dX11_readLine_171 rfl rfl (fun _ => ?_) (fun _ => ?_)
                      · skip
                        refine s_aload_n 0 dX11_readLine_181 rfl rfl ?_
                        refine s_iconst (v := 2) dX11_readLine_182 rfl cI_2 ?_
                        refine s_callV1_v1 dX11_readLine_183 rfl lkV_RX11_290 (S_102 hK) (Nat.le_of_ble_eq_true rfl) (Nat.le_of_ble_eq_true rfl) (Nat.le_of_ble_eq_true rfl) (ct_x11_wrong hK) (fun I46 => ?_)
                        exact sm_exit (fun f h => h)
                      · skip
                        refine s_aload_n 0 dX11_readLine_174 rfl rfl ?_
                        refine s_callV0_v2 dX11_readLine_175 rfl lkV_RX11_446 (S_102 hK) (Nat.le_of_ble_eq_true rfl) (Nat.le_of_ble_eq_true rfl) (Nat.le_of_ble_eq_true rfl) (ct_x11_readBite hK) (fun I47 L48 => ?_)
                        refine s_goto (tgt := 186) dX11_readLine_178 rfl ?_
                        exact sm_exit (fun f h => h)
                  · skip
                    refine s_aload_n 0 dX11_readLine_143 rfl rfl ?_
                    refine s_getZ dX11_readLine_144 rfl fl_11_415 (S_102 hK) ?_
                    refine s_if_ne (tgt := 157) dX11_readLine_147 rfl rfl (fun _ => ?_) (fun _ => ?_)
                    · skip
                      refine s_aload_n 0 dX11_readLine_157 rfl rfl ?_
                      refine s_ldc2 (v := 1651078245) dX11_readLine_158 rfl kl_11_271c ?_
                      refine s_callV1_i0 dX11_readLine_161 rfl lkV_RX11_283 (S_102 hK) (Nat.le_of_ble_eq_true rfl) (Nat.le_of_ble_eq_true rfl) (Nat.le_of_ble_eq_true rfl) (ct_x11_isWord hK) (fun r49 => ?_)
                      refine s_if_eq (tgt := 181) dX11_readLine_164 rfl rfl (fun _ => ?_) (fun _ => ?_)
                      · skip
                        refine s_aload_n 0 dX11_readLine_181 rfl rfl ?_
                        refine s_iconst (v := 2) dX11_readLine_182 rfl cI_2 ?_
                        refine s_callV1_v1 dX11_readLine_183 rfl lkV_RX11_290 (S_102 hK) (Nat.le_of_ble_eq_true rfl) (Nat.le_of_ble_eq_true rfl) (Nat.le_of_ble_eq_true rfl) (ct_x11_wrong hK) (fun I50 => ?_)
                        exact sm_exit (fun f h => h)
                      · skip
                        refine s_aload_n 0 dX11_readLine_167 rfl rfl ?_
                        refine s_getZ dX11_readLine_168 rfl fl_11_422 (S_102 hK) ?_
                        refine s_if_ne (tgt := 181) dX11_readLine_171 rfl rfl (fun _ => ?_) (fun _ => ?_)
                        · skip
                          refine s_aload_n 0 dX11_readLine_181 rfl rfl ?_
                          refine s_iconst (v := 2) dX11_readLine_182 rfl cI_2 ?_
                          refine s_callV1_v1 dX11_readLine_183 rfl lkV_RX11_290 (S_102 hK) (Nat.le_of_ble_eq_true rfl) (Nat.le_of_ble_eq_true rfl) (Nat.le_of_ble_eq_true rfl) (ct_x11_wrong hK) (fun I51 => ?_)
                          exact sm_exit (fun f h => h)
                        · skip
                          refine s_aload_n 0 dX11_readLine_174 rfl rfl ?_
                          refine s_callV0_v2 dX11_readLine_175 rfl lkV_RX11_446 (S_102 hK) (Nat.le_of_ble_eq_true rfl) (Nat.le_of_ble_eq_true rfl) (Nat.le_of_ble_eq_true rfl) (ct_x11_readBite hK) (fun I52 L53 => ?_)
                          refine s_goto (tgt := 186) dX11_readLine_178 rfl ?_
                          exact sm_exit (fun f h => h)
                    · skip
                      refine s_aload_n 0 dX11_readLine_150 rfl rfl ?_
                      refine s_callV0_v2 dX11_readLine_151 rfl lkV_RX11_443 (S_102 hK) (Nat.le_of_ble_eq_true rfl) (Nat.le_of_ble_eq_true rfl) (Nat.le_of_ble_eq_true rfl) (ct_x11_readDraw hK) (fun I54 L55 => ?_)
                      refine s_goto (tgt := 186) dX11_readLine_154 rfl ?_
                      exact sm_exit (fun f h => h)
                · skip
                  refine s_aload_n 0 dX11_readLine_118 rfl rfl ?_
                  refine s_getI dX11_readLine_119 rfl fl_11_409 (S_102 hK) ?_
                  refine s_iconst (v := 4) dX11_readLine_122 rfl cI_4 ?_
                  refine s_icmp_ge (tgt := 133) dX11_readLine_123 rfl rfl (fun _ => ?_) (fun _ => ?_)
                  · skip
                    refine s_aload_n 0 dX11_readLine_133 rfl rfl ?_
                    refine s_ldc2 (v := 1685217655) dX11_readLine_134 rfl kl_11_261c ?_
                    refine s_callV1_i0 dX11_readLine_137 rfl lkV_RX11_283 (S_102 hK) (Nat.le_of_ble_eq_true rfl) (Nat.le_of_ble_eq_true rfl) (Nat.le_of_ble_eq_true rfl) (ct_x11_isWord hK) (fun r56 => ?_)
                    refine s_if_eq (tgt := 157) dX11_readLine_140 rfl rfl (fun _ => ?_) (fun _ => ?_)
                    · skip
                      refine s_aload_n 0 dX11_readLine_157 rfl rfl ?_
                      refine s_ldc2 (v := 1651078245) dX11_readLine_158 rfl kl_11_271c ?_
                      refine s_callV1_i0 dX11_readLine_161 rfl lkV_RX11_283 (S_102 hK) (Nat.le_of_ble_eq_true rfl) (Nat.le_of_ble_eq_true rfl) (Nat.le_of_ble_eq_true rfl) (ct_x11_isWord hK) (fun r57 => ?_)
                      refine s_if_eq (tgt := 181) dX11_readLine_164 rfl rfl (fun _ => ?_) (fun _ => ?_)
                      · skip
                        refine s_aload_n 0 dX11_readLine_181 rfl rfl ?_
                        refine s_iconst (v := 2) dX11_readLine_182 rfl cI_2 ?_
                        refine s_callV1_v1 dX11_readLine_183 rfl lkV_RX11_290 (S_102 hK) (Nat.le_of_ble_eq_true rfl) (Nat.le_of_ble_eq_true rfl) (Nat.le_of_ble_eq_true rfl) (ct_x11_wrong hK) (fun I58 => ?_)
                        exact sm_exit (fun f h => h)
                      · skip
                        refine s_aload_n 0 dX11_readLine_167 rfl rfl ?_
                        refine s_getZ dX11_readLine_168 rfl fl_11_422 (S_102 hK) ?_
                        refine s_if_ne (tgt := 181) dX11_readLine_171 rfl rfl (fun _ => ?_) (fun _ => ?_)
                        · skip
                          refine s_aload_n 0 dX11_readLine_181 rfl rfl ?_
                          refine s_iconst (v := 2) dX11_readLine_182 rfl cI_2 ?_
                          refine s_callV1_v1 dX11_readLine_183 rfl lkV_RX11_290 (S_102 hK) (Nat.le_of_ble_eq_true rfl) (Nat.le_of_ble_eq_true rfl) (Nat.le_of_ble_eq_true rfl) (ct_x11_wrong hK) (fun I59 => ?_)
                          exact sm_exit (fun f h => h)
                        · skip
                          refine s_aload_n 0 dX11_readLine_174 rfl rfl ?_
                          refine s_callV0_v2 dX11_readLine_175 rfl lkV_RX11_446 (S_102 hK) (Nat.le_of_ble_eq_true rfl) (Nat.le_of_ble_eq_true rfl) (Nat.le_of_ble_eq_true rfl) (ct_x11_readBite hK) (fun I60 L61 => ?_)
                          refine s_goto (tgt := 186) dX11_readLine_178 rfl ?_
                          exact sm_exit (fun f h => h)
                    · skip
                      refine s_aload_n 0 dX11_readLine_143 rfl rfl ?_
                      refine s_getZ dX11_readLine_144 rfl fl_11_415 (S_102 hK) ?_
                      refine s_if_ne (tgt := 157) dX11_readLine_147 rfl rfl (fun _ => ?_) (fun _ => ?_)
                      · skip
                        refine s_aload_n 0 dX11_readLine_157 rfl rfl ?_
                        refine s_ldc2 (v := 1651078245) dX11_readLine_158 rfl kl_11_271c ?_
                        refine s_callV1_i0 dX11_readLine_161 rfl lkV_RX11_283 (S_102 hK) (Nat.le_of_ble_eq_true rfl) (Nat.le_of_ble_eq_true rfl) (Nat.le_of_ble_eq_true rfl) (ct_x11_isWord hK) (fun r62 => ?_)
                        refine s_if_eq (tgt := 181) dX11_readLine_164 rfl rfl (fun _ => ?_) (fun _ => ?_)
                        · skip
                          refine s_aload_n 0 dX11_readLine_181 rfl rfl ?_
                          refine s_iconst (v := 2) dX11_readLine_182 rfl cI_2 ?_
                          refine s_callV1_v1 dX11_readLine_183 rfl lkV_RX11_290 (S_102 hK) (Nat.le_of_ble_eq_true rfl) (Nat.le_of_ble_eq_true rfl) (Nat.le_of_ble_eq_true rfl) (ct_x11_wrong hK) (fun I63 => ?_)
                          exact sm_exit (fun f h => h)
                        · skip
                          refine s_aload_n 0 dX11_readLine_167 rfl rfl ?_
                          refine s_getZ dX11_readLine_168 rfl fl_11_422 (S_102 hK) ?_
                          refine s_if_ne (tgt := 181) dX11_readLine_171 rfl rfl (fun _ => ?_) (fun _ => ?_)
                          · skip
                            refine s_aload_n 0 dX11_readLine_181 rfl rfl ?_
                            refine s_iconst (v := 2) dX11_readLine_182 rfl cI_2 ?_
                            refine s_callV1_v1 dX11_readLine_183 rfl lkV_RX11_290 (S_102 hK) (Nat.le_of_ble_eq_true rfl) (Nat.le_of_ble_eq_true rfl) (Nat.le_of_ble_eq_true rfl) (ct_x11_wrong hK) (fun I64 => ?_)
                            exact sm_exit (fun f h => h)
                          · skip
                            refine s_aload_n 0 dX11_readLine_174 rfl rfl ?_
                            refine s_callV0_v2 dX11_readLine_175 rfl lkV_RX11_446 (S_102 hK) (Nat.le_of_ble_eq_true rfl) (Nat.le_of_ble_eq_true rfl) (Nat.le_of_ble_eq_true rfl) (ct_x11_readBite hK) (fun I65 L66 => ?_)
                            refine s_goto (tgt := 186) dX11_readLine_178 rfl ?_
                            exact sm_exit (fun f h => h)
                      · skip
                        refine s_aload_n 0 dX11_readLine_150 rfl rfl ?_
                        refine s_callV0_v2 dX11_readLine_151 rfl lkV_RX11_443 (S_102 hK) (Nat.le_of_ble_eq_true rfl) (Nat.le_of_ble_eq_true rfl) (Nat.le_of_ble_eq_true rfl) (ct_x11_readDraw hK) (fun I67 L68 => ?_)
                        refine s_goto (tgt := 186) dX11_readLine_154 rfl ?_
                        exact sm_exit (fun f h => h)
                  · skip
                    refine s_aload_n 0 dX11_readLine_126 rfl rfl ?_
                    refine s_callV0_v2 dX11_readLine_127 rfl lkV_RX11_440 (S_102 hK) (Nat.le_of_ble_eq_true rfl) (Nat.le_of_ble_eq_true rfl) (Nat.le_of_ble_eq_true rfl) (ct_x11_readBobber hK) (fun I69 L70 => ?_)
                    refine s_goto (tgt := 186) dX11_readLine_130 rfl ?_
                    exact sm_exit (fun f h => h)
              · skip
                refine s_aload_n 0 dX11_readLine_101 rfl rfl ?_
                refine s_callV0_v2 dX11_readLine_102 rfl lkV_RX11_437 (S_102 hK) (Nat.le_of_ble_eq_true rfl) (Nat.le_of_ble_eq_true rfl) (Nat.le_of_ble_eq_true rfl) (ct_x11_readApple hK) (fun I71 L72 => ?_)
                refine s_goto (tgt := 186) dX11_readLine_105 rfl ?_
                exact sm_exit (fun f h => h)
          · skip
            refine s_aload_n 0 dX11_readLine_66 rfl rfl ?_
            refine s_getI dX11_readLine_67 rfl fl_11_394 (S_102 hK) ?_
            refine s_bipush (v := 6) dX11_readLine_70 rfl cB_6 ?_
            refine s_icmp_ge (tgt := 82) dX11_readLine_72 rfl rfl (fun _ => ?_) (fun _ => ?_)
            · skip
              refine s_aload_n 0 dX11_readLine_82 rfl rfl ?_
              refine s_ldc2 (v := 418498243685) dX11_readLine_83 rfl kl_11_243c ?_
              refine s_callV1_i0 dX11_readLine_86 rfl lkV_RX11_283 (S_102 hK) (Nat.le_of_ble_eq_true rfl) (Nat.le_of_ble_eq_true rfl) (Nat.le_of_ble_eq_true rfl) (ct_x11_isWord hK) (fun r73 => ?_)
              refine s_if_eq (tgt := 108) dX11_readLine_89 rfl rfl (fun _ => ?_) (fun _ => ?_)
              · skip
                refine s_aload_n 0 dX11_readLine_108 rfl rfl ?_
                refine s_ldc2 (v := 108230531507570) dX11_readLine_109 rfl kl_11_253c ?_
                refine s_callV1_i0 dX11_readLine_112 rfl lkV_RX11_283 (S_102 hK) (Nat.le_of_ble_eq_true rfl) (Nat.le_of_ble_eq_true rfl) (Nat.le_of_ble_eq_true rfl) (ct_x11_isWord hK) (fun r74 => ?_)
                refine s_if_eq (tgt := 133) dX11_readLine_115 rfl rfl (fun _ => ?_) (fun _ => ?_)
                · skip
                  refine s_aload_n 0 dX11_readLine_133 rfl rfl ?_
                  refine s_ldc2 (v := 1685217655) dX11_readLine_134 rfl kl_11_261c ?_
                  refine s_callV1_i0 dX11_readLine_137 rfl lkV_RX11_283 (S_102 hK) (Nat.le_of_ble_eq_true rfl) (Nat.le_of_ble_eq_true rfl) (Nat.le_of_ble_eq_true rfl) (ct_x11_isWord hK) (fun r75 => ?_)
                  refine s_if_eq (tgt := 157) dX11_readLine_140 rfl rfl (fun _ => ?_) (fun _ => ?_)
                  · skip
                    refine s_aload_n 0 dX11_readLine_157 rfl rfl ?_
                    refine s_ldc2 (v := 1651078245) dX11_readLine_158 rfl kl_11_271c ?_
                    refine s_callV1_i0 dX11_readLine_161 rfl lkV_RX11_283 (S_102 hK) (Nat.le_of_ble_eq_true rfl) (Nat.le_of_ble_eq_true rfl) (Nat.le_of_ble_eq_true rfl) (ct_x11_isWord hK) (fun r76 => ?_)
                    refine s_if_eq (tgt := 181) dX11_readLine_164 rfl rfl (fun _ => ?_) (fun _ => ?_)
                    · skip
                      refine s_aload_n 0 dX11_readLine_181 rfl rfl ?_
                      refine s_iconst (v := 2) dX11_readLine_182 rfl cI_2 ?_
                      refine s_callV1_v1 dX11_readLine_183 rfl lkV_RX11_290 (S_102 hK) (Nat.le_of_ble_eq_true rfl) (Nat.le_of_ble_eq_true rfl) (Nat.le_of_ble_eq_true rfl) (ct_x11_wrong hK) (fun I77 => ?_)
                      exact sm_exit (fun f h => h)
                    · skip
                      refine s_aload_n 0 dX11_readLine_167 rfl rfl ?_
                      refine s_getZ dX11_readLine_168 rfl fl_11_422 (S_102 hK) ?_
                      refine s_if_ne (tgt := 181) dX11_readLine_171 rfl rfl (fun _ => ?_) (fun _ => ?_)
                      · skip
                        refine s_aload_n 0 dX11_readLine_181 rfl rfl ?_
                        refine s_iconst (v := 2) dX11_readLine_182 rfl cI_2 ?_
                        refine s_callV1_v1 dX11_readLine_183 rfl lkV_RX11_290 (S_102 hK) (Nat.le_of_ble_eq_true rfl) (Nat.le_of_ble_eq_true rfl) (Nat.le_of_ble_eq_true rfl) (ct_x11_wrong hK) (fun I78 => ?_)
                        exact sm_exit (fun f h => h)
                      · skip
                        refine s_aload_n 0 dX11_readLine_174 rfl rfl ?_
                        refine s_callV0_v2 dX11_readLine_175 rfl lkV_RX11_446 (S_102 hK) (Nat.le_of_ble_eq_true rfl) (Nat.le_of_ble_eq_true rfl) (Nat.le_of_ble_eq_true rfl) (ct_x11_readBite hK) (fun I79 L80 => ?_)
                        refine s_goto (tgt := 186) dX11_readLine_178 rfl ?_
                        exact sm_exit (fun f h => h)
                  · skip
                    refine s_aload_n 0 dX11_readLine_143 rfl rfl ?_
                    refine s_getZ dX11_readLine_144 rfl fl_11_415 (S_102 hK) ?_
                    refine s_if_ne (tgt := 157) dX11_readLine_147 rfl rfl (fun _ => ?_) (fun _ => ?_)
                    · skip
                      refine s_aload_n 0 dX11_readLine_157 rfl rfl ?_
                      refine s_ldc2 (v := 1651078245) dX11_readLine_158 rfl kl_11_271c ?_
                      refine s_callV1_i0 dX11_readLine_161 rfl lkV_RX11_283 (S_102 hK) (Nat.le_of_ble_eq_true rfl) (Nat.le_of_ble_eq_true rfl) (Nat.le_of_ble_eq_true rfl) (ct_x11_isWord hK) (fun r81 => ?_)
                      refine s_if_eq (tgt := 181) dX11_readLine_164 rfl rfl (fun _ => ?_) (fun _ => ?_)
                      · skip
                        refine s_aload_n 0 dX11_readLine_181 rfl rfl ?_
                        refine s_iconst (v := 2) dX11_readLine_182 rfl cI_2 ?_
                        refine s_callV1_v1 dX11_readLine_183 rfl lkV_RX11_290 (S_102 hK) (Nat.le_of_ble_eq_true rfl) (Nat.le_of_ble_eq_true rfl) (Nat.le_of_ble_eq_true rfl) (ct_x11_wrong hK) (fun I82 => ?_)
                        exact sm_exit (fun f h => h)
                      · skip
                        refine s_aload_n 0 dX11_readLine_167 rfl rfl ?_
                        refine s_getZ dX11_readLine_168 rfl fl_11_422 (S_102 hK) ?_
                        refine s_if_ne (tgt := 181) dX11_readLine_171 rfl rfl (fun _ => ?_) (fun _ => ?_)
                        · skip
                          refine s_aload_n 0 dX11_readLine_181 rfl rfl ?_
                          refine s_iconst (v := 2) dX11_readLine_182 rfl cI_2 ?_
                          refine s_callV1_v1 dX11_readLine_183 rfl lkV_RX11_290 (S_102 hK) (Nat.le_of_ble_eq_true rfl) (Nat.le_of_ble_eq_true rfl) (Nat.le_of_ble_eq_true rfl) (ct_x11_wrong hK) (fun I83 => ?_)
                          exact sm_exit (fun f h => h)
                        · skip
                          refine s_aload_n 0 dX11_readLine_174 rfl rfl ?_
                          refine s_callV0_v2 dX11_readLine_175 rfl lkV_RX11_446 (S_102 hK) (Nat.le_of_ble_eq_true rfl) (Nat.le_of_ble_eq_true rfl) (Nat.le_of_ble_eq_true rfl) (ct_x11_readBite hK) (fun I84 L85 => ?_)
                          refine s_goto (tgt := 186) dX11_readLine_178 rfl ?_
                          exact sm_exit (fun f h => h)
                    · skip
                      refine s_aload_n 0 dX11_readLine_150 rfl rfl ?_
                      refine s_callV0_v2 dX11_readLine_151 rfl lkV_RX11_443 (S_102 hK) (Nat.le_of_ble_eq_true rfl) (Nat.le_of_ble_eq_true rfl) (Nat.le_of_ble_eq_true rfl) (ct_x11_readDraw hK) (fun I86 L87 => ?_)
                      refine s_goto (tgt := 186) dX11_readLine_154 rfl ?_
                      exact sm_exit (fun f h => h)
                · skip
                  refine s_aload_n 0 dX11_readLine_118 rfl rfl ?_
                  refine s_getI dX11_readLine_119 rfl fl_11_409 (S_102 hK) ?_
                  refine s_iconst (v := 4) dX11_readLine_122 rfl cI_4 ?_
                  refine s_icmp_ge (tgt := 133) dX11_readLine_123 rfl rfl (fun _ => ?_) (fun _ => ?_)
                  · skip
                    refine s_aload_n 0 dX11_readLine_133 rfl rfl ?_
                    refine s_ldc2 (v := 1685217655) dX11_readLine_134 rfl kl_11_261c ?_
                    refine s_callV1_i0 dX11_readLine_137 rfl lkV_RX11_283 (S_102 hK) (Nat.le_of_ble_eq_true rfl) (Nat.le_of_ble_eq_true rfl) (Nat.le_of_ble_eq_true rfl) (ct_x11_isWord hK) (fun r88 => ?_)
                    refine s_if_eq (tgt := 157) dX11_readLine_140 rfl rfl (fun _ => ?_) (fun _ => ?_)
                    · skip
                      refine s_aload_n 0 dX11_readLine_157 rfl rfl ?_
                      refine s_ldc2 (v := 1651078245) dX11_readLine_158 rfl kl_11_271c ?_
                      refine s_callV1_i0 dX11_readLine_161 rfl lkV_RX11_283 (S_102 hK) (Nat.le_of_ble_eq_true rfl) (Nat.le_of_ble_eq_true rfl) (Nat.le_of_ble_eq_true rfl) (ct_x11_isWord hK) (fun r89 => ?_)
                      refine s_if_eq (tgt := 181) dX11_readLine_164 rfl rfl (fun _ => ?_) (fun _ => ?_)
                      · skip
                        refine s_aload_n 0 dX11_readLine_181 rfl rfl ?_
                        refine s_iconst (v := 2) dX11_readLine_182 rfl cI_2 ?_
                        refine s_callV1_v1 dX11_readLine_183 rfl lkV_RX11_290 (S_102 hK) (Nat.le_of_ble_eq_true rfl) (Nat.le_of_ble_eq_true rfl) (Nat.le_of_ble_eq_true rfl) (ct_x11_wrong hK) (fun I90 => ?_)
                        exact sm_exit (fun f h => h)
                      · skip
                        refine s_aload_n 0 dX11_readLine_167 rfl rfl ?_
                        refine s_getZ dX11_readLine_168 rfl fl_11_422 (S_102 hK) ?_
                        refine s_if_ne (tgt := 181) dX11_readLine_171 rfl rfl (fun _ => ?_) (fun _ => ?_)
                        · skip
                          refine s_aload_n 0 dX11_readLine_181 rfl rfl ?_
                          refine s_iconst (v := 2) dX11_readLine_182 rfl cI_2 ?_
                          refine s_callV1_v1 dX11_readLine_183 rfl lkV_RX11_290 (S_102 hK) (Nat.le_of_ble_eq_true rfl) (Nat.le_of_ble_eq_true rfl) (Nat.le_of_ble_eq_true rfl) (ct_x11_wrong hK) (fun I91 => ?_)
                          exact sm_exit (fun f h => h)
                        · skip
                          refine s_aload_n 0 dX11_readLine_174 rfl rfl ?_
                          refine s_callV0_v2 dX11_readLine_175 rfl lkV_RX11_446 (S_102 hK) (Nat.le_of_ble_eq_true rfl) (Nat.le_of_ble_eq_true rfl) (Nat.le_of_ble_eq_true rfl) (ct_x11_readBite hK) (fun I92 L93 => ?_)
                          refine s_goto (tgt := 186) dX11_readLine_178 rfl ?_
                          exact sm_exit (fun f h => h)
                    · skip
                      refine s_aload_n 0 dX11_readLine_143 rfl rfl ?_
                      refine s_getZ dX11_readLine_144 rfl fl_11_415 (S_102 hK) ?_
                      refine s_if_ne (tgt := 157) dX11_readLine_147 rfl rfl (fun _ => ?_) (fun _ => ?_)
                      · skip
                        refine s_aload_n 0 dX11_readLine_157 rfl rfl ?_
                        refine s_ldc2 (v := 1651078245) dX11_readLine_158 rfl kl_11_271c ?_
                        refine s_callV1_i0 dX11_readLine_161 rfl lkV_RX11_283 (S_102 hK) (Nat.le_of_ble_eq_true rfl) (Nat.le_of_ble_eq_true rfl) (Nat.le_of_ble_eq_true rfl) (ct_x11_isWord hK) (fun r94 => ?_)
                        refine s_if_eq (tgt := 181) dX11_readLine_164 rfl rfl (fun _ => ?_) (fun _ => ?_)
                        · skip
                          refine s_aload_n 0 dX11_readLine_181 rfl rfl ?_
                          refine s_iconst (v := 2) dX11_readLine_182 rfl cI_2 ?_
                          refine s_callV1_v1 dX11_readLine_183 rfl lkV_RX11_290 (S_102 hK) (Nat.le_of_ble_eq_true rfl) (Nat.le_of_ble_eq_true rfl) (Nat.le_of_ble_eq_true rfl) (ct_x11_wrong hK) (fun I95 => ?_)
                          exact sm_exit (fun f h => h)
                        · skip
                          refine s_aload_n 0 dX11_readLine_167 rfl rfl ?_
                          refine s_getZ dX11_readLine_168 rfl fl_11_422 (S_102 hK) ?_
                          refine s_if_ne (tgt := 181) dX11_readLine_171 rfl rfl (fun _ => ?_) (fun _ => ?_)
                          · skip
                            refine s_aload_n 0 dX11_readLine_181 rfl rfl ?_
                            refine s_iconst (v := 2) dX11_readLine_182 rfl cI_2 ?_
                            refine s_callV1_v1 dX11_readLine_183 rfl lkV_RX11_290 (S_102 hK) (Nat.le_of_ble_eq_true rfl) (Nat.le_of_ble_eq_true rfl) (Nat.le_of_ble_eq_true rfl) (ct_x11_wrong hK) (fun I96 => ?_)
                            exact sm_exit (fun f h => h)
                          · skip
                            refine s_aload_n 0 dX11_readLine_174 rfl rfl ?_
                            refine s_callV0_v2 dX11_readLine_175 rfl lkV_RX11_446 (S_102 hK) (Nat.le_of_ble_eq_true rfl) (Nat.le_of_ble_eq_true rfl) (Nat.le_of_ble_eq_true rfl) (ct_x11_readBite hK) (fun I97 L98 => ?_)
                            refine s_goto (tgt := 186) dX11_readLine_178 rfl ?_
                            exact sm_exit (fun f h => h)
                      · skip
                        refine s_aload_n 0 dX11_readLine_150 rfl rfl ?_
                        refine s_callV0_v2 dX11_readLine_151 rfl lkV_RX11_443 (S_102 hK) (Nat.le_of_ble_eq_true rfl) (Nat.le_of_ble_eq_true rfl) (Nat.le_of_ble_eq_true rfl) (ct_x11_readDraw hK) (fun I99 L100 => ?_)
                        refine s_goto (tgt := 186) dX11_readLine_154 rfl ?_
                        exact sm_exit (fun f h => h)
                  · skip
                    refine s_aload_n 0 dX11_readLine_126 rfl rfl ?_
                    refine s_callV0_v2 dX11_readLine_127 rfl lkV_RX11_440 (S_102 hK) (Nat.le_of_ble_eq_true rfl) (Nat.le_of_ble_eq_true rfl) (Nat.le_of_ble_eq_true rfl) (ct_x11_readBobber hK) (fun I101 L102 => ?_)
                    refine s_goto (tgt := 186) dX11_readLine_130 rfl ?_
                    exact sm_exit (fun f h => h)
              · skip
                refine s_aload_n 0 dX11_readLine_92 rfl rfl ?_
                refine s_getI dX11_readLine_93 rfl fl_11_400 (S_102 hK) ?_
                refine s_bipush (v := 10) dX11_readLine_96 rfl cB_10 ?_
                refine s_icmp_ge (tgt := 108) dX11_readLine_98 rfl rfl (fun _ => ?_) (fun _ => ?_)
                · skip
                  refine s_aload_n 0 dX11_readLine_108 rfl rfl ?_
                  refine s_ldc2 (v := 108230531507570) dX11_readLine_109 rfl kl_11_253c ?_
                  refine s_callV1_i0 dX11_readLine_112 rfl lkV_RX11_283 (S_102 hK) (Nat.le_of_ble_eq_true rfl) (Nat.le_of_ble_eq_true rfl) (Nat.le_of_ble_eq_true rfl) (ct_x11_isWord hK) (fun r103 => ?_)
                  refine s_if_eq (tgt := 133) dX11_readLine_115 rfl rfl (fun _ => ?_) (fun _ => ?_)
                  · skip
                    refine s_aload_n 0 dX11_readLine_133 rfl rfl ?_
                    refine s_ldc2 (v := 1685217655) dX11_readLine_134 rfl kl_11_261c ?_
                    refine s_callV1_i0 dX11_readLine_137 rfl lkV_RX11_283 (S_102 hK) (Nat.le_of_ble_eq_true rfl) (Nat.le_of_ble_eq_true rfl) (Nat.le_of_ble_eq_true rfl) (ct_x11_isWord hK) (fun r104 => ?_)
                    refine s_if_eq (tgt := 157) dX11_readLine_140 rfl rfl (fun _ => ?_) (fun _ => ?_)
                    · skip
                      refine s_aload_n 0 dX11_readLine_157 rfl rfl ?_
                      refine s_ldc2 (v := 1651078245) dX11_readLine_158 rfl kl_11_271c ?_
                      refine s_callV1_i0 dX11_readLine_161 rfl lkV_RX11_283 (S_102 hK) (Nat.le_of_ble_eq_true rfl) (Nat.le_of_ble_eq_true rfl) (Nat.le_of_ble_eq_true rfl) (ct_x11_isWord hK) (fun r105 => ?_)
                      refine s_if_eq (tgt := 181) dX11_readLine_164 rfl rfl (fun _ => ?_) (fun _ => ?_)
                      · skip
                        refine s_aload_n 0 dX11_readLine_181 rfl rfl ?_
                        refine s_iconst (v := 2) dX11_readLine_182 rfl cI_2 ?_
                        refine s_callV1_v1 dX11_readLine_183 rfl lkV_RX11_290 (S_102 hK) (Nat.le_of_ble_eq_true rfl) (Nat.le_of_ble_eq_true rfl) (Nat.le_of_ble_eq_true rfl) (ct_x11_wrong hK) (fun I106 => ?_)
                        exact sm_exit (fun f h => h)
                      · skip
                        refine s_aload_n 0 dX11_readLine_167 rfl rfl ?_
                        refine s_getZ dX11_readLine_168 rfl fl_11_422 (S_102 hK) ?_
                        refine s_if_ne (tgt := 181) dX11_readLine_171 rfl rfl (fun _ => ?_) (fun _ => ?_)
                        · skip
                          refine s_aload_n 0 dX11_readLine_181 rfl rfl ?_
                          refine s_iconst (v := 2) dX11_readLine_182 rfl cI_2 ?_
                          refine s_callV1_v1 dX11_readLine_183 rfl lkV_RX11_290 (S_102 hK) (Nat.le_of_ble_eq_true rfl) (Nat.le_of_ble_eq_true rfl) (Nat.le_of_ble_eq_true rfl) (ct_x11_wrong hK) (fun I107 => ?_)
                          exact sm_exit (fun f h => h)
                        · skip
                          refine s_aload_n 0 dX11_readLine_174 rfl rfl ?_
                          refine s_callV0_v2 dX11_readLine_175 rfl lkV_RX11_446 (S_102 hK) (Nat.le_of_ble_eq_true rfl) (Nat.le_of_ble_eq_true rfl) (Nat.le_of_ble_eq_true rfl) (ct_x11_readBite hK) (fun I108 L109 => ?_)
                          refine s_goto (tgt := 186) dX11_readLine_178 rfl ?_
                          exact sm_exit (fun f h => h)
                    · skip
                      refine s_aload_n 0 dX11_readLine_143 rfl rfl ?_
                      refine s_getZ dX11_readLine_144 rfl fl_11_415 (S_102 hK) ?_
                      refine s_if_ne (tgt := 157) dX11_readLine_147 rfl rfl (fun _ => ?_) (fun _ => ?_)
                      · skip
                        refine s_aload_n 0 dX11_readLine_157 rfl rfl ?_
                        refine s_ldc2 (v := 1651078245) dX11_readLine_158 rfl kl_11_271c ?_
                        refine s_callV1_i0 dX11_readLine_161 rfl lkV_RX11_283 (S_102 hK) (Nat.le_of_ble_eq_true rfl) (Nat.le_of_ble_eq_true rfl) (Nat.le_of_ble_eq_true rfl) (ct_x11_isWord hK) (fun r110 => ?_)
                        refine s_if_eq (tgt := 181) dX11_readLine_164 rfl rfl (fun _ => ?_) (fun _ => ?_)
                        · skip
                          refine s_aload_n 0 dX11_readLine_181 rfl rfl ?_
                          refine s_iconst (v := 2) dX11_readLine_182 rfl cI_2 ?_
                          refine s_callV1_v1 dX11_readLine_183 rfl lkV_RX11_290 (S_102 hK) (Nat.le_of_ble_eq_true rfl) (Nat.le_of_ble_eq_true rfl) (Nat.le_of_ble_eq_true rfl) (ct_x11_wrong hK) (fun I111 => ?_)
                          exact sm_exit (fun f h => h)
                        · skip
                          refine s_aload_n 0 dX11_readLine_167 rfl rfl ?_
                          refine s_getZ dX11_readLine_168 rfl fl_11_422 (S_102 hK) ?_
                          refine s_if_ne (tgt := 181) dX11_readLine_171 rfl rfl (fun _ => ?_) (fun _ => ?_)
                          · skip
                            refine s_aload_n 0 dX11_readLine_181 rfl rfl ?_
                            refine s_iconst (v := 2) dX11_readLine_182 rfl cI_2 ?_
                            refine s_callV1_v1 dX11_readLine_183 rfl lkV_RX11_290 (S_102 hK) (Nat.le_of_ble_eq_true rfl) (Nat.le_of_ble_eq_true rfl) (Nat.le_of_ble_eq_true rfl) (ct_x11_wrong hK) (fun I112 => ?_)
                            exact sm_exit (fun f h => h)
                          · skip
                            refine s_aload_n 0 dX11_readLine_174 rfl rfl ?_
                            refine s_callV0_v2 dX11_readLine_175 rfl lkV_RX11_446 (S_102 hK) (Nat.le_of_ble_eq_true rfl) (Nat.le_of_ble_eq_true rfl) (Nat.le_of_ble_eq_true rfl) (ct_x11_readBite hK) (fun I113 L114 => ?_)
                            refine s_goto (tgt := 186) dX11_readLine_178 rfl ?_
                            exact sm_exit (fun f h => h)
                      · skip
                        refine s_aload_n 0 dX11_readLine_150 rfl rfl ?_
                        refine s_callV0_v2 dX11_readLine_151 rfl lkV_RX11_443 (S_102 hK) (Nat.le_of_ble_eq_true rfl) (Nat.le_of_ble_eq_true rfl) (Nat.le_of_ble_eq_true rfl) (ct_x11_readDraw hK) (fun I115 L116 => ?_)
                        refine s_goto (tgt := 186) dX11_readLine_154 rfl ?_
                        exact sm_exit (fun f h => h)
                  · skip
                    refine s_aload_n 0 dX11_readLine_118 rfl rfl ?_
                    refine s_getI dX11_readLine_119 rfl fl_11_409 (S_102 hK) ?_
                    refine s_iconst (v := 4) dX11_readLine_122 rfl cI_4 ?_
                    refine s_icmp_ge (tgt := 133) dX11_readLine_123 rfl rfl (fun _ => ?_) (fun _ => ?_)
                    · skip
                      refine s_aload_n 0 dX11_readLine_133 rfl rfl ?_
                      refine s_ldc2 (v := 1685217655) dX11_readLine_134 rfl kl_11_261c ?_
                      refine s_callV1_i0 dX11_readLine_137 rfl lkV_RX11_283 (S_102 hK) (Nat.le_of_ble_eq_true rfl) (Nat.le_of_ble_eq_true rfl) (Nat.le_of_ble_eq_true rfl) (ct_x11_isWord hK) (fun r117 => ?_)
                      refine s_if_eq (tgt := 157) dX11_readLine_140 rfl rfl (fun _ => ?_) (fun _ => ?_)
                      · skip
                        refine s_aload_n 0 dX11_readLine_157 rfl rfl ?_
                        refine s_ldc2 (v := 1651078245) dX11_readLine_158 rfl kl_11_271c ?_
                        refine s_callV1_i0 dX11_readLine_161 rfl lkV_RX11_283 (S_102 hK) (Nat.le_of_ble_eq_true rfl) (Nat.le_of_ble_eq_true rfl) (Nat.le_of_ble_eq_true rfl) (ct_x11_isWord hK) (fun r118 => ?_)
                        refine s_if_eq (tgt := 181) dX11_readLine_164 rfl rfl (fun _ => ?_) (fun _ => ?_)
                        · skip
                          refine s_aload_n 0 dX11_readLine_181 rfl rfl ?_
                          refine s_iconst (v := 2) dX11_readLine_182 rfl cI_2 ?_
                          refine s_callV1_v1 dX11_readLine_183 rfl lkV_RX11_290 (S_102 hK) (Nat.le_of_ble_eq_true rfl) (Nat.le_of_ble_eq_true rfl) (Nat.le_of_ble_eq_true rfl) (ct_x11_wrong hK) (fun I119 => ?_)
                          exact sm_exit (fun f h => h)
                        · skip
                          refine s_aload_n 0 dX11_readLine_167 rfl rfl ?_
                          refine s_getZ dX11_readLine_168 rfl fl_11_422 (S_102 hK) ?_
                          refine s_if_ne (tgt := 181) dX11_readLine_171 rfl rfl (fun _ => ?_) (fun _ => ?_)
                          · skip
                            refine s_aload_n 0 dX11_readLine_181 rfl rfl ?_
                            refine s_iconst (v := 2) dX11_readLine_182 rfl cI_2 ?_
                            refine s_callV1_v1 dX11_readLine_183 rfl lkV_RX11_290 (S_102 hK) (Nat.le_of_ble_eq_true rfl) (Nat.le_of_ble_eq_true rfl) (Nat.le_of_ble_eq_true rfl) (ct_x11_wrong hK) (fun I120 => ?_)
                            exact sm_exit (fun f h => h)
                          · skip
                            refine s_aload_n 0 dX11_readLine_174 rfl rfl ?_
                            refine s_callV0_v2 dX11_readLine_175 rfl lkV_RX11_446 (S_102 hK) (Nat.le_of_ble_eq_true rfl) (Nat.le_of_ble_eq_true rfl) (Nat.le_of_ble_eq_true rfl) (ct_x11_readBite hK) (fun I121 L122 => ?_)
                            refine s_goto (tgt := 186) dX11_readLine_178 rfl ?_
                            exact sm_exit (fun f h => h)
                      · skip
                        refine s_aload_n 0 dX11_readLine_143 rfl rfl ?_
                        refine s_getZ dX11_readLine_144 rfl fl_11_415 (S_102 hK) ?_
                        refine s_if_ne (tgt := 157) dX11_readLine_147 rfl rfl (fun _ => ?_) (fun _ => ?_)
                        · skip
                          refine s_aload_n 0 dX11_readLine_157 rfl rfl ?_
                          refine s_ldc2 (v := 1651078245) dX11_readLine_158 rfl kl_11_271c ?_
                          refine s_callV1_i0 dX11_readLine_161 rfl lkV_RX11_283 (S_102 hK) (Nat.le_of_ble_eq_true rfl) (Nat.le_of_ble_eq_true rfl) (Nat.le_of_ble_eq_true rfl) (ct_x11_isWord hK) (fun r123 => ?_)
                          refine s_if_eq (tgt := 181) dX11_readLine_164 rfl rfl (fun _ => ?_) (fun _ => ?_)
                          · skip
                            refine s_aload_n 0 dX11_readLine_181 rfl rfl ?_
                            refine s_iconst (v := 2) dX11_readLine_182 rfl cI_2 ?_
                            refine s_callV1_v1 dX11_readLine_183 rfl lkV_RX11_290 (S_102 hK) (Nat.le_of_ble_eq_true rfl) (Nat.le_of_ble_eq_true rfl) (Nat.le_of_ble_eq_true rfl) (ct_x11_wrong hK) (fun I124 => ?_)
                            exact sm_exit (fun f h => h)
                          · skip
                            refine s_aload_n 0 dX11_readLine_167 rfl rfl ?_
                            refine s_getZ dX11_readLine_168 rfl fl_11_422 (S_102 hK) ?_
                            refine s_if_ne (tgt := 181) dX11_readLine_171 rfl rfl (fun _ => ?_) (fun _ => ?_)
                            · skip
                              refine s_aload_n 0 dX11_readLine_181 rfl rfl ?_
                              refine s_iconst (v := 2) dX11_readLine_182 rfl cI_2 ?_
                              refine s_callV1_v1 dX11_readLine_183 rfl lkV_RX11_290 (S_102 hK) (Nat.le_of_ble_eq_true rfl) (Nat.le_of_ble_eq_true rfl) (Nat.le_of_ble_eq_true rfl) (ct_x11_wrong hK) (fun I125 => ?_)
                              exact sm_exit (fun f h => h)
                            · skip
                              refine s_aload_n 0 dX11_readLine_174 rfl rfl ?_
                              refine s_callV0_v2 dX11_readLine_175 rfl lkV_RX11_446 (S_102 hK) (Nat.le_of_ble_eq_true rfl) (Nat.le_of_ble_eq_true rfl) (Nat.le_of_ble_eq_true rfl) (ct_x11_readBite hK) (fun I126 L127 => ?_)
                              refine s_goto (tgt := 186) dX11_readLine_178 rfl ?_
                              exact sm_exit (fun f h => h)
                        · skip
                          refine s_aload_n 0 dX11_readLine_150 rfl rfl ?_
                          refine s_callV0_v2 dX11_readLine_151 rfl lkV_RX11_443 (S_102 hK) (Nat.le_of_ble_eq_true rfl) (Nat.le_of_ble_eq_true rfl) (Nat.le_of_ble_eq_true rfl) (ct_x11_readDraw hK) (fun I128 L129 => ?_)
                          refine s_goto (tgt := 186) dX11_readLine_154 rfl ?_
                          exact sm_exit (fun f h => h)
                    · skip
                      refine s_aload_n 0 dX11_readLine_126 rfl rfl ?_
                      refine s_callV0_v2 dX11_readLine_127 rfl lkV_RX11_440 (S_102 hK) (Nat.le_of_ble_eq_true rfl) (Nat.le_of_ble_eq_true rfl) (Nat.le_of_ble_eq_true rfl) (ct_x11_readBobber hK) (fun I130 L131 => ?_)
                      refine s_goto (tgt := 186) dX11_readLine_130 rfl ?_
                      exact sm_exit (fun f h => h)
                · skip
                  refine s_aload_n 0 dX11_readLine_101 rfl rfl ?_
                  refine s_callV0_v2 dX11_readLine_102 rfl lkV_RX11_437 (S_102 hK) (Nat.le_of_ble_eq_true rfl) (Nat.le_of_ble_eq_true rfl) (Nat.le_of_ble_eq_true rfl) (ct_x11_readApple hK) (fun I132 L133 => ?_)
                  refine s_goto (tgt := 186) dX11_readLine_105 rfl ?_
                  exact sm_exit (fun f h => h)
            · skip
              refine s_aload_n 0 dX11_readLine_75 rfl rfl ?_
              refine s_callV0_v2 dX11_readLine_76 rfl lkV_RX11_434 (S_102 hK) (Nat.le_of_ble_eq_true rfl) (Nat.le_of_ble_eq_true rfl) (Nat.le_of_ble_eq_true rfl) (ct_x11_readRule hK) (fun I134 L135 => ?_)
              refine s_goto (tgt := 186) dX11_readLine_79 rfl ?_
              exact sm_exit (fun f h => h)
        · skip
          refine s_aload_n 0 dX11_readLine_49 rfl rfl ?_
          refine s_callV0_v2 dX11_readLine_50 rfl lkV_RX11_431 (S_102 hK) (Nat.le_of_ble_eq_true rfl) (Nat.le_of_ble_eq_true rfl) (Nat.le_of_ble_eq_true rfl) (ct_x11_readOdds hK) (fun I136 L137 => ?_)
          refine s_goto (tgt := 186) dX11_readLine_53 rfl ?_
          exact sm_exit (fun f h => h)
      · skip
        refine s_aload_n 0 dX11_readLine_31 rfl rfl ?_
        refine s_iconst (v := 2) dX11_readLine_32 rfl cI_2 ?_
        refine s_callV1_v1 dX11_readLine_33 rfl lkV_RX11_290 (S_102 hK) (Nat.le_of_ble_eq_true rfl) (Nat.le_of_ble_eq_true rfl) (Nat.le_of_ble_eq_true rfl) (ct_x11_wrong hK) (fun I138 => ?_)
        refine s_goto (tgt := 186) dX11_readLine_36 rfl ?_
        exact sm_exit (fun f h => h)
    · skip
      refine s_aload_n 0 dX11_readLine_186 rfl rfl ?_
      refine s_getI dX11_readLine_187 rfl fl_11_224 (S_102 hK) ?_
      refine sm_reg (pcx := 207) (lsx := fun e139 => [(0, .ref (X.1 + 102))]) (stx := fun e139 => []) (ux := fun e139 => (e139, e9.2, R, S)) ?_ (fun e139 => ?_)
      · skip
        refine s_if_ne (tgt := 207) dX11_readLine_190 rfl rfl (fun _ => ?_) (fun _ => ?_)
        · skip
          exact sm_exit (fun f h => h)
        · skip
          refine s_aload_n 0 dX11_readLine_193 rfl rfl ?_
          refine s_getI dX11_readLine_194 rfl fl_11_211 (S_102 hK) ?_
          refine s_bipush (v := 59) dX11_readLine_197 rfl cB_59 ?_
          refine s_icmp_eq (tgt := 207) dX11_readLine_199 rfl rfl (fun _ => ?_) (fun _ => ?_)
          · skip
            exact sm_exit (fun f h => h)
          · skip
            refine s_aload_n 0 dX11_readLine_202 rfl rfl ?_
            refine s_iconst (v := 2) dX11_readLine_203 rfl cI_2 ?_
            refine s_callV1_v1 dX11_readLine_204 rfl lkV_RX11_290 (S_102 hK) (Nat.le_of_ble_eq_true rfl) (Nat.le_of_ble_eq_true rfl) (Nat.le_of_ble_eq_true rfl) (ct_x11_wrong hK) (fun I140 => ?_)
            exact sm_exit (fun f h => h)
      · skip
        refine s_aload_n 0 dX11_readLine_207 rfl rfl ?_
        refine s_getI dX11_readLine_208 rfl fl_11_224 (S_102 hK) ?_
        refine s_if_ne (tgt := 218) dX11_readLine_211 rfl rfl (fun _ => ?_) (fun _ => ?_)
        · skip
          exact s_vret dX11_readLine_218 rfl (fun f h => h)
        · skip
          refine s_aload_n 0 dX11_readLine_214 rfl rfl ?_
          refine s_callV0_v2 dX11_readLine_215 rfl lkV_RX11_287 (S_102 hK) (Nat.le_of_ble_eq_true rfl) (Nat.le_of_ble_eq_true rfl) (Nat.le_of_ble_eq_true rfl) (ct_x11_token hK) (fun I141 L142 => ?_)
          exact s_vret dX11_readLine_218 rfl (fun f h => h)
