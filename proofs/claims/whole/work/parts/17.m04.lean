noncomputable def x11_readBy (I : MI) (L : ML) : Option (MI × ML) :=
b1 (x11_isName I L) fun r1 =>
b1 (
if r1 = 0 then (
b1 (x11_wrong (2 : Int32) I) fun I5 =>
some I5) else
b1 (x11_find (0 : Int32) (I 102 52) I L) fun r3 =>
if r3 < 0 then (
b1 (x11_wrong (5 : Int32) I) fun I4 =>
some I4) else
some I) fun e2 =>
if 0 < (e2 102 2) then (
some (e2, L)) else
b1 (x11_find (0 : Int32) (e2 102 52) e2 L) fun r6 =>
ck (vp_in (e2 102 54) 4) <|
lt (wI e2 123 (ix (e2 102 54)) r6) fun I7 =>
b2 (x11_token I7 L) fun I9 L10 =>
some (I9, L10)
theorem ct_x11_readBy {X : WX} {I : MI} {L : ML} {R : MR} {S : MS} (hK : okm R S) : Ct X yX11_readBy cX11_readBy 1 none 2 43 [.ref (X.1 + 102)] (I, L, R, S) (x11_readBy I L) (fun r => (none, (r.1, r.2, R, S))) := by
  refine Ct.of (by decide) (Nat.le_of_ble_eq_true rfl) [(0, .ref (X.1 + 102))] rfl ?_
  unfold x11_readBy
  refine s_aload_n 0 dX11_readBy_0 rfl rfl ?_
  refine s_callV0_i0 dX11_readBy_1 rfl lkV_RX11_372 (S_102 hK) (Nat.le_of_ble_eq_true rfl) (Nat.le_of_ble_eq_true rfl) (Nat.le_of_ble_eq_true rfl) (ct_x11_isName hK) (fun r1 => ?_)
  refine sm_reg (pcx := 32) (lsx := fun e2 => [(0, .ref (X.1 + 102))]) (stx := fun e2 => []) (ux := fun e2 => (e2, L, R, S)) ?_ (fun e2 => ?_)
  · skip
    refine s_if_ne (tgt := 15) dX11_readBy_4 rfl rfl (fun _ => ?_) (fun _ => ?_)
    · skip
      refine s_aload_n 0 dX11_readBy_15 rfl rfl ?_
      refine s_iconst (v := 0) dX11_readBy_16 rfl cI_0 ?_
      refine s_aload_n 0 dX11_readBy_17 rfl rfl ?_
      refine s_getI dX11_readBy_18 rfl fl_11_394 (S_102 hK) ?_
      refine s_callV2_i0 dX11_readBy_21 rfl lkV_RX11_375 (S_102 hK) (Nat.le_of_ble_eq_true rfl) (Nat.le_of_ble_eq_true rfl) (Nat.le_of_ble_eq_true rfl) (ct_x11_find hK) (fun r3 => ?_)
      refine s_if_ge (tgt := 32) dX11_readBy_24 rfl rfl (fun _ => ?_) (fun _ => ?_)
      · skip
        exact sm_exit (fun f h => h)
      · skip
        refine s_aload_n 0 dX11_readBy_27 rfl rfl ?_
        refine s_iconst (v := 5) dX11_readBy_28 rfl cI_5 ?_
        refine s_callV1_v1 dX11_readBy_29 rfl lkV_RX11_290 (S_102 hK) (Nat.le_of_ble_eq_true rfl) (Nat.le_of_ble_eq_true rfl) (Nat.le_of_ble_eq_true rfl) (ct_x11_wrong hK) (fun I4 => ?_)
        exact sm_exit (fun f h => h)
    · skip
      refine s_aload_n 0 dX11_readBy_7 rfl rfl ?_
      refine s_iconst (v := 2) dX11_readBy_8 rfl cI_2 ?_
      refine s_callV1_v1 dX11_readBy_9 rfl lkV_RX11_290 (S_102 hK) (Nat.le_of_ble_eq_true rfl) (Nat.le_of_ble_eq_true rfl) (Nat.le_of_ble_eq_true rfl) (ct_x11_wrong hK) (fun I5 => ?_)
      refine s_goto (tgt := 32) dX11_readBy_12 rfl ?_
      exact sm_exit (fun f h => h)
  · skip
    refine s_aload_n 0 dX11_readBy_32 rfl rfl ?_
    refine s_getI dX11_readBy_33 rfl fl_11_224 (S_102 hK) ?_
    refine s_if_le (tgt := 40) dX11_readBy_36 rfl rfl (fun _ => ?_) (fun _ => ?_)
    · skip
      refine s_aload_n 0 dX11_readBy_40 rfl rfl ?_
      refine s_getR 123 dX11_readBy_41 rfl fl_11_75 rfl (S_102 hK) (R_102_35 hK) ?_
      refine s_aload_n 0 dX11_readBy_44 rfl rfl ?_
      refine s_getI dX11_readBy_45 rfl fl_11_409 (S_102 hK) ?_
      refine s_aload_n 0 dX11_readBy_48 rfl rfl ?_
      refine s_iconst (v := 0) dX11_readBy_49 rfl cI_0 ?_
      refine s_aload_n 0 dX11_readBy_50 rfl rfl ?_
      refine s_getI dX11_readBy_51 rfl fl_11_394 (S_102 hK) ?_
      refine s_callV2_i0 dX11_readBy_54 rfl lkV_RX11_375 (S_102 hK) (Nat.le_of_ble_eq_true rfl) (Nat.le_of_ble_eq_true rfl) (Nat.le_of_ble_eq_true rfl) (ct_x11_find hK) (fun r6 => ?_)
      refine sm_ck (fun g8 => ?_)
      refine s_iastL dX11_readBy_57 rfl (S_123 hK) g8 (fun I7 => ?_)
      refine s_aload_n 0 dX11_readBy_58 rfl rfl ?_
      refine s_callV0_v2 dX11_readBy_59 rfl lkV_RX11_287 (S_102 hK) (Nat.le_of_ble_eq_true rfl) (Nat.le_of_ble_eq_true rfl) (Nat.le_of_ble_eq_true rfl) (ct_x11_token hK) (fun I9 L10 => ?_)
      exact s_vret dX11_readBy_62 rfl (fun f h => h)
    · skip
      exact s_vret dX11_readBy_39 rfl (fun f h => h)
noncomputable def x11_readBobber (I : MI) (L : ML) : Option (MI × ML) :=
b2 (x11_newName (16 : Int32) (I 102 54) I L) fun I1 L2 =>
b2 (x11_want (24948 : Int64) I1 L2) fun I3 L4 =>
b3 (x11_toldNumber (0 : Int32) ((I3 102 49) - 1) I3 L4) fun r5 I6 L7 =>
ck (vp_in (I3 102 54) 4) <|
lt (wI I6 118 (ix (I3 102 54)) r5) fun I8 =>
b3 (x11_toldNumber (0 : Int32) ((I8 102 50) - 1) I8 L7) fun r10 I11 L12 =>
ck (vp_in (I8 102 54) 4) <|
lt (wI I11 119 (ix (I8 102 54)) r10) fun I13 =>
b3 (x11_told (491327153000 : Int64) (0 : Int32) (5 : Int32) I13 L12) fun r15 I16 L17 =>
ck (vp_in (I13 102 54) 4) <|
lt (wI I16 120 (ix (I13 102 54)) r15) fun I18 =>
b3 (x11_told (108243466679400 : Int64) (0 : Int32) (20 : Int32) I18 L17) fun r20 I21 L22 =>
ck (vp_in (I18 102 54) 4) <|
lt (wI I21 121 (ix (I18 102 54)) r20) fun I23 =>
b3 (x11_told (470021403752 : Int64) (0 : Int32) (9 : Int32) I23 L22) fun r25 I26 L27 =>
ck (vp_in (I23 102 54) 4) <|
lt (wI I26 122 (ix (I23 102 54)) r25) fun I28 =>
ck (vp_in (I28 102 54) 4) <|
lt (wI I28 123 (ix (I28 102 54)) (0 : Int32)) fun I30 =>
b3 (x11_takes (25209 : Int64) I30 L27) fun r32 I33 L34 =>
b1 (
if r32 = 0 then (
some (I33, L34)) else
b2 (x11_readBy I33 L34) fun I36 L37 =>
some (I36, L37)) fun e35 =>
if (e35.1 102 2) = 0 then (
lt (wI e35.1 102 54 ((e35.1 102 54) + 1)) fun I38 =>
some (I38, e35.2)) else
some (e35.1, e35.2)
theorem ct_x11_readBobber {X : WX} {I : MI} {L : ML} {R : MR} {S : MS} (hK : okm R S) : Ct X yX11_readBobber cX11_readBobber 1 none 4 90 [.ref (X.1 + 102)] (I, L, R, S) (x11_readBobber I L) (fun r => (none, (r.1, r.2, R, S))) := by
  refine Ct.of (by decide) (Nat.le_of_ble_eq_true rfl) [(0, .ref (X.1 + 102))] rfl ?_
  unfold x11_readBobber
  refine s_aload_n 0 dX11_readBobber_0 rfl rfl ?_
  refine s_bipush (v := 16) dX11_readBobber_1 rfl cB_16 ?_
  refine s_aload_n 0 dX11_readBobber_3 rfl rfl ?_
  refine s_getI dX11_readBobber_4 rfl fl_11_409 (S_102 hK) ?_
  refine s_callV2_v2 dX11_readBobber_7 rfl lkV_RX11_397 (S_102 hK) (Nat.le_of_ble_eq_true rfl) (Nat.le_of_ble_eq_true rfl) (Nat.le_of_ble_eq_true rfl) (ct_x11_newName hK) (fun I1 L2 => ?_)
  refine s_aload_n 0 dX11_readBobber_10 rfl rfl ?_
  refine s_ldc2 (v := 24948) dX11_readBobber_11 rfl kl_11_245c ?_
  refine s_callV1_v2 dX11_readBobber_14 rfl lkV_RX11_293 (S_102 hK) (Nat.le_of_ble_eq_true rfl) (Nat.le_of_ble_eq_true rfl) (Nat.le_of_ble_eq_true rfl) (ct_x11_want hK) (fun I3 L4 => ?_)
  refine s_aload_n 0 dX11_readBobber_17 rfl rfl ?_
  refine s_getR 118 dX11_readBobber_18 rfl fl_11_60 rfl (S_102 hK) (R_102_30 hK) ?_
  refine s_aload_n 0 dX11_readBobber_21 rfl rfl ?_
  refine s_getI dX11_readBobber_22 rfl fl_11_409 (S_102 hK) ?_
  refine s_aload_n 0 dX11_readBobber_25 rfl rfl ?_
  refine s_iconst (v := 0) dX11_readBobber_26 rfl cI_0 ?_
  refine s_aload_n 0 dX11_readBobber_27 rfl rfl ?_
  refine s_getI dX11_readBobber_28 rfl fl_11_382 (S_102 hK) ?_
  refine s_iconst (v := 1) dX11_readBobber_31 rfl cI_1 ?_
  refine s_isub dX11_readBobber_32 rfl ?_
  refine s_callV2_i2 dX11_readBobber_33 rfl lkV_RX11_297 (S_102 hK) (Nat.le_of_ble_eq_true rfl) (Nat.le_of_ble_eq_true rfl) (Nat.le_of_ble_eq_true rfl) (ct_x11_toldNumber hK) (fun r5 I6 L7 => ?_)
  refine sm_ck (fun g9 => ?_)
  refine s_iastL dX11_readBobber_36 rfl (S_118 hK) g9 (fun I8 => ?_)
  refine s_aload_n 0 dX11_readBobber_37 rfl rfl ?_
  refine s_getR 119 dX11_readBobber_38 rfl fl_11_63 rfl (S_102 hK) (R_102_31 hK) ?_
  refine s_aload_n 0 dX11_readBobber_41 rfl rfl ?_
  refine s_getI dX11_readBobber_42 rfl fl_11_409 (S_102 hK) ?_
  refine s_aload_n 0 dX11_readBobber_45 rfl rfl ?_
  refine s_iconst (v := 0) dX11_readBobber_46 rfl cI_0 ?_
  refine s_aload_n 0 dX11_readBobber_47 rfl rfl ?_
  refine s_getI dX11_readBobber_48 rfl fl_11_385 (S_102 hK) ?_
  refine s_iconst (v := 1) dX11_readBobber_51 rfl cI_1 ?_
  refine s_isub dX11_readBobber_52 rfl ?_
  refine s_callV2_i2 dX11_readBobber_53 rfl lkV_RX11_297 (S_102 hK) (Nat.le_of_ble_eq_true rfl) (Nat.le_of_ble_eq_true rfl) (Nat.le_of_ble_eq_true rfl) (ct_x11_toldNumber hK) (fun r10 I11 L12 => ?_)
  refine sm_ck (fun g14 => ?_)
  refine s_iastL dX11_readBobber_56 rfl (S_119 hK) g14 (fun I13 => ?_)
  refine s_aload_n 0 dX11_readBobber_57 rfl rfl ?_
  refine s_getR 120 dX11_readBobber_58 rfl fl_11_66 rfl (S_102 hK) (R_102_32 hK) ?_
  refine s_aload_n 0 dX11_readBobber_61 rfl rfl ?_
  refine s_getI dX11_readBobber_62 rfl fl_11_409 (S_102 hK) ?_
  refine s_aload_n 0 dX11_readBobber_65 rfl rfl ?_
  refine s_ldc2 (v := 491327153000) dX11_readBobber_66 rfl kl_11_255c ?_
  refine s_iconst (v := 0) dX11_readBobber_69 rfl cI_0 ?_
  refine s_iconst (v := 5) dX11_readBobber_70 rfl cI_5 ?_
  refine s_callV3_i2 dX11_readBobber_71 rfl lkV_RX11_378 (S_102 hK) (Nat.le_of_ble_eq_true rfl) (Nat.le_of_ble_eq_true rfl) (Nat.le_of_ble_eq_true rfl) (ct_x11_told hK) (fun r15 I16 L17 => ?_)
  refine sm_ck (fun g19 => ?_)
  refine s_iastL dX11_readBobber_74 rfl (S_120 hK) g19 (fun I18 => ?_)
  refine s_aload_n 0 dX11_readBobber_75 rfl rfl ?_
  refine s_getR 121 dX11_readBobber_76 rfl fl_11_69 rfl (S_102 hK) (R_102_33 hK) ?_
  refine s_aload_n 0 dX11_readBobber_79 rfl rfl ?_
  refine s_getI dX11_readBobber_80 rfl fl_11_409 (S_102 hK) ?_
  refine s_aload_n 0 dX11_readBobber_83 rfl rfl ?_
  refine s_ldc2 (v := 108243466679400) dX11_readBobber_84 rfl kl_11_257c ?_
  refine s_iconst (v := 0) dX11_readBobber_87 rfl cI_0 ?_
  refine s_bipush (v := 20) dX11_readBobber_88 rfl cB_20 ?_
  refine s_callV3_i2 dX11_readBobber_90 rfl lkV_RX11_378 (S_102 hK) (Nat.le_of_ble_eq_true rfl) (Nat.le_of_ble_eq_true rfl) (Nat.le_of_ble_eq_true rfl) (ct_x11_told hK) (fun r20 I21 L22 => ?_)
  refine sm_ck (fun g24 => ?_)
  refine s_iastL dX11_readBobber_93 rfl (S_121 hK) g24 (fun I23 => ?_)
  refine s_aload_n 0 dX11_readBobber_94 rfl rfl ?_
  refine s_getR 122 dX11_readBobber_95 rfl fl_11_72 rfl (S_102 hK) (R_102_34 hK) ?_
  refine s_aload_n 0 dX11_readBobber_98 rfl rfl ?_
  refine s_getI dX11_readBobber_99 rfl fl_11_409 (S_102 hK) ?_
  refine s_aload_n 0 dX11_readBobber_102 rfl rfl ?_
  refine s_ldc2 (v := 470021403752) dX11_readBobber_103 rfl kl_11_259c ?_
  refine s_iconst (v := 0) dX11_readBobber_106 rfl cI_0 ?_
  refine s_bipush (v := 9) dX11_readBobber_107 rfl cB_9 ?_
  refine s_callV3_i2 dX11_readBobber_109 rfl lkV_RX11_378 (S_102 hK) (Nat.le_of_ble_eq_true rfl) (Nat.le_of_ble_eq_true rfl) (Nat.le_of_ble_eq_true rfl) (ct_x11_told hK) (fun r25 I26 L27 => ?_)
  refine sm_ck (fun g29 => ?_)
  refine s_iastL dX11_readBobber_112 rfl (S_122 hK) g29 (fun I28 => ?_)
  refine s_aload_n 0 dX11_readBobber_113 rfl rfl ?_
  refine s_getR 123 dX11_readBobber_114 rfl fl_11_75 rfl (S_102 hK) (R_102_35 hK) ?_
  refine s_aload_n 0 dX11_readBobber_117 rfl rfl ?_
  refine s_getI dX11_readBobber_118 rfl fl_11_409 (S_102 hK) ?_
  refine s_iconst (v := 0) dX11_readBobber_121 rfl cI_0 ?_
  refine sm_ck (fun g31 => ?_)
  refine s_iastL dX11_readBobber_122 rfl (S_123 hK) g31 (fun I30 => ?_)
  refine s_aload_n 0 dX11_readBobber_123 rfl rfl ?_
  refine s_ldc2 (v := 25209) dX11_readBobber_124 rfl kl_11_229c ?_
  refine s_callV1_i2 dX11_readBobber_127 rfl lkV_RX11_406 (S_102 hK) (Nat.le_of_ble_eq_true rfl) (Nat.le_of_ble_eq_true rfl) (Nat.le_of_ble_eq_true rfl) (ct_x11_takes hK) (fun r32 I33 L34 => ?_)
  refine sm_reg (pcx := 137) (lsx := fun e35 => [(0, .ref (X.1 + 102))]) (stx := fun e35 => []) (ux := fun e35 => (e35.1, e35.2, R, S)) ?_ (fun e35 => ?_)
  · skip
    refine s_if_eq (tgt := 137) dX11_readBobber_130 rfl rfl (fun _ => ?_) (fun _ => ?_)
    · skip
      exact sm_exit (fun f h => h)
    · skip
      refine s_aload_n 0 dX11_readBobber_133 rfl rfl ?_
      refine s_callV0_v2 dX11_readBobber_134 rfl lkV_RX11_412 (S_102 hK) (Nat.le_of_ble_eq_true rfl) (Nat.le_of_ble_eq_true rfl) (Nat.le_of_ble_eq_true rfl) (ct_x11_readBy hK) (fun I36 L37 => ?_)
      exact sm_exit (fun f h => h)
  · skip
    refine s_aload_n 0 dX11_readBobber_137 rfl rfl ?_
    refine s_getI dX11_readBobber_138 rfl fl_11_224 (S_102 hK) ?_
    refine s_if_ne (tgt := 154) dX11_readBobber_141 rfl rfl (fun _ => ?_) (fun _ => ?_)
    · skip
      exact s_vret dX11_readBobber_154 rfl (fun f h => h)
    · skip
      refine s_aload_n 0 dX11_readBobber_144 rfl rfl ?_
      refine s_dup dX11_readBobber_145 rfl rfl ?_
      refine s_getI dX11_readBobber_146 rfl fl_11_409 (S_102 hK) ?_
      refine s_iconst (v := 1) dX11_readBobber_149 rfl cI_1 ?_
      refine s_iadd dX11_readBobber_150 rfl ?_
      refine s_putIL dX11_readBobber_151 rfl fl_11_409 (S_102 hK) (fun I38 => ?_)
      exact s_vret dX11_readBobber_154 rfl (fun f h => h)
noncomputable def x11_readDraw (I : MI) (L : ML) : Option (MI × ML) :=
lt (wI I 102 62 (1 : Int32)) fun I1 =>
b3 (x11_told (1685217655 : Int64) (0 : Int32) (999 : Int32) I1 L) fun r2 I3 L4 =>
lt (wI I3 102 55 r2) fun I5 =>
some (I5, L4)
theorem ct_x11_readDraw {X : WX} {I : MI} {L : ML} {R : MR} {S : MS} (hK : okm R S) : Ct X yX11_readDraw cX11_readDraw 1 none 4 90 [.ref (X.1 + 102)] (I, L, R, S) (x11_readDraw I L) (fun r => (none, (r.1, r.2, R, S))) := by
  refine Ct.of (by decide) (Nat.le_of_ble_eq_true rfl) [(0, .ref (X.1 + 102))] rfl ?_
  unfold x11_readDraw
  refine s_aload_n 0 dX11_readDraw_0 rfl rfl ?_
  refine s_iconst (v := 1) dX11_readDraw_1 rfl cI_1 ?_
  refine s_putZL dX11_readDraw_2 rfl fl_11_415 (S_102 hK) (Or.inr rfl) (fun I1 => ?_)
  refine s_aload_n 0 dX11_readDraw_5 rfl rfl ?_
  refine s_aload_n 0 dX11_readDraw_6 rfl rfl ?_
  refine s_ldc2 (v := 1685217655) dX11_readDraw_7 rfl kl_11_261c ?_
  refine s_iconst (v := 0) dX11_readDraw_10 rfl cI_0 ?_
  refine s_sipush (v := 999) dX11_readDraw_11 rfl cS_999 ?_
  refine s_callV3_i2 dX11_readDraw_14 rfl lkV_RX11_378 (S_102 hK) (Nat.le_of_ble_eq_true rfl) (Nat.le_of_ble_eq_true rfl) (Nat.le_of_ble_eq_true rfl) (ct_x11_told hK) (fun r2 I3 L4 => ?_)
  refine s_putIL dX11_readDraw_17 rfl fl_11_419 (S_102 hK) (fun I5 => ?_)
  exact s_vret dX11_readDraw_20 rfl (fun f h => h)
noncomputable def x11_readBite (I : MI) (L : ML) : Option (MI × ML) :=
lt (wI I 102 63 (1 : Int32)) fun I1 =>
b3 (x11_told (1651078245 : Int64) (0 : Int32) (9 : Int32) I1 L) fun r2 I3 L4 =>
lt (wI I3 102 64 r2) fun I5 =>
some (I5, L4)
theorem ct_x11_readBite {X : WX} {I : MI} {L : ML} {R : MR} {S : MS} (hK : okm R S) : Ct X yX11_readBite cX11_readBite 1 none 4 90 [.ref (X.1 + 102)] (I, L, R, S) (x11_readBite I L) (fun r => (none, (r.1, r.2, R, S))) := by
  refine Ct.of (by decide) (Nat.le_of_ble_eq_true rfl) [(0, .ref (X.1 + 102))] rfl ?_
  unfold x11_readBite
  refine s_aload_n 0 dX11_readBite_0 rfl rfl ?_
  refine s_iconst (v := 1) dX11_readBite_1 rfl cI_1 ?_
  refine s_putZL dX11_readBite_2 rfl fl_11_422 (S_102 hK) (Or.inr rfl) (fun I1 => ?_)
  refine s_aload_n 0 dX11_readBite_5 rfl rfl ?_
  refine s_aload_n 0 dX11_readBite_6 rfl rfl ?_
  refine s_ldc2 (v := 1651078245) dX11_readBite_7 rfl kl_11_271c ?_
  refine s_iconst (v := 0) dX11_readBite_10 rfl cI_0 ?_
  refine s_bipush (v := 9) dX11_readBite_11 rfl cB_9 ?_
  refine s_callV3_i2 dX11_readBite_13 rfl lkV_RX11_378 (S_102 hK) (Nat.le_of_ble_eq_true rfl) (Nat.le_of_ble_eq_true rfl) (Nat.le_of_ble_eq_true rfl) (ct_x11_told hK) (fun r2 I3 L4 => ?_)
  refine s_putIL dX11_readBite_16 rfl fl_11_425 (S_102 hK) (fun I5 => ?_)
  exact s_vret dX11_readBite_19 rfl (fun f h => h)
noncomputable def x11_readLine (I : MI) (L : ML) : Option (MI × ML) :=
b1 (x11_isWord (7632226 : Int64) I L) fun r1 =>
b1 (
if r1 = 0 then (
if (I 102 49) = 0 then (
b1 (x11_wrong (2 : Int32) I) fun I131 =>
some (I131, L)) else
b1 (x11_isWord (1868850291 : Int64) I L) fun r3 =>
if r3 = 0 then (
b1 (x11_isWord (1920298085 : Int64) I L) fun r4 =>
if r4 = 0 then (
b1 (x11_isWord (418498243685 : Int64) I L) fun r5 =>
if r5 = 0 then (
b1 (x11_isWord (108230531507570 : Int64) I L) fun r6 =>
if r6 = 0 then (
b1 (x11_isWord (1685217655 : Int64) I L) fun r7 =>
if r7 = 0 then (
b1 (x11_isWord (1651078245 : Int64) I L) fun r8 =>
if r8 = 0 then (
b1 (x11_wrong (2 : Int32) I) fun I9 =>
some (I9, L)) else
if (I 102 63) = 0 then (
b2 (x11_readBite I L) fun I11 L12 =>
some (I11, L12)) else
b1 (x11_wrong (2 : Int32) I) fun I10 =>
some (I10, L)) else
if (I 102 62) = 0 then (
b2 (x11_readDraw I L) fun I18 L19 =>
some (I18, L19)) else
b1 (x11_isWord (1651078245 : Int64) I L) fun r13 =>
if r13 = 0 then (
b1 (x11_wrong (2 : Int32) I) fun I14 =>
some (I14, L)) else
if (I 102 63) = 0 then (
b2 (x11_readBite I L) fun I16 L17 =>
some (I16, L17)) else
b1 (x11_wrong (2 : Int32) I) fun I15 =>
some (I15, L)) else
if (I 102 54) < 4 then (
b2 (x11_readBobber I L) fun I33 L34 =>
some (I33, L34)) else
b1 (x11_isWord (1685217655 : Int64) I L) fun r20 =>
if r20 = 0 then (
b1 (x11_isWord (1651078245 : Int64) I L) fun r21 =>
if r21 = 0 then (
b1 (x11_wrong (2 : Int32) I) fun I22 =>
some (I22, L)) else
if (I 102 63) = 0 then (
b2 (x11_readBite I L) fun I24 L25 =>
some (I24, L25)) else
b1 (x11_wrong (2 : Int32) I) fun I23 =>
some (I23, L)) else
if (I 102 62) = 0 then (
b2 (x11_readDraw I L) fun I31 L32 =>
some (I31, L32)) else
b1 (x11_isWord (1651078245 : Int64) I L) fun r26 =>
if r26 = 0 then (
b1 (x11_wrong (2 : Int32) I) fun I27 =>
some (I27, L)) else
if (I 102 63) = 0 then (
b2 (x11_readBite I L) fun I29 L30 =>
some (I29, L30)) else
b1 (x11_wrong (2 : Int32) I) fun I28 =>
some (I28, L)) else
if (I 102 53) < 10 then (
b2 (x11_readApple I L) fun I64 L65 =>
some (I64, L65)) else
b1 (x11_isWord (108230531507570 : Int64) I L) fun r35 =>
if r35 = 0 then (
b1 (x11_isWord (1685217655 : Int64) I L) fun r36 =>
if r36 = 0 then (
b1 (x11_isWord (1651078245 : Int64) I L) fun r37 =>
if r37 = 0 then (
b1 (x11_wrong (2 : Int32) I) fun I38 =>
some (I38, L)) else
if (I 102 63) = 0 then (
b2 (x11_readBite I L) fun I40 L41 =>
some (I40, L41)) else
b1 (x11_wrong (2 : Int32) I) fun I39 =>
some (I39, L)) else
if (I 102 62) = 0 then (
b2 (x11_readDraw I L) fun I47 L48 =>
some (I47, L48)) else
b1 (x11_isWord (1651078245 : Int64) I L) fun r42 =>
if r42 = 0 then (
b1 (x11_wrong (2 : Int32) I) fun I43 =>
some (I43, L)) else
if (I 102 63) = 0 then (
b2 (x11_readBite I L) fun I45 L46 =>
some (I45, L46)) else
b1 (x11_wrong (2 : Int32) I) fun I44 =>
some (I44, L)) else
if (I 102 54) < 4 then (
b2 (x11_readBobber I L) fun I62 L63 =>
some (I62, L63)) else
b1 (x11_isWord (1685217655 : Int64) I L) fun r49 =>
if r49 = 0 then (
b1 (x11_isWord (1651078245 : Int64) I L) fun r50 =>
if r50 = 0 then (
b1 (x11_wrong (2 : Int32) I) fun I51 =>
some (I51, L)) else
if (I 102 63) = 0 then (
b2 (x11_readBite I L) fun I53 L54 =>
some (I53, L54)) else
b1 (x11_wrong (2 : Int32) I) fun I52 =>
some (I52, L)) else
if (I 102 62) = 0 then (
b2 (x11_readDraw I L) fun I60 L61 =>
some (I60, L61)) else
b1 (x11_isWord (1651078245 : Int64) I L) fun r55 =>
if r55 = 0 then (
b1 (x11_wrong (2 : Int32) I) fun I56 =>
some (I56, L)) else
if (I 102 63) = 0 then (
b2 (x11_readBite I L) fun I58 L59 =>
some (I58, L59)) else
b1 (x11_wrong (2 : Int32) I) fun I57 =>
some (I57, L)) else
if (I 102 52) < 6 then (
b2 (x11_readRule I L) fun I127 L128 =>
some (I127, L128)) else
b1 (x11_isWord (418498243685 : Int64) I L) fun r66 =>
if r66 = 0 then (
b1 (x11_isWord (108230531507570 : Int64) I L) fun r67 =>
if r67 = 0 then (
b1 (x11_isWord (1685217655 : Int64) I L) fun r68 =>
if r68 = 0 then (
b1 (x11_isWord (1651078245 : Int64) I L) fun r69 =>
if r69 = 0 then (
b1 (x11_wrong (2 : Int32) I) fun I70 =>
some (I70, L)) else
if (I 102 63) = 0 then (
b2 (x11_readBite I L) fun I72 L73 =>
some (I72, L73)) else
b1 (x11_wrong (2 : Int32) I) fun I71 =>
some (I71, L)) else
if (I 102 62) = 0 then (
b2 (x11_readDraw I L) fun I79 L80 =>
some (I79, L80)) else
b1 (x11_isWord (1651078245 : Int64) I L) fun r74 =>
if r74 = 0 then (
b1 (x11_wrong (2 : Int32) I) fun I75 =>
some (I75, L)) else
if (I 102 63) = 0 then (
b2 (x11_readBite I L) fun I77 L78 =>
some (I77, L78)) else
b1 (x11_wrong (2 : Int32) I) fun I76 =>
some (I76, L)) else
if (I 102 54) < 4 then (
b2 (x11_readBobber I L) fun I94 L95 =>
some (I94, L95)) else
b1 (x11_isWord (1685217655 : Int64) I L) fun r81 =>
if r81 = 0 then (
b1 (x11_isWord (1651078245 : Int64) I L) fun r82 =>
if r82 = 0 then (
b1 (x11_wrong (2 : Int32) I) fun I83 =>
some (I83, L)) else
if (I 102 63) = 0 then (
b2 (x11_readBite I L) fun I85 L86 =>
some (I85, L86)) else
b1 (x11_wrong (2 : Int32) I) fun I84 =>
some (I84, L)) else
if (I 102 62) = 0 then (
b2 (x11_readDraw I L) fun I92 L93 =>
some (I92, L93)) else
b1 (x11_isWord (1651078245 : Int64) I L) fun r87 =>
if r87 = 0 then (
b1 (x11_wrong (2 : Int32) I) fun I88 =>
some (I88, L)) else
if (I 102 63) = 0 then (
b2 (x11_readBite I L) fun I90 L91 =>
some (I90, L91)) else
b1 (x11_wrong (2 : Int32) I) fun I89 =>
some (I89, L)) else
if (I 102 53) < 10 then (
b2 (x11_readApple I L) fun I125 L126 =>
some (I125, L126)) else
b1 (x11_isWord (108230531507570 : Int64) I L) fun r96 =>
if r96 = 0 then (
b1 (x11_isWord (1685217655 : Int64) I L) fun r97 =>
if r97 = 0 then (
b1 (x11_isWord (1651078245 : Int64) I L) fun r98 =>
if r98 = 0 then (
b1 (x11_wrong (2 : Int32) I) fun I99 =>
some (I99, L)) else
if (I 102 63) = 0 then (
b2 (x11_readBite I L) fun I101 L102 =>
some (I101, L102)) else
b1 (x11_wrong (2 : Int32) I) fun I100 =>
some (I100, L)) else
if (I 102 62) = 0 then (
b2 (x11_readDraw I L) fun I108 L109 =>
some (I108, L109)) else
b1 (x11_isWord (1651078245 : Int64) I L) fun r103 =>
if r103 = 0 then (
b1 (x11_wrong (2 : Int32) I) fun I104 =>
some (I104, L)) else
if (I 102 63) = 0 then (
b2 (x11_readBite I L) fun I106 L107 =>
some (I106, L107)) else
b1 (x11_wrong (2 : Int32) I) fun I105 =>
some (I105, L)) else
if (I 102 54) < 4 then (
b2 (x11_readBobber I L) fun I123 L124 =>
some (I123, L124)) else
b1 (x11_isWord (1685217655 : Int64) I L) fun r110 =>
if r110 = 0 then (
b1 (x11_isWord (1651078245 : Int64) I L) fun r111 =>
if r111 = 0 then (
b1 (x11_wrong (2 : Int32) I) fun I112 =>
some (I112, L)) else
if (I 102 63) = 0 then (
b2 (x11_readBite I L) fun I114 L115 =>
some (I114, L115)) else
b1 (x11_wrong (2 : Int32) I) fun I113 =>
some (I113, L)) else
if (I 102 62) = 0 then (
b2 (x11_readDraw I L) fun I121 L122 =>
some (I121, L122)) else
b1 (x11_isWord (1651078245 : Int64) I L) fun r116 =>
if r116 = 0 then (
b1 (x11_wrong (2 : Int32) I) fun I117 =>
some (I117, L)) else
if (I 102 63) = 0 then (
b2 (x11_readBite I L) fun I119 L120 =>
some (I119, L120)) else
b1 (x11_wrong (2 : Int32) I) fun I118 =>
some (I118, L)) else
b2 (x11_readOdds I L) fun I129 L130 =>
some (I129, L130)) else
if (I 102 49) = 0 then (
b2 (x11_readTub I L) fun I261 L262 =>
some (I261, L262)) else
if (I 102 49) = 0 then (
b1 (x11_wrong (2 : Int32) I) fun I260 =>
some (I260, L)) else
b1 (x11_isWord (1868850291 : Int64) I L) fun r132 =>
if r132 = 0 then (
b1 (x11_isWord (1920298085 : Int64) I L) fun r133 =>
if r133 = 0 then (
b1 (x11_isWord (418498243685 : Int64) I L) fun r134 =>
if r134 = 0 then (
b1 (x11_isWord (108230531507570 : Int64) I L) fun r135 =>
if r135 = 0 then (
b1 (x11_isWord (1685217655 : Int64) I L) fun r136 =>
if r136 = 0 then (
b1 (x11_isWord (1651078245 : Int64) I L) fun r137 =>
if r137 = 0 then (
b1 (x11_wrong (2 : Int32) I) fun I138 =>
some (I138, L)) else
if (I 102 63) = 0 then (
b2 (x11_readBite I L) fun I140 L141 =>
some (I140, L141)) else
b1 (x11_wrong (2 : Int32) I) fun I139 =>
some (I139, L)) else
if (I 102 62) = 0 then (
b2 (x11_readDraw I L) fun I147 L148 =>
some (I147, L148)) else
b1 (x11_isWord (1651078245 : Int64) I L) fun r142 =>
if r142 = 0 then (
b1 (x11_wrong (2 : Int32) I) fun I143 =>
some (I143, L)) else
if (I 102 63) = 0 then (
b2 (x11_readBite I L) fun I145 L146 =>
some (I145, L146)) else
b1 (x11_wrong (2 : Int32) I) fun I144 =>
some (I144, L)) else
if (I 102 54) < 4 then (
b2 (x11_readBobber I L) fun I162 L163 =>
some (I162, L163)) else
b1 (x11_isWord (1685217655 : Int64) I L) fun r149 =>
if r149 = 0 then (
b1 (x11_isWord (1651078245 : Int64) I L) fun r150 =>
if r150 = 0 then (
b1 (x11_wrong (2 : Int32) I) fun I151 =>
some (I151, L)) else
if (I 102 63) = 0 then (
b2 (x11_readBite I L) fun I153 L154 =>
some (I153, L154)) else
b1 (x11_wrong (2 : Int32) I) fun I152 =>
some (I152, L)) else
if (I 102 62) = 0 then (
b2 (x11_readDraw I L) fun I160 L161 =>
some (I160, L161)) else
b1 (x11_isWord (1651078245 : Int64) I L) fun r155 =>
if r155 = 0 then (
b1 (x11_wrong (2 : Int32) I) fun I156 =>
some (I156, L)) else
if (I 102 63) = 0 then (
b2 (x11_readBite I L) fun I158 L159 =>
some (I158, L159)) else
b1 (x11_wrong (2 : Int32) I) fun I157 =>
some (I157, L)) else
if (I 102 53) < 10 then (
b2 (x11_readApple I L) fun I193 L194 =>
some (I193, L194)) else
b1 (x11_isWord (108230531507570 : Int64) I L) fun r164 =>
if r164 = 0 then (
b1 (x11_isWord (1685217655 : Int64) I L) fun r165 =>
if r165 = 0 then (
b1 (x11_isWord (1651078245 : Int64) I L) fun r166 =>
if r166 = 0 then (
b1 (x11_wrong (2 : Int32) I) fun I167 =>
some (I167, L)) else
if (I 102 63) = 0 then (
b2 (x11_readBite I L) fun I169 L170 =>
some (I169, L170)) else
b1 (x11_wrong (2 : Int32) I) fun I168 =>
some (I168, L)) else
if (I 102 62) = 0 then (
b2 (x11_readDraw I L) fun I176 L177 =>
some (I176, L177)) else
b1 (x11_isWord (1651078245 : Int64) I L) fun r171 =>
if r171 = 0 then (
b1 (x11_wrong (2 : Int32) I) fun I172 =>
some (I172, L)) else
if (I 102 63) = 0 then (
b2 (x11_readBite I L) fun I174 L175 =>
some (I174, L175)) else
b1 (x11_wrong (2 : Int32) I) fun I173 =>
some (I173, L)) else
if (I 102 54) < 4 then (
b2 (x11_readBobber I L) fun I191 L192 =>
some (I191, L192)) else
b1 (x11_isWord (1685217655 : Int64) I L) fun r178 =>
if r178 = 0 then (
b1 (x11_isWord (1651078245 : Int64) I L) fun r179 =>
if r179 = 0 then (
b1 (x11_wrong (2 : Int32) I) fun I180 =>
some (I180, L)) else
if (I 102 63) = 0 then (
b2 (x11_readBite I L) fun I182 L183 =>
some (I182, L183)) else
b1 (x11_wrong (2 : Int32) I) fun I181 =>
some (I181, L)) else
if (I 102 62) = 0 then (
b2 (x11_readDraw I L) fun I189 L190 =>
some (I189, L190)) else
b1 (x11_isWord (1651078245 : Int64) I L) fun r184 =>
if r184 = 0 then (
b1 (x11_wrong (2 : Int32) I) fun I185 =>
some (I185, L)) else
if (I 102 63) = 0 then (
b2 (x11_readBite I L) fun I187 L188 =>
some (I187, L188)) else
b1 (x11_wrong (2 : Int32) I) fun I186 =>
some (I186, L)) else
if (I 102 52) < 6 then (
b2 (x11_readRule I L) fun I256 L257 =>
some (I256, L257)) else
b1 (x11_isWord (418498243685 : Int64) I L) fun r195 =>
if r195 = 0 then (
b1 (x11_isWord (108230531507570 : Int64) I L) fun r196 =>
if r196 = 0 then (
b1 (x11_isWord (1685217655 : Int64) I L) fun r197 =>
if r197 = 0 then (
b1 (x11_isWord (1651078245 : Int64) I L) fun r198 =>
if r198 = 0 then (
b1 (x11_wrong (2 : Int32) I) fun I199 =>
some (I199, L)) else
if (I 102 63) = 0 then (
b2 (x11_readBite I L) fun I201 L202 =>
some (I201, L202)) else
b1 (x11_wrong (2 : Int32) I) fun I200 =>
some (I200, L)) else
if (I 102 62) = 0 then (
b2 (x11_readDraw I L) fun I208 L209 =>
some (I208, L209)) else
b1 (x11_isWord (1651078245 : Int64) I L) fun r203 =>
if r203 = 0 then (
b1 (x11_wrong (2 : Int32) I) fun I204 =>
some (I204, L)) else
if (I 102 63) = 0 then (
b2 (x11_readBite I L) fun I206 L207 =>
some (I206, L207)) else
b1 (x11_wrong (2 : Int32) I) fun I205 =>
some (I205, L)) else
if (I 102 54) < 4 then (
b2 (x11_readBobber I L) fun I223 L224 =>
some (I223, L224)) else
b1 (x11_isWord (1685217655 : Int64) I L) fun r210 =>
if r210 = 0 then (
b1 (x11_isWord (1651078245 : Int64) I L) fun r211 =>
if r211 = 0 then (
b1 (x11_wrong (2 : Int32) I) fun I212 =>
some (I212, L)) else
if (I 102 63) = 0 then (
b2 (x11_readBite I L) fun I214 L215 =>
some (I214, L215)) else
b1 (x11_wrong (2 : Int32) I) fun I213 =>
some (I213, L)) else
if (I 102 62) = 0 then (
b2 (x11_readDraw I L) fun I221 L222 =>
some (I221, L222)) else
b1 (x11_isWord (1651078245 : Int64) I L) fun r216 =>
if r216 = 0 then (
b1 (x11_wrong (2 : Int32) I) fun I217 =>
some (I217, L)) else
if (I 102 63) = 0 then (
b2 (x11_readBite I L) fun I219 L220 =>
some (I219, L220)) else
b1 (x11_wrong (2 : Int32) I) fun I218 =>
some (I218, L)) else
if (I 102 53) < 10 then (
b2 (x11_readApple I L) fun I254 L255 =>
some (I254, L255)) else
b1 (x11_isWord (108230531507570 : Int64) I L) fun r225 =>
if r225 = 0 then (
b1 (x11_isWord (1685217655 : Int64) I L) fun r226 =>
if r226 = 0 then (
b1 (x11_isWord (1651078245 : Int64) I L) fun r227 =>
if r227 = 0 then (
b1 (x11_wrong (2 : Int32) I) fun I228 =>
some (I228, L)) else
if (I 102 63) = 0 then (
b2 (x11_readBite I L) fun I230 L231 =>
some (I230, L231)) else
b1 (x11_wrong (2 : Int32) I) fun I229 =>
some (I229, L)) else
if (I 102 62) = 0 then (
b2 (x11_readDraw I L) fun I237 L238 =>
some (I237, L238)) else
b1 (x11_isWord (1651078245 : Int64) I L) fun r232 =>
if r232 = 0 then (
b1 (x11_wrong (2 : Int32) I) fun I233 =>
some (I233, L)) else
if (I 102 63) = 0 then (
b2 (x11_readBite I L) fun I235 L236 =>
some (I235, L236)) else
b1 (x11_wrong (2 : Int32) I) fun I234 =>
some (I234, L)) else
if (I 102 54) < 4 then (
b2 (x11_readBobber I L) fun I252 L253 =>
some (I252, L253)) else
b1 (x11_isWord (1685217655 : Int64) I L) fun r239 =>
if r239 = 0 then (
b1 (x11_isWord (1651078245 : Int64) I L) fun r240 =>
if r240 = 0 then (
b1 (x11_wrong (2 : Int32) I) fun I241 =>
some (I241, L)) else
if (I 102 63) = 0 then (
b2 (x11_readBite I L) fun I243 L244 =>
some (I243, L244)) else
b1 (x11_wrong (2 : Int32) I) fun I242 =>
some (I242, L)) else
if (I 102 62) = 0 then (
b2 (x11_readDraw I L) fun I250 L251 =>
some (I250, L251)) else
b1 (x11_isWord (1651078245 : Int64) I L) fun r245 =>
if r245 = 0 then (
b1 (x11_wrong (2 : Int32) I) fun I246 =>
some (I246, L)) else
if (I 102 63) = 0 then (
b2 (x11_readBite I L) fun I248 L249 =>
some (I248, L249)) else
b1 (x11_wrong (2 : Int32) I) fun I247 =>
some (I247, L)) else
b2 (x11_readOdds I L) fun I258 L259 =>
some (I258, L259)) fun e2 =>
b1 (
if (e2.1 102 2) = 0 then (
if (e2.1 102 6) = 59 then (
some e2.1) else
b1 (x11_wrong (2 : Int32) e2.1) fun I264 =>
some I264) else
some e2.1) fun e263 =>
if (e263 102 2) = 0 then (
b2 (x11_token e263 e2.2) fun I265 L266 =>
some (I265, L266)) else
some (e263, e2.2)
theorem ct_x11_readLine {X : WX} {I : MI} {L : ML} {R : MR} {S : MS} (hK : okm R S) : Ct X yX11_readLine cX11_readLine 1 none 6 130 [.ref (X.1 + 102)] (I, L, R, S) (x11_readLine I L) (fun r => (none, (r.1, r.2, R, S))) := by
  refine Ct.of (by decide) (Nat.le_of_ble_eq_true rfl) [(0, .ref (X.1 + 102))] rfl ?_
  unfold x11_readLine
  refine s_aload_n 0 dX11_readLine_0 rfl rfl ?_
  refine s_ldc2 (v := 7632226) dX11_readLine_1 rfl kl_11_227c ?_
  refine s_callV1_i0 dX11_readLine_4 rfl lkV_RX11_283 (S_102 hK) (Nat.le_of_ble_eq_true rfl) (Nat.le_of_ble_eq_true rfl) (Nat.le_of_ble_eq_true rfl) (ct_x11_isWord hK) (fun r1 => ?_)
  refine sm_reg (pcx := 186) (lsx := fun e2 => [(0, .ref (X.1 + 102))]) (stx := fun e2 => []) (ux := fun e2 => (e2.1, e2.2, R, S)) ?_ (fun e2 => ?_)
  · skip
    refine s_if_eq (tgt := 24) dX11_readLine_7 rfl rfl (fun _ => ?_) (fun _ => ?_)
    · skip
      refine s_aload_n 0 dX11_readLine_24 rfl rfl ?_
      refine s_getI dX11_readLine_25 rfl fl_11_382 (S_102 hK) ?_
      refine s_if_ne (tgt := 39) dX11_readLine_28 rfl rfl (fun _ => ?_) (fun _ => ?_)
      · skip
        refine s_aload_n 0 dX11_readLine_39 rfl rfl ?_
        refine s_ldc2 (v := 1868850291) dX11_readLine_40 rfl kl_11_231c ?_
        refine s_callV1_i0 dX11_readLine_43 rfl lkV_RX11_283 (S_102 hK) (Nat.le_of_ble_eq_true rfl) (Nat.le_of_ble_eq_true rfl) (Nat.le_of_ble_eq_true rfl) (ct_x11_isWord hK) (fun r3 => ?_)
        refine s_if_eq (tgt := 56) dX11_readLine_46 rfl rfl (fun _ => ?_) (fun _ => ?_)
        · skip
          refine s_aload_n 0 dX11_readLine_56 rfl rfl ?_
          refine s_ldc2 (v := 1920298085) dX11_readLine_57 rfl kl_11_241c ?_
          refine s_callV1_i0 dX11_readLine_60 rfl lkV_RX11_283 (S_102 hK) (Nat.le_of_ble_eq_true rfl) (Nat.le_of_ble_eq_true rfl) (Nat.le_of_ble_eq_true rfl) (ct_x11_isWord hK) (fun r4 => ?_)
          refine s_if_eq (tgt := 82) dX11_readLine_63 rfl rfl (fun _ => ?_) (fun _ => ?_)
          · skip
            refine s_aload_n 0 dX11_readLine_82 rfl rfl ?_
            refine s_ldc2 (v := 418498243685) dX11_readLine_83 rfl kl_11_243c ?_
            refine s_callV1_i0 dX11_readLine_86 rfl lkV_RX11_283 (S_102 hK) (Nat.le_of_ble_eq_true rfl) (Nat.le_of_ble_eq_true rfl) (Nat.le_of_ble_eq_true rfl) (ct_x11_isWord hK) (fun r5 => ?_)
            refine s_if_eq (tgt := 108) dX11_readLine_89 rfl rfl (fun _ => ?_) (fun _ => ?_)
            · skip
              refine s_aload_n 0 dX11_readLine_108 rfl rfl ?_
              refine s_ldc2 (v := 108230531507570) dX11_readLine_109 rfl kl_11_253c ?_
              refine s_callV1_i0 dX11_readLine_112 rfl lkV_RX11_283 (S_102 hK) (Nat.le_of_ble_eq_true rfl) (Nat.le_of_ble_eq_true rfl) (Nat.le_of_ble_eq_true rfl) (ct_x11_isWord hK) (fun r6 => ?_)
              refine s_if_eq (tgt := 133) dX11_readLine_115 rfl rfl (fun _ => ?_) (fun _ => ?_)
              · skip
                refine s_aload_n 0 dX11_readLine_133 rfl rfl ?_
                refine s_ldc2 (v := 1685217655) dX11_readLine_134 rfl kl_11_261c ?_
                refine s_callV1_i0 dX11_readLine_137 rfl lkV_RX11_283 (S_102 hK) (Nat.le_of_ble_eq_true rfl) (Nat.le_of_ble_eq_true rfl) (Nat.le_of_ble_eq_true rfl) (ct_x11_isWord hK) (fun r7 => ?_)
                refine s_if_eq (tgt := 157) dX11_readLine_140 rfl rfl (fun _ => ?_) (fun _ => ?_)
                · skip
                  refine s_aload_n 0 dX11_readLine_157 rfl rfl ?_
                  refine s_ldc2 (v := 1651078245) dX11_readLine_158 rfl kl_11_271c ?_
                  refine s_callV1_i0 dX11_readLine_161 rfl lkV_RX11_283 (S_102 hK) (Nat.le_of_ble_eq_true rfl) (Nat.le_of_ble_eq_true rfl) (Nat.le_of_ble_eq_true rfl) (ct_x11_isWord hK) (fun r8 => ?_)
                  refine s_if_eq (tgt := 181) dX11_readLine_164 rfl rfl (fun _ => ?_) (fun _ => ?_)
                  · skip
                    refine s_aload_n 0 dX11_readLine_181 rfl rfl ?_
                    refine s_iconst (v := 2) dX11_readLine_182 rfl cI_2 ?_
                    refine s_callV1_v1 dX11_readLine_183 rfl lkV_RX11_290 (S_102 hK) (Nat.le_of_ble_eq_true rfl) (Nat.le_of_ble_eq_true rfl) (Nat.le_of_ble_eq_true rfl) (ct_x11_wrong hK) (fun I9 => ?_)
                    exact sm_exit (fun f h => h)
                  · skip
                    refine s_aload_n 0 dX11_readLine_167 rfl rfl ?_
                    refine s_getZ dX11_readLine_168 rfl fl_11_422 (S_102 hK) ?_
                    refine s_if_ne (tgt := 181) dX11_readLine_171 rfl rfl (fun _ => ?_) (fun _ => ?_)
                    · skip
                      refine s_aload_n 0 dX11_readLine_181 rfl rfl ?_
                      refine s_iconst (v := 2) dX11_readLine_182 rfl cI_2 ?_
                      refine s_callV1_v1 dX11_readLine_183 rfl lkV_RX11_290 (S_102 hK) (Nat.le_of_ble_eq_true rfl) (Nat.le_of_ble_eq_true rfl) (Nat.le_of_ble_eq_true rfl) (ct_x11_wrong hK) (fun I10 => ?_)
                      exact sm_exit (fun f h => h)
                    · skip
                      refine s_aload_n 0 dX11_readLine_174 rfl rfl ?_
                      refine s_callV0_v2 dX11_readLine_175 rfl lkV_RX11_446 (S_102 hK) (Nat.le_of_ble_eq_true rfl) (Nat.le_of_ble_eq_true rfl) (Nat.le_of_ble_eq_true rfl) (ct_x11_readBite hK) (fun I11 L12 => ?_)
                      refine s_goto (tgt := 186) dX11_readLine_178 rfl ?_
                      exact sm_exit (fun f h => h)
                · skip
                  refine s_aload_n 0 dX11_readLine_143 rfl rfl ?_
                  refine s_getZ dX11_readLine_144 rfl fl_11_415 (S_102 hK) ?_
                  refine s_if_ne (tgt := 157) dX11_readLine_147 rfl rfl (fun _ => ?_) (fun _ => ?_)
                  · skip
                    refine s_aload_n 0 dX11_readLine_157 rfl rfl ?_
                    refine s_ldc2 (v := 1651078245) dX11_readLine_158 rfl kl_11_271c ?_
                    refine s_callV1_i0 dX11_readLine_161 rfl lkV_RX11_283 (S_102 hK) (Nat.le_of_ble_eq_true rfl) (Nat.le_of_ble_eq_true rfl) (Nat.le_of_ble_eq_true rfl) (ct_x11_isWord hK) (fun r13 => ?_)
                    refine s_if_eq (tgt := 181) dX11_readLine_164 rfl rfl (fun _ => ?_) (fun _ => ?_)
                    · skip
                      refine s_aload_n 0 dX11_readLine_181 rfl rfl ?_
                      refine s_iconst (v := 2) dX11_readLine_182 rfl cI_2 ?_
                      refine s_callV1_v1 dX11_readLine_183 rfl lkV_RX11_290 (S_102 hK) (Nat.le_of_ble_eq_true rfl) (Nat.le_of_ble_eq_true rfl) (Nat.le_of_ble_eq_true rfl) (ct_x11_wrong hK) (fun I14 => ?_)
                      exact sm_exit (fun f h => h)
                    · skip
                      refine s_aload_n 0 dX11_readLine_167 rfl rfl ?_
                      refine s_getZ dX11_readLine_168 rfl fl_11_422 (S_102 hK) ?_
                      refine s_if_ne (tgt := 181) dX11_readLine_171 rfl rfl (fun _ => ?_) (fun _ => ?_)
                      · skip
                        refine s_aload_n 0 dX11_readLine_181 rfl rfl ?_
                        refine s_iconst (v := 2) dX11_readLine_182 rfl cI_2 ?_
                        refine s_callV1_v1 dX11_readLine_183 rfl lkV_RX11_290 (S_102 hK) (Nat.le_of_ble_eq_true rfl) (Nat.le_of_ble_eq_true rfl) (Nat.le_of_ble_eq_true rfl) (ct_x11_wrong hK) (fun I15 => ?_)
                        exact sm_exit (fun f h => h)
                      · skip
                        refine s_aload_n 0 dX11_readLine_174 rfl rfl ?_
                        refine s_callV0_v2 dX11_readLine_175 rfl lkV_RX11_446 (S_102 hK) (Nat.le_of_ble_eq_true rfl) (Nat.le_of_ble_eq_true rfl) (Nat.le_of_ble_eq_true rfl) (ct_x11_readBite hK) (fun I16 L17 => ?_)
                        refine s_goto (tgt := 186) dX11_readLine_178 rfl ?_
                        exact sm_exit (fun f h => h)
                  · skip
                    refine s_aload_n 0 dX11_readLine_150 rfl rfl ?_
                    refine s_callV0_v2 dX11_readLine_151 rfl lkV_RX11_443 (S_102 hK) (Nat.le_of_ble_eq_true rfl) (Nat.le_of_ble_eq_true rfl) (Nat.le_of_ble_eq_true rfl) (ct_x11_readDraw hK) (fun I18 L19 => ?_)
                    refine s_goto (tgt := 186) dX11_readLine_154 rfl ?_
                    exact sm_exit (fun f h => h)
              · skip
                refine s_aload_n 0 dX11_readLine_118 rfl rfl ?_
                refine s_getI dX11_readLine_119 rfl fl_11_409 (S_102 hK) ?_
                refine s_iconst (v := 4) dX11_readLine_122 rfl cI_4 ?_
                refine s_icmp_ge (tgt := 133) dX11_readLine_123 rfl rfl (fun _ => ?_) (fun _ => ?_)
                · skip
                  refine s_aload_n 0 dX11_readLine_133 rfl rfl ?_
                  refine s_ldc2 (v := 1685217655) dX11_readLine_134 rfl kl_11_261c ?_
                  refine s_callV1_i0 dX11_readLine_137 rfl lkV_RX11_283 (S_102 hK) (Nat.le_of_ble_eq_true rfl) (Nat.le_of_ble_eq_true rfl) (Nat.le_of_ble_eq_true rfl) (ct_x11_isWord hK) (fun r20 => ?_)
                  refine s_if_eq (tgt := 157) dX11_readLine_140 rfl rfl (fun _ => ?_) (fun _ => ?_)
                  · skip
                    refine s_aload_n 0 dX11_readLine_157 rfl rfl ?_
                    refine s_ldc2 (v := 1651078245) dX11_readLine_158 rfl kl_11_271c ?_
                    refine s_callV1_i0 dX11_readLine_161 rfl lkV_RX11_283 (S_102 hK) (Nat.le_of_ble_eq_true rfl) (Nat.le_of_ble_eq_true rfl) (Nat.le_of_ble_eq_true rfl) (ct_x11_isWord hK) (fun r21 => ?_)
                    refine s_if_eq (tgt := 181) dX11_readLine_164 rfl rfl (fun _ => ?_) (fun _ => ?_)
                    · skip
                      refine s_aload_n 0 dX11_readLine_181 rfl rfl ?_
                      refine s_iconst (v := 2) dX11_readLine_182 rfl cI_2 ?_
                      refine s_callV1_v1 dX11_readLine_183 rfl lkV_RX11_290 (S_102 hK) (Nat.le_of_ble_eq_true rfl) (Nat.le_of_ble_eq_true rfl) (Nat.le_of_ble_eq_true rfl) (ct_x11_wrong hK) (fun I22 => ?_)
                      exact sm_exit (fun f h => h)
                    · skip
                      refine s_aload_n 0 dX11_readLine_167 rfl rfl ?_
                      refine s_getZ dX11_readLine_168 rfl fl_11_422 (S_102 hK) ?_
                      refine s_if_ne (tgt := 181) dX11_readLine_171 rfl rfl (fun _ => ?_) (fun _ => ?_)
                      · skip
                        refine s_aload_n 0 dX11_readLine_181 rfl rfl ?_
                        refine s_iconst (v := 2) dX11_readLine_182 rfl cI_2 ?_
                        refine s_callV1_v1 dX11_readLine_183 rfl lkV_RX11_290 (S_102 hK) (Nat.le_of_ble_eq_true rfl) (Nat.le_of_ble_eq_true rfl) (Nat.le_of_ble_eq_true rfl) (ct_x11_wrong hK) (fun I23 => ?_)
                        exact sm_exit (fun f h => h)
                      · skip
                        refine s_aload_n 0 dX11_readLine_174 rfl rfl ?_
                        refine s_callV0_v2 dX11_readLine_175 rfl lkV_RX11_446 (S_102 hK) (Nat.le_of_ble_eq_true rfl) (Nat.le_of_ble_eq_true rfl) (Nat.le_of_ble_eq_true rfl) (ct_x11_readBite hK) (fun I24 L25 => ?_)
                        refine s_goto (tgt := 186) dX11_readLine_178 rfl ?_
                        exact sm_exit (fun f h => h)
                  · skip
                    refine s_aload_n 0 dX11_readLine_143 rfl rfl ?_
                    refine s_getZ dX11_readLine_144 rfl fl_11_415 (S_102 hK) ?_
                    refine s_if_ne (tgt := 157) dX11_readLine_147 rfl rfl (fun _ => ?_) (fun _ => ?_)
                    · skip
                      refine s_aload_n 0 dX11_readLine_157 rfl rfl ?_
                      refine s_ldc2 (v := 1651078245) dX11_readLine_158 rfl kl_11_271c ?_
                      refine s_callV1_i0 dX11_readLine_161 rfl lkV_RX11_283 (S_102 hK) (Nat.le_of_ble_eq_true rfl) (Nat.le_of_ble_eq_true rfl) (Nat.le_of_ble_eq_true rfl) (ct_x11_isWord hK) (fun r26 => ?_)
                      refine s_if_eq (tgt := 181) dX11_readLine_164 rfl rfl (fun _ => ?_) (fun _ => ?_)
                      · skip
                        refine s_aload_n 0 dX11_readLine_181 rfl rfl ?_
                        refine s_iconst (v := 2) dX11_readLine_182 rfl cI_2 ?_
                        refine s_callV1_v1 dX11_readLine_183 rfl lkV_RX11_290 (S_102 hK) (Nat.le_of_ble_eq_true rfl) (Nat.le_of_ble_eq_true rfl) (Nat.le_of_ble_eq_true rfl) (ct_x11_wrong hK) (fun I27 => ?_)
                        exact sm_exit (fun f h => h)
                      · skip
                        refine s_aload_n 0 dX11_readLine_167 rfl rfl ?_
                        refine s_getZ dX11_readLine_168 rfl fl_11_422 (S_102 hK) ?_
                        refine s_if_ne (tgt := 181) dX11_readLine_171 rfl rfl (fun _ => ?_) (fun _ => ?_)
                        · skip
                          refine s_aload_n 0 dX11_readLine_181 rfl rfl ?_
                          refine s_iconst (v := 2) dX11_readLine_182 rfl cI_2 ?_
                          refine s_callV1_v1 dX11_readLine_183 rfl lkV_RX11_290 (S_102 hK) (Nat.le_of_ble_eq_true rfl) (Nat.le_of_ble_eq_true rfl) (Nat.le_of_ble_eq_true rfl) (ct_x11_wrong hK) (fun I28 => ?_)
                          exact sm_exit (fun f h => h)
                        · skip
                          refine s_aload_n 0 dX11_readLine_174 rfl rfl ?_
                          refine s_callV0_v2 dX11_readLine_175 rfl lkV_RX11_446 (S_102 hK) (Nat.le_of_ble_eq_true rfl) (Nat.le_of_ble_eq_true rfl) (Nat.le_of_ble_eq_true rfl) (ct_x11_readBite hK) (fun I29 L30 => ?_)
                          refine s_goto (tgt := 186) dX11_readLine_178 rfl ?_
                          exact sm_exit (fun f h => h)
                    · skip
                      refine s_aload_n 0 dX11_readLine_150 rfl rfl ?_
                      refine s_callV0_v2 dX11_readLine_151 rfl lkV_RX11_443 (S_102 hK) (Nat.le_of_ble_eq_true rfl) (Nat.le_of_ble_eq_true rfl) (Nat.le_of_ble_eq_true rfl) (ct_x11_readDraw hK) (fun I31 L32 => ?_)
                      refine s_goto (tgt := 186) dX11_readLine_154 rfl ?_
                      exact sm_exit (fun f h => h)
                · skip
                  refine s_aload_n 0 dX11_readLine_126 rfl rfl ?_
                  refine s_callV0_v2 dX11_readLine_127 rfl lkV_RX11_440 (S_102 hK) (Nat.le_of_ble_eq_true rfl) (Nat.le_of_ble_eq_true rfl) (Nat.le_of_ble_eq_true rfl) (ct_x11_readBobber hK) (fun I33 L34 => ?_)
                  refine s_goto (tgt := 186) dX11_readLine_130 rfl ?_
                  exact sm_exit (fun f h => h)
            · skip
              refine s_aload_n 0 dX11_readLine_92 rfl rfl ?_
              refine s_getI dX11_readLine_93 rfl fl_11_400 (S_102 hK) ?_
              refine s_bipush (v := 10) dX11_readLine_96 rfl cB_10 ?_
              refine s_icmp_ge (tgt := 108) dX11_readLine_98 rfl rfl (fun _ => ?_) (fun _ => ?_)
              · skip
                refine s_aload_n 0 dX11_readLine_108 rfl rfl ?_
                refine s_ldc2 (v := 108230531507570) dX11_readLine_109 rfl kl_11_253c ?_
                refine s_callV1_i0 dX11_readLine_112 rfl lkV_RX11_283 (S_102 hK) (Nat.le_of_ble_eq_true rfl) (Nat.le_of_ble_eq_true rfl) (Nat.le_of_ble_eq_true rfl) (ct_x11_isWord hK) (fun r35 => ?_)
                refine s_if_eq (tgt := 133) dX11_readLine_115 rfl rfl (fun _ => ?_) (fun _ => ?_)
                · skip
                  refine s_aload_n 0 dX11_readLine_133 rfl rfl ?_
                  refine s_ldc2 (v := 1685217655) dX11_readLine_134 rfl kl_11_261c ?_
                  refine s_callV1_i0 dX11_readLine_137 rfl lkV_RX11_283 (S_102 hK) (Nat.le_of_ble_eq_true rfl) (Nat.le_of_ble_eq_true rfl) (Nat.le_of_ble_eq_true rfl) (ct_x11_isWord hK) (fun r36 => ?_)
                  refine s_if_eq (tgt := 157) dX11_readLine_140 rfl rfl (fun _ => ?_) (fun _ => ?_)
                  · skip
                    refine s_aload_n 0 dX11_readLine_157 rfl rfl ?_
                    refine s_ldc2 (v := 1651078245) dX11_readLine_158 rfl kl_11_271c ?_
                    refine s_callV1_i0 dX11_readLine_161 rfl lkV_RX11_283 (S_102 hK) (Nat.le_of_ble_eq_true rfl) (Nat.le_of_ble_eq_true rfl) (Nat.le_of_ble_eq_true rfl) (ct_x11_isWord hK) (fun r37 => ?_)
                    refine s_if_eq (tgt := 181) dX11_readLine_164 rfl rfl (fun _ => ?_) (fun _ => ?_)
                    · skip
                      refine s_aload_n 0 dX11_readLine_181 rfl rfl ?_
                      refine s_iconst (v := 2) dX11_readLine_182 rfl cI_2 ?_
                      refine s_callV1_v1 dX11_readLine_183 rfl lkV_RX11_290 (S_102 hK) (Nat.le_of_ble_eq_true rfl) (Nat.le_of_ble_eq_true rfl) (Nat.le_of_ble_eq_true rfl) (ct_x11_wrong hK) (fun I38 => ?_)
                      exact sm_exit (fun f h => h)
                    · skip
                      refine s_aload_n 0 dX11_readLine_167 rfl rfl ?_
                      refine s_getZ dX11_readLine_168 rfl fl_11_422 (S_102 hK) ?_
                      refine s_if_ne (tgt := 181) dX11_readLine_171 rfl rfl (fun _ => ?_) (fun _ => ?_)
                      · skip
                        refine s_aload_n 0 dX11_readLine_181 rfl rfl ?_
                        refine s_iconst (v := 2) dX11_readLine_182 rfl cI_2 ?_
                        refine s_callV1_v1 dX11_readLine_183 rfl lkV_RX11_290 (S_102 hK) (Nat.le_of_ble_eq_true rfl) (Nat.le_of_ble_eq_true rfl) (Nat.le_of_ble_eq_true rfl) (ct_x11_wrong hK) (fun I39 => ?_)
                        exact sm_exit (fun f h => h)
                      · skip
                        refine s_aload_n 0 dX11_readLine_174 rfl rfl ?_
                        refine s_callV0_v2 dX11_readLine_175 rfl lkV_RX11_446 (S_102 hK) (Nat.le_of_ble_eq_true rfl) (Nat.le_of_ble_eq_true rfl) (Nat.le_of_ble_eq_true rfl) (ct_x11_readBite hK) (fun I40 L41 => ?_)
                        refine s_goto (tgt := 186) dX11_readLine_178 rfl ?_
                        exact sm_exit (fun f h => h)
                  · skip
                    refine s_aload_n 0 dX11_readLine_143 rfl rfl ?_
                    refine s_getZ dX11_readLine_144 rfl fl_11_415 (S_102 hK) ?_
                    refine s_if_ne (tgt := 157) dX11_readLine_147 rfl rfl (fun _ => ?_) (fun _ => ?_)
                    · skip
                      refine s_aload_n 0 dX11_readLine_157 rfl rfl ?_
                      refine s_ldc2 (v := 1651078245) dX11_readLine_158 rfl kl_11_271c ?_
                      refine s_callV1_i0 dX11_readLine_161 rfl lkV_RX11_283 (S_102 hK) (Nat.le_of_ble_eq_true rfl) (Nat.le_of_ble_eq_true rfl) (Nat.le_of_ble_eq_true rfl) (ct_x11_isWord hK) (fun r42 => ?_)
                      refine s_if_eq (tgt := 181) dX11_readLine_164 rfl rfl (fun _ => ?_) (fun _ => ?_)
                      · skip
                        refine s_aload_n 0 dX11_readLine_181 rfl rfl ?_
                        refine s_iconst (v := 2) dX11_readLine_182 rfl cI_2 ?_
                        refine s_callV1_v1 dX11_readLine_183 rfl lkV_RX11_290 (S_102 hK) (Nat.le_of_ble_eq_true rfl) (Nat.le_of_ble_eq_true rfl) (Nat.le_of_ble_eq_true rfl) (ct_x11_wrong hK) (fun I43 => ?_)
                        exact sm_exit (fun f h => h)
                      · skip
                        refine s_aload_n 0 dX11_readLine_167 rfl rfl ?_
                        refine s_getZ dX11_readLine_168 rfl fl_11_422 (S_102 hK) ?_
                        refine s_if_ne (tgt := 181) dX11_readLine_171 rfl rfl (fun _ => ?_) (fun _ => ?_)
                        · skip
                          refine s_aload_n 0 dX11_readLine_181 rfl rfl ?_
                          refine s_iconst (v := 2) dX11_readLine_182 rfl cI_2 ?_
                          refine s_callV1_v1 dX11_readLine_183 rfl lkV_RX11_290 (S_102 hK) (Nat.le_of_ble_eq_true rfl) (Nat.le_of_ble_eq_true rfl) (Nat.le_of_ble_eq_true rfl) (ct_x11_wrong hK) (fun I44 => ?_)
                          exact sm_exit (fun f h => h)
                        · skip
                          refine s_aload_n 0 dX11_readLine_174 rfl rfl ?_
                          refine s_callV0_v2 dX11_readLine_175 rfl lkV_RX11_446 (S_102 hK) (Nat.le_of_ble_eq_true rfl) (Nat.le_of_ble_eq_true rfl) (Nat.le_of_ble_eq_true rfl) (ct_x11_readBite hK) (fun I45 L46 => ?_)
                          refine s_goto (tgt := 186) dX11_readLine_178 rfl ?_
                          exact sm_exit (fun f h => h)
                    · skip
                      refine s_aload_n 0 dX11_readLine_150 rfl rfl ?_
                      refine s_callV0_v2 dX11_readLine_151 rfl lkV_RX11_443 (S_102 hK) (Nat.le_of_ble_eq_true rfl) (Nat.le_of_ble_eq_true rfl) (Nat.le_of_ble_eq_true rfl) (ct_x11_readDraw hK) (fun I47 L48 => ?_)
                      refine s_goto (tgt := 186) dX11_readLine_154 rfl ?_
                      exact sm_exit (fun f h => h)
                · skip
                  refine s_aload_n 0 dX11_readLine_118 rfl rfl ?_
                  refine s_getI dX11_readLine_119 rfl fl_11_409 (S_102 hK) ?_
                  refine s_iconst (v := 4) dX11_readLine_122 rfl cI_4 ?_
                  refine s_icmp_ge (tgt := 133) dX11_readLine_123 rfl rfl (fun _ => ?_) (fun _ => ?_)
                  · skip
                    refine s_aload_n 0 dX11_readLine_133 rfl rfl ?_
                    refine s_ldc2 (v := 1685217655) dX11_readLine_134 rfl kl_11_261c ?_
                    refine s_callV1_i0 dX11_readLine_137 rfl lkV_RX11_283 (S_102 hK) (Nat.le_of_ble_eq_true rfl) (Nat.le_of_ble_eq_true rfl) (Nat.le_of_ble_eq_true rfl) (ct_x11_isWord hK) (fun r49 => ?_)
                    refine s_if_eq (tgt := 157) dX11_readLine_140 rfl rfl (fun _ => ?_) (fun _ => ?_)
                    · skip
                      refine s_aload_n 0 dX11_readLine_157 rfl rfl ?_
                      refine s_ldc2 (v := 1651078245) dX11_readLine_158 rfl kl_11_271c ?_
                      refine s_callV1_i0 dX11_readLine_161 rfl lkV_RX11_283 (S_102 hK) (Nat.le_of_ble_eq_true rfl) (Nat.le_of_ble_eq_true rfl) (Nat.le_of_ble_eq_true rfl) (ct_x11_isWord hK) (fun r50 => ?_)
                      refine s_if_eq (tgt := 181) dX11_readLine_164 rfl rfl (fun _ => ?_) (fun _ => ?_)
                      · skip
                        refine s_aload_n 0 dX11_readLine_181 rfl rfl ?_
                        refine s_iconst (v := 2) dX11_readLine_182 rfl cI_2 ?_
                        refine s_callV1_v1 dX11_readLine_183 rfl lkV_RX11_290 (S_102 hK) (Nat.le_of_ble_eq_true rfl) (Nat.le_of_ble_eq_true rfl) (Nat.le_of_ble_eq_true rfl) (ct_x11_wrong hK) (fun I51 => ?_)
                        exact sm_exit (fun f h => h)
                      · skip
                        refine s_aload_n 0 dX11_readLine_167 rfl rfl ?_
                        refine s_getZ dX11_readLine_168 rfl fl_11_422 (S_102 hK) ?_
                        refine s_if_ne (tgt := 181) dX11_readLine_171 rfl rfl (fun _ => ?_) (fun _ => ?_)
                        · skip
                          refine s_aload_n 0 dX11_readLine_181 rfl rfl ?_
                          refine s_iconst (v := 2) dX11_readLine_182 rfl cI_2 ?_
                          refine s_callV1_v1 dX11_readLine_183 rfl lkV_RX11_290 (S_102 hK) (Nat.le_of_ble_eq_true rfl) (Nat.le_of_ble_eq_true rfl) (Nat.le_of_ble_eq_true rfl) (ct_x11_wrong hK) (fun I52 => ?_)
                          exact sm_exit (fun f h => h)
                        · skip
                          refine s_aload_n 0 dX11_readLine_174 rfl rfl ?_
                          refine s_callV0_v2 dX11_readLine_175 rfl lkV_RX11_446 (S_102 hK) (Nat.le_of_ble_eq_true rfl) (Nat.le_of_ble_eq_true rfl) (Nat.le_of_ble_eq_true rfl) (ct_x11_readBite hK) (fun I53 L54 => ?_)
                          refine s_goto (tgt := 186) dX11_readLine_178 rfl ?_
                          exact sm_exit (fun f h => h)
                    · skip
                      refine s_aload_n 0 dX11_readLine_143 rfl rfl ?_
                      refine s_getZ dX11_readLine_144 rfl fl_11_415 (S_102 hK) ?_
                      refine s_if_ne (tgt := 157) dX11_readLine_147 rfl rfl (fun _ => ?_) (fun _ => ?_)
                      · skip
                        refine s_aload_n 0 dX11_readLine_157 rfl rfl ?_
                        refine s_ldc2 (v := 1651078245) dX11_readLine_158 rfl kl_11_271c ?_
                        refine s_callV1_i0 dX11_readLine_161 rfl lkV_RX11_283 (S_102 hK) (Nat.le_of_ble_eq_true rfl) (Nat.le_of_ble_eq_true rfl) (Nat.le_of_ble_eq_true rfl) (ct_x11_isWord hK) (fun r55 => ?_)
                        refine s_if_eq (tgt := 181) dX11_readLine_164 rfl rfl (fun _ => ?_) (fun _ => ?_)
                        · skip
                          refine s_aload_n 0 dX11_readLine_181 rfl rfl ?_
                          refine s_iconst (v := 2) dX11_readLine_182 rfl cI_2 ?_
                          refine s_callV1_v1 dX11_readLine_183 rfl lkV_RX11_290 (S_102 hK) (Nat.le_of_ble_eq_true rfl) (Nat.le_of_ble_eq_true rfl) (Nat.le_of_ble_eq_true rfl) (ct_x11_wrong hK) (fun I56 => ?_)
                          exact sm_exit (fun f h => h)
                        · skip
                          refine s_aload_n 0 dX11_readLine_167 rfl rfl ?_
                          refine s_getZ dX11_readLine_168 rfl fl_11_422 (S_102 hK) ?_
                          refine s_if_ne (tgt := 181) dX11_readLine_171 rfl rfl (fun _ => ?_) (fun _ => ?_)
                          · skip
                            refine s_aload_n 0 dX11_readLine_181 rfl rfl ?_
                            refine s_iconst (v := 2) dX11_readLine_182 rfl cI_2 ?_
                            refine s_callV1_v1 dX11_readLine_183 rfl lkV_RX11_290 (S_102 hK) (Nat.le_of_ble_eq_true rfl) (Nat.le_of_ble_eq_true rfl) (Nat.le_of_ble_eq_true rfl) (ct_x11_wrong hK) (fun I57 => ?_)
                            exact sm_exit (fun f h => h)
                          · skip
                            refine s_aload_n 0 dX11_readLine_174 rfl rfl ?_
                            refine s_callV0_v2 dX11_readLine_175 rfl lkV_RX11_446 (S_102 hK) (Nat.le_of_ble_eq_true rfl) (Nat.le_of_ble_eq_true rfl) (Nat.le_of_ble_eq_true rfl) (ct_x11_readBite hK) (fun I58 L59 => ?_)
                            refine s_goto (tgt := 186) dX11_readLine_178 rfl ?_
                            exact sm_exit (fun f h => h)
                      · skip
                        refine s_aload_n 0 dX11_readLine_150 rfl rfl ?_
                        refine s_callV0_v2 dX11_readLine_151 rfl lkV_RX11_443 (S_102 hK) (Nat.le_of_ble_eq_true rfl) (Nat.le_of_ble_eq_true rfl) (Nat.le_of_ble_eq_true rfl) (ct_x11_readDraw hK) (fun I60 L61 => ?_)
                        refine s_goto (tgt := 186) dX11_readLine_154 rfl ?_
                        exact sm_exit (fun f h => h)
                  · skip
                    refine s_aload_n 0 dX11_readLine_126 rfl rfl ?_
                    refine s_callV0_v2 dX11_readLine_127 rfl lkV_RX11_440 (S_102 hK) (Nat.le_of_ble_eq_true rfl) (Nat.le_of_ble_eq_true rfl) (Nat.le_of_ble_eq_true rfl) (ct_x11_readBobber hK) (fun I62 L63 => ?_)
                    refine s_goto (tgt := 186) dX11_readLine_130 rfl ?_
                    exact sm_exit (fun f h => h)
              · skip
                refine s_aload_n 0 dX11_readLine_101 rfl rfl ?_
                refine s_callV0_v2 dX11_readLine_102 rfl lkV_RX11_437 (S_102 hK) (Nat.le_of_ble_eq_true rfl) (Nat.le_of_ble_eq_true rfl) (Nat.le_of_ble_eq_true rfl) (ct_x11_readApple hK) (fun I64 L65 => ?_)
                refine s_goto (tgt := 186) dX11_readLine_105 rfl ?_
                exact sm_exit (fun f h => h)
          · skip
            refine s_aload_n 0 dX11_readLine_66 rfl rfl ?_
            refine s_getI dX11_readLine_67 rfl fl_11_394 (S_102 hK) ?_
            refine s_bipush (v := 6) dX11_readLine_70 rfl cB_6 ?_
            refine s_icmp_ge (tgt := 82) dX11_readLine_72 rfl rfl (fun _ => ?_) (fun _ => ?_)
            · skip
              refine s_aload_n 0 dX11_readLine_82 rfl rfl ?_
              refine s_ldc2 (v := 418498243685) dX11_readLine_83 rfl kl_11_243c ?_
              refine s_callV1_i0 dX11_readLine_86 rfl lkV_RX11_283 (S_102 hK) (Nat.le_of_ble_eq_true rfl) (Nat.le_of_ble_eq_true rfl) (Nat.le_of_ble_eq_true rfl) (ct_x11_isWord hK) (fun r66 => ?_)
              refine s_if_eq (tgt := 108) dX11_readLine_89 rfl rfl (fun _ => ?_) (fun _ => ?_)
              · skip
                refine s_aload_n 0 dX11_readLine_108 rfl rfl ?_
                refine s_ldc2 (v := 108230531507570) dX11_readLine_109 rfl kl_11_253c ?_
                refine s_callV1_i0 dX11_readLine_112 rfl lkV_RX11_283 (S_102 hK) (Nat.le_of_ble_eq_true rfl) (Nat.le_of_ble_eq_true rfl) (Nat.le_of_ble_eq_true rfl) (ct_x11_isWord hK) (fun r67 => ?_)
                refine s_if_eq (tgt := 133) dX11_readLine_115 rfl rfl (fun _ => ?_) (fun _ => ?_)
                · skip
                  refine s_aload_n 0 dX11_readLine_133 rfl rfl ?_
                  refine s_ldc2 (v := 1685217655) dX11_readLine_134 rfl kl_11_261c ?_
                  refine s_callV1_i0 dX11_readLine_137 rfl lkV_RX11_283 (S_102 hK) (Nat.le_of_ble_eq_true rfl) (Nat.le_of_ble_eq_true rfl) (Nat.le_of_ble_eq_true rfl) (ct_x11_isWord hK) (fun r68 => ?_)
                  refine s_if_eq (tgt := 157) dX11_readLine_140 rfl rfl (fun _ => ?_) (fun _ => ?_)
                  · skip
                    refine s_aload_n 0 dX11_readLine_157 rfl rfl ?_
                    refine s_ldc2 (v := 1651078245) dX11_readLine_158 rfl kl_11_271c ?_
                    refine s_callV1_i0 dX11_readLine_161 rfl lkV_RX11_283 (S_102 hK) (Nat.le_of_ble_eq_true rfl) (Nat.le_of_ble_eq_true rfl) (Nat.le_of_ble_eq_true rfl) (ct_x11_isWord hK) (fun r69 => ?_)
                    refine s_if_eq (tgt := 181) dX11_readLine_164 rfl rfl (fun _ => ?_) (fun _ => ?_)
                    · skip
                      refine s_aload_n 0 dX11_readLine_181 rfl rfl ?_
                      refine s_iconst (v := 2) dX11_readLine_182 rfl cI_2 ?_
                      refine s_callV1_v1 dX11_readLine_183 rfl lkV_RX11_290 (S_102 hK) (Nat.le_of_ble_eq_true rfl) (Nat.le_of_ble_eq_true rfl) (Nat.le_of_ble_eq_true rfl) (ct_x11_wrong hK) (fun I70 => ?_)
                      exact sm_exit (fun f h => h)
                    · skip
                      refine s_aload_n 0 dX11_readLine_167 rfl rfl ?_
                      refine s_getZ dX11_readLine_168 rfl fl_11_422 (S_102 hK) ?_
                      refine s_if_ne (tgt := 181) dX11_readLine_171 rfl rfl (fun _ => ?_) (fun _ => ?_)
                      · skip
                        refine s_aload_n 0 dX11_readLine_181 rfl rfl ?_
                        refine s_iconst (v := 2) dX11_readLine_182 rfl cI_2 ?_
                        refine s_callV1_v1 dX11_readLine_183 rfl lkV_RX11_290 (S_102 hK) (Nat.le_of_ble_eq_true rfl) (Nat.le_of_ble_eq_true rfl) (Nat.le_of_ble_eq_true rfl) (ct_x11_wrong hK) (fun I71 => ?_)
                        exact sm_exit (fun f h => h)
                      · skip
                        refine s_aload_n 0 dX11_readLine_174 rfl rfl ?_
                        refine s_callV0_v2 dX11_readLine_175 rfl lkV_RX11_446 (S_102 hK) (Nat.le_of_ble_eq_true rfl) (Nat.le_of_ble_eq_true rfl) (Nat.le_of_ble_eq_true rfl) (ct_x11_readBite hK) (fun I72 L73 => ?_)
                        refine s_goto (tgt := 186) dX11_readLine_178 rfl ?_
                        exact sm_exit (fun f h => h)
                  · skip
                    refine s_aload_n 0 dX11_readLine_143 rfl rfl ?_
                    refine s_getZ dX11_readLine_144 rfl fl_11_415 (S_102 hK) ?_
                    refine s_if_ne (tgt := 157) dX11_readLine_147 rfl rfl (fun _ => ?_) (fun _ => ?_)
                    · skip
                      refine s_aload_n 0 dX11_readLine_157 rfl rfl ?_
                      refine s_ldc2 (v := 1651078245) dX11_readLine_158 rfl kl_11_271c ?_
                      refine s_callV1_i0 dX11_readLine_161 rfl lkV_RX11_283 (S_102 hK) (Nat.le_of_ble_eq_true rfl) (Nat.le_of_ble_eq_true rfl) (Nat.le_of_ble_eq_true rfl) (ct_x11_isWord hK) (fun r74 => ?_)
                      refine s_if_eq (tgt := 181) dX11_readLine_164 rfl rfl (fun _ => ?_) (fun _ => ?_)
                      · skip
                        refine s_aload_n 0 dX11_readLine_181 rfl rfl ?_
                        refine s_iconst (v := 2) dX11_readLine_182 rfl cI_2 ?_
                        refine s_callV1_v1 dX11_readLine_183 rfl lkV_RX11_290 (S_102 hK) (Nat.le_of_ble_eq_true rfl) (Nat.le_of_ble_eq_true rfl) (Nat.le_of_ble_eq_true rfl) (ct_x11_wrong hK) (fun I75 => ?_)
                        exact sm_exit (fun f h => h)
                      · skip
                        refine s_aload_n 0 dX11_readLine_167 rfl rfl ?_
                        refine s_getZ dX11_readLine_168 rfl fl_11_422 (S_102 hK) ?_
                        refine s_if_ne (tgt := 181) dX11_readLine_171 rfl rfl (fun _ => ?_) (fun _ => ?_)
                        · skip
                          refine s_aload_n 0 dX11_readLine_181 rfl rfl ?_
                          refine s_iconst (v := 2) dX11_readLine_182 rfl cI_2 ?_
                          refine s_callV1_v1 dX11_readLine_183 rfl lkV_RX11_290 (S_102 hK) (Nat.le_of_ble_eq_true rfl) (Nat.le_of_ble_eq_true rfl) (Nat.le_of_ble_eq_true rfl) (ct_x11_wrong hK) (fun I76 => ?_)
                          exact sm_exit (fun f h => h)
                        · skip
                          refine s_aload_n 0 dX11_readLine_174 rfl rfl ?_
                          refine s_callV0_v2 dX11_readLine_175 rfl lkV_RX11_446 (S_102 hK) (Nat.le_of_ble_eq_true rfl) (Nat.le_of_ble_eq_true rfl) (Nat.le_of_ble_eq_true rfl) (ct_x11_readBite hK) (fun I77 L78 => ?_)
                          refine s_goto (tgt := 186) dX11_readLine_178 rfl ?_
                          exact sm_exit (fun f h => h)
                    · skip
                      refine s_aload_n 0 dX11_readLine_150 rfl rfl ?_
                      refine s_callV0_v2 dX11_readLine_151 rfl lkV_RX11_443 (S_102 hK) (Nat.le_of_ble_eq_true rfl) (Nat.le_of_ble_eq_true rfl) (Nat.le_of_ble_eq_true rfl) (ct_x11_readDraw hK) (fun I79 L80 => ?_)
                      refine s_goto (tgt := 186) dX11_readLine_154 rfl ?_
                      exact sm_exit (fun f h => h)
                · skip
                  refine s_aload_n 0 dX11_readLine_118 rfl rfl ?_
                  refine s_getI dX11_readLine_119 rfl fl_11_409 (S_102 hK) ?_
                  refine s_iconst (v := 4) dX11_readLine_122 rfl cI_4 ?_
                  refine s_icmp_ge (tgt := 133) dX11_readLine_123 rfl rfl (fun _ => ?_) (fun _ => ?_)
                  · skip
                    refine s_aload_n 0 dX11_readLine_133 rfl rfl ?_
                    refine s_ldc2 (v := 1685217655) dX11_readLine_134 rfl kl_11_261c ?_
                    refine s_callV1_i0 dX11_readLine_137 rfl lkV_RX11_283 (S_102 hK) (Nat.le_of_ble_eq_true rfl) (Nat.le_of_ble_eq_true rfl) (Nat.le_of_ble_eq_true rfl) (ct_x11_isWord hK) (fun r81 => ?_)
                    refine s_if_eq (tgt := 157) dX11_readLine_140 rfl rfl (fun _ => ?_) (fun _ => ?_)
                    · skip
                      refine s_aload_n 0 dX11_readLine_157 rfl rfl ?_
                      refine s_ldc2 (v := 1651078245) dX11_readLine_158 rfl kl_11_271c ?_
                      refine s_callV1_i0 dX11_readLine_161 rfl lkV_RX11_283 (S_102 hK) (Nat.le_of_ble_eq_true rfl) (Nat.le_of_ble_eq_true rfl) (Nat.le_of_ble_eq_true rfl) (ct_x11_isWord hK) (fun r82 => ?_)
                      refine s_if_eq (tgt := 181) dX11_readLine_164 rfl rfl (fun _ => ?_) (fun _ => ?_)
                      · skip
                        refine s_aload_n 0 dX11_readLine_181 rfl rfl ?_
                        refine s_iconst (v := 2) dX11_readLine_182 rfl cI_2 ?_
                        refine s_callV1_v1 dX11_readLine_183 rfl lkV_RX11_290 (S_102 hK) (Nat.le_of_ble_eq_true rfl) (Nat.le_of_ble_eq_true rfl) (Nat.le_of_ble_eq_true rfl) (ct_x11_wrong hK) (fun I83 => ?_)
                        exact sm_exit (fun f h => h)
                      · skip
                        refine s_aload_n 0 dX11_readLine_167 rfl rfl ?_
                        refine s_getZ dX11_readLine_168 rfl fl_11_422 (S_102 hK) ?_
                        refine s_if_ne (tgt := 181) dX11_readLine_171 rfl rfl (fun _ => ?_) (fun _ => ?_)
                        · skip
                          refine s_aload_n 0 dX11_readLine_181 rfl rfl ?_
                          refine s_iconst (v := 2) dX11_readLine_182 rfl cI_2 ?_
                          refine s_callV1_v1 dX11_readLine_183 rfl lkV_RX11_290 (S_102 hK) (Nat.le_of_ble_eq_true rfl) (Nat.le_of_ble_eq_true rfl) (Nat.le_of_ble_eq_true rfl) (ct_x11_wrong hK) (fun I84 => ?_)
                          exact sm_exit (fun f h => h)
                        · skip
                          refine s_aload_n 0 dX11_readLine_174 rfl rfl ?_
                          refine s_callV0_v2 dX11_readLine_175 rfl lkV_RX11_446 (S_102 hK) (Nat.le_of_ble_eq_true rfl) (Nat.le_of_ble_eq_true rfl) (Nat.le_of_ble_eq_true rfl) (ct_x11_readBite hK) (fun I85 L86 => ?_)
                          refine s_goto (tgt := 186) dX11_readLine_178 rfl ?_
                          exact sm_exit (fun f h => h)
                    · skip
                      refine s_aload_n 0 dX11_readLine_143 rfl rfl ?_
                      refine s_getZ dX11_readLine_144 rfl fl_11_415 (S_102 hK) ?_
                      refine s_if_ne (tgt := 157) dX11_readLine_147 rfl rfl (fun _ => ?_) (fun _ => ?_)
                      · skip
                        refine s_aload_n 0 dX11_readLine_157 rfl rfl ?_
                        refine s_ldc2 (v := 1651078245) dX11_readLine_158 rfl kl_11_271c ?_
                        refine s_callV1_i0 dX11_readLine_161 rfl lkV_RX11_283 (S_102 hK) (Nat.le_of_ble_eq_true rfl) (Nat.le_of_ble_eq_true rfl) (Nat.le_of_ble_eq_true rfl) (ct_x11_isWord hK) (fun r87 => ?_)
                        refine s_if_eq (tgt := 181) dX11_readLine_164 rfl rfl (fun _ => ?_) (fun _ => ?_)
                        · skip
                          refine s_aload_n 0 dX11_readLine_181 rfl rfl ?_
                          refine s_iconst (v := 2) dX11_readLine_182 rfl cI_2 ?_
                          refine s_callV1_v1 dX11_readLine_183 rfl lkV_RX11_290 (S_102 hK) (Nat.le_of_ble_eq_true rfl) (Nat.le_of_ble_eq_true rfl) (Nat.le_of_ble_eq_true rfl) (ct_x11_wrong hK) (fun I88 => ?_)
                          exact sm_exit (fun f h => h)
                        · skip
                          refine s_aload_n 0 dX11_readLine_167 rfl rfl ?_
                          refine s_getZ dX11_readLine_168 rfl fl_11_422 (S_102 hK) ?_
                          refine s_if_ne (tgt := 181) dX11_readLine_171 rfl rfl (fun _ => ?_) (fun _ => ?_)
                          · skip
                            refine s_aload_n 0 dX11_readLine_181 rfl rfl ?_
                            refine s_iconst (v := 2) dX11_readLine_182 rfl cI_2 ?_
                            refine s_callV1_v1 dX11_readLine_183 rfl lkV_RX11_290 (S_102 hK) (Nat.le_of_ble_eq_true rfl) (Nat.le_of_ble_eq_true rfl) (Nat.le_of_ble_eq_true rfl) (ct_x11_wrong hK) (fun I89 => ?_)
                            exact sm_exit (fun f h => h)
                          · skip
                            refine s_aload_n 0 dX11_readLine_174 rfl rfl ?_
                            refine s_callV0_v2 dX11_readLine_175 rfl lkV_RX11_446 (S_102 hK) (Nat.le_of_ble_eq_true rfl) (Nat.le_of_ble_eq_true rfl) (Nat.le_of_ble_eq_true rfl) (ct_x11_readBite hK) (fun I90 L91 => ?_)
                            refine s_goto (tgt := 186) dX11_readLine_178 rfl ?_
                            exact sm_exit (fun f h => h)
                      · skip
                        refine s_aload_n 0 dX11_readLine_150 rfl rfl ?_
                        refine s_callV0_v2 dX11_readLine_151 rfl lkV_RX11_443 (S_102 hK) (Nat.le_of_ble_eq_true rfl) (Nat.le_of_ble_eq_true rfl) (Nat.le_of_ble_eq_true rfl) (ct_x11_readDraw hK) (fun I92 L93 => ?_)
                        refine s_goto (tgt := 186) dX11_readLine_154 rfl ?_
                        exact sm_exit (fun f h => h)
                  · skip
                    refine s_aload_n 0 dX11_readLine_126 rfl rfl ?_
                    refine s_callV0_v2 dX11_readLine_127 rfl lkV_RX11_440 (S_102 hK) (Nat.le_of_ble_eq_true rfl) (Nat.le_of_ble_eq_true rfl) (Nat.le_of_ble_eq_true rfl) (ct_x11_readBobber hK) (fun I94 L95 => ?_)
                    refine s_goto (tgt := 186) dX11_readLine_130 rfl ?_
                    exact sm_exit (fun f h => h)
              · skip
                refine s_aload_n 0 dX11_readLine_92 rfl rfl ?_
                refine s_getI dX11_readLine_93 rfl fl_11_400 (S_102 hK) ?_
                refine s_bipush (v := 10) dX11_readLine_96 rfl cB_10 ?_
                refine s_icmp_ge (tgt := 108) dX11_readLine_98 rfl rfl (fun _ => ?_) (fun _ => ?_)
                · skip
                  refine s_aload_n 0 dX11_readLine_108 rfl rfl ?_
                  refine s_ldc2 (v := 108230531507570) dX11_readLine_109 rfl kl_11_253c ?_
                  refine s_callV1_i0 dX11_readLine_112 rfl lkV_RX11_283 (S_102 hK) (Nat.le_of_ble_eq_true rfl) (Nat.le_of_ble_eq_true rfl) (Nat.le_of_ble_eq_true rfl) (ct_x11_isWord hK) (fun r96 => ?_)
                  refine s_if_eq (tgt := 133) dX11_readLine_115 rfl rfl (fun _ => ?_) (fun _ => ?_)
                  · skip
                    refine s_aload_n 0 dX11_readLine_133 rfl rfl ?_
                    refine s_ldc2 (v := 1685217655) dX11_readLine_134 rfl kl_11_261c ?_
                    refine s_callV1_i0 dX11_readLine_137 rfl lkV_RX11_283 (S_102 hK) (Nat.le_of_ble_eq_true rfl) (Nat.le_of_ble_eq_true rfl) (Nat.le_of_ble_eq_true rfl) (ct_x11_isWord hK) (fun r97 => ?_)
                    refine s_if_eq (tgt := 157) dX11_readLine_140 rfl rfl (fun _ => ?_) (fun _ => ?_)
                    · skip
                      refine s_aload_n 0 dX11_readLine_157 rfl rfl ?_
                      refine s_ldc2 (v := 1651078245) dX11_readLine_158 rfl kl_11_271c ?_
                      refine s_callV1_i0 dX11_readLine_161 rfl lkV_RX11_283 (S_102 hK) (Nat.le_of_ble_eq_true rfl) (Nat.le_of_ble_eq_true rfl) (Nat.le_of_ble_eq_true rfl) (ct_x11_isWord hK) (fun r98 => ?_)
                      refine s_if_eq (tgt := 181) dX11_readLine_164 rfl rfl (fun _ => ?_) (fun _ => ?_)
                      · skip
                        refine s_aload_n 0 dX11_readLine_181 rfl rfl ?_
                        refine s_iconst (v := 2) dX11_readLine_182 rfl cI_2 ?_
                        refine s_callV1_v1 dX11_readLine_183 rfl lkV_RX11_290 (S_102 hK) (Nat.le_of_ble_eq_true rfl) (Nat.le_of_ble_eq_true rfl) (Nat.le_of_ble_eq_true rfl) (ct_x11_wrong hK) (fun I99 => ?_)
                        exact sm_exit (fun f h => h)
                      · skip
                        refine s_aload_n 0 dX11_readLine_167 rfl rfl ?_
                        refine s_getZ dX11_readLine_168 rfl fl_11_422 (S_102 hK) ?_
                        refine s_if_ne (tgt := 181) dX11_readLine_171 rfl rfl (fun _ => ?_) (fun _ => ?_)
                        · skip
                          refine s_aload_n 0 dX11_readLine_181 rfl rfl ?_
                          refine s_iconst (v := 2) dX11_readLine_182 rfl cI_2 ?_
                          refine s_callV1_v1 dX11_readLine_183 rfl lkV_RX11_290 (S_102 hK) (Nat.le_of_ble_eq_true rfl) (Nat.le_of_ble_eq_true rfl) (Nat.le_of_ble_eq_true rfl) (ct_x11_wrong hK) (fun I100 => ?_)
                          exact sm_exit (fun f h => h)
                        · skip
                          refine s_aload_n 0 dX11_readLine_174 rfl rfl ?_
                          refine s_callV0_v2 dX11_readLine_175 rfl lkV_RX11_446 (S_102 hK) (Nat.le_of_ble_eq_true rfl) (Nat.le_of_ble_eq_true rfl) (Nat.le_of_ble_eq_true rfl) (ct_x11_readBite hK) (fun I101 L102 => ?_)
                          refine s_goto (tgt := 186) dX11_readLine_178 rfl ?_
                          exact sm_exit (fun f h => h)
                    · skip
                      refine s_aload_n 0 dX11_readLine_143 rfl rfl ?_
                      refine s_getZ dX11_readLine_144 rfl fl_11_415 (S_102 hK) ?_
                      refine s_if_ne (tgt := 157) dX11_readLine_147 rfl rfl (fun _ => ?_) (fun _ => ?_)
                      · skip
                        refine s_aload_n 0 dX11_readLine_157 rfl rfl ?_
                        refine s_ldc2 (v := 1651078245) dX11_readLine_158 rfl kl_11_271c ?_
                        refine s_callV1_i0 dX11_readLine_161 rfl lkV_RX11_283 (S_102 hK) (Nat.le_of_ble_eq_true rfl) (Nat.le_of_ble_eq_true rfl) (Nat.le_of_ble_eq_true rfl) (ct_x11_isWord hK) (fun r103 => ?_)
                        refine s_if_eq (tgt := 181) dX11_readLine_164 rfl rfl (fun _ => ?_) (fun _ => ?_)
                        · skip
                          refine s_aload_n 0 dX11_readLine_181 rfl rfl ?_
                          refine s_iconst (v := 2) dX11_readLine_182 rfl cI_2 ?_
                          refine s_callV1_v1 dX11_readLine_183 rfl lkV_RX11_290 (S_102 hK) (Nat.le_of_ble_eq_true rfl) (Nat.le_of_ble_eq_true rfl) (Nat.le_of_ble_eq_true rfl) (ct_x11_wrong hK) (fun I104 => ?_)
                          exact sm_exit (fun f h => h)
                        · skip
                          refine s_aload_n 0 dX11_readLine_167 rfl rfl ?_
                          refine s_getZ dX11_readLine_168 rfl fl_11_422 (S_102 hK) ?_
                          refine s_if_ne (tgt := 181) dX11_readLine_171 rfl rfl (fun _ => ?_) (fun _ => ?_)
                          · skip
                            refine s_aload_n 0 dX11_readLine_181 rfl rfl ?_
                            refine s_iconst (v := 2) dX11_readLine_182 rfl cI_2 ?_
                            refine s_callV1_v1 dX11_readLine_183 rfl lkV_RX11_290 (S_102 hK) (Nat.le_of_ble_eq_true rfl) (Nat.le_of_ble_eq_true rfl) (Nat.le_of_ble_eq_true rfl) (ct_x11_wrong hK) (fun I105 => ?_)
                            exact sm_exit (fun f h => h)
                          · skip
                            refine s_aload_n 0 dX11_readLine_174 rfl rfl ?_
                            refine s_callV0_v2 dX11_readLine_175 rfl lkV_RX11_446 (S_102 hK) (Nat.le_of_ble_eq_true rfl) (Nat.le_of_ble_eq_true rfl) (Nat.le_of_ble_eq_true rfl) (ct_x11_readBite hK) (fun I106 L107 => ?_)
                            refine s_goto (tgt := 186) dX11_readLine_178 rfl ?_
                            exact sm_exit (fun f h => h)
                      · skip
                        refine s_aload_n 0 dX11_readLine_150 rfl rfl ?_
                        refine s_callV0_v2 dX11_readLine_151 rfl lkV_RX11_443 (S_102 hK) (Nat.le_of_ble_eq_true rfl) (Nat.le_of_ble_eq_true rfl) (Nat.le_of_ble_eq_true rfl) (ct_x11_readDraw hK) (fun I108 L109 => ?_)
                        refine s_goto (tgt := 186) dX11_readLine_154 rfl ?_
                        exact sm_exit (fun f h => h)
                  · skip
                    refine s_aload_n 0 dX11_readLine_118 rfl rfl ?_
                    refine s_getI dX11_readLine_119 rfl fl_11_409 (S_102 hK) ?_
                    refine s_iconst (v := 4) dX11_readLine_122 rfl cI_4 ?_
                    refine s_icmp_ge (tgt := 133) dX11_readLine_123 rfl rfl (fun _ => ?_) (fun _ => ?_)
                    · skip
                      refine s_aload_n 0 dX11_readLine_133 rfl rfl ?_
                      refine s_ldc2 (v := 1685217655) dX11_readLine_134 rfl kl_11_261c ?_
                      refine s_callV1_i0 dX11_readLine_137 rfl lkV_RX11_283 (S_102 hK) (Nat.le_of_ble_eq_true rfl) (Nat.le_of_ble_eq_true rfl) (Nat.le_of_ble_eq_true rfl) (ct_x11_isWord hK) (fun r110 => ?_)
                      refine s_if_eq (tgt := 157) dX11_readLine_140 rfl rfl (fun _ => ?_) (fun _ => ?_)
                      · skip
                        refine s_aload_n 0 dX11_readLine_157 rfl rfl ?_
                        refine s_ldc2 (v := 1651078245) dX11_readLine_158 rfl kl_11_271c ?_
                        refine s_callV1_i0 dX11_readLine_161 rfl lkV_RX11_283 (S_102 hK) (Nat.le_of_ble_eq_true rfl) (Nat.le_of_ble_eq_true rfl) (Nat.le_of_ble_eq_true rfl) (ct_x11_isWord hK) (fun r111 => ?_)
                        refine s_if_eq (tgt := 181) dX11_readLine_164 rfl rfl (fun _ => ?_) (fun _ => ?_)
                        · skip
                          refine s_aload_n 0 dX11_readLine_181 rfl rfl ?_
                          refine s_iconst (v := 2) dX11_readLine_182 rfl cI_2 ?_
                          refine s_callV1_v1 dX11_readLine_183 rfl lkV_RX11_290 (S_102 hK) (Nat.le_of_ble_eq_true rfl) (Nat.le_of_ble_eq_true rfl) (Nat.le_of_ble_eq_true rfl) (ct_x11_wrong hK) (fun I112 => ?_)
                          exact sm_exit (fun f h => h)
                        · skip
                          refine s_aload_n 0 dX11_readLine_167 rfl rfl ?_
                          refine s_getZ dX11_readLine_168 rfl fl_11_422 (S_102 hK) ?_
                          refine s_if_ne (tgt := 181) dX11_readLine_171 rfl rfl (fun _ => ?_) (fun _ => ?_)
                          · skip
                            refine s_aload_n 0 dX11_readLine_181 rfl rfl ?_
                            refine s_iconst (v := 2) dX11_readLine_182 rfl cI_2 ?_
                            refine s_callV1_v1 dX11_readLine_183 rfl lkV_RX11_290 (S_102 hK) (Nat.le_of_ble_eq_true rfl) (Nat.le_of_ble_eq_true rfl) (Nat.le_of_ble_eq_true rfl) (ct_x11_wrong hK) (fun I113 => ?_)
                            exact sm_exit (fun f h => h)
                          · skip
                            refine s_aload_n 0 dX11_readLine_174 rfl rfl ?_
                            refine s_callV0_v2 dX11_readLine_175 rfl lkV_RX11_446 (S_102 hK) (Nat.le_of_ble_eq_true rfl) (Nat.le_of_ble_eq_true rfl) (Nat.le_of_ble_eq_true rfl) (ct_x11_readBite hK) (fun I114 L115 => ?_)
                            refine s_goto (tgt := 186) dX11_readLine_178 rfl ?_
                            exact sm_exit (fun f h => h)
                      · skip
                        refine s_aload_n 0 dX11_readLine_143 rfl rfl ?_
                        refine s_getZ dX11_readLine_144 rfl fl_11_415 (S_102 hK) ?_
                        refine s_if_ne (tgt := 157) dX11_readLine_147 rfl rfl (fun _ => ?_) (fun _ => ?_)
                        · skip
                          refine s_aload_n 0 dX11_readLine_157 rfl rfl ?_
                          refine s_ldc2 (v := 1651078245) dX11_readLine_158 rfl kl_11_271c ?_
                          refine s_callV1_i0 dX11_readLine_161 rfl lkV_RX11_283 (S_102 hK) (Nat.le_of_ble_eq_true rfl) (Nat.le_of_ble_eq_true rfl) (Nat.le_of_ble_eq_true rfl) (ct_x11_isWord hK) (fun r116 => ?_)
                          refine s_if_eq (tgt := 181) dX11_readLine_164 rfl rfl (fun _ => ?_) (fun _ => ?_)
                          · skip
                            refine s_aload_n 0 dX11_readLine_181 rfl rfl ?_
                            refine s_iconst (v := 2) dX11_readLine_182 rfl cI_2 ?_
                            refine s_callV1_v1 dX11_readLine_183 rfl lkV_RX11_290 (S_102 hK) (Nat.le_of_ble_eq_true rfl) (Nat.le_of_ble_eq_true rfl) (Nat.le_of_ble_eq_true rfl) (ct_x11_wrong hK) (fun I117 => ?_)
                            exact sm_exit (fun f h => h)
                          · skip
                            refine s_aload_n 0 dX11_readLine_167 rfl rfl ?_
                            refine s_getZ dX11_readLine_168 rfl fl_11_422 (S_102 hK) ?_
                            refine s_if_ne (tgt := 181) dX11_readLine_171 rfl rfl (fun _ => ?_) (fun _ => ?_)
                            · skip
                              refine s_aload_n 0 dX11_readLine_181 rfl rfl ?_
                              refine s_iconst (v := 2) dX11_readLine_182 rfl cI_2 ?_
                              refine s_callV1_v1 dX11_readLine_183 rfl lkV_RX11_290 (S_102 hK) (Nat.le_of_ble_eq_true rfl) (Nat.le_of_ble_eq_true rfl) (Nat.le_of_ble_eq_true rfl) (ct_x11_wrong hK) (fun I118 => ?_)
                              exact sm_exit (fun f h => h)
                            · skip
                              refine s_aload_n 0 dX11_readLine_174 rfl rfl ?_
                              refine s_callV0_v2 dX11_readLine_175 rfl lkV_RX11_446 (S_102 hK) (Nat.le_of_ble_eq_true rfl) (Nat.le_of_ble_eq_true rfl) (Nat.le_of_ble_eq_true rfl) (ct_x11_readBite hK) (fun I119 L120 => ?_)
                              refine s_goto (tgt := 186) dX11_readLine_178 rfl ?_
                              exact sm_exit (fun f h => h)
                        · skip
                          refine s_aload_n 0 dX11_readLine_150 rfl rfl ?_
                          refine s_callV0_v2 dX11_readLine_151 rfl lkV_RX11_443 (S_102 hK) (Nat.le_of_ble_eq_true rfl) (Nat.le_of_ble_eq_true rfl) (Nat.le_of_ble_eq_true rfl) (ct_x11_readDraw hK) (fun I121 L122 => ?_)
                          refine s_goto (tgt := 186) dX11_readLine_154 rfl ?_
                          exact sm_exit (fun f h => h)
                    · skip
                      refine s_aload_n 0 dX11_readLine_126 rfl rfl ?_
                      refine s_callV0_v2 dX11_readLine_127 rfl lkV_RX11_440 (S_102 hK) (Nat.le_of_ble_eq_true rfl) (Nat.le_of_ble_eq_true rfl) (Nat.le_of_ble_eq_true rfl) (ct_x11_readBobber hK) (fun I123 L124 => ?_)
                      refine s_goto (tgt := 186) dX11_readLine_130 rfl ?_
                      exact sm_exit (fun f h => h)
                · skip
                  refine s_aload_n 0 dX11_readLine_101 rfl rfl ?_
                  refine s_callV0_v2 dX11_readLine_102 rfl lkV_RX11_437 (S_102 hK) (Nat.le_of_ble_eq_true rfl) (Nat.le_of_ble_eq_true rfl) (Nat.le_of_ble_eq_true rfl) (ct_x11_readApple hK) (fun I125 L126 => ?_)
                  refine s_goto (tgt := 186) dX11_readLine_105 rfl ?_
                  exact sm_exit (fun f h => h)
            · skip
              refine s_aload_n 0 dX11_readLine_75 rfl rfl ?_
              refine s_callV0_v2 dX11_readLine_76 rfl lkV_RX11_434 (S_102 hK) (Nat.le_of_ble_eq_true rfl) (Nat.le_of_ble_eq_true rfl) (Nat.le_of_ble_eq_true rfl) (ct_x11_readRule hK) (fun I127 L128 => ?_)
              refine s_goto (tgt := 186) dX11_readLine_79 rfl ?_
              exact sm_exit (fun f h => h)
        · skip
          refine s_aload_n 0 dX11_readLine_49 rfl rfl ?_
          refine s_callV0_v2 dX11_readLine_50 rfl lkV_RX11_431 (S_102 hK) (Nat.le_of_ble_eq_true rfl) (Nat.le_of_ble_eq_true rfl) (Nat.le_of_ble_eq_true rfl) (ct_x11_readOdds hK) (fun I129 L130 => ?_)
          refine s_goto (tgt := 186) dX11_readLine_53 rfl ?_
          exact sm_exit (fun f h => h)
      · skip
        refine s_aload_n 0 dX11_readLine_31 rfl rfl ?_
        refine s_iconst (v := 2) dX11_readLine_32 rfl cI_2 ?_
        refine s_callV1_v1 dX11_readLine_33 rfl lkV_RX11_290 (S_102 hK) (Nat.le_of_ble_eq_true rfl) (Nat.le_of_ble_eq_true rfl) (Nat.le_of_ble_eq_true rfl) (ct_x11_wrong hK) (fun I131 => ?_)
        refine s_goto (tgt := 186) dX11_readLine_36 rfl ?_
        exact sm_exit (fun f h => h)
    · skip
      refine s_aload_n 0 dX11_readLine_10 rfl rfl ?_
      refine s_getI dX11_readLine_11 rfl fl_11_382 (S_102 hK) ?_
      refine s_if_ne (tgt := 24) dX11_readLine_14 rfl rfl (fun _ => ?_) (fun _ => ?_)
      · skip
        refine s_aload_n 0 dX11_readLine_24 rfl rfl ?_
        refine s_getI dX11_readLine_25 rfl fl_11_382 (S_102 hK) ?_
        refine s_if_ne (tgt := 39) dX11_readLine_28 rfl rfl (fun _ => ?_) (fun _ => ?_)
        · skip
          refine s_aload_n 0 dX11_readLine_39 rfl rfl ?_
          refine s_ldc2 (v := 1868850291) dX11_readLine_40 rfl kl_11_231c ?_
          refine s_callV1_i0 dX11_readLine_43 rfl lkV_RX11_283 (S_102 hK) (Nat.le_of_ble_eq_true rfl) (Nat.le_of_ble_eq_true rfl) (Nat.le_of_ble_eq_true rfl) (ct_x11_isWord hK) (fun r132 => ?_)
          refine s_if_eq (tgt := 56) dX11_readLine_46 rfl rfl (fun _ => ?_) (fun _ => ?_)
          · skip
            refine s_aload_n 0 dX11_readLine_56 rfl rfl ?_
            refine s_ldc2 (v := 1920298085) dX11_readLine_57 rfl kl_11_241c ?_
            refine s_callV1_i0 dX11_readLine_60 rfl lkV_RX11_283 (S_102 hK) (Nat.le_of_ble_eq_true rfl) (Nat.le_of_ble_eq_true rfl) (Nat.le_of_ble_eq_true rfl) (ct_x11_isWord hK) (fun r133 => ?_)
            refine s_if_eq (tgt := 82) dX11_readLine_63 rfl rfl (fun _ => ?_) (fun _ => ?_)
            · skip
              refine s_aload_n 0 dX11_readLine_82 rfl rfl ?_
              refine s_ldc2 (v := 418498243685) dX11_readLine_83 rfl kl_11_243c ?_
              refine s_callV1_i0 dX11_readLine_86 rfl lkV_RX11_283 (S_102 hK) (Nat.le_of_ble_eq_true rfl) (Nat.le_of_ble_eq_true rfl) (Nat.le_of_ble_eq_true rfl) (ct_x11_isWord hK) (fun r134 => ?_)
              refine s_if_eq (tgt := 108) dX11_readLine_89 rfl rfl (fun _ => ?_) (fun _ => ?_)
              · skip
                refine s_aload_n 0 dX11_readLine_108 rfl rfl ?_
                refine s_ldc2 (v := 108230531507570) dX11_readLine_109 rfl kl_11_253c ?_
                refine s_callV1_i0 dX11_readLine_112 rfl lkV_RX11_283 (S_102 hK) (Nat.le_of_ble_eq_true rfl) (Nat.le_of_ble_eq_true rfl) (Nat.le_of_ble_eq_true rfl) (ct_x11_isWord hK) (fun r135 => ?_)
                refine s_if_eq (tgt := 133) dX11_readLine_115 rfl rfl (fun _ => ?_) (fun _ => ?_)
                · skip
                  refine s_aload_n 0 dX11_readLine_133 rfl rfl ?_
                  refine s_ldc2 (v := 1685217655) dX11_readLine_134 rfl kl_11_261c ?_
                  refine s_callV1_i0 dX11_readLine_137 rfl lkV_RX11_283 (S_102 hK) (Nat.le_of_ble_eq_true rfl) (Nat.le_of_ble_eq_true rfl) (Nat.le_of_ble_eq_true rfl) (ct_x11_isWord hK) (fun r136 => ?_)
                  refine s_if_eq (tgt := 157) dX11_readLine_140 rfl rfl (fun _ => ?_) (fun _ => ?_)
                  · skip
                    refine s_aload_n 0 dX11_readLine_157 rfl rfl ?_
                    refine s_ldc2 (v := 1651078245) dX11_readLine_158 rfl kl_11_271c ?_
                    refine s_callV1_i0 dX11_readLine_161 rfl lkV_RX11_283 (S_102 hK) (Nat.le_of_ble_eq_true rfl) (Nat.le_of_ble_eq_true rfl) (Nat.le_of_ble_eq_true rfl) (ct_x11_isWord hK) (fun r137 => ?_)
                    refine s_if_eq (tgt := 181) dX11_readLine_164 rfl rfl (fun _ => ?_) (fun _ => ?_)
                    · skip
                      refine s_aload_n 0 dX11_readLine_181 rfl rfl ?_
                      refine s_iconst (v := 2) dX11_readLine_182 rfl cI_2 ?_
                      refine s_callV1_v1 dX11_readLine_183 rfl lkV_RX11_290 (S_102 hK) (Nat.le_of_ble_eq_true rfl) (Nat.le_of_ble_eq_true rfl) (Nat.le_of_ble_eq_true rfl) (ct_x11_wrong hK) (fun I138 => ?_)
                      exact sm_exit (fun f h => h)
                    · skip
                      refine s_aload_n 0 dX11_readLine_167 rfl rfl ?_
                      refine s_getZ dX11_readLine_168 rfl fl_11_422 (S_102 hK) ?_
                      refine s_if_ne (tgt := 181) dX11_readLine_171 rfl rfl (fun _ => ?_) (fun _ => ?_)
                      · skip
                        refine s_aload_n 0 dX11_readLine_181 rfl rfl ?_
                        refine s_iconst (v := 2) dX11_readLine_182 rfl cI_2 ?_
                        refine s_callV1_v1 dX11_readLine_183 rfl lkV_RX11_290 (S_102 hK) (Nat.le_of_ble_eq_true rfl) (Nat.le_of_ble_eq_true rfl) (Nat.le_of_ble_eq_true rfl) (ct_x11_wrong hK) (fun I139 => ?_)
                        exact sm_exit (fun f h => h)
                      · skip
                        refine s_aload_n 0 dX11_readLine_174 rfl rfl ?_
                        refine s_callV0_v2 dX11_readLine_175 rfl lkV_RX11_446 (S_102 hK) (Nat.le_of_ble_eq_true rfl) (Nat.le_of_ble_eq_true rfl) (Nat.le_of_ble_eq_true rfl) (ct_x11_readBite hK) (fun I140 L141 => ?_)
                        refine s_goto (tgt := 186) dX11_readLine_178 rfl ?_
                        exact sm_exit (fun f h => h)
                  · skip
                    refine s_aload_n 0 dX11_readLine_143 rfl rfl ?_
                    refine s_getZ dX11_readLine_144 rfl fl_11_415 (S_102 hK) ?_
                    refine s_if_ne (tgt := 157) dX11_readLine_147 rfl rfl (fun _ => ?_) (fun _ => ?_)
                    · skip
                      refine s_aload_n 0 dX11_readLine_157 rfl rfl ?_
                      refine s_ldc2 (v := 1651078245) dX11_readLine_158 rfl kl_11_271c ?_
                      refine s_callV1_i0 dX11_readLine_161 rfl lkV_RX11_283 (S_102 hK) (Nat.le_of_ble_eq_true rfl) (Nat.le_of_ble_eq_true rfl) (Nat.le_of_ble_eq_true rfl) (ct_x11_isWord hK) (fun r142 => ?_)
                      refine s_if_eq (tgt := 181) dX11_readLine_164 rfl rfl (fun _ => ?_) (fun _ => ?_)
                      · skip
                        refine s_aload_n 0 dX11_readLine_181 rfl rfl ?_
                        refine s_iconst (v := 2) dX11_readLine_182 rfl cI_2 ?_
                        refine s_callV1_v1 dX11_readLine_183 rfl lkV_RX11_290 (S_102 hK) (Nat.le_of_ble_eq_true rfl) (Nat.le_of_ble_eq_true rfl) (Nat.le_of_ble_eq_true rfl) (ct_x11_wrong hK) (fun I143 => ?_)
                        exact sm_exit (fun f h => h)
                      · skip
                        refine s_aload_n 0 dX11_readLine_167 rfl rfl ?_
                        refine s_getZ dX11_readLine_168 rfl fl_11_422 (S_102 hK) ?_
                        refine s_if_ne (tgt := 181) dX11_readLine_171 rfl rfl (fun _ => ?_) (fun _ => ?_)
                        · skip
                          refine s_aload_n 0 dX11_readLine_181 rfl rfl ?_
                          refine s_iconst (v := 2) dX11_readLine_182 rfl cI_2 ?_
                          refine s_callV1_v1 dX11_readLine_183 rfl lkV_RX11_290 (S_102 hK) (Nat.le_of_ble_eq_true rfl) (Nat.le_of_ble_eq_true rfl) (Nat.le_of_ble_eq_true rfl) (ct_x11_wrong hK) (fun I144 => ?_)
                          exact sm_exit (fun f h => h)
                        · skip
                          refine s_aload_n 0 dX11_readLine_174 rfl rfl ?_
                          refine s_callV0_v2 dX11_readLine_175 rfl lkV_RX11_446 (S_102 hK) (Nat.le_of_ble_eq_true rfl) (Nat.le_of_ble_eq_true rfl) (Nat.le_of_ble_eq_true rfl) (ct_x11_readBite hK) (fun I145 L146 => ?_)
                          refine s_goto (tgt := 186) dX11_readLine_178 rfl ?_
                          exact sm_exit (fun f h => h)
                    · skip
                      refine s_aload_n 0 dX11_readLine_150 rfl rfl ?_
                      refine s_callV0_v2 dX11_readLine_151 rfl lkV_RX11_443 (S_102 hK) (Nat.le_of_ble_eq_true rfl) (Nat.le_of_ble_eq_true rfl) (Nat.le_of_ble_eq_true rfl) (ct_x11_readDraw hK) (fun I147 L148 => ?_)
                      refine s_goto (tgt := 186) dX11_readLine_154 rfl ?_
                      exact sm_exit (fun f h => h)
                · skip
                  refine s_aload_n 0 dX11_readLine_118 rfl rfl ?_
                  refine s_getI dX11_readLine_119 rfl fl_11_409 (S_102 hK) ?_
                  refine s_iconst (v := 4) dX11_readLine_122 rfl cI_4 ?_
                  refine s_icmp_ge (tgt := 133) dX11_readLine_123 rfl rfl (fun _ => ?_) (fun _ => ?_)
                  · skip
                    refine s_aload_n 0 dX11_readLine_133 rfl rfl ?_
                    refine s_ldc2 (v := 1685217655) dX11_readLine_134 rfl kl_11_261c ?_
                    refine s_callV1_i0 dX11_readLine_137 rfl lkV_RX11_283 (S_102 hK) (Nat.le_of_ble_eq_true rfl) (Nat.le_of_ble_eq_true rfl) (Nat.le_of_ble_eq_true rfl) (ct_x11_isWord hK) (fun r149 => ?_)
                    refine s_if_eq (tgt := 157) dX11_readLine_140 rfl rfl (fun _ => ?_) (fun _ => ?_)
                    · skip
                      refine s_aload_n 0 dX11_readLine_157 rfl rfl ?_
                      refine s_ldc2 (v := 1651078245) dX11_readLine_158 rfl kl_11_271c ?_
                      refine s_callV1_i0 dX11_readLine_161 rfl lkV_RX11_283 (S_102 hK) (Nat.le_of_ble_eq_true rfl) (Nat.le_of_ble_eq_true rfl) (Nat.le_of_ble_eq_true rfl) (ct_x11_isWord hK) (fun r150 => ?_)
                      refine s_if_eq (tgt := 181) dX11_readLine_164 rfl rfl (fun _ => ?_) (fun _ => ?_)
                      · skip
                        refine s_aload_n 0 dX11_readLine_181 rfl rfl ?_
                        refine s_iconst (v := 2) dX11_readLine_182 rfl cI_2 ?_
                        refine s_callV1_v1 dX11_readLine_183 rfl lkV_RX11_290 (S_102 hK) (Nat.le_of_ble_eq_true rfl) (Nat.le_of_ble_eq_true rfl) (Nat.le_of_ble_eq_true rfl) (ct_x11_wrong hK) (fun I151 => ?_)
                        exact sm_exit (fun f h => h)
                      · skip
                        refine s_aload_n 0 dX11_readLine_167 rfl rfl ?_
                        refine s_getZ dX11_readLine_168 rfl fl_11_422 (S_102 hK) ?_
                        refine s_if_ne (tgt := 181) dX11_readLine_171 rfl rfl (fun _ => ?_) (fun _ => ?_)
                        · skip
                          refine s_aload_n 0 dX11_readLine_181 rfl rfl ?_
                          refine s_iconst (v := 2) dX11_readLine_182 rfl cI_2 ?_
                          refine s_callV1_v1 dX11_readLine_183 rfl lkV_RX11_290 (S_102 hK) (Nat.le_of_ble_eq_true rfl) (Nat.le_of_ble_eq_true rfl) (Nat.le_of_ble_eq_true rfl) (ct_x11_wrong hK) (fun I152 => ?_)
                          exact sm_exit (fun f h => h)
                        · skip
                          refine s_aload_n 0 dX11_readLine_174 rfl rfl ?_
                          refine s_callV0_v2 dX11_readLine_175 rfl lkV_RX11_446 (S_102 hK) (Nat.le_of_ble_eq_true rfl) (Nat.le_of_ble_eq_true rfl) (Nat.le_of_ble_eq_true rfl) (ct_x11_readBite hK) (fun I153 L154 => ?_)
                          refine s_goto (tgt := 186) dX11_readLine_178 rfl ?_
                          exact sm_exit (fun f h => h)
                    · skip
                      refine s_aload_n 0 dX11_readLine_143 rfl rfl ?_
                      refine s_getZ dX11_readLine_144 rfl fl_11_415 (S_102 hK) ?_
                      refine s_if_ne (tgt := 157) dX11_readLine_147 rfl rfl (fun _ => ?_) (fun _ => ?_)
                      · skip
                        refine s_aload_n 0 dX11_readLine_157 rfl rfl ?_
                        refine s_ldc2 (v := 1651078245) dX11_readLine_158 rfl kl_11_271c ?_
                        refine s_callV1_i0 dX11_readLine_161 rfl lkV_RX11_283 (S_102 hK) (Nat.le_of_ble_eq_true rfl) (Nat.le_of_ble_eq_true rfl) (Nat.le_of_ble_eq_true rfl) (ct_x11_isWord hK) (fun r155 => ?_)
                        refine s_if_eq (tgt := 181) dX11_readLine_164 rfl rfl (fun _ => ?_) (fun _ => ?_)
                        · skip
                          refine s_aload_n 0 dX11_readLine_181 rfl rfl ?_
                          refine s_iconst (v := 2) dX11_readLine_182 rfl cI_2 ?_
                          refine s_callV1_v1 dX11_readLine_183 rfl lkV_RX11_290 (S_102 hK) (Nat.le_of_ble_eq_true rfl) (Nat.le_of_ble_eq_true rfl) (Nat.le_of_ble_eq_true rfl) (ct_x11_wrong hK) (fun I156 => ?_)
                          exact sm_exit (fun f h => h)
                        · skip
                          refine s_aload_n 0 dX11_readLine_167 rfl rfl ?_
                          refine s_getZ dX11_readLine_168 rfl fl_11_422 (S_102 hK) ?_
                          refine s_if_ne (tgt := 181) dX11_readLine_171 rfl rfl (fun _ => ?_) (fun _ => ?_)
                          · skip
                            refine s_aload_n 0 dX11_readLine_181 rfl rfl ?_
                            refine s_iconst (v := 2) dX11_readLine_182 rfl cI_2 ?_
                            refine s_callV1_v1 dX11_readLine_183 rfl lkV_RX11_290 (S_102 hK) (Nat.le_of_ble_eq_true rfl) (Nat.le_of_ble_eq_true rfl) (Nat.le_of_ble_eq_true rfl) (ct_x11_wrong hK) (fun I157 => ?_)
                            exact sm_exit (fun f h => h)
                          · skip
                            refine s_aload_n 0 dX11_readLine_174 rfl rfl ?_
                            refine s_callV0_v2 dX11_readLine_175 rfl lkV_RX11_446 (S_102 hK) (Nat.le_of_ble_eq_true rfl) (Nat.le_of_ble_eq_true rfl) (Nat.le_of_ble_eq_true rfl) (ct_x11_readBite hK) (fun I158 L159 => ?_)
                            refine s_goto (tgt := 186) dX11_readLine_178 rfl ?_
                            exact sm_exit (fun f h => h)
                      · skip
                        refine s_aload_n 0 dX11_readLine_150 rfl rfl ?_
                        refine s_callV0_v2 dX11_readLine_151 rfl lkV_RX11_443 (S_102 hK) (Nat.le_of_ble_eq_true rfl) (Nat.le_of_ble_eq_true rfl) (Nat.le_of_ble_eq_true rfl) (ct_x11_readDraw hK) (fun I160 L161 => ?_)
                        refine s_goto (tgt := 186) dX11_readLine_154 rfl ?_
                        exact sm_exit (fun f h => h)
                  · skip
                    refine s_aload_n 0 dX11_readLine_126 rfl rfl ?_
                    refine s_callV0_v2 dX11_readLine_127 rfl lkV_RX11_440 (S_102 hK) (Nat.le_of_ble_eq_true rfl) (Nat.le_of_ble_eq_true rfl) (Nat.le_of_ble_eq_true rfl) (ct_x11_readBobber hK) (fun I162 L163 => ?_)
                    refine s_goto (tgt := 186) dX11_readLine_130 rfl ?_
                    exact sm_exit (fun f h => h)
              · skip
                refine s_aload_n 0 dX11_readLine_92 rfl rfl ?_
                refine s_getI dX11_readLine_93 rfl fl_11_400 (S_102 hK) ?_
                refine s_bipush (v := 10) dX11_readLine_96 rfl cB_10 ?_
                refine s_icmp_ge (tgt := 108) dX11_readLine_98 rfl rfl (fun _ => ?_) (fun _ => ?_)
                · skip
                  refine s_aload_n 0 dX11_readLine_108 rfl rfl ?_
                  refine s_ldc2 (v := 108230531507570) dX11_readLine_109 rfl kl_11_253c ?_
                  refine s_callV1_i0 dX11_readLine_112 rfl lkV_RX11_283 (S_102 hK) (Nat.le_of_ble_eq_true rfl) (Nat.le_of_ble_eq_true rfl) (Nat.le_of_ble_eq_true rfl) (ct_x11_isWord hK) (fun r164 => ?_)
                  refine s_if_eq (tgt := 133) dX11_readLine_115 rfl rfl (fun _ => ?_) (fun _ => ?_)
                  · skip
                    refine s_aload_n 0 dX11_readLine_133 rfl rfl ?_
                    refine s_ldc2 (v := 1685217655) dX11_readLine_134 rfl kl_11_261c ?_
                    refine s_callV1_i0 dX11_readLine_137 rfl lkV_RX11_283 (S_102 hK) (Nat.le_of_ble_eq_true rfl) (Nat.le_of_ble_eq_true rfl) (Nat.le_of_ble_eq_true rfl) (ct_x11_isWord hK) (fun r165 => ?_)
                    refine s_if_eq (tgt := 157) dX11_readLine_140 rfl rfl (fun _ => ?_) (fun _ => ?_)
                    · skip
                      refine s_aload_n 0 dX11_readLine_157 rfl rfl ?_
                      refine s_ldc2 (v := 1651078245) dX11_readLine_158 rfl kl_11_271c ?_
                      refine s_callV1_i0 dX11_readLine_161 rfl lkV_RX11_283 (S_102 hK) (Nat.le_of_ble_eq_true rfl) (Nat.le_of_ble_eq_true rfl) (Nat.le_of_ble_eq_true rfl) (ct_x11_isWord hK) (fun r166 => ?_)
                      refine s_if_eq (tgt := 181) dX11_readLine_164 rfl rfl (fun _ => ?_) (fun _ => ?_)
                      · skip
                        refine s_aload_n 0 dX11_readLine_181 rfl rfl ?_
                        refine s_iconst (v := 2) dX11_readLine_182 rfl cI_2 ?_
                        refine s_callV1_v1 dX11_readLine_183 rfl lkV_RX11_290 (S_102 hK) (Nat.le_of_ble_eq_true rfl) (Nat.le_of_ble_eq_true rfl) (Nat.le_of_ble_eq_true rfl) (ct_x11_wrong hK) (fun I167 => ?_)
                        exact sm_exit (fun f h => h)
                      · skip
                        refine s_aload_n 0 dX11_readLine_167 rfl rfl ?_
                        refine s_getZ dX11_readLine_168 rfl fl_11_422 (S_102 hK) ?_
                        refine s_if_ne (tgt := 181) dX11_readLine_171 rfl rfl (fun _ => ?_) (fun _ => ?_)
                        · skip
                          refine s_aload_n 0 dX11_readLine_181 rfl rfl ?_
                          refine s_iconst (v := 2) dX11_readLine_182 rfl cI_2 ?_
                          refine s_callV1_v1 dX11_readLine_183 rfl lkV_RX11_290 (S_102 hK) (Nat.le_of_ble_eq_true rfl) (Nat.le_of_ble_eq_true rfl) (Nat.le_of_ble_eq_true rfl) (ct_x11_wrong hK) (fun I168 => ?_)
                          exact sm_exit (fun f h => h)
                        · skip
                          refine s_aload_n 0 dX11_readLine_174 rfl rfl ?_
                          refine s_callV0_v2 dX11_readLine_175 rfl lkV_RX11_446 (S_102 hK) (Nat.le_of_ble_eq_true rfl) (Nat.le_of_ble_eq_true rfl) (Nat.le_of_ble_eq_true rfl) (ct_x11_readBite hK) (fun I169 L170 => ?_)
                          refine s_goto (tgt := 186) dX11_readLine_178 rfl ?_
                          exact sm_exit (fun f h => h)
                    · skip
                      refine s_aload_n 0 dX11_readLine_143 rfl rfl ?_
                      refine s_getZ dX11_readLine_144 rfl fl_11_415 (S_102 hK) ?_
                      refine s_if_ne (tgt := 157) dX11_readLine_147 rfl rfl (fun _ => ?_) (fun _ => ?_)
                      · skip
                        refine s_aload_n 0 dX11_readLine_157 rfl rfl ?_
                        refine s_ldc2 (v := 1651078245) dX11_readLine_158 rfl kl_11_271c ?_
                        refine s_callV1_i0 dX11_readLine_161 rfl lkV_RX11_283 (S_102 hK) (Nat.le_of_ble_eq_true rfl) (Nat.le_of_ble_eq_true rfl) (Nat.le_of_ble_eq_true rfl) (ct_x11_isWord hK) (fun r171 => ?_)
                        refine s_if_eq (tgt := 181) dX11_readLine_164 rfl rfl (fun _ => ?_) (fun _ => ?_)
                        · skip
                          refine s_aload_n 0 dX11_readLine_181 rfl rfl ?_
                          refine s_iconst (v := 2) dX11_readLine_182 rfl cI_2 ?_
                          refine s_callV1_v1 dX11_readLine_183 rfl lkV_RX11_290 (S_102 hK) (Nat.le_of_ble_eq_true rfl) (Nat.le_of_ble_eq_true rfl) (Nat.le_of_ble_eq_true rfl) (ct_x11_wrong hK) (fun I172 => ?_)
                          exact sm_exit (fun f h => h)
                        · skip
                          refine s_aload_n 0 dX11_readLine_167 rfl rfl ?_
                          refine s_getZ dX11_readLine_168 rfl fl_11_422 (S_102 hK) ?_
                          refine s_if_ne (tgt := 181) dX11_readLine_171 rfl rfl (fun _ => ?_) (fun _ => ?_)
                          · skip
                            refine s_aload_n 0 dX11_readLine_181 rfl rfl ?_
                            refine s_iconst (v := 2) dX11_readLine_182 rfl cI_2 ?_
                            refine s_callV1_v1 dX11_readLine_183 rfl lkV_RX11_290 (S_102 hK) (Nat.le_of_ble_eq_true rfl) (Nat.le_of_ble_eq_true rfl) (Nat.le_of_ble_eq_true rfl) (ct_x11_wrong hK) (fun I173 => ?_)
                            exact sm_exit (fun f h => h)
                          · skip
                            refine s_aload_n 0 dX11_readLine_174 rfl rfl ?_
                            refine s_callV0_v2 dX11_readLine_175 rfl lkV_RX11_446 (S_102 hK) (Nat.le_of_ble_eq_true rfl) (Nat.le_of_ble_eq_true rfl) (Nat.le_of_ble_eq_true rfl) (ct_x11_readBite hK) (fun I174 L175 => ?_)
                            refine s_goto (tgt := 186) dX11_readLine_178 rfl ?_
                            exact sm_exit (fun f h => h)
                      · skip
                        refine s_aload_n 0 dX11_readLine_150 rfl rfl ?_
                        refine s_callV0_v2 dX11_readLine_151 rfl lkV_RX11_443 (S_102 hK) (Nat.le_of_ble_eq_true rfl) (Nat.le_of_ble_eq_true rfl) (Nat.le_of_ble_eq_true rfl) (ct_x11_readDraw hK) (fun I176 L177 => ?_)
                        refine s_goto (tgt := 186) dX11_readLine_154 rfl ?_
                        exact sm_exit (fun f h => h)
                  · skip
                    refine s_aload_n 0 dX11_readLine_118 rfl rfl ?_
                    refine s_getI dX11_readLine_119 rfl fl_11_409 (S_102 hK) ?_
                    refine s_iconst (v := 4) dX11_readLine_122 rfl cI_4 ?_
                    refine s_icmp_ge (tgt := 133) dX11_readLine_123 rfl rfl (fun _ => ?_) (fun _ => ?_)
                    · skip
                      refine s_aload_n 0 dX11_readLine_133 rfl rfl ?_
                      refine s_ldc2 (v := 1685217655) dX11_readLine_134 rfl kl_11_261c ?_
                      refine s_callV1_i0 dX11_readLine_137 rfl lkV_RX11_283 (S_102 hK) (Nat.le_of_ble_eq_true rfl) (Nat.le_of_ble_eq_true rfl) (Nat.le_of_ble_eq_true rfl) (ct_x11_isWord hK) (fun r178 => ?_)
                      refine s_if_eq (tgt := 157) dX11_readLine_140 rfl rfl (fun _ => ?_) (fun _ => ?_)
                      · skip
                        refine s_aload_n 0 dX11_readLine_157 rfl rfl ?_
                        refine s_ldc2 (v := 1651078245) dX11_readLine_158 rfl kl_11_271c ?_
                        refine s_callV1_i0 dX11_readLine_161 rfl lkV_RX11_283 (S_102 hK) (Nat.le_of_ble_eq_true rfl) (Nat.le_of_ble_eq_true rfl) (Nat.le_of_ble_eq_true rfl) (ct_x11_isWord hK) (fun r179 => ?_)
                        refine s_if_eq (tgt := 181) dX11_readLine_164 rfl rfl (fun _ => ?_) (fun _ => ?_)
                        · skip
                          refine s_aload_n 0 dX11_readLine_181 rfl rfl ?_
                          refine s_iconst (v := 2) dX11_readLine_182 rfl cI_2 ?_
                          refine s_callV1_v1 dX11_readLine_183 rfl lkV_RX11_290 (S_102 hK) (Nat.le_of_ble_eq_true rfl) (Nat.le_of_ble_eq_true rfl) (Nat.le_of_ble_eq_true rfl) (ct_x11_wrong hK) (fun I180 => ?_)
                          exact sm_exit (fun f h => h)
                        · skip
                          refine s_aload_n 0 dX11_readLine_167 rfl rfl ?_
                          refine s_getZ dX11_readLine_168 rfl fl_11_422 (S_102 hK) ?_
                          refine s_if_ne (tgt := 181) dX11_readLine_171 rfl rfl (fun _ => ?_) (fun _ => ?_)
                          · skip
                            refine s_aload_n 0 dX11_readLine_181 rfl rfl ?_
                            refine s_iconst (v := 2) dX11_readLine_182 rfl cI_2 ?_
                            refine s_callV1_v1 dX11_readLine_183 rfl lkV_RX11_290 (S_102 hK) (Nat.le_of_ble_eq_true rfl) (Nat.le_of_ble_eq_true rfl) (Nat.le_of_ble_eq_true rfl) (ct_x11_wrong hK) (fun I181 => ?_)
                            exact sm_exit (fun f h => h)
                          · skip
                            refine s_aload_n 0 dX11_readLine_174 rfl rfl ?_
                            refine s_callV0_v2 dX11_readLine_175 rfl lkV_RX11_446 (S_102 hK) (Nat.le_of_ble_eq_true rfl) (Nat.le_of_ble_eq_true rfl) (Nat.le_of_ble_eq_true rfl) (ct_x11_readBite hK) (fun I182 L183 => ?_)
                            refine s_goto (tgt := 186) dX11_readLine_178 rfl ?_
                            exact sm_exit (fun f h => h)
                      · skip
                        refine s_aload_n 0 dX11_readLine_143 rfl rfl ?_
                        refine s_getZ dX11_readLine_144 rfl fl_11_415 (S_102 hK) ?_
                        refine s_if_ne (tgt := 157) dX11_readLine_147 rfl rfl (fun _ => ?_) (fun _ => ?_)
                        · skip
                          refine s_aload_n 0 dX11_readLine_157 rfl rfl ?_
                          refine s_ldc2 (v := 1651078245) dX11_readLine_158 rfl kl_11_271c ?_
                          refine s_callV1_i0 dX11_readLine_161 rfl lkV_RX11_283 (S_102 hK) (Nat.le_of_ble_eq_true rfl) (Nat.le_of_ble_eq_true rfl) (Nat.le_of_ble_eq_true rfl) (ct_x11_isWord hK) (fun r184 => ?_)
                          refine s_if_eq (tgt := 181) dX11_readLine_164 rfl rfl (fun _ => ?_) (fun _ => ?_)
                          · skip
                            refine s_aload_n 0 dX11_readLine_181 rfl rfl ?_
                            refine s_iconst (v := 2) dX11_readLine_182 rfl cI_2 ?_
                            refine s_callV1_v1 dX11_readLine_183 rfl lkV_RX11_290 (S_102 hK) (Nat.le_of_ble_eq_true rfl) (Nat.le_of_ble_eq_true rfl) (Nat.le_of_ble_eq_true rfl) (ct_x11_wrong hK) (fun I185 => ?_)
                            exact sm_exit (fun f h => h)
                          · skip
                            refine s_aload_n 0 dX11_readLine_167 rfl rfl ?_
                            refine s_getZ dX11_readLine_168 rfl fl_11_422 (S_102 hK) ?_
                            refine s_if_ne (tgt := 181) dX11_readLine_171 rfl rfl (fun _ => ?_) (fun _ => ?_)
                            · skip
                              refine s_aload_n 0 dX11_readLine_181 rfl rfl ?_
                              refine s_iconst (v := 2) dX11_readLine_182 rfl cI_2 ?_
                              refine s_callV1_v1 dX11_readLine_183 rfl lkV_RX11_290 (S_102 hK) (Nat.le_of_ble_eq_true rfl) (Nat.le_of_ble_eq_true rfl) (Nat.le_of_ble_eq_true rfl) (ct_x11_wrong hK) (fun I186 => ?_)
                              exact sm_exit (fun f h => h)
                            · skip
                              refine s_aload_n 0 dX11_readLine_174 rfl rfl ?_
                              refine s_callV0_v2 dX11_readLine_175 rfl lkV_RX11_446 (S_102 hK) (Nat.le_of_ble_eq_true rfl) (Nat.le_of_ble_eq_true rfl) (Nat.le_of_ble_eq_true rfl) (ct_x11_readBite hK) (fun I187 L188 => ?_)
                              refine s_goto (tgt := 186) dX11_readLine_178 rfl ?_
                              exact sm_exit (fun f h => h)
                        · skip
                          refine s_aload_n 0 dX11_readLine_150 rfl rfl ?_
                          refine s_callV0_v2 dX11_readLine_151 rfl lkV_RX11_443 (S_102 hK) (Nat.le_of_ble_eq_true rfl) (Nat.le_of_ble_eq_true rfl) (Nat.le_of_ble_eq_true rfl) (ct_x11_readDraw hK) (fun I189 L190 => ?_)
                          refine s_goto (tgt := 186) dX11_readLine_154 rfl ?_
                          exact sm_exit (fun f h => h)
                    · skip
                      refine s_aload_n 0 dX11_readLine_126 rfl rfl ?_
                      refine s_callV0_v2 dX11_readLine_127 rfl lkV_RX11_440 (S_102 hK) (Nat.le_of_ble_eq_true rfl) (Nat.le_of_ble_eq_true rfl) (Nat.le_of_ble_eq_true rfl) (ct_x11_readBobber hK) (fun I191 L192 => ?_)
                      refine s_goto (tgt := 186) dX11_readLine_130 rfl ?_
                      exact sm_exit (fun f h => h)
                · skip
                  refine s_aload_n 0 dX11_readLine_101 rfl rfl ?_
                  refine s_callV0_v2 dX11_readLine_102 rfl lkV_RX11_437 (S_102 hK) (Nat.le_of_ble_eq_true rfl) (Nat.le_of_ble_eq_true rfl) (Nat.le_of_ble_eq_true rfl) (ct_x11_readApple hK) (fun I193 L194 => ?_)
                  refine s_goto (tgt := 186) dX11_readLine_105 rfl ?_
                  exact sm_exit (fun f h => h)
            · skip
              refine s_aload_n 0 dX11_readLine_66 rfl rfl ?_
              refine s_getI dX11_readLine_67 rfl fl_11_394 (S_102 hK) ?_
              refine s_bipush (v := 6) dX11_readLine_70 rfl cB_6 ?_
              refine s_icmp_ge (tgt := 82) dX11_readLine_72 rfl rfl (fun _ => ?_) (fun _ => ?_)
              · skip
                refine s_aload_n 0 dX11_readLine_82 rfl rfl ?_
                refine s_ldc2 (v := 418498243685) dX11_readLine_83 rfl kl_11_243c ?_
                refine s_callV1_i0 dX11_readLine_86 rfl lkV_RX11_283 (S_102 hK) (Nat.le_of_ble_eq_true rfl) (Nat.le_of_ble_eq_true rfl) (Nat.le_of_ble_eq_true rfl) (ct_x11_isWord hK) (fun r195 => ?_)
                refine s_if_eq (tgt := 108) dX11_readLine_89 rfl rfl (fun _ => ?_) (fun _ => ?_)
                · skip
                  refine s_aload_n 0 dX11_readLine_108 rfl rfl ?_
                  refine s_ldc2 (v := 108230531507570) dX11_readLine_109 rfl kl_11_253c ?_
                  refine s_callV1_i0 dX11_readLine_112 rfl lkV_RX11_283 (S_102 hK) (Nat.le_of_ble_eq_true rfl) (Nat.le_of_ble_eq_true rfl) (Nat.le_of_ble_eq_true rfl) (ct_x11_isWord hK) (fun r196 => ?_)
                  refine s_if_eq (tgt := 133) dX11_readLine_115 rfl rfl (fun _ => ?_) (fun _ => ?_)
                  · skip
                    refine s_aload_n 0 dX11_readLine_133 rfl rfl ?_
                    refine s_ldc2 (v := 1685217655) dX11_readLine_134 rfl kl_11_261c ?_
                    refine s_callV1_i0 dX11_readLine_137 rfl lkV_RX11_283 (S_102 hK) (Nat.le_of_ble_eq_true rfl) (Nat.le_of_ble_eq_true rfl) (Nat.le_of_ble_eq_true rfl) (ct_x11_isWord hK) (fun r197 => ?_)
                    refine s_if_eq (tgt := 157) dX11_readLine_140 rfl rfl (fun _ => ?_) (fun _ => ?_)
                    · skip
                      refine s_aload_n 0 dX11_readLine_157 rfl rfl ?_
                      refine s_ldc2 (v := 1651078245) dX11_readLine_158 rfl kl_11_271c ?_
                      refine s_callV1_i0 dX11_readLine_161 rfl lkV_RX11_283 (S_102 hK) (Nat.le_of_ble_eq_true rfl) (Nat.le_of_ble_eq_true rfl) (Nat.le_of_ble_eq_true rfl) (ct_x11_isWord hK) (fun r198 => ?_)
                      refine s_if_eq (tgt := 181) dX11_readLine_164 rfl rfl (fun _ => ?_) (fun _ => ?_)
                      · skip
                        refine s_aload_n 0 dX11_readLine_181 rfl rfl ?_
                        refine s_iconst (v := 2) dX11_readLine_182 rfl cI_2 ?_
                        refine s_callV1_v1 dX11_readLine_183 rfl lkV_RX11_290 (S_102 hK) (Nat.le_of_ble_eq_true rfl) (Nat.le_of_ble_eq_true rfl) (Nat.le_of_ble_eq_true rfl) (ct_x11_wrong hK) (fun I199 => ?_)
                        exact sm_exit (fun f h => h)
                      · skip
                        refine s_aload_n 0 dX11_readLine_167 rfl rfl ?_
                        refine s_getZ dX11_readLine_168 rfl fl_11_422 (S_102 hK) ?_
                        refine s_if_ne (tgt := 181) dX11_readLine_171 rfl rfl (fun _ => ?_) (fun _ => ?_)
                        · skip
                          refine s_aload_n 0 dX11_readLine_181 rfl rfl ?_
                          refine s_iconst (v := 2) dX11_readLine_182 rfl cI_2 ?_
                          refine s_callV1_v1 dX11_readLine_183 rfl lkV_RX11_290 (S_102 hK) (Nat.le_of_ble_eq_true rfl) (Nat.le_of_ble_eq_true rfl) (Nat.le_of_ble_eq_true rfl) (ct_x11_wrong hK) (fun I200 => ?_)
                          exact sm_exit (fun f h => h)
                        · skip
                          refine s_aload_n 0 dX11_readLine_174 rfl rfl ?_
                          refine s_callV0_v2 dX11_readLine_175 rfl lkV_RX11_446 (S_102 hK) (Nat.le_of_ble_eq_true rfl) (Nat.le_of_ble_eq_true rfl) (Nat.le_of_ble_eq_true rfl) (ct_x11_readBite hK) (fun I201 L202 => ?_)
                          refine s_goto (tgt := 186) dX11_readLine_178 rfl ?_
                          exact sm_exit (fun f h => h)
                    · skip
                      refine s_aload_n 0 dX11_readLine_143 rfl rfl ?_
                      refine s_getZ dX11_readLine_144 rfl fl_11_415 (S_102 hK) ?_
                      refine s_if_ne (tgt := 157) dX11_readLine_147 rfl rfl (fun _ => ?_) (fun _ => ?_)
                      · skip
                        refine s_aload_n 0 dX11_readLine_157 rfl rfl ?_
                        refine s_ldc2 (v := 1651078245) dX11_readLine_158 rfl kl_11_271c ?_
                        refine s_callV1_i0 dX11_readLine_161 rfl lkV_RX11_283 (S_102 hK) (Nat.le_of_ble_eq_true rfl) (Nat.le_of_ble_eq_true rfl) (Nat.le_of_ble_eq_true rfl) (ct_x11_isWord hK) (fun r203 => ?_)
                        refine s_if_eq (tgt := 181) dX11_readLine_164 rfl rfl (fun _ => ?_) (fun _ => ?_)
                        · skip
                          refine s_aload_n 0 dX11_readLine_181 rfl rfl ?_
                          refine s_iconst (v := 2) dX11_readLine_182 rfl cI_2 ?_
                          refine s_callV1_v1 dX11_readLine_183 rfl lkV_RX11_290 (S_102 hK) (Nat.le_of_ble_eq_true rfl) (Nat.le_of_ble_eq_true rfl) (Nat.le_of_ble_eq_true rfl) (ct_x11_wrong hK) (fun I204 => ?_)
                          exact sm_exit (fun f h => h)
                        · skip
                          refine s_aload_n 0 dX11_readLine_167 rfl rfl ?_
                          refine s_getZ dX11_readLine_168 rfl fl_11_422 (S_102 hK) ?_
                          refine s_if_ne (tgt := 181) dX11_readLine_171 rfl rfl (fun _ => ?_) (fun _ => ?_)
                          · skip
                            refine s_aload_n 0 dX11_readLine_181 rfl rfl ?_
                            refine s_iconst (v := 2) dX11_readLine_182 rfl cI_2 ?_
                            refine s_callV1_v1 dX11_readLine_183 rfl lkV_RX11_290 (S_102 hK) (Nat.le_of_ble_eq_true rfl) (Nat.le_of_ble_eq_true rfl) (Nat.le_of_ble_eq_true rfl) (ct_x11_wrong hK) (fun I205 => ?_)
                            exact sm_exit (fun f h => h)
                          · skip
                            refine s_aload_n 0 dX11_readLine_174 rfl rfl ?_
                            refine s_callV0_v2 dX11_readLine_175 rfl lkV_RX11_446 (S_102 hK) (Nat.le_of_ble_eq_true rfl) (Nat.le_of_ble_eq_true rfl) (Nat.le_of_ble_eq_true rfl) (ct_x11_readBite hK) (fun I206 L207 => ?_)
                            refine s_goto (tgt := 186) dX11_readLine_178 rfl ?_
                            exact sm_exit (fun f h => h)
                      · skip
                        refine s_aload_n 0 dX11_readLine_150 rfl rfl ?_
                        refine s_callV0_v2 dX11_readLine_151 rfl lkV_RX11_443 (S_102 hK) (Nat.le_of_ble_eq_true rfl) (Nat.le_of_ble_eq_true rfl) (Nat.le_of_ble_eq_true rfl) (ct_x11_readDraw hK) (fun I208 L209 => ?_)
                        refine s_goto (tgt := 186) dX11_readLine_154 rfl ?_
                        exact sm_exit (fun f h => h)
                  · skip
                    refine s_aload_n 0 dX11_readLine_118 rfl rfl ?_
                    refine s_getI dX11_readLine_119 rfl fl_11_409 (S_102 hK) ?_
                    refine s_iconst (v := 4) dX11_readLine_122 rfl cI_4 ?_
                    refine s_icmp_ge (tgt := 133) dX11_readLine_123 rfl rfl (fun _ => ?_) (fun _ => ?_)
                    · skip
                      refine s_aload_n 0 dX11_readLine_133 rfl rfl ?_
                      refine s_ldc2 (v := 1685217655) dX11_readLine_134 rfl kl_11_261c ?_
                      refine s_callV1_i0 dX11_readLine_137 rfl lkV_RX11_283 (S_102 hK) (Nat.le_of_ble_eq_true rfl) (Nat.le_of_ble_eq_true rfl) (Nat.le_of_ble_eq_true rfl) (ct_x11_isWord hK) (fun r210 => ?_)
                      refine s_if_eq (tgt := 157) dX11_readLine_140 rfl rfl (fun _ => ?_) (fun _ => ?_)
                      · skip
                        refine s_aload_n 0 dX11_readLine_157 rfl rfl ?_
                        refine s_ldc2 (v := 1651078245) dX11_readLine_158 rfl kl_11_271c ?_
                        refine s_callV1_i0 dX11_readLine_161 rfl lkV_RX11_283 (S_102 hK) (Nat.le_of_ble_eq_true rfl) (Nat.le_of_ble_eq_true rfl) (Nat.le_of_ble_eq_true rfl) (ct_x11_isWord hK) (fun r211 => ?_)
                        refine s_if_eq (tgt := 181) dX11_readLine_164 rfl rfl (fun _ => ?_) (fun _ => ?_)
                        · skip
                          refine s_aload_n 0 dX11_readLine_181 rfl rfl ?_
                          refine s_iconst (v := 2) dX11_readLine_182 rfl cI_2 ?_
                          refine s_callV1_v1 dX11_readLine_183 rfl lkV_RX11_290 (S_102 hK) (Nat.le_of_ble_eq_true rfl) (Nat.le_of_ble_eq_true rfl) (Nat.le_of_ble_eq_true rfl) (ct_x11_wrong hK) (fun I212 => ?_)
                          exact sm_exit (fun f h => h)
                        · skip
                          refine s_aload_n 0 dX11_readLine_167 rfl rfl ?_
                          refine s_getZ dX11_readLine_168 rfl fl_11_422 (S_102 hK) ?_
                          refine s_if_ne (tgt := 181) dX11_readLine_171 rfl rfl (fun _ => ?_) (fun _ => ?_)
                          · skip
                            refine s_aload_n 0 dX11_readLine_181 rfl rfl ?_
                            refine s_iconst (v := 2) dX11_readLine_182 rfl cI_2 ?_
                            refine s_callV1_v1 dX11_readLine_183 rfl lkV_RX11_290 (S_102 hK) (Nat.le_of_ble_eq_true rfl) (Nat.le_of_ble_eq_true rfl) (Nat.le_of_ble_eq_true rfl) (ct_x11_wrong hK) (fun I213 => ?_)
                            exact sm_exit (fun f h => h)
                          · skip
                            refine s_aload_n 0 dX11_readLine_174 rfl rfl ?_
                            refine s_callV0_v2 dX11_readLine_175 rfl lkV_RX11_446 (S_102 hK) (Nat.le_of_ble_eq_true rfl) (Nat.le_of_ble_eq_true rfl) (Nat.le_of_ble_eq_true rfl) (ct_x11_readBite hK) (fun I214 L215 => ?_)
                            refine s_goto (tgt := 186) dX11_readLine_178 rfl ?_
                            exact sm_exit (fun f h => h)
                      · skip
                        refine s_aload_n 0 dX11_readLine_143 rfl rfl ?_
                        refine s_getZ dX11_readLine_144 rfl fl_11_415 (S_102 hK) ?_
                        refine s_if_ne (tgt := 157) dX11_readLine_147 rfl rfl (fun _ => ?_) (fun _ => ?_)
                        · skip
                          refine s_aload_n 0 dX11_readLine_157 rfl rfl ?_
                          refine s_ldc2 (v := 1651078245) dX11_readLine_158 rfl kl_11_271c ?_
                          refine s_callV1_i0 dX11_readLine_161 rfl lkV_RX11_283 (S_102 hK) (Nat.le_of_ble_eq_true rfl) (Nat.le_of_ble_eq_true rfl) (Nat.le_of_ble_eq_true rfl) (ct_x11_isWord hK) (fun r216 => ?_)
                          refine s_if_eq (tgt := 181) dX11_readLine_164 rfl rfl (fun _ => ?_) (fun _ => ?_)
                          · skip
                            refine s_aload_n 0 dX11_readLine_181 rfl rfl ?_
                            refine s_iconst (v := 2) dX11_readLine_182 rfl cI_2 ?_
                            refine s_callV1_v1 dX11_readLine_183 rfl lkV_RX11_290 (S_102 hK) (Nat.le_of_ble_eq_true rfl) (Nat.le_of_ble_eq_true rfl) (Nat.le_of_ble_eq_true rfl) (ct_x11_wrong hK) (fun I217 => ?_)
                            exact sm_exit (fun f h => h)
                          · skip
                            refine s_aload_n 0 dX11_readLine_167 rfl rfl ?_
                            refine s_getZ dX11_readLine_168 rfl fl_11_422 (S_102 hK) ?_
                            refine s_if_ne (tgt := 181) dX11_readLine_171 rfl rfl (fun _ => ?_) (fun _ => ?_)
                            · skip
                              refine s_aload_n 0 dX11_readLine_181 rfl rfl ?_
                              refine s_iconst (v := 2) dX11_readLine_182 rfl cI_2 ?_
                              refine s_callV1_v1 dX11_readLine_183 rfl lkV_RX11_290 (S_102 hK) (Nat.le_of_ble_eq_true rfl) (Nat.le_of_ble_eq_true rfl) (Nat.le_of_ble_eq_true rfl) (ct_x11_wrong hK) (fun I218 => ?_)
                              exact sm_exit (fun f h => h)
                            · skip
                              refine s_aload_n 0 dX11_readLine_174 rfl rfl ?_
                              refine s_callV0_v2 dX11_readLine_175 rfl lkV_RX11_446 (S_102 hK) (Nat.le_of_ble_eq_true rfl) (Nat.le_of_ble_eq_true rfl) (Nat.le_of_ble_eq_true rfl) (ct_x11_readBite hK) (fun I219 L220 => ?_)
                              refine s_goto (tgt := 186) dX11_readLine_178 rfl ?_
                              exact sm_exit (fun f h => h)
                        · skip
                          refine s_aload_n 0 dX11_readLine_150 rfl rfl ?_
                          refine s_callV0_v2 dX11_readLine_151 rfl lkV_RX11_443 (S_102 hK) (Nat.le_of_ble_eq_true rfl) (Nat.le_of_ble_eq_true rfl) (Nat.le_of_ble_eq_true rfl) (ct_x11_readDraw hK) (fun I221 L222 => ?_)
                          refine s_goto (tgt := 186) dX11_readLine_154 rfl ?_
                          exact sm_exit (fun f h => h)
                    · skip
                      refine s_aload_n 0 dX11_readLine_126 rfl rfl ?_
                      refine s_callV0_v2 dX11_readLine_127 rfl lkV_RX11_440 (S_102 hK) (Nat.le_of_ble_eq_true rfl) (Nat.le_of_ble_eq_true rfl) (Nat.le_of_ble_eq_true rfl) (ct_x11_readBobber hK) (fun I223 L224 => ?_)
                      refine s_goto (tgt := 186) dX11_readLine_130 rfl ?_
                      exact sm_exit (fun f h => h)
                · skip
                  refine s_aload_n 0 dX11_readLine_92 rfl rfl ?_
                  refine s_getI dX11_readLine_93 rfl fl_11_400 (S_102 hK) ?_
                  refine s_bipush (v := 10) dX11_readLine_96 rfl cB_10 ?_
                  refine s_icmp_ge (tgt := 108) dX11_readLine_98 rfl rfl (fun _ => ?_) (fun _ => ?_)
                  · skip
                    refine s_aload_n 0 dX11_readLine_108 rfl rfl ?_
                    refine s_ldc2 (v := 108230531507570) dX11_readLine_109 rfl kl_11_253c ?_
                    refine s_callV1_i0 dX11_readLine_112 rfl lkV_RX11_283 (S_102 hK) (Nat.le_of_ble_eq_true rfl) (Nat.le_of_ble_eq_true rfl) (Nat.le_of_ble_eq_true rfl) (ct_x11_isWord hK) (fun r225 => ?_)
                    refine s_if_eq (tgt := 133) dX11_readLine_115 rfl rfl (fun _ => ?_) (fun _ => ?_)
                    · skip
                      refine s_aload_n 0 dX11_readLine_133 rfl rfl ?_
                      refine s_ldc2 (v := 1685217655) dX11_readLine_134 rfl kl_11_261c ?_
                      refine s_callV1_i0 dX11_readLine_137 rfl lkV_RX11_283 (S_102 hK) (Nat.le_of_ble_eq_true rfl) (Nat.le_of_ble_eq_true rfl) (Nat.le_of_ble_eq_true rfl) (ct_x11_isWord hK) (fun r226 => ?_)
                      refine s_if_eq (tgt := 157) dX11_readLine_140 rfl rfl (fun _ => ?_) (fun _ => ?_)
                      · skip
                        refine s_aload_n 0 dX11_readLine_157 rfl rfl ?_
                        refine s_ldc2 (v := 1651078245) dX11_readLine_158 rfl kl_11_271c ?_
                        refine s_callV1_i0 dX11_readLine_161 rfl lkV_RX11_283 (S_102 hK) (Nat.le_of_ble_eq_true rfl) (Nat.le_of_ble_eq_true rfl) (Nat.le_of_ble_eq_true rfl) (ct_x11_isWord hK) (fun r227 => ?_)
                        refine s_if_eq (tgt := 181) dX11_readLine_164 rfl rfl (fun _ => ?_) (fun _ => ?_)
                        · skip
                          refine s_aload_n 0 dX11_readLine_181 rfl rfl ?_
                          refine s_iconst (v := 2) dX11_readLine_182 rfl cI_2 ?_
                          refine s_callV1_v1 dX11_readLine_183 rfl lkV_RX11_290 (S_102 hK) (Nat.le_of_ble_eq_true rfl) (Nat.le_of_ble_eq_true rfl) (Nat.le_of_ble_eq_true rfl) (ct_x11_wrong hK) (fun I228 => ?_)
                          exact sm_exit (fun f h => h)
                        · skip
                          refine s_aload_n 0 dX11_readLine_167 rfl rfl ?_
                          refine s_getZ dX11_readLine_168 rfl fl_11_422 (S_102 hK) ?_
                          refine s_if_ne (tgt := 181) dX11_readLine_171 rfl rfl (fun _ => ?_) (fun _ => ?_)
                          · skip
                            refine s_aload_n 0 dX11_readLine_181 rfl rfl ?_
                            refine s_iconst (v := 2) dX11_readLine_182 rfl cI_2 ?_
                            refine s_callV1_v1 dX11_readLine_183 rfl lkV_RX11_290 (S_102 hK) (Nat.le_of_ble_eq_true rfl) (Nat.le_of_ble_eq_true rfl) (Nat.le_of_ble_eq_true rfl) (ct_x11_wrong hK) (fun I229 => ?_)
                            exact sm_exit (fun f h => h)
                          · skip
                            refine s_aload_n 0 dX11_readLine_174 rfl rfl ?_
                            refine s_callV0_v2 dX11_readLine_175 rfl lkV_RX11_446 (S_102 hK) (Nat.le_of_ble_eq_true rfl) (Nat.le_of_ble_eq_true rfl) (Nat.le_of_ble_eq_true rfl) (ct_x11_readBite hK) (fun I230 L231 => ?_)
                            refine s_goto (tgt := 186) dX11_readLine_178 rfl ?_
                            exact sm_exit (fun f h => h)
                      · skip
                        refine s_aload_n 0 dX11_readLine_143 rfl rfl ?_
                        refine s_getZ dX11_readLine_144 rfl fl_11_415 (S_102 hK) ?_
                        refine s_if_ne (tgt := 157) dX11_readLine_147 rfl rfl (fun _ => ?_) (fun _ => ?_)
                        · skip
                          refine s_aload_n 0 dX11_readLine_157 rfl rfl ?_
                          refine s_ldc2 (v := 1651078245) dX11_readLine_158 rfl kl_11_271c ?_
                          refine s_callV1_i0 dX11_readLine_161 rfl lkV_RX11_283 (S_102 hK) (Nat.le_of_ble_eq_true rfl) (Nat.le_of_ble_eq_true rfl) (Nat.le_of_ble_eq_true rfl) (ct_x11_isWord hK) (fun r232 => ?_)
                          refine s_if_eq (tgt := 181) dX11_readLine_164 rfl rfl (fun _ => ?_) (fun _ => ?_)
                          · skip
                            refine s_aload_n 0 dX11_readLine_181 rfl rfl ?_
                            refine s_iconst (v := 2) dX11_readLine_182 rfl cI_2 ?_
                            refine s_callV1_v1 dX11_readLine_183 rfl lkV_RX11_290 (S_102 hK) (Nat.le_of_ble_eq_true rfl) (Nat.le_of_ble_eq_true rfl) (Nat.le_of_ble_eq_true rfl) (ct_x11_wrong hK) (fun I233 => ?_)
                            exact sm_exit (fun f h => h)
                          · skip
                            refine s_aload_n 0 dX11_readLine_167 rfl rfl ?_
                            refine s_getZ dX11_readLine_168 rfl fl_11_422 (S_102 hK) ?_
                            refine s_if_ne (tgt := 181) dX11_readLine_171 rfl rfl (fun _ => ?_) (fun _ => ?_)
                            · skip
                              refine s_aload_n 0 dX11_readLine_181 rfl rfl ?_
                              refine s_iconst (v := 2) dX11_readLine_182 rfl cI_2 ?_
                              refine s_callV1_v1 dX11_readLine_183 rfl lkV_RX11_290 (S_102 hK) (Nat.le_of_ble_eq_true rfl) (Nat.le_of_ble_eq_true rfl) (Nat.le_of_ble_eq_true rfl) (ct_x11_wrong hK) (fun I234 => ?_)
                              exact sm_exit (fun f h => h)
                            · skip
                              refine s_aload_n 0 dX11_readLine_174 rfl rfl ?_
                              refine s_callV0_v2 dX11_readLine_175 rfl lkV_RX11_446 (S_102 hK) (Nat.le_of_ble_eq_true rfl) (Nat.le_of_ble_eq_true rfl) (Nat.le_of_ble_eq_true rfl) (ct_x11_readBite hK) (fun I235 L236 => ?_)
                              refine s_goto (tgt := 186) dX11_readLine_178 rfl ?_
                              exact sm_exit (fun f h => h)
                        · skip
                          refine s_aload_n 0 dX11_readLine_150 rfl rfl ?_
                          refine s_callV0_v2 dX11_readLine_151 rfl lkV_RX11_443 (S_102 hK) (Nat.le_of_ble_eq_true rfl) (Nat.le_of_ble_eq_true rfl) (Nat.le_of_ble_eq_true rfl) (ct_x11_readDraw hK) (fun I237 L238 => ?_)
                          refine s_goto (tgt := 186) dX11_readLine_154 rfl ?_
                          exact sm_exit (fun f h => h)
                    · skip
                      refine s_aload_n 0 dX11_readLine_118 rfl rfl ?_
                      refine s_getI dX11_readLine_119 rfl fl_11_409 (S_102 hK) ?_
                      refine s_iconst (v := 4) dX11_readLine_122 rfl cI_4 ?_
                      refine s_icmp_ge (tgt := 133) dX11_readLine_123 rfl rfl (fun _ => ?_) (fun _ => ?_)
                      · skip
                        refine s_aload_n 0 dX11_readLine_133 rfl rfl ?_
                        refine s_ldc2 (v := 1685217655) dX11_readLine_134 rfl kl_11_261c ?_
                        refine s_callV1_i0 dX11_readLine_137 rfl lkV_RX11_283 (S_102 hK) (Nat.le_of_ble_eq_true rfl) (Nat.le_of_ble_eq_true rfl) (Nat.le_of_ble_eq_true rfl) (ct_x11_isWord hK) (fun r239 => ?_)
                        refine s_if_eq (tgt := 157) dX11_readLine_140 rfl rfl (fun _ => ?_) (fun _ => ?_)
                        · skip
                          refine s_aload_n 0 dX11_readLine_157 rfl rfl ?_
                          refine s_ldc2 (v := 1651078245) dX11_readLine_158 rfl kl_11_271c ?_
                          refine s_callV1_i0 dX11_readLine_161 rfl lkV_RX11_283 (S_102 hK) (Nat.le_of_ble_eq_true rfl) (Nat.le_of_ble_eq_true rfl) (Nat.le_of_ble_eq_true rfl) (ct_x11_isWord hK) (fun r240 => ?_)
                          refine s_if_eq (tgt := 181) dX11_readLine_164 rfl rfl (fun _ => ?_) (fun _ => ?_)
                          · skip
                            refine s_aload_n 0 dX11_readLine_181 rfl rfl ?_
                            refine s_iconst (v := 2) dX11_readLine_182 rfl cI_2 ?_
                            refine s_callV1_v1 dX11_readLine_183 rfl lkV_RX11_290 (S_102 hK) (Nat.le_of_ble_eq_true rfl) (Nat.le_of_ble_eq_true rfl) (Nat.le_of_ble_eq_true rfl) (ct_x11_wrong hK) (fun I241 => ?_)
                            exact sm_exit (fun f h => h)
                          · skip
                            refine s_aload_n 0 dX11_readLine_167 rfl rfl ?_
                            refine s_getZ dX11_readLine_168 rfl fl_11_422 (S_102 hK) ?_
                            refine s_if_ne (tgt := 181) dX11_readLine_171 rfl rfl (fun _ => ?_) (fun _ => ?_)
                            · skip
                              refine s_aload_n 0 dX11_readLine_181 rfl rfl ?_
                              refine s_iconst (v := 2) dX11_readLine_182 rfl cI_2 ?_
                              refine s_callV1_v1 dX11_readLine_183 rfl lkV_RX11_290 (S_102 hK) (Nat.le_of_ble_eq_true rfl) (Nat.le_of_ble_eq_true rfl) (Nat.le_of_ble_eq_true rfl) (ct_x11_wrong hK) (fun I242 => ?_)
                              exact sm_exit (fun f h => h)
                            · skip
                              refine s_aload_n 0 dX11_readLine_174 rfl rfl ?_
                              refine s_callV0_v2 dX11_readLine_175 rfl lkV_RX11_446 (S_102 hK) (Nat.le_of_ble_eq_true rfl) (Nat.le_of_ble_eq_true rfl) (Nat.le_of_ble_eq_true rfl) (ct_x11_readBite hK) (fun I243 L244 => ?_)
                              refine s_goto (tgt := 186) dX11_readLine_178 rfl ?_
                              exact sm_exit (fun f h => h)
                        · skip
                          refine s_aload_n 0 dX11_readLine_143 rfl rfl ?_
                          refine s_getZ dX11_readLine_144 rfl fl_11_415 (S_102 hK) ?_
                          refine s_if_ne (tgt := 157) dX11_readLine_147 rfl rfl (fun _ => ?_) (fun _ => ?_)
                          · skip
                            refine s_aload_n 0 dX11_readLine_157 rfl rfl ?_
                            refine s_ldc2 (v := 1651078245) dX11_readLine_158 rfl kl_11_271c ?_
                            refine s_callV1_i0 dX11_readLine_161 rfl lkV_RX11_283 (S_102 hK) (Nat.le_of_ble_eq_true rfl) (Nat.le_of_ble_eq_true rfl) (Nat.le_of_ble_eq_true rfl) (ct_x11_isWord hK) (fun r245 => ?_)
                            refine s_if_eq (tgt := 181) dX11_readLine_164 rfl rfl (fun _ => ?_) (fun _ => ?_)
                            · skip
                              refine s_aload_n 0 dX11_readLine_181 rfl rfl ?_
                              refine s_iconst (v := 2) dX11_readLine_182 rfl cI_2 ?_
                              refine s_callV1_v1 dX11_readLine_183 rfl lkV_RX11_290 (S_102 hK) (Nat.le_of_ble_eq_true rfl) (Nat.le_of_ble_eq_true rfl) (Nat.le_of_ble_eq_true rfl) (ct_x11_wrong hK) (fun I246 => ?_)
                              exact sm_exit (fun f h => h)
                            · skip
                              refine s_aload_n 0 dX11_readLine_167 rfl rfl ?_
                              refine s_getZ dX11_readLine_168 rfl fl_11_422 (S_102 hK) ?_
                              refine s_if_ne (tgt := 181) dX11_readLine_171 rfl rfl (fun _ => ?_) (fun _ => ?_)
                              · skip
                                refine s_aload_n 0 dX11_readLine_181 rfl rfl ?_
                                refine s_iconst (v := 2) dX11_readLine_182 rfl cI_2 ?_
                                refine s_callV1_v1 dX11_readLine_183 rfl lkV_RX11_290 (S_102 hK) (Nat.le_of_ble_eq_true rfl) (Nat.le_of_ble_eq_true rfl) (Nat.le_of_ble_eq_true rfl) (ct_x11_wrong hK) (fun I247 => ?_)
                                exact sm_exit (fun f h => h)
                              · skip
                                refine s_aload_n 0 dX11_readLine_174 rfl rfl ?_
                                refine s_callV0_v2 dX11_readLine_175 rfl lkV_RX11_446 (S_102 hK) (Nat.le_of_ble_eq_true rfl) (Nat.le_of_ble_eq_true rfl) (Nat.le_of_ble_eq_true rfl) (ct_x11_readBite hK) (fun I248 L249 => ?_)
                                refine s_goto (tgt := 186) dX11_readLine_178 rfl ?_
                                exact sm_exit (fun f h => h)
                          · skip
                            refine s_aload_n 0 dX11_readLine_150 rfl rfl ?_
                            refine s_callV0_v2 dX11_readLine_151 rfl lkV_RX11_443 (S_102 hK) (Nat.le_of_ble_eq_true rfl) (Nat.le_of_ble_eq_true rfl) (Nat.le_of_ble_eq_true rfl) (ct_x11_readDraw hK) (fun I250 L251 => ?_)
                            refine s_goto (tgt := 186) dX11_readLine_154 rfl ?_
                            exact sm_exit (fun f h => h)
                      · skip
                        refine s_aload_n 0 dX11_readLine_126 rfl rfl ?_
                        refine s_callV0_v2 dX11_readLine_127 rfl lkV_RX11_440 (S_102 hK) (Nat.le_of_ble_eq_true rfl) (Nat.le_of_ble_eq_true rfl) (Nat.le_of_ble_eq_true rfl) (ct_x11_readBobber hK) (fun I252 L253 => ?_)
                        refine s_goto (tgt := 186) dX11_readLine_130 rfl ?_
                        exact sm_exit (fun f h => h)
                  · skip
                    refine s_aload_n 0 dX11_readLine_101 rfl rfl ?_
                    refine s_callV0_v2 dX11_readLine_102 rfl lkV_RX11_437 (S_102 hK) (Nat.le_of_ble_eq_true rfl) (Nat.le_of_ble_eq_true rfl) (Nat.le_of_ble_eq_true rfl) (ct_x11_readApple hK) (fun I254 L255 => ?_)
                    refine s_goto (tgt := 186) dX11_readLine_105 rfl ?_
                    exact sm_exit (fun f h => h)
              · skip
                refine s_aload_n 0 dX11_readLine_75 rfl rfl ?_
                refine s_callV0_v2 dX11_readLine_76 rfl lkV_RX11_434 (S_102 hK) (Nat.le_of_ble_eq_true rfl) (Nat.le_of_ble_eq_true rfl) (Nat.le_of_ble_eq_true rfl) (ct_x11_readRule hK) (fun I256 L257 => ?_)
                refine s_goto (tgt := 186) dX11_readLine_79 rfl ?_
                exact sm_exit (fun f h => h)
          · skip
            refine s_aload_n 0 dX11_readLine_49 rfl rfl ?_
            refine s_callV0_v2 dX11_readLine_50 rfl lkV_RX11_431 (S_102 hK) (Nat.le_of_ble_eq_true rfl) (Nat.le_of_ble_eq_true rfl) (Nat.le_of_ble_eq_true rfl) (ct_x11_readOdds hK) (fun I258 L259 => ?_)
            refine s_goto (tgt := 186) dX11_readLine_53 rfl ?_
            exact sm_exit (fun f h => h)
        · skip
          refine s_aload_n 0 dX11_readLine_31 rfl rfl ?_
          refine s_iconst (v := 2) dX11_readLine_32 rfl cI_2 ?_
          refine s_callV1_v1 dX11_readLine_33 rfl lkV_RX11_290 (S_102 hK) (Nat.le_of_ble_eq_true rfl) (Nat.le_of_ble_eq_true rfl) (Nat.le_of_ble_eq_true rfl) (ct_x11_wrong hK) (fun I260 => ?_)
          refine s_goto (tgt := 186) dX11_readLine_36 rfl ?_
          exact sm_exit (fun f h => h)
      · skip
        refine s_aload_n 0 dX11_readLine_17 rfl rfl ?_
        refine s_callV0_v2 dX11_readLine_18 rfl lkV_RX11_428 (S_102 hK) (Nat.le_of_ble_eq_true rfl) (Nat.le_of_ble_eq_true rfl) (Nat.le_of_ble_eq_true rfl) (ct_x11_readTub hK) (fun I261 L262 => ?_)
        refine s_goto (tgt := 186) dX11_readLine_21 rfl ?_
        exact sm_exit (fun f h => h)
  · skip
    refine s_aload_n 0 dX11_readLine_186 rfl rfl ?_
    refine s_getI dX11_readLine_187 rfl fl_11_224 (S_102 hK) ?_
    refine sm_reg (pcx := 207) (lsx := fun e263 => [(0, .ref (X.1 + 102))]) (stx := fun e263 => []) (ux := fun e263 => (e263, e2.2, R, S)) ?_ (fun e263 => ?_)
    · skip
      refine s_if_ne (tgt := 207) dX11_readLine_190 rfl rfl (fun _ => ?_) (fun _ => ?_)
      · skip
        exact sm_exit (fun f h => h)
      · skip
        refine s_aload_n 0 dX11_readLine_193 rfl rfl ?_
        refine s_getI dX11_readLine_194 rfl fl_11_211 (S_102 hK) ?_
        refine s_bipush (v := 59) dX11_readLine_197 rfl cB_59 ?_
        refine s_icmp_eq (tgt := 207) dX11_readLine_199 rfl rfl (fun _ => ?_) (fun _ => ?_)
        · skip
          exact sm_exit (fun f h => h)
        · skip
          refine s_aload_n 0 dX11_readLine_202 rfl rfl ?_
          refine s_iconst (v := 2) dX11_readLine_203 rfl cI_2 ?_
          refine s_callV1_v1 dX11_readLine_204 rfl lkV_RX11_290 (S_102 hK) (Nat.le_of_ble_eq_true rfl) (Nat.le_of_ble_eq_true rfl) (Nat.le_of_ble_eq_true rfl) (ct_x11_wrong hK) (fun I264 => ?_)
          exact sm_exit (fun f h => h)
    · skip
      refine s_aload_n 0 dX11_readLine_207 rfl rfl ?_
      refine s_getI dX11_readLine_208 rfl fl_11_224 (S_102 hK) ?_
      refine s_if_ne (tgt := 218) dX11_readLine_211 rfl rfl (fun _ => ?_) (fun _ => ?_)
      · skip
        exact s_vret dX11_readLine_218 rfl (fun f h => h)
      · skip
        refine s_aload_n 0 dX11_readLine_214 rfl rfl ?_
        refine s_callV0_v2 dX11_readLine_215 rfl lkV_RX11_287 (S_102 hK) (Nat.le_of_ble_eq_true rfl) (Nat.le_of_ble_eq_true rfl) (Nat.le_of_ble_eq_true rfl) (ct_x11_token hK) (fun I265 L266 => ?_)
        exact s_vret dX11_readLine_218 rfl (fun f h => h)
