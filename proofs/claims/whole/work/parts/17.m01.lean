noncomputable def x11_isName (I : MI) (L : ML) : Option (Int32) :=
if (I 102 6) = 1 then (
b1 (x11_isOwn I L) fun r1 =>
if r1 = 0 then (
some (1 : Int32)) else
some (0 : Int32)) else
some (0 : Int32)
theorem ct_x11_isName {X : WX} {I : MI} {L : ML} {R : MR} {S : MS} (hK : okm R S) : Ct X yX11_isName cX11_isName 1 (some .boolean) 1 20 [.ref (X.1 + 102)] (I, L, R, S) (x11_isName I L) (fun r => (some (.int r), (I, L, R, S))) := by
  refine Ct.of (by decide) (Nat.le_of_ble_eq_true rfl) [(0, .ref (X.1 + 102))] rfl ?_
  unfold x11_isName
  refine s_aload_n 0 dX11_isName_0 rfl rfl ?_
  refine s_getI dX11_isName_1 rfl fl_11_211 (S_102 hK) ?_
  refine s_iconst (v := 1) dX11_isName_4 rfl cI_1 ?_
  refine s_icmp_ne (tgt := 19) dX11_isName_5 rfl rfl (fun _ => ?_) (fun _ => ?_)
  · skip
    refine s_iconst (v := 0) dX11_isName_19 rfl cI_0 ?_
    exact s_zret dX11_isName_20 rfl (Or.inl rfl) (fun f h => h)
  · skip
    refine s_aload_n 0 dX11_isName_8 rfl rfl ?_
    refine s_callV0_i0 dX11_isName_9 rfl lkV_RX11_279 (S_102 hK) (Nat.le_of_ble_eq_true rfl) (Nat.le_of_ble_eq_true rfl) (Nat.le_of_ble_eq_true rfl) (ct_x11_isOwn hK) (fun r1 => ?_)
    refine s_if_ne (tgt := 19) dX11_isName_12 rfl rfl (fun _ => ?_) (fun _ => ?_)
    · skip
      refine s_iconst (v := 0) dX11_isName_19 rfl cI_0 ?_
      exact s_zret dX11_isName_20 rfl (Or.inl rfl) (fun f h => h)
    · skip
      refine s_iconst (v := 1) dX11_isName_15 rfl cI_1 ?_
      refine s_goto (tgt := 20) dX11_isName_16 rfl ?_
      exact s_zret dX11_isName_20 rfl (Or.inr rfl) (fun f h => h)
noncomputable def x11_takes (p1 : Int64) (I : MI) (L : ML) : Option (Int32 × MI × ML) :=
b1 (
if (I 102 2) = 0 then (
b1 (x11_isWord p1 I L) fun r2 =>
if r2 = 0 then (
some (0 : Int32)) else
some (1 : Int32)) else
some (0 : Int32)) fun e1 =>
lt e1 fun v3 =>
if v3 = 0 then (
ck (v3 = 0 ∨ v3 = 1) (some (v3, I, L))) else
b2 (x11_token I L) fun I5 L6 =>
ck (v3 = 0 ∨ v3 = 1) (some (v3, I5, L6))
theorem ct_x11_takes {X : WX} {p1 : Int64} {I : MI} {L : ML} {R : MR} {S : MS} (hK : okm R S) : Ct X yX11_takes cX11_takes 4 (some .boolean) 2 43 [.ref (X.1 + 102), .long p1] (I, L, R, S) (x11_takes p1 I L) (fun r => (some (.int r.1), (r.2.1, r.2.2, R, S))) := by
  refine Ct.of (by decide) (Nat.le_of_ble_eq_true rfl) [(0, .ref (X.1 + 102)), (1, .long p1)] rfl ?_
  unfold x11_takes
  refine s_aload_n 0 dX11_takes_0 rfl rfl ?_
  refine s_getI dX11_takes_1 rfl fl_11_224 (S_102 hK) ?_
  refine sm_reg (pcx := 20) (lsx := fun e1 => [(0, .ref (X.1 + 102))]) (stx := fun e1 => [.int e1]) (ux := fun e1 => (I, L, R, S)) ?_ (fun e1 => ?_)
  · skip
    refine s_if_ne (tgt := 19) dX11_takes_4 rfl rfl (fun _ => ?_) (fun _ => ?_)
    · skip
      refine s_iconst (v := 0) dX11_takes_19 rfl cI_0 ?_
      refine s_pick [0] rfl ?_
      exact sm_exit (fun f h => h)
    · skip
      refine s_aload_n 0 dX11_takes_7 rfl rfl ?_
      refine s_lload_n 1 dX11_takes_8 rfl rfl ?_
      refine s_callV1_i0 dX11_takes_9 rfl lkV_RX11_283 (S_102 hK) (Nat.le_of_ble_eq_true rfl) (Nat.le_of_ble_eq_true rfl) (Nat.le_of_ble_eq_true rfl) (ct_x11_isWord hK) (fun r2 => ?_)
      refine s_if_eq (tgt := 19) dX11_takes_12 rfl rfl (fun _ => ?_) (fun _ => ?_)
      · skip
        refine s_iconst (v := 0) dX11_takes_19 rfl cI_0 ?_
        refine s_pick [0] rfl ?_
        exact sm_exit (fun f h => h)
      · skip
        refine s_iconst (v := 1) dX11_takes_15 rfl cI_1 ?_
        refine s_goto (tgt := 20) dX11_takes_16 rfl ?_
        refine s_pick [0] rfl ?_
        exact sm_exit (fun f h => h)
  · skip
    refine s_istore_nL (fun v3 => [(3, .int v3), (0, .ref (X.1 + 102))]) dX11_takes_20 rfl (by decide) (fun _ => rfl) (fun v3 => ?_)
    refine s_iload_n 0 dX11_takes_21 rfl rfl ?_
    refine s_if_eq (tgt := 29) dX11_takes_22 rfl rfl (fun _ => ?_) (fun _ => ?_)
    · skip
      refine s_iload_n 0 dX11_takes_29 rfl rfl ?_
      refine sm_ck (fun g4 => ?_)
      exact s_zret dX11_takes_30 rfl g4 (fun f h => h)
    · skip
      refine s_aload_n 1 dX11_takes_25 rfl rfl ?_
      refine s_callV0_v2 dX11_takes_26 rfl lkV_RX11_287 (S_102 hK) (Nat.le_of_ble_eq_true rfl) (Nat.le_of_ble_eq_true rfl) (Nat.le_of_ble_eq_true rfl) (ct_x11_token hK) (fun I5 L6 => ?_)
      refine s_iload_n 0 dX11_takes_29 rfl rfl ?_
      refine sm_ck (fun g7 => ?_)
      exact s_zret dX11_takes_30 rfl g7 (fun f h => h)
noncomputable def x11_want (p1 : Int64) (I : MI) (L : ML) : Option (MI × ML) :=
if 0 < (I 102 2) then (
some (I, L)) else
b1 (x11_isWord p1 I L) fun r1 =>
if r1 = 0 then (
b1 (x11_wrong (2 : Int32) I) fun I4 =>
some (I4, L)) else
b2 (x11_token I L) fun I2 L3 =>
some (I2, L3)
theorem ct_x11_want {X : WX} {p1 : Int64} {I : MI} {L : ML} {R : MR} {S : MS} (hK : okm R S) : Ct X yX11_want cX11_want 3 none 2 43 [.ref (X.1 + 102), .long p1] (I, L, R, S) (x11_want p1 I L) (fun r => (none, (r.1, r.2, R, S))) := by
  refine Ct.of (by decide) (Nat.le_of_ble_eq_true rfl) [(0, .ref (X.1 + 102)), (1, .long p1)] rfl ?_
  unfold x11_want
  refine s_aload_n 0 dX11_want_0 rfl rfl ?_
  refine s_getI dX11_want_1 rfl fl_11_224 (S_102 hK) ?_
  refine s_if_le (tgt := 8) dX11_want_4 rfl rfl (fun _ => ?_) (fun _ => ?_)
  · skip
    refine s_aload_n 0 dX11_want_8 rfl rfl ?_
    refine s_lload_n 1 dX11_want_9 rfl rfl ?_
    refine s_callV1_i0 dX11_want_10 rfl lkV_RX11_283 (S_102 hK) (Nat.le_of_ble_eq_true rfl) (Nat.le_of_ble_eq_true rfl) (Nat.le_of_ble_eq_true rfl) (ct_x11_isWord hK) (fun r1 => ?_)
    refine s_if_ne (tgt := 24) dX11_want_13 rfl rfl (fun _ => ?_) (fun _ => ?_)
    · skip
      refine s_aload_n 0 dX11_want_24 rfl rfl ?_
      refine s_callV0_v2 dX11_want_25 rfl lkV_RX11_287 (S_102 hK) (Nat.le_of_ble_eq_true rfl) (Nat.le_of_ble_eq_true rfl) (Nat.le_of_ble_eq_true rfl) (ct_x11_token hK) (fun I2 L3 => ?_)
      exact s_vret dX11_want_28 rfl (fun f h => h)
    · skip
      refine s_aload_n 0 dX11_want_16 rfl rfl ?_
      refine s_iconst (v := 2) dX11_want_17 rfl cI_2 ?_
      refine s_callV1_v1 dX11_want_18 rfl lkV_RX11_290 (S_102 hK) (Nat.le_of_ble_eq_true rfl) (Nat.le_of_ble_eq_true rfl) (Nat.le_of_ble_eq_true rfl) (ct_x11_wrong hK) (fun I4 => ?_)
      refine s_goto (tgt := 28) dX11_want_21 rfl ?_
      exact s_vret dX11_want_28 rfl (fun f h => h)
  · skip
    exact s_vret dX11_want_7 rfl (fun f h => h)
noncomputable def x11_toldNumber (p1 : Int32) (p2 : Int32) (I : MI) (L : ML) : Option (Int32 × MI × ML) :=
if 0 < (I 102 2) then (
some ((0 : Int32), I, L)) else
b1 (
if (I 102 6) = 2 then (
if (I 102 8) < p1 then (
b1 (x11_wrong (4 : Int32) I) fun I2 =>
some I2) else
if p2 < (I 102 8) then (
b1 (x11_wrong (4 : Int32) I) fun I3 =>
some I3) else
some I) else
b1 (x11_wrong (2 : Int32) I) fun I4 =>
some I4) fun e1 =>
lt (e1 102 8) fun v5 =>
if (e1 102 2) = 0 then (
b2 (x11_token e1 L) fun I6 L7 =>
some (v5, I6, L7)) else
some (v5, e1, L)
theorem ct_x11_toldNumber {X : WX} {p1 : Int32} {p2 : Int32} {I : MI} {L : ML} {R : MR} {S : MS} (hK : okm R S) : Ct X yX11_toldNumber cX11_toldNumber 4 (some .int) 2 43 [.ref (X.1 + 102), .int p1, .int p2] (I, L, R, S) (x11_toldNumber p1 p2 I L) (fun r => (some (.int r.1), (r.2.1, r.2.2, R, S))) := by
  refine Ct.of (by decide) (Nat.le_of_ble_eq_true rfl) [(0, .ref (X.1 + 102)), (1, .int p1), (2, .int p2)] rfl ?_
  unfold x11_toldNumber
  refine s_aload_n 0 dX11_toldNumber_0 rfl rfl ?_
  refine s_getI dX11_toldNumber_1 rfl fl_11_224 (S_102 hK) ?_
  refine s_if_le (tgt := 9) dX11_toldNumber_4 rfl rfl (fun _ => ?_) (fun _ => ?_)
  · skip
    refine s_aload_n 0 dX11_toldNumber_9 rfl rfl ?_
    refine s_getI dX11_toldNumber_10 rfl fl_11_211 (S_102 hK) ?_
    refine s_iconst (v := 2) dX11_toldNumber_13 rfl cI_2 ?_
    refine sm_reg (pcx := 46) (lsx := fun e1 => [(0, .ref (X.1 + 102))]) (stx := fun e1 => []) (ux := fun e1 => (e1, L, R, S)) ?_ (fun e1 => ?_)
    · skip
      refine s_icmp_eq (tgt := 25) dX11_toldNumber_14 rfl rfl (fun _ => ?_) (fun _ => ?_)
      · skip
        refine s_aload_n 0 dX11_toldNumber_25 rfl rfl ?_
        refine s_getI dX11_toldNumber_26 rfl fl_11_208 (S_102 hK) ?_
        refine s_iload_n 1 dX11_toldNumber_29 rfl rfl ?_
        refine s_icmp_lt (tgt := 41) dX11_toldNumber_30 rfl rfl (fun _ => ?_) (fun _ => ?_)
        · skip
          refine s_aload_n 0 dX11_toldNumber_41 rfl rfl ?_
          refine s_iconst (v := 4) dX11_toldNumber_42 rfl cI_4 ?_
          refine s_callV1_v1 dX11_toldNumber_43 rfl lkV_RX11_290 (S_102 hK) (Nat.le_of_ble_eq_true rfl) (Nat.le_of_ble_eq_true rfl) (Nat.le_of_ble_eq_true rfl) (ct_x11_wrong hK) (fun I2 => ?_)
          refine s_pick [0] rfl ?_
          exact sm_exit (fun f h => h)
        · skip
          refine s_aload_n 0 dX11_toldNumber_33 rfl rfl ?_
          refine s_getI dX11_toldNumber_34 rfl fl_11_208 (S_102 hK) ?_
          refine s_iload_n 2 dX11_toldNumber_37 rfl rfl ?_
          refine s_icmp_le (tgt := 46) dX11_toldNumber_38 rfl rfl (fun _ => ?_) (fun _ => ?_)
          · skip
            refine s_pick [0] rfl ?_
            exact sm_exit (fun f h => h)
          · skip
            refine s_aload_n 0 dX11_toldNumber_41 rfl rfl ?_
            refine s_iconst (v := 4) dX11_toldNumber_42 rfl cI_4 ?_
            refine s_callV1_v1 dX11_toldNumber_43 rfl lkV_RX11_290 (S_102 hK) (Nat.le_of_ble_eq_true rfl) (Nat.le_of_ble_eq_true rfl) (Nat.le_of_ble_eq_true rfl) (ct_x11_wrong hK) (fun I3 => ?_)
            refine s_pick [0] rfl ?_
            exact sm_exit (fun f h => h)
      · skip
        refine s_aload_n 0 dX11_toldNumber_17 rfl rfl ?_
        refine s_iconst (v := 2) dX11_toldNumber_18 rfl cI_2 ?_
        refine s_callV1_v1 dX11_toldNumber_19 rfl lkV_RX11_290 (S_102 hK) (Nat.le_of_ble_eq_true rfl) (Nat.le_of_ble_eq_true rfl) (Nat.le_of_ble_eq_true rfl) (ct_x11_wrong hK) (fun I4 => ?_)
        refine s_goto (tgt := 46) dX11_toldNumber_22 rfl ?_
        refine s_pick [0] rfl ?_
        exact sm_exit (fun f h => h)
    · skip
      refine s_aload_n 0 dX11_toldNumber_46 rfl rfl ?_
      refine s_getI dX11_toldNumber_47 rfl fl_11_208 (S_102 hK) ?_
      refine s_istore_nL (fun v5 => [(3, .int v5), (0, .ref (X.1 + 102))]) dX11_toldNumber_50 rfl (by decide) (fun _ => rfl) (fun v5 => ?_)
      refine s_aload_n 1 dX11_toldNumber_51 rfl rfl ?_
      refine s_getI dX11_toldNumber_52 rfl fl_11_224 (S_102 hK) ?_
      refine s_if_ne (tgt := 62) dX11_toldNumber_55 rfl rfl (fun _ => ?_) (fun _ => ?_)
      · skip
        refine s_iload_n 0 dX11_toldNumber_62 rfl rfl ?_
        exact s_iret dX11_toldNumber_63 rfl (fun f h => h)
      · skip
        refine s_aload_n 1 dX11_toldNumber_58 rfl rfl ?_
        refine s_callV0_v2 dX11_toldNumber_59 rfl lkV_RX11_287 (S_102 hK) (Nat.le_of_ble_eq_true rfl) (Nat.le_of_ble_eq_true rfl) (Nat.le_of_ble_eq_true rfl) (ct_x11_token hK) (fun I6 L7 => ?_)
        refine s_iload_n 0 dX11_toldNumber_62 rfl rfl ?_
        exact s_iret dX11_toldNumber_63 rfl (fun f h => h)
  · skip
    refine s_iconst (v := 0) dX11_toldNumber_7 rfl cI_0 ?_
    exact s_iret dX11_toldNumber_8 rfl (fun f h => h)
noncomputable def x11_told (p1 : Int64) (p3 : Int32) (p4 : Int32) (I : MI) (L : ML) : Option (Int32 × MI × ML) :=
b2 (x11_want p1 I L) fun I1 L2 =>
b3 (x11_toldNumber p3 p4 I1 L2) fun r3 I4 L5 =>
some (r3, I4, L5)
theorem ct_x11_told {X : WX} {p1 : Int64} {p3 : Int32} {p4 : Int32} {I : MI} {L : ML} {R : MR} {S : MS} (hK : okm R S) : Ct X yX11_told cX11_told 5 (some .int) 3 66 [.ref (X.1 + 102), .long p1, .int p3, .int p4] (I, L, R, S) (x11_told p1 p3 p4 I L) (fun r => (some (.int r.1), (r.2.1, r.2.2, R, S))) := by
  refine Ct.of (by decide) (Nat.le_of_ble_eq_true rfl) [(0, .ref (X.1 + 102)), (1, .long p1), (3, .int p3), (4, .int p4)] rfl ?_
  unfold x11_told
  refine s_aload_n 0 dX11_told_0 rfl rfl ?_
  refine s_lload_n 1 dX11_told_1 rfl rfl ?_
  refine s_callV1_v2 dX11_told_2 rfl lkV_RX11_293 (S_102 hK) (Nat.le_of_ble_eq_true rfl) (Nat.le_of_ble_eq_true rfl) (Nat.le_of_ble_eq_true rfl) (ct_x11_want hK) (fun I1 L2 => ?_)
  refine s_aload_n 0 dX11_told_5 rfl rfl ?_
  refine s_iload_n 2 dX11_told_6 rfl rfl ?_
  refine s_iload 3 dX11_told_7 rfl rfl ?_
  refine s_callV2_i2 dX11_told_9 rfl lkV_RX11_297 (S_102 hK) (Nat.le_of_ble_eq_true rfl) (Nat.le_of_ble_eq_true rfl) (Nat.le_of_ble_eq_true rfl) (ct_x11_toldNumber hK) (fun r3 I4 L5 => ?_)
  exact s_iret dX11_told_12 rfl (fun f h => h)
noncomputable def x11_add (p1 : Int32) (p2 : Int32) (I : MI) : Option (MI) :=
ck (vp_in (I 102 18) 11) <|
ck (vp_in ((320 * (I 102 18)) + (I 106 (ix (I 102 18)))) 3520) <|
lt (wI I 104 (ix ((320 * (I 102 18)) + (I 106 (ix (I 102 18))))) p1) fun I2 =>
ck (vp_in (I2 102 18) 11) <|
ck (vp_in ((320 * (I2 102 18)) + (I2 106 (ix (I2 102 18)))) 3520) <|
lt (wI I2 105 (ix ((320 * (I2 102 18)) + (I2 106 (ix (I2 102 18))))) p2) fun I5 =>
ck (vp_in (I5 102 18) 11) <|
ck (vp_in (I5 102 18) 11) <|
lt (wI I5 106 (ix (I5 102 18)) ((I5 106 (ix (I5 102 18))) + 1)) fun I8 =>
some I8
theorem ct_x11_add {X : WX} {p1 : Int32} {p2 : Int32} {I : MI} {L : ML} {R : MR} {S : MS} (hK : okm R S) : Ct X yX11_add cX11_add 3 none 0 0 [.ref (X.1 + 102), .int p1, .int p2] (I, L, R, S) (x11_add p1 p2 I) (fun r => (none, (r, L, R, S))) := by
  refine Ct.of (by decide) (Nat.le_of_ble_eq_true rfl) [(0, .ref (X.1 + 102)), (1, .int p1), (2, .int p2)] rfl ?_
  unfold x11_add
  refine s_aload_n 0 dX11_add_0 rfl rfl ?_
  refine s_getR 104 dX11_add_1 rfl fl_11_17 rfl (S_102 hK) (R_102_10 hK) ?_
  refine s_sipush (v := 320) dX11_add_4 rfl cS_320 ?_
  refine s_aload_n 0 dX11_add_7 rfl rfl ?_
  refine s_getI dX11_add_8 rfl fl_11_301 (S_102 hK) ?_
  refine s_imul dX11_add_11 rfl ?_
  refine s_aload_n 0 dX11_add_12 rfl rfl ?_
  refine s_getR 106 dX11_add_13 rfl fl_11_23 rfl (S_102 hK) (R_102_12 hK) ?_
  refine s_aload_n 0 dX11_add_16 rfl rfl ?_
  refine s_getI dX11_add_17 rfl fl_11_301 (S_102 hK) ?_
  refine sm_ck (fun g1 => ?_)
  refine s_iald dX11_add_20 rfl (S_106 hK) g1 ?_
  refine s_iadd dX11_add_21 rfl ?_
  refine s_iload_n 1 dX11_add_22 rfl rfl ?_
  refine sm_ck (fun g3 => ?_)
  refine s_iastL dX11_add_23 rfl (S_104 hK) g3 (fun I2 => ?_)
  refine s_aload_n 0 dX11_add_24 rfl rfl ?_
  refine s_getR 105 dX11_add_25 rfl fl_11_20 rfl (S_102 hK) (R_102_11 hK) ?_
  refine s_sipush (v := 320) dX11_add_28 rfl cS_320 ?_
  refine s_aload_n 0 dX11_add_31 rfl rfl ?_
  refine s_getI dX11_add_32 rfl fl_11_301 (S_102 hK) ?_
  refine s_imul dX11_add_35 rfl ?_
  refine s_aload_n 0 dX11_add_36 rfl rfl ?_
  refine s_getR 106 dX11_add_37 rfl fl_11_23 rfl (S_102 hK) (R_102_12 hK) ?_
  refine s_aload_n 0 dX11_add_40 rfl rfl ?_
  refine s_getI dX11_add_41 rfl fl_11_301 (S_102 hK) ?_
  refine sm_ck (fun g4 => ?_)
  refine s_iald dX11_add_44 rfl (S_106 hK) g4 ?_
  refine s_iadd dX11_add_45 rfl ?_
  refine s_iload_n 2 dX11_add_46 rfl rfl ?_
  refine sm_ck (fun g6 => ?_)
  refine s_iastL dX11_add_47 rfl (S_105 hK) g6 (fun I5 => ?_)
  refine s_aload_n 0 dX11_add_48 rfl rfl ?_
  refine s_getR 106 dX11_add_49 rfl fl_11_23 rfl (S_102 hK) (R_102_12 hK) ?_
  refine s_aload_n 0 dX11_add_52 rfl rfl ?_
  refine s_getI dX11_add_53 rfl fl_11_301 (S_102 hK) ?_
  refine s_dup2 dX11_add_56 rfl rfl rfl ?_
  refine sm_ck (fun g7 => ?_)
  refine s_iald dX11_add_57 rfl (S_106 hK) g7 ?_
  refine s_iconst (v := 1) dX11_add_58 rfl cI_1 ?_
  refine s_iadd dX11_add_59 rfl ?_
  refine sm_ck (fun g9 => ?_)
  refine s_iastL dX11_add_60 rfl (S_106 hK) g9 (fun I8 => ?_)
  exact s_vret dX11_add_61 rfl (fun f h => h)
noncomputable def x11_tight (p0 : Int32) (I : MI) : Option (Int32) :=
if p0 = 21 then (
some (3 : Int32)) else
if p0 = 38 then (
some (2 : Int32)) else
if p0 = 43 then (
some (5 : Int32)) else
if p0 = 45 then (
some (5 : Int32)) else
if p0 = 60 then (
some (4 : Int32)) else
if p0 = 61 then (
some (4 : Int32)) else
if p0 = 62 then (
some (4 : Int32)) else
if p0 = 124 then (
some (1 : Int32)) else
some (6 : Int32)
theorem ct_x11_tight {X : WX} {p0 : Int32} {I : MI} {L : ML} {R : MR} {S : MS} (hK : okm R S) : Ct X yX11_tight cX11_tight 1 (some .int) 0 0 [.int p0] (I, L, R, S) (x11_tight p0 I) (fun r => (some (.int r), (I, L, R, S))) := by
  refine Ct.of (by decide) (Nat.le_of_ble_eq_true rfl) [(0, .int p0)] rfl ?_
  unfold x11_tight
  refine s_iload_n 0 dX11_tight_0 rfl rfl ?_
  refine sm_ite (fun h1 => ?_) (fun h1 => ?_)
  · skip
    refine s_lookup (tgt := 80) dX11_tight_1 (by decide) (by rw [h1]; try rfl) rfl ?_
    refine s_iconst (v := 3) dX11_tight_80 rfl cI_3 ?_
    exact s_iret dX11_tight_81 rfl (fun f h => h)
  refine sm_ite (fun h2 => ?_) (fun h2 => ?_)
  · skip
    refine s_lookup (tgt := 78) dX11_tight_1 (by decide) (by rw [h2]; try rfl) rfl ?_
    refine s_iconst (v := 2) dX11_tight_78 rfl cI_2 ?_
    exact s_iret dX11_tight_79 rfl (fun f h => h)
  refine sm_ite (fun h3 => ?_) (fun h3 => ?_)
  · skip
    refine s_lookup (tgt := 84) dX11_tight_1 (by decide) (by rw [h3]; try rfl) rfl ?_
    refine s_iconst (v := 5) dX11_tight_84 rfl cI_5 ?_
    exact s_iret dX11_tight_85 rfl (fun f h => h)
  refine sm_ite (fun h4 => ?_) (fun h4 => ?_)
  · skip
    refine s_lookup (tgt := 84) dX11_tight_1 (by decide) (by rw [h4]; try rfl) rfl ?_
    refine s_iconst (v := 5) dX11_tight_84 rfl cI_5 ?_
    exact s_iret dX11_tight_85 rfl (fun f h => h)
  refine sm_ite (fun h5 => ?_) (fun h5 => ?_)
  · skip
    refine s_lookup (tgt := 82) dX11_tight_1 (by decide) (by rw [h5]; try rfl) rfl ?_
    refine s_iconst (v := 4) dX11_tight_82 rfl cI_4 ?_
    exact s_iret dX11_tight_83 rfl (fun f h => h)
  refine sm_ite (fun h6 => ?_) (fun h6 => ?_)
  · skip
    refine s_lookup (tgt := 82) dX11_tight_1 (by decide) (by rw [h6]; try rfl) rfl ?_
    refine s_iconst (v := 4) dX11_tight_82 rfl cI_4 ?_
    exact s_iret dX11_tight_83 rfl (fun f h => h)
  refine sm_ite (fun h7 => ?_) (fun h7 => ?_)
  · skip
    refine s_lookup (tgt := 82) dX11_tight_1 (by decide) (by rw [h7]; try rfl) rfl ?_
    refine s_iconst (v := 4) dX11_tight_82 rfl cI_4 ?_
    exact s_iret dX11_tight_83 rfl (fun f h => h)
  refine sm_ite (fun h8 => ?_) (fun h8 => ?_)
  · skip
    refine s_lookup (tgt := 76) dX11_tight_1 (by decide) (by rw [h8]; try rfl) rfl ?_
    refine s_iconst (v := 1) dX11_tight_76 rfl cI_1 ?_
    exact s_iret dX11_tight_77 rfl (fun f h => h)
  refine s_lookup (tgt := 86) dX11_tight_1 (by decide) ((lv_osw h1 rfl).trans ((lv_osw h2 rfl).trans ((lv_osw h3 rfl).trans ((lv_osw h4 rfl).trans ((lv_osw h5 rfl).trans ((lv_osw h6 rfl).trans ((lv_osw h7 rfl).trans ((lv_osw h8 rfl).trans rfl)))))))) rfl ?_
  refine s_bipush (v := 6) dX11_tight_86 rfl cB_6 ?_
  exact s_iret dX11_tight_88 rfl (fun f h => h)
noncomputable def x11_close_L0s (c1 : Int32) (rec : MI → Option (MI)) (I : MI) : Option (MI) :=
if 0 < (I 102 19) then (
ck (vp_in ((I 102 19) - 1) 160) <|
if (I 110 (ix ((I 102 19) - 1))) = 20 then (
some I) else
ck (vp_in ((I 102 19) - 1) 160) <|
b1 (x11_tight (I 110 (ix ((I 102 19) - 1))) I) fun r3 =>
if r3 < c1 then (
some I) else
lt (wI I 102 19 ((I 102 19) - 1)) fun I4 =>
ck (vp_in (I4 102 19) 160) <|
if (I4 110 (ix (I4 102 19))) = 21 then (
b1 (x11_add (2 : Int32) (0 : Int32) I4) fun I8 =>
lt (wI I8 102 23 ((I8 102 23) - 1)) fun I9 =>
rec I9) else
ck (vp_in (I4 102 19) 160) <|
b1 (x11_add (3 : Int32) (I4 110 (ix (I4 102 19))) I4) fun I7 =>
rec I7) else
some I
noncomputable def x11_close_L0 (c1 : Int32) : Nat → MI → Option (MI)
  | 0 => fun _ => none
  | n + 1 => x11_close_L0s c1 (x11_close_L0 c1 n)
noncomputable def x11_close (p1 : Int32) (I : MI) : Option (MI) :=
b1 (x11_close_L0 p1 FU I) fun e10 =>
some e10
theorem x11_close_L0_ok {X : WX} {n0 s0 : Nat} {c1 : Int32} {L : ML} {R : MR} {S : MS} (hK : okm R S) : ∀ (n : Nat) (I : MI), Sim X yX11_close cX11_close 2 none 1 22 n0 s0 0 [(0, .ref (X.1 + 102)), (1, .int c1)] [] (I, L, R, S) (x11_close_L0 c1 n I) (fun b f => Ex X yX11_close cX11_close 2 none 1 22 n0 s0 101 [] [] (b, L, R, S) f) := by
  intro n
  induction n with
  | zero =>
    intro I
    exact sm_none
  | succ n ih =>
    intro I
    change Sim _ _ _ _ _ _ _ _ _ _ _ _ _ (x11_close_L0s c1 (x11_close_L0 c1 n) I) _
    unfold x11_close_L0s
    refine s_aload_n 0 dX11_close_0 rfl rfl ?_
    refine s_getI dX11_close_1 rfl fl_11_304 (S_102 hK) ?_
    refine s_if_le (tgt := 101) dX11_close_4 rfl rfl (fun _ => ?_) (fun _ => ?_)
    · skip
      refine s_pick [] rfl ?_
      exact sm_exit (fun f h => h)
    · skip
      refine s_aload_n 0 dX11_close_7 rfl rfl ?_
      refine s_getR 110 dX11_close_8 rfl fl_11_35 rfl (S_102 hK) (R_102_16 hK) ?_
      refine s_aload_n 0 dX11_close_11 rfl rfl ?_
      refine s_getI dX11_close_12 rfl fl_11_304 (S_102 hK) ?_
      refine s_iconst (v := 1) dX11_close_15 rfl cI_1 ?_
      refine s_isub dX11_close_16 rfl ?_
      refine sm_ck (fun g1 => ?_)
      refine s_iald dX11_close_17 rfl (S_110 hK) g1 ?_
      refine s_bipush (v := 20) dX11_close_18 rfl cB_20 ?_
      refine s_icmp_eq (tgt := 101) dX11_close_20 rfl rfl (fun _ => ?_) (fun _ => ?_)
      · skip
        refine s_pick [] rfl ?_
        exact sm_exit (fun f h => h)
      · skip
        refine s_aload_n 0 dX11_close_23 rfl rfl ?_
        refine s_getR 110 dX11_close_24 rfl fl_11_35 rfl (S_102 hK) (R_102_16 hK) ?_
        refine s_aload_n 0 dX11_close_27 rfl rfl ?_
        refine s_getI dX11_close_28 rfl fl_11_304 (S_102 hK) ?_
        refine s_iconst (v := 1) dX11_close_31 rfl cI_1 ?_
        refine s_isub dX11_close_32 rfl ?_
        refine sm_ck (fun g2 => ?_)
        refine s_iald dX11_close_33 rfl (S_110 hK) g2 ?_
        refine s_callS1_i0 dX11_close_34 rfl lkS_RX11_307 (Nat.le_of_ble_eq_true rfl) (Nat.le_of_ble_eq_true rfl) (Nat.le_of_ble_eq_true rfl) (ct_x11_tight hK) (fun r3 => ?_)
        refine s_iload_n 1 dX11_close_37 rfl rfl ?_
        refine s_icmp_lt (tgt := 101) dX11_close_38 rfl rfl (fun _ => ?_) (fun _ => ?_)
        · skip
          refine s_pick [] rfl ?_
          exact sm_exit (fun f h => h)
        · skip
          refine s_aload_n 0 dX11_close_41 rfl rfl ?_
          refine s_dup dX11_close_42 rfl rfl ?_
          refine s_getI dX11_close_43 rfl fl_11_304 (S_102 hK) ?_
          refine s_iconst (v := 1) dX11_close_46 rfl cI_1 ?_
          refine s_isub dX11_close_47 rfl ?_
          refine s_putIL dX11_close_48 rfl fl_11_304 (S_102 hK) (fun I4 => ?_)
          refine s_aload_n 0 dX11_close_51 rfl rfl ?_
          refine s_getR 110 dX11_close_52 rfl fl_11_35 rfl (S_102 hK) (R_102_16 hK) ?_
          refine s_aload_n 0 dX11_close_55 rfl rfl ?_
          refine s_getI dX11_close_56 rfl fl_11_304 (S_102 hK) ?_
          refine sm_ck (fun g5 => ?_)
          refine s_iald dX11_close_59 rfl (S_110 hK) g5 ?_
          refine s_bipush (v := 21) dX11_close_60 rfl cB_21 ?_
          refine s_icmp_ne (tgt := 84) dX11_close_62 rfl rfl (fun _ => ?_) (fun _ => ?_)
          · skip
            refine s_aload_n 0 dX11_close_84 rfl rfl ?_
            refine s_iconst (v := 3) dX11_close_85 rfl cI_3 ?_
            refine s_aload_n 0 dX11_close_86 rfl rfl ?_
            refine s_getR 110 dX11_close_87 rfl fl_11_35 rfl (S_102 hK) (R_102_16 hK) ?_
            refine s_aload_n 0 dX11_close_90 rfl rfl ?_
            refine s_getI dX11_close_91 rfl fl_11_304 (S_102 hK) ?_
            refine sm_ck (fun g6 => ?_)
            refine s_iald dX11_close_94 rfl (S_110 hK) g6 ?_
            refine s_callV2_v1 dX11_close_95 rfl lkV_RX11_310 (S_102 hK) (Nat.le_of_ble_eq_true rfl) (Nat.le_of_ble_eq_true rfl) (Nat.le_of_ble_eq_true rfl) (ct_x11_add hK) (fun I7 => ?_)
            refine s_goto (tgt := 0) dX11_close_98 rfl ?_
            exact ih I7
          · skip
            refine s_aload_n 0 dX11_close_65 rfl rfl ?_
            refine s_iconst (v := 2) dX11_close_66 rfl cI_2 ?_
            refine s_iconst (v := 0) dX11_close_67 rfl cI_0 ?_
            refine s_callV2_v1 dX11_close_68 rfl lkV_RX11_310 (S_102 hK) (Nat.le_of_ble_eq_true rfl) (Nat.le_of_ble_eq_true rfl) (Nat.le_of_ble_eq_true rfl) (ct_x11_add hK) (fun I8 => ?_)
            refine s_aload_n 0 dX11_close_71 rfl rfl ?_
            refine s_dup dX11_close_72 rfl rfl ?_
            refine s_getI dX11_close_73 rfl fl_11_314 (S_102 hK) ?_
            refine s_iconst (v := 1) dX11_close_76 rfl cI_1 ?_
            refine s_isub dX11_close_77 rfl ?_
            refine s_putIL dX11_close_78 rfl fl_11_314 (S_102 hK) (fun I9 => ?_)
            refine s_goto (tgt := 0) dX11_close_81 rfl ?_
            exact ih I9
theorem ct_x11_close {X : WX} {p1 : Int32} {I : MI} {L : ML} {R : MR} {S : MS} (hK : okm R S) : Ct X yX11_close cX11_close 2 none 1 22 [.ref (X.1 + 102), .int p1] (I, L, R, S) (x11_close p1 I) (fun r => (none, (r, L, R, S))) := by
  refine Ct.of (by decide) (Nat.le_of_ble_eq_true rfl) [(0, .ref (X.1 + 102)), (1, .int p1)] rfl ?_
  unfold x11_close
  refine sm_reg (x11_close_L0_ok hK FU I) (fun e10 => ?_)
  exact s_vret dX11_close_101 rfl (fun f h => h)
noncomputable def x11_hasRelation_L7s (I : MI) (rec : Int32 → Option (Int32)) (w1 : Int32) : Option (Int32) :=
if w1 < 0 then (
some w1) else
ck (vp_in w1 160) <|
if (I 110 (ix w1)) = 20 then (
some w1) else
ck (vp_in w1 160) <|
b1 (x11_tight (I 110 (ix w1)) I) fun r4 =>
if 4 < r4 then (
lt (w1 + (-1)) fun v5 =>
rec v5) else
some w1
noncomputable def x11_hasRelation_L7 (I : MI) : Nat → Int32 → Option (Int32)
  | 0 => fun _ => none
  | n + 1 => x11_hasRelation_L7s I (x11_hasRelation_L7 I n)
noncomputable def x11_hasRelation (I : MI) : Option (Int32) :=
lt ((I 102 19) - 1) fun v1 =>
b1 (x11_hasRelation_L7 I FU v1) fun e6 =>
if e6 < 0 then (
some (0 : Int32)) else
ck (vp_in e6 160) <|
if (I 110 (ix e6)) = 20 then (
some (0 : Int32)) else
ck (vp_in e6 160) <|
b1 (x11_tight (I 110 (ix e6)) I) fun r9 =>
if r9 = 4 then (
some (1 : Int32)) else
some (0 : Int32)
theorem x11_hasRelation_L7_ok {X : WX} {n0 s0 : Nat} {I : MI} {L : ML} {R : MR} {S : MS} (hK : okm R S) : ∀ (n : Nat) (w1 : Int32), Sim X yX11_hasRelation cX11_hasRelation 2 (some .boolean) 1 20 n0 s0 7 [(0, .ref (X.1 + 102)), (1, .int w1)] [] (I, L, R, S) (x11_hasRelation_L7 I n w1) (fun b f => Ex X yX11_hasRelation cX11_hasRelation 2 (some .boolean) 1 20 n0 s0 41 [(0, .ref (X.1 + 102)), (1, .int b)] [] (I, L, R, S) f) := by
  intro n
  induction n with
  | zero =>
    intro w1
    exact sm_none
  | succ n ih =>
    intro w1
    change Sim _ _ _ _ _ _ _ _ _ _ _ _ _ (x11_hasRelation_L7s I (x11_hasRelation_L7 I n) w1) _
    unfold x11_hasRelation_L7s
    refine s_iload_n 1 dX11_hasRelation_7 rfl rfl ?_
    refine s_if_lt (tgt := 41) dX11_hasRelation_8 rfl rfl (fun _ => ?_) (fun _ => ?_)
    · skip
      exact sm_exit (fun f h => h)
    · skip
      refine s_aload_n 0 dX11_hasRelation_11 rfl rfl ?_
      refine s_getR 110 dX11_hasRelation_12 rfl fl_11_35 rfl (S_102 hK) (R_102_16 hK) ?_
      refine s_iload_n 1 dX11_hasRelation_15 rfl rfl ?_
      refine sm_ck (fun g2 => ?_)
      refine s_iald dX11_hasRelation_16 rfl (S_110 hK) g2 ?_
      refine s_bipush (v := 20) dX11_hasRelation_17 rfl cB_20 ?_
      refine s_icmp_eq (tgt := 41) dX11_hasRelation_19 rfl rfl (fun _ => ?_) (fun _ => ?_)
      · skip
        exact sm_exit (fun f h => h)
      · skip
        refine s_aload_n 0 dX11_hasRelation_22 rfl rfl ?_
        refine s_getR 110 dX11_hasRelation_23 rfl fl_11_35 rfl (S_102 hK) (R_102_16 hK) ?_
        refine s_iload_n 1 dX11_hasRelation_26 rfl rfl ?_
        refine sm_ck (fun g3 => ?_)
        refine s_iald dX11_hasRelation_27 rfl (S_110 hK) g3 ?_
        refine s_callS1_i0 dX11_hasRelation_28 rfl lkS_RX11_307 (Nat.le_of_ble_eq_true rfl) (Nat.le_of_ble_eq_true rfl) (Nat.le_of_ble_eq_true rfl) (ct_x11_tight hK) (fun r4 => ?_)
        refine s_iconst (v := 4) dX11_hasRelation_31 rfl cI_4 ?_
        refine s_icmp_le (tgt := 41) dX11_hasRelation_32 rfl rfl (fun _ => ?_) (fun _ => ?_)
        · skip
          exact sm_exit (fun f h => h)
        · skip
          refine s_iincL 1 (c := (-1)) (fun v5 => [(1, .int v5), (0, .ref (X.1 + 102))]) dX11_hasRelation_35 rfl rfl cI_m1 (by decide) (fun _ => rfl) (fun v5 => ?_)
          refine s_goto (tgt := 7) dX11_hasRelation_38 rfl ?_
          refine s_pick [1, 0] rfl ?_
          exact ih v5
theorem ct_x11_hasRelation {X : WX} {I : MI} {L : ML} {R : MR} {S : MS} (hK : okm R S) : Ct X yX11_hasRelation cX11_hasRelation 2 (some .boolean) 1 20 [.ref (X.1 + 102)] (I, L, R, S) (x11_hasRelation I) (fun r => (some (.int r), (I, L, R, S))) := by
  refine Ct.of (by decide) (Nat.le_of_ble_eq_true rfl) [(0, .ref (X.1 + 102))] rfl ?_
  unfold x11_hasRelation
  refine s_aload_n 0 dX11_hasRelation_0 rfl rfl ?_
  refine s_getI dX11_hasRelation_1 rfl fl_11_304 (S_102 hK) ?_
  refine s_iconst (v := 1) dX11_hasRelation_4 rfl cI_1 ?_
  refine s_isub dX11_hasRelation_5 rfl ?_
  refine s_istore_nL (fun v1 => [(1, .int v1), (0, .ref (X.1 + 102))]) dX11_hasRelation_6 rfl (by decide) (fun _ => rfl) (fun v1 => ?_)
  refine s_pick [1, 0] rfl ?_
  refine sm_reg (x11_hasRelation_L7_ok hK FU v1) (fun e6 => ?_)
  refine s_iload_n 1 dX11_hasRelation_41 rfl rfl ?_
  refine s_if_lt (tgt := 73) dX11_hasRelation_42 rfl rfl (fun _ => ?_) (fun _ => ?_)
  · skip
    refine s_iconst (v := 0) dX11_hasRelation_73 rfl cI_0 ?_
    exact s_zret dX11_hasRelation_74 rfl (Or.inl rfl) (fun f h => h)
  · skip
    refine s_aload_n 0 dX11_hasRelation_45 rfl rfl ?_
    refine s_getR 110 dX11_hasRelation_46 rfl fl_11_35 rfl (S_102 hK) (R_102_16 hK) ?_
    refine s_iload_n 1 dX11_hasRelation_49 rfl rfl ?_
    refine sm_ck (fun g7 => ?_)
    refine s_iald dX11_hasRelation_50 rfl (S_110 hK) g7 ?_
    refine s_bipush (v := 20) dX11_hasRelation_51 rfl cB_20 ?_
    refine s_icmp_eq (tgt := 73) dX11_hasRelation_53 rfl rfl (fun _ => ?_) (fun _ => ?_)
    · skip
      refine s_iconst (v := 0) dX11_hasRelation_73 rfl cI_0 ?_
      exact s_zret dX11_hasRelation_74 rfl (Or.inl rfl) (fun f h => h)
    · skip
      refine s_aload_n 0 dX11_hasRelation_56 rfl rfl ?_
      refine s_getR 110 dX11_hasRelation_57 rfl fl_11_35 rfl (S_102 hK) (R_102_16 hK) ?_
      refine s_iload_n 1 dX11_hasRelation_60 rfl rfl ?_
      refine sm_ck (fun g8 => ?_)
      refine s_iald dX11_hasRelation_61 rfl (S_110 hK) g8 ?_
      refine s_callS1_i0 dX11_hasRelation_62 rfl lkS_RX11_307 (Nat.le_of_ble_eq_true rfl) (Nat.le_of_ble_eq_true rfl) (Nat.le_of_ble_eq_true rfl) (ct_x11_tight hK) (fun r9 => ?_)
      refine s_iconst (v := 4) dX11_hasRelation_65 rfl cI_4 ?_
      refine s_icmp_ne (tgt := 73) dX11_hasRelation_66 rfl rfl (fun _ => ?_) (fun _ => ?_)
      · skip
        refine s_iconst (v := 0) dX11_hasRelation_73 rfl cI_0 ?_
        exact s_zret dX11_hasRelation_74 rfl (Or.inl rfl) (fun f h => h)
      · skip
        refine s_iconst (v := 1) dX11_hasRelation_69 rfl cI_1 ?_
        refine s_goto (tgt := 74) dX11_hasRelation_70 rfl ?_
        exact s_zret dX11_hasRelation_74 rfl (Or.inr rfl) (fun f h => h)
noncomputable def x11_mayNot (I : MI) : Option (Int32) :=
if (I 102 19) = 0 then (
some (1 : Int32)) else
ck (vp_in ((I 102 19) - 1) 160) <|
if (I 110 (ix ((I 102 19) - 1))) = 20 then (
some (1 : Int32)) else
ck (vp_in ((I 102 19) - 1) 160) <|
b1 (x11_tight (I 110 (ix ((I 102 19) - 1))) I) fun r3 =>
if r3 < 4 then (
some (1 : Int32)) else
some (0 : Int32)
theorem ct_x11_mayNot {X : WX} {I : MI} {L : ML} {R : MR} {S : MS} (hK : okm R S) : Ct X yX11_mayNot cX11_mayNot 1 (some .boolean) 1 20 [.ref (X.1 + 102)] (I, L, R, S) (x11_mayNot I) (fun r => (some (.int r), (I, L, R, S))) := by
  refine Ct.of (by decide) (Nat.le_of_ble_eq_true rfl) [(0, .ref (X.1 + 102))] rfl ?_
  unfold x11_mayNot
  refine s_aload_n 0 dX11_mayNot_0 rfl rfl ?_
  refine s_getI dX11_mayNot_1 rfl fl_11_304 (S_102 hK) ?_
  refine s_if_eq (tgt := 41) dX11_mayNot_4 rfl rfl (fun _ => ?_) (fun _ => ?_)
  · skip
    refine s_iconst (v := 1) dX11_mayNot_41 rfl cI_1 ?_
    refine s_goto (tgt := 46) dX11_mayNot_42 rfl ?_
    exact s_zret dX11_mayNot_46 rfl (Or.inr rfl) (fun f h => h)
  · skip
    refine s_aload_n 0 dX11_mayNot_7 rfl rfl ?_
    refine s_getR 110 dX11_mayNot_8 rfl fl_11_35 rfl (S_102 hK) (R_102_16 hK) ?_
    refine s_aload_n 0 dX11_mayNot_11 rfl rfl ?_
    refine s_getI dX11_mayNot_12 rfl fl_11_304 (S_102 hK) ?_
    refine s_iconst (v := 1) dX11_mayNot_15 rfl cI_1 ?_
    refine s_isub dX11_mayNot_16 rfl ?_
    refine sm_ck (fun g1 => ?_)
    refine s_iald dX11_mayNot_17 rfl (S_110 hK) g1 ?_
    refine s_bipush (v := 20) dX11_mayNot_18 rfl cB_20 ?_
    refine s_icmp_eq (tgt := 41) dX11_mayNot_20 rfl rfl (fun _ => ?_) (fun _ => ?_)
    · skip
      refine s_iconst (v := 1) dX11_mayNot_41 rfl cI_1 ?_
      refine s_goto (tgt := 46) dX11_mayNot_42 rfl ?_
      exact s_zret dX11_mayNot_46 rfl (Or.inr rfl) (fun f h => h)
    · skip
      refine s_aload_n 0 dX11_mayNot_23 rfl rfl ?_
      refine s_getR 110 dX11_mayNot_24 rfl fl_11_35 rfl (S_102 hK) (R_102_16 hK) ?_
      refine s_aload_n 0 dX11_mayNot_27 rfl rfl ?_
      refine s_getI dX11_mayNot_28 rfl fl_11_304 (S_102 hK) ?_
      refine s_iconst (v := 1) dX11_mayNot_31 rfl cI_1 ?_
      refine s_isub dX11_mayNot_32 rfl ?_
      refine sm_ck (fun g2 => ?_)
      refine s_iald dX11_mayNot_33 rfl (S_110 hK) g2 ?_
      refine s_callS1_i0 dX11_mayNot_34 rfl lkS_RX11_307 (Nat.le_of_ble_eq_true rfl) (Nat.le_of_ble_eq_true rfl) (Nat.le_of_ble_eq_true rfl) (ct_x11_tight hK) (fun r3 => ?_)
      refine s_iconst (v := 4) dX11_mayNot_37 rfl cI_4 ?_
      refine s_icmp_ge (tgt := 45) dX11_mayNot_38 rfl rfl (fun _ => ?_) (fun _ => ?_)
      · skip
        refine s_iconst (v := 0) dX11_mayNot_45 rfl cI_0 ?_
        exact s_zret dX11_mayNot_46 rfl (Or.inl rfl) (fun f h => h)
      · skip
        refine s_iconst (v := 1) dX11_mayNot_41 rfl cI_1 ?_
        refine s_goto (tgt := 46) dX11_mayNot_42 rfl ?_
        exact s_zret dX11_mayNot_46 rfl (Or.inr rfl) (fun f h => h)
noncomputable def x11_asked (I : MI) (L : ML) : Option (Int32) :=
if (I 102 6) = 1 then (
if (lg_cmp (L 102 9) 1936292453) = 0 then (
some (0 : Int32)) else
if (lg_cmp (L 102 9) 1936680564) = 0 then (
some (1 : Int32)) else
if (lg_cmp (L 102 9) 495873780843) = 0 then (
some (2 : Int32)) else
if (lg_cmp (L 102 9) 2002873452) = 0 then (
some (3 : Int32)) else
if (lg_cmp (L 102 9) 6709618) = 0 then (
some (4 : Int32)) else
if (lg_cmp (L 102 9) 500135716211) = 0 then (
some (5 : Int32)) else
if (lg_cmp (L 102 9) 470021403752) = 0 then (
some (6 : Int32)) else
if (lg_cmp (L 102 9) 108243466679400) = 0 then (
some (7 : Int32)) else
if (lg_cmp (L 102 9) 1802071652) = 0 then (
some (8 : Int32)) else
if (lg_cmp (L 102 9) 1868850291) = 0 then (
some (9 : Int32)) else
some (-1 : Int32)) else
some (-1 : Int32)
theorem ct_x11_asked {X : WX} {I : MI} {L : ML} {R : MR} {S : MS} (hK : okm R S) : Ct X yX11_asked cX11_asked 1 (some .int) 0 0 [.ref (X.1 + 102)] (I, L, R, S) (x11_asked I L) (fun r => (some (.int r), (I, L, R, S))) := by
  refine Ct.of (by decide) (Nat.le_of_ble_eq_true rfl) [(0, .ref (X.1 + 102))] rfl ?_
  unfold x11_asked
  refine s_aload_n 0 dX11_asked_0 rfl rfl ?_
  refine s_getI dX11_asked_1 rfl fl_11_211 (S_102 hK) ?_
  refine s_iconst (v := 1) dX11_asked_4 rfl cI_1 ?_
  refine s_icmp_eq (tgt := 10) dX11_asked_5 rfl rfl (fun _ => ?_) (fun _ => ?_)
  · skip
    refine s_aload_n 0 dX11_asked_10 rfl rfl ?_
    refine s_getL dX11_asked_11 rfl fl_11_204 (S_102 hK) ?_
    refine s_ldc2 (v := 1936292453) dX11_asked_14 rfl kl_11_247c ?_
    refine s_lcmp dX11_asked_17 rfl ?_
    refine s_if_ne (tgt := 23) dX11_asked_18 rfl rfl (fun _ => ?_) (fun _ => ?_)
    · skip
      refine s_aload_n 0 dX11_asked_23 rfl rfl ?_
      refine s_getL dX11_asked_24 rfl fl_11_204 (S_102 hK) ?_
      refine s_ldc2 (v := 1936680564) dX11_asked_27 rfl kl_11_249c ?_
      refine s_lcmp dX11_asked_30 rfl ?_
      refine s_if_ne (tgt := 36) dX11_asked_31 rfl rfl (fun _ => ?_) (fun _ => ?_)
      · skip
        refine s_aload_n 0 dX11_asked_36 rfl rfl ?_
        refine s_getL dX11_asked_37 rfl fl_11_204 (S_102 hK) ?_
        refine s_ldc2 (v := 495873780843) dX11_asked_40 rfl kl_11_235c ?_
        refine s_lcmp dX11_asked_43 rfl ?_
        refine s_if_ne (tgt := 49) dX11_asked_44 rfl rfl (fun _ => ?_) (fun _ => ?_)
        · skip
          refine s_aload_n 0 dX11_asked_49 rfl rfl ?_
          refine s_getL dX11_asked_50 rfl fl_11_204 (S_102 hK) ?_
          refine s_ldc2 (v := 2002873452) dX11_asked_53 rfl kl_11_237c ?_
          refine s_lcmp dX11_asked_56 rfl ?_
          refine s_if_ne (tgt := 62) dX11_asked_57 rfl rfl (fun _ => ?_) (fun _ => ?_)
          · skip
            refine s_aload_n 0 dX11_asked_62 rfl rfl ?_
            refine s_getL dX11_asked_63 rfl fl_11_204 (S_102 hK) ?_
            refine s_ldc2 (v := 6709618) dX11_asked_66 rfl kl_11_263c ?_
            refine s_lcmp dX11_asked_69 rfl ?_
            refine s_if_ne (tgt := 75) dX11_asked_70 rfl rfl (fun _ => ?_) (fun _ => ?_)
            · skip
              refine s_aload_n 0 dX11_asked_75 rfl rfl ?_
              refine s_getL dX11_asked_76 rfl fl_11_204 (S_102 hK) ?_
              refine s_ldc2 (v := 500135716211) dX11_asked_79 rfl kl_11_265c ?_
              refine s_lcmp dX11_asked_82 rfl ?_
              refine s_if_ne (tgt := 88) dX11_asked_83 rfl rfl (fun _ => ?_) (fun _ => ?_)
              · skip
                refine s_aload_n 0 dX11_asked_88 rfl rfl ?_
                refine s_getL dX11_asked_89 rfl fl_11_204 (S_102 hK) ?_
                refine s_ldc2 (v := 470021403752) dX11_asked_92 rfl kl_11_259c ?_
                refine s_lcmp dX11_asked_95 rfl ?_
                refine s_if_ne (tgt := 102) dX11_asked_96 rfl rfl (fun _ => ?_) (fun _ => ?_)
                · skip
                  refine s_aload_n 0 dX11_asked_102 rfl rfl ?_
                  refine s_getL dX11_asked_103 rfl fl_11_204 (S_102 hK) ?_
                  refine s_ldc2 (v := 108243466679400) dX11_asked_106 rfl kl_11_257c ?_
                  refine s_lcmp dX11_asked_109 rfl ?_
                  refine s_if_ne (tgt := 116) dX11_asked_110 rfl rfl (fun _ => ?_) (fun _ => ?_)
                  · skip
                    refine s_aload_n 0 dX11_asked_116 rfl rfl ?_
                    refine s_getL dX11_asked_117 rfl fl_11_204 (S_102 hK) ?_
                    refine s_ldc2 (v := 1802071652) dX11_asked_120 rfl kl_11_267c ?_
                    refine s_lcmp dX11_asked_123 rfl ?_
                    refine s_if_ne (tgt := 130) dX11_asked_124 rfl rfl (fun _ => ?_) (fun _ => ?_)
                    · skip
                      refine s_aload_n 0 dX11_asked_130 rfl rfl ?_
                      refine s_getL dX11_asked_131 rfl fl_11_204 (S_102 hK) ?_
                      refine s_ldc2 (v := 1868850291) dX11_asked_134 rfl kl_11_231c ?_
                      refine s_lcmp dX11_asked_137 rfl ?_
                      refine s_if_ne (tgt := 146) dX11_asked_138 rfl rfl (fun _ => ?_) (fun _ => ?_)
                      · skip
                        refine s_iconst (v := (-1)) dX11_asked_146 rfl cI_m1 ?_
                        exact s_iret dX11_asked_147 rfl (fun f h => h)
                      · skip
                        refine s_bipush (v := 9) dX11_asked_141 rfl cB_9 ?_
                        refine s_goto (tgt := 147) dX11_asked_143 rfl ?_
                        exact s_iret dX11_asked_147 rfl (fun f h => h)
                    · skip
                      refine s_bipush (v := 8) dX11_asked_127 rfl cB_8 ?_
                      exact s_iret dX11_asked_129 rfl (fun f h => h)
                  · skip
                    refine s_bipush (v := 7) dX11_asked_113 rfl cB_7 ?_
                    exact s_iret dX11_asked_115 rfl (fun f h => h)
                · skip
                  refine s_bipush (v := 6) dX11_asked_99 rfl cB_6 ?_
                  exact s_iret dX11_asked_101 rfl (fun f h => h)
              · skip
                refine s_iconst (v := 5) dX11_asked_86 rfl cI_5 ?_
                exact s_iret dX11_asked_87 rfl (fun f h => h)
            · skip
              refine s_iconst (v := 4) dX11_asked_73 rfl cI_4 ?_
              exact s_iret dX11_asked_74 rfl (fun f h => h)
          · skip
            refine s_iconst (v := 3) dX11_asked_60 rfl cI_3 ?_
            exact s_iret dX11_asked_61 rfl (fun f h => h)
        · skip
          refine s_iconst (v := 2) dX11_asked_47 rfl cI_2 ?_
          exact s_iret dX11_asked_48 rfl (fun f h => h)
      · skip
        refine s_iconst (v := 1) dX11_asked_34 rfl cI_1 ?_
        exact s_iret dX11_asked_35 rfl (fun f h => h)
    · skip
      refine s_iconst (v := 0) dX11_asked_21 rfl cI_0 ?_
      exact s_iret dX11_asked_22 rfl (fun f h => h)
  · skip
    refine s_iconst (v := (-1)) dX11_asked_8 rfl cI_m1 ?_
    exact s_iret dX11_asked_9 rfl (fun f h => h)
noncomputable def x11_isFull (I : MI) : Option (Int32) :=
if (I 102 20) = 90 then (
some (1 : Int32)) else
if (I 102 22) = 30 then (
some (1 : Int32)) else
some (0 : Int32)
theorem ct_x11_isFull {X : WX} {I : MI} {L : ML} {R : MR} {S : MS} (hK : okm R S) : Ct X yX11_isFull cX11_isFull 1 (some .boolean) 0 0 [.ref (X.1 + 102)] (I, L, R, S) (x11_isFull I) (fun r => (some (.int r), (I, L, R, S))) := by
  refine Ct.of (by decide) (Nat.le_of_ble_eq_true rfl) [(0, .ref (X.1 + 102))] rfl ?_
  unfold x11_isFull
  refine s_aload_n 0 dX11_isFull_0 rfl rfl ?_
  refine s_getI dX11_isFull_1 rfl fl_11_317 (S_102 hK) ?_
  refine s_bipush (v := 90) dX11_isFull_4 rfl cB_90 ?_
  refine s_icmp_eq (tgt := 18) dX11_isFull_6 rfl rfl (fun _ => ?_) (fun _ => ?_)
  · skip
    refine s_iconst (v := 1) dX11_isFull_18 rfl cI_1 ?_
    refine s_goto (tgt := 23) dX11_isFull_19 rfl ?_
    exact s_zret dX11_isFull_23 rfl (Or.inr rfl) (fun f h => h)
  · skip
    refine s_aload_n 0 dX11_isFull_9 rfl rfl ?_
    refine s_getI dX11_isFull_10 rfl fl_11_320 (S_102 hK) ?_
    refine s_bipush (v := 30) dX11_isFull_13 rfl cB_30 ?_
    refine s_icmp_ne (tgt := 22) dX11_isFull_15 rfl rfl (fun _ => ?_) (fun _ => ?_)
    · skip
      refine s_iconst (v := 0) dX11_isFull_22 rfl cI_0 ?_
      exact s_zret dX11_isFull_23 rfl (Or.inl rfl) (fun f h => h)
    · skip
      refine s_iconst (v := 1) dX11_isFull_18 rfl cI_1 ?_
      refine s_goto (tgt := 23) dX11_isFull_19 rfl ?_
      exact s_zret dX11_isFull_23 rfl (Or.inr rfl) (fun f h => h)
noncomputable def x11_countUnit (I : MI) : Option (MI) :=
lt (wI I 102 20 ((I 102 20) + 1)) fun I1 =>
lt (wI I1 102 22 ((I1 102 22) + 1)) fun I2 =>
some I2
theorem ct_x11_countUnit {X : WX} {I : MI} {L : ML} {R : MR} {S : MS} (hK : okm R S) : Ct X yX11_countUnit cX11_countUnit 1 none 0 0 [.ref (X.1 + 102)] (I, L, R, S) (x11_countUnit I) (fun r => (none, (r, L, R, S))) := by
  refine Ct.of (by decide) (Nat.le_of_ble_eq_true rfl) [(0, .ref (X.1 + 102))] rfl ?_
  unfold x11_countUnit
  refine s_aload_n 0 dX11_countUnit_0 rfl rfl ?_
  refine s_dup dX11_countUnit_1 rfl rfl ?_
  refine s_getI dX11_countUnit_2 rfl fl_11_317 (S_102 hK) ?_
  refine s_iconst (v := 1) dX11_countUnit_5 rfl cI_1 ?_
  refine s_iadd dX11_countUnit_6 rfl ?_
  refine s_putIL dX11_countUnit_7 rfl fl_11_317 (S_102 hK) (fun I1 => ?_)
  refine s_aload_n 0 dX11_countUnit_10 rfl rfl ?_
  refine s_dup dX11_countUnit_11 rfl rfl ?_
  refine s_getI dX11_countUnit_12 rfl fl_11_320 (S_102 hK) ?_
  refine s_iconst (v := 1) dX11_countUnit_15 rfl cI_1 ?_
  refine s_iadd dX11_countUnit_16 rfl ?_
  refine s_putIL dX11_countUnit_17 rfl fl_11_320 (S_102 hK) (fun I2 => ?_)
  exact s_vret dX11_countUnit_20 rfl (fun f h => h)
noncomputable def x11_openUp (p1 : Int32) (I : MI) (L : ML) : Option (MI × ML) :=
ck (vp_in (I 102 19) 160) <|
lt (wI I 110 (ix (I 102 19)) p1) fun I1 =>
lt (wI I1 102 19 ((I1 102 19) + 1)) fun I3 =>
lt (wI I3 102 23 ((I3 102 23) + 1)) fun I4 =>
if (I4 102 2) = 0 then (
b2 (x11_token I4 L) fun I5 L6 =>
some (I5, L6)) else
some (I4, L)
theorem ct_x11_openUp {X : WX} {p1 : Int32} {I : MI} {L : ML} {R : MR} {S : MS} (hK : okm R S) : Ct X yX11_openUp cX11_openUp 2 none 2 43 [.ref (X.1 + 102), .int p1] (I, L, R, S) (x11_openUp p1 I L) (fun r => (none, (r.1, r.2, R, S))) := by
  refine Ct.of (by decide) (Nat.le_of_ble_eq_true rfl) [(0, .ref (X.1 + 102)), (1, .int p1)] rfl ?_
  unfold x11_openUp
  refine s_aload_n 0 dX11_openUp_0 rfl rfl ?_
  refine s_getR 110 dX11_openUp_1 rfl fl_11_35 rfl (S_102 hK) (R_102_16 hK) ?_
  refine s_aload_n 0 dX11_openUp_4 rfl rfl ?_
  refine s_getI dX11_openUp_5 rfl fl_11_304 (S_102 hK) ?_
  refine s_iload_n 1 dX11_openUp_8 rfl rfl ?_
  refine sm_ck (fun g2 => ?_)
  refine s_iastL dX11_openUp_9 rfl (S_110 hK) g2 (fun I1 => ?_)
  refine s_aload_n 0 dX11_openUp_10 rfl rfl ?_
  refine s_dup dX11_openUp_11 rfl rfl ?_
  refine s_getI dX11_openUp_12 rfl fl_11_304 (S_102 hK) ?_
  refine s_iconst (v := 1) dX11_openUp_15 rfl cI_1 ?_
  refine s_iadd dX11_openUp_16 rfl ?_
  refine s_putIL dX11_openUp_17 rfl fl_11_304 (S_102 hK) (fun I3 => ?_)
  refine s_aload_n 0 dX11_openUp_20 rfl rfl ?_
  refine s_dup dX11_openUp_21 rfl rfl ?_
  refine s_getI dX11_openUp_22 rfl fl_11_314 (S_102 hK) ?_
  refine s_iconst (v := 1) dX11_openUp_25 rfl cI_1 ?_
  refine s_iadd dX11_openUp_26 rfl ?_
  refine s_putIL dX11_openUp_27 rfl fl_11_314 (S_102 hK) (fun I4 => ?_)
  refine s_aload_n 0 dX11_openUp_30 rfl rfl ?_
  refine s_getI dX11_openUp_31 rfl fl_11_224 (S_102 hK) ?_
  refine s_if_ne (tgt := 41) dX11_openUp_34 rfl rfl (fun _ => ?_) (fun _ => ?_)
  · skip
    exact s_vret dX11_openUp_41 rfl (fun f h => h)
  · skip
    refine s_aload_n 0 dX11_openUp_37 rfl rfl ?_
    refine s_callV0_v2 dX11_openUp_38 rfl lkV_RX11_287 (S_102 hK) (Nat.le_of_ble_eq_true rfl) (Nat.le_of_ble_eq_true rfl) (Nat.le_of_ble_eq_true rfl) (ct_x11_token hK) (fun I5 L6 => ?_)
    exact s_vret dX11_openUp_41 rfl (fun f h => h)
noncomputable def x11_unit_L2s (rec : Int32 → MI → ML → Option (MI × ML)) (w1 : Int32) (I : MI) (L : ML) : Option (MI × ML) :=
if w1 = 0 then (
some (I, L)) else
if (I 102 2) = 0 then (
b1 (x11_isWord (7237492 : Int64) I L) fun r2 =>
if r2 = 0 then (
if (I 102 6) = 40 then (
b1 (x11_isFull I) fun r4 =>
b1 (
if r4 = 0 then (
if 6 < (I 102 23) then (
b1 (x11_wrong (2 : Int32) I) fun I7 =>
some I7) else
some I) else
b1 (x11_wrong (2 : Int32) I) fun I6 =>
some I6) fun e5 =>
b1 (x11_countUnit e5) fun I8 =>
b2 (x11_openUp (20 : Int32) I8 L) fun I9 L10 =>
rec w1 I9 L10) else
lt (0 : Int32) fun v3 =>
rec v3 I L) else
b1 (x11_mayNot I) fun r11 =>
if r11 = 0 then (
if (I 102 6) = 40 then (
b1 (x11_isFull I) fun r13 =>
b1 (
if r13 = 0 then (
if 6 < (I 102 23) then (
b1 (x11_wrong (2 : Int32) I) fun I16 =>
some I16) else
some I) else
b1 (x11_wrong (2 : Int32) I) fun I15 =>
some I15) fun e14 =>
b1 (x11_countUnit e14) fun I17 =>
b2 (x11_openUp (20 : Int32) I17 L) fun I18 L19 =>
rec w1 I18 L19) else
lt (0 : Int32) fun v12 =>
rec v12 I L) else
b1 (
if 6 < (I 102 23) then (
b1 (x11_wrong (2 : Int32) I) fun I21 =>
some I21) else
some I) fun e20 =>
b2 (x11_openUp (21 : Int32) e20 L) fun I22 L23 =>
rec w1 I22 L23) else
some (I, L)
noncomputable def x11_unit_L2 : Nat → Int32 → MI → ML → Option (MI × ML)
  | 0 => fun _ _ _ => none
  | n + 1 => x11_unit_L2s (x11_unit_L2 n)
noncomputable def x11_unit (I : MI) (L : ML) : Option (MI × ML) :=
lt (1 : Int32) fun v1 =>
b1 (x11_unit_L2 FU v1 I L) fun e24 =>
if 0 < (e24.1 102 2) then (
some (e24.1, e24.2)) else
b1 (x11_asked e24.1 e24.2) fun r25 =>
lt r25 fun v26 =>
b1 (
if (e24.1 102 6) = 2 then (
b1 (x11_isFull e24.1) fun r28 =>
if r28 = 0 then (
some e24.1) else
b1 (x11_wrong (2 : Int32) e24.1) fun I29 =>
some I29) else
if v26 < 0 then (
b1 (x11_wrong (2 : Int32) e24.1) fun I30 =>
some I30) else
b1 (x11_isFull e24.1) fun r31 =>
if r31 = 0 then (
some e24.1) else
b1 (x11_wrong (2 : Int32) e24.1) fun I32 =>
some I32) fun e27 =>
if 0 < (e27 102 2) then (
some (e27, e24.2)) else
b1 (x11_countUnit e27) fun I33 =>
b1 (
if v26 < 0 then (
some (0 : Int32)) else
some (1 : Int32)) fun e34 =>
b1 (
if v26 < 0 then (
some (I33 102 8)) else
some v26) fun e35 =>
b1 (x11_add e34 e35 I33) fun I36 =>
b2 (x11_token I36 e24.2) fun I37 L38 =>
some (I37, L38)
theorem x11_unit_L2_ok {X : WX} {n0 s0 : Nat} {R : MR} {S : MS} (hK : okm R S) : ∀ (n : Nat) (w1 : Int32) (I : MI) (L : ML), Sim X yX11_unit cX11_unit 3 none 3 64 n0 s0 2 [(0, .ref (X.1 + 102)), (1, .int w1)] [] (I, L, R, S) (x11_unit_L2 n w1 I L) (fun b f => Ex X yX11_unit cX11_unit 3 none 3 64 n0 s0 101 [(0, .ref (X.1 + 102))] [] (b.1, b.2, R, S) f) := by
  intro n
  induction n with
  | zero =>
    intro w1 I L
    exact sm_none
  | succ n ih =>
    intro w1 I L
    change Sim _ _ _ _ _ _ _ _ _ _ _ _ _ (x11_unit_L2s (x11_unit_L2 n) w1 I L) _
    unfold x11_unit_L2s
    refine s_iload_n 1 dX11_unit_2 rfl rfl ?_
    refine s_if_eq (tgt := 101) dX11_unit_3 rfl rfl (fun _ => ?_) (fun _ => ?_)
    · skip
      refine s_pick [0] rfl ?_
      exact sm_exit (fun f h => h)
    · skip
      refine s_aload_n 0 dX11_unit_6 rfl rfl ?_
      refine s_getI dX11_unit_7 rfl fl_11_224 (S_102 hK) ?_
      refine s_if_ne (tgt := 101) dX11_unit_10 rfl rfl (fun _ => ?_) (fun _ => ?_)
      · skip
        refine s_pick [0] rfl ?_
        exact sm_exit (fun f h => h)
      · skip
        refine s_aload_n 0 dX11_unit_13 rfl rfl ?_
        refine s_ldc2 (v := 7237492) dX11_unit_14 rfl kl_11_277c ?_
        refine s_callV1_i0 dX11_unit_17 rfl lkV_RX11_283 (S_102 hK) (Nat.le_of_ble_eq_true rfl) (Nat.le_of_ble_eq_true rfl) (Nat.le_of_ble_eq_true rfl) (ct_x11_isWord hK) (fun r2 => ?_)
        refine s_if_eq (tgt := 53) dX11_unit_20 rfl rfl (fun _ => ?_) (fun _ => ?_)
        · skip
          refine s_aload_n 0 dX11_unit_53 rfl rfl ?_
          refine s_getI dX11_unit_54 rfl fl_11_211 (S_102 hK) ?_
          refine s_bipush (v := 40) dX11_unit_57 rfl cB_40 ?_
          refine s_icmp_ne (tgt := 96) dX11_unit_59 rfl rfl (fun _ => ?_) (fun _ => ?_)
          · skip
            refine s_iconst (v := 0) dX11_unit_96 rfl cI_0 ?_
            refine s_istore_nL (fun v3 => [(1, .int v3), (0, .ref (X.1 + 102))]) dX11_unit_97 rfl (by decide) (fun _ => rfl) (fun v3 => ?_)
            refine s_goto (tgt := 2) dX11_unit_98 rfl ?_
            refine s_pick [1, 0] rfl ?_
            exact ih v3 I L
          · skip
            refine s_aload_n 0 dX11_unit_62 rfl rfl ?_
            refine s_callV0_i0 dX11_unit_63 rfl lkV_RX11_329 (S_102 hK) (Nat.le_of_ble_eq_true rfl) (Nat.le_of_ble_eq_true rfl) (Nat.le_of_ble_eq_true rfl) (ct_x11_isFull hK) (fun r4 => ?_)
            refine sm_reg (pcx := 83) (lsx := fun e5 => [(0, .ref (X.1 + 102)), (1, .int w1)]) (stx := fun e5 => []) (ux := fun e5 => (e5, L, R, S)) ?_ (fun e5 => ?_)
            · skip
              refine s_if_ne (tgt := 78) dX11_unit_66 rfl rfl (fun _ => ?_) (fun _ => ?_)
              · skip
                refine s_aload_n 0 dX11_unit_78 rfl rfl ?_
                refine s_iconst (v := 2) dX11_unit_79 rfl cI_2 ?_
                refine s_callV1_v1 dX11_unit_80 rfl lkV_RX11_290 (S_102 hK) (Nat.le_of_ble_eq_true rfl) (Nat.le_of_ble_eq_true rfl) (Nat.le_of_ble_eq_true rfl) (ct_x11_wrong hK) (fun I6 => ?_)
                exact sm_exit (fun f h => h)
              · skip
                refine s_aload_n 0 dX11_unit_69 rfl rfl ?_
                refine s_getI dX11_unit_70 rfl fl_11_314 (S_102 hK) ?_
                refine s_bipush (v := 6) dX11_unit_73 rfl cB_6 ?_
                refine s_icmp_le (tgt := 83) dX11_unit_75 rfl rfl (fun _ => ?_) (fun _ => ?_)
                · skip
                  exact sm_exit (fun f h => h)
                · skip
                  refine s_aload_n 0 dX11_unit_78 rfl rfl ?_
                  refine s_iconst (v := 2) dX11_unit_79 rfl cI_2 ?_
                  refine s_callV1_v1 dX11_unit_80 rfl lkV_RX11_290 (S_102 hK) (Nat.le_of_ble_eq_true rfl) (Nat.le_of_ble_eq_true rfl) (Nat.le_of_ble_eq_true rfl) (ct_x11_wrong hK) (fun I7 => ?_)
                  exact sm_exit (fun f h => h)
            · skip
              refine s_aload_n 0 dX11_unit_83 rfl rfl ?_
              refine s_callV0_v1 dX11_unit_84 rfl lkV_RX11_332 (S_102 hK) (Nat.le_of_ble_eq_true rfl) (Nat.le_of_ble_eq_true rfl) (Nat.le_of_ble_eq_true rfl) (ct_x11_countUnit hK) (fun I8 => ?_)
              refine s_aload_n 0 dX11_unit_87 rfl rfl ?_
              refine s_bipush (v := 20) dX11_unit_88 rfl cB_20 ?_
              refine s_callV1_v2 dX11_unit_90 rfl lkV_RX11_326 (S_102 hK) (Nat.le_of_ble_eq_true rfl) (Nat.le_of_ble_eq_true rfl) (Nat.le_of_ble_eq_true rfl) (ct_x11_openUp hK) (fun I9 L10 => ?_)
              refine s_goto (tgt := 2) dX11_unit_93 rfl ?_
              exact ih w1 I9 L10
        · skip
          refine s_aload_n 0 dX11_unit_23 rfl rfl ?_
          refine s_callV0_i0 dX11_unit_24 rfl lkV_RX11_323 (S_102 hK) (Nat.le_of_ble_eq_true rfl) (Nat.le_of_ble_eq_true rfl) (Nat.le_of_ble_eq_true rfl) (ct_x11_mayNot hK) (fun r11 => ?_)
          refine s_if_eq (tgt := 53) dX11_unit_27 rfl rfl (fun _ => ?_) (fun _ => ?_)
          · skip
            refine s_aload_n 0 dX11_unit_53 rfl rfl ?_
            refine s_getI dX11_unit_54 rfl fl_11_211 (S_102 hK) ?_
            refine s_bipush (v := 40) dX11_unit_57 rfl cB_40 ?_
            refine s_icmp_ne (tgt := 96) dX11_unit_59 rfl rfl (fun _ => ?_) (fun _ => ?_)
            · skip
              refine s_iconst (v := 0) dX11_unit_96 rfl cI_0 ?_
              refine s_istore_nL (fun v12 => [(1, .int v12), (0, .ref (X.1 + 102))]) dX11_unit_97 rfl (by decide) (fun _ => rfl) (fun v12 => ?_)
              refine s_goto (tgt := 2) dX11_unit_98 rfl ?_
              refine s_pick [1, 0] rfl ?_
              exact ih v12 I L
            · skip
              refine s_aload_n 0 dX11_unit_62 rfl rfl ?_
              refine s_callV0_i0 dX11_unit_63 rfl lkV_RX11_329 (S_102 hK) (Nat.le_of_ble_eq_true rfl) (Nat.le_of_ble_eq_true rfl) (Nat.le_of_ble_eq_true rfl) (ct_x11_isFull hK) (fun r13 => ?_)
              refine sm_reg (pcx := 83) (lsx := fun e14 => [(0, .ref (X.1 + 102)), (1, .int w1)]) (stx := fun e14 => []) (ux := fun e14 => (e14, L, R, S)) ?_ (fun e14 => ?_)
              · skip
                refine s_if_ne (tgt := 78) dX11_unit_66 rfl rfl (fun _ => ?_) (fun _ => ?_)
                · skip
                  refine s_aload_n 0 dX11_unit_78 rfl rfl ?_
                  refine s_iconst (v := 2) dX11_unit_79 rfl cI_2 ?_
                  refine s_callV1_v1 dX11_unit_80 rfl lkV_RX11_290 (S_102 hK) (Nat.le_of_ble_eq_true rfl) (Nat.le_of_ble_eq_true rfl) (Nat.le_of_ble_eq_true rfl) (ct_x11_wrong hK) (fun I15 => ?_)
                  exact sm_exit (fun f h => h)
                · skip
                  refine s_aload_n 0 dX11_unit_69 rfl rfl ?_
                  refine s_getI dX11_unit_70 rfl fl_11_314 (S_102 hK) ?_
                  refine s_bipush (v := 6) dX11_unit_73 rfl cB_6 ?_
                  refine s_icmp_le (tgt := 83) dX11_unit_75 rfl rfl (fun _ => ?_) (fun _ => ?_)
                  · skip
                    exact sm_exit (fun f h => h)
                  · skip
                    refine s_aload_n 0 dX11_unit_78 rfl rfl ?_
                    refine s_iconst (v := 2) dX11_unit_79 rfl cI_2 ?_
                    refine s_callV1_v1 dX11_unit_80 rfl lkV_RX11_290 (S_102 hK) (Nat.le_of_ble_eq_true rfl) (Nat.le_of_ble_eq_true rfl) (Nat.le_of_ble_eq_true rfl) (ct_x11_wrong hK) (fun I16 => ?_)
                    exact sm_exit (fun f h => h)
              · skip
                refine s_aload_n 0 dX11_unit_83 rfl rfl ?_
                refine s_callV0_v1 dX11_unit_84 rfl lkV_RX11_332 (S_102 hK) (Nat.le_of_ble_eq_true rfl) (Nat.le_of_ble_eq_true rfl) (Nat.le_of_ble_eq_true rfl) (ct_x11_countUnit hK) (fun I17 => ?_)
                refine s_aload_n 0 dX11_unit_87 rfl rfl ?_
                refine s_bipush (v := 20) dX11_unit_88 rfl cB_20 ?_
                refine s_callV1_v2 dX11_unit_90 rfl lkV_RX11_326 (S_102 hK) (Nat.le_of_ble_eq_true rfl) (Nat.le_of_ble_eq_true rfl) (Nat.le_of_ble_eq_true rfl) (ct_x11_openUp hK) (fun I18 L19 => ?_)
                refine s_goto (tgt := 2) dX11_unit_93 rfl ?_
                exact ih w1 I18 L19
          · skip
            refine s_aload_n 0 dX11_unit_30 rfl rfl ?_
            refine s_getI dX11_unit_31 rfl fl_11_314 (S_102 hK) ?_
            refine s_bipush (v := 6) dX11_unit_34 rfl cB_6 ?_
            refine sm_reg (pcx := 44) (lsx := fun e20 => [(0, .ref (X.1 + 102)), (1, .int w1)]) (stx := fun e20 => []) (ux := fun e20 => (e20, L, R, S)) ?_ (fun e20 => ?_)
            · skip
              refine s_icmp_le (tgt := 44) dX11_unit_36 rfl rfl (fun _ => ?_) (fun _ => ?_)
              · skip
                exact sm_exit (fun f h => h)
              · skip
                refine s_aload_n 0 dX11_unit_39 rfl rfl ?_
                refine s_iconst (v := 2) dX11_unit_40 rfl cI_2 ?_
                refine s_callV1_v1 dX11_unit_41 rfl lkV_RX11_290 (S_102 hK) (Nat.le_of_ble_eq_true rfl) (Nat.le_of_ble_eq_true rfl) (Nat.le_of_ble_eq_true rfl) (ct_x11_wrong hK) (fun I21 => ?_)
                exact sm_exit (fun f h => h)
            · skip
              refine s_aload_n 0 dX11_unit_44 rfl rfl ?_
              refine s_bipush (v := 21) dX11_unit_45 rfl cB_21 ?_
              refine s_callV1_v2 dX11_unit_47 rfl lkV_RX11_326 (S_102 hK) (Nat.le_of_ble_eq_true rfl) (Nat.le_of_ble_eq_true rfl) (Nat.le_of_ble_eq_true rfl) (ct_x11_openUp hK) (fun I22 L23 => ?_)
              refine s_goto (tgt := 2) dX11_unit_50 rfl ?_
              exact ih w1 I22 L23
theorem ct_x11_unit {X : WX} {I : MI} {L : ML} {R : MR} {S : MS} (hK : okm R S) : Ct X yX11_unit cX11_unit 3 none 3 64 [.ref (X.1 + 102)] (I, L, R, S) (x11_unit I L) (fun r => (none, (r.1, r.2, R, S))) := by
  refine Ct.of (by decide) (Nat.le_of_ble_eq_true rfl) [(0, .ref (X.1 + 102))] rfl ?_
  unfold x11_unit
  refine s_iconst (v := 1) dX11_unit_0 rfl cI_1 ?_
  refine s_istore_nL (fun v1 => [(1, .int v1), (0, .ref (X.1 + 102))]) dX11_unit_1 rfl (by decide) (fun _ => rfl) (fun v1 => ?_)
  refine s_pick [1, 0] rfl ?_
  refine sm_reg (x11_unit_L2_ok hK FU v1 I L) (fun e24 => ?_)
  refine s_aload_n 0 dX11_unit_101 rfl rfl ?_
  refine s_getI dX11_unit_102 rfl fl_11_224 (S_102 hK) ?_
  refine s_if_le (tgt := 109) dX11_unit_105 rfl rfl (fun _ => ?_) (fun _ => ?_)
  · skip
    refine s_aload_n 0 dX11_unit_109 rfl rfl ?_
    refine s_callV0_i0 dX11_unit_110 rfl lkV_RX11_335 (S_102 hK) (Nat.le_of_ble_eq_true rfl) (Nat.le_of_ble_eq_true rfl) (Nat.le_of_ble_eq_true rfl) (ct_x11_asked hK) (fun r25 => ?_)
    refine s_istore_nL (fun v26 => [(2, .int v26), (0, .ref (X.1 + 102))]) dX11_unit_113 rfl (by decide) (fun _ => rfl) (fun v26 => ?_)
    refine s_aload_n 1 dX11_unit_114 rfl rfl ?_
    refine s_getI dX11_unit_115 rfl fl_11_211 (S_102 hK) ?_
    refine s_iconst (v := 2) dX11_unit_118 rfl cI_2 ?_
    refine sm_reg (pcx := 138) (lsx := fun e27 => [(0, .ref (X.1 + 102)), (2, .int v26)]) (stx := fun e27 => []) (ux := fun e27 => (e27, e24.2, R, S)) ?_ (fun e27 => ?_)
    · skip
      refine s_icmp_eq (tgt := 126) dX11_unit_119 rfl rfl (fun _ => ?_) (fun _ => ?_)
      · skip
        refine s_aload_n 1 dX11_unit_126 rfl rfl ?_
        refine s_callV0_i0 dX11_unit_127 rfl lkV_RX11_329 (S_102 hK) (Nat.le_of_ble_eq_true rfl) (Nat.le_of_ble_eq_true rfl) (Nat.le_of_ble_eq_true rfl) (ct_x11_isFull hK) (fun r28 => ?_)
        refine s_if_eq (tgt := 138) dX11_unit_130 rfl rfl (fun _ => ?_) (fun _ => ?_)
        · skip
          refine s_pick [1, 0] rfl ?_
          exact sm_exit (fun f h => h)
        · skip
          refine s_aload_n 1 dX11_unit_133 rfl rfl ?_
          refine s_iconst (v := 2) dX11_unit_134 rfl cI_2 ?_
          refine s_callV1_v1 dX11_unit_135 rfl lkV_RX11_290 (S_102 hK) (Nat.le_of_ble_eq_true rfl) (Nat.le_of_ble_eq_true rfl) (Nat.le_of_ble_eq_true rfl) (ct_x11_wrong hK) (fun I29 => ?_)
          refine s_pick [1, 0] rfl ?_
          exact sm_exit (fun f h => h)
      · skip
        refine s_iload_n 0 dX11_unit_122 rfl rfl ?_
        refine s_if_lt (tgt := 133) dX11_unit_123 rfl rfl (fun _ => ?_) (fun _ => ?_)
        · skip
          refine s_aload_n 1 dX11_unit_133 rfl rfl ?_
          refine s_iconst (v := 2) dX11_unit_134 rfl cI_2 ?_
          refine s_callV1_v1 dX11_unit_135 rfl lkV_RX11_290 (S_102 hK) (Nat.le_of_ble_eq_true rfl) (Nat.le_of_ble_eq_true rfl) (Nat.le_of_ble_eq_true rfl) (ct_x11_wrong hK) (fun I30 => ?_)
          refine s_pick [1, 0] rfl ?_
          exact sm_exit (fun f h => h)
        · skip
          refine s_aload_n 1 dX11_unit_126 rfl rfl ?_
          refine s_callV0_i0 dX11_unit_127 rfl lkV_RX11_329 (S_102 hK) (Nat.le_of_ble_eq_true rfl) (Nat.le_of_ble_eq_true rfl) (Nat.le_of_ble_eq_true rfl) (ct_x11_isFull hK) (fun r31 => ?_)
          refine s_if_eq (tgt := 138) dX11_unit_130 rfl rfl (fun _ => ?_) (fun _ => ?_)
          · skip
            refine s_pick [1, 0] rfl ?_
            exact sm_exit (fun f h => h)
          · skip
            refine s_aload_n 1 dX11_unit_133 rfl rfl ?_
            refine s_iconst (v := 2) dX11_unit_134 rfl cI_2 ?_
            refine s_callV1_v1 dX11_unit_135 rfl lkV_RX11_290 (S_102 hK) (Nat.le_of_ble_eq_true rfl) (Nat.le_of_ble_eq_true rfl) (Nat.le_of_ble_eq_true rfl) (ct_x11_wrong hK) (fun I32 => ?_)
            refine s_pick [1, 0] rfl ?_
            exact sm_exit (fun f h => h)
    · skip
      refine s_aload_n 0 dX11_unit_138 rfl rfl ?_
      refine s_getI dX11_unit_139 rfl fl_11_224 (S_102 hK) ?_
      refine s_if_le (tgt := 146) dX11_unit_142 rfl rfl (fun _ => ?_) (fun _ => ?_)
      · skip
        refine s_aload_n 0 dX11_unit_146 rfl rfl ?_
        refine s_callV0_v1 dX11_unit_147 rfl lkV_RX11_332 (S_102 hK) (Nat.le_of_ble_eq_true rfl) (Nat.le_of_ble_eq_true rfl) (Nat.le_of_ble_eq_true rfl) (ct_x11_countUnit hK) (fun I33 => ?_)
        refine s_aload_n 0 dX11_unit_150 rfl rfl ?_
        refine s_iload_n 1 dX11_unit_151 rfl rfl ?_
        refine sm_reg (pcx := 160) (lsx := fun e34 => [(0, .ref (X.1 + 102)), (2, .int v26)]) (stx := fun e34 => [.int e34, .ref (X.1 + 102)]) (ux := fun e34 => (I33, e24.2, R, S)) ?_ (fun e34 => ?_)
        · skip
          refine s_if_ge (tgt := 159) dX11_unit_152 rfl rfl (fun _ => ?_) (fun _ => ?_)
          · skip
            refine s_iconst (v := 1) dX11_unit_159 rfl cI_1 ?_
            exact sm_exit (fun f h => h)
          · skip
            refine s_iconst (v := 0) dX11_unit_155 rfl cI_0 ?_
            refine s_goto (tgt := 160) dX11_unit_156 rfl ?_
            exact sm_exit (fun f h => h)
        · skip
          refine s_iload_n 1 dX11_unit_160 rfl rfl ?_
          refine sm_reg (pcx := 172) (lsx := fun e35 => [(0, .ref (X.1 + 102))]) (stx := fun e35 => [.int e35, .int e34, .ref (X.1 + 102)]) (ux := fun e35 => (I33, e24.2, R, S)) ?_ (fun e35 => ?_)
          · skip
            refine s_if_ge (tgt := 171) dX11_unit_161 rfl rfl (fun _ => ?_) (fun _ => ?_)
            · skip
              refine s_iload_n 1 dX11_unit_171 rfl rfl ?_
              refine s_pick [0] rfl ?_
              exact sm_exit (fun f h => h)
            · skip
              refine s_aload_n 0 dX11_unit_164 rfl rfl ?_
              refine s_getI dX11_unit_165 rfl fl_11_208 (S_102 hK) ?_
              refine s_goto (tgt := 172) dX11_unit_168 rfl ?_
              refine s_pick [0] rfl ?_
              exact sm_exit (fun f h => h)
          · skip
            refine s_callV2_v1 dX11_unit_172 rfl lkV_RX11_310 (S_102 hK) (Nat.le_of_ble_eq_true rfl) (Nat.le_of_ble_eq_true rfl) (Nat.le_of_ble_eq_true rfl) (ct_x11_add hK) (fun I36 => ?_)
            refine s_aload_n 0 dX11_unit_175 rfl rfl ?_
            refine s_callV0_v2 dX11_unit_176 rfl lkV_RX11_287 (S_102 hK) (Nat.le_of_ble_eq_true rfl) (Nat.le_of_ble_eq_true rfl) (Nat.le_of_ble_eq_true rfl) (ct_x11_token hK) (fun I37 L38 => ?_)
            exact s_vret dX11_unit_179 rfl (fun f h => h)
      · skip
        exact s_vret dX11_unit_145 rfl (fun f h => h)
  · skip
    exact s_vret dX11_unit_108 rfl (fun f h => h)
