noncomputable def x11_readAll_L88s (rec : MI → ML → Option (MI × ML)) (I : MI) (L : ML) : Option (MI × ML) :=
if (I 102 2) = 0 then (
if (I 102 6) = 0 then (
some (I, L)) else
b2 (x11_readLine I L) fun I19 L20 =>
rec I19 L20) else
some (I, L)
noncomputable def x11_readAll_L88 : Nat → MI → ML → Option (MI × ML)
  | 0 => fun _ _ => none
  | n + 1 => x11_readAll_L88s (x11_readAll_L88 n)
noncomputable def x11_readAll (I : MI) (L : ML) : Option (MI × ML) :=
lt (wI I 102 5 (I 102 1)) fun I1 =>
lt (wI I1 102 1 (0 : Int32)) fun I2 =>
lt (wI I2 102 4 (0 : Int32)) fun I3 =>
lt (wI I3 102 2 (0 : Int32)) fun I4 =>
lt (wI I4 102 3 (-1 : Int32)) fun I5 =>
lt (wI I5 102 49 (0 : Int32)) fun I6 =>
lt (wI I6 102 50 (0 : Int32)) fun I7 =>
lt (wI I7 102 51 (0 : Int32)) fun I8 =>
lt (wI I8 102 52 (0 : Int32)) fun I9 =>
lt (wI I9 102 53 (0 : Int32)) fun I10 =>
lt (wI I10 102 54 (0 : Int32)) fun I11 =>
lt (wI I11 102 55 (0 : Int32)) fun I12 =>
lt (wI I12 102 62 (0 : Int32)) fun I13 =>
lt (wI I13 102 64 (10 : Int32)) fun I14 =>
lt (wI I14 102 63 (0 : Int32)) fun I15 =>
lt (wI I15 102 20 (0 : Int32)) fun I16 =>
b2 (x11_token I16 L) fun I17 L18 =>
b1 (x11_readAll_L88 FU I17 L18) fun e21 =>
some (e21.1, e21.2)
theorem x11_readAll_L88_ok {X : WX} {n0 s0 : Nat} {R : MR} {S : MS} (hK : okm R S) : ∀ (n : Nat) (I : MI) (L : ML), Sim X yX11_readAll cX11_readAll 1 none 7 150 n0 s0 88 [(0, .ref (X.1 + 102))] [] (I, L, R, S) (x11_readAll_L88 n I L) (fun b f => Ex X yX11_readAll cX11_readAll 1 none 7 150 n0 s0 109 [] [] (b.1, b.2, R, S) f) := by
  intro n
  induction n with
  | zero =>
    intro I L
    exact sm_none
  | succ n ih =>
    intro I L
    change Sim _ _ _ _ _ _ _ _ _ _ _ _ _ (x11_readAll_L88s (x11_readAll_L88 n) I L) _
    unfold x11_readAll_L88s
    refine s_aload_n 0 dX11_readAll_88 rfl rfl ?_
    refine s_getI dX11_readAll_89 rfl fl_11_224 (S_102 hK) ?_
    refine s_if_ne (tgt := 109) dX11_readAll_92 rfl rfl (fun _ => ?_) (fun _ => ?_)
    · skip
      refine s_pick [] rfl ?_
      exact sm_exit (fun f h => h)
    · skip
      refine s_aload_n 0 dX11_readAll_95 rfl rfl ?_
      refine s_getI dX11_readAll_96 rfl fl_11_211 (S_102 hK) ?_
      refine s_if_eq (tgt := 109) dX11_readAll_99 rfl rfl (fun _ => ?_) (fun _ => ?_)
      · skip
        refine s_pick [] rfl ?_
        exact sm_exit (fun f h => h)
      · skip
        refine s_aload_n 0 dX11_readAll_102 rfl rfl ?_
        refine s_callV0_v2 dX11_readAll_103 rfl lkV_RX11_449 (S_102 hK) (Nat.le_of_ble_eq_true rfl) (Nat.le_of_ble_eq_true rfl) (Nat.le_of_ble_eq_true rfl) (ct_x11_readLine hK) (fun I19 L20 => ?_)
        refine s_goto (tgt := 88) dX11_readAll_106 rfl ?_
        exact ih I19 L20
theorem ct_x11_readAll {X : WX} {I : MI} {L : ML} {R : MR} {S : MS} (hK : okm R S) : Ct X yX11_readAll cX11_readAll 1 none 7 150 [.ref (X.1 + 102)] (I, L, R, S) (x11_readAll I L) (fun r => (none, (r.1, r.2, R, S))) := by
  refine Ct.of (by decide) (Nat.le_of_ble_eq_true rfl) [(0, .ref (X.1 + 102))] rfl ?_
  unfold x11_readAll
  refine s_aload_n 0 dX11_readAll_0 rfl rfl ?_
  refine s_aload_n 0 dX11_readAll_1 rfl rfl ?_
  refine s_getI dX11_readAll_2 rfl fl_11_184 (S_102 hK) ?_
  refine s_putIL dX11_readAll_5 rfl fl_11_194 (S_102 hK) (fun I1 => ?_)
  refine s_aload_n 0 dX11_readAll_8 rfl rfl ?_
  refine s_iconst (v := 0) dX11_readAll_9 rfl cI_0 ?_
  refine s_putIL dX11_readAll_10 rfl fl_11_184 (S_102 hK) (fun I2 => ?_)
  refine s_aload_n 0 dX11_readAll_13 rfl rfl ?_
  refine s_iconst (v := 0) dX11_readAll_14 rfl cI_0 ?_
  refine s_putIL dX11_readAll_15 rfl fl_11_191 (S_102 hK) (fun I3 => ?_)
  refine s_aload_n 0 dX11_readAll_18 rfl rfl ?_
  refine s_iconst (v := 0) dX11_readAll_19 rfl cI_0 ?_
  refine s_putIL dX11_readAll_20 rfl fl_11_224 (S_102 hK) (fun I4 => ?_)
  refine s_aload_n 0 dX11_readAll_23 rfl rfl ?_
  refine s_iconst (v := (-1)) dX11_readAll_24 rfl cI_m1 ?_
  refine s_putIL dX11_readAll_25 rfl fl_11_13 (S_102 hK) (fun I5 => ?_)
  refine s_aload_n 0 dX11_readAll_28 rfl rfl ?_
  refine s_iconst (v := 0) dX11_readAll_29 rfl cI_0 ?_
  refine s_putIL dX11_readAll_30 rfl fl_11_382 (S_102 hK) (fun I6 => ?_)
  refine s_aload_n 0 dX11_readAll_33 rfl rfl ?_
  refine s_iconst (v := 0) dX11_readAll_34 rfl cI_0 ?_
  refine s_putIL dX11_readAll_35 rfl fl_11_385 (S_102 hK) (fun I7 => ?_)
  refine s_aload_n 0 dX11_readAll_38 rfl rfl ?_
  refine s_iconst (v := 0) dX11_readAll_39 rfl cI_0 ?_
  refine s_putIL dX11_readAll_40 rfl fl_11_388 (S_102 hK) (fun I8 => ?_)
  refine s_aload_n 0 dX11_readAll_43 rfl rfl ?_
  refine s_iconst (v := 0) dX11_readAll_44 rfl cI_0 ?_
  refine s_putIL dX11_readAll_45 rfl fl_11_394 (S_102 hK) (fun I9 => ?_)
  refine s_aload_n 0 dX11_readAll_48 rfl rfl ?_
  refine s_iconst (v := 0) dX11_readAll_49 rfl cI_0 ?_
  refine s_putIL dX11_readAll_50 rfl fl_11_400 (S_102 hK) (fun I10 => ?_)
  refine s_aload_n 0 dX11_readAll_53 rfl rfl ?_
  refine s_iconst (v := 0) dX11_readAll_54 rfl cI_0 ?_
  refine s_putIL dX11_readAll_55 rfl fl_11_409 (S_102 hK) (fun I11 => ?_)
  refine s_aload_n 0 dX11_readAll_58 rfl rfl ?_
  refine s_iconst (v := 0) dX11_readAll_59 rfl cI_0 ?_
  refine s_putIL dX11_readAll_60 rfl fl_11_419 (S_102 hK) (fun I12 => ?_)
  refine s_aload_n 0 dX11_readAll_63 rfl rfl ?_
  refine s_iconst (v := 0) dX11_readAll_64 rfl cI_0 ?_
  refine s_putZL dX11_readAll_65 rfl fl_11_415 (S_102 hK) (Or.inl rfl) (fun I13 => ?_)
  refine s_aload_n 0 dX11_readAll_68 rfl rfl ?_
  refine s_bipush (v := 10) dX11_readAll_69 rfl cB_10 ?_
  refine s_putIL dX11_readAll_71 rfl fl_11_425 (S_102 hK) (fun I14 => ?_)
  refine s_aload_n 0 dX11_readAll_74 rfl rfl ?_
  refine s_iconst (v := 0) dX11_readAll_75 rfl cI_0 ?_
  refine s_putZL dX11_readAll_76 rfl fl_11_422 (S_102 hK) (Or.inl rfl) (fun I15 => ?_)
  refine s_aload_n 0 dX11_readAll_79 rfl rfl ?_
  refine s_iconst (v := 0) dX11_readAll_80 rfl cI_0 ?_
  refine s_putIL dX11_readAll_81 rfl fl_11_317 (S_102 hK) (fun I16 => ?_)
  refine s_aload_n 0 dX11_readAll_84 rfl rfl ?_
  refine s_callV0_v2 dX11_readAll_85 rfl lkV_RX11_287 (S_102 hK) (Nat.le_of_ble_eq_true rfl) (Nat.le_of_ble_eq_true rfl) (Nat.le_of_ble_eq_true rfl) (ct_x11_token hK) (fun I17 L18 => ?_)
  refine sm_reg (x11_readAll_L88_ok hK FU I17 L18) (fun e21 => ?_)
  exact s_vret dX11_readAll_109 rfl (fun f h => h)
noncomputable def x11_layTold_L2s (rec : Int32 → MI → Option (MI)) (w1 : Int32) (I : MI) : Option (MI) :=
if w1 < 10 then (
ck (vp_in w1 10) <|
ck (vp_in (5 * w1) 128) <|
lt (wI I 137 (ix (5 * w1)) (I 127 (ix w1))) fun I3 =>
ck (vp_in w1 10) <|
ck (vp_in ((5 * w1) + 1) 128) <|
lt (wI I3 137 (ix ((5 * w1) + 1)) (I3 128 (ix w1))) fun I6 =>
ck (vp_in ((5 * w1) + 2) 128) <|
lt (wI I6 137 (ix ((5 * w1) + 2)) (-1 : Int32)) fun I8 =>
ck (vp_in ((5 * w1) + 3) 128) <|
lt (wI I8 137 (ix ((5 * w1) + 3)) (0 : Int32)) fun I10 =>
ck (vp_in w1 10) <|
ck (vp_in ((5 * w1) + 4) 128) <|
lt (wI I10 137 (ix ((5 * w1) + 4)) (I10 125 (ix w1))) fun I13 =>
lt (w1 + 1) fun v15 =>
rec v15 I13) else
some I
noncomputable def x11_layTold_L2 : Nat → Int32 → MI → Option (MI)
  | 0 => fun _ _ => none
  | n + 1 => x11_layTold_L2s (x11_layTold_L2 n)
noncomputable def x11_layTold_L84s (rec : Int32 → MI → Option (MI)) (w1 : Int32) (I : MI) : Option (MI) :=
if w1 < 4 then (
ck (vp_in w1 4) <|
ck (vp_in (50 + (3 * w1)) 128) <|
lt (wI I 137 (ix (50 + (3 * w1))) (I 133 (ix w1))) fun I19 =>
ck (vp_in (51 + (3 * w1)) 128) <|
lt (wI I19 137 (ix (51 + (3 * w1))) (0 : Int32)) fun I21 =>
ck (vp_in (52 + (3 * w1)) 128) <|
lt (wI I21 137 (ix (52 + (3 * w1))) (0 : Int32)) fun I23 =>
lt (w1 + 1) fun v25 =>
rec v25 I23) else
some I
noncomputable def x11_layTold_L84 : Nat → Int32 → MI → Option (MI)
  | 0 => fun _ _ => none
  | n + 1 => x11_layTold_L84s (x11_layTold_L84 n)
noncomputable def x11_layTold (I : MI) : Option (MI) :=
lt (0 : Int32) fun v1 =>
b1 (x11_layTold_L2 FU v1 I) fun e16 =>
lt (0 : Int32) fun v17 =>
b1 (x11_layTold_L84 FU v17 e16) fun e26 =>
some e26
theorem x11_layTold_L2_ok {X : WX} {n0 s0 : Nat} {L : ML} {R : MR} {S : MS} (hK : okm R S) : ∀ (n : Nat) (w1 : Int32) (I : MI), Sim X yX11_layTold cX11_layTold 2 none 0 0 n0 s0 2 [(0, .ref (X.1 + 102)), (1, .int w1)] [] (I, L, R, S) (x11_layTold_L2 n w1 I) (fun b f => Ex X yX11_layTold cX11_layTold 2 none 0 0 n0 s0 82 [(0, .ref (X.1 + 102))] [] (b, L, R, S) f) := by
  intro n
  induction n with
  | zero =>
    intro w1 I
    exact sm_none
  | succ n ih =>
    intro w1 I
    change Sim _ _ _ _ _ _ _ _ _ _ _ _ _ (x11_layTold_L2s (x11_layTold_L2 n) w1 I) _
    unfold x11_layTold_L2s
    refine s_iload_n 1 dX11_layTold_2 rfl rfl ?_
    refine s_bipush (v := 10) dX11_layTold_3 rfl cB_10 ?_
    refine s_icmp_ge (tgt := 82) dX11_layTold_5 rfl rfl (fun _ => ?_) (fun _ => ?_)
    · skip
      refine s_pick [0] rfl ?_
      exact sm_exit (fun f h => h)
    · skip
      refine s_aload_n 0 dX11_layTold_8 rfl rfl ?_
      refine s_getR 137 dX11_layTold_9 rfl fl_11_121 rfl (S_102 hK) (R_102_66 hK) ?_
      refine s_iconst (v := 5) dX11_layTold_12 rfl cI_5 ?_
      refine s_iload_n 1 dX11_layTold_13 rfl rfl ?_
      refine s_imul dX11_layTold_14 rfl ?_
      refine s_aload_n 0 dX11_layTold_15 rfl rfl ?_
      refine s_getR 127 dX11_layTold_16 rfl fl_11_88 rfl (S_102 hK) (R_102_39 hK) ?_
      refine s_iload_n 1 dX11_layTold_19 rfl rfl ?_
      refine sm_ck (fun g2 => ?_)
      refine s_iald dX11_layTold_20 rfl (S_127 hK) g2 ?_
      refine sm_ck (fun g4 => ?_)
      refine s_iastL dX11_layTold_21 rfl (S_137 hK) g4 (fun I3 => ?_)
      refine s_aload_n 0 dX11_layTold_22 rfl rfl ?_
      refine s_getR 137 dX11_layTold_23 rfl fl_11_121 rfl (S_102 hK) (R_102_66 hK) ?_
      refine s_iconst (v := 5) dX11_layTold_26 rfl cI_5 ?_
      refine s_iload_n 1 dX11_layTold_27 rfl rfl ?_
      refine s_imul dX11_layTold_28 rfl ?_
      refine s_iconst (v := 1) dX11_layTold_29 rfl cI_1 ?_
      refine s_iadd dX11_layTold_30 rfl ?_
      refine s_aload_n 0 dX11_layTold_31 rfl rfl ?_
      refine s_getR 128 dX11_layTold_32 rfl fl_11_91 rfl (S_102 hK) (R_102_40 hK) ?_
      refine s_iload_n 1 dX11_layTold_35 rfl rfl ?_
      refine sm_ck (fun g5 => ?_)
      refine s_iald dX11_layTold_36 rfl (S_128 hK) g5 ?_
      refine sm_ck (fun g7 => ?_)
      refine s_iastL dX11_layTold_37 rfl (S_137 hK) g7 (fun I6 => ?_)
      refine s_aload_n 0 dX11_layTold_38 rfl rfl ?_
      refine s_getR 137 dX11_layTold_39 rfl fl_11_121 rfl (S_102 hK) (R_102_66 hK) ?_
      refine s_iconst (v := 5) dX11_layTold_42 rfl cI_5 ?_
      refine s_iload_n 1 dX11_layTold_43 rfl rfl ?_
      refine s_imul dX11_layTold_44 rfl ?_
      refine s_iconst (v := 2) dX11_layTold_45 rfl cI_2 ?_
      refine s_iadd dX11_layTold_46 rfl ?_
      refine s_iconst (v := (-1)) dX11_layTold_47 rfl cI_m1 ?_
      refine sm_ck (fun g9 => ?_)
      refine s_iastL dX11_layTold_48 rfl (S_137 hK) g9 (fun I8 => ?_)
      refine s_aload_n 0 dX11_layTold_49 rfl rfl ?_
      refine s_getR 137 dX11_layTold_50 rfl fl_11_121 rfl (S_102 hK) (R_102_66 hK) ?_
      refine s_iconst (v := 5) dX11_layTold_53 rfl cI_5 ?_
      refine s_iload_n 1 dX11_layTold_54 rfl rfl ?_
      refine s_imul dX11_layTold_55 rfl ?_
      refine s_iconst (v := 3) dX11_layTold_56 rfl cI_3 ?_
      refine s_iadd dX11_layTold_57 rfl ?_
      refine s_iconst (v := 0) dX11_layTold_58 rfl cI_0 ?_
      refine sm_ck (fun g11 => ?_)
      refine s_iastL dX11_layTold_59 rfl (S_137 hK) g11 (fun I10 => ?_)
      refine s_aload_n 0 dX11_layTold_60 rfl rfl ?_
      refine s_getR 137 dX11_layTold_61 rfl fl_11_121 rfl (S_102 hK) (R_102_66 hK) ?_
      refine s_iconst (v := 5) dX11_layTold_64 rfl cI_5 ?_
      refine s_iload_n 1 dX11_layTold_65 rfl rfl ?_
      refine s_imul dX11_layTold_66 rfl ?_
      refine s_iconst (v := 4) dX11_layTold_67 rfl cI_4 ?_
      refine s_iadd dX11_layTold_68 rfl ?_
      refine s_aload_n 0 dX11_layTold_69 rfl rfl ?_
      refine s_getR 125 dX11_layTold_70 rfl fl_11_82 rfl (S_102 hK) (R_102_37 hK) ?_
      refine s_iload_n 1 dX11_layTold_73 rfl rfl ?_
      refine sm_ck (fun g12 => ?_)
      refine s_iald dX11_layTold_74 rfl (S_125 hK) g12 ?_
      refine sm_ck (fun g14 => ?_)
      refine s_iastL dX11_layTold_75 rfl (S_137 hK) g14 (fun I13 => ?_)
      refine s_iincL 1 (c := 1) (fun v15 => [(1, .int v15), (0, .ref (X.1 + 102))]) dX11_layTold_76 rfl rfl cI_1 (by decide) (fun _ => rfl) (fun v15 => ?_)
      refine s_goto (tgt := 2) dX11_layTold_79 rfl ?_
      refine s_pick [1, 0] rfl ?_
      exact ih v15 I13
theorem x11_layTold_L84_ok {X : WX} {n0 s0 : Nat} {L : ML} {R : MR} {S : MS} (hK : okm R S) : ∀ (n : Nat) (w1 : Int32) (I : MI), Sim X yX11_layTold cX11_layTold 2 none 0 0 n0 s0 84 [(0, .ref (X.1 + 102)), (1, .int w1)] [] (I, L, R, S) (x11_layTold_L84 n w1 I) (fun b f => Ex X yX11_layTold cX11_layTold 2 none 0 0 n0 s0 136 [] [] (b, L, R, S) f) := by
  intro n
  induction n with
  | zero =>
    intro w1 I
    exact sm_none
  | succ n ih =>
    intro w1 I
    change Sim _ _ _ _ _ _ _ _ _ _ _ _ _ (x11_layTold_L84s (x11_layTold_L84 n) w1 I) _
    unfold x11_layTold_L84s
    refine s_iload_n 1 dX11_layTold_84 rfl rfl ?_
    refine s_iconst (v := 4) dX11_layTold_85 rfl cI_4 ?_
    refine s_icmp_ge (tgt := 136) dX11_layTold_86 rfl rfl (fun _ => ?_) (fun _ => ?_)
    · skip
      refine s_pick [] rfl ?_
      exact sm_exit (fun f h => h)
    · skip
      refine s_aload_n 0 dX11_layTold_89 rfl rfl ?_
      refine s_getR 137 dX11_layTold_90 rfl fl_11_121 rfl (S_102 hK) (R_102_66 hK) ?_
      refine s_bipush (v := 50) dX11_layTold_93 rfl cB_50 ?_
      refine s_iconst (v := 3) dX11_layTold_95 rfl cI_3 ?_
      refine s_iload_n 1 dX11_layTold_96 rfl rfl ?_
      refine s_imul dX11_layTold_97 rfl ?_
      refine s_iadd dX11_layTold_98 rfl ?_
      refine s_aload_n 0 dX11_layTold_99 rfl rfl ?_
      refine s_getR 133 dX11_layTold_100 rfl fl_11_106 rfl (S_102 hK) (R_102_45 hK) ?_
      refine s_iload_n 1 dX11_layTold_103 rfl rfl ?_
      refine sm_ck (fun g18 => ?_)
      refine s_iald dX11_layTold_104 rfl (S_133 hK) g18 ?_
      refine sm_ck (fun g20 => ?_)
      refine s_iastL dX11_layTold_105 rfl (S_137 hK) g20 (fun I19 => ?_)
      refine s_aload_n 0 dX11_layTold_106 rfl rfl ?_
      refine s_getR 137 dX11_layTold_107 rfl fl_11_121 rfl (S_102 hK) (R_102_66 hK) ?_
      refine s_bipush (v := 51) dX11_layTold_110 rfl cB_51 ?_
      refine s_iconst (v := 3) dX11_layTold_112 rfl cI_3 ?_
      refine s_iload_n 1 dX11_layTold_113 rfl rfl ?_
      refine s_imul dX11_layTold_114 rfl ?_
      refine s_iadd dX11_layTold_115 rfl ?_
      refine s_iconst (v := 0) dX11_layTold_116 rfl cI_0 ?_
      refine sm_ck (fun g22 => ?_)
      refine s_iastL dX11_layTold_117 rfl (S_137 hK) g22 (fun I21 => ?_)
      refine s_aload_n 0 dX11_layTold_118 rfl rfl ?_
      refine s_getR 137 dX11_layTold_119 rfl fl_11_121 rfl (S_102 hK) (R_102_66 hK) ?_
      refine s_bipush (v := 52) dX11_layTold_122 rfl cB_52 ?_
      refine s_iconst (v := 3) dX11_layTold_124 rfl cI_3 ?_
      refine s_iload_n 1 dX11_layTold_125 rfl rfl ?_
      refine s_imul dX11_layTold_126 rfl ?_
      refine s_iadd dX11_layTold_127 rfl ?_
      refine s_iconst (v := 0) dX11_layTold_128 rfl cI_0 ?_
      refine sm_ck (fun g24 => ?_)
      refine s_iastL dX11_layTold_129 rfl (S_137 hK) g24 (fun I23 => ?_)
      refine s_iincL 1 (c := 1) (fun v25 => [(1, .int v25), (0, .ref (X.1 + 102))]) dX11_layTold_130 rfl rfl cI_1 (by decide) (fun _ => rfl) (fun v25 => ?_)
      refine s_goto (tgt := 84) dX11_layTold_133 rfl ?_
      refine s_pick [1, 0] rfl ?_
      exact ih v25 I23
theorem ct_x11_layTold {X : WX} {I : MI} {L : ML} {R : MR} {S : MS} (hK : okm R S) : Ct X yX11_layTold cX11_layTold 2 none 0 0 [.ref (X.1 + 102)] (I, L, R, S) (x11_layTold I) (fun r => (none, (r, L, R, S))) := by
  refine Ct.of (by decide) (Nat.le_of_ble_eq_true rfl) [(0, .ref (X.1 + 102))] rfl ?_
  unfold x11_layTold
  refine s_iconst (v := 0) dX11_layTold_0 rfl cI_0 ?_
  refine s_istore_nL (fun v1 => [(1, .int v1), (0, .ref (X.1 + 102))]) dX11_layTold_1 rfl (by decide) (fun _ => rfl) (fun v1 => ?_)
  refine s_pick [1, 0] rfl ?_
  refine sm_reg (x11_layTold_L2_ok hK FU v1 I) (fun e16 => ?_)
  refine s_iconst (v := 0) dX11_layTold_82 rfl cI_0 ?_
  refine s_istore_nL (fun v17 => [(1, .int v17), (0, .ref (X.1 + 102))]) dX11_layTold_83 rfl (by decide) (fun _ => rfl) (fun v17 => ?_)
  refine s_pick [1, 0] rfl ?_
  refine sm_reg (x11_layTold_L84_ok hK FU v17 e16) (fun e26 => ?_)
  exact s_vret dX11_layTold_136 rfl (fun f h => h)
noncomputable def x11_keep_L2s (rec : Int32 → MI → Option (MI)) (w1 : Int32) (I : MI) : Option (MI) :=
if w1 < 123 then (
ck (vp_in w1 128) <|
ck (vp_in w1 128) <|
lt (wI I 138 (ix w1) (I 137 (ix w1))) fun I3 =>
lt (w1 + 1) fun v5 =>
rec v5 I3) else
some I
noncomputable def x11_keep_L2 : Nat → Int32 → MI → Option (MI)
  | 0 => fun _ _ => none
  | n + 1 => x11_keep_L2s (x11_keep_L2 n)
noncomputable def x11_keep (I : MI) : Option (MI) :=
lt (0 : Int32) fun v1 =>
b1 (x11_keep_L2 FU v1 I) fun e6 =>
some e6
theorem x11_keep_L2_ok {X : WX} {n0 s0 : Nat} {L : ML} {R : MR} {S : MS} (hK : okm R S) : ∀ (n : Nat) (w1 : Int32) (I : MI), Sim X yX11_keep cX11_keep 2 none 0 0 n0 s0 2 [(0, .ref (X.1 + 102)), (1, .int w1)] [] (I, L, R, S) (x11_keep_L2 n w1 I) (fun b f => Ex X yX11_keep cX11_keep 2 none 0 0 n0 s0 26 [] [] (b, L, R, S) f) := by
  intro n
  induction n with
  | zero =>
    intro w1 I
    exact sm_none
  | succ n ih =>
    intro w1 I
    change Sim _ _ _ _ _ _ _ _ _ _ _ _ _ (x11_keep_L2s (x11_keep_L2 n) w1 I) _
    unfold x11_keep_L2s
    refine s_iload_n 1 dX11_keep_2 rfl rfl ?_
    refine s_bipush (v := 123) dX11_keep_3 rfl cB_123 ?_
    refine s_icmp_ge (tgt := 26) dX11_keep_5 rfl rfl (fun _ => ?_) (fun _ => ?_)
    · skip
      refine s_pick [] rfl ?_
      exact sm_exit (fun f h => h)
    · skip
      refine s_aload_n 0 dX11_keep_8 rfl rfl ?_
      refine s_getR 138 dX11_keep_9 rfl fl_11_124 rfl (S_102 hK) (R_102_67 hK) ?_
      refine s_iload_n 1 dX11_keep_12 rfl rfl ?_
      refine s_aload_n 0 dX11_keep_13 rfl rfl ?_
      refine s_getR 137 dX11_keep_14 rfl fl_11_121 rfl (S_102 hK) (R_102_66 hK) ?_
      refine s_iload_n 1 dX11_keep_17 rfl rfl ?_
      refine sm_ck (fun g2 => ?_)
      refine s_iald dX11_keep_18 rfl (S_137 hK) g2 ?_
      refine sm_ck (fun g4 => ?_)
      refine s_iastL dX11_keep_19 rfl (S_138 hK) g4 (fun I3 => ?_)
      refine s_iincL 1 (c := 1) (fun v5 => [(1, .int v5), (0, .ref (X.1 + 102))]) dX11_keep_20 rfl rfl cI_1 (by decide) (fun _ => rfl) (fun v5 => ?_)
      refine s_goto (tgt := 2) dX11_keep_23 rfl ?_
      refine s_pick [1, 0] rfl ?_
      exact ih v5 I3
theorem ct_x11_keep {X : WX} {I : MI} {L : ML} {R : MR} {S : MS} (hK : okm R S) : Ct X yX11_keep cX11_keep 2 none 0 0 [.ref (X.1 + 102)] (I, L, R, S) (x11_keep I) (fun r => (none, (r, L, R, S))) := by
  refine Ct.of (by decide) (Nat.le_of_ble_eq_true rfl) [(0, .ref (X.1 + 102))] rfl ?_
  unfold x11_keep
  refine s_iconst (v := 0) dX11_keep_0 rfl cI_0 ?_
  refine s_istore_nL (fun v1 => [(1, .int v1), (0, .ref (X.1 + 102))]) dX11_keep_1 rfl (by decide) (fun _ => rfl) (fun v1 => ?_)
  refine s_pick [1, 0] rfl ?_
  refine sm_reg (x11_keep_L2_ok hK FU v1 I) (fun e6 => ?_)
  exact s_vret dX11_keep_26 rfl (fun f h => h)
noncomputable def x11_tub_L103s (c1 : Int32) (rec : Int32 → MI → Option (MI)) (w2 : Int32) (I : MI) : Option (MI) :=
ck (vp_in c1 11) <|
if w2 < ((320 * c1) + (I 109 (ix c1))) then (
ck (vp_in w2 3520) <|
ck (vp_in w2 3520) <|
lt (wI I 107 (ix w2) (I 104 (ix w2))) fun I18 =>
ck (vp_in w2 3520) <|
ck (vp_in w2 3520) <|
lt (wI I18 108 (ix w2) (I18 105 (ix w2))) fun I21 =>
lt (w2 + 1) fun v23 =>
rec v23 I21) else
some I
noncomputable def x11_tub_L103 (c1 : Int32) : Nat → Int32 → MI → Option (MI)
  | 0 => fun _ _ => none
  | n + 1 => x11_tub_L103s c1 (x11_tub_L103 c1 n)
noncomputable def x11_tub_L79s (rec : Int32 → MI → Option (MI)) (w1 : Int32) (I : MI) : Option (MI) :=
if w1 < 11 then (
ck (vp_in w1 11) <|
ck (vp_in w1 11) <|
lt (wI I 109 (ix w1) (I 106 (ix w1))) fun I13 =>
lt (320 * w1) fun v15 =>
b1 (x11_tub_L103 w1 FU v15 I13) fun e24 =>
lt (w1 + 1) fun v25 =>
rec v25 e24) else
some I
noncomputable def x11_tub_L79 : Nat → Int32 → MI → Option (MI)
  | 0 => fun _ _ => none
  | n + 1 => x11_tub_L79s (x11_tub_L79 n)
noncomputable def x11_tub_L157s (rec : Int32 → MI → Option (MI)) (w1 : Int32) (I : MI) : Option (MI) :=
if w1 < 10 then (
ck (vp_in w1 10) <|
ck (vp_in w1 10) <|
lt (wI I 125 (ix w1) (I 113 (ix w1))) fun I29 =>
ck (vp_in w1 10) <|
ck (vp_in w1 10) <|
lt (wI I29 126 (ix w1) (I29 114 (ix w1))) fun I32 =>
ck (vp_in w1 10) <|
ck (vp_in w1 10) <|
lt (wI I32 127 (ix w1) (I32 115 (ix w1))) fun I35 =>
ck (vp_in w1 10) <|
ck (vp_in w1 10) <|
lt (wI I35 128 (ix w1) (I35 116 (ix w1))) fun I38 =>
ck (vp_in w1 10) <|
ck (vp_in w1 10) <|
lt (wI I38 129 (ix w1) (I38 117 (ix w1))) fun I41 =>
ck (vp_in w1 10) <|
ck (vp_in w1 10) <|
lt (wI I41 136 (ix w1) (zb (I41 124 (ix w1)))) fun I44 =>
lt (w1 + 1) fun v46 =>
rec v46 I44) else
some I
noncomputable def x11_tub_L157 : Nat → Int32 → MI → Option (MI)
  | 0 => fun _ _ => none
  | n + 1 => x11_tub_L157s (x11_tub_L157 n)
noncomputable def x11_tub_L243s (rec : Int32 → MI → Option (MI)) (w1 : Int32) (I : MI) : Option (MI) :=
if w1 < 4 then (
ck (vp_in w1 4) <|
ck (vp_in w1 4) <|
lt (wI I 130 (ix w1) (I 118 (ix w1))) fun I50 =>
ck (vp_in w1 4) <|
ck (vp_in w1 4) <|
lt (wI I50 131 (ix w1) (I50 119 (ix w1))) fun I53 =>
ck (vp_in w1 4) <|
ck (vp_in w1 4) <|
lt (wI I53 132 (ix w1) (I53 120 (ix w1))) fun I56 =>
ck (vp_in w1 4) <|
ck (vp_in w1 4) <|
lt (wI I56 133 (ix w1) (I56 121 (ix w1))) fun I59 =>
ck (vp_in w1 4) <|
ck (vp_in w1 4) <|
lt (wI I59 134 (ix w1) (I59 122 (ix w1))) fun I62 =>
ck (vp_in w1 4) <|
ck (vp_in w1 4) <|
lt (wI I62 135 (ix w1) (I62 123 (ix w1))) fun I65 =>
lt (w1 + 1) fun v67 =>
rec v67 I65) else
some I
noncomputable def x11_tub_L243 : Nat → Int32 → MI → Option (MI)
  | 0 => fun _ _ => none
  | n + 1 => x11_tub_L243s (x11_tub_L243 n)
noncomputable def x11_tub_L344s (rec : Int32 → MI → Option (MI)) (w1 : Int32) (I : MI) : Option (MI) :=
if w1 < 123 then (
ck (vp_in w1 128) <|
lt (wI I 137 (ix w1) (0 : Int32)) fun I72 =>
lt (w1 + 1) fun v74 =>
rec v74 I72) else
some I
noncomputable def x11_tub_L344 : Nat → Int32 → MI → Option (MI)
  | 0 => fun _ _ => none
  | n + 1 => x11_tub_L344s (x11_tub_L344 n)
noncomputable def x11_tub_L389s (rec : Int32 → MI → Option (MI)) (w1 : Int32) (I : MI) : Option (MI) :=
if w1 < 3 then (
ck (vp_in w1 3) <|
lt (wI I 156 (ix w1) (zb (0 : Int32))) fun I82 =>
lt (w1 + 1) fun v84 =>
rec v84 I82) else
some I
noncomputable def x11_tub_L389 : Nat → Int32 → MI → Option (MI)
  | 0 => fun _ _ => none
  | n + 1 => x11_tub_L389s (x11_tub_L389 n)
noncomputable def x11_tub (I : MI) (L : ML) : Option (Int32 × MI × ML) :=
b2 (x11_readAll I L) fun I1 L2 =>
if 0 < (I1 102 2) then (
some ((-1 : Int32), I1, L2)) else
lt (wI I1 102 56 (I1 102 49)) fun I3 =>
lt (wI I3 102 57 (I3 102 50)) fun I4 =>
lt (wI I4 102 58 (I4 102 51)) fun I5 =>
lt (wI I5 102 59 (I5 102 52)) fun I6 =>
lt (wI I6 102 60 (I6 102 53)) fun I7 =>
lt (wI I7 102 61 (I7 102 54)) fun I8 =>
lt (wI I8 102 65 (I8 102 64)) fun I9 =>
lt (wI I9 102 21 (I9 102 20)) fun I10 =>
lt (0 : Int32) fun v11 =>
b1 (x11_tub_L79 FU v11 I10) fun e26 =>
lt (0 : Int32) fun v27 =>
b1 (x11_tub_L157 FU v27 e26) fun e47 =>
lt (0 : Int32) fun v48 =>
b1 (x11_tub_L243 FU v48 e47) fun e68 =>
b1 (x11_layTold e68) fun I69 =>
lt (wI I69 137 (ix (62 : Int32)) (I69 102 55)) fun I70 =>
lt (63 : Int32) fun v71 =>
b1 (x11_tub_L344 FU v71 I70) fun e75 =>
b1 (x11_keep e75) fun I76 =>
lt (wI I76 102 71 (0 : Int32)) fun I77 =>
lt (wI I77 102 72 (0 : Int32)) fun I78 =>
lt (wI I78 102 91 (0 : Int32)) fun I79 =>
lt (wI I79 102 85 (0 : Int32)) fun I80 =>
lt (0 : Int32) fun v81 =>
b1 (x11_tub_L389 FU v81 I80) fun e85 =>
some ((e85 102 60), e85, L2)
theorem x11_tub_L103_ok {X : WX} {n0 s0 : Nat} {c1 : Int32} {L : ML} {R : MR} {S : MS} (hK : okm R S) : ∀ (n : Nat) (w2 : Int32) (I : MI), Sim X yX11_tub cX11_tub 3 (some .int) 8 170 n0 s0 103 [(0, .ref (X.1 + 102)), (1, .int c1), (2, .int w2)] [] (I, L, R, S) (x11_tub_L103 c1 n w2 I) (fun b f => Ex X yX11_tub cX11_tub 3 (some .int) 8 170 n0 s0 149 [(0, .ref (X.1 + 102)), (1, .int c1)] [] (b, L, R, S) f) := by
  intro n
  induction n with
  | zero =>
    intro w2 I
    exact sm_none
  | succ n ih =>
    intro w2 I
    change Sim _ _ _ _ _ _ _ _ _ _ _ _ _ (x11_tub_L103s c1 (x11_tub_L103 c1 n) w2 I) _
    unfold x11_tub_L103s
    refine s_iload_n 2 dX11_tub_103 rfl rfl ?_
    refine s_sipush (v := 320) dX11_tub_104 rfl cS_320 ?_
    refine s_iload_n 1 dX11_tub_107 rfl rfl ?_
    refine s_imul dX11_tub_108 rfl ?_
    refine s_aload_n 0 dX11_tub_109 rfl rfl ?_
    refine s_getR 109 dX11_tub_110 rfl fl_11_32 rfl (S_102 hK) (R_102_15 hK) ?_
    refine s_iload_n 1 dX11_tub_113 rfl rfl ?_
    refine sm_ck (fun g16 => ?_)
    refine s_iald dX11_tub_114 rfl (S_109 hK) g16 ?_
    refine s_iadd dX11_tub_115 rfl ?_
    refine s_icmp_ge (tgt := 149) dX11_tub_116 rfl rfl (fun _ => ?_) (fun _ => ?_)
    · skip
      refine s_pick [0, 1] rfl ?_
      exact sm_exit (fun f h => h)
    · skip
      refine s_aload_n 0 dX11_tub_119 rfl rfl ?_
      refine s_getR 107 dX11_tub_120 rfl fl_11_26 rfl (S_102 hK) (R_102_13 hK) ?_
      refine s_iload_n 2 dX11_tub_123 rfl rfl ?_
      refine s_aload_n 0 dX11_tub_124 rfl rfl ?_
      refine s_getR 104 dX11_tub_125 rfl fl_11_17 rfl (S_102 hK) (R_102_10 hK) ?_
      refine s_iload_n 2 dX11_tub_128 rfl rfl ?_
      refine sm_ck (fun g17 => ?_)
      refine s_iald dX11_tub_129 rfl (S_104 hK) g17 ?_
      refine sm_ck (fun g19 => ?_)
      refine s_iastL dX11_tub_130 rfl (S_107 hK) g19 (fun I18 => ?_)
      refine s_aload_n 0 dX11_tub_131 rfl rfl ?_
      refine s_getR 108 dX11_tub_132 rfl fl_11_29 rfl (S_102 hK) (R_102_14 hK) ?_
      refine s_iload_n 2 dX11_tub_135 rfl rfl ?_
      refine s_aload_n 0 dX11_tub_136 rfl rfl ?_
      refine s_getR 105 dX11_tub_137 rfl fl_11_20 rfl (S_102 hK) (R_102_11 hK) ?_
      refine s_iload_n 2 dX11_tub_140 rfl rfl ?_
      refine sm_ck (fun g20 => ?_)
      refine s_iald dX11_tub_141 rfl (S_105 hK) g20 ?_
      refine sm_ck (fun g22 => ?_)
      refine s_iastL dX11_tub_142 rfl (S_108 hK) g22 (fun I21 => ?_)
      refine s_iincL 2 (c := 1) (fun v23 => [(2, .int v23), (0, .ref (X.1 + 102)), (1, .int c1)]) dX11_tub_143 rfl rfl cI_1 (by decide) (fun _ => rfl) (fun v23 => ?_)
      refine s_goto (tgt := 103) dX11_tub_146 rfl ?_
      refine s_pick [1, 2, 0] rfl ?_
      exact ih v23 I21
theorem x11_tub_L79_ok {X : WX} {n0 s0 : Nat} {L : ML} {R : MR} {S : MS} (hK : okm R S) : ∀ (n : Nat) (w1 : Int32) (I : MI), Sim X yX11_tub cX11_tub 3 (some .int) 8 170 n0 s0 79 [(0, .ref (X.1 + 102)), (1, .int w1)] [] (I, L, R, S) (x11_tub_L79 n w1 I) (fun b f => Ex X yX11_tub cX11_tub 3 (some .int) 8 170 n0 s0 155 [(0, .ref (X.1 + 102))] [] (b, L, R, S) f) := by
  intro n
  induction n with
  | zero =>
    intro w1 I
    exact sm_none
  | succ n ih =>
    intro w1 I
    change Sim _ _ _ _ _ _ _ _ _ _ _ _ _ (x11_tub_L79s (x11_tub_L79 n) w1 I) _
    unfold x11_tub_L79s
    refine s_iload_n 1 dX11_tub_79 rfl rfl ?_
    refine s_bipush (v := 11) dX11_tub_80 rfl cB_11 ?_
    refine s_icmp_ge (tgt := 155) dX11_tub_82 rfl rfl (fun _ => ?_) (fun _ => ?_)
    · skip
      refine s_pick [0] rfl ?_
      exact sm_exit (fun f h => h)
    · skip
      refine s_aload_n 0 dX11_tub_85 rfl rfl ?_
      refine s_getR 109 dX11_tub_86 rfl fl_11_32 rfl (S_102 hK) (R_102_15 hK) ?_
      refine s_iload_n 1 dX11_tub_89 rfl rfl ?_
      refine s_aload_n 0 dX11_tub_90 rfl rfl ?_
      refine s_getR 106 dX11_tub_91 rfl fl_11_23 rfl (S_102 hK) (R_102_12 hK) ?_
      refine s_iload_n 1 dX11_tub_94 rfl rfl ?_
      refine sm_ck (fun g12 => ?_)
      refine s_iald dX11_tub_95 rfl (S_106 hK) g12 ?_
      refine sm_ck (fun g14 => ?_)
      refine s_iastL dX11_tub_96 rfl (S_109 hK) g14 (fun I13 => ?_)
      refine s_sipush (v := 320) dX11_tub_97 rfl cS_320 ?_
      refine s_iload_n 1 dX11_tub_100 rfl rfl ?_
      refine s_imul dX11_tub_101 rfl ?_
      refine s_istore_nL (fun v15 => [(2, .int v15), (0, .ref (X.1 + 102)), (1, .int w1)]) dX11_tub_102 rfl (by decide) (fun _ => rfl) (fun v15 => ?_)
      refine s_pick [1, 2, 0] rfl ?_
      refine sm_reg (x11_tub_L103_ok hK FU v15 I13) (fun e24 => ?_)
      refine s_iincL 1 (c := 1) (fun v25 => [(1, .int v25), (0, .ref (X.1 + 102))]) dX11_tub_149 rfl rfl cI_1 (by decide) (fun _ => rfl) (fun v25 => ?_)
      refine s_goto (tgt := 79) dX11_tub_152 rfl ?_
      refine s_pick [1, 0] rfl ?_
      exact ih v25 e24
theorem x11_tub_L157_ok {X : WX} {n0 s0 : Nat} {L : ML} {R : MR} {S : MS} (hK : okm R S) : ∀ (n : Nat) (w1 : Int32) (I : MI), Sim X yX11_tub cX11_tub 3 (some .int) 8 170 n0 s0 157 [(0, .ref (X.1 + 102)), (1, .int w1)] [] (I, L, R, S) (x11_tub_L157 n w1 I) (fun b f => Ex X yX11_tub cX11_tub 3 (some .int) 8 170 n0 s0 241 [(0, .ref (X.1 + 102))] [] (b, L, R, S) f) := by
  intro n
  induction n with
  | zero =>
    intro w1 I
    exact sm_none
  | succ n ih =>
    intro w1 I
    change Sim _ _ _ _ _ _ _ _ _ _ _ _ _ (x11_tub_L157s (x11_tub_L157 n) w1 I) _
    unfold x11_tub_L157s
    refine s_iload_n 1 dX11_tub_157 rfl rfl ?_
    refine s_bipush (v := 10) dX11_tub_158 rfl cB_10 ?_
    refine s_icmp_ge (tgt := 241) dX11_tub_160 rfl rfl (fun _ => ?_) (fun _ => ?_)
    · skip
      refine s_pick [0] rfl ?_
      exact sm_exit (fun f h => h)
    · skip
      refine s_aload_n 0 dX11_tub_163 rfl rfl ?_
      refine s_getR 125 dX11_tub_164 rfl fl_11_82 rfl (S_102 hK) (R_102_37 hK) ?_
      refine s_iload_n 1 dX11_tub_167 rfl rfl ?_
      refine s_aload_n 0 dX11_tub_168 rfl rfl ?_
      refine s_getR 113 dX11_tub_169 rfl fl_11_45 rfl (S_102 hK) (R_102_25 hK) ?_
      refine s_iload_n 1 dX11_tub_172 rfl rfl ?_
      refine sm_ck (fun g28 => ?_)
      refine s_iald dX11_tub_173 rfl (S_113 hK) g28 ?_
      refine sm_ck (fun g30 => ?_)
      refine s_iastL dX11_tub_174 rfl (S_125 hK) g30 (fun I29 => ?_)
      refine s_aload_n 0 dX11_tub_175 rfl rfl ?_
      refine s_getR 126 dX11_tub_176 rfl fl_11_85 rfl (S_102 hK) (R_102_38 hK) ?_
      refine s_iload_n 1 dX11_tub_179 rfl rfl ?_
      refine s_aload_n 0 dX11_tub_180 rfl rfl ?_
      refine s_getR 114 dX11_tub_181 rfl fl_11_48 rfl (S_102 hK) (R_102_26 hK) ?_
      refine s_iload_n 1 dX11_tub_184 rfl rfl ?_
      refine sm_ck (fun g31 => ?_)
      refine s_iald dX11_tub_185 rfl (S_114 hK) g31 ?_
      refine sm_ck (fun g33 => ?_)
      refine s_iastL dX11_tub_186 rfl (S_126 hK) g33 (fun I32 => ?_)
      refine s_aload_n 0 dX11_tub_187 rfl rfl ?_
      refine s_getR 127 dX11_tub_188 rfl fl_11_88 rfl (S_102 hK) (R_102_39 hK) ?_
      refine s_iload_n 1 dX11_tub_191 rfl rfl ?_
      refine s_aload_n 0 dX11_tub_192 rfl rfl ?_
      refine s_getR 115 dX11_tub_193 rfl fl_11_51 rfl (S_102 hK) (R_102_27 hK) ?_
      refine s_iload_n 1 dX11_tub_196 rfl rfl ?_
      refine sm_ck (fun g34 => ?_)
      refine s_iald dX11_tub_197 rfl (S_115 hK) g34 ?_
      refine sm_ck (fun g36 => ?_)
      refine s_iastL dX11_tub_198 rfl (S_127 hK) g36 (fun I35 => ?_)
      refine s_aload_n 0 dX11_tub_199 rfl rfl ?_
      refine s_getR 128 dX11_tub_200 rfl fl_11_91 rfl (S_102 hK) (R_102_40 hK) ?_
      refine s_iload_n 1 dX11_tub_203 rfl rfl ?_
      refine s_aload_n 0 dX11_tub_204 rfl rfl ?_
      refine s_getR 116 dX11_tub_205 rfl fl_11_54 rfl (S_102 hK) (R_102_28 hK) ?_
      refine s_iload_n 1 dX11_tub_208 rfl rfl ?_
      refine sm_ck (fun g37 => ?_)
      refine s_iald dX11_tub_209 rfl (S_116 hK) g37 ?_
      refine sm_ck (fun g39 => ?_)
      refine s_iastL dX11_tub_210 rfl (S_128 hK) g39 (fun I38 => ?_)
      refine s_aload_n 0 dX11_tub_211 rfl rfl ?_
      refine s_getR 129 dX11_tub_212 rfl fl_11_94 rfl (S_102 hK) (R_102_41 hK) ?_
      refine s_iload_n 1 dX11_tub_215 rfl rfl ?_
      refine s_aload_n 0 dX11_tub_216 rfl rfl ?_
      refine s_getR 117 dX11_tub_217 rfl fl_11_57 rfl (S_102 hK) (R_102_29 hK) ?_
      refine s_iload_n 1 dX11_tub_220 rfl rfl ?_
      refine sm_ck (fun g40 => ?_)
      refine s_iald dX11_tub_221 rfl (S_117 hK) g40 ?_
      refine sm_ck (fun g42 => ?_)
      refine s_iastL dX11_tub_222 rfl (S_129 hK) g42 (fun I41 => ?_)
      refine s_aload_n 0 dX11_tub_223 rfl rfl ?_
      refine s_getR 136 dX11_tub_224 rfl fl_11_115 rfl (S_102 hK) (R_102_48 hK) ?_
      refine s_iload_n 1 dX11_tub_227 rfl rfl ?_
      refine s_aload_n 0 dX11_tub_228 rfl rfl ?_
      refine s_getR 124 dX11_tub_229 rfl fl_11_78 rfl (S_102 hK) (R_102_36 hK) ?_
      refine s_iload_n 1 dX11_tub_232 rfl rfl ?_
      refine sm_ck (fun g43 => ?_)
      refine s_zald dX11_tub_233 rfl (S_124 hK) g43 ?_
      refine sm_ck (fun g45 => ?_)
      refine s_zastL dX11_tub_234 rfl (S_136 hK) g45 (fun I44 => ?_)
      refine s_iincL 1 (c := 1) (fun v46 => [(1, .int v46), (0, .ref (X.1 + 102))]) dX11_tub_235 rfl rfl cI_1 (by decide) (fun _ => rfl) (fun v46 => ?_)
      refine s_goto (tgt := 157) dX11_tub_238 rfl ?_
      refine s_pick [1, 0] rfl ?_
      exact ih v46 I44
theorem x11_tub_L243_ok {X : WX} {n0 s0 : Nat} {L : ML} {R : MR} {S : MS} (hK : okm R S) : ∀ (n : Nat) (w1 : Int32) (I : MI), Sim X yX11_tub cX11_tub 3 (some .int) 8 170 n0 s0 243 [(0, .ref (X.1 + 102)), (1, .int w1)] [] (I, L, R, S) (x11_tub_L243 n w1 I) (fun b f => Ex X yX11_tub cX11_tub 3 (some .int) 8 170 n0 s0 326 [(0, .ref (X.1 + 102))] [] (b, L, R, S) f) := by
  intro n
  induction n with
  | zero =>
    intro w1 I
    exact sm_none
  | succ n ih =>
    intro w1 I
    change Sim _ _ _ _ _ _ _ _ _ _ _ _ _ (x11_tub_L243s (x11_tub_L243 n) w1 I) _
    unfold x11_tub_L243s
    refine s_iload_n 1 dX11_tub_243 rfl rfl ?_
    refine s_iconst (v := 4) dX11_tub_244 rfl cI_4 ?_
    refine s_icmp_ge (tgt := 326) dX11_tub_245 rfl rfl (fun _ => ?_) (fun _ => ?_)
    · skip
      refine s_pick [0] rfl ?_
      exact sm_exit (fun f h => h)
    · skip
      refine s_aload_n 0 dX11_tub_248 rfl rfl ?_
      refine s_getR 130 dX11_tub_249 rfl fl_11_97 rfl (S_102 hK) (R_102_42 hK) ?_
      refine s_iload_n 1 dX11_tub_252 rfl rfl ?_
      refine s_aload_n 0 dX11_tub_253 rfl rfl ?_
      refine s_getR 118 dX11_tub_254 rfl fl_11_60 rfl (S_102 hK) (R_102_30 hK) ?_
      refine s_iload_n 1 dX11_tub_257 rfl rfl ?_
      refine sm_ck (fun g49 => ?_)
      refine s_iald dX11_tub_258 rfl (S_118 hK) g49 ?_
      refine sm_ck (fun g51 => ?_)
      refine s_iastL dX11_tub_259 rfl (S_130 hK) g51 (fun I50 => ?_)
      refine s_aload_n 0 dX11_tub_260 rfl rfl ?_
      refine s_getR 131 dX11_tub_261 rfl fl_11_100 rfl (S_102 hK) (R_102_43 hK) ?_
      refine s_iload_n 1 dX11_tub_264 rfl rfl ?_
      refine s_aload_n 0 dX11_tub_265 rfl rfl ?_
      refine s_getR 119 dX11_tub_266 rfl fl_11_63 rfl (S_102 hK) (R_102_31 hK) ?_
      refine s_iload_n 1 dX11_tub_269 rfl rfl ?_
      refine sm_ck (fun g52 => ?_)
      refine s_iald dX11_tub_270 rfl (S_119 hK) g52 ?_
      refine sm_ck (fun g54 => ?_)
      refine s_iastL dX11_tub_271 rfl (S_131 hK) g54 (fun I53 => ?_)
      refine s_aload_n 0 dX11_tub_272 rfl rfl ?_
      refine s_getR 132 dX11_tub_273 rfl fl_11_103 rfl (S_102 hK) (R_102_44 hK) ?_
      refine s_iload_n 1 dX11_tub_276 rfl rfl ?_
      refine s_aload_n 0 dX11_tub_277 rfl rfl ?_
      refine s_getR 120 dX11_tub_278 rfl fl_11_66 rfl (S_102 hK) (R_102_32 hK) ?_
      refine s_iload_n 1 dX11_tub_281 rfl rfl ?_
      refine sm_ck (fun g55 => ?_)
      refine s_iald dX11_tub_282 rfl (S_120 hK) g55 ?_
      refine sm_ck (fun g57 => ?_)
      refine s_iastL dX11_tub_283 rfl (S_132 hK) g57 (fun I56 => ?_)
      refine s_aload_n 0 dX11_tub_284 rfl rfl ?_
      refine s_getR 133 dX11_tub_285 rfl fl_11_106 rfl (S_102 hK) (R_102_45 hK) ?_
      refine s_iload_n 1 dX11_tub_288 rfl rfl ?_
      refine s_aload_n 0 dX11_tub_289 rfl rfl ?_
      refine s_getR 121 dX11_tub_290 rfl fl_11_69 rfl (S_102 hK) (R_102_33 hK) ?_
      refine s_iload_n 1 dX11_tub_293 rfl rfl ?_
      refine sm_ck (fun g58 => ?_)
      refine s_iald dX11_tub_294 rfl (S_121 hK) g58 ?_
      refine sm_ck (fun g60 => ?_)
      refine s_iastL dX11_tub_295 rfl (S_133 hK) g60 (fun I59 => ?_)
      refine s_aload_n 0 dX11_tub_296 rfl rfl ?_
      refine s_getR 134 dX11_tub_297 rfl fl_11_109 rfl (S_102 hK) (R_102_46 hK) ?_
      refine s_iload_n 1 dX11_tub_300 rfl rfl ?_
      refine s_aload_n 0 dX11_tub_301 rfl rfl ?_
      refine s_getR 122 dX11_tub_302 rfl fl_11_72 rfl (S_102 hK) (R_102_34 hK) ?_
      refine s_iload_n 1 dX11_tub_305 rfl rfl ?_
      refine sm_ck (fun g61 => ?_)
      refine s_iald dX11_tub_306 rfl (S_122 hK) g61 ?_
      refine sm_ck (fun g63 => ?_)
      refine s_iastL dX11_tub_307 rfl (S_134 hK) g63 (fun I62 => ?_)
      refine s_aload_n 0 dX11_tub_308 rfl rfl ?_
      refine s_getR 135 dX11_tub_309 rfl fl_11_112 rfl (S_102 hK) (R_102_47 hK) ?_
      refine s_iload_n 1 dX11_tub_312 rfl rfl ?_
      refine s_aload_n 0 dX11_tub_313 rfl rfl ?_
      refine s_getR 123 dX11_tub_314 rfl fl_11_75 rfl (S_102 hK) (R_102_35 hK) ?_
      refine s_iload_n 1 dX11_tub_317 rfl rfl ?_
      refine sm_ck (fun g64 => ?_)
      refine s_iald dX11_tub_318 rfl (S_123 hK) g64 ?_
      refine sm_ck (fun g66 => ?_)
      refine s_iastL dX11_tub_319 rfl (S_135 hK) g66 (fun I65 => ?_)
      refine s_iincL 1 (c := 1) (fun v67 => [(1, .int v67), (0, .ref (X.1 + 102))]) dX11_tub_320 rfl rfl cI_1 (by decide) (fun _ => rfl) (fun v67 => ?_)
      refine s_goto (tgt := 243) dX11_tub_323 rfl ?_
      refine s_pick [1, 0] rfl ?_
      exact ih v67 I65
theorem x11_tub_L344_ok {X : WX} {n0 s0 : Nat} {L : ML} {R : MR} {S : MS} (hK : okm R S) : ∀ (n : Nat) (w1 : Int32) (I : MI), Sim X yX11_tub cX11_tub 3 (some .int) 8 170 n0 s0 344 [(0, .ref (X.1 + 102)), (1, .int w1)] [] (I, L, R, S) (x11_tub_L344 n w1 I) (fun b f => Ex X yX11_tub cX11_tub 3 (some .int) 8 170 n0 s0 363 [(0, .ref (X.1 + 102))] [] (b, L, R, S) f) := by
  intro n
  induction n with
  | zero =>
    intro w1 I
    exact sm_none
  | succ n ih =>
    intro w1 I
    change Sim _ _ _ _ _ _ _ _ _ _ _ _ _ (x11_tub_L344s (x11_tub_L344 n) w1 I) _
    unfold x11_tub_L344s
    refine s_iload_n 1 dX11_tub_344 rfl rfl ?_
    refine s_bipush (v := 123) dX11_tub_345 rfl cB_123 ?_
    refine s_icmp_ge (tgt := 363) dX11_tub_347 rfl rfl (fun _ => ?_) (fun _ => ?_)
    · skip
      refine s_pick [0] rfl ?_
      exact sm_exit (fun f h => h)
    · skip
      refine s_aload_n 0 dX11_tub_350 rfl rfl ?_
      refine s_getR 137 dX11_tub_351 rfl fl_11_121 rfl (S_102 hK) (R_102_66 hK) ?_
      refine s_iload_n 1 dX11_tub_354 rfl rfl ?_
      refine s_iconst (v := 0) dX11_tub_355 rfl cI_0 ?_
      refine sm_ck (fun g73 => ?_)
      refine s_iastL dX11_tub_356 rfl (S_137 hK) g73 (fun I72 => ?_)
      refine s_iincL 1 (c := 1) (fun v74 => [(1, .int v74), (0, .ref (X.1 + 102))]) dX11_tub_357 rfl rfl cI_1 (by decide) (fun _ => rfl) (fun v74 => ?_)
      refine s_goto (tgt := 344) dX11_tub_360 rfl ?_
      refine s_pick [1, 0] rfl ?_
      exact ih v74 I72
theorem x11_tub_L389_ok {X : WX} {n0 s0 : Nat} {L : ML} {R : MR} {S : MS} (hK : okm R S) : ∀ (n : Nat) (w1 : Int32) (I : MI), Sim X yX11_tub cX11_tub 3 (some .int) 8 170 n0 s0 389 [(0, .ref (X.1 + 102)), (1, .int w1)] [] (I, L, R, S) (x11_tub_L389 n w1 I) (fun b f => Ex X yX11_tub cX11_tub 3 (some .int) 8 170 n0 s0 407 [(0, .ref (X.1 + 102))] [] (b, L, R, S) f) := by
  intro n
  induction n with
  | zero =>
    intro w1 I
    exact sm_none
  | succ n ih =>
    intro w1 I
    change Sim _ _ _ _ _ _ _ _ _ _ _ _ _ (x11_tub_L389s (x11_tub_L389 n) w1 I) _
    unfold x11_tub_L389s
    refine s_iload_n 1 dX11_tub_389 rfl rfl ?_
    refine s_iconst (v := 3) dX11_tub_390 rfl cI_3 ?_
    refine s_icmp_ge (tgt := 407) dX11_tub_391 rfl rfl (fun _ => ?_) (fun _ => ?_)
    · skip
      refine s_pick [0] rfl ?_
      exact sm_exit (fun f h => h)
    · skip
      refine s_aload_n 0 dX11_tub_394 rfl rfl ?_
      refine s_getR 156 dX11_tub_395 rfl fl_11_178 rfl (S_102 hK) (R_102_93 hK) ?_
      refine s_iload_n 1 dX11_tub_398 rfl rfl ?_
      refine s_iconst (v := 0) dX11_tub_399 rfl cI_0 ?_
      refine sm_ck (fun g83 => ?_)
      refine s_zastL dX11_tub_400 rfl (S_156 hK) g83 (fun I82 => ?_)
      refine s_iincL 1 (c := 1) (fun v84 => [(1, .int v84), (0, .ref (X.1 + 102))]) dX11_tub_401 rfl rfl cI_1 (by decide) (fun _ => rfl) (fun v84 => ?_)
      refine s_goto (tgt := 389) dX11_tub_404 rfl ?_
      refine s_pick [1, 0] rfl ?_
      exact ih v84 I82
theorem ct_x11_tub {X : WX} {I : MI} {L : ML} {R : MR} {S : MS} (hK : okm R S) : Ct X yX11_tub cX11_tub 3 (some .int) 8 170 [.ref (X.1 + 102)] (I, L, R, S) (x11_tub I L) (fun r => (some (.int r.1), (r.2.1, r.2.2, R, S))) := by
  refine Ct.of (by decide) (Nat.le_of_ble_eq_true rfl) [(0, .ref (X.1 + 102))] rfl ?_
  unfold x11_tub
  refine s_aload_n 0 dX11_tub_0 rfl rfl ?_
  refine s_callV0_v2 dX11_tub_1 rfl lkV_RX11_452 (S_102 hK) (Nat.le_of_ble_eq_true rfl) (Nat.le_of_ble_eq_true rfl) (Nat.le_of_ble_eq_true rfl) (ct_x11_readAll hK) (fun I1 L2 => ?_)
  refine s_aload_n 0 dX11_tub_4 rfl rfl ?_
  refine s_getI dX11_tub_5 rfl fl_11_224 (S_102 hK) ?_
  refine s_if_le (tgt := 13) dX11_tub_8 rfl rfl (fun _ => ?_) (fun _ => ?_)
  · skip
    refine s_aload_n 0 dX11_tub_13 rfl rfl ?_
    refine s_aload_n 0 dX11_tub_14 rfl rfl ?_
    refine s_getI dX11_tub_15 rfl fl_11_382 (S_102 hK) ?_
    refine s_putIL dX11_tub_18 rfl fl_11_455 (S_102 hK) (fun I3 => ?_)
    refine s_aload_n 0 dX11_tub_21 rfl rfl ?_
    refine s_aload_n 0 dX11_tub_22 rfl rfl ?_
    refine s_getI dX11_tub_23 rfl fl_11_385 (S_102 hK) ?_
    refine s_putIL dX11_tub_26 rfl fl_11_458 (S_102 hK) (fun I4 => ?_)
    refine s_aload_n 0 dX11_tub_29 rfl rfl ?_
    refine s_aload_n 0 dX11_tub_30 rfl rfl ?_
    refine s_getI dX11_tub_31 rfl fl_11_388 (S_102 hK) ?_
    refine s_putIL dX11_tub_34 rfl fl_11_461 (S_102 hK) (fun I5 => ?_)
    refine s_aload_n 0 dX11_tub_37 rfl rfl ?_
    refine s_aload_n 0 dX11_tub_38 rfl rfl ?_
    refine s_getI dX11_tub_39 rfl fl_11_394 (S_102 hK) ?_
    refine s_putIL dX11_tub_42 rfl fl_11_464 (S_102 hK) (fun I6 => ?_)
    refine s_aload_n 0 dX11_tub_45 rfl rfl ?_
    refine s_aload_n 0 dX11_tub_46 rfl rfl ?_
    refine s_getI dX11_tub_47 rfl fl_11_400 (S_102 hK) ?_
    refine s_putIL dX11_tub_50 rfl fl_11_467 (S_102 hK) (fun I7 => ?_)
    refine s_aload_n 0 dX11_tub_53 rfl rfl ?_
    refine s_aload_n 0 dX11_tub_54 rfl rfl ?_
    refine s_getI dX11_tub_55 rfl fl_11_409 (S_102 hK) ?_
    refine s_putIL dX11_tub_58 rfl fl_11_470 (S_102 hK) (fun I8 => ?_)
    refine s_aload_n 0 dX11_tub_61 rfl rfl ?_
    refine s_aload_n 0 dX11_tub_62 rfl rfl ?_
    refine s_getI dX11_tub_63 rfl fl_11_425 (S_102 hK) ?_
    refine s_putIL dX11_tub_66 rfl fl_11_118 (S_102 hK) (fun I9 => ?_)
    refine s_aload_n 0 dX11_tub_69 rfl rfl ?_
    refine s_aload_n 0 dX11_tub_70 rfl rfl ?_
    refine s_getI dX11_tub_71 rfl fl_11_317 (S_102 hK) ?_
    refine s_putIL dX11_tub_74 rfl fl_11_473 (S_102 hK) (fun I10 => ?_)
    refine s_iconst (v := 0) dX11_tub_77 rfl cI_0 ?_
    refine s_istore_nL (fun v11 => [(1, .int v11), (0, .ref (X.1 + 102))]) dX11_tub_78 rfl (by decide) (fun _ => rfl) (fun v11 => ?_)
    refine s_pick [1, 0] rfl ?_
    refine sm_reg (x11_tub_L79_ok hK FU v11 I10) (fun e26 => ?_)
    refine s_iconst (v := 0) dX11_tub_155 rfl cI_0 ?_
    refine s_istore_nL (fun v27 => [(1, .int v27), (0, .ref (X.1 + 102))]) dX11_tub_156 rfl (by decide) (fun _ => rfl) (fun v27 => ?_)
    refine s_pick [1, 0] rfl ?_
    refine sm_reg (x11_tub_L157_ok hK FU v27 e26) (fun e47 => ?_)
    refine s_iconst (v := 0) dX11_tub_241 rfl cI_0 ?_
    refine s_istore_nL (fun v48 => [(1, .int v48), (0, .ref (X.1 + 102))]) dX11_tub_242 rfl (by decide) (fun _ => rfl) (fun v48 => ?_)
    refine s_pick [1, 0] rfl ?_
    refine sm_reg (x11_tub_L243_ok hK FU v48 e47) (fun e68 => ?_)
    refine s_aload_n 0 dX11_tub_326 rfl rfl ?_
    refine s_callV0_v1 dX11_tub_327 rfl lkV_RX11_476 (S_102 hK) (Nat.le_of_ble_eq_true rfl) (Nat.le_of_ble_eq_true rfl) (Nat.le_of_ble_eq_true rfl) (ct_x11_layTold hK) (fun I69 => ?_)
    refine s_aload_n 0 dX11_tub_330 rfl rfl ?_
    refine s_getR 137 dX11_tub_331 rfl fl_11_121 rfl (S_102 hK) (R_102_66 hK) ?_
    refine s_bipush (v := 62) dX11_tub_334 rfl cB_62 ?_
    refine s_aload_n 0 dX11_tub_336 rfl rfl ?_
    refine s_getI dX11_tub_337 rfl fl_11_419 (S_102 hK) ?_
    refine s_iastL dX11_tub_340 rfl (S_137 hK) (by unfold vp_in; decide) (fun I70 => ?_)
    refine s_bipush (v := 63) dX11_tub_341 rfl cB_63 ?_
    refine s_istore_nL (fun v71 => [(1, .int v71), (0, .ref (X.1 + 102))]) dX11_tub_343 rfl (by decide) (fun _ => rfl) (fun v71 => ?_)
    refine s_pick [1, 0] rfl ?_
    refine sm_reg (x11_tub_L344_ok hK FU v71 I70) (fun e75 => ?_)
    refine s_aload_n 0 dX11_tub_363 rfl rfl ?_
    refine s_callV0_v1 dX11_tub_364 rfl lkV_RX11_479 (S_102 hK) (Nat.le_of_ble_eq_true rfl) (Nat.le_of_ble_eq_true rfl) (Nat.le_of_ble_eq_true rfl) (ct_x11_keep hK) (fun I76 => ?_)
    refine s_aload_n 0 dX11_tub_367 rfl rfl ?_
    refine s_iconst (v := 0) dX11_tub_368 rfl cI_0 ?_
    refine s_putIL dX11_tub_369 rfl fl_11_482 (S_102 hK) (fun I77 => ?_)
    refine s_aload_n 0 dX11_tub_372 rfl rfl ?_
    refine s_iconst (v := 0) dX11_tub_373 rfl cI_0 ?_
    refine s_putIL dX11_tub_374 rfl fl_11_485 (S_102 hK) (fun I78 => ?_)
    refine s_aload_n 0 dX11_tub_377 rfl rfl ?_
    refine s_iconst (v := 0) dX11_tub_378 rfl cI_0 ?_
    refine s_putIL dX11_tub_379 rfl fl_11_488 (S_102 hK) (fun I79 => ?_)
    refine s_aload_n 0 dX11_tub_382 rfl rfl ?_
    refine s_iconst (v := 0) dX11_tub_383 rfl cI_0 ?_
    refine s_putIL dX11_tub_384 rfl fl_11_491 (S_102 hK) (fun I80 => ?_)
    refine s_iconst (v := 0) dX11_tub_387 rfl cI_0 ?_
    refine s_istore_nL (fun v81 => [(1, .int v81), (0, .ref (X.1 + 102))]) dX11_tub_388 rfl (by decide) (fun _ => rfl) (fun v81 => ?_)
    refine s_pick [1, 0] rfl ?_
    refine sm_reg (x11_tub_L389_ok hK FU v81 I80) (fun e85 => ?_)
    refine s_aload_n 0 dX11_tub_407 rfl rfl ?_
    refine s_getI dX11_tub_408 rfl fl_11_467 (S_102 hK) ?_
    exact s_iret dX11_tub_411 rfl (fun f h => h)
  · skip
    refine s_iconst (v := (-1)) dX11_tub_11 rfl cI_m1 ?_
    exact s_iret dX11_tub_12 rfl (fun f h => h)
noncomputable def x11_fault (p1 : Int32) (I : MI) : Option (Int32) :=
if p1 = 0 then (
some (I 102 2)) else
if p1 = 1 then (
some (I 102 3)) else
some (-1 : Int32)
theorem ct_x11_fault {X : WX} {p1 : Int32} {I : MI} {L : ML} {R : MR} {S : MS} (hK : okm R S) : Ct X yX11_fault cX11_fault 2 (some .int) 0 0 [.ref (X.1 + 102), .int p1] (I, L, R, S) (x11_fault p1 I) (fun r => (some (.int r), (I, L, R, S))) := by
  refine Ct.of (by decide) (Nat.le_of_ble_eq_true rfl) [(0, .ref (X.1 + 102)), (1, .int p1)] rfl ?_
  unfold x11_fault
  refine s_iload_n 1 dX11_fault_0 rfl rfl ?_
  refine s_if_ne (tgt := 11) dX11_fault_1 rfl rfl (fun _ => ?_) (fun _ => ?_)
  · skip
    refine s_iload_n 1 dX11_fault_11 rfl rfl ?_
    refine s_iconst (v := 1) dX11_fault_12 rfl cI_1 ?_
    refine s_icmp_ne (tgt := 23) dX11_fault_13 rfl rfl (fun _ => ?_) (fun _ => ?_)
    · skip
      refine s_iconst (v := (-1)) dX11_fault_23 rfl cI_m1 ?_
      exact s_iret dX11_fault_24 rfl (fun f h => h)
    · skip
      refine s_aload_n 0 dX11_fault_16 rfl rfl ?_
      refine s_getI dX11_fault_17 rfl fl_11_13 (S_102 hK) ?_
      refine s_goto (tgt := 24) dX11_fault_20 rfl ?_
      exact s_iret dX11_fault_24 rfl (fun f h => h)
  · skip
    refine s_aload_n 0 dX11_fault_4 rfl rfl ?_
    refine s_getI dX11_fault_5 rfl fl_11_224 (S_102 hK) ?_
    refine s_goto (tgt := 24) dX11_fault_8 rfl ?_
    exact s_iret dX11_fault_24 rfl (fun f h => h)
noncomputable def x11_isIn (p0 : Int32) (p1 : Int32) (p2 : Int32) (I : MI) : Option (Int32) :=
if p0 < p1 then (
some (0 : Int32)) else
if p2 < p0 then (
some (0 : Int32)) else
some (1 : Int32)
theorem ct_x11_isIn {X : WX} {p0 : Int32} {p1 : Int32} {p2 : Int32} {I : MI} {L : ML} {R : MR} {S : MS} (hK : okm R S) : Ct X yX11_isIn cX11_isIn 3 (some .boolean) 0 0 [.int p0, .int p1, .int p2] (I, L, R, S) (x11_isIn p0 p1 p2 I) (fun r => (some (.int r), (I, L, R, S))) := by
  refine Ct.of (by decide) (Nat.le_of_ble_eq_true rfl) [(0, .int p0), (1, .int p1), (2, .int p2)] rfl ?_
  unfold x11_isIn
  refine s_iload_n 0 dX11_isIn_0 rfl rfl ?_
  refine s_iload_n 1 dX11_isIn_1 rfl rfl ?_
  refine s_icmp_lt (tgt := 14) dX11_isIn_2 rfl rfl (fun _ => ?_) (fun _ => ?_)
  · skip
    refine s_iconst (v := 0) dX11_isIn_14 rfl cI_0 ?_
    exact s_zret dX11_isIn_15 rfl (Or.inl rfl) (fun f h => h)
  · skip
    refine s_iload_n 0 dX11_isIn_5 rfl rfl ?_
    refine s_iload_n 2 dX11_isIn_6 rfl rfl ?_
    refine s_icmp_gt (tgt := 14) dX11_isIn_7 rfl rfl (fun _ => ?_) (fun _ => ?_)
    · skip
      refine s_iconst (v := 0) dX11_isIn_14 rfl cI_0 ?_
      exact s_zret dX11_isIn_15 rfl (Or.inl rfl) (fun f h => h)
    · skip
      refine s_iconst (v := 1) dX11_isIn_10 rfl cI_1 ?_
      refine s_goto (tgt := 15) dX11_isIn_11 rfl ?_
      exact s_zret dX11_isIn_15 rfl (Or.inr rfl) (fun f h => h)
noncomputable def x11_isApple (p1 : Int32) (I : MI) : Option (Int32) :=
b1 (x11_isIn p1 (0 : Int32) ((I 102 60) - 1) I) fun r1 =>
ck (r1 = 0 ∨ r1 = 1) (some r1)
theorem ct_x11_isApple {X : WX} {p1 : Int32} {I : MI} {L : ML} {R : MR} {S : MS} (hK : okm R S) : Ct X yX11_isApple cX11_isApple 2 (some .boolean) 1 22 [.ref (X.1 + 102), .int p1] (I, L, R, S) (x11_isApple p1 I) (fun r => (some (.int r), (I, L, R, S))) := by
  refine Ct.of (by decide) (Nat.le_of_ble_eq_true rfl) [(0, .ref (X.1 + 102)), (1, .int p1)] rfl ?_
  unfold x11_isApple
  refine s_iload_n 1 dX11_isApple_0 rfl rfl ?_
  refine s_iconst (v := 0) dX11_isApple_1 rfl cI_0 ?_
  refine s_aload_n 0 dX11_isApple_2 rfl rfl ?_
  refine s_getI dX11_isApple_3 rfl fl_11_467 (S_102 hK) ?_
  refine s_iconst (v := 1) dX11_isApple_6 rfl cI_1 ?_
  refine s_isub dX11_isApple_7 rfl ?_
  refine s_callS3_i0 dX11_isApple_8 rfl lkS_RX11_494 (Nat.le_of_ble_eq_true rfl) (Nat.le_of_ble_eq_true rfl) (Nat.le_of_ble_eq_true rfl) (ct_x11_isIn hK) (fun r1 => ?_)
  refine sm_ck (fun g2 => ?_)
  exact s_zret dX11_isApple_11 rfl g2 (fun f h => h)
noncomputable def x11_isBobber (p1 : Int32) (I : MI) : Option (Int32) :=
b1 (x11_isIn p1 (0 : Int32) ((I 102 61) - 1) I) fun r1 =>
ck (r1 = 0 ∨ r1 = 1) (some r1)
theorem ct_x11_isBobber {X : WX} {p1 : Int32} {I : MI} {L : ML} {R : MR} {S : MS} (hK : okm R S) : Ct X yX11_isBobber cX11_isBobber 2 (some .boolean) 1 22 [.ref (X.1 + 102), .int p1] (I, L, R, S) (x11_isBobber p1 I) (fun r => (some (.int r), (I, L, R, S))) := by
  refine Ct.of (by decide) (Nat.le_of_ble_eq_true rfl) [(0, .ref (X.1 + 102)), (1, .int p1)] rfl ?_
  unfold x11_isBobber
  refine s_iload_n 1 dX11_isBobber_0 rfl rfl ?_
  refine s_iconst (v := 0) dX11_isBobber_1 rfl cI_0 ?_
  refine s_aload_n 0 dX11_isBobber_2 rfl rfl ?_
  refine s_getI dX11_isBobber_3 rfl fl_11_470 (S_102 hK) ?_
  refine s_iconst (v := 1) dX11_isBobber_6 rfl cI_1 ?_
  refine s_isub dX11_isBobber_7 rfl ?_
  refine s_callS3_i0 dX11_isBobber_8 rfl lkS_RX11_494 (Nat.le_of_ble_eq_true rfl) (Nat.le_of_ble_eq_true rfl) (Nat.le_of_ble_eq_true rfl) (ct_x11_isIn hK) (fun r1 => ?_)
  refine sm_ck (fun g2 => ?_)
  exact s_zret dX11_isBobber_11 rfl g2 (fun f h => h)
noncomputable def x11_isRule (p1 : Int32) (I : MI) : Option (Int32) :=
b1 (x11_isIn p1 (0 : Int32) ((I 102 59) - 1) I) fun r1 =>
ck (r1 = 0 ∨ r1 = 1) (some r1)
theorem ct_x11_isRule {X : WX} {p1 : Int32} {I : MI} {L : ML} {R : MR} {S : MS} (hK : okm R S) : Ct X yX11_isRule cX11_isRule 2 (some .boolean) 1 22 [.ref (X.1 + 102), .int p1] (I, L, R, S) (x11_isRule p1 I) (fun r => (some (.int r), (I, L, R, S))) := by
  refine Ct.of (by decide) (Nat.le_of_ble_eq_true rfl) [(0, .ref (X.1 + 102)), (1, .int p1)] rfl ?_
  unfold x11_isRule
  refine s_iload_n 1 dX11_isRule_0 rfl rfl ?_
  refine s_iconst (v := 0) dX11_isRule_1 rfl cI_0 ?_
  refine s_aload_n 0 dX11_isRule_2 rfl rfl ?_
  refine s_getI dX11_isRule_3 rfl fl_11_464 (S_102 hK) ?_
  refine s_iconst (v := 1) dX11_isRule_6 rfl cI_1 ?_
  refine s_isub dX11_isRule_7 rfl ?_
  refine s_callS3_i0 dX11_isRule_8 rfl lkS_RX11_494 (Nat.le_of_ble_eq_true rfl) (Nat.le_of_ble_eq_true rfl) (Nat.le_of_ble_eq_true rfl) (ct_x11_isIn hK) (fun r1 => ?_)
  refine sm_ck (fun g2 => ?_)
  exact s_zret dX11_isRule_11 rfl g2 (fun f h => h)
noncomputable def x11_isCell (p1 : Int32) (p2 : Int32) (I : MI) : Option (Int32) :=
b1 (x11_isIn p1 (0 : Int32) ((I 102 56) - 1) I) fun r1 =>
if r1 = 0 then (
some (0 : Int32)) else
b1 (x11_isIn p2 (0 : Int32) ((I 102 57) - 1) I) fun r2 =>
if r2 = 0 then (
some (0 : Int32)) else
some (1 : Int32)
theorem ct_x11_isCell {X : WX} {p1 : Int32} {p2 : Int32} {I : MI} {L : ML} {R : MR} {S : MS} (hK : okm R S) : Ct X yX11_isCell cX11_isCell 3 (some .boolean) 1 22 [.ref (X.1 + 102), .int p1, .int p2] (I, L, R, S) (x11_isCell p1 p2 I) (fun r => (some (.int r), (I, L, R, S))) := by
  refine Ct.of (by decide) (Nat.le_of_ble_eq_true rfl) [(0, .ref (X.1 + 102)), (1, .int p1), (2, .int p2)] rfl ?_
  unfold x11_isCell
  refine s_iload_n 1 dX11_isCell_0 rfl rfl ?_
  refine s_iconst (v := 0) dX11_isCell_1 rfl cI_0 ?_
  refine s_aload_n 0 dX11_isCell_2 rfl rfl ?_
  refine s_getI dX11_isCell_3 rfl fl_11_455 (S_102 hK) ?_
  refine s_iconst (v := 1) dX11_isCell_6 rfl cI_1 ?_
  refine s_isub dX11_isCell_7 rfl ?_
  refine s_callS3_i0 dX11_isCell_8 rfl lkS_RX11_494 (Nat.le_of_ble_eq_true rfl) (Nat.le_of_ble_eq_true rfl) (Nat.le_of_ble_eq_true rfl) (ct_x11_isIn hK) (fun r1 => ?_)
  refine s_if_eq (tgt := 32) dX11_isCell_11 rfl rfl (fun _ => ?_) (fun _ => ?_)
  · skip
    refine s_iconst (v := 0) dX11_isCell_32 rfl cI_0 ?_
    exact s_zret dX11_isCell_33 rfl (Or.inl rfl) (fun f h => h)
  · skip
    refine s_iload_n 2 dX11_isCell_14 rfl rfl ?_
    refine s_iconst (v := 0) dX11_isCell_15 rfl cI_0 ?_
    refine s_aload_n 0 dX11_isCell_16 rfl rfl ?_
    refine s_getI dX11_isCell_17 rfl fl_11_458 (S_102 hK) ?_
    refine s_iconst (v := 1) dX11_isCell_20 rfl cI_1 ?_
    refine s_isub dX11_isCell_21 rfl ?_
    refine s_callS3_i0 dX11_isCell_22 rfl lkS_RX11_494 (Nat.le_of_ble_eq_true rfl) (Nat.le_of_ble_eq_true rfl) (Nat.le_of_ble_eq_true rfl) (ct_x11_isIn hK) (fun r2 => ?_)
    refine s_if_eq (tgt := 32) dX11_isCell_25 rfl rfl (fun _ => ?_) (fun _ => ?_)
    · skip
      refine s_iconst (v := 0) dX11_isCell_32 rfl cI_0 ?_
      exact s_zret dX11_isCell_33 rfl (Or.inl rfl) (fun f h => h)
    · skip
      refine s_iconst (v := 1) dX11_isCell_28 rfl cI_1 ?_
      refine s_goto (tgt := 33) dX11_isCell_29 rfl ?_
      exact s_zret dX11_isCell_33 rfl (Or.inr rfl) (fun f h => h)
noncomputable def x11_load_L2s (rec : Int32 → MI → Option (MI)) (w1 : Int32) (I : MI) : Option (MI) :=
if w1 < 123 then (
ck (vp_in w1 128) <|
ck (vp_in w1 128) <|
lt (wI I 137 (ix w1) (I 138 (ix w1))) fun I3 =>
lt (w1 + 1) fun v5 =>
rec v5 I3) else
some I
noncomputable def x11_load_L2 : Nat → Int32 → MI → Option (MI)
  | 0 => fun _ _ => none
  | n + 1 => x11_load_L2s (x11_load_L2 n)
noncomputable def x11_load (I : MI) : Option (MI) :=
lt (0 : Int32) fun v1 =>
b1 (x11_load_L2 FU v1 I) fun e6 =>
some e6
theorem x11_load_L2_ok {X : WX} {n0 s0 : Nat} {L : ML} {R : MR} {S : MS} (hK : okm R S) : ∀ (n : Nat) (w1 : Int32) (I : MI), Sim X yX11_load cX11_load 2 none 0 0 n0 s0 2 [(0, .ref (X.1 + 102)), (1, .int w1)] [] (I, L, R, S) (x11_load_L2 n w1 I) (fun b f => Ex X yX11_load cX11_load 2 none 0 0 n0 s0 26 [] [] (b, L, R, S) f) := by
  intro n
  induction n with
  | zero =>
    intro w1 I
    exact sm_none
  | succ n ih =>
    intro w1 I
    change Sim _ _ _ _ _ _ _ _ _ _ _ _ _ (x11_load_L2s (x11_load_L2 n) w1 I) _
    unfold x11_load_L2s
    refine s_iload_n 1 dX11_load_2 rfl rfl ?_
    refine s_bipush (v := 123) dX11_load_3 rfl cB_123 ?_
    refine s_icmp_ge (tgt := 26) dX11_load_5 rfl rfl (fun _ => ?_) (fun _ => ?_)
    · skip
      refine s_pick [] rfl ?_
      exact sm_exit (fun f h => h)
    · skip
      refine s_aload_n 0 dX11_load_8 rfl rfl ?_
      refine s_getR 137 dX11_load_9 rfl fl_11_121 rfl (S_102 hK) (R_102_66 hK) ?_
      refine s_iload_n 1 dX11_load_12 rfl rfl ?_
      refine s_aload_n 0 dX11_load_13 rfl rfl ?_
      refine s_getR 138 dX11_load_14 rfl fl_11_124 rfl (S_102 hK) (R_102_67 hK) ?_
      refine s_iload_n 1 dX11_load_17 rfl rfl ?_
      refine sm_ck (fun g2 => ?_)
      refine s_iald dX11_load_18 rfl (S_138 hK) g2 ?_
      refine sm_ck (fun g4 => ?_)
      refine s_iastL dX11_load_19 rfl (S_137 hK) g4 (fun I3 => ?_)
      refine s_iincL 1 (c := 1) (fun v5 => [(1, .int v5), (0, .ref (X.1 + 102))]) dX11_load_20 rfl rfl cI_1 (by decide) (fun _ => rfl) (fun v5 => ?_)
      refine s_goto (tgt := 2) dX11_load_23 rfl ?_
      refine s_pick [1, 0] rfl ?_
      exact ih v5 I3
theorem ct_x11_load {X : WX} {I : MI} {L : ML} {R : MR} {S : MS} (hK : okm R S) : Ct X yX11_load cX11_load 2 none 0 0 [.ref (X.1 + 102)] (I, L, R, S) (x11_load I) (fun r => (none, (r, L, R, S))) := by
  refine Ct.of (by decide) (Nat.le_of_ble_eq_true rfl) [(0, .ref (X.1 + 102))] rfl ?_
  unfold x11_load
  refine s_iconst (v := 0) dX11_load_0 rfl cI_0 ?_
  refine s_istore_nL (fun v1 => [(1, .int v1), (0, .ref (X.1 + 102))]) dX11_load_1 rfl (by decide) (fun _ => rfl) (fun v1 => ?_)
  refine s_pick [1, 0] rfl ?_
  refine sm_reg (x11_load_L2_ok hK FU v1 I) (fun e6 => ?_)
  exact s_vret dX11_load_26 rfl (fun f h => h)
noncomputable def x11_isAfloat (p1 : Int32) (I : MI) : Option (Int32) :=
ck (vp_in ((5 * p1) + 2) 128) <|
if (I 137 (ix ((5 * p1) + 2))) < 0 then (
some (1 : Int32)) else
some (0 : Int32)
theorem ct_x11_isAfloat {X : WX} {p1 : Int32} {I : MI} {L : ML} {R : MR} {S : MS} (hK : okm R S) : Ct X yX11_isAfloat cX11_isAfloat 2 (some .boolean) 0 0 [.ref (X.1 + 102), .int p1] (I, L, R, S) (x11_isAfloat p1 I) (fun r => (some (.int r), (I, L, R, S))) := by
  refine Ct.of (by decide) (Nat.le_of_ble_eq_true rfl) [(0, .ref (X.1 + 102)), (1, .int p1)] rfl ?_
  unfold x11_isAfloat
  refine s_aload_n 0 dX11_isAfloat_0 rfl rfl ?_
  refine s_getR 137 dX11_isAfloat_1 rfl fl_11_121 rfl (S_102 hK) (R_102_66 hK) ?_
  refine s_iconst (v := 5) dX11_isAfloat_4 rfl cI_5 ?_
  refine s_iload_n 1 dX11_isAfloat_5 rfl rfl ?_
  refine s_imul dX11_isAfloat_6 rfl ?_
  refine s_iconst (v := 2) dX11_isAfloat_7 rfl cI_2 ?_
  refine s_iadd dX11_isAfloat_8 rfl ?_
  refine sm_ck (fun g1 => ?_)
  refine s_iald dX11_isAfloat_9 rfl (S_137 hK) g1 ?_
  refine s_if_ge (tgt := 17) dX11_isAfloat_10 rfl rfl (fun _ => ?_) (fun _ => ?_)
  · skip
    refine s_iconst (v := 0) dX11_isAfloat_17 rfl cI_0 ?_
    exact s_zret dX11_isAfloat_18 rfl (Or.inl rfl) (fun f h => h)
  · skip
    refine s_iconst (v := 1) dX11_isAfloat_13 rfl cI_1 ?_
    refine s_goto (tgt := 18) dX11_isAfloat_14 rfl ?_
    exact s_zret dX11_isAfloat_18 rfl (Or.inr rfl) (fun f h => h)
noncomputable def x11_afloat_L5s (c1 : Int32) (c2 : Int32) (I : MI) (rec : Int32 → Int32 → Option (Int32)) (w3 : Int32) (w4 : Int32) : Option (Int32) :=
if w4 < (I 102 60) then (
b1 (x11_isAfloat w4 I) fun r3 =>
if r3 = 0 then (
lt (w4 + 1) fun v4 =>
rec w3 v4) else
ck (vp_in (5 * w4) 128) <|
if (I 137 (ix (5 * w4))) = c1 then (
ck (vp_in ((5 * w4) + 1) 128) <|
if (I 137 (ix ((5 * w4) + 1))) = c2 then (
lt w4 fun v9 =>
lt (w4 + 1) fun v10 =>
rec v9 v10) else
lt (w4 + 1) fun v8 =>
rec w3 v8) else
lt (w4 + 1) fun v6 =>
rec w3 v6) else
some w3
noncomputable def x11_afloat_L5 (c1 : Int32) (c2 : Int32) (I : MI) : Nat → Int32 → Int32 → Option (Int32)
  | 0 => fun _ _ => none
  | n + 1 => x11_afloat_L5s c1 c2 I (x11_afloat_L5 c1 c2 I n)
noncomputable def x11_afloat (p1 : Int32) (p2 : Int32) (I : MI) : Option (Int32) :=
lt (-1 : Int32) fun v1 =>
lt (0 : Int32) fun v2 =>
b1 (x11_afloat_L5 p1 p2 I FU v1 v2) fun e11 =>
some e11
theorem x11_afloat_L5_ok {X : WX} {n0 s0 : Nat} {c1 : Int32} {c2 : Int32} {I : MI} {L : ML} {R : MR} {S : MS} (hK : okm R S) : ∀ (n : Nat) (w3 : Int32) (w4 : Int32), Sim X yX11_afloat cX11_afloat 5 (some .int) 1 21 n0 s0 5 [(0, .ref (X.1 + 102)), (1, .int c1), (2, .int c2), (3, .int w3), (4, .int w4)] [] (I, L, R, S) (x11_afloat_L5 c1 c2 I n w3 w4) (fun b f => Ex X yX11_afloat cX11_afloat 5 (some .int) 1 21 n0 s0 60 [(3, .int b)] [] (I, L, R, S) f) := by
  intro n
  induction n with
  | zero =>
    intro w3 w4
    exact sm_none
  | succ n ih =>
    intro w3 w4
    change Sim _ _ _ _ _ _ _ _ _ _ _ _ _ (x11_afloat_L5s c1 c2 I (x11_afloat_L5 c1 c2 I n) w3 w4) _
    unfold x11_afloat_L5s
    refine s_iload 4 dX11_afloat_5 rfl rfl ?_
    refine s_aload_n 0 dX11_afloat_7 rfl rfl ?_
    refine s_getI dX11_afloat_8 rfl fl_11_467 (S_102 hK) ?_
    refine s_icmp_ge (tgt := 60) dX11_afloat_11 rfl rfl (fun _ => ?_) (fun _ => ?_)
    · skip
      refine s_pick [3] rfl ?_
      exact sm_exit (fun f h => h)
    · skip
      refine s_aload_n 0 dX11_afloat_14 rfl rfl ?_
      refine s_iload 4 dX11_afloat_15 rfl rfl ?_
      refine s_callV1_i0 dX11_afloat_17 rfl lkV_RX11_501 (S_102 hK) (Nat.le_of_ble_eq_true rfl) (Nat.le_of_ble_eq_true rfl) (Nat.le_of_ble_eq_true rfl) (ct_x11_isAfloat hK) (fun r3 => ?_)
      refine s_if_eq (tgt := 54) dX11_afloat_20 rfl rfl (fun _ => ?_) (fun _ => ?_)
      · skip
        refine s_iincL 4 (c := 1) (fun v4 => [(4, .int v4), (0, .ref (X.1 + 102)), (1, .int c1), (2, .int c2), (3, .int w3)]) dX11_afloat_54 rfl rfl cI_1 (by decide) (fun _ => rfl) (fun v4 => ?_)
        refine s_goto (tgt := 5) dX11_afloat_57 rfl ?_
        refine s_pick [1, 2, 3, 4, 0] rfl ?_
        exact ih w3 v4
      · skip
        refine s_aload_n 0 dX11_afloat_23 rfl rfl ?_
        refine s_getR 137 dX11_afloat_24 rfl fl_11_121 rfl (S_102 hK) (R_102_66 hK) ?_
        refine s_iconst (v := 5) dX11_afloat_27 rfl cI_5 ?_
        refine s_iload 4 dX11_afloat_28 rfl rfl ?_
        refine s_imul dX11_afloat_30 rfl ?_
        refine sm_ck (fun g5 => ?_)
        refine s_iald dX11_afloat_31 rfl (S_137 hK) g5 ?_
        refine s_iload_n 1 dX11_afloat_32 rfl rfl ?_
        refine s_icmp_ne (tgt := 54) dX11_afloat_33 rfl rfl (fun _ => ?_) (fun _ => ?_)
        · skip
          refine s_iincL 4 (c := 1) (fun v6 => [(4, .int v6), (0, .ref (X.1 + 102)), (1, .int c1), (2, .int c2), (3, .int w3)]) dX11_afloat_54 rfl rfl cI_1 (by decide) (fun _ => rfl) (fun v6 => ?_)
          refine s_goto (tgt := 5) dX11_afloat_57 rfl ?_
          refine s_pick [1, 2, 3, 4, 0] rfl ?_
          exact ih w3 v6
        · skip
          refine s_aload_n 0 dX11_afloat_36 rfl rfl ?_
          refine s_getR 137 dX11_afloat_37 rfl fl_11_121 rfl (S_102 hK) (R_102_66 hK) ?_
          refine s_iconst (v := 5) dX11_afloat_40 rfl cI_5 ?_
          refine s_iload 4 dX11_afloat_41 rfl rfl ?_
          refine s_imul dX11_afloat_43 rfl ?_
          refine s_iconst (v := 1) dX11_afloat_44 rfl cI_1 ?_
          refine s_iadd dX11_afloat_45 rfl ?_
          refine sm_ck (fun g7 => ?_)
          refine s_iald dX11_afloat_46 rfl (S_137 hK) g7 ?_
          refine s_iload_n 2 dX11_afloat_47 rfl rfl ?_
          refine s_icmp_ne (tgt := 54) dX11_afloat_48 rfl rfl (fun _ => ?_) (fun _ => ?_)
          · skip
            refine s_iincL 4 (c := 1) (fun v8 => [(4, .int v8), (0, .ref (X.1 + 102)), (1, .int c1), (2, .int c2), (3, .int w3)]) dX11_afloat_54 rfl rfl cI_1 (by decide) (fun _ => rfl) (fun v8 => ?_)
            refine s_goto (tgt := 5) dX11_afloat_57 rfl ?_
            refine s_pick [1, 2, 3, 4, 0] rfl ?_
            exact ih w3 v8
          · skip
            refine s_iload 4 dX11_afloat_51 rfl rfl ?_
            refine s_istore_nL (fun v9 => [(3, .int v9), (0, .ref (X.1 + 102)), (1, .int c1), (2, .int c2), (4, .int w4)]) dX11_afloat_53 rfl (by decide) (fun _ => rfl) (fun v9 => ?_)
            refine s_iincL 4 (c := 1) (fun v10 => [(4, .int v10), (3, .int v9), (0, .ref (X.1 + 102)), (1, .int c1), (2, .int c2)]) dX11_afloat_54 rfl rfl cI_1 (by decide) (fun _ => rfl) (fun v10 => ?_)
            refine s_goto (tgt := 5) dX11_afloat_57 rfl ?_
            refine s_pick [2, 3, 4, 1, 0] rfl ?_
            exact ih v9 v10
theorem ct_x11_afloat {X : WX} {p1 : Int32} {p2 : Int32} {I : MI} {L : ML} {R : MR} {S : MS} (hK : okm R S) : Ct X yX11_afloat cX11_afloat 5 (some .int) 1 21 [.ref (X.1 + 102), .int p1, .int p2] (I, L, R, S) (x11_afloat p1 p2 I) (fun r => (some (.int r), (I, L, R, S))) := by
  refine Ct.of (by decide) (Nat.le_of_ble_eq_true rfl) [(0, .ref (X.1 + 102)), (1, .int p1), (2, .int p2)] rfl ?_
  unfold x11_afloat
  refine s_iconst (v := (-1)) dX11_afloat_0 rfl cI_m1 ?_
  refine s_istore_nL (fun v1 => [(3, .int v1), (0, .ref (X.1 + 102)), (1, .int p1), (2, .int p2)]) dX11_afloat_1 rfl (by decide) (fun _ => rfl) (fun v1 => ?_)
  refine s_iconst (v := 0) dX11_afloat_2 rfl cI_0 ?_
  refine s_istoreL (fun v2 => [(4, .int v2), (3, .int v1), (0, .ref (X.1 + 102)), (1, .int p1), (2, .int p2)]) dX11_afloat_3 rfl (by decide) (fun _ => rfl) (fun v2 => ?_)
  refine s_pick [2, 3, 4, 1, 0] rfl ?_
  refine sm_reg (x11_afloat_L5_ok hK FU v1 v2) (fun e11 => ?_)
  refine s_iload_n 0 dX11_afloat_60 rfl rfl ?_
  exact s_iret dX11_afloat_61 rfl (fun f h => h)
