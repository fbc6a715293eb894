noncomputable def x3_readWord_L5s (rec : MI → ML → Option (MI × ML)) (I : MI) (L : ML) : Option (MI × ML) :=
if (I 21 3) < (I 21 2) then (
ck (vp_in (I 21 3) 1600) <|
if (I 1 (ix (I 21 3))) < 97 then (
some (I, L)) else
ck (vp_in (I 21 3) 1600) <|
if 122 < (I 1 (ix (I 21 3))) then (
some (I, L)) else
ck (vp_in (I 21 3) 1600) <|
lt (wL L 21 7 (((L 21 7) * 32) + ((((I 1 (ix (I 21 3))) - 97) + 1)).toInt64)) fun L5 =>
lt (wI I 21 3 ((I 21 3) + 1)) fun I6 =>
rec I6 L5) else
some (I, L)
noncomputable def x3_readWord_L5 : Nat → MI → ML → Option (MI × ML)
  | 0 => fun _ _ => none
  | n + 1 => x3_readWord_L5s (x3_readWord_L5 n)
noncomputable def x3_readWord_L114s (L : ML) (rec : Int32 → MI → Option (MI)) (w1 : Int32) (I : MI) : Option (MI) :=
if w1 < 26 then (
ck (vp_in w1 26) <|
if (lg_cmp (L 22 (ix w1)) (L 21 7)) = 0 then (
lt (wI I 21 4 w1) fun I12 =>
lt (w1 + 1) fun v13 =>
rec v13 I12) else
lt (w1 + 1) fun v11 =>
rec v11 I) else
some I
noncomputable def x3_readWord_L114 (L : ML) : Nat → Int32 → MI → Option (MI)
  | 0 => fun _ _ => none
  | n + 1 => x3_readWord_L114s L (x3_readWord_L114 L n)
noncomputable def x3_readWord (I : MI) (L : ML) : Option (MI × ML) :=
lt (wL L 21 7 (0 : Int64)) fun L1 =>
b1 (x3_readWord_L5 FU I L1) fun e7 =>
if 8 < ((e7.1 21 3) - (e7.1 21 5)) then (
lt (wI e7.1 21 4 (29 : Int32)) fun I15 =>
some (I15, e7.2)) else
lt (wI e7.1 21 4 (26 : Int32)) fun I8 =>
lt (0 : Int32) fun v9 =>
b1 (x3_readWord_L114 e7.2 FU v9 I8) fun e14 =>
some (e14, e7.2)
theorem x3_readWord_L5_ok {X : WX} {n0 s0 : Nat} {R : MR} {S : MS} (hK : okr R S) (hx : R 21 1 = some 1) : ∀ (n : Nat) (I : MI) (L : ML), Sim X yX3_readWord cX3_readWord 2 none 0 0 n0 s0 5 [(0, .ref (X.1 + 21))] [] (I, L, R, S) (x3_readWord_L5 n I L) (fun b f => Ex X yX3_readWord cX3_readWord 2 none 0 0 n0 s0 85 [(0, .ref (X.1 + 21))] [] (b.1, b.2, R, S) f) := by
  intro n
  induction n with
  | zero =>
    intro I L
    exact sm_none
  | succ n ih =>
    intro I L
    change Sim _ _ _ _ _ _ _ _ _ _ _ _ _ (x3_readWord_L5s (x3_readWord_L5 n) I L) _
    unfold x3_readWord_L5s
    refine s_aload_n 0 dX3_readWord_5 rfl rfl ?_
    refine s_getI dX3_readWord_6 rfl fl_3_40 (S_21 hK) ?_
    refine s_aload_n 0 dX3_readWord_9 rfl rfl ?_
    refine s_getI dX3_readWord_10 rfl fl_3_37 (S_21 hK) ?_
    refine s_icmp_ge (tgt := 85) dX3_readWord_13 rfl rfl (fun _ => ?_) (fun _ => ?_)
    · skip
      exact sm_exit (fun f h => h)
    · skip
      refine s_aload_n 0 dX3_readWord_16 rfl rfl ?_
      refine s_getR 1 dX3_readWord_17 rfl fl_3_13 rfl (S_21 hK) hx ?_
      refine s_aload_n 0 dX3_readWord_20 rfl rfl ?_
      refine s_getI dX3_readWord_21 rfl fl_3_40 (S_21 hK) ?_
      refine sm_ck (fun g2 => ?_)
      refine s_bald dX3_readWord_24 rfl (S_1 hK) g2 ?_
      refine s_bipush (v := 97) dX3_readWord_25 rfl cB_97 ?_
      refine s_icmp_lt (tgt := 85) dX3_readWord_27 rfl rfl (fun _ => ?_) (fun _ => ?_)
      · skip
        exact sm_exit (fun f h => h)
      · skip
        refine s_aload_n 0 dX3_readWord_30 rfl rfl ?_
        refine s_getR 1 dX3_readWord_31 rfl fl_3_13 rfl (S_21 hK) hx ?_
        refine s_aload_n 0 dX3_readWord_34 rfl rfl ?_
        refine s_getI dX3_readWord_35 rfl fl_3_40 (S_21 hK) ?_
        refine sm_ck (fun g3 => ?_)
        refine s_bald dX3_readWord_38 rfl (S_1 hK) g3 ?_
        refine s_bipush (v := 122) dX3_readWord_39 rfl cB_122 ?_
        refine s_icmp_gt (tgt := 85) dX3_readWord_41 rfl rfl (fun _ => ?_) (fun _ => ?_)
        · skip
          exact sm_exit (fun f h => h)
        · skip
          refine s_aload_n 0 dX3_readWord_44 rfl rfl ?_
          refine s_aload_n 0 dX3_readWord_45 rfl rfl ?_
          refine s_getL dX3_readWord_46 rfl fl_3_61 (S_21 hK) ?_
          refine s_ldc2 (v := 32) dX3_readWord_49 rfl kl_3_29c ?_
          refine s_lmul dX3_readWord_52 rfl ?_
          refine s_aload_n 0 dX3_readWord_53 rfl rfl ?_
          refine s_getR 1 dX3_readWord_54 rfl fl_3_13 rfl (S_21 hK) hx ?_
          refine s_aload_n 0 dX3_readWord_57 rfl rfl ?_
          refine s_getI dX3_readWord_58 rfl fl_3_40 (S_21 hK) ?_
          refine sm_ck (fun g4 => ?_)
          refine s_bald dX3_readWord_61 rfl (S_1 hK) g4 ?_
          refine s_bipush (v := 97) dX3_readWord_62 rfl cB_97 ?_
          refine s_isub dX3_readWord_64 rfl ?_
          refine s_iconst (v := 1) dX3_readWord_65 rfl cI_1 ?_
          refine s_iadd dX3_readWord_66 rfl ?_
          refine s_i2l dX3_readWord_67 rfl ?_
          refine s_ladd dX3_readWord_68 rfl ?_
          refine s_putLL dX3_readWord_69 rfl fl_3_61 (S_21 hK) (fun L5 => ?_)
          refine s_aload_n 0 dX3_readWord_72 rfl rfl ?_
          refine s_dup dX3_readWord_73 rfl rfl ?_
          refine s_getI dX3_readWord_74 rfl fl_3_40 (S_21 hK) ?_
          refine s_iconst (v := 1) dX3_readWord_77 rfl cI_1 ?_
          refine s_iadd dX3_readWord_78 rfl ?_
          refine s_putIL dX3_readWord_79 rfl fl_3_40 (S_21 hK) (fun I6 => ?_)
          refine s_goto (tgt := 5) dX3_readWord_82 rfl ?_
          exact ih I6 L5
theorem x3_readWord_L114_ok {X : WX} {n0 s0 : Nat} {L : ML} {R : MR} {S : MS} (hK : okr R S) (hx : R 21 1 = some 1) : ∀ (n : Nat) (w1 : Int32) (I : MI), Sim X yX3_readWord cX3_readWord 2 none 0 0 n0 s0 114 [(0, .ref (X.1 + 21)), (1, .int w1)] [] (I, L, R, S) (x3_readWord_L114 L n w1 I) (fun b f => Ex X yX3_readWord cX3_readWord 2 none 0 0 n0 s0 145 [] [] (b, L, R, S) f) := by
  intro n
  induction n with
  | zero =>
    intro w1 I
    exact sm_none
  | succ n ih =>
    intro w1 I
    change Sim _ _ _ _ _ _ _ _ _ _ _ _ _ (x3_readWord_L114s L (x3_readWord_L114 L n) w1 I) _
    unfold x3_readWord_L114s
    refine s_iload_n 1 dX3_readWord_114 rfl rfl ?_
    refine s_bipush (v := 26) dX3_readWord_115 rfl cB_26 ?_
    refine s_icmp_ge (tgt := 145) dX3_readWord_117 rfl rfl (fun _ => ?_) (fun _ => ?_)
    · skip
      refine s_pick [] rfl ?_
      exact sm_exit (fun f h => h)
    · skip
      refine s_aload_n 0 dX3_readWord_120 rfl rfl ?_
      refine s_getR 22 dX3_readWord_121 rfl fl_3_9 rfl (S_21 hK) (R_21_0 hK) ?_
      refine s_iload_n 1 dX3_readWord_124 rfl rfl ?_
      refine sm_ck (fun g10 => ?_)
      refine s_lald dX3_readWord_125 rfl (S_22 hK) g10 ?_
      refine s_aload_n 0 dX3_readWord_126 rfl rfl ?_
      refine s_getL dX3_readWord_127 rfl fl_3_61 (S_21 hK) ?_
      refine s_lcmp dX3_readWord_130 rfl ?_
      refine s_if_ne (tgt := 139) dX3_readWord_131 rfl rfl (fun _ => ?_) (fun _ => ?_)
      · skip
        refine s_iincL 1 (c := 1) (fun v11 => [(1, .int v11), (0, .ref (X.1 + 21))]) dX3_readWord_139 rfl rfl cI_1 (by decide) (fun _ => rfl) (fun v11 => ?_)
        refine s_goto (tgt := 114) dX3_readWord_142 rfl ?_
        refine s_pick [1, 0] rfl ?_
        exact ih v11 I
      · skip
        refine s_aload_n 0 dX3_readWord_134 rfl rfl ?_
        refine s_iload_n 1 dX3_readWord_135 rfl rfl ?_
        refine s_putIL dX3_readWord_136 rfl fl_3_49 (S_21 hK) (fun I12 => ?_)
        refine s_iincL 1 (c := 1) (fun v13 => [(1, .int v13), (0, .ref (X.1 + 21))]) dX3_readWord_139 rfl rfl cI_1 (by decide) (fun _ => rfl) (fun v13 => ?_)
        refine s_goto (tgt := 114) dX3_readWord_142 rfl ?_
        refine s_pick [1, 0] rfl ?_
        exact ih v13 I12
theorem ct_x3_readWord {X : WX} {I : MI} {L : ML} {R : MR} {S : MS} (hK : okr R S) (hx : R 21 1 = some 1) : Ct X yX3_readWord cX3_readWord 2 none 0 0 [.ref (X.1 + 21)] (I, L, R, S) (x3_readWord I L) (fun r => (none, (r.1, r.2, R, S))) := by
  refine Ct.of (by decide) (Nat.le_of_ble_eq_true rfl) [(0, .ref (X.1 + 21))] rfl ?_
  unfold x3_readWord
  refine s_aload_n 0 dX3_readWord_0 rfl rfl ?_
  refine s_lconst (v := 0) dX3_readWord_1 rfl rfl ?_
  refine s_putLL dX3_readWord_2 rfl fl_3_61 (S_21 hK) (fun L1 => ?_)
  refine sm_reg (x3_readWord_L5_ok hK hx FU I L1) (fun e7 => ?_)
  refine s_aload_n 0 dX3_readWord_85 rfl rfl ?_
  refine s_getI dX3_readWord_86 rfl fl_3_40 (S_21 hK) ?_
  refine s_aload_n 0 dX3_readWord_89 rfl rfl ?_
  refine s_getI dX3_readWord_90 rfl fl_3_46 (S_21 hK) ?_
  refine s_isub dX3_readWord_93 rfl ?_
  refine s_bipush (v := 8) dX3_readWord_94 rfl cB_8 ?_
  refine s_icmp_le (tgt := 106) dX3_readWord_96 rfl rfl (fun _ => ?_) (fun _ => ?_)
  · skip
    refine s_aload_n 0 dX3_readWord_106 rfl rfl ?_
    refine s_bipush (v := 26) dX3_readWord_107 rfl cB_26 ?_
    refine s_putIL dX3_readWord_109 rfl fl_3_49 (S_21 hK) (fun I8 => ?_)
    refine s_iconst (v := 0) dX3_readWord_112 rfl cI_0 ?_
    refine s_istore_nL (fun v9 => [(1, .int v9), (0, .ref (X.1 + 21))]) dX3_readWord_113 rfl (by decide) (fun _ => rfl) (fun v9 => ?_)
    refine s_pick [1, 0] rfl ?_
    refine sm_reg (x3_readWord_L114_ok hK hx FU v9 I8) (fun e14 => ?_)
    exact s_vret dX3_readWord_145 rfl (fun f h => h)
  · skip
    refine s_aload_n 0 dX3_readWord_99 rfl rfl ?_
    refine s_bipush (v := 29) dX3_readWord_100 rfl cB_29 ?_
    refine s_putIL dX3_readWord_102 rfl fl_3_49 (S_21 hK) (fun I15 => ?_)
    exact s_vret dX3_readWord_105 rfl (fun f h => h)
noncomputable def x3_readNumber_L5s (rec : MI → Option (MI)) (I : MI) : Option (MI) :=
if (I 21 3) < (I 21 2) then (
ck (vp_in (I 21 3) 1600) <|
if (I 1 (ix (I 21 3))) < 48 then (
some I) else
ck (vp_in (I 21 3) 1600) <|
if 57 < (I 1 (ix (I 21 3))) then (
some I) else
ck (vp_in (I 21 3) 1600) <|
lt (wI I 21 6 (((I 21 6) * 10) + ((I 1 (ix (I 21 3))) - 48))) fun I5 =>
lt (wI I5 21 3 ((I5 21 3) + 1)) fun I6 =>
rec I6) else
some I
noncomputable def x3_readNumber_L5 : Nat → MI → Option (MI)
  | 0 => fun _ => none
  | n + 1 => x3_readNumber_L5s (x3_readNumber_L5 n)
noncomputable def x3_readNumber (I : MI) : Option (MI) :=
lt (wI I 21 6 (0 : Int32)) fun I1 =>
b1 (x3_readNumber_L5 FU I1) fun e7 =>
bE (
if (e7 21 3) < (e7 21 2) then (
ck (vp_in (e7 21 3) 1600) <|
if (e7 1 (ix (e7 21 3))) < 97 then (
some (.inl e7)) else
ck (vp_in (e7 21 3) 1600) <|
if 122 < (e7 1 (ix (e7 21 3))) then (
some (.inl e7)) else
lt (1 : Int32) fun v11 =>
if v11 = 0 then (
if 4 < ((e7 21 3) - (e7 21 5)) then (
lt (wI e7 21 4 (29 : Int32)) fun I14 =>
some (.inr I14)) else
lt (wI e7 21 4 (27 : Int32)) fun I13 =>
some (.inr I13)) else
lt (wI e7 21 4 (29 : Int32)) fun I12 =>
some (.inr I12)) else
some (.inl e7)) fun e8 =>
lt (0 : Int32) fun v15 =>
if v15 = 0 then (
if 4 < ((e8 21 3) - (e8 21 5)) then (
lt (wI e8 21 4 (29 : Int32)) fun I18 =>
some I18) else
lt (wI e8 21 4 (27 : Int32)) fun I17 =>
some I17) else
lt (wI e8 21 4 (29 : Int32)) fun I16 =>
some I16
theorem x3_readNumber_L5_ok {X : WX} {n0 s0 : Nat} {L : ML} {R : MR} {S : MS} (hK : okr R S) (hx : R 21 1 = some 1) : ∀ (n : Nat) (I : MI), Sim X yX3_readNumber cX3_readNumber 2 none 0 0 n0 s0 5 [(0, .ref (X.1 + 21))] [] (I, L, R, S) (x3_readNumber_L5 n I) (fun b f => Ex X yX3_readNumber cX3_readNumber 2 none 0 0 n0 s0 81 [(0, .ref (X.1 + 21))] [] (b, L, R, S) f) := by
  intro n
  induction n with
  | zero =>
    intro I
    exact sm_none
  | succ n ih =>
    intro I
    change Sim _ _ _ _ _ _ _ _ _ _ _ _ _ (x3_readNumber_L5s (x3_readNumber_L5 n) I) _
    unfold x3_readNumber_L5s
    refine s_aload_n 0 dX3_readNumber_5 rfl rfl ?_
    refine s_getI dX3_readNumber_6 rfl fl_3_40 (S_21 hK) ?_
    refine s_aload_n 0 dX3_readNumber_9 rfl rfl ?_
    refine s_getI dX3_readNumber_10 rfl fl_3_37 (S_21 hK) ?_
    refine s_icmp_ge (tgt := 81) dX3_readNumber_13 rfl rfl (fun _ => ?_) (fun _ => ?_)
    · skip
      exact sm_exit (fun f h => h)
    · skip
      refine s_aload_n 0 dX3_readNumber_16 rfl rfl ?_
      refine s_getR 1 dX3_readNumber_17 rfl fl_3_13 rfl (S_21 hK) hx ?_
      refine s_aload_n 0 dX3_readNumber_20 rfl rfl ?_
      refine s_getI dX3_readNumber_21 rfl fl_3_40 (S_21 hK) ?_
      refine sm_ck (fun g2 => ?_)
      refine s_bald dX3_readNumber_24 rfl (S_1 hK) g2 ?_
      refine s_bipush (v := 48) dX3_readNumber_25 rfl cB_48 ?_
      refine s_icmp_lt (tgt := 81) dX3_readNumber_27 rfl rfl (fun _ => ?_) (fun _ => ?_)
      · skip
        exact sm_exit (fun f h => h)
      · skip
        refine s_aload_n 0 dX3_readNumber_30 rfl rfl ?_
        refine s_getR 1 dX3_readNumber_31 rfl fl_3_13 rfl (S_21 hK) hx ?_
        refine s_aload_n 0 dX3_readNumber_34 rfl rfl ?_
        refine s_getI dX3_readNumber_35 rfl fl_3_40 (S_21 hK) ?_
        refine sm_ck (fun g3 => ?_)
        refine s_bald dX3_readNumber_38 rfl (S_1 hK) g3 ?_
        refine s_bipush (v := 57) dX3_readNumber_39 rfl cB_57 ?_
        refine s_icmp_gt (tgt := 81) dX3_readNumber_41 rfl rfl (fun _ => ?_) (fun _ => ?_)
        · skip
          exact sm_exit (fun f h => h)
        · skip
          refine s_aload_n 0 dX3_readNumber_44 rfl rfl ?_
          refine s_aload_n 0 dX3_readNumber_45 rfl rfl ?_
          refine s_getI dX3_readNumber_46 rfl fl_3_65 (S_21 hK) ?_
          refine s_bipush (v := 10) dX3_readNumber_49 rfl cB_10 ?_
          refine s_imul dX3_readNumber_51 rfl ?_
          refine s_aload_n 0 dX3_readNumber_52 rfl rfl ?_
          refine s_getR 1 dX3_readNumber_53 rfl fl_3_13 rfl (S_21 hK) hx ?_
          refine s_aload_n 0 dX3_readNumber_56 rfl rfl ?_
          refine s_getI dX3_readNumber_57 rfl fl_3_40 (S_21 hK) ?_
          refine sm_ck (fun g4 => ?_)
          refine s_bald dX3_readNumber_60 rfl (S_1 hK) g4 ?_
          refine s_bipush (v := 48) dX3_readNumber_61 rfl cB_48 ?_
          refine s_isub dX3_readNumber_63 rfl ?_
          refine s_iadd dX3_readNumber_64 rfl ?_
          refine s_putIL dX3_readNumber_65 rfl fl_3_65 (S_21 hK) (fun I5 => ?_)
          refine s_aload_n 0 dX3_readNumber_68 rfl rfl ?_
          refine s_dup dX3_readNumber_69 rfl rfl ?_
          refine s_getI dX3_readNumber_70 rfl fl_3_40 (S_21 hK) ?_
          refine s_iconst (v := 1) dX3_readNumber_73 rfl cI_1 ?_
          refine s_iadd dX3_readNumber_74 rfl ?_
          refine s_putIL dX3_readNumber_75 rfl fl_3_40 (S_21 hK) (fun I6 => ?_)
          refine s_goto (tgt := 5) dX3_readNumber_78 rfl ?_
          exact ih I6
theorem ct_x3_readNumber {X : WX} {I : MI} {L : ML} {R : MR} {S : MS} (hK : okr R S) (hx : R 21 1 = some 1) : Ct X yX3_readNumber cX3_readNumber 2 none 0 0 [.ref (X.1 + 21)] (I, L, R, S) (x3_readNumber I) (fun r => (none, (r, L, R, S))) := by
  refine Ct.of (by decide) (Nat.le_of_ble_eq_true rfl) [(0, .ref (X.1 + 21))] rfl ?_
  unfold x3_readNumber
  refine s_aload_n 0 dX3_readNumber_0 rfl rfl ?_
  refine s_iconst (v := 0) dX3_readNumber_1 rfl cI_0 ?_
  refine s_putIL dX3_readNumber_2 rfl fl_3_65 (S_21 hK) (fun I1 => ?_)
  refine sm_reg (x3_readNumber_L5_ok hK hx FU I1) (fun e7 => ?_)
  refine s_aload_n 0 dX3_readNumber_81 rfl rfl ?_
  refine s_getI dX3_readNumber_82 rfl fl_3_40 (S_21 hK) ?_
  refine s_aload_n 0 dX3_readNumber_85 rfl rfl ?_
  refine s_getI dX3_readNumber_86 rfl fl_3_37 (S_21 hK) ?_
  refine sm_regE (pcx := 124) (lsx := fun e8 => [(0, .ref (X.1 + 21))]) (stx := fun e8 => []) (ux := fun e8 => (e8, L, R, S)) ?_ (fun e8 => ?_)
  · skip
    refine s_icmp_ge (tgt := 124) dX3_readNumber_89 rfl rfl (fun _ => ?_) (fun _ => ?_)
    · skip
      exact sm_exit (fun f h => h)
    · skip
      refine s_aload_n 0 dX3_readNumber_92 rfl rfl ?_
      refine s_getR 1 dX3_readNumber_93 rfl fl_3_13 rfl (S_21 hK) hx ?_
      refine s_aload_n 0 dX3_readNumber_96 rfl rfl ?_
      refine s_getI dX3_readNumber_97 rfl fl_3_40 (S_21 hK) ?_
      refine sm_ck (fun g9 => ?_)
      refine s_bald dX3_readNumber_100 rfl (S_1 hK) g9 ?_
      refine s_bipush (v := 97) dX3_readNumber_101 rfl cB_97 ?_
      refine s_icmp_lt (tgt := 124) dX3_readNumber_103 rfl rfl (fun _ => ?_) (fun _ => ?_)
      · skip
        exact sm_exit (fun f h => h)
      · skip
        refine s_aload_n 0 dX3_readNumber_106 rfl rfl ?_
        refine s_getR 1 dX3_readNumber_107 rfl fl_3_13 rfl (S_21 hK) hx ?_
        refine s_aload_n 0 dX3_readNumber_110 rfl rfl ?_
        refine s_getI dX3_readNumber_111 rfl fl_3_40 (S_21 hK) ?_
        refine sm_ck (fun g10 => ?_)
        refine s_bald dX3_readNumber_114 rfl (S_1 hK) g10 ?_
        refine s_bipush (v := 122) dX3_readNumber_115 rfl cB_122 ?_
        refine s_icmp_gt (tgt := 124) dX3_readNumber_117 rfl rfl (fun _ => ?_) (fun _ => ?_)
        · skip
          exact sm_exit (fun f h => h)
        · skip
          refine s_iconst (v := 1) dX3_readNumber_120 rfl cI_1 ?_
          refine s_goto (tgt := 125) dX3_readNumber_121 rfl ?_
          refine s_istore_nL (fun v11 => [(1, .int v11), (0, .ref (X.1 + 21))]) dX3_readNumber_125 rfl (by decide) (fun _ => rfl) (fun v11 => ?_)
          refine s_aload_n 1 dX3_readNumber_126 rfl rfl ?_
          refine s_iload_n 0 dX3_readNumber_127 rfl rfl ?_
          refine s_if_ne (tgt := 144) dX3_readNumber_128 rfl rfl (fun _ => ?_) (fun _ => ?_)
          · skip
            refine s_bipush (v := 29) dX3_readNumber_144 rfl cB_29 ?_
            refine s_goto (tgt := 151) dX3_readNumber_146 rfl ?_
            refine s_putIL dX3_readNumber_151 rfl fl_3_49 (S_21 hK) (fun I12 => ?_)
            exact s_vret dX3_readNumber_154 rfl (fun f h => h)
          · skip
            refine s_aload_n 1 dX3_readNumber_131 rfl rfl ?_
            refine s_getI dX3_readNumber_132 rfl fl_3_40 (S_21 hK) ?_
            refine s_aload_n 1 dX3_readNumber_135 rfl rfl ?_
            refine s_getI dX3_readNumber_136 rfl fl_3_46 (S_21 hK) ?_
            refine s_isub dX3_readNumber_139 rfl ?_
            refine s_iconst (v := 4) dX3_readNumber_140 rfl cI_4 ?_
            refine s_icmp_le (tgt := 149) dX3_readNumber_141 rfl rfl (fun _ => ?_) (fun _ => ?_)
            · skip
              refine s_bipush (v := 27) dX3_readNumber_149 rfl cB_27 ?_
              refine s_putIL dX3_readNumber_151 rfl fl_3_49 (S_21 hK) (fun I13 => ?_)
              exact s_vret dX3_readNumber_154 rfl (fun f h => h)
            · skip
              refine s_bipush (v := 29) dX3_readNumber_144 rfl cB_29 ?_
              refine s_goto (tgt := 151) dX3_readNumber_146 rfl ?_
              refine s_putIL dX3_readNumber_151 rfl fl_3_49 (S_21 hK) (fun I14 => ?_)
              exact s_vret dX3_readNumber_154 rfl (fun f h => h)
  · skip
    refine s_iconst (v := 0) dX3_readNumber_124 rfl cI_0 ?_
    refine s_istore_nL (fun v15 => [(1, .int v15), (0, .ref (X.1 + 21))]) dX3_readNumber_125 rfl (by decide) (fun _ => rfl) (fun v15 => ?_)
    refine s_aload_n 1 dX3_readNumber_126 rfl rfl ?_
    refine s_iload_n 0 dX3_readNumber_127 rfl rfl ?_
    refine s_if_ne (tgt := 144) dX3_readNumber_128 rfl rfl (fun _ => ?_) (fun _ => ?_)
    · skip
      refine s_bipush (v := 29) dX3_readNumber_144 rfl cB_29 ?_
      refine s_goto (tgt := 151) dX3_readNumber_146 rfl ?_
      refine s_putIL dX3_readNumber_151 rfl fl_3_49 (S_21 hK) (fun I16 => ?_)
      exact s_vret dX3_readNumber_154 rfl (fun f h => h)
    · skip
      refine s_aload_n 1 dX3_readNumber_131 rfl rfl ?_
      refine s_getI dX3_readNumber_132 rfl fl_3_40 (S_21 hK) ?_
      refine s_aload_n 1 dX3_readNumber_135 rfl rfl ?_
      refine s_getI dX3_readNumber_136 rfl fl_3_46 (S_21 hK) ?_
      refine s_isub dX3_readNumber_139 rfl ?_
      refine s_iconst (v := 4) dX3_readNumber_140 rfl cI_4 ?_
      refine s_icmp_le (tgt := 149) dX3_readNumber_141 rfl rfl (fun _ => ?_) (fun _ => ?_)
      · skip
        refine s_bipush (v := 27) dX3_readNumber_149 rfl cB_27 ?_
        refine s_putIL dX3_readNumber_151 rfl fl_3_49 (S_21 hK) (fun I17 => ?_)
        exact s_vret dX3_readNumber_154 rfl (fun f h => h)
      · skip
        refine s_bipush (v := 29) dX3_readNumber_144 rfl cB_29 ?_
        refine s_goto (tgt := 151) dX3_readNumber_146 rfl ?_
        refine s_putIL dX3_readNumber_151 rfl fl_3_49 (S_21 hK) (fun I18 => ?_)
        exact s_vret dX3_readNumber_154 rfl (fun f h => h)
noncomputable def x3_readSign (I : MI) : Option (MI) :=
ck (vp_in (I 21 3) 1600) <|
lt (I 1 (ix (I 21 3))) fun v2 =>
if v2 = 37 then (
lt (wI I 21 4 v2) fun I4 =>
lt (wI I4 21 3 ((I4 21 3) + 1)) fun I5 =>
some I5) else
if v2 = 38 then (
lt (wI I 21 4 (29 : Int32)) fun I7 =>
some I7) else
if v2 = 39 then (
lt (wI I 21 4 (29 : Int32)) fun I9 =>
some I9) else
if v2 = 40 then (
lt (wI I 21 4 v2) fun I11 =>
lt (wI I11 21 3 ((I11 21 3) + 1)) fun I12 =>
some I12) else
if v2 = 41 then (
lt (wI I 21 4 v2) fun I14 =>
lt (wI I14 21 3 ((I14 21 3) + 1)) fun I15 =>
some I15) else
if v2 = 42 then (
lt (wI I 21 4 v2) fun I17 =>
lt (wI I17 21 3 ((I17 21 3) + 1)) fun I18 =>
some I18) else
if v2 = 43 then (
lt (wI I 21 4 v2) fun I20 =>
lt (wI I20 21 3 ((I20 21 3) + 1)) fun I21 =>
some I21) else
if v2 = 44 then (
lt (wI I 21 4 (29 : Int32)) fun I23 =>
some I23) else
if v2 = 45 then (
lt (wI I 21 4 v2) fun I25 =>
lt (wI I25 21 3 ((I25 21 3) + 1)) fun I26 =>
some I26) else
if v2 = 46 then (
lt (wI I 21 4 (29 : Int32)) fun I28 =>
some I28) else
if v2 = 47 then (
lt (wI I 21 4 v2) fun I30 =>
lt (wI I30 21 3 ((I30 21 3) + 1)) fun I31 =>
some I31) else
if v2 = 48 then (
lt (wI I 21 4 (29 : Int32)) fun I33 =>
some I33) else
if v2 = 49 then (
lt (wI I 21 4 (29 : Int32)) fun I35 =>
some I35) else
if v2 = 50 then (
lt (wI I 21 4 (29 : Int32)) fun I37 =>
some I37) else
if v2 = 51 then (
lt (wI I 21 4 (29 : Int32)) fun I39 =>
some I39) else
if v2 = 52 then (
lt (wI I 21 4 (29 : Int32)) fun I41 =>
some I41) else
if v2 = 53 then (
lt (wI I 21 4 (29 : Int32)) fun I43 =>
some I43) else
if v2 = 54 then (
lt (wI I 21 4 (29 : Int32)) fun I45 =>
some I45) else
if v2 = 55 then (
lt (wI I 21 4 (29 : Int32)) fun I47 =>
some I47) else
if v2 = 56 then (
lt (wI I 21 4 (29 : Int32)) fun I49 =>
some I49) else
if v2 = 57 then (
lt (wI I 21 4 (29 : Int32)) fun I51 =>
some I51) else
if v2 = 58 then (
lt (wI I 21 4 (29 : Int32)) fun I53 =>
some I53) else
if v2 = 59 then (
lt (wI I 21 4 v2) fun I55 =>
lt (wI I55 21 3 ((I55 21 3) + 1)) fun I56 =>
some I56) else
if v2 = 60 then (
lt (wI I 21 4 v2) fun I58 =>
lt (wI I58 21 3 ((I58 21 3) + 1)) fun I59 =>
some I59) else
if v2 = 61 then (
lt (wI I 21 4 v2) fun I61 =>
lt (wI I61 21 3 ((I61 21 3) + 1)) fun I62 =>
some I62) else
if v2 = 62 then (
lt (wI I 21 4 v2) fun I64 =>
lt (wI I64 21 3 ((I64 21 3) + 1)) fun I65 =>
some I65) else
lt (wI I 21 4 (29 : Int32)) fun I66 =>
some I66
theorem ct_x3_readSign {X : WX} {I : MI} {L : ML} {R : MR} {S : MS} (hK : okr R S) (hx : R 21 1 = some 1) : Ct X yX3_readSign cX3_readSign 2 none 0 0 [.ref (X.1 + 21)] (I, L, R, S) (x3_readSign I) (fun r => (none, (r, L, R, S))) := by
  refine Ct.of (by decide) (Nat.le_of_ble_eq_true rfl) [(0, .ref (X.1 + 21))] rfl ?_
  unfold x3_readSign
  refine s_aload_n 0 dX3_readSign_0 rfl rfl ?_
  refine s_getR 1 dX3_readSign_1 rfl fl_3_13 rfl (S_21 hK) hx ?_
  refine s_aload_n 0 dX3_readSign_4 rfl rfl ?_
  refine s_getI dX3_readSign_5 rfl fl_3_40 (S_21 hK) ?_
  refine sm_ck (fun g1 => ?_)
  refine s_bald dX3_readSign_8 rfl (S_1 hK) g1 ?_
  refine s_istore_nL (fun v2 => [(1, .int v2), (0, .ref (X.1 + 21))]) dX3_readSign_9 rfl (by decide) (fun _ => rfl) (fun v2 => ?_)
  refine s_iload_n 0 dX3_readSign_10 rfl rfl ?_
  refine sm_ite (fun h3 => ?_) (fun h3 => ?_)
  · skip
    refine s_tin (tgt := 128) dX3_readSign_11 (by rw [h3]; decide) (by rw [h3]; decide) (by rw [h3]; rfl) rfl ?_
    refine s_aload_n 1 dX3_readSign_128 rfl rfl ?_
    refine s_iload_n 0 dX3_readSign_129 rfl rfl ?_
    refine s_putIL dX3_readSign_130 rfl fl_3_49 (S_21 hK) (fun I4 => ?_)
    refine s_aload_n 1 dX3_readSign_133 rfl rfl ?_
    refine s_dup dX3_readSign_134 rfl rfl ?_
    refine s_getI dX3_readSign_135 rfl fl_3_40 (S_21 hK) ?_
    refine s_iconst (v := 1) dX3_readSign_138 rfl cI_1 ?_
    refine s_iadd dX3_readSign_139 rfl ?_
    refine s_putIL dX3_readSign_140 rfl fl_3_40 (S_21 hK) (fun I5 => ?_)
    refine s_goto (tgt := 152) dX3_readSign_143 rfl ?_
    exact s_vret dX3_readSign_152 rfl (fun f h => h)
  refine sm_ite (fun h6 => ?_) (fun h6 => ?_)
  · skip
    refine s_tin (tgt := 146) dX3_readSign_11 (by rw [h6]; decide) (by rw [h6]; decide) (by rw [h6]; rfl) rfl ?_
    refine s_aload_n 1 dX3_readSign_146 rfl rfl ?_
    refine s_bipush (v := 29) dX3_readSign_147 rfl cB_29 ?_
    refine s_putIL dX3_readSign_149 rfl fl_3_49 (S_21 hK) (fun I7 => ?_)
    exact s_vret dX3_readSign_152 rfl (fun f h => h)
  refine sm_ite (fun h8 => ?_) (fun h8 => ?_)
  · skip
    refine s_tin (tgt := 146) dX3_readSign_11 (by rw [h8]; decide) (by rw [h8]; decide) (by rw [h8]; rfl) rfl ?_
    refine s_aload_n 1 dX3_readSign_146 rfl rfl ?_
    refine s_bipush (v := 29) dX3_readSign_147 rfl cB_29 ?_
    refine s_putIL dX3_readSign_149 rfl fl_3_49 (S_21 hK) (fun I9 => ?_)
    exact s_vret dX3_readSign_152 rfl (fun f h => h)
  refine sm_ite (fun h10 => ?_) (fun h10 => ?_)
  · skip
    refine s_tin (tgt := 128) dX3_readSign_11 (by rw [h10]; decide) (by rw [h10]; decide) (by rw [h10]; rfl) rfl ?_
    refine s_aload_n 1 dX3_readSign_128 rfl rfl ?_
    refine s_iload_n 0 dX3_readSign_129 rfl rfl ?_
    refine s_putIL dX3_readSign_130 rfl fl_3_49 (S_21 hK) (fun I11 => ?_)
    refine s_aload_n 1 dX3_readSign_133 rfl rfl ?_
    refine s_dup dX3_readSign_134 rfl rfl ?_
    refine s_getI dX3_readSign_135 rfl fl_3_40 (S_21 hK) ?_
    refine s_iconst (v := 1) dX3_readSign_138 rfl cI_1 ?_
    refine s_iadd dX3_readSign_139 rfl ?_
    refine s_putIL dX3_readSign_140 rfl fl_3_40 (S_21 hK) (fun I12 => ?_)
    refine s_goto (tgt := 152) dX3_readSign_143 rfl ?_
    exact s_vret dX3_readSign_152 rfl (fun f h => h)
  refine sm_ite (fun h13 => ?_) (fun h13 => ?_)
  · skip
    refine s_tin (tgt := 128) dX3_readSign_11 (by rw [h13]; decide) (by rw [h13]; decide) (by rw [h13]; rfl) rfl ?_
    refine s_aload_n 1 dX3_readSign_128 rfl rfl ?_
    refine s_iload_n 0 dX3_readSign_129 rfl rfl ?_
    refine s_putIL dX3_readSign_130 rfl fl_3_49 (S_21 hK) (fun I14 => ?_)
    refine s_aload_n 1 dX3_readSign_133 rfl rfl ?_
    refine s_dup dX3_readSign_134 rfl rfl ?_
    refine s_getI dX3_readSign_135 rfl fl_3_40 (S_21 hK) ?_
    refine s_iconst (v := 1) dX3_readSign_138 rfl cI_1 ?_
    refine s_iadd dX3_readSign_139 rfl ?_
    refine s_putIL dX3_readSign_140 rfl fl_3_40 (S_21 hK) (fun I15 => ?_)
    refine s_goto (tgt := 152) dX3_readSign_143 rfl ?_
    exact s_vret dX3_readSign_152 rfl (fun f h => h)
  refine sm_ite (fun h16 => ?_) (fun h16 => ?_)
  · skip
    refine s_tin (tgt := 128) dX3_readSign_11 (by rw [h16]; decide) (by rw [h16]; decide) (by rw [h16]; rfl) rfl ?_
    refine s_aload_n 1 dX3_readSign_128 rfl rfl ?_
    refine s_iload_n 0 dX3_readSign_129 rfl rfl ?_
    refine s_putIL dX3_readSign_130 rfl fl_3_49 (S_21 hK) (fun I17 => ?_)
    refine s_aload_n 1 dX3_readSign_133 rfl rfl ?_
    refine s_dup dX3_readSign_134 rfl rfl ?_
    refine s_getI dX3_readSign_135 rfl fl_3_40 (S_21 hK) ?_
    refine s_iconst (v := 1) dX3_readSign_138 rfl cI_1 ?_
    refine s_iadd dX3_readSign_139 rfl ?_
    refine s_putIL dX3_readSign_140 rfl fl_3_40 (S_21 hK) (fun I18 => ?_)
    refine s_goto (tgt := 152) dX3_readSign_143 rfl ?_
    exact s_vret dX3_readSign_152 rfl (fun f h => h)
  refine sm_ite (fun h19 => ?_) (fun h19 => ?_)
  · skip
    refine s_tin (tgt := 128) dX3_readSign_11 (by rw [h19]; decide) (by rw [h19]; decide) (by rw [h19]; rfl) rfl ?_
    refine s_aload_n 1 dX3_readSign_128 rfl rfl ?_
    refine s_iload_n 0 dX3_readSign_129 rfl rfl ?_
    refine s_putIL dX3_readSign_130 rfl fl_3_49 (S_21 hK) (fun I20 => ?_)
    refine s_aload_n 1 dX3_readSign_133 rfl rfl ?_
    refine s_dup dX3_readSign_134 rfl rfl ?_
    refine s_getI dX3_readSign_135 rfl fl_3_40 (S_21 hK) ?_
    refine s_iconst (v := 1) dX3_readSign_138 rfl cI_1 ?_
    refine s_iadd dX3_readSign_139 rfl ?_
    refine s_putIL dX3_readSign_140 rfl fl_3_40 (S_21 hK) (fun I21 => ?_)
    refine s_goto (tgt := 152) dX3_readSign_143 rfl ?_
    exact s_vret dX3_readSign_152 rfl (fun f h => h)
  refine sm_ite (fun h22 => ?_) (fun h22 => ?_)
  · skip
    refine s_tin (tgt := 146) dX3_readSign_11 (by rw [h22]; decide) (by rw [h22]; decide) (by rw [h22]; rfl) rfl ?_
    refine s_aload_n 1 dX3_readSign_146 rfl rfl ?_
    refine s_bipush (v := 29) dX3_readSign_147 rfl cB_29 ?_
    refine s_putIL dX3_readSign_149 rfl fl_3_49 (S_21 hK) (fun I23 => ?_)
    exact s_vret dX3_readSign_152 rfl (fun f h => h)
  refine sm_ite (fun h24 => ?_) (fun h24 => ?_)
  · skip
    refine s_tin (tgt := 128) dX3_readSign_11 (by rw [h24]; decide) (by rw [h24]; decide) (by rw [h24]; rfl) rfl ?_
    refine s_aload_n 1 dX3_readSign_128 rfl rfl ?_
    refine s_iload_n 0 dX3_readSign_129 rfl rfl ?_
    refine s_putIL dX3_readSign_130 rfl fl_3_49 (S_21 hK) (fun I25 => ?_)
    refine s_aload_n 1 dX3_readSign_133 rfl rfl ?_
    refine s_dup dX3_readSign_134 rfl rfl ?_
    refine s_getI dX3_readSign_135 rfl fl_3_40 (S_21 hK) ?_
    refine s_iconst (v := 1) dX3_readSign_138 rfl cI_1 ?_
    refine s_iadd dX3_readSign_139 rfl ?_
    refine s_putIL dX3_readSign_140 rfl fl_3_40 (S_21 hK) (fun I26 => ?_)
    refine s_goto (tgt := 152) dX3_readSign_143 rfl ?_
    exact s_vret dX3_readSign_152 rfl (fun f h => h)
  refine sm_ite (fun h27 => ?_) (fun h27 => ?_)
  · skip
    refine s_tin (tgt := 146) dX3_readSign_11 (by rw [h27]; decide) (by rw [h27]; decide) (by rw [h27]; rfl) rfl ?_
    refine s_aload_n 1 dX3_readSign_146 rfl rfl ?_
    refine s_bipush (v := 29) dX3_readSign_147 rfl cB_29 ?_
    refine s_putIL dX3_readSign_149 rfl fl_3_49 (S_21 hK) (fun I28 => ?_)
    exact s_vret dX3_readSign_152 rfl (fun f h => h)
  refine sm_ite (fun h29 => ?_) (fun h29 => ?_)
  · skip
    refine s_tin (tgt := 128) dX3_readSign_11 (by rw [h29]; decide) (by rw [h29]; decide) (by rw [h29]; rfl) rfl ?_
    refine s_aload_n 1 dX3_readSign_128 rfl rfl ?_
    refine s_iload_n 0 dX3_readSign_129 rfl rfl ?_
    refine s_putIL dX3_readSign_130 rfl fl_3_49 (S_21 hK) (fun I30 => ?_)
    refine s_aload_n 1 dX3_readSign_133 rfl rfl ?_
    refine s_dup dX3_readSign_134 rfl rfl ?_
    refine s_getI dX3_readSign_135 rfl fl_3_40 (S_21 hK) ?_
    refine s_iconst (v := 1) dX3_readSign_138 rfl cI_1 ?_
    refine s_iadd dX3_readSign_139 rfl ?_
    refine s_putIL dX3_readSign_140 rfl fl_3_40 (S_21 hK) (fun I31 => ?_)
    refine s_goto (tgt := 152) dX3_readSign_143 rfl ?_
    exact s_vret dX3_readSign_152 rfl (fun f h => h)
  refine sm_ite (fun h32 => ?_) (fun h32 => ?_)
  · skip
    refine s_tin (tgt := 146) dX3_readSign_11 (by rw [h32]; decide) (by rw [h32]; decide) (by rw [h32]; rfl) rfl ?_
    refine s_aload_n 1 dX3_readSign_146 rfl rfl ?_
    refine s_bipush (v := 29) dX3_readSign_147 rfl cB_29 ?_
    refine s_putIL dX3_readSign_149 rfl fl_3_49 (S_21 hK) (fun I33 => ?_)
    exact s_vret dX3_readSign_152 rfl (fun f h => h)
  refine sm_ite (fun h34 => ?_) (fun h34 => ?_)
  · skip
    refine s_tin (tgt := 146) dX3_readSign_11 (by rw [h34]; decide) (by rw [h34]; decide) (by rw [h34]; rfl) rfl ?_
    refine s_aload_n 1 dX3_readSign_146 rfl rfl ?_
    refine s_bipush (v := 29) dX3_readSign_147 rfl cB_29 ?_
    refine s_putIL dX3_readSign_149 rfl fl_3_49 (S_21 hK) (fun I35 => ?_)
    exact s_vret dX3_readSign_152 rfl (fun f h => h)
  refine sm_ite (fun h36 => ?_) (fun h36 => ?_)
  · skip
    refine s_tin (tgt := 146) dX3_readSign_11 (by rw [h36]; decide) (by rw [h36]; decide) (by rw [h36]; rfl) rfl ?_
    refine s_aload_n 1 dX3_readSign_146 rfl rfl ?_
    refine s_bipush (v := 29) dX3_readSign_147 rfl cB_29 ?_
    refine s_putIL dX3_readSign_149 rfl fl_3_49 (S_21 hK) (fun I37 => ?_)
    exact s_vret dX3_readSign_152 rfl (fun f h => h)
  refine sm_ite (fun h38 => ?_) (fun h38 => ?_)
  · skip
    refine s_tin (tgt := 146) dX3_readSign_11 (by rw [h38]; decide) (by rw [h38]; decide) (by rw [h38]; rfl) rfl ?_
    refine s_aload_n 1 dX3_readSign_146 rfl rfl ?_
    refine s_bipush (v := 29) dX3_readSign_147 rfl cB_29 ?_
    refine s_putIL dX3_readSign_149 rfl fl_3_49 (S_21 hK) (fun I39 => ?_)
    exact s_vret dX3_readSign_152 rfl (fun f h => h)
  refine sm_ite (fun h40 => ?_) (fun h40 => ?_)
  · skip
    refine s_tin (tgt := 146) dX3_readSign_11 (by rw [h40]; decide) (by rw [h40]; decide) (by rw [h40]; rfl) rfl ?_
    refine s_aload_n 1 dX3_readSign_146 rfl rfl ?_
    refine s_bipush (v := 29) dX3_readSign_147 rfl cB_29 ?_
    refine s_putIL dX3_readSign_149 rfl fl_3_49 (S_21 hK) (fun I41 => ?_)
    exact s_vret dX3_readSign_152 rfl (fun f h => h)
  refine sm_ite (fun h42 => ?_) (fun h42 => ?_)
  · skip
    refine s_tin (tgt := 146) dX3_readSign_11 (by rw [h42]; decide) (by rw [h42]; decide) (by rw [h42]; rfl) rfl ?_
    refine s_aload_n 1 dX3_readSign_146 rfl rfl ?_
    refine s_bipush (v := 29) dX3_readSign_147 rfl cB_29 ?_
    refine s_putIL dX3_readSign_149 rfl fl_3_49 (S_21 hK) (fun I43 => ?_)
    exact s_vret dX3_readSign_152 rfl (fun f h => h)
  refine sm_ite (fun h44 => ?_) (fun h44 => ?_)
  · skip
    refine s_tin (tgt := 146) dX3_readSign_11 (by rw [h44]; decide) (by rw [h44]; decide) (by rw [h44]; rfl) rfl ?_
    refine s_aload_n 1 dX3_readSign_146 rfl rfl ?_
    refine s_bipush (v := 29) dX3_readSign_147 rfl cB_29 ?_
    refine s_putIL dX3_readSign_149 rfl fl_3_49 (S_21 hK) (fun I45 => ?_)
    exact s_vret dX3_readSign_152 rfl (fun f h => h)
  refine sm_ite (fun h46 => ?_) (fun h46 => ?_)
  · skip
    refine s_tin (tgt := 146) dX3_readSign_11 (by rw [h46]; decide) (by rw [h46]; decide) (by rw [h46]; rfl) rfl ?_
    refine s_aload_n 1 dX3_readSign_146 rfl rfl ?_
    refine s_bipush (v := 29) dX3_readSign_147 rfl cB_29 ?_
    refine s_putIL dX3_readSign_149 rfl fl_3_49 (S_21 hK) (fun I47 => ?_)
    exact s_vret dX3_readSign_152 rfl (fun f h => h)
  refine sm_ite (fun h48 => ?_) (fun h48 => ?_)
  · skip
    refine s_tin (tgt := 146) dX3_readSign_11 (by rw [h48]; decide) (by rw [h48]; decide) (by rw [h48]; rfl) rfl ?_
    refine s_aload_n 1 dX3_readSign_146 rfl rfl ?_
    refine s_bipush (v := 29) dX3_readSign_147 rfl cB_29 ?_
    refine s_putIL dX3_readSign_149 rfl fl_3_49 (S_21 hK) (fun I49 => ?_)
    exact s_vret dX3_readSign_152 rfl (fun f h => h)
  refine sm_ite (fun h50 => ?_) (fun h50 => ?_)
  · skip
    refine s_tin (tgt := 146) dX3_readSign_11 (by rw [h50]; decide) (by rw [h50]; decide) (by rw [h50]; rfl) rfl ?_
    refine s_aload_n 1 dX3_readSign_146 rfl rfl ?_
    refine s_bipush (v := 29) dX3_readSign_147 rfl cB_29 ?_
    refine s_putIL dX3_readSign_149 rfl fl_3_49 (S_21 hK) (fun I51 => ?_)
    exact s_vret dX3_readSign_152 rfl (fun f h => h)
  refine sm_ite (fun h52 => ?_) (fun h52 => ?_)
  · skip
    refine s_tin (tgt := 146) dX3_readSign_11 (by rw [h52]; decide) (by rw [h52]; decide) (by rw [h52]; rfl) rfl ?_
    refine s_aload_n 1 dX3_readSign_146 rfl rfl ?_
    refine s_bipush (v := 29) dX3_readSign_147 rfl cB_29 ?_
    refine s_putIL dX3_readSign_149 rfl fl_3_49 (S_21 hK) (fun I53 => ?_)
    exact s_vret dX3_readSign_152 rfl (fun f h => h)
  refine sm_ite (fun h54 => ?_) (fun h54 => ?_)
  · skip
    refine s_tin (tgt := 128) dX3_readSign_11 (by rw [h54]; decide) (by rw [h54]; decide) (by rw [h54]; rfl) rfl ?_
    refine s_aload_n 1 dX3_readSign_128 rfl rfl ?_
    refine s_iload_n 0 dX3_readSign_129 rfl rfl ?_
    refine s_putIL dX3_readSign_130 rfl fl_3_49 (S_21 hK) (fun I55 => ?_)
    refine s_aload_n 1 dX3_readSign_133 rfl rfl ?_
    refine s_dup dX3_readSign_134 rfl rfl ?_
    refine s_getI dX3_readSign_135 rfl fl_3_40 (S_21 hK) ?_
    refine s_iconst (v := 1) dX3_readSign_138 rfl cI_1 ?_
    refine s_iadd dX3_readSign_139 rfl ?_
    refine s_putIL dX3_readSign_140 rfl fl_3_40 (S_21 hK) (fun I56 => ?_)
    refine s_goto (tgt := 152) dX3_readSign_143 rfl ?_
    exact s_vret dX3_readSign_152 rfl (fun f h => h)
  refine sm_ite (fun h57 => ?_) (fun h57 => ?_)
  · skip
    refine s_tin (tgt := 128) dX3_readSign_11 (by rw [h57]; decide) (by rw [h57]; decide) (by rw [h57]; rfl) rfl ?_
    refine s_aload_n 1 dX3_readSign_128 rfl rfl ?_
    refine s_iload_n 0 dX3_readSign_129 rfl rfl ?_
    refine s_putIL dX3_readSign_130 rfl fl_3_49 (S_21 hK) (fun I58 => ?_)
    refine s_aload_n 1 dX3_readSign_133 rfl rfl ?_
    refine s_dup dX3_readSign_134 rfl rfl ?_
    refine s_getI dX3_readSign_135 rfl fl_3_40 (S_21 hK) ?_
    refine s_iconst (v := 1) dX3_readSign_138 rfl cI_1 ?_
    refine s_iadd dX3_readSign_139 rfl ?_
    refine s_putIL dX3_readSign_140 rfl fl_3_40 (S_21 hK) (fun I59 => ?_)
    refine s_goto (tgt := 152) dX3_readSign_143 rfl ?_
    exact s_vret dX3_readSign_152 rfl (fun f h => h)
  refine sm_ite (fun h60 => ?_) (fun h60 => ?_)
  · skip
    refine s_tin (tgt := 128) dX3_readSign_11 (by rw [h60]; decide) (by rw [h60]; decide) (by rw [h60]; rfl) rfl ?_
    refine s_aload_n 1 dX3_readSign_128 rfl rfl ?_
    refine s_iload_n 0 dX3_readSign_129 rfl rfl ?_
    refine s_putIL dX3_readSign_130 rfl fl_3_49 (S_21 hK) (fun I61 => ?_)
    refine s_aload_n 1 dX3_readSign_133 rfl rfl ?_
    refine s_dup dX3_readSign_134 rfl rfl ?_
    refine s_getI dX3_readSign_135 rfl fl_3_40 (S_21 hK) ?_
    refine s_iconst (v := 1) dX3_readSign_138 rfl cI_1 ?_
    refine s_iadd dX3_readSign_139 rfl ?_
    refine s_putIL dX3_readSign_140 rfl fl_3_40 (S_21 hK) (fun I62 => ?_)
    refine s_goto (tgt := 152) dX3_readSign_143 rfl ?_
    exact s_vret dX3_readSign_152 rfl (fun f h => h)
  refine sm_ite (fun h63 => ?_) (fun h63 => ?_)
  · skip
    refine s_tin (tgt := 128) dX3_readSign_11 (by rw [h63]; decide) (by rw [h63]; decide) (by rw [h63]; rfl) rfl ?_
    refine s_aload_n 1 dX3_readSign_128 rfl rfl ?_
    refine s_iload_n 0 dX3_readSign_129 rfl rfl ?_
    refine s_putIL dX3_readSign_130 rfl fl_3_49 (S_21 hK) (fun I64 => ?_)
    refine s_aload_n 1 dX3_readSign_133 rfl rfl ?_
    refine s_dup dX3_readSign_134 rfl rfl ?_
    refine s_getI dX3_readSign_135 rfl fl_3_40 (S_21 hK) ?_
    refine s_iconst (v := 1) dX3_readSign_138 rfl cI_1 ?_
    refine s_iadd dX3_readSign_139 rfl ?_
    refine s_putIL dX3_readSign_140 rfl fl_3_40 (S_21 hK) (fun I65 => ?_)
    refine s_goto (tgt := 152) dX3_readSign_143 rfl ?_
    exact s_vret dX3_readSign_152 rfl (fun f h => h)
  have hsw : ¬ (v2).toInt = 37 ∧ ¬ (v2).toInt = 38 ∧ ¬ (v2).toInt = 39 ∧ ¬ (v2).toInt = 40 ∧ ¬ (v2).toInt = 41 ∧ ¬ (v2).toInt = 42 ∧ ¬ (v2).toInt = 43 ∧ ¬ (v2).toInt = 44 ∧ ¬ (v2).toInt = 45 ∧ ¬ (v2).toInt = 46 ∧ ¬ (v2).toInt = 47 ∧ ¬ (v2).toInt = 48 ∧ ¬ (v2).toInt = 49 ∧ ¬ (v2).toInt = 50 ∧ ¬ (v2).toInt = 51 ∧ ¬ (v2).toInt = 52 ∧ ¬ (v2).toInt = 53 ∧ ¬ (v2).toInt = 54 ∧ ¬ (v2).toInt = 55 ∧ ¬ (v2).toInt = 56 ∧ ¬ (v2).toInt = 57 ∧ ¬ (v2).toInt = 58 ∧ ¬ (v2).toInt = 59 ∧ ¬ (v2).toInt = 60 ∧ ¬ (v2).toInt = 61 ∧ ¬ (v2).toInt = 62 := ⟨lv_neT h3 (a := 37) rfl, lv_neT h6 (a := 38) rfl, lv_neT h8 (a := 39) rfl, lv_neT h10 (a := 40) rfl, lv_neT h13 (a := 41) rfl, lv_neT h16 (a := 42) rfl, lv_neT h19 (a := 43) rfl, lv_neT h22 (a := 44) rfl, lv_neT h24 (a := 45) rfl, lv_neT h27 (a := 46) rfl, lv_neT h29 (a := 47) rfl, lv_neT h32 (a := 48) rfl, lv_neT h34 (a := 49) rfl, lv_neT h36 (a := 50) rfl, lv_neT h38 (a := 51) rfl, lv_neT h40 (a := 52) rfl, lv_neT h42 (a := 53) rfl, lv_neT h44 (a := 54) rfl, lv_neT h46 (a := 55) rfl, lv_neT h48 (a := 56) rfl, lv_neT h50 (a := 57) rfl, lv_neT h52 (a := 58) rfl, lv_neT h54 (a := 59) rfl, lv_neT h57 (a := 60) rfl, lv_neT h60 (a := 61) rfl, lv_neT h63 (a := 62) rfl⟩
  refine s_tout (tgt := 146) dX3_readSign_11 (by omega) rfl ?_
  refine s_aload_n 1 dX3_readSign_146 rfl rfl ?_
  refine s_bipush (v := 29) dX3_readSign_147 rfl cB_29 ?_
  refine s_putIL dX3_readSign_149 rfl fl_3_49 (S_21 hK) (fun I66 => ?_)
  exact s_vret dX3_readSign_152 rfl (fun f h => h)
noncomputable def x3_next_L0s (rec : MI → Option (MI)) (I : MI) : Option (MI) :=
if (I 21 3) < (I 21 2) then (
ck (vp_in (I 21 3) 1600) <|
if (I 1 (ix (I 21 3))) = 32 then (
lt (wI I 21 3 ((I 21 3) + 1)) fun I2 =>
rec I2) else
ck (vp_in (I 21 3) 1600) <|
if (I 1 (ix (I 21 3))) = 10 then (
lt (wI I 21 3 ((I 21 3) + 1)) fun I4 =>
rec I4) else
some I) else
some I
noncomputable def x3_next_L0 : Nat → MI → Option (MI)
  | 0 => fun _ => none
  | n + 1 => x3_next_L0s (x3_next_L0 n)
noncomputable def x3_next (I : MI) (L : ML) : Option (MI × ML) :=
b1 (x3_next_L0 FU I) fun e5 =>
lt (wI e5 21 5 (e5 21 3)) fun I6 =>
if (I6 21 3) < (I6 21 2) then (
ck (vp_in (I6 21 3) 1600) <|
bE (
if (I6 1 (ix (I6 21 3))) < 97 then (
some (.inl (I6, L))) else
ck (vp_in (I6 21 3) 1600) <|
if 122 < (I6 1 (ix (I6 21 3))) then (
some (.inl (I6, L))) else
b2 (x3_readWord I6 L) fun I10 L11 =>
some (.inr (I10, L11))) fun e8 =>
ck (vp_in (e8.1 21 3) 1600) <|
if (e8.1 1 (ix (e8.1 21 3))) < 48 then (
b1 (x3_readSign e8.1) fun I13 =>
some (I13, e8.2)) else
ck (vp_in (e8.1 21 3) 1600) <|
if 57 < (e8.1 1 (ix (e8.1 21 3))) then (
b1 (x3_readSign e8.1) fun I15 =>
some (I15, e8.2)) else
b1 (x3_readNumber e8.1) fun I16 =>
some (I16, e8.2)) else
lt (wI I6 21 4 (28 : Int32)) fun I17 =>
some (I17, L)
theorem x3_next_L0_ok {X : WX} {n0 s0 : Nat} {L : ML} {R : MR} {S : MS} (hK : okr R S) (hx : R 21 1 = some 1) : ∀ (n : Nat) (I : MI), Sim X yX3_next cX3_next 1 none 1 21 n0 s0 0 [(0, .ref (X.1 + 21))] [] (I, L, R, S) (x3_next_L0 n I) (fun b f => Ex X yX3_next cX3_next 1 none 1 21 n0 s0 52 [(0, .ref (X.1 + 21))] [] (b, L, R, S) f) := by
  intro n
  induction n with
  | zero =>
    intro I
    exact sm_none
  | succ n ih =>
    intro I
    change Sim _ _ _ _ _ _ _ _ _ _ _ _ _ (x3_next_L0s (x3_next_L0 n) I) _
    unfold x3_next_L0s
    refine s_aload_n 0 dX3_next_0 rfl rfl ?_
    refine s_getI dX3_next_1 rfl fl_3_40 (S_21 hK) ?_
    refine s_aload_n 0 dX3_next_4 rfl rfl ?_
    refine s_getI dX3_next_5 rfl fl_3_37 (S_21 hK) ?_
    refine s_icmp_ge (tgt := 52) dX3_next_8 rfl rfl (fun _ => ?_) (fun _ => ?_)
    · skip
      exact sm_exit (fun f h => h)
    · skip
      refine s_aload_n 0 dX3_next_11 rfl rfl ?_
      refine s_getR 1 dX3_next_12 rfl fl_3_13 rfl (S_21 hK) hx ?_
      refine s_aload_n 0 dX3_next_15 rfl rfl ?_
      refine s_getI dX3_next_16 rfl fl_3_40 (S_21 hK) ?_
      refine sm_ck (fun g1 => ?_)
      refine s_bald dX3_next_19 rfl (S_1 hK) g1 ?_
      refine s_bipush (v := 32) dX3_next_20 rfl cB_32 ?_
      refine s_icmp_eq (tgt := 39) dX3_next_22 rfl rfl (fun _ => ?_) (fun _ => ?_)
      · skip
        refine s_aload_n 0 dX3_next_39 rfl rfl ?_
        refine s_dup dX3_next_40 rfl rfl ?_
        refine s_getI dX3_next_41 rfl fl_3_40 (S_21 hK) ?_
        refine s_iconst (v := 1) dX3_next_44 rfl cI_1 ?_
        refine s_iadd dX3_next_45 rfl ?_
        refine s_putIL dX3_next_46 rfl fl_3_40 (S_21 hK) (fun I2 => ?_)
        refine s_goto (tgt := 0) dX3_next_49 rfl ?_
        exact ih I2
      · skip
        refine s_aload_n 0 dX3_next_25 rfl rfl ?_
        refine s_getR 1 dX3_next_26 rfl fl_3_13 rfl (S_21 hK) hx ?_
        refine s_aload_n 0 dX3_next_29 rfl rfl ?_
        refine s_getI dX3_next_30 rfl fl_3_40 (S_21 hK) ?_
        refine sm_ck (fun g3 => ?_)
        refine s_bald dX3_next_33 rfl (S_1 hK) g3 ?_
        refine s_bipush (v := 10) dX3_next_34 rfl cB_10 ?_
        refine s_icmp_ne (tgt := 52) dX3_next_36 rfl rfl (fun _ => ?_) (fun _ => ?_)
        · skip
          exact sm_exit (fun f h => h)
        · skip
          refine s_aload_n 0 dX3_next_39 rfl rfl ?_
          refine s_dup dX3_next_40 rfl rfl ?_
          refine s_getI dX3_next_41 rfl fl_3_40 (S_21 hK) ?_
          refine s_iconst (v := 1) dX3_next_44 rfl cI_1 ?_
          refine s_iadd dX3_next_45 rfl ?_
          refine s_putIL dX3_next_46 rfl fl_3_40 (S_21 hK) (fun I4 => ?_)
          refine s_goto (tgt := 0) dX3_next_49 rfl ?_
          exact ih I4
theorem ct_x3_next {X : WX} {I : MI} {L : ML} {R : MR} {S : MS} (hK : okr R S) (hx : R 21 1 = some 1) : Ct X yX3_next cX3_next 1 none 1 21 [.ref (X.1 + 21)] (I, L, R, S) (x3_next I L) (fun r => (none, (r.1, r.2, R, S))) := by
  refine Ct.of (by decide) (Nat.le_of_ble_eq_true rfl) [(0, .ref (X.1 + 21))] rfl ?_
  unfold x3_next
  refine sm_reg (x3_next_L0_ok hK hx FU I) (fun e5 => ?_)
  refine s_aload_n 0 dX3_next_52 rfl rfl ?_
  refine s_aload_n 0 dX3_next_53 rfl rfl ?_
  refine s_getI dX3_next_54 rfl fl_3_40 (S_21 hK) ?_
  refine s_putIL dX3_next_57 rfl fl_3_46 (S_21 hK) (fun I6 => ?_)
  refine s_aload_n 0 dX3_next_60 rfl rfl ?_
  refine s_getI dX3_next_61 rfl fl_3_40 (S_21 hK) ?_
  refine s_aload_n 0 dX3_next_64 rfl rfl ?_
  refine s_getI dX3_next_65 rfl fl_3_37 (S_21 hK) ?_
  refine s_icmp_lt (tgt := 80) dX3_next_68 rfl rfl (fun _ => ?_) (fun _ => ?_)
  · skip
    refine s_aload_n 0 dX3_next_80 rfl rfl ?_
    refine s_getR 1 dX3_next_81 rfl fl_3_13 rfl (S_21 hK) hx ?_
    refine s_aload_n 0 dX3_next_84 rfl rfl ?_
    refine s_getI dX3_next_85 rfl fl_3_40 (S_21 hK) ?_
    refine sm_ck (fun g7 => ?_)
    refine s_bald dX3_next_88 rfl (S_1 hK) g7 ?_
    refine s_bipush (v := 97) dX3_next_89 rfl cB_97 ?_
    refine sm_regE (pcx := 115) (lsx := fun e8 => [(0, .ref (X.1 + 21))]) (stx := fun e8 => []) (ux := fun e8 => (e8.1, e8.2, R, S)) ?_ (fun e8 => ?_)
    · skip
      refine s_icmp_lt (tgt := 115) dX3_next_91 rfl rfl (fun _ => ?_) (fun _ => ?_)
      · skip
        exact sm_exit (fun f h => h)
      · skip
        refine s_aload_n 0 dX3_next_94 rfl rfl ?_
        refine s_getR 1 dX3_next_95 rfl fl_3_13 rfl (S_21 hK) hx ?_
        refine s_aload_n 0 dX3_next_98 rfl rfl ?_
        refine s_getI dX3_next_99 rfl fl_3_40 (S_21 hK) ?_
        refine sm_ck (fun g9 => ?_)
        refine s_bald dX3_next_102 rfl (S_1 hK) g9 ?_
        refine s_bipush (v := 122) dX3_next_103 rfl cB_122 ?_
        refine s_icmp_gt (tgt := 115) dX3_next_105 rfl rfl (fun _ => ?_) (fun _ => ?_)
        · skip
          exact sm_exit (fun f h => h)
        · skip
          refine s_aload_n 0 dX3_next_108 rfl rfl ?_
          refine s_callV0_v2 dX3_next_109 rfl lkV_RX3_52 (S_21 hK) (Nat.le_of_ble_eq_true rfl) (Nat.le_of_ble_eq_true rfl) (Nat.le_of_ble_eq_true rfl) (ct_x3_readWord hK hx) (fun I10 L11 => ?_)
          refine s_goto (tgt := 154) dX3_next_112 rfl ?_
          exact s_vret dX3_next_154 rfl (fun f h => h)
    · skip
      refine s_aload_n 0 dX3_next_115 rfl rfl ?_
      refine s_getR 1 dX3_next_116 rfl fl_3_13 rfl (S_21 hK) hx ?_
      refine s_aload_n 0 dX3_next_119 rfl rfl ?_
      refine s_getI dX3_next_120 rfl fl_3_40 (S_21 hK) ?_
      refine sm_ck (fun g12 => ?_)
      refine s_bald dX3_next_123 rfl (S_1 hK) g12 ?_
      refine s_bipush (v := 48) dX3_next_124 rfl cB_48 ?_
      refine s_icmp_lt (tgt := 150) dX3_next_126 rfl rfl (fun _ => ?_) (fun _ => ?_)
      · skip
        refine s_aload_n 0 dX3_next_150 rfl rfl ?_
        refine s_callV0_v1 dX3_next_151 rfl lkV_RX3_58 (S_21 hK) (Nat.le_of_ble_eq_true rfl) (Nat.le_of_ble_eq_true rfl) (Nat.le_of_ble_eq_true rfl) (ct_x3_readSign hK hx) (fun I13 => ?_)
        exact s_vret dX3_next_154 rfl (fun f h => h)
      · skip
        refine s_aload_n 0 dX3_next_129 rfl rfl ?_
        refine s_getR 1 dX3_next_130 rfl fl_3_13 rfl (S_21 hK) hx ?_
        refine s_aload_n 0 dX3_next_133 rfl rfl ?_
        refine s_getI dX3_next_134 rfl fl_3_40 (S_21 hK) ?_
        refine sm_ck (fun g14 => ?_)
        refine s_bald dX3_next_137 rfl (S_1 hK) g14 ?_
        refine s_bipush (v := 57) dX3_next_138 rfl cB_57 ?_
        refine s_icmp_gt (tgt := 150) dX3_next_140 rfl rfl (fun _ => ?_) (fun _ => ?_)
        · skip
          refine s_aload_n 0 dX3_next_150 rfl rfl ?_
          refine s_callV0_v1 dX3_next_151 rfl lkV_RX3_58 (S_21 hK) (Nat.le_of_ble_eq_true rfl) (Nat.le_of_ble_eq_true rfl) (Nat.le_of_ble_eq_true rfl) (ct_x3_readSign hK hx) (fun I15 => ?_)
          exact s_vret dX3_next_154 rfl (fun f h => h)
        · skip
          refine s_aload_n 0 dX3_next_143 rfl rfl ?_
          refine s_callV0_v1 dX3_next_144 rfl lkV_RX3_55 (S_21 hK) (Nat.le_of_ble_eq_true rfl) (Nat.le_of_ble_eq_true rfl) (Nat.le_of_ble_eq_true rfl) (ct_x3_readNumber hK hx) (fun I16 => ?_)
          refine s_goto (tgt := 154) dX3_next_147 rfl ?_
          exact s_vret dX3_next_154 rfl (fun f h => h)
  · skip
    refine s_aload_n 0 dX3_next_71 rfl rfl ?_
    refine s_bipush (v := 28) dX3_next_72 rfl cB_28 ?_
    refine s_putIL dX3_next_74 rfl fl_3_49 (S_21 hK) (fun I17 => ?_)
    refine s_goto (tgt := 154) dX3_next_77 rfl ?_
    exact s_vret dX3_next_154 rfl (fun f h => h)
noncomputable def x3_open (a1 : Nat) (p2 : Int32) (I : MI) (L : ML) (R : MR) (S : MS) : Option (MI × ML × MR × MS) :=
ck (okr R S) <|
lt (wR R 21 1 (some a1)) fun R2 =>
ck (S[a1]? = some (12, None)) <|
ck (okr R2 S) <|
lt (wI I 21 2 (if (Int32.ofNat None) < p2 then (Int32.ofNat None) else p2)) fun I4 =>
lt (wI I4 21 3 (0 : Int32)) fun I6 =>
ck (R2 21 1 = some 1) <|
b2 (x3_next I6 L) fun I8 L9 =>
some (I8, L9, R2, S)
theorem ct_x3_open {X : WX} {a1 : Nat} {p2 : Int32} {I : MI} {L : ML} {R : MR} {S : MS} : Ct X yX3_open cX3_open 3 none 2 41 [.ref (X.1 + 21), .ref (X.1 + a1), .int p2] (I, L, R, S) (x3_open a1 p2 I L R S) (fun r => (none, (r.1, r.2.1, r.2.2.1, r.2.2.2))) := by
  refine Ct.of (by decide) (Nat.le_of_ble_eq_true rfl) [(0, .ref (X.1 + 21)), (1, .ref (X.1 + a1)), (2, .int p2)] rfl ?_
  unfold x3_open
  refine s_aload_n 0 dX3_open_0 rfl rfl ?_
  refine s_aload_n 1 dX3_open_1 rfl rfl ?_
  refine sm_ck (fun g1 => ?_)
  refine s_putRL dX3_open_2 rfl fl_3_13 (Or.inr ⟨_, rfl⟩) (S_21 g1) (fun R2 _ => ?_)
  refine s_aload_n 0 dX3_open_5 rfl rfl ?_
  refine s_iload_n 2 dX3_open_6 rfl rfl ?_
  refine s_aload_n 1 dX3_open_7 rfl rfl ?_
  refine sm_ck (fun g3 => ?_)
  refine s_alen 0 dX3_open_8 rfl g3 (by decide) rfl rfl ?_
  refine s_mmin dX3_open_9 rfl lkw_3_31 lk_mmin (Nat.le_of_ble_eq_true rfl) (Nat.le_of_ble_eq_true rfl) (Nat.le_of_ble_eq_true rfl) ?_
  refine sm_ck (fun g5 => ?_)
  refine s_putIL dX3_open_12 rfl fl_3_37 (S_21 g5) (fun I4 => ?_)
  refine s_aload_n 0 dX3_open_15 rfl rfl ?_
  refine s_iconst (v := 0) dX3_open_16 rfl cI_0 ?_
  refine s_putIL dX3_open_17 rfl fl_3_40 (S_21 g5) (fun I6 => ?_)
  refine s_aload_n 0 dX3_open_20 rfl rfl ?_
  refine sm_ck (fun g7 => ?_)
  refine s_callV0_v2 dX3_open_21 rfl lkV_RX3_43 (S_21 g5) (Nat.le_of_ble_eq_true rfl) (Nat.le_of_ble_eq_true rfl) (Nat.le_of_ble_eq_true rfl) (ct_x3_next g5 g7) (fun I8 L9 => ?_)
  exact s_vret dX3_open_24 rfl (fun f h => h)
noncomputable def x5_fail (p1 : Int32) (I : MI) : Option (Int32 × MI) :=
if (I 21 4) = 29 then (
lt (wI I 20 8 (1 : Int32)) fun I3 =>
lt (wI I3 20 9 (I3 21 5)) fun I4 =>
some ((0 : Int32), I4)) else
lt (wI I 20 8 p1) fun I1 =>
lt (wI I1 20 9 (I1 21 5)) fun I2 =>
some ((0 : Int32), I2)
theorem ct_x5_fail {X : WX} {p1 : Int32} {I : MI} {L : ML} {R : MR} {S : MS} (hK : okr R S) : Ct X yX5_fail cX5_fail 2 (some .boolean) 0 0 [.ref (X.1 + 20), .int p1] (I, L, R, S) (x5_fail p1 I) (fun r => (some (.int r.1), (r.2, L, R, S))) := by
  refine Ct.of (by decide) (Nat.le_of_ble_eq_true rfl) [(0, .ref (X.1 + 20)), (1, .int p1)] rfl ?_
  unfold x5_fail
  refine s_aload_n 0 dX5_fail_0 rfl rfl ?_
  refine s_aload_n 0 dX5_fail_1 rfl rfl ?_
  refine s_getR 21 dX5_fail_2 rfl fl_5_12 rfl (S_20 hK) (R_20_0 hK) ?_
  refine s_getI dX5_fail_5 rfl fl_5_55 (S_21 hK) ?_
  refine s_bipush (v := 29) dX5_fail_8 rfl cB_29 ?_
  refine s_icmp_ne (tgt := 17) dX5_fail_10 rfl rfl (fun _ => ?_) (fun _ => ?_)
  · skip
    refine s_iload_n 1 dX5_fail_17 rfl rfl ?_
    refine s_putIL dX5_fail_18 rfl fl_5_48 (S_20 hK) (fun I1 => ?_)
    refine s_aload_n 0 dX5_fail_21 rfl rfl ?_
    refine s_aload_n 0 dX5_fail_22 rfl rfl ?_
    refine s_getR 21 dX5_fail_23 rfl fl_5_12 rfl (S_20 hK) (R_20_0 hK) ?_
    refine s_getI dX5_fail_26 rfl fl_5_62 (S_21 hK) ?_
    refine s_putIL dX5_fail_29 rfl fl_5_28 (S_20 hK) (fun I2 => ?_)
    refine s_iconst (v := 0) dX5_fail_32 rfl cI_0 ?_
    exact s_zret dX5_fail_33 rfl (Or.inl rfl) (fun f h => h)
  · skip
    refine s_iconst (v := 1) dX5_fail_13 rfl cI_1 ?_
    refine s_goto (tgt := 18) dX5_fail_14 rfl ?_
    refine s_putIL dX5_fail_18 rfl fl_5_48 (S_20 hK) (fun I3 => ?_)
    refine s_aload_n 0 dX5_fail_21 rfl rfl ?_
    refine s_aload_n 0 dX5_fail_22 rfl rfl ?_
    refine s_getR 21 dX5_fail_23 rfl fl_5_12 rfl (S_20 hK) (R_20_0 hK) ?_
    refine s_getI dX5_fail_26 rfl fl_5_62 (S_21 hK) ?_
    refine s_putIL dX5_fail_29 rfl fl_5_28 (S_20 hK) (fun I4 => ?_)
    refine s_iconst (v := 0) dX5_fail_32 rfl cI_0 ?_
    exact s_zret dX5_fail_33 rfl (Or.inl rfl) (fun f h => h)
noncomputable def x5_number (p1 : Int32) (p2 : Int32) (I : MI) (L : ML) : Option (Int32 × MI × ML) :=
if (I 21 4) = 27 then (
lt (I 21 6) fun v1 =>
if v1 < p1 then (
b2 (x5_fail (4 : Int32) I) fun r2 I3 =>
some ((-1 : Int32), I3, L)) else
if p2 < v1 then (
b2 (x5_fail (4 : Int32) I) fun r6 I7 =>
some ((-1 : Int32), I7, L)) else
b2 (x3_next I L) fun I4 L5 =>
some (v1, I4, L5)) else
b2 (x5_fail (2 : Int32) I) fun r8 I9 =>
some ((-1 : Int32), I9, L)
theorem ct_x5_number {X : WX} {p1 : Int32} {p2 : Int32} {I : MI} {L : ML} {R : MR} {S : MS} (hK : okr R S) (hx : R 21 1 = some 1) : Ct X yX5_number cX5_number 4 (some .int) 2 41 [.ref (X.1 + 20), .int p1, .int p2] (I, L, R, S) (x5_number p1 p2 I L) (fun r => (some (.int r.1), (r.2.1, r.2.2, R, S))) := by
  refine Ct.of (by decide) (Nat.le_of_ble_eq_true rfl) [(0, .ref (X.1 + 20)), (1, .int p1), (2, .int p2)] rfl ?_
  unfold x5_number
  refine s_aload_n 0 dX5_number_0 rfl rfl ?_
  refine s_getR 21 dX5_number_1 rfl fl_5_12 rfl (S_20 hK) (R_20_0 hK) ?_
  refine s_getI dX5_number_4 rfl fl_5_55 (S_21 hK) ?_
  refine s_bipush (v := 27) dX5_number_7 rfl cB_27 ?_
  refine s_icmp_eq (tgt := 20) dX5_number_9 rfl rfl (fun _ => ?_) (fun _ => ?_)
  · skip
    refine s_aload_n 0 dX5_number_20 rfl rfl ?_
    refine s_getR 21 dX5_number_21 rfl fl_5_12 rfl (S_20 hK) (R_20_0 hK) ?_
    refine s_getI dX5_number_24 rfl fl_5_97 (S_21 hK) ?_
    refine s_istore_nL (fun v1 => [(3, .int v1), (0, .ref (X.1 + 20)), (1, .int p1), (2, .int p2)]) dX5_number_27 rfl (by decide) (fun _ => rfl) (fun v1 => ?_)
    refine s_iload_n 0 dX5_number_28 rfl rfl ?_
    refine s_iload_n 2 dX5_number_29 rfl rfl ?_
    refine s_icmp_lt (tgt := 38) dX5_number_30 rfl rfl (fun _ => ?_) (fun _ => ?_)
    · skip
      refine s_aload_n 1 dX5_number_38 rfl rfl ?_
      refine s_iconst (v := 4) dX5_number_39 rfl cI_4 ?_
      refine s_callV1_i1 dX5_number_40 rfl lkV_RX5_66 (S_20 hK) (Nat.le_of_ble_eq_true rfl) (Nat.le_of_ble_eq_true rfl) (Nat.le_of_ble_eq_true rfl) (ct_x5_fail hK) (fun r2 I3 => ?_)
      refine s_pop dX5_number_43 rfl rfl ?_
      refine s_iconst (v := (-1)) dX5_number_44 rfl cI_m1 ?_
      exact s_iret dX5_number_45 rfl (fun f h => h)
    · skip
      refine s_iload_n 0 dX5_number_33 rfl rfl ?_
      refine s_iload_n 3 dX5_number_34 rfl rfl ?_
      refine s_icmp_le (tgt := 46) dX5_number_35 rfl rfl (fun _ => ?_) (fun _ => ?_)
      · skip
        refine s_aload_n 1 dX5_number_46 rfl rfl ?_
        refine s_getR 21 dX5_number_47 rfl fl_5_12 rfl (S_20 hK) (R_20_0 hK) ?_
        refine s_callV0_v2 dX5_number_50 rfl lkV_RX5_94 (S_21 hK) (Nat.le_of_ble_eq_true rfl) (Nat.le_of_ble_eq_true rfl) (Nat.le_of_ble_eq_true rfl) (ct_x3_next hK hx) (fun I4 L5 => ?_)
        refine s_iload_n 0 dX5_number_53 rfl rfl ?_
        exact s_iret dX5_number_54 rfl (fun f h => h)
      · skip
        refine s_aload_n 1 dX5_number_38 rfl rfl ?_
        refine s_iconst (v := 4) dX5_number_39 rfl cI_4 ?_
        refine s_callV1_i1 dX5_number_40 rfl lkV_RX5_66 (S_20 hK) (Nat.le_of_ble_eq_true rfl) (Nat.le_of_ble_eq_true rfl) (Nat.le_of_ble_eq_true rfl) (ct_x5_fail hK) (fun r6 I7 => ?_)
        refine s_pop dX5_number_43 rfl rfl ?_
        refine s_iconst (v := (-1)) dX5_number_44 rfl cI_m1 ?_
        exact s_iret dX5_number_45 rfl (fun f h => h)
  · skip
    refine s_aload_n 0 dX5_number_12 rfl rfl ?_
    refine s_iconst (v := 2) dX5_number_13 rfl cI_2 ?_
    refine s_callV1_i1 dX5_number_14 rfl lkV_RX5_66 (S_20 hK) (Nat.le_of_ble_eq_true rfl) (Nat.le_of_ble_eq_true rfl) (Nat.le_of_ble_eq_true rfl) (ct_x5_fail hK) (fun r8 I9 => ?_)
    refine s_pop dX5_number_17 rfl rfl ?_
    refine s_iconst (v := (-1)) dX5_number_18 rfl cI_m1 ?_
    exact s_iret dX5_number_19 rfl (fun f h => h)
noncomputable def x5_token (p1 : Int32) (I : MI) (L : ML) : Option (Int32 × MI × ML) :=
if (I 21 4) = p1 then (
b2 (x3_next I L) fun I1 L2 =>
some ((1 : Int32), I1, L2)) else
b2 (x5_fail (2 : Int32) I) fun r3 I4 =>
ck (r3 = 0 ∨ r3 = 1) (some (r3, I4, L))
theorem ct_x5_token {X : WX} {p1 : Int32} {I : MI} {L : ML} {R : MR} {S : MS} (hK : okr R S) (hx : R 21 1 = some 1) : Ct X yX5_token cX5_token 2 (some .boolean) 2 41 [.ref (X.1 + 20), .int p1] (I, L, R, S) (x5_token p1 I L) (fun r => (some (.int r.1), (r.2.1, r.2.2, R, S))) := by
  refine Ct.of (by decide) (Nat.le_of_ble_eq_true rfl) [(0, .ref (X.1 + 20)), (1, .int p1)] rfl ?_
  unfold x5_token
  refine s_aload_n 0 dX5_token_0 rfl rfl ?_
  refine s_getR 21 dX5_token_1 rfl fl_5_12 rfl (S_20 hK) (R_20_0 hK) ?_
  refine s_getI dX5_token_4 rfl fl_5_55 (S_21 hK) ?_
  refine s_iload_n 1 dX5_token_7 rfl rfl ?_
  refine s_icmp_eq (tgt := 17) dX5_token_8 rfl rfl (fun _ => ?_) (fun _ => ?_)
  · skip
    refine s_aload_n 0 dX5_token_17 rfl rfl ?_
    refine s_getR 21 dX5_token_18 rfl fl_5_12 rfl (S_20 hK) (R_20_0 hK) ?_
    refine s_callV0_v2 dX5_token_21 rfl lkV_RX5_94 (S_21 hK) (Nat.le_of_ble_eq_true rfl) (Nat.le_of_ble_eq_true rfl) (Nat.le_of_ble_eq_true rfl) (ct_x3_next hK hx) (fun I1 L2 => ?_)
    refine s_iconst (v := 1) dX5_token_24 rfl cI_1 ?_
    exact s_zret dX5_token_25 rfl (Or.inr rfl) (fun f h => h)
  · skip
    refine s_aload_n 0 dX5_token_11 rfl rfl ?_
    refine s_iconst (v := 2) dX5_token_12 rfl cI_2 ?_
    refine s_callV1_i1 dX5_token_13 rfl lkV_RX5_66 (S_20 hK) (Nat.le_of_ble_eq_true rfl) (Nat.le_of_ble_eq_true rfl) (Nat.le_of_ble_eq_true rfl) (ct_x5_fail hK) (fun r3 I4 => ?_)
    refine sm_ck (fun g5 => ?_)
    exact s_zret dX5_token_16 rfl g5 (fun f h => h)
noncomputable def x5_numberBehind (p1 : Int32) (p2 : Int32) (p3 : Int32) (I : MI) (L : ML) : Option (Int32 × MI × ML) :=
b3 (x5_token p1 I L) fun r1 I2 L3 =>
if r1 = 0 then (
some ((-1 : Int32), I2, L3)) else
b3 (x5_number p2 p3 I2 L3) fun r4 I5 L6 =>
some (r4, I5, L6)
theorem ct_x5_numberBehind {X : WX} {p1 : Int32} {p2 : Int32} {p3 : Int32} {I : MI} {L : ML} {R : MR} {S : MS} (hK : okr R S) (hx : R 21 1 = some 1) : Ct X yX5_numberBehind cX5_numberBehind 4 (some .int) 3 64 [.ref (X.1 + 20), .int p1, .int p2, .int p3] (I, L, R, S) (x5_numberBehind p1 p2 p3 I L) (fun r => (some (.int r.1), (r.2.1, r.2.2, R, S))) := by
  refine Ct.of (by decide) (Nat.le_of_ble_eq_true rfl) [(0, .ref (X.1 + 20)), (1, .int p1), (2, .int p2), (3, .int p3)] rfl ?_
  unfold x5_numberBehind
  refine s_aload_n 0 dX5_numberBehind_0 rfl rfl ?_
  refine s_iload_n 1 dX5_numberBehind_1 rfl rfl ?_
  refine s_callV1_i2 dX5_numberBehind_2 rfl lkV_RX5_73 (S_20 hK) (Nat.le_of_ble_eq_true rfl) (Nat.le_of_ble_eq_true rfl) (Nat.le_of_ble_eq_true rfl) (ct_x5_token hK hx) (fun r1 I2 L3 => ?_)
  refine s_if_eq (tgt := 17) dX5_numberBehind_5 rfl rfl (fun _ => ?_) (fun _ => ?_)
  · skip
    refine s_iconst (v := (-1)) dX5_numberBehind_17 rfl cI_m1 ?_
    exact s_iret dX5_numberBehind_18 rfl (fun f h => h)
  · skip
    refine s_aload_n 0 dX5_numberBehind_8 rfl rfl ?_
    refine s_iload_n 2 dX5_numberBehind_9 rfl rfl ?_
    refine s_iload_n 3 dX5_numberBehind_10 rfl rfl ?_
    refine s_callV2_i2 dX5_numberBehind_11 rfl lkV_RX5_100 (S_20 hK) (Nat.le_of_ble_eq_true rfl) (Nat.le_of_ble_eq_true rfl) (Nat.le_of_ble_eq_true rfl) (ct_x5_number hK hx) (fun r4 I5 L6 => ?_)
    refine s_goto (tgt := 18) dX5_numberBehind_14 rfl ?_
    exact s_iret dX5_numberBehind_18 rfl (fun f h => h)
noncomputable def x5_tubLine (r : Nat) (I : MI) (L : ML) : Option (Int32 × MI × ML) :=
b2 (x3_next I L) fun I1 L2 =>
b3 (x5_number (1 : Int32) (6 : Int32) I1 L2) fun r3 I4 L5 =>
lt r3 fun v6 =>
if v6 = (-1) then (
some ((0 : Int32), I4, L5)) else
lt (wI I4 r 0 v6) fun I7 =>
b3 (x5_numberBehind (1 : Int32) (1 : Int32) (6 : Int32) I7 L5) fun r8 I9 L10 =>
lt (wI I9 r 1 r8) fun I11 =>
if (I11 r 1) = (-1) then (
some ((0 : Int32), I11, L10)) else
some ((1 : Int32), I11, L10)
theorem ct_x5_tubLine {X : WX} {r : Nat} {I : MI} {L : ML} {R : MR} {S : MS} (hK : okr R S) (hr : R 20 4 = some r ∧ isT r) (hx : R 21 1 = some 1) : Ct X yX5_tubLine cX5_tubLine 2 (some .boolean) 4 87 [.ref (X.1 + 20)] (I, L, R, S) (x5_tubLine r I L) (fun r => (some (.int r.1), (r.2.1, r.2.2, R, S))) := by
  refine Ct.of (by decide) (Nat.le_of_ble_eq_true rfl) [(0, .ref (X.1 + 20))] rfl ?_
  unfold x5_tubLine
  refine s_aload_n 0 dX5_tubLine_0 rfl rfl ?_
  refine s_getR 21 dX5_tubLine_1 rfl fl_5_12 rfl (S_20 hK) (R_20_0 hK) ?_
  refine s_callV0_v2 dX5_tubLine_4 rfl lkV_RX5_94 (S_21 hK) (Nat.le_of_ble_eq_true rfl) (Nat.le_of_ble_eq_true rfl) (Nat.le_of_ble_eq_true rfl) (ct_x3_next hK hx) (fun I1 L2 => ?_)
  refine s_aload_n 0 dX5_tubLine_7 rfl rfl ?_
  refine s_iconst (v := 1) dX5_tubLine_8 rfl cI_1 ?_
  refine s_bipush (v := 6) dX5_tubLine_9 rfl cB_6 ?_
  refine s_callV2_i2 dX5_tubLine_11 rfl lkV_RX5_100 (S_20 hK) (Nat.le_of_ble_eq_true rfl) (Nat.le_of_ble_eq_true rfl) (Nat.le_of_ble_eq_true rfl) (ct_x5_number hK hx) (fun r3 I4 L5 => ?_)
  refine s_istore_nL (fun v6 => [(1, .int v6), (0, .ref (X.1 + 20))]) dX5_tubLine_14 rfl (by decide) (fun _ => rfl) (fun v6 => ?_)
  refine s_iload_n 0 dX5_tubLine_15 rfl rfl ?_
  refine s_iconst (v := (-1)) dX5_tubLine_16 rfl cI_m1 ?_
  refine s_icmp_ne (tgt := 22) dX5_tubLine_17 rfl rfl (fun _ => ?_) (fun _ => ?_)
  · skip
    refine s_aload_n 1 dX5_tubLine_22 rfl rfl ?_
    refine s_getR r dX5_tubLine_23 rfl fl_5_32 rfl (S_20 hK) hr.1 ?_
    refine s_iload_n 0 dX5_tubLine_26 rfl rfl ?_
    refine s_putIL dX5_tubLine_27 rfl fl_5_63 (tS_0 hK hr.2) (fun I7 => ?_)
    refine s_aload_n 1 dX5_tubLine_30 rfl rfl ?_
    refine s_getR r dX5_tubLine_31 rfl fl_5_32 rfl (S_20 hK) hr.1 ?_
    refine s_aload_n 1 dX5_tubLine_34 rfl rfl ?_
    refine s_iconst (v := 1) dX5_tubLine_35 rfl cI_1 ?_
    refine s_iconst (v := 1) dX5_tubLine_36 rfl cI_1 ?_
    refine s_bipush (v := 6) dX5_tubLine_37 rfl cB_6 ?_
    refine s_callV3_i2 dX5_tubLine_39 rfl lkV_RX5_111 (S_20 hK) (Nat.le_of_ble_eq_true rfl) (Nat.le_of_ble_eq_true rfl) (Nat.le_of_ble_eq_true rfl) (ct_x5_numberBehind hK hx) (fun r8 I9 L10 => ?_)
    refine s_putIL dX5_tubLine_42 rfl fl_5_115 (tS_0 hK hr.2) (fun I11 => ?_)
    refine s_aload_n 1 dX5_tubLine_45 rfl rfl ?_
    refine s_getR r dX5_tubLine_46 rfl fl_5_32 rfl (S_20 hK) hr.1 ?_
    refine s_getI dX5_tubLine_49 rfl fl_5_115 (tS_0 hK hr.2) ?_
    refine s_iconst (v := (-1)) dX5_tubLine_52 rfl cI_m1 ?_
    refine s_icmp_eq (tgt := 60) dX5_tubLine_53 rfl rfl (fun _ => ?_) (fun _ => ?_)
    · skip
      refine s_iconst (v := 0) dX5_tubLine_60 rfl cI_0 ?_
      exact s_zret dX5_tubLine_61 rfl (Or.inl rfl) (fun f h => h)
    · skip
      refine s_iconst (v := 1) dX5_tubLine_56 rfl cI_1 ?_
      refine s_goto (tgt := 61) dX5_tubLine_57 rfl ?_
      exact s_zret dX5_tubLine_61 rfl (Or.inr rfl) (fun f h => h)
  · skip
    refine s_iconst (v := 0) dX5_tubLine_20 rfl cI_0 ?_
    exact s_zret dX5_tubLine_21 rfl (Or.inl rfl) (fun f h => h)
