noncomputable def x7_copyAll (q0 : Nat) (q1 : Nat) (I : MI) : Option (MI) :=
b1 (x7_copyPlay q0 q1 I) fun I1 =>
lt (cpI I1 (q1 + 11) (q0 + 11) 0 0 60) fun I2 =>
some I2
theorem ct_x7_copyAll {X : WX} {q0 : Nat} {q1 : Nat} {I : MI} {L : ML} {R : MR} {S : MS} (hK : okr R S) (hq0 : isSt R S q0) (hq1 : isSt R S q1) : Ct X yX7_copyAll cX7_copyAll 2 none 2 81 [.ref (X.1 + q0), .ref (X.1 + q1)] (I, L, R, S) (x7_copyAll q0 q1 I) (fun r => (none, (r, L, R, S))) := by
  refine Ct.of (by decide) (Nat.le_of_ble_eq_true rfl) [(0, .ref (X.1 + q0)), (1, .ref (X.1 + q1))] rfl ?_
  unfold x7_copyAll
  refine s_aload_n 0 dX7_copyAll_0 rfl rfl ?_
  refine s_aload_n 1 dX7_copyAll_1 rfl rfl ?_
  refine s_callV1_v1 dX7_copyAll_2 rfl lkV_RX7_72 (qS_0 hq0) (Nat.le_of_ble_eq_true rfl) (Nat.le_of_ble_eq_true rfl) (Nat.le_of_ble_eq_true rfl) (ct_x7_copyPlay hK hq0 hq1) (fun I1 => ?_)
  refine s_aload_n 1 dX7_copyAll_5 rfl rfl ?_
  refine s_getR (q1 + 11) dX7_copyAll_6 rfl fl_7_42 rfl (qS_0 hq1) (qR_10 hq1) ?_
  refine s_iconst (v := 0) dX7_copyAll_9 rfl cI_0 ?_
  refine s_aload_n 0 dX7_copyAll_10 rfl rfl ?_
  refine s_getR (q0 + 11) dX7_copyAll_11 rfl fl_7_42 rfl (qS_0 hq0) (qR_10 hq0) ?_
  refine s_iconst (v := 0) dX7_copyAll_14 rfl cI_0 ?_
  refine s_aload_n 0 dX7_copyAll_15 rfl rfl ?_
  refine s_getR (q0 + 11) dX7_copyAll_16 rfl fl_7_42 rfl (qS_0 hq0) (qR_10 hq0) ?_
  refine s_alen 1 (v := 60) dX7_copyAll_19 rfl (qS_11 hq0) (by decide) rfl rfl ?_
  refine s_copyiL dX7_copyAll_20 rfl lkw_7_48 lk_copy (qS_11 hq1) (qS_11 hq0) (by decide) (by decide) (by decide) (Nat.le_of_ble_eq_true rfl) (Nat.le_of_ble_eq_true rfl) (Nat.le_of_ble_eq_true rfl) (Nat.le_of_ble_eq_true rfl) (Nat.le_of_ble_eq_true rfl) (fun I2 => ?_)
  exact s_vret dX7_copyAll_23 rfl (fun f h => h)
noncomputable def x2_start (q1 : Nat) (I : MI) (L : ML) (R : MR) (S : MS) : Option (MI × ML × MR × MS) :=
ck (okr R S) <|
lt (wI I 59 1 (0 : Int32)) fun I2 =>
lt (wI I2 59 2 (0 : Int32)) fun I3 =>
lt (wI I3 59 3 (0 : Int32)) fun I4 =>
b5 (x2_atHand I4 L R S) fun q_5 I6 L7 R8 S9 =>
ck (isSt R8 S9 q_5) <|
ck (isSt R8 S9 q1) <|
ck (okr R8 S9) <|
ck (S9[q_5]? = some (7, 12)) <|
b1 (x7_copyAll q_5 q1 I6) fun I13 =>
some (I13, L7, R8, S9)
theorem ct_x2_start {X : WX} {q1 : Nat} {I : MI} {L : ML} {R : MR} {S : MS} : Ct X yX2_start cX2_start 2 none 3 102 [.ref (X.1 + 59), .ref (X.1 + q1)] (I, L, R, S) (x2_start q1 I L R S) (fun r => (none, (r.1, r.2.1, r.2.2.1, r.2.2.2))) := by
  refine Ct.of (by decide) (Nat.le_of_ble_eq_true rfl) [(0, .ref (X.1 + 59)), (1, .ref (X.1 + q1))] rfl ?_
  unfold x2_start
  refine s_aload_n 0 dX2_start_0 rfl rfl ?_
  refine s_iconst (v := 0) dX2_start_1 rfl cI_0 ?_
  refine sm_ck (fun g1 => ?_)
  refine s_putIL dX2_start_2 rfl fl_2_15 (S_59 g1) (fun I2 => ?_)
  refine s_aload_n 0 dX2_start_5 rfl rfl ?_
  refine s_iconst (v := 0) dX2_start_6 rfl cI_0 ?_
  refine s_putIL dX2_start_7 rfl fl_2_19 (S_59 g1) (fun I3 => ?_)
  refine s_aload_n 0 dX2_start_10 rfl rfl ?_
  refine s_iconst (v := 0) dX2_start_11 rfl cI_0 ?_
  refine s_putIL dX2_start_12 rfl fl_2_22 (S_59 g1) (fun I4 => ?_)
  refine s_aload_n 0 dX2_start_15 rfl rfl ?_
  refine s_callV0_r3 dX2_start_16 rfl lkV_RX2_25 (S_59 g1) (Nat.le_of_ble_eq_true rfl) (Nat.le_of_ble_eq_true rfl) (Nat.le_of_ble_eq_true rfl) ct_x2_atHand (fun q_5 I6 L7 R8 S9 => ?_)
  refine s_aload_n 1 dX2_start_19 rfl rfl ?_
  refine sm_ck (fun g10 => ?_)
  refine sm_ck (fun g11 => ?_)
  refine sm_ck (fun g12 => ?_)
  refine sm_ck (fun g14 => ?_)
  refine s_callV1_v1 dX2_start_20 rfl lkV_RX2_29 g14 (Nat.le_of_ble_eq_true rfl) (Nat.le_of_ble_eq_true rfl) (Nat.le_of_ble_eq_true rfl) (ct_x7_copyAll g12 g10 g11) (fun I13 => ?_)
  exact s_vret dX2_start_23 rfl (fun f h => h)
noncomputable def x10_init (o0 : Nat) (I : MI) (L : ML) (R : MR) (S : MS) : Option (MI × ML × MR × MS) :=
al (12, 1600) I L R S fun o_1 I2 L3 R4 S5 =>
ck (S5[o0]? = some (10, 15)) <|
lt (wR R4 o0 0 (some o_1)) fun R7 =>
al (8, 20) I2 L3 R7 S5 fun o_8 I9 L10 R11 S12 =>
b4 (x8_init o_8 I9 L10 R11 S12) fun I13 L14 R15 S16 =>
ck (S16[o0]? = some (10, 15)) <|
lt (wR R15 o0 2 (some o_8)) fun R18 =>
al (5, 10) I13 L14 R18 S16 fun o_19 I20 L21 R22 S23 =>
ck (S23[o0]? = some (10, 15)) <|
b1 (R22 o0 2) fun o_24 =>
b4 (x5_init o_19 o_24 I20 L21 R22 S23) fun I27 L28 R29 S30 =>
ck (S30[o0]? = some (10, 15)) <|
lt (wR R29 o0 3 (some o_19)) fun R32 =>
al (1, 4) I27 L28 R32 S30 fun o_33 I34 L35 R36 S37 =>
al (8, 20) I34 L35 R36 S37 fun o_38 I39 L40 R41 S42 =>
b4 (x8_init o_38 I39 L40 R41 S42) fun I43 L44 R45 S46 =>
b4 (x1_init o_33 o_38 I43 L44 R45 S46) fun I47 L48 R49 S50 =>
ck (S50[o0]? = some (10, 15)) <|
lt (wR R49 o0 4 (some o_33)) fun R52 =>
al (7, 12) I47 L48 R52 S50 fun o_53 I54 L55 R56 S57 =>
b4 (x7_init o_53 I54 L55 R56 S57) fun I58 L59 R60 S61 =>
ck (S61[o0]? = some (10, 15)) <|
lt (wR R60 o0 5 (some o_53)) fun R63 =>
al (2, 4) I58 L59 R63 S61 fun o_64 I65 L66 R67 S68 =>
b4 (x2_init o_64 I65 L66 R67 S68) fun I69 L70 R71 S72 =>
ck (S72[o0]? = some (10, 15)) <|
lt (wR R71 o0 6 (some o_64)) fun R74 =>
al (16, 3) I69 L70 R74 S72 fun o_75 I76 L77 R78 S79 =>
ck (S79[o0]? = some (10, 15)) <|
lt (wR R78 o0 7 (some o_75)) fun R81 =>
al (15, 3) I76 L77 R81 S79 fun o_82 I83 L84 R85 S86 =>
ck (S86[o0]? = some (10, 15)) <|
lt (wR R85 o0 8 (some o_82)) fun R88 =>
al (6, 11) I83 L84 R88 S86 fun o_89 I90 L91 R92 S93 =>
ck (S93[o0]? = some (10, 15)) <|
b1 (R92 o0 4) fun o_94 =>
b4 (x6_init o_89 o_94 I90 L91 R92 S93) fun I97 L98 R99 S100 =>
ck (S100[o0]? = some (10, 15)) <|
lt (wR R99 o0 9 (some o_89)) fun R102 =>
al (9, 11) I97 L98 R102 S100 fun o_103 I104 L105 R106 S107 =>
ck (S107[o0]? = some (10, 15)) <|
b1 (R106 o0 4) fun o_108 =>
b4 (x9_init o_103 o_108 I104 L105 R106 S107) fun I111 L112 R113 S114 =>
ck (S114[o0]? = some (10, 15)) <|
lt (wR R113 o0 10 (some o_103)) fun R116 =>
al (4, 7) I111 L112 R116 S114 fun o_117 I118 L119 R120 S121 =>
ck (S121[o0]? = some (10, 15)) <|
b1 (R120 o0 10) fun o_122 =>
b4 (x4_init o_117 o_122 I118 L119 R120 S121) fun I125 L126 R127 S128 =>
ck (S128[o0]? = some (10, 15)) <|
lt (wR R127 o0 11 (some o_117)) fun R130 =>
al (13, 36) I125 L126 R130 S128 fun o_131 I132 L133 R134 S135 =>
ck (S135[o0]? = some (10, 15)) <|
lt (wR R134 o0 13 (some o_131)) fun R137 =>
b1 (R137 o0 5) fun o_138 =>
b1 (R137 o0 4) fun o_140 =>
ck (S135[o_140]? = some (1, 4)) <|
b1 (R137 o_140 0) fun o_142 =>
ck (isSt R137 S135 o_138) <|
ck (isT o_142) <|
ck (okr R137 S135) <|
ck (S135[o_138]? = some (7, 12)) <|
b1 (x7_begin o_138 o_142 I132) fun I148 =>
b1 (R137 o0 6) fun o_150 =>
ck (o_150 = 59) <|
b4 (x2_start o_138 I148 L133 R137 S135) fun I153 L154 R155 S156 =>
some (I153, L154, R155, S156)
theorem ct_x10_init {X : WX} {o0 : Nat} {I : MI} {L : ML} {R : MR} {S : MS} : Ct X yX10_init cX10_init 1 none 6 131 [.ref (X.1 + o0)] (I, L, R, S) (x10_init o0 I L R S) (fun r => (none, (r.1, r.2.1, r.2.2.1, r.2.2.2))) := by
  refine Ct.of (by decide) (Nat.le_of_ble_eq_true rfl) [(0, .ref (X.1 + o0))] rfl ?_
  unfold x10_init
  refine s_aload_n 0 dX10_init_0 rfl rfl ?_
  refine s_oinit dX10_init_1 rfl lko_10_3 lk_o1 lk_o2 (Nat.le_of_ble_eq_true rfl) (Nat.le_of_ble_eq_true rfl) (Nat.le_of_ble_eq_true rfl) ?_
  refine s_aload_n 0 dX10_init_4 rfl rfl ?_
  refine s_sipush (v := 1600) dX10_init_5 rfl cS_1600 ?_
  refine s_newBL dX10_init_8 rfl ac_B (by decide) rfl (by decide) (fun o_1 I2 L3 R4 S5 => ?_)
  refine sm_ck (fun g6 => ?_)
  refine s_putRFL dX10_init_10 rfl fl_10_9 rfl ⟨_, _, rfl⟩ (Or.inr ⟨_, rfl⟩) g6 (fun R7 => ?_)
  refine s_aload_n 0 dX10_init_13 rfl rfl ?_
  refine s_newL dX10_init_14 rfl nl_10_13 (fun o_8 I9 L10 R11 S12 => ?_)
  refine s_dup dX10_init_17 rfl rfl ?_
  refine s_callI0_v3 dX10_init_18 rfl lkI_RX10_15 (Nat.le_of_ble_eq_true rfl) (Nat.le_of_ble_eq_true rfl) (Nat.le_of_ble_eq_true rfl) ct_x8_init (fun I13 L14 R15 S16 => ?_)
  refine sm_ck (fun g17 => ?_)
  refine s_putRL dX10_init_21 rfl fl_10_16 (Or.inl ⟨_, rfl⟩) g17 (fun R18 _ => ?_)
  refine s_aload_n 0 dX10_init_24 rfl rfl ?_
  refine s_newL dX10_init_25 rfl nl_10_20 (fun o_19 I20 L21 R22 S23 => ?_)
  refine s_dup dX10_init_28 rfl rfl ?_
  refine s_aload_n 0 dX10_init_29 rfl rfl ?_
  refine sm_ck (fun g26 => ?_)
  refine sm_b1 (fun o_24 h25 => ?_)
  refine s_getR o_24 dX10_init_30 rfl fl_10_16 rfl g26 h25 ?_
  refine s_callI1_v3 dX10_init_33 rfl lkI_RX10_22 (Nat.le_of_ble_eq_true rfl) (Nat.le_of_ble_eq_true rfl) (Nat.le_of_ble_eq_true rfl) ct_x5_init (fun I27 L28 R29 S30 => ?_)
  refine sm_ck (fun g31 => ?_)
  refine s_putRFL dX10_init_36 rfl fl_10_25 rfl ⟨_, _, rfl⟩ (Or.inl ⟨_, rfl⟩) g31 (fun R32 => ?_)
  refine s_aload_n 0 dX10_init_39 rfl rfl ?_
  refine s_newL dX10_init_40 rfl nl_10_29 (fun o_33 I34 L35 R36 S37 => ?_)
  refine s_dup dX10_init_43 rfl rfl ?_
  refine s_newL dX10_init_44 rfl nl_10_13 (fun o_38 I39 L40 R41 S42 => ?_)
  refine s_dup dX10_init_47 rfl rfl ?_
  refine s_callI0_v3 dX10_init_48 rfl lkI_RX10_15 (Nat.le_of_ble_eq_true rfl) (Nat.le_of_ble_eq_true rfl) (Nat.le_of_ble_eq_true rfl) ct_x8_init (fun I43 L44 R45 S46 => ?_)
  refine s_callI1_v3 dX10_init_51 rfl lkI_RX10_31 (Nat.le_of_ble_eq_true rfl) (Nat.le_of_ble_eq_true rfl) (Nat.le_of_ble_eq_true rfl) ct_x1_init (fun I47 L48 R49 S50 => ?_)
  refine sm_ck (fun g51 => ?_)
  refine s_putRFL dX10_init_54 rfl fl_10_32 rfl ⟨_, _, rfl⟩ (Or.inl ⟨_, rfl⟩) g51 (fun R52 => ?_)
  refine s_aload_n 0 dX10_init_57 rfl rfl ?_
  refine s_newL dX10_init_58 rfl nl_10_36 (fun o_53 I54 L55 R56 S57 => ?_)
  refine s_dup dX10_init_61 rfl rfl ?_
  refine s_callI0_v3 dX10_init_62 rfl lkI_RX10_38 (Nat.le_of_ble_eq_true rfl) (Nat.le_of_ble_eq_true rfl) (Nat.le_of_ble_eq_true rfl) ct_x7_init (fun I58 L59 R60 S61 => ?_)
  refine sm_ck (fun g62 => ?_)
  refine s_putRFL dX10_init_65 rfl fl_10_39 rfl ⟨_, _, rfl⟩ (Or.inl ⟨_, rfl⟩) g62 (fun R63 => ?_)
  refine s_aload_n 0 dX10_init_68 rfl rfl ?_
  refine s_newL dX10_init_69 rfl nl_10_43 (fun o_64 I65 L66 R67 S68 => ?_)
  refine s_dup dX10_init_72 rfl rfl ?_
  refine s_callI0_v3 dX10_init_73 rfl lkI_RX10_45 (Nat.le_of_ble_eq_true rfl) (Nat.le_of_ble_eq_true rfl) (Nat.le_of_ble_eq_true rfl) ct_x2_init (fun I69 L70 R71 S72 => ?_)
  refine sm_ck (fun g73 => ?_)
  refine s_putRFL dX10_init_76 rfl fl_10_46 rfl ⟨_, _, rfl⟩ (Or.inl ⟨_, rfl⟩) g73 (fun R74 => ?_)
  refine s_aload_n 0 dX10_init_79 rfl rfl ?_
  refine s_iconst (v := 3) dX10_init_80 rfl cI_3 ?_
  refine s_newQL dX10_init_81 rfl cl_10_36 (by decide) rfl (by decide) (fun o_75 I76 L77 R78 S79 => ?_)
  refine sm_ck (fun g80 => ?_)
  refine s_putRFL dX10_init_84 rfl fl_10_50 rfl ⟨_, _, rfl⟩ (Or.inr ⟨_, rfl⟩) g80 (fun R81 => ?_)
  refine s_aload_n 0 dX10_init_87 rfl rfl ?_
  refine s_iconst (v := 3) dX10_init_88 rfl cI_3 ?_
  refine s_newZL dX10_init_89 rfl ac_Z (by decide) rfl (by decide) (fun o_82 I83 L84 R85 S86 => ?_)
  refine sm_ck (fun g87 => ?_)
  refine s_putRFL dX10_init_91 rfl fl_10_54 rfl ⟨_, _, rfl⟩ (Or.inr ⟨_, rfl⟩) g87 (fun R88 => ?_)
  refine s_aload_n 0 dX10_init_94 rfl rfl ?_
  refine s_newL dX10_init_95 rfl nl_10_58 (fun o_89 I90 L91 R92 S93 => ?_)
  refine s_dup dX10_init_98 rfl rfl ?_
  refine s_aload_n 0 dX10_init_99 rfl rfl ?_
  refine sm_ck (fun g96 => ?_)
  refine sm_b1 (fun o_94 h95 => ?_)
  refine s_getR o_94 dX10_init_100 rfl fl_10_32 rfl g96 h95 ?_
  refine s_callI1_v3 dX10_init_103 rfl lkI_RX10_60 (Nat.le_of_ble_eq_true rfl) (Nat.le_of_ble_eq_true rfl) (Nat.le_of_ble_eq_true rfl) ct_x6_init (fun I97 L98 R99 S100 => ?_)
  refine sm_ck (fun g101 => ?_)
  refine s_putRFL dX10_init_106 rfl fl_10_63 rfl ⟨_, _, rfl⟩ (Or.inl ⟨_, rfl⟩) g101 (fun R102 => ?_)
  refine s_aload_n 0 dX10_init_109 rfl rfl ?_
  refine s_newL dX10_init_110 rfl nl_10_67 (fun o_103 I104 L105 R106 S107 => ?_)
  refine s_dup dX10_init_113 rfl rfl ?_
  refine s_aload_n 0 dX10_init_114 rfl rfl ?_
  refine sm_ck (fun g110 => ?_)
  refine sm_b1 (fun o_108 h109 => ?_)
  refine s_getR o_108 dX10_init_115 rfl fl_10_32 rfl g110 h109 ?_
  refine s_callI1_v3 dX10_init_118 rfl lkI_RX10_69 (Nat.le_of_ble_eq_true rfl) (Nat.le_of_ble_eq_true rfl) (Nat.le_of_ble_eq_true rfl) ct_x9_init (fun I111 L112 R113 S114 => ?_)
  refine sm_ck (fun g115 => ?_)
  refine s_putRFL dX10_init_121 rfl fl_10_70 rfl ⟨_, _, rfl⟩ (Or.inl ⟨_, rfl⟩) g115 (fun R116 => ?_)
  refine s_aload_n 0 dX10_init_124 rfl rfl ?_
  refine s_newL dX10_init_125 rfl nl_10_74 (fun o_117 I118 L119 R120 S121 => ?_)
  refine s_dup dX10_init_128 rfl rfl ?_
  refine s_aload_n 0 dX10_init_129 rfl rfl ?_
  refine sm_ck (fun g124 => ?_)
  refine sm_b1 (fun o_122 h123 => ?_)
  refine s_getR o_122 dX10_init_130 rfl fl_10_70 rfl g124 h123 ?_
  refine s_callI1_v3 dX10_init_133 rfl lkI_RX10_76 (Nat.le_of_ble_eq_true rfl) (Nat.le_of_ble_eq_true rfl) (Nat.le_of_ble_eq_true rfl) ct_x4_init (fun I125 L126 R127 S128 => ?_)
  refine sm_ck (fun g129 => ?_)
  refine s_putRFL dX10_init_136 rfl fl_10_79 rfl ⟨_, _, rfl⟩ (Or.inl ⟨_, rfl⟩) g129 (fun R130 => ?_)
  refine s_aload_n 0 dX10_init_139 rfl rfl ?_
  refine s_bipush (v := 36) dX10_init_140 rfl cB_36 ?_
  refine s_newIL dX10_init_142 rfl ac_I (by decide) rfl (by decide) (fun o_131 I132 L133 R134 S135 => ?_)
  refine sm_ck (fun g136 => ?_)
  refine s_putRFL dX10_init_144 rfl fl_10_83 rfl ⟨_, _, rfl⟩ (Or.inr ⟨_, rfl⟩) g136 (fun R137 => ?_)
  refine s_aload_n 0 dX10_init_147 rfl rfl ?_
  refine sm_b1 (fun o_138 h139 => ?_)
  refine s_getR o_138 dX10_init_148 rfl fl_10_39 rfl g136 h139 ?_
  refine s_aload_n 0 dX10_init_151 rfl rfl ?_
  refine sm_b1 (fun o_140 h141 => ?_)
  refine s_getR o_140 dX10_init_152 rfl fl_10_32 rfl g136 h141 ?_
  refine sm_ck (fun g144 => ?_)
  refine sm_b1 (fun o_142 h143 => ?_)
  refine s_getR o_142 dX10_init_155 rfl fl_10_87 rfl g144 h143 ?_
  refine sm_ck (fun g145 => ?_)
  refine sm_ck (fun g146 => ?_)
  refine sm_ck (fun g147 => ?_)
  refine sm_ck (fun g149 => ?_)
  refine s_callV1_v1 dX10_init_158 rfl lkV_RX10_90 g149 (Nat.le_of_ble_eq_true rfl) (Nat.le_of_ble_eq_true rfl) (Nat.le_of_ble_eq_true rfl) (ct_x7_begin g147 g145 g146) (fun I148 => ?_)
  refine s_aload_n 0 dX10_init_161 rfl rfl ?_
  refine sm_b1 (fun o_150 h151 => ?_)
  refine s_getR o_150 dX10_init_162 rfl fl_10_46 rfl g136 h151 ?_
  refine s_aload_n 0 dX10_init_165 rfl rfl ?_
  refine s_getR o_138 dX10_init_166 rfl fl_10_39 rfl g136 h139 ?_
  refine sm_ck (fun h152 => ?_)
  subst h152
  refine s_callV1_v3 dX10_init_169 rfl lkV_RX10_93 (S_59 g147) (Nat.le_of_ble_eq_true rfl) (Nat.le_of_ble_eq_true rfl) (Nat.le_of_ble_eq_true rfl) ct_x2_start (fun I153 L154 R155 S156 => ?_)
  exact s_vret dX10_init_172 rfl (fun f h => h)
noncomputable def x10_append_L3s (c1 : Int32) (rec : Int32 → MI → Option (MI)) (w2 : Int32) (I : MI) : Option (MI) :=
if w2 < 0 then (
some I) else
if (I 0 1) < 1600 then (
ck (vp_in (I 0 1) 1600) <|
lt (wI I 1 (ix (I 0 1)) (((c1 >>> (w2 &&& 31))).toInt8.toInt32).toInt8.toInt32) fun I2 =>
lt (wI I2 0 1 ((I2 0 1) + 1)) fun I4 =>
lt (w2 + (-8)) fun v5 =>
rec v5 I4) else
some I
noncomputable def x10_append_L3 (c1 : Int32) : Nat → Int32 → MI → Option (MI)
  | 0 => fun _ _ => none
  | n + 1 => x10_append_L3s c1 (x10_append_L3 c1 n)
noncomputable def x10_append (p1 : Int32) (I : MI) : Option (MI) :=
lt (24 : Int32) fun v1 =>
b1 (x10_append_L3 p1 FU v1 I) fun e6 =>
some e6
theorem x10_append_L3_ok {X : WX} {n0 s0 : Nat} {c1 : Int32} {L : ML} {R : MR} {S : MS} (hK : okr R S) : ∀ (n : Nat) (w2 : Int32) (I : MI), Sim X yX10_append cX10_append 3 none 0 0 n0 s0 3 [(0, .ref (X.1 + 0)), (1, .int c1), (2, .int w2)] [] (I, L, R, S) (x10_append_L3 c1 n w2 I) (fun b f => Ex X yX10_append cX10_append 3 none 0 0 n0 s0 46 [] [] (b, L, R, S) f) := by
  intro n
  induction n with
  | zero =>
    intro w2 I
    exact sm_none
  | succ n ih =>
    intro w2 I
    change Sim _ _ _ _ _ _ _ _ _ _ _ _ _ (x10_append_L3s c1 (x10_append_L3 c1 n) w2 I) _
    unfold x10_append_L3s
    refine s_iload_n 2 dX10_append_3 rfl rfl ?_
    refine s_if_lt (tgt := 46) dX10_append_4 rfl rfl (fun _ => ?_) (fun _ => ?_)
    · skip
      refine s_pick [] rfl ?_
      exact sm_exit (fun f h => h)
    · skip
      refine s_aload_n 0 dX10_append_7 rfl rfl ?_
      refine s_getI dX10_append_8 rfl fl_10_97 (S_0 hK) ?_
      refine s_sipush (v := 1600) dX10_append_11 rfl cS_1600 ?_
      refine s_icmp_ge (tgt := 46) dX10_append_14 rfl rfl (fun _ => ?_) (fun _ => ?_)
      · skip
        refine s_pick [] rfl ?_
        exact sm_exit (fun f h => h)
      · skip
        refine s_aload_n 0 dX10_append_17 rfl rfl ?_
        refine s_getR 1 dX10_append_18 rfl fl_10_9 rfl (S_0 hK) (R_0_0 hK) ?_
        refine s_aload_n 0 dX10_append_21 rfl rfl ?_
        refine s_getI dX10_append_22 rfl fl_10_97 (S_0 hK) ?_
        refine s_iload_n 1 dX10_append_25 rfl rfl ?_
        refine s_iload_n 2 dX10_append_26 rfl rfl ?_
        refine s_ishr dX10_append_27 rfl ?_
        refine s_i2b dX10_append_28 rfl ?_
        refine sm_ck (fun g3 => ?_)
        refine s_bastL dX10_append_29 rfl (S_1 hK) g3 (fun I2 => ?_)
        refine s_aload_n 0 dX10_append_30 rfl rfl ?_
        refine s_dup dX10_append_31 rfl rfl ?_
        refine s_getI dX10_append_32 rfl fl_10_97 (S_0 hK) ?_
        refine s_iconst (v := 1) dX10_append_35 rfl cI_1 ?_
        refine s_iadd dX10_append_36 rfl ?_
        refine s_putIL dX10_append_37 rfl fl_10_97 (S_0 hK) (fun I4 => ?_)
        refine s_iincL 2 (c := (-8)) (fun v5 => [(2, .int v5), (0, .ref (X.1 + 0)), (1, .int c1)]) dX10_append_40 rfl rfl cI_m8 (by decide) (fun _ => rfl) (fun v5 => ?_)
        refine s_goto (tgt := 3) dX10_append_43 rfl ?_
        refine s_pick [1, 2, 0] rfl ?_
        exact ih v5 I4
theorem ct_x10_append {X : WX} {p1 : Int32} {I : MI} {L : ML} {R : MR} {S : MS} (hK : okr R S) : Ct X yX10_append cX10_append 3 none 0 0 [.ref (X.1 + 0), .int p1] (I, L, R, S) (x10_append p1 I) (fun r => (none, (r, L, R, S))) := by
  refine Ct.of (by decide) (Nat.le_of_ble_eq_true rfl) [(0, .ref (X.1 + 0)), (1, .int p1)] rfl ?_
  unfold x10_append
  refine s_bipush (v := 24) dX10_append_0 rfl cB_24 ?_
  refine s_istore_nL (fun v1 => [(2, .int v1), (0, .ref (X.1 + 0)), (1, .int p1)]) dX10_append_2 rfl (by decide) (fun _ => rfl) (fun v1 => ?_)
  refine s_pick [1, 2, 0] rfl ?_
  refine sm_reg (x10_append_L3_ok hK FU v1 I) (fun e6 => ?_)
  exact s_vret dX10_append_46 rfl (fun f h => h)
noncomputable def x10_feed (p1 : Int32) (p2 : Int32) (p3 : Int32) (p4 : Int32) (p5 : Int32) (I : MI) : Option (Int32 × MI) :=
if 1580 < (I 0 1) then (
some ((-1 : Int32), I)) else
b1 (x10_append p1 I) fun I1 =>
b1 (x10_append p2 I1) fun I2 =>
b1 (x10_append p3 I2) fun I3 =>
b1 (x10_append p4 I3) fun I4 =>
b1 (x10_append p5 I4) fun I5 =>
some ((I5 0 1), I5)
theorem ct_x10_feed {X : WX} {p1 : Int32} {p2 : Int32} {p3 : Int32} {p4 : Int32} {p5 : Int32} {I : MI} {L : ML} {R : MR} {S : MS} (hK : okr R S) : Ct X yX10_feed cX10_feed 6 (some .int) 1 22 [.ref (X.1 + 0), .int p1, .int p2, .int p3, .int p4, .int p5] (I, L, R, S) (x10_feed p1 p2 p3 p4 p5 I) (fun r => (some (.int r.1), (r.2, L, R, S))) := by
  refine Ct.of (by decide) (Nat.le_of_ble_eq_true rfl) [(0, .ref (X.1 + 0)), (1, .int p1), (2, .int p2), (3, .int p3), (4, .int p4), (5, .int p5)] rfl ?_
  unfold x10_feed
  refine s_aload_n 0 dX10_feed_0 rfl rfl ?_
  refine s_getI dX10_feed_1 rfl fl_10_97 (S_0 hK) ?_
  refine s_sipush (v := 1580) dX10_feed_4 rfl cS_1580 ?_
  refine s_icmp_le (tgt := 12) dX10_feed_7 rfl rfl (fun _ => ?_) (fun _ => ?_)
  · skip
    refine s_aload_n 0 dX10_feed_12 rfl rfl ?_
    refine s_iload_n 1 dX10_feed_13 rfl rfl ?_
    refine s_callV1_v1 dX10_feed_14 rfl lkV_RX10_101 (S_0 hK) (Nat.le_of_ble_eq_true rfl) (Nat.le_of_ble_eq_true rfl) (Nat.le_of_ble_eq_true rfl) (ct_x10_append hK) (fun I1 => ?_)
    refine s_aload_n 0 dX10_feed_17 rfl rfl ?_
    refine s_iload_n 2 dX10_feed_18 rfl rfl ?_
    refine s_callV1_v1 dX10_feed_19 rfl lkV_RX10_101 (S_0 hK) (Nat.le_of_ble_eq_true rfl) (Nat.le_of_ble_eq_true rfl) (Nat.le_of_ble_eq_true rfl) (ct_x10_append hK) (fun I2 => ?_)
    refine s_aload_n 0 dX10_feed_22 rfl rfl ?_
    refine s_iload_n 3 dX10_feed_23 rfl rfl ?_
    refine s_callV1_v1 dX10_feed_24 rfl lkV_RX10_101 (S_0 hK) (Nat.le_of_ble_eq_true rfl) (Nat.le_of_ble_eq_true rfl) (Nat.le_of_ble_eq_true rfl) (ct_x10_append hK) (fun I3 => ?_)
    refine s_aload_n 0 dX10_feed_27 rfl rfl ?_
    refine s_iload 4 dX10_feed_28 rfl rfl ?_
    refine s_callV1_v1 dX10_feed_30 rfl lkV_RX10_101 (S_0 hK) (Nat.le_of_ble_eq_true rfl) (Nat.le_of_ble_eq_true rfl) (Nat.le_of_ble_eq_true rfl) (ct_x10_append hK) (fun I4 => ?_)
    refine s_aload_n 0 dX10_feed_33 rfl rfl ?_
    refine s_iload 5 dX10_feed_34 rfl rfl ?_
    refine s_callV1_v1 dX10_feed_36 rfl lkV_RX10_101 (S_0 hK) (Nat.le_of_ble_eq_true rfl) (Nat.le_of_ble_eq_true rfl) (Nat.le_of_ble_eq_true rfl) (ct_x10_append hK) (fun I5 => ?_)
    refine s_aload_n 0 dX10_feed_39 rfl rfl ?_
    refine s_getI dX10_feed_40 rfl fl_10_97 (S_0 hK) ?_
    exact s_iret dX10_feed_43 rfl (fun f h => h)
  · skip
    refine s_iconst (v := (-1)) dX10_feed_10 rfl cI_m1 ?_
    exact s_iret dX10_feed_11 rfl (fun f h => h)
noncomputable def x10_end (p1 : Int32) (I : MI) : Option (Int32 × MI) :=
if p1 < 0 then (
some ((-1 : Int32), I)) else
if (I 0 1) < p1 then (
some ((-1 : Int32), I)) else
lt (wI I 0 1 p1) fun I1 =>
some (p1, I1)
theorem ct_x10_end {X : WX} {p1 : Int32} {I : MI} {L : ML} {R : MR} {S : MS} (hK : okr R S) : Ct X yX10_end cX10_end 2 (some .int) 0 0 [.ref (X.1 + 0), .int p1] (I, L, R, S) (x10_end p1 I) (fun r => (some (.int r.1), (r.2, L, R, S))) := by
  refine Ct.of (by decide) (Nat.le_of_ble_eq_true rfl) [(0, .ref (X.1 + 0)), (1, .int p1)] rfl ?_
  unfold x10_end
  refine s_iload_n 1 dX10_end_0 rfl rfl ?_
  refine s_if_lt (tgt := 12) dX10_end_1 rfl rfl (fun _ => ?_) (fun _ => ?_)
  · skip
    refine s_iconst (v := (-1)) dX10_end_12 rfl cI_m1 ?_
    exact s_iret dX10_end_13 rfl (fun f h => h)
  · skip
    refine s_iload_n 1 dX10_end_4 rfl rfl ?_
    refine s_aload_n 0 dX10_end_5 rfl rfl ?_
    refine s_getI dX10_end_6 rfl fl_10_97 (S_0 hK) ?_
    refine s_icmp_le (tgt := 14) dX10_end_9 rfl rfl (fun _ => ?_) (fun _ => ?_)
    · skip
      refine s_aload_n 0 dX10_end_14 rfl rfl ?_
      refine s_iload_n 1 dX10_end_15 rfl rfl ?_
      refine s_putIL dX10_end_16 rfl fl_10_97 (S_0 hK) (fun I1 => ?_)
      refine s_iload_n 1 dX10_end_19 rfl rfl ?_
      exact s_iret dX10_end_20 rfl (fun f h => h)
    · skip
      refine s_iconst (v := (-1)) dX10_end_12 rfl cI_m1 ?_
      exact s_iret dX10_end_13 rfl (fun f h => h)
noncomputable def x3_readWord_L5s (rec : MI → ML → Option (MI × ML)) (I : MI) (L : ML) : Option (MI × ML) :=
if (I 21 3) < (I 21 2) then (
ck (vp_in (I 21 3) 1600) <|
if (I 1 (ix (I 21 3))) < 97 then (
some (I, L)) else
ck (vp_in (I 21 3) 1600) <|
if 122 < (I 1 (ix (I 21 3))) then (
some (I, L)) else
ck (vp_in (I 21 3) 1600) <|
lt (wL L 21 7 (((L 21 7) * 32) + ((((I 1 (ix (I 21 3))) - 97) + 1)).toInt64)) fun L5 =>
lt (wI I 21 3 ((I 21 3) + 1)) fun I6 =>
rec I6 L5) else
some (I, L)
noncomputable def x3_readWord_L5 : Nat → MI → ML → Option (MI × ML)
  | 0 => fun _ _ => none
  | n + 1 => x3_readWord_L5s (x3_readWord_L5 n)
noncomputable def x3_readWord_L114s (L : ML) (rec : Int32 → MI → Option (MI)) (w1 : Int32) (I : MI) : Option (MI) :=
if w1 < 26 then (
ck (vp_in w1 26) <|
if (lg_cmp (L 22 (ix w1)) (L 21 7)) = 0 then (
lt (wI I 21 4 w1) fun I12 =>
lt (w1 + 1) fun v13 =>
rec v13 I12) else
lt (w1 + 1) fun v11 =>
rec v11 I) else
some I
noncomputable def x3_readWord_L114 (L : ML) : Nat → Int32 → MI → Option (MI)
  | 0 => fun _ _ => none
  | n + 1 => x3_readWord_L114s L (x3_readWord_L114 L n)
noncomputable def x3_readWord (I : MI) (L : ML) : Option (MI × ML) :=
lt (wL L 21 7 (0 : Int64)) fun L1 =>
b1 (x3_readWord_L5 FU I L1) fun e7 =>
if 8 < ((e7.1 21 3) - (e7.1 21 5)) then (
lt (wI e7.1 21 4 (29 : Int32)) fun I15 =>
some (I15, e7.2)) else
lt (wI e7.1 21 4 (26 : Int32)) fun I8 =>
lt (0 : Int32) fun v9 =>
b1 (x3_readWord_L114 e7.2 FU v9 I8) fun e14 =>
some (e14, e7.2)
theorem x3_readWord_L5_ok {X : WX} {n0 s0 : Nat} {R : MR} {S : MS} (hK : okr R S) (hx : R 21 1 = some 1) : ∀ (n : Nat) (I : MI) (L : ML), Sim X yX3_readWord cX3_readWord 2 none 0 0 n0 s0 5 [(0, .ref (X.1 + 21))] [] (I, L, R, S) (x3_readWord_L5 n I L) (fun b f => Ex X yX3_readWord cX3_readWord 2 none 0 0 n0 s0 85 [(0, .ref (X.1 + 21))] [] (b.1, b.2, R, S) f) := by
  intro n
  induction n with
  | zero =>
    intro I L
    exact sm_none
  | succ n ih =>
    intro I L
    change Sim _ _ _ _ _ _ _ _ _ _ _ _ _ (x3_readWord_L5s (x3_readWord_L5 n) I L) _
    unfold x3_readWord_L5s
    refine s_aload_n 0 dX3_readWord_5 rfl rfl ?_
    refine s_getI dX3_readWord_6 rfl fl_3_40 (S_21 hK) ?_
    refine s_aload_n 0 dX3_readWord_9 rfl rfl ?_
    refine s_getI dX3_readWord_10 rfl fl_3_37 (S_21 hK) ?_
    refine s_icmp_ge (tgt := 85) dX3_readWord_13 rfl rfl (fun _ => ?_) (fun _ => ?_)
    · skip
      exact sm_exit (fun f h => h)
    · skip
      refine s_aload_n 0 dX3_readWord_16 rfl rfl ?_
      refine s_getR 1 dX3_readWord_17 rfl fl_3_13 rfl (S_21 hK) hx ?_
      refine s_aload_n 0 dX3_readWord_20 rfl rfl ?_
      refine s_getI dX3_readWord_21 rfl fl_3_40 (S_21 hK) ?_
      refine sm_ck (fun g2 => ?_)
      refine s_bald dX3_readWord_24 rfl (S_1 hK) g2 ?_
      refine s_bipush (v := 97) dX3_readWord_25 rfl cB_97 ?_
      refine s_icmp_lt (tgt := 85) dX3_readWord_27 rfl rfl (fun _ => ?_) (fun _ => ?_)
      · skip
        exact sm_exit (fun f h => h)
      · skip
        refine s_aload_n 0 dX3_readWord_30 rfl rfl ?_
        refine s_getR 1 dX3_readWord_31 rfl fl_3_13 rfl (S_21 hK) hx ?_
        refine s_aload_n 0 dX3_readWord_34 rfl rfl ?_
        refine s_getI dX3_readWord_35 rfl fl_3_40 (S_21 hK) ?_
        refine sm_ck (fun g3 => ?_)
        refine s_bald dX3_readWord_38 rfl (S_1 hK) g3 ?_
        refine s_bipush (v := 122) dX3_readWord_39 rfl cB_122 ?_
        refine s_icmp_gt (tgt := 85) dX3_readWord_41 rfl rfl (fun _ => ?_) (fun _ => ?_)
        · skip
          exact sm_exit (fun f h => h)
        · skip
          refine s_aload_n 0 dX3_readWord_44 rfl rfl ?_
          refine s_aload_n 0 dX3_readWord_45 rfl rfl ?_
          refine s_getL dX3_readWord_46 rfl fl_3_61 (S_21 hK) ?_
          refine s_ldc2 (v := 32) dX3_readWord_49 rfl kl_3_29c ?_
          refine s_lmul dX3_readWord_52 rfl ?_
          refine s_aload_n 0 dX3_readWord_53 rfl rfl ?_
          refine s_getR 1 dX3_readWord_54 rfl fl_3_13 rfl (S_21 hK) hx ?_
          refine s_aload_n 0 dX3_readWord_57 rfl rfl ?_
          refine s_getI dX3_readWord_58 rfl fl_3_40 (S_21 hK) ?_
          refine sm_ck (fun g4 => ?_)
          refine s_bald dX3_readWord_61 rfl (S_1 hK) g4 ?_
          refine s_bipush (v := 97) dX3_readWord_62 rfl cB_97 ?_
          refine s_isub dX3_readWord_64 rfl ?_
          refine s_iconst (v := 1) dX3_readWord_65 rfl cI_1 ?_
          refine s_iadd dX3_readWord_66 rfl ?_
          refine s_i2l dX3_readWord_67 rfl ?_
          refine s_ladd dX3_readWord_68 rfl ?_
          refine s_putLL dX3_readWord_69 rfl fl_3_61 (S_21 hK) (fun L5 => ?_)
          refine s_aload_n 0 dX3_readWord_72 rfl rfl ?_
          refine s_dup dX3_readWord_73 rfl rfl ?_
          refine s_getI dX3_readWord_74 rfl fl_3_40 (S_21 hK) ?_
          refine s_iconst (v := 1) dX3_readWord_77 rfl cI_1 ?_
          refine s_iadd dX3_readWord_78 rfl ?_
          refine s_putIL dX3_readWord_79 rfl fl_3_40 (S_21 hK) (fun I6 => ?_)
          refine s_goto (tgt := 5) dX3_readWord_82 rfl ?_
          exact ih I6 L5
theorem x3_readWord_L114_ok {X : WX} {n0 s0 : Nat} {L : ML} {R : MR} {S : MS} (hK : okr R S) (hx : R 21 1 = some 1) : ∀ (n : Nat) (w1 : Int32) (I : MI), Sim X yX3_readWord cX3_readWord 2 none 0 0 n0 s0 114 [(0, .ref (X.1 + 21)), (1, .int w1)] [] (I, L, R, S) (x3_readWord_L114 L n w1 I) (fun b f => Ex X yX3_readWord cX3_readWord 2 none 0 0 n0 s0 145 [] [] (b, L, R, S) f) := by
  intro n
  induction n with
  | zero =>
    intro w1 I
    exact sm_none
  | succ n ih =>
    intro w1 I
    change Sim _ _ _ _ _ _ _ _ _ _ _ _ _ (x3_readWord_L114s L (x3_readWord_L114 L n) w1 I) _
    unfold x3_readWord_L114s
    refine s_iload_n 1 dX3_readWord_114 rfl rfl ?_
    refine s_bipush (v := 26) dX3_readWord_115 rfl cB_26 ?_
    refine s_icmp_ge (tgt := 145) dX3_readWord_117 rfl rfl (fun _ => ?_) (fun _ => ?_)
    · skip
      refine s_pick [] rfl ?_
      exact sm_exit (fun f h => h)
    · skip
      refine s_aload_n 0 dX3_readWord_120 rfl rfl ?_
      refine s_getR 22 dX3_readWord_121 rfl fl_3_9 rfl (S_21 hK) (R_21_0 hK) ?_
      refine s_iload_n 1 dX3_readWord_124 rfl rfl ?_
      refine sm_ck (fun g10 => ?_)
      refine s_lald dX3_readWord_125 rfl (S_22 hK) g10 ?_
      refine s_aload_n 0 dX3_readWord_126 rfl rfl ?_
      refine s_getL dX3_readWord_127 rfl fl_3_61 (S_21 hK) ?_
      refine s_lcmp dX3_readWord_130 rfl ?_
      refine s_if_ne (tgt := 139) dX3_readWord_131 rfl rfl (fun _ => ?_) (fun _ => ?_)
      · skip
        refine s_iincL 1 (c := 1) (fun v11 => [(1, .int v11), (0, .ref (X.1 + 21))]) dX3_readWord_139 rfl rfl cI_1 (by decide) (fun _ => rfl) (fun v11 => ?_)
        refine s_goto (tgt := 114) dX3_readWord_142 rfl ?_
        refine s_pick [1, 0] rfl ?_
        exact ih v11 I
      · skip
        refine s_aload_n 0 dX3_readWord_134 rfl rfl ?_
        refine s_iload_n 1 dX3_readWord_135 rfl rfl ?_
        refine s_putIL dX3_readWord_136 rfl fl_3_49 (S_21 hK) (fun I12 => ?_)
        refine s_iincL 1 (c := 1) (fun v13 => [(1, .int v13), (0, .ref (X.1 + 21))]) dX3_readWord_139 rfl rfl cI_1 (by decide) (fun _ => rfl) (fun v13 => ?_)
        refine s_goto (tgt := 114) dX3_readWord_142 rfl ?_
        refine s_pick [1, 0] rfl ?_
        exact ih v13 I12
theorem ct_x3_readWord {X : WX} {I : MI} {L : ML} {R : MR} {S : MS} (hK : okr R S) (hx : R 21 1 = some 1) : Ct X yX3_readWord cX3_readWord 2 none 0 0 [.ref (X.1 + 21)] (I, L, R, S) (x3_readWord I L) (fun r => (none, (r.1, r.2, R, S))) := by
  refine Ct.of (by decide) (Nat.le_of_ble_eq_true rfl) [(0, .ref (X.1 + 21))] rfl ?_
  unfold x3_readWord
  refine s_aload_n 0 dX3_readWord_0 rfl rfl ?_
  refine s_lconst (v := 0) dX3_readWord_1 rfl rfl ?_
  refine s_putLL dX3_readWord_2 rfl fl_3_61 (S_21 hK) (fun L1 => ?_)
  refine sm_reg (x3_readWord_L5_ok hK hx FU I L1) (fun e7 => ?_)
  refine s_aload_n 0 dX3_readWord_85 rfl rfl ?_
  refine s_getI dX3_readWord_86 rfl fl_3_40 (S_21 hK) ?_
  refine s_aload_n 0 dX3_readWord_89 rfl rfl ?_
  refine s_getI dX3_readWord_90 rfl fl_3_46 (S_21 hK) ?_
  refine s_isub dX3_readWord_93 rfl ?_
  refine s_bipush (v := 8) dX3_readWord_94 rfl cB_8 ?_
  refine s_icmp_le (tgt := 106) dX3_readWord_96 rfl rfl (fun _ => ?_) (fun _ => ?_)
  · skip
    refine s_aload_n 0 dX3_readWord_106 rfl rfl ?_
    refine s_bipush (v := 26) dX3_readWord_107 rfl cB_26 ?_
    refine s_putIL dX3_readWord_109 rfl fl_3_49 (S_21 hK) (fun I8 => ?_)
    refine s_iconst (v := 0) dX3_readWord_112 rfl cI_0 ?_
    refine s_istore_nL (fun v9 => [(1, .int v9), (0, .ref (X.1 + 21))]) dX3_readWord_113 rfl (by decide) (fun _ => rfl) (fun v9 => ?_)
    refine s_pick [1, 0] rfl ?_
    refine sm_reg (x3_readWord_L114_ok hK hx FU v9 I8) (fun e14 => ?_)
    exact s_vret dX3_readWord_145 rfl (fun f h => h)
  · skip
    refine s_aload_n 0 dX3_readWord_99 rfl rfl ?_
    refine s_bipush (v := 29) dX3_readWord_100 rfl cB_29 ?_
    refine s_putIL dX3_readWord_102 rfl fl_3_49 (S_21 hK) (fun I15 => ?_)
    exact s_vret dX3_readWord_105 rfl (fun f h => h)
noncomputable def x3_readNumber_L5s (rec : MI → Option (MI)) (I : MI) : Option (MI) :=
if (I 21 3) < (I 21 2) then (
ck (vp_in (I 21 3) 1600) <|
if (I 1 (ix (I 21 3))) < 48 then (
some I) else
ck (vp_in (I 21 3) 1600) <|
if 57 < (I 1 (ix (I 21 3))) then (
some I) else
ck (vp_in (I 21 3) 1600) <|
lt (wI I 21 6 (((I 21 6) * 10) + ((I 1 (ix (I 21 3))) - 48))) fun I5 =>
lt (wI I5 21 3 ((I5 21 3) + 1)) fun I6 =>
rec I6) else
some I
noncomputable def x3_readNumber_L5 : Nat → MI → Option (MI)
  | 0 => fun _ => none
  | n + 1 => x3_readNumber_L5s (x3_readNumber_L5 n)
noncomputable def x3_readNumber (I : MI) : Option (MI) :=
lt (wI I 21 6 (0 : Int32)) fun I1 =>
b1 (x3_readNumber_L5 FU I1) fun e7 =>
b1 (
if (e7 21 3) < (e7 21 2) then (
ck (vp_in (e7 21 3) 1600) <|
if (e7 1 (ix (e7 21 3))) < 97 then (
some (0 : Int32)) else
ck (vp_in (e7 21 3) 1600) <|
if 122 < (e7 1 (ix (e7 21 3))) then (
some (0 : Int32)) else
some (1 : Int32)) else
some (0 : Int32)) fun e8 =>
lt e8 fun v11 =>
if v11 = 0 then (
if 4 < ((e7 21 3) - (e7 21 5)) then (
lt (wI e7 21 4 (29 : Int32)) fun I14 =>
some I14) else
lt (wI e7 21 4 (27 : Int32)) fun I13 =>
some I13) else
lt (wI e7 21 4 (29 : Int32)) fun I12 =>
some I12
theorem x3_readNumber_L5_ok {X : WX} {n0 s0 : Nat} {L : ML} {R : MR} {S : MS} (hK : okr R S) (hx : R 21 1 = some 1) : ∀ (n : Nat) (I : MI), Sim X yX3_readNumber cX3_readNumber 2 none 0 0 n0 s0 5 [(0, .ref (X.1 + 21))] [] (I, L, R, S) (x3_readNumber_L5 n I) (fun b f => Ex X yX3_readNumber cX3_readNumber 2 none 0 0 n0 s0 81 [(0, .ref (X.1 + 21))] [] (b, L, R, S) f) := by
  intro n
  induction n with
  | zero =>
    intro I
    exact sm_none
  | succ n ih =>
    intro I
    change Sim _ _ _ _ _ _ _ _ _ _ _ _ _ (x3_readNumber_L5s (x3_readNumber_L5 n) I) _
    unfold x3_readNumber_L5s
    refine s_aload_n 0 dX3_readNumber_5 rfl rfl ?_
    refine s_getI dX3_readNumber_6 rfl fl_3_40 (S_21 hK) ?_
    refine s_aload_n 0 dX3_readNumber_9 rfl rfl ?_
    refine s_getI dX3_readNumber_10 rfl fl_3_37 (S_21 hK) ?_
    refine s_icmp_ge (tgt := 81) dX3_readNumber_13 rfl rfl (fun _ => ?_) (fun _ => ?_)
    · skip
      exact sm_exit (fun f h => h)
    · skip
      refine s_aload_n 0 dX3_readNumber_16 rfl rfl ?_
      refine s_getR 1 dX3_readNumber_17 rfl fl_3_13 rfl (S_21 hK) hx ?_
      refine s_aload_n 0 dX3_readNumber_20 rfl rfl ?_
      refine s_getI dX3_readNumber_21 rfl fl_3_40 (S_21 hK) ?_
      refine sm_ck (fun g2 => ?_)
      refine s_bald dX3_readNumber_24 rfl (S_1 hK) g2 ?_
      refine s_bipush (v := 48) dX3_readNumber_25 rfl cB_48 ?_
      refine s_icmp_lt (tgt := 81) dX3_readNumber_27 rfl rfl (fun _ => ?_) (fun _ => ?_)
      · skip
        exact sm_exit (fun f h => h)
      · skip
        refine s_aload_n 0 dX3_readNumber_30 rfl rfl ?_
        refine s_getR 1 dX3_readNumber_31 rfl fl_3_13 rfl (S_21 hK) hx ?_
        refine s_aload_n 0 dX3_readNumber_34 rfl rfl ?_
        refine s_getI dX3_readNumber_35 rfl fl_3_40 (S_21 hK) ?_
        refine sm_ck (fun g3 => ?_)
        refine s_bald dX3_readNumber_38 rfl (S_1 hK) g3 ?_
        refine s_bipush (v := 57) dX3_readNumber_39 rfl cB_57 ?_
        refine s_icmp_gt (tgt := 81) dX3_readNumber_41 rfl rfl (fun _ => ?_) (fun _ => ?_)
        · skip
          exact sm_exit (fun f h => h)
        · skip
          refine s_aload_n 0 dX3_readNumber_44 rfl rfl ?_
          refine s_aload_n 0 dX3_readNumber_45 rfl rfl ?_
          refine s_getI dX3_readNumber_46 rfl fl_3_65 (S_21 hK) ?_
          refine s_bipush (v := 10) dX3_readNumber_49 rfl cB_10 ?_
          refine s_imul dX3_readNumber_51 rfl ?_
          refine s_aload_n 0 dX3_readNumber_52 rfl rfl ?_
          refine s_getR 1 dX3_readNumber_53 rfl fl_3_13 rfl (S_21 hK) hx ?_
          refine s_aload_n 0 dX3_readNumber_56 rfl rfl ?_
          refine s_getI dX3_readNumber_57 rfl fl_3_40 (S_21 hK) ?_
          refine sm_ck (fun g4 => ?_)
          refine s_bald dX3_readNumber_60 rfl (S_1 hK) g4 ?_
          refine s_bipush (v := 48) dX3_readNumber_61 rfl cB_48 ?_
          refine s_isub dX3_readNumber_63 rfl ?_
          refine s_iadd dX3_readNumber_64 rfl ?_
          refine s_putIL dX3_readNumber_65 rfl fl_3_65 (S_21 hK) (fun I5 => ?_)
          refine s_aload_n 0 dX3_readNumber_68 rfl rfl ?_
          refine s_dup dX3_readNumber_69 rfl rfl ?_
          refine s_getI dX3_readNumber_70 rfl fl_3_40 (S_21 hK) ?_
          refine s_iconst (v := 1) dX3_readNumber_73 rfl cI_1 ?_
          refine s_iadd dX3_readNumber_74 rfl ?_
          refine s_putIL dX3_readNumber_75 rfl fl_3_40 (S_21 hK) (fun I6 => ?_)
          refine s_goto (tgt := 5) dX3_readNumber_78 rfl ?_
          exact ih I6
theorem ct_x3_readNumber {X : WX} {I : MI} {L : ML} {R : MR} {S : MS} (hK : okr R S) (hx : R 21 1 = some 1) : Ct X yX3_readNumber cX3_readNumber 2 none 0 0 [.ref (X.1 + 21)] (I, L, R, S) (x3_readNumber I) (fun r => (none, (r, L, R, S))) := by
  refine Ct.of (by decide) (Nat.le_of_ble_eq_true rfl) [(0, .ref (X.1 + 21))] rfl ?_
  unfold x3_readNumber
  refine s_aload_n 0 dX3_readNumber_0 rfl rfl ?_
  refine s_iconst (v := 0) dX3_readNumber_1 rfl cI_0 ?_
  refine s_putIL dX3_readNumber_2 rfl fl_3_65 (S_21 hK) (fun I1 => ?_)
  refine sm_reg (x3_readNumber_L5_ok hK hx FU I1) (fun e7 => ?_)
  refine s_aload_n 0 dX3_readNumber_81 rfl rfl ?_
  refine s_getI dX3_readNumber_82 rfl fl_3_40 (S_21 hK) ?_
  refine s_aload_n 0 dX3_readNumber_85 rfl rfl ?_
  refine s_getI dX3_readNumber_86 rfl fl_3_37 (S_21 hK) ?_
  refine sm_reg (pcx := 125) (lsx := fun e8 => [(0, .ref (X.1 + 21))]) (stx := fun e8 => [.int e8]) (ux := fun e8 => (e7, L, R, S)) ?_ (fun e8 => ?_)
  · skip
    refine s_icmp_ge (tgt := 124) dX3_readNumber_89 rfl rfl (fun _ => ?_) (fun _ => ?_)
    · skip
      refine s_iconst (v := 0) dX3_readNumber_124 rfl cI_0 ?_
      exact sm_exit (fun f h => h)
    · skip
      refine s_aload_n 0 dX3_readNumber_92 rfl rfl ?_
      refine s_getR 1 dX3_readNumber_93 rfl fl_3_13 rfl (S_21 hK) hx ?_
      refine s_aload_n 0 dX3_readNumber_96 rfl rfl ?_
      refine s_getI dX3_readNumber_97 rfl fl_3_40 (S_21 hK) ?_
      refine sm_ck (fun g9 => ?_)
      refine s_bald dX3_readNumber_100 rfl (S_1 hK) g9 ?_
      refine s_bipush (v := 97) dX3_readNumber_101 rfl cB_97 ?_
      refine s_icmp_lt (tgt := 124) dX3_readNumber_103 rfl rfl (fun _ => ?_) (fun _ => ?_)
      · skip
        refine s_iconst (v := 0) dX3_readNumber_124 rfl cI_0 ?_
        exact sm_exit (fun f h => h)
      · skip
        refine s_aload_n 0 dX3_readNumber_106 rfl rfl ?_
        refine s_getR 1 dX3_readNumber_107 rfl fl_3_13 rfl (S_21 hK) hx ?_
        refine s_aload_n 0 dX3_readNumber_110 rfl rfl ?_
        refine s_getI dX3_readNumber_111 rfl fl_3_40 (S_21 hK) ?_
        refine sm_ck (fun g10 => ?_)
        refine s_bald dX3_readNumber_114 rfl (S_1 hK) g10 ?_
        refine s_bipush (v := 122) dX3_readNumber_115 rfl cB_122 ?_
        refine s_icmp_gt (tgt := 124) dX3_readNumber_117 rfl rfl (fun _ => ?_) (fun _ => ?_)
        · skip
          refine s_iconst (v := 0) dX3_readNumber_124 rfl cI_0 ?_
          exact sm_exit (fun f h => h)
        · skip
          refine s_iconst (v := 1) dX3_readNumber_120 rfl cI_1 ?_
          refine s_goto (tgt := 125) dX3_readNumber_121 rfl ?_
          exact sm_exit (fun f h => h)
  · skip
    refine s_istore_nL (fun v11 => [(1, .int v11), (0, .ref (X.1 + 21))]) dX3_readNumber_125 rfl (by decide) (fun _ => rfl) (fun v11 => ?_)
    refine s_aload_n 1 dX3_readNumber_126 rfl rfl ?_
    refine s_iload_n 0 dX3_readNumber_127 rfl rfl ?_
    refine s_if_ne (tgt := 144) dX3_readNumber_128 rfl rfl (fun _ => ?_) (fun _ => ?_)
    · skip
      refine s_bipush (v := 29) dX3_readNumber_144 rfl cB_29 ?_
      refine s_goto (tgt := 151) dX3_readNumber_146 rfl ?_
      refine s_putIL dX3_readNumber_151 rfl fl_3_49 (S_21 hK) (fun I12 => ?_)
      exact s_vret dX3_readNumber_154 rfl (fun f h => h)
    · skip
      refine s_aload_n 1 dX3_readNumber_131 rfl rfl ?_
      refine s_getI dX3_readNumber_132 rfl fl_3_40 (S_21 hK) ?_
      refine s_aload_n 1 dX3_readNumber_135 rfl rfl ?_
      refine s_getI dX3_readNumber_136 rfl fl_3_46 (S_21 hK) ?_
      refine s_isub dX3_readNumber_139 rfl ?_
      refine s_iconst (v := 4) dX3_readNumber_140 rfl cI_4 ?_
      refine s_icmp_le (tgt := 149) dX3_readNumber_141 rfl rfl (fun _ => ?_) (fun _ => ?_)
      · skip
        refine s_bipush (v := 27) dX3_readNumber_149 rfl cB_27 ?_
        refine s_putIL dX3_readNumber_151 rfl fl_3_49 (S_21 hK) (fun I13 => ?_)
        exact s_vret dX3_readNumber_154 rfl (fun f h => h)
      · skip
        refine s_bipush (v := 29) dX3_readNumber_144 rfl cB_29 ?_
        refine s_goto (tgt := 151) dX3_readNumber_146 rfl ?_
        refine s_putIL dX3_readNumber_151 rfl fl_3_49 (S_21 hK) (fun I14 => ?_)
        exact s_vret dX3_readNumber_154 rfl (fun f h => h)
noncomputable def x3_readSign (I : MI) : Option (MI) :=
ck (vp_in (I 21 3) 1600) <|
lt (I 1 (ix (I 21 3))) fun v2 =>
if v2 = 37 then (
lt (wI I 21 4 v2) fun I4 =>
lt (wI I4 21 3 ((I4 21 3) + 1)) fun I5 =>
some I5) else
if v2 = 38 then (
lt (wI I 21 4 (29 : Int32)) fun I7 =>
some I7) else
if v2 = 39 then (
lt (wI I 21 4 (29 : Int32)) fun I9 =>
some I9) else
if v2 = 40 then (
lt (wI I 21 4 v2) fun I11 =>
lt (wI I11 21 3 ((I11 21 3) + 1)) fun I12 =>
some I12) else
if v2 = 41 then (
lt (wI I 21 4 v2) fun I14 =>
lt (wI I14 21 3 ((I14 21 3) + 1)) fun I15 =>
some I15) else
if v2 = 42 then (
lt (wI I 21 4 v2) fun I17 =>
lt (wI I17 21 3 ((I17 21 3) + 1)) fun I18 =>
some I18) else
if v2 = 43 then (
lt (wI I 21 4 v2) fun I20 =>
lt (wI I20 21 3 ((I20 21 3) + 1)) fun I21 =>
some I21) else
if v2 = 44 then (
lt (wI I 21 4 (29 : Int32)) fun I23 =>
some I23) else
if v2 = 45 then (
lt (wI I 21 4 v2) fun I25 =>
lt (wI I25 21 3 ((I25 21 3) + 1)) fun I26 =>
some I26) else
if v2 = 46 then (
lt (wI I 21 4 (29 : Int32)) fun I28 =>
some I28) else
if v2 = 47 then (
lt (wI I 21 4 v2) fun I30 =>
lt (wI I30 21 3 ((I30 21 3) + 1)) fun I31 =>
some I31) else
if v2 = 48 then (
lt (wI I 21 4 (29 : Int32)) fun I33 =>
some I33) else
if v2 = 49 then (
lt (wI I 21 4 (29 : Int32)) fun I35 =>
some I35) else
if v2 = 50 then (
lt (wI I 21 4 (29 : Int32)) fun I37 =>
some I37) else
if v2 = 51 then (
lt (wI I 21 4 (29 : Int32)) fun I39 =>
some I39) else
if v2 = 52 then (
lt (wI I 21 4 (29 : Int32)) fun I41 =>
some I41) else
if v2 = 53 then (
lt (wI I 21 4 (29 : Int32)) fun I43 =>
some I43) else
if v2 = 54 then (
lt (wI I 21 4 (29 : Int32)) fun I45 =>
some I45) else
if v2 = 55 then (
lt (wI I 21 4 (29 : Int32)) fun I47 =>
some I47) else
if v2 = 56 then (
lt (wI I 21 4 (29 : Int32)) fun I49 =>
some I49) else
if v2 = 57 then (
lt (wI I 21 4 (29 : Int32)) fun I51 =>
some I51) else
if v2 = 58 then (
lt (wI I 21 4 (29 : Int32)) fun I53 =>
some I53) else
if v2 = 59 then (
lt (wI I 21 4 v2) fun I55 =>
lt (wI I55 21 3 ((I55 21 3) + 1)) fun I56 =>
some I56) else
if v2 = 60 then (
lt (wI I 21 4 v2) fun I58 =>
lt (wI I58 21 3 ((I58 21 3) + 1)) fun I59 =>
some I59) else
if v2 = 61 then (
lt (wI I 21 4 v2) fun I61 =>
lt (wI I61 21 3 ((I61 21 3) + 1)) fun I62 =>
some I62) else
if v2 = 62 then (
lt (wI I 21 4 v2) fun I64 =>
lt (wI I64 21 3 ((I64 21 3) + 1)) fun I65 =>
some I65) else
lt (wI I 21 4 (29 : Int32)) fun I66 =>
some I66
theorem ct_x3_readSign {X : WX} {I : MI} {L : ML} {R : MR} {S : MS} (hK : okr R S) (hx : R 21 1 = some 1) : Ct X yX3_readSign cX3_readSign 2 none 0 0 [.ref (X.1 + 21)] (I, L, R, S) (x3_readSign I) (fun r => (none, (r, L, R, S))) := by
  refine Ct.of (by decide) (Nat.le_of_ble_eq_true rfl) [(0, .ref (X.1 + 21))] rfl ?_
  unfold x3_readSign
  refine s_aload_n 0 dX3_readSign_0 rfl rfl ?_
  refine s_getR 1 dX3_readSign_1 rfl fl_3_13 rfl (S_21 hK) hx ?_
  refine s_aload_n 0 dX3_readSign_4 rfl rfl ?_
  refine s_getI dX3_readSign_5 rfl fl_3_40 (S_21 hK) ?_
  refine sm_ck (fun g1 => ?_)
  refine s_bald dX3_readSign_8 rfl (S_1 hK) g1 ?_
  refine s_istore_nL (fun v2 => [(1, .int v2), (0, .ref (X.1 + 21))]) dX3_readSign_9 rfl (by decide) (fun _ => rfl) (fun v2 => ?_)
  refine s_iload_n 0 dX3_readSign_10 rfl rfl ?_
  refine sm_ite (fun h3 => ?_) (fun h3 => ?_)
  · skip
    refine s_tin (tgt := 128) dX3_readSign_11 (by rw [h3]; try decide) (by rw [h3]; try decide) (by rw [h3]; try rfl) rfl ?_
    refine s_aload_n 1 dX3_readSign_128 rfl rfl ?_
    refine s_iload_n 0 dX3_readSign_129 rfl rfl ?_
    refine s_putIL dX3_readSign_130 rfl fl_3_49 (S_21 hK) (fun I4 => ?_)
    refine s_aload_n 1 dX3_readSign_133 rfl rfl ?_
    refine s_dup dX3_readSign_134 rfl rfl ?_
    refine s_getI dX3_readSign_135 rfl fl_3_40 (S_21 hK) ?_
    refine s_iconst (v := 1) dX3_readSign_138 rfl cI_1 ?_
    refine s_iadd dX3_readSign_139 rfl ?_
    refine s_putIL dX3_readSign_140 rfl fl_3_40 (S_21 hK) (fun I5 => ?_)
    refine s_goto (tgt := 152) dX3_readSign_143 rfl ?_
    exact s_vret dX3_readSign_152 rfl (fun f h => h)
  refine sm_ite (fun h6 => ?_) (fun h6 => ?_)
  · skip
    refine s_tin (tgt := 146) dX3_readSign_11 (by rw [h6]; try decide) (by rw [h6]; try decide) (by rw [h6]; try rfl) rfl ?_
    refine s_aload_n 1 dX3_readSign_146 rfl rfl ?_
    refine s_bipush (v := 29) dX3_readSign_147 rfl cB_29 ?_
    refine s_putIL dX3_readSign_149 rfl fl_3_49 (S_21 hK) (fun I7 => ?_)
    exact s_vret dX3_readSign_152 rfl (fun f h => h)
  refine sm_ite (fun h8 => ?_) (fun h8 => ?_)
  · skip
    refine s_tin (tgt := 146) dX3_readSign_11 (by rw [h8]; try decide) (by rw [h8]; try decide) (by rw [h8]; try rfl) rfl ?_
    refine s_aload_n 1 dX3_readSign_146 rfl rfl ?_
    refine s_bipush (v := 29) dX3_readSign_147 rfl cB_29 ?_
    refine s_putIL dX3_readSign_149 rfl fl_3_49 (S_21 hK) (fun I9 => ?_)
    exact s_vret dX3_readSign_152 rfl (fun f h => h)
  refine sm_ite (fun h10 => ?_) (fun h10 => ?_)
  · skip
    refine s_tin (tgt := 128) dX3_readSign_11 (by rw [h10]; try decide) (by rw [h10]; try decide) (by rw [h10]; try rfl) rfl ?_
    refine s_aload_n 1 dX3_readSign_128 rfl rfl ?_
    refine s_iload_n 0 dX3_readSign_129 rfl rfl ?_
    refine s_putIL dX3_readSign_130 rfl fl_3_49 (S_21 hK) (fun I11 => ?_)
    refine s_aload_n 1 dX3_readSign_133 rfl rfl ?_
    refine s_dup dX3_readSign_134 rfl rfl ?_
    refine s_getI dX3_readSign_135 rfl fl_3_40 (S_21 hK) ?_
    refine s_iconst (v := 1) dX3_readSign_138 rfl cI_1 ?_
    refine s_iadd dX3_readSign_139 rfl ?_
    refine s_putIL dX3_readSign_140 rfl fl_3_40 (S_21 hK) (fun I12 => ?_)
    refine s_goto (tgt := 152) dX3_readSign_143 rfl ?_
    exact s_vret dX3_readSign_152 rfl (fun f h => h)
  refine sm_ite (fun h13 => ?_) (fun h13 => ?_)
  · skip
    refine s_tin (tgt := 128) dX3_readSign_11 (by rw [h13]; try decide) (by rw [h13]; try decide) (by rw [h13]; try rfl) rfl ?_
    refine s_aload_n 1 dX3_readSign_128 rfl rfl ?_
    refine s_iload_n 0 dX3_readSign_129 rfl rfl ?_
    refine s_putIL dX3_readSign_130 rfl fl_3_49 (S_21 hK) (fun I14 => ?_)
    refine s_aload_n 1 dX3_readSign_133 rfl rfl ?_
    refine s_dup dX3_readSign_134 rfl rfl ?_
    refine s_getI dX3_readSign_135 rfl fl_3_40 (S_21 hK) ?_
    refine s_iconst (v := 1) dX3_readSign_138 rfl cI_1 ?_
    refine s_iadd dX3_readSign_139 rfl ?_
    refine s_putIL dX3_readSign_140 rfl fl_3_40 (S_21 hK) (fun I15 => ?_)
    refine s_goto (tgt := 152) dX3_readSign_143 rfl ?_
    exact s_vret dX3_readSign_152 rfl (fun f h => h)
  refine sm_ite (fun h16 => ?_) (fun h16 => ?_)
  · skip
    refine s_tin (tgt := 128) dX3_readSign_11 (by rw [h16]; try decide) (by rw [h16]; try decide) (by rw [h16]; try rfl) rfl ?_
    refine s_aload_n 1 dX3_readSign_128 rfl rfl ?_
    refine s_iload_n 0 dX3_readSign_129 rfl rfl ?_
    refine s_putIL dX3_readSign_130 rfl fl_3_49 (S_21 hK) (fun I17 => ?_)
    refine s_aload_n 1 dX3_readSign_133 rfl rfl ?_
    refine s_dup dX3_readSign_134 rfl rfl ?_
    refine s_getI dX3_readSign_135 rfl fl_3_40 (S_21 hK) ?_
    refine s_iconst (v := 1) dX3_readSign_138 rfl cI_1 ?_
    refine s_iadd dX3_readSign_139 rfl ?_
    refine s_putIL dX3_readSign_140 rfl fl_3_40 (S_21 hK) (fun I18 => ?_)
    refine s_goto (tgt := 152) dX3_readSign_143 rfl ?_
    exact s_vret dX3_readSign_152 rfl (fun f h => h)
  refine sm_ite (fun h19 => ?_) (fun h19 => ?_)
  · skip
    refine s_tin (tgt := 128) dX3_readSign_11 (by rw [h19]; try decide) (by rw [h19]; try decide) (by rw [h19]; try rfl) rfl ?_
    refine s_aload_n 1 dX3_readSign_128 rfl rfl ?_
    refine s_iload_n 0 dX3_readSign_129 rfl rfl ?_
    refine s_putIL dX3_readSign_130 rfl fl_3_49 (S_21 hK) (fun I20 => ?_)
    refine s_aload_n 1 dX3_readSign_133 rfl rfl ?_
    refine s_dup dX3_readSign_134 rfl rfl ?_
    refine s_getI dX3_readSign_135 rfl fl_3_40 (S_21 hK) ?_
    refine s_iconst (v := 1) dX3_readSign_138 rfl cI_1 ?_
    refine s_iadd dX3_readSign_139 rfl ?_
    refine s_putIL dX3_readSign_140 rfl fl_3_40 (S_21 hK) (fun I21 => ?_)
    refine s_goto (tgt := 152) dX3_readSign_143 rfl ?_
    exact s_vret dX3_readSign_152 rfl (fun f h => h)
  refine sm_ite (fun h22 => ?_) (fun h22 => ?_)
  · skip
    refine s_tin (tgt := 146) dX3_readSign_11 (by rw [h22]; try decide) (by rw [h22]; try decide) (by rw [h22]; try rfl) rfl ?_
    refine s_aload_n 1 dX3_readSign_146 rfl rfl ?_
    refine s_bipush (v := 29) dX3_readSign_147 rfl cB_29 ?_
    refine s_putIL dX3_readSign_149 rfl fl_3_49 (S_21 hK) (fun I23 => ?_)
    exact s_vret dX3_readSign_152 rfl (fun f h => h)
  refine sm_ite (fun h24 => ?_) (fun h24 => ?_)
  · skip
    refine s_tin (tgt := 128) dX3_readSign_11 (by rw [h24]; try decide) (by rw [h24]; try decide) (by rw [h24]; try rfl) rfl ?_
    refine s_aload_n 1 dX3_readSign_128 rfl rfl ?_
    refine s_iload_n 0 dX3_readSign_129 rfl rfl ?_
    refine s_putIL dX3_readSign_130 rfl fl_3_49 (S_21 hK) (fun I25 => ?_)
    refine s_aload_n 1 dX3_readSign_133 rfl rfl ?_
    refine s_dup dX3_readSign_134 rfl rfl ?_
    refine s_getI dX3_readSign_135 rfl fl_3_40 (S_21 hK) ?_
    refine s_iconst (v := 1) dX3_readSign_138 rfl cI_1 ?_
    refine s_iadd dX3_readSign_139 rfl ?_
    refine s_putIL dX3_readSign_140 rfl fl_3_40 (S_21 hK) (fun I26 => ?_)
    refine s_goto (tgt := 152) dX3_readSign_143 rfl ?_
    exact s_vret dX3_readSign_152 rfl (fun f h => h)
  refine sm_ite (fun h27 => ?_) (fun h27 => ?_)
  · skip
    refine s_tin (tgt := 146) dX3_readSign_11 (by rw [h27]; try decide) (by rw [h27]; try decide) (by rw [h27]; try rfl) rfl ?_
    refine s_aload_n 1 dX3_readSign_146 rfl rfl ?_
    refine s_bipush (v := 29) dX3_readSign_147 rfl cB_29 ?_
    refine s_putIL dX3_readSign_149 rfl fl_3_49 (S_21 hK) (fun I28 => ?_)
    exact s_vret dX3_readSign_152 rfl (fun f h => h)
  refine sm_ite (fun h29 => ?_) (fun h29 => ?_)
  · skip
    refine s_tin (tgt := 128) dX3_readSign_11 (by rw [h29]; try decide) (by rw [h29]; try decide) (by rw [h29]; try rfl) rfl ?_
    refine s_aload_n 1 dX3_readSign_128 rfl rfl ?_
    refine s_iload_n 0 dX3_readSign_129 rfl rfl ?_
    refine s_putIL dX3_readSign_130 rfl fl_3_49 (S_21 hK) (fun I30 => ?_)
    refine s_aload_n 1 dX3_readSign_133 rfl rfl ?_
    refine s_dup dX3_readSign_134 rfl rfl ?_
    refine s_getI dX3_readSign_135 rfl fl_3_40 (S_21 hK) ?_
    refine s_iconst (v := 1) dX3_readSign_138 rfl cI_1 ?_
    refine s_iadd dX3_readSign_139 rfl ?_
    refine s_putIL dX3_readSign_140 rfl fl_3_40 (S_21 hK) (fun I31 => ?_)
    refine s_goto (tgt := 152) dX3_readSign_143 rfl ?_
    exact s_vret dX3_readSign_152 rfl (fun f h => h)
  refine sm_ite (fun h32 => ?_) (fun h32 => ?_)
  · skip
    refine s_tin (tgt := 146) dX3_readSign_11 (by rw [h32]; try decide) (by rw [h32]; try decide) (by rw [h32]; try rfl) rfl ?_
    refine s_aload_n 1 dX3_readSign_146 rfl rfl ?_
    refine s_bipush (v := 29) dX3_readSign_147 rfl cB_29 ?_
    refine s_putIL dX3_readSign_149 rfl fl_3_49 (S_21 hK) (fun I33 => ?_)
    exact s_vret dX3_readSign_152 rfl (fun f h => h)
  refine sm_ite (fun h34 => ?_) (fun h34 => ?_)
  · skip
    refine s_tin (tgt := 146) dX3_readSign_11 (by rw [h34]; try decide) (by rw [h34]; try decide) (by rw [h34]; try rfl) rfl ?_
    refine s_aload_n 1 dX3_readSign_146 rfl rfl ?_
    refine s_bipush (v := 29) dX3_readSign_147 rfl cB_29 ?_
    refine s_putIL dX3_readSign_149 rfl fl_3_49 (S_21 hK) (fun I35 => ?_)
    exact s_vret dX3_readSign_152 rfl (fun f h => h)
  refine sm_ite (fun h36 => ?_) (fun h36 => ?_)
  · skip
    refine s_tin (tgt := 146) dX3_readSign_11 (by rw [h36]; try decide) (by rw [h36]; try decide) (by rw [h36]; try rfl) rfl ?_
    refine s_aload_n 1 dX3_readSign_146 rfl rfl ?_
    refine s_bipush (v := 29) dX3_readSign_147 rfl cB_29 ?_
    refine s_putIL dX3_readSign_149 rfl fl_3_49 (S_21 hK) (fun I37 => ?_)
    exact s_vret dX3_readSign_152 rfl (fun f h => h)
  refine sm_ite (fun h38 => ?_) (fun h38 => ?_)
  · skip
    refine s_tin (tgt := 146) dX3_readSign_11 (by rw [h38]; try decide) (by rw [h38]; try decide) (by rw [h38]; try rfl) rfl ?_
    refine s_aload_n 1 dX3_readSign_146 rfl rfl ?_
    refine s_bipush (v := 29) dX3_readSign_147 rfl cB_29 ?_
    refine s_putIL dX3_readSign_149 rfl fl_3_49 (S_21 hK) (fun I39 => ?_)
    exact s_vret dX3_readSign_152 rfl (fun f h => h)
  refine sm_ite (fun h40 => ?_) (fun h40 => ?_)
  · skip
    refine s_tin (tgt := 146) dX3_readSign_11 (by rw [h40]; try decide) (by rw [h40]; try decide) (by rw [h40]; try rfl) rfl ?_
    refine s_aload_n 1 dX3_readSign_146 rfl rfl ?_
    refine s_bipush (v := 29) dX3_readSign_147 rfl cB_29 ?_
    refine s_putIL dX3_readSign_149 rfl fl_3_49 (S_21 hK) (fun I41 => ?_)
    exact s_vret dX3_readSign_152 rfl (fun f h => h)
  refine sm_ite (fun h42 => ?_) (fun h42 => ?_)
  · skip
    refine s_tin (tgt := 146) dX3_readSign_11 (by rw [h42]; try decide) (by rw [h42]; try decide) (by rw [h42]; try rfl) rfl ?_
    refine s_aload_n 1 dX3_readSign_146 rfl rfl ?_
    refine s_bipush (v := 29) dX3_readSign_147 rfl cB_29 ?_
    refine s_putIL dX3_readSign_149 rfl fl_3_49 (S_21 hK) (fun I43 => ?_)
    exact s_vret dX3_readSign_152 rfl (fun f h => h)
  refine sm_ite (fun h44 => ?_) (fun h44 => ?_)
  · skip
    refine s_tin (tgt := 146) dX3_readSign_11 (by rw [h44]; try decide) (by rw [h44]; try decide) (by rw [h44]; try rfl) rfl ?_
    refine s_aload_n 1 dX3_readSign_146 rfl rfl ?_
    refine s_bipush (v := 29) dX3_readSign_147 rfl cB_29 ?_
    refine s_putIL dX3_readSign_149 rfl fl_3_49 (S_21 hK) (fun I45 => ?_)
    exact s_vret dX3_readSign_152 rfl (fun f h => h)
  refine sm_ite (fun h46 => ?_) (fun h46 => ?_)
  · skip
    refine s_tin (tgt := 146) dX3_readSign_11 (by rw [h46]; try decide) (by rw [h46]; try decide) (by rw [h46]; try rfl) rfl ?_
    refine s_aload_n 1 dX3_readSign_146 rfl rfl ?_
    refine s_bipush (v := 29) dX3_readSign_147 rfl cB_29 ?_
    refine s_putIL dX3_readSign_149 rfl fl_3_49 (S_21 hK) (fun I47 => ?_)
    exact s_vret dX3_readSign_152 rfl (fun f h => h)
  refine sm_ite (fun h48 => ?_) (fun h48 => ?_)
  · skip
    refine s_tin (tgt := 146) dX3_readSign_11 (by rw [h48]; try decide) (by rw [h48]; try decide) (by rw [h48]; try rfl) rfl ?_
    refine s_aload_n 1 dX3_readSign_146 rfl rfl ?_
    refine s_bipush (v := 29) dX3_readSign_147 rfl cB_29 ?_
    refine s_putIL dX3_readSign_149 rfl fl_3_49 (S_21 hK) (fun I49 => ?_)
    exact s_vret dX3_readSign_152 rfl (fun f h => h)
  refine sm_ite (fun h50 => ?_) (fun h50 => ?_)
  · skip
    refine s_tin (tgt := 146) dX3_readSign_11 (by rw [h50]; try decide) (by rw [h50]; try decide) (by rw [h50]; try rfl) rfl ?_
    refine s_aload_n 1 dX3_readSign_146 rfl rfl ?_
    refine s_bipush (v := 29) dX3_readSign_147 rfl cB_29 ?_
    refine s_putIL dX3_readSign_149 rfl fl_3_49 (S_21 hK) (fun I51 => ?_)
    exact s_vret dX3_readSign_152 rfl (fun f h => h)
  refine sm_ite (fun h52 => ?_) (fun h52 => ?_)
  · skip
    refine s_tin (tgt := 146) dX3_readSign_11 (by rw [h52]; try decide) (by rw [h52]; try decide) (by rw [h52]; try rfl) rfl ?_
    refine s_aload_n 1 dX3_readSign_146 rfl rfl ?_
    refine s_bipush (v := 29) dX3_readSign_147 rfl cB_29 ?_
    refine s_putIL dX3_readSign_149 rfl fl_3_49 (S_21 hK) (fun I53 => ?_)
    exact s_vret dX3_readSign_152 rfl (fun f h => h)
  refine sm_ite (fun h54 => ?_) (fun h54 => ?_)
  · skip
    refine s_tin (tgt := 128) dX3_readSign_11 (by rw [h54]; try decide) (by rw [h54]; try decide) (by rw [h54]; try rfl) rfl ?_
    refine s_aload_n 1 dX3_readSign_128 rfl rfl ?_
    refine s_iload_n 0 dX3_readSign_129 rfl rfl ?_
    refine s_putIL dX3_readSign_130 rfl fl_3_49 (S_21 hK) (fun I55 => ?_)
    refine s_aload_n 1 dX3_readSign_133 rfl rfl ?_
    refine s_dup dX3_readSign_134 rfl rfl ?_
    refine s_getI dX3_readSign_135 rfl fl_3_40 (S_21 hK) ?_
    refine s_iconst (v := 1) dX3_readSign_138 rfl cI_1 ?_
    refine s_iadd dX3_readSign_139 rfl ?_
    refine s_putIL dX3_readSign_140 rfl fl_3_40 (S_21 hK) (fun I56 => ?_)
    refine s_goto (tgt := 152) dX3_readSign_143 rfl ?_
    exact s_vret dX3_readSign_152 rfl (fun f h => h)
  refine sm_ite (fun h57 => ?_) (fun h57 => ?_)
  · skip
    refine s_tin (tgt := 128) dX3_readSign_11 (by rw [h57]; try decide) (by rw [h57]; try decide) (by rw [h57]; try rfl) rfl ?_
    refine s_aload_n 1 dX3_readSign_128 rfl rfl ?_
    refine s_iload_n 0 dX3_readSign_129 rfl rfl ?_
    refine s_putIL dX3_readSign_130 rfl fl_3_49 (S_21 hK) (fun I58 => ?_)
    refine s_aload_n 1 dX3_readSign_133 rfl rfl ?_
    refine s_dup dX3_readSign_134 rfl rfl ?_
    refine s_getI dX3_readSign_135 rfl fl_3_40 (S_21 hK) ?_
    refine s_iconst (v := 1) dX3_readSign_138 rfl cI_1 ?_
    refine s_iadd dX3_readSign_139 rfl ?_
    refine s_putIL dX3_readSign_140 rfl fl_3_40 (S_21 hK) (fun I59 => ?_)
    refine s_goto (tgt := 152) dX3_readSign_143 rfl ?_
    exact s_vret dX3_readSign_152 rfl (fun f h => h)
  refine sm_ite (fun h60 => ?_) (fun h60 => ?_)
  · skip
    refine s_tin (tgt := 128) dX3_readSign_11 (by rw [h60]; try decide) (by rw [h60]; try decide) (by rw [h60]; try rfl) rfl ?_
    refine s_aload_n 1 dX3_readSign_128 rfl rfl ?_
    refine s_iload_n 0 dX3_readSign_129 rfl rfl ?_
    refine s_putIL dX3_readSign_130 rfl fl_3_49 (S_21 hK) (fun I61 => ?_)
    refine s_aload_n 1 dX3_readSign_133 rfl rfl ?_
    refine s_dup dX3_readSign_134 rfl rfl ?_
    refine s_getI dX3_readSign_135 rfl fl_3_40 (S_21 hK) ?_
    refine s_iconst (v := 1) dX3_readSign_138 rfl cI_1 ?_
    refine s_iadd dX3_readSign_139 rfl ?_
    refine s_putIL dX3_readSign_140 rfl fl_3_40 (S_21 hK) (fun I62 => ?_)
    refine s_goto (tgt := 152) dX3_readSign_143 rfl ?_
    exact s_vret dX3_readSign_152 rfl (fun f h => h)
  refine sm_ite (fun h63 => ?_) (fun h63 => ?_)
  · skip
    refine s_tin (tgt := 128) dX3_readSign_11 (by rw [h63]; try decide) (by rw [h63]; try decide) (by rw [h63]; try rfl) rfl ?_
    refine s_aload_n 1 dX3_readSign_128 rfl rfl ?_
    refine s_iload_n 0 dX3_readSign_129 rfl rfl ?_
    refine s_putIL dX3_readSign_130 rfl fl_3_49 (S_21 hK) (fun I64 => ?_)
    refine s_aload_n 1 dX3_readSign_133 rfl rfl ?_
    refine s_dup dX3_readSign_134 rfl rfl ?_
    refine s_getI dX3_readSign_135 rfl fl_3_40 (S_21 hK) ?_
    refine s_iconst (v := 1) dX3_readSign_138 rfl cI_1 ?_
    refine s_iadd dX3_readSign_139 rfl ?_
    refine s_putIL dX3_readSign_140 rfl fl_3_40 (S_21 hK) (fun I65 => ?_)
    refine s_goto (tgt := 152) dX3_readSign_143 rfl ?_
    exact s_vret dX3_readSign_152 rfl (fun f h => h)
  have hsw : ¬ (v2).toInt = 37 ∧ ¬ (v2).toInt = 38 ∧ ¬ (v2).toInt = 39 ∧ ¬ (v2).toInt = 40 ∧ ¬ (v2).toInt = 41 ∧ ¬ (v2).toInt = 42 ∧ ¬ (v2).toInt = 43 ∧ ¬ (v2).toInt = 44 ∧ ¬ (v2).toInt = 45 ∧ ¬ (v2).toInt = 46 ∧ ¬ (v2).toInt = 47 ∧ ¬ (v2).toInt = 48 ∧ ¬ (v2).toInt = 49 ∧ ¬ (v2).toInt = 50 ∧ ¬ (v2).toInt = 51 ∧ ¬ (v2).toInt = 52 ∧ ¬ (v2).toInt = 53 ∧ ¬ (v2).toInt = 54 ∧ ¬ (v2).toInt = 55 ∧ ¬ (v2).toInt = 56 ∧ ¬ (v2).toInt = 57 ∧ ¬ (v2).toInt = 58 ∧ ¬ (v2).toInt = 59 ∧ ¬ (v2).toInt = 60 ∧ ¬ (v2).toInt = 61 ∧ ¬ (v2).toInt = 62 := ⟨lv_neT h3 (a := 37) rfl, lv_neT h6 (a := 38) rfl, lv_neT h8 (a := 39) rfl, lv_neT h10 (a := 40) rfl, lv_neT h13 (a := 41) rfl, lv_neT h16 (a := 42) rfl, lv_neT h19 (a := 43) rfl, lv_neT h22 (a := 44) rfl, lv_neT h24 (a := 45) rfl, lv_neT h27 (a := 46) rfl, lv_neT h29 (a := 47) rfl, lv_neT h32 (a := 48) rfl, lv_neT h34 (a := 49) rfl, lv_neT h36 (a := 50) rfl, lv_neT h38 (a := 51) rfl, lv_neT h40 (a := 52) rfl, lv_neT h42 (a := 53) rfl, lv_neT h44 (a := 54) rfl, lv_neT h46 (a := 55) rfl, lv_neT h48 (a := 56) rfl, lv_neT h50 (a := 57) rfl, lv_neT h52 (a := 58) rfl, lv_neT h54 (a := 59) rfl, lv_neT h57 (a := 60) rfl, lv_neT h60 (a := 61) rfl, lv_neT h63 (a := 62) rfl⟩
  refine s_tout (tgt := 146) dX3_readSign_11 (by omega) rfl ?_
  refine s_aload_n 1 dX3_readSign_146 rfl rfl ?_
  refine s_bipush (v := 29) dX3_readSign_147 rfl cB_29 ?_
  refine s_putIL dX3_readSign_149 rfl fl_3_49 (S_21 hK) (fun I66 => ?_)
  exact s_vret dX3_readSign_152 rfl (fun f h => h)
noncomputable def x3_next_L0s (rec : MI → Option (MI)) (I : MI) : Option (MI) :=
if (I 21 3) < (I 21 2) then (
ck (vp_in (I 21 3) 1600) <|
if (I 1 (ix (I 21 3))) = 32 then (
lt (wI I 21 3 ((I 21 3) + 1)) fun I2 =>
rec I2) else
ck (vp_in (I 21 3) 1600) <|
if (I 1 (ix (I 21 3))) = 10 then (
lt (wI I 21 3 ((I 21 3) + 1)) fun I4 =>
rec I4) else
some I) else
some I
noncomputable def x3_next_L0 : Nat → MI → Option (MI)
  | 0 => fun _ => none
  | n + 1 => x3_next_L0s (x3_next_L0 n)
noncomputable def x3_next (I : MI) (L : ML) : Option (MI × ML) :=
b1 (x3_next_L0 FU I) fun e5 =>
lt (wI e5 21 5 (e5 21 3)) fun I6 =>
if (I6 21 3) < (I6 21 2) then (
ck (vp_in (I6 21 3) 1600) <|
if (I6 1 (ix (I6 21 3))) < 97 then (
ck (vp_in (I6 21 3) 1600) <|
if (I6 1 (ix (I6 21 3))) < 48 then (
b1 (x3_readSign I6) fun I9 =>
some (I9, L)) else
ck (vp_in (I6 21 3) 1600) <|
if 57 < (I6 1 (ix (I6 21 3))) then (
b1 (x3_readSign I6) fun I11 =>
some (I11, L)) else
b1 (x3_readNumber I6) fun I12 =>
some (I12, L)) else
ck (vp_in (I6 21 3) 1600) <|
if 122 < (I6 1 (ix (I6 21 3))) then (
ck (vp_in (I6 21 3) 1600) <|
if (I6 1 (ix (I6 21 3))) < 48 then (
b1 (x3_readSign I6) fun I15 =>
some (I15, L)) else
ck (vp_in (I6 21 3) 1600) <|
if 57 < (I6 1 (ix (I6 21 3))) then (
b1 (x3_readSign I6) fun I17 =>
some (I17, L)) else
b1 (x3_readNumber I6) fun I18 =>
some (I18, L)) else
b2 (x3_readWord I6 L) fun I19 L20 =>
some (I19, L20)) else
lt (wI I6 21 4 (28 : Int32)) fun I21 =>
some (I21, L)
theorem x3_next_L0_ok {X : WX} {n0 s0 : Nat} {L : ML} {R : MR} {S : MS} (hK : okr R S) (hx : R 21 1 = some 1) : ∀ (n : Nat) (I : MI), Sim X yX3_next cX3_next 1 none 1 21 n0 s0 0 [(0, .ref (X.1 + 21))] [] (I, L, R, S) (x3_next_L0 n I) (fun b f => Ex X yX3_next cX3_next 1 none 1 21 n0 s0 52 [(0, .ref (X.1 + 21))] [] (b, L, R, S) f) := by
  intro n
  induction n with
  | zero =>
    intro I
    exact sm_none
  | succ n ih =>
    intro I
    change Sim _ _ _ _ _ _ _ _ _ _ _ _ _ (x3_next_L0s (x3_next_L0 n) I) _
    unfold x3_next_L0s
    refine s_aload_n 0 dX3_next_0 rfl rfl ?_
    refine s_getI dX3_next_1 rfl fl_3_40 (S_21 hK) ?_
    refine s_aload_n 0 dX3_next_4 rfl rfl ?_
    refine s_getI dX3_next_5 rfl fl_3_37 (S_21 hK) ?_
    refine s_icmp_ge (tgt := 52) dX3_next_8 rfl rfl (fun _ => ?_) (fun _ => ?_)
    · skip
      exact sm_exit (fun f h => h)
    · skip
      refine s_aload_n 0 dX3_next_11 rfl rfl ?_
      refine s_getR 1 dX3_next_12 rfl fl_3_13 rfl (S_21 hK) hx ?_
      refine s_aload_n 0 dX3_next_15 rfl rfl ?_
      refine s_getI dX3_next_16 rfl fl_3_40 (S_21 hK) ?_
      refine sm_ck (fun g1 => ?_)
      refine s_bald dX3_next_19 rfl (S_1 hK) g1 ?_
      refine s_bipush (v := 32) dX3_next_20 rfl cB_32 ?_
      refine s_icmp_eq (tgt := 39) dX3_next_22 rfl rfl (fun _ => ?_) (fun _ => ?_)
      · skip
        refine s_aload_n 0 dX3_next_39 rfl rfl ?_
        refine s_dup dX3_next_40 rfl rfl ?_
        refine s_getI dX3_next_41 rfl fl_3_40 (S_21 hK) ?_
        refine s_iconst (v := 1) dX3_next_44 rfl cI_1 ?_
        refine s_iadd dX3_next_45 rfl ?_
        refine s_putIL dX3_next_46 rfl fl_3_40 (S_21 hK) (fun I2 => ?_)
        refine s_goto (tgt := 0) dX3_next_49 rfl ?_
        exact ih I2
      · skip
        refine s_aload_n 0 dX3_next_25 rfl rfl ?_
        refine s_getR 1 dX3_next_26 rfl fl_3_13 rfl (S_21 hK) hx ?_
        refine s_aload_n 0 dX3_next_29 rfl rfl ?_
        refine s_getI dX3_next_30 rfl fl_3_40 (S_21 hK) ?_
        refine sm_ck (fun g3 => ?_)
        refine s_bald dX3_next_33 rfl (S_1 hK) g3 ?_
        refine s_bipush (v := 10) dX3_next_34 rfl cB_10 ?_
        refine s_icmp_ne (tgt := 52) dX3_next_36 rfl rfl (fun _ => ?_) (fun _ => ?_)
        · skip
          exact sm_exit (fun f h => h)
        · skip
          refine s_aload_n 0 dX3_next_39 rfl rfl ?_
          refine s_dup dX3_next_40 rfl rfl ?_
          refine s_getI dX3_next_41 rfl fl_3_40 (S_21 hK) ?_
          refine s_iconst (v := 1) dX3_next_44 rfl cI_1 ?_
          refine s_iadd dX3_next_45 rfl ?_
          refine s_putIL dX3_next_46 rfl fl_3_40 (S_21 hK) (fun I4 => ?_)
          refine s_goto (tgt := 0) dX3_next_49 rfl ?_
          exact ih I4
theorem ct_x3_next {X : WX} {I : MI} {L : ML} {R : MR} {S : MS} (hK : okr R S) (hx : R 21 1 = some 1) : Ct X yX3_next cX3_next 1 none 1 21 [.ref (X.1 + 21)] (I, L, R, S) (x3_next I L) (fun r => (none, (r.1, r.2, R, S))) := by
  refine Ct.of (by decide) (Nat.le_of_ble_eq_true rfl) [(0, .ref (X.1 + 21))] rfl ?_
  unfold x3_next
  refine sm_reg (x3_next_L0_ok hK hx FU I) (fun e5 => ?_)
  refine s_aload_n 0 dX3_next_52 rfl rfl ?_
  refine s_aload_n 0 dX3_next_53 rfl rfl ?_
  refine s_getI dX3_next_54 rfl fl_3_40 (S_21 hK) ?_
  refine s_putIL dX3_next_57 rfl fl_3_46 (S_21 hK) (fun I6 => ?_)
  refine s_aload_n 0 dX3_next_60 rfl rfl ?_
  refine s_getI dX3_next_61 rfl fl_3_40 (S_21 hK) ?_
  refine s_aload_n 0 dX3_next_64 rfl rfl ?_
  refine s_getI dX3_next_65 rfl fl_3_37 (S_21 hK) ?_
  refine s_icmp_lt (tgt := 80) dX3_next_68 rfl rfl (fun _ => ?_) (fun _ => ?_)
  · skip
    refine s_aload_n 0 dX3_next_80 rfl rfl ?_
    refine s_getR 1 dX3_next_81 rfl fl_3_13 rfl (S_21 hK) hx ?_
    refine s_aload_n 0 dX3_next_84 rfl rfl ?_
    refine s_getI dX3_next_85 rfl fl_3_40 (S_21 hK) ?_
    refine sm_ck (fun g7 => ?_)
    refine s_bald dX3_next_88 rfl (S_1 hK) g7 ?_
    refine s_bipush (v := 97) dX3_next_89 rfl cB_97 ?_
    refine s_icmp_lt (tgt := 115) dX3_next_91 rfl rfl (fun _ => ?_) (fun _ => ?_)
    · skip
      refine s_aload_n 0 dX3_next_115 rfl rfl ?_
      refine s_getR 1 dX3_next_116 rfl fl_3_13 rfl (S_21 hK) hx ?_
      refine s_aload_n 0 dX3_next_119 rfl rfl ?_
      refine s_getI dX3_next_120 rfl fl_3_40 (S_21 hK) ?_
      refine sm_ck (fun g8 => ?_)
      refine s_bald dX3_next_123 rfl (S_1 hK) g8 ?_
      refine s_bipush (v := 48) dX3_next_124 rfl cB_48 ?_
      refine s_icmp_lt (tgt := 150) dX3_next_126 rfl rfl (fun _ => ?_) (fun _ => ?_)
      · skip
        refine s_aload_n 0 dX3_next_150 rfl rfl ?_
        refine s_callV0_v1 dX3_next_151 rfl lkV_RX3_58 (S_21 hK) (Nat.le_of_ble_eq_true rfl) (Nat.le_of_ble_eq_true rfl) (Nat.le_of_ble_eq_true rfl) (ct_x3_readSign hK hx) (fun I9 => ?_)
        exact s_vret dX3_next_154 rfl (fun f h => h)
      · skip
        refine s_aload_n 0 dX3_next_129 rfl rfl ?_
        refine s_getR 1 dX3_next_130 rfl fl_3_13 rfl (S_21 hK) hx ?_
        refine s_aload_n 0 dX3_next_133 rfl rfl ?_
        refine s_getI dX3_next_134 rfl fl_3_40 (S_21 hK) ?_
        refine sm_ck (fun g10 => ?_)
        refine s_bald dX3_next_137 rfl (S_1 hK) g10 ?_
        refine s_bipush (v := 57) dX3_next_138 rfl cB_57 ?_
        refine s_icmp_gt (tgt := 150) dX3_next_140 rfl rfl (fun _ => ?_) (fun _ => ?_)
        · skip
          refine s_aload_n 0 dX3_next_150 rfl rfl ?_
          refine s_callV0_v1 dX3_next_151 rfl lkV_RX3_58 (S_21 hK) (Nat.le_of_ble_eq_true rfl) (Nat.le_of_ble_eq_true rfl) (Nat.le_of_ble_eq_true rfl) (ct_x3_readSign hK hx) (fun I11 => ?_)
          exact s_vret dX3_next_154 rfl (fun f h => h)
        · skip
          refine s_aload_n 0 dX3_next_143 rfl rfl ?_
          refine s_callV0_v1 dX3_next_144 rfl lkV_RX3_55 (S_21 hK) (Nat.le_of_ble_eq_true rfl) (Nat.le_of_ble_eq_true rfl) (Nat.le_of_ble_eq_true rfl) (ct_x3_readNumber hK hx) (fun I12 => ?_)
          refine s_goto (tgt := 154) dX3_next_147 rfl ?_
          exact s_vret dX3_next_154 rfl (fun f h => h)
    · skip
      refine s_aload_n 0 dX3_next_94 rfl rfl ?_
      refine s_getR 1 dX3_next_95 rfl fl_3_13 rfl (S_21 hK) hx ?_
      refine s_aload_n 0 dX3_next_98 rfl rfl ?_
      refine s_getI dX3_next_99 rfl fl_3_40 (S_21 hK) ?_
      refine sm_ck (fun g13 => ?_)
      refine s_bald dX3_next_102 rfl (S_1 hK) g13 ?_
      refine s_bipush (v := 122) dX3_next_103 rfl cB_122 ?_
      refine s_icmp_gt (tgt := 115) dX3_next_105 rfl rfl (fun _ => ?_) (fun _ => ?_)
      · skip
        refine s_aload_n 0 dX3_next_115 rfl rfl ?_
        refine s_getR 1 dX3_next_116 rfl fl_3_13 rfl (S_21 hK) hx ?_
        refine s_aload_n 0 dX3_next_119 rfl rfl ?_
        refine s_getI dX3_next_120 rfl fl_3_40 (S_21 hK) ?_
        refine sm_ck (fun g14 => ?_)
        refine s_bald dX3_next_123 rfl (S_1 hK) g14 ?_
        refine s_bipush (v := 48) dX3_next_124 rfl cB_48 ?_
        refine s_icmp_lt (tgt := 150) dX3_next_126 rfl rfl (fun _ => ?_) (fun _ => ?_)
        · skip
          refine s_aload_n 0 dX3_next_150 rfl rfl ?_
          refine s_callV0_v1 dX3_next_151 rfl lkV_RX3_58 (S_21 hK) (Nat.le_of_ble_eq_true rfl) (Nat.le_of_ble_eq_true rfl) (Nat.le_of_ble_eq_true rfl) (ct_x3_readSign hK hx) (fun I15 => ?_)
          exact s_vret dX3_next_154 rfl (fun f h => h)
        · skip
          refine s_aload_n 0 dX3_next_129 rfl rfl ?_
          refine s_getR 1 dX3_next_130 rfl fl_3_13 rfl (S_21 hK) hx ?_
          refine s_aload_n 0 dX3_next_133 rfl rfl ?_
          refine s_getI dX3_next_134 rfl fl_3_40 (S_21 hK) ?_
          refine sm_ck (fun g16 => ?_)
          refine s_bald dX3_next_137 rfl (S_1 hK) g16 ?_
          refine s_bipush (v := 57) dX3_next_138 rfl cB_57 ?_
          refine s_icmp_gt (tgt := 150) dX3_next_140 rfl rfl (fun _ => ?_) (fun _ => ?_)
          · skip
            refine s_aload_n 0 dX3_next_150 rfl rfl ?_
            refine s_callV0_v1 dX3_next_151 rfl lkV_RX3_58 (S_21 hK) (Nat.le_of_ble_eq_true rfl) (Nat.le_of_ble_eq_true rfl) (Nat.le_of_ble_eq_true rfl) (ct_x3_readSign hK hx) (fun I17 => ?_)
            exact s_vret dX3_next_154 rfl (fun f h => h)
          · skip
            refine s_aload_n 0 dX3_next_143 rfl rfl ?_
            refine s_callV0_v1 dX3_next_144 rfl lkV_RX3_55 (S_21 hK) (Nat.le_of_ble_eq_true rfl) (Nat.le_of_ble_eq_true rfl) (Nat.le_of_ble_eq_true rfl) (ct_x3_readNumber hK hx) (fun I18 => ?_)
            refine s_goto (tgt := 154) dX3_next_147 rfl ?_
            exact s_vret dX3_next_154 rfl (fun f h => h)
      · skip
        refine s_aload_n 0 dX3_next_108 rfl rfl ?_
        refine s_callV0_v2 dX3_next_109 rfl lkV_RX3_52 (S_21 hK) (Nat.le_of_ble_eq_true rfl) (Nat.le_of_ble_eq_true rfl) (Nat.le_of_ble_eq_true rfl) (ct_x3_readWord hK hx) (fun I19 L20 => ?_)
        refine s_goto (tgt := 154) dX3_next_112 rfl ?_
        exact s_vret dX3_next_154 rfl (fun f h => h)
  · skip
    refine s_aload_n 0 dX3_next_71 rfl rfl ?_
    refine s_bipush (v := 28) dX3_next_72 rfl cB_28 ?_
    refine s_putIL dX3_next_74 rfl fl_3_49 (S_21 hK) (fun I21 => ?_)
    refine s_goto (tgt := 154) dX3_next_77 rfl ?_
    exact s_vret dX3_next_154 rfl (fun f h => h)
