noncomputable def x5_drawLine (r : Nat) (I : MI) (L : ML) : Option (Int32 × MI × ML) :=
if (I 20 5) = 0 then (
lt (wI I 20 5 (1 : Int32)) fun I1 =>
b3 (x5_numberBehind (18 : Int32) (0 : Int32) (999 : Int32) I1 L) fun r2 I3 L4 =>
lt (wI I3 r 2 r2) fun I5 =>
if (I5 r 2) = (-1) then (
some ((0 : Int32), I5, L4)) else
some ((1 : Int32), I5, L4)) else
b2 (x5_fail (2 : Int32) I) fun r6 I7 =>
ck (r6 = 0 ∨ r6 = 1) (some (r6, I7, L))
theorem ct_x5_drawLine {X : WX} {r : Nat} {I : MI} {L : ML} {R : MR} {S : MS} (hK : okr R S) (hr : R 20 4 = some r ∧ isT r) (hx : R 21 1 = some 1) : Ct X yX5_drawLine cX5_drawLine 1 (some .boolean) 4 87 [.ref (X.1 + 20)] (I, L, R, S) (x5_drawLine r I L) (fun r => (some (.int r.1), (r.2.1, r.2.2, R, S))) := by
  refine Ct.of (by decide) (Nat.le_of_ble_eq_true rfl) [(0, .ref (X.1 + 20))] rfl ?_
  unfold x5_drawLine
  refine s_aload_n 0 dX5_drawLine_0 rfl rfl ?_
  refine s_getZ dX5_drawLine_1 rfl fl_5_41 (S_20 hK) ?_
  refine s_if_eq (tgt := 13) dX5_drawLine_4 rfl rfl (fun _ => ?_) (fun _ => ?_)
  · skip
    refine s_aload_n 0 dX5_drawLine_13 rfl rfl ?_
    refine s_iconst (v := 1) dX5_drawLine_14 rfl cI_1 ?_
    refine s_putZL dX5_drawLine_15 rfl fl_5_41 (S_20 hK) (Or.inr rfl) (fun I1 => ?_)
    refine s_aload_n 0 dX5_drawLine_18 rfl rfl ?_
    refine s_getR r dX5_drawLine_19 rfl fl_5_32 rfl (S_20 hK) hr.1 ?_
    refine s_aload_n 0 dX5_drawLine_22 rfl rfl ?_
    refine s_bipush (v := 18) dX5_drawLine_23 rfl cB_18 ?_
    refine s_iconst (v := 0) dX5_drawLine_25 rfl cI_0 ?_
    refine s_sipush (v := 999) dX5_drawLine_26 rfl cS_999 ?_
    refine s_callV3_i2 dX5_drawLine_29 rfl lkV_RX5_111 (S_20 hK) (Nat.le_of_ble_eq_true rfl) (Nat.le_of_ble_eq_true rfl) (Nat.le_of_ble_eq_true rfl) (ct_x5_numberBehind hK hx) (fun r2 I3 L4 => ?_)
    refine s_putIL dX5_drawLine_32 rfl fl_5_137 (tS_0 hK hr.2) (fun I5 => ?_)
    refine s_aload_n 0 dX5_drawLine_35 rfl rfl ?_
    refine s_getR r dX5_drawLine_36 rfl fl_5_32 rfl (S_20 hK) hr.1 ?_
    refine s_getI dX5_drawLine_39 rfl fl_5_137 (tS_0 hK hr.2) ?_
    refine s_iconst (v := (-1)) dX5_drawLine_42 rfl cI_m1 ?_
    refine s_icmp_eq (tgt := 50) dX5_drawLine_43 rfl rfl (fun _ => ?_) (fun _ => ?_)
    · skip
      refine s_iconst (v := 0) dX5_drawLine_50 rfl cI_0 ?_
      exact s_zret dX5_drawLine_51 rfl (Or.inl rfl) (fun f h => h)
    · skip
      refine s_iconst (v := 1) dX5_drawLine_46 rfl cI_1 ?_
      refine s_goto (tgt := 51) dX5_drawLine_47 rfl ?_
      exact s_zret dX5_drawLine_51 rfl (Or.inr rfl) (fun f h => h)
  · skip
    refine s_aload_n 0 dX5_drawLine_7 rfl rfl ?_
    refine s_iconst (v := 2) dX5_drawLine_8 rfl cI_2 ?_
    refine s_callV1_i1 dX5_drawLine_9 rfl lkV_RX5_66 (S_20 hK) (Nat.le_of_ble_eq_true rfl) (Nat.le_of_ble_eq_true rfl) (Nat.le_of_ble_eq_true rfl) (ct_x5_fail hK) (fun r6 I7 => ?_)
    refine sm_ck (fun g8 => ?_)
    exact s_zret dX5_drawLine_12 rfl g8 (fun f h => h)
noncomputable def x5_biteLine (r : Nat) (I : MI) (L : ML) : Option (Int32 × MI × ML) :=
if (I 20 6) = 0 then (
lt (wI I 20 6 (1 : Int32)) fun I1 =>
b3 (x5_numberBehind (19 : Int32) (0 : Int32) (9 : Int32) I1 L) fun r2 I3 L4 =>
lt (wI I3 r 3 r2) fun I5 =>
if (I5 r 3) = (-1) then (
some ((0 : Int32), I5, L4)) else
some ((1 : Int32), I5, L4)) else
b2 (x5_fail (2 : Int32) I) fun r6 I7 =>
ck (r6 = 0 ∨ r6 = 1) (some (r6, I7, L))
theorem ct_x5_biteLine {X : WX} {r : Nat} {I : MI} {L : ML} {R : MR} {S : MS} (hK : okr R S) (hr : R 20 4 = some r ∧ isT r) (hx : R 21 1 = some 1) : Ct X yX5_biteLine cX5_biteLine 1 (some .boolean) 4 87 [.ref (X.1 + 20)] (I, L, R, S) (x5_biteLine r I L) (fun r => (some (.int r.1), (r.2.1, r.2.2, R, S))) := by
  refine Ct.of (by decide) (Nat.le_of_ble_eq_true rfl) [(0, .ref (X.1 + 20))] rfl ?_
  unfold x5_biteLine
  refine s_aload_n 0 dX5_biteLine_0 rfl rfl ?_
  refine s_getZ dX5_biteLine_1 rfl fl_5_45 (S_20 hK) ?_
  refine s_if_eq (tgt := 13) dX5_biteLine_4 rfl rfl (fun _ => ?_) (fun _ => ?_)
  · skip
    refine s_aload_n 0 dX5_biteLine_13 rfl rfl ?_
    refine s_iconst (v := 1) dX5_biteLine_14 rfl cI_1 ?_
    refine s_putZL dX5_biteLine_15 rfl fl_5_45 (S_20 hK) (Or.inr rfl) (fun I1 => ?_)
    refine s_aload_n 0 dX5_biteLine_18 rfl rfl ?_
    refine s_getR r dX5_biteLine_19 rfl fl_5_32 rfl (S_20 hK) hr.1 ?_
    refine s_aload_n 0 dX5_biteLine_22 rfl rfl ?_
    refine s_bipush (v := 19) dX5_biteLine_23 rfl cB_19 ?_
    refine s_iconst (v := 0) dX5_biteLine_25 rfl cI_0 ?_
    refine s_bipush (v := 9) dX5_biteLine_26 rfl cB_9 ?_
    refine s_callV3_i2 dX5_biteLine_28 rfl lkV_RX5_111 (S_20 hK) (Nat.le_of_ble_eq_true rfl) (Nat.le_of_ble_eq_true rfl) (Nat.le_of_ble_eq_true rfl) (ct_x5_numberBehind hK hx) (fun r2 I3 L4 => ?_)
    refine s_putIL dX5_biteLine_31 rfl fl_5_140 (tS_0 hK hr.2) (fun I5 => ?_)
    refine s_aload_n 0 dX5_biteLine_34 rfl rfl ?_
    refine s_getR r dX5_biteLine_35 rfl fl_5_32 rfl (S_20 hK) hr.1 ?_
    refine s_getI dX5_biteLine_38 rfl fl_5_140 (tS_0 hK hr.2) ?_
    refine s_iconst (v := (-1)) dX5_biteLine_41 rfl cI_m1 ?_
    refine s_icmp_eq (tgt := 49) dX5_biteLine_42 rfl rfl (fun _ => ?_) (fun _ => ?_)
    · skip
      refine s_iconst (v := 0) dX5_biteLine_49 rfl cI_0 ?_
      exact s_zret dX5_biteLine_50 rfl (Or.inl rfl) (fun f h => h)
    · skip
      refine s_iconst (v := 1) dX5_biteLine_45 rfl cI_1 ?_
      refine s_goto (tgt := 50) dX5_biteLine_46 rfl ?_
      exact s_zret dX5_biteLine_50 rfl (Or.inr rfl) (fun f h => h)
  · skip
    refine s_aload_n 0 dX5_biteLine_7 rfl rfl ?_
    refine s_iconst (v := 2) dX5_biteLine_8 rfl cI_2 ?_
    refine s_callV1_i1 dX5_biteLine_9 rfl lkV_RX5_66 (S_20 hK) (Nat.le_of_ble_eq_true rfl) (Nat.le_of_ble_eq_true rfl) (Nat.le_of_ble_eq_true rfl) (ct_x5_fail hK) (fun r6 I7 => ?_)
    refine sm_ck (fun g8 => ?_)
    exact s_zret dX5_biteLine_12 rfl g8 (fun f h => h)
noncomputable def x5_line (r : Nat) (I : MI) (L : ML) : Option (Int32 × MI × ML) :=
b1 (
if (I 21 4) = 0 then (
some (1 : Int32)) else
some (0 : Int32)) fun e1 =>
lt e1 fun v2 =>
b1 (
if 0 < (I r 0) then (
some (1 : Int32)) else
some (0 : Int32)) fun e3 =>
lt e3 fun v4 =>
if v2 = v4 then (
b2 (x5_fail (2 : Int32) I) fun r109 I110 =>
ck (r109 = 0 ∨ r109 = 1) (some (r109, I110, L))) else
if (I 21 4) = 0 then (
b3 (x5_tubLine r I L) fun r6 I7 L8 =>
if r6 = 0 then (
some ((0 : Int32), I7, L8)) else
b3 (x5_token (59 : Int32) I7 L8) fun r9 I10 L11 =>
if r9 = 0 then (
some ((0 : Int32), I10, L11)) else
some ((1 : Int32), I10, L11)) else
if (I 21 4) = 1 then (
b2 (x5_fail (2 : Int32) I) fun r13 I14 =>
ck (r13 = 0 ∨ r13 = 1) (some (r13, I14, L))) else
if (I 21 4) = 2 then (
b3 (x5_oddsLine r I L) fun r17 I18 L19 =>
if r17 = 0 then (
some ((0 : Int32), I18, L19)) else
b3 (x5_token (59 : Int32) I18 L19) fun r20 I21 L22 =>
if r20 = 0 then (
some ((0 : Int32), I21, L22)) else
some ((1 : Int32), I21, L22)) else
if (I 21 4) = 3 then (
b2 (x5_fail (2 : Int32) I) fun r24 I25 =>
ck (r24 = 0 ∨ r24 = 1) (some (r24, I25, L))) else
if (I 21 4) = 4 then (
b2 (x5_fail (2 : Int32) I) fun r28 I29 =>
ck (r28 = 0 ∨ r28 = 1) (some (r28, I29, L))) else
if (I 21 4) = 5 then (
b2 (x5_fail (2 : Int32) I) fun r32 I33 =>
ck (r32 = 0 ∨ r32 = 1) (some (r32, I33, L))) else
if (I 21 4) = 6 then (
b2 (x5_fail (2 : Int32) I) fun r36 I37 =>
ck (r36 = 0 ∨ r36 = 1) (some (r36, I37, L))) else
if (I 21 4) = 7 then (
b2 (x5_fail (2 : Int32) I) fun r40 I41 =>
ck (r40 = 0 ∨ r40 = 1) (some (r40, I41, L))) else
if (I 21 4) = 8 then (
b3 (x5_ruleLine r I L) fun r44 I45 L46 =>
if r44 = 0 then (
some ((0 : Int32), I45, L46)) else
b3 (x5_token (59 : Int32) I45 L46) fun r47 I48 L49 =>
if r47 = 0 then (
some ((0 : Int32), I48, L49)) else
some ((1 : Int32), I48, L49)) else
if (I 21 4) = 9 then (
b3 (x5_appleLine r I L) fun r51 I52 L53 =>
if r51 = 0 then (
some ((0 : Int32), I52, L53)) else
b3 (x5_token (59 : Int32) I52 L53) fun r54 I55 L56 =>
if r54 = 0 then (
some ((0 : Int32), I55, L56)) else
some ((1 : Int32), I55, L56)) else
if (I 21 4) = 10 then (
b2 (x5_fail (2 : Int32) I) fun r58 I59 =>
ck (r58 = 0 ∨ r58 = 1) (some (r58, I59, L))) else
if (I 21 4) = 11 then (
b2 (x5_fail (2 : Int32) I) fun r62 I63 =>
ck (r62 = 0 ∨ r62 = 1) (some (r62, I63, L))) else
if (I 21 4) = 12 then (
b2 (x5_fail (2 : Int32) I) fun r66 I67 =>
ck (r66 = 0 ∨ r66 = 1) (some (r66, I67, L))) else
if (I 21 4) = 13 then (
b2 (x5_fail (2 : Int32) I) fun r70 I71 =>
ck (r70 = 0 ∨ r70 = 1) (some (r70, I71, L))) else
if (I 21 4) = 14 then (
b3 (x5_bobberLine r I L) fun r74 I75 L76 =>
if r74 = 0 then (
some ((0 : Int32), I75, L76)) else
b3 (x5_token (59 : Int32) I75 L76) fun r77 I78 L79 =>
if r77 = 0 then (
some ((0 : Int32), I78, L79)) else
some ((1 : Int32), I78, L79)) else
if (I 21 4) = 15 then (
b2 (x5_fail (2 : Int32) I) fun r81 I82 =>
ck (r81 = 0 ∨ r81 = 1) (some (r81, I82, L))) else
if (I 21 4) = 16 then (
b2 (x5_fail (2 : Int32) I) fun r85 I86 =>
ck (r85 = 0 ∨ r85 = 1) (some (r85, I86, L))) else
if (I 21 4) = 17 then (
b2 (x5_fail (2 : Int32) I) fun r89 I90 =>
ck (r89 = 0 ∨ r89 = 1) (some (r89, I90, L))) else
if (I 21 4) = 18 then (
b3 (x5_drawLine r I L) fun r93 I94 L95 =>
if r93 = 0 then (
some ((0 : Int32), I94, L95)) else
b3 (x5_token (59 : Int32) I94 L95) fun r96 I97 L98 =>
if r96 = 0 then (
some ((0 : Int32), I97, L98)) else
some ((1 : Int32), I97, L98)) else
if (I 21 4) = 19 then (
b3 (x5_biteLine r I L) fun r100 I101 L102 =>
if r100 = 0 then (
some ((0 : Int32), I101, L102)) else
b3 (x5_token (59 : Int32) I101 L102) fun r103 I104 L105 =>
if r103 = 0 then (
some ((0 : Int32), I104, L105)) else
some ((1 : Int32), I104, L105)) else
b2 (x5_fail (2 : Int32) I) fun r106 I107 =>
ck (r106 = 0 ∨ r106 = 1) (some (r106, I107, L))
theorem ct_x5_line {X : WX} {r : Nat} {I : MI} {L : ML} {R : MR} {S : MS} (hK : okr R S) (hr : R 20 4 = some r ∧ isT r) (hx : R 21 1 = some 1) : Ct X yX5_line cX5_line 3 (some .boolean) 243 5466 [.ref (X.1 + 20)] (I, L, R, S) (x5_line r I L) (fun r => (some (.int r.1), (r.2.1, r.2.2, R, S))) := by
  refine Ct.of (by decide) (Nat.le_of_ble_eq_true rfl) [(0, .ref (X.1 + 20))] rfl ?_
  unfold x5_line
  refine s_aload_n 0 dX5_line_0 rfl rfl ?_
  refine s_getR 21 dX5_line_1 rfl fl_5_12 rfl (S_20 hK) (R_20_0 hK) ?_
  refine s_getI dX5_line_4 rfl fl_5_55 (S_21 hK) ?_
  refine sm_reg (pcx := 15) (lsx := fun e1 => [(0, .ref (X.1 + 20))]) (stx := fun e1 => [.int e1]) (ux := fun e1 => (I, L, R, S)) ?_ (fun e1 => ?_)
  · skip
    refine s_if_ne (tgt := 14) dX5_line_7 rfl rfl (fun _ => ?_) (fun _ => ?_)
    · skip
      refine s_iconst (v := 0) dX5_line_14 rfl cI_0 ?_
      exact sm_exit (fun f h => h)
    · skip
      refine s_iconst (v := 1) dX5_line_10 rfl cI_1 ?_
      refine s_goto (tgt := 15) dX5_line_11 rfl ?_
      exact sm_exit (fun f h => h)
  · skip
    refine s_istore_nL (fun v2 => [(1, .int v2), (0, .ref (X.1 + 20))]) dX5_line_15 rfl (by decide) (fun _ => rfl) (fun v2 => ?_)
    refine s_aload_n 1 dX5_line_16 rfl rfl ?_
    refine s_getR r dX5_line_17 rfl fl_5_32 rfl (S_20 hK) hr.1 ?_
    refine s_getI dX5_line_20 rfl fl_5_63 (tS_0 hK hr.2) ?_
    refine sm_reg (pcx := 31) (lsx := fun e3 => [(0, .ref (X.1 + 20)), (1, .int v2)]) (stx := fun e3 => [.int e3]) (ux := fun e3 => (I, L, R, S)) ?_ (fun e3 => ?_)
    · skip
      refine s_if_le (tgt := 30) dX5_line_23 rfl rfl (fun _ => ?_) (fun _ => ?_)
      · skip
        refine s_iconst (v := 0) dX5_line_30 rfl cI_0 ?_
        refine s_pick [1, 0] rfl ?_
        exact sm_exit (fun f h => h)
      · skip
        refine s_iconst (v := 1) dX5_line_26 rfl cI_1 ?_
        refine s_goto (tgt := 31) dX5_line_27 rfl ?_
        refine s_pick [1, 0] rfl ?_
        exact sm_exit (fun f h => h)
    · skip
      refine s_istore_nL (fun v4 => [(2, .int v4), (0, .ref (X.1 + 20)), (1, .int v2)]) dX5_line_31 rfl (by decide) (fun _ => rfl) (fun v4 => ?_)
      refine s_iload_n 2 dX5_line_32 rfl rfl ?_
      refine s_iload_n 0 dX5_line_33 rfl rfl ?_
      refine s_icmp_ne (tgt := 43) dX5_line_34 rfl rfl (fun _ => ?_) (fun _ => ?_)
      · skip
        refine s_aload_n 1 dX5_line_43 rfl rfl ?_
        refine s_getR 21 dX5_line_44 rfl fl_5_12 rfl (S_20 hK) (R_20_0 hK) ?_
        refine s_getI dX5_line_47 rfl fl_5_55 (S_21 hK) ?_
        refine sm_ite (fun h5 => ?_) (fun h5 => ?_)
        · skip
          refine s_tin (tgt := 144) dX5_line_50 (by rw [h5]; try decide) (by rw [h5]; try decide) (by rw [h5]; try rfl) rfl ?_
          refine s_aload_n 1 dX5_line_144 rfl rfl ?_
          refine s_callV0_i2 dX5_line_145 rfl lkV_RX5_70 (S_20 hK) (Nat.le_of_ble_eq_true rfl) (Nat.le_of_ble_eq_true rfl) (Nat.le_of_ble_eq_true rfl) (ct_x5_tubLine hK hr hx) (fun r6 I7 L8 => ?_)
          refine s_if_eq (tgt := 164) dX5_line_148 rfl rfl (fun _ => ?_) (fun _ => ?_)
          · skip
            refine s_iconst (v := 0) dX5_line_164 rfl cI_0 ?_
            exact s_zret dX5_line_165 rfl (Or.inl rfl) (fun f h => h)
          · skip
            refine s_aload_n 1 dX5_line_151 rfl rfl ?_
            refine s_bipush (v := 59) dX5_line_152 rfl cB_59 ?_
            refine s_callV1_i2 dX5_line_154 rfl lkV_RX5_73 (S_20 hK) (Nat.le_of_ble_eq_true rfl) (Nat.le_of_ble_eq_true rfl) (Nat.le_of_ble_eq_true rfl) (ct_x5_token hK hx) (fun r9 I10 L11 => ?_)
            refine s_if_eq (tgt := 164) dX5_line_157 rfl rfl (fun _ => ?_) (fun _ => ?_)
            · skip
              refine s_iconst (v := 0) dX5_line_164 rfl cI_0 ?_
              exact s_zret dX5_line_165 rfl (Or.inl rfl) (fun f h => h)
            · skip
              refine s_iconst (v := 1) dX5_line_160 rfl cI_1 ?_
              refine s_goto (tgt := 165) dX5_line_161 rfl ?_
              exact s_zret dX5_line_165 rfl (Or.inr rfl) (fun f h => h)
        refine sm_ite (fun h12 => ?_) (fun h12 => ?_)
        · skip
          refine s_tin (tgt := 298) dX5_line_50 (by rw [h12]; try decide) (by rw [h12]; try decide) (by rw [h12]; try rfl) rfl ?_
          refine s_aload_n 1 dX5_line_298 rfl rfl ?_
          refine s_iconst (v := 2) dX5_line_299 rfl cI_2 ?_
          refine s_callV1_i1 dX5_line_300 rfl lkV_RX5_66 (S_20 hK) (Nat.le_of_ble_eq_true rfl) (Nat.le_of_ble_eq_true rfl) (Nat.le_of_ble_eq_true rfl) (ct_x5_fail hK) (fun r13 I14 => ?_)
          refine sm_ck (fun g15 => ?_)
          exact s_zret dX5_line_303 rfl g15 (fun f h => h)
        refine sm_ite (fun h16 => ?_) (fun h16 => ?_)
        · skip
          refine s_tin (tgt := 166) dX5_line_50 (by rw [h16]; try decide) (by rw [h16]; try decide) (by rw [h16]; try rfl) rfl ?_
          refine s_aload_n 1 dX5_line_166 rfl rfl ?_
          refine s_callV0_i2 dX5_line_167 rfl lkV_RX5_76 (S_20 hK) (Nat.le_of_ble_eq_true rfl) (Nat.le_of_ble_eq_true rfl) (Nat.le_of_ble_eq_true rfl) (ct_x5_oddsLine hK hr hx) (fun r17 I18 L19 => ?_)
          refine s_if_eq (tgt := 186) dX5_line_170 rfl rfl (fun _ => ?_) (fun _ => ?_)
          · skip
            refine s_iconst (v := 0) dX5_line_186 rfl cI_0 ?_
            exact s_zret dX5_line_187 rfl (Or.inl rfl) (fun f h => h)
          · skip
            refine s_aload_n 1 dX5_line_173 rfl rfl ?_
            refine s_bipush (v := 59) dX5_line_174 rfl cB_59 ?_
            refine s_callV1_i2 dX5_line_176 rfl lkV_RX5_73 (S_20 hK) (Nat.le_of_ble_eq_true rfl) (Nat.le_of_ble_eq_true rfl) (Nat.le_of_ble_eq_true rfl) (ct_x5_token hK hx) (fun r20 I21 L22 => ?_)
            refine s_if_eq (tgt := 186) dX5_line_179 rfl rfl (fun _ => ?_) (fun _ => ?_)
            · skip
              refine s_iconst (v := 0) dX5_line_186 rfl cI_0 ?_
              exact s_zret dX5_line_187 rfl (Or.inl rfl) (fun f h => h)
            · skip
              refine s_iconst (v := 1) dX5_line_182 rfl cI_1 ?_
              refine s_goto (tgt := 187) dX5_line_183 rfl ?_
              exact s_zret dX5_line_187 rfl (Or.inr rfl) (fun f h => h)
        refine sm_ite (fun h23 => ?_) (fun h23 => ?_)
        · skip
          refine s_tin (tgt := 298) dX5_line_50 (by rw [h23]; try decide) (by rw [h23]; try decide) (by rw [h23]; try rfl) rfl ?_
          refine s_aload_n 1 dX5_line_298 rfl rfl ?_
          refine s_iconst (v := 2) dX5_line_299 rfl cI_2 ?_
          refine s_callV1_i1 dX5_line_300 rfl lkV_RX5_66 (S_20 hK) (Nat.le_of_ble_eq_true rfl) (Nat.le_of_ble_eq_true rfl) (Nat.le_of_ble_eq_true rfl) (ct_x5_fail hK) (fun r24 I25 => ?_)
          refine sm_ck (fun g26 => ?_)
          exact s_zret dX5_line_303 rfl g26 (fun f h => h)
        refine sm_ite (fun h27 => ?_) (fun h27 => ?_)
        · skip
          refine s_tin (tgt := 298) dX5_line_50 (by rw [h27]; try decide) (by rw [h27]; try decide) (by rw [h27]; try rfl) rfl ?_
          refine s_aload_n 1 dX5_line_298 rfl rfl ?_
          refine s_iconst (v := 2) dX5_line_299 rfl cI_2 ?_
          refine s_callV1_i1 dX5_line_300 rfl lkV_RX5_66 (S_20 hK) (Nat.le_of_ble_eq_true rfl) (Nat.le_of_ble_eq_true rfl) (Nat.le_of_ble_eq_true rfl) (ct_x5_fail hK) (fun r28 I29 => ?_)
          refine sm_ck (fun g30 => ?_)
          exact s_zret dX5_line_303 rfl g30 (fun f h => h)
        refine sm_ite (fun h31 => ?_) (fun h31 => ?_)
        · skip
          refine s_tin (tgt := 298) dX5_line_50 (by rw [h31]; try decide) (by rw [h31]; try decide) (by rw [h31]; try rfl) rfl ?_
          refine s_aload_n 1 dX5_line_298 rfl rfl ?_
          refine s_iconst (v := 2) dX5_line_299 rfl cI_2 ?_
          refine s_callV1_i1 dX5_line_300 rfl lkV_RX5_66 (S_20 hK) (Nat.le_of_ble_eq_true rfl) (Nat.le_of_ble_eq_true rfl) (Nat.le_of_ble_eq_true rfl) (ct_x5_fail hK) (fun r32 I33 => ?_)
          refine sm_ck (fun g34 => ?_)
          exact s_zret dX5_line_303 rfl g34 (fun f h => h)
        refine sm_ite (fun h35 => ?_) (fun h35 => ?_)
        · skip
          refine s_tin (tgt := 298) dX5_line_50 (by rw [h35]; try decide) (by rw [h35]; try decide) (by rw [h35]; try rfl) rfl ?_
          refine s_aload_n 1 dX5_line_298 rfl rfl ?_
          refine s_iconst (v := 2) dX5_line_299 rfl cI_2 ?_
          refine s_callV1_i1 dX5_line_300 rfl lkV_RX5_66 (S_20 hK) (Nat.le_of_ble_eq_true rfl) (Nat.le_of_ble_eq_true rfl) (Nat.le_of_ble_eq_true rfl) (ct_x5_fail hK) (fun r36 I37 => ?_)
          refine sm_ck (fun g38 => ?_)
          exact s_zret dX5_line_303 rfl g38 (fun f h => h)
        refine sm_ite (fun h39 => ?_) (fun h39 => ?_)
        · skip
          refine s_tin (tgt := 298) dX5_line_50 (by rw [h39]; try decide) (by rw [h39]; try decide) (by rw [h39]; try rfl) rfl ?_
          refine s_aload_n 1 dX5_line_298 rfl rfl ?_
          refine s_iconst (v := 2) dX5_line_299 rfl cI_2 ?_
          refine s_callV1_i1 dX5_line_300 rfl lkV_RX5_66 (S_20 hK) (Nat.le_of_ble_eq_true rfl) (Nat.le_of_ble_eq_true rfl) (Nat.le_of_ble_eq_true rfl) (ct_x5_fail hK) (fun r40 I41 => ?_)
          refine sm_ck (fun g42 => ?_)
          exact s_zret dX5_line_303 rfl g42 (fun f h => h)
        refine sm_ite (fun h43 => ?_) (fun h43 => ?_)
        · skip
          refine s_tin (tgt := 188) dX5_line_50 (by rw [h43]; try decide) (by rw [h43]; try decide) (by rw [h43]; try rfl) rfl ?_
          refine s_aload_n 1 dX5_line_188 rfl rfl ?_
          refine s_callV0_i2 dX5_line_189 rfl lkV_RX5_79 (S_20 hK) (Nat.le_of_ble_eq_true rfl) (Nat.le_of_ble_eq_true rfl) (Nat.le_of_ble_eq_true rfl) (ct_x5_ruleLine hK hr hx) (fun r44 I45 L46 => ?_)
          refine s_if_eq (tgt := 208) dX5_line_192 rfl rfl (fun _ => ?_) (fun _ => ?_)
          · skip
            refine s_iconst (v := 0) dX5_line_208 rfl cI_0 ?_
            exact s_zret dX5_line_209 rfl (Or.inl rfl) (fun f h => h)
          · skip
            refine s_aload_n 1 dX5_line_195 rfl rfl ?_
            refine s_bipush (v := 59) dX5_line_196 rfl cB_59 ?_
            refine s_callV1_i2 dX5_line_198 rfl lkV_RX5_73 (S_20 hK) (Nat.le_of_ble_eq_true rfl) (Nat.le_of_ble_eq_true rfl) (Nat.le_of_ble_eq_true rfl) (ct_x5_token hK hx) (fun r47 I48 L49 => ?_)
            refine s_if_eq (tgt := 208) dX5_line_201 rfl rfl (fun _ => ?_) (fun _ => ?_)
            · skip
              refine s_iconst (v := 0) dX5_line_208 rfl cI_0 ?_
              exact s_zret dX5_line_209 rfl (Or.inl rfl) (fun f h => h)
            · skip
              refine s_iconst (v := 1) dX5_line_204 rfl cI_1 ?_
              refine s_goto (tgt := 209) dX5_line_205 rfl ?_
              exact s_zret dX5_line_209 rfl (Or.inr rfl) (fun f h => h)
        refine sm_ite (fun h50 => ?_) (fun h50 => ?_)
        · skip
          refine s_tin (tgt := 210) dX5_line_50 (by rw [h50]; try decide) (by rw [h50]; try decide) (by rw [h50]; try rfl) rfl ?_
          refine s_aload_n 1 dX5_line_210 rfl rfl ?_
          refine s_callV0_i2 dX5_line_211 rfl lkV_RX5_82 (S_20 hK) (Nat.le_of_ble_eq_true rfl) (Nat.le_of_ble_eq_true rfl) (Nat.le_of_ble_eq_true rfl) (ct_x5_appleLine hK hr hx) (fun r51 I52 L53 => ?_)
          refine s_if_eq (tgt := 230) dX5_line_214 rfl rfl (fun _ => ?_) (fun _ => ?_)
          · skip
            refine s_iconst (v := 0) dX5_line_230 rfl cI_0 ?_
            exact s_zret dX5_line_231 rfl (Or.inl rfl) (fun f h => h)
          · skip
            refine s_aload_n 1 dX5_line_217 rfl rfl ?_
            refine s_bipush (v := 59) dX5_line_218 rfl cB_59 ?_
            refine s_callV1_i2 dX5_line_220 rfl lkV_RX5_73 (S_20 hK) (Nat.le_of_ble_eq_true rfl) (Nat.le_of_ble_eq_true rfl) (Nat.le_of_ble_eq_true rfl) (ct_x5_token hK hx) (fun r54 I55 L56 => ?_)
            refine s_if_eq (tgt := 230) dX5_line_223 rfl rfl (fun _ => ?_) (fun _ => ?_)
            · skip
              refine s_iconst (v := 0) dX5_line_230 rfl cI_0 ?_
              exact s_zret dX5_line_231 rfl (Or.inl rfl) (fun f h => h)
            · skip
              refine s_iconst (v := 1) dX5_line_226 rfl cI_1 ?_
              refine s_goto (tgt := 231) dX5_line_227 rfl ?_
              exact s_zret dX5_line_231 rfl (Or.inr rfl) (fun f h => h)
        refine sm_ite (fun h57 => ?_) (fun h57 => ?_)
        · skip
          refine s_tin (tgt := 298) dX5_line_50 (by rw [h57]; try decide) (by rw [h57]; try decide) (by rw [h57]; try rfl) rfl ?_
          refine s_aload_n 1 dX5_line_298 rfl rfl ?_
          refine s_iconst (v := 2) dX5_line_299 rfl cI_2 ?_
          refine s_callV1_i1 dX5_line_300 rfl lkV_RX5_66 (S_20 hK) (Nat.le_of_ble_eq_true rfl) (Nat.le_of_ble_eq_true rfl) (Nat.le_of_ble_eq_true rfl) (ct_x5_fail hK) (fun r58 I59 => ?_)
          refine sm_ck (fun g60 => ?_)
          exact s_zret dX5_line_303 rfl g60 (fun f h => h)
        refine sm_ite (fun h61 => ?_) (fun h61 => ?_)
        · skip
          refine s_tin (tgt := 298) dX5_line_50 (by rw [h61]; try decide) (by rw [h61]; try decide) (by rw [h61]; try rfl) rfl ?_
          refine s_aload_n 1 dX5_line_298 rfl rfl ?_
          refine s_iconst (v := 2) dX5_line_299 rfl cI_2 ?_
          refine s_callV1_i1 dX5_line_300 rfl lkV_RX5_66 (S_20 hK) (Nat.le_of_ble_eq_true rfl) (Nat.le_of_ble_eq_true rfl) (Nat.le_of_ble_eq_true rfl) (ct_x5_fail hK) (fun r62 I63 => ?_)
          refine sm_ck (fun g64 => ?_)
          exact s_zret dX5_line_303 rfl g64 (fun f h => h)
        refine sm_ite (fun h65 => ?_) (fun h65 => ?_)
        · skip
          refine s_tin (tgt := 298) dX5_line_50 (by rw [h65]; try decide) (by rw [h65]; try decide) (by rw [h65]; try rfl) rfl ?_
          refine s_aload_n 1 dX5_line_298 rfl rfl ?_
          refine s_iconst (v := 2) dX5_line_299 rfl cI_2 ?_
          refine s_callV1_i1 dX5_line_300 rfl lkV_RX5_66 (S_20 hK) (Nat.le_of_ble_eq_true rfl) (Nat.le_of_ble_eq_true rfl) (Nat.le_of_ble_eq_true rfl) (ct_x5_fail hK) (fun r66 I67 => ?_)
          refine sm_ck (fun g68 => ?_)
          exact s_zret dX5_line_303 rfl g68 (fun f h => h)
        refine sm_ite (fun h69 => ?_) (fun h69 => ?_)
        · skip
          refine s_tin (tgt := 298) dX5_line_50 (by rw [h69]; try decide) (by rw [h69]; try decide) (by rw [h69]; try rfl) rfl ?_
          refine s_aload_n 1 dX5_line_298 rfl rfl ?_
          refine s_iconst (v := 2) dX5_line_299 rfl cI_2 ?_
          refine s_callV1_i1 dX5_line_300 rfl lkV_RX5_66 (S_20 hK) (Nat.le_of_ble_eq_true rfl) (Nat.le_of_ble_eq_true rfl) (Nat.le_of_ble_eq_true rfl) (ct_x5_fail hK) (fun r70 I71 => ?_)
          refine sm_ck (fun g72 => ?_)
          exact s_zret dX5_line_303 rfl g72 (fun f h => h)
        refine sm_ite (fun h73 => ?_) (fun h73 => ?_)
        · skip
          refine s_tin (tgt := 232) dX5_line_50 (by rw [h73]; try decide) (by rw [h73]; try decide) (by rw [h73]; try rfl) rfl ?_
          refine s_aload_n 1 dX5_line_232 rfl rfl ?_
          refine s_callV0_i2 dX5_line_233 rfl lkV_RX5_85 (S_20 hK) (Nat.le_of_ble_eq_true rfl) (Nat.le_of_ble_eq_true rfl) (Nat.le_of_ble_eq_true rfl) (ct_x5_bobberLine hK hr hx) (fun r74 I75 L76 => ?_)
          refine s_if_eq (tgt := 252) dX5_line_236 rfl rfl (fun _ => ?_) (fun _ => ?_)
          · skip
            refine s_iconst (v := 0) dX5_line_252 rfl cI_0 ?_
            exact s_zret dX5_line_253 rfl (Or.inl rfl) (fun f h => h)
          · skip
            refine s_aload_n 1 dX5_line_239 rfl rfl ?_
            refine s_bipush (v := 59) dX5_line_240 rfl cB_59 ?_
            refine s_callV1_i2 dX5_line_242 rfl lkV_RX5_73 (S_20 hK) (Nat.le_of_ble_eq_true rfl) (Nat.le_of_ble_eq_true rfl) (Nat.le_of_ble_eq_true rfl) (ct_x5_token hK hx) (fun r77 I78 L79 => ?_)
            refine s_if_eq (tgt := 252) dX5_line_245 rfl rfl (fun _ => ?_) (fun _ => ?_)
            · skip
              refine s_iconst (v := 0) dX5_line_252 rfl cI_0 ?_
              exact s_zret dX5_line_253 rfl (Or.inl rfl) (fun f h => h)
            · skip
              refine s_iconst (v := 1) dX5_line_248 rfl cI_1 ?_
              refine s_goto (tgt := 253) dX5_line_249 rfl ?_
              exact s_zret dX5_line_253 rfl (Or.inr rfl) (fun f h => h)
        refine sm_ite (fun h80 => ?_) (fun h80 => ?_)
        · skip
          refine s_tin (tgt := 298) dX5_line_50 (by rw [h80]; try decide) (by rw [h80]; try decide) (by rw [h80]; try rfl) rfl ?_
          refine s_aload_n 1 dX5_line_298 rfl rfl ?_
          refine s_iconst (v := 2) dX5_line_299 rfl cI_2 ?_
          refine s_callV1_i1 dX5_line_300 rfl lkV_RX5_66 (S_20 hK) (Nat.le_of_ble_eq_true rfl) (Nat.le_of_ble_eq_true rfl) (Nat.le_of_ble_eq_true rfl) (ct_x5_fail hK) (fun r81 I82 => ?_)
          refine sm_ck (fun g83 => ?_)
          exact s_zret dX5_line_303 rfl g83 (fun f h => h)
        refine sm_ite (fun h84 => ?_) (fun h84 => ?_)
        · skip
          refine s_tin (tgt := 298) dX5_line_50 (by rw [h84]; try decide) (by rw [h84]; try decide) (by rw [h84]; try rfl) rfl ?_
          refine s_aload_n 1 dX5_line_298 rfl rfl ?_
          refine s_iconst (v := 2) dX5_line_299 rfl cI_2 ?_
          refine s_callV1_i1 dX5_line_300 rfl lkV_RX5_66 (S_20 hK) (Nat.le_of_ble_eq_true rfl) (Nat.le_of_ble_eq_true rfl) (Nat.le_of_ble_eq_true rfl) (ct_x5_fail hK) (fun r85 I86 => ?_)
          refine sm_ck (fun g87 => ?_)
          exact s_zret dX5_line_303 rfl g87 (fun f h => h)
        refine sm_ite (fun h88 => ?_) (fun h88 => ?_)
        · skip
          refine s_tin (tgt := 298) dX5_line_50 (by rw [h88]; try decide) (by rw [h88]; try decide) (by rw [h88]; try rfl) rfl ?_
          refine s_aload_n 1 dX5_line_298 rfl rfl ?_
          refine s_iconst (v := 2) dX5_line_299 rfl cI_2 ?_
          refine s_callV1_i1 dX5_line_300 rfl lkV_RX5_66 (S_20 hK) (Nat.le_of_ble_eq_true rfl) (Nat.le_of_ble_eq_true rfl) (Nat.le_of_ble_eq_true rfl) (ct_x5_fail hK) (fun r89 I90 => ?_)
          refine sm_ck (fun g91 => ?_)
          exact s_zret dX5_line_303 rfl g91 (fun f h => h)
        refine sm_ite (fun h92 => ?_) (fun h92 => ?_)
        · skip
          refine s_tin (tgt := 254) dX5_line_50 (by rw [h92]; try decide) (by rw [h92]; try decide) (by rw [h92]; try rfl) rfl ?_
          refine s_aload_n 1 dX5_line_254 rfl rfl ?_
          refine s_callV0_i2 dX5_line_255 rfl lkV_RX5_88 (S_20 hK) (Nat.le_of_ble_eq_true rfl) (Nat.le_of_ble_eq_true rfl) (Nat.le_of_ble_eq_true rfl) (ct_x5_drawLine hK hr hx) (fun r93 I94 L95 => ?_)
          refine s_if_eq (tgt := 274) dX5_line_258 rfl rfl (fun _ => ?_) (fun _ => ?_)
          · skip
            refine s_iconst (v := 0) dX5_line_274 rfl cI_0 ?_
            exact s_zret dX5_line_275 rfl (Or.inl rfl) (fun f h => h)
          · skip
            refine s_aload_n 1 dX5_line_261 rfl rfl ?_
            refine s_bipush (v := 59) dX5_line_262 rfl cB_59 ?_
            refine s_callV1_i2 dX5_line_264 rfl lkV_RX5_73 (S_20 hK) (Nat.le_of_ble_eq_true rfl) (Nat.le_of_ble_eq_true rfl) (Nat.le_of_ble_eq_true rfl) (ct_x5_token hK hx) (fun r96 I97 L98 => ?_)
            refine s_if_eq (tgt := 274) dX5_line_267 rfl rfl (fun _ => ?_) (fun _ => ?_)
            · skip
              refine s_iconst (v := 0) dX5_line_274 rfl cI_0 ?_
              exact s_zret dX5_line_275 rfl (Or.inl rfl) (fun f h => h)
            · skip
              refine s_iconst (v := 1) dX5_line_270 rfl cI_1 ?_
              refine s_goto (tgt := 275) dX5_line_271 rfl ?_
              exact s_zret dX5_line_275 rfl (Or.inr rfl) (fun f h => h)
        refine sm_ite (fun h99 => ?_) (fun h99 => ?_)
        · skip
          refine s_tin (tgt := 276) dX5_line_50 (by rw [h99]; try decide) (by rw [h99]; try decide) (by rw [h99]; try rfl) rfl ?_
          refine s_aload_n 1 dX5_line_276 rfl rfl ?_
          refine s_callV0_i2 dX5_line_277 rfl lkV_RX5_91 (S_20 hK) (Nat.le_of_ble_eq_true rfl) (Nat.le_of_ble_eq_true rfl) (Nat.le_of_ble_eq_true rfl) (ct_x5_biteLine hK hr hx) (fun r100 I101 L102 => ?_)
          refine s_if_eq (tgt := 296) dX5_line_280 rfl rfl (fun _ => ?_) (fun _ => ?_)
          · skip
            refine s_iconst (v := 0) dX5_line_296 rfl cI_0 ?_
            exact s_zret dX5_line_297 rfl (Or.inl rfl) (fun f h => h)
          · skip
            refine s_aload_n 1 dX5_line_283 rfl rfl ?_
            refine s_bipush (v := 59) dX5_line_284 rfl cB_59 ?_
            refine s_callV1_i2 dX5_line_286 rfl lkV_RX5_73 (S_20 hK) (Nat.le_of_ble_eq_true rfl) (Nat.le_of_ble_eq_true rfl) (Nat.le_of_ble_eq_true rfl) (ct_x5_token hK hx) (fun r103 I104 L105 => ?_)
            refine s_if_eq (tgt := 296) dX5_line_289 rfl rfl (fun _ => ?_) (fun _ => ?_)
            · skip
              refine s_iconst (v := 0) dX5_line_296 rfl cI_0 ?_
              exact s_zret dX5_line_297 rfl (Or.inl rfl) (fun f h => h)
            · skip
              refine s_iconst (v := 1) dX5_line_292 rfl cI_1 ?_
              refine s_goto (tgt := 297) dX5_line_293 rfl ?_
              exact s_zret dX5_line_297 rfl (Or.inr rfl) (fun f h => h)
        have hsw : ¬ ((I 21 4)).toInt = 0 ∧ ¬ ((I 21 4)).toInt = 1 ∧ ¬ ((I 21 4)).toInt = 2 ∧ ¬ ((I 21 4)).toInt = 3 ∧ ¬ ((I 21 4)).toInt = 4 ∧ ¬ ((I 21 4)).toInt = 5 ∧ ¬ ((I 21 4)).toInt = 6 ∧ ¬ ((I 21 4)).toInt = 7 ∧ ¬ ((I 21 4)).toInt = 8 ∧ ¬ ((I 21 4)).toInt = 9 ∧ ¬ ((I 21 4)).toInt = 10 ∧ ¬ ((I 21 4)).toInt = 11 ∧ ¬ ((I 21 4)).toInt = 12 ∧ ¬ ((I 21 4)).toInt = 13 ∧ ¬ ((I 21 4)).toInt = 14 ∧ ¬ ((I 21 4)).toInt = 15 ∧ ¬ ((I 21 4)).toInt = 16 ∧ ¬ ((I 21 4)).toInt = 17 ∧ ¬ ((I 21 4)).toInt = 18 ∧ ¬ ((I 21 4)).toInt = 19 := ⟨lv_neT h5 (a := 0) rfl, lv_neT h12 (a := 1) rfl, lv_neT h16 (a := 2) rfl, lv_neT h23 (a := 3) rfl, lv_neT h27 (a := 4) rfl, lv_neT h31 (a := 5) rfl, lv_neT h35 (a := 6) rfl, lv_neT h39 (a := 7) rfl, lv_neT h43 (a := 8) rfl, lv_neT h50 (a := 9) rfl, lv_neT h57 (a := 10) rfl, lv_neT h61 (a := 11) rfl, lv_neT h65 (a := 12) rfl, lv_neT h69 (a := 13) rfl, lv_neT h73 (a := 14) rfl, lv_neT h80 (a := 15) rfl, lv_neT h84 (a := 16) rfl, lv_neT h88 (a := 17) rfl, lv_neT h92 (a := 18) rfl, lv_neT h99 (a := 19) rfl⟩
        refine s_tout (tgt := 298) dX5_line_50 (by omega) rfl ?_
        refine s_aload_n 1 dX5_line_298 rfl rfl ?_
        refine s_iconst (v := 2) dX5_line_299 rfl cI_2 ?_
        refine s_callV1_i1 dX5_line_300 rfl lkV_RX5_66 (S_20 hK) (Nat.le_of_ble_eq_true rfl) (Nat.le_of_ble_eq_true rfl) (Nat.le_of_ble_eq_true rfl) (ct_x5_fail hK) (fun r106 I107 => ?_)
        refine sm_ck (fun g108 => ?_)
        exact s_zret dX5_line_303 rfl g108 (fun f h => h)
      · skip
        refine s_aload_n 1 dX5_line_37 rfl rfl ?_
        refine s_iconst (v := 2) dX5_line_38 rfl cI_2 ?_
        refine s_callV1_i1 dX5_line_39 rfl lkV_RX5_66 (S_20 hK) (Nat.le_of_ble_eq_true rfl) (Nat.le_of_ble_eq_true rfl) (Nat.le_of_ble_eq_true rfl) (ct_x5_fail hK) (fun r109 I110 => ?_)
        refine sm_ck (fun g111 => ?_)
        exact s_zret dX5_line_42 rfl g111 (fun f h => h)
noncomputable def x5_read_L47s (a1 : Nat) (q3 : Nat) (R : MR) (S : MS) (rec : Int32 → Int32 → MI → ML → Option (Int32 × MI × ML)) (w4 : Int32) (w5 : Int32) (I : MI) (L : ML) : Option (Int32 × MI × ML) :=
if w5 < 1600 then (
if w4 = 0 then (
some (w4, I, L)) else
ck (okr R S) <|
if (I 21 4) = 28 then (
some (w4, I, L)) else
b1 (R 20 4) fun t_19 =>
ck (isT t_19) <|
ck (R 21 1 = some 1) <|
b3 (x5_line t_19 I L) fun r23 I24 L25 =>
lt r23 fun v26 =>
lt (w5 + 1) fun v27 =>
rec v26 v27 I24 L25) else
some (w4, I, L)
noncomputable def x5_read_L47 (a1 : Nat) (q3 : Nat) (R : MR) (S : MS) : Nat → Int32 → Int32 → MI → ML → Option (Int32 × MI × ML)
  | 0 => fun _ _ _ _ => none
  | n + 1 => x5_read_L47s a1 q3 R S (x5_read_L47 a1 q3 R S n)
noncomputable def x5_read (a1 : Nat) (q3 : Nat) (p2 : Int32) (I : MI) (L : ML) (R : MR) (S : MS) : Option (Int32 × MI × ML × MR × MS) :=
ck (okr R S) <|
lt (wR R 20 4 (some q3)) fun R2 =>
ck (okr R2 S) <|
b1 (R2 20 4) fun t_3 =>
ck (isT t_3) <|
b1 (x8_clear t_3 I) fun I7 =>
lt (wI I7 20 5 (0 : Int32)) fun I8 =>
lt (wI I8 20 6 (0 : Int32)) fun I9 =>
lt (wI I9 20 8 (0 : Int32)) fun I10 =>
lt (wI I10 20 9 (-1 : Int32)) fun I11 =>
b4 (x3_open a1 p2 I11 L R2 S) fun I12 L13 R14 S15 =>
lt (1 : Int32) fun v16 =>
lt (0 : Int32) fun v17 =>
b1 (x5_read_L47 a1 q3 R14 S15 FU v16 v17 I12 L13) fun e28 =>
ck (e28.1 = 0 ∨ e28.1 = 1) (some (e28.1, e28.2.1, e28.2.2, R14, S15))
theorem x5_read_L47_ok {X : WX} {n0 s0 : Nat} {a1 : Nat} {q3 : Nat} {R : MR} {S : MS} : ∀ (n : Nat) (w4 : Int32) (w5 : Int32) (I : MI) (L : ML), Sim X yX5_read cX5_read 6 (some .boolean) 244 5488 n0 s0 47 [(0, .ref (X.1 + 20)), (4, .int w4), (5, .int w5)] [] (I, L, R, S) (x5_read_L47 a1 q3 R S n w4 w5 I L) (fun b f => Ex X yX5_read cX5_read 6 (some .boolean) 244 5488 n0 s0 84 [(4, .int b.1)] [] (b.2.1, b.2.2, R, S) f) := by
  intro n
  induction n with
  | zero =>
    intro w4 w5 I L
    exact sm_none
  | succ n ih =>
    intro w4 w5 I L
    change Sim _ _ _ _ _ _ _ _ _ _ _ _ _ (x5_read_L47s a1 q3 R S (x5_read_L47 a1 q3 R S n) w4 w5 I L) _
    unfold x5_read_L47s
    refine s_iload 2 dX5_read_47 rfl rfl ?_
    refine s_sipush (v := 1600) dX5_read_49 rfl cS_1600 ?_
    refine s_icmp_ge (tgt := 84) dX5_read_52 rfl rfl (fun _ => ?_) (fun _ => ?_)
    · skip
      refine s_pick [1] rfl ?_
      exact sm_exit (fun f h => h)
    · skip
      refine s_iload 1 dX5_read_55 rfl rfl ?_
      refine s_if_eq (tgt := 84) dX5_read_57 rfl rfl (fun _ => ?_) (fun _ => ?_)
      · skip
        refine s_pick [1] rfl ?_
        exact sm_exit (fun f h => h)
      · skip
        refine s_aload_n 0 dX5_read_60 rfl rfl ?_
        refine sm_ck (fun g18 => ?_)
        refine s_getR 21 dX5_read_61 rfl fl_5_12 rfl (S_20 g18) (R_20_0 g18) ?_
        refine s_getI dX5_read_64 rfl fl_5_55 (S_21 g18) ?_
        refine s_bipush (v := 28) dX5_read_67 rfl cB_28 ?_
        refine s_icmp_eq (tgt := 84) dX5_read_69 rfl rfl (fun _ => ?_) (fun _ => ?_)
        · skip
          refine s_pick [1] rfl ?_
          exact sm_exit (fun f h => h)
        · skip
          refine s_aload_n 0 dX5_read_72 rfl rfl ?_
          refine sm_b1 (fun t_19 h20 => ?_)
          refine sm_ck (fun g21 => ?_)
          refine sm_ck (fun g22 => ?_)
          refine s_callV0_i2 dX5_read_73 rfl lkV_RX5_58 (S_20 g18) (Nat.le_of_ble_eq_true rfl) (Nat.le_of_ble_eq_true rfl) (Nat.le_of_ble_eq_true rfl) (ct_x5_line g18 (⟨h20, g21⟩) g22) (fun r23 I24 L25 => ?_)
          refine s_istoreL (fun v26 => [(4, .int v26), (0, .ref (X.1 + 20)), (5, .int w5)]) dX5_read_76 rfl (by decide) (fun _ => rfl) (fun v26 => ?_)
          refine s_iincL 2 (c := 1) (fun v27 => [(5, .int v27), (4, .int v26), (0, .ref (X.1 + 20))]) dX5_read_78 rfl rfl cI_1 (by decide) (fun _ => rfl) (fun v27 => ?_)
          refine s_goto (tgt := 47) dX5_read_81 rfl ?_
          refine s_pick [2, 1, 0] rfl ?_
          exact ih v26 v27 I24 L25
theorem ct_x5_read {X : WX} {a1 : Nat} {q3 : Nat} {p2 : Int32} {I : MI} {L : ML} {R : MR} {S : MS} : Ct X yX5_read cX5_read 6 (some .boolean) 244 5488 [.ref (X.1 + 20), .ref (X.1 + a1), .int p2, .ref (X.1 + q3)] (I, L, R, S) (x5_read a1 q3 p2 I L R S) (fun r => (some (.int r.1), (r.2.1, r.2.2.1, r.2.2.2.1, r.2.2.2.2))) := by
  refine Ct.of (by decide) (Nat.le_of_ble_eq_true rfl) [(0, .ref (X.1 + 20)), (1, .ref (X.1 + a1)), (2, .int p2), (3, .ref (X.1 + q3))] rfl ?_
  unfold x5_read
  refine s_aload_n 0 dX5_read_0 rfl rfl ?_
  refine s_aload_n 3 dX5_read_1 rfl rfl ?_
  refine sm_ck (fun g1 => ?_)
  refine s_putRL dX5_read_2 rfl fl_5_32 (Or.inl ⟨_, rfl⟩) (S_20 g1) (fun R2 _ => ?_)
  refine s_aload_n 0 dX5_read_5 rfl rfl ?_
  refine sm_ck (fun g5 => ?_)
  refine sm_b1 (fun t_3 h4 => ?_)
  refine s_getR t_3 dX5_read_6 rfl fl_5_32 rfl (S_20 g5) h4 ?_
  refine sm_ck (fun g6 => ?_)
  refine s_callV0_v1 dX5_read_9 rfl lkV_RX5_36 (tS_0 g5 g6) (Nat.le_of_ble_eq_true rfl) (Nat.le_of_ble_eq_true rfl) (Nat.le_of_ble_eq_true rfl) (ct_x8_clear g5 g6) (fun I7 => ?_)
  refine s_aload_n 0 dX5_read_12 rfl rfl ?_
  refine s_iconst (v := 0) dX5_read_13 rfl cI_0 ?_
  refine s_putZL dX5_read_14 rfl fl_5_41 (S_20 g5) (Or.inl rfl) (fun I8 => ?_)
  refine s_aload_n 0 dX5_read_17 rfl rfl ?_
  refine s_iconst (v := 0) dX5_read_18 rfl cI_0 ?_
  refine s_putZL dX5_read_19 rfl fl_5_45 (S_20 g5) (Or.inl rfl) (fun I9 => ?_)
  refine s_aload_n 0 dX5_read_22 rfl rfl ?_
  refine s_iconst (v := 0) dX5_read_23 rfl cI_0 ?_
  refine s_putIL dX5_read_24 rfl fl_5_48 (S_20 g5) (fun I10 => ?_)
  refine s_aload_n 0 dX5_read_27 rfl rfl ?_
  refine s_iconst (v := (-1)) dX5_read_28 rfl cI_m1 ?_
  refine s_putIL dX5_read_29 rfl fl_5_28 (S_20 g5) (fun I11 => ?_)
  refine s_aload_n 0 dX5_read_32 rfl rfl ?_
  refine s_getR 21 dX5_read_33 rfl fl_5_12 rfl (S_20 g5) (R_20_0 g5) ?_
  refine s_aload_n 1 dX5_read_36 rfl rfl ?_
  refine s_iload_n 2 dX5_read_37 rfl rfl ?_
  refine s_callV2_v3 dX5_read_38 rfl lkV_RX5_51 (S_21 g5) (Nat.le_of_ble_eq_true rfl) (Nat.le_of_ble_eq_true rfl) (Nat.le_of_ble_eq_true rfl) ct_x3_open (fun I12 L13 R14 S15 => ?_)
  refine s_iconst (v := 1) dX5_read_41 rfl cI_1 ?_
  refine s_istoreL (fun v16 => [(4, .int v16), (0, .ref (X.1 + 20)), (1, .ref (X.1 + a1)), (2, .int p2), (3, .ref (X.1 + q3))]) dX5_read_42 rfl (by decide) (fun _ => rfl) (fun v16 => ?_)
  refine s_iconst (v := 0) dX5_read_44 rfl cI_0 ?_
  refine s_istoreL (fun v17 => [(5, .int v17), (4, .int v16), (0, .ref (X.1 + 20)), (1, .ref (X.1 + a1)), (2, .int p2), (3, .ref (X.1 + q3))]) dX5_read_45 rfl (by decide) (fun _ => rfl) (fun v17 => ?_)
  refine s_pick [2, 1, 0] rfl ?_
  refine sm_reg (x5_read_L47_ok  FU v16 v17 I12 L13) (fun e28 => ?_)
  refine s_iload 0 dX5_read_84 rfl rfl ?_
  refine sm_ck (fun g29 => ?_)
  exact s_zret dX5_read_86 rfl g29 (fun f h => h)
noncomputable def x4_clear (I : MI) : Option (MI) :=
lt (wI I 83 6 (0 : Int32)) fun I1 =>
some I1
theorem ct_x4_clear {X : WX} {I : MI} {L : ML} {R : MR} {S : MS} (hK : okr R S) : Ct X yX4_clear cX4_clear 1 none 0 0 [.ref (X.1 + 83)] (I, L, R, S) (x4_clear I) (fun r => (none, (r, L, R, S))) := by
  refine Ct.of (by decide) (Nat.le_of_ble_eq_true rfl) [(0, .ref (X.1 + 83))] rfl ?_
  unfold x4_clear
  refine s_aload_n 0 dX4_clear_0 rfl rfl ?_
  refine s_iconst (v := 0) dX4_clear_1 rfl cI_0 ?_
  refine s_putIL dX4_clear_2 rfl fl_4_31 (S_83 hK) (fun I1 => ?_)
  exact s_vret dX4_clear_5 rfl (fun f h => h)
noncomputable def x10_tub_L88s (R : MR) (S : MS) (rec : Int32 → MI → Option (MI)) (w3 : Int32) (I : MI) : Option (MI) :=
if w3 < 3 then (
ck (okr R S) <|
ck (vp_in w3 3) <|
lt (wI I 62 (ix w3) (zb (0 : Int32))) fun I31 =>
lt (w3 + 1) fun v33 =>
rec v33 I31) else
some I
noncomputable def x10_tub_L88 (R : MR) (S : MS) : Nat → Int32 → MI → Option (MI)
  | 0 => fun _ _ => none
  | n + 1 => x10_tub_L88s R S (x10_tub_L88 R S n)
noncomputable def x10_tub (I : MI) (L : ML) (R : MR) (S : MS) : Option (Int32 × MI × ML × MR × MS) :=
ck (okr R S) <|
b1 (R 0 2) fun t_2 =>
b5 (x5_read 1 t_2 (I 0 1) I L R S) fun r4 I5 L6 R7 S8 =>
lt r4 fun v9 =>
ck (okr R7 S8) <|
lt (wI I5 0 1 (0 : Int32)) fun I11 =>
if v9 = 0 then (
some ((-1 : Int32), I11, L6, R7, S8)) else
b1 (R7 0 2) fun t_12 =>
b1 (R7 27 0) fun t_14 =>
lt (wR R7 0 2 (some t_14)) fun R16 =>
ck (okr R16 S8) <|
lt (wR R16 27 0 (some t_12)) fun R18 =>
ck (okr R18 S8) <|
ck (isT t_12) <|
b1 (x7_begin 47 t_12 I11) fun I21 =>
b4 (x2_start 47 I21 L6 R18 S8) fun I22 L23 R24 S25 =>
ck (okr R24 S25) <|
b1 (x4_clear I22) fun I27 =>
lt (wI I27 0 14 (0 : Int32)) fun I28 =>
lt (0 : Int32) fun v29 =>
b1 (x10_tub_L88 R24 S25 FU v29 I28) fun e34 =>
some ((e34 t_12 4), e34, L23, R24, S25)
theorem x10_tub_L88_ok {X : WX} {n0 s0 : Nat} {t_12 : Nat} {L : ML} {R : MR} {S : MS} : ∀ (n : Nat) (w3 : Int32) (I : MI), Sim X yX10_tub cX10_tub 4 (some .int) 245 5513 n0 s0 88 [(0, .ref (X.1 + 0)), (2, .ref (X.1 + t_12)), (3, .int w3)] [] (I, L, R, S) (x10_tub_L88 R S n w3 I) (fun b f => Ex X yX10_tub cX10_tub 4 (some .int) 245 5513 n0 s0 106 [(2, .ref (X.1 + t_12))] [] (b, L, R, S) f) := by
  intro n
  induction n with
  | zero =>
    intro w3 I
    exact sm_none
  | succ n ih =>
    intro w3 I
    change Sim _ _ _ _ _ _ _ _ _ _ _ _ _ (x10_tub_L88s R S (x10_tub_L88 R S n) w3 I) _
    unfold x10_tub_L88s
    refine s_iload_n 2 dX10_tub_88 rfl rfl ?_
    refine s_iconst (v := 3) dX10_tub_89 rfl cI_3 ?_
    refine s_icmp_ge (tgt := 106) dX10_tub_90 rfl rfl (fun _ => ?_) (fun _ => ?_)
    · skip
      refine s_pick [1] rfl ?_
      exact sm_exit (fun f h => h)
    · skip
      refine s_aload_n 0 dX10_tub_93 rfl rfl ?_
      refine sm_ck (fun g30 => ?_)
      refine s_getR 62 dX10_tub_94 rfl fl_10_54 rfl (S_0 g30) (R_0_8 g30) ?_
      refine s_iload_n 2 dX10_tub_97 rfl rfl ?_
      refine s_iconst (v := 0) dX10_tub_98 rfl cI_0 ?_
      refine sm_ck (fun g32 => ?_)
      refine s_zastL dX10_tub_99 rfl (S_62 g30) g32 (fun I31 => ?_)
      refine s_iincL 2 (c := 1) (fun v33 => [(3, .int v33), (0, .ref (X.1 + 0)), (2, .ref (X.1 + t_12))]) dX10_tub_100 rfl rfl cI_1 (by decide) (fun _ => rfl) (fun v33 => ?_)
      refine s_goto (tgt := 88) dX10_tub_103 rfl ?_
      refine s_pick [1, 2, 0] rfl ?_
      exact ih v33 I31
theorem ct_x10_tub {X : WX} {I : MI} {L : ML} {R : MR} {S : MS} : Ct X yX10_tub cX10_tub 4 (some .int) 245 5513 [.ref (X.1 + 0)] (I, L, R, S) (x10_tub I L R S) (fun r => (some (.int r.1), (r.2.1, r.2.2.1, r.2.2.2.1, r.2.2.2.2))) := by
  refine Ct.of (by decide) (Nat.le_of_ble_eq_true rfl) [(0, .ref (X.1 + 0))] rfl ?_
  unfold x10_tub
  refine s_aload_n 0 dX10_tub_0 rfl rfl ?_
  refine sm_ck (fun g1 => ?_)
  refine s_getR 20 dX10_tub_1 rfl fl_10_25 rfl (S_0 g1) (R_0_3 g1) ?_
  refine s_aload_n 0 dX10_tub_4 rfl rfl ?_
  refine s_getR 1 dX10_tub_5 rfl fl_10_9 rfl (S_0 g1) (R_0_0 g1) ?_
  refine s_aload_n 0 dX10_tub_8 rfl rfl ?_
  refine s_getI dX10_tub_9 rfl fl_10_97 (S_0 g1) ?_
  refine s_aload_n 0 dX10_tub_12 rfl rfl ?_
  refine sm_b1 (fun t_2 h3 => ?_)
  refine s_getR t_2 dX10_tub_13 rfl fl_10_16 rfl (S_0 g1) h3 ?_
  refine s_callV3_i3 dX10_tub_16 rfl lkV_RX10_105 (S_20 g1) (Nat.le_of_ble_eq_true rfl) (Nat.le_of_ble_eq_true rfl) (Nat.le_of_ble_eq_true rfl) ct_x5_read (fun r4 I5 L6 R7 S8 => ?_)
  refine s_istore_nL (fun v9 => [(1, .int v9), (0, .ref (X.1 + 0))]) dX10_tub_19 rfl (by decide) (fun _ => rfl) (fun v9 => ?_)
  refine s_aload_n 1 dX10_tub_20 rfl rfl ?_
  refine s_iconst (v := 0) dX10_tub_21 rfl cI_0 ?_
  refine sm_ck (fun g10 => ?_)
  refine s_putIL dX10_tub_22 rfl fl_10_97 (S_0 g10) (fun I11 => ?_)
  refine s_iload_n 0 dX10_tub_25 rfl rfl ?_
  refine s_if_ne (tgt := 31) dX10_tub_26 rfl rfl (fun _ => ?_) (fun _ => ?_)
  · skip
    refine s_aload_n 1 dX10_tub_31 rfl rfl ?_
    refine sm_b1 (fun t_12 h13 => ?_)
    refine s_getR t_12 dX10_tub_32 rfl fl_10_16 rfl (S_0 g10) h13 ?_
    refine s_astore_n [(2, .ref (X.1 + t_12)), (1, .int v9), (0, .ref (X.1 + 0))] dX10_tub_35 rfl (by decide) rfl ?_
    refine s_aload_n 2 dX10_tub_36 rfl rfl ?_
    refine s_aload_n 2 dX10_tub_37 rfl rfl ?_
    refine s_getR 27 dX10_tub_38 rfl fl_10_32 rfl (S_0 g10) (R_0_4 g10) ?_
    refine sm_b1 (fun t_14 h15 => ?_)
    refine s_getR t_14 dX10_tub_41 rfl fl_10_87 rfl (S_27 g10) h15 ?_
    refine s_putRL dX10_tub_44 rfl fl_10_16 (Or.inl ⟨_, rfl⟩) (S_0 g10) (fun R16 _ => ?_)
    refine s_aload_n 2 dX10_tub_47 rfl rfl ?_
    refine sm_ck (fun g17 => ?_)
    refine s_getR 27 dX10_tub_48 rfl fl_10_32 rfl (S_0 g17) (R_0_4 g17) ?_
    refine s_aload_n 0 dX10_tub_51 rfl rfl ?_
    refine s_putRL dX10_tub_52 rfl fl_10_87 (Or.inl ⟨_, rfl⟩) (S_27 g17) (fun R18 _ => ?_)
    refine s_aload_n 2 dX10_tub_55 rfl rfl ?_
    refine sm_ck (fun g19 => ?_)
    refine s_getR 47 dX10_tub_56 rfl fl_10_39 rfl (S_0 g19) (R_0_5 g19) ?_
    refine s_aload_n 0 dX10_tub_59 rfl rfl ?_
    refine sm_ck (fun g20 => ?_)
    refine s_callV1_v1 dX10_tub_60 rfl lkV_RX10_90 (S_47 g19) (Nat.le_of_ble_eq_true rfl) (Nat.le_of_ble_eq_true rfl) (Nat.le_of_ble_eq_true rfl) (ct_x7_begin g19 (st_47 g19) g20) (fun I21 => ?_)
    refine s_aload_n 2 dX10_tub_63 rfl rfl ?_
    refine s_getR 59 dX10_tub_64 rfl fl_10_46 rfl (S_0 g19) (R_0_6 g19) ?_
    refine s_aload_n 2 dX10_tub_67 rfl rfl ?_
    refine s_getR 47 dX10_tub_68 rfl fl_10_39 rfl (S_0 g19) (R_0_5 g19) ?_
    refine s_callV1_v3 dX10_tub_71 rfl lkV_RX10_93 (S_59 g19) (Nat.le_of_ble_eq_true rfl) (Nat.le_of_ble_eq_true rfl) (Nat.le_of_ble_eq_true rfl) ct_x2_start (fun I22 L23 R24 S25 => ?_)
    refine s_aload_n 2 dX10_tub_74 rfl rfl ?_
    refine sm_ck (fun g26 => ?_)
    refine s_getR 83 dX10_tub_75 rfl fl_10_79 rfl (S_0 g26) (R_0_11 g26) ?_
    refine s_callV0_v1 dX10_tub_78 rfl lkV_RX10_109 (S_83 g26) (Nat.le_of_ble_eq_true rfl) (Nat.le_of_ble_eq_true rfl) (Nat.le_of_ble_eq_true rfl) (ct_x4_clear g26) (fun I27 => ?_)
    refine s_aload_n 2 dX10_tub_81 rfl rfl ?_
    refine s_iconst (v := 0) dX10_tub_82 rfl cI_0 ?_
    refine s_putIL dX10_tub_83 rfl fl_10_112 (S_0 g26) (fun I28 => ?_)
    refine s_iconst (v := 0) dX10_tub_86 rfl cI_0 ?_
    refine s_istore_nL (fun v29 => [(3, .int v29), (2, .ref (X.1 + t_12)), (1, .int v9), (0, .ref (X.1 + 0))]) dX10_tub_87 rfl (by decide) (fun _ => rfl) (fun v29 => ?_)
    refine s_pick [3, 1, 0] rfl ?_
    refine sm_reg (x10_tub_L88_ok  FU v29 I28) (fun e34 => ?_)
    refine s_aload_n 0 dX10_tub_106 rfl rfl ?_
    refine s_getI dX10_tub_107 rfl fl_10_115 (tS_0 g26 g20) ?_
    exact s_iret dX10_tub_110 rfl (fun f h => h)
  · skip
    refine s_iconst (v := (-1)) dX10_tub_29 rfl cI_m1 ?_
    exact s_iret dX10_tub_30 rfl (fun f h => h)
noncomputable def x10_fault (p1 : Int32) (I : MI) : Option (Int32) :=
if p1 = 0 then (
some (I 20 8)) else
if p1 = 1 then (
some (I 20 9)) else
some (-1 : Int32)
theorem ct_x10_fault {X : WX} {p1 : Int32} {I : MI} {L : ML} {R : MR} {S : MS} (hK : okr R S) : Ct X yX10_fault cX10_fault 2 (some .int) 0 0 [.ref (X.1 + 0), .int p1] (I, L, R, S) (x10_fault p1 I) (fun r => (some (.int r), (I, L, R, S))) := by
  refine Ct.of (by decide) (Nat.le_of_ble_eq_true rfl) [(0, .ref (X.1 + 0)), (1, .int p1)] rfl ?_
  unfold x10_fault
  refine s_iload_n 1 dX10_fault_0 rfl rfl ?_
  refine s_if_ne (tgt := 12) dX10_fault_1 rfl rfl (fun _ => ?_) (fun _ => ?_)
  · skip
    refine s_iload_n 1 dX10_fault_12 rfl rfl ?_
    refine s_iconst (v := 1) dX10_fault_13 rfl cI_1 ?_
    refine s_icmp_ne (tgt := 27) dX10_fault_14 rfl rfl (fun _ => ?_) (fun _ => ?_)
    · skip
      refine s_iconst (v := (-1)) dX10_fault_27 rfl cI_m1 ?_
      exact s_iret dX10_fault_28 rfl (fun f h => h)
    · skip
      refine s_aload_n 0 dX10_fault_17 rfl rfl ?_
      refine s_getR 20 dX10_fault_18 rfl fl_10_25 rfl (S_0 hK) (R_0_3 hK) ?_
      refine s_getI dX10_fault_21 rfl fl_10_121 (S_20 hK) ?_
      refine s_goto (tgt := 28) dX10_fault_24 rfl ?_
      exact s_iret dX10_fault_28 rfl (fun f h => h)
  · skip
    refine s_aload_n 0 dX10_fault_4 rfl rfl ?_
    refine s_getR 20 dX10_fault_5 rfl fl_10_25 rfl (S_0 hK) (R_0_3 hK) ?_
    refine s_getI dX10_fault_8 rfl fl_10_118 (S_20 hK) ?_
    exact s_iret dX10_fault_11 rfl (fun f h => h)
noncomputable def x10_isApple (t : Nat) (p1 : Int32) (I : MI) : Option (Int32) :=
if p1 < 0 then (
some (0 : Int32)) else
if p1 < (I t 4) then (
some (1 : Int32)) else
some (0 : Int32)
theorem ct_x10_isApple {X : WX} {t : Nat} {p1 : Int32} {I : MI} {L : ML} {R : MR} {S : MS} (hK : okr R S) (ht : R 27 0 = some t ∧ isT t) : Ct X yX10_isApple cX10_isApple 2 (some .boolean) 0 0 [.ref (X.1 + 0), .int p1] (I, L, R, S) (x10_isApple t p1 I) (fun r => (some (.int r), (I, L, R, S))) := by
  refine Ct.of (by decide) (Nat.le_of_ble_eq_true rfl) [(0, .ref (X.1 + 0)), (1, .int p1)] rfl ?_
  unfold x10_isApple
  refine s_iload_n 1 dX10_isApple_0 rfl rfl ?_
  refine s_if_lt (tgt := 22) dX10_isApple_1 rfl rfl (fun _ => ?_) (fun _ => ?_)
  · skip
    refine s_iconst (v := 0) dX10_isApple_22 rfl cI_0 ?_
    exact s_zret dX10_isApple_23 rfl (Or.inl rfl) (fun f h => h)
  · skip
    refine s_iload_n 1 dX10_isApple_4 rfl rfl ?_
    refine s_aload_n 0 dX10_isApple_5 rfl rfl ?_
    refine s_getR 27 dX10_isApple_6 rfl fl_10_32 rfl (S_0 hK) (R_0_4 hK) ?_
    refine s_getR t dX10_isApple_9 rfl fl_10_87 rfl (S_27 hK) ht.1 ?_
    refine s_getI dX10_isApple_12 rfl fl_10_115 (tS_0 hK ht.2) ?_
    refine s_icmp_ge (tgt := 22) dX10_isApple_15 rfl rfl (fun _ => ?_) (fun _ => ?_)
    · skip
      refine s_iconst (v := 0) dX10_isApple_22 rfl cI_0 ?_
      exact s_zret dX10_isApple_23 rfl (Or.inl rfl) (fun f h => h)
    · skip
      refine s_iconst (v := 1) dX10_isApple_18 rfl cI_1 ?_
      refine s_goto (tgt := 23) dX10_isApple_19 rfl ?_
      exact s_zret dX10_isApple_23 rfl (Or.inr rfl) (fun f h => h)
noncomputable def x10_apple (t : Nat) (p1 : Int32) (p2 : Int32) (I : MI) : Option (Int32) :=
b1 (x10_isApple t p1 I) fun r1 =>
if r1 = 0 then (
some (-2 : Int32)) else
if p2 = 0 then (
ck (vp_in p1 10) <|
some (I 48 (ix p1))) else
if p2 = 1 then (
ck (vp_in p1 10) <|
some (I 49 (ix p1))) else
if p2 = 2 then (
ck (vp_in p1 10) <|
some (I 50 (ix p1))) else
if p2 = 3 then (
ck (vp_in p1 10) <|
some (I 51 (ix p1))) else
if p2 = 4 then (
ck (vp_in p1 10) <|
some (I 52 (ix p1))) else
some (-2 : Int32)
theorem ct_x10_apple {X : WX} {t : Nat} {p1 : Int32} {p2 : Int32} {I : MI} {L : ML} {R : MR} {S : MS} (hK : okr R S) (ht : R 27 0 = some t ∧ isT t) : Ct X yX10_apple cX10_apple 3 (some .int) 1 21 [.ref (X.1 + 0), .int p1, .int p2] (I, L, R, S) (x10_apple t p1 p2 I) (fun r => (some (.int r), (I, L, R, S))) := by
  refine Ct.of (by decide) (Nat.le_of_ble_eq_true rfl) [(0, .ref (X.1 + 0)), (1, .int p1), (2, .int p2)] rfl ?_
  unfold x10_apple
  refine s_aload_n 0 dX10_apple_0 rfl rfl ?_
  refine s_iload_n 1 dX10_apple_1 rfl rfl ?_
  refine s_callV1_i0 dX10_apple_2 rfl lkV_RX10_124 (S_0 hK) (Nat.le_of_ble_eq_true rfl) (Nat.le_of_ble_eq_true rfl) (Nat.le_of_ble_eq_true rfl) (ct_x10_isApple hK ht) (fun r1 => ?_)
  refine s_if_ne (tgt := 11) dX10_apple_5 rfl rfl (fun _ => ?_) (fun _ => ?_)
  · skip
    refine s_iload_n 2 dX10_apple_11 rfl rfl ?_
    refine sm_ite (fun h2 => ?_) (fun h2 => ?_)
    · skip
      refine s_tin (tgt := 48) dX10_apple_12 (by rw [h2]; try decide) (by rw [h2]; try decide) (by rw [h2]; try rfl) rfl ?_
      refine s_aload_n 0 dX10_apple_48 rfl rfl ?_
      refine s_getR 47 dX10_apple_49 rfl fl_10_39 rfl (S_0 hK) (R_0_5 hK) ?_
      refine s_getR 48 dX10_apple_52 rfl fl_10_128 rfl (S_47 hK) (R_47_0 hK) ?_
      refine s_iload_n 1 dX10_apple_55 rfl rfl ?_
      refine sm_ck (fun g3 => ?_)
      refine s_iald dX10_apple_56 rfl (S_48 hK) g3 ?_
      exact s_iret dX10_apple_57 rfl (fun f h => h)
    refine sm_ite (fun h4 => ?_) (fun h4 => ?_)
    · skip
      refine s_tin (tgt := 58) dX10_apple_12 (by rw [h4]; try decide) (by rw [h4]; try decide) (by rw [h4]; try rfl) rfl ?_
      refine s_aload_n 0 dX10_apple_58 rfl rfl ?_
      refine s_getR 47 dX10_apple_59 rfl fl_10_39 rfl (S_0 hK) (R_0_5 hK) ?_
      refine s_getR 49 dX10_apple_62 rfl fl_10_131 rfl (S_47 hK) (R_47_1 hK) ?_
      refine s_iload_n 1 dX10_apple_65 rfl rfl ?_
      refine sm_ck (fun g5 => ?_)
      refine s_iald dX10_apple_66 rfl (S_49 hK) g5 ?_
      exact s_iret dX10_apple_67 rfl (fun f h => h)
    refine sm_ite (fun h6 => ?_) (fun h6 => ?_)
    · skip
      refine s_tin (tgt := 68) dX10_apple_12 (by rw [h6]; try decide) (by rw [h6]; try decide) (by rw [h6]; try rfl) rfl ?_
      refine s_aload_n 0 dX10_apple_68 rfl rfl ?_
      refine s_getR 47 dX10_apple_69 rfl fl_10_39 rfl (S_0 hK) (R_0_5 hK) ?_
      refine s_getR 50 dX10_apple_72 rfl fl_10_134 rfl (S_47 hK) (R_47_2 hK) ?_
      refine s_iload_n 1 dX10_apple_75 rfl rfl ?_
      refine sm_ck (fun g7 => ?_)
      refine s_iald dX10_apple_76 rfl (S_50 hK) g7 ?_
      exact s_iret dX10_apple_77 rfl (fun f h => h)
    refine sm_ite (fun h8 => ?_) (fun h8 => ?_)
    · skip
      refine s_tin (tgt := 78) dX10_apple_12 (by rw [h8]; try decide) (by rw [h8]; try decide) (by rw [h8]; try rfl) rfl ?_
      refine s_aload_n 0 dX10_apple_78 rfl rfl ?_
      refine s_getR 47 dX10_apple_79 rfl fl_10_39 rfl (S_0 hK) (R_0_5 hK) ?_
      refine s_getR 51 dX10_apple_82 rfl fl_10_137 rfl (S_47 hK) (R_47_3 hK) ?_
      refine s_iload_n 1 dX10_apple_85 rfl rfl ?_
      refine sm_ck (fun g9 => ?_)
      refine s_iald dX10_apple_86 rfl (S_51 hK) g9 ?_
      exact s_iret dX10_apple_87 rfl (fun f h => h)
    refine sm_ite (fun h10 => ?_) (fun h10 => ?_)
    · skip
      refine s_tin (tgt := 88) dX10_apple_12 (by rw [h10]; try decide) (by rw [h10]; try decide) (by rw [h10]; try rfl) rfl ?_
      refine s_aload_n 0 dX10_apple_88 rfl rfl ?_
      refine s_getR 47 dX10_apple_89 rfl fl_10_39 rfl (S_0 hK) (R_0_5 hK) ?_
      refine s_getR 52 dX10_apple_92 rfl fl_10_140 rfl (S_47 hK) (R_47_4 hK) ?_
      refine s_iload_n 1 dX10_apple_95 rfl rfl ?_
      refine sm_ck (fun g11 => ?_)
      refine s_iald dX10_apple_96 rfl (S_52 hK) g11 ?_
      exact s_iret dX10_apple_97 rfl (fun f h => h)
    have hsw : ¬ (p2).toInt = 0 ∧ ¬ (p2).toInt = 1 ∧ ¬ (p2).toInt = 2 ∧ ¬ (p2).toInt = 3 ∧ ¬ (p2).toInt = 4 := ⟨lv_neT h2 (a := 0) rfl, lv_neT h4 (a := 1) rfl, lv_neT h6 (a := 2) rfl, lv_neT h8 (a := 3) rfl, lv_neT h10 (a := 4) rfl⟩
    refine s_tout (tgt := 98) dX10_apple_12 (by omega) rfl ?_
    refine s_bipush (v := (-2)) dX10_apple_98 rfl cB_m2 ?_
    exact s_iret dX10_apple_100 rfl (fun f h => h)
  · skip
    refine s_bipush (v := (-2)) dX10_apple_8 rfl cB_m2 ?_
    exact s_iret dX10_apple_10 rfl (fun f h => h)
noncomputable def x10_isBobber (t : Nat) (p1 : Int32) (I : MI) : Option (Int32) :=
if p1 < 0 then (
some (0 : Int32)) else
if p1 < (I t 11) then (
some (1 : Int32)) else
some (0 : Int32)
theorem ct_x10_isBobber {X : WX} {t : Nat} {p1 : Int32} {I : MI} {L : ML} {R : MR} {S : MS} (hK : okr R S) (ht : R 27 0 = some t ∧ isT t) : Ct X yX10_isBobber cX10_isBobber 2 (some .boolean) 0 0 [.ref (X.1 + 0), .int p1] (I, L, R, S) (x10_isBobber t p1 I) (fun r => (some (.int r), (I, L, R, S))) := by
  refine Ct.of (by decide) (Nat.le_of_ble_eq_true rfl) [(0, .ref (X.1 + 0)), (1, .int p1)] rfl ?_
  unfold x10_isBobber
  refine s_iload_n 1 dX10_isBobber_0 rfl rfl ?_
  refine s_if_lt (tgt := 22) dX10_isBobber_1 rfl rfl (fun _ => ?_) (fun _ => ?_)
  · skip
    refine s_iconst (v := 0) dX10_isBobber_22 rfl cI_0 ?_
    exact s_zret dX10_isBobber_23 rfl (Or.inl rfl) (fun f h => h)
  · skip
    refine s_iload_n 1 dX10_isBobber_4 rfl rfl ?_
    refine s_aload_n 0 dX10_isBobber_5 rfl rfl ?_
    refine s_getR 27 dX10_isBobber_6 rfl fl_10_32 rfl (S_0 hK) (R_0_4 hK) ?_
    refine s_getR t dX10_isBobber_9 rfl fl_10_87 rfl (S_27 hK) ht.1 ?_
    refine s_getI dX10_isBobber_12 rfl fl_10_207 (tS_0 hK ht.2) ?_
    refine s_icmp_ge (tgt := 22) dX10_isBobber_15 rfl rfl (fun _ => ?_) (fun _ => ?_)
    · skip
      refine s_iconst (v := 0) dX10_isBobber_22 rfl cI_0 ?_
      exact s_zret dX10_isBobber_23 rfl (Or.inl rfl) (fun f h => h)
    · skip
      refine s_iconst (v := 1) dX10_isBobber_18 rfl cI_1 ?_
      refine s_goto (tgt := 23) dX10_isBobber_19 rfl ?_
      exact s_zret dX10_isBobber_23 rfl (Or.inr rfl) (fun f h => h)
noncomputable def x10_bobber (t : Nat) (p1 : Int32) (p2 : Int32) (I : MI) : Option (Int32) :=
b1 (x10_isBobber t p1 I) fun r1 =>
if r1 = 0 then (
some (-1 : Int32)) else
if p2 = 0 then (
ck (vp_in p1 4) <|
some (I 55 (ix p1))) else
if p2 = 1 then (
ck (vp_in p1 4) <|
some (I 56 (ix p1))) else
if p2 = 2 then (
ck (vp_in p1 4) <|
some (I 57 (ix p1))) else
some (-1 : Int32)
theorem ct_x10_bobber {X : WX} {t : Nat} {p1 : Int32} {p2 : Int32} {I : MI} {L : ML} {R : MR} {S : MS} (hK : okr R S) (ht : R 27 0 = some t ∧ isT t) : Ct X yX10_bobber cX10_bobber 3 (some .int) 1 21 [.ref (X.1 + 0), .int p1, .int p2] (I, L, R, S) (x10_bobber t p1 p2 I) (fun r => (some (.int r), (I, L, R, S))) := by
  refine Ct.of (by decide) (Nat.le_of_ble_eq_true rfl) [(0, .ref (X.1 + 0)), (1, .int p1), (2, .int p2)] rfl ?_
  unfold x10_bobber
  refine s_aload_n 0 dX10_bobber_0 rfl rfl ?_
  refine s_iload_n 1 dX10_bobber_1 rfl rfl ?_
  refine s_callV1_i0 dX10_bobber_2 rfl lkV_RX10_143 (S_0 hK) (Nat.le_of_ble_eq_true rfl) (Nat.le_of_ble_eq_true rfl) (Nat.le_of_ble_eq_true rfl) (ct_x10_isBobber hK ht) (fun r1 => ?_)
  refine s_if_ne (tgt := 10) dX10_bobber_5 rfl rfl (fun _ => ?_) (fun _ => ?_)
  · skip
    refine s_iload_n 2 dX10_bobber_10 rfl rfl ?_
    refine sm_ite (fun h2 => ?_) (fun h2 => ?_)
    · skip
      refine s_tin (tgt := 36) dX10_bobber_11 (by rw [h2]; try decide) (by rw [h2]; try decide) (by rw [h2]; try rfl) rfl ?_
      refine s_aload_n 0 dX10_bobber_36 rfl rfl ?_
      refine s_getR 47 dX10_bobber_37 rfl fl_10_39 rfl (S_0 hK) (R_0_5 hK) ?_
      refine s_getR 55 dX10_bobber_40 rfl fl_10_146 rfl (S_47 hK) (R_47_7 hK) ?_
      refine s_iload_n 1 dX10_bobber_43 rfl rfl ?_
      refine sm_ck (fun g3 => ?_)
      refine s_iald dX10_bobber_44 rfl (S_55 hK) g3 ?_
      exact s_iret dX10_bobber_45 rfl (fun f h => h)
    refine sm_ite (fun h4 => ?_) (fun h4 => ?_)
    · skip
      refine s_tin (tgt := 46) dX10_bobber_11 (by rw [h4]; try decide) (by rw [h4]; try decide) (by rw [h4]; try rfl) rfl ?_
      refine s_aload_n 0 dX10_bobber_46 rfl rfl ?_
      refine s_getR 47 dX10_bobber_47 rfl fl_10_39 rfl (S_0 hK) (R_0_5 hK) ?_
      refine s_getR 56 dX10_bobber_50 rfl fl_10_149 rfl (S_47 hK) (R_47_8 hK) ?_
      refine s_iload_n 1 dX10_bobber_53 rfl rfl ?_
      refine sm_ck (fun g5 => ?_)
      refine s_iald dX10_bobber_54 rfl (S_56 hK) g5 ?_
      exact s_iret dX10_bobber_55 rfl (fun f h => h)
    refine sm_ite (fun h6 => ?_) (fun h6 => ?_)
    · skip
      refine s_tin (tgt := 56) dX10_bobber_11 (by rw [h6]; try decide) (by rw [h6]; try decide) (by rw [h6]; try rfl) rfl ?_
      refine s_aload_n 0 dX10_bobber_56 rfl rfl ?_
      refine s_getR 47 dX10_bobber_57 rfl fl_10_39 rfl (S_0 hK) (R_0_5 hK) ?_
      refine s_getR 57 dX10_bobber_60 rfl fl_10_152 rfl (S_47 hK) (R_47_9 hK) ?_
      refine s_iload_n 1 dX10_bobber_63 rfl rfl ?_
      refine sm_ck (fun g7 => ?_)
      refine s_iald dX10_bobber_64 rfl (S_57 hK) g7 ?_
      exact s_iret dX10_bobber_65 rfl (fun f h => h)
    have hsw : ¬ (p2).toInt = 0 ∧ ¬ (p2).toInt = 1 ∧ ¬ (p2).toInt = 2 := ⟨lv_neT h2 (a := 0) rfl, lv_neT h4 (a := 1) rfl, lv_neT h6 (a := 2) rfl⟩
    refine s_tout (tgt := 66) dX10_bobber_11 (by omega) rfl ?_
    refine s_iconst (v := (-1)) dX10_bobber_66 rfl cI_m1 ?_
    exact s_iret dX10_bobber_67 rfl (fun f h => h)
  · skip
    refine s_iconst (v := (-1)) dX10_bobber_8 rfl cI_m1 ?_
    exact s_iret dX10_bobber_9 rfl (fun f h => h)
noncomputable def x10_isKind (p0 : Int32) (I : MI) : Option (Int32) :=
if p0 < 0 then (
some (0 : Int32)) else
if p0 < 5 then (
some (1 : Int32)) else
some (0 : Int32)
theorem ct_x10_isKind {X : WX} {p0 : Int32} {I : MI} {L : ML} {R : MR} {S : MS} (hK : okr R S) : Ct X yX10_isKind cX10_isKind 1 (some .boolean) 0 0 [.int p0] (I, L, R, S) (x10_isKind p0 I) (fun r => (some (.int r), (I, L, R, S))) := by
  refine Ct.of (by decide) (Nat.le_of_ble_eq_true rfl) [(0, .int p0)] rfl ?_
  unfold x10_isKind
  refine s_iload_n 0 dX10_isKind_0 rfl rfl ?_
  refine s_if_lt (tgt := 13) dX10_isKind_1 rfl rfl (fun _ => ?_) (fun _ => ?_)
  · skip
    refine s_iconst (v := 0) dX10_isKind_13 rfl cI_0 ?_
    exact s_zret dX10_isKind_14 rfl (Or.inl rfl) (fun f h => h)
  · skip
    refine s_iload_n 0 dX10_isKind_4 rfl rfl ?_
    refine s_iconst (v := 5) dX10_isKind_5 rfl cI_5 ?_
    refine s_icmp_ge (tgt := 13) dX10_isKind_6 rfl rfl (fun _ => ?_) (fun _ => ?_)
    · skip
      refine s_iconst (v := 0) dX10_isKind_13 rfl cI_0 ?_
      exact s_zret dX10_isKind_14 rfl (Or.inl rfl) (fun f h => h)
    · skip
      refine s_iconst (v := 1) dX10_isKind_9 rfl cI_1 ?_
      refine s_goto (tgt := 14) dX10_isKind_10 rfl ?_
      exact s_zret dX10_isKind_14 rfl (Or.inr rfl) (fun f h => h)
