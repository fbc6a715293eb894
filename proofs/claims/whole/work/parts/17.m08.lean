noncomputable def x11_wave (p1 : Int32) (I : MI) : Option (Int32 × MI) :=
b1 (x11_isIn p1 (0 : Int32) (3 : Int32) I) fun r1 =>
if r1 = 0 then (
some ((-1 : Int32), I)) else
b1 (x11_act I) fun I2 =>
b1 (x11_load I2) fun I3 =>
b2 (x11_wavesTo p1 I3) fun r4 I5 =>
lt r4 fun v6 =>
b1 (x11_keep I5) fun I7 =>
some (v6, I7)
theorem ct_x11_wave {X : WX} {p1 : Int32} {I : MI} {L : ML} {R : MR} {S : MS} (hK : okm R S) : Ct X yX11_wave cX11_wave 3 (some .int) 4 98 [.ref (X.1 + 102), .int p1] (I, L, R, S) (x11_wave p1 I) (fun r => (some (.int r.1), (r.2, L, R, S))) := by
  refine Ct.of (by decide) (Nat.le_of_ble_eq_true rfl) [(0, .ref (X.1 + 102)), (1, .int p1)] rfl ?_
  unfold x11_wave
  refine s_iload_n 1 dX11_wave_0 rfl rfl ?_
  refine s_iconst (v := 0) dX11_wave_1 rfl cI_0 ?_
  refine s_iconst (v := 3) dX11_wave_2 rfl cI_3 ?_
  refine s_callS3_i0 dX11_wave_3 rfl lkS_RX11_494 (Nat.le_of_ble_eq_true rfl) (Nat.le_of_ble_eq_true rfl) (Nat.le_of_ble_eq_true rfl) (ct_x11_isIn hK) (fun r1 => ?_)
  refine s_if_ne (tgt := 11) dX11_wave_6 rfl rfl (fun _ => ?_) (fun _ => ?_)
  · skip
    refine s_aload_n 0 dX11_wave_11 rfl rfl ?_
    refine s_callV0_v1 dX11_wave_12 rfl lkV_RX11_575 (S_102 hK) (Nat.le_of_ble_eq_true rfl) (Nat.le_of_ble_eq_true rfl) (Nat.le_of_ble_eq_true rfl) (ct_x11_act hK) (fun I2 => ?_)
    refine s_aload_n 0 dX11_wave_15 rfl rfl ?_
    refine s_callV0_v1 dX11_wave_16 rfl lkV_RX11_566 (S_102 hK) (Nat.le_of_ble_eq_true rfl) (Nat.le_of_ble_eq_true rfl) (Nat.le_of_ble_eq_true rfl) (ct_x11_load hK) (fun I3 => ?_)
    refine s_aload_n 0 dX11_wave_19 rfl rfl ?_
    refine s_iload_n 1 dX11_wave_20 rfl rfl ?_
    refine s_callV1_i1 dX11_wave_21 rfl lkV_RX11_581 (S_102 hK) (Nat.le_of_ble_eq_true rfl) (Nat.le_of_ble_eq_true rfl) (Nat.le_of_ble_eq_true rfl) (ct_x11_wavesTo hK) (fun r4 I5 => ?_)
    refine s_istore_nL (fun v6 => [(2, .int v6), (0, .ref (X.1 + 102)), (1, .int p1)]) dX11_wave_24 rfl (by decide) (fun _ => rfl) (fun v6 => ?_)
    refine s_aload_n 1 dX11_wave_25 rfl rfl ?_
    refine s_callV0_v1 dX11_wave_26 rfl lkV_RX11_479 (S_102 hK) (Nat.le_of_ble_eq_true rfl) (Nat.le_of_ble_eq_true rfl) (Nat.le_of_ble_eq_true rfl) (ct_x11_keep hK) (fun I7 => ?_)
    refine s_iload_n 0 dX11_wave_29 rfl rfl ?_
    exact s_iret dX11_wave_30 rfl (fun f h => h)
  · skip
    refine s_iconst (v := (-1)) dX11_wave_9 rfl cI_m1 ?_
    exact s_iret dX11_wave_10 rfl (fun f h => h)
noncomputable def x11_party_L32s (rec : Int32 → Int32 → MI → Option (Int32 × MI)) (w2 : Int32) (w4 : Int32) (I : MI) : Option (Int32 × MI) :=
if w4 < (I 102 61) then (
ck (vp_in w4 4) <|
b2 (x11_actsBy w4 (I 135 (ix w4)) I) fun r8 I9 =>
if r8 = 0 then (
lt (w2 + 0) fun v10 =>
lt (w4 + 1) fun v11 =>
rec v10 v11 I9) else
lt (w2 + 1) fun v12 =>
lt (w4 + 1) fun v13 =>
rec v12 v13 I9) else
some (w2, I)
noncomputable def x11_party_L32 : Nat → Int32 → Int32 → MI → Option (Int32 × MI)
  | 0 => fun _ _ _ => none
  | n + 1 => x11_party_L32s (x11_party_L32 n)
noncomputable def x11_party_L24s (c1 : Int32) (rec : Int32 → Int32 → MI → Option (Int32 × MI)) (w2 : Int32) (w3 : Int32) (I : MI) : Option (Int32 × MI) :=
if w3 < c1 then (
lt (0 : Int32) fun v6 =>
b1 (x11_party_L32 FU w2 v6 I) fun e14 =>
lt (w3 + 1) fun v15 =>
rec e14.1 v15 e14.2) else
some (w2, I)
noncomputable def x11_party_L24 (c1 : Int32) : Nat → Int32 → Int32 → MI → Option (Int32 × MI)
  | 0 => fun _ _ _ => none
  | n + 1 => x11_party_L24s c1 (x11_party_L24 c1 n)
noncomputable def x11_party (p1 : Int32) (I : MI) : Option (Int32 × MI) :=
b1 (x11_isIn p1 (0 : Int32) (20 : Int32) I) fun r1 =>
if r1 = 0 then (
some ((-1 : Int32), I)) else
b1 (x11_act I) fun I2 =>
b1 (x11_load I2) fun I3 =>
lt (0 : Int32) fun v4 =>
lt (0 : Int32) fun v5 =>
b1 (x11_party_L24 p1 FU v4 v5 I3) fun e16 =>
b1 (x11_keep e16.2) fun I17 =>
some (e16.1, I17)
theorem x11_party_L32_ok {X : WX} {n0 s0 : Nat} {c1 : Int32} {c3 : Int32} {L : ML} {R : MR} {S : MS} (hK : okm R S) : ∀ (n : Nat) (w2 : Int32) (w4 : Int32) (I : MI), Sim X yX11_party cX11_party 5 (some .int) 7 169 n0 s0 32 [(0, .ref (X.1 + 102)), (1, .int c1), (2, .int w2), (3, .int c3), (4, .int w4)] [] (I, L, R, S) (x11_party_L32 n w2 w4 I) (fun b f => Ex X yX11_party cX11_party 5 (some .int) 7 169 n0 s0 71 [(0, .ref (X.1 + 102)), (1, .int c1), (2, .int b.1), (3, .int c3)] [] (b.2, L, R, S) f) := by
  intro n
  induction n with
  | zero =>
    intro w2 w4 I
    exact sm_none
  | succ n ih =>
    intro w2 w4 I
    change Sim _ _ _ _ _ _ _ _ _ _ _ _ _ (x11_party_L32s (x11_party_L32 n) w2 w4 I) _
    unfold x11_party_L32s
    refine s_iload 4 dX11_party_32 rfl rfl ?_
    refine s_aload_n 0 dX11_party_34 rfl rfl ?_
    refine s_getI dX11_party_35 rfl fl_11_470 (S_102 hK) ?_
    refine s_icmp_ge (tgt := 71) dX11_party_38 rfl rfl (fun _ => ?_) (fun _ => ?_)
    · skip
      refine s_pick [0, 1, 2, 3] rfl ?_
      exact sm_exit (fun f h => h)
    · skip
      refine s_iload_n 2 dX11_party_41 rfl rfl ?_
      refine s_aload_n 0 dX11_party_42 rfl rfl ?_
      refine s_iload 4 dX11_party_43 rfl rfl ?_
      refine s_aload_n 0 dX11_party_45 rfl rfl ?_
      refine s_getR 135 dX11_party_46 rfl fl_11_112 rfl (S_102 hK) (R_102_47 hK) ?_
      refine s_iload 4 dX11_party_49 rfl rfl ?_
      refine sm_ck (fun g7 => ?_)
      refine s_iald dX11_party_51 rfl (S_135 hK) g7 ?_
      refine s_callV2_i1 dX11_party_52 rfl lkV_RX11_584 (S_102 hK) (Nat.le_of_ble_eq_true rfl) (Nat.le_of_ble_eq_true rfl) (Nat.le_of_ble_eq_true rfl) (ct_x11_actsBy hK) (fun r8 I9 => ?_)
      refine s_if_eq (tgt := 62) dX11_party_55 rfl rfl (fun _ => ?_) (fun _ => ?_)
      · skip
        refine s_iconst (v := 0) dX11_party_62 rfl cI_0 ?_
        refine s_iadd dX11_party_63 rfl ?_
        refine s_istore_nL (fun v10 => [(2, .int v10), (0, .ref (X.1 + 102)), (1, .int c1), (3, .int c3), (4, .int w4)]) dX11_party_64 rfl (by decide) (fun _ => rfl) (fun v10 => ?_)
        refine s_iincL 4 (c := 1) (fun v11 => [(4, .int v11), (2, .int v10), (0, .ref (X.1 + 102)), (1, .int c1), (3, .int c3)]) dX11_party_65 rfl rfl cI_1 (by decide) (fun _ => rfl) (fun v11 => ?_)
        refine s_goto (tgt := 32) dX11_party_68 rfl ?_
        refine s_pick [2, 3, 1, 4, 0] rfl ?_
        exact ih v10 v11 I9
      · skip
        refine s_iconst (v := 1) dX11_party_58 rfl cI_1 ?_
        refine s_goto (tgt := 63) dX11_party_59 rfl ?_
        refine s_iadd dX11_party_63 rfl ?_
        refine s_istore_nL (fun v12 => [(2, .int v12), (0, .ref (X.1 + 102)), (1, .int c1), (3, .int c3), (4, .int w4)]) dX11_party_64 rfl (by decide) (fun _ => rfl) (fun v12 => ?_)
        refine s_iincL 4 (c := 1) (fun v13 => [(4, .int v13), (2, .int v12), (0, .ref (X.1 + 102)), (1, .int c1), (3, .int c3)]) dX11_party_65 rfl rfl cI_1 (by decide) (fun _ => rfl) (fun v13 => ?_)
        refine s_goto (tgt := 32) dX11_party_68 rfl ?_
        refine s_pick [2, 3, 1, 4, 0] rfl ?_
        exact ih v12 v13 I9
theorem x11_party_L24_ok {X : WX} {n0 s0 : Nat} {c1 : Int32} {L : ML} {R : MR} {S : MS} (hK : okm R S) : ∀ (n : Nat) (w2 : Int32) (w3 : Int32) (I : MI), Sim X yX11_party cX11_party 5 (some .int) 7 169 n0 s0 24 [(0, .ref (X.1 + 102)), (1, .int c1), (2, .int w2), (3, .int w3)] [] (I, L, R, S) (x11_party_L24 c1 n w2 w3 I) (fun b f => Ex X yX11_party cX11_party 5 (some .int) 7 169 n0 s0 77 [(0, .ref (X.1 + 102)), (2, .int b.1)] [] (b.2, L, R, S) f) := by
  intro n
  induction n with
  | zero =>
    intro w2 w3 I
    exact sm_none
  | succ n ih =>
    intro w2 w3 I
    change Sim _ _ _ _ _ _ _ _ _ _ _ _ _ (x11_party_L24s c1 (x11_party_L24 c1 n) w2 w3 I) _
    unfold x11_party_L24s
    refine s_iload_n 3 dX11_party_24 rfl rfl ?_
    refine s_iload_n 1 dX11_party_25 rfl rfl ?_
    refine s_icmp_ge (tgt := 77) dX11_party_26 rfl rfl (fun _ => ?_) (fun _ => ?_)
    · skip
      refine s_pick [0, 2] rfl ?_
      exact sm_exit (fun f h => h)
    · skip
      refine s_iconst (v := 0) dX11_party_29 rfl cI_0 ?_
      refine s_istoreL (fun v6 => [(4, .int v6), (0, .ref (X.1 + 102)), (1, .int c1), (2, .int w2), (3, .int w3)]) dX11_party_30 rfl (by decide) (fun _ => rfl) (fun v6 => ?_)
      refine s_pick [1, 2, 3, 4, 0] rfl ?_
      refine sm_reg (x11_party_L32_ok hK FU w2 v6 I) (fun e14 => ?_)
      refine s_iincL 3 (c := 1) (fun v15 => [(3, .int v15), (0, .ref (X.1 + 102)), (1, .int c1), (2, .int e14.1)]) dX11_party_71 rfl rfl cI_1 (by decide) (fun _ => rfl) (fun v15 => ?_)
      refine s_goto (tgt := 24) dX11_party_74 rfl ?_
      refine s_pick [1, 2, 3, 0] rfl ?_
      exact ih e14.1 v15 e14.2
theorem ct_x11_party {X : WX} {p1 : Int32} {I : MI} {L : ML} {R : MR} {S : MS} (hK : okm R S) : Ct X yX11_party cX11_party 5 (some .int) 7 169 [.ref (X.1 + 102), .int p1] (I, L, R, S) (x11_party p1 I) (fun r => (some (.int r.1), (r.2, L, R, S))) := by
  refine Ct.of (by decide) (Nat.le_of_ble_eq_true rfl) [(0, .ref (X.1 + 102)), (1, .int p1)] rfl ?_
  unfold x11_party
  refine s_iload_n 1 dX11_party_0 rfl rfl ?_
  refine s_iconst (v := 0) dX11_party_1 rfl cI_0 ?_
  refine s_bipush (v := 20) dX11_party_2 rfl cB_20 ?_
  refine s_callS3_i0 dX11_party_4 rfl lkS_RX11_494 (Nat.le_of_ble_eq_true rfl) (Nat.le_of_ble_eq_true rfl) (Nat.le_of_ble_eq_true rfl) (ct_x11_isIn hK) (fun r1 => ?_)
  refine s_if_ne (tgt := 12) dX11_party_7 rfl rfl (fun _ => ?_) (fun _ => ?_)
  · skip
    refine s_aload_n 0 dX11_party_12 rfl rfl ?_
    refine s_callV0_v1 dX11_party_13 rfl lkV_RX11_575 (S_102 hK) (Nat.le_of_ble_eq_true rfl) (Nat.le_of_ble_eq_true rfl) (Nat.le_of_ble_eq_true rfl) (ct_x11_act hK) (fun I2 => ?_)
    refine s_aload_n 0 dX11_party_16 rfl rfl ?_
    refine s_callV0_v1 dX11_party_17 rfl lkV_RX11_566 (S_102 hK) (Nat.le_of_ble_eq_true rfl) (Nat.le_of_ble_eq_true rfl) (Nat.le_of_ble_eq_true rfl) (ct_x11_load hK) (fun I3 => ?_)
    refine s_iconst (v := 0) dX11_party_20 rfl cI_0 ?_
    refine s_istore_nL (fun v4 => [(2, .int v4), (0, .ref (X.1 + 102)), (1, .int p1)]) dX11_party_21 rfl (by decide) (fun _ => rfl) (fun v4 => ?_)
    refine s_iconst (v := 0) dX11_party_22 rfl cI_0 ?_
    refine s_istore_nL (fun v5 => [(3, .int v5), (2, .int v4), (0, .ref (X.1 + 102)), (1, .int p1)]) dX11_party_23 rfl (by decide) (fun _ => rfl) (fun v5 => ?_)
    refine s_pick [2, 3, 1, 0] rfl ?_
    refine sm_reg (x11_party_L24_ok hK FU v4 v5 I3) (fun e16 => ?_)
    refine s_aload_n 0 dX11_party_77 rfl rfl ?_
    refine s_callV0_v1 dX11_party_78 rfl lkV_RX11_479 (S_102 hK) (Nat.le_of_ble_eq_true rfl) (Nat.le_of_ble_eq_true rfl) (Nat.le_of_ble_eq_true rfl) (ct_x11_keep hK) (fun I17 => ?_)
    refine s_iload_n 1 dX11_party_81 rfl rfl ?_
    exact s_iret dX11_party_82 rfl (fun f h => h)
  · skip
    refine s_iconst (v := (-1)) dX11_party_10 rfl cI_m1 ?_
    exact s_iret dX11_party_11 rfl (fun f h => h)
noncomputable def x11_undo (I : MI) : Option (Int32 × MI) :=
if (I 102 71) = 0 then (
some ((0 : Int32), I)) else
lt (wI I 102 71 ((I 102 71) - 1)) fun I1 =>
lt (wI I1 102 72 ((I1 102 72) + 1)) fun I2 =>
b1 (x11_exchange (128 * (I2 102 71)) I2) fun I3 =>
some ((1 : Int32), I3)
theorem ct_x11_undo {X : WX} {I : MI} {L : ML} {R : MR} {S : MS} (hK : okm R S) : Ct X yX11_undo cX11_undo 1 (some .boolean) 1 23 [.ref (X.1 + 102)] (I, L, R, S) (x11_undo I) (fun r => (some (.int r.1), (r.2, L, R, S))) := by
  refine Ct.of (by decide) (Nat.le_of_ble_eq_true rfl) [(0, .ref (X.1 + 102))] rfl ?_
  unfold x11_undo
  refine s_aload_n 0 dX11_undo_0 rfl rfl ?_
  refine s_getI dX11_undo_1 rfl fl_11_482 (S_102 hK) ?_
  refine s_if_ne (tgt := 9) dX11_undo_4 rfl rfl (fun _ => ?_) (fun _ => ?_)
  · skip
    refine s_aload_n 0 dX11_undo_9 rfl rfl ?_
    refine s_dup dX11_undo_10 rfl rfl ?_
    refine s_getI dX11_undo_11 rfl fl_11_482 (S_102 hK) ?_
    refine s_iconst (v := 1) dX11_undo_14 rfl cI_1 ?_
    refine s_isub dX11_undo_15 rfl ?_
    refine s_putIL dX11_undo_16 rfl fl_11_482 (S_102 hK) (fun I1 => ?_)
    refine s_aload_n 0 dX11_undo_19 rfl rfl ?_
    refine s_dup dX11_undo_20 rfl rfl ?_
    refine s_getI dX11_undo_21 rfl fl_11_485 (S_102 hK) ?_
    refine s_iconst (v := 1) dX11_undo_24 rfl cI_1 ?_
    refine s_iadd dX11_undo_25 rfl ?_
    refine s_putIL dX11_undo_26 rfl fl_11_485 (S_102 hK) (fun I2 => ?_)
    refine s_aload_n 0 dX11_undo_29 rfl rfl ?_
    refine s_sipush (v := 128) dX11_undo_30 rfl cS_128 ?_
    refine s_aload_n 0 dX11_undo_33 rfl rfl ?_
    refine s_getI dX11_undo_34 rfl fl_11_482 (S_102 hK) ?_
    refine s_imul dX11_undo_37 rfl ?_
    refine s_callV1_v1 dX11_undo_38 rfl lkV_RX11_587 (S_102 hK) (Nat.le_of_ble_eq_true rfl) (Nat.le_of_ble_eq_true rfl) (Nat.le_of_ble_eq_true rfl) (ct_x11_exchange hK) (fun I3 => ?_)
    refine s_iconst (v := 1) dX11_undo_41 rfl cI_1 ?_
    exact s_zret dX11_undo_42 rfl (Or.inr rfl) (fun f h => h)
  · skip
    refine s_iconst (v := 0) dX11_undo_7 rfl cI_0 ?_
    exact s_zret dX11_undo_8 rfl (Or.inl rfl) (fun f h => h)
noncomputable def x11_redo (I : MI) : Option (Int32 × MI) :=
if (I 102 72) = 0 then (
some ((0 : Int32), I)) else
b1 (x11_exchange (128 * (I 102 71)) I) fun I1 =>
lt (wI I1 102 71 ((I1 102 71) + 1)) fun I2 =>
lt (wI I2 102 72 ((I2 102 72) - 1)) fun I3 =>
some ((1 : Int32), I3)
theorem ct_x11_redo {X : WX} {I : MI} {L : ML} {R : MR} {S : MS} (hK : okm R S) : Ct X yX11_redo cX11_redo 1 (some .boolean) 1 23 [.ref (X.1 + 102)] (I, L, R, S) (x11_redo I) (fun r => (some (.int r.1), (r.2, L, R, S))) := by
  refine Ct.of (by decide) (Nat.le_of_ble_eq_true rfl) [(0, .ref (X.1 + 102))] rfl ?_
  unfold x11_redo
  refine s_aload_n 0 dX11_redo_0 rfl rfl ?_
  refine s_getI dX11_redo_1 rfl fl_11_485 (S_102 hK) ?_
  refine s_if_ne (tgt := 9) dX11_redo_4 rfl rfl (fun _ => ?_) (fun _ => ?_)
  · skip
    refine s_aload_n 0 dX11_redo_9 rfl rfl ?_
    refine s_sipush (v := 128) dX11_redo_10 rfl cS_128 ?_
    refine s_aload_n 0 dX11_redo_13 rfl rfl ?_
    refine s_getI dX11_redo_14 rfl fl_11_482 (S_102 hK) ?_
    refine s_imul dX11_redo_17 rfl ?_
    refine s_callV1_v1 dX11_redo_18 rfl lkV_RX11_587 (S_102 hK) (Nat.le_of_ble_eq_true rfl) (Nat.le_of_ble_eq_true rfl) (Nat.le_of_ble_eq_true rfl) (ct_x11_exchange hK) (fun I1 => ?_)
    refine s_aload_n 0 dX11_redo_21 rfl rfl ?_
    refine s_dup dX11_redo_22 rfl rfl ?_
    refine s_getI dX11_redo_23 rfl fl_11_482 (S_102 hK) ?_
    refine s_iconst (v := 1) dX11_redo_26 rfl cI_1 ?_
    refine s_iadd dX11_redo_27 rfl ?_
    refine s_putIL dX11_redo_28 rfl fl_11_482 (S_102 hK) (fun I2 => ?_)
    refine s_aload_n 0 dX11_redo_31 rfl rfl ?_
    refine s_dup dX11_redo_32 rfl rfl ?_
    refine s_getI dX11_redo_33 rfl fl_11_485 (S_102 hK) ?_
    refine s_iconst (v := 1) dX11_redo_36 rfl cI_1 ?_
    refine s_isub dX11_redo_37 rfl ?_
    refine s_putIL dX11_redo_38 rfl fl_11_485 (S_102 hK) (fun I3 => ?_)
    refine s_iconst (v := 1) dX11_redo_41 rfl cI_1 ?_
    exact s_zret dX11_redo_42 rfl (Or.inr rfl) (fun f h => h)
  · skip
    refine s_iconst (v := 0) dX11_redo_7 rfl cI_0 ?_
    exact s_zret dX11_redo_8 rfl (Or.inl rfl) (fun f h => h)
noncomputable def x11_loadRow_L2s (c1 : Int32) (rec : Int32 → MI → Option (MI)) (w2 : Int32) (I : MI) : Option (MI) :=
if w2 < 123 then (
ck (vp_in ((128 * c1) + w2) 2048) <|
ck (vp_in w2 128) <|
lt (wI I 137 (ix w2) (I 140 (ix ((128 * c1) + w2)))) fun I3 =>
lt (w2 + 1) fun v5 =>
rec v5 I3) else
some I
noncomputable def x11_loadRow_L2 (c1 : Int32) : Nat → Int32 → MI → Option (MI)
  | 0 => fun _ _ => none
  | n + 1 => x11_loadRow_L2s c1 (x11_loadRow_L2 c1 n)
noncomputable def x11_loadRow (p1 : Int32) (I : MI) : Option (MI) :=
lt (0 : Int32) fun v1 =>
b1 (x11_loadRow_L2 p1 FU v1 I) fun e6 =>
some e6
theorem x11_loadRow_L2_ok {X : WX} {n0 s0 : Nat} {c1 : Int32} {L : ML} {R : MR} {S : MS} (hK : okm R S) : ∀ (n : Nat) (w2 : Int32) (I : MI), Sim X yX11_loadRow cX11_loadRow 3 none 0 0 n0 s0 2 [(0, .ref (X.1 + 102)), (1, .int c1), (2, .int w2)] [] (I, L, R, S) (x11_loadRow_L2 c1 n w2 I) (fun b f => Ex X yX11_loadRow cX11_loadRow 3 none 0 0 n0 s0 32 [] [] (b, L, R, S) f) := by
  intro n
  induction n with
  | zero =>
    intro w2 I
    exact sm_none
  | succ n ih =>
    intro w2 I
    change Sim _ _ _ _ _ _ _ _ _ _ _ _ _ (x11_loadRow_L2s c1 (x11_loadRow_L2 c1 n) w2 I) _
    unfold x11_loadRow_L2s
    refine s_iload_n 2 dX11_loadRow_2 rfl rfl ?_
    refine s_bipush (v := 123) dX11_loadRow_3 rfl cB_123 ?_
    refine s_icmp_ge (tgt := 32) dX11_loadRow_5 rfl rfl (fun _ => ?_) (fun _ => ?_)
    · skip
      refine s_pick [] rfl ?_
      exact sm_exit (fun f h => h)
    · skip
      refine s_aload_n 0 dX11_loadRow_8 rfl rfl ?_
      refine s_getR 137 dX11_loadRow_9 rfl fl_11_121 rfl (S_102 hK) (R_102_66 hK) ?_
      refine s_iload_n 2 dX11_loadRow_12 rfl rfl ?_
      refine s_aload_n 0 dX11_loadRow_13 rfl rfl ?_
      refine s_getR 140 dX11_loadRow_14 rfl fl_11_130 rfl (S_102 hK) (R_102_73 hK) ?_
      refine s_sipush (v := 128) dX11_loadRow_17 rfl cS_128 ?_
      refine s_iload_n 1 dX11_loadRow_20 rfl rfl ?_
      refine s_imul dX11_loadRow_21 rfl ?_
      refine s_iload_n 2 dX11_loadRow_22 rfl rfl ?_
      refine s_iadd dX11_loadRow_23 rfl ?_
      refine sm_ck (fun g2 => ?_)
      refine s_iald dX11_loadRow_24 rfl (S_140 hK) g2 ?_
      refine sm_ck (fun g4 => ?_)
      refine s_iastL dX11_loadRow_25 rfl (S_137 hK) g4 (fun I3 => ?_)
      refine s_iincL 2 (c := 1) (fun v5 => [(2, .int v5), (0, .ref (X.1 + 102)), (1, .int c1)]) dX11_loadRow_26 rfl rfl cI_1 (by decide) (fun _ => rfl) (fun v5 => ?_)
      refine s_goto (tgt := 2) dX11_loadRow_29 rfl ?_
      refine s_pick [1, 2, 0] rfl ?_
      exact ih v5 I3
theorem ct_x11_loadRow {X : WX} {p1 : Int32} {I : MI} {L : ML} {R : MR} {S : MS} (hK : okm R S) : Ct X yX11_loadRow cX11_loadRow 3 none 0 0 [.ref (X.1 + 102), .int p1] (I, L, R, S) (x11_loadRow p1 I) (fun r => (none, (r, L, R, S))) := by
  refine Ct.of (by decide) (Nat.le_of_ble_eq_true rfl) [(0, .ref (X.1 + 102)), (1, .int p1)] rfl ?_
  unfold x11_loadRow
  refine s_iconst (v := 0) dX11_loadRow_0 rfl cI_0 ?_
  refine s_istore_nL (fun v1 => [(2, .int v1), (0, .ref (X.1 + 102)), (1, .int p1)]) dX11_loadRow_1 rfl (by decide) (fun _ => rfl) (fun v1 => ?_)
  refine s_pick [1, 2, 0] rfl ?_
  refine sm_reg (x11_loadRow_L2_ok hK FU v1 I) (fun e6 => ?_)
  exact s_vret dX11_loadRow_32 rfl (fun f h => h)
noncomputable def x11_goDeeper_L2s (c1 : Int32) (rec : Int32 → MI → Option (MI)) (w3 : Int32) (I : MI) : Option (MI) :=
if w3 < 123 then (
ck (vp_in w3 128) <|
ck (vp_in ((128 * c1) + w3) 2048) <|
lt (wI I 140 (ix ((128 * c1) + w3)) (I 137 (ix w3))) fun I3 =>
lt (w3 + 1) fun v5 =>
rec v5 I3) else
some I
noncomputable def x11_goDeeper_L2 (c1 : Int32) : Nat → Int32 → MI → Option (MI)
  | 0 => fun _ _ => none
  | n + 1 => x11_goDeeper_L2s c1 (x11_goDeeper_L2 c1 n)
noncomputable def x11_goDeeper (p1 : Int32) (p2 : Int32) (I : MI) : Option (MI) :=
lt (0 : Int32) fun v1 =>
b1 (x11_goDeeper_L2 p1 FU v1 I) fun e6 =>
ck (vp_in p1 16) <|
lt (wI e6 141 (ix p1) p2) fun I7 =>
ck (vp_in p1 16) <|
lt (wI I7 142 (ix p1) (-1 : Int32)) fun I9 =>
ck (vp_in p1 16) <|
lt (wI I9 143 (ix p1) (0 : Int32)) fun I11 =>
ck (vp_in p1 16) <|
lt (wI I11 145 (ix p1) (0 : Int32)) fun I13 =>
ck (vp_in p1 16) <|
lt (wI I13 146 (ix p1) (-1 : Int32)) fun I15 =>
lt (wI I15 102 80 ((I15 102 80) + 1)) fun I17 =>
some I17
theorem x11_goDeeper_L2_ok {X : WX} {n0 s0 : Nat} {c1 : Int32} {c2 : Int32} {L : ML} {R : MR} {S : MS} (hK : okm R S) : ∀ (n : Nat) (w3 : Int32) (I : MI), Sim X yX11_goDeeper cX11_goDeeper 4 none 0 0 n0 s0 2 [(0, .ref (X.1 + 102)), (1, .int c1), (2, .int c2), (3, .int w3)] [] (I, L, R, S) (x11_goDeeper_L2 c1 n w3 I) (fun b f => Ex X yX11_goDeeper cX11_goDeeper 4 none 0 0 n0 s0 32 [(0, .ref (X.1 + 102)), (1, .int c1), (2, .int c2)] [] (b, L, R, S) f) := by
  intro n
  induction n with
  | zero =>
    intro w3 I
    exact sm_none
  | succ n ih =>
    intro w3 I
    change Sim _ _ _ _ _ _ _ _ _ _ _ _ _ (x11_goDeeper_L2s c1 (x11_goDeeper_L2 c1 n) w3 I) _
    unfold x11_goDeeper_L2s
    refine s_iload_n 3 dX11_goDeeper_2 rfl rfl ?_
    refine s_bipush (v := 123) dX11_goDeeper_3 rfl cB_123 ?_
    refine s_icmp_ge (tgt := 32) dX11_goDeeper_5 rfl rfl (fun _ => ?_) (fun _ => ?_)
    · skip
      refine s_pick [0, 1, 2] rfl ?_
      exact sm_exit (fun f h => h)
    · skip
      refine s_aload_n 0 dX11_goDeeper_8 rfl rfl ?_
      refine s_getR 140 dX11_goDeeper_9 rfl fl_11_130 rfl (S_102 hK) (R_102_73 hK) ?_
      refine s_sipush (v := 128) dX11_goDeeper_12 rfl cS_128 ?_
      refine s_iload_n 1 dX11_goDeeper_15 rfl rfl ?_
      refine s_imul dX11_goDeeper_16 rfl ?_
      refine s_iload_n 3 dX11_goDeeper_17 rfl rfl ?_
      refine s_iadd dX11_goDeeper_18 rfl ?_
      refine s_aload_n 0 dX11_goDeeper_19 rfl rfl ?_
      refine s_getR 137 dX11_goDeeper_20 rfl fl_11_121 rfl (S_102 hK) (R_102_66 hK) ?_
      refine s_iload_n 3 dX11_goDeeper_23 rfl rfl ?_
      refine sm_ck (fun g2 => ?_)
      refine s_iald dX11_goDeeper_24 rfl (S_137 hK) g2 ?_
      refine sm_ck (fun g4 => ?_)
      refine s_iastL dX11_goDeeper_25 rfl (S_140 hK) g4 (fun I3 => ?_)
      refine s_iincL 3 (c := 1) (fun v5 => [(3, .int v5), (0, .ref (X.1 + 102)), (1, .int c1), (2, .int c2)]) dX11_goDeeper_26 rfl rfl cI_1 (by decide) (fun _ => rfl) (fun v5 => ?_)
      refine s_goto (tgt := 2) dX11_goDeeper_29 rfl ?_
      refine s_pick [1, 2, 3, 0] rfl ?_
      exact ih v5 I3
theorem ct_x11_goDeeper {X : WX} {p1 : Int32} {p2 : Int32} {I : MI} {L : ML} {R : MR} {S : MS} (hK : okm R S) : Ct X yX11_goDeeper cX11_goDeeper 4 none 0 0 [.ref (X.1 + 102), .int p1, .int p2] (I, L, R, S) (x11_goDeeper p1 p2 I) (fun r => (none, (r, L, R, S))) := by
  refine Ct.of (by decide) (Nat.le_of_ble_eq_true rfl) [(0, .ref (X.1 + 102)), (1, .int p1), (2, .int p2)] rfl ?_
  unfold x11_goDeeper
  refine s_iconst (v := 0) dX11_goDeeper_0 rfl cI_0 ?_
  refine s_istore_nL (fun v1 => [(3, .int v1), (0, .ref (X.1 + 102)), (1, .int p1), (2, .int p2)]) dX11_goDeeper_1 rfl (by decide) (fun _ => rfl) (fun v1 => ?_)
  refine s_pick [1, 2, 3, 0] rfl ?_
  refine sm_reg (x11_goDeeper_L2_ok hK FU v1 I) (fun e6 => ?_)
  refine s_aload_n 0 dX11_goDeeper_32 rfl rfl ?_
  refine s_getR 141 dX11_goDeeper_33 rfl fl_11_133 rfl (S_102 hK) (R_102_74 hK) ?_
  refine s_iload_n 1 dX11_goDeeper_36 rfl rfl ?_
  refine s_iload_n 2 dX11_goDeeper_37 rfl rfl ?_
  refine sm_ck (fun g8 => ?_)
  refine s_iastL dX11_goDeeper_38 rfl (S_141 hK) g8 (fun I7 => ?_)
  refine s_aload_n 0 dX11_goDeeper_39 rfl rfl ?_
  refine s_getR 142 dX11_goDeeper_40 rfl fl_11_136 rfl (S_102 hK) (R_102_75 hK) ?_
  refine s_iload_n 1 dX11_goDeeper_43 rfl rfl ?_
  refine s_iconst (v := (-1)) dX11_goDeeper_44 rfl cI_m1 ?_
  refine sm_ck (fun g10 => ?_)
  refine s_iastL dX11_goDeeper_45 rfl (S_142 hK) g10 (fun I9 => ?_)
  refine s_aload_n 0 dX11_goDeeper_46 rfl rfl ?_
  refine s_getR 143 dX11_goDeeper_47 rfl fl_11_139 rfl (S_102 hK) (R_102_76 hK) ?_
  refine s_iload_n 1 dX11_goDeeper_50 rfl rfl ?_
  refine s_iconst (v := 0) dX11_goDeeper_51 rfl cI_0 ?_
  refine sm_ck (fun g12 => ?_)
  refine s_iastL dX11_goDeeper_52 rfl (S_143 hK) g12 (fun I11 => ?_)
  refine s_aload_n 0 dX11_goDeeper_53 rfl rfl ?_
  refine s_getR 145 dX11_goDeeper_54 rfl fl_11_145 rfl (S_102 hK) (R_102_78 hK) ?_
  refine s_iload_n 1 dX11_goDeeper_57 rfl rfl ?_
  refine s_iconst (v := 0) dX11_goDeeper_58 rfl cI_0 ?_
  refine sm_ck (fun g14 => ?_)
  refine s_iastL dX11_goDeeper_59 rfl (S_145 hK) g14 (fun I13 => ?_)
  refine s_aload_n 0 dX11_goDeeper_60 rfl rfl ?_
  refine s_getR 146 dX11_goDeeper_61 rfl fl_11_148 rfl (S_102 hK) (R_102_79 hK) ?_
  refine s_iload_n 1 dX11_goDeeper_64 rfl rfl ?_
  refine s_iconst (v := (-1)) dX11_goDeeper_65 rfl cI_m1 ?_
  refine sm_ck (fun g16 => ?_)
  refine s_iastL dX11_goDeeper_66 rfl (S_146 hK) g16 (fun I15 => ?_)
  refine s_aload_n 0 dX11_goDeeper_67 rfl rfl ?_
  refine s_dup dX11_goDeeper_68 rfl rfl ?_
  refine s_getI dX11_goDeeper_69 rfl fl_11_590 (S_102 hK) ?_
  refine s_iconst (v := 1) dX11_goDeeper_72 rfl cI_1 ?_
  refine s_iadd dX11_goDeeper_73 rfl ?_
  refine s_putIL dX11_goDeeper_74 rfl fl_11_590 (S_102 hK) (fun I17 => ?_)
  exact s_vret dX11_goDeeper_77 rfl (fun f h => h)
noncomputable def x11_mayGo (p1 : Int32) (p2 : Int32) (p3 : Int32) (I : MI) : Option (Int32 × MI) :=
if p3 = 50 then (
ck (vp_in p2 16) <|
if (I 141 (ix p2)) < 2 then (
some ((0 : Int32), I)) else
ck (vp_in (50 + (3 * p1)) 128) <|
ck (vp_in p1 4) <|
if (I 137 (ix (50 + (3 * p1)))) < (I 133 (ix p1)) then (
some ((1 : Int32), I)) else
some ((0 : Int32), I)) else
if (p3 / 5) < (I 102 60) then (
ck (vp_in p2 16) <|
b1 (x11_seconds (rm p3 5) I) fun r2 =>
if (I 141 (ix p2)) < r2 then (
some ((0 : Int32), I)) else
b2 (x11_canTry p1 (p3 / 5) (rm p3 5) I) fun r3 I4 =>
if r3 = 0 then (
some ((0 : Int32), I4)) else
some ((1 : Int32), I4)) else
some ((0 : Int32), I)
theorem ct_x11_mayGo {X : WX} {p1 : Int32} {p2 : Int32} {p3 : Int32} {I : MI} {L : ML} {R : MR} {S : MS} (hK : okm R S) : Ct X yX11_mayGo cX11_mayGo 4 (some .boolean) 4 90 [.ref (X.1 + 102), .int p1, .int p2, .int p3] (I, L, R, S) (x11_mayGo p1 p2 p3 I) (fun r => (some (.int r.1), (r.2, L, R, S))) := by
  refine Ct.of (by decide) (Nat.le_of_ble_eq_true rfl) [(0, .ref (X.1 + 102)), (1, .int p1), (2, .int p2), (3, .int p3)] rfl ?_
  unfold x11_mayGo
  refine s_iload_n 3 dX11_mayGo_0 rfl rfl ?_
  refine s_bipush (v := 50) dX11_mayGo_1 rfl cB_50 ?_
  refine s_icmp_ne (tgt := 42) dX11_mayGo_3 rfl rfl (fun _ => ?_) (fun _ => ?_)
  · skip
    refine s_iload_n 3 dX11_mayGo_42 rfl rfl ?_
    refine s_iconst (v := 5) dX11_mayGo_43 rfl cI_5 ?_
    refine s_idiv dX11_mayGo_44 rfl (by decide) ?_
    refine s_aload_n 0 dX11_mayGo_45 rfl rfl ?_
    refine s_getI dX11_mayGo_46 rfl fl_11_467 (S_102 hK) ?_
    refine s_icmp_ge (tgt := 85) dX11_mayGo_49 rfl rfl (fun _ => ?_) (fun _ => ?_)
    · skip
      refine s_iconst (v := 0) dX11_mayGo_85 rfl cI_0 ?_
      exact s_zret dX11_mayGo_86 rfl (Or.inl rfl) (fun f h => h)
    · skip
      refine s_aload_n 0 dX11_mayGo_52 rfl rfl ?_
      refine s_getR 141 dX11_mayGo_53 rfl fl_11_133 rfl (S_102 hK) (R_102_74 hK) ?_
      refine s_iload_n 2 dX11_mayGo_56 rfl rfl ?_
      refine sm_ck (fun g1 => ?_)
      refine s_iald dX11_mayGo_57 rfl (S_141 hK) g1 ?_
      refine s_iload_n 3 dX11_mayGo_58 rfl rfl ?_
      refine s_iconst (v := 5) dX11_mayGo_59 rfl cI_5 ?_
      refine s_irem dX11_mayGo_60 rfl (by decide) ?_
      refine s_callS1_i0 dX11_mayGo_61 rfl lkS_RX11_529 (Nat.le_of_ble_eq_true rfl) (Nat.le_of_ble_eq_true rfl) (Nat.le_of_ble_eq_true rfl) (ct_x11_seconds hK) (fun r2 => ?_)
      refine s_icmp_lt (tgt := 85) dX11_mayGo_64 rfl rfl (fun _ => ?_) (fun _ => ?_)
      · skip
        refine s_iconst (v := 0) dX11_mayGo_85 rfl cI_0 ?_
        exact s_zret dX11_mayGo_86 rfl (Or.inl rfl) (fun f h => h)
      · skip
        refine s_aload_n 0 dX11_mayGo_67 rfl rfl ?_
        refine s_iload_n 1 dX11_mayGo_68 rfl rfl ?_
        refine s_iload_n 3 dX11_mayGo_69 rfl rfl ?_
        refine s_iconst (v := 5) dX11_mayGo_70 rfl cI_5 ?_
        refine s_idiv dX11_mayGo_71 rfl (by decide) ?_
        refine s_iload_n 3 dX11_mayGo_72 rfl rfl ?_
        refine s_iconst (v := 5) dX11_mayGo_73 rfl cI_5 ?_
        refine s_irem dX11_mayGo_74 rfl (by decide) ?_
        refine s_callV3_i1 dX11_mayGo_75 rfl lkV_RX11_548 (S_102 hK) (Nat.le_of_ble_eq_true rfl) (Nat.le_of_ble_eq_true rfl) (Nat.le_of_ble_eq_true rfl) (ct_x11_canTry hK) (fun r3 I4 => ?_)
        refine s_if_eq (tgt := 85) dX11_mayGo_78 rfl rfl (fun _ => ?_) (fun _ => ?_)
        · skip
          refine s_iconst (v := 0) dX11_mayGo_85 rfl cI_0 ?_
          exact s_zret dX11_mayGo_86 rfl (Or.inl rfl) (fun f h => h)
        · skip
          refine s_iconst (v := 1) dX11_mayGo_81 rfl cI_1 ?_
          refine s_goto (tgt := 86) dX11_mayGo_82 rfl ?_
          exact s_zret dX11_mayGo_86 rfl (Or.inr rfl) (fun f h => h)
  · skip
    refine s_aload_n 0 dX11_mayGo_6 rfl rfl ?_
    refine s_getR 141 dX11_mayGo_7 rfl fl_11_133 rfl (S_102 hK) (R_102_74 hK) ?_
    refine s_iload_n 2 dX11_mayGo_10 rfl rfl ?_
    refine sm_ck (fun g5 => ?_)
    refine s_iald dX11_mayGo_11 rfl (S_141 hK) g5 ?_
    refine s_iconst (v := 2) dX11_mayGo_12 rfl cI_2 ?_
    refine s_icmp_lt (tgt := 40) dX11_mayGo_13 rfl rfl (fun _ => ?_) (fun _ => ?_)
    · skip
      refine s_iconst (v := 0) dX11_mayGo_40 rfl cI_0 ?_
      exact s_zret dX11_mayGo_41 rfl (Or.inl rfl) (fun f h => h)
    · skip
      refine s_aload_n 0 dX11_mayGo_16 rfl rfl ?_
      refine s_getR 137 dX11_mayGo_17 rfl fl_11_121 rfl (S_102 hK) (R_102_66 hK) ?_
      refine s_bipush (v := 50) dX11_mayGo_20 rfl cB_50 ?_
      refine s_iconst (v := 3) dX11_mayGo_22 rfl cI_3 ?_
      refine s_iload_n 1 dX11_mayGo_23 rfl rfl ?_
      refine s_imul dX11_mayGo_24 rfl ?_
      refine s_iadd dX11_mayGo_25 rfl ?_
      refine sm_ck (fun g6 => ?_)
      refine s_iald dX11_mayGo_26 rfl (S_137 hK) g6 ?_
      refine s_aload_n 0 dX11_mayGo_27 rfl rfl ?_
      refine s_getR 133 dX11_mayGo_28 rfl fl_11_106 rfl (S_102 hK) (R_102_45 hK) ?_
      refine s_iload_n 1 dX11_mayGo_31 rfl rfl ?_
      refine sm_ck (fun g7 => ?_)
      refine s_iald dX11_mayGo_32 rfl (S_133 hK) g7 ?_
      refine s_icmp_ge (tgt := 40) dX11_mayGo_33 rfl rfl (fun _ => ?_) (fun _ => ?_)
      · skip
        refine s_iconst (v := 0) dX11_mayGo_40 rfl cI_0 ?_
        exact s_zret dX11_mayGo_41 rfl (Or.inl rfl) (fun f h => h)
      · skip
        refine s_iconst (v := 1) dX11_mayGo_36 rfl cI_1 ?_
        refine s_goto (tgt := 41) dX11_mayGo_37 rfl ?_
        exact s_zret dX11_mayGo_41 rfl (Or.inr rfl) (fun f h => h)
noncomputable def x11_weigh (p1 : Int32) (p2 : Int32) (I : MI) : Option (MI) :=
ck (vp_in p1 16) <|
if (I 145 (ix p1)) < p2 then (
ck (vp_in p1 16) <|
lt (wI I 145 (ix p1) p2) fun I2 =>
ck (vp_in p1 16) <|
ck (vp_in p1 16) <|
lt (wI I2 146 (ix p1) (I2 142 (ix p1))) fun I5 =>
some I5) else
some I
theorem ct_x11_weigh {X : WX} {p1 : Int32} {p2 : Int32} {I : MI} {L : ML} {R : MR} {S : MS} (hK : okm R S) : Ct X yX11_weigh cX11_weigh 3 none 0 0 [.ref (X.1 + 102), .int p1, .int p2] (I, L, R, S) (x11_weigh p1 p2 I) (fun r => (none, (r, L, R, S))) := by
  refine Ct.of (by decide) (Nat.le_of_ble_eq_true rfl) [(0, .ref (X.1 + 102)), (1, .int p1), (2, .int p2)] rfl ?_
  unfold x11_weigh
  refine s_iload_n 2 dX11_weigh_0 rfl rfl ?_
  refine s_aload_n 0 dX11_weigh_1 rfl rfl ?_
  refine s_getR 145 dX11_weigh_2 rfl fl_11_145 rfl (S_102 hK) (R_102_78 hK) ?_
  refine s_iload_n 1 dX11_weigh_5 rfl rfl ?_
  refine sm_ck (fun g1 => ?_)
  refine s_iald dX11_weigh_6 rfl (S_145 hK) g1 ?_
  refine s_icmp_gt (tgt := 11) dX11_weigh_7 rfl rfl (fun _ => ?_) (fun _ => ?_)
  · skip
    refine s_aload_n 0 dX11_weigh_11 rfl rfl ?_
    refine s_getR 145 dX11_weigh_12 rfl fl_11_145 rfl (S_102 hK) (R_102_78 hK) ?_
    refine s_iload_n 1 dX11_weigh_15 rfl rfl ?_
    refine s_iload_n 2 dX11_weigh_16 rfl rfl ?_
    refine sm_ck (fun g3 => ?_)
    refine s_iastL dX11_weigh_17 rfl (S_145 hK) g3 (fun I2 => ?_)
    refine s_aload_n 0 dX11_weigh_18 rfl rfl ?_
    refine s_getR 146 dX11_weigh_19 rfl fl_11_148 rfl (S_102 hK) (R_102_79 hK) ?_
    refine s_iload_n 1 dX11_weigh_22 rfl rfl ?_
    refine s_aload_n 0 dX11_weigh_23 rfl rfl ?_
    refine s_getR 142 dX11_weigh_24 rfl fl_11_136 rfl (S_102 hK) (R_102_75 hK) ?_
    refine s_iload_n 1 dX11_weigh_27 rfl rfl ?_
    refine sm_ck (fun g4 => ?_)
    refine s_iald dX11_weigh_28 rfl (S_142 hK) g4 ?_
    refine sm_ck (fun g6 => ?_)
    refine s_iastL dX11_weigh_29 rfl (S_146 hK) g6 (fun I5 => ?_)
    exact s_vret dX11_weigh_30 rfl (fun f h => h)
  · skip
    exact s_vret dX11_weigh_10 rfl (fun f h => h)
noncomputable def x11_layBest_L124s (c1 : Int32) (c3 : Int32) (rec : Int32 → MI → Option (Int32 × MI)) (w5 : Int32) (I : MI) : Option (Int32 × MI) :=
if 50 < w5 then (
some (w5, I)) else
b2 (x11_mayGo c1 c3 w5 I) fun r23 I24 =>
if r23 = 0 then (
lt (w5 + 1) fun v25 =>
rec v25 I24) else
some (w5, I24)
noncomputable def x11_layBest_L124 (c1 : Int32) (c3 : Int32) : Nat → Int32 → MI → Option (Int32 × MI)
  | 0 => fun _ _ => none
  | n + 1 => x11_layBest_L124s c1 c3 (x11_layBest_L124 c1 c3 n)
noncomputable def x11_layBest_L20s (c1 : Int32) (rec : Int32 → Int32 → MI → Option (MI)) (w3 : Int32) (w4 : Int32) (I : MI) : Option (MI) :=
if w3 < 0 then (
some I) else
if 20000 < (I 102 80) then (
some I) else
b1 (x11_loadRow w3 I) fun I6 =>
ck (vp_in w3 16) <|
lt (I6 142 (ix w3)) fun v8 =>
ck (vp_in w3 16) <|
if (I6 143 (ix w3)) = 1 then (
ck (vp_in w3 16) <|
lt (wI I6 144 (ix w3) w4) fun I45 =>
ck (vp_in w3 16) <|
lt (wI I45 143 (ix w3) (2 : Int32)) fun I47 =>
b1 (x11_miss c1 (v8 / 5) (rm v8 5) I47) fun I49 =>
ck (vp_in w3 16) <|
b1 (x11_seconds (rm v8 5) I49) fun r51 =>
b1 (x11_goDeeper (w3 + 1) ((I49 141 (ix w3)) - r51) I49) fun I52 =>
lt (w3 + 1) fun v53 =>
rec v53 w4 I52) else
ck (vp_in w3 16) <|
if (I6 143 (ix w3)) = 0 then (
lt (v8 + 1) fun v22 =>
b1 (x11_layBest_L124 c1 w3 FU v22 I6) fun e26 =>
ck (vp_in w3 16) <|
lt (wI e26.2 142 (ix w3) e26.1) fun I27 =>
if 50 < e26.1 then (
ck (vp_in w3 16) <|
lt (I27 145 (ix w3)) fun v43 =>
lt (w3 + (-1)) fun v44 =>
rec v44 v43 I27) else
if e26.1 = 50 then (
ck (vp_in w3 16) <|
lt (wI I27 143 (ix w3) (3 : Int32)) fun I36 =>
b1 (x11_breathes c1 I36) fun I38 =>
ck (vp_in w3 16) <|
b1 (x11_goDeeper (w3 + 1) ((I38 141 (ix w3)) - 2) I38) fun I40 =>
lt (w3 + 1) fun v41 =>
rec v41 w4 I40) else
ck (vp_in w3 16) <|
lt (wI I27 143 (ix w3) (1 : Int32)) fun I29 =>
b1 (x11_get c1 (e26.1 / 5) (rm e26.1 5) I29) fun I31 =>
ck (vp_in w3 16) <|
b1 (x11_seconds (rm e26.1 5) I31) fun r33 =>
b1 (x11_goDeeper (w3 + 1) ((I31 141 (ix w3)) - r33) I31) fun I34 =>
lt (w3 + 1) fun v35 =>
rec v35 w4 I34) else
ck (vp_in w3 16) <|
b1 (
if (I6 143 (ix w3)) = 2 then (
b2 (x11_oddsOf c1 (v8 / 5) (rm v8 5) I6) fun r13 I14 =>
some (r13, I14)) else
some ((0 : Int32), I6)) fun e12 =>
lt e12.1 fun v15 =>
ck (vp_in w3 16) <|
b1 (
if (e12.2 143 (ix w3)) = 2 then (
ck (vp_in w3 16) <|
some (((v15 * (1000000 + (e12.2 144 (ix w3)))) + ((100 - v15) * w4)) / 100)) else
some w4) fun e17 =>
b1 (x11_weigh w3 e17 e12.2) fun I19 =>
ck (vp_in w3 16) <|
lt (wI I19 143 (ix w3) (0 : Int32)) fun I20 =>
rec w3 w4 I20
noncomputable def x11_layBest_L20 (c1 : Int32) : Nat → Int32 → Int32 → MI → Option (MI)
  | 0 => fun _ _ _ => none
  | n + 1 => x11_layBest_L20s c1 (x11_layBest_L20 c1 n)
noncomputable def x11_layBest (p1 : Int32) (p2 : Int32) (I : MI) : Option (Int32 × MI) :=
lt (wI I 102 80 (0 : Int32)) fun I1 =>
b1 (x11_load I1) fun I2 =>
b1 (x11_goDeeper (0 : Int32) p2 I2) fun I3 =>
lt (0 : Int32) fun v4 =>
lt (0 : Int32) fun v5 =>
b1 (x11_layBest_L20 p1 FU v4 v5 I3) fun e54 =>
if 20000 < (e54 102 80) then (
some ((0 : Int32), e54)) else
some ((1 : Int32), e54)
theorem x11_layBest_L124_ok {X : WX} {n0 s0 : Nat} {c1 : Int32} {c3 : Int32} {c4 : Int32} {L : ML} {R : MR} {S : MS} (hK : okm R S) : ∀ (n : Nat) (w5 : Int32) (I : MI), Sim X yX11_layBest cX11_layBest 7 (some .boolean) 5 120 n0 s0 124 [(0, .ref (X.1 + 102)), (1, .int c1), (3, .int c3), (4, .int c4), (5, .int w5)] [] (I, L, R, S) (x11_layBest_L124 c1 c3 n w5 I) (fun b f => Ex X yX11_layBest cX11_layBest 7 (some .boolean) 5 120 n0 s0 148 [(0, .ref (X.1 + 102)), (1, .int c1), (3, .int c3), (4, .int c4), (5, .int b.1)] [] (b.2, L, R, S) f) := by
  intro n
  induction n with
  | zero =>
    intro w5 I
    exact sm_none
  | succ n ih =>
    intro w5 I
    change Sim _ _ _ _ _ _ _ _ _ _ _ _ _ (x11_layBest_L124s c1 c3 (x11_layBest_L124 c1 c3 n) w5 I) _
    unfold x11_layBest_L124s
    refine s_iload 4 dX11_layBest_124 rfl rfl ?_
    refine s_bipush (v := 50) dX11_layBest_126 rfl cB_50 ?_
    refine s_icmp_gt (tgt := 148) dX11_layBest_128 rfl rfl (fun _ => ?_) (fun _ => ?_)
    · skip
      exact sm_exit (fun f h => h)
    · skip
      refine s_aload_n 0 dX11_layBest_131 rfl rfl ?_
      refine s_iload_n 1 dX11_layBest_132 rfl rfl ?_
      refine s_iload_n 2 dX11_layBest_133 rfl rfl ?_
      refine s_iload 4 dX11_layBest_134 rfl rfl ?_
      refine s_callV3_i1 dX11_layBest_136 rfl lkV_RX11_599 (S_102 hK) (Nat.le_of_ble_eq_true rfl) (Nat.le_of_ble_eq_true rfl) (Nat.le_of_ble_eq_true rfl) (ct_x11_mayGo hK) (fun r23 I24 => ?_)
      refine s_if_ne (tgt := 148) dX11_layBest_139 rfl rfl (fun _ => ?_) (fun _ => ?_)
      · skip
        exact sm_exit (fun f h => h)
      · skip
        refine s_iincL 4 (c := 1) (fun v25 => [(5, .int v25), (0, .ref (X.1 + 102)), (1, .int c1), (3, .int c3), (4, .int c4)]) dX11_layBest_142 rfl rfl cI_1 (by decide) (fun _ => rfl) (fun v25 => ?_)
        refine s_goto (tgt := 124) dX11_layBest_145 rfl ?_
        refine s_pick [1, 2, 3, 4, 0] rfl ?_
        exact ih v25 I24
theorem x11_layBest_L20_ok {X : WX} {n0 s0 : Nat} {c1 : Int32} {L : ML} {R : MR} {S : MS} (hK : okm R S) : ∀ (n : Nat) (w3 : Int32) (w4 : Int32) (I : MI), Sim X yX11_layBest cX11_layBest 7 (some .boolean) 5 120 n0 s0 20 [(0, .ref (X.1 + 102)), (1, .int c1), (3, .int w3), (4, .int w4)] [] (I, L, R, S) (x11_layBest_L20 c1 n w3 w4 I) (fun b f => Ex X yX11_layBest cX11_layBest 7 (some .boolean) 5 120 n0 s0 348 [(0, .ref (X.1 + 102))] [] (b, L, R, S) f) := by
  intro n
  induction n with
  | zero =>
    intro w3 w4 I
    exact sm_none
  | succ n ih =>
    intro w3 w4 I
    change Sim _ _ _ _ _ _ _ _ _ _ _ _ _ (x11_layBest_L20s c1 (x11_layBest_L20 c1 n) w3 w4 I) _
    unfold x11_layBest_L20s
    refine s_iload_n 2 dX11_layBest_20 rfl rfl ?_
    refine s_if_lt (tgt := 348) dX11_layBest_21 rfl rfl (fun _ => ?_) (fun _ => ?_)
    · skip
      refine s_pick [0] rfl ?_
      exact sm_exit (fun f h => h)
    · skip
      refine s_aload_n 0 dX11_layBest_24 rfl rfl ?_
      refine s_getI dX11_layBest_25 rfl fl_11_590 (S_102 hK) ?_
      refine s_sipush (v := 20000) dX11_layBest_28 rfl cS_20000 ?_
      refine s_icmp_gt (tgt := 348) dX11_layBest_31 rfl rfl (fun _ => ?_) (fun _ => ?_)
      · skip
        refine s_pick [0] rfl ?_
        exact sm_exit (fun f h => h)
      · skip
        refine s_aload_n 0 dX11_layBest_34 rfl rfl ?_
        refine s_iload_n 2 dX11_layBest_35 rfl rfl ?_
        refine s_callV1_v1 dX11_layBest_36 rfl lkV_RX11_596 (S_102 hK) (Nat.le_of_ble_eq_true rfl) (Nat.le_of_ble_eq_true rfl) (Nat.le_of_ble_eq_true rfl) (ct_x11_loadRow hK) (fun I6 => ?_)
        refine s_aload_n 0 dX11_layBest_39 rfl rfl ?_
        refine s_getR 142 dX11_layBest_40 rfl fl_11_136 rfl (S_102 hK) (R_102_75 hK) ?_
        refine s_iload_n 2 dX11_layBest_43 rfl rfl ?_
        refine sm_ck (fun g7 => ?_)
        refine s_iald dX11_layBest_44 rfl (S_142 hK) g7 ?_
        refine s_istoreL (fun v8 => [(5, .int v8), (0, .ref (X.1 + 102)), (1, .int c1), (3, .int w3), (4, .int w4)]) dX11_layBest_45 rfl (by decide) (fun _ => rfl) (fun v8 => ?_)
        refine s_aload_n 1 dX11_layBest_47 rfl rfl ?_
        refine s_getR 143 dX11_layBest_48 rfl fl_11_139 rfl (S_102 hK) (R_102_76 hK) ?_
        refine s_iload_n 3 dX11_layBest_51 rfl rfl ?_
        refine sm_ck (fun g9 => ?_)
        refine s_iald dX11_layBest_52 rfl (S_143 hK) g9 ?_
        refine s_iconst (v := 1) dX11_layBest_53 rfl cI_1 ?_
        refine s_icmp_ne (tgt := 112) dX11_layBest_54 rfl rfl (fun _ => ?_) (fun _ => ?_)
        · skip
          refine s_aload_n 1 dX11_layBest_112 rfl rfl ?_
          refine s_getR 143 dX11_layBest_113 rfl fl_11_139 rfl (S_102 hK) (R_102_76 hK) ?_
          refine s_iload_n 3 dX11_layBest_116 rfl rfl ?_
          refine sm_ck (fun g10 => ?_)
          refine s_iald dX11_layBest_117 rfl (S_143 hK) g10 ?_
          refine s_if_ne (tgt := 264) dX11_layBest_118 rfl rfl (fun _ => ?_) (fun _ => ?_)
          · skip
            refine s_aload_n 1 dX11_layBest_264 rfl rfl ?_
            refine s_getR 143 dX11_layBest_265 rfl fl_11_139 rfl (S_102 hK) (R_102_76 hK) ?_
            refine s_iload_n 3 dX11_layBest_268 rfl rfl ?_
            refine sm_ck (fun g11 => ?_)
            refine s_iald dX11_layBest_269 rfl (S_143 hK) g11 ?_
            refine s_iconst (v := 2) dX11_layBest_270 rfl cI_2 ?_
            refine sm_reg (pcx := 291) (lsx := fun e12 => [(0, .ref (X.1 + 102)), (1, .int c1), (3, .int w3), (4, .int w4)]) (stx := fun e12 => [.int e12.1]) (ux := fun e12 => (e12.2, L, R, S)) ?_ (fun e12 => ?_)
            · skip
              refine s_icmp_ne (tgt := 290) dX11_layBest_271 rfl rfl (fun _ => ?_) (fun _ => ?_)
              · skip
                refine s_iconst (v := 0) dX11_layBest_290 rfl cI_0 ?_
                refine s_pick [1, 2, 3, 4] rfl ?_
                exact sm_exit (fun f h => h)
              · skip
                refine s_aload_n 1 dX11_layBest_274 rfl rfl ?_
                refine s_iload_n 2 dX11_layBest_275 rfl rfl ?_
                refine s_iload 0 dX11_layBest_276 rfl rfl ?_
                refine s_iconst (v := 5) dX11_layBest_278 rfl cI_5 ?_
                refine s_idiv dX11_layBest_279 rfl (by decide) ?_
                refine s_iload 0 dX11_layBest_280 rfl rfl ?_
                refine s_iconst (v := 5) dX11_layBest_282 rfl cI_5 ?_
                refine s_irem dX11_layBest_283 rfl (by decide) ?_
                refine s_callV3_i1 dX11_layBest_284 rfl lkV_RX11_538 (S_102 hK) (Nat.le_of_ble_eq_true rfl) (Nat.le_of_ble_eq_true rfl) (Nat.le_of_ble_eq_true rfl) (ct_x11_oddsOf hK) (fun r13 I14 => ?_)
                refine s_goto (tgt := 291) dX11_layBest_287 rfl ?_
                refine s_pick [1, 2, 3, 4] rfl ?_
                exact sm_exit (fun f h => h)
            · skip
              refine s_istoreL (fun v15 => [(6, .int v15), (0, .ref (X.1 + 102)), (1, .int c1), (3, .int w3), (4, .int w4)]) dX11_layBest_291 rfl (by decide) (fun _ => rfl) (fun v15 => ?_)
              refine s_aload_n 1 dX11_layBest_293 rfl rfl ?_
              refine s_iload_n 3 dX11_layBest_294 rfl rfl ?_
              refine s_aload_n 1 dX11_layBest_295 rfl rfl ?_
              refine s_getR 143 dX11_layBest_296 rfl fl_11_139 rfl (S_102 hK) (R_102_76 hK) ?_
              refine s_iload_n 3 dX11_layBest_299 rfl rfl ?_
              refine sm_ck (fun g16 => ?_)
              refine s_iald dX11_layBest_300 rfl (S_143 hK) g16 ?_
              refine s_iconst (v := 2) dX11_layBest_301 rfl cI_2 ?_
              refine sm_reg (pcx := 335) (lsx := fun e17 => [(0, .ref (X.1 + 102)), (1, .int c1), (3, .int w3), (4, .int w4)]) (stx := fun e17 => [.int e17, .int w3, .ref (X.1 + 102)]) (ux := fun e17 => (e12.2, L, R, S)) ?_ (fun e17 => ?_)
              · skip
                refine s_icmp_ne (tgt := 333) dX11_layBest_302 rfl rfl (fun _ => ?_) (fun _ => ?_)
                · skip
                  refine s_iload 4 dX11_layBest_333 rfl rfl ?_
                  refine s_pick [1, 2, 3, 4] rfl ?_
                  exact sm_exit (fun f h => h)
                · skip
                  refine s_iload 0 dX11_layBest_305 rfl rfl ?_
                  refine s_ldcw (v := 1000000) dX11_layBest_307 rfl (tw_mem 2143 (by decide +kernel) rfl) ?_
                  refine s_aload_n 1 dX11_layBest_310 rfl rfl ?_
                  refine s_getR 144 dX11_layBest_311 rfl fl_11_142 rfl (S_102 hK) (R_102_77 hK) ?_
                  refine s_iload_n 3 dX11_layBest_314 rfl rfl ?_
                  refine sm_ck (fun g18 => ?_)
                  refine s_iald dX11_layBest_315 rfl (S_144 hK) g18 ?_
                  refine s_iadd dX11_layBest_316 rfl ?_
                  refine s_imul dX11_layBest_317 rfl ?_
                  refine s_bipush (v := 100) dX11_layBest_318 rfl cB_100 ?_
                  refine s_iload 0 dX11_layBest_320 rfl rfl ?_
                  refine s_isub dX11_layBest_322 rfl ?_
                  refine s_iload 4 dX11_layBest_323 rfl rfl ?_
                  refine s_imul dX11_layBest_325 rfl ?_
                  refine s_iadd dX11_layBest_326 rfl ?_
                  refine s_bipush (v := 100) dX11_layBest_327 rfl cB_100 ?_
                  refine s_idiv dX11_layBest_329 rfl (by decide) ?_
                  refine s_goto (tgt := 335) dX11_layBest_330 rfl ?_
                  refine s_pick [1, 2, 3, 4] rfl ?_
                  exact sm_exit (fun f h => h)
              · skip
                refine s_callV2_v1 dX11_layBest_335 rfl lkV_RX11_603 (S_102 hK) (Nat.le_of_ble_eq_true rfl) (Nat.le_of_ble_eq_true rfl) (Nat.le_of_ble_eq_true rfl) (ct_x11_weigh hK) (fun I19 => ?_)
                refine s_aload_n 0 dX11_layBest_338 rfl rfl ?_
                refine s_getR 143 dX11_layBest_339 rfl fl_11_139 rfl (S_102 hK) (R_102_76 hK) ?_
                refine s_iload_n 2 dX11_layBest_342 rfl rfl ?_
                refine s_iconst (v := 0) dX11_layBest_343 rfl cI_0 ?_
                refine sm_ck (fun g21 => ?_)
                refine s_iastL dX11_layBest_344 rfl (S_143 hK) g21 (fun I20 => ?_)
                refine s_goto (tgt := 20) dX11_layBest_345 rfl ?_
                exact ih w3 w4 I20
          · skip
            refine s_iincL 0 (c := 1) (fun v22 => [(5, .int v22), (0, .ref (X.1 + 102)), (1, .int c1), (3, .int w3), (4, .int w4)]) dX11_layBest_121 rfl rfl cI_1 (by decide) (fun _ => rfl) (fun v22 => ?_)
            refine s_pick [1, 2, 3, 4, 0] rfl ?_
            refine sm_reg (x11_layBest_L124_ok hK FU v22 I6) (fun e26 => ?_)
            refine s_aload_n 0 dX11_layBest_148 rfl rfl ?_
            refine s_getR 142 dX11_layBest_149 rfl fl_11_136 rfl (S_102 hK) (R_102_75 hK) ?_
            refine s_iload_n 2 dX11_layBest_152 rfl rfl ?_
            refine s_iload 4 dX11_layBest_153 rfl rfl ?_
            refine sm_ck (fun g28 => ?_)
            refine s_iastL dX11_layBest_155 rfl (S_142 hK) g28 (fun I27 => ?_)
            refine s_iload 4 dX11_layBest_156 rfl rfl ?_
            refine s_bipush (v := 50) dX11_layBest_158 rfl cB_50 ?_
            refine s_icmp_le (tgt := 177) dX11_layBest_160 rfl rfl (fun _ => ?_) (fun _ => ?_)
            · skip
              refine s_iload 4 dX11_layBest_177 rfl rfl ?_
              refine s_bipush (v := 50) dX11_layBest_179 rfl cB_50 ?_
              refine s_icmp_ne (tgt := 217) dX11_layBest_181 rfl rfl (fun _ => ?_) (fun _ => ?_)
              · skip
                refine s_aload_n 0 dX11_layBest_217 rfl rfl ?_
                refine s_getR 143 dX11_layBest_218 rfl fl_11_139 rfl (S_102 hK) (R_102_76 hK) ?_
                refine s_iload_n 2 dX11_layBest_221 rfl rfl ?_
                refine s_iconst (v := 1) dX11_layBest_222 rfl cI_1 ?_
                refine sm_ck (fun g30 => ?_)
                refine s_iastL dX11_layBest_223 rfl (S_143 hK) g30 (fun I29 => ?_)
                refine s_aload_n 0 dX11_layBest_224 rfl rfl ?_
                refine s_iload_n 1 dX11_layBest_225 rfl rfl ?_
                refine s_iload 4 dX11_layBest_226 rfl rfl ?_
                refine s_iconst (v := 5) dX11_layBest_228 rfl cI_5 ?_
                refine s_idiv dX11_layBest_229 rfl (by decide) ?_
                refine s_iload 4 dX11_layBest_230 rfl rfl ?_
                refine s_iconst (v := 5) dX11_layBest_232 rfl cI_5 ?_
                refine s_irem dX11_layBest_233 rfl (by decide) ?_
                refine s_callV3_v1 dX11_layBest_234 rfl lkV_RX11_541 (S_102 hK) (Nat.le_of_ble_eq_true rfl) (Nat.le_of_ble_eq_true rfl) (Nat.le_of_ble_eq_true rfl) (ct_x11_get hK) (fun I31 => ?_)
                refine s_aload_n 0 dX11_layBest_237 rfl rfl ?_
                refine s_iload_n 2 dX11_layBest_238 rfl rfl ?_
                refine s_iconst (v := 1) dX11_layBest_239 rfl cI_1 ?_
                refine s_iadd dX11_layBest_240 rfl ?_
                refine s_aload_n 0 dX11_layBest_241 rfl rfl ?_
                refine s_getR 141 dX11_layBest_242 rfl fl_11_133 rfl (S_102 hK) (R_102_74 hK) ?_
                refine s_iload_n 2 dX11_layBest_245 rfl rfl ?_
                refine sm_ck (fun g32 => ?_)
                refine s_iald dX11_layBest_246 rfl (S_141 hK) g32 ?_
                refine s_iload 4 dX11_layBest_247 rfl rfl ?_
                refine s_iconst (v := 5) dX11_layBest_249 rfl cI_5 ?_
                refine s_irem dX11_layBest_250 rfl (by decide) ?_
                refine s_callS1_i0 dX11_layBest_251 rfl lkS_RX11_529 (Nat.le_of_ble_eq_true rfl) (Nat.le_of_ble_eq_true rfl) (Nat.le_of_ble_eq_true rfl) (ct_x11_seconds hK) (fun r33 => ?_)
                refine s_isub dX11_layBest_254 rfl ?_
                refine s_callV2_v1 dX11_layBest_255 rfl lkV_RX11_593 (S_102 hK) (Nat.le_of_ble_eq_true rfl) (Nat.le_of_ble_eq_true rfl) (Nat.le_of_ble_eq_true rfl) (ct_x11_goDeeper hK) (fun I34 => ?_)
                refine s_iincL 2 (c := 1) (fun v35 => [(3, .int v35), (0, .ref (X.1 + 102)), (1, .int c1), (4, .int w4), (5, .int e26.1)]) dX11_layBest_258 rfl rfl cI_1 (by decide) (fun _ => rfl) (fun v35 => ?_)
                refine s_goto (tgt := 345) dX11_layBest_261 rfl ?_
                refine s_goto (tgt := 20) dX11_layBest_345 rfl ?_
                refine s_pick [1, 2, 0, 3] rfl ?_
                exact ih v35 w4 I34
              · skip
                refine s_aload_n 0 dX11_layBest_184 rfl rfl ?_
                refine s_getR 143 dX11_layBest_185 rfl fl_11_139 rfl (S_102 hK) (R_102_76 hK) ?_
                refine s_iload_n 2 dX11_layBest_188 rfl rfl ?_
                refine s_iconst (v := 3) dX11_layBest_189 rfl cI_3 ?_
                refine sm_ck (fun g37 => ?_)
                refine s_iastL dX11_layBest_190 rfl (S_143 hK) g37 (fun I36 => ?_)
                refine s_aload_n 0 dX11_layBest_191 rfl rfl ?_
                refine s_iload_n 1 dX11_layBest_192 rfl rfl ?_
                refine s_callV1_v1 dX11_layBest_193 rfl lkV_RX11_557 (S_102 hK) (Nat.le_of_ble_eq_true rfl) (Nat.le_of_ble_eq_true rfl) (Nat.le_of_ble_eq_true rfl) (ct_x11_breathes hK) (fun I38 => ?_)
                refine s_aload_n 0 dX11_layBest_196 rfl rfl ?_
                refine s_iload_n 2 dX11_layBest_197 rfl rfl ?_
                refine s_iconst (v := 1) dX11_layBest_198 rfl cI_1 ?_
                refine s_iadd dX11_layBest_199 rfl ?_
                refine s_aload_n 0 dX11_layBest_200 rfl rfl ?_
                refine s_getR 141 dX11_layBest_201 rfl fl_11_133 rfl (S_102 hK) (R_102_74 hK) ?_
                refine s_iload_n 2 dX11_layBest_204 rfl rfl ?_
                refine sm_ck (fun g39 => ?_)
                refine s_iald dX11_layBest_205 rfl (S_141 hK) g39 ?_
                refine s_iconst (v := 2) dX11_layBest_206 rfl cI_2 ?_
                refine s_isub dX11_layBest_207 rfl ?_
                refine s_callV2_v1 dX11_layBest_208 rfl lkV_RX11_593 (S_102 hK) (Nat.le_of_ble_eq_true rfl) (Nat.le_of_ble_eq_true rfl) (Nat.le_of_ble_eq_true rfl) (ct_x11_goDeeper hK) (fun I40 => ?_)
                refine s_iincL 2 (c := 1) (fun v41 => [(3, .int v41), (0, .ref (X.1 + 102)), (1, .int c1), (4, .int w4), (5, .int e26.1)]) dX11_layBest_211 rfl rfl cI_1 (by decide) (fun _ => rfl) (fun v41 => ?_)
                refine s_goto (tgt := 345) dX11_layBest_214 rfl ?_
                refine s_goto (tgt := 20) dX11_layBest_345 rfl ?_
                refine s_pick [1, 2, 0, 3] rfl ?_
                exact ih v41 w4 I40
            · skip
              refine s_aload_n 0 dX11_layBest_163 rfl rfl ?_
              refine s_getR 145 dX11_layBest_164 rfl fl_11_145 rfl (S_102 hK) (R_102_78 hK) ?_
              refine s_iload_n 2 dX11_layBest_167 rfl rfl ?_
              refine sm_ck (fun g42 => ?_)
              refine s_iald dX11_layBest_168 rfl (S_145 hK) g42 ?_
              refine s_istoreL (fun v43 => [(4, .int v43), (0, .ref (X.1 + 102)), (1, .int c1), (3, .int w3), (5, .int e26.1)]) dX11_layBest_169 rfl (by decide) (fun _ => rfl) (fun v43 => ?_)
              refine s_iincL 3 (c := (-1)) (fun v44 => [(3, .int v44), (4, .int v43), (0, .ref (X.1 + 102)), (1, .int c1), (5, .int e26.1)]) dX11_layBest_171 rfl rfl cI_m1 (by decide) (fun _ => rfl) (fun v44 => ?_)
              refine s_goto (tgt := 345) dX11_layBest_174 rfl ?_
              refine s_goto (tgt := 20) dX11_layBest_345 rfl ?_
              refine s_pick [2, 3, 0, 1] rfl ?_
              exact ih v44 v43 I27
        · skip
          refine s_aload_n 1 dX11_layBest_57 rfl rfl ?_
          refine s_getR 144 dX11_layBest_58 rfl fl_11_142 rfl (S_102 hK) (R_102_77 hK) ?_
          refine s_iload_n 3 dX11_layBest_61 rfl rfl ?_
          refine s_iload 4 dX11_layBest_62 rfl rfl ?_
          refine sm_ck (fun g46 => ?_)
          refine s_iastL dX11_layBest_64 rfl (S_144 hK) g46 (fun I45 => ?_)
          refine s_aload_n 1 dX11_layBest_65 rfl rfl ?_
          refine s_getR 143 dX11_layBest_66 rfl fl_11_139 rfl (S_102 hK) (R_102_76 hK) ?_
          refine s_iload_n 3 dX11_layBest_69 rfl rfl ?_
          refine s_iconst (v := 2) dX11_layBest_70 rfl cI_2 ?_
          refine sm_ck (fun g48 => ?_)
          refine s_iastL dX11_layBest_71 rfl (S_143 hK) g48 (fun I47 => ?_)
          refine s_aload_n 1 dX11_layBest_72 rfl rfl ?_
          refine s_iload_n 2 dX11_layBest_73 rfl rfl ?_
          refine s_iload 0 dX11_layBest_74 rfl rfl ?_
          refine s_iconst (v := 5) dX11_layBest_76 rfl cI_5 ?_
          refine s_idiv dX11_layBest_77 rfl (by decide) ?_
          refine s_iload 0 dX11_layBest_78 rfl rfl ?_
          refine s_iconst (v := 5) dX11_layBest_80 rfl cI_5 ?_
          refine s_irem dX11_layBest_81 rfl (by decide) ?_
          refine s_callV3_v1 dX11_layBest_82 rfl lkV_RX11_545 (S_102 hK) (Nat.le_of_ble_eq_true rfl) (Nat.le_of_ble_eq_true rfl) (Nat.le_of_ble_eq_true rfl) (ct_x11_miss hK) (fun I49 => ?_)
          refine s_aload_n 1 dX11_layBest_85 rfl rfl ?_
          refine s_iload_n 3 dX11_layBest_86 rfl rfl ?_
          refine s_iconst (v := 1) dX11_layBest_87 rfl cI_1 ?_
          refine s_iadd dX11_layBest_88 rfl ?_
          refine s_aload_n 1 dX11_layBest_89 rfl rfl ?_
          refine s_getR 141 dX11_layBest_90 rfl fl_11_133 rfl (S_102 hK) (R_102_74 hK) ?_
          refine s_iload_n 3 dX11_layBest_93 rfl rfl ?_
          refine sm_ck (fun g50 => ?_)
          refine s_iald dX11_layBest_94 rfl (S_141 hK) g50 ?_
          refine s_iload 0 dX11_layBest_95 rfl rfl ?_
          refine s_iconst (v := 5) dX11_layBest_97 rfl cI_5 ?_
          refine s_irem dX11_layBest_98 rfl (by decide) ?_
          refine s_callS1_i0 dX11_layBest_99 rfl lkS_RX11_529 (Nat.le_of_ble_eq_true rfl) (Nat.le_of_ble_eq_true rfl) (Nat.le_of_ble_eq_true rfl) (ct_x11_seconds hK) (fun r51 => ?_)
          refine s_isub dX11_layBest_102 rfl ?_
          refine s_callV2_v1 dX11_layBest_103 rfl lkV_RX11_593 (S_102 hK) (Nat.le_of_ble_eq_true rfl) (Nat.le_of_ble_eq_true rfl) (Nat.le_of_ble_eq_true rfl) (ct_x11_goDeeper hK) (fun I52 => ?_)
          refine s_iincL 3 (c := 1) (fun v53 => [(3, .int v53), (5, .int v8), (0, .ref (X.1 + 102)), (1, .int c1), (4, .int w4)]) dX11_layBest_106 rfl rfl cI_1 (by decide) (fun _ => rfl) (fun v53 => ?_)
          refine s_goto (tgt := 345) dX11_layBest_109 rfl ?_
          refine s_goto (tgt := 20) dX11_layBest_345 rfl ?_
          refine s_pick [2, 3, 0, 4] rfl ?_
          exact ih v53 w4 I52
theorem ct_x11_layBest {X : WX} {p1 : Int32} {p2 : Int32} {I : MI} {L : ML} {R : MR} {S : MS} (hK : okm R S) : Ct X yX11_layBest cX11_layBest 7 (some .boolean) 5 120 [.ref (X.1 + 102), .int p1, .int p2] (I, L, R, S) (x11_layBest p1 p2 I) (fun r => (some (.int r.1), (r.2, L, R, S))) := by
  refine Ct.of (by decide) (Nat.le_of_ble_eq_true rfl) [(0, .ref (X.1 + 102)), (1, .int p1), (2, .int p2)] rfl ?_
  unfold x11_layBest
  refine s_aload_n 0 dX11_layBest_0 rfl rfl ?_
  refine s_iconst (v := 0) dX11_layBest_1 rfl cI_0 ?_
  refine s_putIL dX11_layBest_2 rfl fl_11_590 (S_102 hK) (fun I1 => ?_)
  refine s_aload_n 0 dX11_layBest_5 rfl rfl ?_
  refine s_callV0_v1 dX11_layBest_6 rfl lkV_RX11_566 (S_102 hK) (Nat.le_of_ble_eq_true rfl) (Nat.le_of_ble_eq_true rfl) (Nat.le_of_ble_eq_true rfl) (ct_x11_load hK) (fun I2 => ?_)
  refine s_aload_n 0 dX11_layBest_9 rfl rfl ?_
  refine s_iconst (v := 0) dX11_layBest_10 rfl cI_0 ?_
  refine s_iload_n 2 dX11_layBest_11 rfl rfl ?_
  refine s_callV2_v1 dX11_layBest_12 rfl lkV_RX11_593 (S_102 hK) (Nat.le_of_ble_eq_true rfl) (Nat.le_of_ble_eq_true rfl) (Nat.le_of_ble_eq_true rfl) (ct_x11_goDeeper hK) (fun I3 => ?_)
  refine s_iconst (v := 0) dX11_layBest_15 rfl cI_0 ?_
  refine s_istore_nL (fun v4 => [(3, .int v4), (0, .ref (X.1 + 102)), (1, .int p1), (2, .int p2)]) dX11_layBest_16 rfl (by decide) (fun _ => rfl) (fun v4 => ?_)
  refine s_iconst (v := 0) dX11_layBest_17 rfl cI_0 ?_
  refine s_istoreL (fun v5 => [(4, .int v5), (3, .int v4), (0, .ref (X.1 + 102)), (1, .int p1), (2, .int p2)]) dX11_layBest_18 rfl (by decide) (fun _ => rfl) (fun v5 => ?_)
  refine s_pick [2, 3, 1, 0] rfl ?_
  refine sm_reg (x11_layBest_L20_ok hK FU v4 v5 I3) (fun e54 => ?_)
  refine s_aload_n 0 dX11_layBest_348 rfl rfl ?_
  refine s_getI dX11_layBest_349 rfl fl_11_590 (S_102 hK) ?_
  refine s_sipush (v := 20000) dX11_layBest_352 rfl cS_20000 ?_
  refine s_icmp_gt (tgt := 362) dX11_layBest_355 rfl rfl (fun _ => ?_) (fun _ => ?_)
  · skip
    refine s_iconst (v := 0) dX11_layBest_362 rfl cI_0 ?_
    exact s_zret dX11_layBest_363 rfl (Or.inl rfl) (fun f h => h)
  · skip
    refine s_iconst (v := 1) dX11_layBest_358 rfl cI_1 ?_
    refine s_goto (tgt := 363) dX11_layBest_359 rfl ?_
    exact s_zret dX11_layBest_363 rfl (Or.inr rfl) (fun f h => h)
noncomputable def x11_best (p1 : Int32) (p2 : Int32) (p3 : Int32) (I : MI) : Option (Int32 × MI) :=
b1 (x11_isBobber p1 I) fun r1 =>
if r1 = 0 then (
some ((-1 : Int32), I)) else
b1 (x11_isIn p2 (0 : Int32) (8 : Int32) I) fun r2 =>
if r2 = 0 then (
some ((-1 : Int32), I)) else
b1 (x11_isIn p3 (0 : Int32) (2 : Int32) I) fun r3 =>
if r3 = 0 then (
some ((-1 : Int32), I)) else
b2 (x11_layBest p1 p2 I) fun r4 I5 =>
if r4 = 0 then (
some ((-2 : Int32), I5)) else
if p3 = 0 then (
some ((I5 145 (ix 0)), I5)) else
if p3 = 1 then (
if (I5 146 (ix 0)) = 50 then (
some ((-1 : Int32), I5)) else
b1 (x11_told10 (I5 146 (ix 0)) I5) fun r8 =>
some (r8, I5)) else
if (I5 146 (ix 0)) = 50 then (
b1 (x11_truth (1 : Int32) I5) fun r7 =>
some (r7, I5)) else
b1 (x11_truth (0 : Int32) I5) fun r6 =>
some (r6, I5)
theorem ct_x11_best {X : WX} {p1 : Int32} {p2 : Int32} {p3 : Int32} {I : MI} {L : ML} {R : MR} {S : MS} (hK : okm R S) : Ct X yX11_best cX11_best 4 (some .int) 6 146 [.ref (X.1 + 102), .int p1, .int p2, .int p3] (I, L, R, S) (x11_best p1 p2 p3 I) (fun r => (some (.int r.1), (r.2, L, R, S))) := by
  refine Ct.of (by decide) (Nat.le_of_ble_eq_true rfl) [(0, .ref (X.1 + 102)), (1, .int p1), (2, .int p2), (3, .int p3)] rfl ?_
  unfold x11_best
  refine s_aload_n 0 dX11_best_0 rfl rfl ?_
  refine s_iload_n 1 dX11_best_1 rfl rfl ?_
  refine s_callV1_i0 dX11_best_2 rfl lkV_RX11_563 (S_102 hK) (Nat.le_of_ble_eq_true rfl) (Nat.le_of_ble_eq_true rfl) (Nat.le_of_ble_eq_true rfl) (ct_x11_isBobber hK) (fun r1 => ?_)
  refine s_if_eq (tgt := 27) dX11_best_5 rfl rfl (fun _ => ?_) (fun _ => ?_)
  · skip
    refine s_iconst (v := (-1)) dX11_best_27 rfl cI_m1 ?_
    exact s_iret dX11_best_28 rfl (fun f h => h)
  · skip
    refine s_iload_n 2 dX11_best_8 rfl rfl ?_
    refine s_iconst (v := 0) dX11_best_9 rfl cI_0 ?_
    refine s_bipush (v := 8) dX11_best_10 rfl cB_8 ?_
    refine s_callS3_i0 dX11_best_12 rfl lkS_RX11_494 (Nat.le_of_ble_eq_true rfl) (Nat.le_of_ble_eq_true rfl) (Nat.le_of_ble_eq_true rfl) (ct_x11_isIn hK) (fun r2 => ?_)
    refine s_if_eq (tgt := 27) dX11_best_15 rfl rfl (fun _ => ?_) (fun _ => ?_)
    · skip
      refine s_iconst (v := (-1)) dX11_best_27 rfl cI_m1 ?_
      exact s_iret dX11_best_28 rfl (fun f h => h)
    · skip
      refine s_iload_n 3 dX11_best_18 rfl rfl ?_
      refine s_iconst (v := 0) dX11_best_19 rfl cI_0 ?_
      refine s_iconst (v := 2) dX11_best_20 rfl cI_2 ?_
      refine s_callS3_i0 dX11_best_21 rfl lkS_RX11_494 (Nat.le_of_ble_eq_true rfl) (Nat.le_of_ble_eq_true rfl) (Nat.le_of_ble_eq_true rfl) (ct_x11_isIn hK) (fun r3 => ?_)
      refine s_if_ne (tgt := 29) dX11_best_24 rfl rfl (fun _ => ?_) (fun _ => ?_)
      · skip
        refine s_aload_n 0 dX11_best_29 rfl rfl ?_
        refine s_iload_n 1 dX11_best_30 rfl rfl ?_
        refine s_iload_n 2 dX11_best_31 rfl rfl ?_
        refine s_callV2_i1 dX11_best_32 rfl lkV_RX11_606 (S_102 hK) (Nat.le_of_ble_eq_true rfl) (Nat.le_of_ble_eq_true rfl) (Nat.le_of_ble_eq_true rfl) (ct_x11_layBest hK) (fun r4 I5 => ?_)
        refine s_if_ne (tgt := 41) dX11_best_35 rfl rfl (fun _ => ?_) (fun _ => ?_)
        · skip
          refine s_iload_n 3 dX11_best_41 rfl rfl ?_
          refine s_if_ne (tgt := 54) dX11_best_42 rfl rfl (fun _ => ?_) (fun _ => ?_)
          · skip
            refine s_iload_n 3 dX11_best_54 rfl rfl ?_
            refine s_iconst (v := 1) dX11_best_55 rfl cI_1 ?_
            refine s_icmp_ne (tgt := 86) dX11_best_56 rfl rfl (fun _ => ?_) (fun _ => ?_)
            · skip
              refine s_aload_n 0 dX11_best_86 rfl rfl ?_
              refine s_getR 146 dX11_best_87 rfl fl_11_148 rfl (S_102 hK) (R_102_79 hK) ?_
              refine s_iconst (v := 0) dX11_best_90 rfl cI_0 ?_
              refine s_iald dX11_best_91 rfl (S_146 hK) (by unfold vp_in; decide) ?_
              refine s_bipush (v := 50) dX11_best_92 rfl cB_50 ?_
              refine s_icmp_ne (tgt := 101) dX11_best_94 rfl rfl (fun _ => ?_) (fun _ => ?_)
              · skip
                refine s_iconst (v := 0) dX11_best_101 rfl cI_0 ?_
                refine s_callS1_i0 dX11_best_102 rfl lkS_RX11_354 (Nat.le_of_ble_eq_true rfl) (Nat.le_of_ble_eq_true rfl) (Nat.le_of_ble_eq_true rfl) (ct_x11_truth hK) (fun r6 => ?_)
                exact s_iret dX11_best_105 rfl (fun f h => h)
              · skip
                refine s_iconst (v := 1) dX11_best_97 rfl cI_1 ?_
                refine s_goto (tgt := 102) dX11_best_98 rfl ?_
                refine s_callS1_i0 dX11_best_102 rfl lkS_RX11_354 (Nat.le_of_ble_eq_true rfl) (Nat.le_of_ble_eq_true rfl) (Nat.le_of_ble_eq_true rfl) (ct_x11_truth hK) (fun r7 => ?_)
                exact s_iret dX11_best_105 rfl (fun f h => h)
            · skip
              refine s_aload_n 0 dX11_best_59 rfl rfl ?_
              refine s_getR 146 dX11_best_60 rfl fl_11_148 rfl (S_102 hK) (R_102_79 hK) ?_
              refine s_iconst (v := 0) dX11_best_63 rfl cI_0 ?_
              refine s_iald dX11_best_64 rfl (S_146 hK) (by unfold vp_in; decide) ?_
              refine s_bipush (v := 50) dX11_best_65 rfl cB_50 ?_
              refine s_icmp_ne (tgt := 74) dX11_best_67 rfl rfl (fun _ => ?_) (fun _ => ?_)
              · skip
                refine s_aload_n 0 dX11_best_74 rfl rfl ?_
                refine s_getR 146 dX11_best_75 rfl fl_11_148 rfl (S_102 hK) (R_102_79 hK) ?_
                refine s_iconst (v := 0) dX11_best_78 rfl cI_0 ?_
                refine s_iald dX11_best_79 rfl (S_146 hK) (by unfold vp_in; decide) ?_
                refine s_callS1_i0 dX11_best_80 rfl lkS_RX11_572 (Nat.le_of_ble_eq_true rfl) (Nat.le_of_ble_eq_true rfl) (Nat.le_of_ble_eq_true rfl) (ct_x11_told10 hK) (fun r8 => ?_)
                refine s_goto (tgt := 105) dX11_best_83 rfl ?_
                exact s_iret dX11_best_105 rfl (fun f h => h)
              · skip
                refine s_iconst (v := (-1)) dX11_best_70 rfl cI_m1 ?_
                refine s_goto (tgt := 105) dX11_best_71 rfl ?_
                exact s_iret dX11_best_105 rfl (fun f h => h)
          · skip
            refine s_aload_n 0 dX11_best_45 rfl rfl ?_
            refine s_getR 145 dX11_best_46 rfl fl_11_145 rfl (S_102 hK) (R_102_78 hK) ?_
            refine s_iconst (v := 0) dX11_best_49 rfl cI_0 ?_
            refine s_iald dX11_best_50 rfl (S_145 hK) (by unfold vp_in; decide) ?_
            refine s_goto (tgt := 105) dX11_best_51 rfl ?_
            exact s_iret dX11_best_105 rfl (fun f h => h)
        · skip
          refine s_bipush (v := (-2)) dX11_best_38 rfl cB_m2 ?_
          exact s_iret dX11_best_40 rfl (fun f h => h)
      · skip
        refine s_iconst (v := (-1)) dX11_best_27 rfl cI_m1 ?_
        exact s_iret dX11_best_28 rfl (fun f h => h)
