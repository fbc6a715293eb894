noncomputable def x11_chance_L5s (c1 : Int32) (I : MI) (rec : Int64 → Int32 → Option (Int64)) (w2 : Int64) (w4 : Int32) : Option (Int64) :=
if w4 < (I 102 91) then (
b1 (x11_counts w4 c1 I) fun r3 =>
if r3 = 0 then (
lt (w4 + 1) fun v11 =>
rec w2 v11) else
ck (vp_in w4 30) <|
b1 (x11_members (I 152 (ix w4)) I) fun r5 =>
lt r5 fun v6 =>
if 0 < (lg_cmp (w2 * (v6).toInt64) 1000000000000000) then (
lt (1000000000000000 : Int64) fun v9 =>
lt (w4 + 1) fun v10 =>
rec v9 v10) else
lt (w2 * (v6).toInt64) fun v7 =>
lt (w4 + 1) fun v8 =>
rec v7 v8) else
some w2
noncomputable def x11_chance_L5 (c1 : Int32) (I : MI) : Nat → Int64 → Int32 → Option (Int64)
  | 0 => fun _ _ => none
  | n + 1 => x11_chance_L5s c1 I (x11_chance_L5 c1 I n)
noncomputable def x11_chance (p1 : Int32) (I : MI) : Option (Int64) :=
lt (1 : Int64) fun v1 =>
lt (0 : Int32) fun v2 =>
b1 (x11_chance_L5 p1 I FU v1 v2) fun e12 =>
some e12
theorem x11_chance_L5_ok {X : WX} {n0 s0 : Nat} {c1 : Int32} {I : MI} {L : ML} {R : MR} {S : MS} (hK : okm R S) : ∀ (n : Nat) (w2 : Int64) (w4 : Int32), Sim X yX11_chance cX11_chance 6 (some .long) 1 22 n0 s0 5 [(0, .ref (X.1 + 102)), (1, .int c1), (2, .long w2), (4, .int w4)] [] (I, L, R, S) (x11_chance_L5 c1 I n w2 w4) (fun b f => Ex X yX11_chance cX11_chance 6 (some .long) 1 22 n0 s0 69 [(2, .long b)] [] (I, L, R, S) f) := by
  intro n
  induction n with
  | zero =>
    intro w2 w4
    exact sm_none
  | succ n ih =>
    intro w2 w4
    change Sim _ _ _ _ _ _ _ _ _ _ _ _ _ (x11_chance_L5s c1 I (x11_chance_L5 c1 I n) w2 w4) _
    unfold x11_chance_L5s
    refine s_iload 3 dX11_chance_5 rfl rfl ?_
    refine s_aload_n 0 dX11_chance_7 rfl rfl ?_
    refine s_getI dX11_chance_8 rfl fl_11_488 (S_102 hK) ?_
    refine s_icmp_ge (tgt := 69) dX11_chance_11 rfl rfl (fun _ => ?_) (fun _ => ?_)
    · skip
      refine s_pick [2] rfl ?_
      exact sm_exit (fun f h => h)
    · skip
      refine s_aload_n 0 dX11_chance_14 rfl rfl ?_
      refine s_iload 3 dX11_chance_15 rfl rfl ?_
      refine s_iload_n 1 dX11_chance_17 rfl rfl ?_
      refine s_callV2_i0 dX11_chance_18 rfl lkV_RX11_654 (S_102 hK) (Nat.le_of_ble_eq_true rfl) (Nat.le_of_ble_eq_true rfl) (Nat.le_of_ble_eq_true rfl) (ct_x11_counts hK) (fun r3 => ?_)
      refine s_if_ne (tgt := 27) dX11_chance_21 rfl rfl (fun _ => ?_) (fun _ => ?_)
      · skip
        refine s_aload_n 0 dX11_chance_27 rfl rfl ?_
        refine s_getR 152 dX11_chance_28 rfl fl_11_166 rfl (S_102 hK) (R_102_87 hK) ?_
        refine s_iload 3 dX11_chance_31 rfl rfl ?_
        refine sm_ck (fun g4 => ?_)
        refine s_iald dX11_chance_33 rfl (S_152 hK) g4 ?_
        refine s_callS1_i0 dX11_chance_34 rfl lkS_RX11_628 (Nat.le_of_ble_eq_true rfl) (Nat.le_of_ble_eq_true rfl) (Nat.le_of_ble_eq_true rfl) (ct_x11_members hK) (fun r5 => ?_)
        refine s_istoreL (fun v6 => [(5, .int v6), (0, .ref (X.1 + 102)), (1, .int c1), (2, .long w2), (4, .int w4)]) dX11_chance_37 rfl (by decide) (fun _ => rfl) (fun v6 => ?_)
        refine s_lload_n 3 dX11_chance_39 rfl rfl ?_
        refine s_iload 0 dX11_chance_40 rfl rfl ?_
        refine s_i2l dX11_chance_42 rfl ?_
        refine s_lmul dX11_chance_43 rfl ?_
        refine s_ldc2 (v := 1000000000000000) dX11_chance_44 rfl kl_11_663c ?_
        refine s_lcmp dX11_chance_47 rfl ?_
        refine s_if_le (tgt := 57) dX11_chance_48 rfl rfl (fun _ => ?_) (fun _ => ?_)
        · skip
          refine s_lload_n 3 dX11_chance_57 rfl rfl ?_
          refine s_iload 0 dX11_chance_58 rfl rfl ?_
          refine s_i2l dX11_chance_60 rfl ?_
          refine s_lmul dX11_chance_61 rfl ?_
          refine s_lstore_nL (fun v7 => [(2, .long v7), (5, .int v6), (0, .ref (X.1 + 102)), (1, .int c1), (4, .int w4)]) dX11_chance_62 rfl (by decide) (fun _ => rfl) (fun v7 => ?_)
          refine s_iincL 4 (c := 1) (fun v8 => [(4, .int v8), (2, .long v7), (5, .int v6), (0, .ref (X.1 + 102)), (1, .int c1)]) dX11_chance_63 rfl rfl cI_1 (by decide) (fun _ => rfl) (fun v8 => ?_)
          refine s_goto (tgt := 5) dX11_chance_66 rfl ?_
          refine s_pick [3, 4, 1, 0] rfl ?_
          exact ih v7 v8
        · skip
          refine s_ldc2 (v := 1000000000000000) dX11_chance_51 rfl kl_11_663c ?_
          refine s_goto (tgt := 62) dX11_chance_54 rfl ?_
          refine s_lstore_nL (fun v9 => [(2, .long v9), (5, .int v6), (0, .ref (X.1 + 102)), (1, .int c1), (4, .int w4)]) dX11_chance_62 rfl (by decide) (fun _ => rfl) (fun v9 => ?_)
          refine s_iincL 4 (c := 1) (fun v10 => [(4, .int v10), (2, .long v9), (5, .int v6), (0, .ref (X.1 + 102)), (1, .int c1)]) dX11_chance_63 rfl rfl cI_1 (by decide) (fun _ => rfl) (fun v10 => ?_)
          refine s_goto (tgt := 5) dX11_chance_66 rfl ?_
          refine s_pick [3, 4, 1, 0] rfl ?_
          exact ih v9 v10
      · skip
        refine s_goto (tgt := 63) dX11_chance_24 rfl ?_
        refine s_iincL 3 (c := 1) (fun v11 => [(4, .int v11), (0, .ref (X.1 + 102)), (1, .int c1), (2, .long w2)]) dX11_chance_63 rfl rfl cI_1 (by decide) (fun _ => rfl) (fun v11 => ?_)
        refine s_goto (tgt := 5) dX11_chance_66 rfl ?_
        refine s_pick [1, 2, 3, 0] rfl ?_
        exact ih w2 v11
theorem ct_x11_chance {X : WX} {p1 : Int32} {I : MI} {L : ML} {R : MR} {S : MS} (hK : okm R S) : Ct X yX11_chance cX11_chance 6 (some .long) 1 22 [.ref (X.1 + 102), .int p1] (I, L, R, S) (x11_chance p1 I) (fun r => (some (.long r), (I, L, R, S))) := by
  refine Ct.of (by decide) (Nat.le_of_ble_eq_true rfl) [(0, .ref (X.1 + 102)), (1, .int p1)] rfl ?_
  unfold x11_chance
  refine s_lconst (v := 1) dX11_chance_0 rfl rfl ?_
  refine s_lstore_nL (fun v1 => [(2, .long v1), (0, .ref (X.1 + 102)), (1, .int p1)]) dX11_chance_1 rfl (by decide) (fun _ => rfl) (fun v1 => ?_)
  refine s_iconst (v := 0) dX11_chance_2 rfl cI_0 ?_
  refine s_istoreL (fun v2 => [(4, .int v2), (2, .long v1), (0, .ref (X.1 + 102)), (1, .int p1)]) dX11_chance_3 rfl (by decide) (fun _ => rfl) (fun v2 => ?_)
  refine s_pick [2, 3, 1, 0] rfl ?_
  refine sm_reg (x11_chance_L5_ok hK FU v1 v2) (fun e12 => ?_)
  refine s_lload_n 0 dX11_chance_69 rfl rfl ?_
  exact s_lret dX11_chance_70 rfl (fun f h => h)
noncomputable def x11_isBox (p0 : Int32) (I : MI) : Option (Int32) :=
if p0 < 0 then (
some (0 : Int32)) else
if p0 < 3 then (
some (1 : Int32)) else
some (0 : Int32)
theorem ct_x11_isBox {X : WX} {p0 : Int32} {I : MI} {L : ML} {R : MR} {S : MS} (hK : okm R S) : Ct X yX11_isBox cX11_isBox 1 (some .boolean) 0 0 [.int p0] (I, L, R, S) (x11_isBox p0 I) (fun r => (some (.int r), (I, L, R, S))) := by
  refine Ct.of (by decide) (Nat.le_of_ble_eq_true rfl) [(0, .int p0)] rfl ?_
  unfold x11_isBox
  refine s_iload_n 0 dX11_isBox_0 rfl rfl ?_
  refine s_if_lt (tgt := 13) dX11_isBox_1 rfl rfl (fun _ => ?_) (fun _ => ?_)
  · skip
    refine s_iconst (v := 0) dX11_isBox_13 rfl cI_0 ?_
    exact s_zret dX11_isBox_14 rfl (Or.inl rfl) (fun f h => h)
  · skip
    refine s_iload_n 0 dX11_isBox_4 rfl rfl ?_
    refine s_iconst (v := 3) dX11_isBox_5 rfl cI_3 ?_
    refine s_icmp_ge (tgt := 13) dX11_isBox_6 rfl rfl (fun _ => ?_) (fun _ => ?_)
    · skip
      refine s_iconst (v := 0) dX11_isBox_13 rfl cI_0 ?_
      exact s_zret dX11_isBox_14 rfl (Or.inl rfl) (fun f h => h)
    · skip
      refine s_iconst (v := 1) dX11_isBox_9 rfl cI_1 ?_
      refine s_goto (tgt := 14) dX11_isBox_10 rfl ?_
      exact s_zret dX11_isBox_14 rfl (Or.inr rfl) (fun f h => h)
noncomputable def x11_image_L22s (c1 : Int32) (rec : Int32 → MI → Option (MI)) (w2 : Int32) (I : MI) : Option (MI) :=
if w2 < 123 then (
ck (vp_in w2 128) <|
ck (vp_in ((128 * c1) + w2) 384) <|
lt (wI I 157 (ix ((128 * c1) + w2)) (I 137 (ix w2))) fun I7 =>
lt (w2 + 1) fun v9 =>
rec v9 I7) else
some I
noncomputable def x11_image_L22 (c1 : Int32) : Nat → Int32 → MI → Option (MI)
  | 0 => fun _ _ => none
  | n + 1 => x11_image_L22s c1 (x11_image_L22 c1 n)
noncomputable def x11_image (p1 : Int32) (I : MI) : Option (Int32 × MI) :=
b1 (x11_isBox p1 I) fun r1 =>
if r1 = 0 then (
some ((-1 : Int32), I)) else
ck (vp_in p1 3) <|
lt (wI I 156 (ix p1) (zb (1 : Int32))) fun I2 =>
b1 (x11_load I2) fun I4 =>
lt (0 : Int32) fun v5 =>
b1 (x11_image_L22 p1 FU v5 I4) fun e10 =>
b1 (x11_afloatAll e10) fun r11 =>
some (r11, e10)
theorem x11_image_L22_ok {X : WX} {n0 s0 : Nat} {c1 : Int32} {L : ML} {R : MR} {S : MS} (hK : okm R S) : ∀ (n : Nat) (w2 : Int32) (I : MI), Sim X yX11_image cX11_image 3 (some .int) 2 43 n0 s0 22 [(0, .ref (X.1 + 102)), (1, .int c1), (2, .int w2)] [] (I, L, R, S) (x11_image_L22 c1 n w2 I) (fun b f => Ex X yX11_image cX11_image 3 (some .int) 2 43 n0 s0 52 [(0, .ref (X.1 + 102))] [] (b, L, R, S) f) := by
  intro n
  induction n with
  | zero =>
    intro w2 I
    exact sm_none
  | succ n ih =>
    intro w2 I
    change Sim _ _ _ _ _ _ _ _ _ _ _ _ _ (x11_image_L22s c1 (x11_image_L22 c1 n) w2 I) _
    unfold x11_image_L22s
    refine s_iload_n 2 dX11_image_22 rfl rfl ?_
    refine s_bipush (v := 123) dX11_image_23 rfl cB_123 ?_
    refine s_icmp_ge (tgt := 52) dX11_image_25 rfl rfl (fun _ => ?_) (fun _ => ?_)
    · skip
      refine s_pick [0] rfl ?_
      exact sm_exit (fun f h => h)
    · skip
      refine s_aload_n 0 dX11_image_28 rfl rfl ?_
      refine s_getR 157 dX11_image_29 rfl fl_11_181 rfl (S_102 hK) (R_102_94 hK) ?_
      refine s_sipush (v := 128) dX11_image_32 rfl cS_128 ?_
      refine s_iload_n 1 dX11_image_35 rfl rfl ?_
      refine s_imul dX11_image_36 rfl ?_
      refine s_iload_n 2 dX11_image_37 rfl rfl ?_
      refine s_iadd dX11_image_38 rfl ?_
      refine s_aload_n 0 dX11_image_39 rfl rfl ?_
      refine s_getR 137 dX11_image_40 rfl fl_11_121 rfl (S_102 hK) (R_102_66 hK) ?_
      refine s_iload_n 2 dX11_image_43 rfl rfl ?_
      refine sm_ck (fun g6 => ?_)
      refine s_iald dX11_image_44 rfl (S_137 hK) g6 ?_
      refine sm_ck (fun g8 => ?_)
      refine s_iastL dX11_image_45 rfl (S_157 hK) g8 (fun I7 => ?_)
      refine s_iincL 2 (c := 1) (fun v9 => [(2, .int v9), (0, .ref (X.1 + 102)), (1, .int c1)]) dX11_image_46 rfl rfl cI_1 (by decide) (fun _ => rfl) (fun v9 => ?_)
      refine s_goto (tgt := 22) dX11_image_49 rfl ?_
      refine s_pick [1, 2, 0] rfl ?_
      exact ih v9 I7
theorem ct_x11_image {X : WX} {p1 : Int32} {I : MI} {L : ML} {R : MR} {S : MS} (hK : okm R S) : Ct X yX11_image cX11_image 3 (some .int) 2 43 [.ref (X.1 + 102), .int p1] (I, L, R, S) (x11_image p1 I) (fun r => (some (.int r.1), (r.2, L, R, S))) := by
  refine Ct.of (by decide) (Nat.le_of_ble_eq_true rfl) [(0, .ref (X.1 + 102)), (1, .int p1)] rfl ?_
  unfold x11_image
  refine s_iload_n 1 dX11_image_0 rfl rfl ?_
  refine s_callS1_i0 dX11_image_1 rfl lkS_RX11_665 (Nat.le_of_ble_eq_true rfl) (Nat.le_of_ble_eq_true rfl) (Nat.le_of_ble_eq_true rfl) (ct_x11_isBox hK) (fun r1 => ?_)
  refine s_if_ne (tgt := 9) dX11_image_4 rfl rfl (fun _ => ?_) (fun _ => ?_)
  · skip
    refine s_aload_n 0 dX11_image_9 rfl rfl ?_
    refine s_getR 156 dX11_image_10 rfl fl_11_178 rfl (S_102 hK) (R_102_93 hK) ?_
    refine s_iload_n 1 dX11_image_13 rfl rfl ?_
    refine s_iconst (v := 1) dX11_image_14 rfl cI_1 ?_
    refine sm_ck (fun g3 => ?_)
    refine s_zastL dX11_image_15 rfl (S_156 hK) g3 (fun I2 => ?_)
    refine s_aload_n 0 dX11_image_16 rfl rfl ?_
    refine s_callV0_v1 dX11_image_17 rfl lkV_RX11_566 (S_102 hK) (Nat.le_of_ble_eq_true rfl) (Nat.le_of_ble_eq_true rfl) (Nat.le_of_ble_eq_true rfl) (ct_x11_load hK) (fun I4 => ?_)
    refine s_iconst (v := 0) dX11_image_20 rfl cI_0 ?_
    refine s_istore_nL (fun v5 => [(2, .int v5), (0, .ref (X.1 + 102)), (1, .int p1)]) dX11_image_21 rfl (by decide) (fun _ => rfl) (fun v5 => ?_)
    refine s_pick [1, 2, 0] rfl ?_
    refine sm_reg (x11_image_L22_ok hK FU v5 I4) (fun e10 => ?_)
    refine s_aload_n 0 dX11_image_52 rfl rfl ?_
    refine s_callV0_i0 dX11_image_53 rfl lkV_RX11_619 (S_102 hK) (Nat.le_of_ble_eq_true rfl) (Nat.le_of_ble_eq_true rfl) (Nat.le_of_ble_eq_true rfl) (ct_x11_afloatAll hK) (fun r11 => ?_)
    exact s_iret dX11_image_56 rfl (fun f h => h)
  · skip
    refine s_iconst (v := (-1)) dX11_image_7 rfl cI_m1 ?_
    exact s_iret dX11_image_8 rfl (fun f h => h)
noncomputable def x11_back_L20s (c1 : Int32) (rec : Int32 → MI → Option (MI)) (w2 : Int32) (I : MI) : Option (MI) :=
if w2 < 123 then (
ck (vp_in ((128 * c1) + w2) 384) <|
ck (vp_in w2 128) <|
lt (wI I 138 (ix w2) (I 157 (ix ((128 * c1) + w2)))) fun I5 =>
lt (w2 + 1) fun v7 =>
rec v7 I5) else
some I
noncomputable def x11_back_L20 (c1 : Int32) : Nat → Int32 → MI → Option (MI)
  | 0 => fun _ _ => none
  | n + 1 => x11_back_L20s c1 (x11_back_L20 c1 n)
noncomputable def x11_back (p1 : Int32) (I : MI) : Option (Int32 × MI) :=
b1 (x11_isBox p1 I) fun r1 =>
if r1 = 0 then (
some ((-1 : Int32), I)) else
ck (vp_in p1 3) <|
if (I 156 (ix p1)) = 0 then (
some ((-1 : Int32), I)) else
lt (0 : Int32) fun v3 =>
b1 (x11_back_L20 p1 FU v3 I) fun e8 =>
lt (wI e8 102 71 (0 : Int32)) fun I9 =>
lt (wI I9 102 72 (0 : Int32)) fun I10 =>
b1 (x11_load I10) fun I11 =>
b1 (x11_afloatAll I11) fun r12 =>
some (r12, I11)
theorem x11_back_L20_ok {X : WX} {n0 s0 : Nat} {c1 : Int32} {L : ML} {R : MR} {S : MS} (hK : okm R S) : ∀ (n : Nat) (w2 : Int32) (I : MI), Sim X yX11_back cX11_back 3 (some .int) 2 43 n0 s0 20 [(0, .ref (X.1 + 102)), (1, .int c1), (2, .int w2)] [] (I, L, R, S) (x11_back_L20 c1 n w2 I) (fun b f => Ex X yX11_back cX11_back 3 (some .int) 2 43 n0 s0 50 [(0, .ref (X.1 + 102))] [] (b, L, R, S) f) := by
  intro n
  induction n with
  | zero =>
    intro w2 I
    exact sm_none
  | succ n ih =>
    intro w2 I
    change Sim _ _ _ _ _ _ _ _ _ _ _ _ _ (x11_back_L20s c1 (x11_back_L20 c1 n) w2 I) _
    unfold x11_back_L20s
    refine s_iload_n 2 dX11_back_20 rfl rfl ?_
    refine s_bipush (v := 123) dX11_back_21 rfl cB_123 ?_
    refine s_icmp_ge (tgt := 50) dX11_back_23 rfl rfl (fun _ => ?_) (fun _ => ?_)
    · skip
      refine s_pick [0] rfl ?_
      exact sm_exit (fun f h => h)
    · skip
      refine s_aload_n 0 dX11_back_26 rfl rfl ?_
      refine s_getR 138 dX11_back_27 rfl fl_11_124 rfl (S_102 hK) (R_102_67 hK) ?_
      refine s_iload_n 2 dX11_back_30 rfl rfl ?_
      refine s_aload_n 0 dX11_back_31 rfl rfl ?_
      refine s_getR 157 dX11_back_32 rfl fl_11_181 rfl (S_102 hK) (R_102_94 hK) ?_
      refine s_sipush (v := 128) dX11_back_35 rfl cS_128 ?_
      refine s_iload_n 1 dX11_back_38 rfl rfl ?_
      refine s_imul dX11_back_39 rfl ?_
      refine s_iload_n 2 dX11_back_40 rfl rfl ?_
      refine s_iadd dX11_back_41 rfl ?_
      refine sm_ck (fun g4 => ?_)
      refine s_iald dX11_back_42 rfl (S_157 hK) g4 ?_
      refine sm_ck (fun g6 => ?_)
      refine s_iastL dX11_back_43 rfl (S_138 hK) g6 (fun I5 => ?_)
      refine s_iincL 2 (c := 1) (fun v7 => [(2, .int v7), (0, .ref (X.1 + 102)), (1, .int c1)]) dX11_back_44 rfl rfl cI_1 (by decide) (fun _ => rfl) (fun v7 => ?_)
      refine s_goto (tgt := 20) dX11_back_47 rfl ?_
      refine s_pick [1, 2, 0] rfl ?_
      exact ih v7 I5
theorem ct_x11_back {X : WX} {p1 : Int32} {I : MI} {L : ML} {R : MR} {S : MS} (hK : okm R S) : Ct X yX11_back cX11_back 3 (some .int) 2 43 [.ref (X.1 + 102), .int p1] (I, L, R, S) (x11_back p1 I) (fun r => (some (.int r.1), (r.2, L, R, S))) := by
  refine Ct.of (by decide) (Nat.le_of_ble_eq_true rfl) [(0, .ref (X.1 + 102)), (1, .int p1)] rfl ?_
  unfold x11_back
  refine s_iload_n 1 dX11_back_0 rfl rfl ?_
  refine s_callS1_i0 dX11_back_1 rfl lkS_RX11_665 (Nat.le_of_ble_eq_true rfl) (Nat.le_of_ble_eq_true rfl) (Nat.le_of_ble_eq_true rfl) (ct_x11_isBox hK) (fun r1 => ?_)
  refine s_if_eq (tgt := 16) dX11_back_4 rfl rfl (fun _ => ?_) (fun _ => ?_)
  · skip
    refine s_iconst (v := (-1)) dX11_back_16 rfl cI_m1 ?_
    exact s_iret dX11_back_17 rfl (fun f h => h)
  · skip
    refine s_aload_n 0 dX11_back_7 rfl rfl ?_
    refine s_getR 156 dX11_back_8 rfl fl_11_178 rfl (S_102 hK) (R_102_93 hK) ?_
    refine s_iload_n 1 dX11_back_11 rfl rfl ?_
    refine sm_ck (fun g2 => ?_)
    refine s_zald dX11_back_12 rfl (S_156 hK) g2 ?_
    refine s_if_ne (tgt := 18) dX11_back_13 rfl rfl (fun _ => ?_) (fun _ => ?_)
    · skip
      refine s_iconst (v := 0) dX11_back_18 rfl cI_0 ?_
      refine s_istore_nL (fun v3 => [(2, .int v3), (0, .ref (X.1 + 102)), (1, .int p1)]) dX11_back_19 rfl (by decide) (fun _ => rfl) (fun v3 => ?_)
      refine s_pick [1, 2, 0] rfl ?_
      refine sm_reg (x11_back_L20_ok hK FU v3 I) (fun e8 => ?_)
      refine s_aload_n 0 dX11_back_50 rfl rfl ?_
      refine s_iconst (v := 0) dX11_back_51 rfl cI_0 ?_
      refine s_putIL dX11_back_52 rfl fl_11_482 (S_102 hK) (fun I9 => ?_)
      refine s_aload_n 0 dX11_back_55 rfl rfl ?_
      refine s_iconst (v := 0) dX11_back_56 rfl cI_0 ?_
      refine s_putIL dX11_back_57 rfl fl_11_485 (S_102 hK) (fun I10 => ?_)
      refine s_aload_n 0 dX11_back_60 rfl rfl ?_
      refine s_callV0_v1 dX11_back_61 rfl lkV_RX11_566 (S_102 hK) (Nat.le_of_ble_eq_true rfl) (Nat.le_of_ble_eq_true rfl) (Nat.le_of_ble_eq_true rfl) (ct_x11_load hK) (fun I11 => ?_)
      refine s_aload_n 0 dX11_back_64 rfl rfl ?_
      refine s_callV0_i0 dX11_back_65 rfl lkV_RX11_619 (S_102 hK) (Nat.le_of_ble_eq_true rfl) (Nat.le_of_ble_eq_true rfl) (Nat.le_of_ble_eq_true rfl) (ct_x11_afloatAll hK) (fun r12 => ?_)
      exact s_iret dX11_back_68 rfl (fun f h => h)
    · skip
      refine s_iconst (v := (-1)) dX11_back_16 rfl cI_m1 ?_
      exact s_iret dX11_back_17 rfl (fun f h => h)
noncomputable def x11_about (p1 : Int32) (I : MI) : Option (Int32 × MI) :=
b1 (x11_load I) fun I1 =>
if p1 = 0 then (
some ((I1 102 56), I1)) else
if p1 = 1 then (
some ((I1 102 57), I1)) else
if p1 = 2 then (
some ((I1 102 60), I1)) else
if p1 = 3 then (
b1 (x11_afloatAll I1) fun r6 =>
some (r6, I1)) else
if p1 = 4 then (
some ((I1 102 61), I1)) else
if p1 = 5 then (
some ((I1 102 59), I1)) else
if p1 = 6 then (
some ((I1 138 (ix 62)), I1)) else
if p1 = 7 then (
some ((I1 102 71), I1)) else
if p1 = 8 then (
some ((I1 102 72), I1)) else
if p1 = 9 then (
some ((I1 102 91), I1)) else
if p1 = 10 then (
some ((I1 102 92), I1)) else
if p1 = 11 then (
some ((I1 102 1), I1)) else
if p1 = 12 then (
some ((I1 102 21), I1)) else
if p1 = 13 then (
some ((I1 102 85), I1)) else
some ((-1 : Int32), I1)
theorem ct_x11_about {X : WX} {p1 : Int32} {I : MI} {L : ML} {R : MR} {S : MS} (hK : okm R S) : Ct X yX11_about cX11_about 2 (some .int) 2 43 [.ref (X.1 + 102), .int p1] (I, L, R, S) (x11_about p1 I) (fun r => (some (.int r.1), (r.2, L, R, S))) := by
  refine Ct.of (by decide) (Nat.le_of_ble_eq_true rfl) [(0, .ref (X.1 + 102)), (1, .int p1)] rfl ?_
  unfold x11_about
  refine s_aload_n 0 dX11_about_0 rfl rfl ?_
  refine s_callV0_v1 dX11_about_1 rfl lkV_RX11_566 (S_102 hK) (Nat.le_of_ble_eq_true rfl) (Nat.le_of_ble_eq_true rfl) (Nat.le_of_ble_eq_true rfl) (ct_x11_load hK) (fun I1 => ?_)
  refine s_iload_n 1 dX11_about_4 rfl rfl ?_
  refine sm_ite (fun h2 => ?_) (fun h2 => ?_)
  · skip
    refine s_tin (tgt := 76) dX11_about_5 (by rw [h2]; try decide) (by rw [h2]; try decide) (by rw [h2]; try rfl) rfl ?_
    refine s_aload_n 0 dX11_about_76 rfl rfl ?_
    refine s_getI dX11_about_77 rfl fl_11_455 (S_102 hK) ?_
    exact s_iret dX11_about_80 rfl (fun f h => h)
  refine sm_ite (fun h3 => ?_) (fun h3 => ?_)
  · skip
    refine s_tin (tgt := 81) dX11_about_5 (by rw [h3]; try decide) (by rw [h3]; try decide) (by rw [h3]; try rfl) rfl ?_
    refine s_aload_n 0 dX11_about_81 rfl rfl ?_
    refine s_getI dX11_about_82 rfl fl_11_458 (S_102 hK) ?_
    exact s_iret dX11_about_85 rfl (fun f h => h)
  refine sm_ite (fun h4 => ?_) (fun h4 => ?_)
  · skip
    refine s_tin (tgt := 86) dX11_about_5 (by rw [h4]; try decide) (by rw [h4]; try decide) (by rw [h4]; try rfl) rfl ?_
    refine s_aload_n 0 dX11_about_86 rfl rfl ?_
    refine s_getI dX11_about_87 rfl fl_11_467 (S_102 hK) ?_
    exact s_iret dX11_about_90 rfl (fun f h => h)
  refine sm_ite (fun h5 => ?_) (fun h5 => ?_)
  · skip
    refine s_tin (tgt := 91) dX11_about_5 (by rw [h5]; try decide) (by rw [h5]; try decide) (by rw [h5]; try rfl) rfl ?_
    refine s_aload_n 0 dX11_about_91 rfl rfl ?_
    refine s_callV0_i0 dX11_about_92 rfl lkV_RX11_619 (S_102 hK) (Nat.le_of_ble_eq_true rfl) (Nat.le_of_ble_eq_true rfl) (Nat.le_of_ble_eq_true rfl) (ct_x11_afloatAll hK) (fun r6 => ?_)
    exact s_iret dX11_about_95 rfl (fun f h => h)
  refine sm_ite (fun h7 => ?_) (fun h7 => ?_)
  · skip
    refine s_tin (tgt := 96) dX11_about_5 (by rw [h7]; try decide) (by rw [h7]; try decide) (by rw [h7]; try rfl) rfl ?_
    refine s_aload_n 0 dX11_about_96 rfl rfl ?_
    refine s_getI dX11_about_97 rfl fl_11_470 (S_102 hK) ?_
    exact s_iret dX11_about_100 rfl (fun f h => h)
  refine sm_ite (fun h8 => ?_) (fun h8 => ?_)
  · skip
    refine s_tin (tgt := 101) dX11_about_5 (by rw [h8]; try decide) (by rw [h8]; try decide) (by rw [h8]; try rfl) rfl ?_
    refine s_aload_n 0 dX11_about_101 rfl rfl ?_
    refine s_getI dX11_about_102 rfl fl_11_464 (S_102 hK) ?_
    exact s_iret dX11_about_105 rfl (fun f h => h)
  refine sm_ite (fun h9 => ?_) (fun h9 => ?_)
  · skip
    refine s_tin (tgt := 106) dX11_about_5 (by rw [h9]; try decide) (by rw [h9]; try decide) (by rw [h9]; try rfl) rfl ?_
    refine s_aload_n 0 dX11_about_106 rfl rfl ?_
    refine s_getR 138 dX11_about_107 rfl fl_11_124 rfl (S_102 hK) (R_102_67 hK) ?_
    refine s_bipush (v := 62) dX11_about_110 rfl cB_62 ?_
    refine s_iald dX11_about_112 rfl (S_138 hK) (by unfold vp_in; decide) ?_
    exact s_iret dX11_about_113 rfl (fun f h => h)
  refine sm_ite (fun h10 => ?_) (fun h10 => ?_)
  · skip
    refine s_tin (tgt := 114) dX11_about_5 (by rw [h10]; try decide) (by rw [h10]; try decide) (by rw [h10]; try rfl) rfl ?_
    refine s_aload_n 0 dX11_about_114 rfl rfl ?_
    refine s_getI dX11_about_115 rfl fl_11_482 (S_102 hK) ?_
    exact s_iret dX11_about_118 rfl (fun f h => h)
  refine sm_ite (fun h11 => ?_) (fun h11 => ?_)
  · skip
    refine s_tin (tgt := 119) dX11_about_5 (by rw [h11]; try decide) (by rw [h11]; try decide) (by rw [h11]; try rfl) rfl ?_
    refine s_aload_n 0 dX11_about_119 rfl rfl ?_
    refine s_getI dX11_about_120 rfl fl_11_485 (S_102 hK) ?_
    exact s_iret dX11_about_123 rfl (fun f h => h)
  refine sm_ite (fun h12 => ?_) (fun h12 => ?_)
  · skip
    refine s_tin (tgt := 124) dX11_about_5 (by rw [h12]; try decide) (by rw [h12]; try decide) (by rw [h12]; try rfl) rfl ?_
    refine s_aload_n 0 dX11_about_124 rfl rfl ?_
    refine s_getI dX11_about_125 rfl fl_11_488 (S_102 hK) ?_
    exact s_iret dX11_about_128 rfl (fun f h => h)
  refine sm_ite (fun h13 => ?_) (fun h13 => ?_)
  · skip
    refine s_tin (tgt := 129) dX11_about_5 (by rw [h13]; try decide) (by rw [h13]; try decide) (by rw [h13]; try rfl) rfl ?_
    refine s_aload_n 0 dX11_about_129 rfl rfl ?_
    refine s_getI dX11_about_130 rfl fl_11_650 (S_102 hK) ?_
    exact s_iret dX11_about_133 rfl (fun f h => h)
  refine sm_ite (fun h14 => ?_) (fun h14 => ?_)
  · skip
    refine s_tin (tgt := 134) dX11_about_5 (by rw [h14]; try decide) (by rw [h14]; try decide) (by rw [h14]; try rfl) rfl ?_
    refine s_aload_n 0 dX11_about_134 rfl rfl ?_
    refine s_getI dX11_about_135 rfl fl_11_184 (S_102 hK) ?_
    exact s_iret dX11_about_138 rfl (fun f h => h)
  refine sm_ite (fun h15 => ?_) (fun h15 => ?_)
  · skip
    refine s_tin (tgt := 139) dX11_about_5 (by rw [h15]; try decide) (by rw [h15]; try decide) (by rw [h15]; try rfl) rfl ?_
    refine s_aload_n 0 dX11_about_139 rfl rfl ?_
    refine s_getI dX11_about_140 rfl fl_11_473 (S_102 hK) ?_
    exact s_iret dX11_about_143 rfl (fun f h => h)
  refine sm_ite (fun h16 => ?_) (fun h16 => ?_)
  · skip
    refine s_tin (tgt := 144) dX11_about_5 (by rw [h16]; try decide) (by rw [h16]; try decide) (by rw [h16]; try rfl) rfl ?_
    refine s_aload_n 0 dX11_about_144 rfl rfl ?_
    refine s_getI dX11_about_145 rfl fl_11_491 (S_102 hK) ?_
    exact s_iret dX11_about_148 rfl (fun f h => h)
  have hsw : ¬ (p1).toInt = 0 ∧ ¬ (p1).toInt = 1 ∧ ¬ (p1).toInt = 2 ∧ ¬ (p1).toInt = 3 ∧ ¬ (p1).toInt = 4 ∧ ¬ (p1).toInt = 5 ∧ ¬ (p1).toInt = 6 ∧ ¬ (p1).toInt = 7 ∧ ¬ (p1).toInt = 8 ∧ ¬ (p1).toInt = 9 ∧ ¬ (p1).toInt = 10 ∧ ¬ (p1).toInt = 11 ∧ ¬ (p1).toInt = 12 ∧ ¬ (p1).toInt = 13 := ⟨lv_neT h2 (a := 0) rfl, lv_neT h3 (a := 1) rfl, lv_neT h4 (a := 2) rfl, lv_neT h5 (a := 3) rfl, lv_neT h7 (a := 4) rfl, lv_neT h8 (a := 5) rfl, lv_neT h9 (a := 6) rfl, lv_neT h10 (a := 7) rfl, lv_neT h11 (a := 8) rfl, lv_neT h12 (a := 9) rfl, lv_neT h13 (a := 10) rfl, lv_neT h14 (a := 11) rfl, lv_neT h15 (a := 12) rfl, lv_neT h16 (a := 13) rfl⟩
  refine s_tout (tgt := 149) dX11_about_5 (by omega) rfl ?_
  refine s_iconst (v := (-1)) dX11_about_149 rfl cI_m1 ?_
  exact s_iret dX11_about_150 rfl (fun f h => h)
