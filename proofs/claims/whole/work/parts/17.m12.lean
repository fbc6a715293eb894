noncomputable def x11_common_L4s (rec : Int32 → Int32 → Option (Int32)) (w2 : Int32) (w3 : Int32) : Option (Int32) :=
if 0 < w3 then (
ck (¬ w3 = 0) <|
lt (rm w2 w3) fun v4 =>
lt w3 fun v5 =>
lt v4 fun v6 =>
rec v5 v6) else
some w2
noncomputable def x11_common_L4 : Nat → Int32 → Int32 → Option (Int32)
  | 0 => fun _ _ => none
  | n + 1 => x11_common_L4s (x11_common_L4 n)
noncomputable def x11_common (p0 : Int32) (p1 : Int32) (I : MI) : Option (Int32) :=
lt p0 fun v1 =>
lt p1 fun v2 =>
b1 (x11_common_L4 FU v1 v2) fun e7 =>
some e7
theorem x11_common_L4_ok {X : WX} {n0 s0 : Nat} {I : MI} {L : ML} {R : MR} {S : MS} (hK : okm R S) : ∀ (n : Nat) (w2 : Int32) (w3 : Int32), Sim X yX11_common cX11_common 5 (some .int) 0 0 n0 s0 4 [(2, .int w2), (3, .int w3)] [] (I, L, R, S) (x11_common_L4 n w2 w3) (fun b f => Ex X yX11_common cX11_common 5 (some .int) 0 0 n0 s0 21 [(2, .int b)] [] (I, L, R, S) f) := by
  intro n
  induction n with
  | zero =>
    intro w2 w3
    exact sm_none
  | succ n ih =>
    intro w2 w3
    change Sim _ _ _ _ _ _ _ _ _ _ _ _ _ (x11_common_L4s (x11_common_L4 n) w2 w3) _
    unfold x11_common_L4s
    refine s_iload_n 1 dX11_common_4 rfl rfl ?_
    refine s_if_le (tgt := 21) dX11_common_5 rfl rfl (fun _ => ?_) (fun _ => ?_)
    · skip
      refine s_pick [0] rfl ?_
      exact sm_exit (fun f h => h)
    · skip
      refine s_iload_n 0 dX11_common_8 rfl rfl ?_
      refine s_iload_n 1 dX11_common_9 rfl rfl ?_
      refine sm_ck (fun g3 => ?_)
      refine s_irem dX11_common_10 rfl g3 ?_
      refine s_istoreL (fun v4 => [(4, .int v4), (2, .int w2), (3, .int w3)]) dX11_common_11 rfl (by decide) (fun _ => rfl) (fun v4 => ?_)
      refine s_iload_n 2 dX11_common_13 rfl rfl ?_
      refine s_istore_nL (fun v5 => [(2, .int v5), (4, .int v4), (3, .int w3)]) dX11_common_14 rfl (by decide) (fun _ => rfl) (fun v5 => ?_)
      refine s_iload 1 dX11_common_15 rfl rfl ?_
      refine s_istore_nL (fun v6 => [(3, .int v6), (2, .int v5), (4, .int v4)]) dX11_common_17 rfl (by decide) (fun _ => rfl) (fun v6 => ?_)
      refine s_goto (tgt := 4) dX11_common_18 rfl ?_
      refine s_pick [1, 0] rfl ?_
      exact ih v5 v6
theorem ct_x11_common {X : WX} {p0 : Int32} {p1 : Int32} {I : MI} {L : ML} {R : MR} {S : MS} (hK : okm R S) : Ct X yX11_common cX11_common 5 (some .int) 0 0 [.int p0, .int p1] (I, L, R, S) (x11_common p0 p1 I) (fun r => (some (.int r), (I, L, R, S))) := by
  refine Ct.of (by decide) (Nat.le_of_ble_eq_true rfl) [(0, .int p0), (1, .int p1)] rfl ?_
  unfold x11_common
  refine s_iload_n 0 dX11_common_0 rfl rfl ?_
  refine s_istore_nL (fun v1 => [(2, .int v1), (0, .int p0), (1, .int p1)]) dX11_common_1 rfl (by decide) (fun _ => rfl) (fun v1 => ?_)
  refine s_iload_n 2 dX11_common_2 rfl rfl ?_
  refine s_istore_nL (fun v2 => [(3, .int v2), (2, .int v1), (0, .int p0), (1, .int p1)]) dX11_common_3 rfl (by decide) (fun _ => rfl) (fun v2 => ?_)
  refine s_pick [1, 0] rfl ?_
  refine sm_reg (x11_common_L4_ok hK FU v1 v2) (fun e7 => ?_)
  refine s_iload_n 0 dX11_common_21 rfl rfl ?_
  exact s_iret dX11_common_22 rfl (fun f h => h)
noncomputable def x11_coin_L28s (I : MI) (rec : Int32 → Int32 → Option (Int32)) (w3 : Int32) (w4 : Int32) : Option (Int32) :=
if w4 < (I 102 60) then (
b1 (x11_isAfloat w4 I) fun r6 =>
if r6 = 0 then (
lt (w3 + 0) fun v7 =>
lt (w4 + 1) fun v8 =>
rec v7 v8) else
ck (vp_in w4 10) <|
lt (w3 + (I 129 (ix w4))) fun v10 =>
lt (w4 + 1) fun v11 =>
rec v10 v11) else
some w3
noncomputable def x11_coin_L28 (I : MI) : Nat → Int32 → Int32 → Option (Int32)
  | 0 => fun _ _ => none
  | n + 1 => x11_coin_L28s I (x11_coin_L28 I n)
noncomputable def x11_coin (p1 : Int32) (p2 : Int32) (I : MI) : Option (Int32 × MI) :=
b1 (x11_isApple p1 I) fun r1 =>
if r1 = 0 then (
some ((-1 : Int32), I)) else
b1 (x11_isIn p2 (0 : Int32) (1 : Int32) I) fun r2 =>
if r2 = 0 then (
some ((-1 : Int32), I)) else
b1 (x11_load I) fun I3 =>
lt (0 : Int32) fun v4 =>
lt (0 : Int32) fun v5 =>
b1 (x11_coin_L28 I3 FU v4 v5) fun e12 =>
b1 (x11_isAfloat p1 I3) fun r13 =>
if r13 = 0 then (
some (p2, I3)) else
if e12 = 0 then (
some (p2, I3)) else
ck (vp_in p1 10) <|
b1 (x11_common (I3 129 (ix p1)) e12 I3) fun r15 =>
lt r15 fun v16 =>
if p2 = 0 then (
ck (vp_in p1 10) <|
ck (¬ v16 = 0) <|
some (((I3 129 (ix p1)) / v16), I3)) else
ck (¬ v16 = 0) <|
some ((e12 / v16), I3)
theorem x11_coin_L28_ok {X : WX} {n0 s0 : Nat} {c1 : Int32} {c2 : Int32} {I : MI} {L : ML} {R : MR} {S : MS} (hK : okm R S) : ∀ (n : Nat) (w3 : Int32) (w4 : Int32), Sim X yX11_coin cX11_coin 5 (some .int) 2 43 n0 s0 28 [(0, .ref (X.1 + 102)), (1, .int c1), (2, .int c2), (3, .int w3), (4, .int w4)] [] (I, L, R, S) (x11_coin_L28 I n w3 w4) (fun b f => Ex X yX11_coin cX11_coin 5 (some .int) 2 43 n0 s0 66 [(0, .ref (X.1 + 102)), (1, .int c1), (2, .int c2), (3, .int b)] [] (I, L, R, S) f) := by
  intro n
  induction n with
  | zero =>
    intro w3 w4
    exact sm_none
  | succ n ih =>
    intro w3 w4
    change Sim _ _ _ _ _ _ _ _ _ _ _ _ _ (x11_coin_L28s I (x11_coin_L28 I n) w3 w4) _
    unfold x11_coin_L28s
    refine s_iload 4 dX11_coin_28 rfl rfl ?_
    refine s_aload_n 0 dX11_coin_30 rfl rfl ?_
    refine s_getI dX11_coin_31 rfl fl_11_467 (S_102 hK) ?_
    refine s_icmp_ge (tgt := 66) dX11_coin_34 rfl rfl (fun _ => ?_) (fun _ => ?_)
    · skip
      refine s_pick [0, 1, 2, 3] rfl ?_
      exact sm_exit (fun f h => h)
    · skip
      refine s_iload_n 3 dX11_coin_37 rfl rfl ?_
      refine s_aload_n 0 dX11_coin_38 rfl rfl ?_
      refine s_iload 4 dX11_coin_39 rfl rfl ?_
      refine s_callV1_i0 dX11_coin_41 rfl lkV_RX11_501 (S_102 hK) (Nat.le_of_ble_eq_true rfl) (Nat.le_of_ble_eq_true rfl) (Nat.le_of_ble_eq_true rfl) (ct_x11_isAfloat hK) (fun r6 => ?_)
      refine s_if_eq (tgt := 57) dX11_coin_44 rfl rfl (fun _ => ?_) (fun _ => ?_)
      · skip
        refine s_iconst (v := 0) dX11_coin_57 rfl cI_0 ?_
        refine s_iadd dX11_coin_58 rfl ?_
        refine s_istore_nL (fun v7 => [(3, .int v7), (0, .ref (X.1 + 102)), (1, .int c1), (2, .int c2), (4, .int w4)]) dX11_coin_59 rfl (by decide) (fun _ => rfl) (fun v7 => ?_)
        refine s_iincL 4 (c := 1) (fun v8 => [(4, .int v8), (3, .int v7), (0, .ref (X.1 + 102)), (1, .int c1), (2, .int c2)]) dX11_coin_60 rfl rfl cI_1 (by decide) (fun _ => rfl) (fun v8 => ?_)
        refine s_goto (tgt := 28) dX11_coin_63 rfl ?_
        refine s_pick [2, 3, 4, 1, 0] rfl ?_
        exact ih v7 v8
      · skip
        refine s_aload_n 0 dX11_coin_47 rfl rfl ?_
        refine s_getR 129 dX11_coin_48 rfl fl_11_94 rfl (S_102 hK) (R_102_41 hK) ?_
        refine s_iload 4 dX11_coin_51 rfl rfl ?_
        refine sm_ck (fun g9 => ?_)
        refine s_iald dX11_coin_53 rfl (S_129 hK) g9 ?_
        refine s_goto (tgt := 58) dX11_coin_54 rfl ?_
        refine s_iadd dX11_coin_58 rfl ?_
        refine s_istore_nL (fun v10 => [(3, .int v10), (0, .ref (X.1 + 102)), (1, .int c1), (2, .int c2), (4, .int w4)]) dX11_coin_59 rfl (by decide) (fun _ => rfl) (fun v10 => ?_)
        refine s_iincL 4 (c := 1) (fun v11 => [(4, .int v11), (3, .int v10), (0, .ref (X.1 + 102)), (1, .int c1), (2, .int c2)]) dX11_coin_60 rfl rfl cI_1 (by decide) (fun _ => rfl) (fun v11 => ?_)
        refine s_goto (tgt := 28) dX11_coin_63 rfl ?_
        refine s_pick [2, 3, 4, 1, 0] rfl ?_
        exact ih v10 v11
theorem ct_x11_coin {X : WX} {p1 : Int32} {p2 : Int32} {I : MI} {L : ML} {R : MR} {S : MS} (hK : okm R S) : Ct X yX11_coin cX11_coin 5 (some .int) 2 43 [.ref (X.1 + 102), .int p1, .int p2] (I, L, R, S) (x11_coin p1 p2 I) (fun r => (some (.int r.1), (r.2, L, R, S))) := by
  refine Ct.of (by decide) (Nat.le_of_ble_eq_true rfl) [(0, .ref (X.1 + 102)), (1, .int p1), (2, .int p2)] rfl ?_
  unfold x11_coin
  refine s_aload_n 0 dX11_coin_0 rfl rfl ?_
  refine s_iload_n 1 dX11_coin_1 rfl rfl ?_
  refine s_callV1_i0 dX11_coin_2 rfl lkV_RX11_560 (S_102 hK) (Nat.le_of_ble_eq_true rfl) (Nat.le_of_ble_eq_true rfl) (Nat.le_of_ble_eq_true rfl) (ct_x11_isApple hK) (fun r1 => ?_)
  refine s_if_eq (tgt := 17) dX11_coin_5 rfl rfl (fun _ => ?_) (fun _ => ?_)
  · skip
    refine s_iconst (v := (-1)) dX11_coin_17 rfl cI_m1 ?_
    exact s_iret dX11_coin_18 rfl (fun f h => h)
  · skip
    refine s_iload_n 2 dX11_coin_8 rfl rfl ?_
    refine s_iconst (v := 0) dX11_coin_9 rfl cI_0 ?_
    refine s_iconst (v := 1) dX11_coin_10 rfl cI_1 ?_
    refine s_callS3_i0 dX11_coin_11 rfl lkS_RX11_494 (Nat.le_of_ble_eq_true rfl) (Nat.le_of_ble_eq_true rfl) (Nat.le_of_ble_eq_true rfl) (ct_x11_isIn hK) (fun r2 => ?_)
    refine s_if_ne (tgt := 19) dX11_coin_14 rfl rfl (fun _ => ?_) (fun _ => ?_)
    · skip
      refine s_aload_n 0 dX11_coin_19 rfl rfl ?_
      refine s_callV0_v1 dX11_coin_20 rfl lkV_RX11_566 (S_102 hK) (Nat.le_of_ble_eq_true rfl) (Nat.le_of_ble_eq_true rfl) (Nat.le_of_ble_eq_true rfl) (ct_x11_load hK) (fun I3 => ?_)
      refine s_iconst (v := 0) dX11_coin_23 rfl cI_0 ?_
      refine s_istore_nL (fun v4 => [(3, .int v4), (0, .ref (X.1 + 102)), (1, .int p1), (2, .int p2)]) dX11_coin_24 rfl (by decide) (fun _ => rfl) (fun v4 => ?_)
      refine s_iconst (v := 0) dX11_coin_25 rfl cI_0 ?_
      refine s_istoreL (fun v5 => [(4, .int v5), (3, .int v4), (0, .ref (X.1 + 102)), (1, .int p1), (2, .int p2)]) dX11_coin_26 rfl (by decide) (fun _ => rfl) (fun v5 => ?_)
      refine s_pick [2, 3, 4, 1, 0] rfl ?_
      refine sm_reg (x11_coin_L28_ok hK FU v4 v5) (fun e12 => ?_)
      refine s_aload_n 0 dX11_coin_66 rfl rfl ?_
      refine s_iload_n 1 dX11_coin_67 rfl rfl ?_
      refine s_callV1_i0 dX11_coin_68 rfl lkV_RX11_501 (S_102 hK) (Nat.le_of_ble_eq_true rfl) (Nat.le_of_ble_eq_true rfl) (Nat.le_of_ble_eq_true rfl) (ct_x11_isAfloat hK) (fun r13 => ?_)
      refine s_if_eq (tgt := 78) dX11_coin_71 rfl rfl (fun _ => ?_) (fun _ => ?_)
      · skip
        refine s_iload_n 2 dX11_coin_78 rfl rfl ?_
        exact s_iret dX11_coin_79 rfl (fun f h => h)
      · skip
        refine s_iload_n 3 dX11_coin_74 rfl rfl ?_
        refine s_if_ne (tgt := 80) dX11_coin_75 rfl rfl (fun _ => ?_) (fun _ => ?_)
        · skip
          refine s_aload_n 0 dX11_coin_80 rfl rfl ?_
          refine s_getR 129 dX11_coin_81 rfl fl_11_94 rfl (S_102 hK) (R_102_41 hK) ?_
          refine s_iload_n 1 dX11_coin_84 rfl rfl ?_
          refine sm_ck (fun g14 => ?_)
          refine s_iald dX11_coin_85 rfl (S_129 hK) g14 ?_
          refine s_iload_n 3 dX11_coin_86 rfl rfl ?_
          refine s_callS2_i0 dX11_coin_87 rfl lkS_RX11_647 (Nat.le_of_ble_eq_true rfl) (Nat.le_of_ble_eq_true rfl) (Nat.le_of_ble_eq_true rfl) (ct_x11_common hK) (fun r15 => ?_)
          refine s_istoreL (fun v16 => [(4, .int v16), (0, .ref (X.1 + 102)), (1, .int p1), (2, .int p2), (3, .int e12)]) dX11_coin_90 rfl (by decide) (fun _ => rfl) (fun v16 => ?_)
          refine s_iload_n 3 dX11_coin_92 rfl rfl ?_
          refine s_if_ne (tgt := 108) dX11_coin_93 rfl rfl (fun _ => ?_) (fun _ => ?_)
          · skip
            refine s_iload_n 4 dX11_coin_108 rfl rfl ?_
            refine s_iload 0 dX11_coin_109 rfl rfl ?_
            refine sm_ck (fun g17 => ?_)
            refine s_idiv dX11_coin_111 rfl g17 ?_
            exact s_iret dX11_coin_112 rfl (fun f h => h)
          · skip
            refine s_aload_n 1 dX11_coin_96 rfl rfl ?_
            refine s_getR 129 dX11_coin_97 rfl fl_11_94 rfl (S_102 hK) (R_102_41 hK) ?_
            refine s_iload_n 2 dX11_coin_100 rfl rfl ?_
            refine sm_ck (fun g18 => ?_)
            refine s_iald dX11_coin_101 rfl (S_129 hK) g18 ?_
            refine s_iload 0 dX11_coin_102 rfl rfl ?_
            refine sm_ck (fun g19 => ?_)
            refine s_idiv dX11_coin_104 rfl g19 ?_
            refine s_goto (tgt := 112) dX11_coin_105 rfl ?_
            exact s_iret dX11_coin_112 rfl (fun f h => h)
        · skip
          refine s_iload_n 2 dX11_coin_78 rfl rfl ?_
          exact s_iret dX11_coin_79 rfl (fun f h => h)
    · skip
      refine s_iconst (v := (-1)) dX11_coin_17 rfl cI_m1 ?_
      exact s_iret dX11_coin_18 rfl (fun f h => h)
noncomputable def x11_lies (p1 : Int32) (I : MI) : Option (Int32) :=
b1 (x11_isIn p1 (0 : Int32) ((I 102 85) - 1) I) fun r1 =>
if r1 = 0 then (
some (-1 : Int32)) else
ck (vp_in p1 40) <|
some (I 149 (ix p1))
theorem ct_x11_lies {X : WX} {p1 : Int32} {I : MI} {L : ML} {R : MR} {S : MS} (hK : okm R S) : Ct X yX11_lies cX11_lies 2 (some .int) 1 22 [.ref (X.1 + 102), .int p1] (I, L, R, S) (x11_lies p1 I) (fun r => (some (.int r), (I, L, R, S))) := by
  refine Ct.of (by decide) (Nat.le_of_ble_eq_true rfl) [(0, .ref (X.1 + 102)), (1, .int p1)] rfl ?_
  unfold x11_lies
  refine s_iload_n 1 dX11_lies_0 rfl rfl ?_
  refine s_iconst (v := 0) dX11_lies_1 rfl cI_0 ?_
  refine s_aload_n 0 dX11_lies_2 rfl rfl ?_
  refine s_getI dX11_lies_3 rfl fl_11_491 (S_102 hK) ?_
  refine s_iconst (v := 1) dX11_lies_6 rfl cI_1 ?_
  refine s_isub dX11_lies_7 rfl ?_
  refine s_callS3_i0 dX11_lies_8 rfl lkS_RX11_494 (Nat.le_of_ble_eq_true rfl) (Nat.le_of_ble_eq_true rfl) (Nat.le_of_ble_eq_true rfl) (ct_x11_isIn hK) (fun r1 => ?_)
  refine s_if_eq (tgt := 23) dX11_lies_11 rfl rfl (fun _ => ?_) (fun _ => ?_)
  · skip
    refine s_iconst (v := (-1)) dX11_lies_23 rfl cI_m1 ?_
    exact s_iret dX11_lies_24 rfl (fun f h => h)
  · skip
    refine s_aload_n 0 dX11_lies_14 rfl rfl ?_
    refine s_getR 149 dX11_lies_15 rfl fl_11_157 rfl (S_102 hK) (R_102_83 hK) ?_
    refine s_iload_n 1 dX11_lies_18 rfl rfl ?_
    refine sm_ck (fun g2 => ?_)
    refine s_iald dX11_lies_19 rfl (S_149 hK) g2 ?_
    refine s_goto (tgt := 24) dX11_lies_20 rfl ?_
    exact s_iret dX11_lies_24 rfl (fun f h => h)
noncomputable def x11_pick (p1 : Int32) (p2 : Int32) (p3 : Int32) (I : MI) : Option (Int32 × MI) :=
b1 (x11_isBobber p1 I) fun r1 =>
if r1 = 0 then (
some ((-1 : Int32), I)) else
b1 (x11_isIn p2 (1 : Int32) (((1 : Int32) <<< ((I 102 60) &&& 31)) - 1) I) fun r2 =>
if r2 = 0 then (
some ((-1 : Int32), I)) else
b1 (x11_isApple p3 I) fun r3 =>
if r3 = 0 then (
some ((-1 : Int32), I)) else
if ((p2 >>> (p3 &&& 31)) &&& 1) = 0 then (
some ((-1 : Int32), I)) else
if (I 102 91) = 30 then (
some ((-1 : Int32), I)) else
ck (vp_in (I 102 91) 30) <|
lt (wI I 151 (ix (I 102 91)) p1) fun I4 =>
ck (vp_in (I4 102 91) 30) <|
lt (wI I4 152 (ix (I4 102 91)) p2) fun I6 =>
ck (vp_in (I6 102 91) 30) <|
lt (wI I6 153 (ix (I6 102 91)) p3) fun I8 =>
ck (vp_in (I8 102 91) 30) <|
lt (wI I8 154 (ix (I8 102 91)) (I8 102 92)) fun I10 =>
ck (vp_in (I10 102 91) 30) <|
lt (wI I10 155 (ix (I10 102 91)) (-1 : Int32)) fun I12 =>
lt (wI I12 102 91 ((I12 102 91) + 1)) fun I14 =>
some (((I14 102 91) - 1), I14)
theorem ct_x11_pick {X : WX} {p1 : Int32} {p2 : Int32} {p3 : Int32} {I : MI} {L : ML} {R : MR} {S : MS} (hK : okm R S) : Ct X yX11_pick cX11_pick 4 (some .int) 2 43 [.ref (X.1 + 102), .int p1, .int p2, .int p3] (I, L, R, S) (x11_pick p1 p2 p3 I) (fun r => (some (.int r.1), (r.2, L, R, S))) := by
  refine Ct.of (by decide) (Nat.le_of_ble_eq_true rfl) [(0, .ref (X.1 + 102)), (1, .int p1), (2, .int p2), (3, .int p3)] rfl ?_
  unfold x11_pick
  refine s_aload_n 0 dX11_pick_0 rfl rfl ?_
  refine s_iload_n 1 dX11_pick_1 rfl rfl ?_
  refine s_callV1_i0 dX11_pick_2 rfl lkV_RX11_563 (S_102 hK) (Nat.le_of_ble_eq_true rfl) (Nat.le_of_ble_eq_true rfl) (Nat.le_of_ble_eq_true rfl) (ct_x11_isBobber hK) (fun r1 => ?_)
  refine s_if_eq (tgt := 49) dX11_pick_5 rfl rfl (fun _ => ?_) (fun _ => ?_)
  · skip
    refine s_iconst (v := (-1)) dX11_pick_49 rfl cI_m1 ?_
    exact s_iret dX11_pick_50 rfl (fun f h => h)
  · skip
    refine s_iload_n 2 dX11_pick_8 rfl rfl ?_
    refine s_iconst (v := 1) dX11_pick_9 rfl cI_1 ?_
    refine s_iconst (v := 1) dX11_pick_10 rfl cI_1 ?_
    refine s_aload_n 0 dX11_pick_11 rfl rfl ?_
    refine s_getI dX11_pick_12 rfl fl_11_467 (S_102 hK) ?_
    refine s_ishl dX11_pick_15 rfl ?_
    refine s_iconst (v := 1) dX11_pick_16 rfl cI_1 ?_
    refine s_isub dX11_pick_17 rfl ?_
    refine s_callS3_i0 dX11_pick_18 rfl lkS_RX11_494 (Nat.le_of_ble_eq_true rfl) (Nat.le_of_ble_eq_true rfl) (Nat.le_of_ble_eq_true rfl) (ct_x11_isIn hK) (fun r2 => ?_)
    refine s_if_eq (tgt := 49) dX11_pick_21 rfl rfl (fun _ => ?_) (fun _ => ?_)
    · skip
      refine s_iconst (v := (-1)) dX11_pick_49 rfl cI_m1 ?_
      exact s_iret dX11_pick_50 rfl (fun f h => h)
    · skip
      refine s_aload_n 0 dX11_pick_24 rfl rfl ?_
      refine s_iload_n 3 dX11_pick_25 rfl rfl ?_
      refine s_callV1_i0 dX11_pick_26 rfl lkV_RX11_560 (S_102 hK) (Nat.le_of_ble_eq_true rfl) (Nat.le_of_ble_eq_true rfl) (Nat.le_of_ble_eq_true rfl) (ct_x11_isApple hK) (fun r3 => ?_)
      refine s_if_eq (tgt := 49) dX11_pick_29 rfl rfl (fun _ => ?_) (fun _ => ?_)
      · skip
        refine s_iconst (v := (-1)) dX11_pick_49 rfl cI_m1 ?_
        exact s_iret dX11_pick_50 rfl (fun f h => h)
      · skip
        refine s_iload_n 2 dX11_pick_32 rfl rfl ?_
        refine s_iload_n 3 dX11_pick_33 rfl rfl ?_
        refine s_ishr dX11_pick_34 rfl ?_
        refine s_iconst (v := 1) dX11_pick_35 rfl cI_1 ?_
        refine s_iand dX11_pick_36 rfl ?_
        refine s_if_eq (tgt := 49) dX11_pick_37 rfl rfl (fun _ => ?_) (fun _ => ?_)
        · skip
          refine s_iconst (v := (-1)) dX11_pick_49 rfl cI_m1 ?_
          exact s_iret dX11_pick_50 rfl (fun f h => h)
        · skip
          refine s_aload_n 0 dX11_pick_40 rfl rfl ?_
          refine s_getI dX11_pick_41 rfl fl_11_488 (S_102 hK) ?_
          refine s_bipush (v := 30) dX11_pick_44 rfl cB_30 ?_
          refine s_icmp_ne (tgt := 51) dX11_pick_46 rfl rfl (fun _ => ?_) (fun _ => ?_)
          · skip
            refine s_aload_n 0 dX11_pick_51 rfl rfl ?_
            refine s_getR 151 dX11_pick_52 rfl fl_11_163 rfl (S_102 hK) (R_102_86 hK) ?_
            refine s_aload_n 0 dX11_pick_55 rfl rfl ?_
            refine s_getI dX11_pick_56 rfl fl_11_488 (S_102 hK) ?_
            refine s_iload_n 1 dX11_pick_59 rfl rfl ?_
            refine sm_ck (fun g5 => ?_)
            refine s_iastL dX11_pick_60 rfl (S_151 hK) g5 (fun I4 => ?_)
            refine s_aload_n 0 dX11_pick_61 rfl rfl ?_
            refine s_getR 152 dX11_pick_62 rfl fl_11_166 rfl (S_102 hK) (R_102_87 hK) ?_
            refine s_aload_n 0 dX11_pick_65 rfl rfl ?_
            refine s_getI dX11_pick_66 rfl fl_11_488 (S_102 hK) ?_
            refine s_iload_n 2 dX11_pick_69 rfl rfl ?_
            refine sm_ck (fun g7 => ?_)
            refine s_iastL dX11_pick_70 rfl (S_152 hK) g7 (fun I6 => ?_)
            refine s_aload_n 0 dX11_pick_71 rfl rfl ?_
            refine s_getR 153 dX11_pick_72 rfl fl_11_169 rfl (S_102 hK) (R_102_88 hK) ?_
            refine s_aload_n 0 dX11_pick_75 rfl rfl ?_
            refine s_getI dX11_pick_76 rfl fl_11_488 (S_102 hK) ?_
            refine s_iload_n 3 dX11_pick_79 rfl rfl ?_
            refine sm_ck (fun g9 => ?_)
            refine s_iastL dX11_pick_80 rfl (S_153 hK) g9 (fun I8 => ?_)
            refine s_aload_n 0 dX11_pick_81 rfl rfl ?_
            refine s_getR 154 dX11_pick_82 rfl fl_11_172 rfl (S_102 hK) (R_102_89 hK) ?_
            refine s_aload_n 0 dX11_pick_85 rfl rfl ?_
            refine s_getI dX11_pick_86 rfl fl_11_488 (S_102 hK) ?_
            refine s_aload_n 0 dX11_pick_89 rfl rfl ?_
            refine s_getI dX11_pick_90 rfl fl_11_650 (S_102 hK) ?_
            refine sm_ck (fun g11 => ?_)
            refine s_iastL dX11_pick_93 rfl (S_154 hK) g11 (fun I10 => ?_)
            refine s_aload_n 0 dX11_pick_94 rfl rfl ?_
            refine s_getR 155 dX11_pick_95 rfl fl_11_175 rfl (S_102 hK) (R_102_90 hK) ?_
            refine s_aload_n 0 dX11_pick_98 rfl rfl ?_
            refine s_getI dX11_pick_99 rfl fl_11_488 (S_102 hK) ?_
            refine s_iconst (v := (-1)) dX11_pick_102 rfl cI_m1 ?_
            refine sm_ck (fun g13 => ?_)
            refine s_iastL dX11_pick_103 rfl (S_155 hK) g13 (fun I12 => ?_)
            refine s_aload_n 0 dX11_pick_104 rfl rfl ?_
            refine s_dup dX11_pick_105 rfl rfl ?_
            refine s_getI dX11_pick_106 rfl fl_11_488 (S_102 hK) ?_
            refine s_iconst (v := 1) dX11_pick_109 rfl cI_1 ?_
            refine s_iadd dX11_pick_110 rfl ?_
            refine s_putIL dX11_pick_111 rfl fl_11_488 (S_102 hK) (fun I14 => ?_)
            refine s_aload_n 0 dX11_pick_114 rfl rfl ?_
            refine s_getI dX11_pick_115 rfl fl_11_488 (S_102 hK) ?_
            refine s_iconst (v := 1) dX11_pick_118 rfl cI_1 ?_
            refine s_isub dX11_pick_119 rfl ?_
            exact s_iret dX11_pick_120 rfl (fun f h => h)
          · skip
            refine s_iconst (v := (-1)) dX11_pick_49 rfl cI_m1 ?_
            exact s_iret dX11_pick_50 rfl (fun f h => h)
noncomputable def x11_untell (p1 : Int32) (I : MI) : Option (Int32 × MI) :=
b1 (x11_isIn p1 (0 : Int32) ((I 102 91) - 1) I) fun r1 =>
if r1 = 0 then (
some ((0 : Int32), I)) else
ck (vp_in p1 30) <|
if (I 155 (ix p1)) < 0 then (
ck (vp_in p1 30) <|
lt (wI I 155 (ix p1) (I 102 92)) fun I3 =>
some ((1 : Int32), I3)) else
some ((0 : Int32), I)
theorem ct_x11_untell {X : WX} {p1 : Int32} {I : MI} {L : ML} {R : MR} {S : MS} (hK : okm R S) : Ct X yX11_untell cX11_untell 2 (some .boolean) 1 22 [.ref (X.1 + 102), .int p1] (I, L, R, S) (x11_untell p1 I) (fun r => (some (.int r.1), (r.2, L, R, S))) := by
  refine Ct.of (by decide) (Nat.le_of_ble_eq_true rfl) [(0, .ref (X.1 + 102)), (1, .int p1)] rfl ?_
  unfold x11_untell
  refine s_iload_n 1 dX11_untell_0 rfl rfl ?_
  refine s_iconst (v := 0) dX11_untell_1 rfl cI_0 ?_
  refine s_aload_n 0 dX11_untell_2 rfl rfl ?_
  refine s_getI dX11_untell_3 rfl fl_11_488 (S_102 hK) ?_
  refine s_iconst (v := 1) dX11_untell_6 rfl cI_1 ?_
  refine s_isub dX11_untell_7 rfl ?_
  refine s_callS3_i0 dX11_untell_8 rfl lkS_RX11_494 (Nat.le_of_ble_eq_true rfl) (Nat.le_of_ble_eq_true rfl) (Nat.le_of_ble_eq_true rfl) (ct_x11_isIn hK) (fun r1 => ?_)
  refine s_if_eq (tgt := 23) dX11_untell_11 rfl rfl (fun _ => ?_) (fun _ => ?_)
  · skip
    refine s_iconst (v := 0) dX11_untell_23 rfl cI_0 ?_
    exact s_zret dX11_untell_24 rfl (Or.inl rfl) (fun f h => h)
  · skip
    refine s_aload_n 0 dX11_untell_14 rfl rfl ?_
    refine s_getR 155 dX11_untell_15 rfl fl_11_175 rfl (S_102 hK) (R_102_90 hK) ?_
    refine s_iload_n 1 dX11_untell_18 rfl rfl ?_
    refine sm_ck (fun g2 => ?_)
    refine s_iald dX11_untell_19 rfl (S_155 hK) g2 ?_
    refine s_if_lt (tgt := 25) dX11_untell_20 rfl rfl (fun _ => ?_) (fun _ => ?_)
    · skip
      refine s_aload_n 0 dX11_untell_25 rfl rfl ?_
      refine s_getR 155 dX11_untell_26 rfl fl_11_175 rfl (S_102 hK) (R_102_90 hK) ?_
      refine s_iload_n 1 dX11_untell_29 rfl rfl ?_
      refine s_aload_n 0 dX11_untell_30 rfl rfl ?_
      refine s_getI dX11_untell_31 rfl fl_11_650 (S_102 hK) ?_
      refine sm_ck (fun g4 => ?_)
      refine s_iastL dX11_untell_34 rfl (S_155 hK) g4 (fun I3 => ?_)
      refine s_iconst (v := 1) dX11_untell_35 rfl cI_1 ?_
      exact s_zret dX11_untell_36 rfl (Or.inr rfl) (fun f h => h)
    · skip
      refine s_iconst (v := 0) dX11_untell_23 rfl cI_0 ?_
      exact s_zret dX11_untell_24 rfl (Or.inl rfl) (fun f h => h)
noncomputable def x11_later (p1 : Int32) (I : MI) : Option (Int32 × MI) :=
if p1 < 0 then (
some ((-1 : Int32), I)) else
if 1000 < p1 then (
some ((-1 : Int32), I)) else
if 100000 < ((I 102 92) + p1) then (
some ((-1 : Int32), I)) else
lt (wI I 102 92 ((I 102 92) + p1)) fun I1 =>
some ((I1 102 92), I1)
theorem ct_x11_later {X : WX} {p1 : Int32} {I : MI} {L : ML} {R : MR} {S : MS} (hK : okm R S) : Ct X yX11_later cX11_later 2 (some .int) 0 0 [.ref (X.1 + 102), .int p1] (I, L, R, S) (x11_later p1 I) (fun r => (some (.int r.1), (r.2, L, R, S))) := by
  refine Ct.of (by decide) (Nat.le_of_ble_eq_true rfl) [(0, .ref (X.1 + 102)), (1, .int p1)] rfl ?_
  unfold x11_later
  refine s_iload_n 1 dX11_later_0 rfl rfl ?_
  refine s_if_lt (tgt := 23) dX11_later_1 rfl rfl (fun _ => ?_) (fun _ => ?_)
  · skip
    refine s_iconst (v := (-1)) dX11_later_23 rfl cI_m1 ?_
    exact s_iret dX11_later_24 rfl (fun f h => h)
  · skip
    refine s_iload_n 1 dX11_later_4 rfl rfl ?_
    refine s_sipush (v := 1000) dX11_later_5 rfl cS_1000 ?_
    refine s_icmp_gt (tgt := 23) dX11_later_8 rfl rfl (fun _ => ?_) (fun _ => ?_)
    · skip
      refine s_iconst (v := (-1)) dX11_later_23 rfl cI_m1 ?_
      exact s_iret dX11_later_24 rfl (fun f h => h)
    · skip
      refine s_aload_n 0 dX11_later_11 rfl rfl ?_
      refine s_getI dX11_later_12 rfl fl_11_650 (S_102 hK) ?_
      refine s_iload_n 1 dX11_later_15 rfl rfl ?_
      refine s_iadd dX11_later_16 rfl ?_
      refine s_ldcw (v := 100000) dX11_later_17 rfl (tw_mem 2267 (by decide +kernel) rfl) ?_
      refine s_icmp_le (tgt := 25) dX11_later_20 rfl rfl (fun _ => ?_) (fun _ => ?_)
      · skip
        refine s_aload_n 0 dX11_later_25 rfl rfl ?_
        refine s_dup dX11_later_26 rfl rfl ?_
        refine s_getI dX11_later_27 rfl fl_11_650 (S_102 hK) ?_
        refine s_iload_n 1 dX11_later_30 rfl rfl ?_
        refine s_iadd dX11_later_31 rfl ?_
        refine s_putIL dX11_later_32 rfl fl_11_650 (S_102 hK) (fun I1 => ?_)
        refine s_aload_n 0 dX11_later_35 rfl rfl ?_
        refine s_getI dX11_later_36 rfl fl_11_650 (S_102 hK) ?_
        exact s_iret dX11_later_39 rfl (fun f h => h)
      · skip
        refine s_iconst (v := (-1)) dX11_later_23 rfl cI_m1 ?_
        exact s_iret dX11_later_24 rfl (fun f h => h)
noncomputable def x11_counts (p1 : Int32) (p2 : Int32) (I : MI) : Option (Int32) :=
ck (vp_in p1 30) <|
if p2 < (I 154 (ix p1)) then (
some (0 : Int32)) else
ck (vp_in p1 30) <|
if (I 155 (ix p1)) < 0 then (
some (1 : Int32)) else
ck (vp_in p1 30) <|
if p2 < (I 155 (ix p1)) then (
some (1 : Int32)) else
some (0 : Int32)
theorem ct_x11_counts {X : WX} {p1 : Int32} {p2 : Int32} {I : MI} {L : ML} {R : MR} {S : MS} (hK : okm R S) : Ct X yX11_counts cX11_counts 3 (some .boolean) 0 0 [.ref (X.1 + 102), .int p1, .int p2] (I, L, R, S) (x11_counts p1 p2 I) (fun r => (some (.int r), (I, L, R, S))) := by
  refine Ct.of (by decide) (Nat.le_of_ble_eq_true rfl) [(0, .ref (X.1 + 102)), (1, .int p1), (2, .int p2)] rfl ?_
  unfold x11_counts
  refine s_aload_n 0 dX11_counts_0 rfl rfl ?_
  refine s_getR 154 dX11_counts_1 rfl fl_11_172 rfl (S_102 hK) (R_102_89 hK) ?_
  refine s_iload_n 1 dX11_counts_4 rfl rfl ?_
  refine sm_ck (fun g1 => ?_)
  refine s_iald dX11_counts_5 rfl (S_154 hK) g1 ?_
  refine s_iload_n 2 dX11_counts_6 rfl rfl ?_
  refine s_icmp_gt (tgt := 33) dX11_counts_7 rfl rfl (fun _ => ?_) (fun _ => ?_)
  · skip
    refine s_iconst (v := 0) dX11_counts_33 rfl cI_0 ?_
    exact s_zret dX11_counts_34 rfl (Or.inl rfl) (fun f h => h)
  · skip
    refine s_aload_n 0 dX11_counts_10 rfl rfl ?_
    refine s_getR 155 dX11_counts_11 rfl fl_11_175 rfl (S_102 hK) (R_102_90 hK) ?_
    refine s_iload_n 1 dX11_counts_14 rfl rfl ?_
    refine sm_ck (fun g2 => ?_)
    refine s_iald dX11_counts_15 rfl (S_155 hK) g2 ?_
    refine s_if_lt (tgt := 29) dX11_counts_16 rfl rfl (fun _ => ?_) (fun _ => ?_)
    · skip
      refine s_iconst (v := 1) dX11_counts_29 rfl cI_1 ?_
      refine s_goto (tgt := 34) dX11_counts_30 rfl ?_
      exact s_zret dX11_counts_34 rfl (Or.inr rfl) (fun f h => h)
    · skip
      refine s_aload_n 0 dX11_counts_19 rfl rfl ?_
      refine s_getR 155 dX11_counts_20 rfl fl_11_175 rfl (S_102 hK) (R_102_90 hK) ?_
      refine s_iload_n 1 dX11_counts_23 rfl rfl ?_
      refine sm_ck (fun g3 => ?_)
      refine s_iald dX11_counts_24 rfl (S_155 hK) g3 ?_
      refine s_iload_n 2 dX11_counts_25 rfl rfl ?_
      refine s_icmp_le (tgt := 33) dX11_counts_26 rfl rfl (fun _ => ?_) (fun _ => ?_)
      · skip
        refine s_iconst (v := 0) dX11_counts_33 rfl cI_0 ?_
        exact s_zret dX11_counts_34 rfl (Or.inl rfl) (fun f h => h)
      · skip
        refine s_iconst (v := 1) dX11_counts_29 rfl cI_1 ?_
        refine s_goto (tgt := 34) dX11_counts_30 rfl ?_
        exact s_zret dX11_counts_34 rfl (Or.inr rfl) (fun f h => h)
noncomputable def x11_takenBy_L8s (c1 : Int32) (c2 : Int32) (rec : Int32 → Int32 → Int32 → MI → Option (Int32 × MI)) (w3 : Int32) (w4 : Int32) (w5 : Int32) (I : MI) : Option (Int32 × MI) :=
if w5 < (I 102 60) then (
ck (vp_in c2 30) <|
if (((I 152 (ix c2)) >>> (w5 &&& 31)) &&& 1) = 0 then (
lt (w5 + 1) fun v19 =>
rec w3 w4 v19 I) else
ck (vp_in c2 30) <|
ck (vp_in c2 30) <|
b2 (x11_oddsOf (I 151 (ix c2)) w5 (0 : Int32) I) fun r7 I8 =>
b2 (x11_worked (5 + c1) (I 151 (ix c2)) w5 (0 : Int32) r7 I8) fun r9 I10 =>
lt r9 fun v11 =>
if w3 < 0 then (
lt w5 fun v12 =>
lt v11 fun v13 =>
lt (w5 + 1) fun v14 =>
rec v12 v13 v14 I10) else
if w4 < v11 then (
lt w5 fun v15 =>
lt v11 fun v16 =>
lt (w5 + 1) fun v17 =>
rec v15 v16 v17 I10) else
lt (w5 + 1) fun v18 =>
rec w3 w4 v18 I10) else
some (w3, I)
noncomputable def x11_takenBy_L8 (c1 : Int32) (c2 : Int32) : Nat → Int32 → Int32 → Int32 → MI → Option (Int32 × MI)
  | 0 => fun _ _ _ _ => none
  | n + 1 => x11_takenBy_L8s c1 c2 (x11_takenBy_L8 c1 c2 n)
noncomputable def x11_takenBy (p1 : Int32) (p2 : Int32) (I : MI) : Option (Int32 × MI) :=
lt (-1 : Int32) fun v1 =>
lt (0 : Int32) fun v2 =>
lt (0 : Int32) fun v3 =>
b1 (x11_takenBy_L8 p1 p2 FU v1 v2 v3 I) fun e20 =>
some (e20.1, e20.2)
theorem x11_takenBy_L8_ok {X : WX} {n0 s0 : Nat} {c1 : Int32} {c2 : Int32} {L : ML} {R : MR} {S : MS} (hK : okm R S) : ∀ (n : Nat) (w3 : Int32) (w4 : Int32) (w5 : Int32) (I : MI), Sim X yX11_takenBy cX11_takenBy 7 (some .int) 5 120 n0 s0 8 [(0, .ref (X.1 + 102)), (1, .int c1), (2, .int c2), (3, .int w3), (4, .int w4), (5, .int w5)] [] (I, L, R, S) (x11_takenBy_L8 c1 c2 n w3 w4 w5 I) (fun b f => Ex X yX11_takenBy cX11_takenBy 7 (some .int) 5 120 n0 s0 92 [(3, .int b.1)] [] (b.2, L, R, S) f) := by
  intro n
  induction n with
  | zero =>
    intro w3 w4 w5 I
    exact sm_none
  | succ n ih =>
    intro w3 w4 w5 I
    change Sim _ _ _ _ _ _ _ _ _ _ _ _ _ (x11_takenBy_L8s c1 c2 (x11_takenBy_L8 c1 c2 n) w3 w4 w5 I) _
    unfold x11_takenBy_L8s
    refine s_iload 5 dX11_takenBy_8 rfl rfl ?_
    refine s_aload_n 0 dX11_takenBy_10 rfl rfl ?_
    refine s_getI dX11_takenBy_11 rfl fl_11_467 (S_102 hK) ?_
    refine s_icmp_ge (tgt := 92) dX11_takenBy_14 rfl rfl (fun _ => ?_) (fun _ => ?_)
    · skip
      refine s_pick [3] rfl ?_
      exact sm_exit (fun f h => h)
    · skip
      refine s_aload_n 0 dX11_takenBy_17 rfl rfl ?_
      refine s_getR 152 dX11_takenBy_18 rfl fl_11_166 rfl (S_102 hK) (R_102_87 hK) ?_
      refine s_iload_n 2 dX11_takenBy_21 rfl rfl ?_
      refine sm_ck (fun g4 => ?_)
      refine s_iald dX11_takenBy_22 rfl (S_152 hK) g4 ?_
      refine s_iload 5 dX11_takenBy_23 rfl rfl ?_
      refine s_ishr dX11_takenBy_25 rfl ?_
      refine s_iconst (v := 1) dX11_takenBy_26 rfl cI_1 ?_
      refine s_iand dX11_takenBy_27 rfl ?_
      refine s_if_ne (tgt := 34) dX11_takenBy_28 rfl rfl (fun _ => ?_) (fun _ => ?_)
      · skip
        refine s_aload_n 0 dX11_takenBy_34 rfl rfl ?_
        refine s_iconst (v := 5) dX11_takenBy_35 rfl cI_5 ?_
        refine s_iload_n 1 dX11_takenBy_36 rfl rfl ?_
        refine s_iadd dX11_takenBy_37 rfl ?_
        refine s_aload_n 0 dX11_takenBy_38 rfl rfl ?_
        refine s_getR 151 dX11_takenBy_39 rfl fl_11_163 rfl (S_102 hK) (R_102_86 hK) ?_
        refine s_iload_n 2 dX11_takenBy_42 rfl rfl ?_
        refine sm_ck (fun g5 => ?_)
        refine s_iald dX11_takenBy_43 rfl (S_151 hK) g5 ?_
        refine s_iload 5 dX11_takenBy_44 rfl rfl ?_
        refine s_iconst (v := 0) dX11_takenBy_46 rfl cI_0 ?_
        refine s_aload_n 0 dX11_takenBy_47 rfl rfl ?_
        refine s_aload_n 0 dX11_takenBy_48 rfl rfl ?_
        refine s_getR 151 dX11_takenBy_49 rfl fl_11_163 rfl (S_102 hK) (R_102_86 hK) ?_
        refine s_iload_n 2 dX11_takenBy_52 rfl rfl ?_
        refine sm_ck (fun g6 => ?_)
        refine s_iald dX11_takenBy_53 rfl (S_151 hK) g6 ?_
        refine s_iload 5 dX11_takenBy_54 rfl rfl ?_
        refine s_iconst (v := 0) dX11_takenBy_56 rfl cI_0 ?_
        refine s_callV3_i1 dX11_takenBy_57 rfl lkV_RX11_538 (S_102 hK) (Nat.le_of_ble_eq_true rfl) (Nat.le_of_ble_eq_true rfl) (Nat.le_of_ble_eq_true rfl) (ct_x11_oddsOf hK) (fun r7 I8 => ?_)
        refine s_callV5_i1 dX11_takenBy_60 rfl lkV_RX11_511 (S_102 hK) (Nat.le_of_ble_eq_true rfl) (Nat.le_of_ble_eq_true rfl) (Nat.le_of_ble_eq_true rfl) (ct_x11_worked hK) (fun r9 I10 => ?_)
        refine s_istoreL (fun v11 => [(6, .int v11), (0, .ref (X.1 + 102)), (1, .int c1), (2, .int c2), (3, .int w3), (4, .int w4), (5, .int w5)]) dX11_takenBy_63 rfl (by decide) (fun _ => rfl) (fun v11 => ?_)
        refine s_iload_n 4 dX11_takenBy_65 rfl rfl ?_
        refine s_if_lt (tgt := 79) dX11_takenBy_66 rfl rfl (fun _ => ?_) (fun _ => ?_)
        · skip
          refine s_iload 6 dX11_takenBy_79 rfl rfl ?_
          refine s_istore_nL (fun v12 => [(3, .int v12), (6, .int v11), (0, .ref (X.1 + 102)), (1, .int c1), (2, .int c2), (4, .int w4), (5, .int w5)]) dX11_takenBy_81 rfl (by decide) (fun _ => rfl) (fun v12 => ?_)
          refine s_iload 1 dX11_takenBy_82 rfl rfl ?_
          refine s_istoreL (fun v13 => [(4, .int v13), (3, .int v12), (6, .int v11), (0, .ref (X.1 + 102)), (1, .int c1), (2, .int c2), (5, .int w5)]) dX11_takenBy_84 rfl (by decide) (fun _ => rfl) (fun v13 => ?_)
          refine s_iincL 6 (c := 1) (fun v14 => [(5, .int v14), (4, .int v13), (3, .int v12), (6, .int v11), (0, .ref (X.1 + 102)), (1, .int c1), (2, .int c2)]) dX11_takenBy_86 rfl rfl cI_1 (by decide) (fun _ => rfl) (fun v14 => ?_)
          refine s_goto (tgt := 8) dX11_takenBy_89 rfl ?_
          refine s_pick [4, 5, 6, 2, 1, 0] rfl ?_
          exact ih v12 v13 v14 I10
        · skip
          refine s_iload 0 dX11_takenBy_69 rfl rfl ?_
          refine s_iload 5 dX11_takenBy_71 rfl rfl ?_
          refine s_icmp_gt (tgt := 79) dX11_takenBy_73 rfl rfl (fun _ => ?_) (fun _ => ?_)
          · skip
            refine s_iload 6 dX11_takenBy_79 rfl rfl ?_
            refine s_istore_nL (fun v15 => [(3, .int v15), (6, .int v11), (0, .ref (X.1 + 102)), (1, .int c1), (2, .int c2), (4, .int w4), (5, .int w5)]) dX11_takenBy_81 rfl (by decide) (fun _ => rfl) (fun v15 => ?_)
            refine s_iload 1 dX11_takenBy_82 rfl rfl ?_
            refine s_istoreL (fun v16 => [(4, .int v16), (3, .int v15), (6, .int v11), (0, .ref (X.1 + 102)), (1, .int c1), (2, .int c2), (5, .int w5)]) dX11_takenBy_84 rfl (by decide) (fun _ => rfl) (fun v16 => ?_)
            refine s_iincL 6 (c := 1) (fun v17 => [(5, .int v17), (4, .int v16), (3, .int v15), (6, .int v11), (0, .ref (X.1 + 102)), (1, .int c1), (2, .int c2)]) dX11_takenBy_86 rfl rfl cI_1 (by decide) (fun _ => rfl) (fun v17 => ?_)
            refine s_goto (tgt := 8) dX11_takenBy_89 rfl ?_
            refine s_pick [4, 5, 6, 2, 1, 0] rfl ?_
            exact ih v15 v16 v17 I10
          · skip
            refine s_goto (tgt := 86) dX11_takenBy_76 rfl ?_
            refine s_iincL 6 (c := 1) (fun v18 => [(5, .int v18), (6, .int v11), (0, .ref (X.1 + 102)), (1, .int c1), (2, .int c2), (3, .int w3), (4, .int w4)]) dX11_takenBy_86 rfl rfl cI_1 (by decide) (fun _ => rfl) (fun v18 => ?_)
            refine s_goto (tgt := 8) dX11_takenBy_89 rfl ?_
            refine s_pick [2, 3, 4, 5, 6, 0] rfl ?_
            exact ih w3 w4 v18 I10
      · skip
        refine s_goto (tgt := 86) dX11_takenBy_31 rfl ?_
        refine s_iincL 5 (c := 1) (fun v19 => [(5, .int v19), (0, .ref (X.1 + 102)), (1, .int c1), (2, .int c2), (3, .int w3), (4, .int w4)]) dX11_takenBy_86 rfl rfl cI_1 (by decide) (fun _ => rfl) (fun v19 => ?_)
        refine s_goto (tgt := 8) dX11_takenBy_89 rfl ?_
        refine s_pick [1, 2, 3, 4, 5, 0] rfl ?_
        exact ih w3 w4 v19 I
theorem ct_x11_takenBy {X : WX} {p1 : Int32} {p2 : Int32} {I : MI} {L : ML} {R : MR} {S : MS} (hK : okm R S) : Ct X yX11_takenBy cX11_takenBy 7 (some .int) 5 120 [.ref (X.1 + 102), .int p1, .int p2] (I, L, R, S) (x11_takenBy p1 p2 I) (fun r => (some (.int r.1), (r.2, L, R, S))) := by
  refine Ct.of (by decide) (Nat.le_of_ble_eq_true rfl) [(0, .ref (X.1 + 102)), (1, .int p1), (2, .int p2)] rfl ?_
  unfold x11_takenBy
  refine s_iconst (v := (-1)) dX11_takenBy_0 rfl cI_m1 ?_
  refine s_istore_nL (fun v1 => [(3, .int v1), (0, .ref (X.1 + 102)), (1, .int p1), (2, .int p2)]) dX11_takenBy_1 rfl (by decide) (fun _ => rfl) (fun v1 => ?_)
  refine s_iconst (v := 0) dX11_takenBy_2 rfl cI_0 ?_
  refine s_istoreL (fun v2 => [(4, .int v2), (3, .int v1), (0, .ref (X.1 + 102)), (1, .int p1), (2, .int p2)]) dX11_takenBy_3 rfl (by decide) (fun _ => rfl) (fun v2 => ?_)
  refine s_iconst (v := 0) dX11_takenBy_5 rfl cI_0 ?_
  refine s_istoreL (fun v3 => [(5, .int v3), (4, .int v2), (3, .int v1), (0, .ref (X.1 + 102)), (1, .int p1), (2, .int p2)]) dX11_takenBy_6 rfl (by decide) (fun _ => rfl) (fun v3 => ?_)
  refine s_pick [3, 4, 5, 2, 1, 0] rfl ?_
  refine sm_reg (x11_takenBy_L8_ok hK FU v1 v2 v3 I) (fun e20 => ?_)
  refine s_iload_n 0 dX11_takenBy_92 rfl rfl ?_
  exact s_iret dX11_takenBy_93 rfl (fun f h => h)
noncomputable def x11_fits_L22s (c1 : Int32) (c3 : Int32) (rec : Int32 → Int32 → MI → Option (Int32 × MI)) (w4 : Int32) (w5 : Int32) (I : MI) : Option (Int32 × MI) :=
if w5 < (I 102 91) then (
if w4 = 0 then (
lt (0 : Int32) fun v6 =>
lt (w5 + 1) fun v7 =>
rec v6 v7 I) else
b1 (x11_counts w5 c1 I) fun r8 =>
if r8 = 0 then (
lt (1 : Int32) fun v9 =>
lt (w5 + 1) fun v10 =>
rec v9 v10 I) else
b2 (x11_takenBy c3 w5 I) fun r11 I12 =>
ck (vp_in w5 30) <|
if r11 = (I12 153 (ix w5)) then (
lt (1 : Int32) fun v16 =>
lt (w5 + 1) fun v17 =>
rec v16 v17 I12) else
lt (0 : Int32) fun v14 =>
lt (w5 + 1) fun v15 =>
rec v14 v15 I12) else
some (w4, I)
noncomputable def x11_fits_L22 (c1 : Int32) (c3 : Int32) : Nat → Int32 → Int32 → MI → Option (Int32 × MI)
  | 0 => fun _ _ _ => none
  | n + 1 => x11_fits_L22s c1 c3 (x11_fits_L22 c1 c3 n)
noncomputable def x11_fits_L8s (c1 : Int32) (rec : Int32 → Int32 → MI → Option (Int32 × MI)) (w2 : Int32) (w3 : Int32) (I : MI) : Option (Int32 × MI) :=
if w3 < (I 102 59) then (
lt (1 : Int32) fun v4 =>
lt (0 : Int32) fun v5 =>
b1 (x11_fits_L22 c1 w3 FU v4 v5 I) fun e18 =>
if e18.1 = 0 then (
lt (w2 ||| 0) fun v19 =>
lt (w3 + 1) fun v20 =>
rec v19 v20 e18.2) else
lt (w2 ||| ((1 : Int32) <<< (w3 &&& 31))) fun v21 =>
lt (w3 + 1) fun v22 =>
rec v21 v22 e18.2) else
some (w2, I)
noncomputable def x11_fits_L8 (c1 : Int32) : Nat → Int32 → Int32 → MI → Option (Int32 × MI)
  | 0 => fun _ _ _ => none
  | n + 1 => x11_fits_L8s c1 (x11_fits_L8 c1 n)
noncomputable def x11_fits (p1 : Int32) (I : MI) : Option (Int32 × MI) :=
b1 (x11_layTold I) fun I1 =>
lt (0 : Int32) fun v2 =>
lt (0 : Int32) fun v3 =>
b1 (x11_fits_L8 p1 FU v2 v3 I1) fun e23 =>
some (e23.1, e23.2)
theorem x11_fits_L22_ok {X : WX} {n0 s0 : Nat} {c1 : Int32} {c2 : Int32} {c3 : Int32} {L : ML} {R : MR} {S : MS} (hK : okm R S) : ∀ (n : Nat) (w4 : Int32) (w5 : Int32) (I : MI), Sim X yX11_fits cX11_fits 6 (some .int) 6 146 n0 s0 22 [(0, .ref (X.1 + 102)), (1, .int c1), (2, .int c2), (3, .int c3), (4, .int w4), (5, .int w5)] [] (I, L, R, S) (x11_fits_L22 c1 c3 n w4 w5 I) (fun b f => Ex X yX11_fits cX11_fits 6 (some .int) 6 146 n0 s0 76 [(0, .ref (X.1 + 102)), (1, .int c1), (2, .int c2), (3, .int c3), (4, .int b.1)] [] (b.2, L, R, S) f) := by
  intro n
  induction n with
  | zero =>
    intro w4 w5 I
    exact sm_none
  | succ n ih =>
    intro w4 w5 I
    change Sim _ _ _ _ _ _ _ _ _ _ _ _ _ (x11_fits_L22s c1 c3 (x11_fits_L22 c1 c3 n) w4 w5 I) _
    unfold x11_fits_L22s
    refine s_iload 5 dX11_fits_22 rfl rfl ?_
    refine s_aload_n 0 dX11_fits_24 rfl rfl ?_
    refine s_getI dX11_fits_25 rfl fl_11_488 (S_102 hK) ?_
    refine s_icmp_ge (tgt := 76) dX11_fits_28 rfl rfl (fun _ => ?_) (fun _ => ?_)
    · skip
      refine s_pick [0, 1, 2, 3, 4] rfl ?_
      exact sm_exit (fun f h => h)
    · skip
      refine s_iload 4 dX11_fits_31 rfl rfl ?_
      refine s_if_eq (tgt := 67) dX11_fits_33 rfl rfl (fun _ => ?_) (fun _ => ?_)
      · skip
        refine s_iconst (v := 0) dX11_fits_67 rfl cI_0 ?_
        refine s_istoreL (fun v6 => [(4, .int v6), (0, .ref (X.1 + 102)), (1, .int c1), (2, .int c2), (3, .int c3), (5, .int w5)]) dX11_fits_68 rfl (by decide) (fun _ => rfl) (fun v6 => ?_)
        refine s_iincL 5 (c := 1) (fun v7 => [(5, .int v7), (4, .int v6), (0, .ref (X.1 + 102)), (1, .int c1), (2, .int c2), (3, .int c3)]) dX11_fits_70 rfl rfl cI_1 (by decide) (fun _ => rfl) (fun v7 => ?_)
        refine s_goto (tgt := 22) dX11_fits_73 rfl ?_
        refine s_pick [2, 3, 4, 5, 1, 0] rfl ?_
        exact ih v6 v7 I
      · skip
        refine s_aload_n 0 dX11_fits_36 rfl rfl ?_
        refine s_iload 5 dX11_fits_37 rfl rfl ?_
        refine s_iload_n 1 dX11_fits_39 rfl rfl ?_
        refine s_callV2_i0 dX11_fits_40 rfl lkV_RX11_654 (S_102 hK) (Nat.le_of_ble_eq_true rfl) (Nat.le_of_ble_eq_true rfl) (Nat.le_of_ble_eq_true rfl) (ct_x11_counts hK) (fun r8 => ?_)
        refine s_if_eq (tgt := 63) dX11_fits_43 rfl rfl (fun _ => ?_) (fun _ => ?_)
        · skip
          refine s_iconst (v := 1) dX11_fits_63 rfl cI_1 ?_
          refine s_goto (tgt := 68) dX11_fits_64 rfl ?_
          refine s_istoreL (fun v9 => [(4, .int v9), (0, .ref (X.1 + 102)), (1, .int c1), (2, .int c2), (3, .int c3), (5, .int w5)]) dX11_fits_68 rfl (by decide) (fun _ => rfl) (fun v9 => ?_)
          refine s_iincL 5 (c := 1) (fun v10 => [(5, .int v10), (4, .int v9), (0, .ref (X.1 + 102)), (1, .int c1), (2, .int c2), (3, .int c3)]) dX11_fits_70 rfl rfl cI_1 (by decide) (fun _ => rfl) (fun v10 => ?_)
          refine s_goto (tgt := 22) dX11_fits_73 rfl ?_
          refine s_pick [2, 3, 4, 5, 1, 0] rfl ?_
          exact ih v9 v10 I
        · skip
          refine s_aload_n 0 dX11_fits_46 rfl rfl ?_
          refine s_iload_n 3 dX11_fits_47 rfl rfl ?_
          refine s_iload 5 dX11_fits_48 rfl rfl ?_
          refine s_callV2_i1 dX11_fits_50 rfl lkV_RX11_657 (S_102 hK) (Nat.le_of_ble_eq_true rfl) (Nat.le_of_ble_eq_true rfl) (Nat.le_of_ble_eq_true rfl) (ct_x11_takenBy hK) (fun r11 I12 => ?_)
          refine s_aload_n 0 dX11_fits_53 rfl rfl ?_
          refine s_getR 153 dX11_fits_54 rfl fl_11_169 rfl (S_102 hK) (R_102_88 hK) ?_
          refine s_iload 5 dX11_fits_57 rfl rfl ?_
          refine sm_ck (fun g13 => ?_)
          refine s_iald dX11_fits_59 rfl (S_153 hK) g13 ?_
          refine s_icmp_ne (tgt := 67) dX11_fits_60 rfl rfl (fun _ => ?_) (fun _ => ?_)
          · skip
            refine s_iconst (v := 0) dX11_fits_67 rfl cI_0 ?_
            refine s_istoreL (fun v14 => [(4, .int v14), (0, .ref (X.1 + 102)), (1, .int c1), (2, .int c2), (3, .int c3), (5, .int w5)]) dX11_fits_68 rfl (by decide) (fun _ => rfl) (fun v14 => ?_)
            refine s_iincL 5 (c := 1) (fun v15 => [(5, .int v15), (4, .int v14), (0, .ref (X.1 + 102)), (1, .int c1), (2, .int c2), (3, .int c3)]) dX11_fits_70 rfl rfl cI_1 (by decide) (fun _ => rfl) (fun v15 => ?_)
            refine s_goto (tgt := 22) dX11_fits_73 rfl ?_
            refine s_pick [2, 3, 4, 5, 1, 0] rfl ?_
            exact ih v14 v15 I12
          · skip
            refine s_iconst (v := 1) dX11_fits_63 rfl cI_1 ?_
            refine s_goto (tgt := 68) dX11_fits_64 rfl ?_
            refine s_istoreL (fun v16 => [(4, .int v16), (0, .ref (X.1 + 102)), (1, .int c1), (2, .int c2), (3, .int c3), (5, .int w5)]) dX11_fits_68 rfl (by decide) (fun _ => rfl) (fun v16 => ?_)
            refine s_iincL 5 (c := 1) (fun v17 => [(5, .int v17), (4, .int v16), (0, .ref (X.1 + 102)), (1, .int c1), (2, .int c2), (3, .int c3)]) dX11_fits_70 rfl rfl cI_1 (by decide) (fun _ => rfl) (fun v17 => ?_)
            refine s_goto (tgt := 22) dX11_fits_73 rfl ?_
            refine s_pick [2, 3, 4, 5, 1, 0] rfl ?_
            exact ih v16 v17 I12
theorem x11_fits_L8_ok {X : WX} {n0 s0 : Nat} {c1 : Int32} {L : ML} {R : MR} {S : MS} (hK : okm R S) : ∀ (n : Nat) (w2 : Int32) (w3 : Int32) (I : MI), Sim X yX11_fits cX11_fits 6 (some .int) 6 146 n0 s0 8 [(0, .ref (X.1 + 102)), (1, .int c1), (2, .int w2), (3, .int w3)] [] (I, L, R, S) (x11_fits_L8 c1 n w2 w3 I) (fun b f => Ex X yX11_fits cX11_fits 6 (some .int) 6 146 n0 s0 97 [(2, .int b.1)] [] (b.2, L, R, S) f) := by
  intro n
  induction n with
  | zero =>
    intro w2 w3 I
    exact sm_none
  | succ n ih =>
    intro w2 w3 I
    change Sim _ _ _ _ _ _ _ _ _ _ _ _ _ (x11_fits_L8s c1 (x11_fits_L8 c1 n) w2 w3 I) _
    unfold x11_fits_L8s
    refine s_iload_n 3 dX11_fits_8 rfl rfl ?_
    refine s_aload_n 0 dX11_fits_9 rfl rfl ?_
    refine s_getI dX11_fits_10 rfl fl_11_464 (S_102 hK) ?_
    refine s_icmp_ge (tgt := 97) dX11_fits_13 rfl rfl (fun _ => ?_) (fun _ => ?_)
    · skip
      refine s_pick [2] rfl ?_
      exact sm_exit (fun f h => h)
    · skip
      refine s_iconst (v := 1) dX11_fits_16 rfl cI_1 ?_
      refine s_istoreL (fun v4 => [(4, .int v4), (0, .ref (X.1 + 102)), (1, .int c1), (2, .int w2), (3, .int w3)]) dX11_fits_17 rfl (by decide) (fun _ => rfl) (fun v4 => ?_)
      refine s_iconst (v := 0) dX11_fits_19 rfl cI_0 ?_
      refine s_istoreL (fun v5 => [(5, .int v5), (4, .int v4), (0, .ref (X.1 + 102)), (1, .int c1), (2, .int w2), (3, .int w3)]) dX11_fits_20 rfl (by decide) (fun _ => rfl) (fun v5 => ?_)
      refine s_pick [2, 3, 4, 5, 1, 0] rfl ?_
      refine sm_reg (x11_fits_L22_ok hK FU v4 v5 I) (fun e18 => ?_)
      refine s_iload_n 2 dX11_fits_76 rfl rfl ?_
      refine s_iload 4 dX11_fits_77 rfl rfl ?_
      refine s_if_eq (tgt := 88) dX11_fits_79 rfl rfl (fun _ => ?_) (fun _ => ?_)
      · skip
        refine s_iconst (v := 0) dX11_fits_88 rfl cI_0 ?_
        refine s_ior dX11_fits_89 rfl ?_
        refine s_istore_nL (fun v19 => [(2, .int v19), (0, .ref (X.1 + 102)), (1, .int c1), (3, .int w3), (4, .int e18.1)]) dX11_fits_90 rfl (by decide) (fun _ => rfl) (fun v19 => ?_)
        refine s_iincL 3 (c := 1) (fun v20 => [(3, .int v20), (2, .int v19), (0, .ref (X.1 + 102)), (1, .int c1), (4, .int e18.1)]) dX11_fits_91 rfl rfl cI_1 (by decide) (fun _ => rfl) (fun v20 => ?_)
        refine s_goto (tgt := 8) dX11_fits_94 rfl ?_
        refine s_pick [2, 3, 1, 0] rfl ?_
        exact ih v19 v20 e18.2
      · skip
        refine s_iconst (v := 1) dX11_fits_82 rfl cI_1 ?_
        refine s_iload_n 3 dX11_fits_83 rfl rfl ?_
        refine s_ishl dX11_fits_84 rfl ?_
        refine s_goto (tgt := 89) dX11_fits_85 rfl ?_
        refine s_ior dX11_fits_89 rfl ?_
        refine s_istore_nL (fun v21 => [(2, .int v21), (0, .ref (X.1 + 102)), (1, .int c1), (3, .int w3), (4, .int e18.1)]) dX11_fits_90 rfl (by decide) (fun _ => rfl) (fun v21 => ?_)
        refine s_iincL 3 (c := 1) (fun v22 => [(3, .int v22), (2, .int v21), (0, .ref (X.1 + 102)), (1, .int c1), (4, .int e18.1)]) dX11_fits_91 rfl rfl cI_1 (by decide) (fun _ => rfl) (fun v22 => ?_)
        refine s_goto (tgt := 8) dX11_fits_94 rfl ?_
        refine s_pick [2, 3, 1, 0] rfl ?_
        exact ih v21 v22 e18.2
theorem ct_x11_fits {X : WX} {p1 : Int32} {I : MI} {L : ML} {R : MR} {S : MS} (hK : okm R S) : Ct X yX11_fits cX11_fits 6 (some .int) 6 146 [.ref (X.1 + 102), .int p1] (I, L, R, S) (x11_fits p1 I) (fun r => (some (.int r.1), (r.2, L, R, S))) := by
  refine Ct.of (by decide) (Nat.le_of_ble_eq_true rfl) [(0, .ref (X.1 + 102)), (1, .int p1)] rfl ?_
  unfold x11_fits
  refine s_aload_n 0 dX11_fits_0 rfl rfl ?_
  refine s_callV0_v1 dX11_fits_1 rfl lkV_RX11_476 (S_102 hK) (Nat.le_of_ble_eq_true rfl) (Nat.le_of_ble_eq_true rfl) (Nat.le_of_ble_eq_true rfl) (ct_x11_layTold hK) (fun I1 => ?_)
  refine s_iconst (v := 0) dX11_fits_4 rfl cI_0 ?_
  refine s_istore_nL (fun v2 => [(2, .int v2), (0, .ref (X.1 + 102)), (1, .int p1)]) dX11_fits_5 rfl (by decide) (fun _ => rfl) (fun v2 => ?_)
  refine s_iconst (v := 0) dX11_fits_6 rfl cI_0 ?_
  refine s_istore_nL (fun v3 => [(3, .int v3), (2, .int v2), (0, .ref (X.1 + 102)), (1, .int p1)]) dX11_fits_7 rfl (by decide) (fun _ => rfl) (fun v3 => ?_)
  refine s_pick [2, 3, 1, 0] rfl ?_
  refine sm_reg (x11_fits_L8_ok hK FU v2 v3 I1) (fun e23 => ?_)
  refine s_iload_n 0 dX11_fits_97 rfl rfl ?_
  exact s_iret dX11_fits_98 rfl (fun f h => h)
noncomputable def x11_falseBy_L5s (c1 : Int32) (c2 : Int32) (rec : Int32 → Int32 → MI → Option (Int32 × MI)) (w3 : Int32) (w4 : Int32) (I : MI) : Option (Int32 × MI) :=
if w4 < (I 102 91) then (
b1 (x11_counts w4 c2 I) fun r3 =>
if r3 = 0 then (
lt (w3 + 0) fun v4 =>
lt (w4 + 1) fun v5 =>
rec v4 v5 I) else
b2 (x11_takenBy c1 w4 I) fun r6 I7 =>
ck (vp_in w4 30) <|
if r6 = (I7 153 (ix w4)) then (
lt (w3 + 0) fun v9 =>
lt (w4 + 1) fun v10 =>
rec v9 v10 I7) else
lt (w3 + 1) fun v11 =>
lt (w4 + 1) fun v12 =>
rec v11 v12 I7) else
some (w3, I)
noncomputable def x11_falseBy_L5 (c1 : Int32) (c2 : Int32) : Nat → Int32 → Int32 → MI → Option (Int32 × MI)
  | 0 => fun _ _ _ => none
  | n + 1 => x11_falseBy_L5s c1 c2 (x11_falseBy_L5 c1 c2 n)
noncomputable def x11_falseBy (p1 : Int32) (p2 : Int32) (I : MI) : Option (Int32 × MI) :=
lt (0 : Int32) fun v1 =>
lt (0 : Int32) fun v2 =>
b1 (x11_falseBy_L5 p1 p2 FU v1 v2 I) fun e13 =>
some (e13.1, e13.2)
theorem x11_falseBy_L5_ok {X : WX} {n0 s0 : Nat} {c1 : Int32} {c2 : Int32} {L : ML} {R : MR} {S : MS} (hK : okm R S) : ∀ (n : Nat) (w3 : Int32) (w4 : Int32) (I : MI), Sim X yX11_falseBy cX11_falseBy 5 (some .int) 6 146 n0 s0 5 [(0, .ref (X.1 + 102)), (1, .int c1), (2, .int c2), (3, .int w3), (4, .int w4)] [] (I, L, R, S) (x11_falseBy_L5 c1 c2 n w3 w4 I) (fun b f => Ex X yX11_falseBy cX11_falseBy 5 (some .int) 6 146 n0 s0 55 [(3, .int b.1)] [] (b.2, L, R, S) f) := by
  intro n
  induction n with
  | zero =>
    intro w3 w4 I
    exact sm_none
  | succ n ih =>
    intro w3 w4 I
    change Sim _ _ _ _ _ _ _ _ _ _ _ _ _ (x11_falseBy_L5s c1 c2 (x11_falseBy_L5 c1 c2 n) w3 w4 I) _
    unfold x11_falseBy_L5s
    refine s_iload 4 dX11_falseBy_5 rfl rfl ?_
    refine s_aload_n 0 dX11_falseBy_7 rfl rfl ?_
    refine s_getI dX11_falseBy_8 rfl fl_11_488 (S_102 hK) ?_
    refine s_icmp_ge (tgt := 55) dX11_falseBy_11 rfl rfl (fun _ => ?_) (fun _ => ?_)
    · skip
      refine s_pick [3] rfl ?_
      exact sm_exit (fun f h => h)
    · skip
      refine s_iload_n 3 dX11_falseBy_14 rfl rfl ?_
      refine s_aload_n 0 dX11_falseBy_15 rfl rfl ?_
      refine s_iload 4 dX11_falseBy_16 rfl rfl ?_
      refine s_iload_n 2 dX11_falseBy_18 rfl rfl ?_
      refine s_callV2_i0 dX11_falseBy_19 rfl lkV_RX11_654 (S_102 hK) (Nat.le_of_ble_eq_true rfl) (Nat.le_of_ble_eq_true rfl) (Nat.le_of_ble_eq_true rfl) (ct_x11_counts hK) (fun r3 => ?_)
      refine s_if_eq (tgt := 46) dX11_falseBy_22 rfl rfl (fun _ => ?_) (fun _ => ?_)
      · skip
        refine s_iconst (v := 0) dX11_falseBy_46 rfl cI_0 ?_
        refine s_iadd dX11_falseBy_47 rfl ?_
        refine s_istore_nL (fun v4 => [(3, .int v4), (0, .ref (X.1 + 102)), (1, .int c1), (2, .int c2), (4, .int w4)]) dX11_falseBy_48 rfl (by decide) (fun _ => rfl) (fun v4 => ?_)
        refine s_iincL 4 (c := 1) (fun v5 => [(4, .int v5), (3, .int v4), (0, .ref (X.1 + 102)), (1, .int c1), (2, .int c2)]) dX11_falseBy_49 rfl rfl cI_1 (by decide) (fun _ => rfl) (fun v5 => ?_)
        refine s_goto (tgt := 5) dX11_falseBy_52 rfl ?_
        refine s_pick [2, 3, 4, 1, 0] rfl ?_
        exact ih v4 v5 I
      · skip
        refine s_aload_n 0 dX11_falseBy_25 rfl rfl ?_
        refine s_iload_n 1 dX11_falseBy_26 rfl rfl ?_
        refine s_iload 4 dX11_falseBy_27 rfl rfl ?_
        refine s_callV2_i1 dX11_falseBy_29 rfl lkV_RX11_657 (S_102 hK) (Nat.le_of_ble_eq_true rfl) (Nat.le_of_ble_eq_true rfl) (Nat.le_of_ble_eq_true rfl) (ct_x11_takenBy hK) (fun r6 I7 => ?_)
        refine s_aload_n 0 dX11_falseBy_32 rfl rfl ?_
        refine s_getR 153 dX11_falseBy_33 rfl fl_11_169 rfl (S_102 hK) (R_102_88 hK) ?_
        refine s_iload 4 dX11_falseBy_36 rfl rfl ?_
        refine sm_ck (fun g8 => ?_)
        refine s_iald dX11_falseBy_38 rfl (S_153 hK) g8 ?_
        refine s_icmp_eq (tgt := 46) dX11_falseBy_39 rfl rfl (fun _ => ?_) (fun _ => ?_)
        · skip
          refine s_iconst (v := 0) dX11_falseBy_46 rfl cI_0 ?_
          refine s_iadd dX11_falseBy_47 rfl ?_
          refine s_istore_nL (fun v9 => [(3, .int v9), (0, .ref (X.1 + 102)), (1, .int c1), (2, .int c2), (4, .int w4)]) dX11_falseBy_48 rfl (by decide) (fun _ => rfl) (fun v9 => ?_)
          refine s_iincL 4 (c := 1) (fun v10 => [(4, .int v10), (3, .int v9), (0, .ref (X.1 + 102)), (1, .int c1), (2, .int c2)]) dX11_falseBy_49 rfl rfl cI_1 (by decide) (fun _ => rfl) (fun v10 => ?_)
          refine s_goto (tgt := 5) dX11_falseBy_52 rfl ?_
          refine s_pick [2, 3, 4, 1, 0] rfl ?_
          exact ih v9 v10 I7
        · skip
          refine s_iconst (v := 1) dX11_falseBy_42 rfl cI_1 ?_
          refine s_goto (tgt := 47) dX11_falseBy_43 rfl ?_
          refine s_iadd dX11_falseBy_47 rfl ?_
          refine s_istore_nL (fun v11 => [(3, .int v11), (0, .ref (X.1 + 102)), (1, .int c1), (2, .int c2), (4, .int w4)]) dX11_falseBy_48 rfl (by decide) (fun _ => rfl) (fun v11 => ?_)
          refine s_iincL 4 (c := 1) (fun v12 => [(4, .int v12), (3, .int v11), (0, .ref (X.1 + 102)), (1, .int c1), (2, .int c2)]) dX11_falseBy_49 rfl rfl cI_1 (by decide) (fun _ => rfl) (fun v12 => ?_)
          refine s_goto (tgt := 5) dX11_falseBy_52 rfl ?_
          refine s_pick [2, 3, 4, 1, 0] rfl ?_
          exact ih v11 v12 I7
theorem ct_x11_falseBy {X : WX} {p1 : Int32} {p2 : Int32} {I : MI} {L : ML} {R : MR} {S : MS} (hK : okm R S) : Ct X yX11_falseBy cX11_falseBy 5 (some .int) 6 146 [.ref (X.1 + 102), .int p1, .int p2] (I, L, R, S) (x11_falseBy p1 p2 I) (fun r => (some (.int r.1), (r.2, L, R, S))) := by
  refine Ct.of (by decide) (Nat.le_of_ble_eq_true rfl) [(0, .ref (X.1 + 102)), (1, .int p1), (2, .int p2)] rfl ?_
  unfold x11_falseBy
  refine s_iconst (v := 0) dX11_falseBy_0 rfl cI_0 ?_
  refine s_istore_nL (fun v1 => [(3, .int v1), (0, .ref (X.1 + 102)), (1, .int p1), (2, .int p2)]) dX11_falseBy_1 rfl (by decide) (fun _ => rfl) (fun v1 => ?_)
  refine s_iconst (v := 0) dX11_falseBy_2 rfl cI_0 ?_
  refine s_istoreL (fun v2 => [(4, .int v2), (3, .int v1), (0, .ref (X.1 + 102)), (1, .int p1), (2, .int p2)]) dX11_falseBy_3 rfl (by decide) (fun _ => rfl) (fun v2 => ?_)
  refine s_pick [2, 3, 4, 1, 0] rfl ?_
  refine sm_reg (x11_falseBy_L5_ok hK FU v1 v2 I) (fun e13 => ?_)
  refine s_iload_n 0 dX11_falseBy_55 rfl rfl ?_
  exact s_iret dX11_falseBy_56 rfl (fun f h => h)
noncomputable def x11_nearest_L27s (c2 : Int32) (rec : Int32 → Int32 → MI → Option (Int32 × MI)) (w3 : Int32) (w4 : Int32) (I : MI) : Option (Int32 × MI) :=
if w4 < (I 102 59) then (
b2 (x11_falseBy w4 c2 I) fun r5 I6 =>
b2 (x11_falseBy w3 c2 I6) fun r7 I8 =>
if r5 < r7 then (
lt w4 fun v11 =>
lt (w4 + 1) fun v12 =>
rec v11 v12 I8) else
lt w3 fun v9 =>
lt (w4 + 1) fun v10 =>
rec v9 v10 I8) else
some (w3, I)
noncomputable def x11_nearest_L27 (c2 : Int32) : Nat → Int32 → Int32 → MI → Option (Int32 × MI)
  | 0 => fun _ _ _ => none
  | n + 1 => x11_nearest_L27s c2 (x11_nearest_L27 c2 n)
noncomputable def x11_nearest (p1 : Int32) (p2 : Int32) (I : MI) : Option (Int32 × MI) :=
if (I 102 59) = 0 then (
some ((-1 : Int32), I)) else
b1 (x11_isIn p1 (0 : Int32) (1 : Int32) I) fun r1 =>
if r1 = 0 then (
some ((-1 : Int32), I)) else
b1 (x11_layTold I) fun I2 =>
lt (0 : Int32) fun v3 =>
lt (1 : Int32) fun v4 =>
b1 (x11_nearest_L27 p2 FU v3 v4 I2) fun e13 =>
if p1 = 0 then (
some (e13.1, e13.2)) else
b2 (x11_falseBy e13.1 p2 e13.2) fun r14 I15 =>
some (r14, I15)
theorem x11_nearest_L27_ok {X : WX} {n0 s0 : Nat} {c1 : Int32} {c2 : Int32} {L : ML} {R : MR} {S : MS} (hK : okm R S) : ∀ (n : Nat) (w3 : Int32) (w4 : Int32) (I : MI), Sim X yX11_nearest cX11_nearest 5 (some .int) 7 170 n0 s0 27 [(0, .ref (X.1 + 102)), (1, .int c1), (2, .int c2), (3, .int w3), (4, .int w4)] [] (I, L, R, S) (x11_nearest_L27 c2 n w3 w4 I) (fun b f => Ex X yX11_nearest cX11_nearest 5 (some .int) 7 170 n0 s0 65 [(0, .ref (X.1 + 102)), (1, .int c1), (2, .int c2), (3, .int b.1)] [] (b.2, L, R, S) f) := by
  intro n
  induction n with
  | zero =>
    intro w3 w4 I
    exact sm_none
  | succ n ih =>
    intro w3 w4 I
    change Sim _ _ _ _ _ _ _ _ _ _ _ _ _ (x11_nearest_L27s c2 (x11_nearest_L27 c2 n) w3 w4 I) _
    unfold x11_nearest_L27s
    refine s_iload 4 dX11_nearest_27 rfl rfl ?_
    refine s_aload_n 0 dX11_nearest_29 rfl rfl ?_
    refine s_getI dX11_nearest_30 rfl fl_11_464 (S_102 hK) ?_
    refine s_icmp_ge (tgt := 65) dX11_nearest_33 rfl rfl (fun _ => ?_) (fun _ => ?_)
    · skip
      refine s_pick [0, 1, 2, 3] rfl ?_
      exact sm_exit (fun f h => h)
    · skip
      refine s_aload_n 0 dX11_nearest_36 rfl rfl ?_
      refine s_iload 4 dX11_nearest_37 rfl rfl ?_
      refine s_iload_n 2 dX11_nearest_39 rfl rfl ?_
      refine s_callV2_i1 dX11_nearest_40 rfl lkV_RX11_660 (S_102 hK) (Nat.le_of_ble_eq_true rfl) (Nat.le_of_ble_eq_true rfl) (Nat.le_of_ble_eq_true rfl) (ct_x11_falseBy hK) (fun r5 I6 => ?_)
      refine s_aload_n 0 dX11_nearest_43 rfl rfl ?_
      refine s_iload_n 3 dX11_nearest_44 rfl rfl ?_
      refine s_iload_n 2 dX11_nearest_45 rfl rfl ?_
      refine s_callV2_i1 dX11_nearest_46 rfl lkV_RX11_660 (S_102 hK) (Nat.le_of_ble_eq_true rfl) (Nat.le_of_ble_eq_true rfl) (Nat.le_of_ble_eq_true rfl) (ct_x11_falseBy hK) (fun r7 I8 => ?_)
      refine s_icmp_ge (tgt := 57) dX11_nearest_49 rfl rfl (fun _ => ?_) (fun _ => ?_)
      · skip
        refine s_iload_n 3 dX11_nearest_57 rfl rfl ?_
        refine s_istore_nL (fun v9 => [(3, .int v9), (0, .ref (X.1 + 102)), (1, .int c1), (2, .int c2), (4, .int w4)]) dX11_nearest_58 rfl (by decide) (fun _ => rfl) (fun v9 => ?_)
        refine s_iincL 4 (c := 1) (fun v10 => [(4, .int v10), (3, .int v9), (0, .ref (X.1 + 102)), (1, .int c1), (2, .int c2)]) dX11_nearest_59 rfl rfl cI_1 (by decide) (fun _ => rfl) (fun v10 => ?_)
        refine s_goto (tgt := 27) dX11_nearest_62 rfl ?_
        refine s_pick [2, 3, 4, 1, 0] rfl ?_
        exact ih v9 v10 I8
      · skip
        refine s_iload 4 dX11_nearest_52 rfl rfl ?_
        refine s_goto (tgt := 58) dX11_nearest_54 rfl ?_
        refine s_istore_nL (fun v11 => [(3, .int v11), (0, .ref (X.1 + 102)), (1, .int c1), (2, .int c2), (4, .int w4)]) dX11_nearest_58 rfl (by decide) (fun _ => rfl) (fun v11 => ?_)
        refine s_iincL 4 (c := 1) (fun v12 => [(4, .int v12), (3, .int v11), (0, .ref (X.1 + 102)), (1, .int c1), (2, .int c2)]) dX11_nearest_59 rfl rfl cI_1 (by decide) (fun _ => rfl) (fun v12 => ?_)
        refine s_goto (tgt := 27) dX11_nearest_62 rfl ?_
        refine s_pick [2, 3, 4, 1, 0] rfl ?_
        exact ih v11 v12 I8
theorem ct_x11_nearest {X : WX} {p1 : Int32} {p2 : Int32} {I : MI} {L : ML} {R : MR} {S : MS} (hK : okm R S) : Ct X yX11_nearest cX11_nearest 5 (some .int) 7 170 [.ref (X.1 + 102), .int p1, .int p2] (I, L, R, S) (x11_nearest p1 p2 I) (fun r => (some (.int r.1), (r.2, L, R, S))) := by
  refine Ct.of (by decide) (Nat.le_of_ble_eq_true rfl) [(0, .ref (X.1 + 102)), (1, .int p1), (2, .int p2)] rfl ?_
  unfold x11_nearest
  refine s_aload_n 0 dX11_nearest_0 rfl rfl ?_
  refine s_getI dX11_nearest_1 rfl fl_11_464 (S_102 hK) ?_
  refine s_if_eq (tgt := 16) dX11_nearest_4 rfl rfl (fun _ => ?_) (fun _ => ?_)
  · skip
    refine s_iconst (v := (-1)) dX11_nearest_16 rfl cI_m1 ?_
    exact s_iret dX11_nearest_17 rfl (fun f h => h)
  · skip
    refine s_iload_n 1 dX11_nearest_7 rfl rfl ?_
    refine s_iconst (v := 0) dX11_nearest_8 rfl cI_0 ?_
    refine s_iconst (v := 1) dX11_nearest_9 rfl cI_1 ?_
    refine s_callS3_i0 dX11_nearest_10 rfl lkS_RX11_494 (Nat.le_of_ble_eq_true rfl) (Nat.le_of_ble_eq_true rfl) (Nat.le_of_ble_eq_true rfl) (ct_x11_isIn hK) (fun r1 => ?_)
    refine s_if_ne (tgt := 18) dX11_nearest_13 rfl rfl (fun _ => ?_) (fun _ => ?_)
    · skip
      refine s_aload_n 0 dX11_nearest_18 rfl rfl ?_
      refine s_callV0_v1 dX11_nearest_19 rfl lkV_RX11_476 (S_102 hK) (Nat.le_of_ble_eq_true rfl) (Nat.le_of_ble_eq_true rfl) (Nat.le_of_ble_eq_true rfl) (ct_x11_layTold hK) (fun I2 => ?_)
      refine s_iconst (v := 0) dX11_nearest_22 rfl cI_0 ?_
      refine s_istore_nL (fun v3 => [(3, .int v3), (0, .ref (X.1 + 102)), (1, .int p1), (2, .int p2)]) dX11_nearest_23 rfl (by decide) (fun _ => rfl) (fun v3 => ?_)
      refine s_iconst (v := 1) dX11_nearest_24 rfl cI_1 ?_
      refine s_istoreL (fun v4 => [(4, .int v4), (3, .int v3), (0, .ref (X.1 + 102)), (1, .int p1), (2, .int p2)]) dX11_nearest_25 rfl (by decide) (fun _ => rfl) (fun v4 => ?_)
      refine s_pick [2, 3, 4, 1, 0] rfl ?_
      refine sm_reg (x11_nearest_L27_ok hK FU v3 v4 I2) (fun e13 => ?_)
      refine s_iload_n 1 dX11_nearest_65 rfl rfl ?_
      refine s_if_ne (tgt := 73) dX11_nearest_66 rfl rfl (fun _ => ?_) (fun _ => ?_)
      · skip
        refine s_aload_n 0 dX11_nearest_73 rfl rfl ?_
        refine s_iload_n 3 dX11_nearest_74 rfl rfl ?_
        refine s_iload_n 2 dX11_nearest_75 rfl rfl ?_
        refine s_callV2_i1 dX11_nearest_76 rfl lkV_RX11_660 (S_102 hK) (Nat.le_of_ble_eq_true rfl) (Nat.le_of_ble_eq_true rfl) (Nat.le_of_ble_eq_true rfl) (ct_x11_falseBy hK) (fun r14 I15 => ?_)
        exact s_iret dX11_nearest_79 rfl (fun f h => h)
      · skip
        refine s_iload_n 3 dX11_nearest_69 rfl rfl ?_
        refine s_goto (tgt := 79) dX11_nearest_70 rfl ?_
        exact s_iret dX11_nearest_79 rfl (fun f h => h)
    · skip
      refine s_iconst (v := (-1)) dX11_nearest_16 rfl cI_m1 ?_
      exact s_iret dX11_nearest_17 rfl (fun f h => h)
