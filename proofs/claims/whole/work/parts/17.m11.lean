noncomputable def x11_match (p1 : Int32) (p2 : Int32) (I : MI) : Option (Int32 × MI) :=
b1 (x11_isRule p1 I) fun r1 =>
if r1 = 0 then (
some ((-1000000 : Int32), I)) else
b1 (x11_isRule p2 I) fun r2 =>
if r2 = 0 then (
some ((-1000000 : Int32), I)) else
if 1 < (I 102 61) then (
b2 (x11_matchOf p1 p2 I) fun r3 I4 =>
some (r3, I4)) else
some ((-1000000 : Int32), I)
theorem ct_x11_match {X : WX} {p1 : Int32} {p2 : Int32} {I : MI} {L : ML} {R : MR} {S : MS} (hK : okm R S) : Ct X yX11_match cX11_match 3 (some .int) 8 193 [.ref (X.1 + 102), .int p1, .int p2] (I, L, R, S) (x11_match p1 p2 I) (fun r => (some (.int r.1), (r.2, L, R, S))) := by
  refine Ct.of (by decide) (Nat.le_of_ble_eq_true rfl) [(0, .ref (X.1 + 102)), (1, .int p1), (2, .int p2)] rfl ?_
  unfold x11_match
  refine s_aload_n 0 dX11_match_0 rfl rfl ?_
  refine s_iload_n 1 dX11_match_1 rfl rfl ?_
  refine s_callV1_i0 dX11_match_2 rfl lkV_RX11_631 (S_102 hK) (Nat.le_of_ble_eq_true rfl) (Nat.le_of_ble_eq_true rfl) (Nat.le_of_ble_eq_true rfl) (ct_x11_isRule hK) (fun r1 => ?_)
  refine s_if_eq (tgt := 33) dX11_match_5 rfl rfl (fun _ => ?_) (fun _ => ?_)
  · skip
    refine s_ldcw (v := (-1000000)) dX11_match_33 rfl (tw_mem 2215 (by decide +kernel) rfl) ?_
    exact s_iret dX11_match_36 rfl (fun f h => h)
  · skip
    refine s_aload_n 0 dX11_match_8 rfl rfl ?_
    refine s_iload_n 2 dX11_match_9 rfl rfl ?_
    refine s_callV1_i0 dX11_match_10 rfl lkV_RX11_631 (S_102 hK) (Nat.le_of_ble_eq_true rfl) (Nat.le_of_ble_eq_true rfl) (Nat.le_of_ble_eq_true rfl) (ct_x11_isRule hK) (fun r2 => ?_)
    refine s_if_eq (tgt := 33) dX11_match_13 rfl rfl (fun _ => ?_) (fun _ => ?_)
    · skip
      refine s_ldcw (v := (-1000000)) dX11_match_33 rfl (tw_mem 2215 (by decide +kernel) rfl) ?_
      exact s_iret dX11_match_36 rfl (fun f h => h)
    · skip
      refine s_aload_n 0 dX11_match_16 rfl rfl ?_
      refine s_getI dX11_match_17 rfl fl_11_470 (S_102 hK) ?_
      refine s_iconst (v := 1) dX11_match_20 rfl cI_1 ?_
      refine s_icmp_le (tgt := 33) dX11_match_21 rfl rfl (fun _ => ?_) (fun _ => ?_)
      · skip
        refine s_ldcw (v := (-1000000)) dX11_match_33 rfl (tw_mem 2215 (by decide +kernel) rfl) ?_
        exact s_iret dX11_match_36 rfl (fun f h => h)
      · skip
        refine s_aload_n 0 dX11_match_24 rfl rfl ?_
        refine s_iload_n 1 dX11_match_25 rfl rfl ?_
        refine s_iload_n 2 dX11_match_26 rfl rfl ?_
        refine s_callV2_i1 dX11_match_27 rfl lkV_RX11_634 (S_102 hK) (Nat.le_of_ble_eq_true rfl) (Nat.le_of_ble_eq_true rfl) (Nat.le_of_ble_eq_true rfl) (ct_x11_matchOf hK) (fun r3 I4 => ?_)
        refine s_goto (tgt := 36) dX11_match_30 rfl ?_
        exact s_iret dX11_match_36 rfl (fun f h => h)
noncomputable def x11_reply_L30s (c1 : Int32) (rec : Int32 → Int32 → Int32 → MI → Option (Int32 × MI)) (w2 : Int32) (w3 : Int32) (w4 : Int32) (I : MI) : Option (Int32 × MI) :=
if w4 < (I 102 59) then (
b2 (x11_matchOf w4 c1 I) fun r7 I8 =>
lt r7 fun v9 =>
if w3 < v9 then (
lt w4 fun v10 =>
lt v9 fun v11 =>
lt (w4 + 1) fun v12 =>
rec v10 v11 v12 I8) else
lt (w4 + 1) fun v13 =>
rec w2 w3 v13 I8) else
some (w2, I)
noncomputable def x11_reply_L30 (c1 : Int32) : Nat → Int32 → Int32 → Int32 → MI → Option (Int32 × MI)
  | 0 => fun _ _ _ _ => none
  | n + 1 => x11_reply_L30s c1 (x11_reply_L30 c1 n)
noncomputable def x11_reply (p1 : Int32) (I : MI) : Option (Int32 × MI) :=
b1 (x11_isRule p1 I) fun r1 =>
if r1 = 0 then (
some ((-1 : Int32), I)) else
if (I 102 61) < 2 then (
some ((-1 : Int32), I)) else
lt (0 : Int32) fun v2 =>
b2 (x11_matchOf (0 : Int32) p1 I) fun r3 I4 =>
lt r3 fun v5 =>
lt (1 : Int32) fun v6 =>
b1 (x11_reply_L30 p1 FU v2 v5 v6 I4) fun e14 =>
some (e14.1, e14.2)
theorem x11_reply_L30_ok {X : WX} {n0 s0 : Nat} {c1 : Int32} {L : ML} {R : MR} {S : MS} (hK : okm R S) : ∀ (n : Nat) (w2 : Int32) (w3 : Int32) (w4 : Int32) (I : MI), Sim X yX11_reply cX11_reply 6 (some .int) 8 193 n0 s0 30 [(0, .ref (X.1 + 102)), (1, .int c1), (2, .int w2), (3, .int w3), (4, .int w4)] [] (I, L, R, S) (x11_reply_L30 c1 n w2 w3 w4 I) (fun b f => Ex X yX11_reply cX11_reply 6 (some .int) 8 193 n0 s0 69 [(2, .int b.1)] [] (b.2, L, R, S) f) := by
  intro n
  induction n with
  | zero =>
    intro w2 w3 w4 I
    exact sm_none
  | succ n ih =>
    intro w2 w3 w4 I
    change Sim _ _ _ _ _ _ _ _ _ _ _ _ _ (x11_reply_L30s c1 (x11_reply_L30 c1 n) w2 w3 w4 I) _
    unfold x11_reply_L30s
    refine s_iload 4 dX11_reply_30 rfl rfl ?_
    refine s_aload_n 0 dX11_reply_32 rfl rfl ?_
    refine s_getI dX11_reply_33 rfl fl_11_464 (S_102 hK) ?_
    refine s_icmp_ge (tgt := 69) dX11_reply_36 rfl rfl (fun _ => ?_) (fun _ => ?_)
    · skip
      refine s_pick [2] rfl ?_
      exact sm_exit (fun f h => h)
    · skip
      refine s_aload_n 0 dX11_reply_39 rfl rfl ?_
      refine s_iload 4 dX11_reply_40 rfl rfl ?_
      refine s_iload_n 1 dX11_reply_42 rfl rfl ?_
      refine s_callV2_i1 dX11_reply_43 rfl lkV_RX11_634 (S_102 hK) (Nat.le_of_ble_eq_true rfl) (Nat.le_of_ble_eq_true rfl) (Nat.le_of_ble_eq_true rfl) (ct_x11_matchOf hK) (fun r7 I8 => ?_)
      refine s_istoreL (fun v9 => [(5, .int v9), (0, .ref (X.1 + 102)), (1, .int c1), (2, .int w2), (3, .int w3), (4, .int w4)]) dX11_reply_46 rfl (by decide) (fun _ => rfl) (fun v9 => ?_)
      refine s_iload 0 dX11_reply_48 rfl rfl ?_
      refine s_iload_n 4 dX11_reply_50 rfl rfl ?_
      refine s_icmp_gt (tgt := 57) dX11_reply_51 rfl rfl (fun _ => ?_) (fun _ => ?_)
      · skip
        refine s_iload 5 dX11_reply_57 rfl rfl ?_
        refine s_istore_nL (fun v10 => [(2, .int v10), (5, .int v9), (0, .ref (X.1 + 102)), (1, .int c1), (3, .int w3), (4, .int w4)]) dX11_reply_59 rfl (by decide) (fun _ => rfl) (fun v10 => ?_)
        refine s_iload 1 dX11_reply_60 rfl rfl ?_
        refine s_istore_nL (fun v11 => [(3, .int v11), (2, .int v10), (5, .int v9), (0, .ref (X.1 + 102)), (1, .int c1), (4, .int w4)]) dX11_reply_62 rfl (by decide) (fun _ => rfl) (fun v11 => ?_)
        refine s_iincL 5 (c := 1) (fun v12 => [(4, .int v12), (3, .int v11), (2, .int v10), (5, .int v9), (0, .ref (X.1 + 102)), (1, .int c1)]) dX11_reply_63 rfl rfl cI_1 (by decide) (fun _ => rfl) (fun v12 => ?_)
        refine s_goto (tgt := 30) dX11_reply_66 rfl ?_
        refine s_pick [4, 5, 2, 1, 0] rfl ?_
        exact ih v10 v11 v12 I8
      · skip
        refine s_goto (tgt := 63) dX11_reply_54 rfl ?_
        refine s_iincL 5 (c := 1) (fun v13 => [(4, .int v13), (5, .int v9), (0, .ref (X.1 + 102)), (1, .int c1), (2, .int w2), (3, .int w3)]) dX11_reply_63 rfl rfl cI_1 (by decide) (fun _ => rfl) (fun v13 => ?_)
        refine s_goto (tgt := 30) dX11_reply_66 rfl ?_
        refine s_pick [2, 3, 4, 5, 0] rfl ?_
        exact ih w2 w3 v13 I8
theorem ct_x11_reply {X : WX} {p1 : Int32} {I : MI} {L : ML} {R : MR} {S : MS} (hK : okm R S) : Ct X yX11_reply cX11_reply 6 (some .int) 8 193 [.ref (X.1 + 102), .int p1] (I, L, R, S) (x11_reply p1 I) (fun r => (some (.int r.1), (r.2, L, R, S))) := by
  refine Ct.of (by decide) (Nat.le_of_ble_eq_true rfl) [(0, .ref (X.1 + 102)), (1, .int p1)] rfl ?_
  unfold x11_reply
  refine s_aload_n 0 dX11_reply_0 rfl rfl ?_
  refine s_iload_n 1 dX11_reply_1 rfl rfl ?_
  refine s_callV1_i0 dX11_reply_2 rfl lkV_RX11_631 (S_102 hK) (Nat.le_of_ble_eq_true rfl) (Nat.le_of_ble_eq_true rfl) (Nat.le_of_ble_eq_true rfl) (ct_x11_isRule hK) (fun r1 => ?_)
  refine s_if_eq (tgt := 16) dX11_reply_5 rfl rfl (fun _ => ?_) (fun _ => ?_)
  · skip
    refine s_iconst (v := (-1)) dX11_reply_16 rfl cI_m1 ?_
    exact s_iret dX11_reply_17 rfl (fun f h => h)
  · skip
    refine s_aload_n 0 dX11_reply_8 rfl rfl ?_
    refine s_getI dX11_reply_9 rfl fl_11_470 (S_102 hK) ?_
    refine s_iconst (v := 2) dX11_reply_12 rfl cI_2 ?_
    refine s_icmp_ge (tgt := 18) dX11_reply_13 rfl rfl (fun _ => ?_) (fun _ => ?_)
    · skip
      refine s_iconst (v := 0) dX11_reply_18 rfl cI_0 ?_
      refine s_istore_nL (fun v2 => [(2, .int v2), (0, .ref (X.1 + 102)), (1, .int p1)]) dX11_reply_19 rfl (by decide) (fun _ => rfl) (fun v2 => ?_)
      refine s_aload_n 1 dX11_reply_20 rfl rfl ?_
      refine s_iconst (v := 0) dX11_reply_21 rfl cI_0 ?_
      refine s_iload_n 2 dX11_reply_22 rfl rfl ?_
      refine s_callV2_i1 dX11_reply_23 rfl lkV_RX11_634 (S_102 hK) (Nat.le_of_ble_eq_true rfl) (Nat.le_of_ble_eq_true rfl) (Nat.le_of_ble_eq_true rfl) (ct_x11_matchOf hK) (fun r3 I4 => ?_)
      refine s_istore_nL (fun v5 => [(3, .int v5), (2, .int v2), (0, .ref (X.1 + 102)), (1, .int p1)]) dX11_reply_26 rfl (by decide) (fun _ => rfl) (fun v5 => ?_)
      refine s_iconst (v := 1) dX11_reply_27 rfl cI_1 ?_
      refine s_istoreL (fun v6 => [(4, .int v6), (3, .int v5), (2, .int v2), (0, .ref (X.1 + 102)), (1, .int p1)]) dX11_reply_28 rfl (by decide) (fun _ => rfl) (fun v6 => ?_)
      refine s_pick [3, 4, 2, 1, 0] rfl ?_
      refine sm_reg (x11_reply_L30_ok hK FU v2 v5 v6 I4) (fun e14 => ?_)
      refine s_iload_n 0 dX11_reply_69 rfl rfl ?_
      exact s_iret dX11_reply_70 rfl (fun f h => h)
    · skip
      refine s_iconst (v := (-1)) dX11_reply_16 rfl cI_m1 ?_
      exact s_iret dX11_reply_17 rfl (fun f h => h)
noncomputable def x11_doesRest_L5s (c1 : Int32) (c2 : Int32) (I : MI) (rec : Int32 → Int32 → Option (Int32)) (w3 : Int32) (w4 : Int32) : Option (Int32) :=
if w4 < (I 102 59) then (
if w3 = 0 then (
lt (0 : Int32) fun v3 =>
lt (w4 + 1) fun v4 =>
rec v3 v4) else
ck (vp_in ((6 * w4) + c2) 36) <|
ck (vp_in ((6 * c1) + c2) 36) <|
if (I 150 (ix ((6 * c1) + c2))) < (I 150 (ix ((6 * w4) + c2))) then (
lt (0 : Int32) fun v7 =>
lt (w4 + 1) fun v8 =>
rec v7 v8) else
ck (vp_in ((6 * c1) + w4) 36) <|
ck (vp_in ((6 * c1) + c2) 36) <|
if (I 150 (ix ((6 * c1) + w4))) < (I 150 (ix ((6 * c1) + c2))) then (
lt (0 : Int32) fun v11 =>
lt (w4 + 1) fun v12 =>
rec v11 v12) else
lt (1 : Int32) fun v13 =>
lt (w4 + 1) fun v14 =>
rec v13 v14) else
some w3
noncomputable def x11_doesRest_L5 (c1 : Int32) (c2 : Int32) (I : MI) : Nat → Int32 → Int32 → Option (Int32)
  | 0 => fun _ _ => none
  | n + 1 => x11_doesRest_L5s c1 c2 I (x11_doesRest_L5 c1 c2 I n)
noncomputable def x11_doesRest (p1 : Int32) (p2 : Int32) (I : MI) : Option (Int32) :=
lt (1 : Int32) fun v1 =>
lt (0 : Int32) fun v2 =>
b1 (x11_doesRest_L5 p1 p2 I FU v1 v2) fun e15 =>
ck (e15 = 0 ∨ e15 = 1) (some e15)
theorem x11_doesRest_L5_ok {X : WX} {n0 s0 : Nat} {c1 : Int32} {c2 : Int32} {I : MI} {L : ML} {R : MR} {S : MS} (hK : okm R S) : ∀ (n : Nat) (w3 : Int32) (w4 : Int32), Sim X yX11_doesRest cX11_doesRest 5 (some .boolean) 0 0 n0 s0 5 [(0, .ref (X.1 + 102)), (1, .int c1), (2, .int c2), (3, .int w3), (4, .int w4)] [] (I, L, R, S) (x11_doesRest_L5 c1 c2 I n w3 w4) (fun b f => Ex X yX11_doesRest cX11_doesRest 5 (some .boolean) 0 0 n0 s0 82 [(3, .int b)] [] (I, L, R, S) f) := by
  intro n
  induction n with
  | zero =>
    intro w3 w4
    exact sm_none
  | succ n ih =>
    intro w3 w4
    change Sim _ _ _ _ _ _ _ _ _ _ _ _ _ (x11_doesRest_L5s c1 c2 I (x11_doesRest_L5 c1 c2 I n) w3 w4) _
    unfold x11_doesRest_L5s
    refine s_iload 4 dX11_doesRest_5 rfl rfl ?_
    refine s_aload_n 0 dX11_doesRest_7 rfl rfl ?_
    refine s_getI dX11_doesRest_8 rfl fl_11_464 (S_102 hK) ?_
    refine s_icmp_ge (tgt := 82) dX11_doesRest_11 rfl rfl (fun _ => ?_) (fun _ => ?_)
    · skip
      refine s_pick [3] rfl ?_
      exact sm_exit (fun f h => h)
    · skip
      refine s_iload_n 3 dX11_doesRest_14 rfl rfl ?_
      refine s_if_eq (tgt := 74) dX11_doesRest_15 rfl rfl (fun _ => ?_) (fun _ => ?_)
      · skip
        refine s_iconst (v := 0) dX11_doesRest_74 rfl cI_0 ?_
        refine s_istore_nL (fun v3 => [(3, .int v3), (0, .ref (X.1 + 102)), (1, .int c1), (2, .int c2), (4, .int w4)]) dX11_doesRest_75 rfl (by decide) (fun _ => rfl) (fun v3 => ?_)
        refine s_iincL 4 (c := 1) (fun v4 => [(4, .int v4), (3, .int v3), (0, .ref (X.1 + 102)), (1, .int c1), (2, .int c2)]) dX11_doesRest_76 rfl rfl cI_1 (by decide) (fun _ => rfl) (fun v4 => ?_)
        refine s_goto (tgt := 5) dX11_doesRest_79 rfl ?_
        refine s_pick [2, 3, 4, 1, 0] rfl ?_
        exact ih v3 v4
      · skip
        refine s_aload_n 0 dX11_doesRest_18 rfl rfl ?_
        refine s_getR 150 dX11_doesRest_19 rfl fl_11_160 rfl (S_102 hK) (R_102_84 hK) ?_
        refine s_bipush (v := 6) dX11_doesRest_22 rfl cB_6 ?_
        refine s_iload 4 dX11_doesRest_24 rfl rfl ?_
        refine s_imul dX11_doesRest_26 rfl ?_
        refine s_iload_n 2 dX11_doesRest_27 rfl rfl ?_
        refine s_iadd dX11_doesRest_28 rfl ?_
        refine sm_ck (fun g5 => ?_)
        refine s_iald dX11_doesRest_29 rfl (S_150 hK) g5 ?_
        refine s_aload_n 0 dX11_doesRest_30 rfl rfl ?_
        refine s_getR 150 dX11_doesRest_31 rfl fl_11_160 rfl (S_102 hK) (R_102_84 hK) ?_
        refine s_bipush (v := 6) dX11_doesRest_34 rfl cB_6 ?_
        refine s_iload_n 1 dX11_doesRest_36 rfl rfl ?_
        refine s_imul dX11_doesRest_37 rfl ?_
        refine s_iload_n 2 dX11_doesRest_38 rfl rfl ?_
        refine s_iadd dX11_doesRest_39 rfl ?_
        refine sm_ck (fun g6 => ?_)
        refine s_iald dX11_doesRest_40 rfl (S_150 hK) g6 ?_
        refine s_icmp_gt (tgt := 74) dX11_doesRest_41 rfl rfl (fun _ => ?_) (fun _ => ?_)
        · skip
          refine s_iconst (v := 0) dX11_doesRest_74 rfl cI_0 ?_
          refine s_istore_nL (fun v7 => [(3, .int v7), (0, .ref (X.1 + 102)), (1, .int c1), (2, .int c2), (4, .int w4)]) dX11_doesRest_75 rfl (by decide) (fun _ => rfl) (fun v7 => ?_)
          refine s_iincL 4 (c := 1) (fun v8 => [(4, .int v8), (3, .int v7), (0, .ref (X.1 + 102)), (1, .int c1), (2, .int c2)]) dX11_doesRest_76 rfl rfl cI_1 (by decide) (fun _ => rfl) (fun v8 => ?_)
          refine s_goto (tgt := 5) dX11_doesRest_79 rfl ?_
          refine s_pick [2, 3, 4, 1, 0] rfl ?_
          exact ih v7 v8
        · skip
          refine s_aload_n 0 dX11_doesRest_44 rfl rfl ?_
          refine s_getR 150 dX11_doesRest_45 rfl fl_11_160 rfl (S_102 hK) (R_102_84 hK) ?_
          refine s_bipush (v := 6) dX11_doesRest_48 rfl cB_6 ?_
          refine s_iload_n 1 dX11_doesRest_50 rfl rfl ?_
          refine s_imul dX11_doesRest_51 rfl ?_
          refine s_iload 4 dX11_doesRest_52 rfl rfl ?_
          refine s_iadd dX11_doesRest_54 rfl ?_
          refine sm_ck (fun g9 => ?_)
          refine s_iald dX11_doesRest_55 rfl (S_150 hK) g9 ?_
          refine s_aload_n 0 dX11_doesRest_56 rfl rfl ?_
          refine s_getR 150 dX11_doesRest_57 rfl fl_11_160 rfl (S_102 hK) (R_102_84 hK) ?_
          refine s_bipush (v := 6) dX11_doesRest_60 rfl cB_6 ?_
          refine s_iload_n 1 dX11_doesRest_62 rfl rfl ?_
          refine s_imul dX11_doesRest_63 rfl ?_
          refine s_iload_n 2 dX11_doesRest_64 rfl rfl ?_
          refine s_iadd dX11_doesRest_65 rfl ?_
          refine sm_ck (fun g10 => ?_)
          refine s_iald dX11_doesRest_66 rfl (S_150 hK) g10 ?_
          refine s_icmp_lt (tgt := 74) dX11_doesRest_67 rfl rfl (fun _ => ?_) (fun _ => ?_)
          · skip
            refine s_iconst (v := 0) dX11_doesRest_74 rfl cI_0 ?_
            refine s_istore_nL (fun v11 => [(3, .int v11), (0, .ref (X.1 + 102)), (1, .int c1), (2, .int c2), (4, .int w4)]) dX11_doesRest_75 rfl (by decide) (fun _ => rfl) (fun v11 => ?_)
            refine s_iincL 4 (c := 1) (fun v12 => [(4, .int v12), (3, .int v11), (0, .ref (X.1 + 102)), (1, .int c1), (2, .int c2)]) dX11_doesRest_76 rfl rfl cI_1 (by decide) (fun _ => rfl) (fun v12 => ?_)
            refine s_goto (tgt := 5) dX11_doesRest_79 rfl ?_
            refine s_pick [2, 3, 4, 1, 0] rfl ?_
            exact ih v11 v12
          · skip
            refine s_iconst (v := 1) dX11_doesRest_70 rfl cI_1 ?_
            refine s_goto (tgt := 75) dX11_doesRest_71 rfl ?_
            refine s_istore_nL (fun v13 => [(3, .int v13), (0, .ref (X.1 + 102)), (1, .int c1), (2, .int c2), (4, .int w4)]) dX11_doesRest_75 rfl (by decide) (fun _ => rfl) (fun v13 => ?_)
            refine s_iincL 4 (c := 1) (fun v14 => [(4, .int v14), (3, .int v13), (0, .ref (X.1 + 102)), (1, .int c1), (2, .int c2)]) dX11_doesRest_76 rfl rfl cI_1 (by decide) (fun _ => rfl) (fun v14 => ?_)
            refine s_goto (tgt := 5) dX11_doesRest_79 rfl ?_
            refine s_pick [2, 3, 4, 1, 0] rfl ?_
            exact ih v13 v14
theorem ct_x11_doesRest {X : WX} {p1 : Int32} {p2 : Int32} {I : MI} {L : ML} {R : MR} {S : MS} (hK : okm R S) : Ct X yX11_doesRest cX11_doesRest 5 (some .boolean) 0 0 [.ref (X.1 + 102), .int p1, .int p2] (I, L, R, S) (x11_doesRest p1 p2 I) (fun r => (some (.int r), (I, L, R, S))) := by
  refine Ct.of (by decide) (Nat.le_of_ble_eq_true rfl) [(0, .ref (X.1 + 102)), (1, .int p1), (2, .int p2)] rfl ?_
  unfold x11_doesRest
  refine s_iconst (v := 1) dX11_doesRest_0 rfl cI_1 ?_
  refine s_istore_nL (fun v1 => [(3, .int v1), (0, .ref (X.1 + 102)), (1, .int p1), (2, .int p2)]) dX11_doesRest_1 rfl (by decide) (fun _ => rfl) (fun v1 => ?_)
  refine s_iconst (v := 0) dX11_doesRest_2 rfl cI_0 ?_
  refine s_istoreL (fun v2 => [(4, .int v2), (3, .int v1), (0, .ref (X.1 + 102)), (1, .int p1), (2, .int p2)]) dX11_doesRest_3 rfl (by decide) (fun _ => rfl) (fun v2 => ?_)
  refine s_pick [2, 3, 4, 1, 0] rfl ?_
  refine sm_reg (x11_doesRest_L5_ok hK FU v1 v2) (fun e15 => ?_)
  refine s_iload_n 0 dX11_doesRest_82 rfl rfl ?_
  refine sm_ck (fun g16 => ?_)
  exact s_zret dX11_doesRest_83 rfl g16 (fun f h => h)
noncomputable def x11_rests_L27s (c1 : Int32) (rec : Int32 → MI → Option (MI)) (w2 : Int32) (I : MI) : Option (MI) :=
if w2 < (I 102 59) then (
b2 (x11_matchOf c1 w2 I) fun r4 I5 =>
ck (vp_in ((6 * c1) + w2) 36) <|
lt (wI I5 150 (ix ((6 * c1) + w2)) r4) fun I6 =>
lt (w2 + 1) fun v8 =>
rec v8 I6) else
some I
noncomputable def x11_rests_L27 (c1 : Int32) : Nat → Int32 → MI → Option (MI)
  | 0 => fun _ _ => none
  | n + 1 => x11_rests_L27s c1 (x11_rests_L27 c1 n)
noncomputable def x11_rests_L17s (rec : Int32 → MI → Option (MI)) (w1 : Int32) (I : MI) : Option (MI) :=
if w1 < (I 102 59) then (
lt (0 : Int32) fun v3 =>
b1 (x11_rests_L27 w1 FU v3 I) fun e9 =>
lt (w1 + 1) fun v10 =>
rec v10 e9) else
some I
noncomputable def x11_rests_L17 : Nat → Int32 → MI → Option (MI)
  | 0 => fun _ _ => none
  | n + 1 => x11_rests_L17s (x11_rests_L17 n)
noncomputable def x11_rests_L76s (c1 : Int32) (rec : Int32 → MI → Option (MI)) (w2 : Int32) (I : MI) : Option (MI) :=
if w2 < (I 102 59) then (
b1 (x11_doesRest c1 w2 I) fun r14 =>
if r14 = 0 then (
lt (w2 + 1) fun v19 =>
rec v19 I) else
ck (vp_in (I 102 85) 40) <|
lt (wI I 149 (ix (I 102 85)) ((10 * c1) + w2)) fun I15 =>
lt (wI I15 102 85 ((I15 102 85) + 1)) fun I17 =>
lt (w2 + 1) fun v18 =>
rec v18 I17) else
some I
noncomputable def x11_rests_L76 (c1 : Int32) : Nat → Int32 → MI → Option (MI)
  | 0 => fun _ _ => none
  | n + 1 => x11_rests_L76s c1 (x11_rests_L76 c1 n)
noncomputable def x11_rests_L66s (rec : Int32 → MI → Option (MI)) (w1 : Int32) (I : MI) : Option (MI) :=
if w1 < (I 102 59) then (
lt (0 : Int32) fun v13 =>
b1 (x11_rests_L76 w1 FU v13 I) fun e20 =>
lt (w1 + 1) fun v21 =>
rec v21 e20) else
some I
noncomputable def x11_rests_L66 : Nat → Int32 → MI → Option (MI)
  | 0 => fun _ _ => none
  | n + 1 => x11_rests_L66s (x11_rests_L66 n)
noncomputable def x11_rests (I : MI) : Option (Int32 × MI) :=
lt (wI I 102 85 (0 : Int32)) fun I1 =>
if (I1 102 61) < 2 then (
some ((0 : Int32), I1)) else
lt (0 : Int32) fun v2 =>
b1 (x11_rests_L17 FU v2 I1) fun e11 =>
lt (0 : Int32) fun v12 =>
b1 (x11_rests_L66 FU v12 e11) fun e22 =>
some ((e22 102 85), e22)
theorem x11_rests_L27_ok {X : WX} {n0 s0 : Nat} {c1 : Int32} {L : ML} {R : MR} {S : MS} (hK : okm R S) : ∀ (n : Nat) (w2 : Int32) (I : MI), Sim X yX11_rests cX11_rests 3 (some .int) 8 193 n0 s0 27 [(0, .ref (X.1 + 102)), (1, .int c1), (2, .int w2)] [] (I, L, R, S) (x11_rests_L27 c1 n w2 I) (fun b f => Ex X yX11_rests cX11_rests 3 (some .int) 8 193 n0 s0 58 [(0, .ref (X.1 + 102)), (1, .int c1)] [] (b, L, R, S) f) := by
  intro n
  induction n with
  | zero =>
    intro w2 I
    exact sm_none
  | succ n ih =>
    intro w2 I
    change Sim _ _ _ _ _ _ _ _ _ _ _ _ _ (x11_rests_L27s c1 (x11_rests_L27 c1 n) w2 I) _
    unfold x11_rests_L27s
    refine s_iload_n 2 dX11_rests_27 rfl rfl ?_
    refine s_aload_n 0 dX11_rests_28 rfl rfl ?_
    refine s_getI dX11_rests_29 rfl fl_11_464 (S_102 hK) ?_
    refine s_icmp_ge (tgt := 58) dX11_rests_32 rfl rfl (fun _ => ?_) (fun _ => ?_)
    · skip
      refine s_pick [0, 1] rfl ?_
      exact sm_exit (fun f h => h)
    · skip
      refine s_aload_n 0 dX11_rests_35 rfl rfl ?_
      refine s_getR 150 dX11_rests_36 rfl fl_11_160 rfl (S_102 hK) (R_102_84 hK) ?_
      refine s_bipush (v := 6) dX11_rests_39 rfl cB_6 ?_
      refine s_iload_n 1 dX11_rests_41 rfl rfl ?_
      refine s_imul dX11_rests_42 rfl ?_
      refine s_iload_n 2 dX11_rests_43 rfl rfl ?_
      refine s_iadd dX11_rests_44 rfl ?_
      refine s_aload_n 0 dX11_rests_45 rfl rfl ?_
      refine s_iload_n 1 dX11_rests_46 rfl rfl ?_
      refine s_iload_n 2 dX11_rests_47 rfl rfl ?_
      refine s_callV2_i1 dX11_rests_48 rfl lkV_RX11_634 (S_102 hK) (Nat.le_of_ble_eq_true rfl) (Nat.le_of_ble_eq_true rfl) (Nat.le_of_ble_eq_true rfl) (ct_x11_matchOf hK) (fun r4 I5 => ?_)
      refine sm_ck (fun g7 => ?_)
      refine s_iastL dX11_rests_51 rfl (S_150 hK) g7 (fun I6 => ?_)
      refine s_iincL 2 (c := 1) (fun v8 => [(2, .int v8), (0, .ref (X.1 + 102)), (1, .int c1)]) dX11_rests_52 rfl rfl cI_1 (by decide) (fun _ => rfl) (fun v8 => ?_)
      refine s_goto (tgt := 27) dX11_rests_55 rfl ?_
      refine s_pick [1, 2, 0] rfl ?_
      exact ih v8 I6
theorem x11_rests_L17_ok {X : WX} {n0 s0 : Nat} {L : ML} {R : MR} {S : MS} (hK : okm R S) : ∀ (n : Nat) (w1 : Int32) (I : MI), Sim X yX11_rests cX11_rests 3 (some .int) 8 193 n0 s0 17 [(0, .ref (X.1 + 102)), (1, .int w1)] [] (I, L, R, S) (x11_rests_L17 n w1 I) (fun b f => Ex X yX11_rests cX11_rests 3 (some .int) 8 193 n0 s0 64 [(0, .ref (X.1 + 102))] [] (b, L, R, S) f) := by
  intro n
  induction n with
  | zero =>
    intro w1 I
    exact sm_none
  | succ n ih =>
    intro w1 I
    change Sim _ _ _ _ _ _ _ _ _ _ _ _ _ (x11_rests_L17s (x11_rests_L17 n) w1 I) _
    unfold x11_rests_L17s
    refine s_iload_n 1 dX11_rests_17 rfl rfl ?_
    refine s_aload_n 0 dX11_rests_18 rfl rfl ?_
    refine s_getI dX11_rests_19 rfl fl_11_464 (S_102 hK) ?_
    refine s_icmp_ge (tgt := 64) dX11_rests_22 rfl rfl (fun _ => ?_) (fun _ => ?_)
    · skip
      refine s_pick [0] rfl ?_
      exact sm_exit (fun f h => h)
    · skip
      refine s_iconst (v := 0) dX11_rests_25 rfl cI_0 ?_
      refine s_istore_nL (fun v3 => [(2, .int v3), (0, .ref (X.1 + 102)), (1, .int w1)]) dX11_rests_26 rfl (by decide) (fun _ => rfl) (fun v3 => ?_)
      refine s_pick [1, 2, 0] rfl ?_
      refine sm_reg (x11_rests_L27_ok hK FU v3 I) (fun e9 => ?_)
      refine s_iincL 1 (c := 1) (fun v10 => [(1, .int v10), (0, .ref (X.1 + 102))]) dX11_rests_58 rfl rfl cI_1 (by decide) (fun _ => rfl) (fun v10 => ?_)
      refine s_goto (tgt := 17) dX11_rests_61 rfl ?_
      refine s_pick [1, 0] rfl ?_
      exact ih v10 e9
theorem x11_rests_L76_ok {X : WX} {n0 s0 : Nat} {c1 : Int32} {L : ML} {R : MR} {S : MS} (hK : okm R S) : ∀ (n : Nat) (w2 : Int32) (I : MI), Sim X yX11_rests cX11_rests 3 (some .int) 8 193 n0 s0 76 [(0, .ref (X.1 + 102)), (1, .int c1), (2, .int w2)] [] (I, L, R, S) (x11_rests_L76 c1 n w2 I) (fun b f => Ex X yX11_rests cX11_rests 3 (some .int) 8 193 n0 s0 127 [(0, .ref (X.1 + 102)), (1, .int c1)] [] (b, L, R, S) f) := by
  intro n
  induction n with
  | zero =>
    intro w2 I
    exact sm_none
  | succ n ih =>
    intro w2 I
    change Sim _ _ _ _ _ _ _ _ _ _ _ _ _ (x11_rests_L76s c1 (x11_rests_L76 c1 n) w2 I) _
    unfold x11_rests_L76s
    refine s_iload_n 2 dX11_rests_76 rfl rfl ?_
    refine s_aload_n 0 dX11_rests_77 rfl rfl ?_
    refine s_getI dX11_rests_78 rfl fl_11_464 (S_102 hK) ?_
    refine s_icmp_ge (tgt := 127) dX11_rests_81 rfl rfl (fun _ => ?_) (fun _ => ?_)
    · skip
      refine s_pick [0, 1] rfl ?_
      exact sm_exit (fun f h => h)
    · skip
      refine s_aload_n 0 dX11_rests_84 rfl rfl ?_
      refine s_iload_n 1 dX11_rests_85 rfl rfl ?_
      refine s_iload_n 2 dX11_rests_86 rfl rfl ?_
      refine s_callV2_i0 dX11_rests_87 rfl lkV_RX11_638 (S_102 hK) (Nat.le_of_ble_eq_true rfl) (Nat.le_of_ble_eq_true rfl) (Nat.le_of_ble_eq_true rfl) (ct_x11_doesRest hK) (fun r14 => ?_)
      refine s_if_ne (tgt := 96) dX11_rests_90 rfl rfl (fun _ => ?_) (fun _ => ?_)
      · skip
        refine s_aload_n 0 dX11_rests_96 rfl rfl ?_
        refine s_getR 149 dX11_rests_97 rfl fl_11_157 rfl (S_102 hK) (R_102_83 hK) ?_
        refine s_aload_n 0 dX11_rests_100 rfl rfl ?_
        refine s_getI dX11_rests_101 rfl fl_11_491 (S_102 hK) ?_
        refine s_bipush (v := 10) dX11_rests_104 rfl cB_10 ?_
        refine s_iload_n 1 dX11_rests_106 rfl rfl ?_
        refine s_imul dX11_rests_107 rfl ?_
        refine s_iload_n 2 dX11_rests_108 rfl rfl ?_
        refine s_iadd dX11_rests_109 rfl ?_
        refine sm_ck (fun g16 => ?_)
        refine s_iastL dX11_rests_110 rfl (S_149 hK) g16 (fun I15 => ?_)
        refine s_aload_n 0 dX11_rests_111 rfl rfl ?_
        refine s_dup dX11_rests_112 rfl rfl ?_
        refine s_getI dX11_rests_113 rfl fl_11_491 (S_102 hK) ?_
        refine s_iconst (v := 1) dX11_rests_116 rfl cI_1 ?_
        refine s_iadd dX11_rests_117 rfl ?_
        refine s_putIL dX11_rests_118 rfl fl_11_491 (S_102 hK) (fun I17 => ?_)
        refine s_iincL 2 (c := 1) (fun v18 => [(2, .int v18), (0, .ref (X.1 + 102)), (1, .int c1)]) dX11_rests_121 rfl rfl cI_1 (by decide) (fun _ => rfl) (fun v18 => ?_)
        refine s_goto (tgt := 76) dX11_rests_124 rfl ?_
        refine s_pick [1, 2, 0] rfl ?_
        exact ih v18 I17
      · skip
        refine s_goto (tgt := 121) dX11_rests_93 rfl ?_
        refine s_iincL 2 (c := 1) (fun v19 => [(2, .int v19), (0, .ref (X.1 + 102)), (1, .int c1)]) dX11_rests_121 rfl rfl cI_1 (by decide) (fun _ => rfl) (fun v19 => ?_)
        refine s_goto (tgt := 76) dX11_rests_124 rfl ?_
        refine s_pick [1, 2, 0] rfl ?_
        exact ih v19 I
theorem x11_rests_L66_ok {X : WX} {n0 s0 : Nat} {L : ML} {R : MR} {S : MS} (hK : okm R S) : ∀ (n : Nat) (w1 : Int32) (I : MI), Sim X yX11_rests cX11_rests 3 (some .int) 8 193 n0 s0 66 [(0, .ref (X.1 + 102)), (1, .int w1)] [] (I, L, R, S) (x11_rests_L66 n w1 I) (fun b f => Ex X yX11_rests cX11_rests 3 (some .int) 8 193 n0 s0 133 [(0, .ref (X.1 + 102))] [] (b, L, R, S) f) := by
  intro n
  induction n with
  | zero =>
    intro w1 I
    exact sm_none
  | succ n ih =>
    intro w1 I
    change Sim _ _ _ _ _ _ _ _ _ _ _ _ _ (x11_rests_L66s (x11_rests_L66 n) w1 I) _
    unfold x11_rests_L66s
    refine s_iload_n 1 dX11_rests_66 rfl rfl ?_
    refine s_aload_n 0 dX11_rests_67 rfl rfl ?_
    refine s_getI dX11_rests_68 rfl fl_11_464 (S_102 hK) ?_
    refine s_icmp_ge (tgt := 133) dX11_rests_71 rfl rfl (fun _ => ?_) (fun _ => ?_)
    · skip
      refine s_pick [0] rfl ?_
      exact sm_exit (fun f h => h)
    · skip
      refine s_iconst (v := 0) dX11_rests_74 rfl cI_0 ?_
      refine s_istore_nL (fun v13 => [(2, .int v13), (0, .ref (X.1 + 102)), (1, .int w1)]) dX11_rests_75 rfl (by decide) (fun _ => rfl) (fun v13 => ?_)
      refine s_pick [1, 2, 0] rfl ?_
      refine sm_reg (x11_rests_L76_ok hK FU v13 I) (fun e20 => ?_)
      refine s_iincL 1 (c := 1) (fun v21 => [(1, .int v21), (0, .ref (X.1 + 102))]) dX11_rests_127 rfl rfl cI_1 (by decide) (fun _ => rfl) (fun v21 => ?_)
      refine s_goto (tgt := 66) dX11_rests_130 rfl ?_
      refine s_pick [1, 0] rfl ?_
      exact ih v21 e20
theorem ct_x11_rests {X : WX} {I : MI} {L : ML} {R : MR} {S : MS} (hK : okm R S) : Ct X yX11_rests cX11_rests 3 (some .int) 8 193 [.ref (X.1 + 102)] (I, L, R, S) (x11_rests I) (fun r => (some (.int r.1), (r.2, L, R, S))) := by
  refine Ct.of (by decide) (Nat.le_of_ble_eq_true rfl) [(0, .ref (X.1 + 102))] rfl ?_
  unfold x11_rests
  refine s_aload_n 0 dX11_rests_0 rfl rfl ?_
  refine s_iconst (v := 0) dX11_rests_1 rfl cI_0 ?_
  refine s_putIL dX11_rests_2 rfl fl_11_491 (S_102 hK) (fun I1 => ?_)
  refine s_aload_n 0 dX11_rests_5 rfl rfl ?_
  refine s_getI dX11_rests_6 rfl fl_11_470 (S_102 hK) ?_
  refine s_iconst (v := 2) dX11_rests_9 rfl cI_2 ?_
  refine s_icmp_ge (tgt := 15) dX11_rests_10 rfl rfl (fun _ => ?_) (fun _ => ?_)
  · skip
    refine s_iconst (v := 0) dX11_rests_15 rfl cI_0 ?_
    refine s_istore_nL (fun v2 => [(1, .int v2), (0, .ref (X.1 + 102))]) dX11_rests_16 rfl (by decide) (fun _ => rfl) (fun v2 => ?_)
    refine s_pick [1, 0] rfl ?_
    refine sm_reg (x11_rests_L17_ok hK FU v2 I1) (fun e11 => ?_)
    refine s_iconst (v := 0) dX11_rests_64 rfl cI_0 ?_
    refine s_istore_nL (fun v12 => [(1, .int v12), (0, .ref (X.1 + 102))]) dX11_rests_65 rfl (by decide) (fun _ => rfl) (fun v12 => ?_)
    refine s_pick [1, 0] rfl ?_
    refine sm_reg (x11_rests_L66_ok hK FU v12 e11) (fun e22 => ?_)
    refine s_aload_n 0 dX11_rests_133 rfl rfl ?_
    refine s_getI dX11_rests_134 rfl fl_11_491 (S_102 hK) ?_
    exact s_iret dX11_rests_137 rfl (fun f h => h)
  · skip
    refine s_iconst (v := 0) dX11_rests_13 rfl cI_0 ?_
    exact s_iret dX11_rests_14 rfl (fun f h => h)
noncomputable def x11_comes_L10s (c5 : Int32) (rec : Int32 → MI → Option (MI)) (w6 : Int32) (I : MI) : Option (MI) :=
if w6 < 0 then (
some I) else
b2 (x11_wavesTo ((c5 >>> ((2 * w6) &&& 31)) &&& 3) I) fun r3 I4 =>
lt (w6 + (-1)) fun v5 =>
rec v5 I4
noncomputable def x11_comes_L10 (c5 : Int32) : Nat → Int32 → MI → Option (MI)
  | 0 => fun _ _ => none
  | n + 1 => x11_comes_L10s c5 (x11_comes_L10 c5 n)
noncomputable def x11_comes (p1 : Int32) (p2 : Int32) (p3 : Int32) (p4 : Int32) (p5 : Int32) (I : MI) : Option (Int32 × MI) :=
b1 (x11_load I) fun I1 =>
lt (p4 - 1) fun v2 =>
b1 (x11_comes_L10 p5 FU v2 I1) fun e6 =>
ck (vp_in (5 * p1) 128) <|
if (e6 137 (ix (5 * p1))) = p2 then (
ck (vp_in ((5 * p1) + 1) 128) <|
if (e6 137 (ix ((5 * p1) + 1))) = p3 then (
some ((1 : Int32), e6)) else
some ((0 : Int32), e6)) else
some ((0 : Int32), e6)
theorem x11_comes_L10_ok {X : WX} {n0 s0 : Nat} {c1 : Int32} {c2 : Int32} {c3 : Int32} {c5 : Int32} {L : ML} {R : MR} {S : MS} (hK : okm R S) : ∀ (n : Nat) (w6 : Int32) (I : MI), Sim X yX11_comes cX11_comes 7 (some .boolean) 4 98 n0 s0 10 [(0, .ref (X.1 + 102)), (1, .int c1), (2, .int c2), (3, .int c3), (5, .int c5), (6, .int w6)] [] (I, L, R, S) (x11_comes_L10 c5 n w6 I) (fun b f => Ex X yX11_comes cX11_comes 7 (some .boolean) 4 98 n0 s0 35 [(0, .ref (X.1 + 102)), (1, .int c1), (2, .int c2), (3, .int c3)] [] (b, L, R, S) f) := by
  intro n
  induction n with
  | zero =>
    intro w6 I
    exact sm_none
  | succ n ih =>
    intro w6 I
    change Sim _ _ _ _ _ _ _ _ _ _ _ _ _ (x11_comes_L10s c5 (x11_comes_L10 c5 n) w6 I) _
    unfold x11_comes_L10s
    refine s_iload 5 dX11_comes_10 rfl rfl ?_
    refine s_if_lt (tgt := 35) dX11_comes_12 rfl rfl (fun _ => ?_) (fun _ => ?_)
    · skip
      refine s_pick [0, 1, 2, 3] rfl ?_
      exact sm_exit (fun f h => h)
    · skip
      refine s_aload_n 0 dX11_comes_15 rfl rfl ?_
      refine s_iload 4 dX11_comes_16 rfl rfl ?_
      refine s_iconst (v := 2) dX11_comes_18 rfl cI_2 ?_
      refine s_iload 5 dX11_comes_19 rfl rfl ?_
      refine s_imul dX11_comes_21 rfl ?_
      refine s_ishr dX11_comes_22 rfl ?_
      refine s_iconst (v := 3) dX11_comes_23 rfl cI_3 ?_
      refine s_iand dX11_comes_24 rfl ?_
      refine s_callV1_i1 dX11_comes_25 rfl lkV_RX11_581 (S_102 hK) (Nat.le_of_ble_eq_true rfl) (Nat.le_of_ble_eq_true rfl) (Nat.le_of_ble_eq_true rfl) (ct_x11_wavesTo hK) (fun r3 I4 => ?_)
      refine s_pop dX11_comes_28 rfl rfl ?_
      refine s_iincL 5 (c := (-1)) (fun v5 => [(6, .int v5), (0, .ref (X.1 + 102)), (1, .int c1), (2, .int c2), (3, .int c3), (5, .int c5)]) dX11_comes_29 rfl rfl cI_m1 (by decide) (fun _ => rfl) (fun v5 => ?_)
      refine s_goto (tgt := 10) dX11_comes_32 rfl ?_
      refine s_pick [1, 2, 3, 4, 5, 0] rfl ?_
      exact ih v5 I4
theorem ct_x11_comes {X : WX} {p1 : Int32} {p2 : Int32} {p3 : Int32} {p4 : Int32} {p5 : Int32} {I : MI} {L : ML} {R : MR} {S : MS} (hK : okm R S) : Ct X yX11_comes cX11_comes 7 (some .boolean) 4 98 [.ref (X.1 + 102), .int p1, .int p2, .int p3, .int p4, .int p5] (I, L, R, S) (x11_comes p1 p2 p3 p4 p5 I) (fun r => (some (.int r.1), (r.2, L, R, S))) := by
  refine Ct.of (by decide) (Nat.le_of_ble_eq_true rfl) [(0, .ref (X.1 + 102)), (1, .int p1), (2, .int p2), (3, .int p3), (4, .int p4), (5, .int p5)] rfl ?_
  unfold x11_comes
  refine s_aload_n 0 dX11_comes_0 rfl rfl ?_
  refine s_callV0_v1 dX11_comes_1 rfl lkV_RX11_566 (S_102 hK) (Nat.le_of_ble_eq_true rfl) (Nat.le_of_ble_eq_true rfl) (Nat.le_of_ble_eq_true rfl) (ct_x11_load hK) (fun I1 => ?_)
  refine s_iload 4 dX11_comes_4 rfl rfl ?_
  refine s_iconst (v := 1) dX11_comes_6 rfl cI_1 ?_
  refine s_isub dX11_comes_7 rfl ?_
  refine s_istoreL (fun v2 => [(6, .int v2), (0, .ref (X.1 + 102)), (1, .int p1), (2, .int p2), (3, .int p3), (4, .int p4), (5, .int p5)]) dX11_comes_8 rfl (by decide) (fun _ => rfl) (fun v2 => ?_)
  refine s_pick [1, 2, 3, 4, 6, 0] rfl ?_
  refine sm_reg (x11_comes_L10_ok hK FU v2 I1) (fun e6 => ?_)
  refine s_aload_n 0 dX11_comes_35 rfl rfl ?_
  refine s_getR 137 dX11_comes_36 rfl fl_11_121 rfl (S_102 hK) (R_102_66 hK) ?_
  refine s_iconst (v := 5) dX11_comes_39 rfl cI_5 ?_
  refine s_iload_n 1 dX11_comes_40 rfl rfl ?_
  refine s_imul dX11_comes_41 rfl ?_
  refine sm_ck (fun g7 => ?_)
  refine s_iald dX11_comes_42 rfl (S_137 hK) g7 ?_
  refine s_iload_n 2 dX11_comes_43 rfl rfl ?_
  refine s_icmp_ne (tgt := 65) dX11_comes_44 rfl rfl (fun _ => ?_) (fun _ => ?_)
  · skip
    refine s_iconst (v := 0) dX11_comes_65 rfl cI_0 ?_
    exact s_zret dX11_comes_66 rfl (Or.inl rfl) (fun f h => h)
  · skip
    refine s_aload_n 0 dX11_comes_47 rfl rfl ?_
    refine s_getR 137 dX11_comes_48 rfl fl_11_121 rfl (S_102 hK) (R_102_66 hK) ?_
    refine s_iconst (v := 5) dX11_comes_51 rfl cI_5 ?_
    refine s_iload_n 1 dX11_comes_52 rfl rfl ?_
    refine s_imul dX11_comes_53 rfl ?_
    refine s_iconst (v := 1) dX11_comes_54 rfl cI_1 ?_
    refine s_iadd dX11_comes_55 rfl ?_
    refine sm_ck (fun g8 => ?_)
    refine s_iald dX11_comes_56 rfl (S_137 hK) g8 ?_
    refine s_iload_n 3 dX11_comes_57 rfl rfl ?_
    refine s_icmp_ne (tgt := 65) dX11_comes_58 rfl rfl (fun _ => ?_) (fun _ => ?_)
    · skip
      refine s_iconst (v := 0) dX11_comes_65 rfl cI_0 ?_
      exact s_zret dX11_comes_66 rfl (Or.inl rfl) (fun f h => h)
    · skip
      refine s_iconst (v := 1) dX11_comes_61 rfl cI_1 ?_
      refine s_goto (tgt := 66) dX11_comes_62 rfl ?_
      exact s_zret dX11_comes_66 rfl (Or.inr rfl) (fun f h => h)
noncomputable def x11_waves_L81s (c4 : Int32) (c5 : Int32) (rec : Int32 → MI → Option (MI)) (w6 : Int32) (I : MI) : Option (MI) :=
if w6 < c4 then (
ck (vp_in w6 40) <|
lt (wI I 149 (ix w6) ((c5 >>> ((2 * ((c4 - 1) - w6)) &&& 31)) &&& 3)) fun I11 =>
lt (w6 + 1) fun v13 =>
rec v13 I11) else
some I
noncomputable def x11_waves_L81 (c4 : Int32) (c5 : Int32) : Nat → Int32 → MI → Option (MI)
  | 0 => fun _ _ => none
  | n + 1 => x11_waves_L81s c4 c5 (x11_waves_L81 c4 c5 n)
noncomputable def x11_waves_L50s (c1 : Int32) (c2 : Int32) (c3 : Int32) (c4 : Int32) (rec : Int32 → MI → Option ((MI) ⊕ (Int32 × MI))) (w5 : Int32) (I : MI) : Option ((MI) ⊕ (Int32 × MI)) :=
if w5 < ((1 : Int32) <<< ((2 * c4) &&& 31)) then (
b2 (x11_comes c1 c2 c3 c4 w5 I) fun r8 I9 =>
if r8 = 0 then (
lt (w5 + 1) fun v16 =>
rec v16 I9) else
lt (0 : Int32) fun v10 =>
b1 (x11_waves_L81 c4 w5 FU v10 I9) fun e14 =>
lt (wI e14 102 85 c4) fun I15 =>
some (.inr (c4, I15))) else
some (.inl I)
noncomputable def x11_waves_L50 (c1 : Int32) (c2 : Int32) (c3 : Int32) (c4 : Int32) : Nat → Int32 → MI → Option ((MI) ⊕ (Int32 × MI))
  | 0 => fun _ _ => none
  | n + 1 => x11_waves_L50s c1 c2 c3 c4 (x11_waves_L50 c1 c2 c3 c4 n)
noncomputable def x11_waves_L40s (c1 : Int32) (c2 : Int32) (c3 : Int32) (rec : Int32 → MI → Option ((MI) ⊕ (Int32 × MI))) (w4 : Int32) (I : MI) : Option ((MI) ⊕ (Int32 × MI)) :=
if 6 < w4 then (
some (.inl I)) else
lt (0 : Int32) fun v7 =>
bF (x11_waves_L50 c1 c2 c3 w4 FU v7 I) fun e17 =>
lt (w4 + 1) fun v18 =>
rec v18 e17
noncomputable def x11_waves_L40 (c1 : Int32) (c2 : Int32) (c3 : Int32) : Nat → Int32 → MI → Option ((MI) ⊕ (Int32 × MI))
  | 0 => fun _ _ => none
  | n + 1 => x11_waves_L40s c1 c2 c3 (x11_waves_L40 c1 c2 c3 n)
noncomputable def x11_waves (p1 : Int32) (p2 : Int32) (p3 : Int32) (I : MI) : Option (Int32 × MI) :=
lt (wI I 102 85 (0 : Int32)) fun I1 =>
b1 (x11_load I1) fun I2 =>
b1 (x11_isApple p1 I2) fun r3 =>
if r3 = 0 then (
some ((-2 : Int32), I2)) else
b1 (x11_isCell p2 p3 I2) fun r4 =>
if r4 = 0 then (
some ((-2 : Int32), I2)) else
b1 (x11_isAfloat p1 I2) fun r5 =>
if r5 = 0 then (
some ((-2 : Int32), I2)) else
lt (0 : Int32) fun v6 =>
bE (x11_waves_L40 p1 p2 p3 FU v6 I2) fun e19 =>
some ((-1 : Int32), e19)
theorem x11_waves_L81_ok {X : WX} {n0 s0 : Nat} {c4 : Int32} {c5 : Int32} {L : ML} {R : MR} {S : MS} (hK : okm R S) : ∀ (n : Nat) (w6 : Int32) (I : MI), Sim X yX11_waves cX11_waves 7 (some .int) 5 124 n0 s0 81 [(0, .ref (X.1 + 102)), (4, .int c4), (5, .int c5), (6, .int w6)] [] (I, L, R, S) (x11_waves_L81 c4 c5 n w6 I) (fun b f => Ex X yX11_waves cX11_waves 7 (some .int) 5 124 n0 s0 115 [(0, .ref (X.1 + 102)), (4, .int c4)] [] (b, L, R, S) f) := by
  intro n
  induction n with
  | zero =>
    intro w6 I
    exact sm_none
  | succ n ih =>
    intro w6 I
    change Sim _ _ _ _ _ _ _ _ _ _ _ _ _ (x11_waves_L81s c4 c5 (x11_waves_L81 c4 c5 n) w6 I) _
    unfold x11_waves_L81s
    refine s_iload 3 dX11_waves_81 rfl rfl ?_
    refine s_iload 1 dX11_waves_83 rfl rfl ?_
    refine s_icmp_ge (tgt := 115) dX11_waves_85 rfl rfl (fun _ => ?_) (fun _ => ?_)
    · skip
      refine s_pick [0, 1] rfl ?_
      exact sm_exit (fun f h => h)
    · skip
      refine s_aload_n 0 dX11_waves_88 rfl rfl ?_
      refine s_getR 149 dX11_waves_89 rfl fl_11_157 rfl (S_102 hK) (R_102_83 hK) ?_
      refine s_iload 3 dX11_waves_92 rfl rfl ?_
      refine s_iload 2 dX11_waves_94 rfl rfl ?_
      refine s_iconst (v := 2) dX11_waves_96 rfl cI_2 ?_
      refine s_iload 1 dX11_waves_97 rfl rfl ?_
      refine s_iconst (v := 1) dX11_waves_99 rfl cI_1 ?_
      refine s_isub dX11_waves_100 rfl ?_
      refine s_iload 3 dX11_waves_101 rfl rfl ?_
      refine s_isub dX11_waves_103 rfl ?_
      refine s_imul dX11_waves_104 rfl ?_
      refine s_ishr dX11_waves_105 rfl ?_
      refine s_iconst (v := 3) dX11_waves_106 rfl cI_3 ?_
      refine s_iand dX11_waves_107 rfl ?_
      refine sm_ck (fun g12 => ?_)
      refine s_iastL dX11_waves_108 rfl (S_149 hK) g12 (fun I11 => ?_)
      refine s_iincL 3 (c := 1) (fun v13 => [(6, .int v13), (0, .ref (X.1 + 102)), (4, .int c4), (5, .int c5)]) dX11_waves_109 rfl rfl cI_1 (by decide) (fun _ => rfl) (fun v13 => ?_)
      refine s_goto (tgt := 81) dX11_waves_112 rfl ?_
      refine s_pick [1, 2, 3, 0] rfl ?_
      exact ih v13 I11
theorem x11_waves_L50_ok {X : WX} {n0 s0 : Nat} {c1 : Int32} {c2 : Int32} {c3 : Int32} {c4 : Int32} {L : ML} {R : MR} {S : MS} (hK : okm R S) : ∀ (n : Nat) (w5 : Int32) (I : MI), Sim X yX11_waves cX11_waves 7 (some .int) 5 124 n0 s0 50 [(0, .ref (X.1 + 102)), (1, .int c1), (2, .int c2), (3, .int c3), (4, .int c4), (5, .int w5)] [] (I, L, R, S) (x11_waves_L50 c1 c2 c3 c4 n w5 I) (SE (fun b f => Ex X yX11_waves cX11_waves 7 (some .int) 5 124 n0 s0 130 [(0, .ref (X.1 + 102)), (1, .int c1), (2, .int c2), (3, .int c3), (4, .int c4)] [] (b, L, R, S) f) (fun a f => f = (fun r => (some (.int r.1), (r.2, L, R, S))) a)) := by
  intro n
  induction n with
  | zero =>
    intro w5 I
    exact sm_none
  | succ n ih =>
    intro w5 I
    change Sim _ _ _ _ _ _ _ _ _ _ _ _ _ (x11_waves_L50s c1 c2 c3 c4 (x11_waves_L50 c1 c2 c3 c4 n) w5 I) _
    unfold x11_waves_L50s
    refine s_iload 5 dX11_waves_50 rfl rfl ?_
    refine s_iconst (v := 1) dX11_waves_52 rfl cI_1 ?_
    refine s_iconst (v := 2) dX11_waves_53 rfl cI_2 ?_
    refine s_iload 4 dX11_waves_54 rfl rfl ?_
    refine s_imul dX11_waves_56 rfl ?_
    refine s_ishl dX11_waves_57 rfl ?_
    refine s_icmp_ge (tgt := 130) dX11_waves_58 rfl rfl (fun _ => ?_) (fun _ => ?_)
    · skip
      refine s_pick [0, 1, 2, 3, 4] rfl ?_
      exact sm_exit (fun f h => h)
    · skip
      refine s_aload_n 0 dX11_waves_61 rfl rfl ?_
      refine s_iload_n 1 dX11_waves_62 rfl rfl ?_
      refine s_iload_n 2 dX11_waves_63 rfl rfl ?_
      refine s_iload_n 3 dX11_waves_64 rfl rfl ?_
      refine s_iload 4 dX11_waves_65 rfl rfl ?_
      refine s_iload 5 dX11_waves_67 rfl rfl ?_
      refine s_callV5_i1 dX11_waves_69 rfl lkV_RX11_641 (S_102 hK) (Nat.le_of_ble_eq_true rfl) (Nat.le_of_ble_eq_true rfl) (Nat.le_of_ble_eq_true rfl) (ct_x11_comes hK) (fun r8 I9 => ?_)
      refine s_if_ne (tgt := 78) dX11_waves_72 rfl rfl (fun _ => ?_) (fun _ => ?_)
      · skip
        refine s_iconst (v := 0) dX11_waves_78 rfl cI_0 ?_
        refine s_istoreL (fun v10 => [(6, .int v10), (0, .ref (X.1 + 102)), (1, .int c1), (2, .int c2), (3, .int c3), (4, .int c4), (5, .int w5)]) dX11_waves_79 rfl (by decide) (fun _ => rfl) (fun v10 => ?_)
        refine s_pick [1, 5, 6, 0] rfl ?_
        refine sm_reg (x11_waves_L81_ok hK FU v10 I9) (fun e14 => ?_)
        refine s_aload_n 0 dX11_waves_115 rfl rfl ?_
        refine s_iload 1 dX11_waves_116 rfl rfl ?_
        refine s_putIL dX11_waves_118 rfl fl_11_491 (S_102 hK) (fun I15 => ?_)
        refine s_iload 1 dX11_waves_121 rfl rfl ?_
        exact s_iret dX11_waves_123 rfl (fun f h => h)
      · skip
        refine s_goto (tgt := 124) dX11_waves_75 rfl ?_
        refine s_iincL 5 (c := 1) (fun v16 => [(5, .int v16), (0, .ref (X.1 + 102)), (1, .int c1), (2, .int c2), (3, .int c3), (4, .int c4)]) dX11_waves_124 rfl rfl cI_1 (by decide) (fun _ => rfl) (fun v16 => ?_)
        refine s_goto (tgt := 50) dX11_waves_127 rfl ?_
        refine s_pick [1, 2, 3, 4, 5, 0] rfl ?_
        exact ih v16 I9
theorem x11_waves_L40_ok {X : WX} {n0 s0 : Nat} {c1 : Int32} {c2 : Int32} {c3 : Int32} {L : ML} {R : MR} {S : MS} (hK : okm R S) : ∀ (n : Nat) (w4 : Int32) (I : MI), Sim X yX11_waves cX11_waves 7 (some .int) 5 124 n0 s0 40 [(0, .ref (X.1 + 102)), (1, .int c1), (2, .int c2), (3, .int c3), (4, .int w4)] [] (I, L, R, S) (x11_waves_L40 c1 c2 c3 n w4 I) (SE (fun b f => Ex X yX11_waves cX11_waves 7 (some .int) 5 124 n0 s0 136 [] [] (b, L, R, S) f) (fun a f => f = (fun r => (some (.int r.1), (r.2, L, R, S))) a)) := by
  intro n
  induction n with
  | zero =>
    intro w4 I
    exact sm_none
  | succ n ih =>
    intro w4 I
    change Sim _ _ _ _ _ _ _ _ _ _ _ _ _ (x11_waves_L40s c1 c2 c3 (x11_waves_L40 c1 c2 c3 n) w4 I) _
    unfold x11_waves_L40s
    refine s_iload 4 dX11_waves_40 rfl rfl ?_
    refine s_bipush (v := 6) dX11_waves_42 rfl cB_6 ?_
    refine s_icmp_gt (tgt := 136) dX11_waves_44 rfl rfl (fun _ => ?_) (fun _ => ?_)
    · skip
      refine s_pick [] rfl ?_
      exact sm_exit (fun f h => h)
    · skip
      refine s_iconst (v := 0) dX11_waves_47 rfl cI_0 ?_
      refine s_istoreL (fun v7 => [(5, .int v7), (0, .ref (X.1 + 102)), (1, .int c1), (2, .int c2), (3, .int c3), (4, .int w4)]) dX11_waves_48 rfl (by decide) (fun _ => rfl) (fun v7 => ?_)
      refine s_pick [1, 2, 3, 4, 5, 0] rfl ?_
      refine sm_regF (x11_waves_L50_ok hK FU v7 I) (fun e17 => ?_)
      refine s_iincL 4 (c := 1) (fun v18 => [(4, .int v18), (0, .ref (X.1 + 102)), (1, .int c1), (2, .int c2), (3, .int c3)]) dX11_waves_130 rfl rfl cI_1 (by decide) (fun _ => rfl) (fun v18 => ?_)
      refine s_goto (tgt := 40) dX11_waves_133 rfl ?_
      refine s_pick [1, 2, 3, 4, 0] rfl ?_
      exact ih v18 e17
theorem ct_x11_waves {X : WX} {p1 : Int32} {p2 : Int32} {p3 : Int32} {I : MI} {L : ML} {R : MR} {S : MS} (hK : okm R S) : Ct X yX11_waves cX11_waves 7 (some .int) 5 124 [.ref (X.1 + 102), .int p1, .int p2, .int p3] (I, L, R, S) (x11_waves p1 p2 p3 I) (fun r => (some (.int r.1), (r.2, L, R, S))) := by
  refine Ct.of (by decide) (Nat.le_of_ble_eq_true rfl) [(0, .ref (X.1 + 102)), (1, .int p1), (2, .int p2), (3, .int p3)] rfl ?_
  unfold x11_waves
  refine s_aload_n 0 dX11_waves_0 rfl rfl ?_
  refine s_iconst (v := 0) dX11_waves_1 rfl cI_0 ?_
  refine s_putIL dX11_waves_2 rfl fl_11_491 (S_102 hK) (fun I1 => ?_)
  refine s_aload_n 0 dX11_waves_5 rfl rfl ?_
  refine s_callV0_v1 dX11_waves_6 rfl lkV_RX11_566 (S_102 hK) (Nat.le_of_ble_eq_true rfl) (Nat.le_of_ble_eq_true rfl) (Nat.le_of_ble_eq_true rfl) (ct_x11_load hK) (fun I2 => ?_)
  refine s_aload_n 0 dX11_waves_9 rfl rfl ?_
  refine s_iload_n 1 dX11_waves_10 rfl rfl ?_
  refine s_callV1_i0 dX11_waves_11 rfl lkV_RX11_560 (S_102 hK) (Nat.le_of_ble_eq_true rfl) (Nat.le_of_ble_eq_true rfl) (Nat.le_of_ble_eq_true rfl) (ct_x11_isApple hK) (fun r3 => ?_)
  refine s_if_eq (tgt := 34) dX11_waves_14 rfl rfl (fun _ => ?_) (fun _ => ?_)
  · skip
    refine s_bipush (v := (-2)) dX11_waves_34 rfl cB_m2 ?_
    exact s_iret dX11_waves_36 rfl (fun f h => h)
  · skip
    refine s_aload_n 0 dX11_waves_17 rfl rfl ?_
    refine s_iload_n 2 dX11_waves_18 rfl rfl ?_
    refine s_iload_n 3 dX11_waves_19 rfl rfl ?_
    refine s_callV2_i0 dX11_waves_20 rfl lkV_RX11_526 (S_102 hK) (Nat.le_of_ble_eq_true rfl) (Nat.le_of_ble_eq_true rfl) (Nat.le_of_ble_eq_true rfl) (ct_x11_isCell hK) (fun r4 => ?_)
    refine s_if_eq (tgt := 34) dX11_waves_23 rfl rfl (fun _ => ?_) (fun _ => ?_)
    · skip
      refine s_bipush (v := (-2)) dX11_waves_34 rfl cB_m2 ?_
      exact s_iret dX11_waves_36 rfl (fun f h => h)
    · skip
      refine s_aload_n 0 dX11_waves_26 rfl rfl ?_
      refine s_iload_n 1 dX11_waves_27 rfl rfl ?_
      refine s_callV1_i0 dX11_waves_28 rfl lkV_RX11_501 (S_102 hK) (Nat.le_of_ble_eq_true rfl) (Nat.le_of_ble_eq_true rfl) (Nat.le_of_ble_eq_true rfl) (ct_x11_isAfloat hK) (fun r5 => ?_)
      refine s_if_ne (tgt := 37) dX11_waves_31 rfl rfl (fun _ => ?_) (fun _ => ?_)
      · skip
        refine s_iconst (v := 0) dX11_waves_37 rfl cI_0 ?_
        refine s_istoreL (fun v6 => [(4, .int v6), (0, .ref (X.1 + 102)), (1, .int p1), (2, .int p2), (3, .int p3)]) dX11_waves_38 rfl (by decide) (fun _ => rfl) (fun v6 => ?_)
        refine s_pick [1, 2, 3, 4, 0] rfl ?_
        refine sm_regE (x11_waves_L40_ok hK FU v6 I2) (fun e19 => ?_)
        refine s_iconst (v := (-1)) dX11_waves_136 rfl cI_m1 ?_
        exact s_iret dX11_waves_137 rfl (fun f h => h)
      · skip
        refine s_bipush (v := (-2)) dX11_waves_34 rfl cB_m2 ?_
        exact s_iret dX11_waves_36 rfl (fun f h => h)
noncomputable def x11_lasts (p1 : Int32) (p2 : Int32) (I : MI) : Option (Int32 × MI) :=
b2 (x11_oddsOf p1 p2 (0 : Int32) I) fun r1 I2 =>
lt r1 fun v3 =>
if v3 = 0 then (
some ((9999 : Int32), I2)) else
ck (¬ v3 = 0) <|
some ((1000 / v3), I2)
theorem ct_x11_lasts {X : WX} {p1 : Int32} {p2 : Int32} {I : MI} {L : ML} {R : MR} {S : MS} (hK : okm R S) : Ct X yX11_lasts cX11_lasts 4 (some .int) 5 120 [.ref (X.1 + 102), .int p1, .int p2] (I, L, R, S) (x11_lasts p1 p2 I) (fun r => (some (.int r.1), (r.2, L, R, S))) := by
  refine Ct.of (by decide) (Nat.le_of_ble_eq_true rfl) [(0, .ref (X.1 + 102)), (1, .int p1), (2, .int p2)] rfl ?_
  unfold x11_lasts
  refine s_aload_n 0 dX11_lasts_0 rfl rfl ?_
  refine s_iload_n 1 dX11_lasts_1 rfl rfl ?_
  refine s_iload_n 2 dX11_lasts_2 rfl rfl ?_
  refine s_iconst (v := 0) dX11_lasts_3 rfl cI_0 ?_
  refine s_callV3_i1 dX11_lasts_4 rfl lkV_RX11_538 (S_102 hK) (Nat.le_of_ble_eq_true rfl) (Nat.le_of_ble_eq_true rfl) (Nat.le_of_ble_eq_true rfl) (ct_x11_oddsOf hK) (fun r1 I2 => ?_)
  refine s_istore_nL (fun v3 => [(3, .int v3), (0, .ref (X.1 + 102)), (1, .int p1), (2, .int p2)]) dX11_lasts_7 rfl (by decide) (fun _ => rfl) (fun v3 => ?_)
  refine s_iload_n 0 dX11_lasts_8 rfl rfl ?_
  refine s_if_ne (tgt := 18) dX11_lasts_9 rfl rfl (fun _ => ?_) (fun _ => ?_)
  · skip
    refine s_sipush (v := 1000) dX11_lasts_18 rfl cS_1000 ?_
    refine s_iload_n 0 dX11_lasts_21 rfl rfl ?_
    refine sm_ck (fun g4 => ?_)
    refine s_idiv dX11_lasts_22 rfl g4 ?_
    exact s_iret dX11_lasts_23 rfl (fun f h => h)
  · skip
    refine s_sipush (v := 9999) dX11_lasts_12 rfl cS_9999 ?_
    refine s_goto (tgt := 23) dX11_lasts_15 rfl ?_
    exact s_iret dX11_lasts_23 rfl (fun f h => h)
noncomputable def x11_fill_L63s (c1 : Int32) (c6 : Int32) (rec : Int32 → Int32 → Int32 → MI → Option (Int32 × Int32 × MI)) (w7 : Int32) (w8 : Int32) (w9 : Int32) (I : MI) : Option (Int32 × Int32 × MI) :=
if w9 < (I 102 60) then (
if ((c6 >>> (w9 &&& 31)) &&& 1) = 0 then (
lt (w9 + 1) fun v19 =>
rec w7 w8 v19 I) else
b1 (x11_isAfloat w9 I) fun r11 =>
b1 (
if r11 = 0 then (
some (1000 : Int32)) else
ck (vp_in ((5 * w9) + 4) 128) <|
some (I 137 (ix ((5 * w9) + 4)))) fun e12 =>
lt (w7 + e12) fun v14 =>
b2 (x11_lasts c1 w9 I) fun r15 I16 =>
lt (w8 + r15) fun v17 =>
lt (w9 + 1) fun v18 =>
rec v14 v17 v18 I16) else
some (w7, w8, I)
noncomputable def x11_fill_L63 (c1 : Int32) (c6 : Int32) : Nat → Int32 → Int32 → Int32 → MI → Option (Int32 × Int32 × MI)
  | 0 => fun _ _ _ _ => none
  | n + 1 => x11_fill_L63s c1 c6 (x11_fill_L63 c1 c6 n)
noncomputable def x11_fill_L43s (c1 : Int32) (c2 : Int32) (rec : Int32 → Int32 → Int32 → MI → Option (Int32 × Int32 × MI)) (w4 : Int32) (w5 : Int32) (w6 : Int32) (I : MI) : Option (Int32 × Int32 × MI) :=
if w6 < ((1 : Int32) <<< ((I 102 60) &&& 31)) then (
lt (0 : Int32) fun v8 =>
lt (0 : Int32) fun v9 =>
lt (0 : Int32) fun v10 =>
b1 (x11_fill_L63 c1 w6 FU v8 v9 v10 I) fun e20 =>
if c2 < e20.1 then (
lt (w6 + 1) fun v21 =>
rec w4 w5 v21 e20.2.2) else
if w5 < e20.2.1 then (
lt w6 fun v22 =>
lt e20.2.1 fun v23 =>
lt (w6 + 1) fun v24 =>
rec v22 v23 v24 e20.2.2) else
lt (w6 + 1) fun v25 =>
rec w4 w5 v25 e20.2.2) else
some (w4, w5, I)
noncomputable def x11_fill_L43 (c1 : Int32) (c2 : Int32) : Nat → Int32 → Int32 → Int32 → MI → Option (Int32 × Int32 × MI)
  | 0 => fun _ _ _ _ => none
  | n + 1 => x11_fill_L43s c1 c2 (x11_fill_L43 c1 c2 n)
noncomputable def x11_fill (p1 : Int32) (p2 : Int32) (p3 : Int32) (I : MI) : Option (Int32 × MI) :=
b1 (x11_isBobber p1 I) fun r1 =>
if r1 = 0 then (
some ((-1 : Int32), I)) else
b1 (x11_isIn p2 (0 : Int32) (999 : Int32) I) fun r2 =>
if r2 = 0 then (
some ((-1 : Int32), I)) else
b1 (x11_isIn p3 (0 : Int32) (1 : Int32) I) fun r3 =>
if r3 = 0 then (
some ((-1 : Int32), I)) else
b1 (x11_load I) fun I4 =>
lt (0 : Int32) fun v5 =>
lt (0 : Int32) fun v6 =>
lt (1 : Int32) fun v7 =>
b1 (x11_fill_L43 p1 p2 FU v5 v6 v7 I4) fun e26 =>
if p3 = 0 then (
some (e26.1, e26.2.2)) else
some (e26.2.1, e26.2.2)
theorem x11_fill_L63_ok {X : WX} {n0 s0 : Nat} {c1 : Int32} {c2 : Int32} {c3 : Int32} {c4 : Int32} {c5 : Int32} {c6 : Int32} {L : ML} {R : MR} {S : MS} (hK : okm R S) : ∀ (n : Nat) (w7 : Int32) (w8 : Int32) (w9 : Int32) (I : MI), Sim X yX11_fill cX11_fill 10 (some .int) 6 143 n0 s0 63 [(0, .ref (X.1 + 102)), (1, .int c1), (2, .int c2), (3, .int c3), (4, .int c4), (5, .int c5), (6, .int c6), (7, .int w7), (8, .int w8), (9, .int w9)] [] (I, L, R, S) (x11_fill_L63 c1 c6 n w7 w8 w9 I) (fun b f => Ex X yX11_fill cX11_fill 10 (some .int) 6 143 n0 s0 134 [(0, .ref (X.1 + 102)), (1, .int c1), (2, .int c2), (3, .int c3), (4, .int c4), (5, .int c5), (6, .int c6), (7, .int b.1), (8, .int b.2.1)] [] (b.2.2, L, R, S) f) := by
  intro n
  induction n with
  | zero =>
    intro w7 w8 w9 I
    exact sm_none
  | succ n ih =>
    intro w7 w8 w9 I
    change Sim _ _ _ _ _ _ _ _ _ _ _ _ _ (x11_fill_L63s c1 c6 (x11_fill_L63 c1 c6 n) w7 w8 w9 I) _
    unfold x11_fill_L63s
    refine s_iload 9 dX11_fill_63 rfl rfl ?_
    refine s_aload_n 0 dX11_fill_65 rfl rfl ?_
    refine s_getI dX11_fill_66 rfl fl_11_467 (S_102 hK) ?_
    refine s_icmp_ge (tgt := 134) dX11_fill_69 rfl rfl (fun _ => ?_) (fun _ => ?_)
    · skip
      refine s_pick [0, 1, 2, 3, 4, 5, 6, 7, 8] rfl ?_
      exact sm_exit (fun f h => h)
    · skip
      refine s_iload 6 dX11_fill_72 rfl rfl ?_
      refine s_iload 9 dX11_fill_74 rfl rfl ?_
      refine s_ishr dX11_fill_76 rfl ?_
      refine s_iconst (v := 1) dX11_fill_77 rfl cI_1 ?_
      refine s_iand dX11_fill_78 rfl ?_
      refine s_if_ne (tgt := 85) dX11_fill_79 rfl rfl (fun _ => ?_) (fun _ => ?_)
      · skip
        refine s_iload 7 dX11_fill_85 rfl rfl ?_
        refine s_aload_n 0 dX11_fill_87 rfl rfl ?_
        refine s_iload 9 dX11_fill_88 rfl rfl ?_
        refine s_callV1_i0 dX11_fill_90 rfl lkV_RX11_501 (S_102 hK) (Nat.le_of_ble_eq_true rfl) (Nat.le_of_ble_eq_true rfl) (Nat.le_of_ble_eq_true rfl) (ct_x11_isAfloat hK) (fun r11 => ?_)
        refine sm_reg (pcx := 113) (lsx := fun e12 => [(0, .ref (X.1 + 102)), (1, .int c1), (2, .int c2), (3, .int c3), (4, .int c4), (5, .int c5), (6, .int c6), (8, .int w8), (9, .int w9)]) (stx := fun e12 => [.int e12, .int w7]) (ux := fun e12 => (I, L, R, S)) ?_ (fun e12 => ?_)
        · skip
          refine s_if_eq (tgt := 110) dX11_fill_93 rfl rfl (fun _ => ?_) (fun _ => ?_)
          · skip
            refine s_sipush (v := 1000) dX11_fill_110 rfl cS_1000 ?_
            refine s_pick [0, 1, 2, 3, 4, 5, 6, 8, 9] rfl ?_
            exact sm_exit (fun f h => h)
          · skip
            refine s_aload_n 0 dX11_fill_96 rfl rfl ?_
            refine s_getR 137 dX11_fill_97 rfl fl_11_121 rfl (S_102 hK) (R_102_66 hK) ?_
            refine s_iconst (v := 5) dX11_fill_100 rfl cI_5 ?_
            refine s_iload 9 dX11_fill_101 rfl rfl ?_
            refine s_imul dX11_fill_103 rfl ?_
            refine s_iconst (v := 4) dX11_fill_104 rfl cI_4 ?_
            refine s_iadd dX11_fill_105 rfl ?_
            refine sm_ck (fun g13 => ?_)
            refine s_iald dX11_fill_106 rfl (S_137 hK) g13 ?_
            refine s_goto (tgt := 113) dX11_fill_107 rfl ?_
            refine s_pick [0, 1, 2, 3, 4, 5, 6, 8, 9] rfl ?_
            exact sm_exit (fun f h => h)
        · skip
          refine s_iadd dX11_fill_113 rfl ?_
          refine s_istoreL (fun v14 => [(7, .int v14), (0, .ref (X.1 + 102)), (1, .int c1), (2, .int c2), (3, .int c3), (4, .int c4), (5, .int c5), (6, .int c6), (8, .int w8), (9, .int w9)]) dX11_fill_114 rfl (by decide) (fun _ => rfl) (fun v14 => ?_)
          refine s_iload 8 dX11_fill_116 rfl rfl ?_
          refine s_aload_n 1 dX11_fill_118 rfl rfl ?_
          refine s_iload_n 2 dX11_fill_119 rfl rfl ?_
          refine s_iload 9 dX11_fill_120 rfl rfl ?_
          refine s_callV2_i1 dX11_fill_122 rfl lkV_RX11_644 (S_102 hK) (Nat.le_of_ble_eq_true rfl) (Nat.le_of_ble_eq_true rfl) (Nat.le_of_ble_eq_true rfl) (ct_x11_lasts hK) (fun r15 I16 => ?_)
          refine s_iadd dX11_fill_125 rfl ?_
          refine s_istoreL (fun v17 => [(8, .int v17), (7, .int v14), (0, .ref (X.1 + 102)), (1, .int c1), (2, .int c2), (3, .int c3), (4, .int c4), (5, .int c5), (6, .int c6), (9, .int w9)]) dX11_fill_126 rfl (by decide) (fun _ => rfl) (fun v17 => ?_)
          refine s_iincL 9 (c := 1) (fun v18 => [(9, .int v18), (8, .int v17), (7, .int v14), (0, .ref (X.1 + 102)), (1, .int c1), (2, .int c2), (3, .int c3), (4, .int c4), (5, .int c5), (6, .int c6)]) dX11_fill_128 rfl rfl cI_1 (by decide) (fun _ => rfl) (fun v18 => ?_)
          refine s_goto (tgt := 63) dX11_fill_131 rfl ?_
          refine s_pick [3, 4, 5, 6, 7, 8, 9, 2, 1, 0] rfl ?_
          exact ih v14 v17 v18 I16
      · skip
        refine s_goto (tgt := 128) dX11_fill_82 rfl ?_
        refine s_iincL 9 (c := 1) (fun v19 => [(9, .int v19), (0, .ref (X.1 + 102)), (1, .int c1), (2, .int c2), (3, .int c3), (4, .int c4), (5, .int c5), (6, .int c6), (7, .int w7), (8, .int w8)]) dX11_fill_128 rfl rfl cI_1 (by decide) (fun _ => rfl) (fun v19 => ?_)
        refine s_goto (tgt := 63) dX11_fill_131 rfl ?_
        refine s_pick [1, 2, 3, 4, 5, 6, 7, 8, 9, 0] rfl ?_
        exact ih w7 w8 v19 I
theorem x11_fill_L43_ok {X : WX} {n0 s0 : Nat} {c1 : Int32} {c2 : Int32} {c3 : Int32} {L : ML} {R : MR} {S : MS} (hK : okm R S) : ∀ (n : Nat) (w4 : Int32) (w5 : Int32) (w6 : Int32) (I : MI), Sim X yX11_fill cX11_fill 10 (some .int) 6 143 n0 s0 43 [(0, .ref (X.1 + 102)), (1, .int c1), (2, .int c2), (3, .int c3), (4, .int w4), (5, .int w5), (6, .int w6)] [] (I, L, R, S) (x11_fill_L43 c1 c2 n w4 w5 w6 I) (fun b f => Ex X yX11_fill cX11_fill 10 (some .int) 6 143 n0 s0 164 [(3, .int c3), (4, .int b.1), (5, .int b.2.1)] [] (b.2.2, L, R, S) f) := by
  intro n
  induction n with
  | zero =>
    intro w4 w5 w6 I
    exact sm_none
  | succ n ih =>
    intro w4 w5 w6 I
    change Sim _ _ _ _ _ _ _ _ _ _ _ _ _ (x11_fill_L43s c1 c2 (x11_fill_L43 c1 c2 n) w4 w5 w6 I) _
    unfold x11_fill_L43s
    refine s_iload 6 dX11_fill_43 rfl rfl ?_
    refine s_iconst (v := 1) dX11_fill_45 rfl cI_1 ?_
    refine s_aload_n 0 dX11_fill_46 rfl rfl ?_
    refine s_getI dX11_fill_47 rfl fl_11_467 (S_102 hK) ?_
    refine s_ishl dX11_fill_50 rfl ?_
    refine s_icmp_ge (tgt := 164) dX11_fill_51 rfl rfl (fun _ => ?_) (fun _ => ?_)
    · skip
      refine s_pick [3, 4, 5] rfl ?_
      exact sm_exit (fun f h => h)
    · skip
      refine s_iconst (v := 0) dX11_fill_54 rfl cI_0 ?_
      refine s_istoreL (fun v8 => [(7, .int v8), (0, .ref (X.1 + 102)), (1, .int c1), (2, .int c2), (3, .int c3), (4, .int w4), (5, .int w5), (6, .int w6)]) dX11_fill_55 rfl (by decide) (fun _ => rfl) (fun v8 => ?_)
      refine s_iconst (v := 0) dX11_fill_57 rfl cI_0 ?_
      refine s_istoreL (fun v9 => [(8, .int v9), (7, .int v8), (0, .ref (X.1 + 102)), (1, .int c1), (2, .int c2), (3, .int c3), (4, .int w4), (5, .int w5), (6, .int w6)]) dX11_fill_58 rfl (by decide) (fun _ => rfl) (fun v9 => ?_)
      refine s_iconst (v := 0) dX11_fill_60 rfl cI_0 ?_
      refine s_istoreL (fun v10 => [(9, .int v10), (8, .int v9), (7, .int v8), (0, .ref (X.1 + 102)), (1, .int c1), (2, .int c2), (3, .int c3), (4, .int w4), (5, .int w5), (6, .int w6)]) dX11_fill_61 rfl (by decide) (fun _ => rfl) (fun v10 => ?_)
      refine s_pick [3, 4, 5, 6, 7, 8, 9, 2, 1, 0] rfl ?_
      refine sm_reg (x11_fill_L63_ok hK FU v8 v9 v10 I) (fun e20 => ?_)
      refine s_iload 7 dX11_fill_134 rfl rfl ?_
      refine s_iload_n 2 dX11_fill_136 rfl rfl ?_
      refine s_icmp_gt (tgt := 158) dX11_fill_137 rfl rfl (fun _ => ?_) (fun _ => ?_)
      · skip
        refine s_iincL 6 (c := 1) (fun v21 => [(6, .int v21), (0, .ref (X.1 + 102)), (1, .int c1), (2, .int c2), (3, .int c3), (4, .int w4), (5, .int w5), (7, .int e20.1), (8, .int e20.2.1)]) dX11_fill_158 rfl rfl cI_1 (by decide) (fun _ => rfl) (fun v21 => ?_)
        refine s_goto (tgt := 43) dX11_fill_161 rfl ?_
        refine s_pick [1, 2, 3, 4, 5, 6, 0] rfl ?_
        exact ih w4 w5 v21 e20.2.2
      · skip
        refine s_iload 8 dX11_fill_140 rfl rfl ?_
        refine s_iload 5 dX11_fill_142 rfl rfl ?_
        refine s_icmp_gt (tgt := 150) dX11_fill_144 rfl rfl (fun _ => ?_) (fun _ => ?_)
        · skip
          refine s_iload 6 dX11_fill_150 rfl rfl ?_
          refine s_istoreL (fun v22 => [(4, .int v22), (0, .ref (X.1 + 102)), (1, .int c1), (2, .int c2), (3, .int c3), (5, .int w5), (6, .int w6), (7, .int e20.1), (8, .int e20.2.1)]) dX11_fill_152 rfl (by decide) (fun _ => rfl) (fun v22 => ?_)
          refine s_iload 8 dX11_fill_154 rfl rfl ?_
          refine s_istoreL (fun v23 => [(5, .int v23), (4, .int v22), (0, .ref (X.1 + 102)), (1, .int c1), (2, .int c2), (3, .int c3), (6, .int w6), (7, .int e20.1), (8, .int e20.2.1)]) dX11_fill_156 rfl (by decide) (fun _ => rfl) (fun v23 => ?_)
          refine s_iincL 6 (c := 1) (fun v24 => [(6, .int v24), (5, .int v23), (4, .int v22), (0, .ref (X.1 + 102)), (1, .int c1), (2, .int c2), (3, .int c3), (7, .int e20.1), (8, .int e20.2.1)]) dX11_fill_158 rfl rfl cI_1 (by decide) (fun _ => rfl) (fun v24 => ?_)
          refine s_goto (tgt := 43) dX11_fill_161 rfl ?_
          refine s_pick [3, 4, 5, 6, 2, 1, 0] rfl ?_
          exact ih v22 v23 v24 e20.2.2
        · skip
          refine s_goto (tgt := 158) dX11_fill_147 rfl ?_
          refine s_iincL 6 (c := 1) (fun v25 => [(6, .int v25), (0, .ref (X.1 + 102)), (1, .int c1), (2, .int c2), (3, .int c3), (4, .int w4), (5, .int w5), (7, .int e20.1), (8, .int e20.2.1)]) dX11_fill_158 rfl rfl cI_1 (by decide) (fun _ => rfl) (fun v25 => ?_)
          refine s_goto (tgt := 43) dX11_fill_161 rfl ?_
          refine s_pick [1, 2, 3, 4, 5, 6, 0] rfl ?_
          exact ih w4 w5 v25 e20.2.2
theorem ct_x11_fill {X : WX} {p1 : Int32} {p2 : Int32} {p3 : Int32} {I : MI} {L : ML} {R : MR} {S : MS} (hK : okm R S) : Ct X yX11_fill cX11_fill 10 (some .int) 6 143 [.ref (X.1 + 102), .int p1, .int p2, .int p3] (I, L, R, S) (x11_fill p1 p2 p3 I) (fun r => (some (.int r.1), (r.2, L, R, S))) := by
  refine Ct.of (by decide) (Nat.le_of_ble_eq_true rfl) [(0, .ref (X.1 + 102)), (1, .int p1), (2, .int p2), (3, .int p3)] rfl ?_
  unfold x11_fill
  refine s_aload_n 0 dX11_fill_0 rfl rfl ?_
  refine s_iload_n 1 dX11_fill_1 rfl rfl ?_
  refine s_callV1_i0 dX11_fill_2 rfl lkV_RX11_563 (S_102 hK) (Nat.le_of_ble_eq_true rfl) (Nat.le_of_ble_eq_true rfl) (Nat.le_of_ble_eq_true rfl) (ct_x11_isBobber hK) (fun r1 => ?_)
  refine s_if_eq (tgt := 28) dX11_fill_5 rfl rfl (fun _ => ?_) (fun _ => ?_)
  · skip
    refine s_iconst (v := (-1)) dX11_fill_28 rfl cI_m1 ?_
    exact s_iret dX11_fill_29 rfl (fun f h => h)
  · skip
    refine s_iload_n 2 dX11_fill_8 rfl rfl ?_
    refine s_iconst (v := 0) dX11_fill_9 rfl cI_0 ?_
    refine s_sipush (v := 999) dX11_fill_10 rfl cS_999 ?_
    refine s_callS3_i0 dX11_fill_13 rfl lkS_RX11_494 (Nat.le_of_ble_eq_true rfl) (Nat.le_of_ble_eq_true rfl) (Nat.le_of_ble_eq_true rfl) (ct_x11_isIn hK) (fun r2 => ?_)
    refine s_if_eq (tgt := 28) dX11_fill_16 rfl rfl (fun _ => ?_) (fun _ => ?_)
    · skip
      refine s_iconst (v := (-1)) dX11_fill_28 rfl cI_m1 ?_
      exact s_iret dX11_fill_29 rfl (fun f h => h)
    · skip
      refine s_iload_n 3 dX11_fill_19 rfl rfl ?_
      refine s_iconst (v := 0) dX11_fill_20 rfl cI_0 ?_
      refine s_iconst (v := 1) dX11_fill_21 rfl cI_1 ?_
      refine s_callS3_i0 dX11_fill_22 rfl lkS_RX11_494 (Nat.le_of_ble_eq_true rfl) (Nat.le_of_ble_eq_true rfl) (Nat.le_of_ble_eq_true rfl) (ct_x11_isIn hK) (fun r3 => ?_)
      refine s_if_ne (tgt := 30) dX11_fill_25 rfl rfl (fun _ => ?_) (fun _ => ?_)
      · skip
        refine s_aload_n 0 dX11_fill_30 rfl rfl ?_
        refine s_callV0_v1 dX11_fill_31 rfl lkV_RX11_566 (S_102 hK) (Nat.le_of_ble_eq_true rfl) (Nat.le_of_ble_eq_true rfl) (Nat.le_of_ble_eq_true rfl) (ct_x11_load hK) (fun I4 => ?_)
        refine s_iconst (v := 0) dX11_fill_34 rfl cI_0 ?_
        refine s_istoreL (fun v5 => [(4, .int v5), (0, .ref (X.1 + 102)), (1, .int p1), (2, .int p2), (3, .int p3)]) dX11_fill_35 rfl (by decide) (fun _ => rfl) (fun v5 => ?_)
        refine s_iconst (v := 0) dX11_fill_37 rfl cI_0 ?_
        refine s_istoreL (fun v6 => [(5, .int v6), (4, .int v5), (0, .ref (X.1 + 102)), (1, .int p1), (2, .int p2), (3, .int p3)]) dX11_fill_38 rfl (by decide) (fun _ => rfl) (fun v6 => ?_)
        refine s_iconst (v := 1) dX11_fill_40 rfl cI_1 ?_
        refine s_istoreL (fun v7 => [(6, .int v7), (5, .int v6), (4, .int v5), (0, .ref (X.1 + 102)), (1, .int p1), (2, .int p2), (3, .int p3)]) dX11_fill_41 rfl (by decide) (fun _ => rfl) (fun v7 => ?_)
        refine s_pick [3, 4, 5, 6, 2, 1, 0] rfl ?_
        refine sm_reg (x11_fill_L43_ok hK FU v5 v6 v7 I4) (fun e26 => ?_)
        refine s_iload_n 0 dX11_fill_164 rfl rfl ?_
        refine s_if_ne (tgt := 173) dX11_fill_165 rfl rfl (fun _ => ?_) (fun _ => ?_)
        · skip
          refine s_iload 2 dX11_fill_173 rfl rfl ?_
          exact s_iret dX11_fill_175 rfl (fun f h => h)
        · skip
          refine s_iload 1 dX11_fill_168 rfl rfl ?_
          refine s_goto (tgt := 175) dX11_fill_170 rfl ?_
          exact s_iret dX11_fill_175 rfl (fun f h => h)
      · skip
        refine s_iconst (v := (-1)) dX11_fill_28 rfl cI_m1 ?_
        exact s_iret dX11_fill_29 rfl (fun f h => h)
