noncomputable def x11_record (p1 : Int32) (p2 : Int32) (p3 : Int32) (I : MI) : Option (Int32) :=
b1 (x11_isBobber p1 I) fun r1 =>
if r1 = 0 then (
some (-1 : Int32)) else
b1 (x11_isIn p2 (0 : Int32) (4 : Int32) I) fun r2 =>
if r2 = 0 then (
some (-1 : Int32)) else
b1 (x11_isIn p3 (0 : Int32) (2 : Int32) I) fun r3 =>
if r3 = 0 then (
some (-1 : Int32)) else
ck (vp_in (((63 + (15 * p1)) + (3 * p2)) + p3) 128) <|
some (I 138 (ix (((63 + (15 * p1)) + (3 * p2)) + p3)))
theorem ct_x11_record {X : WX} {p1 : Int32} {p2 : Int32} {p3 : Int32} {I : MI} {L : ML} {R : MR} {S : MS} (hK : okm R S) : Ct X yX11_record cX11_record 4 (some .int) 2 43 [.ref (X.1 + 102), .int p1, .int p2, .int p3] (I, L, R, S) (x11_record p1 p2 p3 I) (fun r => (some (.int r), (I, L, R, S))) := by
  refine Ct.of (by decide) (Nat.le_of_ble_eq_true rfl) [(0, .ref (X.1 + 102)), (1, .int p1), (2, .int p2), (3, .int p3)] rfl ?_
  unfold x11_record
  refine s_aload_n 0 dX11_record_0 rfl rfl ?_
  refine s_iload_n 1 dX11_record_1 rfl rfl ?_
  refine s_callV1_i0 dX11_record_2 rfl lkV_RX11_563 (S_102 hK) (Nat.le_of_ble_eq_true rfl) (Nat.le_of_ble_eq_true rfl) (Nat.le_of_ble_eq_true rfl) (ct_x11_isBobber hK) (fun r1 => ?_)
  refine s_if_eq (tgt := 47) dX11_record_5 rfl rfl (fun _ => ?_) (fun _ => ?_)
  · skip
    refine s_iconst (v := (-1)) dX11_record_47 rfl cI_m1 ?_
    exact s_iret dX11_record_48 rfl (fun f h => h)
  · skip
    refine s_iload_n 2 dX11_record_8 rfl rfl ?_
    refine s_iconst (v := 0) dX11_record_9 rfl cI_0 ?_
    refine s_iconst (v := 4) dX11_record_10 rfl cI_4 ?_
    refine s_callS3_i0 dX11_record_11 rfl lkS_RX11_494 (Nat.le_of_ble_eq_true rfl) (Nat.le_of_ble_eq_true rfl) (Nat.le_of_ble_eq_true rfl) (ct_x11_isIn hK) (fun r2 => ?_)
    refine s_if_eq (tgt := 47) dX11_record_14 rfl rfl (fun _ => ?_) (fun _ => ?_)
    · skip
      refine s_iconst (v := (-1)) dX11_record_47 rfl cI_m1 ?_
      exact s_iret dX11_record_48 rfl (fun f h => h)
    · skip
      refine s_iload_n 3 dX11_record_17 rfl rfl ?_
      refine s_iconst (v := 0) dX11_record_18 rfl cI_0 ?_
      refine s_iconst (v := 2) dX11_record_19 rfl cI_2 ?_
      refine s_callS3_i0 dX11_record_20 rfl lkS_RX11_494 (Nat.le_of_ble_eq_true rfl) (Nat.le_of_ble_eq_true rfl) (Nat.le_of_ble_eq_true rfl) (ct_x11_isIn hK) (fun r3 => ?_)
      refine s_if_eq (tgt := 47) dX11_record_23 rfl rfl (fun _ => ?_) (fun _ => ?_)
      · skip
        refine s_iconst (v := (-1)) dX11_record_47 rfl cI_m1 ?_
        exact s_iret dX11_record_48 rfl (fun f h => h)
      · skip
        refine s_aload_n 0 dX11_record_26 rfl rfl ?_
        refine s_getR 138 dX11_record_27 rfl fl_11_124 rfl (S_102 hK) (R_102_67 hK) ?_
        refine s_bipush (v := 63) dX11_record_30 rfl cB_63 ?_
        refine s_bipush (v := 15) dX11_record_32 rfl cB_15 ?_
        refine s_iload_n 1 dX11_record_34 rfl rfl ?_
        refine s_imul dX11_record_35 rfl ?_
        refine s_iadd dX11_record_36 rfl ?_
        refine s_iconst (v := 3) dX11_record_37 rfl cI_3 ?_
        refine s_iload_n 2 dX11_record_38 rfl rfl ?_
        refine s_imul dX11_record_39 rfl ?_
        refine s_iadd dX11_record_40 rfl ?_
        refine s_iload_n 3 dX11_record_41 rfl rfl ?_
        refine s_iadd dX11_record_42 rfl ?_
        refine sm_ck (fun g4 => ?_)
        refine s_iald dX11_record_43 rfl (S_138 hK) g4 ?_
        refine s_goto (tgt := 48) dX11_record_44 rfl ?_
        exact s_iret dX11_record_48 rfl (fun f h => h)
noncomputable def x11_easier_L17s (c1 : Int32) (c2 : Int32) (rec : Int32 → Int32 → MI → Option (Int32 × MI)) (w3 : Int32) (w4 : Int32) (I : MI) : Option (Int32 × MI) :=
if w4 < (I 102 60) then (
b2 (x11_canTry c1 w4 (0 : Int32) I) fun r5 I6 =>
if r5 = 0 then (
lt (w3 + 0) fun v7 =>
lt (w4 + 1) fun v8 =>
rec v7 v8 I6) else
b2 (x11_oddsOf c1 w4 (0 : Int32) I6) fun r9 I10 =>
b2 (x11_oddsOf c1 c2 (0 : Int32) I10) fun r11 I12 =>
if r11 < r9 then (
lt (w3 + 1) fun v15 =>
lt (w4 + 1) fun v16 =>
rec v15 v16 I12) else
lt (w3 + 0) fun v13 =>
lt (w4 + 1) fun v14 =>
rec v13 v14 I12) else
some (w3, I)
noncomputable def x11_easier_L17 (c1 : Int32) (c2 : Int32) : Nat → Int32 → Int32 → MI → Option (Int32 × MI)
  | 0 => fun _ _ _ => none
  | n + 1 => x11_easier_L17s c1 c2 (x11_easier_L17 c1 c2 n)
noncomputable def x11_easier (p1 : Int32) (p2 : Int32) (I : MI) : Option (Int32 × MI) :=
b2 (x11_mayTry p1 p2 (0 : Int32) I) fun r1 I2 =>
if r1 = 0 then (
some ((-1 : Int32), I2)) else
lt (0 : Int32) fun v3 =>
lt (0 : Int32) fun v4 =>
b1 (x11_easier_L17 p1 p2 FU v3 v4 I2) fun e17 =>
some (e17.1, e17.2)
theorem x11_easier_L17_ok {X : WX} {n0 s0 : Nat} {c1 : Int32} {c2 : Int32} {L : ML} {R : MR} {S : MS} (hK : okm R S) : ∀ (n : Nat) (w3 : Int32) (w4 : Int32) (I : MI), Sim X yX11_easier cX11_easier 5 (some .int) 5 120 n0 s0 17 [(0, .ref (X.1 + 102)), (1, .int c1), (2, .int c2), (3, .int w3), (4, .int w4)] [] (I, L, R, S) (x11_easier_L17 c1 c2 n w3 w4 I) (fun b f => Ex X yX11_easier cX11_easier 5 (some .int) 5 120 n0 s0 69 [(3, .int b.1)] [] (b.2, L, R, S) f) := by
  intro n
  induction n with
  | zero =>
    intro w3 w4 I
    exact sm_none
  | succ n ih =>
    intro w3 w4 I
    change Sim _ _ _ _ _ _ _ _ _ _ _ _ _ (x11_easier_L17s c1 c2 (x11_easier_L17 c1 c2 n) w3 w4 I) _
    unfold x11_easier_L17s
    refine s_iload 4 dX11_easier_17 rfl rfl ?_
    refine s_aload_n 0 dX11_easier_19 rfl rfl ?_
    refine s_getI dX11_easier_20 rfl fl_11_467 (S_102 hK) ?_
    refine s_icmp_ge (tgt := 69) dX11_easier_23 rfl rfl (fun _ => ?_) (fun _ => ?_)
    · skip
      refine s_pick [3] rfl ?_
      exact sm_exit (fun f h => h)
    · skip
      refine s_iload_n 3 dX11_easier_26 rfl rfl ?_
      refine s_aload_n 0 dX11_easier_27 rfl rfl ?_
      refine s_iload_n 1 dX11_easier_28 rfl rfl ?_
      refine s_iload 4 dX11_easier_29 rfl rfl ?_
      refine s_iconst (v := 0) dX11_easier_31 rfl cI_0 ?_
      refine s_callV3_i1 dX11_easier_32 rfl lkV_RX11_548 (S_102 hK) (Nat.le_of_ble_eq_true rfl) (Nat.le_of_ble_eq_true rfl) (Nat.le_of_ble_eq_true rfl) (ct_x11_canTry hK) (fun r5 I6 => ?_)
      refine s_if_eq (tgt := 60) dX11_easier_35 rfl rfl (fun _ => ?_) (fun _ => ?_)
      · skip
        refine s_iconst (v := 0) dX11_easier_60 rfl cI_0 ?_
        refine s_iadd dX11_easier_61 rfl ?_
        refine s_istore_nL (fun v7 => [(3, .int v7), (0, .ref (X.1 + 102)), (1, .int c1), (2, .int c2), (4, .int w4)]) dX11_easier_62 rfl (by decide) (fun _ => rfl) (fun v7 => ?_)
        refine s_iincL 4 (c := 1) (fun v8 => [(4, .int v8), (3, .int v7), (0, .ref (X.1 + 102)), (1, .int c1), (2, .int c2)]) dX11_easier_63 rfl rfl cI_1 (by decide) (fun _ => rfl) (fun v8 => ?_)
        refine s_goto (tgt := 17) dX11_easier_66 rfl ?_
        refine s_pick [2, 3, 4, 1, 0] rfl ?_
        exact ih v7 v8 I6
      · skip
        refine s_aload_n 0 dX11_easier_38 rfl rfl ?_
        refine s_iload_n 1 dX11_easier_39 rfl rfl ?_
        refine s_iload 4 dX11_easier_40 rfl rfl ?_
        refine s_iconst (v := 0) dX11_easier_42 rfl cI_0 ?_
        refine s_callV3_i1 dX11_easier_43 rfl lkV_RX11_538 (S_102 hK) (Nat.le_of_ble_eq_true rfl) (Nat.le_of_ble_eq_true rfl) (Nat.le_of_ble_eq_true rfl) (ct_x11_oddsOf hK) (fun r9 I10 => ?_)
        refine s_aload_n 0 dX11_easier_46 rfl rfl ?_
        refine s_iload_n 1 dX11_easier_47 rfl rfl ?_
        refine s_iload_n 2 dX11_easier_48 rfl rfl ?_
        refine s_iconst (v := 0) dX11_easier_49 rfl cI_0 ?_
        refine s_callV3_i1 dX11_easier_50 rfl lkV_RX11_538 (S_102 hK) (Nat.le_of_ble_eq_true rfl) (Nat.le_of_ble_eq_true rfl) (Nat.le_of_ble_eq_true rfl) (ct_x11_oddsOf hK) (fun r11 I12 => ?_)
        refine s_icmp_le (tgt := 60) dX11_easier_53 rfl rfl (fun _ => ?_) (fun _ => ?_)
        · skip
          refine s_iconst (v := 0) dX11_easier_60 rfl cI_0 ?_
          refine s_iadd dX11_easier_61 rfl ?_
          refine s_istore_nL (fun v13 => [(3, .int v13), (0, .ref (X.1 + 102)), (1, .int c1), (2, .int c2), (4, .int w4)]) dX11_easier_62 rfl (by decide) (fun _ => rfl) (fun v13 => ?_)
          refine s_iincL 4 (c := 1) (fun v14 => [(4, .int v14), (3, .int v13), (0, .ref (X.1 + 102)), (1, .int c1), (2, .int c2)]) dX11_easier_63 rfl rfl cI_1 (by decide) (fun _ => rfl) (fun v14 => ?_)
          refine s_goto (tgt := 17) dX11_easier_66 rfl ?_
          refine s_pick [2, 3, 4, 1, 0] rfl ?_
          exact ih v13 v14 I12
        · skip
          refine s_iconst (v := 1) dX11_easier_56 rfl cI_1 ?_
          refine s_goto (tgt := 61) dX11_easier_57 rfl ?_
          refine s_iadd dX11_easier_61 rfl ?_
          refine s_istore_nL (fun v15 => [(3, .int v15), (0, .ref (X.1 + 102)), (1, .int c1), (2, .int c2), (4, .int w4)]) dX11_easier_62 rfl (by decide) (fun _ => rfl) (fun v15 => ?_)
          refine s_iincL 4 (c := 1) (fun v16 => [(4, .int v16), (3, .int v15), (0, .ref (X.1 + 102)), (1, .int c1), (2, .int c2)]) dX11_easier_63 rfl rfl cI_1 (by decide) (fun _ => rfl) (fun v16 => ?_)
          refine s_goto (tgt := 17) dX11_easier_66 rfl ?_
          refine s_pick [2, 3, 4, 1, 0] rfl ?_
          exact ih v15 v16 I12
theorem ct_x11_easier {X : WX} {p1 : Int32} {p2 : Int32} {I : MI} {L : ML} {R : MR} {S : MS} (hK : okm R S) : Ct X yX11_easier cX11_easier 5 (some .int) 5 120 [.ref (X.1 + 102), .int p1, .int p2] (I, L, R, S) (x11_easier p1 p2 I) (fun r => (some (.int r.1), (r.2, L, R, S))) := by
  refine Ct.of (by decide) (Nat.le_of_ble_eq_true rfl) [(0, .ref (X.1 + 102)), (1, .int p1), (2, .int p2)] rfl ?_
  unfold x11_easier
  refine s_aload_n 0 dX11_easier_0 rfl rfl ?_
  refine s_iload_n 1 dX11_easier_1 rfl rfl ?_
  refine s_iload_n 2 dX11_easier_2 rfl rfl ?_
  refine s_iconst (v := 0) dX11_easier_3 rfl cI_0 ?_
  refine s_callV3_i1 dX11_easier_4 rfl lkV_RX11_569 (S_102 hK) (Nat.le_of_ble_eq_true rfl) (Nat.le_of_ble_eq_true rfl) (Nat.le_of_ble_eq_true rfl) (ct_x11_mayTry hK) (fun r1 I2 => ?_)
  refine s_if_ne (tgt := 12) dX11_easier_7 rfl rfl (fun _ => ?_) (fun _ => ?_)
  · skip
    refine s_iconst (v := 0) dX11_easier_12 rfl cI_0 ?_
    refine s_istore_nL (fun v3 => [(3, .int v3), (0, .ref (X.1 + 102)), (1, .int p1), (2, .int p2)]) dX11_easier_13 rfl (by decide) (fun _ => rfl) (fun v3 => ?_)
    refine s_iconst (v := 0) dX11_easier_14 rfl cI_0 ?_
    refine s_istoreL (fun v4 => [(4, .int v4), (3, .int v3), (0, .ref (X.1 + 102)), (1, .int p1), (2, .int p2)]) dX11_easier_15 rfl (by decide) (fun _ => rfl) (fun v4 => ?_)
    refine s_pick [2, 3, 4, 1, 0] rfl ?_
    refine sm_reg (x11_easier_L17_ok hK FU v3 v4 I2) (fun e17 => ?_)
    refine s_iload_n 0 dX11_easier_69 rfl rfl ?_
    exact s_iret dX11_easier_70 rfl (fun f h => h)
  · skip
    refine s_iconst (v := (-1)) dX11_easier_10 rfl cI_m1 ?_
    exact s_iret dX11_easier_11 rfl (fun f h => h)
noncomputable def x11_getsAlone_L9s (c1 : Int32) (c2 : Int32) (rec : Int32 → Int32 → MI → Option (Int32 × MI)) (w3 : Int32) (w4 : Int32) (I : MI) : Option (Int32 × MI) :=
if w4 < c2 then (
ck (vp_in c1 4) <|
b2 (x11_actsBy c1 (I 135 (ix c1)) I) fun r5 I6 =>
if r5 = 0 then (
lt (w3 + 0) fun v7 =>
lt (w4 + 1) fun v8 =>
rec v7 v8 I6) else
lt (w3 + 1) fun v9 =>
lt (w4 + 1) fun v10 =>
rec v9 v10 I6) else
some (w3, I)
noncomputable def x11_getsAlone_L9 (c1 : Int32) (c2 : Int32) : Nat → Int32 → Int32 → MI → Option (Int32 × MI)
  | 0 => fun _ _ _ => none
  | n + 1 => x11_getsAlone_L9s c1 c2 (x11_getsAlone_L9 c1 c2 n)
noncomputable def x11_getsAlone (p1 : Int32) (p2 : Int32) (I : MI) : Option (Int32 × MI) :=
b1 (x11_load I) fun I1 =>
lt (0 : Int32) fun v2 =>
lt (0 : Int32) fun v3 =>
b1 (x11_getsAlone_L9 p1 p2 FU v2 v3 I1) fun e11 =>
some (e11.1, e11.2)
theorem x11_getsAlone_L9_ok {X : WX} {n0 s0 : Nat} {c1 : Int32} {c2 : Int32} {L : ML} {R : MR} {S : MS} (hK : okm R S) : ∀ (n : Nat) (w3 : Int32) (w4 : Int32) (I : MI), Sim X yX11_getsAlone cX11_getsAlone 5 (some .int) 7 169 n0 s0 9 [(0, .ref (X.1 + 102)), (1, .int c1), (2, .int c2), (3, .int w3), (4, .int w4)] [] (I, L, R, S) (x11_getsAlone_L9 c1 c2 n w3 w4 I) (fun b f => Ex X yX11_getsAlone cX11_getsAlone 5 (some .int) 7 169 n0 s0 43 [(3, .int b.1)] [] (b.2, L, R, S) f) := by
  intro n
  induction n with
  | zero =>
    intro w3 w4 I
    exact sm_none
  | succ n ih =>
    intro w3 w4 I
    change Sim _ _ _ _ _ _ _ _ _ _ _ _ _ (x11_getsAlone_L9s c1 c2 (x11_getsAlone_L9 c1 c2 n) w3 w4 I) _
    unfold x11_getsAlone_L9s
    refine s_iload 4 dX11_getsAlone_9 rfl rfl ?_
    refine s_iload_n 2 dX11_getsAlone_11 rfl rfl ?_
    refine s_icmp_ge (tgt := 43) dX11_getsAlone_12 rfl rfl (fun _ => ?_) (fun _ => ?_)
    · skip
      refine s_pick [3] rfl ?_
      exact sm_exit (fun f h => h)
    · skip
      refine s_iload_n 3 dX11_getsAlone_15 rfl rfl ?_
      refine s_aload_n 0 dX11_getsAlone_16 rfl rfl ?_
      refine s_iload_n 1 dX11_getsAlone_17 rfl rfl ?_
      refine s_aload_n 0 dX11_getsAlone_18 rfl rfl ?_
      refine s_getR 135 dX11_getsAlone_19 rfl fl_11_112 rfl (S_102 hK) (R_102_47 hK) ?_
      refine s_iload_n 1 dX11_getsAlone_22 rfl rfl ?_
      refine sm_ck (fun g4 => ?_)
      refine s_iald dX11_getsAlone_23 rfl (S_135 hK) g4 ?_
      refine s_callV2_i1 dX11_getsAlone_24 rfl lkV_RX11_584 (S_102 hK) (Nat.le_of_ble_eq_true rfl) (Nat.le_of_ble_eq_true rfl) (Nat.le_of_ble_eq_true rfl) (ct_x11_actsBy hK) (fun r5 I6 => ?_)
      refine s_if_eq (tgt := 34) dX11_getsAlone_27 rfl rfl (fun _ => ?_) (fun _ => ?_)
      · skip
        refine s_iconst (v := 0) dX11_getsAlone_34 rfl cI_0 ?_
        refine s_iadd dX11_getsAlone_35 rfl ?_
        refine s_istore_nL (fun v7 => [(3, .int v7), (0, .ref (X.1 + 102)), (1, .int c1), (2, .int c2), (4, .int w4)]) dX11_getsAlone_36 rfl (by decide) (fun _ => rfl) (fun v7 => ?_)
        refine s_iincL 4 (c := 1) (fun v8 => [(4, .int v8), (3, .int v7), (0, .ref (X.1 + 102)), (1, .int c1), (2, .int c2)]) dX11_getsAlone_37 rfl rfl cI_1 (by decide) (fun _ => rfl) (fun v8 => ?_)
        refine s_goto (tgt := 9) dX11_getsAlone_40 rfl ?_
        refine s_pick [2, 3, 4, 1, 0] rfl ?_
        exact ih v7 v8 I6
      · skip
        refine s_iconst (v := 1) dX11_getsAlone_30 rfl cI_1 ?_
        refine s_goto (tgt := 35) dX11_getsAlone_31 rfl ?_
        refine s_iadd dX11_getsAlone_35 rfl ?_
        refine s_istore_nL (fun v9 => [(3, .int v9), (0, .ref (X.1 + 102)), (1, .int c1), (2, .int c2), (4, .int w4)]) dX11_getsAlone_36 rfl (by decide) (fun _ => rfl) (fun v9 => ?_)
        refine s_iincL 4 (c := 1) (fun v10 => [(4, .int v10), (3, .int v9), (0, .ref (X.1 + 102)), (1, .int c1), (2, .int c2)]) dX11_getsAlone_37 rfl rfl cI_1 (by decide) (fun _ => rfl) (fun v10 => ?_)
        refine s_goto (tgt := 9) dX11_getsAlone_40 rfl ?_
        refine s_pick [2, 3, 4, 1, 0] rfl ?_
        exact ih v9 v10 I6
theorem ct_x11_getsAlone {X : WX} {p1 : Int32} {p2 : Int32} {I : MI} {L : ML} {R : MR} {S : MS} (hK : okm R S) : Ct X yX11_getsAlone cX11_getsAlone 5 (some .int) 7 169 [.ref (X.1 + 102), .int p1, .int p2] (I, L, R, S) (x11_getsAlone p1 p2 I) (fun r => (some (.int r.1), (r.2, L, R, S))) := by
  refine Ct.of (by decide) (Nat.le_of_ble_eq_true rfl) [(0, .ref (X.1 + 102)), (1, .int p1), (2, .int p2)] rfl ?_
  unfold x11_getsAlone
  refine s_aload_n 0 dX11_getsAlone_0 rfl rfl ?_
  refine s_callV0_v1 dX11_getsAlone_1 rfl lkV_RX11_566 (S_102 hK) (Nat.le_of_ble_eq_true rfl) (Nat.le_of_ble_eq_true rfl) (Nat.le_of_ble_eq_true rfl) (ct_x11_load hK) (fun I1 => ?_)
  refine s_iconst (v := 0) dX11_getsAlone_4 rfl cI_0 ?_
  refine s_istore_nL (fun v2 => [(3, .int v2), (0, .ref (X.1 + 102)), (1, .int p1), (2, .int p2)]) dX11_getsAlone_5 rfl (by decide) (fun _ => rfl) (fun v2 => ?_)
  refine s_iconst (v := 0) dX11_getsAlone_6 rfl cI_0 ?_
  refine s_istoreL (fun v3 => [(4, .int v3), (3, .int v2), (0, .ref (X.1 + 102)), (1, .int p1), (2, .int p2)]) dX11_getsAlone_7 rfl (by decide) (fun _ => rfl) (fun v3 => ?_)
  refine s_pick [2, 3, 4, 1, 0] rfl ?_
  refine sm_reg (x11_getsAlone_L9_ok hK FU v2 v3 I1) (fun e11 => ?_)
  refine s_iload_n 0 dX11_getsAlone_43 rfl rfl ?_
  exact s_iret dX11_getsAlone_44 rfl (fun f h => h)
noncomputable def x11_seat_L54s (c1 : Int32) (c2 : Int32) (rec : Int32 → Int32 → Int32 → MI → Option (Int32 × Int32 × MI)) (w6 : Int32) (w7 : Int32) (w8 : Int32) (I : MI) : Option (Int32 × Int32 × MI) :=
if w8 < ((I 102 56) * (I 102 57)) then (
ck (¬ (I 102 56) = 0) <|
lt (rm w8 (I 102 56)) fun v12 =>
ck (¬ (I 102 56) = 0) <|
lt (w8 / (I 102 56)) fun v14 =>
if 0 < v12 then (
if v12 < ((I 102 56) - 1) then (
if 0 < v14 then (
if v14 < ((I 102 57) - 1) then (
lt (w8 + 1) fun v59 =>
rec w6 w7 v59 I) else
ck (vp_in c1 4) <|
lt (wI I 130 (ix c1) v12) fun I48 =>
ck (vp_in c1 4) <|
lt (wI I48 131 (ix c1) v14) fun I50 =>
b2 (x11_getsAlone c1 c2 I50) fun r52 I53 =>
lt r52 fun v54 =>
if w7 < v54 then (
lt w8 fun v55 =>
lt v54 fun v56 =>
lt (w8 + 1) fun v57 =>
rec v55 v56 v57 I53) else
lt (w8 + 1) fun v58 =>
rec w6 w7 v58 I53) else
ck (vp_in c1 4) <|
lt (wI I 130 (ix c1) v12) fun I37 =>
ck (vp_in c1 4) <|
lt (wI I37 131 (ix c1) v14) fun I39 =>
b2 (x11_getsAlone c1 c2 I39) fun r41 I42 =>
lt r41 fun v43 =>
if w7 < v43 then (
lt w8 fun v44 =>
lt v43 fun v45 =>
lt (w8 + 1) fun v46 =>
rec v44 v45 v46 I42) else
lt (w8 + 1) fun v47 =>
rec w6 w7 v47 I42) else
ck (vp_in c1 4) <|
lt (wI I 130 (ix c1) v12) fun I26 =>
ck (vp_in c1 4) <|
lt (wI I26 131 (ix c1) v14) fun I28 =>
b2 (x11_getsAlone c1 c2 I28) fun r30 I31 =>
lt r30 fun v32 =>
if w7 < v32 then (
lt w8 fun v33 =>
lt v32 fun v34 =>
lt (w8 + 1) fun v35 =>
rec v33 v34 v35 I31) else
lt (w8 + 1) fun v36 =>
rec w6 w7 v36 I31) else
ck (vp_in c1 4) <|
lt (wI I 130 (ix c1) v12) fun I15 =>
ck (vp_in c1 4) <|
lt (wI I15 131 (ix c1) v14) fun I17 =>
b2 (x11_getsAlone c1 c2 I17) fun r19 I20 =>
lt r19 fun v21 =>
if w7 < v21 then (
lt w8 fun v22 =>
lt v21 fun v23 =>
lt (w8 + 1) fun v24 =>
rec v22 v23 v24 I20) else
lt (w8 + 1) fun v25 =>
rec w6 w7 v25 I20) else
some (w6, w7, I)
noncomputable def x11_seat_L54 (c1 : Int32) (c2 : Int32) : Nat → Int32 → Int32 → Int32 → MI → Option (Int32 × Int32 × MI)
  | 0 => fun _ _ _ _ => none
  | n + 1 => x11_seat_L54s c1 c2 (x11_seat_L54 c1 c2 n)
noncomputable def x11_seat (p1 : Int32) (p2 : Int32) (p3 : Int32) (I : MI) : Option (Int32 × MI) :=
b1 (x11_isBobber p1 I) fun r1 =>
if r1 = 0 then (
some ((-1 : Int32), I)) else
b1 (x11_isIn p2 (1 : Int32) (10 : Int32) I) fun r2 =>
if r2 = 0 then (
some ((-1 : Int32), I)) else
b1 (x11_isIn p3 (0 : Int32) (2 : Int32) I) fun r3 =>
if r3 = 0 then (
some ((-1 : Int32), I)) else
ck (vp_in p1 4) <|
lt (I 130 (ix p1)) fun v5 =>
ck (vp_in p1 4) <|
lt (I 131 (ix p1)) fun v7 =>
lt (-1 : Int32) fun v8 =>
lt (-1 : Int32) fun v9 =>
lt (0 : Int32) fun v10 =>
b1 (x11_seat_L54 p1 p2 FU v8 v9 v10 I) fun e60 =>
ck (vp_in p1 4) <|
lt (wI e60.2.2 130 (ix p1) v5) fun I61 =>
ck (vp_in p1 4) <|
lt (wI I61 131 (ix p1) v7) fun I63 =>
if p3 = 0 then (
ck (¬ (I63 102 56) = 0) <|
some ((rm e60.1 (I63 102 56)), I63)) else
if p3 = 1 then (
ck (¬ (I63 102 56) = 0) <|
some ((e60.1 / (I63 102 56)), I63)) else
some (e60.2.1, I63)
theorem x11_seat_L54_ok {X : WX} {n0 s0 : Nat} {c1 : Int32} {c2 : Int32} {c3 : Int32} {c4 : Int32} {c5 : Int32} {L : ML} {R : MR} {S : MS} (hK : okm R S) : ∀ (n : Nat) (w6 : Int32) (w7 : Int32) (w8 : Int32) (I : MI), Sim X yX11_seat cX11_seat 12 (some .int) 8 193 n0 s0 54 [(0, .ref (X.1 + 102)), (1, .int c1), (2, .int c2), (3, .int c3), (4, .int c4), (5, .int c5), (6, .int w6), (7, .int w7), (8, .int w8)] [] (I, L, R, S) (x11_seat_L54 c1 c2 n w6 w7 w8 I) (fun b f => Ex X yX11_seat cX11_seat 12 (some .int) 8 193 n0 s0 169 [(0, .ref (X.1 + 102)), (1, .int c1), (3, .int c3), (4, .int c4), (5, .int c5), (6, .int b.1), (7, .int b.2.1)] [] (b.2.2, L, R, S) f) := by
  intro n
  induction n with
  | zero =>
    intro w6 w7 w8 I
    exact sm_none
  | succ n ih =>
    intro w6 w7 w8 I
    change Sim _ _ _ _ _ _ _ _ _ _ _ _ _ (x11_seat_L54s c1 c2 (x11_seat_L54 c1 c2 n) w6 w7 w8 I) _
    unfold x11_seat_L54s
    refine s_iload 8 dX11_seat_54 rfl rfl ?_
    refine s_aload_n 0 dX11_seat_56 rfl rfl ?_
    refine s_getI dX11_seat_57 rfl fl_11_455 (S_102 hK) ?_
    refine s_aload_n 0 dX11_seat_60 rfl rfl ?_
    refine s_getI dX11_seat_61 rfl fl_11_458 (S_102 hK) ?_
    refine s_imul dX11_seat_64 rfl ?_
    refine s_icmp_ge (tgt := 169) dX11_seat_65 rfl rfl (fun _ => ?_) (fun _ => ?_)
    · skip
      refine s_pick [0, 1, 3, 4, 5, 6, 7] rfl ?_
      exact sm_exit (fun f h => h)
    · skip
      refine s_iload 8 dX11_seat_68 rfl rfl ?_
      refine s_aload_n 0 dX11_seat_70 rfl rfl ?_
      refine s_getI dX11_seat_71 rfl fl_11_455 (S_102 hK) ?_
      refine sm_ck (fun g11 => ?_)
      refine s_irem dX11_seat_74 rfl g11 ?_
      refine s_istoreL (fun v12 => [(9, .int v12), (0, .ref (X.1 + 102)), (1, .int c1), (2, .int c2), (3, .int c3), (4, .int c4), (5, .int c5), (6, .int w6), (7, .int w7), (8, .int w8)]) dX11_seat_75 rfl (by decide) (fun _ => rfl) (fun v12 => ?_)
      refine s_iload 9 dX11_seat_77 rfl rfl ?_
      refine s_aload_n 1 dX11_seat_79 rfl rfl ?_
      refine s_getI dX11_seat_80 rfl fl_11_455 (S_102 hK) ?_
      refine sm_ck (fun g13 => ?_)
      refine s_idiv dX11_seat_83 rfl g13 ?_
      refine s_istoreL (fun v14 => [(10, .int v14), (9, .int v12), (0, .ref (X.1 + 102)), (1, .int c1), (2, .int c2), (3, .int c3), (4, .int c4), (5, .int c5), (6, .int w6), (7, .int w7), (8, .int w8)]) dX11_seat_84 rfl (by decide) (fun _ => rfl) (fun v14 => ?_)
      refine s_iload 1 dX11_seat_86 rfl rfl ?_
      refine s_if_le (tgt := 121) dX11_seat_88 rfl rfl (fun _ => ?_) (fun _ => ?_)
      · skip
        refine s_aload_n 2 dX11_seat_121 rfl rfl ?_
        refine s_getR 130 dX11_seat_122 rfl fl_11_97 rfl (S_102 hK) (R_102_42 hK) ?_
        refine s_iload_n 3 dX11_seat_125 rfl rfl ?_
        refine s_iload 1 dX11_seat_126 rfl rfl ?_
        refine sm_ck (fun g16 => ?_)
        refine s_iastL dX11_seat_128 rfl (S_130 hK) g16 (fun I15 => ?_)
        refine s_aload_n 2 dX11_seat_129 rfl rfl ?_
        refine s_getR 131 dX11_seat_130 rfl fl_11_100 rfl (S_102 hK) (R_102_43 hK) ?_
        refine s_iload_n 3 dX11_seat_133 rfl rfl ?_
        refine s_iload 0 dX11_seat_134 rfl rfl ?_
        refine sm_ck (fun g18 => ?_)
        refine s_iastL dX11_seat_136 rfl (S_131 hK) g18 (fun I17 => ?_)
        refine s_aload_n 2 dX11_seat_137 rfl rfl ?_
        refine s_iload_n 3 dX11_seat_138 rfl rfl ?_
        refine s_iload_n 4 dX11_seat_139 rfl rfl ?_
        refine s_callV2_i1 dX11_seat_140 rfl lkV_RX11_609 (S_102 hK) (Nat.le_of_ble_eq_true rfl) (Nat.le_of_ble_eq_true rfl) (Nat.le_of_ble_eq_true rfl) (ct_x11_getsAlone hK) (fun r19 I20 => ?_)
        refine s_istoreL (fun v21 => [(11, .int v21), (10, .int v14), (9, .int v12), (0, .ref (X.1 + 102)), (1, .int c1), (2, .int c2), (3, .int c3), (4, .int c4), (5, .int c5), (6, .int w6), (7, .int w7), (8, .int w8)]) dX11_seat_143 rfl (by decide) (fun _ => rfl) (fun v21 => ?_)
        refine s_iload 0 dX11_seat_145 rfl rfl ?_
        refine s_iload 10 dX11_seat_147 rfl rfl ?_
        refine s_icmp_gt (tgt := 155) dX11_seat_149 rfl rfl (fun _ => ?_) (fun _ => ?_)
        · skip
          refine s_iload 11 dX11_seat_155 rfl rfl ?_
          refine s_istoreL (fun v22 => [(6, .int v22), (11, .int v21), (10, .int v14), (9, .int v12), (0, .ref (X.1 + 102)), (1, .int c1), (2, .int c2), (3, .int c3), (4, .int c4), (5, .int c5), (7, .int w7), (8, .int w8)]) dX11_seat_157 rfl (by decide) (fun _ => rfl) (fun v22 => ?_)
          refine s_iload 1 dX11_seat_159 rfl rfl ?_
          refine s_istoreL (fun v23 => [(7, .int v23), (6, .int v22), (11, .int v21), (10, .int v14), (9, .int v12), (0, .ref (X.1 + 102)), (1, .int c1), (2, .int c2), (3, .int c3), (4, .int c4), (5, .int c5), (8, .int w8)]) dX11_seat_161 rfl (by decide) (fun _ => rfl) (fun v23 => ?_)
          refine s_iincL 11 (c := 1) (fun v24 => [(8, .int v24), (7, .int v23), (6, .int v22), (11, .int v21), (10, .int v14), (9, .int v12), (0, .ref (X.1 + 102)), (1, .int c1), (2, .int c2), (3, .int c3), (4, .int c4), (5, .int c5)]) dX11_seat_163 rfl rfl cI_1 (by decide) (fun _ => rfl) (fun v24 => ?_)
          refine s_goto (tgt := 54) dX11_seat_166 rfl ?_
          refine s_pick [6, 7, 8, 9, 10, 11, 2, 1, 0] rfl ?_
          exact ih v22 v23 v24 I20
        · skip
          refine s_goto (tgt := 163) dX11_seat_152 rfl ?_
          refine s_iincL 11 (c := 1) (fun v25 => [(8, .int v25), (11, .int v21), (10, .int v14), (9, .int v12), (0, .ref (X.1 + 102)), (1, .int c1), (2, .int c2), (3, .int c3), (4, .int c4), (5, .int c5), (6, .int w6), (7, .int w7)]) dX11_seat_163 rfl rfl cI_1 (by decide) (fun _ => rfl) (fun v25 => ?_)
          refine s_goto (tgt := 54) dX11_seat_166 rfl ?_
          refine s_pick [4, 5, 6, 7, 8, 9, 10, 11, 0] rfl ?_
          exact ih w6 w7 v25 I20
      · skip
        refine s_iload 1 dX11_seat_91 rfl rfl ?_
        refine s_aload_n 2 dX11_seat_93 rfl rfl ?_
        refine s_getI dX11_seat_94 rfl fl_11_455 (S_102 hK) ?_
        refine s_iconst (v := 1) dX11_seat_97 rfl cI_1 ?_
        refine s_isub dX11_seat_98 rfl ?_
        refine s_icmp_ge (tgt := 121) dX11_seat_99 rfl rfl (fun _ => ?_) (fun _ => ?_)
        · skip
          refine s_aload_n 2 dX11_seat_121 rfl rfl ?_
          refine s_getR 130 dX11_seat_122 rfl fl_11_97 rfl (S_102 hK) (R_102_42 hK) ?_
          refine s_iload_n 3 dX11_seat_125 rfl rfl ?_
          refine s_iload 1 dX11_seat_126 rfl rfl ?_
          refine sm_ck (fun g27 => ?_)
          refine s_iastL dX11_seat_128 rfl (S_130 hK) g27 (fun I26 => ?_)
          refine s_aload_n 2 dX11_seat_129 rfl rfl ?_
          refine s_getR 131 dX11_seat_130 rfl fl_11_100 rfl (S_102 hK) (R_102_43 hK) ?_
          refine s_iload_n 3 dX11_seat_133 rfl rfl ?_
          refine s_iload 0 dX11_seat_134 rfl rfl ?_
          refine sm_ck (fun g29 => ?_)
          refine s_iastL dX11_seat_136 rfl (S_131 hK) g29 (fun I28 => ?_)
          refine s_aload_n 2 dX11_seat_137 rfl rfl ?_
          refine s_iload_n 3 dX11_seat_138 rfl rfl ?_
          refine s_iload_n 4 dX11_seat_139 rfl rfl ?_
          refine s_callV2_i1 dX11_seat_140 rfl lkV_RX11_609 (S_102 hK) (Nat.le_of_ble_eq_true rfl) (Nat.le_of_ble_eq_true rfl) (Nat.le_of_ble_eq_true rfl) (ct_x11_getsAlone hK) (fun r30 I31 => ?_)
          refine s_istoreL (fun v32 => [(11, .int v32), (10, .int v14), (9, .int v12), (0, .ref (X.1 + 102)), (1, .int c1), (2, .int c2), (3, .int c3), (4, .int c4), (5, .int c5), (6, .int w6), (7, .int w7), (8, .int w8)]) dX11_seat_143 rfl (by decide) (fun _ => rfl) (fun v32 => ?_)
          refine s_iload 0 dX11_seat_145 rfl rfl ?_
          refine s_iload 10 dX11_seat_147 rfl rfl ?_
          refine s_icmp_gt (tgt := 155) dX11_seat_149 rfl rfl (fun _ => ?_) (fun _ => ?_)
          · skip
            refine s_iload 11 dX11_seat_155 rfl rfl ?_
            refine s_istoreL (fun v33 => [(6, .int v33), (11, .int v32), (10, .int v14), (9, .int v12), (0, .ref (X.1 + 102)), (1, .int c1), (2, .int c2), (3, .int c3), (4, .int c4), (5, .int c5), (7, .int w7), (8, .int w8)]) dX11_seat_157 rfl (by decide) (fun _ => rfl) (fun v33 => ?_)
            refine s_iload 1 dX11_seat_159 rfl rfl ?_
            refine s_istoreL (fun v34 => [(7, .int v34), (6, .int v33), (11, .int v32), (10, .int v14), (9, .int v12), (0, .ref (X.1 + 102)), (1, .int c1), (2, .int c2), (3, .int c3), (4, .int c4), (5, .int c5), (8, .int w8)]) dX11_seat_161 rfl (by decide) (fun _ => rfl) (fun v34 => ?_)
            refine s_iincL 11 (c := 1) (fun v35 => [(8, .int v35), (7, .int v34), (6, .int v33), (11, .int v32), (10, .int v14), (9, .int v12), (0, .ref (X.1 + 102)), (1, .int c1), (2, .int c2), (3, .int c3), (4, .int c4), (5, .int c5)]) dX11_seat_163 rfl rfl cI_1 (by decide) (fun _ => rfl) (fun v35 => ?_)
            refine s_goto (tgt := 54) dX11_seat_166 rfl ?_
            refine s_pick [6, 7, 8, 9, 10, 11, 2, 1, 0] rfl ?_
            exact ih v33 v34 v35 I31
          · skip
            refine s_goto (tgt := 163) dX11_seat_152 rfl ?_
            refine s_iincL 11 (c := 1) (fun v36 => [(8, .int v36), (11, .int v32), (10, .int v14), (9, .int v12), (0, .ref (X.1 + 102)), (1, .int c1), (2, .int c2), (3, .int c3), (4, .int c4), (5, .int c5), (6, .int w6), (7, .int w7)]) dX11_seat_163 rfl rfl cI_1 (by decide) (fun _ => rfl) (fun v36 => ?_)
            refine s_goto (tgt := 54) dX11_seat_166 rfl ?_
            refine s_pick [4, 5, 6, 7, 8, 9, 10, 11, 0] rfl ?_
            exact ih w6 w7 v36 I31
        · skip
          refine s_iload 0 dX11_seat_102 rfl rfl ?_
          refine s_if_le (tgt := 121) dX11_seat_104 rfl rfl (fun _ => ?_) (fun _ => ?_)
          · skip
            refine s_aload_n 2 dX11_seat_121 rfl rfl ?_
            refine s_getR 130 dX11_seat_122 rfl fl_11_97 rfl (S_102 hK) (R_102_42 hK) ?_
            refine s_iload_n 3 dX11_seat_125 rfl rfl ?_
            refine s_iload 1 dX11_seat_126 rfl rfl ?_
            refine sm_ck (fun g38 => ?_)
            refine s_iastL dX11_seat_128 rfl (S_130 hK) g38 (fun I37 => ?_)
            refine s_aload_n 2 dX11_seat_129 rfl rfl ?_
            refine s_getR 131 dX11_seat_130 rfl fl_11_100 rfl (S_102 hK) (R_102_43 hK) ?_
            refine s_iload_n 3 dX11_seat_133 rfl rfl ?_
            refine s_iload 0 dX11_seat_134 rfl rfl ?_
            refine sm_ck (fun g40 => ?_)
            refine s_iastL dX11_seat_136 rfl (S_131 hK) g40 (fun I39 => ?_)
            refine s_aload_n 2 dX11_seat_137 rfl rfl ?_
            refine s_iload_n 3 dX11_seat_138 rfl rfl ?_
            refine s_iload_n 4 dX11_seat_139 rfl rfl ?_
            refine s_callV2_i1 dX11_seat_140 rfl lkV_RX11_609 (S_102 hK) (Nat.le_of_ble_eq_true rfl) (Nat.le_of_ble_eq_true rfl) (Nat.le_of_ble_eq_true rfl) (ct_x11_getsAlone hK) (fun r41 I42 => ?_)
            refine s_istoreL (fun v43 => [(11, .int v43), (10, .int v14), (9, .int v12), (0, .ref (X.1 + 102)), (1, .int c1), (2, .int c2), (3, .int c3), (4, .int c4), (5, .int c5), (6, .int w6), (7, .int w7), (8, .int w8)]) dX11_seat_143 rfl (by decide) (fun _ => rfl) (fun v43 => ?_)
            refine s_iload 0 dX11_seat_145 rfl rfl ?_
            refine s_iload 10 dX11_seat_147 rfl rfl ?_
            refine s_icmp_gt (tgt := 155) dX11_seat_149 rfl rfl (fun _ => ?_) (fun _ => ?_)
            · skip
              refine s_iload 11 dX11_seat_155 rfl rfl ?_
              refine s_istoreL (fun v44 => [(6, .int v44), (11, .int v43), (10, .int v14), (9, .int v12), (0, .ref (X.1 + 102)), (1, .int c1), (2, .int c2), (3, .int c3), (4, .int c4), (5, .int c5), (7, .int w7), (8, .int w8)]) dX11_seat_157 rfl (by decide) (fun _ => rfl) (fun v44 => ?_)
              refine s_iload 1 dX11_seat_159 rfl rfl ?_
              refine s_istoreL (fun v45 => [(7, .int v45), (6, .int v44), (11, .int v43), (10, .int v14), (9, .int v12), (0, .ref (X.1 + 102)), (1, .int c1), (2, .int c2), (3, .int c3), (4, .int c4), (5, .int c5), (8, .int w8)]) dX11_seat_161 rfl (by decide) (fun _ => rfl) (fun v45 => ?_)
              refine s_iincL 11 (c := 1) (fun v46 => [(8, .int v46), (7, .int v45), (6, .int v44), (11, .int v43), (10, .int v14), (9, .int v12), (0, .ref (X.1 + 102)), (1, .int c1), (2, .int c2), (3, .int c3), (4, .int c4), (5, .int c5)]) dX11_seat_163 rfl rfl cI_1 (by decide) (fun _ => rfl) (fun v46 => ?_)
              refine s_goto (tgt := 54) dX11_seat_166 rfl ?_
              refine s_pick [6, 7, 8, 9, 10, 11, 2, 1, 0] rfl ?_
              exact ih v44 v45 v46 I42
            · skip
              refine s_goto (tgt := 163) dX11_seat_152 rfl ?_
              refine s_iincL 11 (c := 1) (fun v47 => [(8, .int v47), (11, .int v43), (10, .int v14), (9, .int v12), (0, .ref (X.1 + 102)), (1, .int c1), (2, .int c2), (3, .int c3), (4, .int c4), (5, .int c5), (6, .int w6), (7, .int w7)]) dX11_seat_163 rfl rfl cI_1 (by decide) (fun _ => rfl) (fun v47 => ?_)
              refine s_goto (tgt := 54) dX11_seat_166 rfl ?_
              refine s_pick [4, 5, 6, 7, 8, 9, 10, 11, 0] rfl ?_
              exact ih w6 w7 v47 I42
          · skip
            refine s_iload 0 dX11_seat_107 rfl rfl ?_
            refine s_aload_n 2 dX11_seat_109 rfl rfl ?_
            refine s_getI dX11_seat_110 rfl fl_11_458 (S_102 hK) ?_
            refine s_iconst (v := 1) dX11_seat_113 rfl cI_1 ?_
            refine s_isub dX11_seat_114 rfl ?_
            refine s_icmp_ge (tgt := 121) dX11_seat_115 rfl rfl (fun _ => ?_) (fun _ => ?_)
            · skip
              refine s_aload_n 2 dX11_seat_121 rfl rfl ?_
              refine s_getR 130 dX11_seat_122 rfl fl_11_97 rfl (S_102 hK) (R_102_42 hK) ?_
              refine s_iload_n 3 dX11_seat_125 rfl rfl ?_
              refine s_iload 1 dX11_seat_126 rfl rfl ?_
              refine sm_ck (fun g49 => ?_)
              refine s_iastL dX11_seat_128 rfl (S_130 hK) g49 (fun I48 => ?_)
              refine s_aload_n 2 dX11_seat_129 rfl rfl ?_
              refine s_getR 131 dX11_seat_130 rfl fl_11_100 rfl (S_102 hK) (R_102_43 hK) ?_
              refine s_iload_n 3 dX11_seat_133 rfl rfl ?_
              refine s_iload 0 dX11_seat_134 rfl rfl ?_
              refine sm_ck (fun g51 => ?_)
              refine s_iastL dX11_seat_136 rfl (S_131 hK) g51 (fun I50 => ?_)
              refine s_aload_n 2 dX11_seat_137 rfl rfl ?_
              refine s_iload_n 3 dX11_seat_138 rfl rfl ?_
              refine s_iload_n 4 dX11_seat_139 rfl rfl ?_
              refine s_callV2_i1 dX11_seat_140 rfl lkV_RX11_609 (S_102 hK) (Nat.le_of_ble_eq_true rfl) (Nat.le_of_ble_eq_true rfl) (Nat.le_of_ble_eq_true rfl) (ct_x11_getsAlone hK) (fun r52 I53 => ?_)
              refine s_istoreL (fun v54 => [(11, .int v54), (10, .int v14), (9, .int v12), (0, .ref (X.1 + 102)), (1, .int c1), (2, .int c2), (3, .int c3), (4, .int c4), (5, .int c5), (6, .int w6), (7, .int w7), (8, .int w8)]) dX11_seat_143 rfl (by decide) (fun _ => rfl) (fun v54 => ?_)
              refine s_iload 0 dX11_seat_145 rfl rfl ?_
              refine s_iload 10 dX11_seat_147 rfl rfl ?_
              refine s_icmp_gt (tgt := 155) dX11_seat_149 rfl rfl (fun _ => ?_) (fun _ => ?_)
              · skip
                refine s_iload 11 dX11_seat_155 rfl rfl ?_
                refine s_istoreL (fun v55 => [(6, .int v55), (11, .int v54), (10, .int v14), (9, .int v12), (0, .ref (X.1 + 102)), (1, .int c1), (2, .int c2), (3, .int c3), (4, .int c4), (5, .int c5), (7, .int w7), (8, .int w8)]) dX11_seat_157 rfl (by decide) (fun _ => rfl) (fun v55 => ?_)
                refine s_iload 1 dX11_seat_159 rfl rfl ?_
                refine s_istoreL (fun v56 => [(7, .int v56), (6, .int v55), (11, .int v54), (10, .int v14), (9, .int v12), (0, .ref (X.1 + 102)), (1, .int c1), (2, .int c2), (3, .int c3), (4, .int c4), (5, .int c5), (8, .int w8)]) dX11_seat_161 rfl (by decide) (fun _ => rfl) (fun v56 => ?_)
                refine s_iincL 11 (c := 1) (fun v57 => [(8, .int v57), (7, .int v56), (6, .int v55), (11, .int v54), (10, .int v14), (9, .int v12), (0, .ref (X.1 + 102)), (1, .int c1), (2, .int c2), (3, .int c3), (4, .int c4), (5, .int c5)]) dX11_seat_163 rfl rfl cI_1 (by decide) (fun _ => rfl) (fun v57 => ?_)
                refine s_goto (tgt := 54) dX11_seat_166 rfl ?_
                refine s_pick [6, 7, 8, 9, 10, 11, 2, 1, 0] rfl ?_
                exact ih v55 v56 v57 I53
              · skip
                refine s_goto (tgt := 163) dX11_seat_152 rfl ?_
                refine s_iincL 11 (c := 1) (fun v58 => [(8, .int v58), (11, .int v54), (10, .int v14), (9, .int v12), (0, .ref (X.1 + 102)), (1, .int c1), (2, .int c2), (3, .int c3), (4, .int c4), (5, .int c5), (6, .int w6), (7, .int w7)]) dX11_seat_163 rfl rfl cI_1 (by decide) (fun _ => rfl) (fun v58 => ?_)
                refine s_goto (tgt := 54) dX11_seat_166 rfl ?_
                refine s_pick [4, 5, 6, 7, 8, 9, 10, 11, 0] rfl ?_
                exact ih w6 w7 v58 I53
            · skip
              refine s_goto (tgt := 163) dX11_seat_118 rfl ?_
              refine s_iincL 10 (c := 1) (fun v59 => [(8, .int v59), (10, .int v14), (9, .int v12), (0, .ref (X.1 + 102)), (1, .int c1), (2, .int c2), (3, .int c3), (4, .int c4), (5, .int c5), (6, .int w6), (7, .int w7)]) dX11_seat_163 rfl rfl cI_1 (by decide) (fun _ => rfl) (fun v59 => ?_)
              refine s_goto (tgt := 54) dX11_seat_166 rfl ?_
              refine s_pick [3, 4, 5, 6, 7, 8, 9, 10, 0] rfl ?_
              exact ih w6 w7 v59 I
theorem ct_x11_seat {X : WX} {p1 : Int32} {p2 : Int32} {p3 : Int32} {I : MI} {L : ML} {R : MR} {S : MS} (hK : okm R S) : Ct X yX11_seat cX11_seat 12 (some .int) 8 193 [.ref (X.1 + 102), .int p1, .int p2, .int p3] (I, L, R, S) (x11_seat p1 p2 p3 I) (fun r => (some (.int r.1), (r.2, L, R, S))) := by
  refine Ct.of (by decide) (Nat.le_of_ble_eq_true rfl) [(0, .ref (X.1 + 102)), (1, .int p1), (2, .int p2), (3, .int p3)] rfl ?_
  unfold x11_seat
  refine s_aload_n 0 dX11_seat_0 rfl rfl ?_
  refine s_iload_n 1 dX11_seat_1 rfl rfl ?_
  refine s_callV1_i0 dX11_seat_2 rfl lkV_RX11_563 (S_102 hK) (Nat.le_of_ble_eq_true rfl) (Nat.le_of_ble_eq_true rfl) (Nat.le_of_ble_eq_true rfl) (ct_x11_isBobber hK) (fun r1 => ?_)
  refine s_if_eq (tgt := 27) dX11_seat_5 rfl rfl (fun _ => ?_) (fun _ => ?_)
  · skip
    refine s_iconst (v := (-1)) dX11_seat_27 rfl cI_m1 ?_
    exact s_iret dX11_seat_28 rfl (fun f h => h)
  · skip
    refine s_iload_n 2 dX11_seat_8 rfl rfl ?_
    refine s_iconst (v := 1) dX11_seat_9 rfl cI_1 ?_
    refine s_bipush (v := 10) dX11_seat_10 rfl cB_10 ?_
    refine s_callS3_i0 dX11_seat_12 rfl lkS_RX11_494 (Nat.le_of_ble_eq_true rfl) (Nat.le_of_ble_eq_true rfl) (Nat.le_of_ble_eq_true rfl) (ct_x11_isIn hK) (fun r2 => ?_)
    refine s_if_eq (tgt := 27) dX11_seat_15 rfl rfl (fun _ => ?_) (fun _ => ?_)
    · skip
      refine s_iconst (v := (-1)) dX11_seat_27 rfl cI_m1 ?_
      exact s_iret dX11_seat_28 rfl (fun f h => h)
    · skip
      refine s_iload_n 3 dX11_seat_18 rfl rfl ?_
      refine s_iconst (v := 0) dX11_seat_19 rfl cI_0 ?_
      refine s_iconst (v := 2) dX11_seat_20 rfl cI_2 ?_
      refine s_callS3_i0 dX11_seat_21 rfl lkS_RX11_494 (Nat.le_of_ble_eq_true rfl) (Nat.le_of_ble_eq_true rfl) (Nat.le_of_ble_eq_true rfl) (ct_x11_isIn hK) (fun r3 => ?_)
      refine s_if_ne (tgt := 29) dX11_seat_24 rfl rfl (fun _ => ?_) (fun _ => ?_)
      · skip
        refine s_aload_n 0 dX11_seat_29 rfl rfl ?_
        refine s_getR 130 dX11_seat_30 rfl fl_11_97 rfl (S_102 hK) (R_102_42 hK) ?_
        refine s_iload_n 1 dX11_seat_33 rfl rfl ?_
        refine sm_ck (fun g4 => ?_)
        refine s_iald dX11_seat_34 rfl (S_130 hK) g4 ?_
        refine s_istoreL (fun v5 => [(4, .int v5), (0, .ref (X.1 + 102)), (1, .int p1), (2, .int p2), (3, .int p3)]) dX11_seat_35 rfl (by decide) (fun _ => rfl) (fun v5 => ?_)
        refine s_aload_n 1 dX11_seat_37 rfl rfl ?_
        refine s_getR 131 dX11_seat_38 rfl fl_11_100 rfl (S_102 hK) (R_102_43 hK) ?_
        refine s_iload_n 2 dX11_seat_41 rfl rfl ?_
        refine sm_ck (fun g6 => ?_)
        refine s_iald dX11_seat_42 rfl (S_131 hK) g6 ?_
        refine s_istoreL (fun v7 => [(5, .int v7), (4, .int v5), (0, .ref (X.1 + 102)), (1, .int p1), (2, .int p2), (3, .int p3)]) dX11_seat_43 rfl (by decide) (fun _ => rfl) (fun v7 => ?_)
        refine s_iconst (v := (-1)) dX11_seat_45 rfl cI_m1 ?_
        refine s_istoreL (fun v8 => [(6, .int v8), (5, .int v7), (4, .int v5), (0, .ref (X.1 + 102)), (1, .int p1), (2, .int p2), (3, .int p3)]) dX11_seat_46 rfl (by decide) (fun _ => rfl) (fun v8 => ?_)
        refine s_iconst (v := (-1)) dX11_seat_48 rfl cI_m1 ?_
        refine s_istoreL (fun v9 => [(7, .int v9), (6, .int v8), (5, .int v7), (4, .int v5), (0, .ref (X.1 + 102)), (1, .int p1), (2, .int p2), (3, .int p3)]) dX11_seat_49 rfl (by decide) (fun _ => rfl) (fun v9 => ?_)
        refine s_iconst (v := 0) dX11_seat_51 rfl cI_0 ?_
        refine s_istoreL (fun v10 => [(8, .int v10), (7, .int v9), (6, .int v8), (5, .int v7), (4, .int v5), (0, .ref (X.1 + 102)), (1, .int p1), (2, .int p2), (3, .int p3)]) dX11_seat_52 rfl (by decide) (fun _ => rfl) (fun v10 => ?_)
        refine s_pick [5, 6, 7, 8, 4, 3, 2, 1, 0] rfl ?_
        refine sm_reg (x11_seat_L54_ok hK FU v8 v9 v10 I) (fun e60 => ?_)
        refine s_aload_n 0 dX11_seat_169 rfl rfl ?_
        refine s_getR 130 dX11_seat_170 rfl fl_11_97 rfl (S_102 hK) (R_102_42 hK) ?_
        refine s_iload_n 1 dX11_seat_173 rfl rfl ?_
        refine s_iload 3 dX11_seat_174 rfl rfl ?_
        refine sm_ck (fun g62 => ?_)
        refine s_iastL dX11_seat_176 rfl (S_130 hK) g62 (fun I61 => ?_)
        refine s_aload_n 0 dX11_seat_177 rfl rfl ?_
        refine s_getR 131 dX11_seat_178 rfl fl_11_100 rfl (S_102 hK) (R_102_43 hK) ?_
        refine s_iload_n 1 dX11_seat_181 rfl rfl ?_
        refine s_iload 4 dX11_seat_182 rfl rfl ?_
        refine sm_ck (fun g64 => ?_)
        refine s_iastL dX11_seat_184 rfl (S_131 hK) g64 (fun I63 => ?_)
        refine s_iload_n 2 dX11_seat_185 rfl rfl ?_
        refine s_if_ne (tgt := 199) dX11_seat_186 rfl rfl (fun _ => ?_) (fun _ => ?_)
        · skip
          refine s_iload_n 2 dX11_seat_199 rfl rfl ?_
          refine s_iconst (v := 1) dX11_seat_200 rfl cI_1 ?_
          refine s_icmp_ne (tgt := 214) dX11_seat_201 rfl rfl (fun _ => ?_) (fun _ => ?_)
          · skip
            refine s_iload 6 dX11_seat_214 rfl rfl ?_
            exact s_iret dX11_seat_216 rfl (fun f h => h)
          · skip
            refine s_iload 5 dX11_seat_204 rfl rfl ?_
            refine s_aload_n 0 dX11_seat_206 rfl rfl ?_
            refine s_getI dX11_seat_207 rfl fl_11_455 (S_102 hK) ?_
            refine sm_ck (fun g65 => ?_)
            refine s_idiv dX11_seat_210 rfl g65 ?_
            refine s_goto (tgt := 216) dX11_seat_211 rfl ?_
            exact s_iret dX11_seat_216 rfl (fun f h => h)
        · skip
          refine s_iload 5 dX11_seat_189 rfl rfl ?_
          refine s_aload_n 0 dX11_seat_191 rfl rfl ?_
          refine s_getI dX11_seat_192 rfl fl_11_455 (S_102 hK) ?_
          refine sm_ck (fun g66 => ?_)
          refine s_irem dX11_seat_195 rfl g66 ?_
          refine s_goto (tgt := 216) dX11_seat_196 rfl ?_
          exact s_iret dX11_seat_216 rfl (fun f h => h)
      · skip
        refine s_iconst (v := (-1)) dX11_seat_27 rfl cI_m1 ?_
        exact s_iret dX11_seat_28 rfl (fun f h => h)
noncomputable def x11_layTurn_L9s (c1 : Int32) (rec : Int32 → Int32 → MI → Option (Int32 × MI)) (w2 : Int32) (w3 : Int32) (I : MI) : Option (Int32 × MI) :=
if w3 < 0 then (
some (w2, I)) else
ck (vp_in w3 4) <|
lt (wI I 147 (ix w3) ((c1 >>> ((2 * (((I 102 61) - 1) - w3)) &&& 31)) &&& 3)) fun I3 =>
ck (vp_in w3 4) <|
lt (w2 ||| ((1 : Int32) <<< ((I3 147 (ix w3)) &&& 31))) fun v6 =>
lt (w3 + (-1)) fun v7 =>
rec v6 v7 I3
noncomputable def x11_layTurn_L9 (c1 : Int32) : Nat → Int32 → Int32 → MI → Option (Int32 × MI)
  | 0 => fun _ _ _ => none
  | n + 1 => x11_layTurn_L9s c1 (x11_layTurn_L9 c1 n)
noncomputable def x11_layTurn (p1 : Int32) (I : MI) : Option (Int32 × MI) :=
lt (0 : Int32) fun v1 =>
lt ((I 102 61) - 1) fun v2 =>
b1 (x11_layTurn_L9 p1 FU v1 v2 I) fun e8 =>
if e8.1 = (((1 : Int32) <<< ((e8.2 102 61) &&& 31)) - 1) then (
some ((1 : Int32), e8.2)) else
some ((0 : Int32), e8.2)
theorem x11_layTurn_L9_ok {X : WX} {n0 s0 : Nat} {c1 : Int32} {L : ML} {R : MR} {S : MS} (hK : okm R S) : ∀ (n : Nat) (w2 : Int32) (w3 : Int32) (I : MI), Sim X yX11_layTurn cX11_layTurn 4 (some .boolean) 0 0 n0 s0 9 [(0, .ref (X.1 + 102)), (1, .int c1), (2, .int w2), (3, .int w3)] [] (I, L, R, S) (x11_layTurn_L9 c1 n w2 w3 I) (fun b f => Ex X yX11_layTurn cX11_layTurn 4 (some .boolean) 0 0 n0 s0 50 [(0, .ref (X.1 + 102)), (2, .int b.1)] [] (b.2, L, R, S) f) := by
  intro n
  induction n with
  | zero =>
    intro w2 w3 I
    exact sm_none
  | succ n ih =>
    intro w2 w3 I
    change Sim _ _ _ _ _ _ _ _ _ _ _ _ _ (x11_layTurn_L9s c1 (x11_layTurn_L9 c1 n) w2 w3 I) _
    unfold x11_layTurn_L9s
    refine s_iload_n 3 dX11_layTurn_9 rfl rfl ?_
    refine s_if_lt (tgt := 50) dX11_layTurn_10 rfl rfl (fun _ => ?_) (fun _ => ?_)
    · skip
      refine s_pick [0, 2] rfl ?_
      exact sm_exit (fun f h => h)
    · skip
      refine s_aload_n 0 dX11_layTurn_13 rfl rfl ?_
      refine s_getR 147 dX11_layTurn_14 rfl fl_11_151 rfl (S_102 hK) (R_102_81 hK) ?_
      refine s_iload_n 3 dX11_layTurn_17 rfl rfl ?_
      refine s_iload_n 1 dX11_layTurn_18 rfl rfl ?_
      refine s_iconst (v := 2) dX11_layTurn_19 rfl cI_2 ?_
      refine s_aload_n 0 dX11_layTurn_20 rfl rfl ?_
      refine s_getI dX11_layTurn_21 rfl fl_11_470 (S_102 hK) ?_
      refine s_iconst (v := 1) dX11_layTurn_24 rfl cI_1 ?_
      refine s_isub dX11_layTurn_25 rfl ?_
      refine s_iload_n 3 dX11_layTurn_26 rfl rfl ?_
      refine s_isub dX11_layTurn_27 rfl ?_
      refine s_imul dX11_layTurn_28 rfl ?_
      refine s_ishr dX11_layTurn_29 rfl ?_
      refine s_iconst (v := 3) dX11_layTurn_30 rfl cI_3 ?_
      refine s_iand dX11_layTurn_31 rfl ?_
      refine sm_ck (fun g4 => ?_)
      refine s_iastL dX11_layTurn_32 rfl (S_147 hK) g4 (fun I3 => ?_)
      refine s_iload_n 2 dX11_layTurn_33 rfl rfl ?_
      refine s_iconst (v := 1) dX11_layTurn_34 rfl cI_1 ?_
      refine s_aload_n 0 dX11_layTurn_35 rfl rfl ?_
      refine s_getR 147 dX11_layTurn_36 rfl fl_11_151 rfl (S_102 hK) (R_102_81 hK) ?_
      refine s_iload_n 3 dX11_layTurn_39 rfl rfl ?_
      refine sm_ck (fun g5 => ?_)
      refine s_iald dX11_layTurn_40 rfl (S_147 hK) g5 ?_
      refine s_ishl dX11_layTurn_41 rfl ?_
      refine s_ior dX11_layTurn_42 rfl ?_
      refine s_istore_nL (fun v6 => [(2, .int v6), (0, .ref (X.1 + 102)), (1, .int c1), (3, .int w3)]) dX11_layTurn_43 rfl (by decide) (fun _ => rfl) (fun v6 => ?_)
      refine s_iincL 3 (c := (-1)) (fun v7 => [(3, .int v7), (2, .int v6), (0, .ref (X.1 + 102)), (1, .int c1)]) dX11_layTurn_44 rfl rfl cI_m1 (by decide) (fun _ => rfl) (fun v7 => ?_)
      refine s_goto (tgt := 9) dX11_layTurn_47 rfl ?_
      refine s_pick [2, 3, 1, 0] rfl ?_
      exact ih v6 v7 I3
theorem ct_x11_layTurn {X : WX} {p1 : Int32} {I : MI} {L : ML} {R : MR} {S : MS} (hK : okm R S) : Ct X yX11_layTurn cX11_layTurn 4 (some .boolean) 0 0 [.ref (X.1 + 102), .int p1] (I, L, R, S) (x11_layTurn p1 I) (fun r => (some (.int r.1), (r.2, L, R, S))) := by
  refine Ct.of (by decide) (Nat.le_of_ble_eq_true rfl) [(0, .ref (X.1 + 102)), (1, .int p1)] rfl ?_
  unfold x11_layTurn
  refine s_iconst (v := 0) dX11_layTurn_0 rfl cI_0 ?_
  refine s_istore_nL (fun v1 => [(2, .int v1), (0, .ref (X.1 + 102)), (1, .int p1)]) dX11_layTurn_1 rfl (by decide) (fun _ => rfl) (fun v1 => ?_)
  refine s_aload_n 1 dX11_layTurn_2 rfl rfl ?_
  refine s_getI dX11_layTurn_3 rfl fl_11_470 (S_102 hK) ?_
  refine s_iconst (v := 1) dX11_layTurn_6 rfl cI_1 ?_
  refine s_isub dX11_layTurn_7 rfl ?_
  refine s_istore_nL (fun v2 => [(3, .int v2), (2, .int v1), (0, .ref (X.1 + 102)), (1, .int p1)]) dX11_layTurn_8 rfl (by decide) (fun _ => rfl) (fun v2 => ?_)
  refine s_pick [2, 3, 1, 0] rfl ?_
  refine sm_reg (x11_layTurn_L9_ok hK FU v1 v2 I) (fun e8 => ?_)
  refine s_iload_n 1 dX11_layTurn_50 rfl rfl ?_
  refine s_iconst (v := 1) dX11_layTurn_51 rfl cI_1 ?_
  refine s_aload_n 0 dX11_layTurn_52 rfl rfl ?_
  refine s_getI dX11_layTurn_53 rfl fl_11_470 (S_102 hK) ?_
  refine s_ishl dX11_layTurn_56 rfl ?_
  refine s_iconst (v := 1) dX11_layTurn_57 rfl cI_1 ?_
  refine s_isub dX11_layTurn_58 rfl ?_
  refine s_icmp_ne (tgt := 66) dX11_layTurn_59 rfl rfl (fun _ => ?_) (fun _ => ?_)
  · skip
    refine s_iconst (v := 0) dX11_layTurn_66 rfl cI_0 ?_
    exact s_zret dX11_layTurn_67 rfl (Or.inl rfl) (fun f h => h)
  · skip
    refine s_iconst (v := 1) dX11_layTurn_62 rfl cI_1 ?_
    refine s_goto (tgt := 67) dX11_layTurn_63 rfl ?_
    exact s_zret dX11_layTurn_67 rfl (Or.inr rfl) (fun f h => h)
noncomputable def x11_order_L63s (rec : Int32 → Int32 → MI → Option (Int32 × MI)) (w4 : Int32) (w6 : Int32) (I : MI) : Option (Int32 × MI) :=
if w6 < (I 102 61) then (
ck (vp_in w6 4) <|
ck (vp_in w6 4) <|
ck (vp_in (I 147 (ix w6)) 4) <|
b2 (x11_actsBy (I 147 (ix w6)) (I 135 (ix (I 147 (ix w6)))) I) fun r14 I15 =>
if r14 = 0 then (
lt (w4 + 0) fun v16 =>
lt (w6 + 1) fun v17 =>
rec v16 v17 I15) else
lt (w4 + 1) fun v18 =>
lt (w6 + 1) fun v19 =>
rec v18 v19 I15) else
some (w4, I)
noncomputable def x11_order_L63 : Nat → Int32 → Int32 → MI → Option (Int32 × MI)
  | 0 => fun _ _ _ => none
  | n + 1 => x11_order_L63s (x11_order_L63 n)
noncomputable def x11_order_L54s (c1 : Int32) (rec : Int32 → Int32 → MI → Option (Int32 × MI)) (w4 : Int32) (w5 : Int32) (I : MI) : Option (Int32 × MI) :=
if w5 < c1 then (
lt (0 : Int32) fun v10 =>
b1 (x11_order_L63 FU w4 v10 I) fun e20 =>
lt (w5 + 1) fun v21 =>
rec e20.1 v21 e20.2) else
some (w4, I)
noncomputable def x11_order_L54 (c1 : Int32) : Nat → Int32 → Int32 → MI → Option (Int32 × MI)
  | 0 => fun _ _ _ => none
  | n + 1 => x11_order_L54s c1 (x11_order_L54 c1 n)
noncomputable def x11_order_L135s (rec : Int32 → MI → Option (MI)) (w5 : Int32) (I : MI) : Option (MI) :=
if w5 < (I 102 61) then (
ck (vp_in w5 4) <|
ck (vp_in w5 40) <|
lt (wI I 149 (ix w5) (I 147 (ix w5))) fun I26 =>
lt (w5 + 1) fun v28 =>
rec v28 I26) else
some I
noncomputable def x11_order_L135 : Nat → Int32 → MI → Option (MI)
  | 0 => fun _ _ => none
  | n + 1 => x11_order_L135s (x11_order_L135 n)
noncomputable def x11_order_L21s (c1 : Int32) (rec : Int32 → Int32 → MI → Option (Int32 × MI)) (w2 : Int32) (w3 : Int32) (I : MI) : Option (Int32 × MI) :=
if w3 < ((1 : Int32) <<< ((2 * (I 102 61)) &&& 31)) then (
b2 (x11_layTurn w3 I) fun r5 I6 =>
if r5 = 0 then (
lt (w3 + 1) fun v33 =>
rec w2 v33 I6) else
b1 (x11_load I6) fun I7 =>
lt (0 : Int32) fun v8 =>
lt (0 : Int32) fun v9 =>
b1 (x11_order_L54 c1 FU v8 v9 I7) fun e22 =>
if w2 < e22.1 then (
lt e22.1 fun v23 =>
lt (0 : Int32) fun v24 =>
b1 (x11_order_L135 FU v24 e22.2) fun e29 =>
lt (wI e29 102 85 (e29 102 61)) fun I30 =>
lt (w3 + 1) fun v31 =>
rec v23 v31 I30) else
lt (w3 + 1) fun v32 =>
rec w2 v32 e22.2) else
some (w2, I)
noncomputable def x11_order_L21 (c1 : Int32) : Nat → Int32 → Int32 → MI → Option (Int32 × MI)
  | 0 => fun _ _ _ => none
  | n + 1 => x11_order_L21s c1 (x11_order_L21 c1 n)
noncomputable def x11_order (p1 : Int32) (I : MI) : Option (Int32 × MI) :=
lt (wI I 102 85 (0 : Int32)) fun I1 =>
b1 (x11_isIn p1 (1 : Int32) (10 : Int32) I1) fun r2 =>
if r2 = 0 then (
some ((-1 : Int32), I1)) else
lt (-1 : Int32) fun v3 =>
lt (0 : Int32) fun v4 =>
b1 (x11_order_L21 p1 FU v3 v4 I1) fun e34 =>
some (e34.1, e34.2)
theorem x11_order_L63_ok {X : WX} {n0 s0 : Nat} {c1 : Int32} {c2 : Int32} {c3 : Int32} {c5 : Int32} {L : ML} {R : MR} {S : MS} (hK : okm R S) : ∀ (n : Nat) (w4 : Int32) (w6 : Int32) (I : MI), Sim X yX11_order cX11_order 7 (some .int) 7 169 n0 s0 63 [(0, .ref (X.1 + 102)), (1, .int c1), (2, .int c2), (3, .int c3), (4, .int w4), (5, .int c5), (6, .int w6)] [] (I, L, R, S) (x11_order_L63 n w4 w6 I) (fun b f => Ex X yX11_order cX11_order 7 (some .int) 7 169 n0 s0 114 [(0, .ref (X.1 + 102)), (1, .int c1), (2, .int c2), (3, .int c3), (4, .int b.1), (5, .int c5)] [] (b.2, L, R, S) f) := by
  intro n
  induction n with
  | zero =>
    intro w4 w6 I
    exact sm_none
  | succ n ih =>
    intro w4 w6 I
    change Sim _ _ _ _ _ _ _ _ _ _ _ _ _ (x11_order_L63s (x11_order_L63 n) w4 w6 I) _
    unfold x11_order_L63s
    refine s_iload 6 dX11_order_63 rfl rfl ?_
    refine s_aload_n 0 dX11_order_65 rfl rfl ?_
    refine s_getI dX11_order_66 rfl fl_11_470 (S_102 hK) ?_
    refine s_icmp_ge (tgt := 114) dX11_order_69 rfl rfl (fun _ => ?_) (fun _ => ?_)
    · skip
      refine s_pick [0, 1, 2, 3, 4, 5] rfl ?_
      exact sm_exit (fun f h => h)
    · skip
      refine s_iload 4 dX11_order_72 rfl rfl ?_
      refine s_aload_n 0 dX11_order_74 rfl rfl ?_
      refine s_aload_n 0 dX11_order_75 rfl rfl ?_
      refine s_getR 147 dX11_order_76 rfl fl_11_151 rfl (S_102 hK) (R_102_81 hK) ?_
      refine s_iload 6 dX11_order_79 rfl rfl ?_
      refine sm_ck (fun g11 => ?_)
      refine s_iald dX11_order_81 rfl (S_147 hK) g11 ?_
      refine s_aload_n 0 dX11_order_82 rfl rfl ?_
      refine s_getR 135 dX11_order_83 rfl fl_11_112 rfl (S_102 hK) (R_102_47 hK) ?_
      refine s_aload_n 0 dX11_order_86 rfl rfl ?_
      refine s_getR 147 dX11_order_87 rfl fl_11_151 rfl (S_102 hK) (R_102_81 hK) ?_
      refine s_iload 6 dX11_order_90 rfl rfl ?_
      refine sm_ck (fun g12 => ?_)
      refine s_iald dX11_order_92 rfl (S_147 hK) g12 ?_
      refine sm_ck (fun g13 => ?_)
      refine s_iald dX11_order_93 rfl (S_135 hK) g13 ?_
      refine s_callV2_i1 dX11_order_94 rfl lkV_RX11_584 (S_102 hK) (Nat.le_of_ble_eq_true rfl) (Nat.le_of_ble_eq_true rfl) (Nat.le_of_ble_eq_true rfl) (ct_x11_actsBy hK) (fun r14 I15 => ?_)
      refine s_if_eq (tgt := 104) dX11_order_97 rfl rfl (fun _ => ?_) (fun _ => ?_)
      · skip
        refine s_iconst (v := 0) dX11_order_104 rfl cI_0 ?_
        refine s_iadd dX11_order_105 rfl ?_
        refine s_istoreL (fun v16 => [(4, .int v16), (0, .ref (X.1 + 102)), (1, .int c1), (2, .int c2), (3, .int c3), (5, .int c5), (6, .int w6)]) dX11_order_106 rfl (by decide) (fun _ => rfl) (fun v16 => ?_)
        refine s_iincL 6 (c := 1) (fun v17 => [(6, .int v17), (4, .int v16), (0, .ref (X.1 + 102)), (1, .int c1), (2, .int c2), (3, .int c3), (5, .int c5)]) dX11_order_108 rfl rfl cI_1 (by decide) (fun _ => rfl) (fun v17 => ?_)
        refine s_goto (tgt := 63) dX11_order_111 rfl ?_
        refine s_pick [2, 3, 4, 5, 1, 6, 0] rfl ?_
        exact ih v16 v17 I15
      · skip
        refine s_iconst (v := 1) dX11_order_100 rfl cI_1 ?_
        refine s_goto (tgt := 105) dX11_order_101 rfl ?_
        refine s_iadd dX11_order_105 rfl ?_
        refine s_istoreL (fun v18 => [(4, .int v18), (0, .ref (X.1 + 102)), (1, .int c1), (2, .int c2), (3, .int c3), (5, .int c5), (6, .int w6)]) dX11_order_106 rfl (by decide) (fun _ => rfl) (fun v18 => ?_)
        refine s_iincL 6 (c := 1) (fun v19 => [(6, .int v19), (4, .int v18), (0, .ref (X.1 + 102)), (1, .int c1), (2, .int c2), (3, .int c3), (5, .int c5)]) dX11_order_108 rfl rfl cI_1 (by decide) (fun _ => rfl) (fun v19 => ?_)
        refine s_goto (tgt := 63) dX11_order_111 rfl ?_
        refine s_pick [2, 3, 4, 5, 1, 6, 0] rfl ?_
        exact ih v18 v19 I15
theorem x11_order_L54_ok {X : WX} {n0 s0 : Nat} {c1 : Int32} {c2 : Int32} {c3 : Int32} {L : ML} {R : MR} {S : MS} (hK : okm R S) : ∀ (n : Nat) (w4 : Int32) (w5 : Int32) (I : MI), Sim X yX11_order cX11_order 7 (some .int) 7 169 n0 s0 54 [(0, .ref (X.1 + 102)), (1, .int c1), (2, .int c2), (3, .int c3), (4, .int w4), (5, .int w5)] [] (I, L, R, S) (x11_order_L54 c1 n w4 w5 I) (fun b f => Ex X yX11_order cX11_order 7 (some .int) 7 169 n0 s0 120 [(0, .ref (X.1 + 102)), (1, .int c1), (2, .int c2), (3, .int c3), (4, .int b.1)] [] (b.2, L, R, S) f) := by
  intro n
  induction n with
  | zero =>
    intro w4 w5 I
    exact sm_none
  | succ n ih =>
    intro w4 w5 I
    change Sim _ _ _ _ _ _ _ _ _ _ _ _ _ (x11_order_L54s c1 (x11_order_L54 c1 n) w4 w5 I) _
    unfold x11_order_L54s
    refine s_iload 5 dX11_order_54 rfl rfl ?_
    refine s_iload_n 1 dX11_order_56 rfl rfl ?_
    refine s_icmp_ge (tgt := 120) dX11_order_57 rfl rfl (fun _ => ?_) (fun _ => ?_)
    · skip
      refine s_pick [0, 1, 2, 3, 4] rfl ?_
      exact sm_exit (fun f h => h)
    · skip
      refine s_iconst (v := 0) dX11_order_60 rfl cI_0 ?_
      refine s_istoreL (fun v10 => [(6, .int v10), (0, .ref (X.1 + 102)), (1, .int c1), (2, .int c2), (3, .int c3), (4, .int w4), (5, .int w5)]) dX11_order_61 rfl (by decide) (fun _ => rfl) (fun v10 => ?_)
      refine s_pick [1, 2, 3, 4, 5, 6, 0] rfl ?_
      refine sm_reg (x11_order_L63_ok hK FU w4 v10 I) (fun e20 => ?_)
      refine s_iincL 5 (c := 1) (fun v21 => [(5, .int v21), (0, .ref (X.1 + 102)), (1, .int c1), (2, .int c2), (3, .int c3), (4, .int e20.1)]) dX11_order_114 rfl rfl cI_1 (by decide) (fun _ => rfl) (fun v21 => ?_)
      refine s_goto (tgt := 54) dX11_order_117 rfl ?_
      refine s_pick [1, 2, 3, 4, 5, 0] rfl ?_
      exact ih e20.1 v21 e20.2
theorem x11_order_L135_ok {X : WX} {n0 s0 : Nat} {c1 : Int32} {c2 : Int32} {c3 : Int32} {L : ML} {R : MR} {S : MS} (hK : okm R S) : ∀ (n : Nat) (w5 : Int32) (I : MI), Sim X yX11_order cX11_order 7 (some .int) 7 169 n0 s0 135 [(0, .ref (X.1 + 102)), (1, .int c1), (2, .int c2), (3, .int c3), (5, .int w5)] [] (I, L, R, S) (x11_order_L135 n w5 I) (fun b f => Ex X yX11_order cX11_order 7 (some .int) 7 169 n0 s0 164 [(0, .ref (X.1 + 102)), (1, .int c1), (2, .int c2), (3, .int c3)] [] (b, L, R, S) f) := by
  intro n
  induction n with
  | zero =>
    intro w5 I
    exact sm_none
  | succ n ih =>
    intro w5 I
    change Sim _ _ _ _ _ _ _ _ _ _ _ _ _ (x11_order_L135s (x11_order_L135 n) w5 I) _
    unfold x11_order_L135s
    refine s_iload 4 dX11_order_135 rfl rfl ?_
    refine s_aload_n 0 dX11_order_137 rfl rfl ?_
    refine s_getI dX11_order_138 rfl fl_11_470 (S_102 hK) ?_
    refine s_icmp_ge (tgt := 164) dX11_order_141 rfl rfl (fun _ => ?_) (fun _ => ?_)
    · skip
      refine s_pick [0, 1, 2, 3] rfl ?_
      exact sm_exit (fun f h => h)
    · skip
      refine s_aload_n 0 dX11_order_144 rfl rfl ?_
      refine s_getR 149 dX11_order_145 rfl fl_11_157 rfl (S_102 hK) (R_102_83 hK) ?_
      refine s_iload 4 dX11_order_148 rfl rfl ?_
      refine s_aload_n 0 dX11_order_150 rfl rfl ?_
      refine s_getR 147 dX11_order_151 rfl fl_11_151 rfl (S_102 hK) (R_102_81 hK) ?_
      refine s_iload 4 dX11_order_154 rfl rfl ?_
      refine sm_ck (fun g25 => ?_)
      refine s_iald dX11_order_156 rfl (S_147 hK) g25 ?_
      refine sm_ck (fun g27 => ?_)
      refine s_iastL dX11_order_157 rfl (S_149 hK) g27 (fun I26 => ?_)
      refine s_iincL 4 (c := 1) (fun v28 => [(5, .int v28), (0, .ref (X.1 + 102)), (1, .int c1), (2, .int c2), (3, .int c3)]) dX11_order_158 rfl rfl cI_1 (by decide) (fun _ => rfl) (fun v28 => ?_)
      refine s_goto (tgt := 135) dX11_order_161 rfl ?_
      refine s_pick [1, 2, 3, 4, 0] rfl ?_
      exact ih v28 I26
theorem x11_order_L21_ok {X : WX} {n0 s0 : Nat} {c1 : Int32} {L : ML} {R : MR} {S : MS} (hK : okm R S) : ∀ (n : Nat) (w2 : Int32) (w3 : Int32) (I : MI), Sim X yX11_order cX11_order 7 (some .int) 7 169 n0 s0 21 [(0, .ref (X.1 + 102)), (1, .int c1), (2, .int w2), (3, .int w3)] [] (I, L, R, S) (x11_order_L21 c1 n w2 w3 I) (fun b f => Ex X yX11_order cX11_order 7 (some .int) 7 169 n0 s0 178 [(2, .int b.1)] [] (b.2, L, R, S) f) := by
  intro n
  induction n with
  | zero =>
    intro w2 w3 I
    exact sm_none
  | succ n ih =>
    intro w2 w3 I
    change Sim _ _ _ _ _ _ _ _ _ _ _ _ _ (x11_order_L21s c1 (x11_order_L21 c1 n) w2 w3 I) _
    unfold x11_order_L21s
    refine s_iload_n 3 dX11_order_21 rfl rfl ?_
    refine s_iconst (v := 1) dX11_order_22 rfl cI_1 ?_
    refine s_iconst (v := 2) dX11_order_23 rfl cI_2 ?_
    refine s_aload_n 0 dX11_order_24 rfl rfl ?_
    refine s_getI dX11_order_25 rfl fl_11_470 (S_102 hK) ?_
    refine s_imul dX11_order_28 rfl ?_
    refine s_ishl dX11_order_29 rfl ?_
    refine s_icmp_ge (tgt := 178) dX11_order_30 rfl rfl (fun _ => ?_) (fun _ => ?_)
    · skip
      refine s_pick [2] rfl ?_
      exact sm_exit (fun f h => h)
    · skip
      refine s_aload_n 0 dX11_order_33 rfl rfl ?_
      refine s_iload_n 3 dX11_order_34 rfl rfl ?_
      refine s_callV1_i1 dX11_order_35 rfl lkV_RX11_612 (S_102 hK) (Nat.le_of_ble_eq_true rfl) (Nat.le_of_ble_eq_true rfl) (Nat.le_of_ble_eq_true rfl) (ct_x11_layTurn hK) (fun r5 I6 => ?_)
      refine s_if_ne (tgt := 44) dX11_order_38 rfl rfl (fun _ => ?_) (fun _ => ?_)
      · skip
        refine s_aload_n 0 dX11_order_44 rfl rfl ?_
        refine s_callV0_v1 dX11_order_45 rfl lkV_RX11_566 (S_102 hK) (Nat.le_of_ble_eq_true rfl) (Nat.le_of_ble_eq_true rfl) (Nat.le_of_ble_eq_true rfl) (ct_x11_load hK) (fun I7 => ?_)
        refine s_iconst (v := 0) dX11_order_48 rfl cI_0 ?_
        refine s_istoreL (fun v8 => [(4, .int v8), (0, .ref (X.1 + 102)), (1, .int c1), (2, .int w2), (3, .int w3)]) dX11_order_49 rfl (by decide) (fun _ => rfl) (fun v8 => ?_)
        refine s_iconst (v := 0) dX11_order_51 rfl cI_0 ?_
        refine s_istoreL (fun v9 => [(5, .int v9), (4, .int v8), (0, .ref (X.1 + 102)), (1, .int c1), (2, .int w2), (3, .int w3)]) dX11_order_52 rfl (by decide) (fun _ => rfl) (fun v9 => ?_)
        refine s_pick [2, 3, 4, 5, 1, 0] rfl ?_
        refine sm_reg (x11_order_L54_ok hK FU v8 v9 I7) (fun e22 => ?_)
        refine s_iload 4 dX11_order_120 rfl rfl ?_
        refine s_iload_n 2 dX11_order_122 rfl rfl ?_
        refine s_icmp_gt (tgt := 129) dX11_order_123 rfl rfl (fun _ => ?_) (fun _ => ?_)
        · skip
          refine s_iload 4 dX11_order_129 rfl rfl ?_
          refine s_istore_nL (fun v23 => [(2, .int v23), (0, .ref (X.1 + 102)), (1, .int c1), (3, .int w3), (4, .int e22.1)]) dX11_order_131 rfl (by decide) (fun _ => rfl) (fun v23 => ?_)
          refine s_iconst (v := 0) dX11_order_132 rfl cI_0 ?_
          refine s_istoreL (fun v24 => [(5, .int v24), (2, .int v23), (0, .ref (X.1 + 102)), (1, .int c1), (3, .int w3), (4, .int e22.1)]) dX11_order_133 rfl (by decide) (fun _ => rfl) (fun v24 => ?_)
          refine s_pick [2, 3, 1, 4, 0] rfl ?_
          refine sm_reg (x11_order_L135_ok hK FU v24 e22.2) (fun e29 => ?_)
          refine s_aload_n 0 dX11_order_164 rfl rfl ?_
          refine s_aload_n 0 dX11_order_165 rfl rfl ?_
          refine s_getI dX11_order_166 rfl fl_11_470 (S_102 hK) ?_
          refine s_putIL dX11_order_169 rfl fl_11_491 (S_102 hK) (fun I30 => ?_)
          refine s_iincL 3 (c := 1) (fun v31 => [(3, .int v31), (0, .ref (X.1 + 102)), (1, .int c1), (2, .int v23)]) dX11_order_172 rfl rfl cI_1 (by decide) (fun _ => rfl) (fun v31 => ?_)
          refine s_goto (tgt := 21) dX11_order_175 rfl ?_
          refine s_pick [1, 2, 3, 0] rfl ?_
          exact ih v23 v31 I30
        · skip
          refine s_goto (tgt := 172) dX11_order_126 rfl ?_
          refine s_iincL 3 (c := 1) (fun v32 => [(3, .int v32), (0, .ref (X.1 + 102)), (1, .int c1), (2, .int w2), (4, .int e22.1)]) dX11_order_172 rfl rfl cI_1 (by decide) (fun _ => rfl) (fun v32 => ?_)
          refine s_goto (tgt := 21) dX11_order_175 rfl ?_
          refine s_pick [1, 2, 3, 0] rfl ?_
          exact ih w2 v32 e22.2
      · skip
        refine s_goto (tgt := 172) dX11_order_41 rfl ?_
        refine s_iincL 3 (c := 1) (fun v33 => [(3, .int v33), (0, .ref (X.1 + 102)), (1, .int c1), (2, .int w2)]) dX11_order_172 rfl rfl cI_1 (by decide) (fun _ => rfl) (fun v33 => ?_)
        refine s_goto (tgt := 21) dX11_order_175 rfl ?_
        refine s_pick [1, 2, 3, 0] rfl ?_
        exact ih w2 v33 I6
theorem ct_x11_order {X : WX} {p1 : Int32} {I : MI} {L : ML} {R : MR} {S : MS} (hK : okm R S) : Ct X yX11_order cX11_order 7 (some .int) 7 169 [.ref (X.1 + 102), .int p1] (I, L, R, S) (x11_order p1 I) (fun r => (some (.int r.1), (r.2, L, R, S))) := by
  refine Ct.of (by decide) (Nat.le_of_ble_eq_true rfl) [(0, .ref (X.1 + 102)), (1, .int p1)] rfl ?_
  unfold x11_order
  refine s_aload_n 0 dX11_order_0 rfl rfl ?_
  refine s_iconst (v := 0) dX11_order_1 rfl cI_0 ?_
  refine s_putIL dX11_order_2 rfl fl_11_491 (S_102 hK) (fun I1 => ?_)
  refine s_iload_n 1 dX11_order_5 rfl rfl ?_
  refine s_iconst (v := 1) dX11_order_6 rfl cI_1 ?_
  refine s_bipush (v := 10) dX11_order_7 rfl cB_10 ?_
  refine s_callS3_i0 dX11_order_9 rfl lkS_RX11_494 (Nat.le_of_ble_eq_true rfl) (Nat.le_of_ble_eq_true rfl) (Nat.le_of_ble_eq_true rfl) (ct_x11_isIn hK) (fun r2 => ?_)
  refine s_if_ne (tgt := 17) dX11_order_12 rfl rfl (fun _ => ?_) (fun _ => ?_)
  · skip
    refine s_iconst (v := (-1)) dX11_order_17 rfl cI_m1 ?_
    refine s_istore_nL (fun v3 => [(2, .int v3), (0, .ref (X.1 + 102)), (1, .int p1)]) dX11_order_18 rfl (by decide) (fun _ => rfl) (fun v3 => ?_)
    refine s_iconst (v := 0) dX11_order_19 rfl cI_0 ?_
    refine s_istore_nL (fun v4 => [(3, .int v4), (2, .int v3), (0, .ref (X.1 + 102)), (1, .int p1)]) dX11_order_20 rfl (by decide) (fun _ => rfl) (fun v4 => ?_)
    refine s_pick [2, 3, 1, 0] rfl ?_
    refine sm_reg (x11_order_L21_ok hK FU v3 v4 I1) (fun e34 => ?_)
    refine s_iload_n 0 dX11_order_178 rfl rfl ?_
    exact s_iret dX11_order_179 rfl (fun f h => h)
  · skip
    refine s_iconst (v := (-1)) dX11_order_15 rfl cI_m1 ?_
    exact s_iret dX11_order_16 rfl (fun f h => h)
