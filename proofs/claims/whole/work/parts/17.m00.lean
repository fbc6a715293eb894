noncomputable def x11_four_L3s (c1 : Int32) (rec : Int32 → MI → Option (MI)) (w2 : Int32) (I : MI) : Option (MI) :=
if w2 < 0 then (
some I) else
ck (vp_in (I 102 1) 1600) <|
lt (wI I 103 (ix (I 102 1)) ((c1 >>> (w2 &&& 31)) &&& 255)) fun I2 =>
lt (wI I2 102 1 ((I2 102 1) + 1)) fun I4 =>
lt (w2 + (-8)) fun v5 =>
rec v5 I4
noncomputable def x11_four_L3 (c1 : Int32) : Nat → Int32 → MI → Option (MI)
  | 0 => fun _ _ => none
  | n + 1 => x11_four_L3s c1 (x11_four_L3 c1 n)
noncomputable def x11_four (p1 : Int32) (I : MI) : Option (MI) :=
lt (24 : Int32) fun v1 =>
b1 (x11_four_L3 p1 FU v1 I) fun e6 =>
some e6
theorem x11_four_L3_ok {X : WX} {n0 s0 : Nat} {c1 : Int32} {L : ML} {R : MR} {S : MS} (hK : okm R S) : ∀ (n : Nat) (w2 : Int32) (I : MI), Sim X yX11_four cX11_four 3 none 0 0 n0 s0 3 [(0, .ref (X.1 + 102)), (1, .int c1), (2, .int w2)] [] (I, L, R, S) (x11_four_L3 c1 n w2 I) (fun b f => Ex X yX11_four cX11_four 3 none 0 0 n0 s0 39 [] [] (b, L, R, S) f) := by
  intro n
  induction n with
  | zero =>
    intro w2 I
    exact sm_none
  | succ n ih =>
    intro w2 I
    change Sim _ _ _ _ _ _ _ _ _ _ _ _ _ (x11_four_L3s c1 (x11_four_L3 c1 n) w2 I) _
    unfold x11_four_L3s
    refine s_iload_n 2 dX11_four_3 rfl rfl ?_
    refine s_if_lt (tgt := 39) dX11_four_4 rfl rfl (fun _ => ?_) (fun _ => ?_)
    · skip
      refine s_pick [] rfl ?_
      exact sm_exit (fun f h => h)
    · skip
      refine s_aload_n 0 dX11_four_7 rfl rfl ?_
      refine s_getR 103 dX11_four_8 rfl fl_11_7 rfl (S_102 hK) (R_102_0 hK) ?_
      refine s_aload_n 0 dX11_four_11 rfl rfl ?_
      refine s_getI dX11_four_12 rfl fl_11_184 (S_102 hK) ?_
      refine s_iload_n 1 dX11_four_15 rfl rfl ?_
      refine s_iload_n 2 dX11_four_16 rfl rfl ?_
      refine s_ishr dX11_four_17 rfl ?_
      refine s_sipush (v := 255) dX11_four_18 rfl cS_255 ?_
      refine s_iand dX11_four_21 rfl ?_
      refine sm_ck (fun g3 => ?_)
      refine s_iastL dX11_four_22 rfl (S_103 hK) g3 (fun I2 => ?_)
      refine s_aload_n 0 dX11_four_23 rfl rfl ?_
      refine s_dup dX11_four_24 rfl rfl ?_
      refine s_getI dX11_four_25 rfl fl_11_184 (S_102 hK) ?_
      refine s_iconst (v := 1) dX11_four_28 rfl cI_1 ?_
      refine s_iadd dX11_four_29 rfl ?_
      refine s_putIL dX11_four_30 rfl fl_11_184 (S_102 hK) (fun I4 => ?_)
      refine s_iincL 2 (c := (-8)) (fun v5 => [(2, .int v5), (0, .ref (X.1 + 102)), (1, .int c1)]) dX11_four_33 rfl rfl cI_m8 (by decide) (fun _ => rfl) (fun v5 => ?_)
      refine s_goto (tgt := 3) dX11_four_36 rfl ?_
      refine s_pick [1, 2, 0] rfl ?_
      exact ih v5 I4
theorem ct_x11_four {X : WX} {p1 : Int32} {I : MI} {L : ML} {R : MR} {S : MS} (hK : okm R S) : Ct X yX11_four cX11_four 3 none 0 0 [.ref (X.1 + 102), .int p1] (I, L, R, S) (x11_four p1 I) (fun r => (none, (r, L, R, S))) := by
  refine Ct.of (by decide) (Nat.le_of_ble_eq_true rfl) [(0, .ref (X.1 + 102)), (1, .int p1)] rfl ?_
  unfold x11_four
  refine s_bipush (v := 24) dX11_four_0 rfl cB_24 ?_
  refine s_istore_nL (fun v1 => [(2, .int v1), (0, .ref (X.1 + 102)), (1, .int p1)]) dX11_four_2 rfl (by decide) (fun _ => rfl) (fun v1 => ?_)
  refine s_pick [1, 2, 0] rfl ?_
  refine sm_reg (x11_four_L3_ok hK FU v1 I) (fun e6 => ?_)
  exact s_vret dX11_four_39 rfl (fun f h => h)
noncomputable def x11_feed (p1 : Int32) (p2 : Int32) (p3 : Int32) (p4 : Int32) (p5 : Int32) (I : MI) : Option (Int32 × MI) :=
if 1600 < ((I 102 1) + 20) then (
some ((-1 : Int32), I)) else
b1 (x11_four p1 I) fun I1 =>
b1 (x11_four p2 I1) fun I2 =>
b1 (x11_four p3 I2) fun I3 =>
b1 (x11_four p4 I3) fun I4 =>
b1 (x11_four p5 I4) fun I5 =>
some ((I5 102 1), I5)
theorem ct_x11_feed {X : WX} {p1 : Int32} {p2 : Int32} {p3 : Int32} {p4 : Int32} {p5 : Int32} {I : MI} {L : ML} {R : MR} {S : MS} (hK : okm R S) : Ct X yX11_feed cX11_feed 6 (some .int) 1 22 [.ref (X.1 + 102), .int p1, .int p2, .int p3, .int p4, .int p5] (I, L, R, S) (x11_feed p1 p2 p3 p4 p5 I) (fun r => (some (.int r.1), (r.2, L, R, S))) := by
  refine Ct.of (by decide) (Nat.le_of_ble_eq_true rfl) [(0, .ref (X.1 + 102)), (1, .int p1), (2, .int p2), (3, .int p3), (4, .int p4), (5, .int p5)] rfl ?_
  unfold x11_feed
  refine s_aload_n 0 dX11_feed_0 rfl rfl ?_
  refine s_getI dX11_feed_1 rfl fl_11_184 (S_102 hK) ?_
  refine s_bipush (v := 20) dX11_feed_4 rfl cB_20 ?_
  refine s_iadd dX11_feed_6 rfl ?_
  refine s_sipush (v := 1600) dX11_feed_7 rfl cS_1600 ?_
  refine s_icmp_le (tgt := 15) dX11_feed_10 rfl rfl (fun _ => ?_) (fun _ => ?_)
  · skip
    refine s_aload_n 0 dX11_feed_15 rfl rfl ?_
    refine s_iload_n 1 dX11_feed_16 rfl rfl ?_
    refine s_callV1_v1 dX11_feed_17 rfl lkV_RX11_187 (S_102 hK) (Nat.le_of_ble_eq_true rfl) (Nat.le_of_ble_eq_true rfl) (Nat.le_of_ble_eq_true rfl) (ct_x11_four hK) (fun I1 => ?_)
    refine s_aload_n 0 dX11_feed_20 rfl rfl ?_
    refine s_iload_n 2 dX11_feed_21 rfl rfl ?_
    refine s_callV1_v1 dX11_feed_22 rfl lkV_RX11_187 (S_102 hK) (Nat.le_of_ble_eq_true rfl) (Nat.le_of_ble_eq_true rfl) (Nat.le_of_ble_eq_true rfl) (ct_x11_four hK) (fun I2 => ?_)
    refine s_aload_n 0 dX11_feed_25 rfl rfl ?_
    refine s_iload_n 3 dX11_feed_26 rfl rfl ?_
    refine s_callV1_v1 dX11_feed_27 rfl lkV_RX11_187 (S_102 hK) (Nat.le_of_ble_eq_true rfl) (Nat.le_of_ble_eq_true rfl) (Nat.le_of_ble_eq_true rfl) (ct_x11_four hK) (fun I3 => ?_)
    refine s_aload_n 0 dX11_feed_30 rfl rfl ?_
    refine s_iload 4 dX11_feed_31 rfl rfl ?_
    refine s_callV1_v1 dX11_feed_33 rfl lkV_RX11_187 (S_102 hK) (Nat.le_of_ble_eq_true rfl) (Nat.le_of_ble_eq_true rfl) (Nat.le_of_ble_eq_true rfl) (ct_x11_four hK) (fun I4 => ?_)
    refine s_aload_n 0 dX11_feed_36 rfl rfl ?_
    refine s_iload 5 dX11_feed_37 rfl rfl ?_
    refine s_callV1_v1 dX11_feed_39 rfl lkV_RX11_187 (S_102 hK) (Nat.le_of_ble_eq_true rfl) (Nat.le_of_ble_eq_true rfl) (Nat.le_of_ble_eq_true rfl) (ct_x11_four hK) (fun I5 => ?_)
    refine s_aload_n 0 dX11_feed_42 rfl rfl ?_
    refine s_getI dX11_feed_43 rfl fl_11_184 (S_102 hK) ?_
    exact s_iret dX11_feed_46 rfl (fun f h => h)
  · skip
    refine s_iconst (v := (-1)) dX11_feed_13 rfl cI_m1 ?_
    exact s_iret dX11_feed_14 rfl (fun f h => h)
noncomputable def x11_end (p1 : Int32) (I : MI) : Option (Int32 × MI) :=
if p1 < 0 then (
some ((-1 : Int32), I)) else
if (I 102 1) < p1 then (
some ((-1 : Int32), I)) else
lt (wI I 102 1 p1) fun I1 =>
some (p1, I1)
theorem ct_x11_end {X : WX} {p1 : Int32} {I : MI} {L : ML} {R : MR} {S : MS} (hK : okm R S) : Ct X yX11_end cX11_end 2 (some .int) 0 0 [.ref (X.1 + 102), .int p1] (I, L, R, S) (x11_end p1 I) (fun r => (some (.int r.1), (r.2, L, R, S))) := by
  refine Ct.of (by decide) (Nat.le_of_ble_eq_true rfl) [(0, .ref (X.1 + 102)), (1, .int p1)] rfl ?_
  unfold x11_end
  refine s_iload_n 1 dX11_end_0 rfl rfl ?_
  refine s_if_lt (tgt := 12) dX11_end_1 rfl rfl (fun _ => ?_) (fun _ => ?_)
  · skip
    refine s_iconst (v := (-1)) dX11_end_12 rfl cI_m1 ?_
    exact s_iret dX11_end_13 rfl (fun f h => h)
  · skip
    refine s_iload_n 1 dX11_end_4 rfl rfl ?_
    refine s_aload_n 0 dX11_end_5 rfl rfl ?_
    refine s_getI dX11_end_6 rfl fl_11_184 (S_102 hK) ?_
    refine s_icmp_le (tgt := 14) dX11_end_9 rfl rfl (fun _ => ?_) (fun _ => ?_)
    · skip
      refine s_aload_n 0 dX11_end_14 rfl rfl ?_
      refine s_iload_n 1 dX11_end_15 rfl rfl ?_
      refine s_putIL dX11_end_16 rfl fl_11_184 (S_102 hK) (fun I1 => ?_)
      refine s_iload_n 1 dX11_end_19 rfl rfl ?_
      exact s_iret dX11_end_20 rfl (fun f h => h)
    · skip
      refine s_iconst (v := (-1)) dX11_end_12 rfl cI_m1 ?_
      exact s_iret dX11_end_13 rfl (fun f h => h)
noncomputable def x11_here (p1 : Int32) (I : MI) : Option (Int32) :=
if ((I 102 4) + p1) < (I 102 5) then (
ck (vp_in ((I 102 4) + p1) 1600) <|
some (I 103 (ix ((I 102 4) + p1)))) else
some (-1 : Int32)
theorem ct_x11_here {X : WX} {p1 : Int32} {I : MI} {L : ML} {R : MR} {S : MS} (hK : okm R S) : Ct X yX11_here cX11_here 2 (some .int) 0 0 [.ref (X.1 + 102), .int p1] (I, L, R, S) (x11_here p1 I) (fun r => (some (.int r), (I, L, R, S))) := by
  refine Ct.of (by decide) (Nat.le_of_ble_eq_true rfl) [(0, .ref (X.1 + 102)), (1, .int p1)] rfl ?_
  unfold x11_here
  refine s_aload_n 0 dX11_here_0 rfl rfl ?_
  refine s_getI dX11_here_1 rfl fl_11_191 (S_102 hK) ?_
  refine s_iload_n 1 dX11_here_4 rfl rfl ?_
  refine s_iadd dX11_here_5 rfl ?_
  refine s_aload_n 0 dX11_here_6 rfl rfl ?_
  refine s_getI dX11_here_7 rfl fl_11_194 (S_102 hK) ?_
  refine s_icmp_ge (tgt := 27) dX11_here_10 rfl rfl (fun _ => ?_) (fun _ => ?_)
  · skip
    refine s_iconst (v := (-1)) dX11_here_27 rfl cI_m1 ?_
    exact s_iret dX11_here_28 rfl (fun f h => h)
  · skip
    refine s_aload_n 0 dX11_here_13 rfl rfl ?_
    refine s_getR 103 dX11_here_14 rfl fl_11_7 rfl (S_102 hK) (R_102_0 hK) ?_
    refine s_aload_n 0 dX11_here_17 rfl rfl ?_
    refine s_getI dX11_here_18 rfl fl_11_191 (S_102 hK) ?_
    refine s_iload_n 1 dX11_here_21 rfl rfl ?_
    refine s_iadd dX11_here_22 rfl ?_
    refine sm_ck (fun g1 => ?_)
    refine s_iald dX11_here_23 rfl (S_103 hK) g1 ?_
    refine s_goto (tgt := 28) dX11_here_24 rfl ?_
    exact s_iret dX11_here_28 rfl (fun f h => h)
noncomputable def x11_isLetter (p0 : Int32) (I : MI) : Option (Int32) :=
if p0 < 97 then (
some (0 : Int32)) else
if 122 < p0 then (
some (0 : Int32)) else
some (1 : Int32)
theorem ct_x11_isLetter {X : WX} {p0 : Int32} {I : MI} {L : ML} {R : MR} {S : MS} (hK : okm R S) : Ct X yX11_isLetter cX11_isLetter 1 (some .boolean) 0 0 [.int p0] (I, L, R, S) (x11_isLetter p0 I) (fun r => (some (.int r), (I, L, R, S))) := by
  refine Ct.of (by decide) (Nat.le_of_ble_eq_true rfl) [(0, .int p0)] rfl ?_
  unfold x11_isLetter
  refine s_iload_n 0 dX11_isLetter_0 rfl rfl ?_
  refine s_bipush (v := 97) dX11_isLetter_1 rfl cB_97 ?_
  refine s_icmp_lt (tgt := 16) dX11_isLetter_3 rfl rfl (fun _ => ?_) (fun _ => ?_)
  · skip
    refine s_iconst (v := 0) dX11_isLetter_16 rfl cI_0 ?_
    exact s_zret dX11_isLetter_17 rfl (Or.inl rfl) (fun f h => h)
  · skip
    refine s_iload_n 0 dX11_isLetter_6 rfl rfl ?_
    refine s_bipush (v := 122) dX11_isLetter_7 rfl cB_122 ?_
    refine s_icmp_gt (tgt := 16) dX11_isLetter_9 rfl rfl (fun _ => ?_) (fun _ => ?_)
    · skip
      refine s_iconst (v := 0) dX11_isLetter_16 rfl cI_0 ?_
      exact s_zret dX11_isLetter_17 rfl (Or.inl rfl) (fun f h => h)
    · skip
      refine s_iconst (v := 1) dX11_isLetter_12 rfl cI_1 ?_
      refine s_goto (tgt := 17) dX11_isLetter_13 rfl ?_
      exact s_zret dX11_isLetter_17 rfl (Or.inr rfl) (fun f h => h)
noncomputable def x11_isDigit (p0 : Int32) (I : MI) : Option (Int32) :=
if p0 < 48 then (
some (0 : Int32)) else
if 57 < p0 then (
some (0 : Int32)) else
some (1 : Int32)
theorem ct_x11_isDigit {X : WX} {p0 : Int32} {I : MI} {L : ML} {R : MR} {S : MS} (hK : okm R S) : Ct X yX11_isDigit cX11_isDigit 1 (some .boolean) 0 0 [.int p0] (I, L, R, S) (x11_isDigit p0 I) (fun r => (some (.int r), (I, L, R, S))) := by
  refine Ct.of (by decide) (Nat.le_of_ble_eq_true rfl) [(0, .int p0)] rfl ?_
  unfold x11_isDigit
  refine s_iload_n 0 dX11_isDigit_0 rfl rfl ?_
  refine s_bipush (v := 48) dX11_isDigit_1 rfl cB_48 ?_
  refine s_icmp_lt (tgt := 16) dX11_isDigit_3 rfl rfl (fun _ => ?_) (fun _ => ?_)
  · skip
    refine s_iconst (v := 0) dX11_isDigit_16 rfl cI_0 ?_
    exact s_zret dX11_isDigit_17 rfl (Or.inl rfl) (fun f h => h)
  · skip
    refine s_iload_n 0 dX11_isDigit_6 rfl rfl ?_
    refine s_bipush (v := 57) dX11_isDigit_7 rfl cB_57 ?_
    refine s_icmp_gt (tgt := 16) dX11_isDigit_9 rfl rfl (fun _ => ?_) (fun _ => ?_)
    · skip
      refine s_iconst (v := 0) dX11_isDigit_16 rfl cI_0 ?_
      exact s_zret dX11_isDigit_17 rfl (Or.inl rfl) (fun f h => h)
    · skip
      refine s_iconst (v := 1) dX11_isDigit_12 rfl cI_1 ?_
      refine s_goto (tgt := 17) dX11_isDigit_13 rfl ?_
      exact s_zret dX11_isDigit_17 rfl (Or.inr rfl) (fun f h => h)
noncomputable def x11_isSign (p0 : Int32) (I : MI) : Option (Int32) :=
if p0 = 59 then (
some (1 : Int32)) else
if p0 = 40 then (
some (1 : Int32)) else
if p0 = 41 then (
some (1 : Int32)) else
if p0 = 60 then (
some (1 : Int32)) else
if p0 = 62 then (
some (1 : Int32)) else
if p0 = 61 then (
some (1 : Int32)) else
if p0 = 43 then (
some (1 : Int32)) else
if p0 = 45 then (
some (1 : Int32)) else
if p0 = 42 then (
some (1 : Int32)) else
if p0 = 47 then (
some (1 : Int32)) else
if p0 = 37 then (
some (1 : Int32)) else
some (0 : Int32)
theorem ct_x11_isSign {X : WX} {p0 : Int32} {I : MI} {L : ML} {R : MR} {S : MS} (hK : okm R S) : Ct X yX11_isSign cX11_isSign 1 (some .boolean) 0 0 [.int p0] (I, L, R, S) (x11_isSign p0 I) (fun r => (some (.int r), (I, L, R, S))) := by
  refine Ct.of (by decide) (Nat.le_of_ble_eq_true rfl) [(0, .int p0)] rfl ?_
  unfold x11_isSign
  refine s_iload_n 0 dX11_isSign_0 rfl rfl ?_
  refine s_bipush (v := 59) dX11_isSign_1 rfl cB_59 ?_
  refine s_icmp_eq (tgt := 66) dX11_isSign_3 rfl rfl (fun _ => ?_) (fun _ => ?_)
  · skip
    refine s_iconst (v := 1) dX11_isSign_66 rfl cI_1 ?_
    refine s_goto (tgt := 71) dX11_isSign_67 rfl ?_
    exact s_zret dX11_isSign_71 rfl (Or.inr rfl) (fun f h => h)
  · skip
    refine s_iload_n 0 dX11_isSign_6 rfl rfl ?_
    refine s_bipush (v := 40) dX11_isSign_7 rfl cB_40 ?_
    refine s_icmp_eq (tgt := 66) dX11_isSign_9 rfl rfl (fun _ => ?_) (fun _ => ?_)
    · skip
      refine s_iconst (v := 1) dX11_isSign_66 rfl cI_1 ?_
      refine s_goto (tgt := 71) dX11_isSign_67 rfl ?_
      exact s_zret dX11_isSign_71 rfl (Or.inr rfl) (fun f h => h)
    · skip
      refine s_iload_n 0 dX11_isSign_12 rfl rfl ?_
      refine s_bipush (v := 41) dX11_isSign_13 rfl cB_41 ?_
      refine s_icmp_eq (tgt := 66) dX11_isSign_15 rfl rfl (fun _ => ?_) (fun _ => ?_)
      · skip
        refine s_iconst (v := 1) dX11_isSign_66 rfl cI_1 ?_
        refine s_goto (tgt := 71) dX11_isSign_67 rfl ?_
        exact s_zret dX11_isSign_71 rfl (Or.inr rfl) (fun f h => h)
      · skip
        refine s_iload_n 0 dX11_isSign_18 rfl rfl ?_
        refine s_bipush (v := 60) dX11_isSign_19 rfl cB_60 ?_
        refine s_icmp_eq (tgt := 66) dX11_isSign_21 rfl rfl (fun _ => ?_) (fun _ => ?_)
        · skip
          refine s_iconst (v := 1) dX11_isSign_66 rfl cI_1 ?_
          refine s_goto (tgt := 71) dX11_isSign_67 rfl ?_
          exact s_zret dX11_isSign_71 rfl (Or.inr rfl) (fun f h => h)
        · skip
          refine s_iload_n 0 dX11_isSign_24 rfl rfl ?_
          refine s_bipush (v := 62) dX11_isSign_25 rfl cB_62 ?_
          refine s_icmp_eq (tgt := 66) dX11_isSign_27 rfl rfl (fun _ => ?_) (fun _ => ?_)
          · skip
            refine s_iconst (v := 1) dX11_isSign_66 rfl cI_1 ?_
            refine s_goto (tgt := 71) dX11_isSign_67 rfl ?_
            exact s_zret dX11_isSign_71 rfl (Or.inr rfl) (fun f h => h)
          · skip
            refine s_iload_n 0 dX11_isSign_30 rfl rfl ?_
            refine s_bipush (v := 61) dX11_isSign_31 rfl cB_61 ?_
            refine s_icmp_eq (tgt := 66) dX11_isSign_33 rfl rfl (fun _ => ?_) (fun _ => ?_)
            · skip
              refine s_iconst (v := 1) dX11_isSign_66 rfl cI_1 ?_
              refine s_goto (tgt := 71) dX11_isSign_67 rfl ?_
              exact s_zret dX11_isSign_71 rfl (Or.inr rfl) (fun f h => h)
            · skip
              refine s_iload_n 0 dX11_isSign_36 rfl rfl ?_
              refine s_bipush (v := 43) dX11_isSign_37 rfl cB_43 ?_
              refine s_icmp_eq (tgt := 66) dX11_isSign_39 rfl rfl (fun _ => ?_) (fun _ => ?_)
              · skip
                refine s_iconst (v := 1) dX11_isSign_66 rfl cI_1 ?_
                refine s_goto (tgt := 71) dX11_isSign_67 rfl ?_
                exact s_zret dX11_isSign_71 rfl (Or.inr rfl) (fun f h => h)
              · skip
                refine s_iload_n 0 dX11_isSign_42 rfl rfl ?_
                refine s_bipush (v := 45) dX11_isSign_43 rfl cB_45 ?_
                refine s_icmp_eq (tgt := 66) dX11_isSign_45 rfl rfl (fun _ => ?_) (fun _ => ?_)
                · skip
                  refine s_iconst (v := 1) dX11_isSign_66 rfl cI_1 ?_
                  refine s_goto (tgt := 71) dX11_isSign_67 rfl ?_
                  exact s_zret dX11_isSign_71 rfl (Or.inr rfl) (fun f h => h)
                · skip
                  refine s_iload_n 0 dX11_isSign_48 rfl rfl ?_
                  refine s_bipush (v := 42) dX11_isSign_49 rfl cB_42 ?_
                  refine s_icmp_eq (tgt := 66) dX11_isSign_51 rfl rfl (fun _ => ?_) (fun _ => ?_)
                  · skip
                    refine s_iconst (v := 1) dX11_isSign_66 rfl cI_1 ?_
                    refine s_goto (tgt := 71) dX11_isSign_67 rfl ?_
                    exact s_zret dX11_isSign_71 rfl (Or.inr rfl) (fun f h => h)
                  · skip
                    refine s_iload_n 0 dX11_isSign_54 rfl rfl ?_
                    refine s_bipush (v := 47) dX11_isSign_55 rfl cB_47 ?_
                    refine s_icmp_eq (tgt := 66) dX11_isSign_57 rfl rfl (fun _ => ?_) (fun _ => ?_)
                    · skip
                      refine s_iconst (v := 1) dX11_isSign_66 rfl cI_1 ?_
                      refine s_goto (tgt := 71) dX11_isSign_67 rfl ?_
                      exact s_zret dX11_isSign_71 rfl (Or.inr rfl) (fun f h => h)
                    · skip
                      refine s_iload_n 0 dX11_isSign_60 rfl rfl ?_
                      refine s_bipush (v := 37) dX11_isSign_61 rfl cB_37 ?_
                      refine s_icmp_ne (tgt := 70) dX11_isSign_63 rfl rfl (fun _ => ?_) (fun _ => ?_)
                      · skip
                        refine s_iconst (v := 0) dX11_isSign_70 rfl cI_0 ?_
                        exact s_zret dX11_isSign_71 rfl (Or.inl rfl) (fun f h => h)
                      · skip
                        refine s_iconst (v := 1) dX11_isSign_66 rfl cI_1 ?_
                        refine s_goto (tgt := 71) dX11_isSign_67 rfl ?_
                        exact s_zret dX11_isSign_71 rfl (Or.inr rfl) (fun f h => h)
noncomputable def x11_token_L0s (rec : MI → Option (MI)) (I : MI) : Option (MI) :=
b1 (x11_here (0 : Int32) I) fun r1 =>
if r1 = 32 then (
lt (wI I 102 4 ((I 102 4) + 1)) fun I2 =>
rec I2) else
b1 (x11_here (0 : Int32) I) fun r3 =>
if r3 = 10 then (
lt (wI I 102 4 ((I 102 4) + 1)) fun I4 =>
rec I4) else
some I
noncomputable def x11_token_L0 : Nat → MI → Option (MI)
  | 0 => fun _ => none
  | n + 1 => x11_token_L0s (x11_token_L0 n)
noncomputable def x11_token_L144s (rec : Int32 → MI → Option (Int32 × MI)) (w2 : Int32) (I : MI) : Option (Int32 × MI) :=
b1 (x11_here w2 I) fun r19 =>
b1 (x11_isDigit r19 I) fun r20 =>
if r20 = 0 then (
some (w2, I)) else
if w2 < 4 then (
b1 (x11_here w2 I) fun r22 =>
lt (wI I 102 8 (((10 * (I 102 8)) + r22) - 48)) fun I23 =>
lt (w2 + 1) fun v24 =>
rec v24 I23) else
lt (w2 + 1) fun v21 =>
rec v21 I
noncomputable def x11_token_L144 : Nat → Int32 → MI → Option (Int32 × MI)
  | 0 => fun _ _ => none
  | n + 1 => x11_token_L144s (x11_token_L144 n)
noncomputable def x11_token_L78s (I : MI) (rec : Int32 → ML → Option (Int32 × ML)) (w2 : Int32) (L : ML) : Option (Int32 × ML) :=
b1 (x11_here w2 I) fun r31 =>
b1 (x11_isLetter r31 I) fun r32 =>
if r32 = 0 then (
some (w2, L)) else
if w2 < 8 then (
b1 (x11_here w2 I) fun r34 =>
lt (wL L 102 9 (((L 102 9) <<< (((8 : Int32)).toInt64 &&& 63)) ||| (r34).toInt64)) fun L35 =>
lt (w2 + 1) fun v36 =>
rec v36 L35) else
lt (w2 + 1) fun v33 =>
rec v33 L
noncomputable def x11_token_L78 (I : MI) : Nat → Int32 → ML → Option (Int32 × ML)
  | 0 => fun _ _ => none
  | n + 1 => x11_token_L78s I (x11_token_L78 I n)
noncomputable def x11_token (I : MI) (L : ML) : Option (MI × ML) :=
b1 (x11_token_L0 FU I) fun e5 =>
lt (wI e5 102 7 (e5 102 4)) fun I6 =>
b1 (x11_here (0 : Int32) I6) fun r7 =>
lt r7 fun v8 =>
lt (0 : Int32) fun v9 =>
lt (wL L 102 9 (0 : Int64)) fun L10 =>
lt (wI I6 102 8 (0 : Int32)) fun I11 =>
b1 (
if v8 < 0 then (
lt (wI I11 102 6 (0 : Int32)) fun I40 =>
some (v9, I40, L10)) else
b1 (x11_isLetter v8 I11) fun r13 =>
if r13 = 0 then (
b1 (x11_isDigit v8 I11) fun r14 =>
if r14 = 0 then (
lt (1 : Int32) fun v15 =>
b1 (x11_isSign v8 I11) fun r16 =>
if r16 = 0 then (
lt (wI I11 102 6 (3 : Int32)) fun I17 =>
some (v15, I17, L10)) else
lt (wI I11 102 6 v8) fun I18 =>
some (v15, I18, L10)) else
b1 (x11_token_L144 FU v9 I11) fun e25 =>
if 4 < e25.1 then (
lt (wI e25.2 102 6 (3 : Int32)) fun I26 =>
some (e25.1, I26, L10)) else
b1 (x11_here e25.1 e25.2) fun r27 =>
b1 (x11_isLetter r27 e25.2) fun r28 =>
if r28 = 0 then (
lt (wI e25.2 102 6 (2 : Int32)) fun I29 =>
some (e25.1, I29, L10)) else
lt (wI e25.2 102 6 (3 : Int32)) fun I30 =>
some (e25.1, I30, L10)) else
b1 (x11_token_L78 I11 FU v9 L10) fun e37 =>
if 8 < e37.1 then (
lt (wI I11 102 6 (3 : Int32)) fun I39 =>
some (e37.1, I39, e37.2)) else
lt (wI I11 102 6 (1 : Int32)) fun I38 =>
some (e37.1, I38, e37.2)) fun e12 =>
if (e12.2.1 102 6) = 3 then (
some (e12.2.1, e12.2.2)) else
lt (wI e12.2.1 102 4 ((e12.2.1 102 4) + e12.1)) fun I41 =>
some (I41, e12.2.2)
theorem x11_token_L0_ok {X : WX} {n0 s0 : Nat} {L : ML} {R : MR} {S : MS} (hK : okm R S) : ∀ (n : Nat) (I : MI), Sim X yX11_token cX11_token 3 none 1 21 n0 s0 0 [(0, .ref (X.1 + 102))] [] (I, L, R, S) (x11_token_L0 n I) (fun b f => Ex X yX11_token cX11_token 3 none 1 21 n0 s0 33 [(0, .ref (X.1 + 102))] [] (b, L, R, S) f) := by
  intro n
  induction n with
  | zero =>
    intro I
    exact sm_none
  | succ n ih =>
    intro I
    change Sim _ _ _ _ _ _ _ _ _ _ _ _ _ (x11_token_L0s (x11_token_L0 n) I) _
    unfold x11_token_L0s
    refine s_aload_n 0 dX11_token_0 rfl rfl ?_
    refine s_iconst (v := 0) dX11_token_1 rfl cI_0 ?_
    refine s_callV1_i0 dX11_token_2 rfl lkV_RX11_197 (S_102 hK) (Nat.le_of_ble_eq_true rfl) (Nat.le_of_ble_eq_true rfl) (Nat.le_of_ble_eq_true rfl) (ct_x11_here hK) (fun r1 => ?_)
    refine s_bipush (v := 32) dX11_token_5 rfl cB_32 ?_
    refine s_icmp_eq (tgt := 20) dX11_token_7 rfl rfl (fun _ => ?_) (fun _ => ?_)
    · skip
      refine s_aload_n 0 dX11_token_20 rfl rfl ?_
      refine s_dup dX11_token_21 rfl rfl ?_
      refine s_getI dX11_token_22 rfl fl_11_191 (S_102 hK) ?_
      refine s_iconst (v := 1) dX11_token_25 rfl cI_1 ?_
      refine s_iadd dX11_token_26 rfl ?_
      refine s_putIL dX11_token_27 rfl fl_11_191 (S_102 hK) (fun I2 => ?_)
      refine s_goto (tgt := 0) dX11_token_30 rfl ?_
      exact ih I2
    · skip
      refine s_aload_n 0 dX11_token_10 rfl rfl ?_
      refine s_iconst (v := 0) dX11_token_11 rfl cI_0 ?_
      refine s_callV1_i0 dX11_token_12 rfl lkV_RX11_197 (S_102 hK) (Nat.le_of_ble_eq_true rfl) (Nat.le_of_ble_eq_true rfl) (Nat.le_of_ble_eq_true rfl) (ct_x11_here hK) (fun r3 => ?_)
      refine s_bipush (v := 10) dX11_token_15 rfl cB_10 ?_
      refine s_icmp_ne (tgt := 33) dX11_token_17 rfl rfl (fun _ => ?_) (fun _ => ?_)
      · skip
        exact sm_exit (fun f h => h)
      · skip
        refine s_aload_n 0 dX11_token_20 rfl rfl ?_
        refine s_dup dX11_token_21 rfl rfl ?_
        refine s_getI dX11_token_22 rfl fl_11_191 (S_102 hK) ?_
        refine s_iconst (v := 1) dX11_token_25 rfl cI_1 ?_
        refine s_iadd dX11_token_26 rfl ?_
        refine s_putIL dX11_token_27 rfl fl_11_191 (S_102 hK) (fun I4 => ?_)
        refine s_goto (tgt := 0) dX11_token_30 rfl ?_
        exact ih I4
theorem x11_token_L144_ok {X : WX} {n0 s0 : Nat} {L : ML} {R : MR} {S : MS} (hK : okm R S) : ∀ (n : Nat) (w2 : Int32) (I : MI), Sim X yX11_token cX11_token 3 none 1 21 n0 s0 144 [(0, .ref (X.1 + 102)), (2, .int w2)] [] (I, L, R, S) (x11_token_L144 n w2 I) (fun b f => Ex X yX11_token cX11_token 3 none 1 21 n0 s0 186 [(0, .ref (X.1 + 102)), (2, .int b.1)] [] (b.2, L, R, S) f) := by
  intro n
  induction n with
  | zero =>
    intro w2 I
    exact sm_none
  | succ n ih =>
    intro w2 I
    change Sim _ _ _ _ _ _ _ _ _ _ _ _ _ (x11_token_L144s (x11_token_L144 n) w2 I) _
    unfold x11_token_L144s
    refine s_aload_n 0 dX11_token_144 rfl rfl ?_
    refine s_iload_n 1 dX11_token_145 rfl rfl ?_
    refine s_callV1_i0 dX11_token_146 rfl lkV_RX11_197 (S_102 hK) (Nat.le_of_ble_eq_true rfl) (Nat.le_of_ble_eq_true rfl) (Nat.le_of_ble_eq_true rfl) (ct_x11_here hK) (fun r19 => ?_)
    refine s_callS1_i0 dX11_token_149 rfl lkS_RX11_218 (Nat.le_of_ble_eq_true rfl) (Nat.le_of_ble_eq_true rfl) (Nat.le_of_ble_eq_true rfl) (ct_x11_isDigit hK) (fun r20 => ?_)
    refine s_if_eq (tgt := 186) dX11_token_152 rfl rfl (fun _ => ?_) (fun _ => ?_)
    · skip
      exact sm_exit (fun f h => h)
    · skip
      refine s_iload_n 1 dX11_token_155 rfl rfl ?_
      refine s_iconst (v := 4) dX11_token_156 rfl cI_4 ?_
      refine s_icmp_ge (tgt := 180) dX11_token_157 rfl rfl (fun _ => ?_) (fun _ => ?_)
      · skip
        refine s_iincL 1 (c := 1) (fun v21 => [(2, .int v21), (0, .ref (X.1 + 102))]) dX11_token_180 rfl rfl cI_1 (by decide) (fun _ => rfl) (fun v21 => ?_)
        refine s_goto (tgt := 144) dX11_token_183 rfl ?_
        refine s_pick [1, 0] rfl ?_
        exact ih v21 I
      · skip
        refine s_aload_n 0 dX11_token_160 rfl rfl ?_
        refine s_bipush (v := 10) dX11_token_161 rfl cB_10 ?_
        refine s_aload_n 0 dX11_token_163 rfl rfl ?_
        refine s_getI dX11_token_164 rfl fl_11_208 (S_102 hK) ?_
        refine s_imul dX11_token_167 rfl ?_
        refine s_aload_n 0 dX11_token_168 rfl rfl ?_
        refine s_iload_n 1 dX11_token_169 rfl rfl ?_
        refine s_callV1_i0 dX11_token_170 rfl lkV_RX11_197 (S_102 hK) (Nat.le_of_ble_eq_true rfl) (Nat.le_of_ble_eq_true rfl) (Nat.le_of_ble_eq_true rfl) (ct_x11_here hK) (fun r22 => ?_)
        refine s_iadd dX11_token_173 rfl ?_
        refine s_bipush (v := 48) dX11_token_174 rfl cB_48 ?_
        refine s_isub dX11_token_176 rfl ?_
        refine s_putIL dX11_token_177 rfl fl_11_208 (S_102 hK) (fun I23 => ?_)
        refine s_iincL 1 (c := 1) (fun v24 => [(2, .int v24), (0, .ref (X.1 + 102))]) dX11_token_180 rfl rfl cI_1 (by decide) (fun _ => rfl) (fun v24 => ?_)
        refine s_goto (tgt := 144) dX11_token_183 rfl ?_
        refine s_pick [1, 0] rfl ?_
        exact ih v24 I23
theorem x11_token_L78_ok {X : WX} {n0 s0 : Nat} {I : MI} {R : MR} {S : MS} (hK : okm R S) : ∀ (n : Nat) (w2 : Int32) (L : ML), Sim X yX11_token cX11_token 3 none 1 21 n0 s0 78 [(0, .ref (X.1 + 102)), (2, .int w2)] [] (I, L, R, S) (x11_token_L78 I n w2 L) (fun b f => Ex X yX11_token cX11_token 3 none 1 21 n0 s0 119 [(0, .ref (X.1 + 102)), (2, .int b.1)] [] (I, b.2, R, S) f) := by
  intro n
  induction n with
  | zero =>
    intro w2 L
    exact sm_none
  | succ n ih =>
    intro w2 L
    change Sim _ _ _ _ _ _ _ _ _ _ _ _ _ (x11_token_L78s I (x11_token_L78 I n) w2 L) _
    unfold x11_token_L78s
    refine s_aload_n 0 dX11_token_78 rfl rfl ?_
    refine s_iload_n 1 dX11_token_79 rfl rfl ?_
    refine s_callV1_i0 dX11_token_80 rfl lkV_RX11_197 (S_102 hK) (Nat.le_of_ble_eq_true rfl) (Nat.le_of_ble_eq_true rfl) (Nat.le_of_ble_eq_true rfl) (ct_x11_here hK) (fun r31 => ?_)
    refine s_callS1_i0 dX11_token_83 rfl lkS_RX11_214 (Nat.le_of_ble_eq_true rfl) (Nat.le_of_ble_eq_true rfl) (Nat.le_of_ble_eq_true rfl) (ct_x11_isLetter hK) (fun r32 => ?_)
    refine s_if_eq (tgt := 119) dX11_token_86 rfl rfl (fun _ => ?_) (fun _ => ?_)
    · skip
      exact sm_exit (fun f h => h)
    · skip
      refine s_iload_n 1 dX11_token_89 rfl rfl ?_
      refine s_bipush (v := 8) dX11_token_90 rfl cB_8 ?_
      refine s_icmp_ge (tgt := 113) dX11_token_92 rfl rfl (fun _ => ?_) (fun _ => ?_)
      · skip
        refine s_iincL 1 (c := 1) (fun v33 => [(2, .int v33), (0, .ref (X.1 + 102))]) dX11_token_113 rfl rfl cI_1 (by decide) (fun _ => rfl) (fun v33 => ?_)
        refine s_goto (tgt := 78) dX11_token_116 rfl ?_
        refine s_pick [1, 0] rfl ?_
        exact ih v33 L
      · skip
        refine s_aload_n 0 dX11_token_95 rfl rfl ?_
        refine s_aload_n 0 dX11_token_96 rfl rfl ?_
        refine s_getL dX11_token_97 rfl fl_11_204 (S_102 hK) ?_
        refine s_bipush (v := 8) dX11_token_100 rfl cB_8 ?_
        refine s_lshl dX11_token_102 rfl ?_
        refine s_aload_n 0 dX11_token_103 rfl rfl ?_
        refine s_iload_n 1 dX11_token_104 rfl rfl ?_
        refine s_callV1_i0 dX11_token_105 rfl lkV_RX11_197 (S_102 hK) (Nat.le_of_ble_eq_true rfl) (Nat.le_of_ble_eq_true rfl) (Nat.le_of_ble_eq_true rfl) (ct_x11_here hK) (fun r34 => ?_)
        refine s_i2l dX11_token_108 rfl ?_
        refine s_lor dX11_token_109 rfl ?_
        refine s_putLL dX11_token_110 rfl fl_11_204 (S_102 hK) (fun L35 => ?_)
        refine s_iincL 1 (c := 1) (fun v36 => [(2, .int v36), (0, .ref (X.1 + 102))]) dX11_token_113 rfl rfl cI_1 (by decide) (fun _ => rfl) (fun v36 => ?_)
        refine s_goto (tgt := 78) dX11_token_116 rfl ?_
        refine s_pick [1, 0] rfl ?_
        exact ih v36 L35
theorem ct_x11_token {X : WX} {I : MI} {L : ML} {R : MR} {S : MS} (hK : okm R S) : Ct X yX11_token cX11_token 3 none 1 21 [.ref (X.1 + 102)] (I, L, R, S) (x11_token I L) (fun r => (none, (r.1, r.2, R, S))) := by
  refine Ct.of (by decide) (Nat.le_of_ble_eq_true rfl) [(0, .ref (X.1 + 102))] rfl ?_
  unfold x11_token
  refine sm_reg (x11_token_L0_ok hK FU I) (fun e5 => ?_)
  refine s_aload_n 0 dX11_token_33 rfl rfl ?_
  refine s_aload_n 0 dX11_token_34 rfl rfl ?_
  refine s_getI dX11_token_35 rfl fl_11_191 (S_102 hK) ?_
  refine s_putIL dX11_token_38 rfl fl_11_201 (S_102 hK) (fun I6 => ?_)
  refine s_aload_n 0 dX11_token_41 rfl rfl ?_
  refine s_iconst (v := 0) dX11_token_42 rfl cI_0 ?_
  refine s_callV1_i0 dX11_token_43 rfl lkV_RX11_197 (S_102 hK) (Nat.le_of_ble_eq_true rfl) (Nat.le_of_ble_eq_true rfl) (Nat.le_of_ble_eq_true rfl) (ct_x11_here hK) (fun r7 => ?_)
  refine s_istore_nL (fun v8 => [(1, .int v8), (0, .ref (X.1 + 102))]) dX11_token_46 rfl (by decide) (fun _ => rfl) (fun v8 => ?_)
  refine s_iconst (v := 0) dX11_token_47 rfl cI_0 ?_
  refine s_istore_nL (fun v9 => [(2, .int v9), (1, .int v8), (0, .ref (X.1 + 102))]) dX11_token_48 rfl (by decide) (fun _ => rfl) (fun v9 => ?_)
  refine s_aload_n 2 dX11_token_49 rfl rfl ?_
  refine s_lconst (v := 0) dX11_token_50 rfl rfl ?_
  refine s_putLL dX11_token_51 rfl fl_11_204 (S_102 hK) (fun L10 => ?_)
  refine s_aload_n 2 dX11_token_54 rfl rfl ?_
  refine s_iconst (v := 0) dX11_token_55 rfl cI_0 ?_
  refine s_putIL dX11_token_56 rfl fl_11_208 (S_102 hK) (fun I11 => ?_)
  refine s_iload_n 1 dX11_token_59 rfl rfl ?_
  refine sm_reg (pcx := 232) (lsx := fun e12 => [(0, .ref (X.1 + 102)), (2, .int e12.1)]) (stx := fun e12 => []) (ux := fun e12 => (e12.2.1, e12.2.2, R, S)) ?_ (fun e12 => ?_)
  · skip
    refine s_if_ge (tgt := 71) dX11_token_60 rfl rfl (fun _ => ?_) (fun _ => ?_)
    · skip
      refine s_iload_n 1 dX11_token_71 rfl rfl ?_
      refine s_callS1_i0 dX11_token_72 rfl lkS_RX11_214 (Nat.le_of_ble_eq_true rfl) (Nat.le_of_ble_eq_true rfl) (Nat.le_of_ble_eq_true rfl) (ct_x11_isLetter hK) (fun r13 => ?_)
      refine s_if_eq (tgt := 137) dX11_token_75 rfl rfl (fun _ => ?_) (fun _ => ?_)
      · skip
        refine s_iload_n 1 dX11_token_137 rfl rfl ?_
        refine s_callS1_i0 dX11_token_138 rfl lkS_RX11_218 (Nat.le_of_ble_eq_true rfl) (Nat.le_of_ble_eq_true rfl) (Nat.le_of_ble_eq_true rfl) (ct_x11_isDigit hK) (fun r14 => ?_)
        refine s_if_eq (tgt := 214) dX11_token_141 rfl rfl (fun _ => ?_) (fun _ => ?_)
        · skip
          refine s_iconst (v := 1) dX11_token_214 rfl cI_1 ?_
          refine s_istore_nL (fun v15 => [(2, .int v15), (1, .int v8), (0, .ref (X.1 + 102))]) dX11_token_215 rfl (by decide) (fun _ => rfl) (fun v15 => ?_)
          refine s_aload_n 2 dX11_token_216 rfl rfl ?_
          refine s_iload_n 1 dX11_token_217 rfl rfl ?_
          refine s_callS1_i0 dX11_token_218 rfl lkS_RX11_221 (Nat.le_of_ble_eq_true rfl) (Nat.le_of_ble_eq_true rfl) (Nat.le_of_ble_eq_true rfl) (ct_x11_isSign hK) (fun r16 => ?_)
          refine s_if_eq (tgt := 228) dX11_token_221 rfl rfl (fun _ => ?_) (fun _ => ?_)
          · skip
            refine s_iconst (v := 3) dX11_token_228 rfl cI_3 ?_
            refine s_putIL dX11_token_229 rfl fl_11_211 (S_102 hK) (fun I17 => ?_)
            refine s_pick [2, 0] rfl ?_
            exact sm_exit (fun f h => h)
          · skip
            refine s_iload_n 1 dX11_token_224 rfl rfl ?_
            refine s_goto (tgt := 229) dX11_token_225 rfl ?_
            refine s_putIL dX11_token_229 rfl fl_11_211 (S_102 hK) (fun I18 => ?_)
            refine s_pick [2, 0] rfl ?_
            exact sm_exit (fun f h => h)
        · skip
          refine s_pick [2, 0] rfl ?_
          refine sm_reg (x11_token_L144_ok hK FU v9 I11) (fun e25 => ?_)
          refine s_aload_n 0 dX11_token_186 rfl rfl ?_
          refine s_iload_n 1 dX11_token_187 rfl rfl ?_
          refine s_iconst (v := 4) dX11_token_188 rfl cI_4 ?_
          refine s_icmp_gt (tgt := 203) dX11_token_189 rfl rfl (fun _ => ?_) (fun _ => ?_)
          · skip
            refine s_iconst (v := 3) dX11_token_203 rfl cI_3 ?_
            refine s_goto (tgt := 208) dX11_token_204 rfl ?_
            refine s_putIL dX11_token_208 rfl fl_11_211 (S_102 hK) (fun I26 => ?_)
            refine s_goto (tgt := 232) dX11_token_211 rfl ?_
            exact sm_exit (fun f h => h)
          · skip
            refine s_aload_n 0 dX11_token_192 rfl rfl ?_
            refine s_iload_n 1 dX11_token_193 rfl rfl ?_
            refine s_callV1_i0 dX11_token_194 rfl lkV_RX11_197 (S_102 hK) (Nat.le_of_ble_eq_true rfl) (Nat.le_of_ble_eq_true rfl) (Nat.le_of_ble_eq_true rfl) (ct_x11_here hK) (fun r27 => ?_)
            refine s_callS1_i0 dX11_token_197 rfl lkS_RX11_214 (Nat.le_of_ble_eq_true rfl) (Nat.le_of_ble_eq_true rfl) (Nat.le_of_ble_eq_true rfl) (ct_x11_isLetter hK) (fun r28 => ?_)
            refine s_if_eq (tgt := 207) dX11_token_200 rfl rfl (fun _ => ?_) (fun _ => ?_)
            · skip
              refine s_iconst (v := 2) dX11_token_207 rfl cI_2 ?_
              refine s_putIL dX11_token_208 rfl fl_11_211 (S_102 hK) (fun I29 => ?_)
              refine s_goto (tgt := 232) dX11_token_211 rfl ?_
              exact sm_exit (fun f h => h)
            · skip
              refine s_iconst (v := 3) dX11_token_203 rfl cI_3 ?_
              refine s_goto (tgt := 208) dX11_token_204 rfl ?_
              refine s_putIL dX11_token_208 rfl fl_11_211 (S_102 hK) (fun I30 => ?_)
              refine s_goto (tgt := 232) dX11_token_211 rfl ?_
              exact sm_exit (fun f h => h)
      · skip
        refine s_pick [2, 0] rfl ?_
        refine sm_reg (x11_token_L78_ok hK FU v9 L10) (fun e37 => ?_)
        refine s_aload_n 0 dX11_token_119 rfl rfl ?_
        refine s_iload_n 1 dX11_token_120 rfl rfl ?_
        refine s_bipush (v := 8) dX11_token_121 rfl cB_8 ?_
        refine s_icmp_le (tgt := 130) dX11_token_123 rfl rfl (fun _ => ?_) (fun _ => ?_)
        · skip
          refine s_iconst (v := 1) dX11_token_130 rfl cI_1 ?_
          refine s_putIL dX11_token_131 rfl fl_11_211 (S_102 hK) (fun I38 => ?_)
          refine s_goto (tgt := 232) dX11_token_134 rfl ?_
          exact sm_exit (fun f h => h)
        · skip
          refine s_iconst (v := 3) dX11_token_126 rfl cI_3 ?_
          refine s_goto (tgt := 131) dX11_token_127 rfl ?_
          refine s_putIL dX11_token_131 rfl fl_11_211 (S_102 hK) (fun I39 => ?_)
          refine s_goto (tgt := 232) dX11_token_134 rfl ?_
          exact sm_exit (fun f h => h)
    · skip
      refine s_aload_n 2 dX11_token_63 rfl rfl ?_
      refine s_iconst (v := 0) dX11_token_64 rfl cI_0 ?_
      refine s_putIL dX11_token_65 rfl fl_11_211 (S_102 hK) (fun I40 => ?_)
      refine s_goto (tgt := 232) dX11_token_68 rfl ?_
      refine s_pick [2, 0] rfl ?_
      exact sm_exit (fun f h => h)
  · skip
    refine s_aload_n 0 dX11_token_232 rfl rfl ?_
    refine s_getI dX11_token_233 rfl fl_11_211 (S_102 hK) ?_
    refine s_iconst (v := 3) dX11_token_236 rfl cI_3 ?_
    refine s_icmp_eq (tgt := 250) dX11_token_237 rfl rfl (fun _ => ?_) (fun _ => ?_)
    · skip
      exact s_vret dX11_token_250 rfl (fun f h => h)
    · skip
      refine s_aload_n 0 dX11_token_240 rfl rfl ?_
      refine s_dup dX11_token_241 rfl rfl ?_
      refine s_getI dX11_token_242 rfl fl_11_191 (S_102 hK) ?_
      refine s_iload_n 1 dX11_token_245 rfl rfl ?_
      refine s_iadd dX11_token_246 rfl ?_
      refine s_putIL dX11_token_247 rfl fl_11_191 (S_102 hK) (fun I41 => ?_)
      exact s_vret dX11_token_250 rfl (fun f h => h)
noncomputable def x11_wrong (p1 : Int32) (I : MI) : Option (MI) :=
if 0 < (I 102 2) then (
some I) else
if (I 102 6) = 3 then (
lt (wI I 102 2 (1 : Int32)) fun I3 =>
lt (wI I3 102 3 (I3 102 7)) fun I4 =>
some I4) else
lt (wI I 102 2 p1) fun I1 =>
lt (wI I1 102 3 (I1 102 7)) fun I2 =>
some I2
theorem ct_x11_wrong {X : WX} {p1 : Int32} {I : MI} {L : ML} {R : MR} {S : MS} (hK : okm R S) : Ct X yX11_wrong cX11_wrong 2 none 0 0 [.ref (X.1 + 102), .int p1] (I, L, R, S) (x11_wrong p1 I) (fun r => (none, (r, L, R, S))) := by
  refine Ct.of (by decide) (Nat.le_of_ble_eq_true rfl) [(0, .ref (X.1 + 102)), (1, .int p1)] rfl ?_
  unfold x11_wrong
  refine s_aload_n 0 dX11_wrong_0 rfl rfl ?_
  refine s_getI dX11_wrong_1 rfl fl_11_224 (S_102 hK) ?_
  refine s_if_le (tgt := 8) dX11_wrong_4 rfl rfl (fun _ => ?_) (fun _ => ?_)
  · skip
    refine s_aload_n 0 dX11_wrong_8 rfl rfl ?_
    refine s_aload_n 0 dX11_wrong_9 rfl rfl ?_
    refine s_getI dX11_wrong_10 rfl fl_11_211 (S_102 hK) ?_
    refine s_iconst (v := 3) dX11_wrong_13 rfl cI_3 ?_
    refine s_icmp_ne (tgt := 21) dX11_wrong_14 rfl rfl (fun _ => ?_) (fun _ => ?_)
    · skip
      refine s_iload_n 1 dX11_wrong_21 rfl rfl ?_
      refine s_putIL dX11_wrong_22 rfl fl_11_224 (S_102 hK) (fun I1 => ?_)
      refine s_aload_n 0 dX11_wrong_25 rfl rfl ?_
      refine s_aload_n 0 dX11_wrong_26 rfl rfl ?_
      refine s_getI dX11_wrong_27 rfl fl_11_201 (S_102 hK) ?_
      refine s_putIL dX11_wrong_30 rfl fl_11_13 (S_102 hK) (fun I2 => ?_)
      exact s_vret dX11_wrong_33 rfl (fun f h => h)
    · skip
      refine s_iconst (v := 1) dX11_wrong_17 rfl cI_1 ?_
      refine s_goto (tgt := 22) dX11_wrong_18 rfl ?_
      refine s_putIL dX11_wrong_22 rfl fl_11_224 (S_102 hK) (fun I3 => ?_)
      refine s_aload_n 0 dX11_wrong_25 rfl rfl ?_
      refine s_aload_n 0 dX11_wrong_26 rfl rfl ?_
      refine s_getI dX11_wrong_27 rfl fl_11_201 (S_102 hK) ?_
      refine s_putIL dX11_wrong_30 rfl fl_11_13 (S_102 hK) (fun I4 => ?_)
      exact s_vret dX11_wrong_33 rfl (fun f h => h)
  · skip
    exact s_vret dX11_wrong_7 rfl (fun f h => h)
noncomputable def x11_wrongAt (p1 : Int32) (p2 : Int32) (I : MI) : Option (MI) :=
if 0 < (I 102 2) then (
some I) else
lt (wI I 102 2 p1) fun I1 =>
lt (wI I1 102 3 p2) fun I2 =>
some I2
theorem ct_x11_wrongAt {X : WX} {p1 : Int32} {p2 : Int32} {I : MI} {L : ML} {R : MR} {S : MS} (hK : okm R S) : Ct X yX11_wrongAt cX11_wrongAt 3 none 0 0 [.ref (X.1 + 102), .int p1, .int p2] (I, L, R, S) (x11_wrongAt p1 p2 I) (fun r => (none, (r, L, R, S))) := by
  refine Ct.of (by decide) (Nat.le_of_ble_eq_true rfl) [(0, .ref (X.1 + 102)), (1, .int p1), (2, .int p2)] rfl ?_
  unfold x11_wrongAt
  refine s_aload_n 0 dX11_wrongAt_0 rfl rfl ?_
  refine s_getI dX11_wrongAt_1 rfl fl_11_224 (S_102 hK) ?_
  refine s_if_le (tgt := 8) dX11_wrongAt_4 rfl rfl (fun _ => ?_) (fun _ => ?_)
  · skip
    refine s_aload_n 0 dX11_wrongAt_8 rfl rfl ?_
    refine s_iload_n 1 dX11_wrongAt_9 rfl rfl ?_
    refine s_putIL dX11_wrongAt_10 rfl fl_11_224 (S_102 hK) (fun I1 => ?_)
    refine s_aload_n 0 dX11_wrongAt_13 rfl rfl ?_
    refine s_iload_n 2 dX11_wrongAt_14 rfl rfl ?_
    refine s_putIL dX11_wrongAt_15 rfl fl_11_13 (S_102 hK) (fun I2 => ?_)
    exact s_vret dX11_wrongAt_18 rfl (fun f h => h)
  · skip
    exact s_vret dX11_wrongAt_7 rfl (fun f h => h)
noncomputable def x11_isWord (p1 : Int64) (I : MI) (L : ML) : Option (Int32) :=
if (I 102 6) = 1 then (
if (lg_cmp (L 102 9) p1) = 0 then (
some (1 : Int32)) else
some (0 : Int32)) else
some (0 : Int32)
theorem ct_x11_isWord {X : WX} {p1 : Int64} {I : MI} {L : ML} {R : MR} {S : MS} (hK : okm R S) : Ct X yX11_isWord cX11_isWord 3 (some .boolean) 0 0 [.ref (X.1 + 102), .long p1] (I, L, R, S) (x11_isWord p1 I L) (fun r => (some (.int r), (I, L, R, S))) := by
  refine Ct.of (by decide) (Nat.le_of_ble_eq_true rfl) [(0, .ref (X.1 + 102)), (1, .long p1)] rfl ?_
  unfold x11_isWord
  refine s_aload_n 0 dX11_isWord_0 rfl rfl ?_
  refine s_getI dX11_isWord_1 rfl fl_11_211 (S_102 hK) ?_
  refine s_iconst (v := 1) dX11_isWord_4 rfl cI_1 ?_
  refine s_icmp_ne (tgt := 21) dX11_isWord_5 rfl rfl (fun _ => ?_) (fun _ => ?_)
  · skip
    refine s_iconst (v := 0) dX11_isWord_21 rfl cI_0 ?_
    exact s_zret dX11_isWord_22 rfl (Or.inl rfl) (fun f h => h)
  · skip
    refine s_aload_n 0 dX11_isWord_8 rfl rfl ?_
    refine s_getL dX11_isWord_9 rfl fl_11_204 (S_102 hK) ?_
    refine s_lload_n 1 dX11_isWord_12 rfl rfl ?_
    refine s_lcmp dX11_isWord_13 rfl ?_
    refine s_if_ne (tgt := 21) dX11_isWord_14 rfl rfl (fun _ => ?_) (fun _ => ?_)
    · skip
      refine s_iconst (v := 0) dX11_isWord_21 rfl cI_0 ?_
      exact s_zret dX11_isWord_22 rfl (Or.inl rfl) (fun f h => h)
    · skip
      refine s_iconst (v := 1) dX11_isWord_17 rfl cI_1 ?_
      refine s_goto (tgt := 22) dX11_isWord_18 rfl ?_
      exact s_zret dX11_isWord_22 rfl (Or.inr rfl) (fun f h => h)
noncomputable def x11_isOwn (I : MI) (L : ML) : Option (Int32) :=
if (lg_cmp (L 102 9) 7632226) = 0 then (
some (1 : Int32)) else
if (lg_cmp (L 102 9) 25209) = 0 then (
some (1 : Int32)) else
if (lg_cmp (L 102 9) 1868850291) = 0 then (
some (1 : Int32)) else
if (lg_cmp (L 102 9) 1718773093) = 0 then (
some (1 : Int32)) else
if (lg_cmp (L 102 9) 495873780843) = 0 then (
some (1 : Int32)) else
if (lg_cmp (L 102 9) 2002873452) = 0 then (
some (1 : Int32)) else
if (lg_cmp (L 102 9) 113741193899620) = 0 then (
some (1 : Int32)) else
if (lg_cmp (L 102 9) 1920298085) = 0 then (
some (1 : Int32)) else
if (lg_cmp (L 102 9) 418498243685) = 0 then (
some (1 : Int32)) else
if (lg_cmp (L 102 9) 24948) = 0 then (
some (1 : Int32)) else
if (lg_cmp (L 102 9) 1936292453) = 0 then (
some (1 : Int32)) else
if (lg_cmp (L 102 9) 1936680564) = 0 then (
some (1 : Int32)) else
if (lg_cmp (L 102 9) 1668245870) = 0 then (
some (1 : Int32)) else
if (lg_cmp (L 102 9) 108230531507570) = 0 then (
some (1 : Int32)) else
if (lg_cmp (L 102 9) 491327153000) = 0 then (
some (1 : Int32)) else
if (lg_cmp (L 102 9) 108243466679400) = 0 then (
some (1 : Int32)) else
if (lg_cmp (L 102 9) 470021403752) = 0 then (
some (1 : Int32)) else
if (lg_cmp (L 102 9) 1685217655) = 0 then (
some (1 : Int32)) else
if (lg_cmp (L 102 9) 6709618) = 0 then (
some (1 : Int32)) else
if (lg_cmp (L 102 9) 500135716211) = 0 then (
some (1 : Int32)) else
if (lg_cmp (L 102 9) 1802071652) = 0 then (
some (1 : Int32)) else
if (lg_cmp (L 102 9) 1818583406) = 0 then (
some (1 : Int32)) else
if (lg_cmp (L 102 9) 1651078245) = 0 then (
some (1 : Int32)) else
if (lg_cmp (L 102 9) 6385252) = 0 then (
some (1 : Int32)) else
if (lg_cmp (L 102 9) 28530) = 0 then (
some (1 : Int32)) else
if (lg_cmp (L 102 9) 7237492) = 0 then (
some (1 : Int32)) else
some (0 : Int32)
theorem ct_x11_isOwn {X : WX} {I : MI} {L : ML} {R : MR} {S : MS} (hK : okm R S) : Ct X yX11_isOwn cX11_isOwn 1 (some .boolean) 0 0 [.ref (X.1 + 102)] (I, L, R, S) (x11_isOwn I L) (fun r => (some (.int r), (I, L, R, S))) := by
  refine Ct.of (by decide) (Nat.le_of_ble_eq_true rfl) [(0, .ref (X.1 + 102))] rfl ?_
  unfold x11_isOwn
  refine s_aload_n 0 dX11_isOwn_0 rfl rfl ?_
  refine s_getL dX11_isOwn_1 rfl fl_11_204 (S_102 hK) ?_
  refine s_ldc2 (v := 7632226) dX11_isOwn_4 rfl kl_11_227c ?_
  refine s_lcmp dX11_isOwn_7 rfl ?_
  refine s_if_eq (tgt := 286) dX11_isOwn_8 rfl rfl (fun _ => ?_) (fun _ => ?_)
  · skip
    refine s_iconst (v := 1) dX11_isOwn_286 rfl cI_1 ?_
    refine s_goto (tgt := 291) dX11_isOwn_287 rfl ?_
    exact s_zret dX11_isOwn_291 rfl (Or.inr rfl) (fun f h => h)
  · skip
    refine s_aload_n 0 dX11_isOwn_11 rfl rfl ?_
    refine s_getL dX11_isOwn_12 rfl fl_11_204 (S_102 hK) ?_
    refine s_ldc2 (v := 25209) dX11_isOwn_15 rfl kl_11_229c ?_
    refine s_lcmp dX11_isOwn_18 rfl ?_
    refine s_if_eq (tgt := 286) dX11_isOwn_19 rfl rfl (fun _ => ?_) (fun _ => ?_)
    · skip
      refine s_iconst (v := 1) dX11_isOwn_286 rfl cI_1 ?_
      refine s_goto (tgt := 291) dX11_isOwn_287 rfl ?_
      exact s_zret dX11_isOwn_291 rfl (Or.inr rfl) (fun f h => h)
    · skip
      refine s_aload_n 0 dX11_isOwn_22 rfl rfl ?_
      refine s_getL dX11_isOwn_23 rfl fl_11_204 (S_102 hK) ?_
      refine s_ldc2 (v := 1868850291) dX11_isOwn_26 rfl kl_11_231c ?_
      refine s_lcmp dX11_isOwn_29 rfl ?_
      refine s_if_eq (tgt := 286) dX11_isOwn_30 rfl rfl (fun _ => ?_) (fun _ => ?_)
      · skip
        refine s_iconst (v := 1) dX11_isOwn_286 rfl cI_1 ?_
        refine s_goto (tgt := 291) dX11_isOwn_287 rfl ?_
        exact s_zret dX11_isOwn_291 rfl (Or.inr rfl) (fun f h => h)
      · skip
        refine s_aload_n 0 dX11_isOwn_33 rfl rfl ?_
        refine s_getL dX11_isOwn_34 rfl fl_11_204 (S_102 hK) ?_
        refine s_ldc2 (v := 1718773093) dX11_isOwn_37 rfl kl_11_233c ?_
        refine s_lcmp dX11_isOwn_40 rfl ?_
        refine s_if_eq (tgt := 286) dX11_isOwn_41 rfl rfl (fun _ => ?_) (fun _ => ?_)
        · skip
          refine s_iconst (v := 1) dX11_isOwn_286 rfl cI_1 ?_
          refine s_goto (tgt := 291) dX11_isOwn_287 rfl ?_
          exact s_zret dX11_isOwn_291 rfl (Or.inr rfl) (fun f h => h)
        · skip
          refine s_aload_n 0 dX11_isOwn_44 rfl rfl ?_
          refine s_getL dX11_isOwn_45 rfl fl_11_204 (S_102 hK) ?_
          refine s_ldc2 (v := 495873780843) dX11_isOwn_48 rfl kl_11_235c ?_
          refine s_lcmp dX11_isOwn_51 rfl ?_
          refine s_if_eq (tgt := 286) dX11_isOwn_52 rfl rfl (fun _ => ?_) (fun _ => ?_)
          · skip
            refine s_iconst (v := 1) dX11_isOwn_286 rfl cI_1 ?_
            refine s_goto (tgt := 291) dX11_isOwn_287 rfl ?_
            exact s_zret dX11_isOwn_291 rfl (Or.inr rfl) (fun f h => h)
          · skip
            refine s_aload_n 0 dX11_isOwn_55 rfl rfl ?_
            refine s_getL dX11_isOwn_56 rfl fl_11_204 (S_102 hK) ?_
            refine s_ldc2 (v := 2002873452) dX11_isOwn_59 rfl kl_11_237c ?_
            refine s_lcmp dX11_isOwn_62 rfl ?_
            refine s_if_eq (tgt := 286) dX11_isOwn_63 rfl rfl (fun _ => ?_) (fun _ => ?_)
            · skip
              refine s_iconst (v := 1) dX11_isOwn_286 rfl cI_1 ?_
              refine s_goto (tgt := 291) dX11_isOwn_287 rfl ?_
              exact s_zret dX11_isOwn_291 rfl (Or.inr rfl) (fun f h => h)
            · skip
              refine s_aload_n 0 dX11_isOwn_66 rfl rfl ?_
              refine s_getL dX11_isOwn_67 rfl fl_11_204 (S_102 hK) ?_
              refine s_ldc2 (v := 113741193899620) dX11_isOwn_70 rfl kl_11_239c ?_
              refine s_lcmp dX11_isOwn_73 rfl ?_
              refine s_if_eq (tgt := 286) dX11_isOwn_74 rfl rfl (fun _ => ?_) (fun _ => ?_)
              · skip
                refine s_iconst (v := 1) dX11_isOwn_286 rfl cI_1 ?_
                refine s_goto (tgt := 291) dX11_isOwn_287 rfl ?_
                exact s_zret dX11_isOwn_291 rfl (Or.inr rfl) (fun f h => h)
              · skip
                refine s_aload_n 0 dX11_isOwn_77 rfl rfl ?_
                refine s_getL dX11_isOwn_78 rfl fl_11_204 (S_102 hK) ?_
                refine s_ldc2 (v := 1920298085) dX11_isOwn_81 rfl kl_11_241c ?_
                refine s_lcmp dX11_isOwn_84 rfl ?_
                refine s_if_eq (tgt := 286) dX11_isOwn_85 rfl rfl (fun _ => ?_) (fun _ => ?_)
                · skip
                  refine s_iconst (v := 1) dX11_isOwn_286 rfl cI_1 ?_
                  refine s_goto (tgt := 291) dX11_isOwn_287 rfl ?_
                  exact s_zret dX11_isOwn_291 rfl (Or.inr rfl) (fun f h => h)
                · skip
                  refine s_aload_n 0 dX11_isOwn_88 rfl rfl ?_
                  refine s_getL dX11_isOwn_89 rfl fl_11_204 (S_102 hK) ?_
                  refine s_ldc2 (v := 418498243685) dX11_isOwn_92 rfl kl_11_243c ?_
                  refine s_lcmp dX11_isOwn_95 rfl ?_
                  refine s_if_eq (tgt := 286) dX11_isOwn_96 rfl rfl (fun _ => ?_) (fun _ => ?_)
                  · skip
                    refine s_iconst (v := 1) dX11_isOwn_286 rfl cI_1 ?_
                    refine s_goto (tgt := 291) dX11_isOwn_287 rfl ?_
                    exact s_zret dX11_isOwn_291 rfl (Or.inr rfl) (fun f h => h)
                  · skip
                    refine s_aload_n 0 dX11_isOwn_99 rfl rfl ?_
                    refine s_getL dX11_isOwn_100 rfl fl_11_204 (S_102 hK) ?_
                    refine s_ldc2 (v := 24948) dX11_isOwn_103 rfl kl_11_245c ?_
                    refine s_lcmp dX11_isOwn_106 rfl ?_
                    refine s_if_eq (tgt := 286) dX11_isOwn_107 rfl rfl (fun _ => ?_) (fun _ => ?_)
                    · skip
                      refine s_iconst (v := 1) dX11_isOwn_286 rfl cI_1 ?_
                      refine s_goto (tgt := 291) dX11_isOwn_287 rfl ?_
                      exact s_zret dX11_isOwn_291 rfl (Or.inr rfl) (fun f h => h)
                    · skip
                      refine s_aload_n 0 dX11_isOwn_110 rfl rfl ?_
                      refine s_getL dX11_isOwn_111 rfl fl_11_204 (S_102 hK) ?_
                      refine s_ldc2 (v := 1936292453) dX11_isOwn_114 rfl kl_11_247c ?_
                      refine s_lcmp dX11_isOwn_117 rfl ?_
                      refine s_if_eq (tgt := 286) dX11_isOwn_118 rfl rfl (fun _ => ?_) (fun _ => ?_)
                      · skip
                        refine s_iconst (v := 1) dX11_isOwn_286 rfl cI_1 ?_
                        refine s_goto (tgt := 291) dX11_isOwn_287 rfl ?_
                        exact s_zret dX11_isOwn_291 rfl (Or.inr rfl) (fun f h => h)
                      · skip
                        refine s_aload_n 0 dX11_isOwn_121 rfl rfl ?_
                        refine s_getL dX11_isOwn_122 rfl fl_11_204 (S_102 hK) ?_
                        refine s_ldc2 (v := 1936680564) dX11_isOwn_125 rfl kl_11_249c ?_
                        refine s_lcmp dX11_isOwn_128 rfl ?_
                        refine s_if_eq (tgt := 286) dX11_isOwn_129 rfl rfl (fun _ => ?_) (fun _ => ?_)
                        · skip
                          refine s_iconst (v := 1) dX11_isOwn_286 rfl cI_1 ?_
                          refine s_goto (tgt := 291) dX11_isOwn_287 rfl ?_
                          exact s_zret dX11_isOwn_291 rfl (Or.inr rfl) (fun f h => h)
                        · skip
                          refine s_aload_n 0 dX11_isOwn_132 rfl rfl ?_
                          refine s_getL dX11_isOwn_133 rfl fl_11_204 (S_102 hK) ?_
                          refine s_ldc2 (v := 1668245870) dX11_isOwn_136 rfl kl_11_251c ?_
                          refine s_lcmp dX11_isOwn_139 rfl ?_
                          refine s_if_eq (tgt := 286) dX11_isOwn_140 rfl rfl (fun _ => ?_) (fun _ => ?_)
                          · skip
                            refine s_iconst (v := 1) dX11_isOwn_286 rfl cI_1 ?_
                            refine s_goto (tgt := 291) dX11_isOwn_287 rfl ?_
                            exact s_zret dX11_isOwn_291 rfl (Or.inr rfl) (fun f h => h)
                          · skip
                            refine s_aload_n 0 dX11_isOwn_143 rfl rfl ?_
                            refine s_getL dX11_isOwn_144 rfl fl_11_204 (S_102 hK) ?_
                            refine s_ldc2 (v := 108230531507570) dX11_isOwn_147 rfl kl_11_253c ?_
                            refine s_lcmp dX11_isOwn_150 rfl ?_
                            refine s_if_eq (tgt := 286) dX11_isOwn_151 rfl rfl (fun _ => ?_) (fun _ => ?_)
                            · skip
                              refine s_iconst (v := 1) dX11_isOwn_286 rfl cI_1 ?_
                              refine s_goto (tgt := 291) dX11_isOwn_287 rfl ?_
                              exact s_zret dX11_isOwn_291 rfl (Or.inr rfl) (fun f h => h)
                            · skip
                              refine s_aload_n 0 dX11_isOwn_154 rfl rfl ?_
                              refine s_getL dX11_isOwn_155 rfl fl_11_204 (S_102 hK) ?_
                              refine s_ldc2 (v := 491327153000) dX11_isOwn_158 rfl kl_11_255c ?_
                              refine s_lcmp dX11_isOwn_161 rfl ?_
                              refine s_if_eq (tgt := 286) dX11_isOwn_162 rfl rfl (fun _ => ?_) (fun _ => ?_)
                              · skip
                                refine s_iconst (v := 1) dX11_isOwn_286 rfl cI_1 ?_
                                refine s_goto (tgt := 291) dX11_isOwn_287 rfl ?_
                                exact s_zret dX11_isOwn_291 rfl (Or.inr rfl) (fun f h => h)
                              · skip
                                refine s_aload_n 0 dX11_isOwn_165 rfl rfl ?_
                                refine s_getL dX11_isOwn_166 rfl fl_11_204 (S_102 hK) ?_
                                refine s_ldc2 (v := 108243466679400) dX11_isOwn_169 rfl kl_11_257c ?_
                                refine s_lcmp dX11_isOwn_172 rfl ?_
                                refine s_if_eq (tgt := 286) dX11_isOwn_173 rfl rfl (fun _ => ?_) (fun _ => ?_)
                                · skip
                                  refine s_iconst (v := 1) dX11_isOwn_286 rfl cI_1 ?_
                                  refine s_goto (tgt := 291) dX11_isOwn_287 rfl ?_
                                  exact s_zret dX11_isOwn_291 rfl (Or.inr rfl) (fun f h => h)
                                · skip
                                  refine s_aload_n 0 dX11_isOwn_176 rfl rfl ?_
                                  refine s_getL dX11_isOwn_177 rfl fl_11_204 (S_102 hK) ?_
                                  refine s_ldc2 (v := 470021403752) dX11_isOwn_180 rfl kl_11_259c ?_
                                  refine s_lcmp dX11_isOwn_183 rfl ?_
                                  refine s_if_eq (tgt := 286) dX11_isOwn_184 rfl rfl (fun _ => ?_) (fun _ => ?_)
                                  · skip
                                    refine s_iconst (v := 1) dX11_isOwn_286 rfl cI_1 ?_
                                    refine s_goto (tgt := 291) dX11_isOwn_287 rfl ?_
                                    exact s_zret dX11_isOwn_291 rfl (Or.inr rfl) (fun f h => h)
                                  · skip
                                    refine s_aload_n 0 dX11_isOwn_187 rfl rfl ?_
                                    refine s_getL dX11_isOwn_188 rfl fl_11_204 (S_102 hK) ?_
                                    refine s_ldc2 (v := 1685217655) dX11_isOwn_191 rfl kl_11_261c ?_
                                    refine s_lcmp dX11_isOwn_194 rfl ?_
                                    refine s_if_eq (tgt := 286) dX11_isOwn_195 rfl rfl (fun _ => ?_) (fun _ => ?_)
                                    · skip
                                      refine s_iconst (v := 1) dX11_isOwn_286 rfl cI_1 ?_
                                      refine s_goto (tgt := 291) dX11_isOwn_287 rfl ?_
                                      exact s_zret dX11_isOwn_291 rfl (Or.inr rfl) (fun f h => h)
                                    · skip
                                      refine s_aload_n 0 dX11_isOwn_198 rfl rfl ?_
                                      refine s_getL dX11_isOwn_199 rfl fl_11_204 (S_102 hK) ?_
                                      refine s_ldc2 (v := 6709618) dX11_isOwn_202 rfl kl_11_263c ?_
                                      refine s_lcmp dX11_isOwn_205 rfl ?_
                                      refine s_if_eq (tgt := 286) dX11_isOwn_206 rfl rfl (fun _ => ?_) (fun _ => ?_)
                                      · skip
                                        refine s_iconst (v := 1) dX11_isOwn_286 rfl cI_1 ?_
                                        refine s_goto (tgt := 291) dX11_isOwn_287 rfl ?_
                                        exact s_zret dX11_isOwn_291 rfl (Or.inr rfl) (fun f h => h)
                                      · skip
                                        refine s_aload_n 0 dX11_isOwn_209 rfl rfl ?_
                                        refine s_getL dX11_isOwn_210 rfl fl_11_204 (S_102 hK) ?_
                                        refine s_ldc2 (v := 500135716211) dX11_isOwn_213 rfl kl_11_265c ?_
                                        refine s_lcmp dX11_isOwn_216 rfl ?_
                                        refine s_if_eq (tgt := 286) dX11_isOwn_217 rfl rfl (fun _ => ?_) (fun _ => ?_)
                                        · skip
                                          refine s_iconst (v := 1) dX11_isOwn_286 rfl cI_1 ?_
                                          refine s_goto (tgt := 291) dX11_isOwn_287 rfl ?_
                                          exact s_zret dX11_isOwn_291 rfl (Or.inr rfl) (fun f h => h)
                                        · skip
                                          refine s_aload_n 0 dX11_isOwn_220 rfl rfl ?_
                                          refine s_getL dX11_isOwn_221 rfl fl_11_204 (S_102 hK) ?_
                                          refine s_ldc2 (v := 1802071652) dX11_isOwn_224 rfl kl_11_267c ?_
                                          refine s_lcmp dX11_isOwn_227 rfl ?_
                                          refine s_if_eq (tgt := 286) dX11_isOwn_228 rfl rfl (fun _ => ?_) (fun _ => ?_)
                                          · skip
                                            refine s_iconst (v := 1) dX11_isOwn_286 rfl cI_1 ?_
                                            refine s_goto (tgt := 291) dX11_isOwn_287 rfl ?_
                                            exact s_zret dX11_isOwn_291 rfl (Or.inr rfl) (fun f h => h)
                                          · skip
                                            refine s_aload_n 0 dX11_isOwn_231 rfl rfl ?_
                                            refine s_getL dX11_isOwn_232 rfl fl_11_204 (S_102 hK) ?_
                                            refine s_ldc2 (v := 1818583406) dX11_isOwn_235 rfl kl_11_269c ?_
                                            refine s_lcmp dX11_isOwn_238 rfl ?_
                                            refine s_if_eq (tgt := 286) dX11_isOwn_239 rfl rfl (fun _ => ?_) (fun _ => ?_)
                                            · skip
                                              refine s_iconst (v := 1) dX11_isOwn_286 rfl cI_1 ?_
                                              refine s_goto (tgt := 291) dX11_isOwn_287 rfl ?_
                                              exact s_zret dX11_isOwn_291 rfl (Or.inr rfl) (fun f h => h)
                                            · skip
                                              refine s_aload_n 0 dX11_isOwn_242 rfl rfl ?_
                                              refine s_getL dX11_isOwn_243 rfl fl_11_204 (S_102 hK) ?_
                                              refine s_ldc2 (v := 1651078245) dX11_isOwn_246 rfl kl_11_271c ?_
                                              refine s_lcmp dX11_isOwn_249 rfl ?_
                                              refine s_if_eq (tgt := 286) dX11_isOwn_250 rfl rfl (fun _ => ?_) (fun _ => ?_)
                                              · skip
                                                refine s_iconst (v := 1) dX11_isOwn_286 rfl cI_1 ?_
                                                refine s_goto (tgt := 291) dX11_isOwn_287 rfl ?_
                                                exact s_zret dX11_isOwn_291 rfl (Or.inr rfl) (fun f h => h)
                                              · skip
                                                refine s_aload_n 0 dX11_isOwn_253 rfl rfl ?_
                                                refine s_getL dX11_isOwn_254 rfl fl_11_204 (S_102 hK) ?_
                                                refine s_ldc2 (v := 6385252) dX11_isOwn_257 rfl kl_11_273c ?_
                                                refine s_lcmp dX11_isOwn_260 rfl ?_
                                                refine s_if_eq (tgt := 286) dX11_isOwn_261 rfl rfl (fun _ => ?_) (fun _ => ?_)
                                                · skip
                                                  refine s_iconst (v := 1) dX11_isOwn_286 rfl cI_1 ?_
                                                  refine s_goto (tgt := 291) dX11_isOwn_287 rfl ?_
                                                  exact s_zret dX11_isOwn_291 rfl (Or.inr rfl) (fun f h => h)
                                                · skip
                                                  refine s_aload_n 0 dX11_isOwn_264 rfl rfl ?_
                                                  refine s_getL dX11_isOwn_265 rfl fl_11_204 (S_102 hK) ?_
                                                  refine s_ldc2 (v := 28530) dX11_isOwn_268 rfl kl_11_275c ?_
                                                  refine s_lcmp dX11_isOwn_271 rfl ?_
                                                  refine s_if_eq (tgt := 286) dX11_isOwn_272 rfl rfl (fun _ => ?_) (fun _ => ?_)
                                                  · skip
                                                    refine s_iconst (v := 1) dX11_isOwn_286 rfl cI_1 ?_
                                                    refine s_goto (tgt := 291) dX11_isOwn_287 rfl ?_
                                                    exact s_zret dX11_isOwn_291 rfl (Or.inr rfl) (fun f h => h)
                                                  · skip
                                                    refine s_aload_n 0 dX11_isOwn_275 rfl rfl ?_
                                                    refine s_getL dX11_isOwn_276 rfl fl_11_204 (S_102 hK) ?_
                                                    refine s_ldc2 (v := 7237492) dX11_isOwn_279 rfl kl_11_277c ?_
                                                    refine s_lcmp dX11_isOwn_282 rfl ?_
                                                    refine s_if_ne (tgt := 290) dX11_isOwn_283 rfl rfl (fun _ => ?_) (fun _ => ?_)
                                                    · skip
                                                      refine s_iconst (v := 0) dX11_isOwn_290 rfl cI_0 ?_
                                                      exact s_zret dX11_isOwn_291 rfl (Or.inl rfl) (fun f h => h)
                                                    · skip
                                                      refine s_iconst (v := 1) dX11_isOwn_286 rfl cI_1 ?_
                                                      refine s_goto (tgt := 291) dX11_isOwn_287 rfl ?_
                                                      exact s_zret dX11_isOwn_291 rfl (Or.inr rfl) (fun f h => h)
