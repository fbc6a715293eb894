noncomputable def x0_finish (t0 : Nat) (p1 : Int32) (I : MI) : Option (MI) :=
if p1 < 0 then (
some I) else
if p1 < 11 then (
ck (vp_in p1 11) <|
lt (wI I (t0 + 16) (ix p1) (I (t0 + 13) 4)) fun I1 =>
some I1) else
some I
theorem ct_x0_finish {X : WX} {t0 : Nat} {p1 : Int32} {I : MI} {L : ML} {R : MR} {S : MS} (hK : okr R S) (ht0 : isT t0) : Ct X yX0_finish cX0_finish 2 none 0 0 [.ref (X.1 + (t0 + 13)), .int p1] (I, L, R, S) (x0_finish t0 p1 I) (fun r => (none, (r, L, R, S))) := by
  refine Ct.of (by decide) (Nat.le_of_ble_eq_true rfl) [(0, .ref (X.1 + (t0 + 13))), (1, .int p1)] rfl ?_
  unfold x0_finish
  refine s_iload_n 1 dX0_finish_0 rfl rfl ?_
  refine s_if_lt (tgt := 23) dX0_finish_1 rfl rfl (fun _ => ?_) (fun _ => ?_)
  · skip
    exact s_vret dX0_finish_23 rfl (fun f h => h)
  · skip
    refine s_iload_n 1 dX0_finish_4 rfl rfl ?_
    refine s_aload_n 0 dX0_finish_5 rfl rfl ?_
    refine s_getR (t0 + 16) dX0_finish_6 rfl fl_0_18 rfl (tS_13 hK ht0) (tR_13_2 hK ht0) ?_
    refine s_alen 1 (v := 11) dX0_finish_9 rfl (tS_16 hK ht0) (by decide) rfl rfl ?_
    refine s_icmp_ge (tgt := 23) dX0_finish_10 rfl rfl (fun _ => ?_) (fun _ => ?_)
    · skip
      exact s_vret dX0_finish_23 rfl (fun f h => h)
    · skip
      refine s_aload_n 0 dX0_finish_13 rfl rfl ?_
      refine s_getR (t0 + 16) dX0_finish_14 rfl fl_0_18 rfl (tS_13 hK ht0) (tR_13_2 hK ht0) ?_
      refine s_iload_n 1 dX0_finish_17 rfl rfl ?_
      refine s_aload_n 0 dX0_finish_18 rfl rfl ?_
      refine s_getI dX0_finish_19 rfl fl_0_31 (tS_13 hK ht0) ?_
      refine sm_ck (fun g2 => ?_)
      refine s_iastL dX0_finish_22 rfl (tS_16 hK ht0) g2 (fun I1 => ?_)
      exact s_vret dX0_finish_23 rfl (fun f h => h)
noncomputable def x5_formula (r : Nat) (p1 : Int32) (I : MI) (L : ML) : Option (Int32 × MI × ML) :=
lt (wI I 20 7 (0 : Int32)) fun I1 =>
b1 (x0_begin r p1 I1) fun I2 =>
b3 (x5_RD r 40 0 (0 : Int32) I2 L) fun r3 I4 L5 =>
lt r3 fun v6 =>
b1 (x0_finish r p1 I4) fun I7 =>
ck (v6 = 0 ∨ v6 = 1) (some (v6, I7, L5))
theorem ct_x5_formula {X : WX} {r : Nat} {p1 : Int32} {I : MI} {L : ML} {R : MR} {S : MS} (hK : okr R S) (hr : R 20 4 = some r ∧ isT r) (hx : R 21 1 = some 1) : Ct X yX5_formula cX5_formula 3 (some .boolean) 241 5423 [.ref (X.1 + 20), .int p1] (I, L, R, S) (x5_formula r p1 I L) (fun r => (some (.int r.1), (r.2.1, r.2.2, R, S))) := by
  refine Ct.of (by decide) (Nat.le_of_ble_eq_true rfl) [(0, .ref (X.1 + 20)), (1, .int p1)] rfl ?_
  unfold x5_formula
  refine s_aload_n 0 dX5_formula_0 rfl rfl ?_
  refine s_iconst (v := 0) dX5_formula_1 rfl cI_0 ?_
  refine s_putIL dX5_formula_2 rfl fl_5_195 (S_20 hK) (fun I1 => ?_)
  refine s_aload_n 0 dX5_formula_5 rfl rfl ?_
  refine s_getR r dX5_formula_6 rfl fl_5_32 rfl (S_20 hK) hr.1 ?_
  refine s_getR (r + 13) dX5_formula_9 rfl fl_5_118 rfl (tS_0 hK hr.2) (tR_0_19 hK hr.2) ?_
  refine s_iload_n 1 dX5_formula_12 rfl rfl ?_
  refine s_callV1_v1 dX5_formula_13 rfl lkV_RX5_198 (tS_13 hK hr.2) (Nat.le_of_ble_eq_true rfl) (Nat.le_of_ble_eq_true rfl) (Nat.le_of_ble_eq_true rfl) (ct_x0_begin hK hr.2) (fun I2 => ?_)
  refine s_aload_n 0 dX5_formula_16 rfl rfl ?_
  refine s_iconst (v := 0) dX5_formula_17 rfl cI_0 ?_
  refine s_callV1_i2 dX5_formula_18 rfl lkV_RX5_202 (S_20 hK) (Nat.le_of_ble_eq_true rfl) (Nat.le_of_ble_eq_true rfl) (Nat.le_of_ble_eq_true rfl) (ct_x5_RD_0 hK hr hx 40 _  _ _) (fun r3 I4 L5 => ?_)
  refine s_istore_nL (fun v6 => [(2, .int v6), (0, .ref (X.1 + 20)), (1, .int p1)]) dX5_formula_21 rfl (by decide) (fun _ => rfl) (fun v6 => ?_)
  refine s_aload_n 1 dX5_formula_22 rfl rfl ?_
  refine s_getR r dX5_formula_23 rfl fl_5_32 rfl (S_20 hK) hr.1 ?_
  refine s_getR (r + 13) dX5_formula_26 rfl fl_5_118 rfl (tS_0 hK hr.2) (tR_0_19 hK hr.2) ?_
  refine s_iload_n 2 dX5_formula_29 rfl rfl ?_
  refine s_callV1_v1 dX5_formula_30 rfl lkV_RX5_205 (tS_13 hK hr.2) (Nat.le_of_ble_eq_true rfl) (Nat.le_of_ble_eq_true rfl) (Nat.le_of_ble_eq_true rfl) (ct_x0_finish hK hr.2) (fun I7 => ?_)
  refine s_iload_n 0 dX5_formula_33 rfl rfl ?_
  refine sm_ck (fun g8 => ?_)
  exact s_zret dX5_formula_34 rfl g8 (fun f h => h)
noncomputable def x5_oddsLine (r : Nat) (I : MI) (L : ML) : Option (Int32 × MI × ML) :=
b2 (x3_next I L) fun I1 L2 =>
lt ((I1 21 4) - 3) fun v3 =>
if v3 < 0 then (
b2 (x5_fail (2 : Int32) I1) fun r4 I5 =>
ck (r4 = 0 ∨ r4 = 1) (some (r4, I5, L2))) else
if v3 < 5 then (
b1 (x0_isTold r v3 I1) fun r10 =>
if r10 = 0 then (
b2 (x3_next I1 L2) fun I11 L12 =>
b3 (x5_formula r v3 I11 L12) fun r13 I14 L15 =>
ck (r13 = 0 ∨ r13 = 1) (some (r13, I14, L15))) else
b2 (x5_fail (2 : Int32) I1) fun r17 I18 =>
ck (r17 = 0 ∨ r17 = 1) (some (r17, I18, L2))) else
b2 (x5_fail (2 : Int32) I1) fun r7 I8 =>
ck (r7 = 0 ∨ r7 = 1) (some (r7, I8, L2))
theorem ct_x5_oddsLine {X : WX} {r : Nat} {I : MI} {L : ML} {R : MR} {S : MS} (hK : okr R S) (hr : R 20 4 = some r ∧ isT r) (hx : R 21 1 = some 1) : Ct X yX5_oddsLine cX5_oddsLine 2 (some .boolean) 242 5445 [.ref (X.1 + 20)] (I, L, R, S) (x5_oddsLine r I L) (fun r => (some (.int r.1), (r.2.1, r.2.2, R, S))) := by
  refine Ct.of (by decide) (Nat.le_of_ble_eq_true rfl) [(0, .ref (X.1 + 20))] rfl ?_
  unfold x5_oddsLine
  refine s_aload_n 0 dX5_oddsLine_0 rfl rfl ?_
  refine s_getR 21 dX5_oddsLine_1 rfl fl_5_12 rfl (S_20 hK) (R_20_0 hK) ?_
  refine s_callV0_v2 dX5_oddsLine_4 rfl lkV_RX5_94 (S_21 hK) (Nat.le_of_ble_eq_true rfl) (Nat.le_of_ble_eq_true rfl) (Nat.le_of_ble_eq_true rfl) (ct_x3_next hK hx) (fun I1 L2 => ?_)
  refine s_aload_n 0 dX5_oddsLine_7 rfl rfl ?_
  refine s_getR 21 dX5_oddsLine_8 rfl fl_5_12 rfl (S_20 hK) (R_20_0 hK) ?_
  refine s_getI dX5_oddsLine_11 rfl fl_5_55 (S_21 hK) ?_
  refine s_iconst (v := 3) dX5_oddsLine_14 rfl cI_3 ?_
  refine s_isub dX5_oddsLine_15 rfl ?_
  refine s_istore_nL (fun v3 => [(1, .int v3), (0, .ref (X.1 + 20))]) dX5_oddsLine_16 rfl (by decide) (fun _ => rfl) (fun v3 => ?_)
  refine s_iload_n 0 dX5_oddsLine_17 rfl rfl ?_
  refine s_if_lt (tgt := 40) dX5_oddsLine_18 rfl rfl (fun _ => ?_) (fun _ => ?_)
  · skip
    refine s_aload_n 1 dX5_oddsLine_40 rfl rfl ?_
    refine s_iconst (v := 2) dX5_oddsLine_41 rfl cI_2 ?_
    refine s_callV1_i1 dX5_oddsLine_42 rfl lkV_RX5_66 (S_20 hK) (Nat.le_of_ble_eq_true rfl) (Nat.le_of_ble_eq_true rfl) (Nat.le_of_ble_eq_true rfl) (ct_x5_fail hK) (fun r4 I5 => ?_)
    refine sm_ck (fun g6 => ?_)
    exact s_zret dX5_oddsLine_45 rfl g6 (fun f h => h)
  · skip
    refine s_iload_n 0 dX5_oddsLine_21 rfl rfl ?_
    refine s_iconst (v := 5) dX5_oddsLine_22 rfl cI_5 ?_
    refine s_icmp_ge (tgt := 40) dX5_oddsLine_23 rfl rfl (fun _ => ?_) (fun _ => ?_)
    · skip
      refine s_aload_n 1 dX5_oddsLine_40 rfl rfl ?_
      refine s_iconst (v := 2) dX5_oddsLine_41 rfl cI_2 ?_
      refine s_callV1_i1 dX5_oddsLine_42 rfl lkV_RX5_66 (S_20 hK) (Nat.le_of_ble_eq_true rfl) (Nat.le_of_ble_eq_true rfl) (Nat.le_of_ble_eq_true rfl) (ct_x5_fail hK) (fun r7 I8 => ?_)
      refine sm_ck (fun g9 => ?_)
      exact s_zret dX5_oddsLine_45 rfl g9 (fun f h => h)
    · skip
      refine s_aload_n 1 dX5_oddsLine_26 rfl rfl ?_
      refine s_getR r dX5_oddsLine_27 rfl fl_5_32 rfl (S_20 hK) hr.1 ?_
      refine s_getR (r + 13) dX5_oddsLine_30 rfl fl_5_118 rfl (tS_0 hK hr.2) (tR_0_19 hK hr.2) ?_
      refine s_iload_n 0 dX5_oddsLine_33 rfl rfl ?_
      refine s_callV1_i0 dX5_oddsLine_34 rfl lkV_RX5_122 (tS_13 hK hr.2) (Nat.le_of_ble_eq_true rfl) (Nat.le_of_ble_eq_true rfl) (Nat.le_of_ble_eq_true rfl) (ct_x0_isTold hK hr.2) (fun r10 => ?_)
      refine s_if_eq (tgt := 46) dX5_oddsLine_37 rfl rfl (fun _ => ?_) (fun _ => ?_)
      · skip
        refine s_aload_n 1 dX5_oddsLine_46 rfl rfl ?_
        refine s_getR 21 dX5_oddsLine_47 rfl fl_5_12 rfl (S_20 hK) (R_20_0 hK) ?_
        refine s_callV0_v2 dX5_oddsLine_50 rfl lkV_RX5_94 (S_21 hK) (Nat.le_of_ble_eq_true rfl) (Nat.le_of_ble_eq_true rfl) (Nat.le_of_ble_eq_true rfl) (ct_x3_next hK hx) (fun I11 L12 => ?_)
        refine s_aload_n 1 dX5_oddsLine_53 rfl rfl ?_
        refine s_iload_n 0 dX5_oddsLine_54 rfl rfl ?_
        refine s_callV1_i2 dX5_oddsLine_55 rfl lkV_RX5_127 (S_20 hK) (Nat.le_of_ble_eq_true rfl) (Nat.le_of_ble_eq_true rfl) (Nat.le_of_ble_eq_true rfl) (ct_x5_formula hK hr hx) (fun r13 I14 L15 => ?_)
        refine sm_ck (fun g16 => ?_)
        exact s_zret dX5_oddsLine_58 rfl g16 (fun f h => h)
      · skip
        refine s_aload_n 1 dX5_oddsLine_40 rfl rfl ?_
        refine s_iconst (v := 2) dX5_oddsLine_41 rfl cI_2 ?_
        refine s_callV1_i1 dX5_oddsLine_42 rfl lkV_RX5_66 (S_20 hK) (Nat.le_of_ble_eq_true rfl) (Nat.le_of_ble_eq_true rfl) (Nat.le_of_ble_eq_true rfl) (ct_x5_fail hK) (fun r17 I18 => ?_)
        refine sm_ck (fun g19 => ?_)
        exact s_zret dX5_oddsLine_45 rfl g19 (fun f h => h)
noncomputable def x5_indexOfName_L2s (a1 : Nat) (ln1 : Nat) (c2 : Int32) (L : ML) (rec : Int32 → Option ((Unit) ⊕ (Int32))) (w3 : Int32) : Option ((Unit) ⊕ (Int32)) :=
if w3 < c2 then (
if w3 < (Int32.ofNat ln1) then (
ck (vp_in w3 ln1) <|
if (lg_cmp (L a1 (ix w3)) (L 21 7)) = 0 then (
some (.inr w3)) else
lt (w3 + 1) fun v3 =>
rec v3) else
some (.inl ())) else
some (.inl ())
noncomputable def x5_indexOfName_L2 (a1 : Nat) (ln1 : Nat) (c2 : Int32) (L : ML) : Nat → Int32 → Option ((Unit) ⊕ (Int32))
  | 0 => fun _ => none
  | n + 1 => x5_indexOfName_L2s a1 ln1 c2 L (x5_indexOfName_L2 a1 ln1 c2 L n)
noncomputable def x5_indexOfName (a1 : Nat) (ln1 : Nat) (p2 : Int32) (I : MI) (L : ML) : Option (Int32) :=
lt (0 : Int32) fun v1 =>
bE (x5_indexOfName_L2 a1 ln1 p2 L FU v1) fun e4 =>
some (-1 : Int32)
theorem x5_indexOfName_L2_ok {X : WX} {n0 s0 : Nat} {a1 : Nat} {ln1 : Nat} {c2 : Int32} {I : MI} {L : ML} {R : MR} {S : MS} (hK : okr R S) (ha1 : S[a1]? = some (14, ln1)) : ∀ (n : Nat) (w3 : Int32), Sim X yX5_indexOfName cX5_indexOfName 4 (some .int) 0 0 n0 s0 2 [(0, .ref (X.1 + 20)), (1, .ref (X.1 + a1)), (2, .int c2), (3, .int w3)] [] (I, L, R, S) (x5_indexOfName_L2 a1 ln1 c2 L n w3) (SE (fun b f => Ex X yX5_indexOfName cX5_indexOfName 4 (some .int) 0 0 n0 s0 35 [] [] (I, L, R, S) f) (fun a f => f = (fun r => (some (.int r), (I, L, R, S))) a)) := by
  intro n
  induction n with
  | zero =>
    intro w3
    exact sm_none
  | succ n ih =>
    intro w3
    change Sim _ _ _ _ _ _ _ _ _ _ _ _ _ (x5_indexOfName_L2s a1 ln1 c2 L (x5_indexOfName_L2 a1 ln1 c2 L n) w3) _
    unfold x5_indexOfName_L2s
    refine s_iload_n 3 dX5_indexOfName_2 rfl rfl ?_
    refine s_iload_n 2 dX5_indexOfName_3 rfl rfl ?_
    refine s_icmp_ge (tgt := 35) dX5_indexOfName_4 rfl rfl (fun _ => ?_) (fun _ => ?_)
    · skip
      refine s_pick [] rfl ?_
      exact sm_exit (fun f h => h)
    · skip
      refine s_iload_n 3 dX5_indexOfName_7 rfl rfl ?_
      refine s_aload_n 1 dX5_indexOfName_8 rfl rfl ?_
      refine s_alen 2 dX5_indexOfName_9 rfl ha1 (by decide) rfl rfl ?_
      refine s_icmp_ge (tgt := 35) dX5_indexOfName_10 rfl rfl (fun _ => ?_) (fun _ => ?_)
      · skip
        refine s_pick [] rfl ?_
        exact sm_exit (fun f h => h)
      · skip
        refine s_aload_n 1 dX5_indexOfName_13 rfl rfl ?_
        refine s_iload_n 3 dX5_indexOfName_14 rfl rfl ?_
        refine sm_ck (fun g2 => ?_)
        refine s_lald dX5_indexOfName_15 rfl ha1 g2 ?_
        refine s_aload_n 0 dX5_indexOfName_16 rfl rfl ?_
        refine s_getR 21 dX5_indexOfName_17 rfl fl_5_12 rfl (S_20 hK) (R_20_0 hK) ?_
        refine s_getL dX5_indexOfName_20 rfl fl_5_107 (S_21 hK) ?_
        refine s_lcmp dX5_indexOfName_23 rfl ?_
        refine s_if_ne (tgt := 29) dX5_indexOfName_24 rfl rfl (fun _ => ?_) (fun _ => ?_)
        · skip
          refine s_iincL 3 (c := 1) (fun v3 => [(3, .int v3), (0, .ref (X.1 + 20)), (1, .ref (X.1 + a1)), (2, .int c2)]) dX5_indexOfName_29 rfl rfl cI_1 (by decide) (fun _ => rfl) (fun v3 => ?_)
          refine s_goto (tgt := 2) dX5_indexOfName_32 rfl ?_
          refine s_pick [1, 2, 3, 0] rfl ?_
          exact ih v3
        · skip
          refine s_iload_n 3 dX5_indexOfName_27 rfl rfl ?_
          exact s_iret dX5_indexOfName_28 rfl (fun f h => h)
theorem ct_x5_indexOfName {X : WX} {a1 : Nat} {ln1 : Nat} {p2 : Int32} {I : MI} {L : ML} {R : MR} {S : MS} (hK : okr R S) (ha1 : S[a1]? = some (14, ln1)) : Ct X yX5_indexOfName cX5_indexOfName 4 (some .int) 0 0 [.ref (X.1 + 20), .ref (X.1 + a1), .int p2] (I, L, R, S) (x5_indexOfName a1 ln1 p2 I L) (fun r => (some (.int r), (I, L, R, S))) := by
  refine Ct.of (by decide) (Nat.le_of_ble_eq_true rfl) [(0, .ref (X.1 + 20)), (1, .ref (X.1 + a1)), (2, .int p2)] rfl ?_
  unfold x5_indexOfName
  refine s_iconst (v := 0) dX5_indexOfName_0 rfl cI_0 ?_
  refine s_istore_nL (fun v1 => [(3, .int v1), (0, .ref (X.1 + 20)), (1, .ref (X.1 + a1)), (2, .int p2)]) dX5_indexOfName_1 rfl (by decide) (fun _ => rfl) (fun v1 => ?_)
  refine s_pick [1, 2, 3, 0] rfl ?_
  refine sm_regE (x5_indexOfName_L2_ok hK ha1 FU v1) (fun e4 => ?_)
  refine s_iconst (v := (-1)) dX5_indexOfName_35 rfl cI_m1 ?_
  exact s_iret dX5_indexOfName_36 rfl (fun f h => h)
noncomputable def x5_newName (a1 : Nat) (ln1 : Nat) (p2 : Int32) (I : MI) (L : ML) : Option (Int32 × MI × ML) :=
if (I 21 4) = 26 then (
if p2 < (Int32.ofNat ln1) then (
b1 (x5_indexOfName a1 ln1 p2 I L) fun r4 =>
if r4 = (-1) then (
ck (vp_in p2 ln1) <|
lt (wL L a1 (ix p2) (L 21 7)) fun L5 =>
b2 (x3_next I L5) fun I7 L8 =>
some ((1 : Int32), I7, L8)) else
b2 (x5_fail (3 : Int32) I) fun r9 I10 =>
ck (r9 = 0 ∨ r9 = 1) (some (r9, I10, L))) else
b2 (x5_fail (2 : Int32) I) fun r12 I13 =>
ck (r12 = 0 ∨ r12 = 1) (some (r12, I13, L))) else
b2 (x5_fail (2 : Int32) I) fun r1 I2 =>
ck (r1 = 0 ∨ r1 = 1) (some (r1, I2, L))
theorem ct_x5_newName {X : WX} {a1 : Nat} {ln1 : Nat} {p2 : Int32} {I : MI} {L : ML} {R : MR} {S : MS} (hK : okr R S) (hx : R 21 1 = some 1) (ha1 : S[a1]? = some (14, ln1)) : Ct X yX5_newName cX5_newName 3 (some .boolean) 2 41 [.ref (X.1 + 20), .ref (X.1 + a1), .int p2] (I, L, R, S) (x5_newName a1 ln1 p2 I L) (fun r => (some (.int r.1), (r.2.1, r.2.2, R, S))) := by
  refine Ct.of (by decide) (Nat.le_of_ble_eq_true rfl) [(0, .ref (X.1 + 20)), (1, .ref (X.1 + a1)), (2, .int p2)] rfl ?_
  unfold x5_newName
  refine s_aload_n 0 dX5_newName_0 rfl rfl ?_
  refine s_getR 21 dX5_newName_1 rfl fl_5_12 rfl (S_20 hK) (R_20_0 hK) ?_
  refine s_getI dX5_newName_4 rfl fl_5_55 (S_21 hK) ?_
  refine s_bipush (v := 26) dX5_newName_7 rfl cB_26 ?_
  refine s_icmp_ne (tgt := 18) dX5_newName_9 rfl rfl (fun _ => ?_) (fun _ => ?_)
  · skip
    refine s_aload_n 0 dX5_newName_18 rfl rfl ?_
    refine s_iconst (v := 2) dX5_newName_19 rfl cI_2 ?_
    refine s_callV1_i1 dX5_newName_20 rfl lkV_RX5_66 (S_20 hK) (Nat.le_of_ble_eq_true rfl) (Nat.le_of_ble_eq_true rfl) (Nat.le_of_ble_eq_true rfl) (ct_x5_fail hK) (fun r1 I2 => ?_)
    refine sm_ck (fun g3 => ?_)
    exact s_zret dX5_newName_23 rfl g3 (fun f h => h)
  · skip
    refine s_iload_n 2 dX5_newName_12 rfl rfl ?_
    refine s_aload_n 1 dX5_newName_13 rfl rfl ?_
    refine s_alen 2 dX5_newName_14 rfl ha1 (by decide) rfl rfl ?_
    refine s_icmp_lt (tgt := 24) dX5_newName_15 rfl rfl (fun _ => ?_) (fun _ => ?_)
    · skip
      refine s_aload_n 0 dX5_newName_24 rfl rfl ?_
      refine s_aload_n 1 dX5_newName_25 rfl rfl ?_
      refine s_iload_n 2 dX5_newName_26 rfl rfl ?_
      refine s_callV2_i0 dX5_newName_27 rfl lkV_RX5_103 (S_20 hK) (Nat.le_of_ble_eq_true rfl) (Nat.le_of_ble_eq_true rfl) (Nat.le_of_ble_eq_true rfl) (ct_x5_indexOfName hK ha1) (fun r4 => ?_)
      refine s_iconst (v := (-1)) dX5_newName_30 rfl cI_m1 ?_
      refine s_icmp_eq (tgt := 40) dX5_newName_31 rfl rfl (fun _ => ?_) (fun _ => ?_)
      · skip
        refine s_aload_n 1 dX5_newName_40 rfl rfl ?_
        refine s_iload_n 2 dX5_newName_41 rfl rfl ?_
        refine s_aload_n 0 dX5_newName_42 rfl rfl ?_
        refine s_getR 21 dX5_newName_43 rfl fl_5_12 rfl (S_20 hK) (R_20_0 hK) ?_
        refine s_getL dX5_newName_46 rfl fl_5_107 (S_21 hK) ?_
        refine sm_ck (fun g6 => ?_)
        refine s_lastL dX5_newName_49 rfl ha1 g6 (fun L5 => ?_)
        refine s_aload_n 0 dX5_newName_50 rfl rfl ?_
        refine s_getR 21 dX5_newName_51 rfl fl_5_12 rfl (S_20 hK) (R_20_0 hK) ?_
        refine s_callV0_v2 dX5_newName_54 rfl lkV_RX5_94 (S_21 hK) (Nat.le_of_ble_eq_true rfl) (Nat.le_of_ble_eq_true rfl) (Nat.le_of_ble_eq_true rfl) (ct_x3_next hK hx) (fun I7 L8 => ?_)
        refine s_iconst (v := 1) dX5_newName_57 rfl cI_1 ?_
        exact s_zret dX5_newName_58 rfl (Or.inr rfl) (fun f h => h)
      · skip
        refine s_aload_n 0 dX5_newName_34 rfl rfl ?_
        refine s_iconst (v := 3) dX5_newName_35 rfl cI_3 ?_
        refine s_callV1_i1 dX5_newName_36 rfl lkV_RX5_66 (S_20 hK) (Nat.le_of_ble_eq_true rfl) (Nat.le_of_ble_eq_true rfl) (Nat.le_of_ble_eq_true rfl) (ct_x5_fail hK) (fun r9 I10 => ?_)
        refine sm_ck (fun g11 => ?_)
        exact s_zret dX5_newName_39 rfl g11 (fun f h => h)
    · skip
      refine s_aload_n 0 dX5_newName_18 rfl rfl ?_
      refine s_iconst (v := 2) dX5_newName_19 rfl cI_2 ?_
      refine s_callV1_i1 dX5_newName_20 rfl lkV_RX5_66 (S_20 hK) (Nat.le_of_ble_eq_true rfl) (Nat.le_of_ble_eq_true rfl) (Nat.le_of_ble_eq_true rfl) (ct_x5_fail hK) (fun r12 I13 => ?_)
      refine sm_ck (fun g14 => ?_)
      exact s_zret dX5_newName_23 rfl g14 (fun f h => h)
noncomputable def x5_ruleLine (r : Nat) (I : MI) (L : ML) : Option (Int32 × MI × ML) :=
if (I r 18) < 6 then (
b2 (x3_next I L) fun I1 L2 =>
b3 (x5_newName 24 6 (I1 r 18) I1 L2) fun r3 I4 L5 =>
if r3 = 0 then (
some ((0 : Int32), I4, L5)) else
b3 (x5_formula r (5 + (I4 r 18)) I4 L5) fun r6 I7 L8 =>
if r6 = 0 then (
some ((0 : Int32), I7, L8)) else
lt (wI I7 r 18 ((I7 r 18) + 1)) fun I9 =>
some ((1 : Int32), I9, L8)) else
b2 (x5_fail (2 : Int32) I) fun r10 I11 =>
ck (r10 = 0 ∨ r10 = 1) (some (r10, I11, L))
theorem ct_x5_ruleLine {X : WX} {r : Nat} {I : MI} {L : ML} {R : MR} {S : MS} (hK : okr R S) (hr : R 20 4 = some r ∧ isT r) (hx : R 21 1 = some 1) : Ct X yX5_ruleLine cX5_ruleLine 1 (some .boolean) 242 5445 [.ref (X.1 + 20)] (I, L, R, S) (x5_ruleLine r I L) (fun r => (some (.int r.1), (r.2.1, r.2.2, R, S))) := by
  refine Ct.of (by decide) (Nat.le_of_ble_eq_true rfl) [(0, .ref (X.1 + 20))] rfl ?_
  unfold x5_ruleLine
  refine s_aload_n 0 dX5_ruleLine_0 rfl rfl ?_
  refine s_getR r dX5_ruleLine_1 rfl fl_5_32 rfl (S_20 hK) hr.1 ?_
  refine s_getI dX5_ruleLine_4 rfl fl_5_130 (tS_0 hK hr.2) ?_
  refine s_bipush (v := 6) dX5_ruleLine_7 rfl cB_6 ?_
  refine s_icmp_lt (tgt := 18) dX5_ruleLine_9 rfl rfl (fun _ => ?_) (fun _ => ?_)
  · skip
    refine s_aload_n 0 dX5_ruleLine_18 rfl rfl ?_
    refine s_getR 21 dX5_ruleLine_19 rfl fl_5_12 rfl (S_20 hK) (R_20_0 hK) ?_
    refine s_callV0_v2 dX5_ruleLine_22 rfl lkV_RX5_94 (S_21 hK) (Nat.le_of_ble_eq_true rfl) (Nat.le_of_ble_eq_true rfl) (Nat.le_of_ble_eq_true rfl) (ct_x3_next hK hx) (fun I1 L2 => ?_)
    refine s_aload_n 0 dX5_ruleLine_25 rfl rfl ?_
    refine s_aload_n 0 dX5_ruleLine_26 rfl rfl ?_
    refine s_getR 24 dX5_ruleLine_27 rfl fl_5_18 rfl (S_20 hK) (R_20_1 hK) ?_
    refine s_aload_n 0 dX5_ruleLine_30 rfl rfl ?_
    refine s_getR r dX5_ruleLine_31 rfl fl_5_32 rfl (S_20 hK) hr.1 ?_
    refine s_getI dX5_ruleLine_34 rfl fl_5_130 (tS_0 hK hr.2) ?_
    refine s_callV2_i2 dX5_ruleLine_37 rfl lkV_RX5_133 (S_20 hK) (Nat.le_of_ble_eq_true rfl) (Nat.le_of_ble_eq_true rfl) (Nat.le_of_ble_eq_true rfl) (ct_x5_newName hK hx (S_24 hK)) (fun r3 I4 L5 => ?_)
    refine s_if_eq (tgt := 59) dX5_ruleLine_40 rfl rfl (fun _ => ?_) (fun _ => ?_)
    · skip
      refine s_iconst (v := 0) dX5_ruleLine_59 rfl cI_0 ?_
      exact s_zret dX5_ruleLine_60 rfl (Or.inl rfl) (fun f h => h)
    · skip
      refine s_aload_n 0 dX5_ruleLine_43 rfl rfl ?_
      refine s_iconst (v := 5) dX5_ruleLine_44 rfl cI_5 ?_
      refine s_aload_n 0 dX5_ruleLine_45 rfl rfl ?_
      refine s_getR r dX5_ruleLine_46 rfl fl_5_32 rfl (S_20 hK) hr.1 ?_
      refine s_getI dX5_ruleLine_49 rfl fl_5_130 (tS_0 hK hr.2) ?_
      refine s_iadd dX5_ruleLine_52 rfl ?_
      refine s_callV1_i2 dX5_ruleLine_53 rfl lkV_RX5_127 (S_20 hK) (Nat.le_of_ble_eq_true rfl) (Nat.le_of_ble_eq_true rfl) (Nat.le_of_ble_eq_true rfl) (ct_x5_formula hK hr hx) (fun r6 I7 L8 => ?_)
      refine s_if_ne (tgt := 61) dX5_ruleLine_56 rfl rfl (fun _ => ?_) (fun _ => ?_)
      · skip
        refine s_aload_n 0 dX5_ruleLine_61 rfl rfl ?_
        refine s_getR r dX5_ruleLine_62 rfl fl_5_32 rfl (S_20 hK) hr.1 ?_
        refine s_dup dX5_ruleLine_65 rfl rfl ?_
        refine s_getI dX5_ruleLine_66 rfl fl_5_130 (tS_0 hK hr.2) ?_
        refine s_iconst (v := 1) dX5_ruleLine_69 rfl cI_1 ?_
        refine s_iadd dX5_ruleLine_70 rfl ?_
        refine s_putIL dX5_ruleLine_71 rfl fl_5_130 (tS_0 hK hr.2) (fun I9 => ?_)
        refine s_iconst (v := 1) dX5_ruleLine_74 rfl cI_1 ?_
        exact s_zret dX5_ruleLine_75 rfl (Or.inr rfl) (fun f h => h)
      · skip
        refine s_iconst (v := 0) dX5_ruleLine_59 rfl cI_0 ?_
        exact s_zret dX5_ruleLine_60 rfl (Or.inl rfl) (fun f h => h)
  · skip
    refine s_aload_n 0 dX5_ruleLine_12 rfl rfl ?_
    refine s_iconst (v := 2) dX5_ruleLine_13 rfl cI_2 ?_
    refine s_callV1_i1 dX5_ruleLine_14 rfl lkV_RX5_66 (S_20 hK) (Nat.le_of_ble_eq_true rfl) (Nat.le_of_ble_eq_true rfl) (Nat.le_of_ble_eq_true rfl) (ct_x5_fail hK) (fun r10 I11 => ?_)
    refine sm_ck (fun g12 => ?_)
    exact s_zret dX5_ruleLine_17 rfl g12 (fun f h => h)
noncomputable def x5_isFreeCell_L2s (r : Nat) (c1 : Int32) (rec : Int32 → MI → Option ((MI) ⊕ (Int32 × MI))) (w2 : Int32) (I : MI) : Option ((MI) ⊕ (Int32 × MI)) :=
if w2 < (I r 4) then (
if (I 21 4) = 27 then (
ck (vp_in w2 10) <|
if (I (r + 1) (ix w2)) = c1 then (
ck (vp_in w2 10) <|
if (I (r + 2) (ix w2)) = (I 21 6) then (
b2 (x5_fail (3 : Int32) I) fun r6 I7 =>
ck (r6 = 0 ∨ r6 = 1) (some (.inr (r6, I7)))) else
lt (w2 + 1) fun v5 =>
rec v5 I) else
lt (w2 + 1) fun v3 =>
rec v3 I) else
some (.inl I)) else
some (.inl I)
noncomputable def x5_isFreeCell_L2 (r : Nat) (c1 : Int32) : Nat → Int32 → MI → Option ((MI) ⊕ (Int32 × MI))
  | 0 => fun _ _ => none
  | n + 1 => x5_isFreeCell_L2s r c1 (x5_isFreeCell_L2 r c1 n)
noncomputable def x5_isFreeCell (r : Nat) (p1 : Int32) (I : MI) : Option (Int32 × MI) :=
lt (0 : Int32) fun v1 =>
bE (x5_isFreeCell_L2 r p1 FU v1 I) fun e9 =>
some ((1 : Int32), e9)
theorem x5_isFreeCell_L2_ok {X : WX} {n0 s0 : Nat} {r : Nat} {c1 : Int32} {L : ML} {R : MR} {S : MS} (hK : okr R S) (hr : R 20 4 = some r ∧ isT r) : ∀ (n : Nat) (w2 : Int32) (I : MI), Sim X yX5_isFreeCell cX5_isFreeCell 3 (some .boolean) 1 21 n0 s0 2 [(0, .ref (X.1 + 20)), (1, .int c1), (2, .int w2)] [] (I, L, R, S) (x5_isFreeCell_L2 r c1 n w2 I) (SE (fun b f => Ex X yX5_isFreeCell cX5_isFreeCell 3 (some .boolean) 1 21 n0 s0 69 [] [] (b, L, R, S) f) (fun a f => f = (fun r => (some (.int r.1), (r.2, L, R, S))) a)) := by
  intro n
  induction n with
  | zero =>
    intro w2 I
    exact sm_none
  | succ n ih =>
    intro w2 I
    change Sim _ _ _ _ _ _ _ _ _ _ _ _ _ (x5_isFreeCell_L2s r c1 (x5_isFreeCell_L2 r c1 n) w2 I) _
    unfold x5_isFreeCell_L2s
    refine s_iload_n 2 dX5_isFreeCell_2 rfl rfl ?_
    refine s_aload_n 0 dX5_isFreeCell_3 rfl rfl ?_
    refine s_getR r dX5_isFreeCell_4 rfl fl_5_32 rfl (S_20 hK) hr.1 ?_
    refine s_getI dX5_isFreeCell_7 rfl fl_5_143 (tS_0 hK hr.2) ?_
    refine s_icmp_ge (tgt := 69) dX5_isFreeCell_10 rfl rfl (fun _ => ?_) (fun _ => ?_)
    · skip
      refine s_pick [] rfl ?_
      exact sm_exit (fun f h => h)
    · skip
      refine s_aload_n 0 dX5_isFreeCell_13 rfl rfl ?_
      refine s_getR 21 dX5_isFreeCell_14 rfl fl_5_12 rfl (S_20 hK) (R_20_0 hK) ?_
      refine s_getI dX5_isFreeCell_17 rfl fl_5_55 (S_21 hK) ?_
      refine s_bipush (v := 27) dX5_isFreeCell_20 rfl cB_27 ?_
      refine s_icmp_ne (tgt := 69) dX5_isFreeCell_22 rfl rfl (fun _ => ?_) (fun _ => ?_)
      · skip
        refine s_pick [] rfl ?_
        exact sm_exit (fun f h => h)
      · skip
        refine s_aload_n 0 dX5_isFreeCell_25 rfl rfl ?_
        refine s_getR r dX5_isFreeCell_26 rfl fl_5_32 rfl (S_20 hK) hr.1 ?_
        refine s_getR (r + 1) dX5_isFreeCell_29 rfl fl_5_149 rfl (tS_0 hK hr.2) (tR_0_5 hK hr.2) ?_
        refine s_iload_n 2 dX5_isFreeCell_32 rfl rfl ?_
        refine sm_ck (fun g2 => ?_)
        refine s_iald dX5_isFreeCell_33 rfl (tS_1 hK hr.2) g2 ?_
        refine s_iload_n 1 dX5_isFreeCell_34 rfl rfl ?_
        refine s_icmp_ne (tgt := 63) dX5_isFreeCell_35 rfl rfl (fun _ => ?_) (fun _ => ?_)
        · skip
          refine s_iincL 2 (c := 1) (fun v3 => [(2, .int v3), (0, .ref (X.1 + 20)), (1, .int c1)]) dX5_isFreeCell_63 rfl rfl cI_1 (by decide) (fun _ => rfl) (fun v3 => ?_)
          refine s_goto (tgt := 2) dX5_isFreeCell_66 rfl ?_
          refine s_pick [1, 2, 0] rfl ?_
          exact ih v3 I
        · skip
          refine s_aload_n 0 dX5_isFreeCell_38 rfl rfl ?_
          refine s_getR r dX5_isFreeCell_39 rfl fl_5_32 rfl (S_20 hK) hr.1 ?_
          refine s_getR (r + 2) dX5_isFreeCell_42 rfl fl_5_153 rfl (tS_0 hK hr.2) (tR_0_6 hK hr.2) ?_
          refine s_iload_n 2 dX5_isFreeCell_45 rfl rfl ?_
          refine sm_ck (fun g4 => ?_)
          refine s_iald dX5_isFreeCell_46 rfl (tS_2 hK hr.2) g4 ?_
          refine s_aload_n 0 dX5_isFreeCell_47 rfl rfl ?_
          refine s_getR 21 dX5_isFreeCell_48 rfl fl_5_12 rfl (S_20 hK) (R_20_0 hK) ?_
          refine s_getI dX5_isFreeCell_51 rfl fl_5_97 (S_21 hK) ?_
          refine s_icmp_ne (tgt := 63) dX5_isFreeCell_54 rfl rfl (fun _ => ?_) (fun _ => ?_)
          · skip
            refine s_iincL 2 (c := 1) (fun v5 => [(2, .int v5), (0, .ref (X.1 + 20)), (1, .int c1)]) dX5_isFreeCell_63 rfl rfl cI_1 (by decide) (fun _ => rfl) (fun v5 => ?_)
            refine s_goto (tgt := 2) dX5_isFreeCell_66 rfl ?_
            refine s_pick [1, 2, 0] rfl ?_
            exact ih v5 I
          · skip
            refine s_aload_n 0 dX5_isFreeCell_57 rfl rfl ?_
            refine s_iconst (v := 3) dX5_isFreeCell_58 rfl cI_3 ?_
            refine s_callV1_i1 dX5_isFreeCell_59 rfl lkV_RX5_66 (S_20 hK) (Nat.le_of_ble_eq_true rfl) (Nat.le_of_ble_eq_true rfl) (Nat.le_of_ble_eq_true rfl) (ct_x5_fail hK) (fun r6 I7 => ?_)
            refine sm_ck (fun g8 => ?_)
            exact s_zret dX5_isFreeCell_62 rfl g8 (fun f h => h)
theorem ct_x5_isFreeCell {X : WX} {r : Nat} {p1 : Int32} {I : MI} {L : ML} {R : MR} {S : MS} (hK : okr R S) (hr : R 20 4 = some r ∧ isT r) : Ct X yX5_isFreeCell cX5_isFreeCell 3 (some .boolean) 1 21 [.ref (X.1 + 20), .int p1] (I, L, R, S) (x5_isFreeCell r p1 I) (fun r => (some (.int r.1), (r.2, L, R, S))) := by
  refine Ct.of (by decide) (Nat.le_of_ble_eq_true rfl) [(0, .ref (X.1 + 20)), (1, .int p1)] rfl ?_
  unfold x5_isFreeCell
  refine s_iconst (v := 0) dX5_isFreeCell_0 rfl cI_0 ?_
  refine s_istore_nL (fun v1 => [(2, .int v1), (0, .ref (X.1 + 20)), (1, .int p1)]) dX5_isFreeCell_1 rfl (by decide) (fun _ => rfl) (fun v1 => ?_)
  refine s_pick [1, 2, 0] rfl ?_
  refine sm_regE (x5_isFreeCell_L2_ok hK hr FU v1 I) (fun e9 => ?_)
  refine s_iconst (v := 1) dX5_isFreeCell_69 rfl cI_1 ?_
  exact s_zret dX5_isFreeCell_70 rfl (Or.inr rfl) (fun f h => h)
noncomputable def x5_optional (p1 : Int32) (I : MI) (L : ML) : Option (Int32 × MI × ML) :=
if (I 21 4) = p1 then (
b2 (x3_next I L) fun I1 L2 =>
some ((1 : Int32), I1, L2)) else
some ((0 : Int32), I, L)
theorem ct_x5_optional {X : WX} {p1 : Int32} {I : MI} {L : ML} {R : MR} {S : MS} (hK : okr R S) (hx : R 21 1 = some 1) : Ct X yX5_optional cX5_optional 2 (some .boolean) 2 41 [.ref (X.1 + 20), .int p1] (I, L, R, S) (x5_optional p1 I L) (fun r => (some (.int r.1), (r.2.1, r.2.2, R, S))) := by
  refine Ct.of (by decide) (Nat.le_of_ble_eq_true rfl) [(0, .ref (X.1 + 20)), (1, .int p1)] rfl ?_
  unfold x5_optional
  refine s_aload_n 0 dX5_optional_0 rfl rfl ?_
  refine s_getR 21 dX5_optional_1 rfl fl_5_12 rfl (S_20 hK) (R_20_0 hK) ?_
  refine s_getI dX5_optional_4 rfl fl_5_55 (S_21 hK) ?_
  refine s_iload_n 1 dX5_optional_7 rfl rfl ?_
  refine s_icmp_eq (tgt := 13) dX5_optional_8 rfl rfl (fun _ => ?_) (fun _ => ?_)
  · skip
    refine s_aload_n 0 dX5_optional_13 rfl rfl ?_
    refine s_getR 21 dX5_optional_14 rfl fl_5_12 rfl (S_20 hK) (R_20_0 hK) ?_
    refine s_callV0_v2 dX5_optional_17 rfl lkV_RX5_94 (S_21 hK) (Nat.le_of_ble_eq_true rfl) (Nat.le_of_ble_eq_true rfl) (Nat.le_of_ble_eq_true rfl) (ct_x3_next hK hx) (fun I1 L2 => ?_)
    refine s_iconst (v := 1) dX5_optional_20 rfl cI_1 ?_
    exact s_zret dX5_optional_21 rfl (Or.inr rfl) (fun f h => h)
  · skip
    refine s_iconst (v := 0) dX5_optional_11 rfl cI_0 ?_
    exact s_zret dX5_optional_12 rfl (Or.inl rfl) (fun f h => h)
noncomputable def x5_appleLine (r : Nat) (I : MI) (L : ML) : Option (Int32 × MI × ML) :=
lt (I r 4) fun v1 =>
if v1 < 10 then (
b2 (x3_next I L) fun I2 L3 =>
b3 (x5_newName 25 10 v1 I2 L3) fun r4 I5 L6 =>
if r4 = 0 then (
some ((0 : Int32), I5, L6)) else
b3 (x5_numberBehind (10 : Int32) (0 : Int32) ((I5 r 0) - 1) I5 L6) fun r7 I8 L9 =>
lt r7 fun v10 =>
if v10 = (-1) then (
some ((0 : Int32), I8, L9)) else
b2 (x5_isFreeCell r v10 I8) fun r11 I12 =>
if r11 = 0 then (
some ((0 : Int32), I12, L9)) else
b3 (x5_number (0 : Int32) ((I12 r 1) - 1) I12 L9) fun r13 I14 L15 =>
lt r13 fun v16 =>
b1 (
if v16 = (-1) then (
some ((-1 : Int32), I14, L15)) else
b3 (x5_numberBehind (11 : Int32) (1 : Int32) (99 : Int32) I14 L15) fun r18 I19 L20 =>
some (r18, I19, L20)) fun e17 =>
lt e17.1 fun v21 =>
b1 (
if v21 = (-1) then (
some ((-1 : Int32), e17.2.1, e17.2.2)) else
b3 (x5_numberBehind (12 : Int32) (0 : Int32) (9 : Int32) e17.2.1 e17.2.2) fun r23 I24 L25 =>
some (r23, I24, L25)) fun e22 =>
lt e22.1 fun v26 =>
if v26 = (-1) then (
some ((0 : Int32), e22.2.1, e22.2.2)) else
ck (vp_in v1 10) <|
lt (wI e22.2.1 (r + 1) (ix v1) v10) fun I27 =>
ck (vp_in v1 10) <|
lt (wI I27 (r + 2) (ix v1) v16) fun I29 =>
ck (vp_in v1 10) <|
lt (wI I29 (r + 3) (ix v1) v21) fun I31 =>
ck (vp_in v1 10) <|
lt (wI I31 (r + 4) (ix v1) v26) fun I33 =>
b3 (x5_optional (4 : Int32) I33 e22.2.2) fun r35 I36 L37 =>
b1 (
if r35 = 0 then (
some (0 : Int32)) else
some (1 : Int32)) fun e38 =>
ck (vp_in v1 10) <|
lt (wI I36 (r + 5) (ix v1) e38) fun I39 =>
b1 (
if (I39 21 4) = 13 then (
b3 (x5_numberBehind (13 : Int32) (0 : Int32) (99 : Int32) I39 L37) fun r42 I43 L44 =>
some (r42, I43, L44)) else
some ((1 : Int32), I39, L37)) fun e41 =>
ck (vp_in v1 10) <|
lt (wI e41.2.1 (r + 6) (ix v1) e41.1) fun I45 =>
lt (wI I45 r 4 ((I45 r 4) + 1)) fun I47 =>
ck (vp_in v1 10) <|
if (I47 (r + 6) (ix v1)) = (-1) then (
some ((0 : Int32), I47, e41.2.2)) else
some ((1 : Int32), I47, e41.2.2)) else
b2 (x5_fail (2 : Int32) I) fun r49 I50 =>
ck (r49 = 0 ∨ r49 = 1) (some (r49, I50, L))
theorem ct_x5_appleLine {X : WX} {r : Nat} {I : MI} {L : ML} {R : MR} {S : MS} (hK : okr R S) (hr : R 20 4 = some r ∧ isT r) (hx : R 21 1 = some 1) : Ct X yX5_appleLine cX5_appleLine 6 (some .boolean) 4 87 [.ref (X.1 + 20)] (I, L, R, S) (x5_appleLine r I L) (fun r => (some (.int r.1), (r.2.1, r.2.2, R, S))) := by
  refine Ct.of (by decide) (Nat.le_of_ble_eq_true rfl) [(0, .ref (X.1 + 20))] rfl ?_
  unfold x5_appleLine
  refine s_aload_n 0 dX5_appleLine_0 rfl rfl ?_
  refine s_getR r dX5_appleLine_1 rfl fl_5_32 rfl (S_20 hK) hr.1 ?_
  refine s_getI dX5_appleLine_4 rfl fl_5_143 (tS_0 hK hr.2) ?_
  refine s_istore_nL (fun v1 => [(1, .int v1), (0, .ref (X.1 + 20))]) dX5_appleLine_7 rfl (by decide) (fun _ => rfl) (fun v1 => ?_)
  refine s_iload_n 0 dX5_appleLine_8 rfl rfl ?_
  refine s_bipush (v := 10) dX5_appleLine_9 rfl cB_10 ?_
  refine s_icmp_lt (tgt := 20) dX5_appleLine_11 rfl rfl (fun _ => ?_) (fun _ => ?_)
  · skip
    refine s_aload_n 1 dX5_appleLine_20 rfl rfl ?_
    refine s_getR 21 dX5_appleLine_21 rfl fl_5_12 rfl (S_20 hK) (R_20_0 hK) ?_
    refine s_callV0_v2 dX5_appleLine_24 rfl lkV_RX5_94 (S_21 hK) (Nat.le_of_ble_eq_true rfl) (Nat.le_of_ble_eq_true rfl) (Nat.le_of_ble_eq_true rfl) (ct_x3_next hK hx) (fun I2 L3 => ?_)
    refine s_aload_n 1 dX5_appleLine_27 rfl rfl ?_
    refine s_aload_n 1 dX5_appleLine_28 rfl rfl ?_
    refine s_getR 25 dX5_appleLine_29 rfl fl_5_22 rfl (S_20 hK) (R_20_2 hK) ?_
    refine s_iload_n 0 dX5_appleLine_32 rfl rfl ?_
    refine s_callV2_i2 dX5_appleLine_33 rfl lkV_RX5_133 (S_20 hK) (Nat.le_of_ble_eq_true rfl) (Nat.le_of_ble_eq_true rfl) (Nat.le_of_ble_eq_true rfl) (ct_x5_newName hK hx (S_25 hK)) (fun r4 I5 L6 => ?_)
    refine s_if_ne (tgt := 41) dX5_appleLine_36 rfl rfl (fun _ => ?_) (fun _ => ?_)
    · skip
      refine s_aload_n 1 dX5_appleLine_41 rfl rfl ?_
      refine s_bipush (v := 10) dX5_appleLine_42 rfl cB_10 ?_
      refine s_iconst (v := 0) dX5_appleLine_44 rfl cI_0 ?_
      refine s_aload_n 1 dX5_appleLine_45 rfl rfl ?_
      refine s_getR r dX5_appleLine_46 rfl fl_5_32 rfl (S_20 hK) hr.1 ?_
      refine s_getI dX5_appleLine_49 rfl fl_5_63 (tS_0 hK hr.2) ?_
      refine s_iconst (v := 1) dX5_appleLine_52 rfl cI_1 ?_
      refine s_isub dX5_appleLine_53 rfl ?_
      refine s_callV3_i2 dX5_appleLine_54 rfl lkV_RX5_111 (S_20 hK) (Nat.le_of_ble_eq_true rfl) (Nat.le_of_ble_eq_true rfl) (Nat.le_of_ble_eq_true rfl) (ct_x5_numberBehind hK hx) (fun r7 I8 L9 => ?_)
      refine s_istore_nL (fun v10 => [(2, .int v10), (1, .int v1), (0, .ref (X.1 + 20))]) dX5_appleLine_57 rfl (by decide) (fun _ => rfl) (fun v10 => ?_)
      refine s_iload_n 0 dX5_appleLine_58 rfl rfl ?_
      refine s_iconst (v := (-1)) dX5_appleLine_59 rfl cI_m1 ?_
      refine s_icmp_eq (tgt := 71) dX5_appleLine_60 rfl rfl (fun _ => ?_) (fun _ => ?_)
      · skip
        refine s_iconst (v := 0) dX5_appleLine_71 rfl cI_0 ?_
        exact s_zret dX5_appleLine_72 rfl (Or.inl rfl) (fun f h => h)
      · skip
        refine s_aload_n 2 dX5_appleLine_63 rfl rfl ?_
        refine s_iload_n 0 dX5_appleLine_64 rfl rfl ?_
        refine s_callV1_i1 dX5_appleLine_65 rfl lkV_RX5_146 (S_20 hK) (Nat.le_of_ble_eq_true rfl) (Nat.le_of_ble_eq_true rfl) (Nat.le_of_ble_eq_true rfl) (ct_x5_isFreeCell hK hr) (fun r11 I12 => ?_)
        refine s_if_ne (tgt := 73) dX5_appleLine_68 rfl rfl (fun _ => ?_) (fun _ => ?_)
        · skip
          refine s_aload_n 2 dX5_appleLine_73 rfl rfl ?_
          refine s_iconst (v := 0) dX5_appleLine_74 rfl cI_0 ?_
          refine s_aload_n 2 dX5_appleLine_75 rfl rfl ?_
          refine s_getR r dX5_appleLine_76 rfl fl_5_32 rfl (S_20 hK) hr.1 ?_
          refine s_getI dX5_appleLine_79 rfl fl_5_115 (tS_0 hK hr.2) ?_
          refine s_iconst (v := 1) dX5_appleLine_82 rfl cI_1 ?_
          refine s_isub dX5_appleLine_83 rfl ?_
          refine s_callV2_i2 dX5_appleLine_84 rfl lkV_RX5_100 (S_20 hK) (Nat.le_of_ble_eq_true rfl) (Nat.le_of_ble_eq_true rfl) (Nat.le_of_ble_eq_true rfl) (ct_x5_number hK hx) (fun r13 I14 L15 => ?_)
          refine s_istore_nL (fun v16 => [(3, .int v16), (2, .int v10), (1, .int v1), (0, .ref (X.1 + 20))]) dX5_appleLine_87 rfl (by decide) (fun _ => rfl) (fun v16 => ?_)
          refine s_iload_n 0 dX5_appleLine_88 rfl rfl ?_
          refine s_iconst (v := (-1)) dX5_appleLine_89 rfl cI_m1 ?_
          refine sm_reg (pcx := 106) (lsx := fun e17 => [(0, .ref (X.1 + 20)), (1, .int v1), (2, .int v10), (3, .int v16)]) (stx := fun e17 => [.int e17.1]) (ux := fun e17 => (e17.2.1, e17.2.2, R, S)) ?_ (fun e17 => ?_)
          · skip
            refine s_icmp_ne (tgt := 97) dX5_appleLine_90 rfl rfl (fun _ => ?_) (fun _ => ?_)
            · skip
              refine s_aload_n 3 dX5_appleLine_97 rfl rfl ?_
              refine s_bipush (v := 11) dX5_appleLine_98 rfl cB_11 ?_
              refine s_iconst (v := 1) dX5_appleLine_100 rfl cI_1 ?_
              refine s_bipush (v := 99) dX5_appleLine_101 rfl cB_99 ?_
              refine s_callV3_i2 dX5_appleLine_103 rfl lkV_RX5_111 (S_20 hK) (Nat.le_of_ble_eq_true rfl) (Nat.le_of_ble_eq_true rfl) (Nat.le_of_ble_eq_true rfl) (ct_x5_numberBehind hK hx) (fun r18 I19 L20 => ?_)
              refine s_pick [3, 2, 1, 0] rfl ?_
              exact sm_exit (fun f h => h)
            · skip
              refine s_iconst (v := (-1)) dX5_appleLine_93 rfl cI_m1 ?_
              refine s_goto (tgt := 106) dX5_appleLine_94 rfl ?_
              refine s_pick [3, 2, 1, 0] rfl ?_
              exact sm_exit (fun f h => h)
          · skip
            refine s_istoreL (fun v21 => [(4, .int v21), (0, .ref (X.1 + 20)), (1, .int v1), (2, .int v10), (3, .int v16)]) dX5_appleLine_106 rfl (by decide) (fun _ => rfl) (fun v21 => ?_)
            refine s_iload 0 dX5_appleLine_108 rfl rfl ?_
            refine s_iconst (v := (-1)) dX5_appleLine_110 rfl cI_m1 ?_
            refine sm_reg (pcx := 127) (lsx := fun e22 => [(0, .ref (X.1 + 20)), (1, .int v1), (2, .int v10), (3, .int v16), (4, .int v21)]) (stx := fun e22 => [.int e22.1]) (ux := fun e22 => (e22.2.1, e22.2.2, R, S)) ?_ (fun e22 => ?_)
            · skip
              refine s_icmp_ne (tgt := 118) dX5_appleLine_111 rfl rfl (fun _ => ?_) (fun _ => ?_)
              · skip
                refine s_aload_n 1 dX5_appleLine_118 rfl rfl ?_
                refine s_bipush (v := 12) dX5_appleLine_119 rfl cB_12 ?_
                refine s_iconst (v := 0) dX5_appleLine_121 rfl cI_0 ?_
                refine s_bipush (v := 9) dX5_appleLine_122 rfl cB_9 ?_
                refine s_callV3_i2 dX5_appleLine_124 rfl lkV_RX5_111 (S_20 hK) (Nat.le_of_ble_eq_true rfl) (Nat.le_of_ble_eq_true rfl) (Nat.le_of_ble_eq_true rfl) (ct_x5_numberBehind hK hx) (fun r23 I24 L25 => ?_)
                refine s_pick [1, 2, 3, 4, 0] rfl ?_
                exact sm_exit (fun f h => h)
              · skip
                refine s_iconst (v := (-1)) dX5_appleLine_114 rfl cI_m1 ?_
                refine s_goto (tgt := 127) dX5_appleLine_115 rfl ?_
                refine s_pick [1, 2, 3, 4, 0] rfl ?_
                exact sm_exit (fun f h => h)
            · skip
              refine s_istoreL (fun v26 => [(5, .int v26), (0, .ref (X.1 + 20)), (1, .int v1), (2, .int v10), (3, .int v16), (4, .int v21)]) dX5_appleLine_127 rfl (by decide) (fun _ => rfl) (fun v26 => ?_)
              refine s_iload 0 dX5_appleLine_129 rfl rfl ?_
              refine s_iconst (v := (-1)) dX5_appleLine_131 rfl cI_m1 ?_
              refine s_icmp_ne (tgt := 137) dX5_appleLine_132 rfl rfl (fun _ => ?_) (fun _ => ?_)
              · skip
                refine s_aload_n 1 dX5_appleLine_137 rfl rfl ?_
                refine s_getR r dX5_appleLine_138 rfl fl_5_32 rfl (S_20 hK) hr.1 ?_
                refine s_getR (r + 1) dX5_appleLine_141 rfl fl_5_149 rfl (tS_0 hK hr.2) (tR_0_5 hK hr.2) ?_
                refine s_iload_n 2 dX5_appleLine_144 rfl rfl ?_
                refine s_iload_n 3 dX5_appleLine_145 rfl rfl ?_
                refine sm_ck (fun g28 => ?_)
                refine s_iastL dX5_appleLine_146 rfl (tS_1 hK hr.2) g28 (fun I27 => ?_)
                refine s_aload_n 1 dX5_appleLine_147 rfl rfl ?_
                refine s_getR r dX5_appleLine_148 rfl fl_5_32 rfl (S_20 hK) hr.1 ?_
                refine s_getR (r + 2) dX5_appleLine_151 rfl fl_5_153 rfl (tS_0 hK hr.2) (tR_0_6 hK hr.2) ?_
                refine s_iload_n 2 dX5_appleLine_154 rfl rfl ?_
                refine s_iload_n 4 dX5_appleLine_155 rfl rfl ?_
                refine sm_ck (fun g30 => ?_)
                refine s_iastL dX5_appleLine_156 rfl (tS_2 hK hr.2) g30 (fun I29 => ?_)
                refine s_aload_n 1 dX5_appleLine_157 rfl rfl ?_
                refine s_getR r dX5_appleLine_158 rfl fl_5_32 rfl (S_20 hK) hr.1 ?_
                refine s_getR (r + 3) dX5_appleLine_161 rfl fl_5_156 rfl (tS_0 hK hr.2) (tR_0_7 hK hr.2) ?_
                refine s_iload_n 2 dX5_appleLine_164 rfl rfl ?_
                refine s_iload 5 dX5_appleLine_165 rfl rfl ?_
                refine sm_ck (fun g32 => ?_)
                refine s_iastL dX5_appleLine_167 rfl (tS_3 hK hr.2) g32 (fun I31 => ?_)
                refine s_aload_n 1 dX5_appleLine_168 rfl rfl ?_
                refine s_getR r dX5_appleLine_169 rfl fl_5_32 rfl (S_20 hK) hr.1 ?_
                refine s_getR (r + 4) dX5_appleLine_172 rfl fl_5_159 rfl (tS_0 hK hr.2) (tR_0_8 hK hr.2) ?_
                refine s_iload_n 2 dX5_appleLine_175 rfl rfl ?_
                refine s_iload 0 dX5_appleLine_176 rfl rfl ?_
                refine sm_ck (fun g34 => ?_)
                refine s_iastL dX5_appleLine_178 rfl (tS_4 hK hr.2) g34 (fun I33 => ?_)
                refine s_aload_n 1 dX5_appleLine_179 rfl rfl ?_
                refine s_getR r dX5_appleLine_180 rfl fl_5_32 rfl (S_20 hK) hr.1 ?_
                refine s_getR (r + 5) dX5_appleLine_183 rfl fl_5_162 rfl (tS_0 hK hr.2) (tR_0_9 hK hr.2) ?_
                refine s_iload_n 2 dX5_appleLine_186 rfl rfl ?_
                refine s_aload_n 1 dX5_appleLine_187 rfl rfl ?_
                refine s_iconst (v := 4) dX5_appleLine_188 rfl cI_4 ?_
                refine s_callV1_i2 dX5_appleLine_189 rfl lkV_RX5_165 (S_20 hK) (Nat.le_of_ble_eq_true rfl) (Nat.le_of_ble_eq_true rfl) (Nat.le_of_ble_eq_true rfl) (ct_x5_optional hK hx) (fun r35 I36 L37 => ?_)
                refine sm_reg (pcx := 200) (lsx := fun e38 => [(0, .ref (X.1 + 20)), (1, .int v1)]) (stx := fun e38 => [.int e38, .int v1, .ref (X.1 + (r + 5))]) (ux := fun e38 => (I36, L37, R, S)) ?_ (fun e38 => ?_)
                · skip
                  refine s_if_eq (tgt := 199) dX5_appleLine_192 rfl rfl (fun _ => ?_) (fun _ => ?_)
                  · skip
                    refine s_iconst (v := 0) dX5_appleLine_199 rfl cI_0 ?_
                    refine s_pick [1, 2] rfl ?_
                    exact sm_exit (fun f h => h)
                  · skip
                    refine s_iconst (v := 1) dX5_appleLine_195 rfl cI_1 ?_
                    refine s_goto (tgt := 200) dX5_appleLine_196 rfl ?_
                    refine s_pick [1, 2] rfl ?_
                    exact sm_exit (fun f h => h)
                · skip
                  refine sm_ck (fun g40 => ?_)
                  refine s_iastL dX5_appleLine_200 rfl (tS_5 hK hr.2) g40 (fun I39 => ?_)
                  refine s_aload_n 0 dX5_appleLine_201 rfl rfl ?_
                  refine s_getR r dX5_appleLine_202 rfl fl_5_32 rfl (S_20 hK) hr.1 ?_
                  refine s_getR (r + 6) dX5_appleLine_205 rfl fl_5_168 rfl (tS_0 hK hr.2) (tR_0_10 hK hr.2) ?_
                  refine s_iload_n 1 dX5_appleLine_208 rfl rfl ?_
                  refine s_aload_n 0 dX5_appleLine_209 rfl rfl ?_
                  refine s_getR 21 dX5_appleLine_210 rfl fl_5_12 rfl (S_20 hK) (R_20_0 hK) ?_
                  refine s_getI dX5_appleLine_213 rfl fl_5_55 (S_21 hK) ?_
                  refine s_bipush (v := 13) dX5_appleLine_216 rfl cB_13 ?_
                  refine sm_reg (pcx := 234) (lsx := fun e41 => [(0, .ref (X.1 + 20)), (1, .int v1)]) (stx := fun e41 => [.int e41.1, .int v1, .ref (X.1 + (r + 6))]) (ux := fun e41 => (e41.2.1, e41.2.2, R, S)) ?_ (fun e41 => ?_)
                  · skip
                    refine s_icmp_ne (tgt := 233) dX5_appleLine_218 rfl rfl (fun _ => ?_) (fun _ => ?_)
                    · skip
                      refine s_iconst (v := 1) dX5_appleLine_233 rfl cI_1 ?_
                      exact sm_exit (fun f h => h)
                    · skip
                      refine s_aload_n 0 dX5_appleLine_221 rfl rfl ?_
                      refine s_bipush (v := 13) dX5_appleLine_222 rfl cB_13 ?_
                      refine s_iconst (v := 0) dX5_appleLine_224 rfl cI_0 ?_
                      refine s_bipush (v := 99) dX5_appleLine_225 rfl cB_99 ?_
                      refine s_callV3_i2 dX5_appleLine_227 rfl lkV_RX5_111 (S_20 hK) (Nat.le_of_ble_eq_true rfl) (Nat.le_of_ble_eq_true rfl) (Nat.le_of_ble_eq_true rfl) (ct_x5_numberBehind hK hx) (fun r42 I43 L44 => ?_)
                      refine s_goto (tgt := 234) dX5_appleLine_230 rfl ?_
                      exact sm_exit (fun f h => h)
                  · skip
                    refine sm_ck (fun g46 => ?_)
                    refine s_iastL dX5_appleLine_234 rfl (tS_6 hK hr.2) g46 (fun I45 => ?_)
                    refine s_aload_n 0 dX5_appleLine_235 rfl rfl ?_
                    refine s_getR r dX5_appleLine_236 rfl fl_5_32 rfl (S_20 hK) hr.1 ?_
                    refine s_dup dX5_appleLine_239 rfl rfl ?_
                    refine s_getI dX5_appleLine_240 rfl fl_5_143 (tS_0 hK hr.2) ?_
                    refine s_iconst (v := 1) dX5_appleLine_243 rfl cI_1 ?_
                    refine s_iadd dX5_appleLine_244 rfl ?_
                    refine s_putIL dX5_appleLine_245 rfl fl_5_143 (tS_0 hK hr.2) (fun I47 => ?_)
                    refine s_aload_n 0 dX5_appleLine_248 rfl rfl ?_
                    refine s_getR r dX5_appleLine_249 rfl fl_5_32 rfl (S_20 hK) hr.1 ?_
                    refine s_getR (r + 6) dX5_appleLine_252 rfl fl_5_168 rfl (tS_0 hK hr.2) (tR_0_10 hK hr.2) ?_
                    refine s_iload_n 1 dX5_appleLine_255 rfl rfl ?_
                    refine sm_ck (fun g48 => ?_)
                    refine s_iald dX5_appleLine_256 rfl (tS_6 hK hr.2) g48 ?_
                    refine s_iconst (v := (-1)) dX5_appleLine_257 rfl cI_m1 ?_
                    refine s_icmp_eq (tgt := 265) dX5_appleLine_258 rfl rfl (fun _ => ?_) (fun _ => ?_)
                    · skip
                      refine s_iconst (v := 0) dX5_appleLine_265 rfl cI_0 ?_
                      exact s_zret dX5_appleLine_266 rfl (Or.inl rfl) (fun f h => h)
                    · skip
                      refine s_iconst (v := 1) dX5_appleLine_261 rfl cI_1 ?_
                      refine s_goto (tgt := 266) dX5_appleLine_262 rfl ?_
                      exact s_zret dX5_appleLine_266 rfl (Or.inr rfl) (fun f h => h)
              · skip
                refine s_iconst (v := 0) dX5_appleLine_135 rfl cI_0 ?_
                exact s_zret dX5_appleLine_136 rfl (Or.inl rfl) (fun f h => h)
        · skip
          refine s_iconst (v := 0) dX5_appleLine_71 rfl cI_0 ?_
          exact s_zret dX5_appleLine_72 rfl (Or.inl rfl) (fun f h => h)
    · skip
      refine s_iconst (v := 0) dX5_appleLine_39 rfl cI_0 ?_
      exact s_zret dX5_appleLine_40 rfl (Or.inl rfl) (fun f h => h)
  · skip
    refine s_aload_n 1 dX5_appleLine_14 rfl rfl ?_
    refine s_iconst (v := 2) dX5_appleLine_15 rfl cI_2 ?_
    refine s_callV1_i1 dX5_appleLine_16 rfl lkV_RX5_66 (S_20 hK) (Nat.le_of_ble_eq_true rfl) (Nat.le_of_ble_eq_true rfl) (Nat.le_of_ble_eq_true rfl) (ct_x5_fail hK) (fun r49 I50 => ?_)
    refine sm_ck (fun g51 => ?_)
    exact s_zret dX5_appleLine_19 rfl g51 (fun f h => h)
noncomputable def x5_ruleToldAhead (r : Nat) (p1 : Int32) (I : MI) (L : ML) : Option (Int32 × MI × ML) :=
if (I 21 4) = 26 then (
b1 (x5_indexOfName 24 6 (I r 18) I L) fun r1 =>
lt r1 fun v2 =>
if v2 = (-1) then (
b2 (x5_fail (5 : Int32) I) fun r7 I8 =>
ck (r7 = 0 ∨ r7 = 1) (some (r7, I8, L))) else
ck (vp_in p1 4) <|
lt (wI I (r + 12) (ix p1) v2) fun I3 =>
b2 (x3_next I3 L) fun I5 L6 =>
some ((1 : Int32), I5, L6)) else
b2 (x5_fail (2 : Int32) I) fun r10 I11 =>
ck (r10 = 0 ∨ r10 = 1) (some (r10, I11, L))
theorem ct_x5_ruleToldAhead {X : WX} {r : Nat} {p1 : Int32} {I : MI} {L : ML} {R : MR} {S : MS} (hK : okr R S) (hr : R 20 4 = some r ∧ isT r) (hx : R 21 1 = some 1) : Ct X yX5_ruleToldAhead cX5_ruleToldAhead 3 (some .boolean) 2 41 [.ref (X.1 + 20), .int p1] (I, L, R, S) (x5_ruleToldAhead r p1 I L) (fun r => (some (.int r.1), (r.2.1, r.2.2, R, S))) := by
  refine Ct.of (by decide) (Nat.le_of_ble_eq_true rfl) [(0, .ref (X.1 + 20)), (1, .int p1)] rfl ?_
  unfold x5_ruleToldAhead
  refine s_aload_n 0 dX5_ruleToldAhead_0 rfl rfl ?_
  refine s_getR 21 dX5_ruleToldAhead_1 rfl fl_5_12 rfl (S_20 hK) (R_20_0 hK) ?_
  refine s_getI dX5_ruleToldAhead_4 rfl fl_5_55 (S_21 hK) ?_
  refine s_bipush (v := 26) dX5_ruleToldAhead_7 rfl cB_26 ?_
  refine s_icmp_eq (tgt := 18) dX5_ruleToldAhead_9 rfl rfl (fun _ => ?_) (fun _ => ?_)
  · skip
    refine s_aload_n 0 dX5_ruleToldAhead_18 rfl rfl ?_
    refine s_aload_n 0 dX5_ruleToldAhead_19 rfl rfl ?_
    refine s_getR 24 dX5_ruleToldAhead_20 rfl fl_5_18 rfl (S_20 hK) (R_20_1 hK) ?_
    refine s_aload_n 0 dX5_ruleToldAhead_23 rfl rfl ?_
    refine s_getR r dX5_ruleToldAhead_24 rfl fl_5_32 rfl (S_20 hK) hr.1 ?_
    refine s_getI dX5_ruleToldAhead_27 rfl fl_5_130 (tS_0 hK hr.2) ?_
    refine s_callV2_i0 dX5_ruleToldAhead_30 rfl lkV_RX5_103 (S_20 hK) (Nat.le_of_ble_eq_true rfl) (Nat.le_of_ble_eq_true rfl) (Nat.le_of_ble_eq_true rfl) (ct_x5_indexOfName hK (S_24 hK)) (fun r1 => ?_)
    refine s_istore_nL (fun v2 => [(2, .int v2), (0, .ref (X.1 + 20)), (1, .int p1)]) dX5_ruleToldAhead_33 rfl (by decide) (fun _ => rfl) (fun v2 => ?_)
    refine s_iload_n 0 dX5_ruleToldAhead_34 rfl rfl ?_
    refine s_iconst (v := (-1)) dX5_ruleToldAhead_35 rfl cI_m1 ?_
    refine s_icmp_ne (tgt := 45) dX5_ruleToldAhead_36 rfl rfl (fun _ => ?_) (fun _ => ?_)
    · skip
      refine s_aload_n 1 dX5_ruleToldAhead_45 rfl rfl ?_
      refine s_getR r dX5_ruleToldAhead_46 rfl fl_5_32 rfl (S_20 hK) hr.1 ?_
      refine s_getR (r + 12) dX5_ruleToldAhead_49 rfl fl_5_189 rfl (tS_0 hK hr.2) (tR_0_17 hK hr.2) ?_
      refine s_iload_n 2 dX5_ruleToldAhead_52 rfl rfl ?_
      refine s_iload_n 0 dX5_ruleToldAhead_53 rfl rfl ?_
      refine sm_ck (fun g4 => ?_)
      refine s_iastL dX5_ruleToldAhead_54 rfl (tS_12 hK hr.2) g4 (fun I3 => ?_)
      refine s_aload_n 1 dX5_ruleToldAhead_55 rfl rfl ?_
      refine s_getR 21 dX5_ruleToldAhead_56 rfl fl_5_12 rfl (S_20 hK) (R_20_0 hK) ?_
      refine s_callV0_v2 dX5_ruleToldAhead_59 rfl lkV_RX5_94 (S_21 hK) (Nat.le_of_ble_eq_true rfl) (Nat.le_of_ble_eq_true rfl) (Nat.le_of_ble_eq_true rfl) (ct_x3_next hK hx) (fun I5 L6 => ?_)
      refine s_iconst (v := 1) dX5_ruleToldAhead_62 rfl cI_1 ?_
      exact s_zret dX5_ruleToldAhead_63 rfl (Or.inr rfl) (fun f h => h)
    · skip
      refine s_aload_n 1 dX5_ruleToldAhead_39 rfl rfl ?_
      refine s_iconst (v := 5) dX5_ruleToldAhead_40 rfl cI_5 ?_
      refine s_callV1_i1 dX5_ruleToldAhead_41 rfl lkV_RX5_66 (S_20 hK) (Nat.le_of_ble_eq_true rfl) (Nat.le_of_ble_eq_true rfl) (Nat.le_of_ble_eq_true rfl) (ct_x5_fail hK) (fun r7 I8 => ?_)
      refine sm_ck (fun g9 => ?_)
      exact s_zret dX5_ruleToldAhead_44 rfl g9 (fun f h => h)
  · skip
    refine s_aload_n 0 dX5_ruleToldAhead_12 rfl rfl ?_
    refine s_iconst (v := 2) dX5_ruleToldAhead_13 rfl cI_2 ?_
    refine s_callV1_i1 dX5_ruleToldAhead_14 rfl lkV_RX5_66 (S_20 hK) (Nat.le_of_ble_eq_true rfl) (Nat.le_of_ble_eq_true rfl) (Nat.le_of_ble_eq_true rfl) (ct_x5_fail hK) (fun r10 I11 => ?_)
    refine sm_ck (fun g12 => ?_)
    exact s_zret dX5_ruleToldAhead_17 rfl g12 (fun f h => h)
noncomputable def x5_bobberLine (r : Nat) (I : MI) (L : ML) : Option (Int32 × MI × ML) :=
lt (I r 11) fun v1 =>
if v1 < 4 then (
b2 (x3_next I L) fun I2 L3 =>
b3 (x5_newName 26 4 v1 I2 L3) fun r4 I5 L6 =>
if r4 = 0 then (
some ((0 : Int32), I5, L6)) else
b3 (x5_numberBehind (10 : Int32) (0 : Int32) ((I5 r 0) - 1) I5 L6) fun r7 I8 L9 =>
lt r7 fun v10 =>
b1 (
if v10 = (-1) then (
some ((-1 : Int32), I8, L9)) else
b3 (x5_number (0 : Int32) ((I8 r 1) - 1) I8 L9) fun r12 I13 L14 =>
some (r12, I13, L14)) fun e11 =>
lt e11.1 fun v15 =>
b1 (
if v15 = (-1) then (
some ((-1 : Int32), e11.2.1, e11.2.2)) else
b3 (x5_numberBehind (15 : Int32) (0 : Int32) (5 : Int32) e11.2.1 e11.2.2) fun r17 I18 L19 =>
some (r17, I18, L19)) fun e16 =>
lt e16.1 fun v20 =>
b1 (
if v20 = (-1) then (
some ((-1 : Int32), e16.2.1, e16.2.2)) else
b3 (x5_numberBehind (16 : Int32) (0 : Int32) (20 : Int32) e16.2.1 e16.2.2) fun r22 I23 L24 =>
some (r22, I23, L24)) fun e21 =>
lt e21.1 fun v25 =>
b1 (
if v25 = (-1) then (
some ((-1 : Int32), e21.2.1, e21.2.2)) else
b3 (x5_numberBehind (17 : Int32) (0 : Int32) (9 : Int32) e21.2.1 e21.2.2) fun r27 I28 L29 =>
some (r27, I28, L29)) fun e26 =>
lt e26.1 fun v30 =>
if v30 = (-1) then (
some ((0 : Int32), e26.2.1, e26.2.2)) else
ck (vp_in v1 4) <|
lt (wI e26.2.1 (r + 7) (ix v1) v10) fun I31 =>
ck (vp_in v1 4) <|
lt (wI I31 (r + 8) (ix v1) v15) fun I33 =>
ck (vp_in v1 4) <|
lt (wI I33 (r + 9) (ix v1) v20) fun I35 =>
ck (vp_in v1 4) <|
lt (wI I35 (r + 10) (ix v1) v25) fun I37 =>
ck (vp_in v1 4) <|
lt (wI I37 (r + 11) (ix v1) v30) fun I39 =>
ck (vp_in v1 4) <|
lt (wI I39 (r + 12) (ix v1) (0 : Int32)) fun I41 =>
lt (wI I41 r 11 ((I41 r 11) + 1)) fun I43 =>
b3 (x5_optional (1 : Int32) I43 e26.2.2) fun r44 I45 L46 =>
if r44 = 0 then (
some ((1 : Int32), I45, L46)) else
b3 (x5_ruleToldAhead r v1 I45 L46) fun r47 I48 L49 =>
if r47 = 0 then (
some ((0 : Int32), I48, L49)) else
some ((1 : Int32), I48, L49)) else
b2 (x5_fail (2 : Int32) I) fun r50 I51 =>
ck (r50 = 0 ∨ r50 = 1) (some (r50, I51, L))
theorem ct_x5_bobberLine {X : WX} {r : Nat} {I : MI} {L : ML} {R : MR} {S : MS} (hK : okr R S) (hr : R 20 4 = some r ∧ isT r) (hx : R 21 1 = some 1) : Ct X yX5_bobberLine cX5_bobberLine 7 (some .boolean) 4 87 [.ref (X.1 + 20)] (I, L, R, S) (x5_bobberLine r I L) (fun r => (some (.int r.1), (r.2.1, r.2.2, R, S))) := by
  refine Ct.of (by decide) (Nat.le_of_ble_eq_true rfl) [(0, .ref (X.1 + 20))] rfl ?_
  unfold x5_bobberLine
  refine s_aload_n 0 dX5_bobberLine_0 rfl rfl ?_
  refine s_getR r dX5_bobberLine_1 rfl fl_5_32 rfl (S_20 hK) hr.1 ?_
  refine s_getI dX5_bobberLine_4 rfl fl_5_171 (tS_0 hK hr.2) ?_
  refine s_istore_nL (fun v1 => [(1, .int v1), (0, .ref (X.1 + 20))]) dX5_bobberLine_7 rfl (by decide) (fun _ => rfl) (fun v1 => ?_)
  refine s_iload_n 0 dX5_bobberLine_8 rfl rfl ?_
  refine s_iconst (v := 4) dX5_bobberLine_9 rfl cI_4 ?_
  refine s_icmp_lt (tgt := 19) dX5_bobberLine_10 rfl rfl (fun _ => ?_) (fun _ => ?_)
  · skip
    refine s_aload_n 1 dX5_bobberLine_19 rfl rfl ?_
    refine s_getR 21 dX5_bobberLine_20 rfl fl_5_12 rfl (S_20 hK) (R_20_0 hK) ?_
    refine s_callV0_v2 dX5_bobberLine_23 rfl lkV_RX5_94 (S_21 hK) (Nat.le_of_ble_eq_true rfl) (Nat.le_of_ble_eq_true rfl) (Nat.le_of_ble_eq_true rfl) (ct_x3_next hK hx) (fun I2 L3 => ?_)
    refine s_aload_n 1 dX5_bobberLine_26 rfl rfl ?_
    refine s_aload_n 1 dX5_bobberLine_27 rfl rfl ?_
    refine s_getR 26 dX5_bobberLine_28 rfl fl_5_25 rfl (S_20 hK) (R_20_3 hK) ?_
    refine s_iload_n 0 dX5_bobberLine_31 rfl rfl ?_
    refine s_callV2_i2 dX5_bobberLine_32 rfl lkV_RX5_133 (S_20 hK) (Nat.le_of_ble_eq_true rfl) (Nat.le_of_ble_eq_true rfl) (Nat.le_of_ble_eq_true rfl) (ct_x5_newName hK hx (S_26 hK)) (fun r4 I5 L6 => ?_)
    refine s_if_ne (tgt := 40) dX5_bobberLine_35 rfl rfl (fun _ => ?_) (fun _ => ?_)
    · skip
      refine s_aload_n 1 dX5_bobberLine_40 rfl rfl ?_
      refine s_bipush (v := 10) dX5_bobberLine_41 rfl cB_10 ?_
      refine s_iconst (v := 0) dX5_bobberLine_43 rfl cI_0 ?_
      refine s_aload_n 1 dX5_bobberLine_44 rfl rfl ?_
      refine s_getR r dX5_bobberLine_45 rfl fl_5_32 rfl (S_20 hK) hr.1 ?_
      refine s_getI dX5_bobberLine_48 rfl fl_5_63 (tS_0 hK hr.2) ?_
      refine s_iconst (v := 1) dX5_bobberLine_51 rfl cI_1 ?_
      refine s_isub dX5_bobberLine_52 rfl ?_
      refine s_callV3_i2 dX5_bobberLine_53 rfl lkV_RX5_111 (S_20 hK) (Nat.le_of_ble_eq_true rfl) (Nat.le_of_ble_eq_true rfl) (Nat.le_of_ble_eq_true rfl) (ct_x5_numberBehind hK hx) (fun r7 I8 L9 => ?_)
      refine s_istore_nL (fun v10 => [(2, .int v10), (1, .int v1), (0, .ref (X.1 + 20))]) dX5_bobberLine_56 rfl (by decide) (fun _ => rfl) (fun v10 => ?_)
      refine s_iload_n 0 dX5_bobberLine_57 rfl rfl ?_
      refine s_iconst (v := (-1)) dX5_bobberLine_58 rfl cI_m1 ?_
      refine sm_reg (pcx := 80) (lsx := fun e11 => [(0, .ref (X.1 + 20)), (1, .int v1), (2, .int v10)]) (stx := fun e11 => [.int e11.1]) (ux := fun e11 => (e11.2.1, e11.2.2, R, S)) ?_ (fun e11 => ?_)
      · skip
        refine s_icmp_ne (tgt := 66) dX5_bobberLine_59 rfl rfl (fun _ => ?_) (fun _ => ?_)
        · skip
          refine s_aload_n 2 dX5_bobberLine_66 rfl rfl ?_
          refine s_iconst (v := 0) dX5_bobberLine_67 rfl cI_0 ?_
          refine s_aload_n 2 dX5_bobberLine_68 rfl rfl ?_
          refine s_getR r dX5_bobberLine_69 rfl fl_5_32 rfl (S_20 hK) hr.1 ?_
          refine s_getI dX5_bobberLine_72 rfl fl_5_115 (tS_0 hK hr.2) ?_
          refine s_iconst (v := 1) dX5_bobberLine_75 rfl cI_1 ?_
          refine s_isub dX5_bobberLine_76 rfl ?_
          refine s_callV2_i2 dX5_bobberLine_77 rfl lkV_RX5_100 (S_20 hK) (Nat.le_of_ble_eq_true rfl) (Nat.le_of_ble_eq_true rfl) (Nat.le_of_ble_eq_true rfl) (ct_x5_number hK hx) (fun r12 I13 L14 => ?_)
          refine s_pick [2, 1, 0] rfl ?_
          exact sm_exit (fun f h => h)
        · skip
          refine s_iconst (v := (-1)) dX5_bobberLine_62 rfl cI_m1 ?_
          refine s_goto (tgt := 80) dX5_bobberLine_63 rfl ?_
          refine s_pick [2, 1, 0] rfl ?_
          exact sm_exit (fun f h => h)
      · skip
        refine s_istore_nL (fun v15 => [(3, .int v15), (0, .ref (X.1 + 20)), (1, .int v1), (2, .int v10)]) dX5_bobberLine_80 rfl (by decide) (fun _ => rfl) (fun v15 => ?_)
        refine s_iload_n 0 dX5_bobberLine_81 rfl rfl ?_
        refine s_iconst (v := (-1)) dX5_bobberLine_82 rfl cI_m1 ?_
        refine sm_reg (pcx := 98) (lsx := fun e16 => [(0, .ref (X.1 + 20)), (1, .int v1), (2, .int v10), (3, .int v15)]) (stx := fun e16 => [.int e16.1]) (ux := fun e16 => (e16.2.1, e16.2.2, R, S)) ?_ (fun e16 => ?_)
        · skip
          refine s_icmp_ne (tgt := 90) dX5_bobberLine_83 rfl rfl (fun _ => ?_) (fun _ => ?_)
          · skip
            refine s_aload_n 1 dX5_bobberLine_90 rfl rfl ?_
            refine s_bipush (v := 15) dX5_bobberLine_91 rfl cB_15 ?_
            refine s_iconst (v := 0) dX5_bobberLine_93 rfl cI_0 ?_
            refine s_iconst (v := 5) dX5_bobberLine_94 rfl cI_5 ?_
            refine s_callV3_i2 dX5_bobberLine_95 rfl lkV_RX5_111 (S_20 hK) (Nat.le_of_ble_eq_true rfl) (Nat.le_of_ble_eq_true rfl) (Nat.le_of_ble_eq_true rfl) (ct_x5_numberBehind hK hx) (fun r17 I18 L19 => ?_)
            refine s_pick [1, 2, 3, 0] rfl ?_
            exact sm_exit (fun f h => h)
          · skip
            refine s_iconst (v := (-1)) dX5_bobberLine_86 rfl cI_m1 ?_
            refine s_goto (tgt := 98) dX5_bobberLine_87 rfl ?_
            refine s_pick [1, 2, 3, 0] rfl ?_
            exact sm_exit (fun f h => h)
        · skip
          refine s_istoreL (fun v20 => [(4, .int v20), (0, .ref (X.1 + 20)), (1, .int v1), (2, .int v10), (3, .int v15)]) dX5_bobberLine_98 rfl (by decide) (fun _ => rfl) (fun v20 => ?_)
          refine s_iload 0 dX5_bobberLine_100 rfl rfl ?_
          refine s_iconst (v := (-1)) dX5_bobberLine_102 rfl cI_m1 ?_
          refine sm_reg (pcx := 119) (lsx := fun e21 => [(0, .ref (X.1 + 20)), (1, .int v1), (2, .int v10), (3, .int v15), (4, .int v20)]) (stx := fun e21 => [.int e21.1]) (ux := fun e21 => (e21.2.1, e21.2.2, R, S)) ?_ (fun e21 => ?_)
          · skip
            refine s_icmp_ne (tgt := 110) dX5_bobberLine_103 rfl rfl (fun _ => ?_) (fun _ => ?_)
            · skip
              refine s_aload_n 1 dX5_bobberLine_110 rfl rfl ?_
              refine s_bipush (v := 16) dX5_bobberLine_111 rfl cB_16 ?_
              refine s_iconst (v := 0) dX5_bobberLine_113 rfl cI_0 ?_
              refine s_bipush (v := 20) dX5_bobberLine_114 rfl cB_20 ?_
              refine s_callV3_i2 dX5_bobberLine_116 rfl lkV_RX5_111 (S_20 hK) (Nat.le_of_ble_eq_true rfl) (Nat.le_of_ble_eq_true rfl) (Nat.le_of_ble_eq_true rfl) (ct_x5_numberBehind hK hx) (fun r22 I23 L24 => ?_)
              refine s_pick [1, 2, 3, 4, 0] rfl ?_
              exact sm_exit (fun f h => h)
            · skip
              refine s_iconst (v := (-1)) dX5_bobberLine_106 rfl cI_m1 ?_
              refine s_goto (tgt := 119) dX5_bobberLine_107 rfl ?_
              refine s_pick [1, 2, 3, 4, 0] rfl ?_
              exact sm_exit (fun f h => h)
          · skip
            refine s_istoreL (fun v25 => [(5, .int v25), (0, .ref (X.1 + 20)), (1, .int v1), (2, .int v10), (3, .int v15), (4, .int v20)]) dX5_bobberLine_119 rfl (by decide) (fun _ => rfl) (fun v25 => ?_)
            refine s_iload 0 dX5_bobberLine_121 rfl rfl ?_
            refine s_iconst (v := (-1)) dX5_bobberLine_123 rfl cI_m1 ?_
            refine sm_reg (pcx := 140) (lsx := fun e26 => [(0, .ref (X.1 + 20)), (1, .int v1), (2, .int v10), (3, .int v15), (4, .int v20), (5, .int v25)]) (stx := fun e26 => [.int e26.1]) (ux := fun e26 => (e26.2.1, e26.2.2, R, S)) ?_ (fun e26 => ?_)
            · skip
              refine s_icmp_ne (tgt := 131) dX5_bobberLine_124 rfl rfl (fun _ => ?_) (fun _ => ?_)
              · skip
                refine s_aload_n 1 dX5_bobberLine_131 rfl rfl ?_
                refine s_bipush (v := 17) dX5_bobberLine_132 rfl cB_17 ?_
                refine s_iconst (v := 0) dX5_bobberLine_134 rfl cI_0 ?_
                refine s_bipush (v := 9) dX5_bobberLine_135 rfl cB_9 ?_
                refine s_callV3_i2 dX5_bobberLine_137 rfl lkV_RX5_111 (S_20 hK) (Nat.le_of_ble_eq_true rfl) (Nat.le_of_ble_eq_true rfl) (Nat.le_of_ble_eq_true rfl) (ct_x5_numberBehind hK hx) (fun r27 I28 L29 => ?_)
                refine s_pick [1, 2, 3, 4, 5, 0] rfl ?_
                exact sm_exit (fun f h => h)
              · skip
                refine s_iconst (v := (-1)) dX5_bobberLine_127 rfl cI_m1 ?_
                refine s_goto (tgt := 140) dX5_bobberLine_128 rfl ?_
                refine s_pick [1, 2, 3, 4, 5, 0] rfl ?_
                exact sm_exit (fun f h => h)
            · skip
              refine s_istoreL (fun v30 => [(6, .int v30), (0, .ref (X.1 + 20)), (1, .int v1), (2, .int v10), (3, .int v15), (4, .int v20), (5, .int v25)]) dX5_bobberLine_140 rfl (by decide) (fun _ => rfl) (fun v30 => ?_)
              refine s_iload 0 dX5_bobberLine_142 rfl rfl ?_
              refine s_iconst (v := (-1)) dX5_bobberLine_144 rfl cI_m1 ?_
              refine s_icmp_ne (tgt := 150) dX5_bobberLine_145 rfl rfl (fun _ => ?_) (fun _ => ?_)
              · skip
                refine s_aload_n 1 dX5_bobberLine_150 rfl rfl ?_
                refine s_getR r dX5_bobberLine_151 rfl fl_5_32 rfl (S_20 hK) hr.1 ?_
                refine s_getR (r + 7) dX5_bobberLine_154 rfl fl_5_174 rfl (tS_0 hK hr.2) (tR_0_12 hK hr.2) ?_
                refine s_iload_n 2 dX5_bobberLine_157 rfl rfl ?_
                refine s_iload_n 3 dX5_bobberLine_158 rfl rfl ?_
                refine sm_ck (fun g32 => ?_)
                refine s_iastL dX5_bobberLine_159 rfl (tS_7 hK hr.2) g32 (fun I31 => ?_)
                refine s_aload_n 1 dX5_bobberLine_160 rfl rfl ?_
                refine s_getR r dX5_bobberLine_161 rfl fl_5_32 rfl (S_20 hK) hr.1 ?_
                refine s_getR (r + 8) dX5_bobberLine_164 rfl fl_5_177 rfl (tS_0 hK hr.2) (tR_0_13 hK hr.2) ?_
                refine s_iload_n 2 dX5_bobberLine_167 rfl rfl ?_
                refine s_iload_n 4 dX5_bobberLine_168 rfl rfl ?_
                refine sm_ck (fun g34 => ?_)
                refine s_iastL dX5_bobberLine_169 rfl (tS_8 hK hr.2) g34 (fun I33 => ?_)
                refine s_aload_n 1 dX5_bobberLine_170 rfl rfl ?_
                refine s_getR r dX5_bobberLine_171 rfl fl_5_32 rfl (S_20 hK) hr.1 ?_
                refine s_getR (r + 9) dX5_bobberLine_174 rfl fl_5_180 rfl (tS_0 hK hr.2) (tR_0_14 hK hr.2) ?_
                refine s_iload_n 2 dX5_bobberLine_177 rfl rfl ?_
                refine s_iload 5 dX5_bobberLine_178 rfl rfl ?_
                refine sm_ck (fun g36 => ?_)
                refine s_iastL dX5_bobberLine_180 rfl (tS_9 hK hr.2) g36 (fun I35 => ?_)
                refine s_aload_n 1 dX5_bobberLine_181 rfl rfl ?_
                refine s_getR r dX5_bobberLine_182 rfl fl_5_32 rfl (S_20 hK) hr.1 ?_
                refine s_getR (r + 10) dX5_bobberLine_185 rfl fl_5_183 rfl (tS_0 hK hr.2) (tR_0_15 hK hr.2) ?_
                refine s_iload_n 2 dX5_bobberLine_188 rfl rfl ?_
                refine s_iload 6 dX5_bobberLine_189 rfl rfl ?_
                refine sm_ck (fun g38 => ?_)
                refine s_iastL dX5_bobberLine_191 rfl (tS_10 hK hr.2) g38 (fun I37 => ?_)
                refine s_aload_n 1 dX5_bobberLine_192 rfl rfl ?_
                refine s_getR r dX5_bobberLine_193 rfl fl_5_32 rfl (S_20 hK) hr.1 ?_
                refine s_getR (r + 11) dX5_bobberLine_196 rfl fl_5_186 rfl (tS_0 hK hr.2) (tR_0_16 hK hr.2) ?_
                refine s_iload_n 2 dX5_bobberLine_199 rfl rfl ?_
                refine s_iload 0 dX5_bobberLine_200 rfl rfl ?_
                refine sm_ck (fun g40 => ?_)
                refine s_iastL dX5_bobberLine_202 rfl (tS_11 hK hr.2) g40 (fun I39 => ?_)
                refine s_aload_n 1 dX5_bobberLine_203 rfl rfl ?_
                refine s_getR r dX5_bobberLine_204 rfl fl_5_32 rfl (S_20 hK) hr.1 ?_
                refine s_getR (r + 12) dX5_bobberLine_207 rfl fl_5_189 rfl (tS_0 hK hr.2) (tR_0_17 hK hr.2) ?_
                refine s_iload_n 2 dX5_bobberLine_210 rfl rfl ?_
                refine s_iconst (v := 0) dX5_bobberLine_211 rfl cI_0 ?_
                refine sm_ck (fun g42 => ?_)
                refine s_iastL dX5_bobberLine_212 rfl (tS_12 hK hr.2) g42 (fun I41 => ?_)
                refine s_aload_n 1 dX5_bobberLine_213 rfl rfl ?_
                refine s_getR r dX5_bobberLine_214 rfl fl_5_32 rfl (S_20 hK) hr.1 ?_
                refine s_dup dX5_bobberLine_217 rfl rfl ?_
                refine s_getI dX5_bobberLine_218 rfl fl_5_171 (tS_0 hK hr.2) ?_
                refine s_iconst (v := 1) dX5_bobberLine_221 rfl cI_1 ?_
                refine s_iadd dX5_bobberLine_222 rfl ?_
                refine s_putIL dX5_bobberLine_223 rfl fl_5_171 (tS_0 hK hr.2) (fun I43 => ?_)
                refine s_aload_n 1 dX5_bobberLine_226 rfl rfl ?_
                refine s_iconst (v := 1) dX5_bobberLine_227 rfl cI_1 ?_
                refine s_callV1_i2 dX5_bobberLine_228 rfl lkV_RX5_165 (S_20 hK) (Nat.le_of_ble_eq_true rfl) (Nat.le_of_ble_eq_true rfl) (Nat.le_of_ble_eq_true rfl) (ct_x5_optional hK hx) (fun r44 I45 L46 => ?_)
                refine s_if_eq (tgt := 242) dX5_bobberLine_231 rfl rfl (fun _ => ?_) (fun _ => ?_)
                · skip
                  refine s_iconst (v := 1) dX5_bobberLine_242 rfl cI_1 ?_
                  refine s_goto (tgt := 247) dX5_bobberLine_243 rfl ?_
                  exact s_zret dX5_bobberLine_247 rfl (Or.inr rfl) (fun f h => h)
                · skip
                  refine s_aload_n 1 dX5_bobberLine_234 rfl rfl ?_
                  refine s_iload_n 2 dX5_bobberLine_235 rfl rfl ?_
                  refine s_callV1_i2 dX5_bobberLine_236 rfl lkV_RX5_192 (S_20 hK) (Nat.le_of_ble_eq_true rfl) (Nat.le_of_ble_eq_true rfl) (Nat.le_of_ble_eq_true rfl) (ct_x5_ruleToldAhead hK hr hx) (fun r47 I48 L49 => ?_)
                  refine s_if_eq (tgt := 246) dX5_bobberLine_239 rfl rfl (fun _ => ?_) (fun _ => ?_)
                  · skip
                    refine s_iconst (v := 0) dX5_bobberLine_246 rfl cI_0 ?_
                    exact s_zret dX5_bobberLine_247 rfl (Or.inl rfl) (fun f h => h)
                  · skip
                    refine s_iconst (v := 1) dX5_bobberLine_242 rfl cI_1 ?_
                    refine s_goto (tgt := 247) dX5_bobberLine_243 rfl ?_
                    exact s_zret dX5_bobberLine_247 rfl (Or.inr rfl) (fun f h => h)
              · skip
                refine s_iconst (v := 0) dX5_bobberLine_148 rfl cI_0 ?_
                exact s_zret dX5_bobberLine_149 rfl (Or.inl rfl) (fun f h => h)
    · skip
      refine s_iconst (v := 0) dX5_bobberLine_38 rfl cI_0 ?_
      exact s_zret dX5_bobberLine_39 rfl (Or.inl rfl) (fun f h => h)
  · skip
    refine s_aload_n 1 dX5_bobberLine_13 rfl rfl ?_
    refine s_iconst (v := 2) dX5_bobberLine_14 rfl cI_2 ?_
    refine s_callV1_i1 dX5_bobberLine_15 rfl lkV_RX5_66 (S_20 hK) (Nat.le_of_ble_eq_true rfl) (Nat.le_of_ble_eq_true rfl) (Nat.le_of_ble_eq_true rfl) (ct_x5_fail hK) (fun r50 I51 => ?_)
    refine sm_ck (fun g52 => ?_)
    exact s_zret dX5_bobberLine_18 rfl g52 (fun f h => h)
