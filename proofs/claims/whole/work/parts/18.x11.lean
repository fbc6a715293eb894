noncomputable def x10_nearest_L40s (t : Nat) (c2 : Int32) (rec : Int32 → Int32 → Int32 → MI → Option (Int32 × Int32 × MI)) (w3 : Int32) (w4 : Int32) (w5 : Int32) (I : MI) : Option (Int32 × Int32 × MI) :=
if w5 < (I t 18) then (
b2 (x4_misfits t w5 c2 I) fun r6 I7 =>
lt r6 fun v8 =>
if v8 < w4 then (
lt v8 fun v10 =>
lt w5 fun v11 =>
lt (w5 + 1) fun v12 =>
rec v11 v10 v12 I7) else
lt (w5 + 1) fun v9 =>
rec w3 w4 v9 I7) else
some (w3, w4, I)
noncomputable def x10_nearest_L40 (t : Nat) (c2 : Int32) : Nat → Int32 → Int32 → Int32 → MI → Option (Int32 × Int32 × MI)
  | 0 => fun _ _ _ _ => none
  | n + 1 => x10_nearest_L40s t c2 (x10_nearest_L40 t c2 n)
noncomputable def x10_nearest (t : Nat) (p1 : Int32) (p2 : Int32) (I : MI) : Option (Int32 × MI) :=
if (I t 18) = 0 then (
some ((-1 : Int32), I)) else
if p1 < 0 then (
some ((-1 : Int32), I)) else
if 1 < p1 then (
some ((-1 : Int32), I)) else
lt (0 : Int32) fun v1 =>
b2 (x4_misfits t (0 : Int32) p2 I) fun r2 I3 =>
lt r2 fun v4 =>
lt (1 : Int32) fun v5 =>
b1 (x10_nearest_L40 t p2 FU v1 v4 v5 I3) fun e13 =>
if p1 = 0 then (
some (e13.1, e13.2.2)) else
some (e13.2.1, e13.2.2)
theorem x10_nearest_L40_ok {X : WX} {n0 s0 : Nat} {t : Nat} {c1 : Int32} {c2 : Int32} {L : ML} {R : MR} {S : MS} (hK : okr R S) (ht : R 27 0 = some t ∧ isT t) : ∀ (n : Nat) (w3 : Int32) (w4 : Int32) (w5 : Int32) (I : MI), Sim X yX10_nearest cX10_nearest 7 (some .int) 6 149 n0 s0 40 [(0, .ref (X.1 + 0)), (1, .int c1), (2, .int c2), (3, .int w3), (4, .int w4), (5, .int w5)] [] (I, L, R, S) (x10_nearest_L40 t c2 n w3 w4 w5 I) (fun b f => Ex X yX10_nearest cX10_nearest 7 (some .int) 6 149 n0 s0 87 [(1, .int c1), (3, .int b.1), (4, .int b.2.1)] [] (b.2.2, L, R, S) f) := by
  intro n
  induction n with
  | zero =>
    intro w3 w4 w5 I
    exact sm_none
  | succ n ih =>
    intro w3 w4 w5 I
    change Sim _ _ _ _ _ _ _ _ _ _ _ _ _ (x10_nearest_L40s t c2 (x10_nearest_L40 t c2 n) w3 w4 w5 I) _
    unfold x10_nearest_L40s
    refine s_iload 5 dX10_nearest_40 rfl rfl ?_
    refine s_aload_n 0 dX10_nearest_42 rfl rfl ?_
    refine s_getR 27 dX10_nearest_43 rfl fl_10_32 rfl (S_0 hK) (R_0_4 hK) ?_
    refine s_getR t dX10_nearest_46 rfl fl_10_87 rfl (S_27 hK) ht.1 ?_
    refine s_getI dX10_nearest_49 rfl fl_10_217 (tS_0 hK ht.2) ?_
    refine s_icmp_ge (tgt := 87) dX10_nearest_52 rfl rfl (fun _ => ?_) (fun _ => ?_)
    · skip
      refine s_pick [1, 3, 4] rfl ?_
      exact sm_exit (fun f h => h)
    · skip
      refine s_aload_n 0 dX10_nearest_55 rfl rfl ?_
      refine s_getR 83 dX10_nearest_56 rfl fl_10_79 rfl (S_0 hK) (R_0_11 hK) ?_
      refine s_iload 5 dX10_nearest_59 rfl rfl ?_
      refine s_iload_n 2 dX10_nearest_61 rfl rfl ?_
      refine s_callV2_i1 dX10_nearest_62 rfl lkV_RX10_293 (S_83 hK) (Nat.le_of_ble_eq_true rfl) (Nat.le_of_ble_eq_true rfl) (Nat.le_of_ble_eq_true rfl) (ct_x4_misfits hK ht) (fun r6 I7 => ?_)
      refine s_istoreL (fun v8 => [(6, .int v8), (0, .ref (X.1 + 0)), (1, .int c1), (2, .int c2), (3, .int w3), (4, .int w4), (5, .int w5)]) dX10_nearest_65 rfl (by decide) (fun _ => rfl) (fun v8 => ?_)
      refine s_iload 0 dX10_nearest_67 rfl rfl ?_
      refine s_iload 5 dX10_nearest_69 rfl rfl ?_
      refine s_icmp_ge (tgt := 81) dX10_nearest_71 rfl rfl (fun _ => ?_) (fun _ => ?_)
      · skip
        refine s_iincL 6 (c := 1) (fun v9 => [(5, .int v9), (6, .int v8), (0, .ref (X.1 + 0)), (1, .int c1), (2, .int c2), (3, .int w3), (4, .int w4)]) dX10_nearest_81 rfl rfl cI_1 (by decide) (fun _ => rfl) (fun v9 => ?_)
        refine s_goto (tgt := 40) dX10_nearest_84 rfl ?_
        refine s_pick [2, 3, 4, 5, 6, 0] rfl ?_
        exact ih w3 w4 v9 I7
      · skip
        refine s_iload 0 dX10_nearest_74 rfl rfl ?_
        refine s_istoreL (fun v10 => [(4, .int v10), (6, .int v8), (0, .ref (X.1 + 0)), (1, .int c1), (2, .int c2), (3, .int w3), (5, .int w5)]) dX10_nearest_76 rfl (by decide) (fun _ => rfl) (fun v10 => ?_)
        refine s_iload 6 dX10_nearest_78 rfl rfl ?_
        refine s_istore_nL (fun v11 => [(3, .int v11), (4, .int v10), (6, .int v8), (0, .ref (X.1 + 0)), (1, .int c1), (2, .int c2), (5, .int w5)]) dX10_nearest_80 rfl (by decide) (fun _ => rfl) (fun v11 => ?_)
        refine s_iincL 6 (c := 1) (fun v12 => [(5, .int v12), (3, .int v11), (4, .int v10), (6, .int v8), (0, .ref (X.1 + 0)), (1, .int c1), (2, .int c2)]) dX10_nearest_81 rfl rfl cI_1 (by decide) (fun _ => rfl) (fun v12 => ?_)
        refine s_goto (tgt := 40) dX10_nearest_84 rfl ?_
        refine s_pick [4, 5, 6, 1, 2, 0] rfl ?_
        exact ih v11 v10 v12 I7
theorem ct_x10_nearest {X : WX} {t : Nat} {p1 : Int32} {p2 : Int32} {I : MI} {L : ML} {R : MR} {S : MS} (hK : okr R S) (ht : R 27 0 = some t ∧ isT t) : Ct X yX10_nearest cX10_nearest 7 (some .int) 6 149 [.ref (X.1 + 0), .int p1, .int p2] (I, L, R, S) (x10_nearest t p1 p2 I) (fun r => (some (.int r.1), (r.2, L, R, S))) := by
  refine Ct.of (by decide) (Nat.le_of_ble_eq_true rfl) [(0, .ref (X.1 + 0)), (1, .int p1), (2, .int p2)] rfl ?_
  unfold x10_nearest
  refine s_aload_n 0 dX10_nearest_0 rfl rfl ?_
  refine s_getR 27 dX10_nearest_1 rfl fl_10_32 rfl (S_0 hK) (R_0_4 hK) ?_
  refine s_getR t dX10_nearest_4 rfl fl_10_87 rfl (S_27 hK) ht.1 ?_
  refine s_getI dX10_nearest_7 rfl fl_10_217 (tS_0 hK ht.2) ?_
  refine s_if_eq (tgt := 22) dX10_nearest_10 rfl rfl (fun _ => ?_) (fun _ => ?_)
  · skip
    refine s_iconst (v := (-1)) dX10_nearest_22 rfl cI_m1 ?_
    exact s_iret dX10_nearest_23 rfl (fun f h => h)
  · skip
    refine s_iload_n 1 dX10_nearest_13 rfl rfl ?_
    refine s_if_lt (tgt := 22) dX10_nearest_14 rfl rfl (fun _ => ?_) (fun _ => ?_)
    · skip
      refine s_iconst (v := (-1)) dX10_nearest_22 rfl cI_m1 ?_
      exact s_iret dX10_nearest_23 rfl (fun f h => h)
    · skip
      refine s_iload_n 1 dX10_nearest_17 rfl rfl ?_
      refine s_iconst (v := 1) dX10_nearest_18 rfl cI_1 ?_
      refine s_icmp_le (tgt := 24) dX10_nearest_19 rfl rfl (fun _ => ?_) (fun _ => ?_)
      · skip
        refine s_iconst (v := 0) dX10_nearest_24 rfl cI_0 ?_
        refine s_istore_nL (fun v1 => [(3, .int v1), (0, .ref (X.1 + 0)), (1, .int p1), (2, .int p2)]) dX10_nearest_25 rfl (by decide) (fun _ => rfl) (fun v1 => ?_)
        refine s_aload_n 1 dX10_nearest_26 rfl rfl ?_
        refine s_getR 83 dX10_nearest_27 rfl fl_10_79 rfl (S_0 hK) (R_0_11 hK) ?_
        refine s_iconst (v := 0) dX10_nearest_30 rfl cI_0 ?_
        refine s_iload_n 3 dX10_nearest_31 rfl rfl ?_
        refine s_callV2_i1 dX10_nearest_32 rfl lkV_RX10_293 (S_83 hK) (Nat.le_of_ble_eq_true rfl) (Nat.le_of_ble_eq_true rfl) (Nat.le_of_ble_eq_true rfl) (ct_x4_misfits hK ht) (fun r2 I3 => ?_)
        refine s_istoreL (fun v4 => [(4, .int v4), (3, .int v1), (0, .ref (X.1 + 0)), (1, .int p1), (2, .int p2)]) dX10_nearest_35 rfl (by decide) (fun _ => rfl) (fun v4 => ?_)
        refine s_iconst (v := 1) dX10_nearest_37 rfl cI_1 ?_
        refine s_istoreL (fun v5 => [(5, .int v5), (4, .int v4), (3, .int v1), (0, .ref (X.1 + 0)), (1, .int p1), (2, .int p2)]) dX10_nearest_38 rfl (by decide) (fun _ => rfl) (fun v5 => ?_)
        refine s_pick [3, 4, 5, 2, 1, 0] rfl ?_
        refine sm_reg (x10_nearest_L40_ok hK ht FU v1 v4 v5 I3) (fun e13 => ?_)
        refine s_iload_n 0 dX10_nearest_87 rfl rfl ?_
        refine s_if_ne (tgt := 95) dX10_nearest_88 rfl rfl (fun _ => ?_) (fun _ => ?_)
        · skip
          refine s_iload 2 dX10_nearest_95 rfl rfl ?_
          exact s_iret dX10_nearest_97 rfl (fun f h => h)
        · skip
          refine s_iload_n 1 dX10_nearest_91 rfl rfl ?_
          refine s_goto (tgt := 97) dX10_nearest_92 rfl ?_
          exact s_iret dX10_nearest_97 rfl (fun f h => h)
      · skip
        refine s_iconst (v := (-1)) dX10_nearest_22 rfl cI_m1 ?_
        exact s_iret dX10_nearest_23 rfl (fun f h => h)
noncomputable def x6_wavesBySide (rc_wavesWithin : Int32 → Int32 → MI → ML → MR → MS → Option (Int32 × MI × ML × MR × MS)) (p1 : Int32) (p2 : Int32) (p3 : Int32) (I : MI) (L : ML) (R : MR) (S : MS) : Option (Int32 × MI × ML × MR × MS) :=
ck (okr R S) <|
b5 (x6_nextLevel p1 I L R S) fun q_2 I3 L4 R5 S6 =>
ck (okr R5 S6) <|
b1 (R5 27 0) fun t_7 =>
ck (isT t_7) <|
ck (isSt R5 S6 q_2) <|
b2 (x1_rock t_7 q_2 p3 I3) fun r12 I13 =>
if 0 < r12 then (
b5 (rc_wavesWithin (p1 + 1) (p2 - 1) I13 L4 R5 S6) fun r14 I15 L16 R17 S18 =>
if r14 = 0 then (
some ((0 : Int32), I15, L16, R17, S18)) else
some ((1 : Int32), I15, L16, R17, S18)) else
some ((0 : Int32), I13, L4, R5, S6)
theorem ct_x6_wavesBySide {X : WX} {rc_wavesWithin : Int32 → Int32 → MI → ML → MR → MS → Option (Int32 × MI × ML × MR × MS)} {Fb Lb : Nat} {p1 : Int32} {p2 : Int32} {p3 : Int32} {I : MI} {L : ML} {R : MR} {S : MS} (h_rc_wavesWithin : ∀ (p1 : Int32) (p2 : Int32) (I : MI) (L : ML) (R : MR) (S : MS), Ct X yX6_wavesWithin cX6_wavesWithin 6 (some .boolean) Fb Lb [.ref (X.1 + 63), .int p1, .int p2] (I, L, R, S) (rc_wavesWithin p1 p2 I L R S) (fun r => (some (.int r.1), (r.2.1, r.2.2.1, r.2.2.2.1, r.2.2.2.2)))) : Ct X yX6_wavesBySide cX6_wavesBySide 4 (some .boolean) (Fb + 4) (Lb + 103) [.ref (X.1 + 63), .int p1, .int p2, .int p3] (I, L, R, S) (x6_wavesBySide rc_wavesWithin p1 p2 p3 I L R S) (fun r => (some (.int r.1), (r.2.1, r.2.2.1, r.2.2.2.1, r.2.2.2.2))) := by
  refine Ct.of (by decide) (Nat.le_of_ble_eq_true rfl) [(0, .ref (X.1 + 63)), (1, .int p1), (2, .int p2), (3, .int p3)] rfl ?_
  unfold x6_wavesBySide
  refine s_aload_n 0 dX6_wavesBySide_0 rfl rfl ?_
  refine sm_ck (fun g1 => ?_)
  refine s_getR 27 dX6_wavesBySide_1 rfl fl_6_21 rfl (S_63 g1) (R_63_0 g1) ?_
  refine s_aload_n 0 dX6_wavesBySide_4 rfl rfl ?_
  refine s_iload_n 1 dX6_wavesBySide_5 rfl rfl ?_
  refine s_callV1_r3 dX6_wavesBySide_6 rfl lkV_RX6_93 (S_63 g1) (Nat.le_of_ble_eq_true rfl) (by omega) (by omega) ct_x6_nextLevel (fun q_2 I3 L4 R5 S6 => ?_)
  refine s_iload_n 3 dX6_wavesBySide_9 rfl rfl ?_
  refine sm_ck (fun g9 => ?_)
  refine sm_b1 (fun t_7 h8 => ?_)
  refine sm_ck (fun g10 => ?_)
  refine sm_ck (fun g11 => ?_)
  refine s_callV2_i1 dX6_wavesBySide_10 rfl lkV_RX6_164 (S_27 g9) (Nat.le_of_ble_eq_true rfl) (by omega) (by omega) (ct_x1_rock g9 (⟨h8, g10⟩) g11) (fun r12 I13 => ?_)
  refine s_if_le (tgt := 33) dX6_wavesBySide_13 rfl rfl (fun _ => ?_) (fun _ => ?_)
  · skip
    refine s_iconst (v := 0) dX6_wavesBySide_33 rfl cI_0 ?_
    exact s_zret dX6_wavesBySide_34 rfl (Or.inl rfl) (fun f h => h)
  · skip
    refine s_aload_n 0 dX6_wavesBySide_16 rfl rfl ?_
    refine s_iload_n 1 dX6_wavesBySide_17 rfl rfl ?_
    refine s_iconst (v := 1) dX6_wavesBySide_18 rfl cI_1 ?_
    refine s_iadd dX6_wavesBySide_19 rfl ?_
    refine s_iload_n 2 dX6_wavesBySide_20 rfl rfl ?_
    refine s_iconst (v := 1) dX6_wavesBySide_21 rfl cI_1 ?_
    refine s_isub dX6_wavesBySide_22 rfl ?_
    refine s_callV2_i3 dX6_wavesBySide_23 rfl lkV_RX6_154 (S_63 g9) (Nat.le_of_ble_eq_true rfl) (by omega) (by omega) (h_rc_wavesWithin _ _ _ _ _ _) (fun r14 I15 L16 R17 S18 => ?_)
    refine s_if_eq (tgt := 33) dX6_wavesBySide_26 rfl rfl (fun _ => ?_) (fun _ => ?_)
    · skip
      refine s_iconst (v := 0) dX6_wavesBySide_33 rfl cI_0 ?_
      exact s_zret dX6_wavesBySide_34 rfl (Or.inl rfl) (fun f h => h)
    · skip
      refine s_iconst (v := 1) dX6_wavesBySide_29 rfl cI_1 ?_
      refine s_goto (tgt := 34) dX6_wavesBySide_30 rfl ?_
      exact s_zret dX6_wavesBySide_34 rfl (Or.inr rfl) (fun f h => h)
noncomputable def x6_wavesWithin_L73s (rc_wavesWithin : Int32 → Int32 → MI → ML → MR → MS → Option (Int32 × MI × ML × MR × MS)) (c1 : Int32) (c2 : Int32) (rec : Int32 → MI → ML → MR → MS → Option ((MI × ML × MR × MS) ⊕ (Int32 × MI × ML × MR × MS))) (w5 : Int32) (I : MI) (L : ML) (R : MR) (S : MS) : Option ((MI × ML × MR × MS) ⊕ (Int32 × MI × ML × MR × MS)) :=
if w5 < 4 then (
ck (okr R S) <|
ck (vp_in c1 8) <|
lt (wI I 65 (ix c1) w5) fun I16 =>
b5 (x6_wavesBySide rc_wavesWithin c1 c2 w5 I16 L R S) fun r18 I19 L20 R21 S22 =>
if r18 = 0 then (
lt (w5 + 1) fun v23 =>
rec v23 I19 L20 R21 S22) else
some (.inr ((1 : Int32), I19, L20, R21, S22))) else
some (.inl (I, L, R, S))
noncomputable def x6_wavesWithin_L73 (rc_wavesWithin : Int32 → Int32 → MI → ML → MR → MS → Option (Int32 × MI × ML × MR × MS)) (c1 : Int32) (c2 : Int32) : Nat → Int32 → MI → ML → MR → MS → Option ((MI × ML × MR × MS) ⊕ (Int32 × MI × ML × MR × MS))
  | 0 => fun _ _ _ _ _ => none
  | n + 1 => x6_wavesWithin_L73s rc_wavesWithin c1 c2 (x6_wavesWithin_L73 rc_wavesWithin c1 c2 n)
noncomputable def x6_wavesWithin (rc_wavesWithin : Int32 → Int32 → MI → ML → MR → MS → Option (Int32 × MI × ML × MR × MS)) (p1 : Int32) (p2 : Int32) (I : MI) (L : ML) (R : MR) (S : MS) : Option (Int32 × MI × ML × MR × MS) :=
ck (okr R S) <|
b5 (x6_level p1 I L R S) fun q_2 I3 L4 R5 S6 =>
ck (isSt R5 S6 q_2) <|
ck (S6[q_2]? = some (7, 12)) <|
ck (okr R5 S6) <|
ck (vp_in (I3 63 8) 10) <|
ck (vp_in (I3 63 8) 10) <|
lt ((if 0 ≤ ((I3 (q_2 + 1) (ix (I3 63 8))) - (I3 63 9)) then ((I3 (q_2 + 1) (ix (I3 63 8))) - (I3 63 9)) else 0 - ((I3 (q_2 + 1) (ix (I3 63 8))) - (I3 63 9))) + (if 0 ≤ ((I3 (q_2 + 2) (ix (I3 63 8))) - (I3 63 10)) then ((I3 (q_2 + 2) (ix (I3 63 8))) - (I3 63 10)) else 0 - ((I3 (q_2 + 2) (ix (I3 63 8))) - (I3 63 10)))) fun v12 =>
bE (
if 0 < p2 then (
if p1 < 6 then (
if p2 < v12 then (
some (.inl (I3, L4, R5, S6))) else
lt (0 : Int32) fun v14 =>
bF (x6_wavesWithin_L73 rc_wavesWithin p1 p2 FU v14 I3 L4 R5 S6) fun e24 =>
some (.inr ((0 : Int32), e24.1, e24.2.1, e24.2.2.1, e24.2.2.2))) else
some (.inl (I3, L4, R5, S6))) else
some (.inl (I3, L4, R5, S6))) fun e13 =>
if v12 = 0 then (
some ((1 : Int32), e13.1, e13.2.1, e13.2.2.1, e13.2.2.2)) else
some ((0 : Int32), e13.1, e13.2.1, e13.2.2.1, e13.2.2.2)
theorem x6_wavesWithin_L73_ok {X : WX} {n0 s0 : Nat} {rc_wavesWithin : Int32 → Int32 → MI → ML → MR → MS → Option (Int32 × MI × ML × MR × MS)} {Fb Lb : Nat} {c1 : Int32} {c2 : Int32} (h_rc_wavesWithin : ∀ (p1 : Int32) (p2 : Int32) (I : MI) (L : ML) (R : MR) (S : MS), Ct X yX6_wavesWithin cX6_wavesWithin 6 (some .boolean) Fb Lb [.ref (X.1 + 63), .int p1, .int p2] (I, L, R, S) (rc_wavesWithin p1 p2 I L R S) (fun r => (some (.int r.1), (r.2.1, r.2.2.1, r.2.2.2.1, r.2.2.2.2)))) : ∀ (n : Nat) (w5 : Int32) (I : MI) (L : ML) (R : MR) (S : MS), Sim X yX6_wavesWithin cX6_wavesWithin 6 (some .boolean) (Fb + 5) (Lb + 126) n0 s0 73 [(0, .ref (X.1 + 63)), (1, .int c1), (2, .int c2), (5, .int w5)] [] (I, L, R, S) (x6_wavesWithin_L73 rc_wavesWithin c1 c2 n w5 I L R S) (SE (fun b f => Ex X yX6_wavesWithin cX6_wavesWithin 6 (some .boolean) (Fb + 5) (Lb + 126) n0 s0 106 [] [] (b.1, b.2.1, b.2.2.1, b.2.2.2) f) (fun a f => f = (fun r => (some (.int r.1), (r.2.1, r.2.2.1, r.2.2.2.1, r.2.2.2.2))) a)) := by
  intro n
  induction n with
  | zero =>
    intro w5 I L R S
    exact sm_none
  | succ n ih =>
    intro w5 I L R S
    change Sim _ _ _ _ _ _ _ _ _ _ _ _ _ (x6_wavesWithin_L73s rc_wavesWithin c1 c2 (x6_wavesWithin_L73 rc_wavesWithin c1 c2 n) w5 I L R S) _
    unfold x6_wavesWithin_L73s
    refine s_iload 3 dX6_wavesWithin_73 rfl rfl ?_
    refine s_iconst (v := 4) dX6_wavesWithin_75 rfl cI_4 ?_
    refine s_icmp_ge (tgt := 106) dX6_wavesWithin_76 rfl rfl (fun _ => ?_) (fun _ => ?_)
    · skip
      refine s_pick [] rfl ?_
      exact sm_exit (fun f h => h)
    · skip
      refine s_aload_n 0 dX6_wavesWithin_79 rfl rfl ?_
      refine sm_ck (fun g15 => ?_)
      refine s_getR 65 dX6_wavesWithin_80 rfl fl_6_17 rfl (S_63 g15) (R_63_5 g15) ?_
      refine s_iload_n 1 dX6_wavesWithin_83 rfl rfl ?_
      refine s_iload 3 dX6_wavesWithin_84 rfl rfl ?_
      refine sm_ck (fun g17 => ?_)
      refine s_iastL dX6_wavesWithin_86 rfl (S_65 g15) g17 (fun I16 => ?_)
      refine s_aload_n 0 dX6_wavesWithin_87 rfl rfl ?_
      refine s_iload_n 1 dX6_wavesWithin_88 rfl rfl ?_
      refine s_iload_n 2 dX6_wavesWithin_89 rfl rfl ?_
      refine s_iload 3 dX6_wavesWithin_90 rfl rfl ?_
      refine s_callV3_i3 dX6_wavesWithin_92 rfl lkV_RX6_161 (S_63 g15) (Nat.le_of_ble_eq_true rfl) (by omega) (by omega) (ct_x6_wavesBySide h_rc_wavesWithin) (fun r18 I19 L20 R21 S22 => ?_)
      refine s_if_eq (tgt := 100) dX6_wavesWithin_95 rfl rfl (fun _ => ?_) (fun _ => ?_)
      · skip
        refine s_iincL 3 (c := 1) (fun v23 => [(5, .int v23), (0, .ref (X.1 + 63)), (1, .int c1), (2, .int c2)]) dX6_wavesWithin_100 rfl rfl cI_1 (by decide) (fun _ => rfl) (fun v23 => ?_)
        refine s_goto (tgt := 73) dX6_wavesWithin_103 rfl ?_
        refine s_pick [1, 2, 3, 0] rfl ?_
        exact ih v23 I19 L20 R21 S22
      · skip
        refine s_iconst (v := 1) dX6_wavesWithin_98 rfl cI_1 ?_
        exact s_zret dX6_wavesWithin_99 rfl (Or.inr rfl) (fun f h => h)
theorem ct_x6_wavesWithin {X : WX} {rc_wavesWithin : Int32 → Int32 → MI → ML → MR → MS → Option (Int32 × MI × ML × MR × MS)} {Fb Lb : Nat} {p1 : Int32} {p2 : Int32} {I : MI} {L : ML} {R : MR} {S : MS} (h_rc_wavesWithin : ∀ (p1 : Int32) (p2 : Int32) (I : MI) (L : ML) (R : MR) (S : MS), Ct X yX6_wavesWithin cX6_wavesWithin 6 (some .boolean) Fb Lb [.ref (X.1 + 63), .int p1, .int p2] (I, L, R, S) (rc_wavesWithin p1 p2 I L R S) (fun r => (some (.int r.1), (r.2.1, r.2.2.1, r.2.2.2.1, r.2.2.2.2)))) : Ct X yX6_wavesWithin cX6_wavesWithin 6 (some .boolean) (Fb + 5) (Lb + 126) [.ref (X.1 + 63), .int p1, .int p2] (I, L, R, S) (x6_wavesWithin rc_wavesWithin p1 p2 I L R S) (fun r => (some (.int r.1), (r.2.1, r.2.2.1, r.2.2.2.1, r.2.2.2.2))) := by
  refine Ct.of (by decide) (Nat.le_of_ble_eq_true rfl) [(0, .ref (X.1 + 63)), (1, .int p1), (2, .int p2)] rfl ?_
  unfold x6_wavesWithin
  refine s_aload_n 0 dX6_wavesWithin_0 rfl rfl ?_
  refine s_iload_n 1 dX6_wavesWithin_1 rfl rfl ?_
  refine sm_ck (fun g1 => ?_)
  refine s_callV1_r3 dX6_wavesWithin_2 rfl lkV_RX6_35 (S_63 g1) (Nat.le_of_ble_eq_true rfl) (by omega) (by omega) ct_x6_level (fun q_2 I3 L4 R5 S6 => ?_)
  refine s_astore_n [(3, .ref (X.1 + q_2)), (0, .ref (X.1 + 63)), (1, .int p1), (2, .int p2)] dX6_wavesWithin_5 rfl (by decide) rfl ?_
  refine s_aload_n 0 dX6_wavesWithin_6 rfl rfl ?_
  refine sm_ck (fun g7 => ?_)
  refine sm_ck (fun g8 => ?_)
  refine s_getR (q_2 + 1) dX6_wavesWithin_7 rfl fl_6_139 rfl g8 (qR_0 g7) ?_
  refine s_aload_n 1 dX6_wavesWithin_10 rfl rfl ?_
  refine sm_ck (fun g9 => ?_)
  refine s_getI dX6_wavesWithin_11 rfl fl_6_114 (S_63 g9) ?_
  refine sm_ck (fun g10 => ?_)
  refine s_iald dX6_wavesWithin_14 rfl (qS_1 g7) g10 ?_
  refine s_aload_n 1 dX6_wavesWithin_15 rfl rfl ?_
  refine s_getI dX6_wavesWithin_16 rfl fl_6_148 (S_63 g9) ?_
  refine s_isub dX6_wavesWithin_19 rfl ?_
  refine s_mabs dX6_wavesWithin_20 rfl lkw_6_157 lk_mabs (Nat.le_of_ble_eq_true rfl) (by omega) (by omega) ?_
  refine s_aload_n 0 dX6_wavesWithin_23 rfl rfl ?_
  refine s_getR (q_2 + 2) dX6_wavesWithin_24 rfl fl_6_142 rfl g8 (qR_1 g7) ?_
  refine s_aload_n 1 dX6_wavesWithin_27 rfl rfl ?_
  refine s_getI dX6_wavesWithin_28 rfl fl_6_114 (S_63 g9) ?_
  refine sm_ck (fun g11 => ?_)
  refine s_iald dX6_wavesWithin_31 rfl (qS_2 g7) g11 ?_
  refine s_aload_n 1 dX6_wavesWithin_32 rfl rfl ?_
  refine s_getI dX6_wavesWithin_33 rfl fl_6_151 (S_63 g9) ?_
  refine s_isub dX6_wavesWithin_36 rfl ?_
  refine s_mabs dX6_wavesWithin_37 rfl lkw_6_157 lk_mabs (Nat.le_of_ble_eq_true rfl) (by omega) (by omega) ?_
  refine s_iadd dX6_wavesWithin_40 rfl ?_
  refine s_istoreL (fun v12 => [(4, .int v12), (3, .ref (X.1 + q_2)), (0, .ref (X.1 + 63)), (1, .int p1), (2, .int p2)]) dX6_wavesWithin_41 rfl (by decide) (fun _ => rfl) (fun v12 => ?_)
  refine s_iload_n 4 dX6_wavesWithin_43 rfl rfl ?_
  refine sm_regE (pcx := 59) (lsx := fun e13 => [(4, .int v12)]) (stx := fun e13 => []) (ux := fun e13 => (e13.1, e13.2.1, e13.2.2.1, e13.2.2.2)) ?_ (fun e13 => ?_)
  · skip
    refine s_if_le (tgt := 59) dX6_wavesWithin_44 rfl rfl (fun _ => ?_) (fun _ => ?_)
    · skip
      refine s_pick [0] rfl ?_
      exact sm_exit (fun f h => h)
    · skip
      refine s_iload_n 3 dX6_wavesWithin_47 rfl rfl ?_
      refine s_bipush (v := 6) dX6_wavesWithin_48 rfl cB_6 ?_
      refine s_icmp_ge (tgt := 59) dX6_wavesWithin_50 rfl rfl (fun _ => ?_) (fun _ => ?_)
      · skip
        refine s_pick [0] rfl ?_
        exact sm_exit (fun f h => h)
      · skip
        refine s_iload 0 dX6_wavesWithin_53 rfl rfl ?_
        refine s_iload_n 4 dX6_wavesWithin_55 rfl rfl ?_
        refine s_icmp_le (tgt := 70) dX6_wavesWithin_56 rfl rfl (fun _ => ?_) (fun _ => ?_)
        · skip
          refine s_iconst (v := 0) dX6_wavesWithin_70 rfl cI_0 ?_
          refine s_istoreL (fun v14 => [(5, .int v14), (4, .int v12), (3, .ref (X.1 + q_2)), (0, .ref (X.1 + 63)), (1, .int p1), (2, .int p2)]) dX6_wavesWithin_71 rfl (by decide) (fun _ => rfl) (fun v14 => ?_)
          refine s_pick [3, 4, 5, 0] rfl ?_
          refine sm_regF (x6_wavesWithin_L73_ok h_rc_wavesWithin FU v14 I3 L4 R5 S6) (fun e24 => ?_)
          refine s_iconst (v := 0) dX6_wavesWithin_106 rfl cI_0 ?_
          exact s_zret dX6_wavesWithin_107 rfl (Or.inl rfl) (fun f h => h)
        · skip
          refine s_pick [0] rfl ?_
          exact sm_exit (fun f h => h)
  · skip
    refine s_iload 0 dX6_wavesWithin_59 rfl rfl ?_
    refine s_if_ne (tgt := 68) dX6_wavesWithin_61 rfl rfl (fun _ => ?_) (fun _ => ?_)
    · skip
      refine s_iconst (v := 0) dX6_wavesWithin_68 rfl cI_0 ?_
      exact s_zret dX6_wavesWithin_69 rfl (Or.inl rfl) (fun f h => h)
    · skip
      refine s_iconst (v := 1) dX6_wavesWithin_64 rfl cI_1 ?_
      refine s_goto (tgt := 69) dX6_wavesWithin_65 rfl ?_
      exact s_zret dX6_wavesWithin_69 rfl (Or.inr rfl) (fun f h => h)
noncomputable def x6_WW : Nat → Int32 → Int32 → MI → ML → MR → MS → Option (Int32 × MI × ML × MR × MS)
  | 0 => fun _ _ _ _ _ _ => none
  | n + 1 => fun z0 z1 z2 z3 z4 z5 => x6_wavesWithin (x6_WW n) z0 z1 z2 z3 z4 z5
theorem ct_x6_WW {X : WX} : ∀ n : Nat, (∀ (p1 : Int32) (p2 : Int32) (I : MI) (L : ML) (R : MR) (S : MS), Ct X yX6_wavesWithin cX6_wavesWithin 6 (some .boolean) (5 * n) (126 * n) [.ref (X.1 + 63), .int p1, .int p2] (I, L, R, S) (x6_WW n p1 p2 I L R S) (fun r => (some (.int r.1), (r.2.1, r.2.2.1, r.2.2.2.1, r.2.2.2.2)))) := by
  intro n
  induction n with
  | zero => exact fun _ _ _ _ _ _ a ha => (by cases ha)
  | succ n ih =>
    intro p1 p2 I L R S
    exact ct_x6_wavesWithin (Fb := 5 * n) (Lb := 126 * n) ih
theorem ct_x6_WW_0 {X : WX} (n : Nat) (p1 : Int32) (p2 : Int32) (I : MI) (L : ML) (R : MR) (S : MS) : Ct X yX6_wavesWithin cX6_wavesWithin 6 (some .boolean) (5 * n) (126 * n) [.ref (X.1 + 63), .int p1, .int p2] (I, L, R, S) (x6_WW n p1 p2 I L R S) (fun r => (some (.int r.1), (r.2.1, r.2.2.1, r.2.2.2.1, r.2.2.2.2))) := (ct_x6_WW n) p1 p2 I L R S
noncomputable def x6_fewestWaves_L28s (q1 : Nat) (rec : Int32 → MI → ML → MR → MS → Option ((MI × ML × MR × MS) ⊕ (Int32 × MI × ML × MR × MS))) (w5 : Int32) (I : MI) (L : ML) (R : MR) (S : MS) : Option ((MI × ML × MR × MS) ⊕ (Int32 × MI × ML × MR × MS)) :=
if 6 < w5 then (
some (.inl (I, L, R, S))) else
ck (okr R S) <|
b5 (x6_WW 10 (0 : Int32) w5 I L R S) fun r17 I18 L19 R20 S21 =>
if r17 = 0 then (
lt (w5 + 1) fun v22 =>
rec v22 I18 L19 R20 S21) else
some (.inr (w5, I18, L19, R20, S21))
noncomputable def x6_fewestWaves_L28 (q1 : Nat) : Nat → Int32 → MI → ML → MR → MS → Option ((MI × ML × MR × MS) ⊕ (Int32 × MI × ML × MR × MS))
  | 0 => fun _ _ _ _ _ => none
  | n + 1 => x6_fewestWaves_L28s q1 (x6_fewestWaves_L28 q1 n)
noncomputable def x6_fewestWaves (q1 : Nat) (p2 : Int32) (p3 : Int32) (p4 : Int32) (I : MI) (L : ML) (R : MR) (S : MS) : Option (Int32 × MI × ML × MR × MS) :=
ck (okr R S) <|
b5 (x6_level (0 : Int32) I L R S) fun q_2 I3 L4 R5 S6 =>
ck (isSt R5 S6 q_2) <|
ck (isSt R5 S6 q1) <|
ck (okr R5 S6) <|
ck (S6[q_2]? = some (7, 12)) <|
b1 (x7_copyPlay q_2 q1 I3) fun I10 =>
lt (wI I10 63 8 p2) fun I12 =>
lt (wI I12 63 9 p3) fun I13 =>
lt (wI I13 63 10 p4) fun I14 =>
lt (0 : Int32) fun v15 =>
bE (x6_fewestWaves_L28 q1 FU v15 I14 L4 R5 S6) fun e23 =>
some ((-1 : Int32), e23.1, e23.2.1, e23.2.2.1, e23.2.2.2)
theorem x6_fewestWaves_L28_ok {X : WX} {n0 s0 : Nat} {q1 : Nat} : ∀ (n : Nat) (w5 : Int32) (I : MI) (L : ML) (R : MR) (S : MS), Sim X yX6_fewestWaves cX6_fewestWaves 6 (some .int) 51 1285 n0 s0 28 [(0, .ref (X.1 + 63)), (5, .int w5)] [] (I, L, R, S) (x6_fewestWaves_L28 q1 n w5 I L R S) (SE (fun b f => Ex X yX6_fewestWaves cX6_fewestWaves 6 (some .int) 51 1285 n0 s0 54 [] [] (b.1, b.2.1, b.2.2.1, b.2.2.2) f) (fun a f => f = (fun r => (some (.int r.1), (r.2.1, r.2.2.1, r.2.2.2.1, r.2.2.2.2))) a)) := by
  intro n
  induction n with
  | zero =>
    intro w5 I L R S
    exact sm_none
  | succ n ih =>
    intro w5 I L R S
    change Sim _ _ _ _ _ _ _ _ _ _ _ _ _ (x6_fewestWaves_L28s q1 (x6_fewestWaves_L28 q1 n) w5 I L R S) _
    unfold x6_fewestWaves_L28s
    refine s_iload 1 dX6_fewestWaves_28 rfl rfl ?_
    refine s_bipush (v := 6) dX6_fewestWaves_30 rfl cB_6 ?_
    refine s_icmp_gt (tgt := 54) dX6_fewestWaves_32 rfl rfl (fun _ => ?_) (fun _ => ?_)
    · skip
      refine s_pick [] rfl ?_
      exact sm_exit (fun f h => h)
    · skip
      refine s_aload_n 0 dX6_fewestWaves_35 rfl rfl ?_
      refine s_iconst (v := 0) dX6_fewestWaves_36 rfl cI_0 ?_
      refine s_iload 1 dX6_fewestWaves_37 rfl rfl ?_
      refine sm_ck (fun g16 => ?_)
      refine s_callV2_i3 dX6_fewestWaves_39 rfl lkV_RX6_154 (S_63 g16) (Nat.le_of_ble_eq_true rfl) (Nat.le_of_ble_eq_true rfl) (Nat.le_of_ble_eq_true rfl) (ct_x6_WW_0 10 _ _ _ _ _ _) (fun r17 I18 L19 R20 S21 => ?_)
      refine s_if_eq (tgt := 48) dX6_fewestWaves_42 rfl rfl (fun _ => ?_) (fun _ => ?_)
      · skip
        refine s_iincL 1 (c := 1) (fun v22 => [(5, .int v22), (0, .ref (X.1 + 63))]) dX6_fewestWaves_48 rfl rfl cI_1 (by decide) (fun _ => rfl) (fun v22 => ?_)
        refine s_goto (tgt := 28) dX6_fewestWaves_51 rfl ?_
        refine s_pick [1, 0] rfl ?_
        exact ih v22 I18 L19 R20 S21
      · skip
        refine s_iload 1 dX6_fewestWaves_45 rfl rfl ?_
        exact s_iret dX6_fewestWaves_47 rfl (fun f h => h)
theorem ct_x6_fewestWaves {X : WX} {q1 : Nat} {p2 : Int32} {p3 : Int32} {p4 : Int32} {I : MI} {L : ML} {R : MR} {S : MS} : Ct X yX6_fewestWaves cX6_fewestWaves 6 (some .int) 51 1285 [.ref (X.1 + 63), .ref (X.1 + q1), .int p2, .int p3, .int p4] (I, L, R, S) (x6_fewestWaves q1 p2 p3 p4 I L R S) (fun r => (some (.int r.1), (r.2.1, r.2.2.1, r.2.2.2.1, r.2.2.2.2))) := by
  refine Ct.of (by decide) (Nat.le_of_ble_eq_true rfl) [(0, .ref (X.1 + 63)), (1, .ref (X.1 + q1)), (2, .int p2), (3, .int p3), (4, .int p4)] rfl ?_
  unfold x6_fewestWaves
  refine s_aload_n 0 dX6_fewestWaves_0 rfl rfl ?_
  refine s_iconst (v := 0) dX6_fewestWaves_1 rfl cI_0 ?_
  refine sm_ck (fun g1 => ?_)
  refine s_callV1_r3 dX6_fewestWaves_2 rfl lkV_RX6_35 (S_63 g1) (Nat.le_of_ble_eq_true rfl) (Nat.le_of_ble_eq_true rfl) (Nat.le_of_ble_eq_true rfl) ct_x6_level (fun q_2 I3 L4 R5 S6 => ?_)
  refine s_aload_n 1 dX6_fewestWaves_5 rfl rfl ?_
  refine sm_ck (fun g7 => ?_)
  refine sm_ck (fun g8 => ?_)
  refine sm_ck (fun g9 => ?_)
  refine sm_ck (fun g11 => ?_)
  refine s_callV1_v1 dX6_fewestWaves_6 rfl lkV_RX6_39 g11 (Nat.le_of_ble_eq_true rfl) (Nat.le_of_ble_eq_true rfl) (Nat.le_of_ble_eq_true rfl) (ct_x7_copyPlay g9 g7 g8) (fun I10 => ?_)
  refine s_aload_n 0 dX6_fewestWaves_9 rfl rfl ?_
  refine s_iload_n 2 dX6_fewestWaves_10 rfl rfl ?_
  refine s_putIL dX6_fewestWaves_11 rfl fl_6_114 (S_63 g9) (fun I12 => ?_)
  refine s_aload_n 0 dX6_fewestWaves_14 rfl rfl ?_
  refine s_iload_n 3 dX6_fewestWaves_15 rfl rfl ?_
  refine s_putIL dX6_fewestWaves_16 rfl fl_6_148 (S_63 g9) (fun I13 => ?_)
  refine s_aload_n 0 dX6_fewestWaves_19 rfl rfl ?_
  refine s_iload 4 dX6_fewestWaves_20 rfl rfl ?_
  refine s_putIL dX6_fewestWaves_22 rfl fl_6_151 (S_63 g9) (fun I14 => ?_)
  refine s_iconst (v := 0) dX6_fewestWaves_25 rfl cI_0 ?_
  refine s_istoreL (fun v15 => [(5, .int v15), (0, .ref (X.1 + 63)), (1, .ref (X.1 + q1)), (2, .int p2), (3, .int p3), (4, .int p4)]) dX6_fewestWaves_26 rfl (by decide) (fun _ => rfl) (fun v15 => ?_)
  refine s_pick [1, 0] rfl ?_
  refine sm_regE (x6_fewestWaves_L28_ok  FU v15 I14 L4 R5 S6) (fun e23 => ?_)
  refine s_iconst (v := (-1)) dX6_fewestWaves_54 rfl cI_m1 ?_
  exact s_iret dX6_fewestWaves_55 rfl (fun f h => h)
noncomputable def x10_waves (p1 : Int32) (p2 : Int32) (p3 : Int32) (I : MI) (L : ML) (R : MR) (S : MS) : Option (Int32 × MI × ML × MR × MS) :=
ck (okr R S) <|
lt (wI I 0 14 (0 : Int32)) fun I2 =>
b1 (R 27 0) fun t_3 =>
ck (isT t_3) <|
b1 (x10_isAfloat t_3 p1 I2) fun r6 =>
if r6 = 0 then (
some ((-2 : Int32), I2, L, R, S)) else
b1 (x8_isCell t_3 p2 p3 I2) fun r7 =>
if r7 = 0 then (
some ((-2 : Int32), I2, L, R, S)) else
b5 (x6_fewestWaves 47 p1 p2 p3 I2 L R S) fun r8 I9 L10 R11 S12 =>
lt r8 fun v13 =>
ck (okr R11 S12) <|
b1 (x10_layAll 65 8 v13 I9) fun I15 =>
some (v13, I15, L10, R11, S12)
theorem ct_x10_waves {X : WX} {p1 : Int32} {p2 : Int32} {p3 : Int32} {I : MI} {L : ML} {R : MR} {S : MS} : Ct X yX10_waves cX10_waves 5 (some .int) 52 1310 [.ref (X.1 + 0), .int p1, .int p2, .int p3] (I, L, R, S) (x10_waves p1 p2 p3 I L R S) (fun r => (some (.int r.1), (r.2.1, r.2.2.1, r.2.2.2.1, r.2.2.2.2))) := by
  refine Ct.of (by decide) (Nat.le_of_ble_eq_true rfl) [(0, .ref (X.1 + 0)), (1, .int p1), (2, .int p2), (3, .int p3)] rfl ?_
  unfold x10_waves
  refine s_aload_n 0 dX10_waves_0 rfl rfl ?_
  refine s_iconst (v := 0) dX10_waves_1 rfl cI_0 ?_
  refine sm_ck (fun g1 => ?_)
  refine s_putIL dX10_waves_2 rfl fl_10_112 (S_0 g1) (fun I2 => ?_)
  refine s_aload_n 0 dX10_waves_5 rfl rfl ?_
  refine s_iload_n 1 dX10_waves_6 rfl rfl ?_
  refine sm_b1 (fun t_3 h4 => ?_)
  refine sm_ck (fun g5 => ?_)
  refine s_callV1_i0 dX10_waves_7 rfl lkV_RX10_269 (S_0 g1) (Nat.le_of_ble_eq_true rfl) (Nat.le_of_ble_eq_true rfl) (Nat.le_of_ble_eq_true rfl) (ct_x10_isAfloat g1 (⟨h4, g5⟩)) (fun r6 => ?_)
  refine s_if_eq (tgt := 28) dX10_waves_10 rfl rfl (fun _ => ?_) (fun _ => ?_)
  · skip
    refine s_bipush (v := (-2)) dX10_waves_28 rfl cB_m2 ?_
    exact s_iret dX10_waves_30 rfl (fun f h => h)
  · skip
    refine s_aload_n 0 dX10_waves_13 rfl rfl ?_
    refine s_getR 27 dX10_waves_14 rfl fl_10_32 rfl (S_0 g1) (R_0_4 g1) ?_
    refine s_getR t_3 dX10_waves_17 rfl fl_10_87 rfl (S_27 g1) h4 ?_
    refine s_iload_n 2 dX10_waves_20 rfl rfl ?_
    refine s_iload_n 3 dX10_waves_21 rfl rfl ?_
    refine s_callV2_i0 dX10_waves_22 rfl lkV_RX10_296 (tS_0 g1 g5) (Nat.le_of_ble_eq_true rfl) (Nat.le_of_ble_eq_true rfl) (Nat.le_of_ble_eq_true rfl) (ct_x8_isCell g1 g5) (fun r7 => ?_)
    refine s_if_ne (tgt := 31) dX10_waves_25 rfl rfl (fun _ => ?_) (fun _ => ?_)
    · skip
      refine s_aload_n 0 dX10_waves_31 rfl rfl ?_
      refine s_getR 63 dX10_waves_32 rfl fl_10_63 rfl (S_0 g1) (R_0_9 g1) ?_
      refine s_aload_n 0 dX10_waves_35 rfl rfl ?_
      refine s_getR 47 dX10_waves_36 rfl fl_10_39 rfl (S_0 g1) (R_0_5 g1) ?_
      refine s_iload_n 1 dX10_waves_39 rfl rfl ?_
      refine s_iload_n 2 dX10_waves_40 rfl rfl ?_
      refine s_iload_n 3 dX10_waves_41 rfl rfl ?_
      refine s_callV4_i3 dX10_waves_42 rfl lkV_RX10_299 (S_63 g1) (Nat.le_of_ble_eq_true rfl) (Nat.le_of_ble_eq_true rfl) (Nat.le_of_ble_eq_true rfl) ct_x6_fewestWaves (fun r8 I9 L10 R11 S12 => ?_)
      refine s_istoreL (fun v13 => [(4, .int v13), (0, .ref (X.1 + 0)), (1, .int p1), (2, .int p2), (3, .int p3)]) dX10_waves_45 rfl (by decide) (fun _ => rfl) (fun v13 => ?_)
      refine s_aload_n 1 dX10_waves_47 rfl rfl ?_
      refine s_aload_n 1 dX10_waves_48 rfl rfl ?_
      refine sm_ck (fun g14 => ?_)
      refine s_getR 63 dX10_waves_49 rfl fl_10_63 rfl (S_0 g14) (R_0_9 g14) ?_
      refine s_getR 65 dX10_waves_52 rfl fl_10_275 rfl (S_63 g14) (R_63_5 g14) ?_
      refine s_iload 0 dX10_waves_55 rfl rfl ?_
      refine s_callV2_v1 dX10_waves_57 rfl lkV_RX10_265 (S_0 g14) (Nat.le_of_ble_eq_true rfl) (Nat.le_of_ble_eq_true rfl) (Nat.le_of_ble_eq_true rfl) (ct_x10_layAll g14 (S_65 g14)) (fun I15 => ?_)
      refine s_iload 0 dX10_waves_60 rfl rfl ?_
      exact s_iret dX10_waves_62 rfl (fun f h => h)
    · skip
      refine s_bipush (v := (-2)) dX10_waves_28 rfl cB_m2 ?_
      exact s_iret dX10_waves_30 rfl (fun f h => h)
noncomputable def x9_sumOf_L5s (t : Nat) (a1 : Nat) (ln1 : Nat) (c2 : Int32) (I : MI) (rec : Int32 → Int32 → Option (Int32)) (w3 : Int32) (w4 : Int32) : Option (Int32) :=
if w4 < (I t 4) then (
if ((c2 >>> (w4 &&& 31)) &&& 1) = 0 then (
lt (w3 + 0) fun v6 =>
lt (w4 + 1) fun v7 =>
rec v6 v7) else
ck (vp_in w4 ln1) <|
lt (w3 + (I a1 (ix w4))) fun v4 =>
lt (w4 + 1) fun v5 =>
rec v4 v5) else
some w3
noncomputable def x9_sumOf_L5 (t : Nat) (a1 : Nat) (ln1 : Nat) (c2 : Int32) (I : MI) : Nat → Int32 → Int32 → Option (Int32)
  | 0 => fun _ _ => none
  | n + 1 => x9_sumOf_L5s t a1 ln1 c2 I (x9_sumOf_L5 t a1 ln1 c2 I n)
noncomputable def x9_sumOf (t : Nat) (a1 : Nat) (ln1 : Nat) (p2 : Int32) (I : MI) : Option (Int32) :=
lt (0 : Int32) fun v1 =>
lt (0 : Int32) fun v2 =>
b1 (x9_sumOf_L5 t a1 ln1 p2 I FU v1 v2) fun e8 =>
some e8
theorem x9_sumOf_L5_ok {X : WX} {n0 s0 : Nat} {t : Nat} {a1 : Nat} {ln1 : Nat} {c2 : Int32} {I : MI} {L : ML} {R : MR} {S : MS} (hK : okr R S) (ht : R 27 0 = some t ∧ isT t) (ha1 : S[a1]? = some (13, ln1)) : ∀ (n : Nat) (w3 : Int32) (w4 : Int32), Sim X yX9_sumOf cX9_sumOf 5 (some .int) 0 0 n0 s0 5 [(0, .ref (X.1 + 66)), (1, .ref (X.1 + a1)), (2, .int c2), (3, .int w3), (4, .int w4)] [] (I, L, R, S) (x9_sumOf_L5 t a1 ln1 c2 I n w3 w4) (fun b f => Ex X yX9_sumOf cX9_sumOf 5 (some .int) 0 0 n0 s0 46 [(3, .int b)] [] (I, L, R, S) f) := by
  intro n
  induction n with
  | zero =>
    intro w3 w4
    exact sm_none
  | succ n ih =>
    intro w3 w4
    change Sim _ _ _ _ _ _ _ _ _ _ _ _ _ (x9_sumOf_L5s t a1 ln1 c2 I (x9_sumOf_L5 t a1 ln1 c2 I n) w3 w4) _
    unfold x9_sumOf_L5s
    refine s_iload 4 dX9_sumOf_5 rfl rfl ?_
    refine s_aload_n 0 dX9_sumOf_7 rfl rfl ?_
    refine s_getR 27 dX9_sumOf_8 rfl fl_9_31 rfl (S_66 hK) (R_66_0 hK) ?_
    refine s_getR t dX9_sumOf_11 rfl fl_9_45 rfl (S_27 hK) ht.1 ?_
    refine s_getI dX9_sumOf_14 rfl fl_9_112 (tS_0 hK ht.2) ?_
    refine s_icmp_ge (tgt := 46) dX9_sumOf_17 rfl rfl (fun _ => ?_) (fun _ => ?_)
    · skip
      refine s_pick [3] rfl ?_
      exact sm_exit (fun f h => h)
    · skip
      refine s_iload_n 3 dX9_sumOf_20 rfl rfl ?_
      refine s_iload_n 2 dX9_sumOf_21 rfl rfl ?_
      refine s_iload 4 dX9_sumOf_22 rfl rfl ?_
      refine s_ishr dX9_sumOf_24 rfl ?_
      refine s_iconst (v := 1) dX9_sumOf_25 rfl cI_1 ?_
      refine s_iand dX9_sumOf_26 rfl ?_
      refine s_if_ne (tgt := 34) dX9_sumOf_27 rfl rfl (fun _ => ?_) (fun _ => ?_)
      · skip
        refine s_aload_n 1 dX9_sumOf_34 rfl rfl ?_
        refine s_iload 4 dX9_sumOf_35 rfl rfl ?_
        refine sm_ck (fun g3 => ?_)
        refine s_iald dX9_sumOf_37 rfl ha1 g3 ?_
        refine s_iadd dX9_sumOf_38 rfl ?_
        refine s_istore_nL (fun v4 => [(3, .int v4), (0, .ref (X.1 + 66)), (1, .ref (X.1 + a1)), (2, .int c2), (4, .int w4)]) dX9_sumOf_39 rfl (by decide) (fun _ => rfl) (fun v4 => ?_)
        refine s_iincL 4 (c := 1) (fun v5 => [(4, .int v5), (3, .int v4), (0, .ref (X.1 + 66)), (1, .ref (X.1 + a1)), (2, .int c2)]) dX9_sumOf_40 rfl rfl cI_1 (by decide) (fun _ => rfl) (fun v5 => ?_)
        refine s_goto (tgt := 5) dX9_sumOf_43 rfl ?_
        refine s_pick [2, 3, 4, 1, 0] rfl ?_
        exact ih v4 v5
      · skip
        refine s_iconst (v := 0) dX9_sumOf_30 rfl cI_0 ?_
        refine s_goto (tgt := 38) dX9_sumOf_31 rfl ?_
        refine s_iadd dX9_sumOf_38 rfl ?_
        refine s_istore_nL (fun v6 => [(3, .int v6), (0, .ref (X.1 + 66)), (1, .ref (X.1 + a1)), (2, .int c2), (4, .int w4)]) dX9_sumOf_39 rfl (by decide) (fun _ => rfl) (fun v6 => ?_)
        refine s_iincL 4 (c := 1) (fun v7 => [(4, .int v7), (3, .int v6), (0, .ref (X.1 + 66)), (1, .ref (X.1 + a1)), (2, .int c2)]) dX9_sumOf_40 rfl rfl cI_1 (by decide) (fun _ => rfl) (fun v7 => ?_)
        refine s_goto (tgt := 5) dX9_sumOf_43 rfl ?_
        refine s_pick [2, 3, 4, 1, 0] rfl ?_
        exact ih v6 v7
theorem ct_x9_sumOf {X : WX} {t : Nat} {a1 : Nat} {ln1 : Nat} {p2 : Int32} {I : MI} {L : ML} {R : MR} {S : MS} (hK : okr R S) (ht : R 27 0 = some t ∧ isT t) (ha1 : S[a1]? = some (13, ln1)) : Ct X yX9_sumOf cX9_sumOf 5 (some .int) 0 0 [.ref (X.1 + 66), .ref (X.1 + a1), .int p2] (I, L, R, S) (x9_sumOf t a1 ln1 p2 I) (fun r => (some (.int r), (I, L, R, S))) := by
  refine Ct.of (by decide) (Nat.le_of_ble_eq_true rfl) [(0, .ref (X.1 + 66)), (1, .ref (X.1 + a1)), (2, .int p2)] rfl ?_
  unfold x9_sumOf
  refine s_iconst (v := 0) dX9_sumOf_0 rfl cI_0 ?_
  refine s_istore_nL (fun v1 => [(3, .int v1), (0, .ref (X.1 + 66)), (1, .ref (X.1 + a1)), (2, .int p2)]) dX9_sumOf_1 rfl (by decide) (fun _ => rfl) (fun v1 => ?_)
  refine s_iconst (v := 0) dX9_sumOf_2 rfl cI_0 ?_
  refine s_istoreL (fun v2 => [(4, .int v2), (3, .int v1), (0, .ref (X.1 + 66)), (1, .ref (X.1 + a1)), (2, .int p2)]) dX9_sumOf_3 rfl (by decide) (fun _ => rfl) (fun v2 => ?_)
  refine s_pick [2, 3, 4, 1, 0] rfl ?_
  refine sm_reg (x9_sumOf_L5_ok hK ht ha1 FU v1 v2) (fun e8 => ?_)
  refine s_iload_n 0 dX9_sumOf_46 rfl rfl ?_
  exact s_iret dX9_sumOf_47 rfl (fun f h => h)
noncomputable def x9_fillRoom_L3s (t : Nat) (q1 : Nat) (c2 : Int32) (rec : Int32 → MI → Option (MI)) (w5 : Int32) (I : MI) : Option (MI) :=
if w5 < (I t 4) then (
b2 (x1_oddsOf t q1 c2 w5 (0 : Int32) I) fun r2 I3 =>
lt r2 fun v4 =>
if v4 = 0 then (
ck (vp_in w5 10) <|
lt (wI I3 81 (ix w5) (9999 : Int32)) fun I9 =>
lt (w5 + 1) fun v11 =>
rec v11 I9) else
ck (¬ v4 = 0) <|
ck (vp_in w5 10) <|
lt (wI I3 81 (ix w5) (1000 / v4)) fun I6 =>
lt (w5 + 1) fun v8 =>
rec v8 I6) else
some I
noncomputable def x9_fillRoom_L3 (t : Nat) (q1 : Nat) (c2 : Int32) : Nat → Int32 → MI → Option (MI)
  | 0 => fun _ _ => none
  | n + 1 => x9_fillRoom_L3s t q1 c2 (x9_fillRoom_L3 t q1 c2 n)
noncomputable def x9_fillRoom_L75s (t : Nat) (q1 : Nat) (c3 : Int32) (c4 : Int32) (rec : Int32 → MI → Option (MI)) (w5 : Int32) (I : MI) : Option (MI) :=
if c3 < w5 then (
some I) else
if (w5 &&& (c3 ^^^ (-1))) = 0 then (
b1 (x9_sumOf t (q1 + 5) 10 w5 I) fun r17 =>
if c4 < r17 then (
lt (w5 + 1) fun v18 =>
rec v18 I) else
b1 (x9_sumOf t 81 10 w5 I) fun r19 =>
if (I 66 10) < r19 then (
lt (wI I 66 9 w5) fun I21 =>
b1 (x9_sumOf t 81 10 w5 I21) fun r22 =>
lt (wI I21 66 10 r22) fun I23 =>
lt (w5 + 1) fun v24 =>
rec v24 I23) else
lt (w5 + 1) fun v20 =>
rec v20 I) else
lt (w5 + 1) fun v16 =>
rec v16 I
noncomputable def x9_fillRoom_L75 (t : Nat) (q1 : Nat) (c3 : Int32) (c4 : Int32) : Nat → Int32 → MI → Option (MI)
  | 0 => fun _ _ => none
  | n + 1 => x9_fillRoom_L75s t q1 c3 c4 (x9_fillRoom_L75 t q1 c3 c4 n)
noncomputable def x9_fillRoom (t : Nat) (q1 : Nat) (p2 : Int32) (p3 : Int32) (p4 : Int32) (I : MI) : Option (MI) :=
lt (0 : Int32) fun v1 =>
b1 (x9_fillRoom_L3 t q1 p2 FU v1 I) fun e12 =>
lt (wI e12 66 9 (0 : Int32)) fun I13 =>
lt (wI I13 66 10 (0 : Int32)) fun I14 =>
lt (1 : Int32) fun v15 =>
b1 (x9_fillRoom_L75 t q1 p3 p4 FU v15 I14) fun e25 =>
some e25
theorem x9_fillRoom_L3_ok {X : WX} {n0 s0 : Nat} {t : Nat} {q1 : Nat} {c2 : Int32} {c3 : Int32} {c4 : Int32} {L : ML} {R : MR} {S : MS} (hK : okr R S) (ht : R 27 0 = some t ∧ isT t) (hq1 : isSt R S q1) : ∀ (n : Nat) (w5 : Int32) (I : MI), Sim X yX9_fillRoom cX9_fillRoom 7 none 4 97 n0 s0 3 [(0, .ref (X.1 + 66)), (1, .ref (X.1 + q1)), (2, .int c2), (3, .int c3), (4, .int c4), (5, .int w5)] [] (I, L, R, S) (x9_fillRoom_L3 t q1 c2 n w5 I) (fun b f => Ex X yX9_fillRoom cX9_fillRoom 7 none 4 97 n0 s0 62 [(0, .ref (X.1 + 66)), (1, .ref (X.1 + q1)), (3, .int c3), (4, .int c4)] [] (b, L, R, S) f) := by
  intro n
  induction n with
  | zero =>
    intro w5 I
    exact sm_none
  | succ n ih =>
    intro w5 I
    change Sim _ _ _ _ _ _ _ _ _ _ _ _ _ (x9_fillRoom_L3s t q1 c2 (x9_fillRoom_L3 t q1 c2 n) w5 I) _
    unfold x9_fillRoom_L3s
    refine s_iload 5 dX9_fillRoom_3 rfl rfl ?_
    refine s_aload_n 0 dX9_fillRoom_5 rfl rfl ?_
    refine s_getR 27 dX9_fillRoom_6 rfl fl_9_31 rfl (S_66 hK) (R_66_0 hK) ?_
    refine s_getR t dX9_fillRoom_9 rfl fl_9_45 rfl (S_27 hK) ht.1 ?_
    refine s_getI dX9_fillRoom_12 rfl fl_9_112 (tS_0 hK ht.2) ?_
    refine s_icmp_ge (tgt := 62) dX9_fillRoom_15 rfl rfl (fun _ => ?_) (fun _ => ?_)
    · skip
      refine s_pick [0, 1, 3, 4] rfl ?_
      exact sm_exit (fun f h => h)
    · skip
      refine s_aload_n 0 dX9_fillRoom_18 rfl rfl ?_
      refine s_getR 27 dX9_fillRoom_19 rfl fl_9_31 rfl (S_66 hK) (R_66_0 hK) ?_
      refine s_aload_n 1 dX9_fillRoom_22 rfl rfl ?_
      refine s_iload_n 2 dX9_fillRoom_23 rfl rfl ?_
      refine s_iload 5 dX9_fillRoom_24 rfl rfl ?_
      refine s_iconst (v := 0) dX9_fillRoom_26 rfl cI_0 ?_
      refine s_callV4_i1 dX9_fillRoom_27 rfl lkV_RX9_126 (S_27 hK) (Nat.le_of_ble_eq_true rfl) (Nat.le_of_ble_eq_true rfl) (Nat.le_of_ble_eq_true rfl) (ct_x1_oddsOf hK ht hq1) (fun r2 I3 => ?_)
      refine s_istoreL (fun v4 => [(6, .int v4), (0, .ref (X.1 + 66)), (1, .ref (X.1 + q1)), (2, .int c2), (3, .int c3), (4, .int c4), (5, .int w5)]) dX9_fillRoom_30 rfl (by decide) (fun _ => rfl) (fun v4 => ?_)
      refine s_aload_n 1 dX9_fillRoom_32 rfl rfl ?_
      refine s_getR 81 dX9_fillRoom_33 rfl fl_9_25 rfl (S_66 hK) (R_66_4 hK) ?_
      refine s_iload 6 dX9_fillRoom_36 rfl rfl ?_
      refine s_iload 0 dX9_fillRoom_38 rfl rfl ?_
      refine s_if_ne (tgt := 49) dX9_fillRoom_40 rfl rfl (fun _ => ?_) (fun _ => ?_)
      · skip
        refine s_sipush (v := 1000) dX9_fillRoom_49 rfl cS_1000 ?_
        refine s_iload 0 dX9_fillRoom_52 rfl rfl ?_
        refine sm_ck (fun g5 => ?_)
        refine s_idiv dX9_fillRoom_54 rfl g5 ?_
        refine sm_ck (fun g7 => ?_)
        refine s_iastL dX9_fillRoom_55 rfl (S_81 hK) g7 (fun I6 => ?_)
        refine s_iincL 6 (c := 1) (fun v8 => [(5, .int v8), (6, .int v4), (0, .ref (X.1 + 66)), (1, .ref (X.1 + q1)), (2, .int c2), (3, .int c3), (4, .int c4)]) dX9_fillRoom_56 rfl rfl cI_1 (by decide) (fun _ => rfl) (fun v8 => ?_)
        refine s_goto (tgt := 3) dX9_fillRoom_59 rfl ?_
        refine s_pick [2, 3, 4, 5, 6, 0] rfl ?_
        exact ih v8 I6
      · skip
        refine s_sipush (v := 9999) dX9_fillRoom_43 rfl cS_9999 ?_
        refine s_goto (tgt := 55) dX9_fillRoom_46 rfl ?_
        refine sm_ck (fun g10 => ?_)
        refine s_iastL dX9_fillRoom_55 rfl (S_81 hK) g10 (fun I9 => ?_)
        refine s_iincL 6 (c := 1) (fun v11 => [(5, .int v11), (6, .int v4), (0, .ref (X.1 + 66)), (1, .ref (X.1 + q1)), (2, .int c2), (3, .int c3), (4, .int c4)]) dX9_fillRoom_56 rfl rfl cI_1 (by decide) (fun _ => rfl) (fun v11 => ?_)
        refine s_goto (tgt := 3) dX9_fillRoom_59 rfl ?_
        refine s_pick [2, 3, 4, 5, 6, 0] rfl ?_
        exact ih v11 I9
theorem x9_fillRoom_L75_ok {X : WX} {n0 s0 : Nat} {t : Nat} {q1 : Nat} {c3 : Int32} {c4 : Int32} {L : ML} {R : MR} {S : MS} (hK : okr R S) (ht : R 27 0 = some t ∧ isT t) (hq1 : isSt R S q1) : ∀ (n : Nat) (w5 : Int32) (I : MI), Sim X yX9_fillRoom cX9_fillRoom 7 none 4 97 n0 s0 75 [(0, .ref (X.1 + 66)), (1, .ref (X.1 + q1)), (3, .int c3), (4, .int c4), (5, .int w5)] [] (I, L, R, S) (x9_fillRoom_L75 t q1 c3 c4 n w5 I) (fun b f => Ex X yX9_fillRoom cX9_fillRoom 7 none 4 97 n0 s0 148 [] [] (b, L, R, S) f) := by
  intro n
  induction n with
  | zero =>
    intro w5 I
    exact sm_none
  | succ n ih =>
    intro w5 I
    change Sim _ _ _ _ _ _ _ _ _ _ _ _ _ (x9_fillRoom_L75s t q1 c3 c4 (x9_fillRoom_L75 t q1 c3 c4 n) w5 I) _
    unfold x9_fillRoom_L75s
    refine s_iload 4 dX9_fillRoom_75 rfl rfl ?_
    refine s_iload_n 2 dX9_fillRoom_77 rfl rfl ?_
    refine s_icmp_gt (tgt := 148) dX9_fillRoom_78 rfl rfl (fun _ => ?_) (fun _ => ?_)
    · skip
      refine s_pick [] rfl ?_
      exact sm_exit (fun f h => h)
    · skip
      refine s_iload 4 dX9_fillRoom_81 rfl rfl ?_
      refine s_iload_n 2 dX9_fillRoom_83 rfl rfl ?_
      refine s_iconst (v := (-1)) dX9_fillRoom_84 rfl cI_m1 ?_
      refine s_ixor dX9_fillRoom_85 rfl ?_
      refine s_iand dX9_fillRoom_86 rfl ?_
      refine s_if_ne (tgt := 142) dX9_fillRoom_87 rfl rfl (fun _ => ?_) (fun _ => ?_)
      · skip
        refine s_iincL 4 (c := 1) (fun v16 => [(5, .int v16), (0, .ref (X.1 + 66)), (1, .ref (X.1 + q1)), (3, .int c3), (4, .int c4)]) dX9_fillRoom_142 rfl rfl cI_1 (by decide) (fun _ => rfl) (fun v16 => ?_)
        refine s_goto (tgt := 75) dX9_fillRoom_145 rfl ?_
        refine s_pick [1, 2, 3, 4, 0] rfl ?_
        exact ih v16 I
      · skip
        refine s_aload_n 0 dX9_fillRoom_90 rfl rfl ?_
        refine s_aload_n 1 dX9_fillRoom_91 rfl rfl ?_
        refine s_getR (q1 + 5) dX9_fillRoom_92 rfl fl_9_136 rfl (qS_0 hq1) (qR_4 hq1) ?_
        refine s_iload 4 dX9_fillRoom_95 rfl rfl ?_
        refine s_callV2_i0 dX9_fillRoom_97 rfl lkV_RX9_139 (S_66 hK) (Nat.le_of_ble_eq_true rfl) (Nat.le_of_ble_eq_true rfl) (Nat.le_of_ble_eq_true rfl) (ct_x9_sumOf hK ht (qS_5 hq1)) (fun r17 => ?_)
        refine s_iload 3 dX9_fillRoom_100 rfl rfl ?_
        refine s_icmp_gt (tgt := 142) dX9_fillRoom_102 rfl rfl (fun _ => ?_) (fun _ => ?_)
        · skip
          refine s_iincL 4 (c := 1) (fun v18 => [(5, .int v18), (0, .ref (X.1 + 66)), (1, .ref (X.1 + q1)), (3, .int c3), (4, .int c4)]) dX9_fillRoom_142 rfl rfl cI_1 (by decide) (fun _ => rfl) (fun v18 => ?_)
          refine s_goto (tgt := 75) dX9_fillRoom_145 rfl ?_
          refine s_pick [1, 2, 3, 4, 0] rfl ?_
          exact ih v18 I
        · skip
          refine s_aload_n 0 dX9_fillRoom_105 rfl rfl ?_
          refine s_aload_n 0 dX9_fillRoom_106 rfl rfl ?_
          refine s_getR 81 dX9_fillRoom_107 rfl fl_9_25 rfl (S_66 hK) (R_66_4 hK) ?_
          refine s_iload 4 dX9_fillRoom_110 rfl rfl ?_
          refine s_callV2_i0 dX9_fillRoom_112 rfl lkV_RX9_139 (S_66 hK) (Nat.le_of_ble_eq_true rfl) (Nat.le_of_ble_eq_true rfl) (Nat.le_of_ble_eq_true rfl) (ct_x9_sumOf hK ht (S_81 hK)) (fun r19 => ?_)
          refine s_aload_n 0 dX9_fillRoom_115 rfl rfl ?_
          refine s_getI dX9_fillRoom_116 rfl fl_9_133 (S_66 hK) ?_
          refine s_icmp_le (tgt := 142) dX9_fillRoom_119 rfl rfl (fun _ => ?_) (fun _ => ?_)
          · skip
            refine s_iincL 4 (c := 1) (fun v20 => [(5, .int v20), (0, .ref (X.1 + 66)), (1, .ref (X.1 + q1)), (3, .int c3), (4, .int c4)]) dX9_fillRoom_142 rfl rfl cI_1 (by decide) (fun _ => rfl) (fun v20 => ?_)
            refine s_goto (tgt := 75) dX9_fillRoom_145 rfl ?_
            refine s_pick [1, 2, 3, 4, 0] rfl ?_
            exact ih v20 I
          · skip
            refine s_aload_n 0 dX9_fillRoom_122 rfl rfl ?_
            refine s_iload 4 dX9_fillRoom_123 rfl rfl ?_
            refine s_putIL dX9_fillRoom_125 rfl fl_9_130 (S_66 hK) (fun I21 => ?_)
            refine s_aload_n 0 dX9_fillRoom_128 rfl rfl ?_
            refine s_aload_n 0 dX9_fillRoom_129 rfl rfl ?_
            refine s_aload_n 0 dX9_fillRoom_130 rfl rfl ?_
            refine s_getR 81 dX9_fillRoom_131 rfl fl_9_25 rfl (S_66 hK) (R_66_4 hK) ?_
            refine s_iload 4 dX9_fillRoom_134 rfl rfl ?_
            refine s_callV2_i0 dX9_fillRoom_136 rfl lkV_RX9_139 (S_66 hK) (Nat.le_of_ble_eq_true rfl) (Nat.le_of_ble_eq_true rfl) (Nat.le_of_ble_eq_true rfl) (ct_x9_sumOf hK ht (S_81 hK)) (fun r22 => ?_)
            refine s_putIL dX9_fillRoom_139 rfl fl_9_133 (S_66 hK) (fun I23 => ?_)
            refine s_iincL 4 (c := 1) (fun v24 => [(5, .int v24), (0, .ref (X.1 + 66)), (1, .ref (X.1 + q1)), (3, .int c3), (4, .int c4)]) dX9_fillRoom_142 rfl rfl cI_1 (by decide) (fun _ => rfl) (fun v24 => ?_)
            refine s_goto (tgt := 75) dX9_fillRoom_145 rfl ?_
            refine s_pick [1, 2, 3, 4, 0] rfl ?_
            exact ih v24 I23
theorem ct_x9_fillRoom {X : WX} {t : Nat} {q1 : Nat} {p2 : Int32} {p3 : Int32} {p4 : Int32} {I : MI} {L : ML} {R : MR} {S : MS} (hK : okr R S) (ht : R 27 0 = some t ∧ isT t) (hq1 : isSt R S q1) : Ct X yX9_fillRoom cX9_fillRoom 7 none 4 97 [.ref (X.1 + 66), .ref (X.1 + q1), .int p2, .int p3, .int p4] (I, L, R, S) (x9_fillRoom t q1 p2 p3 p4 I) (fun r => (none, (r, L, R, S))) := by
  refine Ct.of (by decide) (Nat.le_of_ble_eq_true rfl) [(0, .ref (X.1 + 66)), (1, .ref (X.1 + q1)), (2, .int p2), (3, .int p3), (4, .int p4)] rfl ?_
  unfold x9_fillRoom
  refine s_iconst (v := 0) dX9_fillRoom_0 rfl cI_0 ?_
  refine s_istoreL (fun v1 => [(5, .int v1), (0, .ref (X.1 + 66)), (1, .ref (X.1 + q1)), (2, .int p2), (3, .int p3), (4, .int p4)]) dX9_fillRoom_1 rfl (by decide) (fun _ => rfl) (fun v1 => ?_)
  refine s_pick [1, 2, 3, 4, 5, 0] rfl ?_
  refine sm_reg (x9_fillRoom_L3_ok hK ht hq1 FU v1 I) (fun e12 => ?_)
  refine s_aload_n 0 dX9_fillRoom_62 rfl rfl ?_
  refine s_iconst (v := 0) dX9_fillRoom_63 rfl cI_0 ?_
  refine s_putIL dX9_fillRoom_64 rfl fl_9_130 (S_66 hK) (fun I13 => ?_)
  refine s_aload_n 0 dX9_fillRoom_67 rfl rfl ?_
  refine s_iconst (v := 0) dX9_fillRoom_68 rfl cI_0 ?_
  refine s_putIL dX9_fillRoom_69 rfl fl_9_133 (S_66 hK) (fun I14 => ?_)
  refine s_iconst (v := 1) dX9_fillRoom_72 rfl cI_1 ?_
  refine s_istoreL (fun v15 => [(5, .int v15), (0, .ref (X.1 + 66)), (1, .ref (X.1 + q1)), (3, .int p3), (4, .int p4)]) dX9_fillRoom_73 rfl (by decide) (fun _ => rfl) (fun v15 => ?_)
  refine s_pick [1, 2, 3, 4, 0] rfl ?_
  refine sm_reg (x9_fillRoom_L75_ok hK ht hq1 FU v15 I14) (fun e25 => ?_)
  exact s_vret dX9_fillRoom_148 rfl (fun f h => h)
noncomputable def x10_fill (t : Nat) (p1 : Int32) (p2 : Int32) (p3 : Int32) (I : MI) : Option (Int32 × MI) :=
b1 (x10_isBobber t p1 I) fun r1 =>
if r1 = 0 then (
some ((-1 : Int32), I)) else
if p2 < 0 then (
some ((-1 : Int32), I)) else
if 999 < p2 then (
some ((-1 : Int32), I)) else
if p3 < 0 then (
some ((-1 : Int32), I)) else
if 1 < p3 then (
some ((-1 : Int32), I)) else
b1 (x10_afloatSet t I) fun r2 =>
b1 (x9_fillRoom t 47 p1 r2 p2 I) fun I3 =>
if p3 = 0 then (
some ((I3 66 9), I3)) else
some ((I3 66 10), I3)
theorem ct_x10_fill {X : WX} {t : Nat} {p1 : Int32} {p2 : Int32} {p3 : Int32} {I : MI} {L : ML} {R : MR} {S : MS} (hK : okr R S) (ht : R 27 0 = some t ∧ isT t) : Ct X yX10_fill cX10_fill 4 (some .int) 5 123 [.ref (X.1 + 0), .int p1, .int p2, .int p3] (I, L, R, S) (x10_fill t p1 p2 p3 I) (fun r => (some (.int r.1), (r.2, L, R, S))) := by
  refine Ct.of (by decide) (Nat.le_of_ble_eq_true rfl) [(0, .ref (X.1 + 0)), (1, .int p1), (2, .int p2), (3, .int p3)] rfl ?_
  unfold x10_fill
  refine s_aload_n 0 dX10_fill_0 rfl rfl ?_
  refine s_iload_n 1 dX10_fill_1 rfl rfl ?_
  refine s_callV1_i0 dX10_fill_2 rfl lkV_RX10_143 (S_0 hK) (Nat.le_of_ble_eq_true rfl) (Nat.le_of_ble_eq_true rfl) (Nat.le_of_ble_eq_true rfl) (ct_x10_isBobber hK ht) (fun r1 => ?_)
  refine s_if_eq (tgt := 28) dX10_fill_5 rfl rfl (fun _ => ?_) (fun _ => ?_)
  · skip
    refine s_iconst (v := (-1)) dX10_fill_28 rfl cI_m1 ?_
    exact s_iret dX10_fill_29 rfl (fun f h => h)
  · skip
    refine s_iload_n 2 dX10_fill_8 rfl rfl ?_
    refine s_if_lt (tgt := 28) dX10_fill_9 rfl rfl (fun _ => ?_) (fun _ => ?_)
    · skip
      refine s_iconst (v := (-1)) dX10_fill_28 rfl cI_m1 ?_
      exact s_iret dX10_fill_29 rfl (fun f h => h)
    · skip
      refine s_iload_n 2 dX10_fill_12 rfl rfl ?_
      refine s_sipush (v := 999) dX10_fill_13 rfl cS_999 ?_
      refine s_icmp_gt (tgt := 28) dX10_fill_16 rfl rfl (fun _ => ?_) (fun _ => ?_)
      · skip
        refine s_iconst (v := (-1)) dX10_fill_28 rfl cI_m1 ?_
        exact s_iret dX10_fill_29 rfl (fun f h => h)
      · skip
        refine s_iload_n 3 dX10_fill_19 rfl rfl ?_
        refine s_if_lt (tgt := 28) dX10_fill_20 rfl rfl (fun _ => ?_) (fun _ => ?_)
        · skip
          refine s_iconst (v := (-1)) dX10_fill_28 rfl cI_m1 ?_
          exact s_iret dX10_fill_29 rfl (fun f h => h)
        · skip
          refine s_iload_n 3 dX10_fill_23 rfl rfl ?_
          refine s_iconst (v := 1) dX10_fill_24 rfl cI_1 ?_
          refine s_icmp_le (tgt := 30) dX10_fill_25 rfl rfl (fun _ => ?_) (fun _ => ?_)
          · skip
            refine s_aload_n 0 dX10_fill_30 rfl rfl ?_
            refine s_getR 66 dX10_fill_31 rfl fl_10_70 rfl (S_0 hK) (R_0_10 hK) ?_
            refine s_aload_n 0 dX10_fill_34 rfl rfl ?_
            refine s_getR 47 dX10_fill_35 rfl fl_10_39 rfl (S_0 hK) (R_0_5 hK) ?_
            refine s_iload_n 1 dX10_fill_38 rfl rfl ?_
            refine s_aload_n 0 dX10_fill_39 rfl rfl ?_
            refine s_callV0_i0 dX10_fill_40 rfl lkV_RX10_281 (S_0 hK) (Nat.le_of_ble_eq_true rfl) (Nat.le_of_ble_eq_true rfl) (Nat.le_of_ble_eq_true rfl) (ct_x10_afloatSet hK ht) (fun r2 => ?_)
            refine s_iload_n 2 dX10_fill_43 rfl rfl ?_
            refine s_callV4_v1 dX10_fill_44 rfl lkV_RX10_302 (S_66 hK) (Nat.le_of_ble_eq_true rfl) (Nat.le_of_ble_eq_true rfl) (Nat.le_of_ble_eq_true rfl) (ct_x9_fillRoom hK ht (st_47 hK)) (fun I3 => ?_)
            refine s_iload_n 3 dX10_fill_47 rfl rfl ?_
            refine s_if_ne (tgt := 61) dX10_fill_48 rfl rfl (fun _ => ?_) (fun _ => ?_)
            · skip
              refine s_aload_n 0 dX10_fill_61 rfl rfl ?_
              refine s_getR 66 dX10_fill_62 rfl fl_10_70 rfl (S_0 hK) (R_0_10 hK) ?_
              refine s_getI dX10_fill_65 rfl fl_10_309 (S_66 hK) ?_
              exact s_iret dX10_fill_68 rfl (fun f h => h)
            · skip
              refine s_aload_n 0 dX10_fill_51 rfl rfl ?_
              refine s_getR 66 dX10_fill_52 rfl fl_10_70 rfl (S_0 hK) (R_0_10 hK) ?_
              refine s_getI dX10_fill_55 rfl fl_10_306 (S_66 hK) ?_
              refine s_goto (tgt := 68) dX10_fill_58 rfl ?_
              exact s_iret dX10_fill_68 rfl (fun f h => h)
          · skip
            refine s_iconst (v := (-1)) dX10_fill_28 rfl cI_m1 ?_
            exact s_iret dX10_fill_29 rfl (fun f h => h)
noncomputable def x10_commonDivisor_L2s (c0 : Int32) (c1 : Int32) (rec : Int32 → Option ((Unit) ⊕ (Int32))) (w2 : Int32) : Option ((Unit) ⊕ (Int32)) :=
if 1 < w2 then (
ck (¬ w2 = 0) <|
if (rm c0 w2) = 0 then (
ck (¬ w2 = 0) <|
if (rm c1 w2) = 0 then (
some (.inr w2)) else
lt (w2 + (-1)) fun v5 =>
rec v5) else
lt (w2 + (-1)) fun v3 =>
rec v3) else
some (.inl ())
noncomputable def x10_commonDivisor_L2 (c0 : Int32) (c1 : Int32) : Nat → Int32 → Option ((Unit) ⊕ (Int32))
  | 0 => fun _ => none
  | n + 1 => x10_commonDivisor_L2s c0 c1 (x10_commonDivisor_L2 c0 c1 n)
noncomputable def x10_commonDivisor (p0 : Int32) (p1 : Int32) (I : MI) : Option (Int32) :=
lt p1 fun v1 =>
bE (x10_commonDivisor_L2 p0 p1 FU v1) fun e6 =>
some (1 : Int32)
theorem x10_commonDivisor_L2_ok {X : WX} {n0 s0 : Nat} {c0 : Int32} {c1 : Int32} {I : MI} {L : ML} {R : MR} {S : MS} (hK : okr R S) : ∀ (n : Nat) (w2 : Int32), Sim X yX10_commonDivisor cX10_commonDivisor 3 (some .int) 0 0 n0 s0 2 [(0, .int c0), (1, .int c1), (2, .int w2)] [] (I, L, R, S) (x10_commonDivisor_L2 c0 c1 n w2) (SE (fun b f => Ex X yX10_commonDivisor cX10_commonDivisor 3 (some .int) 0 0 n0 s0 27 [] [] (I, L, R, S) f) (fun a f => f = (fun r => (some (.int r), (I, L, R, S))) a)) := by
  intro n
  induction n with
  | zero =>
    intro w2
    exact sm_none
  | succ n ih =>
    intro w2
    change Sim _ _ _ _ _ _ _ _ _ _ _ _ _ (x10_commonDivisor_L2s c0 c1 (x10_commonDivisor_L2 c0 c1 n) w2) _
    unfold x10_commonDivisor_L2s
    refine s_iload_n 2 dX10_commonDivisor_2 rfl rfl ?_
    refine s_iconst (v := 1) dX10_commonDivisor_3 rfl cI_1 ?_
    refine s_icmp_le (tgt := 27) dX10_commonDivisor_4 rfl rfl (fun _ => ?_) (fun _ => ?_)
    · skip
      refine s_pick [] rfl ?_
      exact sm_exit (fun f h => h)
    · skip
      refine s_iload_n 0 dX10_commonDivisor_7 rfl rfl ?_
      refine s_iload_n 2 dX10_commonDivisor_8 rfl rfl ?_
      refine sm_ck (fun g2 => ?_)
      refine s_irem dX10_commonDivisor_9 rfl g2 ?_
      refine s_if_ne (tgt := 21) dX10_commonDivisor_10 rfl rfl (fun _ => ?_) (fun _ => ?_)
      · skip
        refine s_iincL 2 (c := (-1)) (fun v3 => [(2, .int v3), (0, .int c0), (1, .int c1)]) dX10_commonDivisor_21 rfl rfl cI_m1 (by decide) (fun _ => rfl) (fun v3 => ?_)
        refine s_goto (tgt := 2) dX10_commonDivisor_24 rfl ?_
        refine s_pick [1, 2, 0] rfl ?_
        exact ih v3
      · skip
        refine s_iload_n 1 dX10_commonDivisor_13 rfl rfl ?_
        refine s_iload_n 2 dX10_commonDivisor_14 rfl rfl ?_
        refine sm_ck (fun g4 => ?_)
        refine s_irem dX10_commonDivisor_15 rfl g4 ?_
        refine s_if_ne (tgt := 21) dX10_commonDivisor_16 rfl rfl (fun _ => ?_) (fun _ => ?_)
        · skip
          refine s_iincL 2 (c := (-1)) (fun v5 => [(2, .int v5), (0, .int c0), (1, .int c1)]) dX10_commonDivisor_21 rfl rfl cI_m1 (by decide) (fun _ => rfl) (fun v5 => ?_)
          refine s_goto (tgt := 2) dX10_commonDivisor_24 rfl ?_
          refine s_pick [1, 2, 0] rfl ?_
          exact ih v5
        · skip
          refine s_iload_n 2 dX10_commonDivisor_19 rfl rfl ?_
          exact s_iret dX10_commonDivisor_20 rfl (fun f h => h)
theorem ct_x10_commonDivisor {X : WX} {p0 : Int32} {p1 : Int32} {I : MI} {L : ML} {R : MR} {S : MS} (hK : okr R S) : Ct X yX10_commonDivisor cX10_commonDivisor 3 (some .int) 0 0 [.int p0, .int p1] (I, L, R, S) (x10_commonDivisor p0 p1 I) (fun r => (some (.int r), (I, L, R, S))) := by
  refine Ct.of (by decide) (Nat.le_of_ble_eq_true rfl) [(0, .int p0), (1, .int p1)] rfl ?_
  unfold x10_commonDivisor
  refine s_iload_n 1 dX10_commonDivisor_0 rfl rfl ?_
  refine s_istore_nL (fun v1 => [(2, .int v1), (0, .int p0), (1, .int p1)]) dX10_commonDivisor_1 rfl (by decide) (fun _ => rfl) (fun v1 => ?_)
  refine s_pick [1, 2, 0] rfl ?_
  refine sm_regE (x10_commonDivisor_L2_ok hK FU v1) (fun e6 => ?_)
  refine s_iconst (v := 1) dX10_commonDivisor_27 rfl cI_1 ?_
  exact s_iret dX10_commonDivisor_28 rfl (fun f h => h)
noncomputable def x10_coin_L24s (t : Nat) (I : MI) (rec : Int32 → Int32 → Option (Int32)) (w3 : Int32) (w4 : Int32) : Option (Int32) :=
if w4 < (I t 4) then (
b1 (x10_isAfloat t w4 I) fun r4 =>
if r4 = 0 then (
lt (w4 + 1) fun v5 =>
rec w3 v5) else
ck (vp_in w4 10) <|
lt (w3 + (I (t + 6) (ix w4))) fun v7 =>
lt (w4 + 1) fun v8 =>
rec v7 v8) else
some w3
noncomputable def x10_coin_L24 (t : Nat) (I : MI) : Nat → Int32 → Int32 → Option (Int32)
  | 0 => fun _ _ => none
  | n + 1 => x10_coin_L24s t I (x10_coin_L24 t I n)
noncomputable def x10_coin (t : Nat) (p1 : Int32) (p2 : Int32) (I : MI) : Option (Int32) :=
b1 (x10_isApple t p1 I) fun r1 =>
if r1 = 0 then (
some (-1 : Int32)) else
if p2 < 0 then (
some (-1 : Int32)) else
if 1 < p2 then (
some (-1 : Int32)) else
lt (0 : Int32) fun v2 =>
lt (0 : Int32) fun v3 =>
b1 (x10_coin_L24 t I FU v2 v3) fun e9 =>
b1 (x10_isAfloat t p1 I) fun r10 =>
b1 (
if r10 = 0 then (
some (0 : Int32)) else
ck (vp_in p1 10) <|
some (I (t + 6) (ix p1))) fun e11 =>
lt e11 fun v13 =>
if v13 = 0 then (
some p2) else
b1 (x10_commonDivisor e9 v13 I) fun r14 =>
lt r14 fun v15 =>
if p2 = 0 then (
ck (¬ (if (1 : Int32) < v15 then v15 else 1) = 0) <|
some (v13 / (if (1 : Int32) < v15 then v15 else 1))) else
ck (¬ (if (1 : Int32) < v15 then v15 else 1) = 0) <|
some (e9 / (if (1 : Int32) < v15 then v15 else 1))
theorem x10_coin_L24_ok {X : WX} {n0 s0 : Nat} {t : Nat} {c1 : Int32} {c2 : Int32} {I : MI} {L : ML} {R : MR} {S : MS} (hK : okr R S) (ht : R 27 0 = some t ∧ isT t) : ∀ (n : Nat) (w3 : Int32) (w4 : Int32), Sim X yX10_coin cX10_coin 6 (some .int) 2 42 n0 s0 24 [(0, .ref (X.1 + 0)), (1, .int c1), (2, .int c2), (3, .int w3), (4, .int w4)] [] (I, L, R, S) (x10_coin_L24 t I n w3 w4) (fun b f => Ex X yX10_coin cX10_coin 6 (some .int) 2 42 n0 s0 70 [(0, .ref (X.1 + 0)), (1, .int c1), (2, .int c2), (3, .int b)] [] (I, L, R, S) f) := by
  intro n
  induction n with
  | zero =>
    intro w3 w4
    exact sm_none
  | succ n ih =>
    intro w3 w4
    change Sim _ _ _ _ _ _ _ _ _ _ _ _ _ (x10_coin_L24s t I (x10_coin_L24 t I n) w3 w4) _
    unfold x10_coin_L24s
    refine s_iload 4 dX10_coin_24 rfl rfl ?_
    refine s_aload_n 0 dX10_coin_26 rfl rfl ?_
    refine s_getR 27 dX10_coin_27 rfl fl_10_32 rfl (S_0 hK) (R_0_4 hK) ?_
    refine s_getR t dX10_coin_30 rfl fl_10_87 rfl (S_27 hK) ht.1 ?_
    refine s_getI dX10_coin_33 rfl fl_10_115 (tS_0 hK ht.2) ?_
    refine s_icmp_ge (tgt := 70) dX10_coin_36 rfl rfl (fun _ => ?_) (fun _ => ?_)
    · skip
      refine s_pick [0, 1, 2, 3] rfl ?_
      exact sm_exit (fun f h => h)
    · skip
      refine s_aload_n 0 dX10_coin_39 rfl rfl ?_
      refine s_iload 4 dX10_coin_40 rfl rfl ?_
      refine s_callV1_i0 dX10_coin_42 rfl lkV_RX10_269 (S_0 hK) (Nat.le_of_ble_eq_true rfl) (Nat.le_of_ble_eq_true rfl) (Nat.le_of_ble_eq_true rfl) (ct_x10_isAfloat hK ht) (fun r4 => ?_)
      refine s_if_eq (tgt := 64) dX10_coin_45 rfl rfl (fun _ => ?_) (fun _ => ?_)
      · skip
        refine s_iincL 4 (c := 1) (fun v5 => [(4, .int v5), (0, .ref (X.1 + 0)), (1, .int c1), (2, .int c2), (3, .int w3)]) dX10_coin_64 rfl rfl cI_1 (by decide) (fun _ => rfl) (fun v5 => ?_)
        refine s_goto (tgt := 24) dX10_coin_67 rfl ?_
        refine s_pick [1, 2, 3, 4, 0] rfl ?_
        exact ih w3 v5
      · skip
        refine s_iload_n 3 dX10_coin_48 rfl rfl ?_
        refine s_aload_n 0 dX10_coin_49 rfl rfl ?_
        refine s_getR 27 dX10_coin_50 rfl fl_10_32 rfl (S_0 hK) (R_0_4 hK) ?_
        refine s_getR t dX10_coin_53 rfl fl_10_87 rfl (S_27 hK) ht.1 ?_
        refine s_getR (t + 6) dX10_coin_56 rfl fl_10_312 rfl (tS_0 hK ht.2) (tR_0_10 hK ht.2) ?_
        refine s_iload 4 dX10_coin_59 rfl rfl ?_
        refine sm_ck (fun g6 => ?_)
        refine s_iald dX10_coin_61 rfl (tS_6 hK ht.2) g6 ?_
        refine s_iadd dX10_coin_62 rfl ?_
        refine s_istore_nL (fun v7 => [(3, .int v7), (0, .ref (X.1 + 0)), (1, .int c1), (2, .int c2), (4, .int w4)]) dX10_coin_63 rfl (by decide) (fun _ => rfl) (fun v7 => ?_)
        refine s_iincL 4 (c := 1) (fun v8 => [(4, .int v8), (3, .int v7), (0, .ref (X.1 + 0)), (1, .int c1), (2, .int c2)]) dX10_coin_64 rfl rfl cI_1 (by decide) (fun _ => rfl) (fun v8 => ?_)
        refine s_goto (tgt := 24) dX10_coin_67 rfl ?_
        refine s_pick [2, 3, 4, 1, 0] rfl ?_
        exact ih v7 v8
theorem ct_x10_coin {X : WX} {t : Nat} {p1 : Int32} {p2 : Int32} {I : MI} {L : ML} {R : MR} {S : MS} (hK : okr R S) (ht : R 27 0 = some t ∧ isT t) : Ct X yX10_coin cX10_coin 6 (some .int) 2 42 [.ref (X.1 + 0), .int p1, .int p2] (I, L, R, S) (x10_coin t p1 p2 I) (fun r => (some (.int r), (I, L, R, S))) := by
  refine Ct.of (by decide) (Nat.le_of_ble_eq_true rfl) [(0, .ref (X.1 + 0)), (1, .int p1), (2, .int p2)] rfl ?_
  unfold x10_coin
  refine s_aload_n 0 dX10_coin_0 rfl rfl ?_
  refine s_iload_n 1 dX10_coin_1 rfl rfl ?_
  refine s_callV1_i0 dX10_coin_2 rfl lkV_RX10_124 (S_0 hK) (Nat.le_of_ble_eq_true rfl) (Nat.le_of_ble_eq_true rfl) (Nat.le_of_ble_eq_true rfl) (ct_x10_isApple hK ht) (fun r1 => ?_)
  refine s_if_eq (tgt := 17) dX10_coin_5 rfl rfl (fun _ => ?_) (fun _ => ?_)
  · skip
    refine s_iconst (v := (-1)) dX10_coin_17 rfl cI_m1 ?_
    exact s_iret dX10_coin_18 rfl (fun f h => h)
  · skip
    refine s_iload_n 2 dX10_coin_8 rfl rfl ?_
    refine s_if_lt (tgt := 17) dX10_coin_9 rfl rfl (fun _ => ?_) (fun _ => ?_)
    · skip
      refine s_iconst (v := (-1)) dX10_coin_17 rfl cI_m1 ?_
      exact s_iret dX10_coin_18 rfl (fun f h => h)
    · skip
      refine s_iload_n 2 dX10_coin_12 rfl rfl ?_
      refine s_iconst (v := 1) dX10_coin_13 rfl cI_1 ?_
      refine s_icmp_le (tgt := 19) dX10_coin_14 rfl rfl (fun _ => ?_) (fun _ => ?_)
      · skip
        refine s_iconst (v := 0) dX10_coin_19 rfl cI_0 ?_
        refine s_istore_nL (fun v2 => [(3, .int v2), (0, .ref (X.1 + 0)), (1, .int p1), (2, .int p2)]) dX10_coin_20 rfl (by decide) (fun _ => rfl) (fun v2 => ?_)
        refine s_iconst (v := 0) dX10_coin_21 rfl cI_0 ?_
        refine s_istoreL (fun v3 => [(4, .int v3), (3, .int v2), (0, .ref (X.1 + 0)), (1, .int p1), (2, .int p2)]) dX10_coin_22 rfl (by decide) (fun _ => rfl) (fun v3 => ?_)
        refine s_pick [2, 3, 4, 1, 0] rfl ?_
        refine sm_reg (x10_coin_L24_ok hK ht FU v2 v3) (fun e9 => ?_)
        refine s_aload_n 0 dX10_coin_70 rfl rfl ?_
        refine s_iload_n 1 dX10_coin_71 rfl rfl ?_
        refine s_callV1_i0 dX10_coin_72 rfl lkV_RX10_269 (S_0 hK) (Nat.le_of_ble_eq_true rfl) (Nat.le_of_ble_eq_true rfl) (Nat.le_of_ble_eq_true rfl) (ct_x10_isAfloat hK ht) (fun r10 => ?_)
        refine sm_reg (pcx := 94) (lsx := fun e11 => [(2, .int p2), (3, .int e9)]) (stx := fun e11 => [.int e11]) (ux := fun e11 => (I, L, R, S)) ?_ (fun e11 => ?_)
        · skip
          refine s_if_eq (tgt := 93) dX10_coin_75 rfl rfl (fun _ => ?_) (fun _ => ?_)
          · skip
            refine s_iconst (v := 0) dX10_coin_93 rfl cI_0 ?_
            refine s_pick [2, 3] rfl ?_
            exact sm_exit (fun f h => h)
          · skip
            refine s_aload_n 0 dX10_coin_78 rfl rfl ?_
            refine s_getR 27 dX10_coin_79 rfl fl_10_32 rfl (S_0 hK) (R_0_4 hK) ?_
            refine s_getR t dX10_coin_82 rfl fl_10_87 rfl (S_27 hK) ht.1 ?_
            refine s_getR (t + 6) dX10_coin_85 rfl fl_10_312 rfl (tS_0 hK ht.2) (tR_0_10 hK ht.2) ?_
            refine s_iload_n 1 dX10_coin_88 rfl rfl ?_
            refine sm_ck (fun g12 => ?_)
            refine s_iald dX10_coin_89 rfl (tS_6 hK ht.2) g12 ?_
            refine s_goto (tgt := 94) dX10_coin_90 rfl ?_
            refine s_pick [2, 3] rfl ?_
            exact sm_exit (fun f h => h)
        · skip
          refine s_istoreL (fun v13 => [(4, .int v13), (2, .int p2), (3, .int e9)]) dX10_coin_94 rfl (by decide) (fun _ => rfl) (fun v13 => ?_)
          refine s_iload 0 dX10_coin_96 rfl rfl ?_
          refine s_if_ne (tgt := 103) dX10_coin_98 rfl rfl (fun _ => ?_) (fun _ => ?_)
          · skip
            refine s_iload_n 2 dX10_coin_103 rfl rfl ?_
            refine s_iload 0 dX10_coin_104 rfl rfl ?_
            refine s_callS2_i0 dX10_coin_106 rfl lkS_RX10_315 (Nat.le_of_ble_eq_true rfl) (Nat.le_of_ble_eq_true rfl) (Nat.le_of_ble_eq_true rfl) (ct_x10_commonDivisor hK) (fun r14 => ?_)
            refine s_istoreL (fun v15 => [(5, .int v15), (4, .int v13), (2, .int p2), (3, .int e9)]) dX10_coin_109 rfl (by decide) (fun _ => rfl) (fun v15 => ?_)
            refine s_iload_n 2 dX10_coin_111 rfl rfl ?_
            refine s_if_ne (tgt := 120) dX10_coin_112 rfl rfl (fun _ => ?_) (fun _ => ?_)
            · skip
              refine s_iload_n 3 dX10_coin_120 rfl rfl ?_
              refine s_iconst (v := 1) dX10_coin_121 rfl cI_1 ?_
              refine s_iload 0 dX10_coin_122 rfl rfl ?_
              refine s_mmax dX10_coin_124 rfl lkw_10_318 lk_mmax (Nat.le_of_ble_eq_true rfl) (Nat.le_of_ble_eq_true rfl) (Nat.le_of_ble_eq_true rfl) ?_
              refine sm_ck (fun g16 => ?_)
              refine s_idiv dX10_coin_127 rfl g16 ?_
              exact s_iret dX10_coin_128 rfl (fun f h => h)
            · skip
              refine s_iload 1 dX10_coin_115 rfl rfl ?_
              refine s_goto (tgt := 121) dX10_coin_117 rfl ?_
              refine s_iconst (v := 1) dX10_coin_121 rfl cI_1 ?_
              refine s_iload 0 dX10_coin_122 rfl rfl ?_
              refine s_mmax dX10_coin_124 rfl lkw_10_318 lk_mmax (Nat.le_of_ble_eq_true rfl) (Nat.le_of_ble_eq_true rfl) (Nat.le_of_ble_eq_true rfl) ?_
              refine sm_ck (fun g17 => ?_)
              refine s_idiv dX10_coin_127 rfl g17 ?_
              exact s_iret dX10_coin_128 rfl (fun f h => h)
          · skip
            refine s_iload_n 1 dX10_coin_101 rfl rfl ?_
            exact s_iret dX10_coin_102 rfl (fun f h => h)
      · skip
        refine s_iconst (v := (-1)) dX10_coin_17 rfl cI_m1 ?_
        exact s_iret dX10_coin_18 rfl (fun f h => h)
