noncomputable def j6_bitCount_0f7a4 (p0 : Int32) (I : MI) : Option (Int32) :=
lt (p0 - (((p0).toUInt32 >>> ((1 : Int32).toUInt32 &&& Int32.toUInt32 31)).toInt32 &&& 1431655765)) fun v1 =>
lt ((v1 &&& 858993459) + (((v1).toUInt32 >>> ((2 : Int32).toUInt32 &&& Int32.toUInt32 31)).toInt32 &&& 858993459)) fun v2 =>
lt ((v2 + ((v2).toUInt32 >>> ((4 : Int32).toUInt32 &&& Int32.toUInt32 31)).toInt32) &&& 252645135) fun v3 =>
lt (v3 + ((v3).toUInt32 >>> ((8 : Int32).toUInt32 &&& Int32.toUInt32 31)).toInt32) fun v4 =>
lt (v4 + ((v4).toUInt32 >>> ((16 : Int32).toUInt32 &&& Int32.toUInt32 31)).toInt32) fun v5 =>
some (v5 &&& 63)
theorem ct_j6_bitCount_0f7a4 {X : WX} {p0 : Int32} {I : MI} {L : ML} {R : MR} {S : MS} : Ct X yJ6_bitCount_0f7a4 cJ6_bitCount_0f7a4 1 (some .int) 0 0 [.int p0] (I, L, R, S) (j6_bitCount_0f7a4 p0 I) (fun r => (some (.int r), (I, L, R, S))) := by
  refine Ct.ofF (by decide +kernel) (Nat.le_of_ble_eq_true rfl) [(0, .int p0)] rfl ?_
  unfold j6_bitCount_0f7a4
  refine s_iload_n 0 dJ6_bitCount_0f7a4_0 rfl rfl ?_
  refine s_iload_n 0 dJ6_bitCount_0f7a4_1 rfl rfl ?_
  refine s_iconst (v := 1) dJ6_bitCount_0f7a4_2 rfl cI_1 ?_
  refine s_iushr dJ6_bitCount_0f7a4_3 rfl ?_
  refine s_ldcw (v := 1431655765) dJ6_bitCount_0f7a4_4 rfl (tw_mem 1278 (by decide +kernel) rfl) ?_
  refine s_iand dJ6_bitCount_0f7a4_7 rfl ?_
  refine s_isub dJ6_bitCount_0f7a4_8 rfl ?_
  refine s_istore_nL (fun v1 => [(0, .int v1)]) dJ6_bitCount_0f7a4_9 rfl (by decide) (fun _ => rfl) (fun v1 => ?_)
  refine s_iload_n 0 dJ6_bitCount_0f7a4_10 rfl rfl ?_
  refine s_ldcw (v := 858993459) dJ6_bitCount_0f7a4_11 rfl (tw_mem 1279 (by decide +kernel) rfl) ?_
  refine s_iand dJ6_bitCount_0f7a4_14 rfl ?_
  refine s_iload_n 0 dJ6_bitCount_0f7a4_15 rfl rfl ?_
  refine s_iconst (v := 2) dJ6_bitCount_0f7a4_16 rfl cI_2 ?_
  refine s_iushr dJ6_bitCount_0f7a4_17 rfl ?_
  refine s_ldcw (v := 858993459) dJ6_bitCount_0f7a4_18 rfl (tw_mem 1279 (by decide +kernel) rfl) ?_
  refine s_iand dJ6_bitCount_0f7a4_21 rfl ?_
  refine s_iadd dJ6_bitCount_0f7a4_22 rfl ?_
  refine s_istore_nL (fun v2 => [(0, .int v2)]) dJ6_bitCount_0f7a4_23 rfl (by decide) (fun _ => rfl) (fun v2 => ?_)
  refine s_iload_n 0 dJ6_bitCount_0f7a4_24 rfl rfl ?_
  refine s_iload_n 0 dJ6_bitCount_0f7a4_25 rfl rfl ?_
  refine s_iconst (v := 4) dJ6_bitCount_0f7a4_26 rfl cI_4 ?_
  refine s_iushr dJ6_bitCount_0f7a4_27 rfl ?_
  refine s_iadd dJ6_bitCount_0f7a4_28 rfl ?_
  refine s_ldcw (v := 252645135) dJ6_bitCount_0f7a4_29 rfl (tw_mem 1280 (by decide +kernel) rfl) ?_
  refine s_iand dJ6_bitCount_0f7a4_32 rfl ?_
  refine s_istore_nL (fun v3 => [(0, .int v3)]) dJ6_bitCount_0f7a4_33 rfl (by decide) (fun _ => rfl) (fun v3 => ?_)
  refine s_iload_n 0 dJ6_bitCount_0f7a4_34 rfl rfl ?_
  refine s_iload_n 0 dJ6_bitCount_0f7a4_35 rfl rfl ?_
  refine s_bipush (v := 8) dJ6_bitCount_0f7a4_36 rfl cB_8 ?_
  refine s_iushr dJ6_bitCount_0f7a4_38 rfl ?_
  refine s_iadd dJ6_bitCount_0f7a4_39 rfl ?_
  refine s_istore_nL (fun v4 => [(0, .int v4)]) dJ6_bitCount_0f7a4_40 rfl (by decide) (fun _ => rfl) (fun v4 => ?_)
  refine s_iload_n 0 dJ6_bitCount_0f7a4_41 rfl rfl ?_
  refine s_iload_n 0 dJ6_bitCount_0f7a4_42 rfl rfl ?_
  refine s_bipush (v := 16) dJ6_bitCount_0f7a4_43 rfl cB_16 ?_
  refine s_iushr dJ6_bitCount_0f7a4_45 rfl ?_
  refine s_iadd dJ6_bitCount_0f7a4_46 rfl ?_
  refine s_istore_nL (fun v5 => [(0, .int v5)]) dJ6_bitCount_0f7a4_47 rfl (by decide) (fun _ => rfl) (fun v5 => ?_)
  refine s_iload_n 0 dJ6_bitCount_0f7a4_48 rfl rfl ?_
  refine s_bipush (v := 63) dJ6_bitCount_0f7a4_49 rfl cB_63 ?_
  refine s_iand dJ6_bitCount_0f7a4_51 rfl ?_
  exact s_iret dJ6_bitCount_0f7a4_52 rfl (fun f h => h)
noncomputable def j6_signum_0f7a4 (p0 : Int32) (I : MI) : Option (Int32) :=
some ((p0 >>> (31 &&& 31)) ||| (((-p0)).toUInt32 >>> ((31 : Int32).toUInt32 &&& Int32.toUInt32 31)).toInt32)
theorem ct_j6_signum_0f7a4 {X : WX} {p0 : Int32} {I : MI} {L : ML} {R : MR} {S : MS} : Ct X yJ6_signum_0f7a4 cJ6_signum_0f7a4 1 (some .int) 0 0 [.int p0] (I, L, R, S) (j6_signum_0f7a4 p0 I) (fun r => (some (.int r), (I, L, R, S))) := by
  refine Ct.ofF (by decide +kernel) (Nat.le_of_ble_eq_true rfl) [(0, .int p0)] rfl ?_
  unfold j6_signum_0f7a4
  refine s_iload_n 0 dJ6_signum_0f7a4_0 rfl rfl ?_
  refine s_bipush (v := 31) dJ6_signum_0f7a4_1 rfl cB_31 ?_
  refine s_ishr dJ6_signum_0f7a4_3 rfl ?_
  refine s_iload_n 0 dJ6_signum_0f7a4_4 rfl rfl ?_
  refine s_ineg dJ6_signum_0f7a4_5 rfl ?_
  refine s_bipush (v := 31) dJ6_signum_0f7a4_6 rfl cB_31 ?_
  refine s_iushr dJ6_signum_0f7a4_8 rfl ?_
  refine s_ior dJ6_signum_0f7a4_9 rfl ?_
  exact s_iret dJ6_signum_0f7a4_10 rfl (fun f h => h)
noncomputable def j9_floorMod_7cf53 (p0 : Int32) (p1 : Int32) (I : MI) : Option (Int32) :=
ck (¬ p1 = 0) <|
lt (rm p0 p1) fun v2 =>
if (p0 ^^^ p1) < 0 then (
if v2 = 0 then (
some v2) else
some (v2 + p1)) else
some v2
theorem ct_j9_floorMod_7cf53 {X : WX} {p0 : Int32} {p1 : Int32} {I : MI} {L : ML} {R : MR} {S : MS} : Ct X yJ9_floorMod_7cf53 cJ9_floorMod_7cf53 3 (some .int) 0 0 [.int p0, .int p1] (I, L, R, S) (j9_floorMod_7cf53 p0 p1 I) (fun r => (some (.int r), (I, L, R, S))) := by
  refine Ct.ofF (by decide +kernel) (Nat.le_of_ble_eq_true rfl) [(0, .int p0), (1, .int p1)] rfl ?_
  unfold j9_floorMod_7cf53
  refine s_iload_n 0 dJ9_floorMod_7cf53_0 rfl rfl ?_
  refine s_iload_n 1 dJ9_floorMod_7cf53_1 rfl rfl ?_
  refine sm_ck (fun g1 => ?_)
  refine s_irem dJ9_floorMod_7cf53_2 rfl g1 ?_
  refine s_istore_nL (fun v2 => [(2, .int v2), (0, .int p0), (1, .int p1)]) dJ9_floorMod_7cf53_3 rfl (by decide) (fun _ => rfl) (fun v2 => ?_)
  refine s_iload_n 1 dJ9_floorMod_7cf53_4 rfl rfl ?_
  refine s_iload_n 2 dJ9_floorMod_7cf53_5 rfl rfl ?_
  refine s_ixor dJ9_floorMod_7cf53_6 rfl ?_
  refine s_if_ge (tgt := 18) dJ9_floorMod_7cf53_7 rfl rfl (fun _ => ?_) (fun _ => ?_)
  · skip
    refine s_iload_n 0 dJ9_floorMod_7cf53_18 rfl rfl ?_
    exact s_iret dJ9_floorMod_7cf53_19 rfl (fun f h => h)
  · skip
    refine s_iload_n 0 dJ9_floorMod_7cf53_10 rfl rfl ?_
    refine s_if_eq (tgt := 18) dJ9_floorMod_7cf53_11 rfl rfl (fun _ => ?_) (fun _ => ?_)
    · skip
      refine s_iload_n 0 dJ9_floorMod_7cf53_18 rfl rfl ?_
      exact s_iret dJ9_floorMod_7cf53_19 rfl (fun f h => h)
    · skip
      refine s_iload_n 0 dJ9_floorMod_7cf53_14 rfl rfl ?_
      refine s_iload_n 2 dJ9_floorMod_7cf53_15 rfl rfl ?_
      refine s_iadd dJ9_floorMod_7cf53_16 rfl ?_
      exact s_iret dJ9_floorMod_7cf53_17 rfl (fun f h => h)
noncomputable def j7_fill_53178_L5s (a0 : Nat) (ln0 : Nat) (c1 : Int32) (c3 : Int32) (rec : Int32 → MI → Option (MI)) (w2 : Int32) (I : MI) : Option (MI) :=
if w2 < c3 then (
ck (vp_in w2 ln0) <|
lt (wI I a0 (ix w2) c1) fun I3 =>
lt (w2 + 1) fun v5 =>
rec v5 I3) else
some I
noncomputable def j7_fill_53178_L5 (a0 : Nat) (ln0 : Nat) (c1 : Int32) (c3 : Int32) : Nat → Int32 → MI → Option (MI)
  | 0 => fun _ _ => none
  | n + 1 => j7_fill_53178_L5s a0 ln0 c1 c3 (j7_fill_53178_L5 a0 ln0 c1 c3 n)
noncomputable def j7_fill_53178 (a0 : Nat) (ln0 : Nat) (p1 : Int32) (I : MI) : Option (MI) :=
lt (0 : Int32) fun v1 =>
lt (Int32.ofNat ln0) fun v2 =>
b1 (j7_fill_53178_L5 a0 ln0 p1 v2 FU v1 I) fun e6 =>
some e6
theorem j7_fill_53178_L5_ok {X : WX} {n0 s0 : Nat} {a0 : Nat} {ln0 : Nat} {c1 : Int32} {c3 : Int32} {L : ML} {R : MR} {S : MS} (ha0 : S[a0]? = some (13, ln0)) : ∀ (n : Nat) (w2 : Int32) (I : MI), Sim X yJ7_fill_53178 cJ7_fill_53178 4 none 0 0 n0 s0 5 [(0, .ref (X.1 + a0)), (1, .int c1), (2, .int w2), (3, .int c3)] [] (I, L, R, S) (j7_fill_53178_L5 a0 ln0 c1 c3 n w2 I) (fun b f => Ex X yJ7_fill_53178 cJ7_fill_53178 4 none 0 0 n0 s0 20 [] [] (b, L, R, S) f) := by
  intro n
  induction n with
  | zero =>
    intro w2 I
    exact sm_none
  | succ n ih =>
    intro w2 I
    change Sim _ _ _ _ _ _ _ _ _ _ _ _ _ (j7_fill_53178_L5s a0 ln0 c1 c3 (j7_fill_53178_L5 a0 ln0 c1 c3 n) w2 I) _
    unfold j7_fill_53178_L5s
    refine s_iload_n 2 dJ7_fill_53178_5 rfl rfl ?_
    refine s_iload_n 3 dJ7_fill_53178_6 rfl rfl ?_
    refine s_icmp_ge (tgt := 20) dJ7_fill_53178_7 rfl rfl (fun _ => ?_) (fun _ => ?_)
    · skip
      refine s_pick [] rfl ?_
      exact sm_exit (fun f h => h)
    · skip
      refine s_aload_n 0 dJ7_fill_53178_10 rfl rfl ?_
      refine s_iload_n 2 dJ7_fill_53178_11 rfl rfl ?_
      refine s_iload_n 1 dJ7_fill_53178_12 rfl rfl ?_
      refine sm_ck (fun g4 => ?_)
      refine s_iastL dJ7_fill_53178_13 rfl ha0 g4 (fun I3 => ?_)
      refine s_iincL 2 (c := 1) (fun v5 => [(2, .int v5), (0, .ref (X.1 + a0)), (1, .int c1), (3, .int c3)]) dJ7_fill_53178_14 rfl rfl cI_1 (by decide) (fun _ => rfl) (fun v5 => ?_)
      refine s_goto (tgt := 5) dJ7_fill_53178_17 rfl ?_
      refine s_pick [1, 2, 0, 3] rfl ?_
      exact ih v5 I3
theorem ct_j7_fill_53178 {X : WX} {a0 : Nat} {ln0 : Nat} {p1 : Int32} {I : MI} {L : ML} {R : MR} {S : MS} (ha0 : S[a0]? = some (13, ln0)) : Ct X yJ7_fill_53178 cJ7_fill_53178 4 none 0 0 [.ref (X.1 + a0), .int p1] (I, L, R, S) (j7_fill_53178 a0 ln0 p1 I) (fun r => (none, (r, L, R, S))) := by
  refine Ct.ofF (by decide +kernel) (Nat.le_of_ble_eq_true rfl) [(0, .ref (X.1 + a0)), (1, .int p1)] rfl ?_
  unfold j7_fill_53178
  refine s_iconst (v := 0) dJ7_fill_53178_0 rfl cI_0 ?_
  refine s_istore_nL (fun v1 => [(2, .int v1), (0, .ref (X.1 + a0)), (1, .int p1)]) dJ7_fill_53178_1 rfl (by decide) (fun _ => rfl) (fun v1 => ?_)
  refine s_aload_n 1 dJ7_fill_53178_2 rfl rfl ?_
  refine s_alen 1 dJ7_fill_53178_3 rfl ha0 (by decide) rfl rfl ?_
  refine s_istore_nL (fun v2 => [(3, .int v2), (2, .int v1), (0, .ref (X.1 + a0)), (1, .int p1)]) dJ7_fill_53178_4 rfl (by decide) (fun _ => rfl) (fun v2 => ?_)
  refine s_pick [2, 3, 1, 0] rfl ?_
  refine sm_reg (j7_fill_53178_L5_ok ha0 FU v1 I) (fun e6 => ?_)
  exact s_vret dJ7_fill_53178_20 rfl (fun f h => h)
