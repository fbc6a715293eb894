noncomputable def x11_sign (I : MI) (L : ML) : Option (Int32) :=
b1 (x11_isWord (6385252 : Int64) I L) fun r1 =>
if r1 = 0 then (
b1 (x11_isWord (28530 : Int64) I L) fun r2 =>
if r2 = 0 then (
if (I 102 6) = 60 then (
some (I 102 6)) else
if (I 102 6) = 62 then (
some (I 102 6)) else
if (I 102 6) = 61 then (
some (I 102 6)) else
if (I 102 6) = 43 then (
some (I 102 6)) else
if (I 102 6) = 45 then (
some (I 102 6)) else
if (I 102 6) = 42 then (
some (I 102 6)) else
if (I 102 6) = 47 then (
some (I 102 6)) else
if (I 102 6) = 37 then (
some (I 102 6)) else
some (0 : Int32)) else
some (124 : Int32)) else
some (38 : Int32)
theorem ct_x11_sign {X : WX} {I : MI} {L : ML} {R : MR} {S : MS} (hK : okm R S) : Ct X yX11_sign cX11_sign 1 (some .int) 1 22 [.ref (X.1 + 102)] (I, L, R, S) (x11_sign I L) (fun r => (some (.int r), (I, L, R, S))) := by
  refine Ct.of (by decide) (Nat.le_of_ble_eq_true rfl) [(0, .ref (X.1 + 102))] rfl ?_
  unfold x11_sign
  refine s_aload_n 0 dX11_sign_0 rfl rfl ?_
  refine s_ldc2 (v := 6385252) dX11_sign_1 rfl kl_11_273c ?_
  refine s_callV1_i0 dX11_sign_4 rfl lkV_RX11_283 (S_102 hK) (Nat.le_of_ble_eq_true rfl) (Nat.le_of_ble_eq_true rfl) (Nat.le_of_ble_eq_true rfl) (ct_x11_isWord hK) (fun r1 => ?_)
  refine s_if_eq (tgt := 13) dX11_sign_7 rfl rfl (fun _ => ?_) (fun _ => ?_)
  · skip
    refine s_aload_n 0 dX11_sign_13 rfl rfl ?_
    refine s_ldc2 (v := 28530) dX11_sign_14 rfl kl_11_275c ?_
    refine s_callV1_i0 dX11_sign_17 rfl lkV_RX11_283 (S_102 hK) (Nat.le_of_ble_eq_true rfl) (Nat.le_of_ble_eq_true rfl) (Nat.le_of_ble_eq_true rfl) (ct_x11_isWord hK) (fun r2 => ?_)
    refine s_if_eq (tgt := 26) dX11_sign_20 rfl rfl (fun _ => ?_) (fun _ => ?_)
    · skip
      refine s_aload_n 0 dX11_sign_26 rfl rfl ?_
      refine s_getI dX11_sign_27 rfl fl_11_211 (S_102 hK) ?_
      refine s_bipush (v := 60) dX11_sign_30 rfl cB_60 ?_
      refine s_icmp_eq (tgt := 98) dX11_sign_32 rfl rfl (fun _ => ?_) (fun _ => ?_)
      · skip
        refine s_aload_n 0 dX11_sign_98 rfl rfl ?_
        refine s_getI dX11_sign_99 rfl fl_11_211 (S_102 hK) ?_
        refine s_goto (tgt := 106) dX11_sign_102 rfl ?_
        exact s_iret dX11_sign_106 rfl (fun f h => h)
      · skip
        refine s_aload_n 0 dX11_sign_35 rfl rfl ?_
        refine s_getI dX11_sign_36 rfl fl_11_211 (S_102 hK) ?_
        refine s_bipush (v := 62) dX11_sign_39 rfl cB_62 ?_
        refine s_icmp_eq (tgt := 98) dX11_sign_41 rfl rfl (fun _ => ?_) (fun _ => ?_)
        · skip
          refine s_aload_n 0 dX11_sign_98 rfl rfl ?_
          refine s_getI dX11_sign_99 rfl fl_11_211 (S_102 hK) ?_
          refine s_goto (tgt := 106) dX11_sign_102 rfl ?_
          exact s_iret dX11_sign_106 rfl (fun f h => h)
        · skip
          refine s_aload_n 0 dX11_sign_44 rfl rfl ?_
          refine s_getI dX11_sign_45 rfl fl_11_211 (S_102 hK) ?_
          refine s_bipush (v := 61) dX11_sign_48 rfl cB_61 ?_
          refine s_icmp_eq (tgt := 98) dX11_sign_50 rfl rfl (fun _ => ?_) (fun _ => ?_)
          · skip
            refine s_aload_n 0 dX11_sign_98 rfl rfl ?_
            refine s_getI dX11_sign_99 rfl fl_11_211 (S_102 hK) ?_
            refine s_goto (tgt := 106) dX11_sign_102 rfl ?_
            exact s_iret dX11_sign_106 rfl (fun f h => h)
          · skip
            refine s_aload_n 0 dX11_sign_53 rfl rfl ?_
            refine s_getI dX11_sign_54 rfl fl_11_211 (S_102 hK) ?_
            refine s_bipush (v := 43) dX11_sign_57 rfl cB_43 ?_
            refine s_icmp_eq (tgt := 98) dX11_sign_59 rfl rfl (fun _ => ?_) (fun _ => ?_)
            · skip
              refine s_aload_n 0 dX11_sign_98 rfl rfl ?_
              refine s_getI dX11_sign_99 rfl fl_11_211 (S_102 hK) ?_
              refine s_goto (tgt := 106) dX11_sign_102 rfl ?_
              exact s_iret dX11_sign_106 rfl (fun f h => h)
            · skip
              refine s_aload_n 0 dX11_sign_62 rfl rfl ?_
              refine s_getI dX11_sign_63 rfl fl_11_211 (S_102 hK) ?_
              refine s_bipush (v := 45) dX11_sign_66 rfl cB_45 ?_
              refine s_icmp_eq (tgt := 98) dX11_sign_68 rfl rfl (fun _ => ?_) (fun _ => ?_)
              · skip
                refine s_aload_n 0 dX11_sign_98 rfl rfl ?_
                refine s_getI dX11_sign_99 rfl fl_11_211 (S_102 hK) ?_
                refine s_goto (tgt := 106) dX11_sign_102 rfl ?_
                exact s_iret dX11_sign_106 rfl (fun f h => h)
              · skip
                refine s_aload_n 0 dX11_sign_71 rfl rfl ?_
                refine s_getI dX11_sign_72 rfl fl_11_211 (S_102 hK) ?_
                refine s_bipush (v := 42) dX11_sign_75 rfl cB_42 ?_
                refine s_icmp_eq (tgt := 98) dX11_sign_77 rfl rfl (fun _ => ?_) (fun _ => ?_)
                · skip
                  refine s_aload_n 0 dX11_sign_98 rfl rfl ?_
                  refine s_getI dX11_sign_99 rfl fl_11_211 (S_102 hK) ?_
                  refine s_goto (tgt := 106) dX11_sign_102 rfl ?_
                  exact s_iret dX11_sign_106 rfl (fun f h => h)
                · skip
                  refine s_aload_n 0 dX11_sign_80 rfl rfl ?_
                  refine s_getI dX11_sign_81 rfl fl_11_211 (S_102 hK) ?_
                  refine s_bipush (v := 47) dX11_sign_84 rfl cB_47 ?_
                  refine s_icmp_eq (tgt := 98) dX11_sign_86 rfl rfl (fun _ => ?_) (fun _ => ?_)
                  · skip
                    refine s_aload_n 0 dX11_sign_98 rfl rfl ?_
                    refine s_getI dX11_sign_99 rfl fl_11_211 (S_102 hK) ?_
                    refine s_goto (tgt := 106) dX11_sign_102 rfl ?_
                    exact s_iret dX11_sign_106 rfl (fun f h => h)
                  · skip
                    refine s_aload_n 0 dX11_sign_89 rfl rfl ?_
                    refine s_getI dX11_sign_90 rfl fl_11_211 (S_102 hK) ?_
                    refine s_bipush (v := 37) dX11_sign_93 rfl cB_37 ?_
                    refine s_icmp_ne (tgt := 105) dX11_sign_95 rfl rfl (fun _ => ?_) (fun _ => ?_)
                    · skip
                      refine s_iconst (v := 0) dX11_sign_105 rfl cI_0 ?_
                      exact s_iret dX11_sign_106 rfl (fun f h => h)
                    · skip
                      refine s_aload_n 0 dX11_sign_98 rfl rfl ?_
                      refine s_getI dX11_sign_99 rfl fl_11_211 (S_102 hK) ?_
                      refine s_goto (tgt := 106) dX11_sign_102 rfl ?_
                      exact s_iret dX11_sign_106 rfl (fun f h => h)
    · skip
      refine s_bipush (v := 124) dX11_sign_23 rfl cB_124 ?_
      exact s_iret dX11_sign_25 rfl (fun f h => h)
  · skip
    refine s_bipush (v := 38) dX11_sign_10 rfl cB_38 ?_
    exact s_iret dX11_sign_12 rfl (fun f h => h)
noncomputable def x11_hasBracket_L4s (I : MI) (rec : Int32 → Int32 → Option (Int32)) (w1 : Int32) (w2 : Int32) : Option (Int32) :=
if w2 < (I 102 19) then (
if w1 = 0 then (
ck (vp_in w2 160) <|
if (I 110 (ix w2)) = 20 then (
lt (1 : Int32) fun v8 =>
lt (w2 + 1) fun v9 =>
rec v8 v9) else
lt (0 : Int32) fun v6 =>
lt (w2 + 1) fun v7 =>
rec v6 v7) else
lt (1 : Int32) fun v3 =>
lt (w2 + 1) fun v4 =>
rec v3 v4) else
some w1
noncomputable def x11_hasBracket_L4 (I : MI) : Nat → Int32 → Int32 → Option (Int32)
  | 0 => fun _ _ => none
  | n + 1 => x11_hasBracket_L4s I (x11_hasBracket_L4 I n)
noncomputable def x11_hasBracket (I : MI) : Option (Int32) :=
lt (0 : Int32) fun v1 =>
lt (0 : Int32) fun v2 =>
b1 (x11_hasBracket_L4 I FU v1 v2) fun e10 =>
ck (e10 = 0 ∨ e10 = 1) (some e10)
theorem x11_hasBracket_L4_ok {X : WX} {n0 s0 : Nat} {I : MI} {L : ML} {R : MR} {S : MS} (hK : okm R S) : ∀ (n : Nat) (w1 : Int32) (w2 : Int32), Sim X yX11_hasBracket cX11_hasBracket 3 (some .boolean) 0 0 n0 s0 4 [(0, .ref (X.1 + 102)), (1, .int w1), (2, .int w2)] [] (I, L, R, S) (x11_hasBracket_L4 I n w1 w2) (fun b f => Ex X yX11_hasBracket cX11_hasBracket 3 (some .boolean) 0 0 n0 s0 39 [(1, .int b)] [] (I, L, R, S) f) := by
  intro n
  induction n with
  | zero =>
    intro w1 w2
    exact sm_none
  | succ n ih =>
    intro w1 w2
    change Sim _ _ _ _ _ _ _ _ _ _ _ _ _ (x11_hasBracket_L4s I (x11_hasBracket_L4 I n) w1 w2) _
    unfold x11_hasBracket_L4s
    refine s_iload_n 2 dX11_hasBracket_4 rfl rfl ?_
    refine s_aload_n 0 dX11_hasBracket_5 rfl rfl ?_
    refine s_getI dX11_hasBracket_6 rfl fl_11_304 (S_102 hK) ?_
    refine s_icmp_ge (tgt := 39) dX11_hasBracket_9 rfl rfl (fun _ => ?_) (fun _ => ?_)
    · skip
      refine s_pick [1] rfl ?_
      exact sm_exit (fun f h => h)
    · skip
      refine s_iload_n 1 dX11_hasBracket_12 rfl rfl ?_
      refine s_if_ne (tgt := 27) dX11_hasBracket_13 rfl rfl (fun _ => ?_) (fun _ => ?_)
      · skip
        refine s_iconst (v := 1) dX11_hasBracket_27 rfl cI_1 ?_
        refine s_goto (tgt := 32) dX11_hasBracket_28 rfl ?_
        refine s_istore_nL (fun v3 => [(1, .int v3), (0, .ref (X.1 + 102)), (2, .int w2)]) dX11_hasBracket_32 rfl (by decide) (fun _ => rfl) (fun v3 => ?_)
        refine s_iincL 2 (c := 1) (fun v4 => [(2, .int v4), (1, .int v3), (0, .ref (X.1 + 102))]) dX11_hasBracket_33 rfl rfl cI_1 (by decide) (fun _ => rfl) (fun v4 => ?_)
        refine s_goto (tgt := 4) dX11_hasBracket_36 rfl ?_
        refine s_pick [2, 1, 0] rfl ?_
        exact ih v3 v4
      · skip
        refine s_aload_n 0 dX11_hasBracket_16 rfl rfl ?_
        refine s_getR 110 dX11_hasBracket_17 rfl fl_11_35 rfl (S_102 hK) (R_102_16 hK) ?_
        refine s_iload_n 2 dX11_hasBracket_20 rfl rfl ?_
        refine sm_ck (fun g5 => ?_)
        refine s_iald dX11_hasBracket_21 rfl (S_110 hK) g5 ?_
        refine s_bipush (v := 20) dX11_hasBracket_22 rfl cB_20 ?_
        refine s_icmp_ne (tgt := 31) dX11_hasBracket_24 rfl rfl (fun _ => ?_) (fun _ => ?_)
        · skip
          refine s_iconst (v := 0) dX11_hasBracket_31 rfl cI_0 ?_
          refine s_istore_nL (fun v6 => [(1, .int v6), (0, .ref (X.1 + 102)), (2, .int w2)]) dX11_hasBracket_32 rfl (by decide) (fun _ => rfl) (fun v6 => ?_)
          refine s_iincL 2 (c := 1) (fun v7 => [(2, .int v7), (1, .int v6), (0, .ref (X.1 + 102))]) dX11_hasBracket_33 rfl rfl cI_1 (by decide) (fun _ => rfl) (fun v7 => ?_)
          refine s_goto (tgt := 4) dX11_hasBracket_36 rfl ?_
          refine s_pick [2, 1, 0] rfl ?_
          exact ih v6 v7
        · skip
          refine s_iconst (v := 1) dX11_hasBracket_27 rfl cI_1 ?_
          refine s_goto (tgt := 32) dX11_hasBracket_28 rfl ?_
          refine s_istore_nL (fun v8 => [(1, .int v8), (0, .ref (X.1 + 102)), (2, .int w2)]) dX11_hasBracket_32 rfl (by decide) (fun _ => rfl) (fun v8 => ?_)
          refine s_iincL 2 (c := 1) (fun v9 => [(2, .int v9), (1, .int v8), (0, .ref (X.1 + 102))]) dX11_hasBracket_33 rfl rfl cI_1 (by decide) (fun _ => rfl) (fun v9 => ?_)
          refine s_goto (tgt := 4) dX11_hasBracket_36 rfl ?_
          refine s_pick [2, 1, 0] rfl ?_
          exact ih v8 v9
theorem ct_x11_hasBracket {X : WX} {I : MI} {L : ML} {R : MR} {S : MS} (hK : okm R S) : Ct X yX11_hasBracket cX11_hasBracket 3 (some .boolean) 0 0 [.ref (X.1 + 102)] (I, L, R, S) (x11_hasBracket I) (fun r => (some (.int r), (I, L, R, S))) := by
  refine Ct.of (by decide) (Nat.le_of_ble_eq_true rfl) [(0, .ref (X.1 + 102))] rfl ?_
  unfold x11_hasBracket
  refine s_iconst (v := 0) dX11_hasBracket_0 rfl cI_0 ?_
  refine s_istore_nL (fun v1 => [(1, .int v1), (0, .ref (X.1 + 102))]) dX11_hasBracket_1 rfl (by decide) (fun _ => rfl) (fun v1 => ?_)
  refine s_iconst (v := 0) dX11_hasBracket_2 rfl cI_0 ?_
  refine s_istore_nL (fun v2 => [(2, .int v2), (1, .int v1), (0, .ref (X.1 + 102))]) dX11_hasBracket_3 rfl (by decide) (fun _ => rfl) (fun v2 => ?_)
  refine s_pick [2, 1, 0] rfl ?_
  refine sm_reg (x11_hasBracket_L4_ok hK FU v1 v2) (fun e10 => ?_)
  refine s_iload_n 0 dX11_hasBracket_39 rfl rfl ?_
  refine sm_ck (fun g11 => ?_)
  exact s_zret dX11_hasBracket_40 rfl g11 (fun f h => h)
noncomputable def x11_formula_L36s (rec : Int32 → MI → ML → Option (MI × ML)) (w2 : Int32) (I : MI) (L : ML) : Option (MI × ML) :=
if w2 = 0 then (
some (I, L)) else
if (I 102 2) = 0 then (
b1 (x11_sign I L) fun r10 =>
lt r10 fun v11 =>
if (I 102 6) = 41 then (
b1 (x11_hasBracket I) fun r34 =>
if r34 = 0 then (
if v11 = 0 then (
lt (0 : Int32) fun v35 =>
rec v35 I L) else
b1 (x11_tight v11 I) fun r36 =>
if r36 = 4 then (
b1 (x11_hasRelation I) fun r46 =>
if r46 = 0 then (
b1 (x11_tight v11 I) fun r48 =>
b1 (x11_close r48 I) fun I49 =>
ck (vp_in (I49 102 19) 160) <|
lt (wI I49 110 (ix (I49 102 19)) v11) fun I50 =>
lt (wI I50 102 19 ((I50 102 19) + 1)) fun I52 =>
b2 (x11_token I52 L) fun I53 L54 =>
b2 (x11_unit I53 L54) fun I55 L56 =>
rec w2 I55 L56) else
lt (0 : Int32) fun v47 =>
rec v47 I L) else
b1 (x11_tight v11 I) fun r37 =>
b1 (x11_close r37 I) fun I38 =>
ck (vp_in (I38 102 19) 160) <|
lt (wI I38 110 (ix (I38 102 19)) v11) fun I39 =>
lt (wI I39 102 19 ((I39 102 19) + 1)) fun I41 =>
b2 (x11_token I41 L) fun I42 L43 =>
b2 (x11_unit I42 L43) fun I44 L45 =>
rec w2 I44 L45) else
b1 (x11_close (0 : Int32) I) fun I57 =>
lt (wI I57 102 19 ((I57 102 19) - 1)) fun I58 =>
lt (wI I58 102 23 ((I58 102 23) - 1)) fun I59 =>
b2 (x11_token I59 L) fun I60 L61 =>
rec w2 I60 L61) else
if v11 = 0 then (
lt (0 : Int32) fun v12 =>
rec v12 I L) else
b1 (x11_tight v11 I) fun r13 =>
if r13 = 4 then (
b1 (x11_hasRelation I) fun r23 =>
if r23 = 0 then (
b1 (x11_tight v11 I) fun r25 =>
b1 (x11_close r25 I) fun I26 =>
ck (vp_in (I26 102 19) 160) <|
lt (wI I26 110 (ix (I26 102 19)) v11) fun I27 =>
lt (wI I27 102 19 ((I27 102 19) + 1)) fun I29 =>
b2 (x11_token I29 L) fun I30 L31 =>
b2 (x11_unit I30 L31) fun I32 L33 =>
rec w2 I32 L33) else
lt (0 : Int32) fun v24 =>
rec v24 I L) else
b1 (x11_tight v11 I) fun r14 =>
b1 (x11_close r14 I) fun I15 =>
ck (vp_in (I15 102 19) 160) <|
lt (wI I15 110 (ix (I15 102 19)) v11) fun I16 =>
lt (wI I16 102 19 ((I16 102 19) + 1)) fun I18 =>
b2 (x11_token I18 L) fun I19 L20 =>
b2 (x11_unit I19 L20) fun I21 L22 =>
rec w2 I21 L22) else
some (I, L)
noncomputable def x11_formula_L36 : Nat → Int32 → MI → ML → Option (MI × ML)
  | 0 => fun _ _ _ => none
  | n + 1 => x11_formula_L36s (x11_formula_L36 n)
noncomputable def x11_formula (p1 : Int32) (I : MI) (L : ML) : Option (MI × ML) :=
lt (wI I 102 18 p1) fun I1 =>
ck (vp_in (I1 102 18) 11) <|
lt (wI I1 106 (ix (I1 102 18)) (0 : Int32)) fun I2 =>
lt (wI I2 102 19 (0 : Int32)) fun I4 =>
lt (wI I4 102 23 (0 : Int32)) fun I5 =>
lt (wI I5 102 22 (0 : Int32)) fun I6 =>
b2 (x11_unit I6 L) fun I7 L8 =>
lt (1 : Int32) fun v9 =>
b1 (x11_formula_L36 FU v9 I7 L8) fun e62 =>
b1 (
if (e62.1 102 2) = 0 then (
b1 (x11_hasBracket e62.1) fun r64 =>
if r64 = 0 then (
some e62.1) else
b1 (x11_wrong (2 : Int32) e62.1) fun I65 =>
some I65) else
some e62.1) fun e63 =>
if (e63 102 2) = 0 then (
b1 (x11_close (0 : Int32) e63) fun I66 =>
some (I66, e62.2)) else
some (e63, e62.2)
theorem x11_formula_L36_ok {X : WX} {n0 s0 : Nat} {R : MR} {S : MS} (hK : okm R S) : ∀ (n : Nat) (w2 : Int32) (I : MI) (L : ML), Sim X yX11_formula cX11_formula 4 none 4 86 n0 s0 36 [(0, .ref (X.1 + 102)), (2, .int w2)] [] (I, L, R, S) (x11_formula_L36 n w2 I L) (fun b f => Ex X yX11_formula cX11_formula 4 none 4 86 n0 s0 163 [(0, .ref (X.1 + 102))] [] (b.1, b.2, R, S) f) := by
  intro n
  induction n with
  | zero =>
    intro w2 I L
    exact sm_none
  | succ n ih =>
    intro w2 I L
    change Sim _ _ _ _ _ _ _ _ _ _ _ _ _ (x11_formula_L36s (x11_formula_L36 n) w2 I L) _
    unfold x11_formula_L36s
    refine s_iload_n 1 dX11_formula_36 rfl rfl ?_
    refine s_if_eq (tgt := 163) dX11_formula_37 rfl rfl (fun _ => ?_) (fun _ => ?_)
    · skip
      refine s_pick [0] rfl ?_
      exact sm_exit (fun f h => h)
    · skip
      refine s_aload_n 0 dX11_formula_40 rfl rfl ?_
      refine s_getI dX11_formula_41 rfl fl_11_224 (S_102 hK) ?_
      refine s_if_ne (tgt := 163) dX11_formula_44 rfl rfl (fun _ => ?_) (fun _ => ?_)
      · skip
        refine s_pick [0] rfl ?_
        exact sm_exit (fun f h => h)
      · skip
        refine s_aload_n 0 dX11_formula_47 rfl rfl ?_
        refine s_callV0_i0 dX11_formula_48 rfl lkV_RX11_342 (S_102 hK) (Nat.le_of_ble_eq_true rfl) (Nat.le_of_ble_eq_true rfl) (Nat.le_of_ble_eq_true rfl) (ct_x11_sign hK) (fun r10 => ?_)
        refine s_istore_nL (fun v11 => [(3, .int v11), (0, .ref (X.1 + 102)), (2, .int w2)]) dX11_formula_51 rfl (by decide) (fun _ => rfl) (fun v11 => ?_)
        refine s_aload_n 1 dX11_formula_52 rfl rfl ?_
        refine s_getI dX11_formula_53 rfl fl_11_211 (S_102 hK) ?_
        refine s_bipush (v := 41) dX11_formula_56 rfl cB_41 ?_
        refine s_icmp_ne (tgt := 100) dX11_formula_58 rfl rfl (fun _ => ?_) (fun _ => ?_)
        · skip
          refine s_iload_n 0 dX11_formula_100 rfl rfl ?_
          refine s_if_eq (tgt := 158) dX11_formula_101 rfl rfl (fun _ => ?_) (fun _ => ?_)
          · skip
            refine s_iconst (v := 0) dX11_formula_158 rfl cI_0 ?_
            refine s_istore_nL (fun v12 => [(2, .int v12), (3, .int v11), (0, .ref (X.1 + 102))]) dX11_formula_159 rfl (by decide) (fun _ => rfl) (fun v12 => ?_)
            refine s_goto (tgt := 36) dX11_formula_160 rfl ?_
            refine s_pick [2, 0] rfl ?_
            exact ih v12 I L
          · skip
            refine s_iload_n 0 dX11_formula_104 rfl rfl ?_
            refine s_callS1_i0 dX11_formula_105 rfl lkS_RX11_307 (Nat.le_of_ble_eq_true rfl) (Nat.le_of_ble_eq_true rfl) (Nat.le_of_ble_eq_true rfl) (ct_x11_tight hK) (fun r13 => ?_)
            refine s_iconst (v := 4) dX11_formula_108 rfl cI_4 ?_
            refine s_icmp_ne (tgt := 119) dX11_formula_109 rfl rfl (fun _ => ?_) (fun _ => ?_)
            · skip
              refine s_aload_n 1 dX11_formula_119 rfl rfl ?_
              refine s_iload_n 0 dX11_formula_120 rfl rfl ?_
              refine s_callS1_i0 dX11_formula_121 rfl lkS_RX11_307 (Nat.le_of_ble_eq_true rfl) (Nat.le_of_ble_eq_true rfl) (Nat.le_of_ble_eq_true rfl) (ct_x11_tight hK) (fun r14 => ?_)
              refine s_callV1_v1 dX11_formula_124 rfl lkV_RX11_348 (S_102 hK) (Nat.le_of_ble_eq_true rfl) (Nat.le_of_ble_eq_true rfl) (Nat.le_of_ble_eq_true rfl) (ct_x11_close hK) (fun I15 => ?_)
              refine s_aload_n 1 dX11_formula_127 rfl rfl ?_
              refine s_getR 110 dX11_formula_128 rfl fl_11_35 rfl (S_102 hK) (R_102_16 hK) ?_
              refine s_aload_n 1 dX11_formula_131 rfl rfl ?_
              refine s_getI dX11_formula_132 rfl fl_11_304 (S_102 hK) ?_
              refine s_iload_n 0 dX11_formula_135 rfl rfl ?_
              refine sm_ck (fun g17 => ?_)
              refine s_iastL dX11_formula_136 rfl (S_110 hK) g17 (fun I16 => ?_)
              refine s_aload_n 1 dX11_formula_137 rfl rfl ?_
              refine s_dup dX11_formula_138 rfl rfl ?_
              refine s_getI dX11_formula_139 rfl fl_11_304 (S_102 hK) ?_
              refine s_iconst (v := 1) dX11_formula_142 rfl cI_1 ?_
              refine s_iadd dX11_formula_143 rfl ?_
              refine s_putIL dX11_formula_144 rfl fl_11_304 (S_102 hK) (fun I18 => ?_)
              refine s_aload_n 1 dX11_formula_147 rfl rfl ?_
              refine s_callV0_v2 dX11_formula_148 rfl lkV_RX11_287 (S_102 hK) (Nat.le_of_ble_eq_true rfl) (Nat.le_of_ble_eq_true rfl) (Nat.le_of_ble_eq_true rfl) (ct_x11_token hK) (fun I19 L20 => ?_)
              refine s_aload_n 1 dX11_formula_151 rfl rfl ?_
              refine s_callV0_v2 dX11_formula_152 rfl lkV_RX11_339 (S_102 hK) (Nat.le_of_ble_eq_true rfl) (Nat.le_of_ble_eq_true rfl) (Nat.le_of_ble_eq_true rfl) (ct_x11_unit hK) (fun I21 L22 => ?_)
              refine s_goto (tgt := 160) dX11_formula_155 rfl ?_
              refine s_goto (tgt := 36) dX11_formula_160 rfl ?_
              refine s_pick [1, 2] rfl ?_
              exact ih w2 I21 L22
            · skip
              refine s_aload_n 1 dX11_formula_112 rfl rfl ?_
              refine s_callV0_i0 dX11_formula_113 rfl lkV_RX11_351 (S_102 hK) (Nat.le_of_ble_eq_true rfl) (Nat.le_of_ble_eq_true rfl) (Nat.le_of_ble_eq_true rfl) (ct_x11_hasRelation hK) (fun r23 => ?_)
              refine s_if_ne (tgt := 158) dX11_formula_116 rfl rfl (fun _ => ?_) (fun _ => ?_)
              · skip
                refine s_iconst (v := 0) dX11_formula_158 rfl cI_0 ?_
                refine s_istore_nL (fun v24 => [(2, .int v24), (3, .int v11), (0, .ref (X.1 + 102))]) dX11_formula_159 rfl (by decide) (fun _ => rfl) (fun v24 => ?_)
                refine s_goto (tgt := 36) dX11_formula_160 rfl ?_
                refine s_pick [2, 0] rfl ?_
                exact ih v24 I L
              · skip
                refine s_aload_n 1 dX11_formula_119 rfl rfl ?_
                refine s_iload_n 0 dX11_formula_120 rfl rfl ?_
                refine s_callS1_i0 dX11_formula_121 rfl lkS_RX11_307 (Nat.le_of_ble_eq_true rfl) (Nat.le_of_ble_eq_true rfl) (Nat.le_of_ble_eq_true rfl) (ct_x11_tight hK) (fun r25 => ?_)
                refine s_callV1_v1 dX11_formula_124 rfl lkV_RX11_348 (S_102 hK) (Nat.le_of_ble_eq_true rfl) (Nat.le_of_ble_eq_true rfl) (Nat.le_of_ble_eq_true rfl) (ct_x11_close hK) (fun I26 => ?_)
                refine s_aload_n 1 dX11_formula_127 rfl rfl ?_
                refine s_getR 110 dX11_formula_128 rfl fl_11_35 rfl (S_102 hK) (R_102_16 hK) ?_
                refine s_aload_n 1 dX11_formula_131 rfl rfl ?_
                refine s_getI dX11_formula_132 rfl fl_11_304 (S_102 hK) ?_
                refine s_iload_n 0 dX11_formula_135 rfl rfl ?_
                refine sm_ck (fun g28 => ?_)
                refine s_iastL dX11_formula_136 rfl (S_110 hK) g28 (fun I27 => ?_)
                refine s_aload_n 1 dX11_formula_137 rfl rfl ?_
                refine s_dup dX11_formula_138 rfl rfl ?_
                refine s_getI dX11_formula_139 rfl fl_11_304 (S_102 hK) ?_
                refine s_iconst (v := 1) dX11_formula_142 rfl cI_1 ?_
                refine s_iadd dX11_formula_143 rfl ?_
                refine s_putIL dX11_formula_144 rfl fl_11_304 (S_102 hK) (fun I29 => ?_)
                refine s_aload_n 1 dX11_formula_147 rfl rfl ?_
                refine s_callV0_v2 dX11_formula_148 rfl lkV_RX11_287 (S_102 hK) (Nat.le_of_ble_eq_true rfl) (Nat.le_of_ble_eq_true rfl) (Nat.le_of_ble_eq_true rfl) (ct_x11_token hK) (fun I30 L31 => ?_)
                refine s_aload_n 1 dX11_formula_151 rfl rfl ?_
                refine s_callV0_v2 dX11_formula_152 rfl lkV_RX11_339 (S_102 hK) (Nat.le_of_ble_eq_true rfl) (Nat.le_of_ble_eq_true rfl) (Nat.le_of_ble_eq_true rfl) (ct_x11_unit hK) (fun I32 L33 => ?_)
                refine s_goto (tgt := 160) dX11_formula_155 rfl ?_
                refine s_goto (tgt := 36) dX11_formula_160 rfl ?_
                refine s_pick [1, 2] rfl ?_
                exact ih w2 I32 L33
        · skip
          refine s_aload_n 1 dX11_formula_61 rfl rfl ?_
          refine s_callV0_i0 dX11_formula_62 rfl lkV_RX11_345 (S_102 hK) (Nat.le_of_ble_eq_true rfl) (Nat.le_of_ble_eq_true rfl) (Nat.le_of_ble_eq_true rfl) (ct_x11_hasBracket hK) (fun r34 => ?_)
          refine s_if_eq (tgt := 100) dX11_formula_65 rfl rfl (fun _ => ?_) (fun _ => ?_)
          · skip
            refine s_iload_n 0 dX11_formula_100 rfl rfl ?_
            refine s_if_eq (tgt := 158) dX11_formula_101 rfl rfl (fun _ => ?_) (fun _ => ?_)
            · skip
              refine s_iconst (v := 0) dX11_formula_158 rfl cI_0 ?_
              refine s_istore_nL (fun v35 => [(2, .int v35), (3, .int v11), (0, .ref (X.1 + 102))]) dX11_formula_159 rfl (by decide) (fun _ => rfl) (fun v35 => ?_)
              refine s_goto (tgt := 36) dX11_formula_160 rfl ?_
              refine s_pick [2, 0] rfl ?_
              exact ih v35 I L
            · skip
              refine s_iload_n 0 dX11_formula_104 rfl rfl ?_
              refine s_callS1_i0 dX11_formula_105 rfl lkS_RX11_307 (Nat.le_of_ble_eq_true rfl) (Nat.le_of_ble_eq_true rfl) (Nat.le_of_ble_eq_true rfl) (ct_x11_tight hK) (fun r36 => ?_)
              refine s_iconst (v := 4) dX11_formula_108 rfl cI_4 ?_
              refine s_icmp_ne (tgt := 119) dX11_formula_109 rfl rfl (fun _ => ?_) (fun _ => ?_)
              · skip
                refine s_aload_n 1 dX11_formula_119 rfl rfl ?_
                refine s_iload_n 0 dX11_formula_120 rfl rfl ?_
                refine s_callS1_i0 dX11_formula_121 rfl lkS_RX11_307 (Nat.le_of_ble_eq_true rfl) (Nat.le_of_ble_eq_true rfl) (Nat.le_of_ble_eq_true rfl) (ct_x11_tight hK) (fun r37 => ?_)
                refine s_callV1_v1 dX11_formula_124 rfl lkV_RX11_348 (S_102 hK) (Nat.le_of_ble_eq_true rfl) (Nat.le_of_ble_eq_true rfl) (Nat.le_of_ble_eq_true rfl) (ct_x11_close hK) (fun I38 => ?_)
                refine s_aload_n 1 dX11_formula_127 rfl rfl ?_
                refine s_getR 110 dX11_formula_128 rfl fl_11_35 rfl (S_102 hK) (R_102_16 hK) ?_
                refine s_aload_n 1 dX11_formula_131 rfl rfl ?_
                refine s_getI dX11_formula_132 rfl fl_11_304 (S_102 hK) ?_
                refine s_iload_n 0 dX11_formula_135 rfl rfl ?_
                refine sm_ck (fun g40 => ?_)
                refine s_iastL dX11_formula_136 rfl (S_110 hK) g40 (fun I39 => ?_)
                refine s_aload_n 1 dX11_formula_137 rfl rfl ?_
                refine s_dup dX11_formula_138 rfl rfl ?_
                refine s_getI dX11_formula_139 rfl fl_11_304 (S_102 hK) ?_
                refine s_iconst (v := 1) dX11_formula_142 rfl cI_1 ?_
                refine s_iadd dX11_formula_143 rfl ?_
                refine s_putIL dX11_formula_144 rfl fl_11_304 (S_102 hK) (fun I41 => ?_)
                refine s_aload_n 1 dX11_formula_147 rfl rfl ?_
                refine s_callV0_v2 dX11_formula_148 rfl lkV_RX11_287 (S_102 hK) (Nat.le_of_ble_eq_true rfl) (Nat.le_of_ble_eq_true rfl) (Nat.le_of_ble_eq_true rfl) (ct_x11_token hK) (fun I42 L43 => ?_)
                refine s_aload_n 1 dX11_formula_151 rfl rfl ?_
                refine s_callV0_v2 dX11_formula_152 rfl lkV_RX11_339 (S_102 hK) (Nat.le_of_ble_eq_true rfl) (Nat.le_of_ble_eq_true rfl) (Nat.le_of_ble_eq_true rfl) (ct_x11_unit hK) (fun I44 L45 => ?_)
                refine s_goto (tgt := 160) dX11_formula_155 rfl ?_
                refine s_goto (tgt := 36) dX11_formula_160 rfl ?_
                refine s_pick [1, 2] rfl ?_
                exact ih w2 I44 L45
              · skip
                refine s_aload_n 1 dX11_formula_112 rfl rfl ?_
                refine s_callV0_i0 dX11_formula_113 rfl lkV_RX11_351 (S_102 hK) (Nat.le_of_ble_eq_true rfl) (Nat.le_of_ble_eq_true rfl) (Nat.le_of_ble_eq_true rfl) (ct_x11_hasRelation hK) (fun r46 => ?_)
                refine s_if_ne (tgt := 158) dX11_formula_116 rfl rfl (fun _ => ?_) (fun _ => ?_)
                · skip
                  refine s_iconst (v := 0) dX11_formula_158 rfl cI_0 ?_
                  refine s_istore_nL (fun v47 => [(2, .int v47), (3, .int v11), (0, .ref (X.1 + 102))]) dX11_formula_159 rfl (by decide) (fun _ => rfl) (fun v47 => ?_)
                  refine s_goto (tgt := 36) dX11_formula_160 rfl ?_
                  refine s_pick [2, 0] rfl ?_
                  exact ih v47 I L
                · skip
                  refine s_aload_n 1 dX11_formula_119 rfl rfl ?_
                  refine s_iload_n 0 dX11_formula_120 rfl rfl ?_
                  refine s_callS1_i0 dX11_formula_121 rfl lkS_RX11_307 (Nat.le_of_ble_eq_true rfl) (Nat.le_of_ble_eq_true rfl) (Nat.le_of_ble_eq_true rfl) (ct_x11_tight hK) (fun r48 => ?_)
                  refine s_callV1_v1 dX11_formula_124 rfl lkV_RX11_348 (S_102 hK) (Nat.le_of_ble_eq_true rfl) (Nat.le_of_ble_eq_true rfl) (Nat.le_of_ble_eq_true rfl) (ct_x11_close hK) (fun I49 => ?_)
                  refine s_aload_n 1 dX11_formula_127 rfl rfl ?_
                  refine s_getR 110 dX11_formula_128 rfl fl_11_35 rfl (S_102 hK) (R_102_16 hK) ?_
                  refine s_aload_n 1 dX11_formula_131 rfl rfl ?_
                  refine s_getI dX11_formula_132 rfl fl_11_304 (S_102 hK) ?_
                  refine s_iload_n 0 dX11_formula_135 rfl rfl ?_
                  refine sm_ck (fun g51 => ?_)
                  refine s_iastL dX11_formula_136 rfl (S_110 hK) g51 (fun I50 => ?_)
                  refine s_aload_n 1 dX11_formula_137 rfl rfl ?_
                  refine s_dup dX11_formula_138 rfl rfl ?_
                  refine s_getI dX11_formula_139 rfl fl_11_304 (S_102 hK) ?_
                  refine s_iconst (v := 1) dX11_formula_142 rfl cI_1 ?_
                  refine s_iadd dX11_formula_143 rfl ?_
                  refine s_putIL dX11_formula_144 rfl fl_11_304 (S_102 hK) (fun I52 => ?_)
                  refine s_aload_n 1 dX11_formula_147 rfl rfl ?_
                  refine s_callV0_v2 dX11_formula_148 rfl lkV_RX11_287 (S_102 hK) (Nat.le_of_ble_eq_true rfl) (Nat.le_of_ble_eq_true rfl) (Nat.le_of_ble_eq_true rfl) (ct_x11_token hK) (fun I53 L54 => ?_)
                  refine s_aload_n 1 dX11_formula_151 rfl rfl ?_
                  refine s_callV0_v2 dX11_formula_152 rfl lkV_RX11_339 (S_102 hK) (Nat.le_of_ble_eq_true rfl) (Nat.le_of_ble_eq_true rfl) (Nat.le_of_ble_eq_true rfl) (ct_x11_unit hK) (fun I55 L56 => ?_)
                  refine s_goto (tgt := 160) dX11_formula_155 rfl ?_
                  refine s_goto (tgt := 36) dX11_formula_160 rfl ?_
                  refine s_pick [1, 2] rfl ?_
                  exact ih w2 I55 L56
          · skip
            refine s_aload_n 1 dX11_formula_68 rfl rfl ?_
            refine s_iconst (v := 0) dX11_formula_69 rfl cI_0 ?_
            refine s_callV1_v1 dX11_formula_70 rfl lkV_RX11_348 (S_102 hK) (Nat.le_of_ble_eq_true rfl) (Nat.le_of_ble_eq_true rfl) (Nat.le_of_ble_eq_true rfl) (ct_x11_close hK) (fun I57 => ?_)
            refine s_aload_n 1 dX11_formula_73 rfl rfl ?_
            refine s_dup dX11_formula_74 rfl rfl ?_
            refine s_getI dX11_formula_75 rfl fl_11_304 (S_102 hK) ?_
            refine s_iconst (v := 1) dX11_formula_78 rfl cI_1 ?_
            refine s_isub dX11_formula_79 rfl ?_
            refine s_putIL dX11_formula_80 rfl fl_11_304 (S_102 hK) (fun I58 => ?_)
            refine s_aload_n 1 dX11_formula_83 rfl rfl ?_
            refine s_dup dX11_formula_84 rfl rfl ?_
            refine s_getI dX11_formula_85 rfl fl_11_314 (S_102 hK) ?_
            refine s_iconst (v := 1) dX11_formula_88 rfl cI_1 ?_
            refine s_isub dX11_formula_89 rfl ?_
            refine s_putIL dX11_formula_90 rfl fl_11_314 (S_102 hK) (fun I59 => ?_)
            refine s_aload_n 1 dX11_formula_93 rfl rfl ?_
            refine s_callV0_v2 dX11_formula_94 rfl lkV_RX11_287 (S_102 hK) (Nat.le_of_ble_eq_true rfl) (Nat.le_of_ble_eq_true rfl) (Nat.le_of_ble_eq_true rfl) (ct_x11_token hK) (fun I60 L61 => ?_)
            refine s_goto (tgt := 160) dX11_formula_97 rfl ?_
            refine s_goto (tgt := 36) dX11_formula_160 rfl ?_
            refine s_pick [1, 2] rfl ?_
            exact ih w2 I60 L61
theorem ct_x11_formula {X : WX} {p1 : Int32} {I : MI} {L : ML} {R : MR} {S : MS} (hK : okm R S) : Ct X yX11_formula cX11_formula 4 none 4 86 [.ref (X.1 + 102), .int p1] (I, L, R, S) (x11_formula p1 I L) (fun r => (none, (r.1, r.2, R, S))) := by
  refine Ct.of (by decide) (Nat.le_of_ble_eq_true rfl) [(0, .ref (X.1 + 102)), (1, .int p1)] rfl ?_
  unfold x11_formula
  refine s_aload_n 0 dX11_formula_0 rfl rfl ?_
  refine s_iload_n 1 dX11_formula_1 rfl rfl ?_
  refine s_putIL dX11_formula_2 rfl fl_11_301 (S_102 hK) (fun I1 => ?_)
  refine s_aload_n 0 dX11_formula_5 rfl rfl ?_
  refine s_getR 106 dX11_formula_6 rfl fl_11_23 rfl (S_102 hK) (R_102_12 hK) ?_
  refine s_aload_n 0 dX11_formula_9 rfl rfl ?_
  refine s_getI dX11_formula_10 rfl fl_11_301 (S_102 hK) ?_
  refine s_iconst (v := 0) dX11_formula_13 rfl cI_0 ?_
  refine sm_ck (fun g3 => ?_)
  refine s_iastL dX11_formula_14 rfl (S_106 hK) g3 (fun I2 => ?_)
  refine s_aload_n 0 dX11_formula_15 rfl rfl ?_
  refine s_iconst (v := 0) dX11_formula_16 rfl cI_0 ?_
  refine s_putIL dX11_formula_17 rfl fl_11_304 (S_102 hK) (fun I4 => ?_)
  refine s_aload_n 0 dX11_formula_20 rfl rfl ?_
  refine s_iconst (v := 0) dX11_formula_21 rfl cI_0 ?_
  refine s_putIL dX11_formula_22 rfl fl_11_314 (S_102 hK) (fun I5 => ?_)
  refine s_aload_n 0 dX11_formula_25 rfl rfl ?_
  refine s_iconst (v := 0) dX11_formula_26 rfl cI_0 ?_
  refine s_putIL dX11_formula_27 rfl fl_11_320 (S_102 hK) (fun I6 => ?_)
  refine s_aload_n 0 dX11_formula_30 rfl rfl ?_
  refine s_callV0_v2 dX11_formula_31 rfl lkV_RX11_339 (S_102 hK) (Nat.le_of_ble_eq_true rfl) (Nat.le_of_ble_eq_true rfl) (Nat.le_of_ble_eq_true rfl) (ct_x11_unit hK) (fun I7 L8 => ?_)
  refine s_iconst (v := 1) dX11_formula_34 rfl cI_1 ?_
  refine s_istore_nL (fun v9 => [(2, .int v9), (0, .ref (X.1 + 102)), (1, .int p1)]) dX11_formula_35 rfl (by decide) (fun _ => rfl) (fun v9 => ?_)
  refine s_pick [1, 0] rfl ?_
  refine sm_reg (x11_formula_L36_ok hK FU v9 I7 L8) (fun e62 => ?_)
  refine s_aload_n 0 dX11_formula_163 rfl rfl ?_
  refine s_getI dX11_formula_164 rfl fl_11_224 (S_102 hK) ?_
  refine sm_reg (pcx := 182) (lsx := fun e63 => [(0, .ref (X.1 + 102))]) (stx := fun e63 => []) (ux := fun e63 => (e63, e62.2, R, S)) ?_ (fun e63 => ?_)
  · skip
    refine s_if_ne (tgt := 182) dX11_formula_167 rfl rfl (fun _ => ?_) (fun _ => ?_)
    · skip
      exact sm_exit (fun f h => h)
    · skip
      refine s_aload_n 0 dX11_formula_170 rfl rfl ?_
      refine s_callV0_i0 dX11_formula_171 rfl lkV_RX11_345 (S_102 hK) (Nat.le_of_ble_eq_true rfl) (Nat.le_of_ble_eq_true rfl) (Nat.le_of_ble_eq_true rfl) (ct_x11_hasBracket hK) (fun r64 => ?_)
      refine s_if_eq (tgt := 182) dX11_formula_174 rfl rfl (fun _ => ?_) (fun _ => ?_)
      · skip
        exact sm_exit (fun f h => h)
      · skip
        refine s_aload_n 0 dX11_formula_177 rfl rfl ?_
        refine s_iconst (v := 2) dX11_formula_178 rfl cI_2 ?_
        refine s_callV1_v1 dX11_formula_179 rfl lkV_RX11_290 (S_102 hK) (Nat.le_of_ble_eq_true rfl) (Nat.le_of_ble_eq_true rfl) (Nat.le_of_ble_eq_true rfl) (ct_x11_wrong hK) (fun I65 => ?_)
        exact sm_exit (fun f h => h)
  · skip
    refine s_aload_n 0 dX11_formula_182 rfl rfl ?_
    refine s_getI dX11_formula_183 rfl fl_11_224 (S_102 hK) ?_
    refine s_if_ne (tgt := 194) dX11_formula_186 rfl rfl (fun _ => ?_) (fun _ => ?_)
    · skip
      exact s_vret dX11_formula_194 rfl (fun f h => h)
    · skip
      refine s_aload_n 0 dX11_formula_189 rfl rfl ?_
      refine s_iconst (v := 0) dX11_formula_190 rfl cI_0 ?_
      refine s_callV1_v1 dX11_formula_191 rfl lkV_RX11_348 (S_102 hK) (Nat.le_of_ble_eq_true rfl) (Nat.le_of_ble_eq_true rfl) (Nat.le_of_ble_eq_true rfl) (ct_x11_close hK) (fun I66 => ?_)
      exact s_vret dX11_formula_194 rfl (fun f h => h)
noncomputable def x11_truth (p0 : Int32) (I : MI) : Option (Int32) :=
if p0 = 0 then (
some (0 : Int32)) else
some (1 : Int32)
theorem ct_x11_truth {X : WX} {p0 : Int32} {I : MI} {L : ML} {R : MR} {S : MS} (hK : okm R S) : Ct X yX11_truth cX11_truth 1 (some .int) 0 0 [.int p0] (I, L, R, S) (x11_truth p0 I) (fun r => (some (.int r), (I, L, R, S))) := by
  refine Ct.of (by decide) (Nat.le_of_ble_eq_true rfl) [(0, .int p0)] rfl ?_
  unfold x11_truth
  refine s_iload_n 0 dX11_truth_0 rfl rfl ?_
  refine s_if_eq (tgt := 8) dX11_truth_1 rfl rfl (fun _ => ?_) (fun _ => ?_)
  · skip
    refine s_iconst (v := 0) dX11_truth_8 rfl cI_0 ?_
    exact s_iret dX11_truth_9 rfl (fun f h => h)
  · skip
    refine s_iconst (v := 1) dX11_truth_4 rfl cI_1 ?_
    refine s_goto (tgt := 9) dX11_truth_5 rfl ?_
    exact s_iret dX11_truth_9 rfl (fun f h => h)
noncomputable def x11_done (p0 : Int32) (p1 : Int32) (p2 : Int32) (I : MI) : Option (Int32) :=
if p0 = 37 then (
if p2 = 0 then (
some (0 : Int32)) else
ck (¬ p2 = 0) <|
some (rm p1 p2)) else
if p0 = 38 then (
if p1 = 0 then (
b1 (x11_truth (0 : Int32) I) fun r4 =>
some r4) else
if p2 = 0 then (
b1 (x11_truth (0 : Int32) I) fun r5 =>
some r5) else
b1 (x11_truth (1 : Int32) I) fun r6 =>
some r6) else
if p0 = 39 then (
if p1 = 0 then (
if p2 = 0 then (
b1 (x11_truth (0 : Int32) I) fun r9 =>
some r9) else
b1 (x11_truth (1 : Int32) I) fun r10 =>
some r10) else
b1 (x11_truth (1 : Int32) I) fun r8 =>
some r8) else
if p0 = 40 then (
if p1 = 0 then (
if p2 = 0 then (
b1 (x11_truth (0 : Int32) I) fun r13 =>
some r13) else
b1 (x11_truth (1 : Int32) I) fun r14 =>
some r14) else
b1 (x11_truth (1 : Int32) I) fun r12 =>
some r12) else
if p0 = 41 then (
if p1 = 0 then (
if p2 = 0 then (
b1 (x11_truth (0 : Int32) I) fun r17 =>
some r17) else
b1 (x11_truth (1 : Int32) I) fun r18 =>
some r18) else
b1 (x11_truth (1 : Int32) I) fun r16 =>
some r16) else
if p0 = 42 then (
some (p1 * p2)) else
if p0 = 43 then (
some (p1 + p2)) else
if p0 = 44 then (
if p1 = 0 then (
if p2 = 0 then (
b1 (x11_truth (0 : Int32) I) fun r23 =>
some r23) else
b1 (x11_truth (1 : Int32) I) fun r24 =>
some r24) else
b1 (x11_truth (1 : Int32) I) fun r22 =>
some r22) else
if p0 = 45 then (
some (p1 - p2)) else
if p0 = 46 then (
if p1 = 0 then (
if p2 = 0 then (
b1 (x11_truth (0 : Int32) I) fun r28 =>
some r28) else
b1 (x11_truth (1 : Int32) I) fun r29 =>
some r29) else
b1 (x11_truth (1 : Int32) I) fun r27 =>
some r27) else
if p0 = 47 then (
if p2 = 0 then (
some (0 : Int32)) else
ck (¬ p2 = 0) <|
some (p1 / p2)) else
if p0 = 48 then (
if p1 = 0 then (
if p2 = 0 then (
b1 (x11_truth (0 : Int32) I) fun r34 =>
some r34) else
b1 (x11_truth (1 : Int32) I) fun r35 =>
some r35) else
b1 (x11_truth (1 : Int32) I) fun r33 =>
some r33) else
if p0 = 49 then (
if p1 = 0 then (
if p2 = 0 then (
b1 (x11_truth (0 : Int32) I) fun r38 =>
some r38) else
b1 (x11_truth (1 : Int32) I) fun r39 =>
some r39) else
b1 (x11_truth (1 : Int32) I) fun r37 =>
some r37) else
if p0 = 50 then (
if p1 = 0 then (
if p2 = 0 then (
b1 (x11_truth (0 : Int32) I) fun r42 =>
some r42) else
b1 (x11_truth (1 : Int32) I) fun r43 =>
some r43) else
b1 (x11_truth (1 : Int32) I) fun r41 =>
some r41) else
if p0 = 51 then (
if p1 = 0 then (
if p2 = 0 then (
b1 (x11_truth (0 : Int32) I) fun r46 =>
some r46) else
b1 (x11_truth (1 : Int32) I) fun r47 =>
some r47) else
b1 (x11_truth (1 : Int32) I) fun r45 =>
some r45) else
if p0 = 52 then (
if p1 = 0 then (
if p2 = 0 then (
b1 (x11_truth (0 : Int32) I) fun r50 =>
some r50) else
b1 (x11_truth (1 : Int32) I) fun r51 =>
some r51) else
b1 (x11_truth (1 : Int32) I) fun r49 =>
some r49) else
if p0 = 53 then (
if p1 = 0 then (
if p2 = 0 then (
b1 (x11_truth (0 : Int32) I) fun r54 =>
some r54) else
b1 (x11_truth (1 : Int32) I) fun r55 =>
some r55) else
b1 (x11_truth (1 : Int32) I) fun r53 =>
some r53) else
if p0 = 54 then (
if p1 = 0 then (
if p2 = 0 then (
b1 (x11_truth (0 : Int32) I) fun r58 =>
some r58) else
b1 (x11_truth (1 : Int32) I) fun r59 =>
some r59) else
b1 (x11_truth (1 : Int32) I) fun r57 =>
some r57) else
if p0 = 55 then (
if p1 = 0 then (
if p2 = 0 then (
b1 (x11_truth (0 : Int32) I) fun r62 =>
some r62) else
b1 (x11_truth (1 : Int32) I) fun r63 =>
some r63) else
b1 (x11_truth (1 : Int32) I) fun r61 =>
some r61) else
if p0 = 56 then (
if p1 = 0 then (
if p2 = 0 then (
b1 (x11_truth (0 : Int32) I) fun r66 =>
some r66) else
b1 (x11_truth (1 : Int32) I) fun r67 =>
some r67) else
b1 (x11_truth (1 : Int32) I) fun r65 =>
some r65) else
if p0 = 57 then (
if p1 = 0 then (
if p2 = 0 then (
b1 (x11_truth (0 : Int32) I) fun r70 =>
some r70) else
b1 (x11_truth (1 : Int32) I) fun r71 =>
some r71) else
b1 (x11_truth (1 : Int32) I) fun r69 =>
some r69) else
if p0 = 58 then (
if p1 = 0 then (
if p2 = 0 then (
b1 (x11_truth (0 : Int32) I) fun r74 =>
some r74) else
b1 (x11_truth (1 : Int32) I) fun r75 =>
some r75) else
b1 (x11_truth (1 : Int32) I) fun r73 =>
some r73) else
if p0 = 59 then (
if p1 = 0 then (
if p2 = 0 then (
b1 (x11_truth (0 : Int32) I) fun r78 =>
some r78) else
b1 (x11_truth (1 : Int32) I) fun r79 =>
some r79) else
b1 (x11_truth (1 : Int32) I) fun r77 =>
some r77) else
if p0 = 60 then (
if p1 < p2 then (
b1 (x11_truth (1 : Int32) I) fun r82 =>
some r82) else
b1 (x11_truth (0 : Int32) I) fun r81 =>
some r81) else
if p0 = 61 then (
if p1 = p2 then (
b1 (x11_truth (1 : Int32) I) fun r85 =>
some r85) else
b1 (x11_truth (0 : Int32) I) fun r84 =>
some r84) else
if p0 = 62 then (
if p2 < p1 then (
b1 (x11_truth (1 : Int32) I) fun r88 =>
some r88) else
b1 (x11_truth (0 : Int32) I) fun r87 =>
some r87) else
if p1 = 0 then (
if p2 = 0 then (
b1 (x11_truth (0 : Int32) I) fun r90 =>
some r90) else
b1 (x11_truth (1 : Int32) I) fun r91 =>
some r91) else
b1 (x11_truth (1 : Int32) I) fun r89 =>
some r89
theorem ct_x11_done {X : WX} {p0 : Int32} {p1 : Int32} {p2 : Int32} {I : MI} {L : ML} {R : MR} {S : MS} (hK : okm R S) : Ct X yX11_done cX11_done 3 (some .int) 1 20 [.int p0, .int p1, .int p2] (I, L, R, S) (x11_done p0 p1 p2 I) (fun r => (some (.int r), (I, L, R, S))) := by
  refine Ct.of (by decide) (Nat.le_of_ble_eq_true rfl) [(0, .int p0), (1, .int p1), (2, .int p2)] rfl ?_
  unfold x11_done
  refine s_iload_n 0 dX11_done_0 rfl rfl ?_
  refine sm_ite (fun h1 => ?_) (fun h1 => ?_)
  · skip
    refine s_tin (tgt := 144) dX11_done_1 (by rw [h1]; try decide) (by rw [h1]; try decide) (by rw [h1]; try rfl) rfl ?_
    refine s_iload_n 2 dX11_done_144 rfl rfl ?_
    refine s_if_ne (tgt := 152) dX11_done_145 rfl rfl (fun _ => ?_) (fun _ => ?_)
    · skip
      refine s_iload_n 1 dX11_done_152 rfl rfl ?_
      refine s_iload_n 2 dX11_done_153 rfl rfl ?_
      refine sm_ck (fun g2 => ?_)
      refine s_irem dX11_done_154 rfl g2 ?_
      exact s_iret dX11_done_155 rfl (fun f h => h)
    · skip
      refine s_iconst (v := 0) dX11_done_148 rfl cI_0 ?_
      refine s_goto (tgt := 155) dX11_done_149 rfl ?_
      exact s_iret dX11_done_155 rfl (fun f h => h)
  refine sm_ite (fun h3 => ?_) (fun h3 => ?_)
  · skip
    refine s_tin (tgt := 198) dX11_done_1 (by rw [h3]; try decide) (by rw [h3]; try decide) (by rw [h3]; try rfl) rfl ?_
    refine s_iload_n 1 dX11_done_198 rfl rfl ?_
    refine s_if_eq (tgt := 210) dX11_done_199 rfl rfl (fun _ => ?_) (fun _ => ?_)
    · skip
      refine s_iconst (v := 0) dX11_done_210 rfl cI_0 ?_
      refine s_callS1_i0 dX11_done_211 rfl lkS_RX11_354 (Nat.le_of_ble_eq_true rfl) (Nat.le_of_ble_eq_true rfl) (Nat.le_of_ble_eq_true rfl) (ct_x11_truth hK) (fun r4 => ?_)
      exact s_iret dX11_done_214 rfl (fun f h => h)
    · skip
      refine s_iload_n 2 dX11_done_202 rfl rfl ?_
      refine s_if_eq (tgt := 210) dX11_done_203 rfl rfl (fun _ => ?_) (fun _ => ?_)
      · skip
        refine s_iconst (v := 0) dX11_done_210 rfl cI_0 ?_
        refine s_callS1_i0 dX11_done_211 rfl lkS_RX11_354 (Nat.le_of_ble_eq_true rfl) (Nat.le_of_ble_eq_true rfl) (Nat.le_of_ble_eq_true rfl) (ct_x11_truth hK) (fun r5 => ?_)
        exact s_iret dX11_done_214 rfl (fun f h => h)
      · skip
        refine s_iconst (v := 1) dX11_done_206 rfl cI_1 ?_
        refine s_goto (tgt := 211) dX11_done_207 rfl ?_
        refine s_callS1_i0 dX11_done_211 rfl lkS_RX11_354 (Nat.le_of_ble_eq_true rfl) (Nat.le_of_ble_eq_true rfl) (Nat.le_of_ble_eq_true rfl) (ct_x11_truth hK) (fun r6 => ?_)
        exact s_iret dX11_done_214 rfl (fun f h => h)
  refine sm_ite (fun h7 => ?_) (fun h7 => ?_)
  · skip
    refine s_tin (tgt := 215) dX11_done_1 (by rw [h7]; try decide) (by rw [h7]; try decide) (by rw [h7]; try rfl) rfl ?_
    refine s_iload_n 1 dX11_done_215 rfl rfl ?_
    refine s_if_ne (tgt := 223) dX11_done_216 rfl rfl (fun _ => ?_) (fun _ => ?_)
    · skip
      refine s_iconst (v := 1) dX11_done_223 rfl cI_1 ?_
      refine s_goto (tgt := 228) dX11_done_224 rfl ?_
      refine s_callS1_i0 dX11_done_228 rfl lkS_RX11_354 (Nat.le_of_ble_eq_true rfl) (Nat.le_of_ble_eq_true rfl) (Nat.le_of_ble_eq_true rfl) (ct_x11_truth hK) (fun r8 => ?_)
      exact s_iret dX11_done_231 rfl (fun f h => h)
    · skip
      refine s_iload_n 2 dX11_done_219 rfl rfl ?_
      refine s_if_eq (tgt := 227) dX11_done_220 rfl rfl (fun _ => ?_) (fun _ => ?_)
      · skip
        refine s_iconst (v := 0) dX11_done_227 rfl cI_0 ?_
        refine s_callS1_i0 dX11_done_228 rfl lkS_RX11_354 (Nat.le_of_ble_eq_true rfl) (Nat.le_of_ble_eq_true rfl) (Nat.le_of_ble_eq_true rfl) (ct_x11_truth hK) (fun r9 => ?_)
        exact s_iret dX11_done_231 rfl (fun f h => h)
      · skip
        refine s_iconst (v := 1) dX11_done_223 rfl cI_1 ?_
        refine s_goto (tgt := 228) dX11_done_224 rfl ?_
        refine s_callS1_i0 dX11_done_228 rfl lkS_RX11_354 (Nat.le_of_ble_eq_true rfl) (Nat.le_of_ble_eq_true rfl) (Nat.le_of_ble_eq_true rfl) (ct_x11_truth hK) (fun r10 => ?_)
        exact s_iret dX11_done_231 rfl (fun f h => h)
  refine sm_ite (fun h11 => ?_) (fun h11 => ?_)
  · skip
    refine s_tin (tgt := 215) dX11_done_1 (by rw [h11]; try decide) (by rw [h11]; try decide) (by rw [h11]; try rfl) rfl ?_
    refine s_iload_n 1 dX11_done_215 rfl rfl ?_
    refine s_if_ne (tgt := 223) dX11_done_216 rfl rfl (fun _ => ?_) (fun _ => ?_)
    · skip
      refine s_iconst (v := 1) dX11_done_223 rfl cI_1 ?_
      refine s_goto (tgt := 228) dX11_done_224 rfl ?_
      refine s_callS1_i0 dX11_done_228 rfl lkS_RX11_354 (Nat.le_of_ble_eq_true rfl) (Nat.le_of_ble_eq_true rfl) (Nat.le_of_ble_eq_true rfl) (ct_x11_truth hK) (fun r12 => ?_)
      exact s_iret dX11_done_231 rfl (fun f h => h)
    · skip
      refine s_iload_n 2 dX11_done_219 rfl rfl ?_
      refine s_if_eq (tgt := 227) dX11_done_220 rfl rfl (fun _ => ?_) (fun _ => ?_)
      · skip
        refine s_iconst (v := 0) dX11_done_227 rfl cI_0 ?_
        refine s_callS1_i0 dX11_done_228 rfl lkS_RX11_354 (Nat.le_of_ble_eq_true rfl) (Nat.le_of_ble_eq_true rfl) (Nat.le_of_ble_eq_true rfl) (ct_x11_truth hK) (fun r13 => ?_)
        exact s_iret dX11_done_231 rfl (fun f h => h)
      · skip
        refine s_iconst (v := 1) dX11_done_223 rfl cI_1 ?_
        refine s_goto (tgt := 228) dX11_done_224 rfl ?_
        refine s_callS1_i0 dX11_done_228 rfl lkS_RX11_354 (Nat.le_of_ble_eq_true rfl) (Nat.le_of_ble_eq_true rfl) (Nat.le_of_ble_eq_true rfl) (ct_x11_truth hK) (fun r14 => ?_)
        exact s_iret dX11_done_231 rfl (fun f h => h)
  refine sm_ite (fun h15 => ?_) (fun h15 => ?_)
  · skip
    refine s_tin (tgt := 215) dX11_done_1 (by rw [h15]; try decide) (by rw [h15]; try decide) (by rw [h15]; try rfl) rfl ?_
    refine s_iload_n 1 dX11_done_215 rfl rfl ?_
    refine s_if_ne (tgt := 223) dX11_done_216 rfl rfl (fun _ => ?_) (fun _ => ?_)
    · skip
      refine s_iconst (v := 1) dX11_done_223 rfl cI_1 ?_
      refine s_goto (tgt := 228) dX11_done_224 rfl ?_
      refine s_callS1_i0 dX11_done_228 rfl lkS_RX11_354 (Nat.le_of_ble_eq_true rfl) (Nat.le_of_ble_eq_true rfl) (Nat.le_of_ble_eq_true rfl) (ct_x11_truth hK) (fun r16 => ?_)
      exact s_iret dX11_done_231 rfl (fun f h => h)
    · skip
      refine s_iload_n 2 dX11_done_219 rfl rfl ?_
      refine s_if_eq (tgt := 227) dX11_done_220 rfl rfl (fun _ => ?_) (fun _ => ?_)
      · skip
        refine s_iconst (v := 0) dX11_done_227 rfl cI_0 ?_
        refine s_callS1_i0 dX11_done_228 rfl lkS_RX11_354 (Nat.le_of_ble_eq_true rfl) (Nat.le_of_ble_eq_true rfl) (Nat.le_of_ble_eq_true rfl) (ct_x11_truth hK) (fun r17 => ?_)
        exact s_iret dX11_done_231 rfl (fun f h => h)
      · skip
        refine s_iconst (v := 1) dX11_done_223 rfl cI_1 ?_
        refine s_goto (tgt := 228) dX11_done_224 rfl ?_
        refine s_callS1_i0 dX11_done_228 rfl lkS_RX11_354 (Nat.le_of_ble_eq_true rfl) (Nat.le_of_ble_eq_true rfl) (Nat.le_of_ble_eq_true rfl) (ct_x11_truth hK) (fun r18 => ?_)
        exact s_iret dX11_done_231 rfl (fun f h => h)
  refine sm_ite (fun h19 => ?_) (fun h19 => ?_)
  · skip
    refine s_tin (tgt := 128) dX11_done_1 (by rw [h19]; try decide) (by rw [h19]; try decide) (by rw [h19]; try rfl) rfl ?_
    refine s_iload_n 1 dX11_done_128 rfl rfl ?_
    refine s_iload_n 2 dX11_done_129 rfl rfl ?_
    refine s_imul dX11_done_130 rfl ?_
    exact s_iret dX11_done_131 rfl (fun f h => h)
  refine sm_ite (fun h20 => ?_) (fun h20 => ?_)
  · skip
    refine s_tin (tgt := 120) dX11_done_1 (by rw [h20]; try decide) (by rw [h20]; try decide) (by rw [h20]; try rfl) rfl ?_
    refine s_iload_n 1 dX11_done_120 rfl rfl ?_
    refine s_iload_n 2 dX11_done_121 rfl rfl ?_
    refine s_iadd dX11_done_122 rfl ?_
    exact s_iret dX11_done_123 rfl (fun f h => h)
  refine sm_ite (fun h21 => ?_) (fun h21 => ?_)
  · skip
    refine s_tin (tgt := 215) dX11_done_1 (by rw [h21]; try decide) (by rw [h21]; try decide) (by rw [h21]; try rfl) rfl ?_
    refine s_iload_n 1 dX11_done_215 rfl rfl ?_
    refine s_if_ne (tgt := 223) dX11_done_216 rfl rfl (fun _ => ?_) (fun _ => ?_)
    · skip
      refine s_iconst (v := 1) dX11_done_223 rfl cI_1 ?_
      refine s_goto (tgt := 228) dX11_done_224 rfl ?_
      refine s_callS1_i0 dX11_done_228 rfl lkS_RX11_354 (Nat.le_of_ble_eq_true rfl) (Nat.le_of_ble_eq_true rfl) (Nat.le_of_ble_eq_true rfl) (ct_x11_truth hK) (fun r22 => ?_)
      exact s_iret dX11_done_231 rfl (fun f h => h)
    · skip
      refine s_iload_n 2 dX11_done_219 rfl rfl ?_
      refine s_if_eq (tgt := 227) dX11_done_220 rfl rfl (fun _ => ?_) (fun _ => ?_)
      · skip
        refine s_iconst (v := 0) dX11_done_227 rfl cI_0 ?_
        refine s_callS1_i0 dX11_done_228 rfl lkS_RX11_354 (Nat.le_of_ble_eq_true rfl) (Nat.le_of_ble_eq_true rfl) (Nat.le_of_ble_eq_true rfl) (ct_x11_truth hK) (fun r23 => ?_)
        exact s_iret dX11_done_231 rfl (fun f h => h)
      · skip
        refine s_iconst (v := 1) dX11_done_223 rfl cI_1 ?_
        refine s_goto (tgt := 228) dX11_done_224 rfl ?_
        refine s_callS1_i0 dX11_done_228 rfl lkS_RX11_354 (Nat.le_of_ble_eq_true rfl) (Nat.le_of_ble_eq_true rfl) (Nat.le_of_ble_eq_true rfl) (ct_x11_truth hK) (fun r24 => ?_)
        exact s_iret dX11_done_231 rfl (fun f h => h)
  refine sm_ite (fun h25 => ?_) (fun h25 => ?_)
  · skip
    refine s_tin (tgt := 124) dX11_done_1 (by rw [h25]; try decide) (by rw [h25]; try decide) (by rw [h25]; try rfl) rfl ?_
    refine s_iload_n 1 dX11_done_124 rfl rfl ?_
    refine s_iload_n 2 dX11_done_125 rfl rfl ?_
    refine s_isub dX11_done_126 rfl ?_
    exact s_iret dX11_done_127 rfl (fun f h => h)
  refine sm_ite (fun h26 => ?_) (fun h26 => ?_)
  · skip
    refine s_tin (tgt := 215) dX11_done_1 (by rw [h26]; try decide) (by rw [h26]; try decide) (by rw [h26]; try rfl) rfl ?_
    refine s_iload_n 1 dX11_done_215 rfl rfl ?_
    refine s_if_ne (tgt := 223) dX11_done_216 rfl rfl (fun _ => ?_) (fun _ => ?_)
    · skip
      refine s_iconst (v := 1) dX11_done_223 rfl cI_1 ?_
      refine s_goto (tgt := 228) dX11_done_224 rfl ?_
      refine s_callS1_i0 dX11_done_228 rfl lkS_RX11_354 (Nat.le_of_ble_eq_true rfl) (Nat.le_of_ble_eq_true rfl) (Nat.le_of_ble_eq_true rfl) (ct_x11_truth hK) (fun r27 => ?_)
      exact s_iret dX11_done_231 rfl (fun f h => h)
    · skip
      refine s_iload_n 2 dX11_done_219 rfl rfl ?_
      refine s_if_eq (tgt := 227) dX11_done_220 rfl rfl (fun _ => ?_) (fun _ => ?_)
      · skip
        refine s_iconst (v := 0) dX11_done_227 rfl cI_0 ?_
        refine s_callS1_i0 dX11_done_228 rfl lkS_RX11_354 (Nat.le_of_ble_eq_true rfl) (Nat.le_of_ble_eq_true rfl) (Nat.le_of_ble_eq_true rfl) (ct_x11_truth hK) (fun r28 => ?_)
        exact s_iret dX11_done_231 rfl (fun f h => h)
      · skip
        refine s_iconst (v := 1) dX11_done_223 rfl cI_1 ?_
        refine s_goto (tgt := 228) dX11_done_224 rfl ?_
        refine s_callS1_i0 dX11_done_228 rfl lkS_RX11_354 (Nat.le_of_ble_eq_true rfl) (Nat.le_of_ble_eq_true rfl) (Nat.le_of_ble_eq_true rfl) (ct_x11_truth hK) (fun r29 => ?_)
        exact s_iret dX11_done_231 rfl (fun f h => h)
  refine sm_ite (fun h30 => ?_) (fun h30 => ?_)
  · skip
    refine s_tin (tgt := 132) dX11_done_1 (by rw [h30]; try decide) (by rw [h30]; try decide) (by rw [h30]; try rfl) rfl ?_
    refine s_iload_n 2 dX11_done_132 rfl rfl ?_
    refine s_if_ne (tgt := 140) dX11_done_133 rfl rfl (fun _ => ?_) (fun _ => ?_)
    · skip
      refine s_iload_n 1 dX11_done_140 rfl rfl ?_
      refine s_iload_n 2 dX11_done_141 rfl rfl ?_
      refine sm_ck (fun g31 => ?_)
      refine s_idiv dX11_done_142 rfl g31 ?_
      exact s_iret dX11_done_143 rfl (fun f h => h)
    · skip
      refine s_iconst (v := 0) dX11_done_136 rfl cI_0 ?_
      refine s_goto (tgt := 143) dX11_done_137 rfl ?_
      exact s_iret dX11_done_143 rfl (fun f h => h)
  refine sm_ite (fun h32 => ?_) (fun h32 => ?_)
  · skip
    refine s_tin (tgt := 215) dX11_done_1 (by rw [h32]; try decide) (by rw [h32]; try decide) (by rw [h32]; try rfl) rfl ?_
    refine s_iload_n 1 dX11_done_215 rfl rfl ?_
    refine s_if_ne (tgt := 223) dX11_done_216 rfl rfl (fun _ => ?_) (fun _ => ?_)
    · skip
      refine s_iconst (v := 1) dX11_done_223 rfl cI_1 ?_
      refine s_goto (tgt := 228) dX11_done_224 rfl ?_
      refine s_callS1_i0 dX11_done_228 rfl lkS_RX11_354 (Nat.le_of_ble_eq_true rfl) (Nat.le_of_ble_eq_true rfl) (Nat.le_of_ble_eq_true rfl) (ct_x11_truth hK) (fun r33 => ?_)
      exact s_iret dX11_done_231 rfl (fun f h => h)
    · skip
      refine s_iload_n 2 dX11_done_219 rfl rfl ?_
      refine s_if_eq (tgt := 227) dX11_done_220 rfl rfl (fun _ => ?_) (fun _ => ?_)
      · skip
        refine s_iconst (v := 0) dX11_done_227 rfl cI_0 ?_
        refine s_callS1_i0 dX11_done_228 rfl lkS_RX11_354 (Nat.le_of_ble_eq_true rfl) (Nat.le_of_ble_eq_true rfl) (Nat.le_of_ble_eq_true rfl) (ct_x11_truth hK) (fun r34 => ?_)
        exact s_iret dX11_done_231 rfl (fun f h => h)
      · skip
        refine s_iconst (v := 1) dX11_done_223 rfl cI_1 ?_
        refine s_goto (tgt := 228) dX11_done_224 rfl ?_
        refine s_callS1_i0 dX11_done_228 rfl lkS_RX11_354 (Nat.le_of_ble_eq_true rfl) (Nat.le_of_ble_eq_true rfl) (Nat.le_of_ble_eq_true rfl) (ct_x11_truth hK) (fun r35 => ?_)
        exact s_iret dX11_done_231 rfl (fun f h => h)
  refine sm_ite (fun h36 => ?_) (fun h36 => ?_)
  · skip
    refine s_tin (tgt := 215) dX11_done_1 (by rw [h36]; try decide) (by rw [h36]; try decide) (by rw [h36]; try rfl) rfl ?_
    refine s_iload_n 1 dX11_done_215 rfl rfl ?_
    refine s_if_ne (tgt := 223) dX11_done_216 rfl rfl (fun _ => ?_) (fun _ => ?_)
    · skip
      refine s_iconst (v := 1) dX11_done_223 rfl cI_1 ?_
      refine s_goto (tgt := 228) dX11_done_224 rfl ?_
      refine s_callS1_i0 dX11_done_228 rfl lkS_RX11_354 (Nat.le_of_ble_eq_true rfl) (Nat.le_of_ble_eq_true rfl) (Nat.le_of_ble_eq_true rfl) (ct_x11_truth hK) (fun r37 => ?_)
      exact s_iret dX11_done_231 rfl (fun f h => h)
    · skip
      refine s_iload_n 2 dX11_done_219 rfl rfl ?_
      refine s_if_eq (tgt := 227) dX11_done_220 rfl rfl (fun _ => ?_) (fun _ => ?_)
      · skip
        refine s_iconst (v := 0) dX11_done_227 rfl cI_0 ?_
        refine s_callS1_i0 dX11_done_228 rfl lkS_RX11_354 (Nat.le_of_ble_eq_true rfl) (Nat.le_of_ble_eq_true rfl) (Nat.le_of_ble_eq_true rfl) (ct_x11_truth hK) (fun r38 => ?_)
        exact s_iret dX11_done_231 rfl (fun f h => h)
      · skip
        refine s_iconst (v := 1) dX11_done_223 rfl cI_1 ?_
        refine s_goto (tgt := 228) dX11_done_224 rfl ?_
        refine s_callS1_i0 dX11_done_228 rfl lkS_RX11_354 (Nat.le_of_ble_eq_true rfl) (Nat.le_of_ble_eq_true rfl) (Nat.le_of_ble_eq_true rfl) (ct_x11_truth hK) (fun r39 => ?_)
        exact s_iret dX11_done_231 rfl (fun f h => h)
  refine sm_ite (fun h40 => ?_) (fun h40 => ?_)
  · skip
    refine s_tin (tgt := 215) dX11_done_1 (by rw [h40]; try decide) (by rw [h40]; try decide) (by rw [h40]; try rfl) rfl ?_
    refine s_iload_n 1 dX11_done_215 rfl rfl ?_
    refine s_if_ne (tgt := 223) dX11_done_216 rfl rfl (fun _ => ?_) (fun _ => ?_)
    · skip
      refine s_iconst (v := 1) dX11_done_223 rfl cI_1 ?_
      refine s_goto (tgt := 228) dX11_done_224 rfl ?_
      refine s_callS1_i0 dX11_done_228 rfl lkS_RX11_354 (Nat.le_of_ble_eq_true rfl) (Nat.le_of_ble_eq_true rfl) (Nat.le_of_ble_eq_true rfl) (ct_x11_truth hK) (fun r41 => ?_)
      exact s_iret dX11_done_231 rfl (fun f h => h)
    · skip
      refine s_iload_n 2 dX11_done_219 rfl rfl ?_
      refine s_if_eq (tgt := 227) dX11_done_220 rfl rfl (fun _ => ?_) (fun _ => ?_)
      · skip
        refine s_iconst (v := 0) dX11_done_227 rfl cI_0 ?_
        refine s_callS1_i0 dX11_done_228 rfl lkS_RX11_354 (Nat.le_of_ble_eq_true rfl) (Nat.le_of_ble_eq_true rfl) (Nat.le_of_ble_eq_true rfl) (ct_x11_truth hK) (fun r42 => ?_)
        exact s_iret dX11_done_231 rfl (fun f h => h)
      · skip
        refine s_iconst (v := 1) dX11_done_223 rfl cI_1 ?_
        refine s_goto (tgt := 228) dX11_done_224 rfl ?_
        refine s_callS1_i0 dX11_done_228 rfl lkS_RX11_354 (Nat.le_of_ble_eq_true rfl) (Nat.le_of_ble_eq_true rfl) (Nat.le_of_ble_eq_true rfl) (ct_x11_truth hK) (fun r43 => ?_)
        exact s_iret dX11_done_231 rfl (fun f h => h)
  refine sm_ite (fun h44 => ?_) (fun h44 => ?_)
  · skip
    refine s_tin (tgt := 215) dX11_done_1 (by rw [h44]; try decide) (by rw [h44]; try decide) (by rw [h44]; try rfl) rfl ?_
    refine s_iload_n 1 dX11_done_215 rfl rfl ?_
    refine s_if_ne (tgt := 223) dX11_done_216 rfl rfl (fun _ => ?_) (fun _ => ?_)
    · skip
      refine s_iconst (v := 1) dX11_done_223 rfl cI_1 ?_
      refine s_goto (tgt := 228) dX11_done_224 rfl ?_
      refine s_callS1_i0 dX11_done_228 rfl lkS_RX11_354 (Nat.le_of_ble_eq_true rfl) (Nat.le_of_ble_eq_true rfl) (Nat.le_of_ble_eq_true rfl) (ct_x11_truth hK) (fun r45 => ?_)
      exact s_iret dX11_done_231 rfl (fun f h => h)
    · skip
      refine s_iload_n 2 dX11_done_219 rfl rfl ?_
      refine s_if_eq (tgt := 227) dX11_done_220 rfl rfl (fun _ => ?_) (fun _ => ?_)
      · skip
        refine s_iconst (v := 0) dX11_done_227 rfl cI_0 ?_
        refine s_callS1_i0 dX11_done_228 rfl lkS_RX11_354 (Nat.le_of_ble_eq_true rfl) (Nat.le_of_ble_eq_true rfl) (Nat.le_of_ble_eq_true rfl) (ct_x11_truth hK) (fun r46 => ?_)
        exact s_iret dX11_done_231 rfl (fun f h => h)
      · skip
        refine s_iconst (v := 1) dX11_done_223 rfl cI_1 ?_
        refine s_goto (tgt := 228) dX11_done_224 rfl ?_
        refine s_callS1_i0 dX11_done_228 rfl lkS_RX11_354 (Nat.le_of_ble_eq_true rfl) (Nat.le_of_ble_eq_true rfl) (Nat.le_of_ble_eq_true rfl) (ct_x11_truth hK) (fun r47 => ?_)
        exact s_iret dX11_done_231 rfl (fun f h => h)
  refine sm_ite (fun h48 => ?_) (fun h48 => ?_)
  · skip
    refine s_tin (tgt := 215) dX11_done_1 (by rw [h48]; try decide) (by rw [h48]; try decide) (by rw [h48]; try rfl) rfl ?_
    refine s_iload_n 1 dX11_done_215 rfl rfl ?_
    refine s_if_ne (tgt := 223) dX11_done_216 rfl rfl (fun _ => ?_) (fun _ => ?_)
    · skip
      refine s_iconst (v := 1) dX11_done_223 rfl cI_1 ?_
      refine s_goto (tgt := 228) dX11_done_224 rfl ?_
      refine s_callS1_i0 dX11_done_228 rfl lkS_RX11_354 (Nat.le_of_ble_eq_true rfl) (Nat.le_of_ble_eq_true rfl) (Nat.le_of_ble_eq_true rfl) (ct_x11_truth hK) (fun r49 => ?_)
      exact s_iret dX11_done_231 rfl (fun f h => h)
    · skip
      refine s_iload_n 2 dX11_done_219 rfl rfl ?_
      refine s_if_eq (tgt := 227) dX11_done_220 rfl rfl (fun _ => ?_) (fun _ => ?_)
      · skip
        refine s_iconst (v := 0) dX11_done_227 rfl cI_0 ?_
        refine s_callS1_i0 dX11_done_228 rfl lkS_RX11_354 (Nat.le_of_ble_eq_true rfl) (Nat.le_of_ble_eq_true rfl) (Nat.le_of_ble_eq_true rfl) (ct_x11_truth hK) (fun r50 => ?_)
        exact s_iret dX11_done_231 rfl (fun f h => h)
      · skip
        refine s_iconst (v := 1) dX11_done_223 rfl cI_1 ?_
        refine s_goto (tgt := 228) dX11_done_224 rfl ?_
        refine s_callS1_i0 dX11_done_228 rfl lkS_RX11_354 (Nat.le_of_ble_eq_true rfl) (Nat.le_of_ble_eq_true rfl) (Nat.le_of_ble_eq_true rfl) (ct_x11_truth hK) (fun r51 => ?_)
        exact s_iret dX11_done_231 rfl (fun f h => h)
  refine sm_ite (fun h52 => ?_) (fun h52 => ?_)
  · skip
    refine s_tin (tgt := 215) dX11_done_1 (by rw [h52]; try decide) (by rw [h52]; try decide) (by rw [h52]; try rfl) rfl ?_
    refine s_iload_n 1 dX11_done_215 rfl rfl ?_
    refine s_if_ne (tgt := 223) dX11_done_216 rfl rfl (fun _ => ?_) (fun _ => ?_)
    · skip
      refine s_iconst (v := 1) dX11_done_223 rfl cI_1 ?_
      refine s_goto (tgt := 228) dX11_done_224 rfl ?_
      refine s_callS1_i0 dX11_done_228 rfl lkS_RX11_354 (Nat.le_of_ble_eq_true rfl) (Nat.le_of_ble_eq_true rfl) (Nat.le_of_ble_eq_true rfl) (ct_x11_truth hK) (fun r53 => ?_)
      exact s_iret dX11_done_231 rfl (fun f h => h)
    · skip
      refine s_iload_n 2 dX11_done_219 rfl rfl ?_
      refine s_if_eq (tgt := 227) dX11_done_220 rfl rfl (fun _ => ?_) (fun _ => ?_)
      · skip
        refine s_iconst (v := 0) dX11_done_227 rfl cI_0 ?_
        refine s_callS1_i0 dX11_done_228 rfl lkS_RX11_354 (Nat.le_of_ble_eq_true rfl) (Nat.le_of_ble_eq_true rfl) (Nat.le_of_ble_eq_true rfl) (ct_x11_truth hK) (fun r54 => ?_)
        exact s_iret dX11_done_231 rfl (fun f h => h)
      · skip
        refine s_iconst (v := 1) dX11_done_223 rfl cI_1 ?_
        refine s_goto (tgt := 228) dX11_done_224 rfl ?_
        refine s_callS1_i0 dX11_done_228 rfl lkS_RX11_354 (Nat.le_of_ble_eq_true rfl) (Nat.le_of_ble_eq_true rfl) (Nat.le_of_ble_eq_true rfl) (ct_x11_truth hK) (fun r55 => ?_)
        exact s_iret dX11_done_231 rfl (fun f h => h)
  refine sm_ite (fun h56 => ?_) (fun h56 => ?_)
  · skip
    refine s_tin (tgt := 215) dX11_done_1 (by rw [h56]; try decide) (by rw [h56]; try decide) (by rw [h56]; try rfl) rfl ?_
    refine s_iload_n 1 dX11_done_215 rfl rfl ?_
    refine s_if_ne (tgt := 223) dX11_done_216 rfl rfl (fun _ => ?_) (fun _ => ?_)
    · skip
      refine s_iconst (v := 1) dX11_done_223 rfl cI_1 ?_
      refine s_goto (tgt := 228) dX11_done_224 rfl ?_
      refine s_callS1_i0 dX11_done_228 rfl lkS_RX11_354 (Nat.le_of_ble_eq_true rfl) (Nat.le_of_ble_eq_true rfl) (Nat.le_of_ble_eq_true rfl) (ct_x11_truth hK) (fun r57 => ?_)
      exact s_iret dX11_done_231 rfl (fun f h => h)
    · skip
      refine s_iload_n 2 dX11_done_219 rfl rfl ?_
      refine s_if_eq (tgt := 227) dX11_done_220 rfl rfl (fun _ => ?_) (fun _ => ?_)
      · skip
        refine s_iconst (v := 0) dX11_done_227 rfl cI_0 ?_
        refine s_callS1_i0 dX11_done_228 rfl lkS_RX11_354 (Nat.le_of_ble_eq_true rfl) (Nat.le_of_ble_eq_true rfl) (Nat.le_of_ble_eq_true rfl) (ct_x11_truth hK) (fun r58 => ?_)
        exact s_iret dX11_done_231 rfl (fun f h => h)
      · skip
        refine s_iconst (v := 1) dX11_done_223 rfl cI_1 ?_
        refine s_goto (tgt := 228) dX11_done_224 rfl ?_
        refine s_callS1_i0 dX11_done_228 rfl lkS_RX11_354 (Nat.le_of_ble_eq_true rfl) (Nat.le_of_ble_eq_true rfl) (Nat.le_of_ble_eq_true rfl) (ct_x11_truth hK) (fun r59 => ?_)
        exact s_iret dX11_done_231 rfl (fun f h => h)
  refine sm_ite (fun h60 => ?_) (fun h60 => ?_)
  · skip
    refine s_tin (tgt := 215) dX11_done_1 (by rw [h60]; try decide) (by rw [h60]; try decide) (by rw [h60]; try rfl) rfl ?_
    refine s_iload_n 1 dX11_done_215 rfl rfl ?_
    refine s_if_ne (tgt := 223) dX11_done_216 rfl rfl (fun _ => ?_) (fun _ => ?_)
    · skip
      refine s_iconst (v := 1) dX11_done_223 rfl cI_1 ?_
      refine s_goto (tgt := 228) dX11_done_224 rfl ?_
      refine s_callS1_i0 dX11_done_228 rfl lkS_RX11_354 (Nat.le_of_ble_eq_true rfl) (Nat.le_of_ble_eq_true rfl) (Nat.le_of_ble_eq_true rfl) (ct_x11_truth hK) (fun r61 => ?_)
      exact s_iret dX11_done_231 rfl (fun f h => h)
    · skip
      refine s_iload_n 2 dX11_done_219 rfl rfl ?_
      refine s_if_eq (tgt := 227) dX11_done_220 rfl rfl (fun _ => ?_) (fun _ => ?_)
      · skip
        refine s_iconst (v := 0) dX11_done_227 rfl cI_0 ?_
        refine s_callS1_i0 dX11_done_228 rfl lkS_RX11_354 (Nat.le_of_ble_eq_true rfl) (Nat.le_of_ble_eq_true rfl) (Nat.le_of_ble_eq_true rfl) (ct_x11_truth hK) (fun r62 => ?_)
        exact s_iret dX11_done_231 rfl (fun f h => h)
      · skip
        refine s_iconst (v := 1) dX11_done_223 rfl cI_1 ?_
        refine s_goto (tgt := 228) dX11_done_224 rfl ?_
        refine s_callS1_i0 dX11_done_228 rfl lkS_RX11_354 (Nat.le_of_ble_eq_true rfl) (Nat.le_of_ble_eq_true rfl) (Nat.le_of_ble_eq_true rfl) (ct_x11_truth hK) (fun r63 => ?_)
        exact s_iret dX11_done_231 rfl (fun f h => h)
  refine sm_ite (fun h64 => ?_) (fun h64 => ?_)
  · skip
    refine s_tin (tgt := 215) dX11_done_1 (by rw [h64]; try decide) (by rw [h64]; try decide) (by rw [h64]; try rfl) rfl ?_
    refine s_iload_n 1 dX11_done_215 rfl rfl ?_
    refine s_if_ne (tgt := 223) dX11_done_216 rfl rfl (fun _ => ?_) (fun _ => ?_)
    · skip
      refine s_iconst (v := 1) dX11_done_223 rfl cI_1 ?_
      refine s_goto (tgt := 228) dX11_done_224 rfl ?_
      refine s_callS1_i0 dX11_done_228 rfl lkS_RX11_354 (Nat.le_of_ble_eq_true rfl) (Nat.le_of_ble_eq_true rfl) (Nat.le_of_ble_eq_true rfl) (ct_x11_truth hK) (fun r65 => ?_)
      exact s_iret dX11_done_231 rfl (fun f h => h)
    · skip
      refine s_iload_n 2 dX11_done_219 rfl rfl ?_
      refine s_if_eq (tgt := 227) dX11_done_220 rfl rfl (fun _ => ?_) (fun _ => ?_)
      · skip
        refine s_iconst (v := 0) dX11_done_227 rfl cI_0 ?_
        refine s_callS1_i0 dX11_done_228 rfl lkS_RX11_354 (Nat.le_of_ble_eq_true rfl) (Nat.le_of_ble_eq_true rfl) (Nat.le_of_ble_eq_true rfl) (ct_x11_truth hK) (fun r66 => ?_)
        exact s_iret dX11_done_231 rfl (fun f h => h)
      · skip
        refine s_iconst (v := 1) dX11_done_223 rfl cI_1 ?_
        refine s_goto (tgt := 228) dX11_done_224 rfl ?_
        refine s_callS1_i0 dX11_done_228 rfl lkS_RX11_354 (Nat.le_of_ble_eq_true rfl) (Nat.le_of_ble_eq_true rfl) (Nat.le_of_ble_eq_true rfl) (ct_x11_truth hK) (fun r67 => ?_)
        exact s_iret dX11_done_231 rfl (fun f h => h)
  refine sm_ite (fun h68 => ?_) (fun h68 => ?_)
  · skip
    refine s_tin (tgt := 215) dX11_done_1 (by rw [h68]; try decide) (by rw [h68]; try decide) (by rw [h68]; try rfl) rfl ?_
    refine s_iload_n 1 dX11_done_215 rfl rfl ?_
    refine s_if_ne (tgt := 223) dX11_done_216 rfl rfl (fun _ => ?_) (fun _ => ?_)
    · skip
      refine s_iconst (v := 1) dX11_done_223 rfl cI_1 ?_
      refine s_goto (tgt := 228) dX11_done_224 rfl ?_
      refine s_callS1_i0 dX11_done_228 rfl lkS_RX11_354 (Nat.le_of_ble_eq_true rfl) (Nat.le_of_ble_eq_true rfl) (Nat.le_of_ble_eq_true rfl) (ct_x11_truth hK) (fun r69 => ?_)
      exact s_iret dX11_done_231 rfl (fun f h => h)
    · skip
      refine s_iload_n 2 dX11_done_219 rfl rfl ?_
      refine s_if_eq (tgt := 227) dX11_done_220 rfl rfl (fun _ => ?_) (fun _ => ?_)
      · skip
        refine s_iconst (v := 0) dX11_done_227 rfl cI_0 ?_
        refine s_callS1_i0 dX11_done_228 rfl lkS_RX11_354 (Nat.le_of_ble_eq_true rfl) (Nat.le_of_ble_eq_true rfl) (Nat.le_of_ble_eq_true rfl) (ct_x11_truth hK) (fun r70 => ?_)
        exact s_iret dX11_done_231 rfl (fun f h => h)
      · skip
        refine s_iconst (v := 1) dX11_done_223 rfl cI_1 ?_
        refine s_goto (tgt := 228) dX11_done_224 rfl ?_
        refine s_callS1_i0 dX11_done_228 rfl lkS_RX11_354 (Nat.le_of_ble_eq_true rfl) (Nat.le_of_ble_eq_true rfl) (Nat.le_of_ble_eq_true rfl) (ct_x11_truth hK) (fun r71 => ?_)
        exact s_iret dX11_done_231 rfl (fun f h => h)
  refine sm_ite (fun h72 => ?_) (fun h72 => ?_)
  · skip
    refine s_tin (tgt := 215) dX11_done_1 (by rw [h72]; try decide) (by rw [h72]; try decide) (by rw [h72]; try rfl) rfl ?_
    refine s_iload_n 1 dX11_done_215 rfl rfl ?_
    refine s_if_ne (tgt := 223) dX11_done_216 rfl rfl (fun _ => ?_) (fun _ => ?_)
    · skip
      refine s_iconst (v := 1) dX11_done_223 rfl cI_1 ?_
      refine s_goto (tgt := 228) dX11_done_224 rfl ?_
      refine s_callS1_i0 dX11_done_228 rfl lkS_RX11_354 (Nat.le_of_ble_eq_true rfl) (Nat.le_of_ble_eq_true rfl) (Nat.le_of_ble_eq_true rfl) (ct_x11_truth hK) (fun r73 => ?_)
      exact s_iret dX11_done_231 rfl (fun f h => h)
    · skip
      refine s_iload_n 2 dX11_done_219 rfl rfl ?_
      refine s_if_eq (tgt := 227) dX11_done_220 rfl rfl (fun _ => ?_) (fun _ => ?_)
      · skip
        refine s_iconst (v := 0) dX11_done_227 rfl cI_0 ?_
        refine s_callS1_i0 dX11_done_228 rfl lkS_RX11_354 (Nat.le_of_ble_eq_true rfl) (Nat.le_of_ble_eq_true rfl) (Nat.le_of_ble_eq_true rfl) (ct_x11_truth hK) (fun r74 => ?_)
        exact s_iret dX11_done_231 rfl (fun f h => h)
      · skip
        refine s_iconst (v := 1) dX11_done_223 rfl cI_1 ?_
        refine s_goto (tgt := 228) dX11_done_224 rfl ?_
        refine s_callS1_i0 dX11_done_228 rfl lkS_RX11_354 (Nat.le_of_ble_eq_true rfl) (Nat.le_of_ble_eq_true rfl) (Nat.le_of_ble_eq_true rfl) (ct_x11_truth hK) (fun r75 => ?_)
        exact s_iret dX11_done_231 rfl (fun f h => h)
  refine sm_ite (fun h76 => ?_) (fun h76 => ?_)
  · skip
    refine s_tin (tgt := 215) dX11_done_1 (by rw [h76]; try decide) (by rw [h76]; try decide) (by rw [h76]; try rfl) rfl ?_
    refine s_iload_n 1 dX11_done_215 rfl rfl ?_
    refine s_if_ne (tgt := 223) dX11_done_216 rfl rfl (fun _ => ?_) (fun _ => ?_)
    · skip
      refine s_iconst (v := 1) dX11_done_223 rfl cI_1 ?_
      refine s_goto (tgt := 228) dX11_done_224 rfl ?_
      refine s_callS1_i0 dX11_done_228 rfl lkS_RX11_354 (Nat.le_of_ble_eq_true rfl) (Nat.le_of_ble_eq_true rfl) (Nat.le_of_ble_eq_true rfl) (ct_x11_truth hK) (fun r77 => ?_)
      exact s_iret dX11_done_231 rfl (fun f h => h)
    · skip
      refine s_iload_n 2 dX11_done_219 rfl rfl ?_
      refine s_if_eq (tgt := 227) dX11_done_220 rfl rfl (fun _ => ?_) (fun _ => ?_)
      · skip
        refine s_iconst (v := 0) dX11_done_227 rfl cI_0 ?_
        refine s_callS1_i0 dX11_done_228 rfl lkS_RX11_354 (Nat.le_of_ble_eq_true rfl) (Nat.le_of_ble_eq_true rfl) (Nat.le_of_ble_eq_true rfl) (ct_x11_truth hK) (fun r78 => ?_)
        exact s_iret dX11_done_231 rfl (fun f h => h)
      · skip
        refine s_iconst (v := 1) dX11_done_223 rfl cI_1 ?_
        refine s_goto (tgt := 228) dX11_done_224 rfl ?_
        refine s_callS1_i0 dX11_done_228 rfl lkS_RX11_354 (Nat.le_of_ble_eq_true rfl) (Nat.le_of_ble_eq_true rfl) (Nat.le_of_ble_eq_true rfl) (ct_x11_truth hK) (fun r79 => ?_)
        exact s_iret dX11_done_231 rfl (fun f h => h)
  refine sm_ite (fun h80 => ?_) (fun h80 => ?_)
  · skip
    refine s_tin (tgt := 156) dX11_done_1 (by rw [h80]; try decide) (by rw [h80]; try decide) (by rw [h80]; try rfl) rfl ?_
    refine s_iload_n 1 dX11_done_156 rfl rfl ?_
    refine s_iload_n 2 dX11_done_157 rfl rfl ?_
    refine s_icmp_ge (tgt := 165) dX11_done_158 rfl rfl (fun _ => ?_) (fun _ => ?_)
    · skip
      refine s_iconst (v := 0) dX11_done_165 rfl cI_0 ?_
      refine s_callS1_i0 dX11_done_166 rfl lkS_RX11_354 (Nat.le_of_ble_eq_true rfl) (Nat.le_of_ble_eq_true rfl) (Nat.le_of_ble_eq_true rfl) (ct_x11_truth hK) (fun r81 => ?_)
      exact s_iret dX11_done_169 rfl (fun f h => h)
    · skip
      refine s_iconst (v := 1) dX11_done_161 rfl cI_1 ?_
      refine s_goto (tgt := 166) dX11_done_162 rfl ?_
      refine s_callS1_i0 dX11_done_166 rfl lkS_RX11_354 (Nat.le_of_ble_eq_true rfl) (Nat.le_of_ble_eq_true rfl) (Nat.le_of_ble_eq_true rfl) (ct_x11_truth hK) (fun r82 => ?_)
      exact s_iret dX11_done_169 rfl (fun f h => h)
  refine sm_ite (fun h83 => ?_) (fun h83 => ?_)
  · skip
    refine s_tin (tgt := 184) dX11_done_1 (by rw [h83]; try decide) (by rw [h83]; try decide) (by rw [h83]; try rfl) rfl ?_
    refine s_iload_n 1 dX11_done_184 rfl rfl ?_
    refine s_iload_n 2 dX11_done_185 rfl rfl ?_
    refine s_icmp_ne (tgt := 193) dX11_done_186 rfl rfl (fun _ => ?_) (fun _ => ?_)
    · skip
      refine s_iconst (v := 0) dX11_done_193 rfl cI_0 ?_
      refine s_callS1_i0 dX11_done_194 rfl lkS_RX11_354 (Nat.le_of_ble_eq_true rfl) (Nat.le_of_ble_eq_true rfl) (Nat.le_of_ble_eq_true rfl) (ct_x11_truth hK) (fun r84 => ?_)
      exact s_iret dX11_done_197 rfl (fun f h => h)
    · skip
      refine s_iconst (v := 1) dX11_done_189 rfl cI_1 ?_
      refine s_goto (tgt := 194) dX11_done_190 rfl ?_
      refine s_callS1_i0 dX11_done_194 rfl lkS_RX11_354 (Nat.le_of_ble_eq_true rfl) (Nat.le_of_ble_eq_true rfl) (Nat.le_of_ble_eq_true rfl) (ct_x11_truth hK) (fun r85 => ?_)
      exact s_iret dX11_done_197 rfl (fun f h => h)
  refine sm_ite (fun h86 => ?_) (fun h86 => ?_)
  · skip
    refine s_tin (tgt := 170) dX11_done_1 (by rw [h86]; try decide) (by rw [h86]; try decide) (by rw [h86]; try rfl) rfl ?_
    refine s_iload_n 1 dX11_done_170 rfl rfl ?_
    refine s_iload_n 2 dX11_done_171 rfl rfl ?_
    refine s_icmp_le (tgt := 179) dX11_done_172 rfl rfl (fun _ => ?_) (fun _ => ?_)
    · skip
      refine s_iconst (v := 0) dX11_done_179 rfl cI_0 ?_
      refine s_callS1_i0 dX11_done_180 rfl lkS_RX11_354 (Nat.le_of_ble_eq_true rfl) (Nat.le_of_ble_eq_true rfl) (Nat.le_of_ble_eq_true rfl) (ct_x11_truth hK) (fun r87 => ?_)
      exact s_iret dX11_done_183 rfl (fun f h => h)
    · skip
      refine s_iconst (v := 1) dX11_done_175 rfl cI_1 ?_
      refine s_goto (tgt := 180) dX11_done_176 rfl ?_
      refine s_callS1_i0 dX11_done_180 rfl lkS_RX11_354 (Nat.le_of_ble_eq_true rfl) (Nat.le_of_ble_eq_true rfl) (Nat.le_of_ble_eq_true rfl) (ct_x11_truth hK) (fun r88 => ?_)
      exact s_iret dX11_done_183 rfl (fun f h => h)
  have hsw : ¬ (p0).toInt = 37 ∧ ¬ (p0).toInt = 38 ∧ ¬ (p0).toInt = 39 ∧ ¬ (p0).toInt = 40 ∧ ¬ (p0).toInt = 41 ∧ ¬ (p0).toInt = 42 ∧ ¬ (p0).toInt = 43 ∧ ¬ (p0).toInt = 44 ∧ ¬ (p0).toInt = 45 ∧ ¬ (p0).toInt = 46 ∧ ¬ (p0).toInt = 47 ∧ ¬ (p0).toInt = 48 ∧ ¬ (p0).toInt = 49 ∧ ¬ (p0).toInt = 50 ∧ ¬ (p0).toInt = 51 ∧ ¬ (p0).toInt = 52 ∧ ¬ (p0).toInt = 53 ∧ ¬ (p0).toInt = 54 ∧ ¬ (p0).toInt = 55 ∧ ¬ (p0).toInt = 56 ∧ ¬ (p0).toInt = 57 ∧ ¬ (p0).toInt = 58 ∧ ¬ (p0).toInt = 59 ∧ ¬ (p0).toInt = 60 ∧ ¬ (p0).toInt = 61 ∧ ¬ (p0).toInt = 62 := ⟨lv_neT h1 (a := 37) rfl, lv_neT h3 (a := 38) rfl, lv_neT h7 (a := 39) rfl, lv_neT h11 (a := 40) rfl, lv_neT h15 (a := 41) rfl, lv_neT h19 (a := 42) rfl, lv_neT h20 (a := 43) rfl, lv_neT h21 (a := 44) rfl, lv_neT h25 (a := 45) rfl, lv_neT h26 (a := 46) rfl, lv_neT h30 (a := 47) rfl, lv_neT h32 (a := 48) rfl, lv_neT h36 (a := 49) rfl, lv_neT h40 (a := 50) rfl, lv_neT h44 (a := 51) rfl, lv_neT h48 (a := 52) rfl, lv_neT h52 (a := 53) rfl, lv_neT h56 (a := 54) rfl, lv_neT h60 (a := 55) rfl, lv_neT h64 (a := 56) rfl, lv_neT h68 (a := 57) rfl, lv_neT h72 (a := 58) rfl, lv_neT h76 (a := 59) rfl, lv_neT h80 (a := 60) rfl, lv_neT h83 (a := 61) rfl, lv_neT h86 (a := 62) rfl⟩
  refine s_tout (tgt := 215) dX11_done_1 (by omega) rfl ?_
  refine s_iload_n 1 dX11_done_215 rfl rfl ?_
  refine s_if_ne (tgt := 223) dX11_done_216 rfl rfl (fun _ => ?_) (fun _ => ?_)
  · skip
    refine s_iconst (v := 1) dX11_done_223 rfl cI_1 ?_
    refine s_goto (tgt := 228) dX11_done_224 rfl ?_
    refine s_callS1_i0 dX11_done_228 rfl lkS_RX11_354 (Nat.le_of_ble_eq_true rfl) (Nat.le_of_ble_eq_true rfl) (Nat.le_of_ble_eq_true rfl) (ct_x11_truth hK) (fun r89 => ?_)
    exact s_iret dX11_done_231 rfl (fun f h => h)
  · skip
    refine s_iload_n 2 dX11_done_219 rfl rfl ?_
    refine s_if_eq (tgt := 227) dX11_done_220 rfl rfl (fun _ => ?_) (fun _ => ?_)
    · skip
      refine s_iconst (v := 0) dX11_done_227 rfl cI_0 ?_
      refine s_callS1_i0 dX11_done_228 rfl lkS_RX11_354 (Nat.le_of_ble_eq_true rfl) (Nat.le_of_ble_eq_true rfl) (Nat.le_of_ble_eq_true rfl) (ct_x11_truth hK) (fun r90 => ?_)
      exact s_iret dX11_done_231 rfl (fun f h => h)
    · skip
      refine s_iconst (v := 1) dX11_done_223 rfl cI_1 ?_
      refine s_goto (tgt := 228) dX11_done_224 rfl ?_
      refine s_callS1_i0 dX11_done_228 rfl lkS_RX11_354 (Nat.le_of_ble_eq_true rfl) (Nat.le_of_ble_eq_true rfl) (Nat.le_of_ble_eq_true rfl) (ct_x11_truth hK) (fun r91 => ?_)
      exact s_iret dX11_done_231 rfl (fun f h => h)
