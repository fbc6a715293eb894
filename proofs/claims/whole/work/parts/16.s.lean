/-! the one text of the class: its length and its letters -/
theorem Fx.str {X : WX} {y : MethodName} {cc : ByteArray} {nL : Nat} {ret : Option FieldType} {p : Program} {s : State} {m : MethodId} {args : Array Value} {meth : Method} {c : Code} (h : Fx X y cc nL ret p s m args meth c) : vk_R "TubBites$Lexer" 17 tb_words (X.2.2.2.2.1 4) s ∧ vk_S 1 [tb_bytes.length] [tb_bytes] (fun _ => X.2.2.2.2.1 4) (fun _ => X.2.2.2.2.1 5) (tb_A X) s s.heap ∧ va_Z "java/lang/String" "COMPACT_STRINGS" "Z" (.int 1) (tb_A X) s s.heap ∧ va_Zq "jdk/internal/util/Preconditions" "SIOOBE_FORMATTER" "Ljava/util/function/BiFunction;" (tb_A X) s s.heap := h.2.2.2.2.2.2.2.2.2.2.2.2.2.2.1
section STR
variable {α β : Type} {X : WX} {y : MethodName} {cc : ByteArray} {nL : Nat} {ret : Option FieldType} {F Lo n0 s0 pc pc' tgt : Nat} {ls ls' : List (Nat × Value)} {st : List Value} {u : AS} {o o1 o2 : Option α} {k : α → Option Value × AS → Prop}
theorem s_ldcS (hd : decode cc pc = .ok (.ldc 17, 2)) (hp : pc + 2 = pc') (hy : y.cls = "TubBites$Lexer") (kk : Sim X y cc nL ret F Lo n0 s0 pc' ls (.ref (X.2.2.2.2.1 4) :: st) u o k) : Sim X y cc nL ret F Lo n0 s0 pc ls st u o k := by
  subst hp
  exact sm_step (fun p e R' s m args below meth c H locs lsA cells slots Q hF hfr hlo hce hsl hR hV hl hsz w => va_ldcS (own := "TubBites$Lexer") hF.1 hF.2.1 (hy ▸ hF.2.2.2.2.1) hF.str.1 hd (w H locs lsA hR hV hl)) rfl kk
theorem s_sval {idx : Nat} (hd : decode cc pc = .ok (.getfield idx, 3)) (hp : pc + 3 = pc') (hw : Cond.fieldLink y.cls idx "java/lang/String" "value" "[B" ∈ tw) (kk : Sim X y cc nL ret F Lo n0 s0 pc' ls (.ref (X.2.2.2.2.1 5) :: st) u o k) : Sim X y cc nL ret F Lo n0 s0 pc ls (.ref (X.2.2.2.2.1 4) :: st) u o k := by
  subst hp
  exact sm_step (fun p e R' s m args below meth c H locs lsA cells slots Q hF hfr hlo hce hsl hR hV hl hsz w => vk_getf hF.1 hF.2.1 (hF.str.2.1.1 0 (by decide)).2.2.1 hV hF.2.2.2.2.1 (hF.2.2.2.2.2.1 _ hw) (fun _ h => h) hd (w H locs lsA hR hV hl)) rfl kk
theorem s_scod {idx : Nat} (hd : decode cc pc = .ok (.getfield idx, 3)) (hp : pc + 3 = pc') (hw : Cond.fieldLink y.cls idx "java/lang/String" "coder" "B" ∈ tw) (kk : Sim X y cc nL ret F Lo n0 s0 pc' ls (.int 0 :: st) u o k) : Sim X y cc nL ret F Lo n0 s0 pc ls (.ref (X.2.2.2.2.1 4) :: st) u o k := by
  subst hp
  exact sm_step (fun p e R' s m args below meth c H locs lsA cells slots Q hF hfr hlo hce hsl hR hV hl hsz w => vk_getf hF.1 hF.2.1 (hF.str.2.1.1 0 (by decide)).2.1 hV hF.2.2.2.2.1 (hF.2.2.2.2.2.1 _ hw) (fun _ h => h) hd (w H locs lsA hR hV hl)) rfl kk
theorem s_scmp {idx : Nat} (hd : decode cc pc = .ok (.getstatic idx, 3)) (hp : pc + 3 = pc') (hw : Cond.fieldLink y.cls idx "java/lang/String" "COMPACT_STRINGS" "Z" ∈ tw) (kk : Sim X y cc nL ret F Lo n0 s0 pc' ls (.int 1 :: st) u o k) : Sim X y cc nL ret F Lo n0 s0 pc ls st u o k := by
  subst hp
  exact sm_step (fun p e R' s m args below meth c H locs lsA cells slots Q hF hfr hlo hce hsl hR hV hl hsz w => va_gets hF.1 hF.2.1 hF.str.2.2.1 hV hF.2.2.2.2.1 (hF.2.2.2.2.2.1 _ hw) (fun _ h => h) hd (w H locs lsA hR hV hl)) rfl kk
set_option maxRecDepth 20000 in
theorem s_slen2 (hd : decode cc pc = .ok (.arraylength, 1)) (hp : pc + 1 = pc') (kk : Sim X y cc nL ret F Lo n0 s0 pc' ls (.int (Int32.ofNat tb_bytes.length) :: st) u o k) : Sim X y cc nL ret F Lo n0 s0 pc ls (.ref (X.2.2.2.2.1 5) :: st) u o k := by
  subst hp
  exact sm_step (fun p e R' s m args below meth c H locs lsA cells slots Q hF hfr hlo hce hsl hR hV hl hsz w => va_tlen hF.1 hF.2.1 (hF.str.2.1.1 0 (by decide)).2.2.2 hV rfl hd (w H locs lsA hR hV hl)) rfl kk
set_option maxRecDepth 20000 in
theorem s_sbyt {i : Int32} (hd : decode cc pc = .ok (.baload, 1)) (hp : pc + 1 = pc') (hin : vp_in i tb_bytes.length) (kk : Sim X y cc nL ret F Lo n0 s0 pc' ls (.int (tb_bytes.getD (ix i) 0) :: st) u o k) : Sim X y cc nL ret F Lo n0 s0 pc ls (.int i :: .ref (X.2.2.2.2.1 5) :: st) u o k := by
  subst hp
  exact sm_step (fun p e R' s m args below meth c H locs lsA cells slots Q hF hfr hlo hce hsl hR hV hl hsz w => va_tb hF.1 hF.2.1 (hF.str.2.1.1 0 (by decide)).2.2.2 hV hin rfl hd (w H locs lsA hR hV hl)) rfl kk
theorem s_i2c {x : Int32} (hd : decode cc pc = .ok (.i2c, 1)) (hp : pc + 1 = pc') (kk : Sim X y cc nL ret F Lo n0 s0 pc' ls (.int (x.toUInt32 % 65536).toInt32 :: st) u o k) : Sim X y cc nL ret F Lo n0 s0 pc ls (.int x :: st) u o k := by
  subst hp
  exact sm_step (fun p e R' s m args below meth c H locs lsA cells slots Q hF hfr hlo hce hsl hR hV hl hsz w => lv_i2c hF.1 hF.2.1 hd rfl (w H locs lsA hR hV hl)) rfl kk
theorem s_nret {v : Int32} {a : α} {ft : FieldType} (hd : decode cc pc = .ok (.ireturn, 1)) (hr : ret = some ft) (hn : narrow ft (.int v) = .int v) (hk : ∀ f, k a f → f = (some (.int v), u)) : Sim X y cc nL ret F Lo n0 s0 pc ls [.int v] u (some a) k :=
  sm_ret hk (fun p e Rm s m args below meth c H locs lsA cells slots hF hq hf => W.zret hF.1 hF.2.1 (hF.2.2.2.1.trans hr) hn hq hf hd hF.2.2.2.2.2.2.1)
/-- the formatter, whichever it is -/
theorem s_sfmt {idx : Nat} (hd : decode cc pc = .ok (.getstatic idx, 3)) (hp : pc + 3 = pc') (hw : Cond.fieldLink y.cls idx "jdk/internal/util/Preconditions" "SIOOBE_FORMATTER" "Ljava/util/function/BiFunction;" ∈ tw) (kk : ∀ v : Value, v.category = 1 → Sim X y cc nL ret F Lo n0 s0 pc' ls (v :: st) u o k) : Sim X y cc nL ret F Lo n0 s0 pc ls st u o k := by
  subst hp
  intro a ha f hf
  refine ⟨(kk .null rfl a ha f hf).1, ?_⟩
  intro p e Rm s m args below meth c H locs lsA hFx h3 h4 h5 h6 hR hV hl hsz h1 h2
  rcases hFx.str.2.2.2 with hz | ⟨t, hz⟩
  · exact va_gets hFx.1 hFx.2.1 hz hV hFx.2.2.2.2.1 (hFx.2.2.2.2.2.1 _ hw) (fun _ h => h) hd ((kk .null rfl a ha f hf).2 p e Rm s m args below meth c H locs lsA hFx h3 h4 h5 h6 hR hV hl hsz h1 h2)
  · exact va_gets hFx.1 hFx.2.1 hz hV hFx.2.2.2.2.1 (hFx.2.2.2.2.2.1 _ hw) (fun _ h => h) hd ((kk (.ref t) rfl a ha f hf).2 p e Rm s m args below meth c H locs lsA hFx h3 h4 h5 h6 hR hV hl hsz h1 h2)
theorem sm_callT {idx nL' n F' Lo' : Nat} {y' : MethodName} {cc' : ByteArray} {ret' : Option FieldType} {o' : Option β} {k' : β → Option Value × AS} {g : β → Option α} (As rest : List Value) (hd : decode cc pc = .ok (.invokevirtual idx, 3)) (hp : pc + 3 = pc') (lk : LkT y.cls idx y' cc' nL' ret' n) (hn : As.length = n) (hst : st = As.reverse ++ .ref (X.2.2.2.2.1 4) :: rest) (hrest : (rest.map fun v => v.category).sum ≤ 8) (hF : F' + 1 ≤ F) (hLo : 8 + (nL' + 11) + Lo' ≤ Lo)
    (ct : Ct X y' cc' nL' ret' F' Lo' (.ref (X.2.2.2.2.1 4) :: As) u o' k') (kk : ∀ b, o' = some b → Sim X y cc nL ret F Lo n0 s0 pc' ls ((k' b).1.toList ++ rest) (k' b).2 (g b) k) : Sim X y cc nL ret F Lo n0 s0 pc ls st u (b1 o' g) k := by
  subst hp
  subst hst
  cases ho : o' with
  | none => exact sm_none
  | some x =>
    intro a ha f hf
    obtain ⟨⟨c1, c2⟩, hM⟩ := ct x ho
    obtain ⟨⟨m1, m2⟩, hw⟩ := kk x ho a ha f hf
    refine ⟨⟨Nat.le_trans c1 m1, Nat.le_trans c2 m2⟩, ?_⟩
    intro p e Rm s m args below meth c H locs lsA hFx h3 h4 h5 h6 hR hV hl hsz h1 h2
    obtain ⟨l1, l2, l3, l4, l5, l6, l7⟩ := lk
    have hG : GoodIn tw (wsV y.cls idx y'.cls y' (wsy y' cc' nL' ret')) := by
      intro w hw
      rcases List.mem_append.mp hw with h | h
      · simp only [List.mem_cons, List.not_mem_nil, or_false] at h
        rcases h with rfl | rfl | rfl | rfl
        · exact ⟨l1, good_of_word (tw_good l1)⟩
        · exact ⟨l2, good_of_word (tw_good l2)⟩
        · exact ⟨l3, good_of_word (tw_good l3)⟩
        · exact ⟨l4, good_of_word (tw_good l4)⟩
      · exact tb_good l5 w h
    have hts := hFx.2.2.2.2.2.1
    have run := va_runV (g := F0 m pc lsA (As.reverse ++ .ref (X.2.2.2.2.1 4) :: rest)) (rest := rest) (R := Rm) (e := e) (below := below) (meth := meth) (locs := locs) (cells := u.2.2.2.length - n0) (slots := tb_sz u.2.2.2 - s0) ⟨hFx.1, hFx.2.1, hFx.2.2.1, hFx.2.2.2.2.1, hts⟩ hM (cwV n hts hG rfl rfl rfl ⟨rfl, l6⟩ ⟨by rw [h3]; exact hF, by rw [h4]; exact hLo⟩)
      ⟨tb_blind, by rw [l7]; exact vk_recv (i := 0) hFx.str.2.1 (by decide) hV, fun U hU hW => ⟨rfl, by rw [hU]; exact hR, by rw [hU]; exact hFx.2.2.2.2.2.2.2.2.on hW (fun q hq hA => hV.2.1 q hq hA) hV.1⟩⟩ rfl hn hl.1 rfl (by show 2 * 0 + _ ≤ 8; omega) hd ⟨by omega, by omega⟩
    refine tb_call run hV (fun H1 locs1 hR1 hV1 => ?_)
    have := hw p e Rm s m args below meth c H1 locs1 lsA hFx h3 h4 h5 h6 hR1 hV1 hl hsz (Nat.le_trans h1 c1) (Nat.le_trans h2 c2)
    rw [show u.2.2.2.length - n0 + ((k' x).2.2.2.2.length - u.2.2.2.length) = (k' x).2.2.2.2.length - n0 by omega, show tb_sz u.2.2.2 - s0 + (tb_sz (k' x).2.2.2.2 - tb_sz u.2.2.2) = tb_sz (k' x).2.2.2.2 - s0 by omega]
    exact this
end STR

theorem lt_coder : LkT RJ0 335 yJ0_coder_7d493 cJ0_coder_7d493 1 (some .byte) 0 := ⟨tw_t1 207 (by decide +kernel) rfl, tw_t1 208 (by decide +kernel) rfl, tw_t1 209 (by decide +kernel) rfl, tw_t1 7 (by decide +kernel) rfl, tw_t1 210 (by decide +kernel) rfl, ⟨by decide, by decide, by decide⟩, rfl⟩
theorem lt_latin : LkT RJ0 492 yJ0_isLatin1_aae02 cJ0_isLatin1_aae02 1 (some .boolean) 0 := ⟨tw_t1 217 (by decide +kernel) rfl, tw_t1 218 (by decide +kernel) rfl, tw_t1 219 (by decide +kernel) rfl, tw_t1 7 (by decide +kernel) rfl, tw_t1 220 (by decide +kernel) rfl, ⟨by decide, by decide, by decide⟩, rfl⟩
theorem lt_len : LkT RX3 19 yJ0_length_8abf5 cJ0_length_8abf5 1 (some .int) 0 := ⟨tw_t1 203 (by decide +kernel) rfl, tw_t1 204 (by decide +kernel) rfl, tw_t1 205 (by decide +kernel) rfl, tw_t1 7 (by decide +kernel) rfl, tw_t1 206 (by decide +kernel) rfl, ⟨by decide, by decide, by decide⟩, rfl⟩
theorem lt_at : LkT RX3 25 yJ0_charAt_5068e cJ0_charAt_5068e 2 (some .char) 1 := ⟨tw_t1 213 (by decide +kernel) rfl, tw_t1 214 (by decide +kernel) rfl, tw_t1 215 (by decide +kernel) rfl, tw_t1 7 (by decide +kernel) rfl, tw_t1 216 (by decide +kernel) rfl, ⟨by decide, by decide, by decide⟩, rfl⟩
theorem lt_l1at : LkS RJ0 495 yJ1_charAt_3b067 cJ1_charAt_3b067 2 (some .char) 2 := ⟨tw_t1 221 (by decide +kernel) rfl, tw_t1 222 (by decide +kernel) rfl, tw_t1 8 (by decide +kernel) rfl, tw_t1 223 (by decide +kernel) rfl, ⟨by decide, by decide, by decide⟩⟩
theorem lt_ci : LkS RJ1 9 yJ0_checkIndex_df160 cJ0_checkIndex_df160 2 none 2 := ⟨tw_t1 224 (by decide +kernel) rfl, tw_t1 225 (by decide +kernel) rfl, tw_t1 7 (by decide +kernel) rfl, tw_t1 226 (by decide +kernel) rfl, ⟨by decide, by decide, by decide⟩⟩
theorem lt_pci : LkS RJ0 1059 yJ3_checkIndex_8e157 cJ3_checkIndex_8e157 3 (some .int) 3 := ⟨tw_t1 229 (by decide +kernel) rfl, tw_t1 230 (by decide +kernel) rfl, tw_t1 9 (by decide +kernel) rfl, tw_t1 231 (by decide +kernel) rfl, ⟨by decide, by decide, by decide⟩⟩
theorem lf_9 : Cond.fieldLink RJ0 9 "java/lang/String" "value" "[B" ∈ tw := tw_t10 2 (by decide +kernel) rfl
theorem lf_15 : Cond.fieldLink RJ0 15 "java/lang/String" "coder" "B" ∈ tw := tw_t10 3 (by decide +kernel) rfl
theorem lf_38 : Cond.fieldLink RJ0 38 "java/lang/String" "COMPACT_STRINGS" "Z" ∈ tw := tw_t1 211 (by decide +kernel) rfl
theorem lf_1053 : Cond.fieldLink RJ0 1053 "jdk/internal/util/Preconditions" "SIOOBE_FORMATTER" "Ljava/util/function/BiFunction;" ∈ tw := tw_t1 227 (by decide +kernel) rfl
def js_len : Int32 := Int32.ofNat tb_bytes.length >>> ((0 : Int32) &&& 31)
noncomputable def js_at (i : Int32) : Option Int32 := if i < 0 then none else if i < Int32.ofNat tb_bytes.length then ck (vp_in i tb_bytes.length) (some (((tb_bytes.getD (ix i) 0) &&& 255).toUInt32 % 65536).toInt32) else none
theorem ct_pci {X : WX} {u : AS} {i n : Int32} {v : Value} (hv : v.category = 1) : Ct X yJ3_checkIndex_8e157 cJ3_checkIndex_8e157 3 (some .int) 0 0 [.int i, .int n, v] u (if i < 0 then none else if i < n then some i else none) (fun r => (some (.int r), u)) := by
  refine Ct.ofF (by decide +kernel) (by cases v <;> first | exact Nat.le_of_ble_eq_true rfl | (simp [Value.category] at hv)) [(0, .int i), (1, .int n), (2, v)] (by cases v <;> first | rfl | (simp [Value.category] at hv)) ?_
  refine s_iload_n 0 dJ3_checkIndex_8e157_0 rfl rfl ?_
  refine s_if_lt (tgt := 9) dJ3_checkIndex_8e157_1 rfl rfl (fun _ => sm_none) (fun _ => ?_)
  refine s_iload_n 0 dJ3_checkIndex_8e157_4 rfl rfl ?_
  refine s_iload_n 1 dJ3_checkIndex_8e157_5 rfl rfl ?_
  refine s_icmp_lt (tgt := 16) dJ3_checkIndex_8e157_6 rfl rfl (fun _ => ?_) (fun _ => sm_none)
  refine s_iload_n 0 dJ3_checkIndex_8e157_16 rfl rfl ?_
  exact s_iret dJ3_checkIndex_8e157_17 rfl (fun f h => h)
theorem ct_ci {X : WX} {u : AS} {i n : Int32} : Ct X yJ0_checkIndex_df160 cJ0_checkIndex_df160 2 none 1 22 [.int i, .int n] u (b1 (if i < 0 then none else if i < n then some i else none) (fun _ => some ())) (fun _ => (none, u)) := by
  refine Ct.ofF (by decide +kernel) (Nat.le_of_ble_eq_true rfl) [(0, .int i), (1, .int n)] rfl ?_
  refine s_iload_n 0 dJ0_checkIndex_df160_0 rfl rfl ?_
  refine s_iload_n 1 dJ0_checkIndex_df160_1 rfl rfl ?_
  refine s_sfmt dJ0_checkIndex_df160_2 rfl lf_1053 (fun v hv => ?_)
  refine sm_callS [.int i, .int n, v] [] dJ0_checkIndex_df160_5 rfl lt_pci rfl rfl (Nat.le_of_ble_eq_true rfl) (Nat.le_of_ble_eq_true rfl) (Nat.le_of_ble_eq_true rfl) (ct_pci hv) (fun b _ => ?_)
  refine s_pop dJ0_checkIndex_df160_8 rfl rfl ?_
  exact s_vret dJ0_checkIndex_df160_9 rfl (fun f h => h)
set_option maxRecDepth 20000 in
theorem ct_l1at {X : WX} {u : AS} {i : Int32} : Ct X yJ1_charAt_3b067 cJ1_charAt_3b067 2 (some .char) 2 43 [.ref (X.2.2.2.2.1 5), .int i] u (b1 (b1 (if i < 0 then none else if i < Int32.ofNat tb_bytes.length then some i else none) (fun _ => some ())) (fun _ => ck (vp_in i tb_bytes.length) (some (((tb_bytes.getD (ix i) 0) &&& 255).toUInt32 % 65536).toInt32))) (fun r => (some (.int r), u)) := by
  refine Ct.ofF (by decide +kernel) (Nat.le_of_ble_eq_true rfl) [(0, .ref (X.2.2.2.2.1 5)), (1, .int i)] rfl ?_
  refine s_iload_n 1 dJ1_charAt_3b067_0 rfl rfl ?_
  refine s_aload_n 0 dJ1_charAt_3b067_1 rfl rfl ?_
  refine s_slen2 dJ1_charAt_3b067_2 rfl ?_
  refine sm_callS [.int i, .int (Int32.ofNat tb_bytes.length)] [] dJ1_charAt_3b067_3 rfl lt_ci rfl rfl (Nat.le_of_ble_eq_true rfl) (Nat.le_of_ble_eq_true rfl) (Nat.le_of_ble_eq_true rfl) ct_ci (fun b _ => ?_)
  refine s_aload_n 0 dJ1_charAt_3b067_6 rfl rfl ?_
  refine s_iload_n 1 dJ1_charAt_3b067_7 rfl rfl ?_
  refine sm_ck (fun g => ?_)
  refine s_sbyt dJ1_charAt_3b067_8 rfl g ?_
  refine s_sipush (v := 255) dJ1_charAt_3b067_9 rfl (by decide) ?_
  refine s_iand dJ1_charAt_3b067_12 rfl ?_
  refine s_i2c dJ1_charAt_3b067_13 rfl ?_
  exact s_nret dJ1_charAt_3b067_14 rfl (pk_nc _) (fun f h => h)
theorem ct_coder {X : WX} {u : AS} : Ct X yJ0_coder_7d493 cJ0_coder_7d493 1 (some .byte) 0 0 [.ref (X.2.2.2.2.1 4)] u (some (0 : Int32)) (fun r => (some (.int r), u)) := by
  refine Ct.ofF (by decide +kernel) (Nat.le_of_ble_eq_true rfl) [(0, .ref (X.2.2.2.2.1 4))] rfl ?_
  refine s_scmp dJ0_coder_7d493_0 rfl lf_38 ?_
  rw [show (some (0 : Int32)) = (if (1 : Int32) = 0 then none else some 0) from rfl]
  refine s_if_eq (tgt := 13) dJ0_coder_7d493_3 rfl rfl (fun _ => sm_none) (fun _ => ?_)
  refine s_aload_n 0 dJ0_coder_7d493_6 rfl rfl ?_
  refine s_scod dJ0_coder_7d493_7 rfl lf_15 ?_
  refine s_goto (tgt := 14) dJ0_coder_7d493_10 rfl ?_
  exact s_nret dJ0_coder_7d493_14 rfl rfl (fun f h => h)
theorem ct_latin {X : WX} {u : AS} : Ct X yJ0_isLatin1_aae02 cJ0_isLatin1_aae02 1 (some .boolean) 0 0 [.ref (X.2.2.2.2.1 4)] u (some (1 : Int32)) (fun r => (some (.int r), u)) := by
  refine Ct.ofF (by decide +kernel) (Nat.le_of_ble_eq_true rfl) [(0, .ref (X.2.2.2.2.1 4))] rfl ?_
  refine s_scmp dJ0_isLatin1_aae02_0 rfl lf_38 ?_
  rw [show (some (1 : Int32)) = (if (1 : Int32) = 0 then none else (if (0 : Int32) = 0 then some 1 else none)) from rfl]
  refine s_if_eq (tgt := 17) dJ0_isLatin1_aae02_3 rfl rfl (fun _ => sm_none) (fun _ => ?_)
  refine s_aload_n 0 dJ0_isLatin1_aae02_6 rfl rfl ?_
  refine s_scod dJ0_isLatin1_aae02_7 rfl lf_15 ?_
  refine s_if_ne (tgt := 17) dJ0_isLatin1_aae02_10 rfl rfl (fun _ => sm_none) (fun _ => ?_)
  refine s_iconst (v := 1) dJ0_isLatin1_aae02_13 rfl (by decide) ?_
  refine s_goto (tgt := 18) dJ0_isLatin1_aae02_14 rfl ?_
  exact s_zret dJ0_isLatin1_aae02_18 rfl (Or.inr rfl) (fun f h => h)
set_option maxRecDepth 20000 in
theorem ct_slen {X : WX} {u : AS} : Ct X yJ0_length_8abf5 cJ0_length_8abf5 1 (some .int) 1 20 [.ref (X.2.2.2.2.1 4)] u (some js_len) (fun r => (some (.int r), u)) := by
  refine Ct.ofF (by decide +kernel) (Nat.le_of_ble_eq_true rfl) [(0, .ref (X.2.2.2.2.1 4))] rfl ?_
  refine s_aload_n 0 dJ0_length_8abf5_0 rfl rfl ?_
  refine s_sval dJ0_length_8abf5_1 rfl lf_9 ?_
  refine s_slen2 dJ0_length_8abf5_4 rfl ?_
  refine s_aload_n 0 dJ0_length_8abf5_5 rfl rfl ?_
  rw [show (some js_len) = b1 (some (0 : Int32)) (fun z => some (Int32.ofNat tb_bytes.length >>> (z &&& 31))) from rfl]
  refine sm_callT [] [.int (Int32.ofNat tb_bytes.length)] dJ0_length_8abf5_6 rfl lt_coder rfl rfl (Nat.le_of_ble_eq_true rfl) (Nat.le_of_ble_eq_true rfl) (Nat.le_of_ble_eq_true rfl) ct_coder (fun b _ => ?_)
  refine s_ishr dJ0_length_8abf5_9 rfl ?_
  exact s_iret dJ0_length_8abf5_10 rfl (fun f h => h)
set_option maxRecDepth 20000 in
theorem ct_sat {X : WX} {u : AS} {i : Int32} : Ct X yJ0_charAt_5068e cJ0_charAt_5068e 2 (some .char) 3 64 [.ref (X.2.2.2.2.1 4), .int i] u (js_at i) (fun r => (some (.int r), u)) := by
  refine Ct.ofF (by decide +kernel) (Nat.le_of_ble_eq_true rfl) [(0, .ref (X.2.2.2.2.1 4)), (1, .int i)] rfl ?_
  refine s_aload_n 0 dJ0_charAt_5068e_0 rfl rfl ?_
  rw [show js_at i = b1 (some (1 : Int32)) (fun z => if z = 0 then none else b1 (b1 (b1 (if i < 0 then none else if i < Int32.ofNat tb_bytes.length then some i else none) (fun _ => some ())) (fun _ => ck (vp_in i tb_bytes.length) (some (((tb_bytes.getD (ix i) 0) &&& 255).toUInt32 % 65536).toInt32))) (fun r => some r)) from by
    show js_at i = b1 _ _
    unfold js_at
    by_cases h1 : i < 0
    · simp [h1, b1]
    · by_cases h2 : i < Int32.ofNat tb_bytes.length
      · by_cases h3 : vp_in i tb_bytes.length
        · rw [if_neg h1, if_neg h1, if_pos h2, if_pos h2]; simp only [b1]; rw [ck_pos h3]; rfl
        · rw [if_neg h1, if_neg h1, if_pos h2, if_pos h2]; simp only [b1]; rw [ck_neg h3]; rfl
      · rw [if_neg h1, if_neg h1, if_neg h2, if_neg h2]; rfl]
  refine sm_callT [] [] dJ0_charAt_5068e_1 rfl lt_latin rfl rfl (Nat.le_of_ble_eq_true rfl) (Nat.le_of_ble_eq_true rfl) (Nat.le_of_ble_eq_true rfl) ct_latin (fun b hb => ?_)
  refine s_if_eq (tgt := 16) dJ0_charAt_5068e_4 rfl rfl (fun _ => sm_none) (fun _ => ?_)
  refine s_aload_n 0 dJ0_charAt_5068e_7 rfl rfl ?_
  refine s_sval dJ0_charAt_5068e_8 rfl lf_9 ?_
  refine s_iload_n 1 dJ0_charAt_5068e_11 rfl rfl ?_
  refine sm_callS [.ref (X.2.2.2.2.1 5), .int i] [] dJ0_charAt_5068e_12 rfl lt_l1at rfl rfl (Nat.le_of_ble_eq_true rfl) (Nat.le_of_ble_eq_true rfl) (Nat.le_of_ble_eq_true rfl) ct_l1at (fun r hr => ?_)
  refine s_nret dJ0_charAt_5068e_15 rfl ?_ (fun f h => h)
  have hr2 : ∃ x : Int32, r = (x.toUInt32 % 65536).toInt32 := by
    by_cases h1 : i < 0
    · rw [if_pos h1] at hr; cases hr
    · rw [if_neg h1] at hr
      by_cases h2 : i < Int32.ofNat tb_bytes.length
      · rw [if_pos h2] at hr
        by_cases h3 : vp_in i tb_bytes.length
        · simp only [b1] at hr; rw [ck_pos h3] at hr; exact ⟨_, (Option.some.inj hr).symm⟩
        · simp only [b1] at hr; rw [ck_neg h3] at hr; cases hr
      · rw [if_neg h2] at hr; cases hr
  obtain ⟨x, rfl⟩ := hr2
  exact pk_nc x
