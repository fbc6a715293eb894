/-! THE LAW'S START: the judgement of the law gives the walk -/
theorem W.monoQ {p : Program} {l : Launch} {e : Env} {R : Room} {s : State} {m : MethodId} {args : Array Value} {below : List Frame} {meth : Method} {c : Code} {H : Heap} {locs : List Loc} {cells slots : Nat} {Q Q' : State → Prop} {g : JFrame} (h : ∀ t, Q t → Q' t) (k : W p l e R s m args below meth c H locs cells slots Q g) : W p l e R s m args below meth c H locs cells slots Q' g := by
  intro T hT X
  obtain ⟨t, a, b⟩ := k T hT X
  exact ⟨t, a, h t b⟩
theorem tb_arr {args : Array Value} {s : State} {ty : FieldType} (h : (Cond.arrayClass ty).before args s = true) : ∃ cA : ClassId, ArrOfT s cA ty ∧ s.vm.findClass ("[" ++ ty.toString) = some cA := by
  obtain ⟨c, k, comp, h1, h2, h3⟩ := Cond.arrayClass_spec h
  exact ⟨c, fun n z => ⟨fun k h => (by cases h), k, h2, comp, h3⟩, h1⟩

abbrev tb_flat : List Cond := flatC (Jvm.Cond.and given_1 narrow_1)
theorem tb_tab0 {args : Array Value} {s : State} {A : Nat → Prop} (hts : ∀ w ∈ lw_tbl, w.before args s = true) (hgv : ∀ c ∈ tb_flat, c.before args s = true) (hA : ∀ a : Nat, a < s.heap.size → ¬ A a) : ∃ t : Nat, va_Z "TubBites" "TRY_SECONDS" "[I" (.ref t) A s s.heap ∧ va_T .int t 5 (fun j => .int (([1, 1, 2, 3, 1] : List Int32).getD j 0)) A s s.heap := by
  have hel : ∀ j : Nat, j < 5 → (Term.elem (.static "TubBites" "TRY_SECONDS" "[I") (.int (Int32.ofNat j))).eval args s none [] s = some (.int (([1, 1, 2, 3, 1] : List Int32).getD j 0)) := by
    intro j hj
    match j, hj with
    | 0, _ => exact va_eqt (hgv (.eq (.elem (.static "TubBites" "TRY_SECONDS" "[I") (.int 0)) (.int 1)) (List.mem_of_getElem? (i := 20) (by decide +kernel)))
    | 1, _ => exact va_eqt (hgv (.eq (.elem (.static "TubBites" "TRY_SECONDS" "[I") (.int 1)) (.int 1)) (List.mem_of_getElem? (i := 21) (by decide +kernel)))
    | 2, _ => exact va_eqt (hgv (.eq (.elem (.static "TubBites" "TRY_SECONDS" "[I") (.int 2)) (.int 2)) (List.mem_of_getElem? (i := 22) (by decide +kernel)))
    | 3, _ => exact va_eqt (hgv (.eq (.elem (.static "TubBites" "TRY_SECONDS" "[I") (.int 3)) (.int 3)) (List.mem_of_getElem? (i := 23) (by decide +kernel)))
    | 4, _ => exact va_eqt (hgv (.eq (.elem (.static "TubBites" "TRY_SECONDS" "[I") (.int 4)) (.int 1)) (List.mem_of_getElem? (i := 24) (by decide +kernel)))
  obtain ⟨t, ht, hT⟩ := va_Tof (f := fun j => .int (([1, 1, 2, 3, 1] : List Int32).getD j 0)) (N := 5) (A := A) (by decide) (hgv (.arrayOf (.static "TubBites" "TRY_SECONDS" "[I") .int) (List.mem_of_getElem? (i := 18) (by decide +kernel))) (va_eqt (hgv (.eq (.length (.static "TubBites" "TRY_SECONDS" "[I")) (.int 5)) (List.mem_of_getElem? (i := 19) (by decide +kernel)))) hel hA
  exact ⟨t, va_Zref (hts (.laysStatic "TubBites" "TRY_SECONDS" "[I") (List.mem_of_getElem? (i := 1081) (by decide +kernel))) (hts (.initialized "TubBites") (List.mem_of_getElem? (i := 147) (by decide +kernel))) ht hA, hT⟩
theorem tb_tab1 {args : Array Value} {s : State} {A : Nat → Prop} (hts : ∀ w ∈ lw_tbl, w.before args s = true) (hgv : ∀ c ∈ tb_flat, c.before args s = true) (hA : ∀ a : Nat, a < s.heap.size → ¬ A a) : ∃ t : Nat, va_Z "TubBites" "TRY_BREATH" "[I" (.ref t) A s s.heap ∧ va_T .int t 5 (fun j => .int (([0, 0, 1, 3, 0] : List Int32).getD j 0)) A s s.heap := by
  have hel : ∀ j : Nat, j < 5 → (Term.elem (.static "TubBites" "TRY_BREATH" "[I") (.int (Int32.ofNat j))).eval args s none [] s = some (.int (([0, 0, 1, 3, 0] : List Int32).getD j 0)) := by
    intro j hj
    match j, hj with
    | 0, _ => exact va_eqt (hgv (.eq (.elem (.static "TubBites" "TRY_BREATH" "[I") (.int 0)) (.int 0)) (List.mem_of_getElem? (i := 12) (by decide +kernel)))
    | 1, _ => exact va_eqt (hgv (.eq (.elem (.static "TubBites" "TRY_BREATH" "[I") (.int 1)) (.int 0)) (List.mem_of_getElem? (i := 13) (by decide +kernel)))
    | 2, _ => exact va_eqt (hgv (.eq (.elem (.static "TubBites" "TRY_BREATH" "[I") (.int 2)) (.int 1)) (List.mem_of_getElem? (i := 14) (by decide +kernel)))
    | 3, _ => exact va_eqt (hgv (.eq (.elem (.static "TubBites" "TRY_BREATH" "[I") (.int 3)) (.int 3)) (List.mem_of_getElem? (i := 15) (by decide +kernel)))
    | 4, _ => exact va_eqt (hgv (.eq (.elem (.static "TubBites" "TRY_BREATH" "[I") (.int 4)) (.int 0)) (List.mem_of_getElem? (i := 16) (by decide +kernel)))
  obtain ⟨t, ht, hT⟩ := va_Tof (f := fun j => .int (([0, 0, 1, 3, 0] : List Int32).getD j 0)) (N := 5) (A := A) (by decide) (hgv (.arrayOf (.static "TubBites" "TRY_BREATH" "[I") .int) (List.mem_of_getElem? (i := 10) (by decide +kernel))) (va_eqt (hgv (.eq (.length (.static "TubBites" "TRY_BREATH" "[I")) (.int 5)) (List.mem_of_getElem? (i := 11) (by decide +kernel)))) hel hA
  exact ⟨t, va_Zref (hts (.laysStatic "TubBites" "TRY_BREATH" "[I") (List.mem_of_getElem? (i := 1017) (by decide +kernel))) (hts (.initialized "TubBites") (List.mem_of_getElem? (i := 147) (by decide +kernel))) ht hA, hT⟩
theorem tb_tab2 {args : Array Value} {s : State} {A : Nat → Prop} (hts : ∀ w ∈ lw_tbl, w.before args s = true) (hgv : ∀ c ∈ tb_flat, c.before args s = true) (hA : ∀ a : Nat, a < s.heap.size → ¬ A a) : ∃ t : Nat, va_Z "TubBites" "SIDE_X" "[I" (.ref t) A s s.heap ∧ va_T .int t 4 (fun j => .int (([-1, 1, 0, 0] : List Int32).getD j 0)) A s s.heap := by
  have hel : ∀ j : Nat, j < 4 → (Term.elem (.static "TubBites" "SIDE_X" "[I") (.int (Int32.ofNat j))).eval args s none [] s = some (.int (([-1, 1, 0, 0] : List Int32).getD j 0)) := by
    intro j hj
    match j, hj with
    | 0, _ => exact va_eqt (hgv (.eq (.elem (.static "TubBites" "SIDE_X" "[I") (.int 0)) (.int (-1))) (List.mem_of_getElem? (i := 28) (by decide +kernel)))
    | 1, _ => exact va_eqt (hgv (.eq (.elem (.static "TubBites" "SIDE_X" "[I") (.int 1)) (.int 1)) (List.mem_of_getElem? (i := 29) (by decide +kernel)))
    | 2, _ => exact va_eqt (hgv (.eq (.elem (.static "TubBites" "SIDE_X" "[I") (.int 2)) (.int 0)) (List.mem_of_getElem? (i := 30) (by decide +kernel)))
    | 3, _ => exact va_eqt (hgv (.eq (.elem (.static "TubBites" "SIDE_X" "[I") (.int 3)) (.int 0)) (List.mem_of_getElem? (i := 31) (by decide +kernel)))
  obtain ⟨t, ht, hT⟩ := va_Tof (f := fun j => .int (([-1, 1, 0, 0] : List Int32).getD j 0)) (N := 4) (A := A) (by decide) (hgv (.arrayOf (.static "TubBites" "SIDE_X" "[I") .int) (List.mem_of_getElem? (i := 26) (by decide +kernel))) (va_eqt (hgv (.eq (.length (.static "TubBites" "SIDE_X" "[I")) (.int 4)) (List.mem_of_getElem? (i := 27) (by decide +kernel)))) hel hA
  exact ⟨t, va_Zref (hts (.laysStatic "TubBites" "SIDE_X" "[I") (List.mem_of_getElem? (i := 1126) (by decide +kernel))) (hts (.initialized "TubBites") (List.mem_of_getElem? (i := 147) (by decide +kernel))) ht hA, hT⟩
theorem tb_tab3 {args : Array Value} {s : State} {A : Nat → Prop} (hts : ∀ w ∈ lw_tbl, w.before args s = true) (hgv : ∀ c ∈ tb_flat, c.before args s = true) (hA : ∀ a : Nat, a < s.heap.size → ¬ A a) : ∃ t : Nat, va_Z "TubBites" "SIDE_Y" "[I" (.ref t) A s s.heap ∧ va_T .int t 4 (fun j => .int (([0, 0, 1, -1] : List Int32).getD j 0)) A s s.heap := by
  have hel : ∀ j : Nat, j < 4 → (Term.elem (.static "TubBites" "SIDE_Y" "[I") (.int (Int32.ofNat j))).eval args s none [] s = some (.int (([0, 0, 1, -1] : List Int32).getD j 0)) := by
    intro j hj
    match j, hj with
    | 0, _ => exact va_eqt (hgv (.eq (.elem (.static "TubBites" "SIDE_Y" "[I") (.int 0)) (.int 0)) (List.mem_of_getElem? (i := 35) (by decide +kernel)))
    | 1, _ => exact va_eqt (hgv (.eq (.elem (.static "TubBites" "SIDE_Y" "[I") (.int 1)) (.int 0)) (List.mem_of_getElem? (i := 36) (by decide +kernel)))
    | 2, _ => exact va_eqt (hgv (.eq (.elem (.static "TubBites" "SIDE_Y" "[I") (.int 2)) (.int 1)) (List.mem_of_getElem? (i := 37) (by decide +kernel)))
    | 3, _ => exact va_eqt (hgv (.eq (.elem (.static "TubBites" "SIDE_Y" "[I") (.int 3)) (.int (-1))) (List.mem_of_getElem? (i := 38) (by decide +kernel)))
  obtain ⟨t, ht, hT⟩ := va_Tof (f := fun j => .int (([0, 0, 1, -1] : List Int32).getD j 0)) (N := 4) (A := A) (by decide) (hgv (.arrayOf (.static "TubBites" "SIDE_Y" "[I") .int) (List.mem_of_getElem? (i := 33) (by decide +kernel))) (va_eqt (hgv (.eq (.length (.static "TubBites" "SIDE_Y" "[I")) (.int 4)) (List.mem_of_getElem? (i := 34) (by decide +kernel)))) hel hA
  exact ⟨t, va_Zref (hts (.laysStatic "TubBites" "SIDE_Y" "[I") (List.mem_of_getElem? (i := 1128) (by decide +kernel))) (hts (.initialized "TubBites") (List.mem_of_getElem? (i := 147) (by decide +kernel))) ht hA, hT⟩
set_option maxRecDepth 100000 in
theorem tb_strel : ∀ j : Nat, j < 131 → tb_flat[43 + j]? = some (Cond.eq (.elem (.field (.string "TubBites$Lexer" 17) "java/lang/String" "value" "[B") (.int (Int32.ofNat j))) (.int (tb_bytes.getD j 0))) := by decide +kernel
set_option maxRecDepth 100000 in
theorem tb_strlen : tb_bytes.length = 131 := by decide +kernel
set_option maxRecDepth 100000 in
theorem tb_str {args : Array Value} {s : State} {A : Nat → Prop} (hts : ∀ w ∈ lw_tbl, w.before args s = true) (hgv : ∀ c ∈ tb_flat, c.before args s = true) (hA : ∀ a : Nat, a < s.heap.size → ¬ A a) : ∃ k v : Nat, vk_R "TubBites$Lexer" 17 tb_words k s ∧ vk_S 1 [tb_bytes.length] [tb_bytes] (fun _ => k) (fun _ => v) A s s.heap := by
  obtain ⟨adK, adV, h1, h2⟩ := vk_Sof (args := args) (s := s) (N := 1) (tm := fun _ => (.string "TubBites$Lexer" 17)) (len := [131]) (byt := [tb_bytes]) (A := A)
    (fun i hi => by rw [show i = 0 by omega]; decide)
    (fun i hi => hgv _ (List.mem_of_getElem? (i := 39) (by decide +kernel)))
    (fun i hi => hgv _ (List.mem_of_getElem? (i := 40) (by decide +kernel)))
    (fun i hi => hgv _ (List.mem_of_getElem? (i := 41) (by decide +kernel)))
    (fun i hi => by rw [show i = 0 by omega]; exact hgv _ (List.mem_of_getElem? (i := 42) (by decide +kernel)))
    (fun i hi j hj => by
      have e : i = 0 := by omega
      subst e
      exact hgv _ (List.mem_of_getElem? (tb_strel j hj)))
    (fun i j hi hj hne => absurd (show i = j by omega) hne) hA
  refine ⟨adK 0, adV 0, vk_R.of (hts (.stringRef "TubBites$Lexer" 17 tb_words) (List.mem_of_getElem? (i := 348) (by decide +kernel))) (h2 0 (by decide)), ?_⟩
  rw [tb_strlen]
  refine ⟨fun i hi => ?_, fun i j hi hj _ => by omega⟩
  have e : i = 0 := by omega
  subst e
  exact h1.1 0 (by decide)
theorem tb_kn {args : Array Value} {s : State} (hts : ∀ w ∈ lw_tbl, w.before args s = true) : ∃ (dC : Nat → ClassId) (dI : Nat → Nat → Nat), ∀ (k : Nat) (q : vw_C), vwCl[k]? = some q → u_Kn s q.1 q.2.1 q.2.2 (dC k) (dI k) := by
  have htw : ∀ w ∈ tw, w.before args s = true := fun w hw => hts w (List.mem_filter.mp hw).1
  have h : ∀ k : Nat, ∃ p : ClassId × (Nat → Nat), ∀ q, vwCl[k]? = some q → u_Kn s q.1 q.2.1 q.2.2 p.1 p.2 := by
    intro k
    match k with
    | 0 =>
      obtain ⟨cC, iS, hh⟩ := u_known (C := RX0) (T := TX0) (N := 6) (n := 6) htw kl_0.2.2.2.1 (htw _ (tw_t1 36 (by decide +kernel) rfl))
      exact ⟨(cC, iS), fun q hq => by cases hq; exact hh⟩
    | 1 =>
      obtain ⟨cC, iS, hh⟩ := u_known (C := RX1) (T := TX1) (N := 4) (n := 4) htw kl_1.2.2.2.1 (htw _ (tw_t2 76 (by decide +kernel) rfl))
      exact ⟨(cC, iS), fun q hq => by cases hq; exact hh⟩
    | 2 =>
      obtain ⟨cC, iS, hh⟩ := u_known (C := RX2) (T := TX2) (N := 4) (n := 4) htw kl_2.2.2.2.1 (htw _ (tw_t2 172 (by decide +kernel) rfl))
      exact ⟨(cC, iS), fun q hq => by cases hq; exact hh⟩
    | 3 =>
      obtain ⟨cC, iS, hh⟩ := u_known (C := RX3) (T := TX3) (N := 8) (n := 8) htw kl_3.2.2.2.1 (htw _ (tw_t1 197 (by decide +kernel) rfl))
      exact ⟨(cC, iS), fun q hq => by cases hq; exact hh⟩
    | 4 =>
      obtain ⟨cC, iS, hh⟩ := u_known (C := RX4) (T := TX4) (N := 7) (n := 7) htw kl_4.2.2.2.1 (htw _ (tw_t3 48 (by decide +kernel) rfl))
      exact ⟨(cC, iS), fun q hq => by cases hq; exact hh⟩
    | 5 =>
      obtain ⟨cC, iS, hh⟩ := u_known (C := RX5) (T := TX5) (N := 10) (n := 10) htw kl_5.2.2.2.1 (htw _ (tw_t1 191 (by decide +kernel) rfl))
      exact ⟨(cC, iS), fun q hq => by cases hq; exact hh⟩
    | 6 =>
      obtain ⟨cC, iS, hh⟩ := u_known (C := RX6) (T := TX6) (N := 11) (n := 11) htw kl_6.2.2.2.1 (htw _ (tw_t2 195 (by decide +kernel) rfl))
      exact ⟨(cC, iS), fun q hq => by cases hq; exact hh⟩
    | 7 =>
      obtain ⟨cC, iS, hh⟩ := u_known (C := RX7) (T := TX7) (N := 12) (n := 12) htw kl_7.2.2.2.1 (htw _ (tw_t2 98 (by decide +kernel) rfl))
      exact ⟨(cC, iS), fun q hq => by cases hq; exact hh⟩
    | 8 =>
      obtain ⟨cC, iS, hh⟩ := u_known (C := RX8) (T := TX8) (N := 20) (n := 20) htw kl_8.2.2.2.1 (htw _ (tw_t1 30 (by decide +kernel) rfl))
      exact ⟨(cC, iS), fun q hq => by cases hq; exact hh⟩
    | 9 =>
      obtain ⟨cC, iS, hh⟩ := u_known (C := RX9) (T := TX9) (N := 11) (n := 11) htw kl_9.2.2.2.1 (htw _ (tw_t3 0 (by decide +kernel) rfl))
      exact ⟨(cC, iS), fun q hq => by cases hq; exact hh⟩
    | 10 =>
      obtain ⟨cC, iS, hh⟩ := u_known (C := RX10) (T := TX10) (N := 15) (n := 15) htw kl_10.2.2.2.1 (htw _ (tw_t1 22 (by decide +kernel) rfl))
      exact ⟨(cC, iS), fun q hq => by cases hq; exact hh⟩
    | 11 =>
      obtain ⟨cC, iS, hh⟩ := u_known (C := RX11) (T := TX11) (N := 95) (n := 95) htw kl_11.2.2.2.1 (htw _ (tw_t6 111 (by decide +kernel) rfl))
      exact ⟨(cC, iS), fun q hq => by cases hq; exact hh⟩
    | k + 12 => exact ⟨(0, fun _ => 0), fun q hq => by simp [vwCl] at hq⟩
  obtain ⟨f, hf⟩ := Classical.axiomOfChoice h
  exact ⟨fun k => (f k).1, fun k => (f k).2, fun k q hq => hf k q hq⟩
theorem tb_nfok : ∀ q ∈ tb_nf, Cond.fieldLinkNest q.1 q.2.1 q.2.2.1 q.2.2.2.1 q.2.2.2.2.1 q.2.2.2.2.2 ∈ lw_tbl := by
  intro q hq
  simp only [tb_nf, List.mem_cons, List.not_mem_nil, or_false] at hq
  rcases hq with rfl | rfl | rfl | rfl | rfl
  · exact List.mem_of_getElem? (i := 1080) (by decide +kernel)
  · exact List.mem_of_getElem? (i := 1125) (by decide +kernel)
  · exact List.mem_of_getElem? (i := 1127) (by decide +kernel)
  · exact List.mem_of_getElem? (i := 1016) (by decide +kernel)
  · exact List.mem_of_getElem? (i := 1181) (by decide +kernel)
theorem tb_nmok : ∀ q ∈ tb_nm, Cond.methodLinkNest q.1 q.2.1 q.2.2.1 q.2.2.2 ∈ lw_tbl := by
  intro q hq
  simp only [tb_nm, List.mem_cons, List.not_mem_nil, or_false] at hq
  rcases hq with rfl | rfl | rfl | rfl | rfl
  · exact List.mem_of_getElem? (i := 485) (by decide +kernel)
  · exact List.mem_of_getElem? (i := 559) (by decide +kernel)
  · exact List.mem_of_getElem? (i := 721) (by decide +kernel)
  · exact List.mem_of_getElem? (i := 1175) (by decide +kernel)
  · exact List.mem_of_getElem? (i := 632) (by decide +kernel)
theorem tb_Gd {args : Array Value} {s : State} {l : Launch} {b L : Nat} {xs : Nat → Int32} (hts : ∀ w ∈ lw_tbl, w.before args s = true) (hgv : ∀ c ∈ tb_flat, c.before args s = true) (hX : va_X b L xs s s.heap) (hb : b < s.heap.size) : ∃ (D : va_G) (cy : Nat → ClassId) (ta : Nat → Nat), Gd (s.heap.size, l, D, cy, ta, b, L, xs) s s.heap := by
  have hA : ∀ a : Nat, a < s.heap.size → ¬ (fun q : Nat => s.heap.size ≤ q) a := fun a h => Nat.not_le.mpr h
  obtain ⟨dC, dI, hK⟩ := tb_kn hts
  obtain ⟨c12, a12, b12⟩ := tb_arr (hts (.arrayClass .byte) (List.mem_of_getElem? (i := 215) (by decide +kernel)))
  obtain ⟨c13, a13, b13⟩ := tb_arr (hts (.arrayClass .int) (List.mem_of_getElem? (i := 216) (by decide +kernel)))
  obtain ⟨c14, a14, b14⟩ := tb_arr (hts (.arrayClass .long) (List.mem_of_getElem? (i := 427) (by decide +kernel)))
  obtain ⟨c15, a15, b15⟩ := tb_arr (hts (.arrayClass .boolean) (List.mem_of_getElem? (i := 624) (by decide +kernel)))
  have hAO : va_AO "TubBites$State" s := hts (.arrayOver (.object "TubBites$State")) (List.mem_of_getElem? (i := 564) (by decide +kernel))
  obtain ⟨comp, c16, k16, g1, g2, g3, g4, g5⟩ := Cond.arrayOver_spec hAO
  obtain ⟨t0, z0, y0⟩ := tb_tab0 hts hgv hA
  obtain ⟨t1, z1, y1⟩ := tb_tab1 hts hgv hA
  obtain ⟨t2, z2, y2⟩ := tb_tab2 hts hgv hA
  obtain ⟨t3, z3, y3⟩ := tb_tab3 hts hgv hA
  obtain ⟨sk, sv, r1, r2⟩ := tb_str hts hgv hA
  refine ⟨(dC, dI), fun k => if k = 12 then c12 else if k = 13 then c13 else if k = 14 then c14 else if k = 15 then c15 else c16, fun k => if k = 0 then t0 else if k = 1 then t1 else if k = 2 then t2 else if k = 3 then t3 else if k = 4 then sk else sv, ⟨hK, fun k q hq => ?_⟩, fun q hq => va_Nw.of rfl (hts _ (tb_nfok q hq)), fun q hq => va_Nw.of rfl (hts _ (tb_nmok q hq)), hAO, fun i q hq => ?_, ⟨hX, hb⟩, ⟨r1, r2, va_Zof (hts (.laysStatic "java/lang/String" "COMPACT_STRINGS" "Z") (List.mem_of_getElem? (i := 358) (by decide +kernel))) (hts (.initialized "java/lang/String") (List.mem_of_getElem? (i := 153) (by decide +kernel))) (va_eqi (hgv _ (List.mem_of_getElem? (i := 4) (by decide +kernel)))) hA, va_Zqof (hts (.laysStatic "jdk/internal/util/Preconditions" "SIOOBE_FORMATTER" "Ljava/util/function/BiFunction;") (List.mem_of_getElem? (i := 374) (by decide +kernel))) (hts (.initialized "jdk/internal/util/Preconditions") (List.mem_of_getElem? (i := 155) (by decide +kernel))) (hgv _ (List.mem_of_getElem? (i := 5) (by decide +kernel))) hA⟩, Nat.le_refl _⟩
  · match k, hq with
    | 0, hq => cases hq; exact ⟨a12, b12⟩
    | 1, hq => cases hq; exact ⟨a13, b13⟩
    | 2, hq => cases hq; exact ⟨a14, b14⟩
    | 3, hq => cases hq; exact ⟨a15, b15⟩
    | 4, hq => cases hq; exact ⟨fun N z => ⟨(fun k h => by cases h), k16, g3, comp, g4⟩, k16, comp, g3, g4, g1, g5⟩
    | k + 5, hq => simp [tb_tys] at hq
  · match i, hq with
    | 0, hq => cases hq; exact ⟨z0, y0⟩
    | 1, hq => cases hq; exact ⟨z1, y1⟩
    | 2, hq => cases hq; exact ⟨z2, y2⟩
    | 3, hq => cases hq; exact ⟨z3, y3⟩
    | i + 4, hq => simp [tb_st] at hq
/-! THE CLAIM OUT OF ONE WALK OF THE LAW'S BODY. Your part is whole_start (and what it stands on); all else here is the same for every law, but numbers. -/
def R_law : String := "TubBitesLaw"
def lw_P (b : Addr) (xs : List Int32) (args : Array Value) (s : State) : Prop := args = #[.ref b] ∧ s.IntsAt b xs ∧ xs.length ≤ 3072 ∧ (Jvm.Cond.and given_1 narrow_1).before args s = true
def lw_Q (_ : Array Value) (s : State) (o : Outcome) (t : State) : Prop := o = .returned (some (.int 1)) ∧ Framed s o t [] 600000 7302250
def lw_Z (below : List Frame) (a : Array Value) (s : State) : State → Prop := fun t => ∃ o, t.status = .running ∧ Ended t below o ∧ lw_Q a s o t
/-- the law's own end, with 1 on the stack, nothing written that was there before, its room as the claim has it -/
theorem lw_ret {p : Program} {l : Launch} {e : Env} {s : State} {m : MethodId} {below : List Frame} {meth : Method} {c : Code} {b : Nat} (hx : p.tables.exec = Jvm.exec) (hb : c.code = code) (hr : meth.sig.returnType = ret) (hlocks : meth.locks = false) {pc : Nat} {H : Heap} {ls : Array Slot} (hdg : decode code pc = .ok (.ireturn, 1)) : W p l e room_1 s m #[Value.ref b] below meth c H [] 600000 7302250 (lw_Z below #[Value.ref b] s) (F0 m pc ls [.int 1]) := by
  intro T hT X
  obtain ⟨fs, hret, hrun, hended, hW, hframe⟩ := X.leave (v := some (.int 1)) (hlocks := hlocks) (fun h => by rw [hr] at h; cases h)
  have hmeth' : T.vm.method? m = some meth := X.method'
  refine ⟨T.setFrames fs, ?_, .returned (some (.int 1)), hrun, hended, rfl, ⟨_, rfl⟩, hW, hframe⟩
  jvm_step X.here [X.here.top, hx, hb, hdg, hmeth', hr, ret, narrow_b1]
  (try refine ⟨rfl, ?_⟩); (try refine ⟨rfl, ?_⟩)
  first | (intro acts; rw [hret _ acts rfl rfl rfl]) | rw [hret _ _ rfl rfl rfl]
  exact Steps.refl _
/-- what holds at the law's entry: the machine, the code, the tables' words (any of lw_tbl by 'hts w (by decide +kernel)'), the script of L ints xs at the cell b, what the Statement gives of the start (any of its parts by flat_of_before) -/
def lw_At (p : Program) (s : State) (m : MethodId) (meth : Method) (c : Code) (b L : Nat) (xs : Nat → Int32) : Prop :=
  p.tables.exec = Jvm.exec ∧ c.code = code ∧ meth.sig.returnType = ret ∧ c.maxLocals = 4 ∧ s.vm.findClass R_law = some m.cls ∧ (∀ w ∈ lw_tbl, w.before #[Value.ref b] s = true) ∧ va_X b L xs s s.heap ∧ b < s.heap.size ∧ meth.locks = false ∧ (Jvm.Cond.and given_1 narrow_1).before #[Value.ref b] s = true

/-- the judgement of the law, and what its function says, give the walk -/
theorem whole_of (hpure : ∀ (xs : Nat → Int32) (len : Nat), len ≤ 3072 → ∃ (I : MI) (L : ML) (R : MR) (S : MS), lawF xs len (fun _ _ => 0) (fun _ _ => 0) (fun _ _ => none) [] = some (1, I, L, R, S) ∧ S.length ≤ 600000 ∧ tb_sz S ≤ 7302250) {p : Program} {e : Env} {s : State} {m : MethodId} {below : List Frame} {meth : Method} {c : Code} (l : Launch) {b L : Nat} {xs : Nat → Int32} (hL : L ≤ 3072) (C0 : lw_At p s m meth c b L xs) : W p l e room_1 s m #[Value.ref b] below meth c s.heap [] 0 0 (lw_Z below #[Value.ref b] s) (entryFrame m ([Value.ref b] : List Value).toArray 4) := by
  obtain ⟨hx, hb, hr, hml, hown, hts, hX, hbl, hlocks, hgv⟩ := C0
  obtain ⟨D, cy, ta, hG⟩ := tb_Gd (l := l) hts (flat_of_before _ hgv) hX hbl
  obtain ⟨I1, L1, R1, S1, ho, hc, hz⟩ := hpure xs L hL
  have hs := sim_law (X := (s.heap.size, l, D, cy, ta, b, L, xs)) (xs := xs) (len := L) (I := fun _ _ => 0) (L := fun _ _ => 0) (R := fun _ _ => none) (S := []) (n0 := 0) (s0 := 0) rfl rfl _ ho _ rfl
  have hR : HR (s.heap.size, l, D, cy, ta, b, L, xs) ((fun _ _ => 0), (fun _ _ => 0), (fun _ _ => none), []) s.heap := ⟨fun k q h => by simp [tb_ws] at h, rfl⟩
  have hl := lv_entry ([.ref b]) (n := 4) (Nat.le_of_ble_eq_true rfl)
  rw [lg_entry_eq]
  have hw := hs.2 p e room_1 s m #[Value.ref b] below meth c s.heap [] _ ⟨hx, hb, hml, hr, hown, fun w hw => hts w (List.mem_filter.mp hw).1, hlocks, fun h => absurd h (by decide), hG⟩ rfl rfl (by show S1.length - 0 ≤ 600000; simpa using hc) (by show tb_sz S1 - 0 ≤ 7302250; simpa using hz) hR va_S.rf hl rfl (Nat.zero_le _) (Nat.zero_le _)
  refine W.monoQ (fun t ht => ?_) hw
  obtain ⟨o, h1, h2, ⟨h3, -, -⟩, Lc, ⟨h4, h5, h6⟩, h7⟩ := ht
  exact ⟨o, h1, h2, h3, h4, h5, h6.weaken (fun x hx hlt => absurd (h7 x hx) (Nat.not_le.mpr hlt)) (by simpa using hc) (by simpa using hz)⟩
