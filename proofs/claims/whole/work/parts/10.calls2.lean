section CALLS2
variable {α β : Type} {X : WX} {y : MethodName} {cc : ByteArray} {nL : Nat} {ret : Option FieldType} {F Lo n0 s0 pc pc' tgt : Nat} {ls ls' : List (Nat × Value)} {st : List Value} {I : MI} {L : ML} {R : MR} {S : MS} {u : AS} {o o1 o2 : Option α} {k : α → Option Value × AS → Prop}
theorem sm_callV {idx nL' n F' Lo' b kd nb : Nat} {y' : MethodName} {cc' : ByteArray} {ret' : Option FieldType} {o' : Option β} {k' : β → Option Value × AS} {g : β → Option α} (As rest : List Value) (hd : decode cc pc = .ok (.invokevirtual idx, 3)) (hp : pc + 3 = pc') (lk : LkV y.cls idx y' cc' nL' ret' n kd) (hS : S[b]? = some (kd, nb)) (hn : As.length = n) (hst : st = As.reverse ++ .ref (X.1 + b) :: rest) (hrest : (rest.map fun v => v.category).sum ≤ 8) (hF : F' + 1 ≤ F) (hLo : 8 + (nL' + 11) + Lo' ≤ Lo)
    (ct : Ct X y' cc' nL' ret' F' Lo' (.ref (X.1 + b) :: As) (I, L, R, S) o' k') (kk : ∀ b, o' = some b → Sim X y cc nL ret F Lo n0 s0 pc' ls ((k' b).1.toList ++ rest) (k' b).2 (g b) k) : Sim X y cc nL ret F Lo n0 s0 pc ls st (I, L, R, S) (b1 o' g) k := by
  subst hp
  subst hst
  cases ho : o' with
  | none => exact sm_none
  | some x =>
    intro a ha f hf
    obtain ⟨⟨c1, c2⟩, hM⟩ := ct x ho
    obtain ⟨⟨m1, m2⟩, hw⟩ := kk x ho a ha f hf
    refine ⟨⟨Nat.le_trans c1 m1, Nat.le_trans c2 m2⟩, ?_⟩
    intro p e Rm s m args below meth c H locs lsA hFx h3 h4 h5 h6 hR hV hl hsz h1 h2
    obtain ⟨l1, l2, l3, l4, l5, l6, l7, T, N, l8⟩ := lk
    have hG : GoodIn tw (wsV y.cls idx y'.cls y' (wsy y' cc' nL' ret')) := by
      intro w hw
      rcases List.mem_append.mp hw with h | h
      · simp only [List.mem_cons, List.not_mem_nil, or_false] at h
        rcases h with rfl | rfl | rfl | rfl
        · exact ⟨l1, good_of_word (tw_good l1)⟩
        · exact ⟨l2, good_of_word (tw_good l2)⟩
        · exact ⟨l3, good_of_word (tw_good l3)⟩
        · exact ⟨l4, good_of_word (tw_good l4)⟩
      · exact tb_good l5 w h
    have hts := hFx.2.2.2.2.2.1
    have run := va_runV (g := F0 m pc lsA (As.reverse ++ .ref (X.1 + b) :: rest)) (rest := rest) (R := Rm) (e := e) (below := below) (meth := meth) (locs := locs) (cells := S.length - n0) (slots := tb_sz S - s0) ⟨hFx.1, hFx.2.1, hFx.2.2.1, hFx.2.2.2.2.1, hts⟩ hM (cwV n hts hG rfl rfl rfl ⟨rfl, l6⟩ ⟨by rw [h3]; exact hF, by rw [h4]; exact hLo⟩)
      ⟨tb_blind, va_recv hFx.K hR.1 l8 (tb_at_obj hS l7), fun U hU hW => ⟨rfl, by rw [hU]; exact hR, by rw [hU]; exact hFx.2.2.2.2.2.2.2.2.on hW (fun q hq hA => hV.2.1 q hq hA) hV.1⟩⟩ rfl hn hl.1 rfl (by show 2 * 0 + _ ≤ 8; omega) hd ⟨by simp only at c1 m1 h1 ⊢; omega, by simp only at c2 m2 h2 ⊢; omega⟩
    refine tb_call run hV (fun H1 locs1 hR1 hV1 => ?_)
    have := hw p e Rm s m args below meth c H1 locs1 lsA hFx h3 h4 h5 h6 hR1 hV1 hl hsz (Nat.le_trans h1 c1) (Nat.le_trans h2 c2)
    simp only at c1 c2 h1 h2 ⊢
    rw [show S.length - n0 + ((k' x).2.2.2.2.length - S.length) = (k' x).2.2.2.2.length - n0 by omega, show tb_sz S - s0 + (tb_sz (k' x).2.2.2.2 - tb_sz S) = tb_sz (k' x).2.2.2.2 - s0 by omega]
    exact this
theorem sm_callI {idx nL' n F' Lo' b : Nat} {y' : MethodName} {cc' : ByteArray} {o' : Option β} {k' : β → Option Value × AS} {g : β → Option α} (As rest : List Value) (hd : decode cc pc = .ok (.invokespecial idx, 3)) (hp : pc + 3 = pc') (lk : LkI y.cls idx y' cc' nL' n) (hn : As.length = n) (hst : st = As.reverse ++ .ref (X.1 + b) :: rest) (hrest : (rest.map fun v => v.category).sum ≤ 8) (hF : F' + 1 ≤ F) (hLo : 8 + (nL' + 11) + Lo' ≤ Lo)
    (ct : Ct X y' cc' nL' none F' Lo' (.ref (X.1 + b) :: As) u o' k') (kk : ∀ b, o' = some b → Sim X y cc nL ret F Lo n0 s0 pc' ls ((k' b).1.toList ++ rest) (k' b).2 (g b) k) : Sim X y cc nL ret F Lo n0 s0 pc ls st u (b1 o' g) k := by
  subst hp
  subst hst
  cases ho : o' with
  | none => exact sm_none
  | some x =>
    intro a ha f hf
    obtain ⟨⟨c1, c2⟩, hM⟩ := ct x ho
    obtain ⟨⟨m1, m2⟩, hw⟩ := kk x ho a ha f hf
    refine ⟨⟨Nat.le_trans c1 m1, Nat.le_trans c2 m2⟩, ?_⟩
    intro p e Rm s m args below meth c H locs lsA hFx h3 h4 h5 h6 hR hV hl hsz h1 h2
    obtain ⟨l1, l2, l3, l4, l5, l6⟩ := lk
    have hts := hFx.2.2.2.2.2.1
    have pre : PreS s H (va_Pc (.ref (X.1 + b) :: As) (fun U => HR X u U.heap ∧ Gd X U U.heap)) (.ref (X.1 + b) :: As) := ⟨tb_blind, fun U hU hW => ⟨rfl, by rw [hU]; exact hR, by rw [hU]; exact hFx.2.2.2.2.2.2.2.2.on hW (fun q hq hA => hV.2.1 q hq hA) hV.1⟩⟩
    have fin : ∀ (run : va_Run p X.2.1 e Rm s m args below meth c H locs (u.2.2.2.length - n0) (tb_sz u.2.2.2 - s0) ((k' x).2.2.2.2.length - u.2.2.2.length) (tb_sz (k' x).2.2.2.2 - tb_sz u.2.2.2) (F0 m pc lsA (As.reverse ++ .ref (X.1 + b) :: rest)) rest (Qfin X (k' x) (Value.ref (X.1 + b) :: As).toArray) (tb_A X)), W p X.2.1 e Rm s m args below meth c H locs (u.2.2.2.length - n0) (tb_sz u.2.2.2 - s0) (MQ below (Qfin X f) args s (f.2.2.2.2.length - n0) (tb_sz f.2.2.2.2 - s0) (tb_A X)) (F0 m pc lsA (As.reverse ++ .ref (X.1 + b) :: rest)) := by
      intro run
      refine tb_call run hV (fun H1 locs1 hR1 hV1 => ?_)
      have := hw p e Rm s m args below meth c H1 locs1 lsA hFx h3 h4 h5 h6 hR1 hV1 hl hsz (Nat.le_trans h1 c1) (Nat.le_trans h2 c2)
      rw [show u.2.2.2.length - n0 + ((k' x).2.2.2.2.length - u.2.2.2.length) = (k' x).2.2.2.2.length - n0 by omega, show tb_sz u.2.2.2 - s0 + (tb_sz (k' x).2.2.2.2 - tb_sz u.2.2.2) = tb_sz (k' x).2.2.2.2 - s0 by omega]
      exact this
    rcases l1 with l1 | ⟨host, l1⟩
    · exact fin (va_runI (g := F0 m pc lsA (As.reverse ++ .ref (X.1 + b) :: rest)) (rest := rest) (R := Rm) (e := e) (below := below) (meth := meth) (locs := locs) ⟨hFx.1, hFx.2.1, hFx.2.2.1, hFx.2.2.2.2.1, hts⟩ hM (cwI n hts (tb_good l4) rfl rfl rfl (hts _ l3) (hts _ l1) (hts _ l2) l5 l6 ⟨by rw [h3]; exact hF, by rw [h4]; exact hLo⟩) pre rfl hn hl.1 rfl (by show 2 * 0 + _ ≤ 8; omega) hd ⟨by omega, by omega⟩)
    · exact fin (va_runIN (host := host) (g := F0 m pc lsA (As.reverse ++ .ref (X.1 + b) :: rest)) (rest := rest) (R := Rm) (e := e) (below := below) (meth := meth) (locs := locs) ⟨hFx.1, hFx.2.1, hFx.2.2.1, hFx.2.2.2.2.1, hts⟩ hM ⟨va_cnB n hts (tb_good l4) rfl rfl rfl (hFx.2.2.2.2.2.2.2.2.2.2.1 _ l1) (hts _ l3) l6 ⟨by rw [h3]; exact hF, by rw [h4]; exact hLo⟩, l5, hts _ l2⟩ pre rfl hn hl.1 rfl (by show 2 * 0 + _ ≤ 8; omega) hd ⟨by omega, by omega⟩)
theorem s_oinit {idx a : Nat} (hd : decode cc pc = .ok (.invokespecial idx, 3)) (hp : pc + 3 = pc') (h1 : Cond.methodLink y.cls idx Lib.objectInit ∈ tw) (h2 : Cond.instanceMethod Lib.objectInit ∈ tw) (h3 : Cond.code Lib.objectInit ⟨#[0xb1]⟩ 1 none ∈ tw) (hrest : (st.map fun v => v.category).sum ≤ 8) (hF : 1 ≤ F) (hLo : 20 ≤ Lo) (kk : Sim X y cc nL ret F Lo n0 s0 pc' ls st u o k) : Sim X y cc nL ret F Lo n0 s0 pc ls (.ref a :: st) u o k := by
  subst hp
  exact sm_step (fun p e R' s m args below meth c H locs lsA cells slots Q hF' hfr hlo hce hsl hR hV hl hsz w => W.objInit (g := F0 m pc lsA (.ref a :: st)) hF'.1 hF'.2.1 hF'.2.2.2.2.1 (hF'.2.2.2.2.2.1 _ h1) (hF'.2.2.2.2.2.1 _ h2) (hF'.2.2.2.2.2.1 _ h3) rfl (hl.1.trans hF'.2.2.1.symm) rfl hd (by rw [hfr]; exact hF) (by rw [hlo]; show 2 * 0 + _ + 12 ≤ _; omega) (w H locs lsA hR hV hl)) rfl kk
theorem s_mmax {idx : Nat} {x z : Int32} (hd : decode cc pc = .ok (.invokestatic idx, 3)) (hp : pc + 3 = pc') (h1 : Cond.methodLink y.cls idx Lib.Math.max.name ∈ tw) (h2 : Cond.static Lib.Math.max.name ∈ tw ∧ Cond.initialized "java/lang/Math" ∈ tw ∧ Cond.code Lib.Math.max.name Lib.Math.max.code 2 (some .int) ∈ tw) (hrest : (st.map fun v => v.category).sum ≤ 8) (hF : 1 ≤ F) (hLo : 21 ≤ Lo) (kk : Sim X y cc nL ret F Lo n0 s0 pc' ls (.int (if x < z then z else x) :: st) u o k) : Sim X y cc nL ret F Lo n0 s0 pc ls (.int z :: .int x :: st) u o k := by
  subst hp
  exact sm_step (fun p e R' s m args below meth c H locs lsA cells slots Q hF' hfr hlo hce hsl hR hV hl hsz w => va_mmax hF'.1 hF'.2.1 (hF'.2.2.1.trans hl.1.symm) hF'.2.2.2.2.1 (hF'.2.2.2.2.2.1 _ h1) (hF'.2.2.2.2.2.1 _ h2.1) (hF'.2.2.2.2.2.1 _ h2.2.1) (hF'.2.2.2.2.2.1 _ h2.2.2) (by rw [hfr]; exact hF) (by rw [hlo]; omega) hce hsl hd (w H locs lsA hR hV hl)) rfl kk
theorem s_mmin {idx : Nat} {x z : Int32} (hd : decode cc pc = .ok (.invokestatic idx, 3)) (hp : pc + 3 = pc') (h1 : Cond.methodLink y.cls idx Lib.Math.min.name ∈ tw) (h2 : Cond.static Lib.Math.min.name ∈ tw ∧ Cond.initialized "java/lang/Math" ∈ tw ∧ Cond.code Lib.Math.min.name Lib.Math.min.code 2 (some .int) ∈ tw) (hrest : (st.map fun v => v.category).sum ≤ 8) (hF : 1 ≤ F) (hLo : 21 ≤ Lo) (kk : Sim X y cc nL ret F Lo n0 s0 pc' ls (.int (if z < x then z else x) :: st) u o k) : Sim X y cc nL ret F Lo n0 s0 pc ls (.int z :: .int x :: st) u o k := by
  subst hp
  exact sm_step (fun p e R' s m args below meth c H locs lsA cells slots Q hF' hfr hlo hce hsl hR hV hl hsz w => va_mmin hF'.1 hF'.2.1 (hF'.2.2.1.trans hl.1.symm) hF'.2.2.2.2.1 (hF'.2.2.2.2.2.1 _ h1) (hF'.2.2.2.2.2.1 _ h2.1) (hF'.2.2.2.2.2.1 _ h2.2.1) (hF'.2.2.2.2.2.1 _ h2.2.2) (by rw [hfr]; exact hF) (by rw [hlo]; omega) hce hsl hd (w H locs lsA hR hV hl)) rfl kk
theorem s_mabs {idx : Nat} {x : Int32} (hd : decode cc pc = .ok (.invokestatic idx, 3)) (hp : pc + 3 = pc') (h1 : Cond.methodLink y.cls idx Lib.Math.abs.name ∈ tw) (h2 : Cond.static Lib.Math.abs.name ∈ tw ∧ Cond.initialized "java/lang/Math" ∈ tw ∧ Cond.code Lib.Math.abs.name Lib.Math.abs.code 1 (some .int) ∈ tw) (hrest : (st.map fun v => v.category).sum ≤ 8) (hF : 1 ≤ F) (hLo : 21 ≤ Lo) (kk : Sim X y cc nL ret F Lo n0 s0 pc' ls (.int (if 0 ≤ x then x else 0 - x) :: st) u o k) : Sim X y cc nL ret F Lo n0 s0 pc ls (.int x :: st) u o k := by
  subst hp
  exact sm_step (fun p e R' s m args below meth c H locs lsA cells slots Q hF' hfr hlo hce hsl hR hV hl hsz w => va_mabs hF'.1 hF'.2.1 (hF'.2.2.1.trans hl.1.symm) hF'.2.2.2.2.1 (hF'.2.2.2.2.2.1 _ h1) (hF'.2.2.2.2.2.1 _ h2.1) (hF'.2.2.2.2.2.1 _ h2.2.1) (hF'.2.2.2.2.2.1 _ h2.2.2) (by rw [hfr]; exact hF) (by rw [hlo]; omega) hce hsl hd (w H locs lsA hR hV hl)) rfl kk
theorem s_mminL {idx : Nat} {x z : Int64} (hd : decode cc pc = .ok (.invokestatic idx, 3)) (hp : pc + 3 = pc') (h1 : Cond.methodLink y.cls idx Lib.MathLoose.min_long.x ∈ tw) (h2 : Cond.static Lib.MathLoose.min_long.x ∈ tw ∧ Cond.initialized "java/lang/Math" ∈ tw ∧ Cond.code Lib.MathLoose.min_long.x Lib.MathLoose.min_long.code 4 (some .long) ∈ tw) (hrest : (st.map fun v => v.category).sum ≤ 8) (hF : 1 ≤ F) (hLo : 25 ≤ Lo) (kk : Sim X y cc nL ret F Lo n0 s0 pc' ls (.long (if z < x then z else x) :: st) u o k) : Sim X y cc nL ret F Lo n0 s0 pc ls (.long z :: .long x :: st) u o k := by
  subst hp
  exact sm_step (fun p e R' s m args below meth c H locs lsA cells slots Q hF' hfr hlo hce hsl hR hV hl hsz w => va_mmin_long hF'.1 hF'.2.1 (hF'.2.2.1.trans hl.1.symm) hF'.2.2.2.2.1 (hF'.2.2.2.2.2.1 _ h1) (hF'.2.2.2.2.2.1 _ h2.1) (hF'.2.2.2.2.2.1 _ h2.2.1) (hF'.2.2.2.2.2.1 _ h2.2.2) (by rw [hfr]; exact hF) (by rw [hlo]; omega) hce hsl hd (by first | exact w H locs lsA hR hV hl | (have := w H locs lsA hR hV hl; exact this))) rfl kk
theorem sm_ret {v : Option Value} {a : α} (hk : ∀ f, k a f → f = (v, u)) (h : ∀ (p : Program) (e : Env) (Rm : Room) (s : State) (m : MethodId) (args : Array Value) (below : List Frame) (meth : Method) (c : Code) (H : Heap) (locs : List Loc) (lsA : Array Slot) (cells slots : Nat), Fx X y cc nL ret p s m args meth c → (∀ t : State, t.heap = H → s.WarmedH t.vm → Qfin X (v, u) args s (.returned v) t) → (∀ q ∈ locs, tb_A X q.base) → W p X.2.1 e Rm s m args below meth c H locs cells slots (MQ below (Qfin X (v, u)) args s cells slots (tb_A X)) (F0 m pc lsA st)) : Sim X y cc nL ret F Lo n0 s0 pc ls st u (some a) k := by
  intro a' ha f hf
  cases ha
  rw [hk f hf]
  refine ⟨⟨Nat.le_refl _, Nat.le_refl _⟩, ?_⟩
  intro p e Rm s m args below meth c H locs lsA hFx h3 h4 h5 h6 hR hV hl hsz h1 h2
  exact h p e Rm s m args below meth c H locs lsA _ _ hFx (fun t ht hW => ⟨rfl, by rw [ht]; exact hR, hV.F ht⟩) hV.2.2
theorem s_iret {v : Int32} {a : α} (hd : decode cc pc = .ok (.ireturn, 1)) (hr : ret = some .int) (hk : ∀ f, k a f → f = (some (.int v), u)) : Sim X y cc nL ret F Lo n0 s0 pc ls [.int v] u (some a) k :=
  sm_ret hk (fun p e Rm s m args below meth c H locs lsA cells slots hF hq hf => W.iret hF.1 hF.2.1 (hF.2.2.2.1.trans hr) hq hf hd hF.2.2.2.2.2.2.1)
theorem s_zret {v : Int32} {a : α} (hd : decode cc pc = .ok (.ireturn, 1)) (hr : ret = some .boolean) (hz : v = 0 ∨ v = 1) (hk : ∀ f, k a f → f = (some (.int v), u)) : Sim X y cc nL ret F Lo n0 s0 pc ls [.int v] u (some a) k :=
  sm_ret hk (fun p e Rm s m args below meth c H locs lsA cells slots hF hq hf => W.zret hF.1 hF.2.1 (hF.2.2.2.1.trans hr) (by rcases hz with rfl | rfl <;> rfl) hq hf hd hF.2.2.2.2.2.2.1)
theorem s_lret {v : Int64} {a : α} (hd : decode cc pc = .ok (.lreturn, 1)) (hr : ret = some .long) (hk : ∀ f, k a f → f = (some (.long v), u)) : Sim X y cc nL ret F Lo n0 s0 pc ls [.long v] u (some a) k :=
  sm_ret hk (fun p e Rm s m args below meth c H locs lsA cells slots hF hq hf => W.lret hF.1 hF.2.1 (hF.2.2.2.1.trans hr) hq hf hd hF.2.2.2.2.2.2.1)
theorem s_vret {a : α} (hd : decode cc pc = .ok (.return_, 1)) (hr : ret = none) (hk : ∀ f, k a f → f = (none, u)) : Sim X y cc nL ret F Lo n0 s0 pc ls [] u (some a) k :=
  sm_ret hk (fun p e Rm s m args below meth c H locs lsA cells slots hF hq hf => W.vret hF.1 hF.2.1 (hF.2.2.2.1.trans hr) hq hf hd hF.2.2.2.2.2.2.1)
theorem s_aret {q : Nat} {a : α} {nm : String} (hd : decode cc pc = .ok (.areturn, 1)) (hr : ret = some (.object nm)) (hk : ∀ f, k a f → f = (some (.ref (X.1 + q)), u)) : Sim X y cc nL ret F Lo n0 s0 pc ls [.ref (X.1 + q)] u (some a) k :=
  sm_ret hk (fun p e Rm s m args below meth c H locs lsA cells slots hF hq hf => W.aret hF.1 hF.2.1 (hF.2.2.2.1.trans hr) (Or.inl ⟨_, rfl⟩) (Or.inr ⟨_, rfl⟩) hq hf hd hF.2.2.2.2.2.2.1)
end CALLS2
