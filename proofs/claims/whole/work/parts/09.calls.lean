/-- a method's contract: for a start u and a function's answer o, the machine comes to k's end -/
def Ct {α : Type} (X : WX) (y : MethodName) (cc : ByteArray) (nL : Nat) (ret : Option FieldType) (F Lo : Nat) (args : List Value) (u : AS) (o : Option α) (k : α → Option Value × AS) : Prop :=
  ∀ a, o = some a → (u.2.2.2.length ≤ (k a).2.2.2.2.length ∧ tb_sz u.2.2.2 ≤ tb_sz (k a).2.2.2.2) ∧
    Met X.2.1 y (wsy y cc nL ret) { frames := F, cells := (k a).2.2.2.2.length - u.2.2.2.length, slots := tb_sz (k a).2.2.2.2 - tb_sz u.2.2.2, locals := Lo } (va_Pc args (fun U => HR X u U.heap ∧ Gd X U U.heap)) (Qfin X (k a)) ((k a).2.2.2.2.length - u.2.2.2.length) (tb_sz (k a).2.2.2.2 - tb_sz u.2.2.2) (tb_A X)
theorem tb_good {y : MethodName} {cc : ByteArray} {nL : Nat} {ret : Option FieldType} (h : Cond.code y cc nL ret ∈ tw) : GoodIn tw (wsy y cc nL ret) := by
  intro w hw
  rcases List.mem_cons.mp hw with rfl | hw
  · exact ⟨h, good_of_word (tw_good h)⟩
  · exact ⟨hw, good_of_word (tw_good hw)⟩
/-- a method is proved by the judgement at its entry -/
theorem Ct.of {α : Type} {X : WX} {y : MethodName} {cc : ByteArray} {nL : Nat} {ret : Option FieldType} {F Lo : Nat} {args : List Value} {u : AS} {o : Option α} {k : α → Option Value × AS} (hy : plainName y.cls = true) (hln : (lg_sl args).length ≤ nL) (ls : List (Nat × Value)) (hls : lv_args 0 args = ls)
    (h : Sim X y cc nL ret F Lo u.2.2.2.length (tb_sz u.2.2.2) 0 ls [] u o (fun a f => f = k a)) : Ct X y cc nL ret F Lo args u o k := by
  intro a ha
  obtain ⟨hm, hw⟩ := h a ha _ rfl
  refine ⟨hm, Met.ofW (cc := cc) (maxL := nL) (ret := ret) hy rfl ?_⟩
  intro p e s m args' below meth c s₁ B hml hv
  obtain ⟨rfl, hR, hG⟩ := hv
  have hts := atoms_spec (ws := wsy y cc nL ret) B.pre
  have hown : s.vm.findClass y.cls = some m.cls := findClass_of_methodNamed B.named
  have hin : meth.name = y.name := (name_of_methodNamed B.named B.method).1
  have hl := lv_entry args (n := nL) hln
  rw [hls] at hl
  rw [lg_entry_eq]
  have := hw p e { frames := F, cells := (k a).2.2.2.2.length - u.2.2.2.length, slots := tb_sz (k a).2.2.2.2 - tb_sz u.2.2.2, locals := Lo } s m args.toArray below meth c s.heap [] _ ⟨B.exec, B.bytes, hml, B.returns, hown, fun w hw => hts w (List.mem_cons_of_mem _ hw), B.notSynchronized, fun hi => hin.trans hi, hG⟩ rfl rfl (Nat.le_refl _) (Nat.le_refl _) hR va_S.rf hl hR.2 (Nat.le_refl _) (Nat.le_refl _)
  rw [Nat.sub_self, Nat.sub_self] at this
  exact this
/-- as Met.ofW, for a method of a class some of whose methods are run otherwise, but not this one -/
theorem Met.ofWF {l : Launch} {y : MethodName} {ws ws' : List Cond} {rm : Room} {Pc : Array Value → State → Prop} {Qc : Array Value → State → Outcome → State → Prop} {mc ms : Nat} {free : Addr → Prop} {cc : ByteArray} {maxL : Nat} {ret : Option FieldType}
    (hy : plainFor y = true) (hw : ws = Cond.code y cc maxL ret :: ws')
    (body : ∀ p e s m args below meth c s₁, BodyLoose p l y (headSpec ws rm) cc maxL ret e s m args below meth c s₁ → c.maxLocals = maxL → Pc args s →
      W p l e (headSpec ws rm).room s m args below meth c s.heap [] 0 0 (MQ below Qc args s mc ms free) (entryFrame m args maxL)) : Met l y ws rm Pc Qc mc ms free := by
  refine MetFree.of_bodySF (code := cc) (maxLocals := maxL) (ret := ret) hy ?_ ?_
  · intro args s m h hn
    obtain ⟨meth, c, h1, h2, h3, h4, h5, h6, -, -⟩ := Cond.code_spec hn (atoms_spec (ws := ws) h _ (by rw [hw]; exact List.mem_cons_self))
    exact ⟨meth, c, h1, h2, h3, h4, h5, h6⟩
  · intro p e s m args below meth c s₁ B hml hP _
    have hh0 : s₁.heap = s.heap := by rw [B.state]; rfl
    obtain ⟨t, a1, o, b1, b2, b3⟩ := body p e s m args below meth c s₁ B hml hP s₁ hh0 (Stand.of_body B)
    exact ⟨t, o, a1, b1, b2, ⟨b3.1, b3.2⟩⟩
/-- a method is proved by the judgement at its entry -/
theorem Ct.ofF {α : Type} {X : WX} {y : MethodName} {cc : ByteArray} {nL : Nat} {ret : Option FieldType} {F Lo : Nat} {args : List Value} {u : AS} {o : Option α} {k : α → Option Value × AS} (hy : plainFor y = true) (hln : (lg_sl args).length ≤ nL) (ls : List (Nat × Value)) (hls : lv_args 0 args = ls)
    (h : Sim X y cc nL ret F Lo u.2.2.2.length (tb_sz u.2.2.2) 0 ls [] u o (fun a f => f = k a)) : Ct X y cc nL ret F Lo args u o k := by
  intro a ha
  obtain ⟨hm, hw⟩ := h a ha _ rfl
  refine ⟨hm, Met.ofWF (cc := cc) (maxL := nL) (ret := ret) hy rfl ?_⟩
  intro p e s m args' below meth c s₁ B hml hv
  obtain ⟨rfl, hR, hG⟩ := hv
  have hts := atoms_spec (ws := wsy y cc nL ret) B.pre
  have hown : s.vm.findClass y.cls = some m.cls := findClass_of_methodNamed B.named
  have hin : meth.name = y.name := (name_of_methodNamed B.named B.method).1
  have hl := lv_entry args (n := nL) hln
  rw [hls] at hl
  rw [lg_entry_eq]
  have := hw p e { frames := F, cells := (k a).2.2.2.2.length - u.2.2.2.length, slots := tb_sz (k a).2.2.2.2 - tb_sz u.2.2.2, locals := Lo } s m args.toArray below meth c s.heap [] _ ⟨B.exec, B.bytes, hml, B.returns, hown, fun w hw => hts w (List.mem_cons_of_mem _ hw), B.notSynchronized, fun hi => hin.trans hi, hG⟩ rfl rfl (Nat.le_refl _) (Nat.le_refl _) hR va_S.rf hl hR.2 (Nat.le_refl _) (Nat.le_refl _)
  rw [Nat.sub_self, Nat.sub_self] at this
  exact this
section CALLS
variable {α β : Type} {X : WX} {y : MethodName} {cc : ByteArray} {nL : Nat} {ret : Option FieldType} {F Lo n0 s0 pc pc' tgt : Nat} {ls ls' : List (Nat × Value)} {st : List Value} {I : MI} {L : ML} {R : MR} {S : MS} {u : AS} {o o1 o2 : Option α} {k : α → Option Value × AS → Prop}
theorem tb_call {p : Program} {e : Env} {Rm : Room} {s : State} {m : MethodId} {args : Array Value} {below : List Frame} {meth : Method} {c : Code} {H : Heap} {locs : List Loc} {cells slots mc ms : Nat} {Q : State → Prop} {lsA : Array Slot} {st0 rest : List Value} {a' : Array Value} {f : Option Value × AS}
    (hr : va_Run p X.2.1 e Rm s m args below meth c H locs cells slots mc ms (F0 m pc lsA st0) rest (Qfin X f a') (tb_A X)) (hS : va_S (tb_A X) s.heap H locs)
    (kk : ∀ (H1 : Heap) (locs1 : List Loc), HR X f.2 H1 → va_S (tb_A X) s.heap H1 locs1 → W p X.2.1 e Rm s m args below meth c H1 locs1 (cells + mc) (slots + ms) Q (F0 m (pc + 3) lsA (f.1.toList ++ rest))) : W p X.2.1 e Rm s m args below meth c H locs cells slots Q (F0 m pc lsA st0) := by
  intro T hT X'
  obtain ⟨v, st₀, t, T', L, h0, X1, hL, e1, e2, ⟨hv, hR, hz, hk⟩, st⟩ := hr T hT X'
  cases hv
  rw [h0] at hz hk
  obtain ⟨t2, a1, b1⟩ := kk T'.heap (locs ++ L) (by rw [e1]; exact hR) ⟨Nat.le_trans hS.1 (by rw [e1]; exact hz), fun q h1 h2 => by rw [e1, hk q (Nat.lt_of_lt_of_le h1 hS.1) h2]; exact hS.2.1 q h1 h2, fun q hq => by
      rcases List.mem_append.mp hq with h | h
      · exact hS.2.2 q h
      · exact hL q h⟩ T' rfl X1
  exact ⟨t2, st t2 a1, b1⟩
theorem tb_blind {args : List Value} {u : AS} : FrameBlind (va_Pc args (fun U => HR X u U.heap ∧ Gd X U U.heap)) := by
  intro a U g mk q
  obtain ⟨q0, q1, q2⟩ := q
  exact ⟨q0, q1, q2.on (s := U) (U := U.calling g mk a) (H1 := U.heap) (State.WarmedH.refl U) (fun _ _ _ => rfl) (Nat.le_refl _)⟩
theorem sm_callS {idx nL' n F' Lo' : Nat} {y' : MethodName} {cc' : ByteArray} {ret' : Option FieldType} {o' : Option β} {k' : β → Option Value × AS} {g : β → Option α} (As rest : List Value) (hd : decode cc pc = .ok (.invokestatic idx, 3)) (hp : pc + 3 = pc') (lk : LkS y.cls idx y' cc' nL' ret' n) (hn : As.length = n) (hst : st = As.reverse ++ rest) (hrest : (rest.map fun v => v.category).sum ≤ 8) (hF : F' + 1 ≤ F) (hLo : 8 + (nL' + 11) + Lo' ≤ Lo)
    (ct : Ct X y' cc' nL' ret' F' Lo' As u o' k') (kk : ∀ b, o' = some b → Sim X y cc nL ret F Lo n0 s0 pc' ls ((k' b).1.toList ++ rest) (k' b).2 (g b) k) : Sim X y cc nL ret F Lo n0 s0 pc ls st u (b1 o' g) k := by
  subst hp
  subst hst
  cases ho : o' with
  | none => exact sm_none
  | some b =>
    intro a ha f hf
    obtain ⟨⟨c1, c2⟩, hM⟩ := ct b ho
    obtain ⟨⟨m1, m2⟩, hw⟩ := kk b ho a ha f hf
    refine ⟨⟨Nat.le_trans c1 m1, Nat.le_trans c2 m2⟩, ?_⟩
    intro p e Rm s m args below meth c H locs lsA hFx h3 h4 h5 h6 hR hV hl hsz h1 h2
    obtain ⟨l1, l2, l3, l4, l5⟩ := lk
    have hG : GoodIn tw (va_wsS y.cls idx y' (wsy y' cc' nL' ret')) := by
      intro w hw
      rcases List.mem_append.mp hw with h | h
      · simp only [List.mem_cons, List.not_mem_nil, or_false] at h
        rcases h with rfl | rfl | rfl
        · exact ⟨l1, good_of_word (tw_good l1)⟩
        · exact ⟨l2, good_of_word (tw_good l2)⟩
        · exact ⟨l3, good_of_word (tw_good l3)⟩
      · exact tb_good l4 w h
    have hts := hFx.2.2.2.2.2.1
    have run := va_runS (g := F0 m pc lsA (As.reverse ++ rest)) (rest := rest) (R := Rm) (e := e) (below := below) (meth := meth) (locs := locs) (cells := u.2.2.2.length - n0) (slots := tb_sz u.2.2.2 - s0) ⟨hFx.1, hFx.2.1, hFx.2.2.1, hFx.2.2.2.2.1, hts⟩ hM (va_cwS n hts hG rfl rfl rfl l5 ⟨by rw [h3]; exact hF, by rw [h4]; exact hLo⟩)
      ⟨tb_blind, fun U hU hW => ⟨rfl, by rw [hU]; exact hR, by rw [hU]; exact hFx.2.2.2.2.2.2.2.2.on hW (fun q hq hA => hV.2.1 q hq hA) hV.1⟩⟩ rfl hn hl.1 rfl (by show 2 * 0 + _ ≤ 8; omega) hd ⟨by omega, by omega⟩
    refine tb_call run hV (fun H1 locs1 hR1 hV1 => ?_)
    have := hw p e Rm s m args below meth c H1 locs1 lsA hFx h3 h4 h5 h6 hR1 hV1 hl hsz (Nat.le_trans h1 c1) (Nat.le_trans h2 c2)
    rw [show u.2.2.2.length - n0 + ((k' b).2.2.2.2.length - u.2.2.2.length) = (k' b).2.2.2.2.length - n0 by omega, show tb_sz u.2.2.2 - s0 + (tb_sz (k' b).2.2.2.2 - tb_sz u.2.2.2) = tb_sz (k' b).2.2.2.2 - s0 by omega]
    exact this
end CALLS
