def cpI (I : MI) (a0 a : Nat) (sp dp n : Int32) : MI := fun b j => if b = a then va_cpy (I a0) (I a) (ix sp) (ix dp) (ix n) j else I b j
theorem cpI_off {I : MI} {a0 a b : Nat} {sp dp n : Int32} (h : b ≠ a) : cpI I a0 a sp dp n b = I b := by funext j; simp [cpI, h]
theorem cpI_row {I : MI} {a0 a : Nat} {sp dp n : Int32} : cpI I a0 a sp dp n a = va_cpy (I a0) (I a) (ix sp) (ix dp) (ix n) := by funext j; simp [cpI]
section ALLOC
variable {α β : Type} {X : WX} {y : MethodName} {cc : ByteArray} {nL : Nat} {ret : Option FieldType} {F Lo n0 s0 pc pc' tgt : Nat} {ls ls' : List (Nat × Value)} {st : List Value} {I : MI} {L : ML} {R : MR} {S : MS} {u : AS} {o o1 o2 : Option α} {k : α → Option Value × AS → Prop}
theorem HR.push {H H1 : Heap} {kn : Nat × Nat} (hR : HR X (I, L, R, S) H) (z1 : H1.size = H.size + 1) (o1 : ∀ q, q < H.size → H1[q]? = H[q]?) (hn : va_at X.2.2.1 vwCl (X.1 + S.length, tb_e X (zI I S.length) (zL L S.length) (zR R S.length) S.length kn) H1) : HR X (zI I S.length, zL L S.length, zR R S.length, S ++ [kn]) H1 := by
  refine ⟨?_, ?_⟩
  · rw [tb_ws_push]
    refine (hR.1.kept (fun k x hx => o1 x.1 ((hR.1 k x hx).lt))).app (fun k x hx => ?_)
    have hz : k < 1 := (List.getElem?_eq_some_iff.mp hx).1
    rw [show k = 0 by omega] at hx
    cases hx
    exact hn
  · have h2 : H.size = X.1 + S.length := hR.2
    rw [z1, h2]
    simp
    omega
theorem sm_alloc {kn : Nat × Nat} {st' : List Value} (kk : Sim X y cc nL ret F Lo n0 s0 pc' ls st' (zI I S.length, zL L S.length, zR R S.length, S ++ [kn]) o k)
    (h : ∀ (p : Program) (e : Env) (Rm : Room) (s : State) (m : MethodId) (args : Array Value) (below : List Frame) (meth : Method) (c : Code) (H : Heap) (locs : List Loc) (lsA : Array Slot) (cells slots : Nat) (Q : State → Prop), Fx X y cc nL ret p s m args meth c → cells + 1 ≤ Rm.cells → slots + kn.2 ≤ Rm.slots → HR X (I, L, R, S) H → va_S (tb_A X) s.heap H locs → lv_has lsA nL ls → (∀ (H' : Heap), HR X (zI I S.length, zL L S.length, zR R S.length, S ++ [kn]) H' → va_S (tb_A X) s.heap H' locs → W p X.2.1 e Rm s m args below meth c H' locs (cells + 1) (slots + kn.2) Q (F0 m pc' lsA st')) → W p X.2.1 e Rm s m args below meth c H locs cells slots Q (F0 m pc lsA st)) : Sim X y cc nL ret F Lo n0 s0 pc ls st (I, L, R, S) o k := by
  intro a ha f hf
  have e1 : (S ++ [kn]).length = S.length + 1 := by simp
  obtain ⟨⟨m1, m2⟩, hw⟩ := kk a ha f hf
  simp only [e1, tb_sz_push] at m1 m2
  refine ⟨⟨by simp only; omega, by simp only; omega⟩, ?_⟩
  intro p e Rm s m args below meth c H locs lsA hFx h3 h4 h5 h6 hR hV hl hsz h1 h2
  simp only at h1 h2
  refine h p e Rm s m args below meth c H locs lsA _ _ _ hFx (by simp only; omega) (by simp only; omega) hR hV hl (fun H' hR' hV' => ?_)
  have := hw p e Rm s m args below meth c H' locs lsA hFx h3 h4 h5 h6 hR' hV' hl hsz (by simp only [e1]; omega) (by simp only [tb_sz_push]; omega)
  simp only [e1, tb_sz_push] at this ⊢
  rw [show S.length - n0 + 1 = S.length + 1 - n0 by omega, show tb_sz S - s0 + kn.2 = tb_sz S + kn.2 - s0 by omega]
  exact this
theorem s_new {idx kd N : Nat} (hd : decode cc pc = .ok (.new idx, 3)) (hp : pc + 3 = pc') (nl : NL y.cls idx kd N) (kk : Sim X y cc nL ret F Lo n0 s0 pc' ls (.ref (X.1 + S.length) :: st) (zI I S.length, zL L S.length, zR R S.length, S ++ [(kd, N)]) o k) : Sim X y cc nL ret F Lo n0 s0 pc ls st (I, L, R, S) o k := by
  subst hp
  obtain ⟨C, T, ty0, ⟨h1, h2, h3, h4, h5, h6, h7⟩, w1, w2, w3, hdef⟩ := nl
  refine sm_alloc kk (fun p e Rm s m args below meth c H locs lsA cells slots Q hF hce hsl hR hV hl w => ?_)
  have hts := hF.2.2.2.2.2.1
  have hKn := hF.K.1 kd _ h1
  have h2' : H.size = X.1 + S.length := hR.2
  refine W.newcK (g := F0 m pc lsA st) hF.1 hF.2.1 hF.2.2.2.2.1 (hts _ w1) (hts _ w2) (hts _ w3) rfl hd hce hsl hKn.2.1 h2' fun H1 kC hkC e1 z1 o1 => ?_
  refine w H1 (HR.push hR (by rw [z1, h2']) (by rw [h2']; exact o1) ?_) ⟨Nat.le_trans hV.1 (by omega), fun x q1 q2 => (o1 x (by have := hV.1; omega)).trans (hV.2.1 x q1 q2), hV.2.2⟩
  rw [tb_e_obj h2]
  refine ⟨_, h1, (u_born ty0 hts h4 hKn hkC e1 h5).to fun j hj => ?_⟩
  show defaultValue (ty0 j) = vp_V _ j
  have := tb_fs_at (z := X.1) (I := zI I S.length) (L := zL L S.length) (R := zR R S.length) (a := S.length) (h7 j hj)
  rw [hdef j hj, vp_V, List.getD_eq_getElem?_getD, this]
  generalize fcode (ty0 j) = c0
  match c0 with
  | 0 => simp [tb_fv, tb_dv, zI]
  | 1 => simp [tb_fv, tb_dv, zL]
  | _ + 2 => simp [tb_fv, tb_dv, zR, va_rf]
theorem s_newa {kd N : Nat} (t0 : Nat) {at' : ArrayType} {ft : FieldType} {n : Int32} (hd : decode cc pc = .ok (.newarray at', 2)) (hp : pc + 2 = pc') (hft : newarray.typeOf at' = ft) (hw : Cond.arrayClass ft ∈ tw) (ht : (tb_tys X)[t0]? = some (X.2.2.2.1 kd, ft)) (hn : ¬ n < 0) (hN : ix n = N) (hb : N * componentBytes ft ≤ 536870912)
    (hRA : ∀ s cA, va_RA s cA ft → s.vm.findClass ("[" ++ ft.toString) = some cA) (hcell : ∀ cA, tb_e X (zI I S.length) (zL L S.length) (zR R S.length) S.length (kd, N) = .inl (X.2.2.2.1 kd, N, if kd = 14 then .inr (.inl (fun _ => 0)) else .inl (fun _ => 0)) ∧ vp_cell cA (N, if kd = 14 then .inr (.inl (fun _ => 0)) else .inl (fun _ => 0)) = arrV cA N (fun _ => defaultValue ft))
    (kk : Sim X y cc nL ret F Lo n0 s0 pc' ls (.ref (X.1 + S.length) :: st) (zI I S.length, zL L S.length, zR R S.length, S ++ [(kd, N)]) o k) : Sim X y cc nL ret F Lo n0 s0 pc ls (.int n :: st) (I, L, R, S) o k := by
  subst hp
  subst hft
  refine sm_alloc kk (fun p e Rm s m args below meth c H locs lsA cells slots Q hF hce hsl hR hV hl w => ?_)
  have hts := hF.2.2.2.2.2.1
  have h2' : H.size = X.1 + S.length := hR.2
  refine va_newaK (g := F0 m pc lsA (.int n :: st)) hF.1 hF.2.1 (hts _ hw) rfl hd rfl hn hN hb hce hsl h2' fun H1 cA e1 z1 o1 hAr hNm => ?_
  have hcA : cA = X.2.2.2.1 kd := Option.some.inj (hNm.symm.trans (hRA s _ (hF.K.2 t0 _ ht).2))
  subst hcA
  refine w H1 (HR.push hR (by rw [z1, h2']) (by rw [h2']; exact o1) ?_) ⟨Nat.le_trans hV.1 (by omega), fun x q1 q2 => (o1 x (by have := hV.1; omega)).trans (hV.2.1 x q1 q2), hV.2.2⟩
  rw [(hcell 0).1]
  show H1[X.1 + S.length]? = some (vp_cell _ _)
  rw [(hcell _).2]
  exact e1
theorem s_newI {N : Nat} {n : Int32} (hd : decode cc pc = .ok (.newarray .int, 2)) (hp : pc + 2 = pc') (hw : Cond.arrayClass .int ∈ tw) (hn : ¬ n < 0) (hN : ix n = N) (hb : N ≤ 100000) (kk : Sim X y cc nL ret F Lo n0 s0 pc' ls (.ref (X.1 + S.length) :: st) (zI I S.length, zL L S.length, zR R S.length, S ++ [(13, N)]) o k) : Sim X y cc nL ret F Lo n0 s0 pc ls (.int n :: st) (I, L, R, S) o k :=
  s_newa 1 (ft := .int) hd hp rfl hw rfl hn hN (by show N * 4 ≤ _; omega) (fun _ _ h => h) (fun cA => ⟨by rw [tb_e_I (by decide) (by decide) (by decide)]; simp; funext j; simp [zI], by rfl⟩) kk
theorem s_newB {N : Nat} {n : Int32} (hd : decode cc pc = .ok (.newarray .byte, 2)) (hp : pc + 2 = pc') (hw : Cond.arrayClass .byte ∈ tw) (hn : ¬ n < 0) (hN : ix n = N) (hb : N ≤ 100000) (kk : Sim X y cc nL ret F Lo n0 s0 pc' ls (.ref (X.1 + S.length) :: st) (zI I S.length, zL L S.length, zR R S.length, S ++ [(12, N)]) o k) : Sim X y cc nL ret F Lo n0 s0 pc ls (.int n :: st) (I, L, R, S) o k :=
  s_newa 0 (ft := .byte) hd hp rfl hw rfl hn hN (by show N * 1 ≤ _; omega) (fun _ _ h => h) (fun cA => ⟨by rw [tb_e_I (by decide) (by decide) (by decide)]; simp; funext j; simp [zI], by rfl⟩) kk
theorem s_newZ {N : Nat} {n : Int32} (hd : decode cc pc = .ok (.newarray .boolean, 2)) (hp : pc + 2 = pc') (hw : Cond.arrayClass .boolean ∈ tw) (hn : ¬ n < 0) (hN : ix n = N) (hb : N ≤ 100000) (kk : Sim X y cc nL ret F Lo n0 s0 pc' ls (.ref (X.1 + S.length) :: st) (zI I S.length, zL L S.length, zR R S.length, S ++ [(15, N)]) o k) : Sim X y cc nL ret F Lo n0 s0 pc ls (.int n :: st) (I, L, R, S) o k :=
  s_newa 3 (ft := .boolean) hd hp rfl hw rfl hn hN (by show N * 1 ≤ _; omega) (fun _ _ h => h) (fun cA => ⟨by rw [tb_e_I (by decide) (by decide) (by decide)]; simp; funext j; simp [zI], by rfl⟩) kk
theorem s_newJ {N : Nat} {n : Int32} (hd : decode cc pc = .ok (.newarray .long, 2)) (hp : pc + 2 = pc') (hw : Cond.arrayClass .long ∈ tw) (hn : ¬ n < 0) (hN : ix n = N) (hb : N ≤ 100000) (kk : Sim X y cc nL ret F Lo n0 s0 pc' ls (.ref (X.1 + S.length) :: st) (zI I S.length, zL L S.length, zR R S.length, S ++ [(14, N)]) o k) : Sim X y cc nL ret F Lo n0 s0 pc ls (.int n :: st) (I, L, R, S) o k :=
  s_newa 2 (ft := .long) hd hp rfl hw rfl hn hN (by show N * 8 ≤ _; omega) (fun _ _ h => h) (fun cA => ⟨by rw [tb_e_L]; simp; funext j; simp [zL], by rfl⟩) kk
theorem s_newQ {idx N : Nat} {n : Int32} (hd : decode cc pc = .ok (.anewarray idx, 3)) (hp : pc + 3 = pc') (hw : Cond.classLink y.cls idx "TubBites$State" ∈ tw) (hn : ¬ n < 0) (hN : ix n = N) (hb : N ≤ 100000) (kk : Sim X y cc nL ret F Lo n0 s0 pc' ls (.ref (X.1 + S.length) :: st) (zI I S.length, zL L S.length, zR R S.length, S ++ [(16, N)]) o k) : Sim X y cc nL ret F Lo n0 s0 pc ls (.int n :: st) (I, L, R, S) o k := by
  subst hp
  subst hN
  refine sm_alloc kk (fun p e Rm s m args below meth c H locs lsA cells slots Q hF hce hsl hR hV hl w => ?_)
  have hts := hF.2.2.2.2.2.1
  have h2' : H.size = X.1 + S.length := hR.2
  refine W.anew (g := F0 m pc lsA (.int n :: st)) hF.1 hF.2.1 hF.2.2.2.2.1 (hts _ hw) (va_AO.use hF.2.2.2.2.2.2.2.2.2.2.2.1) rfl hd rfl hn (by show ix n * 4 ≤ _; omega) hce hsl fun cA kA comp f1 f2 f3 f4 => ?_
  obtain ⟨kA', comp', g1, g2, g3, g4⟩ := (hF.K.2 4 _ rfl).2
  have hcA : cA = X.2.2.2.1 16 := Option.some.inj (f1.symm.trans g4)
  subst hcA
  rw [h2']
  generalize hH1 : H.push ({ cls := X.2.2.2.1 16, slots := Array.replicate n.toNatClampNeg .null, vm := .none } : Cell) = H1
  have z1 : H1.size = H.size + 1 := by rw [← hH1, Array.size_push]
  have e1 : H1[H.size]? = some (arrV (X.2.2.2.1 16) n.toNatClampNeg (fun _ => .null)) := by rw [← hH1, Array.getElem?_push_size, ← arrV_new]
  have o1 : ∀ q : Nat, q < H.size → H1[q]? = H[q]? := fun q hq => by rw [← hH1, Array.getElem?_push, if_neg (Nat.ne_of_lt hq)]
  refine w H1 (HR.push hR z1 o1 ?_) ⟨Nat.le_trans hV.1 (by omega), fun x q1 q2 => (o1 x (by have := hV.1; omega)).trans (hV.2.1 x q1 q2), hV.2.2⟩
  rw [tb_e_R]
  show H1[X.1 + S.length]? = some (vp_cell _ _)
  rw [vp_cell_q, ← h2', e1]
  congr 2
  funext j
  simp [zR, va_rf]
theorem s_copyi {idx a0 a m0 m1 : Nat} {sp dp n : Int32} (hd : decode cc pc = .ok (.invokestatic idx, 3)) (hp : pc + 3 = pc') (h1 : Cond.methodLink y.cls idx arraycopyName ∈ tw) (h2 : Cond.native arraycopyName ∈ tw ∧ Cond.static arraycopyName ∈ tw ∧ Cond.initialized "java/lang/System" ∈ tw) (hS0 : S[a0]? = some (13, m0)) (hS1 : S[a]? = some (13, m1)) (hsp : ¬ sp < 0) (hdp : ¬ dp < 0) (hn : ¬ n < 0) (hl0 : ix sp + ix n ≤ m0) (hl1 : ix dp + ix n ≤ m1) (hrest : (st.map fun v => v.category).sum ≤ 8) (hF : 1 ≤ F) (hLo : 8 + (nativeFrameWords "java/lang/System" "arraycopy" 5 + 11) ≤ Lo)
    (kk : Sim X y cc nL ret F Lo n0 s0 pc' ls st (cpI I a0 a sp dp n, L, R, S) o k) : Sim X y cc nL ret F Lo n0 s0 pc ls (.int n :: .int dp :: .ref (X.1 + a) :: .int sp :: .ref (X.1 + a0) :: st) (I, L, R, S) o k := by
  subst hp
  refine sm_step (fun p e R' s m args below meth c H locs lsA cells slots Q hF' hfr hlo hce hsl hR hV hl hsz w => va_copyi hF'.1 hF'.2.1 (hF'.2.2.1.trans hl.1.symm) hF'.2.2.2.2.1 (hF'.2.2.2.2.2.1 _ h1) (hF'.2.2.2.2.2.1 _ h2.1) (hF'.2.2.2.2.2.1 _ h2.2.1) (hF'.2.2.2.2.2.1 _ h2.2.2) hF'.K hR.1 (tb_D X _) hV a0 a 1 1 (ty := .int) (tb_at_I hS0 (by decide) (by decide) (by decide)) (tb_at_I hS1 (by decide) (by decide) (by decide)) rfl rfl rfl hsp hdp hn hl0 hl1 (fun _ _ => rfl) (by rw [hfr]; exact hF) (by rw [hlo]; omega) hd (fun H1 locs1 hP1 hD1 hS1' => tb_size fun hz1 => w H1 locs1 lsA (HR.upd hS1 (fun b h => cpI_off h) (fun _ _ => rfl) (fun _ _ => rfl) ?_ hP1 (Nat.le_trans hF'.lo hS1'.1) (by simp only at hsz; omega)) hS1' hl)) rfl kk
  rw [tb_e_I (by decide) (by decide) (by decide), cpI_row]
end ALLOC
