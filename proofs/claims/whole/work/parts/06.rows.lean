section ROWS
variable {α : Type} {X : WX} {y : MethodName} {cc : ByteArray} {nL : Nat} {ret : Option FieldType} {F Lo n0 s0 pc pc' tgt : Nat} {ls ls' : List (Nat × Value)} {st : List Value} {I : MI} {L : ML} {R : MR} {S : MS} {u : AS} {o o1 o2 : Option α} {k : α → Option Value × AS → Prop}
theorem s_iconst {n : Int} {v : Int32} (hd : decode cc pc = .ok (.iconst n, 1)) (hp : pc + 1 = pc') (hv : Int32.ofInt n = v) (kk : Sim X y cc nL ret F Lo n0 s0 pc' ls (.int v :: st) u o k) : Sim X y cc nL ret F Lo n0 s0 pc ls (st) u o k := by
  subst hp
  exact sm_step (fun p e R s m args below meth c H locs lsA cells slots Q hF hfr hlo hce hsl hR hV hl hsz w => lv_iconst hF.1 hF.2.1 hd hv (w H locs lsA hR hV hl)) rfl kk
theorem s_bipush {n : Int} {v : Int32} (hd : decode cc pc = .ok (.bipush n, 2)) (hp : pc + 2 = pc') (hv : (Int8.ofInt n).toInt32 = v) (kk : Sim X y cc nL ret F Lo n0 s0 pc' ls (.int v :: st) u o k) : Sim X y cc nL ret F Lo n0 s0 pc ls (st) u o k := by
  subst hp
  exact sm_step (fun p e R s m args below meth c H locs lsA cells slots Q hF hfr hlo hce hsl hR hV hl hsz w => lv_bipush hF.1 hF.2.1 hd hv (w H locs lsA hR hV hl)) rfl kk
theorem s_sipush {n : Int} {v : Int32} (hd : decode cc pc = .ok (.sipush n, 3)) (hp : pc + 3 = pc') (hv : (Int16.ofInt n).toInt32 = v) (kk : Sim X y cc nL ret F Lo n0 s0 pc' ls (.int v :: st) u o k) : Sim X y cc nL ret F Lo n0 s0 pc ls (st) u o k := by
  subst hp
  exact sm_step (fun p e R s m args below meth c H locs lsA cells slots Q hF hfr hlo hce hsl hR hV hl hsz w => lv_sipush hF.1 hF.2.1 hd hv (w H locs lsA hR hV hl)) rfl kk
theorem s_lconst {n : Fin 2} {v : Int64} (hd : decode cc pc = .ok (.lconst n, 1)) (hp : pc + 1 = pc') (hv : Int64.ofNat (n : Nat) = v) (kk : Sim X y cc nL ret F Lo n0 s0 pc' ls (.long v :: st) u o k) : Sim X y cc nL ret F Lo n0 s0 pc ls (st) u o k := by
  subst hp
  exact sm_step (fun p e R s m args below meth c H locs lsA cells slots Q hF hfr hlo hce hsl hR hV hl hsz w => lv_lconst hF.1 hF.2.1 hd hv (w H locs lsA hR hV hl)) rfl kk
theorem s_ldc {i : Nat} {v : Int32} (hd : decode cc pc = .ok (.ldc i, 2)) (hp : pc + 2 = pc') (hw : Cond.constant y.cls i v ∈ tw) (kk : Sim X y cc nL ret F Lo n0 s0 pc' ls (.int v :: st) u o k) : Sim X y cc nL ret F Lo n0 s0 pc ls (st) u o k := by
  subst hp
  exact sm_step (fun p e R s m args below meth c H locs lsA cells slots Q hF hfr hlo hce hsl hR hV hl hsz w => lv_ldc hF.1 hF.2.1 hF.2.2.2.2.1 (hF.2.2.2.2.2.1 _ hw) hd (w H locs lsA hR hV hl)) rfl kk
theorem s_ldcw {i : Nat} {v : Int32} (hd : decode cc pc = .ok (.ldc_w i, 3)) (hp : pc + 3 = pc') (hw : Cond.constant y.cls i v ∈ tw) (kk : Sim X y cc nL ret F Lo n0 s0 pc' ls (.int v :: st) u o k) : Sim X y cc nL ret F Lo n0 s0 pc ls (st) u o k := by
  subst hp
  exact sm_step (fun p e R s m args below meth c H locs lsA cells slots Q hF hfr hlo hce hsl hR hV hl hsz w => lv_ldcw hF.1 hF.2.1 hF.2.2.2.2.1 (hF.2.2.2.2.2.1 _ hw) hd (w H locs lsA hR hV hl)) rfl kk
theorem s_ldc2 {i : Nat} {v : Int64} (hd : decode cc pc = .ok (.ldc2_w i, 3)) (hp : pc + 3 = pc') (hw : Cond.constantLong y.cls i v ∈ tw) (kk : Sim X y cc nL ret F Lo n0 s0 pc' ls (.long v :: st) u o k) : Sim X y cc nL ret F Lo n0 s0 pc ls (st) u o k := by
  subst hp
  exact sm_step (fun p e R s m args below meth c H locs lsA cells slots Q hF hfr hlo hce hsl hR hV hl hsz w => lv_ldc2 hF.1 hF.2.1 hF.2.2.2.2.1 (hF.2.2.2.2.2.1 _ hw) hd (w H locs lsA hR hV hl)) rfl kk
theorem s_iload_n (j : Nat) {i : Fin 4} {x : Int32} (hd : decode cc pc = .ok (.iload_n i, 1)) (hp : pc + 1 = pc') (hj : ls[j]? = some ((i : Nat), .int x)) (kk : Sim X y cc nL ret F Lo n0 s0 pc' ls (.int x :: st) u o k) : Sim X y cc nL ret F Lo n0 s0 pc ls (st) u o k := by
  subst hp
  exact sm_step (fun p e R s m args below meth c H locs lsA cells slots Q hF hfr hlo hce hsl hR hV hl hsz w => lv_iload_n hF.1 hF.2.1 hd rfl (lv_at hl j hj) (w H locs lsA hR hV hl)) rfl kk
theorem s_iload (j : Nat) {i : Nat} {x : Int32} (hd : decode cc pc = .ok (.iload i, 2)) (hp : pc + 2 = pc') (hj : ls[j]? = some (i, .int x)) (kk : Sim X y cc nL ret F Lo n0 s0 pc' ls (.int x :: st) u o k) : Sim X y cc nL ret F Lo n0 s0 pc ls (st) u o k := by
  subst hp
  exact sm_step (fun p e R s m args below meth c H locs lsA cells slots Q hF hfr hlo hce hsl hR hV hl hsz w => lv_iload hF.1 hF.2.1 hd (lv_at hl j hj) (w H locs lsA hR hV hl)) rfl kk
theorem s_lload_n (j : Nat) {i : Fin 4} {x : Int64} (hd : decode cc pc = .ok (.lload_n i, 1)) (hp : pc + 1 = pc') (hj : ls[j]? = some ((i : Nat), .long x)) (kk : Sim X y cc nL ret F Lo n0 s0 pc' ls (.long x :: st) u o k) : Sim X y cc nL ret F Lo n0 s0 pc ls (st) u o k := by
  subst hp
  exact sm_step (fun p e R s m args below meth c H locs lsA cells slots Q hF hfr hlo hce hsl hR hV hl hsz w => lv_lload_n hF.1 hF.2.1 hd rfl (lv_at hl j hj) (w H locs lsA hR hV hl)) rfl kk
theorem s_lload (j : Nat) {i : Nat} {x : Int64} (hd : decode cc pc = .ok (.lload i, 2)) (hp : pc + 2 = pc') (hj : ls[j]? = some (i, .long x)) (kk : Sim X y cc nL ret F Lo n0 s0 pc' ls (.long x :: st) u o k) : Sim X y cc nL ret F Lo n0 s0 pc ls (st) u o k := by
  subst hp
  exact sm_step (fun p e R s m args below meth c H locs lsA cells slots Q hF hfr hlo hce hsl hR hV hl hsz w => lv_lload hF.1 hF.2.1 hd (lv_at hl j hj) (w H locs lsA hR hV hl)) rfl kk
theorem s_aload_n (j : Nat) {i : Fin 4} {x : Nat} (hd : decode cc pc = .ok (.aload_n i, 1)) (hp : pc + 1 = pc') (hj : ls[j]? = some ((i : Nat), .ref x)) (kk : Sim X y cc nL ret F Lo n0 s0 pc' ls (.ref x :: st) u o k) : Sim X y cc nL ret F Lo n0 s0 pc ls (st) u o k := by
  subst hp
  exact sm_step (fun p e R s m args below meth c H locs lsA cells slots Q hF hfr hlo hce hsl hR hV hl hsz w => lv_aload_n hF.1 hF.2.1 hd rfl (lv_at hl j hj) (w H locs lsA hR hV hl)) rfl kk
theorem s_aload (j : Nat) {i : Nat} {x : Nat} (hd : decode cc pc = .ok (.aload i, 2)) (hp : pc + 2 = pc') (hj : ls[j]? = some (i, .ref x)) (kk : Sim X y cc nL ret F Lo n0 s0 pc' ls (.ref x :: st) u o k) : Sim X y cc nL ret F Lo n0 s0 pc ls (st) u o k := by
  subst hp
  exact sm_step (fun p e R s m args below meth c H locs lsA cells slots Q hF hfr hlo hce hsl hR hV hl hsz w => lv_aload hF.1 hF.2.1 hd (lv_at hl j hj) (w H locs lsA hR hV hl)) rfl kk
theorem s_istore_n {i : Fin 4} {x : Int32} (ls' : List (Nat × Value)) (hd : decode cc pc = .ok (.istore_n i, 1)) (hp : pc + 1 = pc') (hn : (i : Nat) < nL) (hl' : ((i : Nat), Value.int x) :: ls.filter (fun q => !(q.1 == (i : Nat)) && !(q.1 + 1 == (i : Nat) && q.2.category == 2)) = ls') (kk : Sim X y cc nL ret F Lo n0 s0 pc' ls' st u o k) : Sim X y cc nL ret F Lo n0 s0 pc ls (Value.int x :: st) u o k := by
  subst hp
  exact sm_step (fun p e R s m args below meth c H locs lsA cells slots Q hF hfr hlo hce hsl hR hV hl hsz w => lv_istore_n hF.1 hF.2.1 hd rfl hl hn hl' (fun ls1 h1 => w H locs ls1 hR hV h1)) rfl kk
theorem s_istore {i : Nat} {x : Int32} (ls' : List (Nat × Value)) (hd : decode cc pc = .ok (.istore i, 2)) (hp : pc + 2 = pc') (hn : i < nL) (hl' : (i, Value.int x) :: ls.filter (fun q => !(q.1 == i) && !(q.1 + 1 == i && q.2.category == 2)) = ls') (kk : Sim X y cc nL ret F Lo n0 s0 pc' ls' st u o k) : Sim X y cc nL ret F Lo n0 s0 pc ls (Value.int x :: st) u o k := by
  subst hp
  exact sm_step (fun p e R s m args below meth c H locs lsA cells slots Q hF hfr hlo hce hsl hR hV hl hsz w => lv_istore hF.1 hF.2.1 hd hl hn hl' (fun ls1 h1 => w H locs ls1 hR hV h1)) rfl kk
theorem s_astore_n {i : Fin 4} {x : Nat} (ls' : List (Nat × Value)) (hd : decode cc pc = .ok (.astore_n i, 1)) (hp : pc + 1 = pc') (hn : (i : Nat) < nL) (hl' : ((i : Nat), Value.ref x) :: ls.filter (fun q => !(q.1 == (i : Nat)) && !(q.1 + 1 == (i : Nat) && q.2.category == 2)) = ls') (kk : Sim X y cc nL ret F Lo n0 s0 pc' ls' st u o k) : Sim X y cc nL ret F Lo n0 s0 pc ls (Value.ref x :: st) u o k := by
  subst hp
  exact sm_step (fun p e R s m args below meth c H locs lsA cells slots Q hF hfr hlo hce hsl hR hV hl hsz w => lv_astore_n hF.1 hF.2.1 hd rfl hl hn hl' (fun ls1 h1 => w H locs ls1 hR hV h1)) rfl kk
theorem s_astore {i : Nat} {x : Nat} (ls' : List (Nat × Value)) (hd : decode cc pc = .ok (.astore i, 2)) (hp : pc + 2 = pc') (hn : i < nL) (hl' : (i, Value.ref x) :: ls.filter (fun q => !(q.1 == i) && !(q.1 + 1 == i && q.2.category == 2)) = ls') (kk : Sim X y cc nL ret F Lo n0 s0 pc' ls' st u o k) : Sim X y cc nL ret F Lo n0 s0 pc ls (Value.ref x :: st) u o k := by
  subst hp
  exact sm_step (fun p e R s m args below meth c H locs lsA cells slots Q hF hfr hlo hce hsl hR hV hl hsz w => lv_astore hF.1 hF.2.1 hd hl hn hl' (fun ls1 h1 => w H locs ls1 hR hV h1)) rfl kk
theorem s_lstore_n {i : Fin 4} {x : Int64} (ls' : List (Nat × Value)) (hd : decode cc pc = .ok (.lstore_n i, 1)) (hp : pc + 1 = pc') (hn : (i : Nat) + 1 < nL) (hl' : ((i : Nat), Value.long x) :: ls.filter (fun q => !(q.1 == (i : Nat)) && (!(q.1 == (i : Nat) + 1) && !(q.1 + 1 == (i : Nat) && q.2.category == 2))) = ls') (kk : Sim X y cc nL ret F Lo n0 s0 pc' ls' st u o k) : Sim X y cc nL ret F Lo n0 s0 pc ls (Value.long x :: st) u o k := by
  subst hp
  exact sm_step (fun p e R s m args below meth c H locs lsA cells slots Q hF hfr hlo hce hsl hR hV hl hsz w => lv_lstore_n hF.1 hF.2.1 hd rfl hl hn hl' (fun ls1 h1 => w H locs ls1 hR hV h1)) rfl kk
theorem s_lstore {i : Nat} {x : Int64} (ls' : List (Nat × Value)) (hd : decode cc pc = .ok (.lstore i, 2)) (hp : pc + 2 = pc') (hn : i + 1 < nL) (hl' : (i, Value.long x) :: ls.filter (fun q => !(q.1 == i) && (!(q.1 == i + 1) && !(q.1 + 1 == i && q.2.category == 2))) = ls') (kk : Sim X y cc nL ret F Lo n0 s0 pc' ls' st u o k) : Sim X y cc nL ret F Lo n0 s0 pc ls (Value.long x :: st) u o k := by
  subst hp
  exact sm_step (fun p e R s m args below meth c H locs lsA cells slots Q hF hfr hlo hce hsl hR hV hl hsz w => lv_lstore hF.1 hF.2.1 hd hl hn hl' (fun ls1 h1 => w H locs ls1 hR hV h1)) rfl kk
theorem s_iinc (j : Nat) {i : Nat} {n : Int} {x v : Int32} (ls' : List (Nat × Value)) (hd : decode cc pc = .ok (.iinc i n, 3)) (hp : pc + 3 = pc') (hj : ls[j]? = some (i, .int x)) (hv : x + Int32.ofInt n = v) (hn : i < nL) (hl' : (i, Value.int v) :: ls.filter (fun q => !(q.1 == i) && !(q.1 + 1 == i && q.2.category == 2)) = ls') (kk : Sim X y cc nL ret F Lo n0 s0 pc' ls' st u o k) : Sim X y cc nL ret F Lo n0 s0 pc ls st u o k := by
  subst hp
  exact sm_step (fun p e R s m args below meth c H locs lsA cells slots Q hF hfr hlo hce hsl hR hV hl hsz w => lv_iinc hF.1 hF.2.1 hd hl hj hv hn hl' (fun ls1 h1 => w H locs ls1 hR hV h1)) rfl kk
theorem s_iadd {x z : Int32} (hd : decode cc pc = .ok (.iadd, 1)) (hp : pc + 1 = pc') (kk : Sim X y cc nL ret F Lo n0 s0 pc' ls (.int (x + z) :: st) u o k) : Sim X y cc nL ret F Lo n0 s0 pc ls (.int z :: .int x :: st) u o k := by
  subst hp
  exact sm_step (fun p e R s m args below meth c H locs lsA cells slots Q hF hfr hlo hce hsl hR hV hl hsz w => lv_iadd hF.1 hF.2.1 hd (w H locs lsA hR hV hl)) rfl kk
theorem s_isub {x z : Int32} (hd : decode cc pc = .ok (.isub, 1)) (hp : pc + 1 = pc') (kk : Sim X y cc nL ret F Lo n0 s0 pc' ls (.int (x - z) :: st) u o k) : Sim X y cc nL ret F Lo n0 s0 pc ls (.int z :: .int x :: st) u o k := by
  subst hp
  exact sm_step (fun p e R s m args below meth c H locs lsA cells slots Q hF hfr hlo hce hsl hR hV hl hsz w => lv_isub hF.1 hF.2.1 hd (w H locs lsA hR hV hl)) rfl kk
theorem s_imul {x z : Int32} (hd : decode cc pc = .ok (.imul, 1)) (hp : pc + 1 = pc') (kk : Sim X y cc nL ret F Lo n0 s0 pc' ls (.int (x * z) :: st) u o k) : Sim X y cc nL ret F Lo n0 s0 pc ls (.int z :: .int x :: st) u o k := by
  subst hp
  exact sm_step (fun p e R s m args below meth c H locs lsA cells slots Q hF hfr hlo hce hsl hR hV hl hsz w => lv_imul hF.1 hF.2.1 hd (w H locs lsA hR hV hl)) rfl kk
theorem s_iand {x z : Int32} (hd : decode cc pc = .ok (.iand, 1)) (hp : pc + 1 = pc') (kk : Sim X y cc nL ret F Lo n0 s0 pc' ls (.int (x &&& z) :: st) u o k) : Sim X y cc nL ret F Lo n0 s0 pc ls (.int z :: .int x :: st) u o k := by
  subst hp
  exact sm_step (fun p e R s m args below meth c H locs lsA cells slots Q hF hfr hlo hce hsl hR hV hl hsz w => lv_iand hF.1 hF.2.1 hd (w H locs lsA hR hV hl)) rfl kk
theorem s_ior {x z : Int32} (hd : decode cc pc = .ok (.ior, 1)) (hp : pc + 1 = pc') (kk : Sim X y cc nL ret F Lo n0 s0 pc' ls (.int (x ||| z) :: st) u o k) : Sim X y cc nL ret F Lo n0 s0 pc ls (.int z :: .int x :: st) u o k := by
  subst hp
  exact sm_step (fun p e R s m args below meth c H locs lsA cells slots Q hF hfr hlo hce hsl hR hV hl hsz w => lv_ior hF.1 hF.2.1 hd (w H locs lsA hR hV hl)) rfl kk
theorem s_ixor {x z : Int32} (hd : decode cc pc = .ok (.ixor, 1)) (hp : pc + 1 = pc') (kk : Sim X y cc nL ret F Lo n0 s0 pc' ls (.int (x ^^^ z) :: st) u o k) : Sim X y cc nL ret F Lo n0 s0 pc ls (.int z :: .int x :: st) u o k := by
  subst hp
  exact sm_step (fun p e R s m args below meth c H locs lsA cells slots Q hF hfr hlo hce hsl hR hV hl hsz w => lv_ixor hF.1 hF.2.1 hd (w H locs lsA hR hV hl)) rfl kk
theorem s_ishl {x z : Int32} (hd : decode cc pc = .ok (.ishl, 1)) (hp : pc + 1 = pc') (kk : Sim X y cc nL ret F Lo n0 s0 pc' ls (.int (x <<< (z &&& 31)) :: st) u o k) : Sim X y cc nL ret F Lo n0 s0 pc ls (.int z :: .int x :: st) u o k := by
  subst hp
  exact sm_step (fun p e R s m args below meth c H locs lsA cells slots Q hF hfr hlo hce hsl hR hV hl hsz w => lv_ishl hF.1 hF.2.1 hd (w H locs lsA hR hV hl)) rfl kk
theorem s_ishr {x z : Int32} (hd : decode cc pc = .ok (.ishr, 1)) (hp : pc + 1 = pc') (kk : Sim X y cc nL ret F Lo n0 s0 pc' ls (.int (x >>> (z &&& 31)) :: st) u o k) : Sim X y cc nL ret F Lo n0 s0 pc ls (.int z :: .int x :: st) u o k := by
  subst hp
  exact sm_step (fun p e R s m args below meth c H locs lsA cells slots Q hF hfr hlo hce hsl hR hV hl hsz w => lv_ishr hF.1 hF.2.1 hd (w H locs lsA hR hV hl)) rfl kk
theorem s_iushr {x z : Int32} (hd : decode cc pc = .ok (.iushr, 1)) (hp : pc + 1 = pc') (kk : Sim X y cc nL ret F Lo n0 s0 pc' ls (.int ((x.toUInt32 >>> (z.toUInt32 &&& Int32.toUInt32 31)).toInt32) :: st) u o k) : Sim X y cc nL ret F Lo n0 s0 pc ls (.int z :: .int x :: st) u o k := by
  subst hp
  exact sm_step (fun p e R s m args below meth c H locs lsA cells slots Q hF hfr hlo hce hsl hR hV hl hsz w => lv_iushr hF.1 hF.2.1 hd rfl (w H locs lsA hR hV hl)) rfl kk
theorem s_idiv {x z : Int32} (hd : decode cc pc = .ok (.idiv, 1)) (hp : pc + 1 = pc') (hz : ¬ z = 0) (kk : Sim X y cc nL ret F Lo n0 s0 pc' ls (.int (x / z) :: st) u o k) : Sim X y cc nL ret F Lo n0 s0 pc ls (.int z :: .int x :: st) u o k := by
  subst hp
  exact sm_step (fun p e R s m args below meth c H locs lsA cells slots Q hF hfr hlo hce hsl hR hV hl hsz w => lv_idiv hF.1 hF.2.1 hd hz (w H locs lsA hR hV hl)) rfl kk
theorem s_irem {x z : Int32} (hd : decode cc pc = .ok (.irem, 1)) (hp : pc + 1 = pc') (hz : ¬ z = 0) (kk : Sim X y cc nL ret F Lo n0 s0 pc' ls (.int (x - x / z * z) :: st) u o k) : Sim X y cc nL ret F Lo n0 s0 pc ls (.int z :: .int x :: st) u o k := by
  subst hp
  exact sm_step (fun p e R s m args below meth c H locs lsA cells slots Q hF hfr hlo hce hsl hR hV hl hsz w => lv_irem hF.1 hF.2.1 hd hz (w H locs lsA hR hV hl)) rfl kk
theorem s_ldiv {x z : Int64} (hd : decode cc pc = .ok (.ldiv, 1)) (hp : pc + 1 = pc') (hz : ¬ z = 0) (kk : Sim X y cc nL ret F Lo n0 s0 pc' ls (.long (x / z) :: st) u o k) : Sim X y cc nL ret F Lo n0 s0 pc ls (.long z :: .long x :: st) u o k := by
  subst hp
  exact sm_step (fun p e R s m args below meth c H locs lsA cells slots Q hF hfr hlo hce hsl hR hV hl hsz w => lv_ldiv hF.1 hF.2.1 hd hz (w H locs lsA hR hV hl)) rfl kk
theorem s_ineg {x : Int32} (hd : decode cc pc = .ok (.ineg, 1)) (hp : pc + 1 = pc') (kk : Sim X y cc nL ret F Lo n0 s0 pc' ls (.int (-x) :: st) u o k) : Sim X y cc nL ret F Lo n0 s0 pc ls (.int x :: st) u o k := by
  subst hp
  exact sm_step (fun p e R s m args below meth c H locs lsA cells slots Q hF hfr hlo hce hsl hR hV hl hsz w => lv_ineg hF.1 hF.2.1 hd (w H locs lsA hR hV hl)) rfl kk
theorem s_ladd {x z : Int64} (hd : decode cc pc = .ok (.ladd, 1)) (hp : pc + 1 = pc') (kk : Sim X y cc nL ret F Lo n0 s0 pc' ls (.long (x + z) :: st) u o k) : Sim X y cc nL ret F Lo n0 s0 pc ls (.long z :: .long x :: st) u o k := by
  subst hp
  exact sm_step (fun p e R s m args below meth c H locs lsA cells slots Q hF hfr hlo hce hsl hR hV hl hsz w => lv_ladd hF.1 hF.2.1 hd (w H locs lsA hR hV hl)) rfl kk
theorem s_lsub {x z : Int64} (hd : decode cc pc = .ok (.lsub, 1)) (hp : pc + 1 = pc') (kk : Sim X y cc nL ret F Lo n0 s0 pc' ls (.long (x - z) :: st) u o k) : Sim X y cc nL ret F Lo n0 s0 pc ls (.long z :: .long x :: st) u o k := by
  subst hp
  exact sm_step (fun p e R s m args below meth c H locs lsA cells slots Q hF hfr hlo hce hsl hR hV hl hsz w => lv_lsub hF.1 hF.2.1 hd (w H locs lsA hR hV hl)) rfl kk
theorem s_lmul {x z : Int64} (hd : decode cc pc = .ok (.lmul, 1)) (hp : pc + 1 = pc') (kk : Sim X y cc nL ret F Lo n0 s0 pc' ls (.long (x * z) :: st) u o k) : Sim X y cc nL ret F Lo n0 s0 pc ls (.long z :: .long x :: st) u o k := by
  subst hp
  exact sm_step (fun p e R s m args below meth c H locs lsA cells slots Q hF hfr hlo hce hsl hR hV hl hsz w => lv_lmul hF.1 hF.2.1 hd (w H locs lsA hR hV hl)) rfl kk
theorem s_lor {x z : Int64} (hd : decode cc pc = .ok (.lor, 1)) (hp : pc + 1 = pc') (kk : Sim X y cc nL ret F Lo n0 s0 pc' ls (.long (x ||| z) :: st) u o k) : Sim X y cc nL ret F Lo n0 s0 pc ls (.long z :: .long x :: st) u o k := by
  subst hp
  exact sm_step (fun p e R s m args below meth c H locs lsA cells slots Q hF hfr hlo hce hsl hR hV hl hsz w => lv_lor hF.1 hF.2.1 hd (w H locs lsA hR hV hl)) rfl kk
theorem s_land {x z : Int64} (hd : decode cc pc = .ok (.land, 1)) (hp : pc + 1 = pc') (kk : Sim X y cc nL ret F Lo n0 s0 pc' ls (.long (x &&& z) :: st) u o k) : Sim X y cc nL ret F Lo n0 s0 pc ls (.long z :: .long x :: st) u o k := by
  subst hp
  exact sm_step (fun p e R s m args below meth c H locs lsA cells slots Q hF hfr hlo hce hsl hR hV hl hsz w => lv_land hF.1 hF.2.1 hd (w H locs lsA hR hV hl)) rfl kk
theorem s_lshl {x : Int64} {z : Int32} (hd : decode cc pc = .ok (.lshl, 1)) (hp : pc + 1 = pc') (kk : Sim X y cc nL ret F Lo n0 s0 pc' ls (.long (x <<< (z.toInt64 &&& 63)) :: st) u o k) : Sim X y cc nL ret F Lo n0 s0 pc ls (.int z :: .long x :: st) u o k := by
  subst hp
  exact sm_step (fun p e R s m args below meth c H locs lsA cells slots Q hF hfr hlo hce hsl hR hV hl hsz w => lv_lshl hF.1 hF.2.1 hd rfl (w H locs lsA hR hV hl)) rfl kk
theorem s_lcmp {x z : Int64} (hd : decode cc pc = .ok (.lcmp, 1)) (hp : pc + 1 = pc') (kk : Sim X y cc nL ret F Lo n0 s0 pc' ls (.int (lg_cmp x z) :: st) u o k) : Sim X y cc nL ret F Lo n0 s0 pc ls (.long z :: .long x :: st) u o k := by
  subst hp
  exact sm_step (fun p e R s m args below meth c H locs lsA cells slots Q hF hfr hlo hce hsl hR hV hl hsz w => W.lcmp hF.1 hF.2.1 hd (w H locs lsA hR hV hl)) rfl kk
theorem s_i2l {x : Int32} (hd : decode cc pc = .ok (.i2l, 1)) (hp : pc + 1 = pc') (kk : Sim X y cc nL ret F Lo n0 s0 pc' ls (.long x.toInt64 :: st) u o k) : Sim X y cc nL ret F Lo n0 s0 pc ls (.int x :: st) u o k := by
  subst hp
  exact sm_step (fun p e R s m args below meth c H locs lsA cells slots Q hF hfr hlo hce hsl hR hV hl hsz w => lv_i2l hF.1 hF.2.1 hd rfl (w H locs lsA hR hV hl)) rfl kk
theorem s_l2i {x : Int64} (hd : decode cc pc = .ok (.l2i, 1)) (hp : pc + 1 = pc') (kk : Sim X y cc nL ret F Lo n0 s0 pc' ls (.int x.toInt32 :: st) u o k) : Sim X y cc nL ret F Lo n0 s0 pc ls (.long x :: st) u o k := by
  subst hp
  exact sm_step (fun p e R s m args below meth c H locs lsA cells slots Q hF hfr hlo hce hsl hR hV hl hsz w => lv_l2i hF.1 hF.2.1 hd rfl (w H locs lsA hR hV hl)) rfl kk
theorem s_i2b {x : Int32} (hd : decode cc pc = .ok (.i2b, 1)) (hp : pc + 1 = pc') (kk : Sim X y cc nL ret F Lo n0 s0 pc' ls (.int x.toInt8.toInt32 :: st) u o k) : Sim X y cc nL ret F Lo n0 s0 pc ls (.int x :: st) u o k := by
  subst hp
  exact sm_step (fun p e R s m args below meth c H locs lsA cells slots Q hF hfr hlo hce hsl hR hV hl hsz w => lv_i2b hF.1 hF.2.1 hd rfl (w H locs lsA hR hV hl)) rfl kk
theorem s_dup {v : Value} (hd : decode cc pc = .ok (.dup, 1)) (hp : pc + 1 = pc') (hv : v.category = 1) (kk : Sim X y cc nL ret F Lo n0 s0 pc' ls (v :: v :: st) u o k) : Sim X y cc nL ret F Lo n0 s0 pc ls (v :: st) u o k := by
  subst hp
  exact sm_step (fun p e R s m args below meth c H locs lsA cells slots Q hF hfr hlo hce hsl hR hV hl hsz w => lv_dup hF.1 hF.2.1 hd hv (w H locs lsA hR hV hl)) rfl kk
theorem s_dup2 {v w : Value} (hd : decode cc pc = .ok (.dup2, 1)) (hp : pc + 1 = pc') (hv : v.category = 1) (hw : w.category = 1) (kk : Sim X y cc nL ret F Lo n0 s0 pc' ls (v :: w :: v :: w :: st) u o k) : Sim X y cc nL ret F Lo n0 s0 pc ls (v :: w :: st) u o k := by
  subst hp
  exact sm_step (fun p e R s m args below meth c H locs lsA cells slots Q hF hfr hlo hce hsl hR hV hl hsz ww => lv_dup2_11 hF.1 hF.2.1 hd hv hw (ww H locs lsA hR hV hl)) rfl kk
theorem s_pop {v : Value} (hd : decode cc pc = .ok (.pop, 1)) (hp : pc + 1 = pc') (hv : v.category = 1) (kk : Sim X y cc nL ret F Lo n0 s0 pc' ls (st) u o k) : Sim X y cc nL ret F Lo n0 s0 pc ls (v :: st) u o k := by
  subst hp
  exact sm_step (fun p e R s m args below meth c H locs lsA cells slots Q hF hfr hlo hce hsl hR hV hl hsz w => lv_pop hF.1 hF.2.1 hd hv (w H locs lsA hR hV hl)) rfl kk
theorem s_goto {off : Int} (hd : decode cc pc = .ok (.goto off, 3)) (ht : (pc : Int) + off = (tgt : Int)) (kk : Sim X y cc nL ret F Lo n0 s0 tgt ls st u o k) : Sim X y cc nL ret F Lo n0 s0 pc ls st u o k :=
  sm_step (fun p e R s m args below meth c H locs lsA cells slots Q hF hfr hlo hce hsl hR hV hl hsz w => lv_goto hF.1 hF.2.1 hd ht (w H locs lsA hR hV hl)) rfl kk
theorem s_icmp_eq {x z : Int32} {off : Int} (hd : decode cc pc = .ok (.if_icmp .eq off, 3)) (ht : (pc : Int) + off = (tgt : Int)) (hp : pc + 3 = pc') (kt : x = z → Sim X y cc nL ret F Lo n0 s0 tgt ls st u o1 k) (kf : ¬ x = z → Sim X y cc nL ret F Lo n0 s0 pc' ls st u o2 k) : Sim X y cc nL ret F Lo n0 s0 pc ls (.int z :: .int x :: st) u (if x = z then o1 else o2) k := by
  subst hp
  exact sm_ite (fun hc => sm_step (fun p e R s m args below meth c H locs lsA cells slots Q hF hfr hlo hce hsl hR hV hl hsz w => lv_icmp_eq hF.1 hF.2.1 hd ht (fun _ => (w H locs lsA hR hV hl)) (fun h => absurd hc h)) rfl (kt hc)) (fun hc => sm_step (fun p e R s m args below meth c H locs lsA cells slots Q hF hfr hlo hce hsl hR hV hl hsz w => lv_icmp_eq hF.1 hF.2.1 hd ht (fun h => absurd h hc) (fun _ => (w H locs lsA hR hV hl))) rfl (kf hc))
theorem s_icmp_ne {x z : Int32} {off : Int} (hd : decode cc pc = .ok (.if_icmp .ne off, 3)) (ht : (pc : Int) + off = (tgt : Int)) (hp : pc + 3 = pc') (kt : ¬ x = z → Sim X y cc nL ret F Lo n0 s0 tgt ls st u o2 k) (kf : x = z → Sim X y cc nL ret F Lo n0 s0 pc' ls st u o1 k) : Sim X y cc nL ret F Lo n0 s0 pc ls (.int z :: .int x :: st) u (if x = z then o1 else o2) k := by
  subst hp
  exact sm_ite (fun hc => sm_step (fun p e R s m args below meth c H locs lsA cells slots Q hF hfr hlo hce hsl hR hV hl hsz w => lv_icmp_ne hF.1 hF.2.1 hd ht (fun h => absurd h (fun q => q hc)) (fun _ => (w H locs lsA hR hV hl))) rfl (kf hc)) (fun hc => sm_step (fun p e R s m args below meth c H locs lsA cells slots Q hF hfr hlo hce hsl hR hV hl hsz w => lv_icmp_ne hF.1 hF.2.1 hd ht (fun _ => (w H locs lsA hR hV hl)) (fun h => absurd h hc)) rfl (kt hc))
theorem s_icmp_lt {x z : Int32} {off : Int} (hd : decode cc pc = .ok (.if_icmp .lt off, 3)) (ht : (pc : Int) + off = (tgt : Int)) (hp : pc + 3 = pc') (kt : x < z → Sim X y cc nL ret F Lo n0 s0 tgt ls st u o1 k) (kf : ¬ x < z → Sim X y cc nL ret F Lo n0 s0 pc' ls st u o2 k) : Sim X y cc nL ret F Lo n0 s0 pc ls (.int z :: .int x :: st) u (if x < z then o1 else o2) k := by
  subst hp
  exact sm_ite (fun hc => sm_step (fun p e R s m args below meth c H locs lsA cells slots Q hF hfr hlo hce hsl hR hV hl hsz w => lv_icmp_lt hF.1 hF.2.1 hd ht (fun _ => (w H locs lsA hR hV hl)) (fun h => absurd hc h)) rfl (kt hc)) (fun hc => sm_step (fun p e R s m args below meth c H locs lsA cells slots Q hF hfr hlo hce hsl hR hV hl hsz w => lv_icmp_lt hF.1 hF.2.1 hd ht (fun h => absurd h hc) (fun _ => (w H locs lsA hR hV hl))) rfl (kf hc))
theorem s_icmp_ge {x z : Int32} {off : Int} (hd : decode cc pc = .ok (.if_icmp .ge off, 3)) (ht : (pc : Int) + off = (tgt : Int)) (hp : pc + 3 = pc') (kt : ¬ x < z → Sim X y cc nL ret F Lo n0 s0 tgt ls st u o2 k) (kf : x < z → Sim X y cc nL ret F Lo n0 s0 pc' ls st u o1 k) : Sim X y cc nL ret F Lo n0 s0 pc ls (.int z :: .int x :: st) u (if x < z then o1 else o2) k := by
  subst hp
  exact sm_ite (fun hc => sm_step (fun p e R s m args below meth c H locs lsA cells slots Q hF hfr hlo hce hsl hR hV hl hsz w => lv_icmp_ge hF.1 hF.2.1 hd ht (fun h => absurd h (Int32.not_le.mpr hc)) (fun _ => (w H locs lsA hR hV hl))) rfl (kf hc)) (fun hc => sm_step (fun p e R s m args below meth c H locs lsA cells slots Q hF hfr hlo hce hsl hR hV hl hsz w => lv_icmp_ge hF.1 hF.2.1 hd ht (fun _ => (w H locs lsA hR hV hl)) (fun h => absurd (Int32.not_lt.mp hc) h)) rfl (kt hc))
theorem s_icmp_gt {x z : Int32} {off : Int} (hd : decode cc pc = .ok (.if_icmp .gt off, 3)) (ht : (pc : Int) + off = (tgt : Int)) (hp : pc + 3 = pc') (kt : z < x → Sim X y cc nL ret F Lo n0 s0 tgt ls st u o1 k) (kf : ¬ z < x → Sim X y cc nL ret F Lo n0 s0 pc' ls st u o2 k) : Sim X y cc nL ret F Lo n0 s0 pc ls (.int z :: .int x :: st) u (if z < x then o1 else o2) k := by
  subst hp
  exact sm_ite (fun hc => sm_step (fun p e R s m args below meth c H locs lsA cells slots Q hF hfr hlo hce hsl hR hV hl hsz w => lv_icmp_gt hF.1 hF.2.1 hd ht (fun _ => (w H locs lsA hR hV hl)) (fun h => absurd hc h)) rfl (kt hc)) (fun hc => sm_step (fun p e R s m args below meth c H locs lsA cells slots Q hF hfr hlo hce hsl hR hV hl hsz w => lv_icmp_gt hF.1 hF.2.1 hd ht (fun h => absurd h hc) (fun _ => (w H locs lsA hR hV hl))) rfl (kf hc))
theorem s_icmp_le {x z : Int32} {off : Int} (hd : decode cc pc = .ok (.if_icmp .le off, 3)) (ht : (pc : Int) + off = (tgt : Int)) (hp : pc + 3 = pc') (kt : ¬ z < x → Sim X y cc nL ret F Lo n0 s0 tgt ls st u o2 k) (kf : z < x → Sim X y cc nL ret F Lo n0 s0 pc' ls st u o1 k) : Sim X y cc nL ret F Lo n0 s0 pc ls (.int z :: .int x :: st) u (if z < x then o1 else o2) k := by
  subst hp
  exact sm_ite (fun hc => sm_step (fun p e R s m args below meth c H locs lsA cells slots Q hF hfr hlo hce hsl hR hV hl hsz w => lv_icmp_le hF.1 hF.2.1 hd ht (fun h => absurd h (Int32.not_le.mpr hc)) (fun _ => (w H locs lsA hR hV hl))) rfl (kf hc)) (fun hc => sm_step (fun p e R s m args below meth c H locs lsA cells slots Q hF hfr hlo hce hsl hR hV hl hsz w => lv_icmp_le hF.1 hF.2.1 hd ht (fun _ => (w H locs lsA hR hV hl)) (fun h => absurd (Int32.not_lt.mp hc) h)) rfl (kt hc))
theorem s_if_eq {x : Int32} {off : Int} (hd : decode cc pc = .ok (.ifCond .eq off, 3)) (ht : (pc : Int) + off = (tgt : Int)) (hp : pc + 3 = pc') (kt : x = 0 → Sim X y cc nL ret F Lo n0 s0 tgt ls st u o1 k) (kf : ¬ x = 0 → Sim X y cc nL ret F Lo n0 s0 pc' ls st u o2 k) : Sim X y cc nL ret F Lo n0 s0 pc ls (.int x :: st) u (if x = 0 then o1 else o2) k := by
  subst hp
  exact sm_ite (fun hc => sm_step (fun p e R s m args below meth c H locs lsA cells slots Q hF hfr hlo hce hsl hR hV hl hsz w => lv_if_eq hF.1 hF.2.1 hd ht (fun _ => (w H locs lsA hR hV hl)) (fun h => absurd hc h)) rfl (kt hc)) (fun hc => sm_step (fun p e R s m args below meth c H locs lsA cells slots Q hF hfr hlo hce hsl hR hV hl hsz w => lv_if_eq hF.1 hF.2.1 hd ht (fun h => absurd h hc) (fun _ => (w H locs lsA hR hV hl))) rfl (kf hc))
theorem s_if_ne {x : Int32} {off : Int} (hd : decode cc pc = .ok (.ifCond .ne off, 3)) (ht : (pc : Int) + off = (tgt : Int)) (hp : pc + 3 = pc') (kt : ¬ x = 0 → Sim X y cc nL ret F Lo n0 s0 tgt ls st u o2 k) (kf : x = 0 → Sim X y cc nL ret F Lo n0 s0 pc' ls st u o1 k) : Sim X y cc nL ret F Lo n0 s0 pc ls (.int x :: st) u (if x = 0 then o1 else o2) k := by
  subst hp
  exact sm_ite (fun hc => sm_step (fun p e R s m args below meth c H locs lsA cells slots Q hF hfr hlo hce hsl hR hV hl hsz w => lv_if_ne hF.1 hF.2.1 hd ht (fun h => absurd h (fun q => q hc)) (fun _ => (w H locs lsA hR hV hl))) rfl (kf hc)) (fun hc => sm_step (fun p e R s m args below meth c H locs lsA cells slots Q hF hfr hlo hce hsl hR hV hl hsz w => lv_if_ne hF.1 hF.2.1 hd ht (fun _ => (w H locs lsA hR hV hl)) (fun h => absurd h hc)) rfl (kt hc))
theorem s_if_lt {x : Int32} {off : Int} (hd : decode cc pc = .ok (.ifCond .lt off, 3)) (ht : (pc : Int) + off = (tgt : Int)) (hp : pc + 3 = pc') (kt : x < 0 → Sim X y cc nL ret F Lo n0 s0 tgt ls st u o1 k) (kf : ¬ x < 0 → Sim X y cc nL ret F Lo n0 s0 pc' ls st u o2 k) : Sim X y cc nL ret F Lo n0 s0 pc ls (.int x :: st) u (if x < 0 then o1 else o2) k := by
  subst hp
  exact sm_ite (fun hc => sm_step (fun p e R s m args below meth c H locs lsA cells slots Q hF hfr hlo hce hsl hR hV hl hsz w => lv_if_lt hF.1 hF.2.1 hd ht (fun _ => (w H locs lsA hR hV hl)) (fun h => absurd hc h)) rfl (kt hc)) (fun hc => sm_step (fun p e R s m args below meth c H locs lsA cells slots Q hF hfr hlo hce hsl hR hV hl hsz w => lv_if_lt hF.1 hF.2.1 hd ht (fun h => absurd h hc) (fun _ => (w H locs lsA hR hV hl))) rfl (kf hc))
theorem s_if_ge {x : Int32} {off : Int} (hd : decode cc pc = .ok (.ifCond .ge off, 3)) (ht : (pc : Int) + off = (tgt : Int)) (hp : pc + 3 = pc') (kt : ¬ x < 0 → Sim X y cc nL ret F Lo n0 s0 tgt ls st u o2 k) (kf : x < 0 → Sim X y cc nL ret F Lo n0 s0 pc' ls st u o1 k) : Sim X y cc nL ret F Lo n0 s0 pc ls (.int x :: st) u (if x < 0 then o1 else o2) k := by
  subst hp
  exact sm_ite (fun hc => sm_step (fun p e R s m args below meth c H locs lsA cells slots Q hF hfr hlo hce hsl hR hV hl hsz w => lv_if_ge hF.1 hF.2.1 hd ht (fun h => absurd h (Int32.not_le.mpr hc)) (fun _ => (w H locs lsA hR hV hl))) rfl (kf hc)) (fun hc => sm_step (fun p e R s m args below meth c H locs lsA cells slots Q hF hfr hlo hce hsl hR hV hl hsz w => lv_if_ge hF.1 hF.2.1 hd ht (fun _ => (w H locs lsA hR hV hl)) (fun h => absurd (Int32.not_lt.mp hc) h)) rfl (kt hc))
theorem s_if_gt {x : Int32} {off : Int} (hd : decode cc pc = .ok (.ifCond .gt off, 3)) (ht : (pc : Int) + off = (tgt : Int)) (hp : pc + 3 = pc') (kt : 0 < x → Sim X y cc nL ret F Lo n0 s0 tgt ls st u o1 k) (kf : ¬ 0 < x → Sim X y cc nL ret F Lo n0 s0 pc' ls st u o2 k) : Sim X y cc nL ret F Lo n0 s0 pc ls (.int x :: st) u (if 0 < x then o1 else o2) k := by
  subst hp
  exact sm_ite (fun hc => sm_step (fun p e R s m args below meth c H locs lsA cells slots Q hF hfr hlo hce hsl hR hV hl hsz w => lv_if_gt hF.1 hF.2.1 hd ht (fun _ => (w H locs lsA hR hV hl)) (fun h => absurd hc h)) rfl (kt hc)) (fun hc => sm_step (fun p e R s m args below meth c H locs lsA cells slots Q hF hfr hlo hce hsl hR hV hl hsz w => lv_if_gt hF.1 hF.2.1 hd ht (fun h => absurd h hc) (fun _ => (w H locs lsA hR hV hl))) rfl (kf hc))
theorem s_if_le {x : Int32} {off : Int} (hd : decode cc pc = .ok (.ifCond .le off, 3)) (ht : (pc : Int) + off = (tgt : Int)) (hp : pc + 3 = pc') (kt : ¬ 0 < x → Sim X y cc nL ret F Lo n0 s0 tgt ls st u o2 k) (kf : 0 < x → Sim X y cc nL ret F Lo n0 s0 pc' ls st u o1 k) : Sim X y cc nL ret F Lo n0 s0 pc ls (.int x :: st) u (if 0 < x then o1 else o2) k := by
  subst hp
  exact sm_ite (fun hc => sm_step (fun p e R s m args below meth c H locs lsA cells slots Q hF hfr hlo hce hsl hR hV hl hsz w => lv_if_le hF.1 hF.2.1 hd ht (fun h => absurd h (Int32.not_le.mpr hc)) (fun _ => (w H locs lsA hR hV hl))) rfl (kf hc)) (fun hc => sm_step (fun p e R s m args below meth c H locs lsA cells slots Q hF hfr hlo hce hsl hR hV hl hsz w => lv_if_le hF.1 hF.2.1 hd ht (fun _ => (w H locs lsA hR hV hl)) (fun h => absurd (Int32.not_lt.mp hc) h)) rfl (kt hc))
theorem s_tin {dflt lo hi : Int} {offs : Array Int} {len : Nat} {x : Int32} {off : Int} (hd : decode cc pc = .ok (.tableswitch dflt lo hi offs, len)) (h1 : ¬ x.toInt < lo) (h2 : ¬ hi < x.toInt) (ho : offs[(x.toInt - lo).toNat]? = some off) (ht : (pc : Int) + off = (tgt : Int)) (kk : Sim X y cc nL ret F Lo n0 s0 tgt ls st u o k) : Sim X y cc nL ret F Lo n0 s0 pc ls (.int x :: st) u o k :=
  sm_step (fun p e R s m args below meth c H locs lsA cells slots Q hF hfr hlo hce hsl hR hV hl hsz w => lv_tableIn hF.1 hF.2.1 hd h1 h2 ho ht (w H locs lsA hR hV hl)) rfl kk
theorem s_tout {dflt lo hi : Int} {offs : Array Int} {len : Nat} {x : Int32} (hd : decode cc pc = .ok (.tableswitch dflt lo hi offs, len)) (h : x.toInt < lo ∨ hi < x.toInt) (ht : (pc : Int) + dflt = (tgt : Int)) (kk : Sim X y cc nL ret F Lo n0 s0 tgt ls st u o k) : Sim X y cc nL ret F Lo n0 s0 pc ls (.int x :: st) u o k :=
  sm_step (fun p e R s m args below meth c H locs lsA cells slots Q hF hfr hlo hce hsl hR hV hl hsz w => lv_tableOut hF.1 hF.2.1 hd h ht (w H locs lsA hR hV hl)) rfl kk
theorem s_lookup {dflt : Int} {ps : Array (Int × Int)} {len : Nat} {x : Int32} {off : Int} (hd : decode cc pc = .ok (.lookupswitch dflt ps, len)) (hp : (ps.toList.zip (ps.toList.drop 1)).all (fun (a, next) => a.1 < next.1) = true) (ho : Op.lookupswitch.offset ps.toList dflt x.toInt = off) (ht : (pc : Int) + off = (tgt : Int)) (kk : Sim X y cc nL ret F Lo n0 s0 tgt ls st u o k) : Sim X y cc nL ret F Lo n0 s0 pc ls (.int x :: st) u o k :=
  sm_step (fun p e R s m args below meth c H locs lsA cells slots Q hF hfr hlo hce hsl hR hV hl hsz w => lv_lookup hF.1 hF.2.1 hd hp ho ht (w H locs lsA hR hV hl)) rfl kk
theorem s_pick (ks : List Nat) (hl' : lv_pick ls ks = ls') (kk : Sim X y cc nL ret F Lo n0 s0 pc ls' st u o k) : Sim X y cc nL ret F Lo n0 s0 pc ls st u o k :=
  sm_step (fun p e R s m args below meth c H locs lsA cells slots Q hF hfr hlo hce hsl hR hV hl hsz w => w H locs lsA hR hV (lv_sub hl ks hl')) rfl kk
end ROWS
