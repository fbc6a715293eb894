section SIZE
variable {p : Program} {l : Launch} {e : Env} {R : Room} {s : State} {m : MethodId} {args : Array Value} {below : List Frame} {meth : Method} {c : Code} {H : Heap} {locs : List Loc} {cells slots : Nat} {Q : State → Prop} {g : JFrame}
/-- no more cells are there than were counted -/
theorem tb_size (h : H.size ≤ s.heap.size + cells → W p l e R s m args below meth c H locs cells slots Q g) : W p l e R s m args below meth c H locs cells slots Q g :=
  fun T hT X => h (by rw [← hT]; exact X.same.2.2.1) T hT X
end SIZE
theorem tb_low {X : WX} {u : AS} {H : Heap} (hP : va_P X.2.2.1 vwCl (tb_ws X u) H) (h0 : X.1 ≤ H.size) : X.1 + u.2.2.2.length ≤ H.size := by
  obtain ⟨I, L, R, S⟩ := u
  show X.1 + S.length ≤ H.size
  rcases Nat.eq_zero_or_pos S.length with hS | hS
  · omega
  · obtain ⟨kn, hkn⟩ : ∃ kn, S[S.length - 1]? = some kn := ⟨S[S.length - 1], List.getElem?_eq_getElem (by omega)⟩
    have h1 := (hP (S.length - 1) _ (tb_ws_at (X := X) (I := I) (L := L) (R := R) hkn)).lt
    have h2 : X.1 + (S.length - 1) < H.size := h1
    omega
theorem HR.mk' {X : WX} {u : AS} {H : Heap} (hP : va_P X.2.2.1 vwCl (tb_ws X u) H) (h0 : X.1 ≤ H.size) (h1 : H.size ≤ X.1 + u.2.2.2.length) : HR X u H :=
  ⟨hP, Nat.le_antisymm h1 (tb_low hP h0)⟩
theorem tb_e_obj {X : WX} {I : MI} {L : ML} {R : MR} {a kd n : Nat} (h : kd < 12) : tb_e X I L R a (kd, n) = .inr (kd, tb_fs X.1 I L R a kd) := by simp [tb_e, h]
theorem tb_e_I {X : WX} {I : MI} {L : ML} {R : MR} {a kd n : Nat} (h : ¬ kd < 12) (h1 : ¬ kd = 14) (h2 : ¬ kd = 16) : tb_e X I L R a (kd, n) = .inl (X.2.2.2.1 kd, n, .inl (I a)) := by simp [tb_e, h, h1, h2]
theorem tb_e_L {X : WX} {I : MI} {L : ML} {R : MR} {a n : Nat} : tb_e X I L R a (14, n) = .inl (X.2.2.2.1 14, n, .inr (.inl (L a))) := by simp [tb_e]
theorem tb_e_R {X : WX} {I : MI} {L : ML} {R : MR} {a n : Nat} : tb_e X I L R a (16, n) = .inl (X.2.2.2.1 16, n, .inr (.inr (.inr (.inr (fun i => (R a i).map (fun q => X.1 + q)))))) := by simp [tb_e]
theorem tb_at_obj {X : WX} {I : MI} {L : ML} {R : MR} {S : MS} {a kd n : Nat} (h : S[a]? = some (kd, n)) (hk : kd < 12) : (tb_ws X (I, L, R, S))[a]? = some (X.1 + a, .inr (kd, tb_fs X.1 I L R a kd)) := by rw [tb_ws_at h, tb_e_obj hk]
theorem tb_at_I {X : WX} {I : MI} {L : ML} {R : MR} {S : MS} {a kd n : Nat} (h : S[a]? = some (kd, n)) (h0 : ¬ kd < 12) (h1 : ¬ kd = 14) (h2 : ¬ kd = 16) : (tb_ws X (I, L, R, S))[a]? = some (X.1 + a, .inl (X.2.2.2.1 kd, n, .inl (I a))) := by rw [tb_ws_at h, tb_e_I h0 h1 h2]
theorem tb_at_L {X : WX} {I : MI} {L : ML} {R : MR} {S : MS} {a n : Nat} (h : S[a]? = some (14, n)) : (tb_ws X (I, L, R, S))[a]? = some (X.1 + a, .inl (X.2.2.2.1 14, n, .inr (.inl (L a)))) := by rw [tb_ws_at h, tb_e_L]
theorem tb_at_R {X : WX} {I : MI} {L : ML} {R : MR} {S : MS} {a n : Nat} (h : S[a]? = some (16, n)) : (tb_ws X (I, L, R, S))[a]? = some (X.1 + a, .inl (X.2.2.2.1 16, n, .inr (.inr (.inr (.inr (fun i => (R a i).map (fun q => X.1 + q))))))) := by rw [tb_ws_at h, tb_e_R]
theorem HR.upd {X : WX} {I I' : MI} {L L' : ML} {R R' : MR} {S : MS} {a : Nat} {kn : Nat × Nat} {E : va_E} {H1 : Heap} (h : S[a]? = some kn) (h1 : ∀ b, b ≠ a → I' b = I b) (h2 : ∀ b, b ≠ a → L' b = L b) (h3 : ∀ b, b ≠ a → R' b = R b) (hE : tb_e X I' L' R' a kn = E) (hP : va_P X.2.2.1 vwCl ((tb_ws X (I, L, R, S)).set a (X.1 + a, E)) H1) (h0 : X.1 ≤ H1.size) (hz : H1.size ≤ X.1 + S.length) : HR X (I', L', R', S) H1 := by
  refine HR.mk' ?_ h0 hz
  rw [tb_ws_set h h1 h2 h3, hE]
  exact hP
section HEAP
variable {α : Type} {X : WX} {y : MethodName} {cc : ByteArray} {nL : Nat} {ret : Option FieldType} {F Lo n0 s0 pc pc' tgt : Nat} {ls ls' : List (Nat × Value)} {st : List Value} {I : MI} {L : ML} {R : MR} {S : MS} {u : AS} {o o1 o2 : Option α} {k : α → Option Value × AS → Prop}
theorem Fx.K {p : Program} {s : State} {m : MethodId} {args : Array Value} {meth : Method} {c : Code} (h : Fx X y cc nL ret p s m args meth c) : va_K X.2.2.1 vwCl (tb_tys X) s := h.2.2.2.2.2.2.2.2.1
theorem Fx.lo {p : Program} {s : State} {m : MethodId} {args : Array Value} {meth : Method} {c : Code} (h : Fx X y cc nL ret p s m args meth c) : X.1 ≤ s.heap.size := h.2.2.2.2.2.2.2.2.2.2.2.2.2.2.2
/-- a field of any type is read -/
theorem s_getV {a j kd n idx : Nat} {ft : FieldType} {fin : Bool} {v : Value} (hd : decode cc pc = .ok (.getfield idx, 3)) (hp : pc + 3 = pc') (fl : FL y.cls idx kd j ft fin) (hS : S[a]? = some (kd, n)) (hv : tb_fv X.1 I L R a (fcode ft) j = v) (kk : Sim X y cc nL ret F Lo n0 s0 pc' ls (v :: st) (I, L, R, S) o k) : Sim X y cc nL ret F Lo n0 s0 pc ls (.ref (X.1 + a) :: st) (I, L, R, S) o k := by
  subst hp
  subst hv
  obtain ⟨C, T, N, ty0, ⟨h1, h2, h3, h4, h5, h6, h7⟩, hj, rfl, hC, hw, hfin⟩ := fl
  exact sm_step (fun p e R' s m args below meth c H locs lsA cells slots Q hF hfr hlo hce hsl hR hV hl hsz w => va_get (own := y.cls) (ref := C) hF.1 hF.2.1 hF.2.2.2.2.2.1 h4 hF.2.2.2.2.1 hF.K hR.1 a (tb_at_obj hS h2) h1 j hj (hF.2.2.2.2.2.1 _ hw) (by rw [hC]; exact fun _ h => h) (tb_fs_at (h7 j hj)) hd (w H locs lsA hR hV hl)) rfl kk
theorem s_getI {a j kd n idx : Nat} {fin : Bool} (hd : decode cc pc = .ok (.getfield idx, 3)) (hp : pc + 3 = pc') (fl : FL y.cls idx kd j .int fin) (hS : S[a]? = some (kd, n)) (kk : Sim X y cc nL ret F Lo n0 s0 pc' ls (.int (I a j) :: st) (I, L, R, S) o k) : Sim X y cc nL ret F Lo n0 s0 pc ls (.ref (X.1 + a) :: st) (I, L, R, S) o k := s_getV hd hp fl hS rfl kk
theorem s_getZ {a j kd n idx : Nat} {fin : Bool} (hd : decode cc pc = .ok (.getfield idx, 3)) (hp : pc + 3 = pc') (fl : FL y.cls idx kd j .boolean fin) (hS : S[a]? = some (kd, n)) (kk : Sim X y cc nL ret F Lo n0 s0 pc' ls (.int (I a j) :: st) (I, L, R, S) o k) : Sim X y cc nL ret F Lo n0 s0 pc ls (.ref (X.1 + a) :: st) (I, L, R, S) o k := s_getV hd hp fl hS rfl kk
theorem s_getL {a j kd n idx : Nat} {fin : Bool} (hd : decode cc pc = .ok (.getfield idx, 3)) (hp : pc + 3 = pc') (fl : FL y.cls idx kd j .long fin) (hS : S[a]? = some (kd, n)) (kk : Sim X y cc nL ret F Lo n0 s0 pc' ls (.long (L a j) :: st) (I, L, R, S) o k) : Sim X y cc nL ret F Lo n0 s0 pc ls (.ref (X.1 + a) :: st) (I, L, R, S) o k := s_getV hd hp fl hS rfl kk
theorem s_getR {a j kd n idx : Nat} {ft : FieldType} {fin : Bool} (q : Nat) (hd : decode cc pc = .ok (.getfield idx, 3)) (hp : pc + 3 = pc') (fl : FL y.cls idx kd j ft fin) (hft : fcode ft = 2) (hS : S[a]? = some (kd, n)) (hq : R a j = some q) (kk : Sim X y cc nL ret F Lo n0 s0 pc' ls (.ref (X.1 + q) :: st) (I, L, R, S) o k) : Sim X y cc nL ret F Lo n0 s0 pc ls (.ref (X.1 + a) :: st) (I, L, R, S) o k := s_getV hd hp fl hS (by rw [hft]; simp [tb_fv, hq, va_rf]) kk
/-- a field that isn't final is written -/
theorem s_putV {a j kd n idx : Nat} {ft : FieldType} {v : Value} {I' : MI} {L' : ML} {R' : MR} (hd : decode cc pc = .ok (.putfield idx, 3)) (hp : pc + 3 = pc') (fl : FL y.cls idx kd j ft false) (hS : S[a]? = some (kd, n)) (hn : narrow ft v = v) (hf : fits ft v = true) (hv : tb_fv X.1 I' L' R' a (fcode ft) j = v)
    (g1 : ∀ b, b ≠ a → I' b = I b) (g2 : ∀ b, b ≠ a → L' b = L b) (g3 : ∀ b, b ≠ a → R' b = R b) (g4 : ∀ i, i ≠ j → I' a i = I a i) (g5 : ∀ i, i ≠ j → L' a i = L a i) (g6 : ∀ i, i ≠ j → R' a i = R a i) (kk : Sim X y cc nL ret F Lo n0 s0 pc' ls st (I', L', R', S) o k) : Sim X y cc nL ret F Lo n0 s0 pc ls (v :: .ref (X.1 + a) :: st) (I, L, R, S) o k := by
  subst hp
  obtain ⟨C, T, N, ty0, ⟨h1, h2, h3, h4, h5, h6, h7⟩, hj, rfl, hC, hw, hfin⟩ := fl
  refine sm_step (fun p e R'' s m args below meth c H locs lsA cells slots Q hF hfr hlo hce hsl hR hV hl hsz w => va_put (own := y.cls) (ref := C) hF.1 hF.2.1 hF.2.2.2.2.2.1 h4 ty0 h5 h6 hF.2.2.2.2.1 hF.K hR.1 (tb_D X _) hV a (tb_at_obj hS h2) h1 j hj (hF.2.2.2.2.2.1 _ hw) (by rw [hC]; exact fun _ h => h) hfin (h5 j hj) hn hf (by rw [tb_fs_len, ← h3]; exact hj) hd (fun H1 locs1 hP1 hD1 hS1 => tb_size fun hz1 => w H1 locs1 lsA (HR.upd hS g1 g2 g3 ?_ hP1 (Nat.le_trans hF.lo hS1.1) (by simp only at hsz; omega)) hS1 hl)) rfl kk
  rw [tb_e_obj h2, tb_fs_set (I := I) (L := L) (R := R) (h7 j hj) g4 g5 g6, hv]
theorem s_putI {a j kd n idx : Nat} {v : Int32} (hd : decode cc pc = .ok (.putfield idx, 3)) (hp : pc + 3 = pc') (fl : FL y.cls idx kd j .int false) (hS : S[a]? = some (kd, n)) (kk : Sim X y cc nL ret F Lo n0 s0 pc' ls st (wI I a j v, L, R, S) o k) : Sim X y cc nL ret F Lo n0 s0 pc ls (.int v :: .ref (X.1 + a) :: st) (I, L, R, S) o k :=
  s_putV hd hp fl hS (by rfl) (by rfl) (by simp [tb_fv, fcode, wI]) (fun b h => wI_off h) (fun _ _ => rfl) (fun _ _ => rfl) (fun i h => by simp [wI, h]) (fun _ _ => rfl) (fun _ _ => rfl) kk
theorem s_putZ {a j kd n idx : Nat} {v : Int32} (hd : decode cc pc = .ok (.putfield idx, 3)) (hp : pc + 3 = pc') (fl : FL y.cls idx kd j .boolean false) (hS : S[a]? = some (kd, n)) (hz : v = 0 ∨ v = 1) (kk : Sim X y cc nL ret F Lo n0 s0 pc' ls st (wI I a j v, L, R, S) o k) : Sim X y cc nL ret F Lo n0 s0 pc ls (.int v :: .ref (X.1 + a) :: st) (I, L, R, S) o k :=
  s_putV hd hp fl hS (by rcases hz with rfl | rfl <;> rfl) (by rcases hz with rfl | rfl <;> rfl) (by simp [tb_fv, fcode, wI]) (fun b h => wI_off h) (fun _ _ => rfl) (fun _ _ => rfl) (fun i h => by simp [wI, h]) (fun _ _ => rfl) (fun _ _ => rfl) kk
theorem s_putL {a j kd n idx : Nat} {v : Int64} (hd : decode cc pc = .ok (.putfield idx, 3)) (hp : pc + 3 = pc') (fl : FL y.cls idx kd j .long false) (hS : S[a]? = some (kd, n)) (kk : Sim X y cc nL ret F Lo n0 s0 pc' ls st (I, wL L a j v, R, S) o k) : Sim X y cc nL ret F Lo n0 s0 pc ls (.long v :: .ref (X.1 + a) :: st) (I, L, R, S) o k :=
  s_putV hd hp fl hS (by rfl) (by rfl) (by simp [tb_fv, fcode, wL]) (fun _ _ => rfl) (fun b h => wL_off h) (fun _ _ => rfl) (fun _ _ => rfl) (fun i h => by simp [wL, h]) (fun _ _ => rfl) kk
theorem s_putR {a j kd n idx q : Nat} {ft : FieldType} (hd : decode cc pc = .ok (.putfield idx, 3)) (hp : pc + 3 = pc') (fl : FL y.cls idx kd j ft false) (hft : (∃ C, ft = .object C) ∨ ∃ t, ft = .array t) (hS : S[a]? = some (kd, n)) (kk : Sim X y cc nL ret F Lo n0 s0 pc' ls st (I, L, wR R a j (some q), S) o k) : Sim X y cc nL ret F Lo n0 s0 pc ls (.ref (X.1 + q) :: .ref (X.1 + a) :: st) (I, L, R, S) o k :=
  s_putV hd hp fl hS (by rcases hft with ⟨_, rfl⟩ | ⟨_, rfl⟩ <;> rfl) (by rcases hft with ⟨_, rfl⟩ | ⟨_, rfl⟩ <;> rfl) (by rcases hft with ⟨_, rfl⟩ | ⟨_, rfl⟩ <;> simp [tb_fv, fcode, wR, va_rf]) (fun _ _ => rfl) (fun _ _ => rfl) (fun b h => wR_off h) (fun _ _ => rfl) (fun _ _ => rfl) (fun i h => by simp [wR, h]) kk
end HEAP
