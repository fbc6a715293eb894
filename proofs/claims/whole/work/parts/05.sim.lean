/-! THE JUDGEMENT: from a frame at pc the machine does what the function o says, if o says something -/
def wsy (y : MethodName) (cc : ByteArray) (nL : Nat) (ret : Option FieldType) : List Cond := Cond.code y cc nL ret :: tw
def tb_nf : List (String × Nat × String × String × String × String) := [("TubBites$Game", 141, "TubBites", "TRY_SECONDS", "[I", "TubBites"), ("TubBites$Game", 174, "TubBites", "SIDE_X", "[I", "TubBites"), ("TubBites$Game", 177, "TubBites", "SIDE_Y", "[I", "TubBites"), ("TubBites$Game", 75, "TubBites", "TRY_BREATH", "[I", "TubBites"), ("TubBites$Search", 71, "TubBites", "TRY_SECONDS", "[I", "TubBites")]
def tb_st : List (String × List Int32) := [("TRY_SECONDS", [1, 1, 2, 3, 1]), ("TRY_BREATH", [0, 0, 1, 3, 0]), ("SIDE_X", [-1, 1, 0, 0]), ("SIDE_Y", [0, 0, 1, -1])]
/-- what the whole run may take as given: the classes, the links to nest mates, the static tables, the text, the script -/
def Gd (X : WX) (U : State) (H : Heap) : Prop :=
  va_K X.2.2.1 vwCl (tb_tys X) U ∧ (∀ q ∈ tb_nf, va_Nw (.fieldLinkNest q.1 q.2.1 q.2.2.1 q.2.2.2.1 q.2.2.2.2.1 q.2.2.2.2.2) U) ∧ (∀ q ∈ tb_nm, va_Nw (.methodLinkNest q.1 q.2.1 q.2.2.1 q.2.2.2) U) ∧ va_AO "TubBites$State" U ∧
  (∀ (i : Nat) (q : String × List Int32), tb_st[i]? = some q → va_Z "TubBites" q.1 "[I" (.ref (X.2.2.2.2.1 i)) (tb_A X) U H ∧ va_T .int (X.2.2.2.2.1 i) q.2.length (fun j => .int (q.2.getD j 0)) (tb_A X) U H) ∧
  (va_X X.2.2.2.2.2.1 X.2.2.2.2.2.2.1 X.2.2.2.2.2.2.2 U H ∧ X.2.2.2.2.2.1 < X.1) ∧
  (vk_R "TubBites$Lexer" 17 tb_words (X.2.2.2.2.1 4) U ∧ vk_S 1 [tb_bytes.length] [tb_bytes] (fun _ => X.2.2.2.2.1 4) (fun _ => X.2.2.2.2.1 5) (tb_A X) U H ∧ va_Z "java/lang/String" "COMPACT_STRINGS" "Z" (.int 1) (tb_A X) U H ∧ va_Zq "jdk/internal/util/Preconditions" "SIOOBE_FORMATTER" "Ljava/util/function/BiFunction;" (tb_A X) U H) ∧ X.1 ≤ H.size
theorem Gd.on {X : WX} {s U : State} {H1 : Heap} (h : Gd X s s.heap) (hW : s.WarmedH U.vm) (hH : ∀ q : Nat, q < s.heap.size → ¬ tb_A X q → H1[q]? = s.heap[q]?) (hz : s.heap.size ≤ H1.size) : Gd X U H1 := by
  obtain ⟨h1, h2, h3, h4, h5, ⟨h6, h6'⟩, ⟨h7, h8, h9, h10⟩, h11⟩ := h
  refine ⟨va_K.moved hW.alike h1, fun q hq => va_Nw.warmF hW (h2 q hq), fun q hq => va_Nw.warmM hW (h3 q hq), h4.moved hW.alike, fun i q hq => ⟨((h5 i q hq).1.moved hW.alike).kept hH, ((h5 i q hq).2.moved hW.alike).kept hH⟩, ⟨(h6.moved hW.alike).kept (hH _ (by omega) (by show ¬ X.1 ≤ _; omega)), h6'⟩, ⟨h7.warm hW, (h8.moved hW.alike).kept hH, (h9.moved hW.alike).kept hH, (h10.moved hW.alike).kept hH⟩, by omega⟩
def Fx (X : WX) (y : MethodName) (cc : ByteArray) (nL : Nat) (ret : Option FieldType) (p : Program) (s : State) (m : MethodId) (args : Array Value) (meth : Method) (c : Code) : Prop :=
  p.tables.exec = Jvm.exec ∧ c.code = cc ∧ c.maxLocals = nL ∧ meth.sig.returnType = ret ∧ s.vm.findClass y.cls = some m.cls ∧ (∀ w ∈ tw, w.before args s = true) ∧ meth.locks = false ∧ (y.name = "<init>" → meth.name = "<init>") ∧ Gd X s s.heap
def Qfin (X : WX) (f : Option Value × AS) : Array Value → State → Outcome → State → Prop := fun _ st oc t => oc = .returned f.1 ∧ HR X f.2 t.heap ∧ va_F (tb_A X) st t
def SimW (X : WX) (y : MethodName) (cc : ByteArray) (nL : Nat) (ret : Option FieldType) (F Lo n0 s0 pc : Nat) (ls : List (Nat × Value)) (st : List Value) (s0' : AS) (f : Option Value × AS) : Prop :=
  ∀ (p : Program) (e : Env) (R : Room) (s : State) (m : MethodId) (args : Array Value) (below : List Frame) (meth : Method) (c : Code) (H : Heap) (locs : List Loc) (lsA : Array Slot), Fx X y cc nL ret p s m args meth c → R.frames = F → R.locals = Lo → f.2.2.2.2.length - n0 ≤ R.cells → tb_sz f.2.2.2.2 - s0 ≤ R.slots → HR X s0' H → va_S (tb_A X) s.heap H locs → lv_has lsA nL ls → s.heap.size = X.1 + n0 → n0 ≤ s0'.2.2.2.length → s0 ≤ tb_sz s0'.2.2.2 →
    W p X.2.1 e R s m args below meth c H locs (s0'.2.2.2.length - n0) (tb_sz s0'.2.2.2 - s0) (MQ below (Qfin X f) args s (f.2.2.2.2.length - n0) (tb_sz f.2.2.2.2 - s0) (tb_A X)) (F0 m pc lsA st)
def Sim {α : Type} (X : WX) (y : MethodName) (cc : ByteArray) (nL : Nat) (ret : Option FieldType) (F Lo n0 s0 pc : Nat) (ls : List (Nat × Value)) (st : List Value) (u : AS) (o : Option α) (k : α → Option Value × AS → Prop) : Prop :=
  ∀ a, o = some a → ∀ f, k a f → (u.2.2.2.length ≤ f.2.2.2.2.length ∧ tb_sz u.2.2.2 ≤ tb_sz f.2.2.2.2) ∧ SimW X y cc nL ret F Lo n0 s0 pc ls st u f
/-- one instruction that makes nothing -/
def Stp1 (X : WX) (y : MethodName) (cc : ByteArray) (nL : Nat) (ret : Option FieldType) (F Lo pc : Nat) (ls : List (Nat × Value)) (st : List Value) (u : AS) (pc' : Nat) (ls' : List (Nat × Value)) (st' : List Value) (u' : AS) : Prop :=
  ∀ (p : Program) (e : Env) (R : Room) (s : State) (m : MethodId) (args : Array Value) (below : List Frame) (meth : Method) (c : Code) (H : Heap) (locs : List Loc) (lsA : Array Slot) (cells slots : Nat) (Q : State → Prop), Fx X y cc nL ret p s m args meth c → R.frames = F → R.locals = Lo → cells ≤ R.cells → slots ≤ R.slots → HR X u H → va_S (tb_A X) s.heap H locs → lv_has lsA nL ls → s.heap.size + cells = X.1 + u.2.2.2.length →
    (∀ (H' : Heap) (locs' : List Loc) (lsA' : Array Slot), HR X u' H' → va_S (tb_A X) s.heap H' locs' → lv_has lsA' nL ls' → W p X.2.1 e R s m args below meth c H' locs' cells slots Q (F0 m pc' lsA' st')) → W p X.2.1 e R s m args below meth c H locs cells slots Q (F0 m pc lsA st)
section SIM
variable {α : Type} {X : WX} {y : MethodName} {cc : ByteArray} {nL : Nat} {ret : Option FieldType} {F Lo n0 s0 pc pc' : Nat} {ls ls' : List (Nat × Value)} {st st' : List Value} {u u' : AS} {o : Option α} {k : α → Option Value × AS → Prop}
theorem sm_step (h : Stp1 X y cc nL ret F Lo pc ls st u pc' ls' st' u') (hS : u'.2.2.2 = u.2.2.2) (kk : Sim X y cc nL ret F Lo n0 s0 pc' ls' st' u' o k) : Sim X y cc nL ret F Lo n0 s0 pc ls st u o k := by
  intro a ha f hf
  obtain ⟨⟨m1, m2⟩, hw⟩ := kk a ha f hf
  rw [hS] at m1 m2
  refine ⟨⟨m1, m2⟩, ?_⟩
  intro p e R s m args below meth c H locs lsA hF h3 h4 h5 h6 hR hV hl hsz h1 h2
  refine h p e R s m args below meth c H locs lsA _ _ _ hF h3 h4 (by omega) (by omega) hR hV hl (by omega) ?_
  intro H' locs' lsA' hR' hV' hl'
  have := hw p e R s m args below meth c H' locs' lsA' hF h3 h4 h5 h6 hR' hV' hl' hsz (by rw [hS]; exact h1) (by rw [hS]; exact h2)
  rw [hS] at this
  exact this
theorem sm_none : Sim X y cc nL ret F Lo n0 s0 pc ls st u none k := fun a ha => by cases ha
end SIM
/-! the words of the functions -/
noncomputable def ck {α : Type} (P : Prop) (o : Option α) : Option α := @ite _ P (Classical.propDecidable P) o none
theorem ck_pos {α : Type} {P : Prop} {o : Option α} (h : P) : ck P o = o := by simp [ck, h]
theorem ck_neg {α : Type} {P : Prop} {o : Option α} (h : ¬ P) : ck P o = none := by simp [ck, h]
theorem ck_some {α : Type} {P : Prop} {o : Option α} {a : α} (h : ck P o = some a) : P ∧ o = some a := by
  by_cases hP : P
  · rw [ck_pos hP] at h; exact ⟨hP, h⟩
  · rw [ck_neg hP] at h; cases h
def lt {α β : Type} (e : β) (g : β → Option α) : Option α := g e
def b1 {α β : Type} (f : Option β) (g : β → Option α) : Option α := match f with
  | some x => g x
  | none => none
def b2 {α β γ : Type} (f : Option (β × γ)) (g : β → γ → Option α) : Option α := b1 f (fun p => g p.1 p.2)
def b3 {α β γ δ : Type} (f : Option (β × γ × δ)) (g : β → γ → δ → Option α) : Option α := b1 f (fun p => g p.1 p.2.1 p.2.2)
def b4 {α β γ δ ε : Type} (f : Option (β × γ × δ × ε)) (g : β → γ → δ → ε → Option α) : Option α := b1 f (fun p => g p.1 p.2.1 p.2.2.1 p.2.2.2)
def b5 {α β γ δ ε ζ : Type} (f : Option (β × γ × δ × ε × ζ)) (g : β → γ → δ → ε → ζ → Option α) : Option α := b1 f (fun p => g p.1 p.2.1 p.2.2.1 p.2.2.2.1 p.2.2.2.2)
/-- a part that may answer for the whole at once -/
def bE {α β : Type} (f : Option (β ⊕ α)) (g : β → Option α) : Option α := match f with
  | some (.inl x) => g x
  | some (.inr a) => some a
  | none => none
abbrev ix (i : Int32) : Nat := i.toNatClampNeg
section SIM2
variable {α : Type} {X : WX} {y : MethodName} {cc : ByteArray} {nL : Nat} {ret : Option FieldType} {F Lo n0 s0 pc pc' : Nat} {ls ls' : List (Nat × Value)} {st st' : List Value} {u u' : AS} {o : Option α} {k : α → Option Value × AS → Prop}
theorem sm_ck {P : Prop} (h : P → Sim X y cc nL ret F Lo n0 s0 pc ls st u o k) : Sim X y cc nL ret F Lo n0 s0 pc ls st u (ck P o) k := by
  intro a ha
  obtain ⟨hP, ho⟩ := ck_some ha
  exact h hP a ho
theorem sm_lt {β : Type} {e : β} {g : β → Option α} (h : ∀ x, x = e → Sim X y cc nL ret F Lo n0 s0 pc ls st u (g x) k) : Sim X y cc nL ret F Lo n0 s0 pc ls st u (lt e g) k := h e rfl
theorem sm_ite {P : Prop} [Decidable P] {o1 o2 : Option α} (h1 : P → Sim X y cc nL ret F Lo n0 s0 pc ls st u o1 k) (h2 : ¬ P → Sim X y cc nL ret F Lo n0 s0 pc ls st u o2 k) : Sim X y cc nL ret F Lo n0 s0 pc ls st u (if P then o1 else o2) k := by
  by_cases hP : P
  · rw [if_pos hP]; exact h1 hP
  · rw [if_neg hP]; exact h2 hP
/-- fewer locals are listed -/
theorem sm_sub (hl : ∀ q ∈ ls', q ∈ ls) (kk : Sim X y cc nL ret F Lo n0 s0 pc ls' st u o k) : Sim X y cc nL ret F Lo n0 s0 pc ls st u o k :=
  sm_step (fun _ _ _ _ _ _ _ _ _ H locs lsA _ _ _ _ _ _ _ _ hR hV h _ w => w H locs lsA hR hV ⟨h.1, h.2.1, fun q hq => h.2.2 q (hl q hq)⟩) rfl kk
/-- where a part ends: the machine goes on there -/
def Ex (X : WX) (y : MethodName) (cc : ByteArray) (nL : Nat) (ret : Option FieldType) (F Lo n0 s0 pc : Nat) (ls : List (Nat × Value)) (st : List Value) (u : AS) (f : Option Value × AS) : Prop := (u.2.2.2.length ≤ f.2.2.2.2.length ∧ tb_sz u.2.2.2 ≤ tb_sz f.2.2.2.2) ∧ SimW X y cc nL ret F Lo n0 s0 pc ls st u f
theorem sm_exit {a : α} (h : ∀ f, k a f → Ex X y cc nL ret F Lo n0 s0 pc ls st u f) : Sim X y cc nL ret F Lo n0 s0 pc ls st u (some a) k := by
  intro a' ha f hf
  cases ha
  exact h f hf
theorem sm_part {β : Type} {ob : Option β} {g : β → Option α} {E : β → Option Value × AS → Prop} (h1 : Sim X y cc nL ret F Lo n0 s0 pc ls st u ob E) (h2 : ∀ b, ob = some b → ∀ a, g b = some a → ∀ f, k a f → E b f) : Sim X y cc nL ret F Lo n0 s0 pc ls st u (b1 ob g) k := by
  intro a ha f hf
  cases ho : ob with
  | none => rw [ho] at ha; cases ha
  | some b =>
    rw [ho] at ha
    exact h1 b ho f (h2 b ho a ha f hf)
/-- of a part that may answer for the whole -/
def SE {β α : Type} (A : β → Option Value × AS → Prop) (B : α → Option Value × AS → Prop) : β ⊕ α → Option Value × AS → Prop := fun x f => match x with
  | .inl b => A b f
  | .inr a => B a f
theorem sm_partE {β : Type} {ob : Option (β ⊕ α)} {g : β → Option α} {E : β → Option Value × AS → Prop} (h1 : Sim X y cc nL ret F Lo n0 s0 pc ls st u ob (SE E k)) (h2 : ∀ b, ob = some (.inl b) → ∀ a, g b = some a → ∀ f, k a f → E b f) : Sim X y cc nL ret F Lo n0 s0 pc ls st u (bE ob g) k := by
  intro a ha f hf
  match ho : ob with
  | none => cases ha
  | some (.inl b) => exact h1 (.inl b) rfl f (h2 b rfl a ha f hf)
  | some (.inr a') => cases ha; exact h1 (.inr a) rfl f hf
end SIM2
