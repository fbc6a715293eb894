def tb_ft : Nat → List Nat := fun k => match k with
  | 0 => [2, 2, 2, 2, 0, 0]
  | 1 => [2, 2, 0, 0]
  | 2 => [2, 0, 0, 0]
  | 3 => [2, 2, 0, 0, 0, 0, 0, 1]
  | 4 => [2, 2, 2, 2, 2, 2, 0]
  | 5 => [2, 2, 2, 2, 2, 0, 0, 0, 0, 0]
  | 6 => [2, 2, 0, 0, 0, 2, 0, 0, 0, 0, 0]
  | 7 => [2, 2, 2, 2, 2, 2, 2, 2, 2, 2, 2, 0]
  | 8 => [0, 0, 0, 0, 0, 2, 2, 2, 2, 2, 2, 0, 2, 2, 2, 2, 2, 2, 0, 2]
  | 9 => [2, 2, 2, 2, 2, 2, 0, 0, 0, 0, 0]
  | 10 => [2, 0, 2, 2, 2, 2, 2, 2, 2, 2, 2, 2, 0, 2, 0]
  | 11 => [2, 0, 0, 0, 0, 0, 0, 0, 0, 1, 2, 2, 2, 2, 2, 2, 2, 2, 0, 0, 0, 0, 0, 0, 2, 2, 2, 2, 2, 2, 2, 2, 2, 2, 2, 2, 2, 2, 2, 2, 2, 2, 2, 2, 2, 2, 2, 2, 2, 0, 0, 0, 0, 0, 0, 0, 0, 0, 0, 0, 0, 0, 0, 0, 0, 0, 2, 2, 0, 0, 2, 0, 0, 2, 2, 2, 2, 2, 2, 2, 0, 2, 2, 2, 2, 0, 2, 2, 2, 2, 2, 0, 0, 2, 2]
  | _ => []

/-! MEMORY: ints, longs, references by cell (counted from the law's first one) and slot; the shape: kind and length of each cell -/
abbrev MI : Type := Nat → Nat → Int32
abbrev ML : Type := Nat → Nat → Int64
abbrev MR : Type := Nat → Nat → Option Nat
abbrev MS : Type := List (Nat × Nat)
abbrev AS : Type := MI × ML × MR × MS
abbrev WX : Type := Nat × Launch × va_G × (Nat → ClassId) × (Nat → Nat) × (Nat × Nat × (Nat → Int32))
def wI (I : MI) (a i : Nat) (v : Int32) : MI := fun b j => if b = a then (if j = i then v else I b j) else I b j
def wL (L : ML) (a i : Nat) (v : Int64) : ML := fun b j => if b = a then (if j = i then v else L b j) else L b j
def wR (R : MR) (a i : Nat) (v : Option Nat) : MR := fun b j => if b = a then (if j = i then v else R b j) else R b j
def tb_sz (S : MS) : Nat := (S.map (fun q => q.2)).sum
abbrev tb_words : String := "tub by odds free stalk wall ground lean rule apple at size soft coin bobber reach breath mouth draw bite far tries kind or and not "
abbrev tb_bytes : List Int32 := (tb_words.toList.map (fun ch => Int32.ofNat ch.toNat))
abbrev tb_tys (X : WX) : List (ClassId × FieldType) := [(X.2.2.2.1 12, .byte), (X.2.2.2.1 13, .int), (X.2.2.2.1 14, .long), (X.2.2.2.1 15, .boolean), (X.2.2.2.1 16, .object "TubBites$State")]
def tb_A (X : WX) : Nat → Prop := fun q => X.1 ≤ q
def tb_fv (z : Nat) (I : MI) (L : ML) (R : MR) (a ty j : Nat) : Value := match ty with
  | 0 => .int (I a j)
  | 1 => .long (L a j)
  | _ => va_rf ((R a j).map (fun q => z + q))
def tb_fs (z : Nat) (I : MI) (L : ML) (R : MR) (a k : Nat) : List Value := (tb_ft k).zipIdx.map (fun q => tb_fv z I L R a q.1 q.2)
def tb_e (X : WX) (I : MI) (L : ML) (R : MR) (a : Nat) (kn : Nat × Nat) : va_E :=
  if kn.1 < 12 then .inr (kn.1, tb_fs X.1 I L R a kn.1)
  else if kn.1 = 14 then .inl (X.2.2.2.1 14, kn.2, .inr (.inl (L a)))
  else if kn.1 = 16 then .inl (X.2.2.2.1 16, kn.2, .inr (.inr (.inr (.inr (fun i => (R a i).map (fun q => X.1 + q))))))
  else .inl (X.2.2.2.1 kn.1, kn.2, .inl (I a))
def tb_ws (X : WX) (s : AS) : va_W := s.2.2.2.zipIdx.map (fun q => (X.1 + q.2, tb_e X s.1 s.2.1 s.2.2.1 q.2 q.1))
def HR (X : WX) (s : AS) (H : Heap) : Prop := va_P X.2.2.1 vwCl (tb_ws X s) H ∧ H.size = X.1 + s.2.2.2.length
theorem tb_ws_at {X : WX} {I : MI} {L : ML} {R : MR} {S : MS} {a : Nat} {kn : Nat × Nat} (h : S[a]? = some kn) : (tb_ws X (I, L, R, S))[a]? = some (X.1 + a, tb_e X I L R a kn) := by
  simp [tb_ws, h]
theorem tb_ws_inv {X : WX} {s : AS} {a : Nat} {q : Nat × va_E} (h : (tb_ws X s)[a]? = some q) : q.1 = X.1 + a := by
  simp only [tb_ws, List.getElem?_map, List.getElem?_zipIdx] at h
  cases h1 : s.2.2.2[a]? with
  | none => simp [h1] at h
  | some kn => simp [h1] at h; rw [← h]
theorem tb_D (X : WX) (s : AS) : va_D (tb_A X) (tb_ws X s) := by
  refine ⟨fun i j p q hp hq e => ?_, fun k q hk => ?_⟩
  · have h1 := tb_ws_inv hp
    have h2 := tb_ws_inv hq
    omega
  · have h1 := tb_ws_inv hk
    show X.1 ≤ q.1
    omega
theorem tb_e_off {X : WX} {I I' : MI} {L L' : ML} {R R' : MR} {a : Nat} (kn : Nat × Nat) (h1 : I' a = I a) (h2 : L' a = L a) (h3 : R' a = R a) : tb_e X I' L' R' a kn = tb_e X I L R a kn := by
  have h4 : ∀ k, tb_fs X.1 I' L' R' a k = tb_fs X.1 I L R a k := by
    intro k
    simp only [tb_fs]
    congr 1
    funext q
    simp only [tb_fv, h1, h2, h3]
  simp only [tb_e, h1, h2, h3, h4]
theorem tb_ws_set {X : WX} {I I' : MI} {L L' : ML} {R R' : MR} {S : MS} {a : Nat} {kn : Nat × Nat} (h : S[a]? = some kn) (h1 : ∀ b, b ≠ a → I' b = I b) (h2 : ∀ b, b ≠ a → L' b = L b) (h3 : ∀ b, b ≠ a → R' b = R b) :
    tb_ws X (I', L', R', S) = (tb_ws X (I, L, R, S)).set a (X.1 + a, tb_e X I' L' R' a kn) := by
  apply List.ext_getElem?
  intro b
  by_cases hb : b = a
  · subst hb
    have hl : b < (tb_ws X (I, L, R, S)).length := by
      have := (List.getElem?_eq_some_iff.mp h).1
      simp [tb_ws, this]
    rw [tb_ws_at h, List.getElem?_set_self hl]
  · rw [List.getElem?_set_ne (fun e => hb e.symm)]
    simp only [tb_ws, List.getElem?_map, List.getElem?_zipIdx]
    cases S[b]? with
    | none => rfl
    | some q => simp [tb_e_off (X := X) q (h1 b hb) (h2 b hb) (h3 b hb)]
theorem wI_off {I : MI} {a i : Nat} {v : Int32} {b : Nat} (h : b ≠ a) : wI I a i v b = I b := by funext j; simp [wI, h]
theorem wL_off {I : ML} {a i : Nat} {v : Int64} {b : Nat} (h : b ≠ a) : wL I a i v b = I b := by funext j; simp [wL, h]
theorem wR_off {I : MR} {a i : Nat} {v : Option Nat} {b : Nat} (h : b ≠ a) : wR I a i v b = I b := by funext j; simp [wR, h]
theorem wI_row {I : MI} {a i : Nat} {v : Int32} : wI I a i v a = upd (I a) i v := by funext j; simp [wI, upd]
theorem wL_row {I : ML} {a i : Nat} {v : Int64} : wL I a i v a = vp_updL (I a) i v := by funext j; simp [wL, vp_updL]
theorem wR_row {I : MR} {a i : Nat} {v : Option Nat} : wR I a i v a = va_up (I a) i v := by funext j; simp [wR, va_up]
theorem tb_fs_len (z : Nat) (I : MI) (L : ML) (R : MR) (a k : Nat) : (tb_fs z I L R a k).length = (tb_ft k).length := by simp [tb_fs]
theorem tb_fs_at {z : Nat} {I : MI} {L : ML} {R : MR} {a k j ty : Nat} (h : (tb_ft k)[j]? = some ty) : (tb_fs z I L R a k)[j]? = some (tb_fv z I L R a ty j) := by
  simp [tb_fs, h]
theorem tb_fs_set {z : Nat} {I I' : MI} {L L' : ML} {R R' : MR} {a k j ty : Nat} (h : (tb_ft k)[j]? = some ty) (h1 : ∀ i, i ≠ j → I' a i = I a i) (h2 : ∀ i, i ≠ j → L' a i = L a i) (h3 : ∀ i, i ≠ j → R' a i = R a i) :
    tb_fs z I' L' R' a k = (tb_fs z I L R a k).set j (tb_fv z I' L' R' a ty j) := by
  apply List.ext_getElem?
  intro i
  by_cases hi : i = j
  · subst hi
    have hl : i < (tb_fs z I L R a k).length := by rw [tb_fs_len]; exact (List.getElem?_eq_some_iff.mp h).1
    rw [tb_fs_at h, List.getElem?_set_self hl]
  · rw [List.getElem?_set_ne (fun e => hi e.symm)]
    simp only [tb_fs, List.getElem?_map, List.getElem?_zipIdx]
    cases (tb_ft k)[i]? with
    | none => rfl
    | some q => simp [tb_fv, h1 i hi, h2 i hi, h3 i hi]
def tw : List Cond := lw_tbl.filter goodWord
theorem tw_mem {w : Cond} (i : Nat) (h : lw_tbl[i]? = some w) (g : goodWord w = true) : w ∈ tw := List.mem_filter.mpr ⟨List.mem_of_getElem? h, g⟩
theorem tw_good {w : Cond} (h : w ∈ tw) : goodWord w = true := (List.mem_filter.mp h).2
