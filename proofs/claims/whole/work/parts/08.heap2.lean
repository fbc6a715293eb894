def zb (x : Int32) : Int32 := vp_nar .boolean x
def zI (I : MI) (a : Nat) : MI := fun b j => if b = a then 0 else I b j
def zL (L : ML) (a : Nat) : ML := fun b j => if b = a then 0 else L b j
def zR (R : MR) (a : Nat) : MR := fun b j => if b = a then none else R b j
theorem tb_ws_push {X : WX} {I : MI} {L : ML} {R : MR} {S : MS} {kn : Nat × Nat} : tb_ws X (zI I S.length, zL L S.length, zR R S.length, S ++ [kn]) = tb_ws X (I, L, R, S) ++ [(X.1 + S.length, tb_e X (zI I S.length) (zL L S.length) (zR R S.length) S.length kn)] := by
  have hlen : (tb_ws X (I, L, R, S)).length = S.length := by simp [tb_ws]
  apply List.ext_getElem?
  intro b
  rcases Nat.lt_trichotomy b S.length with hb | hb | hb
  · rw [List.getElem?_append_left (by omega)]
    obtain ⟨q, hq⟩ : ∃ q, S[b]? = some q := ⟨S[b], List.getElem?_eq_getElem hb⟩
    rw [tb_ws_at (kn := q) (by rw [List.getElem?_append_left hb]; exact hq), tb_ws_at hq]
    rw [tb_e_off (X := X) q (I := I) (L := L) (R := R)] <;> (funext j; simp [zI, zL, zR]; intro h; omega)
  · subst hb
    rw [tb_ws_at (kn := kn) (by simp), List.getElem?_append_right (by omega), hlen]
    simp
  · rw [List.getElem?_append_right (by omega), hlen, List.getElem?_eq_none (by simp [tb_ws]; omega), List.getElem?_eq_none (by simp; omega)]
theorem tb_sz_push (S : MS) (kn : Nat × Nat) : tb_sz (S ++ [kn]) = tb_sz S + kn.2 := by simp [tb_sz]
section HEAP2
variable {α : Type} {X : WX} {y : MethodName} {cc : ByteArray} {nL : Nat} {ret : Option FieldType} {F Lo n0 s0 pc pc' tgt : Nat} {ls ls' : List (Nat × Value)} {st : List Value} {I : MI} {L : ML} {R : MR} {S : MS} {u : AS} {o o1 o2 : Option α} {k : α → Option Value × AS → Prop}
theorem s_putRF {a j kd n idx q : Nat} {ft : FieldType} (hd : decode cc pc = .ok (.putfield idx, 3)) (hp : pc + 3 = pc') (fl : FL y.cls idx kd j ft true) (hy : y.name = "<init>") (hk : ∃ T N, vwCl[kd]? = some (y.cls, T, N)) (hft : (∃ C, ft = .object C) ∨ ∃ t, ft = .array t) (hS : S[a]? = some (kd, n)) (kk : Sim X y cc nL ret F Lo n0 s0 pc' ls st (I, L, wR R a j (some q), S) o k) : Sim X y cc nL ret F Lo n0 s0 pc ls (.ref (X.1 + q) :: .ref (X.1 + a) :: st) (I, L, R, S) o k := by
  subst hp
  obtain ⟨C, T, N, ty0, ⟨h1, h2, h3, h4, h5, h6, h7⟩, hj, rfl, hC, hw, hfin⟩ := fl
  obtain ⟨T', N', hk⟩ := hk
  have hCy : C = y.cls := by have := h1.symm.trans hk; simp at this; exact this.1
  refine sm_step (fun p e R'' s m args below meth c H locs lsA cells slots Q hF hfr hlo hce hsl hR hV hl hsz w => va_putF (own := y.cls) (ref := C) hF.1 hF.2.1 hF.2.2.2.2.2.1 h4 ty0 h5 h6 hF.2.2.2.2.1 hF.K hR.1 (tb_D X _) hV a (tb_at_obj hS h2) h1 j hj (hF.2.2.2.2.2.1 _ hw) (by rw [hC]; exact fun _ h => h) hfin (hF.2.2.2.2.2.2.2.1 hy) (hC.trans hCy) (h5 j hj) (by rcases hft with ⟨_, h⟩ | ⟨_, h⟩ <;> rw [h] <;> rfl) (by rcases hft with ⟨_, h⟩ | ⟨_, h⟩ <;> rw [h] <;> rfl) (by rw [tb_fs_len, ← h3]; exact hj) hd (fun H1 locs1 hP1 hD1 hS1 => tb_size fun hz1 => w H1 locs1 lsA (HR.upd hS (fun _ _ => rfl) (fun _ _ => rfl) (fun b h => wR_off h) ?_ hP1 (Nat.le_trans hF.lo hS1.1) (by simp only at hsz; omega)) hS1 hl)) rfl kk
  rw [tb_e_obj h2, tb_fs_set (I := I) (L := L) (R := R) (h7 j hj) (fun _ _ => rfl) (fun _ _ => rfl) (fun i h => by simp [wR, h])]
  have : tb_fv X.1 I L (wR R a j (some q)) a (fcode (ty0 j)) j = .ref (X.1 + q) := by rcases hft with ⟨_, h⟩ | ⟨_, h⟩ <;> rw [h] <;> simp [tb_fv, fcode, wR, va_rf]
  rw [this]
theorem s_iald {a n : Nat} {i : Int32} (hd : decode cc pc = .ok (.iaload, 1)) (hp : pc + 1 = pc') (hS : S[a]? = some (13, n)) (hin : vp_in i n) (kk : Sim X y cc nL ret F Lo n0 s0 pc' ls (.int (I a (ix i)) :: st) (I, L, R, S) o k) : Sim X y cc nL ret F Lo n0 s0 pc ls (.int i :: .ref (X.1 + a) :: st) (I, L, R, S) o k := by
  subst hp
  exact sm_step (fun p e R' s m args below meth c H locs lsA cells slots Q hF hfr hlo hce hsl hR hV hl hsz w => va_iald hF.1 hF.2.1 hF.K hR.1 a 1 (tb_at_I hS (by decide) (by decide) (by decide)) rfl hin hd (w H locs lsA hR hV hl)) rfl kk
theorem s_bald {a n : Nat} {i : Int32} (hd : decode cc pc = .ok (.baload, 1)) (hp : pc + 1 = pc') (hS : S[a]? = some (12, n)) (hin : vp_in i n) (kk : Sim X y cc nL ret F Lo n0 s0 pc' ls (.int (I a (ix i)) :: st) (I, L, R, S) o k) : Sim X y cc nL ret F Lo n0 s0 pc ls (.int i :: .ref (X.1 + a) :: st) (I, L, R, S) o k := by
  subst hp
  exact sm_step (fun p e R' s m args below meth c H locs lsA cells slots Q hF hfr hlo hce hsl hR hV hl hsz w => va_bald hF.1 hF.2.1 hF.K hR.1 a 0 (tb_at_I hS (by decide) (by decide) (by decide)) rfl hin hd (w H locs lsA hR hV hl)) rfl kk
theorem s_zald {a n : Nat} {i : Int32} (hd : decode cc pc = .ok (.baload, 1)) (hp : pc + 1 = pc') (hS : S[a]? = some (15, n)) (hin : vp_in i n) (kk : Sim X y cc nL ret F Lo n0 s0 pc' ls (.int (I a (ix i)) :: st) (I, L, R, S) o k) : Sim X y cc nL ret F Lo n0 s0 pc ls (.int i :: .ref (X.1 + a) :: st) (I, L, R, S) o k := by
  subst hp
  exact sm_step (fun p e R' s m args below meth c H locs lsA cells slots Q hF hfr hlo hce hsl hR hV hl hsz w => va_zald hF.1 hF.2.1 hF.K hR.1 a 3 (tb_at_I hS (by decide) (by decide) (by decide)) rfl hin hd (w H locs lsA hR hV hl)) rfl kk
theorem s_lald {a n : Nat} {i : Int32} (hd : decode cc pc = .ok (.laload, 1)) (hp : pc + 1 = pc') (hS : S[a]? = some (14, n)) (hin : vp_in i n) (kk : Sim X y cc nL ret F Lo n0 s0 pc' ls (.long (L a (ix i)) :: st) (I, L, R, S) o k) : Sim X y cc nL ret F Lo n0 s0 pc ls (.int i :: .ref (X.1 + a) :: st) (I, L, R, S) o k := by
  subst hp
  exact sm_step (fun p e R' s m args below meth c H locs lsA cells slots Q hF hfr hlo hce hsl hR hV hl hsz w => va_lald hF.1 hF.2.1 hF.K hR.1 a 2 (tb_at_L hS) rfl hin hd (w H locs lsA hR hV hl)) rfl kk
theorem s_aald {a n : Nat} {i : Int32} {g : Nat → Option α} (hd : decode cc pc = .ok (.aaload, 1)) (hp : pc + 1 = pc') (hS : S[a]? = some (16, n)) (hin : vp_in i n) (kk : ∀ q, R a (ix i) = some q → Sim X y cc nL ret F Lo n0 s0 pc' ls (.ref (X.1 + q) :: st) (I, L, R, S) (g q) k) : Sim X y cc nL ret F Lo n0 s0 pc ls (.int i :: .ref (X.1 + a) :: st) (I, L, R, S) (b1 (R a (ix i)) g) k := by
  subst hp
  cases hq : R a (ix i) with
  | none => exact sm_none
  | some q =>
    exact sm_step (fun p e R' s m args below meth c H locs lsA cells slots Q hF hfr hlo hce hsl hR hV hl hsz w => va_aldq hF.1 hF.2.1 hF.K hR.1 a 4 (tb_at_R hS) rfl hin hd (by rw [hq]; exact w H locs lsA hR hV hl)) rfl (kk q hq)
/-- an array's cell is read and asked whether it is null -/
theorem s_aaldN {a n tgt : Nat} {i : Int32} {off : Int} (hd : decode cc pc = .ok (.aaload, 1)) (hd2 : decode cc (pc + 1) = .ok (.ifnonnull off, 3)) (hp : pc + 4 = pc') (ht : ((pc + 1 : Nat) : Int) + off = (tgt : Int)) (hS : S[a]? = some (16, n)) (hin : vp_in i n) (k1 : R a (ix i) = none → Sim X y cc nL ret F Lo n0 s0 pc' ls st (I, L, R, S) o1 k) (k2 : ∀ q, R a (ix i) = some q → Sim X y cc nL ret F Lo n0 s0 tgt ls st (I, L, R, S) o2 k) : Sim X y cc nL ret F Lo n0 s0 pc ls (.int i :: .ref (X.1 + a) :: st) (I, L, R, S) (if (R a (ix i)).isNone = true then o1 else o2) k := by
  subst hp
  cases hq : R a (ix i) with
  | none =>
    exact sm_step (fun p e R' s m args below meth c H locs lsA cells slots Q hF hfr hlo hce hsl hR hV hl hsz w => va_aldq hF.1 hF.2.1 hF.K hR.1 a 4 (tb_at_R hS) rfl hin hd (by rw [hq]; exact lv_ifnonnullN hF.1 hF.2.1 hd2 (w H locs lsA hR hV hl))) rfl (k1 hq)
  | some q =>
    exact sm_step (fun p e R' s m args below meth c H locs lsA cells slots Q hF hfr hlo hce hsl hR hV hl hsz w => va_aldq hF.1 hF.2.1 hF.K hR.1 a 4 (tb_at_R hS) rfl hin hd (by rw [hq]; exact lv_ifnonnull hF.1 hF.2.1 hd2 ht (w H locs lsA hR hV hl))) rfl (k2 q hq)
theorem s_alen {a kd n : Nat} (t0 : Nat) {ft : FieldType} {v : Int32} (hd : decode cc pc = .ok (.arraylength, 1)) (hp : pc + 1 = pc') (hS : S[a]? = some (kd, n)) (h12 : ¬ kd < 12) (ht : (tb_tys X)[t0]? = some (X.2.2.2.1 kd, ft)) (hv : Int32.ofNat n = v) (kk : Sim X y cc nL ret F Lo n0 s0 pc' ls (.int v :: st) (I, L, R, S) o k) : Sim X y cc nL ret F Lo n0 s0 pc ls (.ref (X.1 + a) :: st) (I, L, R, S) o k := by
  subst hp
  obtain ⟨x, hx, hxn⟩ : ∃ x : vp_A, (tb_ws X (I, L, R, S))[a]? = some (X.1 + a, .inl (X.2.2.2.1 kd, x)) ∧ x.1 = n := by
    by_cases h14 : kd = 14
    · subst h14; exact ⟨_, tb_at_L hS, rfl⟩
    · by_cases h16 : kd = 16
      · subst h16; exact ⟨_, tb_at_R hS, rfl⟩
      · exact ⟨_, tb_at_I hS h12 h14 h16, rfl⟩
  exact sm_step (fun p e R' s m args below meth c H locs lsA cells slots Q hF hfr hlo hce hsl hR hV hl hsz w => va_alen hF.1 hF.2.1 hF.K hR.1 a t0 hx ht (by rw [hxn]; exact hv) hd (w H locs lsA hR hV hl)) rfl kk
theorem s_iast {a n : Nat} {i x : Int32} (hd : decode cc pc = .ok (.iastore, 1)) (hp : pc + 1 = pc') (hS : S[a]? = some (13, n)) (hin : vp_in i n) (kk : Sim X y cc nL ret F Lo n0 s0 pc' ls st (wI I a (ix i) x, L, R, S) o k) : Sim X y cc nL ret F Lo n0 s0 pc ls (.int x :: .int i :: .ref (X.1 + a) :: st) (I, L, R, S) o k := by
  subst hp
  refine sm_step (fun p e R' s m args below meth c H locs lsA cells slots Q hF hfr hlo hce hsl hR hV hl hsz w => va_iast hF.1 hF.2.1 hF.K hR.1 (tb_D X _) hV a 1 (tb_at_I hS (by decide) (by decide) (by decide)) rfl hin hd (fun H1 locs1 hP1 hD1 hS1 => tb_size fun hz1 => w H1 locs1 lsA (HR.upd hS (fun b h => wI_off h) (fun _ _ => rfl) (fun _ _ => rfl) ?_ hP1 (Nat.le_trans hF.lo hS1.1) (by simp only at hsz; omega)) hS1 hl)) rfl kk
  rw [tb_e_I (by decide) (by decide) (by decide), wI_row]
theorem s_bast {a n : Nat} {i x : Int32} (hd : decode cc pc = .ok (.bastore, 1)) (hp : pc + 1 = pc') (hS : S[a]? = some (12, n)) (hin : vp_in i n) (kk : Sim X y cc nL ret F Lo n0 s0 pc' ls st (wI I a (ix i) x.toInt8.toInt32, L, R, S) o k) : Sim X y cc nL ret F Lo n0 s0 pc ls (.int x :: .int i :: .ref (X.1 + a) :: st) (I, L, R, S) o k := by
  subst hp
  refine sm_step (fun p e R' s m args below meth c H locs lsA cells slots Q hF hfr hlo hce hsl hR hV hl hsz w => va_bast hF.1 hF.2.1 hF.K hR.1 (tb_D X _) hV a 0 (tb_at_I hS (by decide) (by decide) (by decide)) rfl hin hd (fun H1 locs1 hP1 hD1 hS1 => tb_size fun hz1 => w H1 locs1 lsA (HR.upd hS (fun b h => wI_off h) (fun _ _ => rfl) (fun _ _ => rfl) ?_ hP1 (Nat.le_trans hF.lo hS1.1) (by simp only at hsz; omega)) hS1 hl)) rfl kk
  rw [tb_e_I (by decide) (by decide) (by decide), wI_row, vp_nar_byte]
theorem s_zast {a n : Nat} {i x : Int32} (hd : decode cc pc = .ok (.bastore, 1)) (hp : pc + 1 = pc') (hS : S[a]? = some (15, n)) (hin : vp_in i n) (kk : Sim X y cc nL ret F Lo n0 s0 pc' ls st (wI I a (ix i) (zb x), L, R, S) o k) : Sim X y cc nL ret F Lo n0 s0 pc ls (.int x :: .int i :: .ref (X.1 + a) :: st) (I, L, R, S) o k := by
  subst hp
  refine sm_step (fun p e R' s m args below meth c H locs lsA cells slots Q hF hfr hlo hce hsl hR hV hl hsz w => va_zast hF.1 hF.2.1 hF.K hR.1 (tb_D X _) hV a 3 (tb_at_I hS (by decide) (by decide) (by decide)) rfl hin hd (fun H1 locs1 hP1 hD1 hS1 => tb_size fun hz1 => w H1 locs1 lsA (HR.upd hS (fun b h => wI_off h) (fun _ _ => rfl) (fun _ _ => rfl) ?_ hP1 (Nat.le_trans hF.lo hS1.1) (by simp only at hsz; omega)) hS1 hl)) rfl kk
  rw [tb_e_I (by decide) (by decide) (by decide), wI_row]
  rfl
theorem s_last {a n : Nat} {i : Int32} {x : Int64} (hd : decode cc pc = .ok (.lastore, 1)) (hp : pc + 1 = pc') (hS : S[a]? = some (14, n)) (hin : vp_in i n) (kk : Sim X y cc nL ret F Lo n0 s0 pc' ls st (I, wL L a (ix i) x, R, S) o k) : Sim X y cc nL ret F Lo n0 s0 pc ls (.long x :: .int i :: .ref (X.1 + a) :: st) (I, L, R, S) o k := by
  subst hp
  refine sm_step (fun p e R' s m args below meth c H locs lsA cells slots Q hF hfr hlo hce hsl hR hV hl hsz w => va_last hF.1 hF.2.1 hF.K hR.1 (tb_D X _) hV a 2 (tb_at_L hS) rfl hin hd (fun H1 locs1 hP1 hD1 hS1 => tb_size fun hz1 => w H1 locs1 lsA (HR.upd hS (fun _ _ => rfl) (fun b h => wL_off h) (fun _ _ => rfl) ?_ hP1 (Nat.le_trans hF.lo hS1.1) (by simp only at hsz; omega)) hS1 hl)) rfl kk
  rw [tb_e_L, wL_row]
theorem s_aast {a n q n' : Nat} {i : Int32} (hd : decode cc pc = .ok (.aastore, 1)) (hp : pc + 1 = pc') (hS : S[a]? = some (16, n)) (hq : S[q]? = some (7, n')) (hin : vp_in i n) (kk : Sim X y cc nL ret F Lo n0 s0 pc' ls st (I, L, wR R a (ix i) (some q), S) o k) : Sim X y cc nL ret F Lo n0 s0 pc ls (.ref (X.1 + q) :: .int i :: .ref (X.1 + a) :: st) (I, L, R, S) o k := by
  subst hp
  refine sm_step (fun p e R' s m args below meth c H locs lsA cells slots Q hF hfr hlo hce hsl hR hV hl hsz w => va_astq hF.1 hF.2.1 hF.K hR.1 (tb_D X _) hV a 4 q 7 (r := (RX7, TX7, 12)) (tb_at_R hS) rfl (tb_at_obj hq (by decide)) rfl hin hd (fun H1 locs1 hP1 hD1 hS1 => tb_size fun hz1 => w H1 locs1 lsA (HR.upd hS (fun _ _ => rfl) (fun _ _ => rfl) (fun b h => wR_off h) ?_ hP1 (Nat.le_trans hF.lo hS1.1) (by simp only at hsz; omega)) hS1 hl)) rfl kk
  rw [tb_e_R, wR_row]
  congr 7
  funext j
  simp only [va_up]
  split <;> simp
theorem s_gets {idx : Nat} (i j : Nat) {nm : String} {vals : List Int32} (hd : decode cc pc = .ok (.getstatic idx, 3)) (hp : pc + 3 = pc') (hq : tb_nf[j]? = some (y.cls, idx, "TubBites", nm, "[I", "TubBites")) (hi : tb_st[i]? = some (nm, vals)) (kk : Sim X y cc nL ret F Lo n0 s0 pc' ls (.ref (X.2.2.2.2.1 i) :: st) u o k) : Sim X y cc nL ret F Lo n0 s0 pc ls st u o k := by
  subst hp
  exact sm_step (fun p e R' s m args below meth c H locs lsA cells slots Q hF hfr hlo hce hsl hR hV hl hsz w => va_getsN (own := y.cls) (ref := "TubBites") (host := "TubBites") (C := "TubBites") (n := nm) (d := "[I") hF.1 hF.2.1 (hF.2.2.2.2.2.2.2.2.2.2.2.2.1 i _ hi).1 hV hF.2.2.2.2.1 (va_Nw.use rfl (hF.2.2.2.2.2.2.2.2.2.1 _ (List.mem_of_getElem? hq))) (fun _ h => h) hd (w H locs lsA hR hV hl)) rfl kk
theorem s_tald (i : Nat) {nm : String} {vals : List Int32} {j : Int32} (hd : decode cc pc = .ok (.iaload, 1)) (hp : pc + 1 = pc') (hi : tb_st[i]? = some (nm, vals)) (hin : vp_in j vals.length) (kk : Sim X y cc nL ret F Lo n0 s0 pc' ls (.int (vals.getD (ix j) 0) :: st) u o k) : Sim X y cc nL ret F Lo n0 s0 pc ls (.int j :: .ref (X.2.2.2.2.1 i) :: st) u o k := by
  subst hp
  exact sm_step (fun p e R' s m args below meth c H locs lsA cells slots Q hF hfr hlo hce hsl hR hV hl hsz w => va_ti hF.1 hF.2.1 (hF.2.2.2.2.2.2.2.2.2.2.2.2.1 i _ hi).2 hV hin rfl hd (w H locs lsA hR hV hl)) rfl kk
theorem s_sld {i : Int32} (hd : decode cc pc = .ok (.iaload, 1)) (hp : pc + 1 = pc') (hin : vp_in i X.2.2.2.2.2.2.1) (kk : Sim X y cc nL ret F Lo n0 s0 pc' ls (.int (X.2.2.2.2.2.2.2 (ix i)) :: st) u o k) : Sim X y cc nL ret F Lo n0 s0 pc ls (.int i :: .ref X.2.2.2.2.2.1 :: st) u o k := by
  subst hp
  exact sm_step (fun p e R' s m args below meth c H locs lsA cells slots Q hF hfr hlo hce hsl hR hV hl hsz w => va_sld hF.1 hF.2.1 hF.2.2.2.2.2.2.2.2.2.2.2.2.2.1.1 (Nat.lt_of_lt_of_le hF.2.2.2.2.2.2.2.2.2.2.2.2.2.1.2 hF.lo) (by show ¬ X.1 ≤ _; exact Nat.not_le.mpr hF.2.2.2.2.2.2.2.2.2.2.2.2.2.1.2) hV hin hd (w H locs lsA hR hV hl)) rfl kk
theorem s_slen (hd : decode cc pc = .ok (.arraylength, 1)) (hp : pc + 1 = pc') (kk : Sim X y cc nL ret F Lo n0 s0 pc' ls (.int (Int32.ofNat X.2.2.2.2.2.2.1) :: st) u o k) : Sim X y cc nL ret F Lo n0 s0 pc ls (.ref X.2.2.2.2.2.1 :: st) u o k := by
  subst hp
  exact sm_step (fun p e R' s m args below meth c H locs lsA cells slots Q hF hfr hlo hce hsl hR hV hl hsz w => va_slen hF.1 hF.2.1 hF.2.2.2.2.2.2.2.2.2.2.2.2.2.1.1 (Nat.lt_of_lt_of_le hF.2.2.2.2.2.2.2.2.2.2.2.2.2.1.2 hF.lo) (by show ¬ X.1 ≤ _; exact Nat.not_le.mpr hF.2.2.2.2.2.2.2.2.2.2.2.2.2.1.2) hV hd (w H locs lsA hR hV hl)) rfl kk
end HEAP2
