/-! THE TEXT: the reference's stack and code -/
def okT (v : Nat) : Prop := v = 21 ∨ v = 38 ∨ v = 124 ∨ v = 37 ∨ v = 42 ∨ v = 43 ∨ v = 45 ∨ v = 47 ∨ v = 60 ∨ v = 61 ∨ v = 62
def tg (v : Nat) : Nat := if v = 21 then 3 else if v = 38 then 2 else if v = 43 then 5 else if v = 45 then 5 else if v = 60 then 4 else if v = 61 then 4 else if v = 62 then 4 else if v = 124 then 1 else 6
/-- the class's step for an entry -/
def eo (v : Nat) : Int32 := if v = 21 then 20025 else if v = 38 then 20024 else if v = 124 then 20023 else 20000 + Int32.ofNat v
def nots : List Nat → Nat
  | [] => 0
  | v :: r => nots r + if v = 21 then 1 else 0
def hrl : List Nat → Bool
  | [] => false
  | v :: r => if v = 20 then false else if 4 < tg v then hrl r else decide (tg v = 4)
def mno : List Nat → Bool
  | [] => true
  | v :: _ => decide (v = 20) || decide (tg v < 4)
def stp (p : Nat) : List Nat → Prop
  | [] => True
  | v :: _ => v = 20 ∨ (okT v ∧ tg v < p)
def SkA : List Nat → MI → Prop
  | [], _ => True
  | v :: r, J => J 110 r.length = Int32.ofNat v ∧ SkA r J
def CdA (C : List Int32) (s : Nat) (J : MI) : Prop := J 106 s = Int32.ofNat C.length ∧ ∀ i (h : i < C.length), rst C[i] (J 104 (320 * s + i)) (J 105 (320 * s + i))
def RF (T : Nat → Nat) (N s q u U d : Nat) (st : List Nat) (C : List Int32) (J : MI) (M : ML) : Prop :=
  RTx T N J ∧ RLx T N q J M ∧ q ≤ N ∧ J 102 2 = 0 ∧ J 102 3 = -1 ∧ J 102 18 = Int32.ofNat s ∧ CdA C s J ∧ J 102 19 = Int32.ofNat st.length ∧ SkA st J ∧ J 102 20 = Int32.ofNat U ∧ J 102 22 = Int32.ofNat u ∧ J 102 23 = Int32.ofNat d
def RFm (s : Nat) (J J' : MI) : Prop := (∀ x, x ≠ 102 → x ≠ 104 → x ≠ 105 → x ≠ 106 → x ≠ 110 → J' x = J x) ∧ (∀ j, j ≠ 2 → j ≠ 3 → j ≠ 4 → j ≠ 6 → j ≠ 7 → j ≠ 8 → j ≠ 19 → j ≠ 20 → j ≠ 22 → j ≠ 23 → J' 102 j = J 102 j) ∧ (∀ i, i ≠ s → J' 106 i = J 106 i) ∧ ∀ i, i < 320 * s ∨ 320 * s + 320 ≤ i → J' 104 i = J 104 i ∧ J' 105 i = J 105 i
section RFX
variable {T : Nat → Nat} {N s q u U d n p : Nat} {st τ σ : List Nat} {C : List Int32} {J J' J'' : MI} {M M' : ML}
theorem RFm.refl : RFm s J J := ⟨fun _ _ _ _ _ _ => rfl, fun _ _ _ _ _ _ _ _ _ _ _ => rfl, fun _ _ => rfl, fun _ _ => ⟨rfl, rfl⟩⟩
theorem RFm.trans (h : RFm s J J') (k : RFm s J' J'') : RFm s J J'' :=
  ⟨fun x a b c e f => (k.1 x a b c e f).trans (h.1 x a b c e f), fun j a b c e f g l m o r => (k.2.1 j a b c e f g l m o r).trans (h.2.1 j a b c e f g l m o r), fun i a => (k.2.2.1 i a).trans (h.2.2.1 i a), fun i a => ⟨(k.2.2.2 i a).1.trans (h.2.2.2 i a).1, (k.2.2.2 i a).2.trans (h.2.2.2 i a).2⟩⟩
theorem RFr.fm (h : RFr J J') : RFm s J J' :=
  ⟨fun x a _ _ _ _ => h.1 x a, fun j _ _ a b c e _ _ _ _ => h.2 j a b c e, fun i _ => by rw [h.1 106 (by omega)], fun i _ => by rw [h.1 104 (by omega), h.1 105 (by omega)]; exact ⟨rfl, rfl⟩⟩
theorem RFm.w {j : Nat} {v : Int32} (hj : j = 2 ∨ j = 3 ∨ j = 4 ∨ j = 6 ∨ j = 7 ∨ j = 8 ∨ j = 19 ∨ j = 20 ∨ j = 22 ∨ j = 23) : RFm s J (wI J 102 j v) :=
  ⟨fun x a _ _ _ _ => wI_c a, fun i _ _ _ _ _ _ _ _ _ _ => wI_ne (by omega), fun i _ => by rw [wI_c (by omega)], fun i _ => by rw [wI_c (by omega), wI_c (by omega)]; exact ⟨rfl, rfl⟩⟩
theorem RFm.w110 {i : Nat} {v : Int32} : RFm s J (wI J 110 i v) :=
  ⟨fun x _ _ _ _ a => wI_c a, fun i _ _ _ _ _ _ _ _ _ _ => wI_ne (by omega), fun i _ => by rw [wI_c (by omega)], fun i _ => by rw [wI_c (by omega), wI_c (by omega)]; exact ⟨rfl, rfl⟩⟩
theorem SkA.c : ∀ {st : List Nat}, SkA st J → J' 110 = J 110 → SkA st J'
  | [], _, _ => trivial
  | _ :: _, h, e => ⟨by rw [e]; exact h.1, SkA.c h.2 e⟩
theorem SkA.w {v : Int32} : ∀ {st : List Nat} {i : Nat}, st.length ≤ i → SkA st J → SkA st (wI J 110 i v)
  | [], _, _, _ => trivial
  | _ :: r, i, hi, h => by
    simp only [List.length_cons] at hi
    exact ⟨by rw [wI_ne (by omega)]; exact h.1, SkA.w (by omega) h.2⟩
theorem CdA.c (h : CdA C s J) (e4 : J' 104 = J 104) (e5 : J' 105 = J 105) (e6 : J' 106 = J 106) : CdA C s J' := ⟨by rw [e6]; exact h.1, fun i hi => by rw [e4, e5]; exact h.2 i hi⟩
theorem okT.lt {v : Nat} (h : okT v) : v < 256 ∧ v ≠ 20 ∧ 20 < v := by simp only [okT] at h; omega
theorem tg_le (v : Nat) : 1 ≤ tg v ∧ tg v ≤ 6 := by
  simp only [tg]
  repeat' split
  all_goals omega
theorem x_tight {v : Nat} (h : okT v) : x11_tight (Int32.ofNat v) J = some (Int32.ofNat (tg v)) := by
  rcases h with e | e | e | e | e | e | e | e | e | e | e <;> rw [e] <;> rfl
theorem x_add {so ar z : Int32} (hC : CdA C s J) (h18 : J 102 18 = Int32.ofNat s) (hs : s < 11) (hl : C.length < 320) (hr : rst z so ar) : ∃ J', x11_add so ar J = some J' ∧ CdA (C ++ [z]) s J' ∧ RFm s J J' ∧ (∀ x, x ≠ 104 → x ≠ 105 → x ≠ 106 → J' x = J x) := by
  obtain ⟨h1, h2⟩ := hC
  generalize hJ1 : wI J 104 (320 * s + C.length) so = J1
  generalize hJ2 : wI J1 105 (320 * s + C.length) ar = J2
  have f1 : ∀ x, x ≠ 104 → J1 x = J x := fun x hx => by rw [← hJ1, wI_c hx]
  have f2 : ∀ x, x ≠ 104 → x ≠ 105 → J2 x = J x := fun x hx hy => by rw [← hJ2, wI_c hy, f1 x hx]
  refine ⟨wI J2 106 s (Int32.ofNat (C.length + 1)), ?_, ⟨by rw [wI_at, List.length_append]; rfl, fun i hi => ?_⟩, ⟨fun x _ a b c _ => by rw [wI_c c, f2 x a b], fun j _ _ _ _ _ _ _ _ _ _ => by rw [wI_ne (by omega), f2 102 (by omega) (by omega)], fun i hi => by rw [wI_ne (by omega), f2 106 (by omega) (by omega)], fun i hi => ⟨by rw [wI_ne (by omega), ← hJ2, wI_ne (by omega), ← hJ1, wI_ne (by omega)], by rw [wI_ne (by omega), ← hJ2, wI_ne (by omega), f1 105 (by omega)]⟩⟩, fun x a b c => by rw [wI_c c, f2 x a b]⟩
  · have e1 : J 102 18 = Int32.ofNat s := h18
    simp (disch := omega) only [x11_add, h18, h1, QN, QB, hJ1]
    have e2 : J1 102 18 = Int32.ofNat s := by rw [f1 102 (by omega)]; exact h18
    have e3 : J1 106 s = Int32.ofNat C.length := by rw [f1 106 (by omega)]; exact h1
    simp (disch := omega) only [e2, e3, QN, QB, hJ2]
    have e4 : J2 102 18 = Int32.ofNat s := by rw [f2 102 (by omega) (by omega)]; exact h18
    have e5 : J2 106 s = Int32.ofNat C.length := by rw [f2 106 (by omega) (by omega)]; exact h1
    simp (disch := omega) only [e4, e5, QN, QB]
  · rw [wI_ne (by omega), wI_ne (by omega), ← hJ2]
    by_cases e : i < C.length
    · rw [wI_ne (by omega), wI_ne (by omega), ← hJ1, wI_ne (by omega), wI_ne (by omega), List.getElem_append_left e]
      exact h2 i e
    · rw [List.length_append, List.length_singleton] at hi
      obtain rfl : i = C.length := by omega
      rw [wI_at, wI_ne (by omega), ← hJ1, wI_at, List.getElem_append_right (Nat.le_refl _)]
      simpa using hr
theorem rst_eo {v : Nat} (h : okT v) (hv : v ≠ 21) : rst (eo v) 3 (Int32.ofNat v) := by
  rcases h with e | e | e | e | e | e | e | e | e | e | e <;> rw [e] <;> first | (exact absurd e hv) | (simp only [rst, eo]; decide)
theorem x_close (hs : s < 11) : ∀ (τ : List Nat) (C : List Int32) (d fu : Nat) (J : MI), (∀ v, v ∈ τ → okT v ∧ p ≤ tg v) → stp p σ → (τ ++ σ).length ≤ 100 → C.length + τ.length ≤ 320 → RF T N s q u U (d + nots τ) (τ ++ σ) C J M → d < 1000 → p < 1000 → τ.length < fu → ∃ J', x11_close_L0 (Int32.ofNat p) fu J = some J' ∧ RF T N s q u U d σ (C ++ τ.map eo) J' M ∧ RFm s J J' := by
  intro τ
  induction τ with
  | nil =>
    intro C d fu J _ hst hlen hC h hd hp hfu
    obtain ⟨fu, rfl⟩ : ∃ n', fu = n' + 1 := ⟨fu - 1, by omega⟩
    refine ⟨J, ?_, by simpa [nots] using h, RFm.refl⟩
    simp only [List.nil_append] at h hlen
    obtain ⟨k1, k2, k3, k4, k4', k5, k6, k7, k8, k9, k10, k11⟩ := h
    cases σ with
    | nil =>
      simp only [x11_close_L0, x11_close_L0s, k7]
      rfl
    | cons v r =>
      simp only [List.length_cons] at k7 hlen
      have k8' := k8.1
      simp (disch := omega) only [x11_close_L0, x11_close_L0s, k7, QN, QB, show (0 : Nat) < r.length + 1 by omega, if_true, Nat.add_sub_cancel, k8']
      rcases hst with e | ⟨e1, e2⟩
      · rw [e, if_pos (show Int32.ofNat 20 = 20 from rfl)]
      · have hl := e1.lt
        simp (disch := omega) only [QN, QB, x_tight e1, if_neg hl.2.1, if_pos e2]
  | cons v r ih =>
    intro C d fu J hτ hst hlen hC h hd hp hfu
    obtain ⟨fu, rfl⟩ : ∃ n', fu = n' + 1 := ⟨fu - 1, by omega⟩
    obtain ⟨hv, hpv⟩ := hτ v (List.mem_cons_self ..)
    have hl := hv.lt
    have htl := tg_le v
    simp only [List.length_cons, List.cons_append] at hlen hC h hfu
    obtain ⟨k1, k2, k3, k4, k4', k5, k6, k7, k8, k9, k10, k11⟩ := h
    simp only [List.length_cons] at k7
    have k8' := k8.1
    generalize hJ1 : wI J 102 19 (Int32.ofNat (r ++ σ).length) = J1
    have f1 : ∀ x, x ≠ 102 → J1 x = J x := fun x hx => by rw [← hJ1, wI_c hx]
    have f2 : ∀ j, j ≠ 19 → J1 102 j = J 102 j := fun j hj => by rw [← hJ1, wI_ne (by omega)]
    have g19 : J1 102 19 = Int32.ofNat (r ++ σ).length := by rw [← hJ1, wI_at]
    have g110 : J1 110 (r ++ σ).length = Int32.ofNat v := by rw [f1 110 (by omega)]; exact k8'
    have gC : CdA C s J1 := k6.c (f1 104 (by omega)) (f1 105 (by omega)) (f1 106 (by omega))
    have g18 : J1 102 18 = Int32.ofNat s := by rw [f2 18 (by omega)]; exact k5
    have fr1 : RFm s J J1 := by rw [← hJ1]; exact RFm.w (by omega)
    have m1 : x11_close_L0 (Int32.ofNat p) (fu + 1) J = (if Int32.ofNat v = 21 then b1 (x11_add 2 0 J1) fun I8 => lt (wI I8 102 23 ((I8 102 23) - 1)) fun I9 => x11_close_L0 (Int32.ofNat p) fu I9 else b1 (x11_add 3 (Int32.ofNat v) J1) fun I7 => x11_close_L0 (Int32.ofNat p) fu I7) := by
      simp (disch := omega) only [x11_close_L0, x11_close_L0s, k7, QN, QB, show (0 : Nat) < (r ++ σ).length + 1 by omega, if_true, Nat.add_sub_cancel, k8', if_neg hl.2.1, x_tight hv, if_neg (show ¬ tg v < p by omega), hJ1, g19, g110]
    by_cases e21 : v = 21
    · obtain ⟨J2, a1, a2, a3, a4⟩ := x_add (z := eo v) gC g18 hs (by omega) (show rst (eo v) 2 0 from Or.inr (Or.inr (Or.inl ⟨by rw [eo, if_pos e21], rfl⟩)))
      have e23 : J2 102 23 = Int32.ofNat (d + nots (v :: r)) := by rw [a4 102 (by omega) (by omega) (by omega), f2 23 (by omega)]; exact k11
      have en : d + nots (v :: r) = d + nots r + 1 := by simp only [nots, if_pos e21]; omega
      have hRF : RF T N s q u U (d + nots r) (r ++ σ) (C ++ [eo v]) (wI J2 102 23 (Int32.ofNat (d + nots r))) M := by
        have b1' : ∀ j, j ≠ 19 → j ≠ 23 → wI J2 102 23 (Int32.ofNat (d + nots r)) 102 j = J 102 j := fun j h1 h2 => by rw [wI_ne (by omega), a4 102 (by omega) (by omega) (by omega), f2 j h1]
        have b2' : ∀ x, x ≠ 102 → x ≠ 104 → x ≠ 105 → x ≠ 106 → wI J2 102 23 (Int32.ofNat (d + nots r)) x = J x := fun x h1 h2 h3 h4 => by rw [wI_c h1, a4 x h2 h3 h4, f1 x h1]
        refine ⟨⟨k1.1, fun i hi => by rw [b2' 103 (by omega) (by omega) (by omega) (by omega)]; exact k1.2.1 i hi, k1.2.2⟩, ⟨by rw [b1' 5 (by omega) (by omega)]; exact k2.1, by rw [b1' 7 (by omega) (by omega)]; exact k2.2.1, by rw [b1' 6 (by omega) (by omega)]; exact k2.2.2.1, by rw [b1' 4 (by omega) (by omega)]; exact k2.2.2.2.1, fun h => by rw [b1' 8 (by omega) (by omega)]; exact k2.2.2.2.2.1 h, k2.2.2.2.2.2⟩, k3, by rw [b1' 2 (by omega) (by omega)]; exact k4, by rw [b1' 3 (by omega) (by omega)]; exact k4', by rw [b1' 18 (by omega) (by omega)]; exact k5, a2.c (wI_c (by omega)) (wI_c (by omega)) (wI_c (by omega)), by rw [wI_ne (by omega), a4 102 (by omega) (by omega) (by omega)]; exact g19, k8.2.c (b2' 110 (by omega) (by omega) (by omega) (by omega)), by rw [b1' 20 (by omega) (by omega)]; exact k9, by rw [b1' 22 (by omega) (by omega)]; exact k10, wI_at⟩
      obtain ⟨J', c1, c2, c3⟩ := ih (C ++ [eo v]) d fu _ (fun w hw => hτ w (List.mem_cons_of_mem _ hw)) hst (by omega) (by rw [List.length_append, List.length_singleton]; omega) hRF hd hp (by omega)
      refine ⟨J', ?_, ?_, ((fr1.trans a3).trans (RFm.w (by omega))).trans c3⟩
      · rw [m1, e21, if_pos (show Int32.ofNat 21 = 21 from rfl), a1, q_b1, e23, en, q_subn (by show 1 ≤ _; omega), q_l, show (d + nots r + 1 - (OfNat.ofNat 1 : Nat)) = d + nots r from Nat.add_sub_cancel .., c1]
      · rw [List.append_assoc] at c2; exact c2
    · obtain ⟨J2, a1, a2, a3, a4⟩ := x_add (z := eo v) gC g18 hs (by omega) (rst_eo hv e21)
      have en : d + nots (v :: r) = d + nots r := by simp only [nots, if_neg e21]; omega
      rw [en] at k11
      have hRF : RF T N s q u U (d + nots r) (r ++ σ) (C ++ [eo v]) J2 M := by
        have b1' : ∀ j, j ≠ 19 → J2 102 j = J 102 j := fun j h1 => by rw [a4 102 (by omega) (by omega) (by omega), f2 j h1]
        have b2' : ∀ x, x ≠ 102 → x ≠ 104 → x ≠ 105 → x ≠ 106 → J2 x = J x := fun x h1 h2 h3 h4 => by rw [a4 x h2 h3 h4, f1 x h1]
        refine ⟨⟨k1.1, fun i hi => by rw [b2' 103 (by omega) (by omega) (by omega) (by omega)]; exact k1.2.1 i hi, k1.2.2⟩, ⟨by rw [b1' 5 (by omega)]; exact k2.1, by rw [b1' 7 (by omega)]; exact k2.2.1, by rw [b1' 6 (by omega)]; exact k2.2.2.1, by rw [b1' 4 (by omega)]; exact k2.2.2.2.1, fun h => by rw [b1' 8 (by omega)]; exact k2.2.2.2.2.1 h, k2.2.2.2.2.2⟩, k3, by rw [b1' 2 (by omega)]; exact k4, by rw [b1' 3 (by omega)]; exact k4', by rw [b1' 18 (by omega)]; exact k5, a2, by rw [a4 102 (by omega) (by omega) (by omega)]; exact g19, k8.2.c (b2' 110 (by omega) (by omega) (by omega) (by omega)), by rw [b1' 20 (by omega)]; exact k9, by rw [b1' 22 (by omega)]; exact k10, by rw [b1' 23 (by omega)]; exact k11⟩
      obtain ⟨J', c1, c2, c3⟩ := ih (C ++ [eo v]) d fu _ (fun w hw => hτ w (List.mem_cons_of_mem _ hw)) hst (by omega) (by rw [List.length_append, List.length_singleton]; omega) hRF hd hp (by omega)
      refine ⟨J', ?_, ?_, (fr1.trans a3).trans c3⟩
      · rw [m1, if_neg (by rw [q_eqn (by omega) (by omega)]; exact e21), a1, q_b1, c1]
      · rw [List.append_assoc] at c2; exact c2
theorem SkA.any : ∀ {st : List Nat}, SkA st J → (∀ v, v ∈ st → v < 256) → ((∃ i, i < st.length ∧ J 110 i = 20) ↔ 20 ∈ st)
  | [], _, _ => ⟨fun ⟨i, hi, _⟩ => by simp at hi, fun h => by simp at h⟩
  | v :: r, h, hv => by
    have ih := SkA.any h.2 (fun w hw => hv w (List.mem_cons_of_mem _ hw))
    have hv1 := hv v (List.mem_cons_self ..)
    have e1 : (J 110 r.length = 20) ↔ v = 20 := by rw [h.1, q_eqn (by omega) (by omega)]
    constructor
    · rintro ⟨i, hi, hh⟩
      simp only [List.length_cons] at hi
      by_cases e : i = r.length
      · subst e
        rw [e1.mp hh]; exact List.mem_cons_self ..
      · exact List.mem_cons_of_mem _ (ih.mp ⟨i, by omega, hh⟩)
    · intro hm
      rcases List.mem_cons.mp hm with e | e
      · exact ⟨r.length, by simp, e1.mpr e.symm⟩
      · obtain ⟨i, hi, hh⟩ := ih.mpr e
        exact ⟨i, by simp only [List.length_cons]; omega, hh⟩
theorem x_hbL {m : Nat} (h19 : J 102 19 = Int32.ofNat m) (hm : m ≤ 160) : ∀ (k i fu : Nat) (f : Bool), i + k = m → k < fu → ∃ g : Bool, x11_hasBracket_L4 J fu (if f = true then 1 else 0) (Int32.ofNat i) = some (if g = true then 1 else 0) ∧ (g = true ↔ f = true ∨ ∃ j, i ≤ j ∧ j < m ∧ J 110 j = 20)
  | 0, i, fu, f, hi, hfu => by
    obtain ⟨fu, rfl⟩ : ∃ n', fu = n' + 1 := ⟨fu - 1, by omega⟩
    refine ⟨f, ?_, ⟨Or.inl, fun h => by rcases h with h | ⟨j, h1, h2, _⟩; exact h; omega⟩⟩
    simp (disch := omega) only [x11_hasBracket_L4, x11_hasBracket_L4s, h19, QN, if_neg (show ¬ i < m by omega)]
  | k + 1, i, fu, f, hi, hfu => by
    obtain ⟨fu, rfl⟩ : ∃ n', fu = n' + 1 := ⟨fu - 1, by omega⟩
    cases f with
    | true =>
      obtain ⟨g, a1, a2⟩ := x_hbL h19 hm k (i + 1) fu true (by omega) (by omega)
      refine ⟨g, ?_, ⟨fun _ => Or.inl rfl, fun _ => a2.mpr (Or.inl rfl)⟩⟩
      simp (disch := omega) only [x11_hasBracket_L4, x11_hasBracket_L4s, h19, QN, QB, if_pos (show i < m by omega), if_true, if_false]
      exact a1
    | false =>
      by_cases e : J 110 i = 20
      · obtain ⟨g, a1, a2⟩ := x_hbL h19 hm k (i + 1) fu true (by omega) (by omega)
        refine ⟨g, ?_, ⟨fun _ => Or.inr ⟨i, by omega, by omega, e⟩, fun _ => a2.mpr (Or.inl rfl)⟩⟩
        simp (disch := omega) only [x11_hasBracket_L4, x11_hasBracket_L4s, h19, QN, QB, if_pos (show i < m by omega), if_true, if_false, Bool.false_eq_true, if_pos e]
        exact a1
      · obtain ⟨g, a1, a2⟩ := x_hbL h19 hm k (i + 1) fu false (by omega) (by omega)
        refine ⟨g, ?_, ⟨fun h => ?_, fun h => ?_⟩⟩
        · simp (disch := omega) only [x11_hasBracket_L4, x11_hasBracket_L4s, h19, QN, QB, if_pos (show i < m by omega), if_true, if_false, Bool.false_eq_true, if_neg e]
          exact a1
        · rcases a2.mp h with h | ⟨j, h1, h2, h3⟩
          · exact Or.inl h
          · exact Or.inr ⟨j, by omega, h2, h3⟩
        · rcases h with h | ⟨j, h1, h2, h3⟩
          · exact a2.mpr (Or.inl h)
          · by_cases ej : j = i
            · subst ej; exact absurd h3 e
            · exact a2.mpr (Or.inr ⟨j, by omega, h2, h3⟩)
theorem x_hasBr (h19 : J 102 19 = Int32.ofNat st.length) (hS : SkA st J) (hv : ∀ v, v ∈ st → v < 256) (hl : st.length ≤ 160) : x11_hasBracket J = some (if 20 ∈ st then 1 else 0) := by
  obtain ⟨g, a1, a2⟩ := x_hbL h19 hl st.length 0 FU false (by omega) (by unfold FU; omega)
  have e : (g = true) = (20 ∈ st) := by
    rw [← SkA.any hS hv]
    apply propext
    rw [a2]
    constructor
    · rintro (h | ⟨j, -, h1, h2⟩)
      · cases h
      · exact ⟨j, h1, h2⟩
    · rintro ⟨j, h1, h2⟩
      exact Or.inr ⟨j, by omega, h1, h2⟩
  simp only [Bool.false_eq_true, if_false, show Int32.ofNat 0 = 0 from rfl] at a1
  simp only [x11_hasBracket, q_l, a1, q_b1, e]
  rw [ck_pos (by split <;> simp)]
theorem x_hrL : ∀ (st : List Nat) (fu : Nat), SkA st J → (∀ v, v ∈ st → v = 20 ∨ okT v) → st.length ≤ 160 → st.length < fu → (x11_hasRelation_L7 J fu (Int32.ofNat st.length - 1) = some (-1) ∧ hrl st = false) ∨ ∃ i, i < st.length ∧ x11_hasRelation_L7 J fu (Int32.ofNat st.length - 1) = some (Int32.ofNat i) ∧ ((J 110 i = 20 ∧ hrl st = false) ∨ ∃ v, okT v ∧ J 110 i = Int32.ofNat v ∧ hrl st = decide (tg v = 4))
  | [], fu, _, _, _, hfu => by
    obtain ⟨fu, rfl⟩ : ∃ n', fu = n' + 1 := ⟨fu - 1, by omega⟩
    exact Or.inl ⟨rfl, rfl⟩
  | v :: r, fu, h, hv, hl, hfu => by
    obtain ⟨fu, rfl⟩ : ∃ n', fu = n' + 1 := ⟨fu - 1, by omega⟩
    simp only [List.length_cons] at hl hfu ⊢
    have e0 : Int32.ofNat (r.length + 1) - 1 = Int32.ofNat r.length := by rw [q_subn (by show 1 ≤ _; omega)]; rfl
    have hv1 := hv v (List.mem_cons_self ..)
    have h1 := h.1
    rw [e0]
    by_cases e20 : v = 20
    · refine Or.inr ⟨r.length, by omega, ?_, Or.inl ⟨by rw [h1, e20]; rfl, by simp only [hrl, if_pos e20]⟩⟩
      simp (disch := omega) only [x11_hasRelation_L7, x11_hasRelation_L7s, q_neg, if_false, QN, q_ck, h1, e20, if_true]
    · have ho : okT v := by rcases hv1 with h | h; exact absurd h e20; exact h
      have htl := tg_le v
      have hlt := ho.lt
      by_cases e4 : 4 < tg v
      · have ih := x_hrL r fu h.2 (fun w hw => hv w (List.mem_cons_of_mem _ hw)) (by omega) (by omega)
        have e1 : x11_hasRelation_L7 J (fu + 1) (Int32.ofNat r.length) = x11_hasRelation_L7 J fu (Int32.ofNat r.length - 1) := by
          rw [x11_hasRelation_L7]
          have es : Int32.ofNat r.length + (-1) = Int32.ofNat r.length - 1 := (Int32.sub_eq_add_neg ..).symm
          simp (disch := omega) only [x11_hasRelation_L7s, q_neg, if_false, QN, q_ck, h1, if_neg e20, x_tight ho, q_b1, if_pos e4, q_l, es]
        have e2 : hrl (v :: r) = hrl r := by simp only [hrl, if_neg e20, if_pos e4]
        rw [e1, e2]
        rcases ih with ih | ⟨i, i1, i2, i3⟩
        · exact Or.inl ih
        · exact Or.inr ⟨i, by omega, i2, i3⟩
      · refine Or.inr ⟨r.length, by omega, ?_, Or.inr ⟨v, ho, h1, by simp only [hrl, if_neg e20, if_neg e4]⟩⟩
        rw [x11_hasRelation_L7]
        simp (disch := omega) only [x11_hasRelation_L7s, q_neg, if_false, QN, q_ck, h1, if_neg e20, x_tight ho, q_b1, if_neg e4, q_l]
theorem x_hasRel (h19 : J 102 19 = Int32.ofNat st.length) (hS : SkA st J) (hv : ∀ v, v ∈ st → v = 20 ∨ okT v) (hl : st.length ≤ 160) : x11_hasRelation J = some (if hrl st = true then 1 else 0) := by
  rcases x_hrL st FU hS hv hl (by unfold FU; omega) with ⟨a1, a2⟩ | ⟨i, i1, a1, a2⟩
  · simp only [x11_hasRelation, h19, q_l, a1, q_b1, a2]
    rfl
  · rw [x11_hasRelation, h19, q_l, a1, q_b1, if_neg (by rw [q_neg (by omega)]; exact id), q_in (by omega) (by omega), q_ck, show ix (Int32.ofNat i) = i from q_ix (by omega)]
    rcases a2 with ⟨a2, a3⟩ | ⟨v, a2, a3, a4⟩
    · rw [if_pos a2, a3]; rfl
    · have htl := tg_le v
      have hlt := a2.lt
      rw [a3, if_neg (by rw [q_eqn (by omega) (by omega)]; exact hlt.2.1), q_ck, x_tight a2, q_b1, a4]
      by_cases e : tg v = 4
      · rw [e]; rfl
      · rw [if_neg (by rw [q_eqn (by omega) (by omega)]; exact e), if_neg (by simp [e])]
theorem x_mayNot (h19 : J 102 19 = Int32.ofNat st.length) (hS : SkA st J) (hv : ∀ v, v ∈ st → v = 20 ∨ okT v) (hl : st.length ≤ 160) : x11_mayNot J = some (if mno st = true then 1 else 0) := by
  cases st with
  | nil =>
    simp only [x11_mayNot, h19]
    rfl
  | cons v r =>
    simp only [List.length_cons] at h19 hl
    have h1 := hS.1
    have hv1 := hv v (List.mem_cons_self ..)
    simp (disch := omega) only [x11_mayNot, h19, QN, QB, Nat.add_sub_cancel, h1]
    rw [if_neg (by simp)]
    by_cases e20 : v = 20
    · rw [e20, if_pos (show Int32.ofNat 20 = 20 from rfl)]; rfl
    · have ho : okT v := by rcases hv1 with h | h; exact absurd h e20; exact h
      have htl := tg_le v
      have hlt := ho.lt
      rw [if_neg (by rw [q_eqn (by omega) (by omega)]; exact e20), x_tight ho, q_b1]
      by_cases e : tg v < 4
      · rw [if_pos (by rw [q_ltn (by omega) (by omega)]; exact e), if_pos (by simp [mno, e])]
      · rw [if_neg (by rw [q_ltn (by omega) (by omega)]; exact e), if_neg (by simp [mno, e, e20])]
theorem x_isFull {u U : Nat} (h20 : J 102 20 = Int32.ofNat U) (h22 : J 102 22 = Int32.ofNat u) (hU : U < 1000) (hu : u < 1000) : x11_isFull J = some (if U = 90 ∨ u = 30 then 1 else 0) := by
  rw [x11_isFull, h20, h22]
  by_cases e : U = 90
  · rw [if_pos (by rw [e]; rfl), if_pos (Or.inl e)]
  · rw [if_neg (by rw [q_eqn (by omega) (by omega)]; exact e)]
    by_cases e2 : u = 30
    · rw [if_pos (by rw [e2]; rfl), if_pos (Or.inr e2)]
    · rw [if_neg (by rw [q_eqn (by omega) (by omega)]; exact e2), if_neg (by omega)]
end RFX
