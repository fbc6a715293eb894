/-! THE TEXT: the class's side of a formula -/
def CF (T : Nat → Nat) (N t b q u U : Nat) (c : List Int32) (I : MI) (L : ML) : Prop :=
  CTx T N I ∧ CWd L ∧ q ≤ N ∧ CLx T N q I L ∧ I 20 8 = 0 ∧ I 20 9 = -1 ∧ I 20 7 = Int32.ofNat u ∧ I (t + 13) 5 = Int32.ofNat U ∧ I (t + 13) 4 = Int32.ofNat (b + c.length) ∧ ∀ i (h : i < c.length), I (t + 14) (b + i) = c[i]
def CFm (t b : Nat) (I I' : MI) : Prop := (∀ x, x ≠ 20 → x ≠ 21 → x ≠ t + 13 → x ≠ t + 14 → I' x = I x) ∧ (∀ j, j ≠ 7 → j ≠ 8 → j ≠ 9 → I' 20 j = I 20 j) ∧ (∀ j, j ≠ 4 → j ≠ 5 → I' (t + 13) j = I (t + 13) j) ∧ ∀ i, i < b → I' (t + 14) i = I (t + 14) i
def CLm (L L' : ML) : Prop := ∀ x, x ≠ 21 → L' x = L x
def FltC (T : Nat → Nat) (N t b q : Nat) (I I' : MI) : Prop := I' 20 8 = fkd T N q 2 ∧ I' 20 9 = Int32.ofNat q ∧ (∃ S, b ≤ S ∧ S ≤ 640 ∧ I' (t + 13) 4 = Int32.ofNat S) ∧ CFm t b I I'
section CFX
variable {T : Nat → Nat} {N t b q u U : Nat} {c : List Int32} {I I' I'' : MI} {L L' L'' : ML}
theorem CFm.refl : CFm t b I I := ⟨fun _ _ _ _ _ => rfl, fun _ _ _ _ => rfl, fun _ _ _ => rfl, fun _ _ => rfl⟩
theorem CFm.trans (h : CFm t b I I') (k : CFm t b I' I'') : CFm t b I I'' := ⟨fun x a e f g => (k.1 x a e f g).trans (h.1 x a e f g), fun j a e f => (k.2.1 j a e f).trans (h.2.1 j a e f), fun j a e => (k.2.2.1 j a e).trans (h.2.2.1 j a e), fun i a => (k.2.2.2 i a).trans (h.2.2.2 i a)⟩
theorem CLm.refl : CLm L L := fun _ _ => rfl
theorem CLm.trans (h : CLm L L') (k : CLm L' L'') : CLm L L'' := fun x a => (k x a).trans (h x a)
theorem C_nx (ht : t = 2 ∨ t = 28) (h : CF T N t b q u U c I L) (hs : tks T N q ≠ 29) : ∃ I' L', x3_next I L = some (I', L') ∧ CF T N t b (tkn T N q) u U c I' L' ∧ CFm t b I I' ∧ CLm L L' := by
  obtain ⟨k1, k2, k3, k4, k5, k6, k7, k8, k9, k10⟩ := h
  obtain ⟨I', L', a1, a2, a3, a4⟩ := c_nxt k1 k2 k3 k4 hs
  have e20 := a3 20 (by omega)
  have e13 := a3 (t + 13) (by omega)
  have e14 := a3 (t + 14) (by omega)
  exact ⟨I', L', a1, ⟨⟨k1.1, fun i hi => by rw [a3 1 (by omega)]; exact k1.2.1 i hi, k1.2.2⟩, fun i hi => by rw [a4 22 (by omega)]; exact k2 i hi, (tkn_le k3).2, a2, by rw [e20]; exact k5, by rw [e20]; exact k6, by rw [e20]; exact k7, by rw [e13]; exact k8, by rw [e13]; exact k9, fun i hi => by rw [e14]; exact k10 i hi⟩, ⟨fun x _ h _ _ => a3 x h, fun j _ _ _ => by rw [e20], fun j _ _ => by rw [e13], fun i _ => by rw [e14]⟩, a4⟩
theorem CF.cd (h : CF T N t b q u U c I L) {v : Nat} (hv : v < 256) : (I 21 4 = Int32.ofNat v) = (tks T N q = v) := by
  have := tks_lt (T := T) (N := N) (q := q) (h.1.2.2 q)
  rw [h.2.2.2.1.2.2.1, q_eq (by omega) (by omega)]
theorem c_failk (ht : t = 2 ∨ t = 28) (h : CF T N t b q u U c I L) (hb : b + c.length ≤ 640) (k : Int32) : ∃ I', x5_fail k I = some (0, I') ∧ I' 20 8 = fkd T N q k ∧ I' 20 9 = Int32.ofNat q ∧ (∃ S, b ≤ S ∧ S ≤ 640 ∧ I' (t + 13) 4 = Int32.ofNat S) ∧ CFm t b I I' ∧ (∀ j, j ≠ 8 → j ≠ 9 → I' 20 j = I 20 j) ∧ ∀ x, x ≠ 20 → I' x = I x := by
  have e29 : (I 21 4 = 29) = (tks T N q = 29) := h.cd (v := 29) (by omega)
  obtain ⟨k1, k2, k3, k4, k5, k6, k7, k8, k9, k10⟩ := h
  have e5 : ∀ v, wI I 20 8 v 21 5 = Int32.ofNat q := fun v => by rw [wI_c (by omega)]; exact k4.2.1
  have hg : ∀ v, (wI (wI I 20 8 v) 20 9 (Int32.ofNat q)) 20 8 = v ∧ (wI (wI I 20 8 v) 20 9 (Int32.ofNat q)) 20 9 = Int32.ofNat q ∧ (∃ S, b ≤ S ∧ S ≤ 640 ∧ (wI (wI I 20 8 v) 20 9 (Int32.ofNat q)) (t + 13) 4 = Int32.ofNat S) ∧ CFm t b I (wI (wI I 20 8 v) 20 9 (Int32.ofNat q)) ∧ (∀ j, j ≠ 8 → j ≠ 9 → (wI (wI I 20 8 v) 20 9 (Int32.ofNat q)) 20 j = I 20 j) ∧ ∀ x, x ≠ 20 → (wI (wI I 20 8 v) 20 9 (Int32.ofNat q)) x = I x := fun v =>
    ⟨by rw [wI_ne (by omega), wI_at], wI_at, ⟨b + c.length, by omega, hb, by rw [wI_c (by omega), wI_c (by omega)]; exact k9⟩, ⟨fun x hx _ _ _ => by rw [wI_c hx, wI_c hx], fun j _ h8 h9 => by rw [wI_ne (by omega), wI_ne (by omega)], fun j _ _ => by rw [wI_c (by omega), wI_c (by omega)], fun i _ => by rw [wI_c (by omega), wI_c (by omega)]⟩, fun j h8 h9 => by rw [wI_ne (by omega), wI_ne (by omega)], fun x hx => by rw [wI_c hx, wI_c hx]⟩
  by_cases e : tks T N q = 29
  · refine ⟨wI (wI I 20 8 1) 20 9 (Int32.ofNat q), ?_, by rw [(hg 1).1, fkd, if_pos e], (hg 1).2⟩
    rw [x5_fail, if_pos (e29.mpr e), q_l, q_l, e5]
  · refine ⟨wI (wI I 20 8 k) 20 9 (Int32.ofNat q), ?_, by rw [(hg k).1, fkd, if_neg e], (hg k).2⟩
    rw [x5_fail, if_neg (fun g => e (e29.mp g)), q_l, q_l, e5]
theorem C_fail (ht : t = 2 ∨ t = 28) (h : CF T N t b q u U c I L) (hb : b + c.length ≤ 640) : ∃ I', x5_fail 2 I = some (0, I') ∧ FltC T N t b q I I' := by
  obtain ⟨I', a1, a2, a3, a4, a5, -⟩ := c_failk ht h hb 2
  exact ⟨I', a1, a2, a3, a4, a5⟩
theorem FltC.of (h : FltC T N t b q I' I'') (k : CFm t b I I') : FltC T N t b q I I'' := ⟨h.1, h.2.1, h.2.2.1, k.trans h.2.2.2⟩
theorem x0a (ht : t = 2 ∨ t = 28) {S : Nat} (z : Int32) (h4 : I (t + 13) 4 = Int32.ofNat S) (hS : S ≤ 640) (hb : b ≤ S) : ∃ I', x0_add t z I = some I' ∧ (S < 640 → I' = wI (wI I (t + 14) S z) (t + 13) 4 (Int32.ofNat (S + 1))) ∧ (∃ S', b ≤ S' ∧ S' ≤ 640 ∧ I' (t + 13) 4 = Int32.ofNat S') ∧ CFm t b I I' ∧ ∀ x, x ≠ t + 13 → x ≠ t + 14 → I' x = I x := by
  by_cases h : S < 640
  · refine ⟨_, ?_, fun _ => rfl, ⟨S + 1, by omega, by omega, wI_at⟩, ⟨fun x _ _ a1 a2 => by rw [wI_c a1, wI_c a2], fun j _ _ _ => by rw [wI_c (by omega), wI_c (by omega)], fun j a1 _ => by rw [wI_ne (by omega), wI_c (by omega)], fun i hi => by rw [wI_c (by omega), wI_ne (by omega)]⟩, fun x a1 a2 => by rw [wI_c a1, wI_c a2]⟩
    have e4 : wI I (t + 14) S z (t + 13) 4 = Int32.ofNat S := by rw [wI_c (by omega)]; exact h4
    simp (disch := omega) only [x0_add, h4, QN, QB, if_pos h, e4]
  · refine ⟨I, ?_, fun g => absurd g h, ⟨S, hb, hS, h4⟩, CFm.refl, fun _ _ _ => rfl⟩
    simp (disch := omega) only [x0_add, h4, QN, if_neg h]
theorem C_add (ht : t = 2 ∨ t = 28) (h : CF T N t b q u U c I L) (hb : b + c.length < 640) (z : Int32) : ∃ I', x0_add t z I = some I' ∧ CF T N t b q u U (c ++ [z]) I' L ∧ CFm t b I I' := by
  obtain ⟨k1, k2, k3, k4, k5, k6, k7, k8, k9, k10⟩ := h
  obtain ⟨I', a1, a2, a3, a4, a5⟩ := x0a (b := b) ht z k9 (by omega) (by omega)
  have e := a2 hb
  have e20 := a5 20 (by omega) (by omega)
  have e21 := a5 21 (by omega) (by omega)
  refine ⟨I', a1, ⟨⟨k1.1, fun i hi => by rw [a5 1 (by omega) (by omega)]; exact k1.2.1 i hi, k1.2.2⟩, k2, k3, ?_, by rw [e20]; exact k5, by rw [e20]; exact k6, by rw [e20]; exact k7, by rw [e, wI_ne (by omega), wI_c (by omega)]; exact k8, by rw [e, wI_at, List.length_append]; rfl, fun i hi => ?_⟩, a4⟩
  · obtain ⟨l1, l2, l3, l4, l5, l6⟩ := k4
    exact ⟨by rw [e21]; exact l1, by rw [e21]; exact l2, by rw [e21]; exact l3, fun g => by rw [e21]; exact l4 g, fun g => by rw [e21]; exact l5 g, l6⟩
  · rw [e, wI_c (by omega)]
    by_cases ei : i < c.length
    · rw [wI_ne (by omega), List.getElem_append_left ei]
      exact k10 i ei
    · rw [List.length_append, List.length_singleton] at hi
      obtain rfl : i = c.length := by omega
      rw [wI_at, List.getElem_append_right (Nat.le_refl _)]
      simp
theorem C_addF (ht : t = 2 ∨ t = 28) (h : FltC T N t b q I I') (z : Int32) : ∃ I'', x0_addOperator t z I' = some I'' ∧ FltC T N t b q I I'' := by
  obtain ⟨h1, h2, ⟨S, s1, s2, s3⟩, h4⟩ := h
  obtain ⟨I'', a1, -, a3, a4, a5⟩ := x0a (b := b) ht (20000 + z) s3 s2 s1
  exact ⟨I'', by rw [x0_addOperator, a1]; rfl, by rw [a5 20 (by omega) (by omega)]; exact h1, by rw [a5 20 (by omega) (by omega)]; exact h2, a3, h4.trans a4⟩
theorem C_cnt (ht : t = 2 ∨ t = 28) (h : CF T N t b q u U c I L) : CF T N t b q (u + 1) (U + 1) c (wI (wI I 20 7 (Int32.ofNat (u + 1))) (t + 13) 5 (Int32.ofNat (U + 1))) L ∧ CFm t b I (wI (wI I 20 7 (Int32.ofNat (u + 1))) (t + 13) 5 (Int32.ofNat (U + 1))) := by
  obtain ⟨k1, k2, k3, k4, k5, k6, k7, k8, k9, k10⟩ := h
  refine ⟨⟨⟨k1.1, fun i hi => by rw [wI_c (by omega), wI_c (by omega)]; exact k1.2.1 i hi, k1.2.2⟩, k2, k3, ?_, by rw [wI_c (by omega), wI_ne (by omega)]; exact k5, by rw [wI_c (by omega), wI_ne (by omega)]; exact k6, by rw [wI_c (by omega), wI_at], wI_at, by rw [wI_ne (by omega), wI_c (by omega)]; exact k9, fun i hi => by rw [wI_c (by omega), wI_c (by omega)]; exact k10 i hi⟩, ⟨fun x a1 _ a2 _ => by rw [wI_c a2, wI_c a1], fun j a1 _ _ => by rw [wI_c (by omega), wI_ne (by omega)], fun j _ a1 => by rw [wI_ne (by omega), wI_c (by omega)], fun i _ => by rw [wI_c (by omega), wI_c (by omega)]⟩⟩
  have e21 : (wI (wI I 20 7 (Int32.ofNat (u + 1))) (t + 13) 5 (Int32.ofNat (U + 1))) 21 = I 21 := by rw [wI_c (by omega), wI_c (by omega)]
  obtain ⟨l1, l2, l3, l4, l5, l6⟩ := k4
  exact ⟨by rw [e21]; exact l1, by rw [e21]; exact l2, by rw [e21]; exact l3, fun g => by rw [e21]; exact l4 g, fun g => by rw [e21]; exact l5 g, l6⟩
end CFX
