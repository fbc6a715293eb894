/-! ORDERS: both count up the same orders -/
def oseen (q : Nat) (c : Nat) : Nat → Nat
  | 0 => 0
  | m + 1 => oseen q c m ||| 2 ^ (c / q ^ m % q)
def odl (q n c : Nat) : List Nat := (List.range n).map (fun i => c / q ^ (n - 1 - i) % q)
def cok (n c : Nat) : Bool := pc (oseen n c n) == n
def rok (n c : Nat) : Bool := oseen 4 c n == 2 ^ n - 1
def cL (n m : Nat) : List (List Nat) := ((List.range m).filter (cok n)).map (odl n n)
def rL (n m : Nat) : List (List Nat) := ((List.range m).filter (rok n)).map (odl 4 n)
theorem L_eq : ∀ n, n ≤ 4 → cL n (n ^ n) = rL n (4 ^ n) := by decide +kernel
theorem L_ne : ∀ n, n ≤ 4 → ¬ (cL n (n ^ n) = []) := by decide +kernel
theorem c_dig : ∀ n, n ≤ 4 → ∀ c, c < 256 → oseen n c n < 16 := by decide +kernel
theorem c_digm : ∀ n, n ≤ 4 → ∀ c, c < 256 → ∀ m, m ≤ n → oseen n c m < 16 := by decide +kernel
theorem r_dig : ∀ n, n ≤ 4 → ∀ c, c < 256 → ∀ m, m ≤ n → oseen 4 c m < 16 := by decide +kernel
theorem r_lt : ∀ n, n ≤ 4 → ∀ c, c < 256 → rok n c = true → c < 4 ^ n → ∀ m, m < n → c / 4 ^ m % 4 < n := by decide +kernel
def ostep (v : List Nat → Int32) (s : Int32 × List Nat) (l : List Nat) : Int32 × List Nat := if s.1 < v l then (v l, l) else s
def ofold (v : List Nat → Int32) (L : List (List Nat)) : Int32 × List Nat := L.foldl (ostep v) (-1, [])
theorem cL_s {n m : Nat} : cL n (m + 1) = if cok n m = true then cL n m ++ [odl n n m] else cL n m := by
  simp only [cL, List.range_succ, List.filter_append, List.map_append, List.filter_cons, List.filter_nil]
  split <;> simp
theorem rL_s {n m : Nat} : rL n (m + 1) = if rok n m = true then rL n m ++ [odl 4 n m] else rL n m := by
  simp only [rL, List.range_succ, List.filter_append, List.map_append, List.filter_cons, List.filter_nil]
  split <;> simp
theorem of_app {v : List Nat → Int32} {L : List (List Nat)} {l : List Nat} : ofold v (L ++ [l]) = ostep v (ofold v L) l := by simp [ofold, List.foldl_append]
theorem odl_at {q n c k : Nat} (hk : k < n) : (odl q n c).getD k 0 = c / q ^ (n - 1 - k) % q := by
  simp [odl, List.getD, hk]
def oval (D : TD) (C : TC) (P : PR) (N : Nat) (l : List Nat) : Int32 := (sor D C (fun k => l.getD k 0) P N).1
section OR
variable {D : TD} {C : TC} {m : Bool} {t : Nat} {P : PR} {I : MI}
theorem b2i_n (g : Bool) : ∃ c : Nat, c ≤ 1 ∧ b2i g = Int32.ofNat c := by cases g <;> simp only [b2i] <;> first | exact ⟨0, by omega, rfl⟩ | exact ⟨1, by omega, rfl⟩
theorem sor1_n {f : Nat → Nat} {s : Int32 × PR} {c : Nat} (hs : s.1 = Int32.ofNat c) : ∀ k, ∃ c', c' ≤ c + k ∧ (sor1 D C f k s).1 = Int32.ofNat c'
  | 0 => ⟨c, by omega, hs⟩
  | k + 1 => by
    obtain ⟨c1, h1, h2⟩ := sor1_n (f := f) hs k
    obtain ⟨c2, h3, h4⟩ := b2i_n (sturn D C (sor1 D C f k s).2 (f k) (sby D (f k))).1
    refine ⟨c1 + c2, by omega, ?_⟩
    simp only [sor1]
    rw [h2, h4, q_add]
theorem sor_n {f : Nat → Nat} : ∀ n, ∃ c, c ≤ n * nB D ∧ (sor D C f P n).1 = Int32.ofNat c
  | 0 => ⟨0, by omega, rfl⟩
  | n + 1 => by
    obtain ⟨c1, h1, h2⟩ := sor_n (f := f) n
    obtain ⟨c2, h3, h4⟩ := sor1_n (D := D) (C := C) (f := f) h2 (nB D)
    exact ⟨c2, by rw [Nat.add_mul]; omega, h4⟩
theorem oval_pos {N : Nat} {l : List Nat} (hB : nB D ≤ 4) (hN : N ≤ 10) : (-1 : Int32) < oval D C P N l := by
  obtain ⟨c, h1, h2⟩ := sor_n (D := D) (C := C) (P := P) (f := fun k => l.getD k 0) N
  rw [oval, h2, Int32.lt_iff_toInt_lt]
  have h3 : c ≤ 10 * 4 := Nat.le_trans h1 (Nat.mul_le_mul hN hB)
  rw [Int32.toInt_ofNat_of_lt (by omega), show (-1 : Int32).toInt = -1 from rfl]
  omega
theorem of_ne {v : List Nat → Int32} (hv : ∀ l, (-1 : Int32) < v l) {M : List (List Nat)} : ∀ (L : List (List Nat)) (s : Int32 × List Nat), (∀ l, l ∈ L → l ∈ M) → ((∃ l, l ∈ M ∧ s = (v l, l)) ∨ L ≠ [] ∧ s.1 = -1) → ∃ l, l ∈ M ∧ L.foldl (ostep v) s = (v l, l)
  | [], s, _, h => by
    rcases h with h | h
    · exact h
    · exact absurd rfl h.1
  | l :: L, s, hM, h => by
    simp only [List.foldl_cons]
    refine of_ne hv L _ (fun x hx => hM x (List.mem_cons_of_mem _ hx)) (Or.inl ?_)
    have hl := hM l List.mem_cons_self
    simp only [ostep]
    rcases h with ⟨l', hl', rfl⟩ | ⟨-, h⟩
    · split
      · exact ⟨l, hl, rfl⟩
      · exact ⟨l', hl', rfl⟩
    · rw [h, if_pos (hv l)]; exact ⟨l, hl, rfl⟩
theorem cL_len : ∀ n, n ≤ 4 → ∀ l, l ∈ cL n (n ^ n) → l.length = n := by decide +kernel
theorem c_isOrdL {n c : Nat} (hn : n ≤ 4) (hc : c < 256) : ∀ (j m fu : Nat) (I : MI), m + j = n → j < fu → ∃ I', x9_isOrder_L10 (Int32.ofNat n) fu (Int32.ofNat (c / n ^ m)) (Int32.ofNat (oseen n c m)) (Int32.ofNat j - 1) I = some (Int32.ofNat (oseen n c n), I') ∧ (∀ i, i < j → I' 80 i = Int32.ofNat (c / n ^ (n - 1 - i) % n)) ∧ (∀ i, j ≤ i → I' 80 i = I 80 i) ∧ ∀ d, d ≠ 80 → I' d = I d := by
  intro j
  induction j with
  | zero =>
    intro m fu I hm hf
    obtain ⟨fu, rfl⟩ : ∃ n', fu = n' + 1 := ⟨fu - 1, by omega⟩
    obtain rfl : m = n := by omega
    refine ⟨I, ?_, fun i h => by omega, fun _ _ => rfl, fun _ _ => rfl⟩
    rw [show Int32.ofNat 0 - 1 = -1 from rfl]
    simp only [x9_isOrder_L10, x9_isOrder_L10s]
    rw [if_pos (by decide)]
  | succ j ih =>
    intro m fu I hm hf
    obtain ⟨fu, rfl⟩ : ∃ n', fu = n' + 1 := ⟨fu - 1, by omega⟩
    have hn0 : 0 < n := by omega
    have hcm : c / n ^ m < 256 := Nat.lt_of_le_of_lt (Nat.div_le_self _ _) hc
    have hd : c / n ^ m % n < n := Nat.mod_lt _ hn0
    have hs := c_digm n hn c hc m (by omega)
    obtain ⟨I', h1, h2, h3, h4⟩ := ih (m + 1) fu (wI I 80 j (Int32.ofNat (c / n ^ m % n))) (by omega) (by omega)
    refine ⟨I', ?_, fun i hi => ?_, fun i hi => ?_, fun d hd => by rw [h4 d hd, wI_c hd]⟩
    · rw [q_ps]
      have e0 : (Int32.ofNat n = 0) = False := by
        rw [show (0 : Int32) = Int32.ofNat 0 from rfl, q_eq (by omega) (by omega)]; exact eq_false (by omega)
      have e1 : c / n ^ m / n = c / n ^ (m + 1) := by rw [Nat.div_div_eq_div_mul, Nat.pow_succ]
      simp (disch := omega) only [x9_isOrder_L10, x9_isOrder_L10s, QN, QB, if_false, e0, not_false_eq_true, wI_at, q_rm, q_div, or_n, q_pm, e1]
      exact h1
    · by_cases e : i = j
      · subst e; rw [h3 i (Nat.le_refl _), wI_at, show n - 1 - i = m by omega]
      · exact h2 i (by omega)
    · rw [h3 i (by omega), wI_ne (by omega)]
theorem c_isOrd {n c : Nat} (hn : n ≤ 4) (hc : c < 256) (I : MI) : ∃ I', x9_isOrder (Int32.ofNat c) (Int32.ofNat n) I = some (b2i (cok n c), I') ∧ (∀ i, i < n → I' 80 i = Int32.ofNat ((odl n n c).getD i 0)) ∧ ∀ d, d ≠ 80 → I' d = I d := by
  obtain ⟨I', h1, h2, -, h4⟩ := c_isOrdL hn hc n 0 FU I (by omega) (by unfold FU; omega)
  refine ⟨I', ?_, fun i hi => by rw [odl_at hi]; exact h2 i hi, h4⟩
  rw [show oseen n c 0 = 0 from rfl, show Int32.ofNat 0 = 0 from rfl, Nat.pow_zero, Nat.div_one] at h1
  have h16 := c_dig n hn c hc
  have hpc := pc_le (oseen n c n)
  simp (disch := omega) only [x9_isOrder, QB, h1, cnt_n, QN, cok]
  by_cases h : pc (oseen n c n) = n <;> simp [h, b2i]
theorem odl_lt {n c : Nat} (hn : n ≤ 4) (hc : c < 256) : ∀ k, k < n → (odl n n c).getD k 0 < n := fun k hk => by
  rw [odl_at hk]; exact Nat.mod_lt _ (by omega)
theorem c_ordL (hD : OkD D C) (ht : isT t) {N : Nat} (hN : N ≤ 10) (hP : OkP D P) : ∀ (j k n : Nat) (I : MI), k + j = nB D ^ nB D → j < n → Td I t D C → Rl D m I 47 P → ((ofold (oval D C P N) (cL (nB D) k)).2 ≠ [] → ∀ i, i < nB D → I 82 i = Int32.ofNat ((ofold (oval D C P N) (cL (nB D) k)).2.getD i 0)) →
    ∃ I', x9_findOrder_L41 t 47 (Int32.ofNat N) (Int32.ofNat (nB D)) (Int32.ofNat (nB D ^ nB D)) n (ofold (oval D C P N) (cL (nB D) k)).1 (Int32.ofNat k) I = some ((ofold (oval D C P N) (cL (nB D) (nB D ^ nB D))).1, I') ∧ ((ofold (oval D C P N) (cL (nB D) (nB D ^ nB D))).2 ≠ [] → ∀ i, i < nB D → I' 82 i = Int32.ofNat ((ofold (oval D C P N) (cL (nB D) (nB D ^ nB D))).2.getD i 0)) ∧ Ft t I I' := by
  have hB := hD.b
  have hpw : nB D ^ nB D ≤ 256 := by
    have : nB D = 0 ∨ nB D = 1 ∨ nB D = 2 ∨ nB D = 3 ∨ nB D = 4 := by omega
    rcases this with h | h | h | h | h <;> rw [h] <;> decide
  have e4 : (4 : Int32).toNatClampNeg = 4 := rfl
  intro j
  induction j with
  | zero =>
    intro k n I hk hn hT hR h82
    obtain ⟨n, rfl⟩ : ∃ n', n = n' + 1 := ⟨n - 1, by omega⟩
    obtain rfl : k = nB D ^ nB D := by omega
    refine ⟨I, ?_, h82, Ft.refl⟩
    simp (disch := omega) only [x9_findOrder_L41, x9_findOrder_L41s, QN]
    simp
  | succ j ih =>
    intro k n I hk hn hT hR h82
    obtain ⟨n, rfl⟩ : ∃ n', n = n' + 1 := ⟨n - 1, by omega⟩
    obtain ⟨I1, g1, g2, g3⟩ := c_isOrd (n := nB D) (c := k) hB (by omega) I
    have f1 : Ft t I I1 := fun c _ _ _ h => g3 c (by omega)
    simp (disch := omega) only [x9_findOrder_L41, x9_findOrder_L41s, QN, QB, if_pos (show k < nB D ^ nB D by omega), g1, b2i_0]
    by_cases hok : cok (nB D) k = true
    · simp only [hok, if_true]
      obtain ⟨I2, k1, k2, k3⟩ := c_gotIn (f := fun i => (odl (nB D) (nB D) k).getD i 0) hD ht (odl_lt hB (by omega)) hN (f1.td ht hT) g2 (f1.rl ht hR) hP
      have hL : cL (nB D) (k + 1) = cL (nB D) k ++ [odl (nB D) (nB D) k] := by rw [cL_s, if_pos hok]
      simp only [k1, QB]
      rw [show (sor D C (fun i => (odl (nB D) (nB D) k).getD i 0) P N).1 = oval D C P N (odl (nB D) (nB D) k) from rfl]
      by_cases hv : (ofold (oval D C P N) (cL (nB D) k)).1 < oval D C P N (odl (nB D) (nB D) k)
      · have hf : ofold (oval D C P N) (cL (nB D) (k + 1)) = (oval D C P N (odl (nB D) (nB D) k), odl (nB D) (nB D) k) := by rw [hL, of_app, ostep, if_pos hv]
        have f3 : Ft t I (cpI I2 80 82 0 0 4) := fun c h1 h2 h3 h4 => by rw [cpI_ne (by omega)]; exact (f1.trans k3) c h1 h2 h3 h4
        obtain ⟨I3, c1, c2, c3⟩ := ih (k + 1) n (cpI I2 80 82 0 0 4) (by omega) (by omega) (f3.td ht hT) (f3.rl ht hR) (fun _ i hi => by
          rw [hf, cpI_at (by rw [e4]; omega), k2 80 (by omega) (by omega)]
          exact g2 i hi)
        refine ⟨I3, ?_, c2, f3.trans c3⟩
        rw [if_pos hv]
        rw [hf] at c1
        exact c1
      · have hf : ofold (oval D C P N) (cL (nB D) (k + 1)) = ofold (oval D C P N) (cL (nB D) k) := by rw [hL, of_app, ostep, if_neg hv]
        obtain ⟨I3, c1, c2, c3⟩ := ih (k + 1) n I2 (by omega) (by omega) ((f1.trans k3).td ht hT) ((f1.trans k3).rl ht hR) (fun hne i hi => by
          rw [hf] at hne ⊢
          rw [k2 82 (by omega) (by omega), g3 82 (by omega)]
          exact h82 hne i hi)
        refine ⟨I3, ?_, c2, (f1.trans k3).trans c3⟩
        rw [if_neg hv]
        rw [hf] at c1
        exact c1
    · have hok' : cok (nB D) k = false := by simpa using hok
      have hL : cL (nB D) (k + 1) = cL (nB D) k := by rw [cL_s, if_neg hok]
      simp only [hok', Bool.false_eq_true, if_false]
      obtain ⟨I3, c1, c2, c3⟩ := ih (k + 1) n I1 (by omega) (by omega) (f1.td ht hT) (f1.rl ht hR) (fun hne i hi => by
        rw [hL] at hne ⊢
        rw [g3 82 (by omega)]
        exact h82 hne i hi)
      refine ⟨I3, ?_, c2, f1.trans c3⟩
      rw [hL] at c1
      exact c1
theorem c_powL {b : Nat} (hb : b ≤ 4) : ∀ (j k n : Nat), k + j = b → j < n → x9_findOrder_L17 0 0 (Int32.ofNat b) n (Int32.ofNat (b ^ k)) (Int32.ofNat k) = some (Int32.ofNat (b ^ b)) := by
  intro j
  induction j with
  | zero =>
    intro k n hk hn
    obtain ⟨n, rfl⟩ : ∃ n', n = n' + 1 := ⟨n - 1, by omega⟩
    obtain rfl : k = b := by omega
    simp (disch := omega) only [x9_findOrder_L17, x9_findOrder_L17s, QN]
    simp
  | succ j ih =>
    intro k n hk hn
    obtain ⟨n, rfl⟩ : ∃ n', n = n' + 1 := ⟨n - 1, by omega⟩
    have hi := ih (k + 1) n (by omega) (by omega)
    simp (disch := omega) only [x9_findOrder_L17, x9_findOrder_L17s, QN, QB, if_pos (show k < b by omega), q_mul]
    rw [Nat.pow_succ] at hi
    exact hi
theorem c_pow_any {t q b : Nat} (c : Int32) : ∀ (n : Nat) (v w : Int32), x9_findOrder_L17 t q c n v w = x9_findOrder_L17 0 b c n v w
  | 0, _, _ => rfl
  | n + 1, v, w => by
    simp only [x9_findOrder_L17, x9_findOrder_L17s, QB, c_pow_any (t := t) (q := q) (b := b) c n]
/-- the order that both find -/
def obest (D : TD) (C : TC) (P : PR) (N : Nat) : Int32 × List Nat := ofold (oval D C P N) (cL (nB D) (nB D ^ nB D))
theorem obest_ne (hD : OkD D C) {N : Nat} (hN : N ≤ 10) : ∃ l, l ∈ cL (nB D) (nB D ^ nB D) ∧ obest D C P N = (oval D C P N l, l) := of_ne (fun l => oval_pos hD.b hN) _ _ (fun l h => h) (Or.inr ⟨L_ne _ hD.b, rfl⟩)
theorem c_order (hD : OkD D C) (ht : isT t) {N : Nat} (hN : N ≤ 10) (hT : Td I t D C) (hR : Rl D m I 47 P) (hP : OkP D P) : ∃ I', x9_findOrder t 47 (Int32.ofNat N) I = some ((obest D C P N).1, I') ∧ ((obest D C P N).2 ≠ [] → ∀ i, i < nB D → I' 82 i = Int32.ofNat ((obest D C P N).2.getD i 0)) ∧ Ft t I I' := by
  have hB := hD.b
  have hpw : nB D ^ nB D ≤ 256 := by
    have : nB D = 0 ∨ nB D = 1 ∨ nB D = 2 ∨ nB D = 3 ∨ nB D = 4 := by omega
    rcases this with h | h | h | h | h <;> rw [h] <;> decide
  have h1 := c_powL hB (nB D) 0 FU (by omega) (by unfold FU; omega)
  rw [Nat.pow_zero, show Int32.ofNat 1 = 1 from rfl, show Int32.ofNat 0 = 0 from rfl] at h1
  obtain ⟨I', k1, k2, k3⟩ := c_ordL (m := m) hD ht hN hP (nB D ^ nB D) 0 FU I (by omega) (by unfold FU; omega) hT hR (fun h => absurd rfl h)
  refine ⟨I', ?_, k2, k3⟩
  rw [show (ofold (oval D C P N) (cL (nB D) 0)).1 = -1 from rfl, show Int32.ofNat 0 = 0 from rfl] at k1
  simp only [x9_findOrder, hT.1.2.2.2.2.2.1, hD.2.1.2.1.1, QB]
  rw [c_pow_any (b := 0)]
  simp only [h1, QB, k1]
  rfl
/-! the reference's -/
theorem m_turnL {c : Nat} (hD : OkD D C) (hc : c < 256) : ∀ (j k fu : Nat) (I : MI), k + j = nB D → j < fu → I 102 61 = Int32.ofNat (nB D) → ∃ I', x11_layTurn_L9 (Int32.ofNat c) fu (Int32.ofNat (oseen 4 c k)) (Int32.ofNat j - 1) I = some (Int32.ofNat (oseen 4 c (nB D)), I') ∧ (∀ i, i < j → I' 147 i = Int32.ofNat (c / 4 ^ (nB D - 1 - i) % 4)) ∧ (∀ i, j ≤ i → I' 147 i = I 147 i) ∧ ∀ d, d ≠ 147 → I' d = I d := by
  have hB := hD.b
  intro j
  induction j with
  | zero =>
    intro k fu I hm hf h61
    obtain ⟨fu, rfl⟩ : ∃ n', fu = n' + 1 := ⟨fu - 1, by omega⟩
    obtain rfl : k = nB D := by omega
    refine ⟨I, ?_, fun i h => by omega, fun _ _ => rfl, fun _ _ => rfl⟩
    rw [show Int32.ofNat 0 - 1 = -1 from rfl]
    simp only [x11_layTurn_L9, x11_layTurn_L9s]
    rw [if_pos (by decide)]
  | succ j ih =>
    intro k fu I hm hf h61
    obtain ⟨fu, rfl⟩ : ∃ n', fu = n' + 1 := ⟨fu - 1, by omega⟩
    have hs := r_dig (nB D) hB c hc k (by omega)
    obtain ⟨I', h1, h2, h3, h4⟩ := ih (k + 1) fu (wI I 147 j (Int32.ofNat (c / 4 ^ k % 4))) (by omega) (by omega) (by rw [wI_c (by omega)]; exact h61)
    refine ⟨I', ?_, fun i hi => ?_, fun i hi => ?_, fun d hd => by rw [h4 d hd, wI_c hd]⟩
    · rw [q_ps]
      have e1 : nB D - 1 - j = k := by omega
      simp (disch := omega) only [x11_layTurn_L9, x11_layTurn_L9s, QN, QB, if_false, h61, q_sub, e1, two_n, wI_at, or_n, q_pm]
      exact h1
    · by_cases e : i = j
      · subst e; rw [h3 i (Nat.le_refl _), wI_at, show nB D - 1 - i = k by omega]
      · exact h2 i (by omega)
    · rw [h3 i (by omega), wI_ne (by omega)]
theorem m_turn {c : Nat} (hD : OkD D C) (hR : Rd I D C) (hc : c < 256) : ∃ I', x11_layTurn (Int32.ofNat c) I = some (b2i (rok (nB D) c), I') ∧ (∀ i, i < nB D → I' 147 i = Int32.ofNat ((odl 4 (nB D) c).getD i 0)) ∧ ∀ d, d ≠ 147 → I' d = I d := by
  have hB := hD.b
  have h61 : I 102 61 = Int32.ofNat (nB D) := by rw [hR.1.2.2.2.2.1, hD.2.1.2.1.1]
  obtain ⟨I', h1, h2, -, h4⟩ := m_turnL hD hc (nB D) 0 FU I (by omega) (by unfold FU; omega) h61
  refine ⟨I', ?_, fun i hi => by rw [odl_at hi]; exact h2 i hi, h4⟩
  rw [show oseen 4 c 0 = 0 from rfl, show Int32.ofNat 0 = 0 from rfl] at h1
  have h16 := r_dig (nB D) hB c hc (nB D) (Nat.le_refl _)
  have h61' : I' 102 61 = Int32.ofNat (nB D) := by rw [h4 102 (by omega)]; exact h61
  have hp : 1 ≤ 2 ^ nB D := Nat.one_le_two_pow
  have hp2 : 2 ^ nB D ≤ 16 := by
    have : nB D = 0 ∨ nB D = 1 ∨ nB D = 2 ∨ nB D = 3 ∨ nB D = 4 := by omega
    rcases this with h | h | h | h | h <;> rw [h] <;> decide
  simp (disch := omega) only [x11_layTurn, QB, h61, h1, h61', shl_n (nB D) (by omega), QN, rok]
  by_cases h : oseen 4 c (nB D) = 2 ^ nB D - 1 <;> simp [h, b2i]
theorem Fm.of {I I' : MI} (h : ∀ c, c ≠ 137 → c ≠ 147 → c ≠ 149 → I' c = I c) : ∀ c, c ≠ 137 → c ≠ 147 → c ≠ 149 → I' c = I c := h
/-- what the reference's order may change -/
def Fo (I I' : MI) : Prop := (∀ c, c ≠ 137 → c ≠ 111 → c ≠ 102 → c ≠ 147 → c ≠ 149 → I' c = I c) ∧ (∀ j, j ≠ 68 → j ≠ 69 → j ≠ 85 → I' 102 j = I 102 j)
theorem Fo.refl {I : MI} : Fo I I := ⟨fun _ _ _ _ _ _ => rfl, fun _ _ _ _ => rfl⟩
theorem Fo.trans {I I' I'' : MI} (h : Fo I I') (k : Fo I' I'') : Fo I I'' := ⟨fun c h1 h2 h3 h4 h5 => (k.1 c h1 h2 h3 h4 h5).trans (h.1 c h1 h2 h3 h4 h5), fun j h1 h2 h3 => (k.2 j h1 h2 h3).trans (h.2 j h1 h2 h3)⟩
theorem Fm.o {I I' : MI} (h : Fm I I') : Fo I I' := ⟨fun c h1 h2 h3 _ _ => h.1 c h1 h2 h3, fun j h1 h2 _ => h.2 j h1 h2⟩
theorem Fo.rd {I I' : MI} (h : Fo I I') (hR : Rd I D C) : Rd I' D C := by
  obtain ⟨⟨a1, a2, a3, a4, a5, a6⟩, h2, h3, h4, h5⟩ := hR
  obtain ⟨f1, f2⟩ := h
  have e : ∀ c, c ≠ 137 → c ≠ 111 → c ≠ 102 → c ≠ 147 → c ≠ 149 → I' c = I c := f1
  refine ⟨⟨?_, ?_, ?_, ?_, ?_, ?_⟩, fun a ha => ?_, fun b hb => ?_, fun s hs => ?_, fun r hr => ?_⟩
  · rw [f2 56 (by omega) (by omega) (by omega)]; exact a1
  · rw [f2 57 (by omega) (by omega) (by omega)]; exact a2
  · rw [f2 65 (by omega) (by omega) (by omega)]; exact a3
  · rw [f2 60 (by omega) (by omega) (by omega)]; exact a4
  · rw [f2 61 (by omega) (by omega) (by omega)]; exact a5
  · rw [f2 59 (by omega) (by omega) (by omega)]; exact a6
  · simp (disch := omega) only [e]; exact h2 a ha
  · simp (disch := omega) only [e]; exact h3 b hb
  · rw [f2 58 (by omega) (by omega) (by omega)]
    rcases h4 s hs with ⟨g1, g2⟩ | g
    · exact Or.inl ⟨g1, g2.fr (by simp (disch := omega) only [e]) (by simp (disch := omega) only [e]) (by simp (disch := omega) only [e])⟩
    · exact Or.inr g
  · exact (h5 r hr).fr (by simp (disch := omega) only [e]) (by simp (disch := omega) only [e]) (by simp (disch := omega) only [e])
theorem Fo.nw {I I' : MI} {P : PR} (h : Fo I I') (hN : Nw I P) : Nw I' P := ⟨fun k hk => by rw [h.1 138 (by omega) (by omega) (by omega) (by omega) (by omega)]; exact hN.1 k hk, fun b hb => by rw [h.1 130 (by omega) (by omega) (by omega) (by omega) (by omega)]; exact hN.2.1 b hb, fun b hb => by rw [h.1 131 (by omega) (by omega) (by omega) (by omega) (by omega)]; exact hN.2.2 b hb⟩
theorem m_lay5L (hD : OkD D C) : ∀ (j w n : Nat) (I : MI), w + j = nB D → j < n → I 102 61 = Int32.ofNat (nB D) → ∃ I', x11_order_L135 n (Int32.ofNat w) I = some I' ∧ (∀ k, w ≤ k → k < nB D → I' 149 k = I 147 k) ∧ (∀ k, k < w → I' 149 k = I 149 k) ∧ ∀ c, c ≠ 149 → I' c = I c := by
  have hB := hD.b
  intro j
  induction j with
  | zero =>
    intro w n I hw hn h61
    obtain ⟨n, rfl⟩ : ∃ n', n = n' + 1 := ⟨n - 1, by omega⟩
    refine ⟨I, ?_, fun k h1 h2 => by omega, fun _ _ => rfl, fun _ _ => rfl⟩
    simp (disch := omega) only [x11_order_L135, x11_order_L135s, QN, h61]
    rw [if_neg (by omega)]
  | succ j ih =>
    intro w n I hw hn h61
    obtain ⟨n, rfl⟩ : ∃ n', n = n' + 1 := ⟨n - 1, by omega⟩
    obtain ⟨I', h1, h2, h3, h4⟩ := ih (w + 1) n (wI I 149 w (I 147 w)) (by omega) (by omega) (by rw [wI_c (by omega)]; exact h61)
    refine ⟨I', ?_, fun k g1 g2 => ?_, fun k hk => ?_, fun c hc => by rw [h4 c hc, wI_c hc]⟩
    · simp (disch := omega) only [x11_order_L135, x11_order_L135s, QN, QB, h61, if_pos (show w < nB D by omega)]
      exact h1
    · by_cases e : k = w
      · subst e; rw [h3 k (by omega), wI_at]
      · rw [h2 k (by omega) g2, wI_c (by omega)]
    · rw [h3 k (by omega), wI_ne (by omega)]
theorem m_ordL (hD : OkD D C) {N : Nat} (hN : N ≤ 10) (hP : OkP D P) : ∀ (j k n : Nat) (I : MI), k + j = 4 ^ nB D → j < n → Rd I D C → Nw I P → ((ofold (oval D C P N) (rL (nB D) k)).2 ≠ [] ∨ nB D = 0 → I 102 85 = Int32.ofNat (nB D) ∧ ∀ i, i < nB D → I 149 i = Int32.ofNat ((ofold (oval D C P N) (rL (nB D) k)).2.getD i 0)) →
    ∃ I', x11_order_L21 (Int32.ofNat N) n (ofold (oval D C P N) (rL (nB D) k)).1 (Int32.ofNat k) I = some ((ofold (oval D C P N) (rL (nB D) (4 ^ nB D))).1, I') ∧ ((ofold (oval D C P N) (rL (nB D) (4 ^ nB D))).2 ≠ [] ∨ nB D = 0 → I' 102 85 = Int32.ofNat (nB D) ∧ ∀ i, i < nB D → I' 149 i = Int32.ofNat ((ofold (oval D C P N) (rL (nB D) (4 ^ nB D))).2.getD i 0)) ∧ Fo I I' := by
  have hB := hD.b
  have hpw : 4 ^ nB D ≤ 256 := by
    have : nB D = 0 ∨ nB D = 1 ∨ nB D = 2 ∨ nB D = 3 ∨ nB D = 4 := by omega
    rcases this with h | h | h | h | h <;> rw [h] <;> decide
  have h24 : 2 ^ (2 * nB D) = 4 ^ nB D := by rw [Nat.pow_mul]
  intro j
  induction j with
  | zero =>
    intro k n I hk hn hR hN' h82
    obtain ⟨n, rfl⟩ : ∃ n', n = n' + 1 := ⟨n - 1, by omega⟩
    obtain rfl : k = 4 ^ nB D := by omega
    refine ⟨I, ?_, h82, Fo.refl⟩
    simp (disch := omega) only [x11_order_L21, x11_order_L21s, hR.1.2.2.2.2.1, hD.2.1.2.1.1, QN, shl_n (2 * nB D) (by omega), h24]
    simp
  | succ j ih =>
    intro k n I hk hn hR hN' h82
    obtain ⟨n, rfl⟩ : ∃ n', n = n' + 1 := ⟨n - 1, by omega⟩
    obtain ⟨I1, g1, g2, g3⟩ := m_turn (c := k) hD hR (by omega)
    have f1 : Fo I I1 := ⟨fun c _ _ _ h _ => g3 c h, fun j _ _ _ => by rw [g3 102 (by omega)]⟩
    simp (disch := omega) only [x11_order_L21, x11_order_L21s, hR.1.2.2.2.2.1, hD.2.1.2.1.1, QN, QB, shl_n (2 * nB D) (by omega), h24, if_pos (show k < 4 ^ nB D by omega), g1, b2i_0]
    by_cases hok : rok (nB D) k = true
    · simp only [hok, if_true]
      have hlt : ∀ i, i < nB D → (odl 4 (nB D) k).getD i 0 < nB D := fun i hi => by
        rw [odl_at hi]; exact r_lt (nB D) hB k (by omega) hok (by omega) _ (by omega)
      obtain ⟨I2, w1, w2, w3⟩ := m_loadN (f1.nw hN')
      have f2 : Fm I1 I2 := Fm.of137 w3
      obtain ⟨I3, k1, k2⟩ := m_or (P := P) hD hlt hN N 0 FU I2 (by omega) (by unfold FU; omega) (f2.rd (f1.rd hR)) (fun i hi => by rw [w3 147 (by omega)]; exact g2 i hi) w2 hP
      rw [show (sor D C (fun k_1 => (odl 4 (nB D) k).getD k_1 0) P 0).1 = 0 from rfl, show Int32.ofNat 0 = 0 from rfl] at k1
      have hL : rL (nB D) (k + 1) = rL (nB D) k ++ [odl 4 (nB D) k] := by rw [rL_s, if_pos hok]
      have f3 := (f1.trans f2.o).trans k2.o
      have h147 : I3 147 = I1 147 := by rw [k2.1 147 (by omega) (by omega) (by omega), w3 147 (by omega)]
      have h149 : I3 149 = I 149 := by rw [k2.1 149 (by omega) (by omega) (by omega), w3 149 (by omega), g3 149 (by omega)]
      have h85 : I3 102 85 = I 102 85 := by rw [k2.2 85 (by omega) (by omega), w3 102 (by omega), g3 102 (by omega)]
      have h61 : I3 102 61 = Int32.ofNat (nB D) := by rw [(f3.rd hR).1.2.2.2.2.1, hD.2.1.2.1.1]
      simp only [w1, QB, k1]
      rw [show (sor D C (fun k_1 => (odl 4 (nB D) k).getD k_1 0) P N).1 = oval D C P N (odl 4 (nB D) k) from rfl]
      by_cases hv : (ofold (oval D C P N) (rL (nB D) k)).1 < oval D C P N (odl 4 (nB D) k)
      · have hf : ofold (oval D C P N) (rL (nB D) (k + 1)) = (oval D C P N (odl 4 (nB D) k), odl 4 (nB D) k) := by rw [hL, of_app, ostep, if_pos hv]
        obtain ⟨I4, l1, l2, l3, l4⟩ := m_lay5L hD (nB D) 0 FU I3 (by omega) (by unfold FU; omega) h61
        rw [show Int32.ofNat 0 = 0 from rfl] at l1
        have f4 : Fo I3 (wI I4 102 85 (I4 102 61)) := ⟨fun c h1 h2 h3 h4 h5 => by rw [wI_c h3]; exact l4 c h5, fun j h1 h2 h3 => by rw [wI_ne (Or.inr h3), l4 102 (by omega)]⟩
        have h61' : I4 102 61 = Int32.ofNat (nB D) := by rw [l4 102 (by omega)]; exact h61
        obtain ⟨I5, c1, c2, c3⟩ := ih (k + 1) n (wI I4 102 85 (I4 102 61)) (by omega) (by omega) ((f3.trans f4).rd hR) ((f3.trans f4).nw hN') (fun _ => ⟨by rw [wI_at]; exact h61', fun i hi => by
          rw [hf, wI_c (by omega), l2 i (by omega) hi, h147]
          exact g2 i hi⟩)
        refine ⟨I5, ?_, c2, (f3.trans f4).trans c3⟩
        rw [if_pos hv, l1, q_b1]
        rw [hf] at c1
        exact c1
      · have hf : ofold (oval D C P N) (rL (nB D) (k + 1)) = ofold (oval D C P N) (rL (nB D) k) := by rw [hL, of_app, ostep, if_neg hv]
        obtain ⟨I5, c1, c2, c3⟩ := ih (k + 1) n I3 (by omega) (by omega) (f3.rd hR) (f3.nw hN') (fun hne => by
          rw [hf] at hne ⊢
          rw [h149, h85]
          exact h82 hne)
        refine ⟨I5, ?_, c2, f3.trans c3⟩
        rw [if_neg hv]
        rw [hf] at c1
        exact c1
    · have hok' : rok (nB D) k = false := by simpa using hok
      have hL : rL (nB D) (k + 1) = rL (nB D) k := by rw [rL_s, if_neg hok]
      simp only [hok', Bool.false_eq_true, if_false]
      obtain ⟨I5, c1, c2, c3⟩ := ih (k + 1) n I1 (by omega) (by omega) (f1.rd hR) (f1.nw hN') (fun hne => by
        rw [hL] at hne ⊢
        rw [g3 149 (by omega), g3 102 (by omega)]
        exact h82 hne)
      refine ⟨I5, ?_, c2, f1.trans c3⟩
      rw [hL] at c1
      exact c1
theorem m_order (hD : OkD D C) {N : Nat} (hN : N ≤ 10) (h1N : 1 ≤ N) (hR : Rd I D C) (hW : Nw I P) (hP : OkP D P) : ∃ I', x11_order (Int32.ofNat N) I = some ((obest D C P N).1, I') ∧ I' 102 85 = Int32.ofNat (nB D) ∧ (∀ i, i < nB D → I' 149 i = Int32.ofNat ((obest D C P N).2.getD i 0)) ∧ Fo I I' := by
  have hB := hD.b
  have hpw : 4 ^ nB D ≤ 256 := by
    have : nB D = 0 ∨ nB D = 1 ∨ nB D = 2 ∨ nB D = 3 ∨ nB D = 4 := by omega
    rcases this with h | h | h | h | h <;> rw [h] <;> decide
  have f0 : Fo I (wI I 102 85 0) := ⟨fun c h1 h2 h3 h4 h5 => by rw [wI_c h3], fun j h1 h2 h3 => by rw [wI_ne (Or.inr h3)]⟩
  obtain ⟨I', k1, k2, k3⟩ := m_ordL hD hN hP (4 ^ nB D) 0 FU (wI I 102 85 0) (by omega) (by unfold FU; omega) (f0.rd hR) (f0.nw hW) (fun h => by
    rcases h with h | h
    · exact absurd rfl h
    · exact ⟨by rw [wI_at, h]; rfl, fun i hi => by omega⟩)
  have hne : obest D C P N = ofold (oval D C P N) (rL (nB D) (4 ^ nB D)) := by rw [obest, L_eq _ hB]
  rw [← hne] at k1 k2
  obtain ⟨l, hlm, hl⟩ := obest_ne (P := P) hD hN
  have h0 : (obest D C P N).2 ≠ [] ∨ nB D = 0 := by
    by_cases h0 : (obest D C P N).2 = []
    · rw [hl] at h0
      have := cL_len (nB D) hB l hlm
      rw [show l = [] from h0] at this
      exact Or.inr this.symm
    · exact Or.inl h0
  obtain ⟨k4, k5⟩ := k2 h0
  refine ⟨I', ?_, k4, k5, f0.trans k3⟩
  rw [show (ofold (oval D C P N) (rL (nB D) 0)).1 = -1 from rfl, show Int32.ofNat 0 = 0 from rfl] at k1
  have e1 : b2i (decide ((1 : Int32) ≤ Int32.ofNat N ∧ Int32.ofNat N ≤ 10)) = 1 := by
    have : ((1 : Int32) ≤ Int32.ofNat N ∧ Int32.ofNat N ≤ 10) := by
      rw [show (1 : Int32) = Int32.ofNat 1 from rfl, show (10 : Int32) = Int32.ofNat 10 from rfl, q_le (by omega) (by omega), q_le (by omega) (by omega)]; exact ⟨h1N, hN⟩
    simp [this, b2i]
  simp only [x11_order, QB, m_isIn, e1]
  simp only [show ((1 : Int32) = 0) = False from eq_false (by decide), if_false, k1, QB]
end OR
