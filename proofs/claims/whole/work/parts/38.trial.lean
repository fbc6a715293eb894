/-! TRIALS, 1: matches; he alone; orders; who is gone -/
def Ft (t : Nat) (I I' : MI) : Prop := ∀ c, c ≠ 27 → c ≠ 46 → c ≠ t + 17 → (c < 66 ∨ 82 < c) → I' c = I c
theorem Ft.refl {t : Nat} {I : MI} : Ft t I I := fun _ _ _ _ _ => rfl
theorem Ft.trans {t : Nat} {I I' I'' : MI} (h : Ft t I I') (k : Ft t I' I'') : Ft t I I'' := fun c h1 h2 h3 h4 => (k c h1 h2 h3 h4).trans (h c h1 h2 h3 h4)
theorem Fc.t {t : Nat} {I I' : MI} (h : Fc t 67 I I') : Ft t I I' := fun c h1 h2 h3 h4 => h c h1 h2 h3 (by omega)
theorem Fg.t {t : Nat} {I I' : MI} (h : Fg t I I') : Ft t I I' := fun c h1 h2 h3 _ => h c h1 h2 h3
theorem Ft.w {t : Nat} {I I' : MI} (h : Ft t I I') {c i : Nat} {v : Int32} (hc : 66 ≤ c ∧ c ≤ 82) : Ft t I (wI I' c i v) := fun d h1 h2 h3 h4 => by
  rw [wI_c (by omega)]; exact h d h1 h2 h3 h4
theorem Ft.td {D : TD} {C : TC} {t : Nat} {I I' : MI} (hf : Ft t I I') (ht : isT t) (h : Td I t D C) : Td I' t D C := by
  have e : ∀ j, j ≤ 16 → I' (t + j) = I (t + j) := fun j hj => hf _ (by rcases ht with h | h <;> omega) (by rcases ht with h | h <;> omega) (by omega) (by rcases ht with h | h <;> omega)
  obtain ⟨h1, h2, h3, h4, h5⟩ := h
  have e0 : I' t = I t := e 0 (by omega)
  have hc : ∀ s c, Cd I t s c → Cd I' t s c := by
    intro s c ⟨st, g1, g2, g3, g4⟩
    exact ⟨st, by rw [e 15 (by omega)]; exact g1, by rw [e 16 (by omega)]; exact g2, g3, fun i h => by rw [e 14 (by omega)]; exact g4 i h⟩
  exact ⟨by rw [e0]; exact h1, fun j a j1 j2 ha => by rw [e j (by omega)]; exact h2 j a j1 j2 ha, fun j b j1 j2 hb => by rw [e j (by omega)]; exact h3 j b j1 j2 hb, fun s hs => hc _ _ (h4 s hs), fun r hr => hc _ _ (h5 r hr)⟩
theorem Ft.rl {D : TD} {m : Bool} {t : Nat} {P : PR} {I I' : MI} (hf : Ft t I I') (ht : isT t) (h : Rl D m I 47 P) : Rl D m I' 47 P := h.fr (fun c h1 h2 => hf c (by omega) (by omega) (by rcases ht with h | h <;> omega) (by omega))
def smat (D : TD) (C : TC) (P : PR) (o w : Nat) : Nat → Int32 × PR
  | 0 => (0, P)
  | n + 1 => ((smat D C P o w n).1 + b2i (sturn D C (smat D C P o w n).2 0 o).1 - b2i (sturn D C (sturn D C (smat D C P o w n).2 0 o).2 1 w).1, (sturn D C (sturn D C (smat D C P o w n).2 0 o).2 1 w).2)
def sgts (D : TD) (C : TC) (P : PR) (b : Nat) : Nat → Int32 × PR
  | 0 => (0, P)
  | n + 1 => ((sgts D C P b n).1 + b2i (sturn D C (sgts D C P b n).2 b (sby D b)).1, (sturn D C (sgts D C P b n).2 b (sby D b)).2)
def sor1 (D : TD) (C : TC) (f : Nat → Nat) : Nat → Int32 × PR → Int32 × PR
  | 0, s => s
  | k + 1, s => ((sor1 D C f k s).1 + b2i (sturn D C (sor1 D C f k s).2 (f k) (sby D (f k))).1, (sturn D C (sor1 D C f k s).2 (f k) (sby D (f k))).2)
def sor (D : TD) (C : TC) (f : Nat → Nat) (P : PR) : Nat → Int32 × PR
  | 0 => (0, P)
  | n + 1 => sor1 D C f (nB D) (sor D C f P n)
section TR
variable {D : TD} {C : TC} {m : Bool} {t : Nat} {P : PR} {I : MI} {o w b : Nat}
theorem OkP.mat (hD : OkD D C) (hP : OkP D P) (hB : 2 ≤ nB D) : ∀ n, OkP D (smat D C P o w n).2
  | 0 => hP
  | n + 1 => ((OkP.mat hD hP hB n).turn hD (by omega)).turn hD (by omega)
theorem OkP.gts (hD : OkD D C) (hP : OkP D P) (hb : b < nB D) : ∀ n, OkP D (sgts D C P b n).2
  | 0 => hP
  | n + 1 => (OkP.gts hD hP hb n).turn hD hb
theorem OkP.or1 {f : Nat → Nat} {s : Int32 × PR} (hD : OkD D C) (hf : ∀ k, k < nB D → f k < nB D) (hP : OkP D s.2) : ∀ k, k ≤ nB D → OkP D (sor1 D C f k s).2
  | 0, _ => hP
  | k + 1, h => (OkP.or1 hD hf hP k (by omega)).turn hD (hf k (by omega))
theorem OkP.orn {f : Nat → Nat} (hD : OkD D C) (hf : ∀ k, k < nB D → f k < nB D) (hP : OkP D P) : ∀ n, OkP D (sor D C f P n).2
  | 0 => hP
  | n + 1 => OkP.or1 hD hf (OkP.orn hD hf hP n) _ (Nat.le_refl _)
theorem rul_n (hr : w < nR D) : rul D w = Int32.ofNat w := by rw [rul, if_neg (by omega)]
theorem c_leadL (hD : OkD D C) (ht : isT t) (hB : 2 ≤ nB D) (ho : o < nR D) (hw : w < nR D) : ∀ (j k n : Nat) (I : MI), k + j = 10 → j < n → Td I t D C → Rl D false I 67 (smat D C P o w k).2 → OkP D P → ∃ I', x9_lead_L14 t 47 (Int32.ofNat o) (Int32.ofNat w) n (smat D C P o w k).1 (Int32.ofNat k) I = some ((smat D C P o w 10).1, I') ∧ Fc t 67 I I' := by
  intro j
  induction j with
  | zero =>
    intro k n I hk hn hT hR hP
    obtain ⟨n, rfl⟩ : ∃ n', n = n' + 1 := ⟨n - 1, by omega⟩
    obtain rfl : k = 10 := by omega
    refine ⟨I, ?_, Fc.refl⟩
    simp (disch := omega) only [x9_lead_L14, x9_lead_L14s, QN]
    simp
  | succ j ih =>
    intro k n I hk hn hT hR hP
    obtain ⟨n, rfl⟩ : ∃ n', n = n' + 1 := ⟨n - 1, by omega⟩
    have hPk := OkP.mat (o := o) (w := w) hD hP hB k
    obtain ⟨I1, a1, a2, a3⟩ := c_turn (b := 0) (r := o) hD hT hR hPk ⟨ht, by omega⟩ (by omega) (Or.inl ho)
    obtain ⟨I2, b1', b2', b3'⟩ := c_turn (b := 1) (r := w) hD (a3.t.td ht hT) a2 (hPk.turn hD (by omega)) ⟨ht, by omega⟩ (by omega) (Or.inl hw)
    obtain ⟨I3, c1, c2⟩ := ih (k + 1) n I2 (by omega) (by omega) ((a3.trans b3').t.td ht hT) b2' hP
    refine ⟨I3, ?_, (a3.trans b3').trans c2⟩
    rw [rul_n ho, show Int32.ofNat 0 = 0 from rfl] at a1
    rw [rul_n hw, show Int32.ofNat 1 = 1 from rfl] at b1'
    simp (disch := omega) only [x9_lead_L14, x9_lead_L14s, QN, QB, if_pos (show k < 10 by omega), a1, b1']
    exact c1
theorem c_trial (hD : OkD D C) (hR : Rl D m I 47 P) : ∃ I', x7_copyPlay 67 47 I = some I' ∧ Rl D false I' 67 P ∧ Ft t I I' := by
  obtain ⟨I', h1, h2, h3⟩ := c_copyPlay (q0 := 67) hD hR (by omega)
  exact ⟨I', h1, h2, fun c _ _ _ h => h3 c (by omega)⟩
theorem c_leadF (hD : OkD D C) (ht : isT t) (hT : Td I t D C) (hR : Rl D m I 47 P) (hP : OkP D P) (hB : 2 ≤ nB D) (ho : o < nR D) (hw : w < nR D) : ∃ I', x9_lead t 47 (Int32.ofNat o) (Int32.ofNat w) I = some ((smat D C P o w 10).1, I') ∧ Fc t 67 I I' := by
  obtain ⟨I1, h1, h2, h3'⟩ := c_copyPlay (q0 := 67) hD hR (by omega)
  have h3 : Fc t 67 I I1 := fun c _ _ _ h => h3' c (by omega)
  obtain ⟨I2, k1, k2⟩ := c_leadL (P := P) hD ht hB ho hw 10 0 FU I1 (by omega) (by unfold FU; omega) (h3.t.td ht hT) h2 hP
  refine ⟨I2, ?_, h3.trans k2⟩
  rw [show (smat D C P o w 0).1 = 0 from rfl, show Int32.ofNat 0 = 0 from rfl] at k1
  simp only [x9_lead, h1, QB, k1]
theorem c_lead (hD : OkD D C) (ht : isT t) (hT : Td I t D C) (hR : Rl D m I 47 P) (hP : OkP D P) (hB : 2 ≤ nB D) (ho : o < nR D) (hw : w < nR D) : ∃ I', x9_lead t 47 (Int32.ofNat o) (Int32.ofNat w) I = some ((smat D C P o w 10).1, I') ∧ Ft t I I' := by
  obtain ⟨I', h1, h2⟩ := c_leadF hD ht hT hR hP hB ho hw
  exact ⟨I', h1, h2.t⟩
theorem m_matL (hD : OkD D C) (hB : 2 ≤ nB D) (ho : o < nR D) (hw : w < nR D) : ∀ (j k n : Nat) (I : MI), k + j = 10 → j < n → Rd I D C → Wr I (smat D C P o w k).2 → OkP D P → ∃ I', x11_matchOf_L9 (Int32.ofNat o) (Int32.ofNat w) n (smat D C P o w k).1 (Int32.ofNat k) I = some ((smat D C P o w 10).1, I') ∧ Fm I I' := by
  intro j
  induction j with
  | zero =>
    intro k n I hk hn hR hW hP
    obtain ⟨n, rfl⟩ : ∃ n', n = n' + 1 := ⟨n - 1, by omega⟩
    obtain rfl : k = 10 := by omega
    refine ⟨I, ?_, Fm.refl⟩
    simp (disch := omega) only [x11_matchOf_L9, x11_matchOf_L9s, QN]
    simp
  | succ j ih =>
    intro k n I hk hn hR hW hP
    obtain ⟨n, rfl⟩ : ∃ n', n = n' + 1 := ⟨n - 1, by omega⟩
    have hPk := OkP.mat (o := o) (w := w) hD hP hB k
    obtain ⟨I1, a1, a2, a3⟩ := m_acts (b := 0) (r := o) hD hR hW hPk (by omega) (Or.inl ho)
    obtain ⟨I2, b1', b2', b3'⟩ := m_acts (b := 1) (r := w) hD (a3.rd hR) a2 (hPk.turn hD (by omega)) (by omega) (Or.inl hw)
    obtain ⟨I3, c1, c2⟩ := ih (k + 1) n I2 (by omega) (by omega) ((a3.trans b3').rd hR) b2' hP
    refine ⟨I3, ?_, (a3.trans b3').trans c2⟩
    rw [show Int32.ofNat 0 = 0 from rfl] at a1
    rw [show Int32.ofNat 1 = 1 from rfl] at b1'
    simp (disch := omega) only [x11_matchOf_L9, x11_matchOf_L9s, QN, QB, if_pos (show k < 10 by omega), a1, b1']
    simp only [smat] at c1
    cases h1 : (sturn D C (smat D C P o w k).2 0 o).1 <;> cases h2 : (sturn D C (sturn D C (smat D C P o w k).2 0 o).2 1 w).1 <;> simp only [h1, h2, b2i, Bool.false_eq_true, if_true, if_false, Int32.add_zero, Int32.sub_zero, show ((1 : Int32) = 0) = False from eq_false (by decide)] at c1 ⊢ <;> exact c1
theorem m_mat (hD : OkD D C) (hR : Rd I D C) (hN : Nw I P) (hP : OkP D P) (hB : 2 ≤ nB D) (ho : o < nR D) (hw : w < nR D) : ∃ I', x11_matchOf (Int32.ofNat o) (Int32.ofNat w) I = some ((smat D C P o w 10).1, I') ∧ Fm I I' := by
  obtain ⟨I1, h1, h2, h3⟩ := m_loadN hN
  have f1 : Fm I I1 := Fm.of137 h3
  obtain ⟨I2, k1, k2⟩ := m_matL (P := P) hD hB ho hw 10 0 FU I1 (by omega) (by unfold FU; omega) (f1.rd hR) h2 hP
  refine ⟨I2, ?_, f1.trans k2⟩
  rw [show (smat D C P o w 0).1 = 0 from rfl, show Int32.ofNat 0 = 0 from rfl] at k1
  simp only [x11_matchOf, h1, QB, k1]
/-! he alone, from a cell -/
theorem c_getsL (hD : OkD D C) (ht : isT t) (hb : b < nB D) {N : Nat} (hN : N ≤ 10) : ∀ (j k n : Nat) (I : MI), k + j = N → j < n → Td I t D C → Rl D false I 67 (sgts D C P b k).2 → OkP D P → ∃ I', x9_getsFrom_L35 t 47 (Int32.ofNat b) (Int32.ofNat N) n (sgts D C P b k).1 (Int32.ofNat k) I = some ((sgts D C P b N).1, I') ∧ Fc t 67 I I' := by
  have hB := hD.b
  intro j
  induction j with
  | zero =>
    intro k n I hk hn hT hR hP
    obtain ⟨n, rfl⟩ : ∃ n', n = n' + 1 := ⟨n - 1, by omega⟩
    obtain rfl : k = N := by omega
    refine ⟨I, ?_, Fc.refl⟩
    simp (disch := omega) only [x9_getsFrom_L35, x9_getsFrom_L35s, QN]
    simp
  | succ j ih =>
    intro k n I hk hn hT hR hP
    obtain ⟨n, rfl⟩ : ∃ n', n = n' + 1 := ⟨n - 1, by omega⟩
    have hPk := OkP.gts hD hP hb k
    obtain ⟨I1, a1, a2, a3⟩ := c_turn (r := sby D b) hD hT hR hPk ⟨ht, by omega⟩ hb (sby_ok hD hb)
    obtain ⟨I3, c1, c2⟩ := ih (k + 1) n I1 (by omega) (by omega) (a3.t.td ht hT) a2 hP
    refine ⟨I3, ?_, a3.trans c2⟩
    simp (disch := omega) only [x9_getsFrom_L35, x9_getsFrom_L35s, QN, QB, if_pos (show k < N by omega), c_rul hD hT hb, a1]
    exact c1
theorem m_getsL (hD : OkD D C) (hb : b < nB D) {N : Nat} (hN : N ≤ 10) : ∀ (j k n : Nat) (I : MI), k + j = N → j < n → Rd I D C → Wr I (sgts D C P b k).2 → OkP D P → ∃ I', x11_getsAlone_L9 (Int32.ofNat b) (Int32.ofNat N) n (sgts D C P b k).1 (Int32.ofNat k) I = some ((sgts D C P b N).1, I') ∧ Fm I I' := by
  have hB := hD.b
  intro j
  induction j with
  | zero =>
    intro k n I hk hn hR hW hP
    obtain ⟨n, rfl⟩ : ∃ n', n = n' + 1 := ⟨n - 1, by omega⟩
    obtain rfl : k = N := by omega
    refine ⟨I, ?_, Fm.refl⟩
    simp (disch := omega) only [x11_getsAlone_L9, x11_getsAlone_L9s, QN]
    simp
  | succ j ih =>
    intro k n I hk hn hR hW hP
    obtain ⟨n, rfl⟩ : ∃ n', n = n' + 1 := ⟨n - 1, by omega⟩
    have hPk := OkP.gts hD hP hb k
    obtain ⟨I1, a1, a2, a3⟩ := m_acts (r := sby D b) hD hR hW hPk hb (sby_ok hD hb)
    obtain ⟨I3, c1, c2⟩ := ih (k + 1) n I1 (by omega) (by omega) (a3.rd hR) a2 hP
    refine ⟨I3, ?_, a3.trans c2⟩
    simp (disch := omega) only [x11_getsAlone_L9, x11_getsAlone_L9s, QN, QB, if_pos (show k < N by omega), m_rule hD hR hb, a1]
    simp only [sgts] at c1
    cases h1 : (sturn D C (sgts D C P b k).2 b (sby D b)).1 <;> simp only [h1, b2i, Bool.false_eq_true, if_true, if_false, Int32.add_zero, show ((1 : Int32) = 0) = False from eq_false (by decide)] at c1 ⊢ <;> exact c1
/-! orders of bobbers -/
theorem c_or1 {f : Nat → Nat} (hD : OkD D C) (ht : isT t) (hf : ∀ k, k < nB D → f k < nB D) : ∀ (j k n : Nat) (I : MI) (s : Int32 × PR), k + j = nB D → j < n → Td I t D C → (∀ k, k < nB D → I 80 k = Int32.ofNat (f k)) → Rl D false I 67 (sor1 D C f k s).2 → OkP D s.2 → ∃ I', x9_gotInOrder_L22 t 47 n (sor1 D C f k s).1 (Int32.ofNat k) I = some ((sor1 D C f (nB D) s).1, I') ∧ Rl D false I' 67 (sor1 D C f (nB D) s).2 ∧ Fc t 67 I I' := by
  have hB := hD.b
  intro j
  induction j with
  | zero =>
    intro k n I s hk hn hT h80 hR hP
    obtain ⟨n, rfl⟩ : ∃ n', n = n' + 1 := ⟨n - 1, by omega⟩
    obtain rfl : k = nB D := by omega
    refine ⟨I, ?_, hR, Fc.refl⟩
    simp (disch := omega) only [x9_gotInOrder_L22, x9_gotInOrder_L22s, hT.1.2.2.2.2.2.1, hD.2.1.2.1.1, QN]
    simp
  | succ j ih =>
    intro k n I s hk hn hT h80 hR hP
    obtain ⟨n, rfl⟩ : ∃ n', n = n' + 1 := ⟨n - 1, by omega⟩
    have hfk := hf k (by omega)
    have hPk := OkP.or1 hD hf hP k (by omega)
    obtain ⟨I1, a1, a2, a3⟩ := c_turn (r := sby D (f k)) hD hT hR hPk ⟨ht, by omega⟩ hfk (sby_ok hD hfk)
    obtain ⟨I3, c1, c2, c3⟩ := ih (k + 1) n I1 s (by omega) (by omega) (a3.t.td ht hT) (fun k hk => by rw [a3 80 (by omega) (by omega) (by rcases ht with h | h <;> omega) (by omega)]; exact h80 k hk) a2 hP
    refine ⟨I3, ?_, c2, a3.trans c3⟩
    simp (disch := omega) only [x9_gotInOrder_L22, x9_gotInOrder_L22s, hT.1.2.2.2.2.2.1, hD.2.1.2.1.1, QN, QB, if_pos (show k < nB D by omega), h80, c_rul hD hT hfk, a1]
    exact c1
theorem c_or {f : Nat → Nat} (hD : OkD D C) (ht : isT t) (hf : ∀ k, k < nB D → f k < nB D) {N : Nat} (hN : N ≤ 10) : ∀ (j k n : Nat) (I : MI), k + j = N → j < n → Td I t D C → (∀ k, k < nB D → I 80 k = Int32.ofNat (f k)) → Rl D false I 67 (sor D C f P k).2 → OkP D P → ∃ I', x9_gotInOrder_L13 t 47 (Int32.ofNat N) n (sor D C f P k).1 (Int32.ofNat k) I = some ((sor D C f P N).1, I') ∧ Fc t 67 I I' := by
  have hB := hD.b
  intro j
  induction j with
  | zero =>
    intro k n I hk hn hT h80 hR hP
    obtain ⟨n, rfl⟩ : ∃ n', n = n' + 1 := ⟨n - 1, by omega⟩
    obtain rfl : k = N := by omega
    refine ⟨I, ?_, Fc.refl⟩
    simp (disch := omega) only [x9_gotInOrder_L13, x9_gotInOrder_L13s, QN]
    simp
  | succ j ih =>
    intro k n I hk hn hT h80 hR hP
    obtain ⟨n, rfl⟩ : ∃ n', n = n' + 1 := ⟨n - 1, by omega⟩
    have hPk := OkP.orn hD hf hP k
    obtain ⟨I1, a1, a2, a3⟩ := c_or1 hD ht hf (nB D) 0 FU I (sor D C f P k) (by omega) (by unfold FU; omega) hT h80 hR hPk
    obtain ⟨I3, c1, c2⟩ := ih (k + 1) n I1 (by omega) (by omega) (a3.t.td ht hT) (fun k hk => by rw [a3 80 (by omega) (by omega) (by rcases ht with h | h <;> omega) (by omega)]; exact h80 k hk) a2 hP
    refine ⟨I3, ?_, a3.trans c2⟩
    rw [show (sor1 D C f 0 (sor D C f P k)).1 = (sor D C f P k).1 from rfl, show Int32.ofNat 0 = 0 from rfl] at a1
    simp (disch := omega) only [x9_gotInOrder_L13, x9_gotInOrder_L13s, QN, QB, if_pos (show k < N by omega), a1]
    exact c1
theorem c_gotIn {f : Nat → Nat} (hD : OkD D C) (ht : isT t) (hf : ∀ k, k < nB D → f k < nB D) {N : Nat} (hN : N ≤ 10) (hT : Td I t D C) (h80 : ∀ k, k < nB D → I 80 k = Int32.ofNat (f k)) (hR : Rl D m I 47 P) (hP : OkP D P) : ∃ I', x9_gotInOrder t 47 (Int32.ofNat N) I = some ((sor D C f P N).1, I') ∧ (∀ c, 79 ≤ c → c ≤ 82 → I' c = I c) ∧ Ft t I I' := by
  obtain ⟨I1, h1, h2, h3⟩ := c_copyPlay (q0 := 67) hD hR (by omega)
  have f1 : Ft t I I1 := fun c _ _ _ h => h3 c (by omega)
  obtain ⟨I2, k1, k2⟩ := c_or (P := P) hD ht hf hN N 0 FU I1 (by omega) (by unfold FU; omega) (f1.td ht hT) (fun k hk => by rw [h3 80 (by omega)]; exact h80 k hk) h2 hP
  refine ⟨I2, ?_, fun c g1 g2 => by rw [k2 c (by omega) (by omega) (by rcases ht with h | h <;> omega) (by omega), h3 c (by omega)], f1.trans k2.t⟩
  rw [show (sor D C f P 0).1 = 0 from rfl, show Int32.ofNat 0 = 0 from rfl] at k1
  simp only [x9_gotInOrder, h1, QB, k1]
theorem m_or1 {f : Nat → Nat} (hD : OkD D C) (hf : ∀ k, k < nB D → f k < nB D) : ∀ (j k n : Nat) (I : MI) (s : Int32 × PR), k + j = nB D → j < n → Rd I D C → (∀ k, k < nB D → I 147 k = Int32.ofNat (f k)) → Wr I (sor1 D C f k s).2 → OkP D s.2 → ∃ I', x11_order_L63 n (sor1 D C f k s).1 (Int32.ofNat k) I = some ((sor1 D C f (nB D) s).1, I') ∧ Wr I' (sor1 D C f (nB D) s).2 ∧ Fm I I' := by
  have hB := hD.b
  intro j
  induction j with
  | zero =>
    intro k n I s hk hn hR h80 hW hP
    obtain ⟨n, rfl⟩ : ∃ n', n = n' + 1 := ⟨n - 1, by omega⟩
    obtain rfl : k = nB D := by omega
    refine ⟨I, ?_, hW, Fm.refl⟩
    simp (disch := omega) only [x11_order_L63, x11_order_L63s, hR.1.2.2.2.2.1, hD.2.1.2.1.1, QN]
    simp
  | succ j ih =>
    intro k n I s hk hn hR h80 hW hP
    obtain ⟨n, rfl⟩ : ∃ n', n = n' + 1 := ⟨n - 1, by omega⟩
    have hfk := hf k (by omega)
    have hPk := OkP.or1 hD hf hP k (by omega)
    obtain ⟨I1, a1, a2, a3⟩ := m_acts (r := sby D (f k)) hD hR hW hPk hfk (sby_ok hD hfk)
    obtain ⟨I3, c1, c2, c3⟩ := ih (k + 1) n I1 s (by omega) (by omega) (a3.rd hR) (fun k hk => by rw [a3.1 147 (by omega) (by omega) (by omega)]; exact h80 k hk) a2 hP
    refine ⟨I3, ?_, c2, a3.trans c3⟩
    simp (disch := omega) only [x11_order_L63, x11_order_L63s, hR.1.2.2.2.2.1, hD.2.1.2.1.1, QN, QB, if_pos (show k < nB D by omega), h80, m_rule hD hR hfk, a1]
    simp only [sor1] at c1
    cases h1 : (sturn D C (sor1 D C f k s).2 (f k) (sby D (f k))).1 <;> simp only [h1, b2i, Bool.false_eq_true, if_true, if_false, Int32.add_zero, show ((1 : Int32) = 0) = False from eq_false (by decide)] at c1 ⊢ <;> exact c1
theorem m_or {f : Nat → Nat} (hD : OkD D C) (hf : ∀ k, k < nB D → f k < nB D) {N : Nat} (hN : N ≤ 10) : ∀ (j k n : Nat) (I : MI), k + j = N → j < n → Rd I D C → (∀ k, k < nB D → I 147 k = Int32.ofNat (f k)) → Wr I (sor D C f P k).2 → OkP D P → ∃ I', x11_order_L54 (Int32.ofNat N) n (sor D C f P k).1 (Int32.ofNat k) I = some ((sor D C f P N).1, I') ∧ Fm I I' := by
  have hB := hD.b
  intro j
  induction j with
  | zero =>
    intro k n I hk hn hR h80 hW hP
    obtain ⟨n, rfl⟩ : ∃ n', n = n' + 1 := ⟨n - 1, by omega⟩
    obtain rfl : k = N := by omega
    refine ⟨I, ?_, Fm.refl⟩
    simp (disch := omega) only [x11_order_L54, x11_order_L54s, QN]
    simp
  | succ j ih =>
    intro k n I hk hn hR h80 hW hP
    obtain ⟨n, rfl⟩ : ∃ n', n = n' + 1 := ⟨n - 1, by omega⟩
    have hPk := OkP.orn hD hf hP k
    obtain ⟨I1, a1, a2, a3⟩ := m_or1 hD hf (nB D) 0 FU I (sor D C f P k) (by omega) (by unfold FU; omega) hR h80 hW hPk
    obtain ⟨I3, c1, c2⟩ := ih (k + 1) n I1 (by omega) (by omega) (a3.rd hR) (fun k hk => by rw [a3.1 147 (by omega) (by omega) (by omega)]; exact h80 k hk) a2 hP
    refine ⟨I3, ?_, a3.trans c2⟩
    rw [show (sor1 D C f 0 (sor D C f P k)).1 = (sor D C f P k).1 from rfl, show Int32.ofNat 0 = 0 from rfl] at a1
    simp (disch := omega) only [x11_order_L54, x11_order_L54s, QN, QB, if_pos (show k < N by omega), a1]
    exact c1
end TR
