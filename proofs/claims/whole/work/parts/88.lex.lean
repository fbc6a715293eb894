/-! THE TEXT: tokens -/
def kwl : List (List Nat) := [[20, 21, 2], [2, 25], [15, 4, 4, 19], [6, 18, 5, 5], [19, 20, 1, 12, 11], [23, 1, 12, 12], [7, 18, 15, 21, 14, 4], [12, 5, 1, 14], [18, 21, 12, 5], [1, 16, 16, 12, 5], [1, 20], [19, 9, 26, 5], [19, 15, 6, 20], [3, 15, 9, 14], [2, 15, 2, 2, 5, 18], [18, 5, 1, 3, 8], [2, 18, 5, 1, 20, 8], [13, 15, 21, 20, 8], [4, 18, 1, 23], [2, 9, 20, 5], [6, 1, 18], [20, 18, 9, 5, 19], [11, 9, 14, 4], [15, 18], [1, 14, 4], [14, 15, 20]]
def enc (B : Nat) (d : Nat → Nat) : Nat → Nat
  | 0 => 0
  | n + 1 => enc B d n * B + d n
def e32 (w : List Nat) : Nat := enc 32 (fun i => w.getD i 0) w.length
def e256 (w : List Nat) : Nat := enc 256 (fun i => w.getD i 0 + 96) w.length
def OKW (w : List Nat) : Prop := w.length ≤ 8 ∧ ∀ i, i < w.length → 1 ≤ w.getD i 0 ∧ w.getD i 0 ≤ 26
def kwf (w : List Nat) : Nat → Nat
  | 0 => 26
  | n + 1 => if kwl.getD n [] = w then n else kwf w n
def isLe (c : Nat) : Bool := decide (97 ≤ c ∧ c ≤ 122)
def isDi (c : Nat) : Bool := decide (48 ≤ c ∧ c ≤ 57)
def isSg (c : Nat) : Bool := c == 37 || c == 40 || c == 41 || c == 42 || c == 43 || c == 45 || c == 47 || c == 59 || c == 60 || c == 61 || c == 62
/-- blanks gone past, k bytes being left -/
def skp (T : Nat → Nat) : Nat → Nat → Nat
  | 0, p => p
  | k + 1, p => if T p = 32 ∨ T p = 10 then skp T k (p + 1) else p
/-- how many bytes of a sort stand from here on, k being left -/
def rn (g : Nat → Bool) (T : Nat → Nat) : Nat → Nat → Nat
  | 0, _ => 0
  | k + 1, p => if g (T p) = true then rn g T k (p + 1) + 1 else 0
def dgv (T : Nat → Nat) (q : Nat) : Nat → Nat
  | 0 => 0
  | n + 1 => dgv T q n * 10 + (T (q + n) - 48)
def tkq (T : Nat → Nat) (N p : Nat) : Nat := skp T (N - p) p
def tlw (T : Nat → Nat) (N q : Nat) : Nat := rn isLe T (N - q) q
def tld (T : Nat → Nat) (N q : Nat) : Nat := rn isDi T (N - q) q
def twl (T : Nat → Nat) (N q : Nat) : List Nat := (List.range (tlw T N q)).map (fun i => T (q + i) - 96)
/-- the sort of the token at q: a word of the language, 26 a name, 27 a number, 28 the end, 29 none, a sign -/
def tks (T : Nat → Nat) (N q : Nat) : Nat := if q < N then (if isLe (T q) = true then (if 8 < tlw T N q then 29 else kwf (twl T N q) 26) else if isDi (T q) = true then (if 4 < tld T N q ∨ (q + tld T N q < N ∧ isLe (T (q + tld T N q)) = true) then 29 else 27) else if isSg (T q) = true then T q else 29) else 28
def tke (T : Nat → Nat) (N q : Nat) : Nat := if q < N then (if isLe (T q) = true then q + tlw T N q else if isDi (T q) = true then q + tld T N q else q + 1) else q
def tkv (T : Nat → Nat) (N q : Nat) : Nat := dgv T q (tld T N q)
theorem enc_inj {B : Nat} {d d' : Nat → Nat} : ∀ (n m : Nat), (∀ i, i < n → 1 ≤ d i ∧ d i < B) → (∀ i, i < m → 1 ≤ d' i ∧ d' i < B) → enc B d n = enc B d' m → n = m ∧ ∀ i, i < n → d i = d' i
  | 0, 0, _, _, _ => ⟨rfl, fun i hi => by omega⟩
  | 0, m + 1, _, h, e => by
    have := h m (by omega)
    simp only [enc] at e
    omega
  | n + 1, 0, h, _, e => by
    have := h n (by omega)
    simp only [enc] at e
    omega
  | n + 1, m + 1, h, h', e => by
    have h1 := h n (by omega)
    have h2 := h' m (by omega)
    simp only [enc] at e
    have hB : 0 < B := by omega
    have e1 : d n = d' m := by
      have := congrArg (· % B) e
      simpa only [Nat.add_comm (_ * B), Nat.add_mul_mod_self_right, Nat.mod_eq_of_lt h1.2, Nat.mod_eq_of_lt h2.2] using this
    have e2 : enc B d n = enc B d' m := by
      rw [e1] at e
      exact Nat.eq_of_mul_eq_mul_right hB (by omega)
    obtain ⟨g1, g2⟩ := enc_inj n m (fun i hi => h i (by omega)) (fun i hi => h' i (by omega)) e2
    refine ⟨by omega, fun i hi => ?_⟩
    by_cases e3 : i = n
    · subst e3; rw [e1, g1]
    · exact g2 i (by omega)
theorem enc_lt {B : Nat} {d : Nat → Nat} : ∀ n, (∀ i, i < n → d i < B) → enc B d n < B ^ n
  | 0, _ => by simp [enc]
  | n + 1, h => by
    have ih := enc_lt n (fun i hi => h i (by omega))
    have h1 := h n (by omega)
    simp only [enc]
    rw [Nat.pow_succ]
    have : (enc B d n + 1) * B ≤ B ^ n * B := Nat.mul_le_mul_right B ih
    rw [Nat.succ_mul] at this
    omega
theorem list_ext {w w' : List Nat} (h1 : w.length = w'.length) (h2 : ∀ i, i < w.length → w.getD i 0 = w'.getD i 0) : w = w' := by
  apply List.ext_getElem h1
  intro i g1 g2
  have := h2 i g1
  simpa [List.getD_eq_getElem?_getD, g1, g2] using this
theorem e32_inj {w w' : List Nat} (h : OKW w) (h' : OKW w') (e : e32 w = e32 w') : w = w' := by
  obtain ⟨g1, g2⟩ := enc_inj w.length w'.length (fun i hi => ⟨(h.2 i hi).1, by have := (h.2 i hi).2; omega⟩) (fun i hi => ⟨(h'.2 i hi).1, by have := (h'.2 i hi).2; omega⟩) e
  exact list_ext g1 g2
theorem e256_inj {w w' : List Nat} (h : OKW w) (h' : OKW w') (e : e256 w = e256 w') : w = w' := by
  obtain ⟨g1, g2⟩ := enc_inj w.length w'.length (fun i hi => ⟨by omega, by have := (h.2 i hi).2; omega⟩) (fun i hi => ⟨by omega, by have := (h'.2 i hi).2; omega⟩) e
  exact list_ext g1 (fun i hi => by have := g2 i hi; omega)
theorem i64_inj {a b : Nat} (ha : a < 2 ^ 64) (hb : b < 2 ^ 64) : (Int64.ofNat a = Int64.ofNat b) = (a = b) := by
  refine propext ⟨fun h => ?_, fun h => by rw [h]⟩
  have h2 := congrArg (fun x : Int64 => x.toBitVec.toNat) h
  simp only [Int64.toBitVec_ofNat', BitVec.toNat_ofNat] at h2
  omega
theorem e32_lt {w : List Nat} (h : OKW w) : e32 w < 2 ^ 64 := by
  have h1 := enc_lt (B := 32) (d := fun i => w.getD i 0) w.length (fun i hi => by have := (h.2 i hi).2; show w.getD i 0 < 32; omega)
  have h2 : 32 ^ w.length ≤ 32 ^ 8 := Nat.pow_le_pow_right (by omega) h.1
  exact Nat.lt_of_lt_of_le h1 (Nat.le_trans h2 (by decide))
theorem e256_lt {w : List Nat} (h : OKW w) : e256 w < 2 ^ 64 := by
  have h1 := enc_lt (B := 256) (d := fun i => w.getD i 0 + 96) w.length (fun i hi => by have := (h.2 i hi).2; show w.getD i 0 + 96 < 256; omega)
  have h2 : 256 ^ w.length ≤ 256 ^ 8 := Nat.pow_le_pow_right (by omega) h.1
  exact Nat.lt_of_lt_of_le h1 (Nat.le_trans h2 (by decide))
theorem e32_eq {w w' : List Nat} (h : OKW w) (h' : OKW w') : (Int64.ofNat (e32 w) = Int64.ofNat (e32 w')) = (w = w') := by
  rw [i64_inj (e32_lt h) (e32_lt h')]
  exact propext ⟨e32_inj h h', fun e => by rw [e]⟩
theorem e256_eq {w w' : List Nat} (h : OKW w) (h' : OKW w') : (Int64.ofNat (e256 w) = Int64.ofNat (e256 w')) = (w = w') := by
  rw [i64_inj (e256_lt h) (e256_lt h')]
  exact propext ⟨e256_inj h h', fun e => by rw [e]⟩
theorem kwl_ok : ∀ i, i < 26 → ((kwl.getD i []).length ≤ 8 ∧ ∀ j, j < (kwl.getD i []).length → 1 ≤ (kwl.getD i []).getD j 0 ∧ (kwl.getD i []).getD j 0 ≤ 26) := by decide +kernel
theorem kwl_wdl : ∀ i, i < 26 → wdl.getD i 0 = Int64.ofNat (e32 (kwl.getD i [])) := by decide +kernel
theorem kwl_ne : ∀ i, i < 26 → ∀ j, j < 26 → kwl.getD i [] = kwl.getD j [] → i = j := by decide +kernel
theorem kwf_is {w : List Nat} : ∀ n, n ≤ 26 → (kwf w n = 26 ∧ ∀ i, i < n → ¬ kwl.getD i [] = w) ∨ (kwf w n < n ∧ kwl.getD (kwf w n) [] = w)
  | 0, _ => Or.inl ⟨rfl, fun i hi => by omega⟩
  | n + 1, hn => by
    simp only [kwf]
    by_cases e : kwl.getD n [] = w
    · rw [if_pos e]; exact Or.inr ⟨by omega, e⟩
    · rw [if_neg e]
      rcases kwf_is n (by omega) with ⟨h1, h2⟩ | ⟨h1, h2⟩
      · refine Or.inl ⟨h1, fun i hi => ?_⟩
        by_cases ei : i = n
        · subst ei; exact e
        · exact h2 i (by omega)
      · exact Or.inr ⟨by omega, h2⟩
/-- which word of the language a word is -/
theorem kwf_iff {w : List Nat} {i : Nat} (hi : i < 26) : kwf w 26 = i ↔ kwl.getD i [] = w := by
  rcases kwf_is (w := w) 26 (by omega) with ⟨h1, h2⟩ | ⟨h1, h2⟩
  · constructor
    · intro e; omega
    · intro e; exact absurd e (h2 i hi)
  · constructor
    · intro e; rw [← e]; exact h2
    · intro e; exact kwl_ne _ h1 _ hi (h2.trans e.symm)
theorem kwf_le (w : List Nat) : kwf w 26 ≤ 26 := by
  rcases kwf_is (w := w) 26 (by omega) with ⟨h1, h2⟩ | ⟨h1, h2⟩ <;> omega
theorem rn_all {g : Nat → Bool} {T : Nat → Nat} : ∀ k p i, i < rn g T k p → g (T (p + i)) = true
  | 0, p, i, h => by simp [rn] at h
  | k + 1, p, i, h => by
    simp only [rn] at h
    split at h
    · next hg =>
      cases i with
      | zero => exact hg
      | succ i =>
        have := rn_all (g := g) (T := T) k (p + 1) i (by omega)
        rw [show p + (i + 1) = p + 1 + i by omega]; exact this
    · omega
theorem rn_le {g : Nat → Bool} {T : Nat → Nat} : ∀ k p, rn g T k p ≤ k
  | 0, _ => Nat.le_refl _
  | k + 1, p => by
    simp only [rn]
    split
    · have := rn_le (g := g) (T := T) k (p + 1); omega
    · omega
theorem skp_le {T : Nat → Nat} : ∀ k p, p ≤ skp T k p ∧ skp T k p ≤ p + k
  | 0, p => ⟨Nat.le_refl _, Nat.le_refl _⟩
  | k + 1, p => by
    simp only [skp]
    split
    · have := skp_le (T := T) k (p + 1); omega
    · omega
theorem twl_ok {T : Nat → Nat} {N q : Nat} (h : ¬ 8 < tlw T N q) : OKW (twl T N q) ∧ (twl T N q).length = tlw T N q ∧ ∀ i, i < tlw T N q → (twl T N q).getD i 0 + 96 = T (q + i) := by
  have hl : (twl T N q).length = tlw T N q := by simp [twl]
  have hg : ∀ i, i < tlw T N q → (twl T N q).getD i 0 = T (q + i) - 96 := fun i hi => by simp [twl, List.getD_eq_getElem?_getD, hi]
  have ha : ∀ i, i < tlw T N q → 97 ≤ T (q + i) ∧ T (q + i) ≤ 122 := fun i hi => by
    have := rn_all (g := isLe) (T := T) (N - q) q i hi
    simpa [isLe] using this
  refine ⟨⟨by omega, fun i hi => ?_⟩, hl, fun i hi => ?_⟩
  · rw [hl] at hi
    have := ha i hi
    rw [hg i hi]; omega
  · have := ha i hi
    rw [hg i hi]; omega
theorem sx8_c : ∀ c, c < 256 → ((sx8 c < 97) = (c < 97 ∨ 128 ≤ c)) ∧ ((122 < sx8 c) = (122 < c ∧ c < 128)) ∧ ((sx8 c < 48) = (c < 48 ∨ 128 ≤ c)) ∧ ((57 < sx8 c) = (57 < c ∧ c < 128)) ∧ ((sx8 c = 32) = (c = 32)) ∧ ((sx8 c = 10) = (c = 10)) ∧ (c < 128 → sx8 c = Int32.ofNat c) := by
  intro c hc
  have h : ∀ c, c < 256 → (decide (sx8 c < 97) = decide (c < 97 ∨ 128 ≤ c)) ∧ (decide (122 < sx8 c) = decide (122 < c ∧ c < 128)) ∧ (decide (sx8 c < 48) = decide (c < 48 ∨ 128 ≤ c)) ∧ (decide (57 < sx8 c) = decide (57 < c ∧ c < 128)) ∧ (decide (sx8 c = 32) = decide (c = 32)) ∧ (decide (sx8 c = 10) = decide (c = 10)) ∧ (c < 128 → sx8 c = Int32.ofNat c) := by decide +kernel
  obtain ⟨h1, h2, h3, h4, h5, h6, h7⟩ := h c hc
  refine ⟨?_, ?_, ?_, ?_, ?_, ?_, h7⟩ <;> (apply propext; apply decide_eq_decide.mp; assumption)
theorem lcmp_0 (a b : Int64) : (lg_cmp a b = 0) = (a = b) := by
  simp only [lg_cmp]
  by_cases h : a > b
  · rw [if_pos h]
    refine propext ⟨fun e => absurd e (by decide), fun e => ?_⟩
    rw [e] at h
    exact absurd h (by rw [gt_iff_lt, Int64.lt_iff_toInt_lt]; omega)
  · rw [if_neg h]
    by_cases e : a = b
    · simp [e]
    · simp [e]
theorem wL_at {L : ML} {a i : Nat} {v : Int64} : wL L a i v a i = v := by simp [wL]
theorem wL_ne {L : ML} {a i b j : Nat} {v : Int64} (h : b ≠ a ∨ j ≠ i) : wL L a i v b j = L b j := by
  simp only [wL]
  split
  · split
    · omega
    · rfl
  · rfl
theorem wL_c {L : ML} {a i b : Nat} {v : Int64} (h : b ≠ a) : wL L a i v b = L b := wL_off h
