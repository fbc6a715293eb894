/-! SETS AS BITS -/
def pc (s : Nat) : Nat := s % 2 + s / 2 % 2 + s / 4 % 2 + s / 8 % 2 + s / 16 % 2 + s / 32 % 2 + s / 64 % 2 + s / 128 % 2 + s / 256 % 2 + s / 512 % 2
theorem bit0 : ∀ a, a < 32 → ∀ b, b < 32 → ∀ k, k < 10 → ((Int32.ofNat (32 * a + b) >>> (Int32.ofNat k &&& 31)) &&& 1) = Int32.ofNat ((32 * a + b) / 2 ^ k % 2) := by decide +kernel
theorem bit_n {s k : Nat} (hs : s < 1024) (hk : k < 10) : ((Int32.ofNat s >>> (Int32.ofNat k &&& 31)) &&& 1) = Int32.ofNat (s / 2 ^ k % 2) := by
  have := bit0 (s / 32) (by omega) (s % 32) (by omega) k hk
  rwa [Nat.div_add_mod] at this
theorem or0 : ∀ a, a < 32 → ∀ b, b < 32 → ∀ k, k < 10 → (Int32.ofNat (32 * a + b) ||| ((1 : Int32) <<< (Int32.ofNat k &&& 31))) = Int32.ofNat ((32 * a + b) ||| 2 ^ k) := by decide +kernel
theorem or_n {s k : Nat} (hs : s < 1024) (hk : k < 10) : (Int32.ofNat s ||| ((1 : Int32) <<< (Int32.ofNat k &&& 31))) = Int32.ofNat (s ||| 2 ^ k) := by
  have := or0 (s / 32) (by omega) (s % 32) (by omega) k hk
  rwa [Nat.div_add_mod] at this
theorem shl_n : ∀ n, n < 13 → ((1 : Int32) <<< (Int32.ofNat n &&& 31)) = Int32.ofNat (2 ^ n) := by decide +kernel
theorem two0 : ∀ a, a < 64 → ∀ b, b < 64 → ∀ m, m < 6 → ((Int32.ofNat (64 * a + b) >>> (Int32.ofNat (2 * m) &&& 31)) &&& 3) = Int32.ofNat ((64 * a + b) / 4 ^ m % 4) := by decide +kernel
theorem two_n {s m : Nat} (hs : s < 4096) (hm : m < 6) : ((Int32.ofNat s >>> (Int32.ofNat (2 * m) &&& 31)) &&& 3) = Int32.ofNat (s / 4 ^ m % 4) := by
  have := two0 (s / 64) (by omega) (s % 64) (by omega) m hm
  rwa [Nat.div_add_mod] at this
theorem cnt0 : ∀ a, a < 32 → ∀ b, b < 32 → j6_bitCount_0f7a4 (Int32.ofNat (32 * a + b)) (fun _ _ => 0) = some (Int32.ofNat (pc (32 * a + b))) := by decide +kernel
theorem cnt_n {s : Nat} (hs : s < 1024) (I : MI) : j6_bitCount_0f7a4 (Int32.ofNat s) I = some (Int32.ofNat (pc s)) := by
  have := cnt0 (s / 32) (by omega) (s % 32) (by omega)
  rwa [Nat.div_add_mod] at this
theorem pc_le (s : Nat) : pc s ≤ 10 := by unfold pc; omega
theorem pc_k (s : Nat) : pc s = s / 2 ^ 0 % 2 + s / 2 ^ 1 % 2 + s / 2 ^ 2 % 2 + s / 2 ^ 3 % 2 + s / 2 ^ 4 % 2 + s / 2 ^ 5 % 2 + s / 2 ^ 6 % 2 + s / 2 ^ 7 % 2 + s / 2 ^ 8 % 2 + s / 2 ^ 9 % 2 := by
  unfold pc
  simp
/-- the first n bits -/
def pcn (s : Nat) : Nat → Nat
  | 0 => 0
  | n + 1 => pcn s n + s / 2 ^ n % 2
theorem pcn_10 (s : Nat) : pcn s 10 = pc s := by
  rw [pc_k]
  simp only [pcn]
  omega
theorem m_memL {s : Nat} (hs : s < 1024) : ∀ (j k n : Nat), k + j = 10 → j < n → x11_members_L4 (Int32.ofNat s) n (Int32.ofNat (pcn s k)) (Int32.ofNat k) = some (Int32.ofNat (pc s)) := by
  intro j
  induction j with
  | zero =>
    intro k n hk hn
    obtain ⟨n, rfl⟩ : ∃ n', n = n' + 1 := ⟨n - 1, by omega⟩
    obtain rfl : k = 10 := by omega
    rw [pcn_10]
    simp (disch := omega) only [x11_members_L4, x11_members_L4s, QN]
    simp
  | succ j ih =>
    intro k n hk hn
    obtain ⟨n, rfl⟩ : ∃ n', n = n' + 1 := ⟨n - 1, by omega⟩
    have hi := ih (k + 1) n (by omega) (by omega)
    simp (disch := omega) only [x11_members_L4, x11_members_L4s, QN, QB, if_pos (show k < 10 by omega), bit_n hs (show k < 10 by omega)]
    exact hi
theorem m_mem {s : Nat} (hs : s < 1024) (I : MI) : x11_members (Int32.ofNat s) I = some (Int32.ofNat (pc s)) := by
  have := m_memL hs 10 0 FU (by omega) (by unfold FU; omega)
  rw [show pcn s 0 = 0 from rfl, show Int32.ofNat 0 = 0 from rfl] at this
  simp only [x11_members, QB, this]
/-- a set within another one -/
theorem sub_and {x r : Int32} : (x &&& (r ^^^ (-1))) = 0 ↔ x &&& r = x := by
  constructor
  · intro h
    have h2 := congrArg Int32.toBitVec h
    apply Int32.toBitVec.inj
    simp only [Int32.toBitVec_and, Int32.toBitVec_xor, Int32.toBitVec_neg] at h2 ⊢
    ext i hi
    have h3 := congrArg (fun b => b.getLsbD i) h2
    have e1 : (-(1 : Int32).toBitVec).getLsbD i = true := by
      rw [show -(1 : Int32).toBitVec = BitVec.allOnes 32 from by decide, BitVec.getLsbD_allOnes]; simpa using hi
    simp only [BitVec.getLsbD_and, BitVec.getLsbD_xor, e1, Bool.xor_true] at h3
    rw [show (0 : Int32).toBitVec = 0#32 from rfl, BitVec.getLsbD_zero] at h3
    simp only [← BitVec.getLsbD_eq_getElem, BitVec.getLsbD_and]
    cases h4 : x.toBitVec.getLsbD i <;> cases h5 : r.toBitVec.getLsbD i <;> simp_all
  · intro h
    apply Int32.toBitVec.inj
    have h2 := congrArg Int32.toBitVec h
    simp only [Int32.toBitVec_and, Int32.toBitVec_xor, Int32.toBitVec_neg] at h2 ⊢
    ext i hi
    have h3 := congrArg (fun b => b.getLsbD i) h2
    have e1 : (-(1 : Int32).toBitVec).getLsbD i = true := by
      rw [show -(1 : Int32).toBitVec = BitVec.allOnes 32 from by decide, BitVec.getLsbD_allOnes]; simpa using hi
    simp only [BitVec.getLsbD_and] at h3
    rw [show (0 : Int32).toBitVec = 0#32 from rfl]
    simp only [← BitVec.getLsbD_eq_getElem, BitVec.getLsbD_and, BitVec.getLsbD_xor, e1, BitVec.getLsbD_zero]
    cases h4 : x.toBitVec.getLsbD i <;> cases h5 : r.toBitVec.getLsbD i <;> simp_all
theorem and_n (p r : Nat) : Int32.ofNat p &&& Int32.ofNat r = Int32.ofNat (p &&& r) := by
  apply Int32.toBitVec.inj
  simp only [Int32.toBitVec_and]
  show BitVec.ofNat 32 p &&& BitVec.ofNat 32 r = BitVec.ofNat 32 (p &&& r)
  apply BitVec.eq_of_toNat_eq
  simp [BitVec.toNat_and, Nat.and_mod_two_pow]
theorem sub_n {p r : Nat} (hp : p < 1024) (hr : r < 1024) : ((Int32.ofNat p &&& (Int32.ofNat r ^^^ (-1))) = 0) = (p &&& r = p) := by
  rw [propext sub_and, and_n, q_eq (by have : p &&& r ≤ p := Nat.and_le_left; omega) (by omega)]
/-- a number that is not below 0, within a set, is a set -/
theorem sub_set {x : Int32} {r : Nat} (h0 : ¬ x < 0) (hr : r < 1024) (h : (x &&& (Int32.ofNat r ^^^ (-1))) = 0) : ∃ p, p ≤ r ∧ x = Int32.ofNat p ∧ p &&& r = p := by
  have h1 : 0 ≤ x := by rw [← Int32.not_lt]; exact h0
  have e := (Int32.ofNat_toNatClampNeg x h1).symm
  have h2 := sub_and.mp h
  rw [e, and_n] at h2
  have h3 := Int32.toNatClampNeg_lt x
  have h4 : x.toNatClampNeg &&& r ≤ x.toNatClampNeg := Nat.and_le_left
  rw [q_eq (by omega) (by omega)] at h2
  have h5 : x.toNatClampNeg &&& r ≤ r := Nat.and_le_right
  exact ⟨x.toNatClampNeg, by omega, e, h2⟩
theorem q_div {a n : Nat} (ha : a < 2147483648) (hb : n < 2147483648) : Int32.ofNat a / Int32.ofNat n = Int32.ofNat (a / n) := (Int32.ofNat_div ha hb).symm
theorem q_rm {a n : Nat} (ha : a < 2147483648) (hb : n < 2147483648) : Int32.ofNat a - Int32.ofNat a / Int32.ofNat n * Int32.ofNat n = Int32.ofNat (a % n) := by
  rw [q_div ha hb, q_mul, q_sub (Nat.div_mul_le_self _ _)]
  congr 1
  have := Nat.div_add_mod a n
  rw [Nat.mul_comm]; omega
