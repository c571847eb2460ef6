/-! bits and numbers -/
theorem cnt_l : ∀ n, n < 32 → ((nI n &&& 31).toBitVec.smod 32).toNat = n := by decide
theorem shr_nI {n j : Nat} (hn : n < 2147483648) (hj : j < 32) : nI n >>> (nI j &&& 31) = nI (n / 2 ^ j) := pk_shrN hn _ j (cnt_l j hj)
theorem shl_nI {n j : Nat} (hj : j < 32) (h : n * 2 ^ j < 4294967296) : nI n <<< (nI j &&& 31) = nI (n * 2 ^ j) := pk_shlN _ j (cnt_l j hj) h
theorem nI_bv (n : Nat) : (nI n).toBitVec = BitVec.ofNat 32 n := rfl
theorem and_nI (a b : Nat) : nI a &&& nI b = nI (a &&& b) := by
  apply Int32.toBitVec_inj.mp
  rw [Int32.toBitVec_and, nI_bv, nI_bv, nI_bv, BitVec.ofNat_and]
theorem or_nI (a b : Nat) : nI a ||| nI b = nI (a ||| b) := by
  apply Int32.toBitVec_inj.mp
  rw [Int32.toBitVec_or, nI_bv, nI_bv, nI_bv, BitVec.ofNat_or]
theorem xor_nI (a b : Nat) : nI a ^^^ nI b = nI (a ^^^ b) := by
  apply Int32.toBitVec_inj.mp
  rw [Int32.toBitVec_xor, nI_bv, nI_bv, nI_bv, BitVec.ofNat_xor]
theorem and1_nI (a : Nat) : nI a &&& 1 = nI (a % 2) := by
  show nI a &&& nI 1 = _
  rw [and_nI, Nat.and_one_is_mod]
theorem bit_nI {n j : Nat} (hn : n < 2147483648) (hj : j < 32) : (nI n >>> (nI j &&& 31)) &&& 1 = nI (n / 2 ^ j % 2) := by rw [shr_nI hn hj, and1_nI]
theorem tb_iff (n j : Nat) : n / 2 ^ j % 2 = if n.testBit j then 1 else 0 := by
  rw [Nat.testBit_eq_decide_div_mod_eq]
  by_cases h : n / 2 ^ j % 2 = 1
  · simp [h]
  · have : n / 2 ^ j % 2 = 0 := by omega
    simp [this]
/-- a set bit and its mask -/
theorem one_shl {j : Nat} (hj : j < 32) : (1 : Int32) <<< (nI j &&& 31) = nI (2 ^ j) := by
  have h : 2 ^ j < 2 ^ 32 := Nat.pow_lt_pow_right (by decide) hj
  have := shl_nI (n := 1) hj (by omega)
  rw [Nat.one_mul] at this
  exact this
theorem add_nI (a b : Nat) : nI a + nI b = nI (a + b) := nI_add a b
theorem mul_nI (a b : Nat) : nI a * nI b = nI (a * b) := pk_mul a b
/-- sums -/
def sumN (f : Nat → Nat) : Nat → Nat
  | 0 => 0
  | n + 1 => sumN f n + f n
theorem sumN_le {f : Nat → Nat} {b : Nat} : ∀ n, (∀ i, i < n → f i ≤ b) → sumN f n ≤ n * b := by
  intro n
  induction n with
  | zero => intro _; simp [sumN]
  | succ n ih =>
    intro h
    have h1 := ih (fun i hi => h i (by omega))
    have h2 := h n (by omega)
    simp only [sumN]
    rw [Nat.succ_mul]
    omega
theorem sumN_congr {f g : Nat → Nat} : ∀ n, (∀ i, i < n → f i = g i) → sumN f n = sumN g n := by
  intro n
  induction n with
  | zero => intro _; rfl
  | succ n ih => intro h; simp only [sumN]; rw [ih (fun i hi => h i (by omega)), h n (by omega)]
/-- bits that are set one by one -/
def bitsN (P : Nat → Bool) : Nat → Nat
  | 0 => 0
  | n + 1 => bitsN P n + (if P n then 2 ^ n else 0)
theorem bitsN_lt (P : Nat → Bool) : ∀ n, bitsN P n < 2 ^ n := by
  intro n
  induction n with
  | zero => simp [bitsN]
  | succ n ih =>
    simp only [bitsN]
    rw [Nat.pow_succ]
    split <;> omega
theorem bitsN_test (P : Nat → Bool) : ∀ n i, (bitsN P n).testBit i = (decide (i < n) && P i) := by
  intro n
  induction n with
  | zero => intro i; simp [bitsN]
  | succ n ih =>
    intro i
    have hl := bitsN_lt P n
    simp only [bitsN]
    by_cases hP : P n
    · rw [if_pos hP, Nat.add_comm]
      rcases Nat.lt_trichotomy i n with h | h | h
      · rw [Nat.testBit_two_pow_add_gt h, ih]
        simp [h, Nat.lt_succ_of_lt h]
      · subst h
        rw [Nat.testBit_two_pow_add_eq, ih]
        simp [hP]
      · have : 2 ^ n + bitsN P n < 2 ^ i := by
          have : 2 ^ (n + 1) ≤ 2 ^ i := Nat.pow_le_pow_right (by decide) h
          rw [Nat.pow_succ] at this
          omega
        rw [Nat.testBit_lt_two_pow this]
        simp; omega
    · rw [if_neg hP, Nat.add_zero, ih]
      by_cases h : i = n
      · subst h; simp [hP]
      · simp only [Bool.not_eq_true] at hP
        by_cases h2 : i < n
        · simp [h2, Nat.lt_succ_of_lt h2]
        · have : ¬ i < n + 1 := by omega
          simp [h2, this]
theorem bitsN_or (P : Nat → Bool) (n : Nat) : bitsN P n ||| 2 ^ n = bitsN P n + 2 ^ n := by
  have h := Nat.two_pow_add_eq_or_of_lt (bitsN_lt P n) 1
  rw [Nat.mul_one] at h
  rw [Nat.or_comm, ← h, Nat.add_comm]
theorem bitsN_congr {P Q : Nat → Bool} : ∀ n, (∀ i, i < n → P i = Q i) → bitsN P n = bitsN Q n := by
  intro n
  induction n with
  | zero => intro _; rfl
  | succ n ih => intro h; simp only [bitsN]; rw [ih (fun i hi => h i (by omega)), h n (by omega)]
theorem bitsN_self {t : Nat} : ∀ n, t < 2 ^ n → bitsN (fun i => t.testBit i) n = t := by
  intro n h
  apply Nat.eq_of_testBit_eq
  intro i
  rw [bitsN_test]
  by_cases hi : i < n
  · simp [hi]
  · have : t < 2 ^ i := Nat.lt_of_lt_of_le h (Nat.pow_le_pow_right (by decide) (by omega))
    rw [Nat.testBit_lt_two_pow this]
    simp
