/-! BITCOUNT, TRAILING ZEROS -/
theorem ushr_nI {n j : Nat} (hn : n < 4294967296) (hj : j < 32) : ((nI n).toUInt32 >>> ((nI j).toUInt32 &&& Int32.toUInt32 31)).toInt32 = nI (n / 2 ^ j) := by
  have h1 : ((nI n).toUInt32 >>> ((nI j).toUInt32 &&& Int32.toUInt32 31)).toInt32.toBitVec = (nI (n / 2 ^ j)).toBitVec := by
    rw [nI_bv]
    have h2 : (((nI j).toUInt32 &&& Int32.toUInt32 31).toNat % 32) = j := by
      have : ∀ j, j < 32 → (((nI j).toUInt32 &&& Int32.toUInt32 31).toNat % 32) = j := by decide
      exact this j hj
    apply BitVec.eq_of_toNat_eq
    show ((nI n).toUInt32 >>> ((nI j).toUInt32 &&& Int32.toUInt32 31)).toNat = _
    rw [UInt32.toNat_shiftRight, h2, Nat.shiftRight_eq_div_pow]
    have h3 : (nI n).toUInt32.toNat = n := by
      show (BitVec.ofNat 32 n).toNat = n
      rw [BitVec.toNat_ofNat]
      exact Nat.mod_eq_of_lt hn
    rw [h3, BitVec.toNat_ofNat, Nat.mod_eq_of_lt]
    exact Nat.lt_of_le_of_lt (Nat.div_le_self _ _) hn
  exact Int32.toBitVec_inj.mp h1
theorem and_split {k lo hi m M : Nat} (h1 : lo < 2 ^ k) (h2 : m < 2 ^ k) : (2 ^ k * hi + lo) &&& (2 ^ k * M + m) = 2 ^ k * (hi &&& M) + (lo &&& m) := by
  apply Nat.eq_of_testBit_eq
  intro j
  have h3 : lo &&& m < 2 ^ k := Nat.lt_of_le_of_lt Nat.and_le_left h1
  rw [Nat.testBit_and, Nat.testBit_two_pow_mul_add _ h1, Nat.testBit_two_pow_mul_add _ h2, Nat.testBit_two_pow_mul_add _ h3]
  by_cases h : j < k
  · rw [if_pos h, if_pos h, if_pos h, Nat.testBit_and]
  · rw [if_neg h, if_neg h, if_neg h, Nat.testBit_and]
theorem and_b3 {a b c m : Nat} (ha : a < 256) (hb : b < 256) (hc : c < 256) (hm : m < 256) : (a + 256 * b + 65536 * c) &&& (m + 256 * m + 65536 * m + 16777216 * m) = (a &&& m) + 256 * (b &&& m) + 65536 * (c &&& m) := by
  have e1 : a + 256 * b + 65536 * c = 2 ^ 8 * (2 ^ 8 * c + b) + a := by omega
  have e2 : m + 256 * m + 65536 * m + 16777216 * m = 2 ^ 8 * (2 ^ 8 * (2 ^ 8 * m + m) + m) + m := by omega
  have e3 : c &&& (2 ^ 8 * m + m) = c &&& m := by
    have := and_split (k := 8) (lo := c) (hi := 0) (m := m) (M := m) (by omega) (by omega)
    rw [Nat.mul_zero, Nat.zero_add, Nat.zero_and, Nat.mul_zero, Nat.zero_add] at this
    exact this
  rw [e1, e2, and_split (by omega) (by omega), and_split (by omega) (by omega), e3]
  omega
theorem g1_ok : ∀ a, a < 256 → ∀ t, t < 2 → (a / 2 + 128 * t) &&& 85 = (a / 2) &&& 85 := by decide +kernel
theorem g2_ok : ∀ a, a < 256 → ∀ t, t < 4 → (a / 4 + 64 * t) &&& 51 = (a / 4) &&& 51 := by decide +kernel
def g1 (a : Nat) : Nat := a - ((a / 2) &&& 85)
def g2 (a : Nat) : Nat := (g1 a &&& 51) + ((g1 a / 4) &&& 51)
theorem g_b : ∀ a, a < 256 → g1 a < 256 ∧ (a / 2) &&& 85 ≤ a ∧ g2 a ≤ 68 ∧ g2 a % 16 ≤ 4 := by decide +kernel
theorem g3_ok : ∀ a, a < 256 → ∀ t, t < 5 → (g2 a + g2 a / 16 + 16 * t) &&& 15 = pc a := by decide +kernel
theorem pc_8 : ∀ a, a < 256 → pc a ≤ 8 := by decide +kernel
theorem pc_split {a b c : Nat} (ha : a < 256) (hb : b < 256) (hc : c < 256) : pc (a + 256 * b + 65536 * c) = pc a + pc b + pc c := by
  have e : ∀ k, k < 8 → (a + 256 * b + 65536 * c) / 2 ^ k % 2 = a / 2 ^ k % 2 ∧ (a + 256 * b + 65536 * c) / 2 ^ (k + 8) % 2 = b / 2 ^ k % 2 ∧ (a + 256 * b + 65536 * c) / 2 ^ (k + 16) % 2 = c / 2 ^ k % 2 ∧ (∀ x, x < 256 → x / 2 ^ (k + 8) % 2 = 0 ∧ x / 2 ^ (k + 16) % 2 = 0) := by
    intro k hk
    rcases (show k = 0 ∨ k = 1 ∨ k = 2 ∨ k = 3 ∨ k = 4 ∨ k = 5 ∨ k = 6 ∨ k = 7 by omega) with rfl | rfl | rfl | rfl | rfl | rfl | rfl | rfl <;> refine ⟨?_, ?_, ?_, fun x hx => ⟨?_, ?_⟩⟩ <;> omega
  have z : ∀ x, x < 256 → pc x = sumN (fun k => x / 2 ^ k % 2) 8 := by
    intro x hx
    unfold pc
    have s1 := sumN_split (fun k => x / 2 ^ k % 2) 8 16
    have s2 : sumN (fun i => x / 2 ^ (8 + i) % 2) 16 ≤ 16 * 0 := sumN_le 16 (fun i hi => by
      rw [Nat.div_eq_of_lt]
      · omega
      · have : 2 ^ 8 ≤ 2 ^ (8 + i) := Nat.pow_le_pow_right (by omega) (by omega)
        omega)
    rw [show (8 + 16 : Nat) = 24 by rfl] at s1
    omega
  rw [z a ha, z b hb, z c hc]
  unfold pc
  have s1 := sumN_split (fun k => (a + 256 * b + 65536 * c) / 2 ^ k % 2) 8 16
  have s2 := sumN_split (fun k => (a + 256 * b + 65536 * c) / 2 ^ (8 + k) % 2) 8 8
  rw [show (8 + 16 : Nat) = 24 by rfl] at s1
  rw [show (8 + 8 : Nat) = 16 by rfl] at s2
  rw [s1, s2]
  have c1 : sumN (fun k => (a + 256 * b + 65536 * c) / 2 ^ k % 2) 8 = sumN (fun k => a / 2 ^ k % 2) 8 := sumN_congr 8 (fun k hk => (e k hk).1)
  have c2 : sumN (fun k => (a + 256 * b + 65536 * c) / 2 ^ (8 + k) % 2) 8 = sumN (fun k => b / 2 ^ k % 2) 8 := sumN_congr 8 (fun k hk => by rw [Nat.add_comm 8 k]; exact (e k hk).2.1)
  have c3 : sumN (fun k => (a + 256 * b + 65536 * c) / 2 ^ (8 + (8 + k)) % 2) 8 = sumN (fun k => c / 2 ^ k % 2) 8 := sumN_congr 8 (fun k hk => by rw [show 8 + (8 + k) = k + 16 by omega]; exact (e k hk).2.2.1)
  rw [c1, c2, c3]
  omega
theorem bitCount_24 {n : Nat} (hn : n < 16777216) : f_J6_bitCount_0f7a4 (nI n) = some (nI (pc n)) := by
  obtain ⟨a, b, c, ha, hb, hc, rfl⟩ : ∃ a b c, a < 256 ∧ b < 256 ∧ c < 256 ∧ n = a + 256 * b + 65536 * c := ⟨n % 256, n / 256 % 256, n / 65536, by omega, by omega, by omega, by omega⟩
  unfold f_J6_bitCount_0f7a4
  obtain ⟨a1, a2, a3, a4⟩ := g_b a ha
  obtain ⟨b1, b2, b3, b4⟩ := g_b b hb
  obtain ⟨c1, c2, c3, c4⟩ := g_b c hc
  have v1 : nI (a + 256 * b + 65536 * c) - (((nI (a + 256 * b + 65536 * c)).toUInt32 >>> ((nI 1).toUInt32 &&& Int32.toUInt32 31)).toInt32 &&& nI 1431655765) = nI (g1 a + 256 * g1 b + 65536 * g1 c) := by
    rw [ushr_nI (by omega) (by omega), and_nI]
    have e : (a + 256 * b + 65536 * c) / 2 ^ 1 = (a / 2 + 128 * (b % 2)) + 256 * (b / 2 + 128 * (c % 2)) + 65536 * (c / 2 + 128 * 0) := by omega
    rw [e, show (1431655765 : Nat) = 85 + 256 * 85 + 65536 * 85 + 16777216 * 85 by rfl, and_b3 (by omega) (by omega) (by omega) (by omega), g1_ok a ha _ (by omega), g1_ok b hb _ (by omega), g1_ok c hc 0 (by omega)]
    rw [sub_nI (by omega)]
    congr 1
    unfold g1
    omega
  have v2 : (nI (g1 a + 256 * g1 b + 65536 * g1 c) &&& nI 858993459) + (((nI (g1 a + 256 * g1 b + 65536 * g1 c)).toUInt32 >>> ((nI 2).toUInt32 &&& Int32.toUInt32 31)).toInt32 &&& nI 858993459) = nI (g2 a + 256 * g2 b + 65536 * g2 c) := by
    rw [ushr_nI (by omega) (by omega), and_nI, and_nI]
    have e : (g1 a + 256 * g1 b + 65536 * g1 c) / 2 ^ 2 = (g1 a / 4 + 64 * (g1 b % 4)) + 256 * (g1 b / 4 + 64 * (g1 c % 4)) + 65536 * (g1 c / 4 + 64 * 0) := by omega
    rw [e, show (858993459 : Nat) = 51 + 256 * 51 + 65536 * 51 + 16777216 * 51 by rfl, and_b3 (by omega) (by omega) (by omega) (by omega), and_b3 (by omega) (by omega) (by omega) (by omega), g2_ok _ a1 _ (by omega), g2_ok _ b1 _ (by omega), g2_ok _ c1 0 (by omega), add_nI]
    congr 1
    unfold g2
    omega
  have v3 : (nI (g2 a + 256 * g2 b + 65536 * g2 c) + ((nI (g2 a + 256 * g2 b + 65536 * g2 c)).toUInt32 >>> ((nI 4).toUInt32 &&& Int32.toUInt32 31)).toInt32) &&& nI 252645135 = nI (pc a + 256 * pc b + 65536 * pc c) := by
    rw [ushr_nI (by omega) (by omega), add_nI, and_nI]
    have e : (g2 a + 256 * g2 b + 65536 * g2 c) + (g2 a + 256 * g2 b + 65536 * g2 c) / 2 ^ 4 = (g2 a + g2 a / 16 + 16 * (g2 b % 16)) + 256 * (g2 b + g2 b / 16 + 16 * (g2 c % 16)) + 65536 * (g2 c + g2 c / 16 + 16 * 0) := by omega
    rw [e, show (252645135 : Nat) = 15 + 256 * 15 + 65536 * 15 + 16777216 * 15 by rfl, and_b3 (by omega) (by omega) (by omega) (by omega), g3_ok a ha _ (by omega), g3_ok b hb _ (by omega), g3_ok c hc 0 (by omega)]
  have p1 := pc_8 a ha
  have p2 := pc_8 b hb
  have p3 := pc_8 c hc
  have v4 : nI (pc a + 256 * pc b + 65536 * pc c) + ((nI (pc a + 256 * pc b + 65536 * pc c)).toUInt32 >>> ((nI 8).toUInt32 &&& Int32.toUInt32 31)).toInt32 = nI (pc a + pc b + 256 * (pc b + pc c) + 65536 * pc c) := by
    rw [ushr_nI (by omega) (by omega), add_nI]
    congr 1
    omega
  have v5 : nI (pc a + pc b + 256 * (pc b + pc c) + 65536 * pc c) + ((nI (pc a + pc b + 256 * (pc b + pc c) + 65536 * pc c)).toUInt32 >>> ((nI 16).toUInt32 &&& Int32.toUInt32 31)).toInt32 = nI (pc a + pc b + pc c + 256 * (pc b + pc c) + 65536 * pc c) := by
    rw [ushr_nI (by omega) (by omega), add_nI]
    congr 1
    omega
  have v6 : nI (pc a + pc b + pc c + 256 * (pc b + pc c) + 65536 * pc c) &&& nI 63 = nI (pc a + pc b + pc c) := by
    rw [and_nI, show (63 : Nat) = 2 ^ 6 - 1 by rfl, Nat.and_two_pow_sub_one_eq_mod]
    congr 1
    omega
  simp only [nm_eq]
  rw [pc_split ha hb hc]
  exact (congrArg some (by
    show (fun v => v) _ = _
    exact (by
      have q := v6
      rw [← v5, ← v4, ← v3, ← v2, ← v1] at q
      exact q)))
