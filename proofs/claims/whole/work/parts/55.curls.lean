/-! CURLS -/
theorem and15 (n : Nat) : nI n &&& nI 15 = nI (n % 16) := by
  rw [and_nI, show (15 : Nat) = 2 ^ 4 - 1 by rfl, Nat.and_two_pow_sub_one_eq_mod]
theorem nib4 : ∀ a0, a0 < 6 → ∀ a1, a1 < 6 → ∀ a2, a2 < 6 → ∀ a3, a3 < 6 → ∀ c, c < 6 → (2 ^ (4 * a0) + 2 ^ (4 * a1) + 2 ^ (4 * a2) + 2 ^ (4 * a3)) / 2 ^ (4 * c) % 16 = (if a0 = c then 1 else 0) + (if a1 = c then 1 else 0) + (if a2 = c then 1 else 0) + (if a3 = c then 1 else 0) := by decide +kernel
theorem p16_le : ∀ a, a < 6 → 2 ^ (4 * a) ≤ 1048576 := by decide
def cd (C i : Nat) : Nat := C / 6 ^ (3 - i) % 6
def gB (b : Nat → Nat) (g i : Nat) : Nat := b (6 * g + i)
def rgt (b : Nat → Nat) (g C : Nat) : Nat := sumN (fun i => if gB b g i = cd C i then 1 else 0) 4
def shr (b : Nat → Nat) (g C : Nat) (n : Nat) : Nat := sumN (fun c => min (cw (gB b g) 4 c) (cw (cd C) 4 c)) n
theorem cd_lt (C i : Nat) : cd C i < 6 := Nat.mod_lt _ (by omega)
theorem rgt_le (b : Nat → Nat) (g C : Nat) : rgt b g C ≤ 4 := sumN_le1 4 (fun i => by show (if gB b g i = cd C i then 1 else 0) ≤ 1; split <;> omega)
theorem shr_le (b : Nat → Nat) (g C : Nat) (n : Nat) : shr b g C n ≤ n * 4 := sumN_le n (fun c _ => by
  have := cw_le (gB b g) 4 c
  show min (cw (gB b g) 4 c) (cw (cd C) 4 c) ≤ 4
  omega)
def dnC (k : Nat) : Int32 := ([3, 2, 1, 0] : List Int32).getD k (-1)
theorem dn_ok : ∀ k, k < 4 → (¬ dnC k < nI 0) ∧ dnC k = nI (3 - k) ∧ dnC k + -nI 1 = dnC (k + 1) := by decide
theorem dn_end : dnC 4 < nI 0 := by decide
/-- from the last curl on -/
def rgtR (b : Nat → Nat) (g C : Nat) (k : Nat) : Nat := sumN (fun j => if gB b g (3 - j) = C / 6 ^ j % 6 then 1 else 0) k
theorem rgtR_4 (b : Nat → Nat) (g C : Nat) : rgtR b g C 4 = rgt b g C := by
  unfold rgtR rgt cd
  simp only [sumN]
  simp
  omega
theorem right_C {n g C : Nat} {f : Nat → Int32} {b : Nat → Nat} (tC : CTape (nI n) f n b) (hg : 6 * g + 6 ≤ n) (hC : C < 1296) : f_X5_rightOnes (nI n) f (nI (6 * g)) (nI C) = some (nI (rgt b g C)) := by
  have t1 := tC.1
  rw [← rgtR_4]
  unfold f_X5_rightOnes L_X5_rightOnes_8
  have h0 : (nI 0, nI C, nI 3) = (nI (rgtR b g C 0), nI (C / 6 ^ 0), dnC 0) := by rw [Nat.pow_zero, Nat.div_one]; rfl
  show lp _ fu (nI 0, nI C, nI 3) = _
  rw [h0]
  refine lp_run (fun k => (nI (rgtR b g C k), nI (C / 6 ^ k), dnC k)) 4 _ ?_ ?_ (fu_gt (by omega))
  · intro go k hk
    obtain ⟨a, e1, e2⟩ := dn_ok k hk
    have hb := (tC.2.2 (6 * g + (3 - k)) (by omega)).2
    have hcl : C / 6 ^ k ≤ C := Nat.div_le_self _ _
    have e3 : nI (6 * g) + dnC k = nI (6 * g + (3 - k)) := by rw [e1, add_nI]
    have e4 : C / 6 ^ k / 6 = C / 6 ^ (k + 1) := by rw [Nat.div_div_eq_div_mul, Nat.pow_succ]
    simp (disch := omega) only [ltz, e3, e2, at_C tC (show 6 * g + (3 - k) < n by omega), some_bind, rm_nI, dv_nI, e4, jn_eq, nm_eq, eq_nI, add_nI]
    rw [if_neg a]
    show _ = go (nI (rgtR b g C k + (if gB b g (3 - k) = C / 6 ^ k % 6 then 1 else 0)), _, _)
    unfold gB
    by_cases h : b (6 * g + (3 - k)) = C / 6 ^ k % 6 <;> simp [h]
  · intro go
    simp only [ltz]
    rw [if_pos dn_end]
theorem shared_C {n g C : Nat} {f : Nat → Int32} {b : Nat → Nat} (tC : CTape (nI n) f n b) (hg : 6 * g + 6 ≤ n) (hC : C < 1296) (hcol : ∀ i, i < 4 → gB b g i < 6) : f_X5_sharedOnes (nI n) f (nI (6 * g)) (nI C) = some (nI (shr b g C 6)) := by
  have t1 := tC.1
  obtain ⟨G, hG⟩ : ∃ G : Nat → Nat, G = fun k => sumN (fun i => 2 ^ (4 * gB b g i)) k := ⟨_, rfl⟩
  obtain ⟨Rl, hR⟩ : ∃ Rl : Nat → Nat, Rl = fun k => sumN (fun i => 2 ^ (4 * (C / 6 ^ i % 6))) k := ⟨_, rfl⟩
  have hGb : ∀ k, k ≤ 4 → G k ≤ k * 1048576 := fun k hk => by rw [hG]; exact sumN_le k (fun i hi => p16_le _ (hcol i (by omega)))
  have hRb : ∀ k, Rl k ≤ k * 1048576 := fun k => by rw [hR]; exact sumN_le k (fun i _ => p16_le _ (Nat.mod_lt _ (by omega)))
  have e1 : ∀ k0 : Int32 × Int32 → Option Int32, L_X5_sharedOnes_11 (nI n) f (nI (6 * g)) k0 fu (nI 0, nI 0, nI C, nI 0) = k0 (nI (G 4), nI (Rl 4)) := by
    intro k0
    unfold L_X5_sharedOnes_11
    have h0 : (nI 0, nI 0, nI C, nI 0) = (nI (G 0), nI (Rl 0), nI (C / 6 ^ 0), nI 0) := by rw [hG, hR, Nat.pow_zero, Nat.div_one]; rfl
    rw [h0]
    refine lp_run (fun k => (nI (G k), nI (Rl k), nI (C / 6 ^ k), nI k)) 4 _ ?_ ?_ (fu_gt (by omega))
    · intro go k hk
      have hc := hcol k hk
      have hcl : C / 6 ^ k ≤ C := Nat.div_le_self _ _
      have e4 : C / 6 ^ k / 6 = C / 6 ^ (k + 1) := by rw [Nat.div_div_eq_div_mul, Nat.pow_succ]
      have hat := at_C tC (show 6 * g + k < n by omega)
      have s1 : nI 1 <<< (nI (4 * b (6 * g + k)) &&& nI 31) = nI (2 ^ (4 * b (6 * g + k))) := one_shl (by unfold gB at hc; omega)
      have hm6 : C / 6 ^ k % 6 < 6 := Nat.mod_lt _ (by omega)
      have s2 : nI 1 <<< (nI (4 * (C / 6 ^ k % 6)) &&& nI 31) = nI (2 ^ (4 * (C / 6 ^ k % 6))) := one_shl (by omega)
      simp (disch := omega) only [ltz, le_nI, add_nI, hat, some_bind, mul_nI, s1, rm_nI, s2, dv_nI, e4, nm_eq]
      rw [if_neg (by omega), hG, hR]
      rfl
    · intro go
      simp (disch := omega) only [ltz, le_nI]
      rw [if_pos (by omega)]
  unfold f_X5_sharedOnes
  simp only [ltz, e1]
  unfold L_X5_sharedOnes_65
  refine lp_run (fun c => (nI (shr b g C c), nI c)) 6 _ ?_ ?_ (fu_gt (by omega))
  · intro go c hc
    have g1 := hGb 4 (by omega)
    have r1 := hRb 4
    have q1 : nI (G 4) >>> (nI (4 * c) &&& nI 31) &&& nI 15 = nI (cw (gB b g) 4 c) := by
      have h0 : nI (G 4) >>> (nI (4 * c) &&& nI 31) = nI (G 4 / 2 ^ (4 * c)) := shr_nI (by omega) (by omega)
      rw [h0, and15, hG]
      have := nib4 (gB b g 0) (hcol 0 (by omega)) (gB b g 1) (hcol 1 (by omega)) (gB b g 2) (hcol 2 (by omega)) (gB b g 3) (hcol 3 (by omega)) c hc
      simp only [sumN, cw, Nat.zero_add] at this ⊢
      rw [this]
    have q2 : nI (Rl 4) >>> (nI (4 * c) &&& nI 31) &&& nI 15 = nI (cw (cd C) 4 c) := by
      have h0 : nI (Rl 4) >>> (nI (4 * c) &&& nI 31) = nI (Rl 4 / 2 ^ (4 * c)) := shr_nI (by omega) (by omega)
      rw [h0, and15, hR]
      have := nib4 (C / 6 ^ 0 % 6) (Nat.mod_lt _ (by omega)) (C / 6 ^ 1 % 6) (Nat.mod_lt _ (by omega)) (C / 6 ^ 2 % 6) (Nat.mod_lt _ (by omega)) (C / 6 ^ 3 % 6) (Nat.mod_lt _ (by omega)) c hc
      have e5 : cw (cd C) 4 c = (if C / 6 ^ 3 % 6 = c then 1 else 0) + (if C / 6 ^ 2 % 6 = c then 1 else 0) + (if C / 6 ^ 1 % 6 = c then 1 else 0) + (if C / 6 ^ 0 % 6 = c then 1 else 0) := by
        simp only [cw, sumN, cd, Nat.zero_add]
        rfl
      simp only [sumN, Nat.zero_add]
      rw [this, e5]
      congr 1
      omega
    have c1 := cw_le (gB b g) 4 c
    have c2 := cw_le (cd C) 4 c
    simp (disch := omega) only [ltz, le_nI, mul_nI, q1, q2, imin_nI, nm_eq, add_nI]
    rw [if_neg (by omega)]
    rfl
  · intro go
    simp (disch := omega) only [ltz, le_nI]
    rw [if_pos (by omega)]
theorem curlOf_M {C i : Nat} (hC : C < 1296) (hi : i < 4) : f_X12_curlOf (nI C) (nI i) = some (nI (cd C i)) := by
  unfold f_X12_curlOf cd
  simp (disch := omega) only [ltz, eq_nI, dv_nI, rm_nI]
  rcases (show i = 0 ∨ i = 1 ∨ i = 2 ∨ i = 3 by omega) with rfl | rfl | rfl | rfl
  · rw [if_pos rfl, show (6 : Nat) ^ (3 - 0) = 216 by rfl, Nat.mod_eq_of_lt (by omega)]
  · rw [if_neg (by omega), if_pos rfl]
  · rw [if_neg (by omega), if_neg (by omega), if_pos rfl]
  · rw [if_neg (by omega), if_neg (by omega), if_neg (by omega), show (6 : Nat) ^ (3 - 3) = 1 by rfl, Nat.div_one]
def fgB (b : Nat → Nat) (C g : Nat) : Bool := decide (rgt b g C = b (6 * g + 4)) && decide (shr b g C 6 = b (6 * g + 4) + b (6 * g + 5))
theorem zI_eq {a c : Int} (h1 : -2147483648 ≤ a) (h2 : a < 2147483648) (h3 : -2147483648 ≤ c) (h4 : c < 2147483648) : (zI a = zI c) = (a = c) := by
  apply propext
  rw [i32_eq, zI_toInt h1 h2, zI_toInt h3 h4]
theorem guess_M {n g C : Nat} {t : Int32} {h : Nat → Int32} {b : Nat → Nat} (hn1 : n ≤ 260) (hby : ∀ i, i < n → b i < 256) (tM : MTape t h n b) (hg : 6 * g + 6 ≤ n) (hC : C < 1296) : f_X12_fitsGuess h (nI C) (nI g) = some (nI (if fgB b C g = true then 1 else 0)) := by
  have e1 : ∀ (x4 : Int32) (k0 : Int32 → Option Int32), L_X12_fitsGuess_8 h (nI C) (nI g) x4 k0 fu (nI 0, nI 0) = k0 (nI (rgt b g C)) := by
    intro x4 k0
    unfold L_X12_fitsGuess_8
    refine lp_run (fun i => (nI (sumN (fun i => if gB b g i = cd C i then 1 else 0) i), nI i)) 4 _ ?_ ?_ (fu_gt (by omega))
    · intro go i hi
      have hb := hby (6 * g + i) (by omega)
      have hc := cd_lt C i
      simp (disch := omega) only [ltz, le_nI, curlOf_M hC hi, some_bind, mul_nI, add_nI, at_M hn1 tM (show 6 * g + i < n by omega), eq_nI, nm_eq]
      rw [if_neg (by omega)]
      simp only [sumN, gB]
      by_cases q : b (6 * g + i) = cd C i
      · have q' : cd C i = b (6 * g + i) := q.symm
        simp [q]
      · have q' : ¬ cd C i = b (6 * g + i) := fun e => q e.symm
        simp [q, q']
    · intro go
      simp (disch := omega) only [ltz, le_nI]
      rw [if_pos (by omega)]
      rfl
  have e2 : ∀ (x3 x4 : Int32) (c : Nat) (k0 : Int32 × Int32 → Option Int32), c < 6 → L_X12_fitsGuess_63 h (nI C) (nI g) x3 x4 (nI c) k0 fu (nI 0, nI 0, nI 0) = k0 (nI (cw (cd C) 4 c), nI (cw (gB b g) 4 c)) := by
    intro x3 x4 c k0 hc
    unfold L_X12_fitsGuess_63
    refine lp_run (fun i => (nI (cw (cd C) i c), nI (cw (gB b g) i c), nI i)) 4 _ ?_ ?_ (fu_gt (by omega))
    · intro go i hi
      have hb := hby (6 * g + i) (by omega)
      have hcl := cd_lt C i
      simp (disch := omega) only [ltz, le_nI, curlOf_M hC hi, some_bind, mul_nI, add_nI, at_M hn1 tM (show 6 * g + i < n by omega), eq_nI, nm_eq, jn_eq]
      rw [if_neg (by omega)]
      show _ = go (nI (cw (cd C) i c + (if cd C i = c then 1 else 0)), nI (cw (gB b g) i c + (if gB b g i = c then 1 else 0)), nI (i + 1))
      unfold gB
      by_cases q : cd C i = c
      · by_cases q2 : b (6 * g + i) = c <;> simp [q, q2]
      · by_cases q2 : b (6 * g + i) = c <;> simp [q, q2]
    · intro go
      simp (disch := omega) only [ltz, le_nI]
      rw [if_pos (by omega)]
  have e3 : ∀ (x3 : Int32) (k0 : Int32 → Option Int32), L_X12_fitsGuess_47 h (nI C) (nI g) x3 k0 fu (nI 0, nI 0) = k0 (nI (shr b g C 6)) := by
    intro x3 k0
    unfold L_X12_fitsGuess_47
    refine lp_run (fun c => (nI (shr b g C c), nI c)) 6 _ ?_ ?_ (fu_gt (by omega))
    · intro go c hc
      have c1 := cw_le (gB b g) 4 c
      have c2 := cw_le (cd C) 4 c
      simp (disch := omega) only [ltz, le_nI, e2, min_M, some_bind, nm_eq, add_nI]
      rw [if_neg (by omega), Nat.min_comm]
      rfl
    · intro go
      simp (disch := omega) only [ltz, le_nI]
      rw [if_pos (by omega)]
  have r1 := rgt_le b g C
  have s1 := shr_le b g C 6
  have b4 := hby (6 * g + 4) (by omega)
  have b5 := hby (6 * g + 5) (by omega)
  unfold f_X12_fitsGuess
  have e5 : nI (shr b g C 6) - nI (rgt b g C) = zI ((shr b g C 6 : Int) - rgt b g C) := by rw [zI_nat, zI_nat, zI_sub]
  have e6 : (zI ((shr b g C 6 : Int) - rgt b g C) = nI (b (6 * g + 5))) = ((shr b g C 6 : Int) - rgt b g C = b (6 * g + 5)) := by rw [zI_nat]; exact zI_eq (by omega) (by omega) (by omega) (by omega)
  simp (disch := omega) only [ltz, e1, e3, mul_nI, add_nI, at_M hn1 tM (show 6 * g + 4 < n by omega), at_M hn1 tM (show 6 * g + 5 < n by omega), some_bind, eq_nI, e5, e6]
  unfold fgB
  by_cases q : rgt b g C = b (6 * g + 4)
  · by_cases q2 : shr b g C 6 = b (6 * g + 4) + b (6 * g + 5)
    · have q3 : (shr b g C 6 : Int) - rgt b g C = b (6 * g + 5) := by omega
      rw [if_pos q, if_pos q3]
      simp [q, q2]
    · have q3 : ¬ (shr b g C 6 : Int) - rgt b g C = b (6 * g + 5) := by omega
      rw [if_pos q, if_neg q3]
      simp [q, q2]
  · rw [if_neg q]
    simp [q]
