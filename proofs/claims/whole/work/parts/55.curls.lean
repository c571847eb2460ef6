/-! CURLS -/
theorem and15 (n : Nat) : nI n &&& nI 15 = nI (n % 16) := by
  rw [and_nI, show (15 : Nat) = 2 ^ 4 - 1 by rfl, Nat.and_two_pow_sub_one_eq_mod]
theorem nib4 : ∀ a0, a0 < 6 → ∀ a1, a1 < 6 → ∀ a2, a2 < 6 → ∀ a3, a3 < 6 → ∀ c, c < 6 → (2 ^ (4 * a0) + 2 ^ (4 * a1) + 2 ^ (4 * a2) + 2 ^ (4 * a3)) / 2 ^ (4 * c) % 16 = (if a0 = c then 1 else 0) + (if a1 = c then 1 else 0) + (if a2 = c then 1 else 0) + (if a3 = c then 1 else 0) := by decide +kernel
theorem p16_le : ∀ a, a < 6 → 2 ^ (4 * a) ≤ 1048576 := by decide
def cd (C i : Nat) : Nat := C / 6 ^ (3 - i) % 6
def gB (b : Nat → Nat) (g i : Nat) : Nat := b (6 * g + i)
def rgt (b : Nat → Nat) (g C : Nat) : Nat := sumN (fun i => if gB b g i = cd C i then 1 else 0) 4
def shr (b : Nat → Nat) (g C : Nat) (n : Nat) : Nat := sumN (fun c => min (cw (gB b g) 4 c) (cw (cd C) 4 c)) n
theorem cd_lt (C i : Nat) : cd C i < 6 := Nat.mod_lt _ (by omega)
theorem rgt_le (b : Nat → Nat) (g C : Nat) : rgt b g C ≤ 4 := sumN_le1 4 (fun i => by show (if gB b g i = cd C i then 1 else 0) ≤ 1; split <;> omega)
theorem shr_le (b : Nat → Nat) (g C : Nat) (n : Nat) : shr b g C n ≤ n * 4 := sumN_le n (fun c _ => by
  have := cw_le (gB b g) 4 c
  show min (cw (gB b g) 4 c) (cw (cd C) 4 c) ≤ 4
  omega)
def dnC (k : Nat) : Int32 := ([3, 2, 1, 0] : List Int32).getD k (-1)
theorem dn_ok : ∀ k, k < 4 → (¬ dnC k < nI 0) ∧ dnC k = nI (3 - k) ∧ dnC k + -nI 1 = dnC (k + 1) := by decide
theorem dn_end : dnC 4 < nI 0 := by decide
/-- from the last curl on -/
def rgtR (b : Nat → Nat) (g C : Nat) (k : Nat) : Nat := sumN (fun j => if gB b g (3 - j) = C / 6 ^ j % 6 then 1 else 0) k
theorem rgtR_4 (b : Nat → Nat) (g C : Nat) : rgtR b g C 4 = rgt b g C := by
  unfold rgtR rgt cd
  simp only [sumN]
  simp
  omega
theorem right_C {n g C : Nat} {f : Nat → Int32} {b : Nat → Nat} (tC : CTape (nI n) f n b) (hg : 6 * g + 6 ≤ n) (hC : C < 1296) : f_X5_rightOnes (nI n) f (nI (6 * g)) (nI C) = some (nI (rgt b g C)) := by
  have t1 := tC.1
  rw [← rgtR_4]
  unfold f_X5_rightOnes L_X5_rightOnes_8
  have h0 : (nI 0, nI C, nI 3) = (nI (rgtR b g C 0), nI (C / 6 ^ 0), dnC 0) := by rw [Nat.pow_zero, Nat.div_one]; rfl
  show lp _ fu (nI 0, nI C, nI 3) = _
  rw [h0]
  refine lp_run (fun k => (nI (rgtR b g C k), nI (C / 6 ^ k), dnC k)) 4 _ ?_ ?_ (fu_gt (by omega))
  · intro go k hk
    obtain ⟨a, e1, e2⟩ := dn_ok k hk
    have hb := (tC.2.2 (6 * g + (3 - k)) (by omega)).2
    have hcl : C / 6 ^ k ≤ C := Nat.div_le_self _ _
    have e3 : nI (6 * g) + dnC k = nI (6 * g + (3 - k)) := by rw [e1, add_nI]
    have e4 : C / 6 ^ k / 6 = C / 6 ^ (k + 1) := by rw [Nat.div_div_eq_div_mul, Nat.pow_succ]
    simp (disch := omega) only [ltz, e3, e2, at_C tC (show 6 * g + (3 - k) < n by omega), some_bind, rm_nI, dv_nI, e4, jn_eq, nm_eq, eq_nI, add_nI]
    rw [if_neg a]
    show _ = go (nI (rgtR b g C k + (if gB b g (3 - k) = C / 6 ^ k % 6 then 1 else 0)), _, _)
    unfold gB
    by_cases h : b (6 * g + (3 - k)) = C / 6 ^ k % 6 <;> simp [h]
  · intro go
    simp only [ltz]
    rw [if_pos dn_end]
theorem shared_C {n g C : Nat} {f : Nat → Int32} {b : Nat → Nat} (tC : CTape (nI n) f n b) (hg : 6 * g + 6 ≤ n) (hC : C < 1296) (hcol : ∀ i, i < 4 → gB b g i < 6) : f_X5_sharedOnes (nI n) f (nI (6 * g)) (nI C) = some (nI (shr b g C 6)) := by
  have t1 := tC.1
  obtain ⟨G, hG⟩ : ∃ G : Nat → Nat, G = fun k => sumN (fun i => 2 ^ (4 * gB b g i)) k := ⟨_, rfl⟩
  obtain ⟨Rl, hR⟩ : ∃ Rl : Nat → Nat, Rl = fun k => sumN (fun i => 2 ^ (4 * (C / 6 ^ i % 6))) k := ⟨_, rfl⟩
  have hGb : ∀ k, k ≤ 4 → G k ≤ k * 1048576 := fun k hk => by rw [hG]; exact sumN_le k (fun i hi => p16_le _ (hcol i (by omega)))
  have hRb : ∀ k, Rl k ≤ k * 1048576 := fun k => by rw [hR]; exact sumN_le k (fun i _ => p16_le _ (Nat.mod_lt _ (by omega)))
  have e1 : ∀ k0 : Int32 × Int32 → Option Int32, L_X5_sharedOnes_11 (nI n) f (nI (6 * g)) k0 fu (nI 0, nI 0, nI C, nI 0) = k0 (nI (G 4), nI (Rl 4)) := by
    intro k0
    unfold L_X5_sharedOnes_11
    have h0 : (nI 0, nI 0, nI C, nI 0) = (nI (G 0), nI (Rl 0), nI (C / 6 ^ 0), nI 0) := by rw [hG, hR, Nat.pow_zero, Nat.div_one]; rfl
    rw [h0]
    refine lp_run (fun k => (nI (G k), nI (Rl k), nI (C / 6 ^ k), nI k)) 4 _ ?_ ?_ (fu_gt (by omega))
    · intro go k hk
      have hc := hcol k hk
      have hcl : C / 6 ^ k ≤ C := Nat.div_le_self _ _
      have e4 : C / 6 ^ k / 6 = C / 6 ^ (k + 1) := by rw [Nat.div_div_eq_div_mul, Nat.pow_succ]
      have hat := at_C tC (show 6 * g + k < n by omega)
      have s1 : nI 1 <<< (nI (4 * b (6 * g + k)) &&& nI 31) = nI (2 ^ (4 * b (6 * g + k))) := one_shl (by unfold gB at hc; omega)
      have hm6 : C / 6 ^ k % 6 < 6 := Nat.mod_lt _ (by omega)
      have s2 : nI 1 <<< (nI (4 * (C / 6 ^ k % 6)) &&& nI 31) = nI (2 ^ (4 * (C / 6 ^ k % 6))) := one_shl (by omega)
      simp (disch := omega) only [ltz, le_nI, add_nI, hat, some_bind, mul_nI, s1, rm_nI, s2, dv_nI, e4, nm_eq]
      rw [if_neg (by omega), hG, hR]
      rfl
    · intro go
      simp (disch := omega) only [ltz, le_nI]
      rw [if_pos (by omega)]
  unfold f_X5_sharedOnes
  simp only [ltz, e1]
  unfold L_X5_sharedOnes_65
  refine lp_run (fun c => (nI (shr b g C c), nI c)) 6 _ ?_ ?_ (fu_gt (by omega))
  · intro go c hc
    have g1 := hGb 4 (by omega)
    have r1 := hRb 4
    have q1 : nI (G 4) >>> (nI (4 * c) &&& nI 31) &&& nI 15 = nI (cw (gB b g) 4 c) := by
      have h0 : nI (G 4) >>> (nI (4 * c) &&& nI 31) = nI (G 4 / 2 ^ (4 * c)) := shr_nI (by omega) (by omega)
      rw [h0, and15, hG]
      have := nib4 (gB b g 0) (hcol 0 (by omega)) (gB b g 1) (hcol 1 (by omega)) (gB b g 2) (hcol 2 (by omega)) (gB b g 3) (hcol 3 (by omega)) c hc
      simp only [sumN, cw, Nat.zero_add] at this ⊢
      rw [this]
    have q2 : nI (Rl 4) >>> (nI (4 * c) &&& nI 31) &&& nI 15 = nI (cw (cd C) 4 c) := by
      have h0 : nI (Rl 4) >>> (nI (4 * c) &&& nI 31) = nI (Rl 4 / 2 ^ (4 * c)) := shr_nI (by omega) (by omega)
      rw [h0, and15, hR]
      have := nib4 (C / 6 ^ 0 % 6) (Nat.mod_lt _ (by omega)) (C / 6 ^ 1 % 6) (Nat.mod_lt _ (by omega)) (C / 6 ^ 2 % 6) (Nat.mod_lt _ (by omega)) (C / 6 ^ 3 % 6) (Nat.mod_lt _ (by omega)) c hc
      have e5 : cw (cd C) 4 c = (if C / 6 ^ 3 % 6 = c then 1 else 0) + (if C / 6 ^ 2 % 6 = c then 1 else 0) + (if C / 6 ^ 1 % 6 = c then 1 else 0) + (if C / 6 ^ 0 % 6 = c then 1 else 0) := by
        simp only [cw, sumN, cd, Nat.zero_add]
        rfl
      simp only [sumN, Nat.zero_add]
      rw [this, e5]
      congr 1
      omega
    have c1 := cw_le (gB b g) 4 c
    have c2 := cw_le (cd C) 4 c
    simp (disch := omega) only [ltz, le_nI, mul_nI, q1, q2, imin_nI, nm_eq, add_nI]
    rw [if_neg (by omega)]
    rfl
  · intro go
    simp (disch := omega) only [ltz, le_nI]
    rw [if_pos (by omega)]
theorem curlOf_M {C i : Nat} (hC : C < 1296) (hi : i < 4) : f_X12_curlOf (nI C) (nI i) = some (nI (cd C i)) := by
  unfold f_X12_curlOf cd
  simp (disch := omega) only [ltz, eq_nI, dv_nI, rm_nI]
  rcases (show i = 0 ∨ i = 1 ∨ i = 2 ∨ i = 3 by omega) with rfl | rfl | rfl | rfl
  · rw [if_pos rfl, show (6 : Nat) ^ (3 - 0) = 216 by rfl, Nat.mod_eq_of_lt (by omega)]
  · rw [if_neg (by omega), if_pos rfl]
  · rw [if_neg (by omega), if_neg (by omega), if_pos rfl]
  · rw [if_neg (by omega), if_neg (by omega), if_neg (by omega), show (6 : Nat) ^ (3 - 3) = 1 by rfl, Nat.div_one]
def fgB (b : Nat → Nat) (C g : Nat) : Bool := decide (rgt b g C = b (6 * g + 4)) && decide (shr b g C 6 = b (6 * g + 4) + b (6 * g + 5))
theorem zI_eq {a c : Int} (h1 : -2147483648 ≤ a) (h2 : a < 2147483648) (h3 : -2147483648 ≤ c) (h4 : c < 2147483648) : (zI a = zI c) = (a = c) := by
  apply propext
  rw [i32_eq, zI_toInt h1 h2, zI_toInt h3 h4]
theorem guess_M {n g C : Nat} {t : Int32} {h : Nat → Int32} {b : Nat → Nat} (hn1 : n ≤ 260) (hby : ∀ i, i < n → b i < 256) (tM : MTape t h n b) (hg : 6 * g + 6 ≤ n) (hC : C < 1296) : f_X12_fitsGuess h (nI C) (nI g) = some (nI (if fgB b C g = true then 1 else 0)) := by
  have e1 : ∀ (x4 : Int32) (k0 : Int32 → Option Int32), L_X12_fitsGuess_8 h (nI C) (nI g) x4 k0 fu (nI 0, nI 0) = k0 (nI (rgt b g C)) := by
    intro x4 k0
    unfold L_X12_fitsGuess_8
    refine lp_run (fun i => (nI (sumN (fun i => if gB b g i = cd C i then 1 else 0) i), nI i)) 4 _ ?_ ?_ (fu_gt (by omega))
    · intro go i hi
      have hb := hby (6 * g + i) (by omega)
      have hc := cd_lt C i
      simp (disch := omega) only [ltz, le_nI, curlOf_M hC hi, some_bind, mul_nI, add_nI, at_M hn1 tM (show 6 * g + i < n by omega), eq_nI, nm_eq]
      rw [if_neg (by omega)]
      simp only [sumN, gB]
      by_cases q : b (6 * g + i) = cd C i
      · have q' : cd C i = b (6 * g + i) := q.symm
        simp [q]
      · have q' : ¬ cd C i = b (6 * g + i) := fun e => q e.symm
        simp [q, q']
    · intro go
      simp (disch := omega) only [ltz, le_nI]
      rw [if_pos (by omega)]
      rfl
  have e2 : ∀ (x3 x4 : Int32) (c : Nat) (k0 : Int32 × Int32 → Option Int32), c < 6 → L_X12_fitsGuess_63 h (nI C) (nI g) x3 x4 (nI c) k0 fu (nI 0, nI 0, nI 0) = k0 (nI (cw (cd C) 4 c), nI (cw (gB b g) 4 c)) := by
    intro x3 x4 c k0 hc
    unfold L_X12_fitsGuess_63
    refine lp_run (fun i => (nI (cw (cd C) i c), nI (cw (gB b g) i c), nI i)) 4 _ ?_ ?_ (fu_gt (by omega))
    · intro go i hi
      have hb := hby (6 * g + i) (by omega)
      have hcl := cd_lt C i
      simp (disch := omega) only [ltz, le_nI, curlOf_M hC hi, some_bind, mul_nI, add_nI, at_M hn1 tM (show 6 * g + i < n by omega), eq_nI, nm_eq, jn_eq]
      rw [if_neg (by omega)]
      show _ = go (nI (cw (cd C) i c + (if cd C i = c then 1 else 0)), nI (cw (gB b g) i c + (if gB b g i = c then 1 else 0)), nI (i + 1))
      unfold gB
      by_cases q : cd C i = c
      · by_cases q2 : b (6 * g + i) = c <;> simp [q, q2]
      · by_cases q2 : b (6 * g + i) = c <;> simp [q, q2]
    · intro go
      simp (disch := omega) only [ltz, le_nI]
      rw [if_pos (by omega)]
  have e3 : ∀ (x3 : Int32) (k0 : Int32 → Option Int32), L_X12_fitsGuess_47 h (nI C) (nI g) x3 k0 fu (nI 0, nI 0) = k0 (nI (shr b g C 6)) := by
    intro x3 k0
    unfold L_X12_fitsGuess_47
    refine lp_run (fun c => (nI (shr b g C c), nI c)) 6 _ ?_ ?_ (fu_gt (by omega))
    · intro go c hc
      have c1 := cw_le (gB b g) 4 c
      have c2 := cw_le (cd C) 4 c
      simp (disch := omega) only [ltz, le_nI, e2, min_M, some_bind, nm_eq, add_nI]
      rw [if_neg (by omega), Nat.min_comm]
      rfl
    · intro go
      simp (disch := omega) only [ltz, le_nI]
      rw [if_pos (by omega)]
  have r1 := rgt_le b g C
  have s1 := shr_le b g C 6
  have b4 := hby (6 * g + 4) (by omega)
  have b5 := hby (6 * g + 5) (by omega)
  unfold f_X12_fitsGuess
  have e5 : nI (shr b g C 6) - nI (rgt b g C) = zI ((shr b g C 6 : Int) - rgt b g C) := by rw [zI_nat, zI_nat, zI_sub]
  have e6 : (zI ((shr b g C 6 : Int) - rgt b g C) = nI (b (6 * g + 5))) = ((shr b g C 6 : Int) - rgt b g C = b (6 * g + 5)) := by rw [zI_nat]; exact zI_eq (by omega) (by omega) (by omega) (by omega)
  simp (disch := omega) only [ltz, e1, e3, mul_nI, add_nI, at_M hn1 tM (show 6 * g + 4 < n by omega), at_M hn1 tM (show 6 * g + 5 < n by omega), some_bind, eq_nI, e5, e6]
  unfold fgB
  by_cases q : rgt b g C = b (6 * g + 4)
  · by_cases q2 : shr b g C 6 = b (6 * g + 4) + b (6 * g + 5)
    · have q3 : (shr b g C 6 : Int) - rgt b g C = b (6 * g + 5) := by omega
      rw [if_pos q, if_pos q3]
      simp [q, q2]
    · have q3 : ¬ (shr b g C 6 : Int) - rgt b g C = b (6 * g + 5) := by omega
      rw [if_pos q, if_neg q3]
      simp [q, q2]
  · rw [if_neg q]
    simp [q]

theorem allN_iff (P : Nat → Bool) : ∀ n, allN P n = true ↔ ∀ i, i < n → P i = true := by
  intro n
  induction n with
  | zero => exact ⟨fun _ i h => absurd h (Nat.not_lt_zero i), fun _ => rfl⟩
  | succ n ih =>
    simp only [allN, Bool.and_eq_true, ih]
    constructor
    · intro ⟨h1, h2⟩ i hi
      rcases Nat.lt_or_ge i n with h | h
      · exact h1 i h
      · rw [show i = n by omega]; exact h2
    · intro h
      exact ⟨fun i hi => h i (by omega), h n (by omega)⟩
theorem lp_flag {β : Type} {body : (Int32 × Int32 → Option β) → Int32 × Int32 → Option β} (P : Nat → Bool) (N : Nat) (k0 : Int32 → Option β) (hs : ∀ go k, k < N → body go (nI 1, nI k) = go (nI (if P k = true then 1 else 0), nI (k + 1))) (hz : ∀ go k, k ≤ N → body go (nI 0, nI k) = k0 (nI 0)) (he : ∀ go, body go (nI 1, nI N) = k0 (nI 1)) {n : Nat} (hn : N + 1 < n) : lp body n (nI 1, nI 0) = k0 (nI (if allN P N = true then 1 else 0)) := by
  have key : ∀ (d k n : Nat), k + d = N → d + 1 < n → allN P k = true → lp body n (nI 1, nI k) = k0 (nI (if allN P N = true then 1 else 0)) := by
    intro d
    induction d with
    | zero =>
      intro k n hk hn ha
      obtain ⟨n, rfl⟩ : ∃ m, n = m + 1 := ⟨n - 1, by omega⟩
      have : k = N := by omega
      subst this
      rw [lp_s, he, if_pos ha]
    | succ d ih =>
      intro k n hk hn ha
      obtain ⟨n, rfl⟩ : ∃ m, n = m + 1 := ⟨n - 1, by omega⟩
      rw [lp_s, hs _ k (by omega)]
      rcases Bool.eq_false_or_eq_true (P k) with h | h
      · rw [if_pos h]
        exact ih (k + 1) n (by omega) (by omega) (by simp only [allN, ha, h, Bool.and_self])
      · rw [if_neg (by rw [h]; decide)]
        obtain ⟨n, rfl⟩ : ∃ m, n = m + 1 := ⟨n - 1, by omega⟩
        rw [lp_s, hz _ (k + 1) (by omega), if_neg]
        rw [allN_iff]
        intro hh
        rw [hh k (by omega)] at h
        cases h
  exact key N 0 n (by omega) hn rfl
theorem sumN_rev (F : Nat → Nat) : ∀ n, sumN (fun j => F (n - 1 - j)) n = sumN F n := by
  intro n
  induction n with
  | zero => rfl
  | succ n ih =>
    have h := sumN_split (fun j => F (n + 1 - 1 - j)) 1 n
    rw [Nat.add_comm n 1] at *
    rw [h]
    have e : sumN (fun j => F (n - 1 - j)) n = sumN (fun i => F (1 + n - 1 - (1 + i))) n := sumN_congr n (fun i hi => by
      show F (n - 1 - i) = F (1 + n - 1 - (1 + i))
      congr 1
      omega)
    rw [← e, ih, Nat.add_comm 1 n]
    show sumN (fun j => F (n + 1 - 1 - j)) 1 + sumN F n = sumN F n + F n
    have : sumN (fun j => F (n + 1 - 1 - j)) 1 = F n := by simp [sumN]
    omega
/-- the last found, counting down from n - 1 -/
def lfd (Q : Nat → Bool) (n : Nat) : Nat → Option Nat
  | 0 => none
  | k + 1 => if Q (n - 1 - k) then some (n - 1 - k) else lfd Q n k
theorem lfd_ok (Q : Nat → Bool) (n : Nat) : ∀ k, k ≤ n → (lfd Q n k = none ∧ ∀ i, n - k ≤ i → i < n → Q i = false) ∨ (∃ c, lfd Q n k = some c ∧ Q c = true ∧ c < n ∧ ∀ i, n - k ≤ i → i < c → Q i = false) := by
  intro k
  induction k with
  | zero => exact fun _ => Or.inl ⟨rfl, fun i h1 h2 => by omega⟩
  | succ k ih =>
    intro hk
    rcases Bool.eq_false_or_eq_true (Q (n - 1 - k)) with h | h
    · refine Or.inr ⟨n - 1 - k, ?_, h, by omega, fun i h1 h2 => by omega⟩
      simp only [lfd, h, if_true]
    · have e : lfd Q n (k + 1) = lfd Q n k := by simp [lfd, h]
      rw [e]
      have hq : ∀ i, n - (k + 1) ≤ i → i < n - k → Q i = false := fun i h1 h2 => by rw [show i = n - 1 - k by omega]; exact h
      rcases ih (by omega) with ⟨a, b⟩ | ⟨c, a, b, d, f⟩
      · refine Or.inl ⟨a, fun i h1 h2 => ?_⟩
        rcases Nat.lt_or_ge i (n - k) with h3 | h3
        · exact hq i h1 h3
        · exact b i h3 h2
      · refine Or.inr ⟨c, a, b, d, fun i h1 h2 => ?_⟩
        rcases Nat.lt_or_ge i (n - k) with h3 | h3
        · exact hq i h1 h3
        · exact f i h3 h2
theorem lfd_fst (Q : Nat → Bool) (n : Nat) : lfd Q n n = fstN (fun i => !Q i) n := by
  rcases lfd_ok Q n n (Nat.le_refl _) with ⟨a, b⟩ | ⟨c, a, b, d, f⟩
  · rw [a]
    cases h : fstN (fun i => !Q i) n with
    | none => rfl
    | some k =>
      obtain ⟨h1, h2, _⟩ := fstN_some h
      have := b k (by omega) h1
      simp [this] at h2
  · rw [a]
    cases h : fstN (fun i => !Q i) n with
    | none =>
      have := fstN_none h c d
      simp [b] at this
    | some k =>
      obtain ⟨h1, h2, h3⟩ := fstN_some h
      have hk : Q k = true := by simpa using h2
      congr 1
      rcases Nat.lt_trichotomy c k with h4 | h4 | h4
      · have := h3 c h4
        simp [b] at this
      · exact h4
      · have := f k (by omega) h4
        rw [hk] at this
        cases this
theorem match_all {β : Type} (P : Nat → Bool) (n : Nat) (A B : β) : (if allN P n = true then A else B) = match fstN P n with
    | none => A
    | some _ => B := by rw [allN_fst]; cases fstN P n <;> rfl
def colB (b : Nat → Nat) (g i : Nat) : Bool := decide (gB b g i < 6)
theorem areColours_C {n m : Nat} {f : Nat → Int32} {b : Nat → Nat} (tC : CTape (nI n) f n b) (hm : 6 * m ≤ n) : f_X5_areColours (nI n) f (nI m) = some (nI (if allN (fun g => allN (colB b g) 4) m = true then 1 else 0)) := by
  have t1 := tC.1
  have e1 : ∀ (g : Nat) (k0 : Unit → Option Int32), g < m → L_X5_areColours_9 (nI n) f (nI m) (nI g) k0 fu (nI 0) = if allN (colB b g) 4 = true then k0 () else some (nI 0) := by
    intro g k0 hg
    rw [match_all]
    unfold L_X5_areColours_9
    have step : ∀ (go : Int32 → Option Int32) (i : Nat), i < 4 → (if nI 4 ≤ nI i then k0 () else (f_X8_at (nI n) f (nI 6 * nI g + nI i)).bind fun u1 => if u1 < nI 6 then nm (nI i + nI 1) fun v2 => go v2 else some (nI 0)) = if colB b g i = true then go (nI (i + 1)) else some (nI 0) := by
      intro go i hi
      have b1 := (tC.2.2 (6 * g + i) (by omega)).2
      simp (disch := omega) only [le_nI, mul_nI, add_nI, at_C tC (show 6 * g + i < n by omega), some_bind, lt_nI, nm_eq]
      rw [if_neg (by omega)]
      unfold colB gB
      simp only [decide_eq_true_eq]
    refine lp_find (fun i => nI i) 4 _ (fun _ => some (nI 0)) _ ?_ ?_ ?_ (fu_gt (by omega))
    · intro go i hi hP
      simp only [ltz]
      rw [step go i hi, if_pos hP]
    · intro go i hi hP
      simp only [ltz]
      rw [step go i hi, if_neg (by rw [hP]; decide)]
    · intro go
      simp (disch := omega) only [ltz, le_nI]
      rw [if_pos (by omega)]
  have e0 : some (nI (if allN (fun g => allN (colB b g) 4) m = true then 1 else 0)) = if allN (fun g => allN (colB b g) 4) m = true then some (nI 1) else some (nI 0) := by split <;> rfl
  rw [e0, match_all]
  unfold f_X5_areColours L_X5_areColours_2
  refine lp_find (fun i => nI i) m _ (fun _ => some (nI 0)) _ ?_ ?_ ?_ (fu_gt (by omega))
  · intro go i hi hP
    simp (disch := omega) only [ltz, le_nI, e1 i _ hi, nm_eq, add_nI]
    rw [if_neg (by omega), if_pos hP]
  · intro go i hi hP
    simp (disch := omega) only [ltz, le_nI, e1 i _ hi, nm_eq, add_nI]
    rw [if_neg (by omega), if_neg (by rw [hP]; decide)]
  · intro go
    simp (disch := omega) only [ltz, le_nI]
    rw [if_pos (by omega)]
theorem couldBe_C {n m C : Nat} {f : Nat → Int32} {b : Nat → Nat} (tC : CTape (nI n) f n b) (hm : 6 * m ≤ n) (hC : C < 1296) (hcol : ∀ g, g < m → ∀ i, i < 4 → gB b g i < 6) : f_X5_couldBe (nI n) f (nI m) (nI C) = some (nI (if allN (fgB b C) m = true then 1 else 0)) := by
  have t1 := tC.1
  have e0 : some (nI (if allN (fgB b C) m = true then 1 else 0)) = if allN (fgB b C) m = true then some (nI 1) else some (nI 0) := by split <;> rfl
  rw [e0, match_all]
  unfold f_X5_couldBe L_X5_couldBe_2
  have step : ∀ (go : Int32 → Option Int32) (g : Nat), g < m → (if nI m ≤ nI g then some (nI 1) else nm (nI 6 * nI g) fun v1 => (f_X8_at (nI n) f (v1 + nI 4)).bind fun u2 => (f_X8_at (nI n) f ((v1 + nI 4) + nI 1)).bind fun u3 => (f_X5_rightOnes (nI n) f v1 (nI C)).bind fun u4 => if u4 = u2 then ((f_X5_sharedOnes (nI n) f v1 (nI C)).bind fun u5 => if u5 = (u2 + u3) then (nm (nI g + nI 1) fun v6 => go v6) else some (nI 0)) else some (nI 0)) = if fgB b C g = true then go (nI (g + 1)) else some (nI 0) := by
    intro go g hg
    have b1 := (tC.2.2 (6 * g + 4) (by omega)).2
    have b2 := (tC.2.2 (6 * g + 4 + 1) (by omega)).2
    have r1 := rgt_le b g C
    have s1 := shr_le b g C 6
    simp (disch := omega) only [le_nI, mul_nI, nm_eq, add_nI, at_C tC (show 6 * g + 4 < n by omega), at_C tC (show 6 * g + 4 + 1 < n by omega), some_bind, right_C tC (show 6 * g + 6 ≤ n by omega) hC, shared_C tC (show 6 * g + 6 ≤ n by omega) hC (hcol g hg), eq_nI]
    rw [if_neg (by omega)]
    unfold fgB
    by_cases q : rgt b g C = b (6 * g + 4)
    · by_cases q2 : shr b g C 6 = b (6 * g + 4) + b (6 * g + 5)
      · simp [q, q2]
      · simp [q, q2]
    · simp [q]
  refine lp_find (fun i => nI i) m _ (fun _ => some (nI 0)) _ ?_ ?_ ?_ (fu_gt (by omega))
  · intro go i hi hP
    simp only [ltz]
    rw [step go i hi, if_pos hP]
  · intro go i hi hP
    simp only [ltz]
    rw [step go i hi, if_neg (by rw [hP]; decide)]
  · intro go
    simp (disch := omega) only [ltz, le_nI]
    rw [if_pos (by omega)]

def crlB (b : Nat → Nat) (m C : Nat) : Bool := allN (fgB b C) m
theorem howMany_C {n m : Nat} {f : Nat → Int32} {b : Nat → Nat} (tC : CTape (nI n) f n b) (hm : 6 * m ≤ n) (hcol : ∀ g, g < m → ∀ i, i < 4 → gB b g i < 6) : f_X5_howManyCurls (nI n) f (nI m) = some (nI (sumN (fun C => if crlB b m C = true then 1 else 0) 1296)) := by
  unfold f_X5_howManyCurls L_X5_howManyCurls_4
  refine lp_run (fun k => (nI (sumN (fun C => if crlB b m C = true then 1 else 0) k), nI k)) 1296 _ ?_ ?_ (fu_gt (by omega))
  · intro go C hC
    simp (disch := omega) only [ltz, le_nI, couldBe_C tC hm hC hcol, some_bind, b01, nm_eq, add_nI]
    rw [if_neg (by omega)]
    simp only [sumN]
    unfold crlB
    rcases Bool.eq_false_or_eq_true (allN (fgB b C) m) with h | h <;> simp [h]
  · intro go
    simp (disch := omega) only [ltz, le_nI]
    rw [if_pos (by omega)]
theorem lp_findE {S β : Type} {body : (S → Option β) → S → Option β} (st : Nat → S) (N : Nat) (P : Nat → Bool) (no : Nat → Option β) (yes : Option β) (o : Option Nat) (ho : fstN P N = o) (h1 : ∀ (go : S → Option β) (k : Nat), k < N → P k = true → body go (st k) = go (st (k + 1))) (h2 : ∀ (go : S → Option β) (k : Nat), k < N → P k = false → body go (st k) = no k) (h3 : ∀ go : S → Option β, body go (st N) = yes) {n : Nat} (hn : N < n) : lp body n (st 0) = match (generalizing := false) o with
    | none => yes
    | some k => no k := by
  subst ho
  exact lp_find st N P no yes h1 h2 h3 hn
theorem least_C {n m : Nat} {f : Nat → Int32} {b : Nat → Nat} (tC : CTape (nI n) f n b) (hm : 6 * m ≤ n) (hcol : ∀ g, g < m → ∀ i, i < 4 → gB b g i < 6) : f_X5_leastCurls (nI n) f (nI m) = some (enc (-nI 2) (fstN (fun C => !crlB b m C) 1296)) := by
  generalize ho : fstN (fun C => !crlB b m C) 1296 = o
  have e0 : some (enc (-nI 2) o) = match (generalizing := false) o with
      | none => some (-nI 2)
      | some k => some (nI k) := by cases o <;> rfl
  rw [e0]
  unfold f_X5_leastCurls L_X5_leastCurls_2
  refine lp_findE (fun i => nI i) 1296 (fun C => !crlB b m C) (fun k => some (nI k)) _ o ho ?_ ?_ ?_ (fu_gt (by omega))
  · intro go C hC hP
    have hP : crlB b m C = false := by simpa using hP
    unfold crlB at hP
    simp (disch := omega) only [ltz, le_nI, couldBe_C tC hm hC hcol, some_bind, b01, nm_eq, add_nI]
    rw [if_neg (by omega), if_pos hP]
  · intro go C hC hP
    have hP : crlB b m C = true := by simpa using hP
    unfold crlB at hP
    simp (disch := omega) only [ltz, le_nI, couldBe_C tC hm hC hcol, some_bind, b01, nm_eq, add_nI]
    rw [if_neg (by omega), if_neg (by rw [hP]; decide)]
  · intro go
    simp (disch := omega) only [ltz, le_nI]
    rw [if_pos (by omega)]
theorem curls_M {n m : Nat} {t x2 : Int32} {h : Nat → Int32} {b : Nat → Nat} (hn1 : n ≤ 260) (hby : ∀ i, i < n → b i < 256) (tM : MTape t h n b) (hm : 6 * m ≤ n) (k0 : Int32 × Int32 → Option (Int32 × Int32)) : L_X12_curls_94 (nI 0) h (nI m) x2 k0 fu (nI 0, -nI 2, nI 1295) = k0 (nI (sumN (fun C => if crlB b m C = true then 1 else 0) 1296), enc (-nI 2) (fstN (fun C => !crlB b m C) 1296)) := by
  have e1 : ∀ (x3 x4 : Int32) (C : Nat) (k0 : Int32 → Option (Int32 × Int32)), C < 1296 → L_X12_curls_105 (nI 0) h (nI m) x2 x3 x4 (nI C) k0 fu (nI 1, nI 0) = k0 (nI (if crlB b m C = true then 1 else 0)) := by
    intro x3 x4 C k0 hC
    unfold L_X12_curls_105
    refine lp_flag (fgB b C) m k0 ?_ ?_ ?_ (fu_gt (by omega))
    · intro go g hg
      simp (disch := omega) only [ltz, le_nI, n10, if_false, guess_M hn1 hby tM (show 6 * g + 6 ≤ n by omega) hC, some_bind, nm_eq, add_nI]
      rw [if_neg (by omega)]
    · intro go g hg
      simp only [ltz, n00, if_true]
      split <;> rfl
    · intro go
      simp (disch := omega) only [ltz, le_nI]
      rw [if_pos (by omega)]
  rw [← lfd_fst, ← sumN_rev (fun C => if crlB b m C = true then 1 else 0) 1296]
  unfold L_X12_curls_94
  have dz : ∀ k : Nat, k < 1296 → zI (1295 - (k : Int)) = nI (1295 - k) := fun k hk => by
    have q : ((1295 - k : Nat) : Int) = 1295 - (k : Int) := by omega
    rw [zI_nat, q]
  have h0 : (nI 0, -nI 2, nI 1295) = (nI (sumN (fun j => if crlB b m (1296 - 1 - j) = true then 1 else 0) 0), enc (-nI 2) (lfd (crlB b m) 1296 0), zI (1295 - ((0 : Nat) : Int))) := by rw [dz 0 (by omega)]; rfl
  rw [h0]
  refine lp_run (fun k => (nI (sumN (fun j => if crlB b m (1296 - 1 - j) = true then 1 else 0) k), enc (-nI 2) (lfd (crlB b m) 1296 k), zI (1295 - (k : Int)))) 1296 _ ?_ ?_ (fu_gt (by omega))
  · intro go k hk
    have e2 : nI (1295 - k) + -nI 1 = zI (1295 - ((k + 1 : Nat) : Int)) := by
      have q : ((1295 - k : Nat) : Int) + -((1 : Nat) : Int) = 1295 - ((k + 1 : Nat) : Int) := by omega
      rw [zI_nat, zI_nat 1, zI_neg, zI_add, q]
    simp (disch := omega) only [ltz, dz k hk, lt_nI, e1, b01, nm_eq, add_nI, e2]
    rw [if_neg (by omega)]
    simp only [sumN, lfd]
    rcases Bool.eq_false_or_eq_true (crlB b m (1295 - k)) with q | q <;> simp [q, enc]
  · intro go
    have e3 : zI (1295 - ((1296 : Nat) : Int)) < nI 0 := by decide
    simp only [ltz]
    rw [if_pos e3]
theorem B_curls {n : Nat} {size taped : Int32} {f g : Nat → Int32} {b : Nat → Nat} (tC : CTape size f n b) (tM : MTape taped g n b) (x1 x2 : Int32) : ∃ r r' n', f_X11_curls size f x1 x2 = some r ∧ f_X12_curls taped g x1 x2 = some r' ∧ r.1 = r'.1 ∧ r.2 = nI n' ∧ r'.2 = nI n' ∧ n' ≤ n := by
  obtain ⟨t1, rfl, t2⟩ := tC
  obtain ⟨rfl, t3⟩ := tM
  have tC : CTape (nI n) f n b := ⟨t1, rfl, t2⟩
  have tM : MTape (nI n) g n b := ⟨rfl, t3⟩
  have hby : ∀ i, i < n → b i < 256 := fun i hi => (t2 i hi).2
  unfold f_X11_curls f_X12_curls f_X8_clear
  simp only [ltz]
  rcases in01 x1 0 8 (by omega) (by omega) with ⟨e1, e2⟩ | ⟨m, hm1, hm, rfl, e1, e2⟩
  · simp only [e1, e2, some_bind, n00, if_true]
    exact ⟨_, _, n, rfl, rfl, rfl, rfl, rfl, Nat.le_refl _⟩
  · rcases in01 x2 0 1 (by omega) (by omega) with ⟨e3, e4⟩ | ⟨q, hq1, hq, rfl, e3, e4⟩
    · simp only [e1, e2, e3, e4, some_bind, n10, if_false, n00, if_true]
      exact ⟨_, _, n, rfl, rfl, rfl, rfl, rfl, Nat.le_refl _⟩
    · by_cases hmn : 6 * m ≤ n
      · have c1 : ∀ (x2 x3 : Int32) (g0 : Nat) (k0 : Unit → Option (Int32 × Int32)), g0 < m → L_X12_curls_47 (nI 0) g (nI m) x2 (nI g0) k0 fu (nI 0) = if allN (colB b g0) 4 = true then k0 () else some (-nI 3, nI 0) := by
          intro x2 x3 g0 k0 hg
          rw [match_all]
          unfold L_X12_curls_47
          have step : ∀ (go : Int32 → Option (Int32 × Int32)) (i : Nat), i < 4 → (if nI 4 ≤ nI i then k0 () else (f_X12_octet g (nI 6 * nI g0 + nI i)).bind fun u1 => if u1 ≤ nI 5 then nm (nI i + nI 1) fun v2 => go v2 else some (-nI 3, nI 0)) = if colB b g0 i = true then go (nI (i + 1)) else some (-nI 3, nI 0) := by
            intro go i hi
            have b1 := hby (6 * g0 + i) (by omega)
            simp (disch := omega) only [le_nI, mul_nI, add_nI, at_M t1 tM (show 6 * g0 + i < n by omega), some_bind, lt_nI, nm_eq]
            rw [if_neg (by omega)]
            unfold colB gB
            by_cases h : b (6 * g0 + i) < 6
            · rw [if_pos (by omega)]; simp [h]
            · rw [if_neg (by omega)]; simp [h]
          refine lp_find (fun i => nI i) 4 _ (fun _ => some (-nI 3, nI 0)) _ ?_ ?_ ?_ (fu_gt (by omega))
          · intro go i hi hP
            simp only [ltz]
            rw [step go i hi, if_pos hP]
          · intro go i hi hP
            simp only [ltz]
            rw [step go i hi, if_neg (by rw [hP]; decide)]
          · intro go
            simp (disch := omega) only [ltz, le_nI]
            rw [if_pos (by omega)]
        have c2 : ∀ (x2 : Int32) (k0 : Unit → Option (Int32 × Int32)), L_X12_curls_39 (nI 0) g (nI m) x2 k0 fu (nI 0) = if allN (fun g => allN (colB b g) 4) m = true then k0 () else some (-nI 3, nI 0) := by
          intro x2 k0
          rw [match_all]
          unfold L_X12_curls_39
          refine lp_find (fun i => nI i) m _ (fun _ => some (-nI 3, nI 0)) _ ?_ ?_ ?_ (fu_gt (by omega))
          · intro go i hi hP
            simp (disch := omega) only [ltz, le_nI, c1 x2 x2 i _ hi, nm_eq, add_nI]
            rw [if_neg (by omega), if_pos hP]
          · intro go i hi hP
            simp (disch := omega) only [ltz, le_nI, c1 x2 x2 i _ hi, nm_eq, add_nI]
            rw [if_neg (by omega), if_neg (by rw [hP]; decide)]
          · intro go
            simp (disch := omega) only [ltz, le_nI]
            rw [if_pos (by omega)]
        simp (disch := omega) only [e1, e2, e3, e4, some_bind, n10, if_false, mul_nI, le_nI, hmn, if_true, areColours_C tC hmn, c2, jn_eq, b01, curls_M t1 hby tM hmn]
        rcases Bool.eq_false_or_eq_true (allN (fun g => allN (colB b g) 4) m) with hc | hc
        · have hcol : ∀ g, g < m → ∀ i, i < 4 → gB b g i < 6 := by
            intro g hg i hi
            have := (allN_iff _ 4).mp ((allN_iff _ m).mp hc g hg) i hi
            unfold colB at this
            simpa using this
          simp only [hc, howMany_C tC hmn hcol, least_C tC hmn hcol, some_bind, if_true]
          rcases (show q = 0 ∨ q = 1 by omega) with rfl | rfl
          · exact ⟨_, _, 0, (if_neg (by decide)).trans (if_pos rfl), if_pos rfl, rfl, rfl, rfl, Nat.zero_le _⟩
          · exact ⟨_, _, 0, (if_neg (by decide)).trans (if_neg (by decide)), if_neg (by decide), rfl, rfl, rfl, Nat.zero_le _⟩
        · simp only [hc]
          exact ⟨_, _, 0, if_pos trivial, if_neg (by decide), rfl, rfl, rfl, Nat.zero_le _⟩
      · simp (disch := omega) only [e1, e2, e3, e4, some_bind, n10, if_false, mul_nI, le_nI, hmn]
        exact ⟨_, _, n, rfl, rfl, rfl, rfl, rfl, Nat.le_refl _⟩
