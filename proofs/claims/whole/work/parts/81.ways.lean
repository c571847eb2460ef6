/-! WAYS: pins used up, of each kind how many -/
def chv (j : Nat) : Nat := ([0, 0, 0, 0, 0, 0, 1, 7, 28, 84, 210, 462, 0, 0, 0, 0, 0, 1, 6, 21, 56, 126, 252, 462, 0, 0, 0, 0, 1, 5, 15, 35, 70, 126, 210, 330, 0, 0, 0, 1, 4, 10, 20, 35, 56, 84, 120, 165, 0, 0, 1, 3, 6, 10, 15, 21, 28, 36, 45, 55, 0, 1, 2, 3, 4, 5, 6, 7, 8, 9, 10, 11] : List Nat).getD j 0
theorem chF_eq : ∀ j, j < 72 → chF j = nI (chv j) := by decide +kernel
theorem chv_le : ∀ j, j < 72 → chv j ≤ 462 := by decide +kernel
def dg (v k : Nat) : Nat := v / 8 ^ k % 8
def tot (v : Nat) : Nat := sumN (dg v) 6
def VW (v : Nat) : Prop := v < 262144 ∧ tot v ≤ 6
def wy (v : Nat) : Nat := v + 262144 * tot v
theorem six {P : Nat → Prop} (h0 : P 0) (h1 : P 1) (h2 : P 2) (h3 : P 3) (h4 : P 4) (h5 : P 5) : ∀ q, q < 6 → P q := by
  intro q hq
  have h : q = 0 ∨ q = 1 ∨ q = 2 ∨ q = 3 ∨ q = 4 ∨ q = 5 := by omega
  rcases h with rfl | rfl | rfl | rfl | rfl | rfl <;> assumption
theorem tot_eq (v : Nat) : tot v = v % 8 + v / 8 % 8 + v / 64 % 8 + v / 512 % 8 + v / 4096 % 8 + v / 32768 % 8 := by
  unfold tot
  simp only [sumN, dg]
  simp
theorem dg_at (v : Nat) : dg v 0 = v % 8 ∧ dg v 1 = v / 8 % 8 ∧ dg v 2 = v / 64 % 8 ∧ dg v 3 = v / 512 % 8 ∧ dg v 4 = v / 4096 % 8 ∧ dg v 5 = v / 32768 % 8 := by
  refine ⟨?_, ?_, ?_, ?_, ?_, ?_⟩ <;> simp [dg]
theorem dg_lt (v k : Nat) : dg v k < 8 := Nat.mod_lt _ (by omega)
theorem dg_le {v : Nat} (h : VW v) : ∀ k, k < 6 → dg v k ≤ 6 := by
  have ht := h.2
  rw [tot_eq] at ht
  obtain ⟨d0, d1, d2, d3, d4, d5⟩ := dg_at v
  apply six <;> omega
theorem wy_lt {v : Nat} (h : VW v) : wy v < 1835008 := by
  have h1 := h.1
  have h2 := h.2
  unfold wy
  omega
theorem and7_nI (a : Nat) : nI a &&& nI 7 = nI (a % 8) := by
  rw [and_nI]
  show nI (a &&& (2 ^ 3 - 1)) = _
  rw [Nat.and_two_pow_sub_one_eq_mod]
theorem dig_C {v : Nat} (h : VW v) : ∀ k, k < 6 → (nI (wy v) >>> (nI (3 * k) &&& nI 31)) &&& nI 7 = nI (dg v k) := by
  have hw := wy_lt h
  have h1 := h.1
  obtain ⟨d0, d1, d2, d3, d4, d5⟩ := dg_at v
  intro k hk
  have e : nI (wy v) >>> (nI (3 * k) &&& nI 31) = nI (wy v / 2 ^ (3 * k)) := shr_nI (by omega) (by omega)
  rw [e, and7_nI]
  congr 1
  unfold wy
  revert k
  refine six ?_ ?_ ?_ ?_ ?_ ?_
  · rw [d0]; simp; omega
  · rw [d1]; simp; omega
  · rw [d2]; simp; omega
  · rw [d3]; simp; omega
  · rw [d4]; simp; omega
  · rw [d5]; simp; omega
def bhs (v : Nat) : Nat → Nat := sumN (fun j => dg v (5 - j))
def rwN (v j : Nat) : Nat := (5 - j) * 12 + (bhs v (j + 1) + j)
def plS (v : Nat) : Nat → Nat := sumN (fun j => chv (rwN v j))
def plc (v : Nat) : Nat := plS v 6
theorem bhs_at (v : Nat) : bhs v 1 = dg v 5 ∧ bhs v 2 = dg v 5 + dg v 4 ∧ bhs v 3 = dg v 5 + dg v 4 + dg v 3 ∧ bhs v 4 = dg v 5 + dg v 4 + dg v 3 + dg v 2 ∧ bhs v 5 = dg v 5 + dg v 4 + dg v 3 + dg v 2 + dg v 1 ∧ bhs v 6 = dg v 5 + dg v 4 + dg v 3 + dg v 2 + dg v 1 + dg v 0 := by
  unfold bhs
  simp [sumN]
theorem bhs_le {v : Nat} (h : VW v) : ∀ j, j < 6 → bhs v (j + 1) ≤ 6 := by
  have ht := h.2
  rw [tot_eq] at ht
  obtain ⟨d0, d1, d2, d3, d4, d5⟩ := dg_at v
  obtain ⟨b1, b2, b3, b4, b5, b6⟩ := bhs_at v
  apply six
  · show bhs v 1 ≤ 6; omega
  · show bhs v 2 ≤ 6; omega
  · show bhs v 3 ≤ 6; omega
  · show bhs v 4 ≤ 6; omega
  · show bhs v 5 ≤ 6; omega
  · show bhs v 6 ≤ 6; omega
theorem rwN_lt {v : Nat} (h : VW v) {j : Nat} (hj : j < 6) : rwN v j < 72 := by
  have := bhs_le h j hj
  unfold rwN
  omega
def dwn (i : Nat) : Int32 := if i < 6 then nI (5 - i) else -nI 1
theorem dwn_ok : ∀ i, i < 6 → (dwn i < nI 0) = False ∧ dwn i = nI (5 - i) ∧ dwn i + -nI 1 = dwn (i + 1) := by
  intro i hi
  have : (¬ dwn i < nI 0) ∧ dwn i = nI (5 - i) ∧ dwn i + -nI 1 = dwn (i + 1) := by
    revert i
    decide
  exact ⟨eq_false this.1, this.2⟩
theorem imin_le {a c : Nat} (h : c ≤ a) (ha : a < 2147483648) : imin (nI a) (nI c) = nI c := by
  unfold imin
  by_cases e : c = a
  · subst e
    split <;> rfl
  · rw [if_pos (by rw [lt_nI (by omega) (by omega)]; omega)]
theorem plS_le {v : Nat} (h : VW v) : ∀ i, i ≤ 6 → plS v i ≤ 462 * i := by
  intro i
  induction i with
  | zero => intro _; exact Nat.zero_le _
  | succ i ih =>
    intro hi
    have h1 := ih (by omega)
    have h2 := chv_le (rwN v i) (rwN_lt h (by omega))
    show plS v i + chv (rwN v i) ≤ _
    omega
def grt (k p : Nat) : Nat → Nat
  | 0 => 0
  | r + 1 => if chv (12 * k + (r + 1)) ≤ p then r + 1 else grt k p r
def invF (p : Nat) : Nat :=
  let x0 := grt 0 p 11
  let p1 := p - chv x0
  let x1 := grt 1 p1 11
  let p2 := p1 - chv (12 + x1)
  let x2 := grt 2 p2 11
  let p3 := p2 - chv (24 + x2)
  let x3 := grt 3 p3 11
  let p4 := p3 - chv (36 + x3)
  let x4 := grt 4 p4 11
  let x5 := p4 - chv (48 + x4)
  let b0 := x0 - 5
  let b1 := x1 - 4
  let b2 := x2 - 3
  let b3 := x3 - 2
  let b4 := x4 - 1
  (b0 - b1) + 8 * (b1 - b2) + 64 * (b2 - b3) + 512 * (b3 - b4) + 4096 * (b4 - x5) + 32768 * x5
def plD (a5 a4 a3 a2 a1 a0 : Nat) : Nat := chv (60 + a5) + chv (48 + (a5 + a4 + 1)) + chv (36 + (a5 + a4 + a3 + 2)) + chv (24 + (a5 + a4 + a3 + a2 + 3)) + chv (12 + (a5 + a4 + a3 + a2 + a1 + 4)) + chv (0 + (a5 + a4 + a3 + a2 + a1 + a0 + 5))
def allB (P : Nat → Bool) : Nat → Bool
  | 0 => true
  | n + 1 => allB P n && P n
theorem allB_at {P : Nat → Bool} : ∀ {n : Nat}, allB P n = true → ∀ i, i < n → P i = true := by
  intro n
  induction n with
  | zero => intro _ i hi; omega
  | succ n ih =>
    intro h i hi
    have h : (allB P n && P n) = true := h
    rw [Bool.and_eq_true] at h
    by_cases e : i = n
    · subst e; exact h.2
    · exact ih h.1 i (by omega)
def invB : Bool := allB (fun a5 => allB (fun a4 => allB (fun a3 => allB (fun a2 => allB (fun a1 => allB (fun a0 => (invF (plD a5 a4 a3 a2 a1 a0) == a0 + 8 * a1 + 64 * a2 + 512 * a3 + 4096 * a4 + 32768 * a5) && Nat.blt (plD a5 a4 a3 a2 a1 a0) 924) (7 - (a5 + a4 + a3 + a2 + a1))) (7 - (a5 + a4 + a3 + a2))) (7 - (a5 + a4 + a3))) (7 - (a5 + a4))) (7 - a5)) 7
theorem inv_B : invB = true := by decide +kernel
theorem inv_all (a5 a4 a3 a2 a1 a0 : Nat) (h : a5 + a4 + a3 + a2 + a1 + a0 ≤ 6) : invF (plD a5 a4 a3 a2 a1 a0) = a0 + 8 * a1 + 64 * a2 + 512 * a3 + 4096 * a4 + 32768 * a5 ∧ plD a5 a4 a3 a2 a1 a0 < 924 := by
  have k := allB_at (allB_at (allB_at (allB_at (allB_at (allB_at inv_B a5 (by omega)) a4 (by omega)) a3 (by omega)) a2 (by omega)) a1 (by omega)) a0 (by omega)
  rw [Bool.and_eq_true] at k
  exact ⟨beq_iff_eq.1 k.1, by rw [← Nat.blt_eq]; exact k.2⟩
theorem plc_D (v : Nat) : plc v = plD (dg v 5) (dg v 4) (dg v 3) (dg v 2) (dg v 1) (dg v 0) := by
  obtain ⟨b1, b2, b3, b4, b5, b6⟩ := bhs_at v
  unfold plc plS plD
  simp only [sumN, rwN]
  rw [show bhs v (0 + 1) = dg v 5 from b1, show bhs v (1 + 1) = _ from b2, show bhs v (2 + 1) = _ from b3, show bhs v (3 + 1) = _ from b4, show bhs v (4 + 1) = _ from b5, show bhs v (5 + 1) = _ from b6]
  simp
theorem dg_sum {v : Nat} (hv : v < 262144) : dg v 0 + 8 * dg v 1 + 64 * dg v 2 + 512 * dg v 3 + 4096 * dg v 4 + 32768 * dg v 5 = v := by
  obtain ⟨d0, d1, d2, d3, d4, d5⟩ := dg_at v
  rw [d0, d1, d2, d3, d4, d5]
  have e1 : v / 8 / 8 = v / 64 := by rw [Nat.div_div_eq_div_mul]
  have e2 : v / 64 / 8 = v / 512 := by rw [Nat.div_div_eq_div_mul]
  have e3 : v / 512 / 8 = v / 4096 := by rw [Nat.div_div_eq_div_mul]
  have e4 : v / 4096 / 8 = v / 32768 := by rw [Nat.div_div_eq_div_mul]
  clear d0 d1 d2 d3 d4 d5
  omega
theorem dg_tot {v : Nat} : dg v 5 + dg v 4 + dg v 3 + dg v 2 + dg v 1 + dg v 0 = tot v := by
  rw [tot_eq]
  obtain ⟨d0, d1, d2, d3, d4, d5⟩ := dg_at v
  rw [d0, d1, d2, d3, d4, d5]
  omega
theorem plc_inv {v : Nat} (h : VW v) : invF (plc v) = v ∧ plc v < 924 := by
  have k := inv_all (dg v 5) (dg v 4) (dg v 3) (dg v 2) (dg v 1) (dg v 0) (Nat.le_trans (Nat.le_of_eq dg_tot) h.2)
  rw [← plc_D, dg_sum h.1] at k
  exact k
theorem plc_inj {v v' : Nat} (h : VW v) (h' : VW v') (e : plc v = plc v') : v = v' := by
  rw [← (plc_inv h).1, ← (plc_inv h').1, e]
theorem placeOf_C {v : Nat} (h : VW v) : f_X6_placeOf (nI (wy v)) = some (nI (plc v)) := by
  unfold f_X6_placeOf L_X6_placeOf_6
  have h9 := (plc_inv h).2
  refine lp_run0 (fun i => (nI (plS v i), nI (bhs v i), dwn i)) 6 _ (by show _ = (nI 0, nI 0, nI 5); rfl) ?_ ?_ (fu_gt (by omega))
  · intro go i hi
    obtain ⟨q1, q2, q3⟩ := dwn_ok i hi
    have hb := bhs_le h i hi
    have hr := rwN_lt h hi
    have hp := plS_le h i (by omega)
    have e1 : bhs v i + dg v (5 - i) = bhs v (i + 1) := rfl
    have hd := dig_C h (5 - i) (by omega)
    have e2 : nI (bhs v (i + 1) + 6) - nI 1 - nI (5 - i) = nI (bhs v (i + 1) + i) := by
      rw [sub_nI (by omega), sub_nI (by omega)]
      congr 1
      omega
    have e3 : (5 - i) * 12 + (bhs v (i + 1) + i) = rwN v i := rfl
    have e4 : plS v i + chv (rwN v i) = plS v (i + 1) := rfl
    simp only [ltz]
    simp only [q1, ↓reduceIte, q3]
    simp (disch := omega) only [q2, mul_nI, hd, add_nI, e1, nm_eq, e2, imin_le, e3, rd_nI, chF_eq _ hr, e4]
  · intro go
    have q : (dwn 6 < nI 0) = True := eq_true (by decide)
    simp only [ltz, q, ↓reduceIte]
    rw [imin_le (show plS v 6 ≤ 923 from by show plc v ≤ 923; omega) (by omega)]
    rfl
