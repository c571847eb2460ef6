/-! REACH: a pin more; ways of n doors -/
def mkv (a : Nat → Nat) : Nat := a 0 + 8 * a 1 + 64 * a 2 + 512 * a 3 + 4096 * a 4 + 32768 * a 5
theorem dg_mk {a : Nat → Nat} (h : ∀ k, k < 6 → a k < 8) : ∀ k, k < 6 → dg (mkv a) k = a k := by
  have h0 := h 0 (by omega)
  have h1 := h 1 (by omega)
  have h2 := h 2 (by omega)
  have h3 := h 3 (by omega)
  have h4 := h 4 (by omega)
  have h5 := h 5 (by omega)
  obtain ⟨d0, d1, d2, d3, d4, d5⟩ := dg_at (mkv a)
  generalize hm : mkv a = m at *
  unfold mkv at hm
  apply six
  · rw [d0]; clear d0 d1 d2 d3 d4 d5; omega
  · rw [d1]; clear d0 d1 d2 d3 d4 d5; omega
  · rw [d2]; clear d0 d1 d2 d3 d4 d5; omega
  · rw [d3]; clear d0 d1 d2 d3 d4 d5; omega
  · rw [d4]; clear d0 d1 d2 d3 d4 d5; omega
  · rw [d5]; clear d0 d1 d2 d3 d4 d5; omega
theorem mkv_dg {v : Nat} (hv : v < 262144) : mkv (dg v) = v := dg_sum hv
def dgp (v k : Nat) : Nat → Nat := fun j => dg v j + (if j = k then 1 else 0)
theorem mkv_p (v : Nat) : ∀ k, k < 6 → mkv (dgp v k) = mkv (dg v) + 8 ^ k := by
  apply six <;> (unfold mkv dgp; simp; omega)
theorem tot_le (v : Nat) : ∀ k, k < 6 → dg v k ≤ tot v := by
  have h := dg_tot (v := v)
  apply six <;> omega
theorem pl_ok {v k : Nat} (hv : VW v) (ht : tot v < 6) (hk : k < 6) : VW (v + 8 ^ k) ∧ tot (v + 8 ^ k) = tot v + 1 ∧ (∀ j, j < 6 → dg (v + 8 ^ k) j = dg v j + (if j = k then 1 else 0)) := by
  have e : v + 8 ^ k = mkv (dgp v k) := by rw [mkv_p v k hk, mkv_dg hv.1]
  have hl : ∀ j, j < 6 → dgp v k j < 8 := by
    intro j hj
    have := tot_le v j hj
    unfold dgp
    split <;> omega
  have hd : ∀ j, j < 6 → dg (v + 8 ^ k) j = dg v j + (if j = k then 1 else 0) := by
    intro j hj
    rw [e, dg_mk hl j hj]
    rfl
  have htot : tot (v + 8 ^ k) = tot v + 1 := by
    rw [← dg_tot (v := v + 8 ^ k), ← dg_tot (v := v), hd 0 (by omega), hd 1 (by omega), hd 2 (by omega), hd 3 (by omega), hd 4 (by omega), hd 5 (by omega)]
    have hk2 : k = 0 ∨ k = 1 ∨ k = 2 ∨ k = 3 ∨ k = 4 ∨ k = 5 := by omega
    rcases hk2 with rfl | rfl | rfl | rfl | rfl | rfl <;> simp <;> omega
  refine ⟨⟨?_, by omega⟩, htot, hd⟩
  rw [e]
  have l0 := hl 0 (by omega)
  have l1 := hl 1 (by omega)
  have l2 := hl 2 (by omega)
  have l3 := hl 3 (by omega)
  have l4 := hl 4 (by omega)
  have l5 := hl 5 (by omega)
  unfold mkv
  omega
theorem VW0 : VW 0 ∧ tot 0 = 0 ∧ ∀ k, dg 0 k = 0 := by
  have h : ∀ k, dg 0 k = 0 := fun k => by unfold dg; simp
  have h2 : tot 0 = 0 := by decide
  exact ⟨⟨by omega, by omega⟩, h2, h⟩
theorem v0_of {v : Nat} (hv : VW v) (h : tot v = 0) : v = 0 := by
  have h1 := dg_tot (v := v)
  have h2 := dg_sum hv.1
  omega
theorem wy_p {v k : Nat} (hv : VW v) (ht : tot v < 6) (hk : k < 6) : wy (v + 8 ^ k) = wy v + 8 ^ k + 262144 := by
  obtain ⟨_, h, _⟩ := pl_ok hv ht hk
  unfold wy
  rw [h]
  omega
/-! the same pins to the base 7 -/
def c7 (v : Nat) : Nat := dg v 0 + 7 * dg v 1 + 49 * dg v 2 + 343 * dg v 3 + 2401 * dg v 4 + 16807 * dg v 5
theorem c7_lt {v : Nat} (hv : VW v) : c7 v < 117649 := by
  have h := dg_le hv
  have h0 := h 0 (by omega)
  have h1 := h 1 (by omega)
  have h2 := h 2 (by omega)
  have h3 := h 3 (by omega)
  have h4 := h 4 (by omega)
  have h5 := h 5 (by omega)
  unfold c7
  omega
theorem c7_dg {v : Nat} (hv : VW v) : ∀ k, k < 6 → c7 v / 7 ^ k % 7 = dg v k := by
  have h := dg_le hv
  have h0 := h 0 (by omega)
  have h1 := h 1 (by omega)
  have h2 := h 2 (by omega)
  have h3 := h 3 (by omega)
  have h4 := h 4 (by omega)
  have h5 := h 5 (by omega)
  generalize hc : c7 v = c
  unfold c7 at hc
  apply six
  · simp; omega
  · simp; omega
  · show c / 49 % 7 = _; omega
  · show c / 343 % 7 = _; omega
  · show c / 2401 % 7 = _; omega
  · show c / 16807 % 7 = _; omega
theorem c7_inj {v v' : Nat} (hv : VW v) (hv' : VW v') (h : c7 v = c7 v') : v = v' := by
  have e : ∀ k, k < 6 → dg v k = dg v' k := fun k hk => by rw [← c7_dg hv k hk, ← c7_dg hv' k hk, h]
  rw [← dg_sum hv.1, ← dg_sum hv'.1, e 0 (by omega), e 1 (by omega), e 2 (by omega), e 3 (by omega), e 4 (by omega), e 5 (by omega)]
theorem c7_p {v k : Nat} (hv : VW v) (ht : tot v < 6) (hk : k < 6) : c7 (v + 8 ^ k) = c7 v + 7 ^ k := by
  obtain ⟨_, _, hd⟩ := pl_ok hv ht hk
  unfold c7
  rw [hd 0 (by omega), hd 1 (by omega), hd 2 (by omega), hd 3 (by omega), hd 4 (by omega), hd 5 (by omega)]
  have hk2 : k = 0 ∨ k = 1 ∨ k = 2 ∨ k = 3 ∨ k = 4 ∨ k = 5 := by omega
  rcases hk2 with rfl | rfl | rfl | rfl | rfl | rfl <;> simp <;> omega
/-- from r0 by n doors to r, the pins v gone -/
def RcN (D : DS) (Q : Nat → Nat) (r0 : Nat) : Nat → Nat → Nat → Prop
  | 0, v, r => v = 0 ∧ r = r0
  | n + 1, v, r => ∃ k v1 r1, k < 6 ∧ RcN D Q r0 n v1 r1 ∧ dg v1 k < Q k ∧ v = v1 + 8 ^ k ∧ Adj D k r1 r
/-- n + 1 doors, the first of them d -/
def RcF (D : DS) (Q : Nat → Nat) (r0 d : Nat) : Nat → Nat → Nat → Prop
  | 0, v, r => ∃ k, k < 6 ∧ 0 < Q k ∧ v = 8 ^ k ∧ opn D d = true ∧ fitB D d k = true ∧ bhd D d r0 = some r
  | n + 1, v, r => ∃ k v1 r1, k < 6 ∧ RcF D Q r0 d n v1 r1 ∧ dg v1 k < Q k ∧ v = v1 + 8 ^ k ∧ Adj D k r1 r
section RC
variable {D : DS} {Q : Nat → Nat} {r0 : Nat}
theorem RcN_ok : ∀ n v r, n ≤ 6 → RcN D Q r0 n v r → VW v ∧ tot v = n := by
  intro n
  induction n with
  | zero =>
    intro v r _ h
    obtain ⟨rfl, _⟩ := h
    exact ⟨VW0.1, VW0.2.1⟩
  | succ n ih =>
    intro v r hn h
    obtain ⟨k, v1, r1, hk, h1, h2, rfl, h4⟩ := h
    obtain ⟨a, b⟩ := ih v1 r1 (by omega) h1
    obtain ⟨c, d, _⟩ := pl_ok a (by omega) hk
    exact ⟨c, by omega⟩
theorem RcN_lt (hW : WDoors D) (h0 : r0 ≤ 15) : ∀ n v r, RcN D Q r0 n v r → r ≤ 15 := by
  intro n v r h
  cases n with
  | zero => obtain ⟨_, rfl⟩ := h; exact h0
  | succ n =>
    obtain ⟨k, v1, r1, hk, h1, h2, h3, h4⟩ := h
    exact (Adj_lt hW h4).1
theorem RcN_pre {r1 k : Nat} (hk : k < 6) (ha : Adj D k r0 r1) : ∀ n v r, n + 1 ≤ 6 → RcN D Q r1 n v r → dg v k < Q k → RcN D Q r0 (n + 1) (v + 8 ^ k) r := by
  intro n
  induction n with
  | zero =>
    intro v r _ h hq
    obtain ⟨rfl, rfl⟩ := h
    exact ⟨k, 0, r0, hk, ⟨rfl, rfl⟩, hq, rfl, ha⟩
  | succ n ih =>
    intro v r hn h hq
    obtain ⟨k', v1, ra, hk', h1, h2, rfl, h4⟩ := h
    obtain ⟨a, b⟩ := RcN_ok n v1 ra (by omega) h1
    obtain ⟨_, _, hd'⟩ := pl_ok a (by omega) hk'
    obtain ⟨_, _, hd⟩ := pl_ok a (by omega) hk
    have e1 := hd' k hk
    have e2 := hd k' hk'
    have h5 := ih v1 ra (by omega) h1 (by rw [e1] at hq; omega)
    refine ⟨k', v1 + 8 ^ k, ra, hk', h5, ?_, by omega, h4⟩
    rw [e2]
    by_cases hkk : k' = k
    · subst hkk
      rw [if_pos rfl] at e1 ⊢
      omega
    · rw [if_neg hkk]
      omega
theorem RcN_sym (hW : WDoors D) : ∀ n r0 v r, n ≤ 6 → RcN D Q r0 n v r → RcN D Q r n v r0 := by
  intro n
  induction n with
  | zero =>
    intro r0 v r _ h
    obtain ⟨rfl, rfl⟩ := h
    exact ⟨rfl, rfl⟩
  | succ n ih =>
    intro r0 v r hn h
    obtain ⟨k, v1, r1, hk, h1, h2, rfl, h4⟩ := h
    exact RcN_pre hk (Adj_symm hW h4) n v1 r0 hn (ih r0 v1 r1 (by omega) h1) h2
theorem RcF_to {d : Nat} : ∀ n V r, n + 1 ≤ 6 → RcF D Q r0 d n V r → ∃ k v r1, k < 6 ∧ opn D d = true ∧ fitB D d k = true ∧ bhd D d r0 = some r1 ∧ RcN D Q r1 n v r ∧ dg v k < Q k ∧ V = v + 8 ^ k := by
  intro n
  induction n with
  | zero =>
    intro V r _ h
    obtain ⟨k, hk, h1, rfl, h2, h3, h4⟩ := h
    exact ⟨k, 0, r, hk, h2, h3, h4, ⟨rfl, rfl⟩, by rw [VW0.2.2]; exact h1, by omega⟩
  | succ n ih =>
    intro V r hn h
    obtain ⟨k', V1, ra, hk', h1, h2, rfl, h4⟩ := h
    obtain ⟨k, v, r1, hk, g1, g2, g3, g4, g5, rfl⟩ := ih V1 ra (by omega) h1
    obtain ⟨a, b⟩ := RcN_ok n v ra (by omega) g4
    obtain ⟨_, _, hd'⟩ := pl_ok a (by omega) hk'
    obtain ⟨_, _, hd⟩ := pl_ok a (by omega) hk
    have e1 := hd' k hk
    have e2 := hd k' hk'
    refine ⟨k, v + 8 ^ k', r1, hk, g1, g2, g3, ⟨k', v, ra, hk', g4, by rw [e2] at h2; omega, rfl, h4⟩, ?_, by omega⟩
    rw [e1]
    by_cases hkk : k = k'
    · subst hkk
      rw [if_pos rfl] at e2 ⊢
      omega
    · rw [if_neg hkk]
      omega
theorem RcF_of {d k r1 : Nat} (hk : k < 6) (g1 : opn D d = true) (g2 : fitB D d k = true) (g3 : bhd D d r0 = some r1) : ∀ n v r, n + 1 ≤ 6 → RcN D Q r1 n v r → dg v k < Q k → RcF D Q r0 d n (v + 8 ^ k) r := by
  intro n
  induction n with
  | zero =>
    intro v r _ h hq
    obtain ⟨rfl, rfl⟩ := h
    rw [VW0.2.2] at hq
    exact ⟨k, hk, hq, by omega, g1, g2, g3⟩
  | succ n ih =>
    intro v r hn h hq
    obtain ⟨k', v1, ra, hk', h1, h2, rfl, h4⟩ := h
    obtain ⟨a, b⟩ := RcN_ok n v1 ra (by omega) h1
    obtain ⟨_, _, hd'⟩ := pl_ok a (by omega) hk'
    obtain ⟨_, _, hd⟩ := pl_ok a (by omega) hk
    have e1 := hd' k hk
    have e2 := hd k' hk'
    refine ⟨k', v1 + 8 ^ k, ra, hk', ih v1 ra (by omega) h1 (by rw [e1] at hq; omega), ?_, by omega, h4⟩
    rw [e2]
    by_cases hkk : k' = k
    · subst hkk
      rw [if_pos rfl] at e1 ⊢
      omega
    · rw [if_neg hkk]
      omega
theorem RcF_N {d : Nat} (hd : d < 24) : ∀ n V r, n + 1 ≤ 6 → RcF D Q r0 d n V r → RcN D Q r0 (n + 1) V r := by
  intro n V r hn h
  obtain ⟨k, v, r1, hk, g1, g2, g3, g4, g5, rfl⟩ := RcF_to n V r hn h
  exact RcN_pre hk ⟨d, hd, g1, g2, g3⟩ n v r hn g4 g5
end RC
/-- no more than M that are all unlike and below M -/
theorem pigeon : ∀ (M n : Nat) (f : Nat → Nat), (∀ i, i < n → f i < M) → (∀ i j, i < n → j < n → f i = f j → i = j) → n ≤ M := by
  intro M
  induction M with
  | zero =>
    intro n f h _
    cases n with
    | zero => exact Nat.le_refl _
    | succ n => exact absurd (h 0 (by omega)) (by omega)
  | succ M ih =>
    intro n f h1 h2
    by_cases he : ∃ j, j < n ∧ f j = M
    · obtain ⟨j, hj, hM⟩ := he
      have h3 : n - 1 ≤ M := by
        refine ih (n - 1) (fun i => if i = j then f (n - 1) else f i) (fun i hi => ?_) (fun a b ha hb hab => ?_)
        · show (if i = j then f (n - 1) else f i) < M
          by_cases hij : i = j
          · rw [if_pos hij]
            have := h1 (n - 1) (by omega)
            have hne : f (n - 1) ≠ M := fun e => by
              have := h2 (n - 1) j (by omega) hj (e.trans hM.symm)
              omega
            omega
          · rw [if_neg hij]
            have := h1 i (by omega)
            have hne : f i ≠ M := fun e => hij (h2 i j (by omega) hj (e.trans hM.symm))
            omega
        · have hab : (if a = j then f (n - 1) else f a) = (if b = j then f (n - 1) else f b) := hab
          by_cases h4 : a = j
          · by_cases h5 : b = j
            · omega
            · rw [if_pos h4, if_neg h5] at hab
              have := h2 (n - 1) b (by omega) (by omega) hab
              omega
          · by_cases h5 : b = j
            · rw [if_neg h4, if_pos h5] at hab
              have := h2 a (n - 1) (by omega) (by omega) hab
              omega
            · rw [if_neg h4, if_neg h5] at hab
              exact h2 a b (by omega) (by omega) hab
      omega
    · have : n ≤ M := ih n f (fun i hi => by
        have := h1 i hi
        have hne : f i ≠ M := fun e => he ⟨i, hi, e⟩
        omega) h2
      omega
