/-! HAIR: a machine of small steps that both readers follow -/
abbrev HSt : Type := Nat → Nat × Nat × (Nat → Nat)
abbrev HRs : Type := Nat × Nat × (Nat → Nat)
def hTm (e : Nat) (b : Nat → Nat) (p : Nat) : Nat × Nat := if 50 ≤ hN e b p ∧ hN e b p ≤ 57 then (hN e b p - 48, p + 1) else (1, p)
def hAdd (P : Nat → Nat) (k t : Nat) : Nat → Nat := fun j => if j = k then P j + t else P j
def hRep (P Q : Nat → Nat) (t : Nat) : Nat → Nat := fun j => P j + (t - 1) * (P j - Q j)
def hPut (st : HSt) (d : Nat) (x : Nat × Nat × (Nat → Nat)) : HSt := fun j => if j = d then x else st j
/-- an item begins (true), or has ended (false); place; how deep; rounds that are open; pins -/
def hRun (e : Nat) (b : Nat → Nat) : Nat → Bool → Nat → Nat → HSt → (Nat → Nat) → Option HRs
  | 0, _, _, _, _, _ => none
  | n + 1, true, p, d, st, P => if 97 ≤ hN e b (hTm e b p).2 ∧ hN e b (hTm e b p).2 ≤ 102 then (if sumN (hAdd P (hN e b (hTm e b p).2 - 97) (hTm e b p).1) 6 ≤ 60 then hRun e b n false ((hTm e b p).2 + 1) d st (hAdd P (hN e b (hTm e b p).2 - 97) (hTm e b p).1) else some (6, p, P)) else if hN e b (hTm e b p).2 = 40 then (if d = 2 then some (5, (hTm e b p).2, P) else hRun e b n true ((hTm e b p).2 + 1) (d + 1) (hPut st d (p, (hTm e b p).1, P)) P) else some (1, (hTm e b p).2, P)
  | n + 1, false, p, d, st, P => if d = 0 then (if p < e then hRun e b n true p d st P else some (0, 0, P)) else if hN e b p = 41 then (if sumN (hRep P (st (d - 1)).2.2 (st (d - 1)).2.1) 6 ≤ 60 then hRun e b n false (p + 1) (d - 1) st (hRep P (st (d - 1)).2.2 (st (d - 1)).2.1) else some (6, (st (d - 1)).1, P)) else hRun e b n true p d st P
def hEv (e : Nat) (b : Nat → Nat) (m : Bool) (p d : Nat) (st : HSt) (P : Nat → Nat) (r : HRs) : Prop := ∃ n, hRun e b n m p d st P = some r
section HE
variable {e : Nat} {b : Nat → Nat} {p d p1 t : Nat} {st : HSt} {P : Nat → Nat} {r : HRs}
theorem hEv_let (hT : hTm e b p = (t, p1)) (h1 : 97 ≤ hN e b p1) (h2 : hN e b p1 ≤ 102) (h3 : sumN (hAdd P (hN e b p1 - 97) t) 6 ≤ 60) (h : hEv e b false (p1 + 1) d st (hAdd P (hN e b p1 - 97) t) r) : hEv e b true p d st P r := by
  obtain ⟨n, h⟩ := h
  refine ⟨n + 1, ?_⟩
  simp only [hRun, hT]
  rw [if_pos ⟨h1, h2⟩, if_pos h3]
  exact h
theorem hEv_let6 (hT : hTm e b p = (t, p1)) (h1 : 97 ≤ hN e b p1) (h2 : hN e b p1 ≤ 102) (h3 : ¬ sumN (hAdd P (hN e b p1 - 97) t) 6 ≤ 60) : hEv e b true p d st P (6, p, P) := by
  refine ⟨1, ?_⟩
  simp only [hRun, hT]
  rw [if_pos ⟨h1, h2⟩, if_neg h3]
theorem hEv_open (hT : hTm e b p = (t, p1)) (h1 : hN e b p1 = 40) (hd : ¬ d = 2) (h : hEv e b true (p1 + 1) (d + 1) (hPut st d (p, t, P)) P r) : hEv e b true p d st P r := by
  obtain ⟨n, h⟩ := h
  refine ⟨n + 1, ?_⟩
  simp only [hRun, hT]
  rw [if_neg (by omega), if_pos h1, if_neg hd]
  exact h
theorem hEv_open5 (hT : hTm e b p = (t, p1)) (h1 : hN e b p1 = 40) (hd : d = 2) : hEv e b true p d st P (5, p1, P) := by
  refine ⟨1, ?_⟩
  simp only [hRun, hT]
  rw [if_neg (by omega), if_pos h1, if_pos hd]
theorem hEv_bad (hT : hTm e b p = (t, p1)) (h1 : ¬ (97 ≤ hN e b p1 ∧ hN e b p1 ≤ 102)) (h2 : ¬ hN e b p1 = 40) : hEv e b true p d st P (1, p1, P) := by
  refine ⟨1, ?_⟩
  simp only [hRun, hT]
  rw [if_neg h1, if_neg h2]
theorem hEv_fin (hd : d = 0) (hp : ¬ p < e) : hEv e b false p d st P (0, 0, P) := by
  refine ⟨1, ?_⟩
  simp only [hRun]
  rw [if_pos hd, if_neg hp]
theorem hEv_nxt0 (hd : d = 0) (hp : p < e) (h : hEv e b true p d st P r) : hEv e b false p d st P r := by
  obtain ⟨n, h⟩ := h
  refine ⟨n + 1, ?_⟩
  simp only [hRun]
  rw [if_pos hd, if_pos hp]
  exact h
theorem hEv_nxt (hd : ¬ d = 0) (hp : ¬ hN e b p = 41) (h : hEv e b true p d st P r) : hEv e b false p d st P r := by
  obtain ⟨n, h⟩ := h
  refine ⟨n + 1, ?_⟩
  simp only [hRun]
  rw [if_neg hd, if_neg hp]
  exact h
theorem hEv_shut (hp : hN e b p = 41) {f0 t0 : Nat} {Q : Nat → Nat} (hs : st d = (f0, t0, Q)) (h3 : sumN (hRep P Q t0) 6 ≤ 60) (h : hEv e b false (p + 1) d st (hRep P Q t0) r) : hEv e b false p (d + 1) st P r := by
  obtain ⟨n, h⟩ := h
  refine ⟨n + 1, ?_⟩
  simp only [hRun, Nat.add_sub_cancel, hs]
  rw [if_neg (by omega), if_pos hp, if_pos h3]
  exact h
theorem hEv_shut6 (hp : hN e b p = 41) {f0 t0 : Nat} {Q : Nat → Nat} (hs : st d = (f0, t0, Q)) (h3 : ¬ sumN (hRep P Q t0) 6 ≤ 60) : hEv e b false p (d + 1) st P (6, f0, P) := by
  refine ⟨1, ?_⟩
  simp only [hRun, Nat.add_sub_cancel, hs]
  rw [if_neg (by omega), if_pos hp, if_neg h3]
end HE
theorem hTm_ok (e : Nat) (b : Nat → Nat) (p : Nat) : ∃ t p1, hTm e b p = (t, p1) ∧ 1 ≤ t ∧ t ≤ 9 ∧ p ≤ p1 ∧ p1 ≤ p + 1 ∧ (p1 = p ∧ t = 1 ∧ ¬ (50 ≤ hN e b p ∧ hN e b p ≤ 57) ∨ p1 = p + 1 ∧ t = hN e b p - 48 ∧ 50 ≤ hN e b p ∧ hN e b p ≤ 57) := by
  unfold hTm
  by_cases h : 50 ≤ hN e b p ∧ hN e b p ≤ 57
  · rw [if_pos h]
    exact ⟨_, _, rfl, by omega, by omega, by omega, by omega, Or.inr ⟨rfl, rfl, h.1, h.2⟩⟩
  · rw [if_neg h]
    exact ⟨_, _, rfl, by omega, by omega, by omega, by omega, Or.inl ⟨rfl, rfl, h⟩⟩
theorem hN_low {e : Nat} {b : Nat → Nat} (ht : txt e b) {p : Nat} (h : hN e b p < 256) : p < e ∧ hr e b p = nI (hN e b p) := by
  rcases hN_lt ht p with ⟨_, h1, h2⟩ | ⟨h1, _, _⟩
  · exact ⟨h1, h2⟩
  · omega
theorem sum6 (P : Nat → Nat) : sumN P 6 = P 0 + P 1 + P 2 + P 3 + P 4 + P 5 := by simp [sumN]
theorem sum6_le (P : Nat → Nat) : ∀ k, k < 6 → P k ≤ sumN P 6 := by
  rw [sum6]
  apply six <;> omega
theorem hAdd_sum (P : Nat → Nat) (t : Nat) : ∀ k, k < 6 → sumN (hAdd P k t) 6 = sumN P 6 + t := by
  rw [sum6]
  apply six <;> (rw [sum6]; simp [hAdd]; omega)
theorem hRep_le {P Q : Nat → Nat} {t : Nat} (ht : t ≤ 9) (hP : sumN P 6 ≤ 60) : sumN (hRep P Q t) 6 ≤ 6 * 540 := by
  apply sumN_le
  intro k hk
  have h1 := sum6_le P k hk
  have h2 : (t - 1) * (P k - Q k) ≤ 8 * 60 := Nat.mul_le_mul (by omega) (by omega)
  unfold hRep
  omega
