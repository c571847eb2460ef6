/-! PHASE B: pure laws for the functions of phase A -/
theorem i32_lt (a b : Int32) : a < b ↔ a.toInt < b.toInt := Int32.lt_iff_toInt_lt
theorem i32_le (a b : Int32) : a ≤ b ↔ a.toInt ≤ b.toInt := Int32.le_iff_toInt_le
theorem i32_eq (a b : Int32) : a = b ↔ a.toInt = b.toInt := Int32.toInt_inj.symm
theorem lit_nI (n : Nat) : (OfNat.ofNat n : Int32) = nI n := rfl
theorem rd_nI {β : Type} {f : Nat → Int32} {n j : Nat} {k : Int32 → Option β} (h : j < n) (hn : n < 2147483648) : rd f n (nI j) k = k (f j) := by
  unfold rd
  rw [nI_toInt (by omega), nI_clamp (by omega), if_pos (by omega)]
theorem wr_nI {β : Type} {f : Nat → Int32} {n j : Nat} {x : Int32} {k : (Nat → Int32) → Option β} (h : j < n) (hn : n < 2147483648) : wr f n (nI j) x k = k (upd f j x) := by
  unfold wr
  rw [nI_toInt (by omega), nI_clamp (by omega), if_pos (by omega)]
theorem le_nI {a b : Nat} (ha : a < 2147483648) (hb : b < 2147483648) : (nI a ≤ nI b) = (a ≤ b) := propext (nI_leI ha hb)
theorem lt_nI {a b : Nat} (ha : a < 2147483648) (hb : b < 2147483648) : (nI a < nI b) = (a < b) := propext (nI_ltI ha hb)
theorem eq_nI {a b : Nat} (ha : a < 2147483648) (hb : b < 2147483648) : (nI a = nI b) = (a = b) := propext (nI_eq ha hb)
theorem sub_nI {a b : Nat} (h : b ≤ a) : nI a - nI b = nI (a - b) := pk_sub h
theorem lp_s {S β : Type} {body : (S → Option β) → S → Option β} {n : Nat} {s : S} : lp body (n + 1) s = body (lp body n) s := rfl
/-- a loop whose states are a row: st 0, st 1 .. st N, and then its end -/
theorem lp_run {S β : Type} {body : (S → Option β) → S → Option β} (st : Nat → S) (N : Nat) (res : Option β) (hs : ∀ (go : S → Option β) (k : Nat), k < N → body go (st k) = go (st (k + 1))) (he : ∀ go : S → Option β, body go (st N) = res) {n : Nat} (hn : N < n) : lp body n (st 0) = res := by
  have key : ∀ (d k n : Nat), k + d = N → d < n → lp body n (st k) = res := by
    intro d
    induction d with
    | zero =>
      intro k n hk hn
      obtain ⟨n, rfl⟩ : ∃ m, n = m + 1 := ⟨n - 1, by omega⟩
      rw [lp_s, show k = N by omega, he]
    | succ d ih =>
      intro k n hk hn
      obtain ⟨n, rfl⟩ : ∃ m, n = m + 1 := ⟨n - 1, by omega⟩
      rw [lp_s, hs _ k (by omega)]
      exact ih (k + 1) n (by omega) (by omega)
  exact key N 0 n (by omega) hn
/-- two loops side by side -/
theorem lp_sim {S1 S2 β1 β2 : Type} {b1 : (S1 → Option β1) → S1 → Option β1} {b2 : (S2 → Option β2) → S2 → Option β2} (Rl : S1 → S2 → Prop) (P : Option β1 → Option β2 → Prop) (μ : S1 → Nat)
    (h : ∀ s1 s2, Rl s1 s2 → (∃ e1 e2, (∀ go, b1 go s1 = e1) ∧ (∀ go, b2 go s2 = e2) ∧ P e1 e2) ∨ (∃ t1 t2, (∀ go, b1 go s1 = go t1) ∧ (∀ go, b2 go s2 = go t2) ∧ Rl t1 t2 ∧ μ t1 < μ s1)) :
    ∀ (n m : Nat) (s1 : S1) (s2 : S2), Rl s1 s2 → μ s1 < n → μ s1 < m → P (lp b1 n s1) (lp b2 m s2) := by
  intro n
  induction n with
  | zero => intro m s1 s2 _ h1; omega
  | succ n ih =>
    intro m s1 s2 hR h1 h2
    obtain ⟨m, rfl⟩ : ∃ q, m = q + 1 := ⟨m - 1, by omega⟩
    rw [lp_s, lp_s]
    rcases h s1 s2 hR with ⟨e1, e2, g1, g2, hP⟩ | ⟨t1, t2, g1, g2, hR', hm⟩
    · rw [g1, g2]; exact hP
    · rw [g1, g2]; exact ih m t1 t2 hR' (by omega) (by omega)
theorem fu_gt {n : Nat} (h : n < 20000) : n < fu := h
/-- not by rfl, so that simp leaves a proof and the kernel need not compare whole loops -/
theorem some_bind {α β : Type} (a : α) (f : α → Option β) : (some a).bind f = f a := by
  have h : ∀ o : Option α, o = some a → o.bind f = f a := by intro o ho; subst ho; rfl
  exact h _ rfl
theorem nm_eq {α β : Type} (x : α) (f : α → β) : nm x f = f x := by
  have h : ∀ g : α → β, g = f → nm x g = f x := by intro g hg; subst hg; rfl
  exact h _ rfl
theorem jn_eq {S β : Type} (J : S → Option β) (M : (S → Option β) → Option β) : jn J M = M J := by
  have h : ∀ g : S → Option β, g = J → jn g M = M J := by intro g hg; subst hg; rfl
  exact h _ rfl
/-- within: both sides' test, and what it says -/
theorem in_cases (x : Int32) {a b : Nat} (hab : a ≤ b) (hb : b < 2147483648) : (f_X11_isWithin x (nI a) (nI b) = some 0 ∧ f_X12_in x (nI a) (nI b) = some 0 ∧ (x < nI a ∨ nI b < x)) ∨ (∃ j, a ≤ j ∧ j ≤ b ∧ x = nI j ∧ f_X11_isWithin x (nI a) (nI b) = some 1 ∧ f_X12_in x (nI a) (nI b) = some 1) := by
  have ha : a < 2147483648 := by omega
  by_cases h1 : x < nI a
  · refine Or.inl ⟨?_, ?_, Or.inl h1⟩
    · unfold f_X11_isWithin; rw [if_pos h1]
    · unfold f_X12_in; rw [if_pos h1]
  · by_cases h2 : nI b < x
    · refine Or.inl ⟨?_, ?_, Or.inr h2⟩
      · unfold f_X11_isWithin; rw [if_neg h1, if_pos h2]
      · unfold f_X12_in; rw [if_neg h1, if_pos h2]
    · have e1 : f_X11_isWithin x (nI a) (nI b) = some 1 := by unfold f_X11_isWithin; rw [if_neg h1, if_neg h2]
      have e2 : f_X12_in x (nI a) (nI b) = some 1 := by unfold f_X12_in; rw [if_neg h1, if_neg h2]
      have h0 : (a : Int) ≤ x.toInt := by
        have : ¬ x.toInt < (nI a).toInt := fun h => h1 ((i32_lt _ _).mpr h)
        rw [nI_toInt ha] at this
        omega
      have hx : ¬ x < 0 := by rw [i32_lt]; show ¬ x.toInt < 0; omega
      obtain ⟨j, hj, rfl⟩ := nI_of hx
      rw [lt_nI hj ha] at h1
      rw [lt_nI hb hj] at h2
      exact Or.inr ⟨j, by omega, by omega, rfl, e1, e2⟩
