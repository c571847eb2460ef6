/-! DIALS -/
theorem in_nI {a l h : Nat} (ha : a < 2147483648) (hl : l < 2147483648) (hh : h < 2147483648) : f_X12_in (nI a) (nI l) (nI h) = some (nI (if decide (l ≤ a ∧ a ≤ h) = true then 1 else 0)) := by
  unfold f_X12_in
  simp only [lt_nI ha hl, lt_nI hh ha]
  by_cases h1 : a < l
  · rw [if_pos h1, decide_eq_false (by omega)]; rfl
  · rw [if_neg h1]
    by_cases h2 : h < a
    · rw [if_pos h2, decide_eq_false (by omega)]; rfl
    · rw [if_neg h2, decide_eq_true (by omega)]; rfl
theorem upd_app (A : Nat → Int32) (g : Nat → Int32) (k : Nat) : upd (fun i => if i < k then g i else A i) k (g k) = fun i => if i < k + 1 then g i else A i := by
  funext i
  unfold upd
  by_cases h : i = k
  · subst h; simp
  · rw [if_neg h]
    show (if i < k then g i else A i) = _
    by_cases h2 : i < k
    · rw [if_pos h2, if_pos (by omega)]
    · rw [if_neg h2, if_neg (by omega)]
theorem app_0 (A : Nat → Int32) (g : Nat → Int32) : (fun i => if i < 0 then g i else A i) = A := by funext i; rw [if_neg (by omega)]
def tn (b : Nat → Nat) (f : Nat) : Nat → Nat
  | 0 => 0
  | 1 => f
  | n + 2 => (6 - (b n + tn b f n + tn b f (n + 1)) % 6) % 6
theorem tn_lt (b : Nat → Nat) {f : Nat} (hf : f < 6) : ∀ n, tn b f n < 6
  | 0 => by simp only [tn]; omega
  | 1 => by simp only [tn]; omega
  | n + 2 => by simp only [tn]; omega
theorem fm6 : ∀ N, N < 16 → f_J9_floorMod_7cf53 (-(nI N)) (nI 6) = some (nI ((6 - N % 6) % 6)) := by decide
def sT (b : Nat → Nat) (f k : Nat) : Nat := sumN (fun j => tn b f (j + 1)) k
theorem sT_le (b : Nat → Nat) {f : Nat} (hf : f < 6) (k : Nat) : sT b f k ≤ k * 5 := sumN_le k (fun i _ => by have := tn_lt b hf (i + 1); omega)
theorem turns_C {n m f0 : Nat} {f : Nat → Int32} {b : Nat → Nat} (tC : CTape (nI n) f n b) (hm : m ≤ n) (hb : ∀ i, i < m → b i < 6) (hf : f0 < 6) : f_X5_turnsFrom (nI n) f (nI m) (nI f0) = some (if tn b f0 (m + 1) = 0 then nI (sT b f0 (m + 1)) else -nI 2) := by
  have t1 := tC.1
  unfold f_X5_turnsFrom
  have e1 : ∀ k0 : Int32 × Int32 → Option Int32, L_X5_turnsFrom_11 (nI n) f (nI m) k0 fu (nI 0, nI f0, nI f0, nI 0) = k0 (nI (tn b f0 (m + 1)), nI (sT b f0 (m + 1))) := by
    intro k0
    unfold L_X5_turnsFrom_11
    have h0 : (nI 0, nI f0, nI f0, nI 0) = (nI (tn b f0 0), nI (tn b f0 1), nI (sT b f0 1), nI 0) := by
      have : sT b f0 1 = f0 := by simp [sT, sumN, tn]
      rw [this]; rfl
    rw [h0]
    refine lp_run (fun k => (nI (tn b f0 k), nI (tn b f0 (k + 1)), nI (sT b f0 (k + 1)), nI k)) m _ ?_ ?_ (fu_gt (by omega))
    · intro go k hk
      have h1 := tn_lt b hf k
      have h2 := tn_lt b hf (k + 1)
      have h3 := hb k hk
      simp (disch := omega) only [ltz, le_nI, at_C tC (show k < n by omega), some_bind, add_nI, fm6, nm_eq]
      rw [if_neg (by omega)]
      rfl
    · intro go
      simp (disch := omega) only [ltz, le_nI]
      rw [if_pos (by omega)]
  have h4 := tn_lt b hf (m + 1)
  simp (disch := omega) only [ltz, e1, eq_nI]
  split <;> rfl
def vC (b : Nat → Nat) (m f : Nat) : Nat := if tn b f (m + 1) = 0 then sT b f (m + 1) else 1000000
def mil (v : Nat) : Int32 := if v = 1000000 then -nI 2 else nI v
theorem mil_m2 {v : Nat} (hv : v ≤ 1000000) : (mil v = -nI 2) = (v = 1000000) := by
  unfold mil
  by_cases h : v = 1000000
  · simp [h]
  · rw [if_neg h]
    apply propext
    constructor
    · intro e
      rw [i32_eq, nI_toInt (by omega)] at e
      have : (-nI 2 : Int32).toInt = -2 := by decide
      rw [this] at e
      omega
    · intro e; exact absurd e h
theorem dials_C {n m : Nat} {f : Nat → Int32} {b : Nat → Nat} (tC : CTape (nI n) f n b) (hm : m ≤ n) (hm5 : m ≤ 5) (hb : ∀ i, i < m → b i < 6) : f_X5_dialTurns (nI n) f (nI m) = some (mil (mn 1000000 (vC b m) 6)) := by
  unfold f_X5_dialTurns L_X5_dialTurns_5
  have h0 : (-(2 : Int32), (0 : Int32)) = (mil (mn 1000000 (vC b m) 0), nI 0) := rfl
  show lp _ fu (-(2 : Int32), (0 : Int32)) = _
  rw [h0]
  refine lp_run (fun k => (mil (mn 1000000 (vC b m) k), nI k)) 6 _ ?_ ?_ (fu_gt (by omega))
  · intro go k hk
    have h1 := mn_lt (i := 1000000) (b := 1000001) (f := vC b m) (by omega) k
    have h2 := sT_le b hk (m + 1)
    have e1 : (if tn b k (m + 1) = 0 then nI (sT b k (m + 1)) else -nI 2) = mil (vC b m k) := by
      unfold vC
      split
      · unfold mil; rw [if_neg (by omega)]
      · rfl
    have h3 : vC b m k ≤ 1000000 := by unfold vC; split <;> omega
    simp (disch := omega) only [ltz, le_nI, turns_C tC hm hb hk, e1, some_bind, mil_m2, nm_eq, add_nI]
    rw [if_neg (by omega)]
    show _ = go (mil (min (mn 1000000 (vC b m) k) (vC b m k)), nI (k + 1))
    by_cases a1 : vC b m k = 1000000
    · rw [if_pos a1, a1, Nat.min_eq_left (by omega)]
    · rw [if_neg a1]
      by_cases a2 : mn 1000000 (vC b m) k = 1000000
      · rw [if_pos a2, a2, Nat.min_eq_right (by omega)]
      · rw [if_neg a2]
        have q1 : mil (mn 1000000 (vC b m) k) = nI (mn 1000000 (vC b m) k) := if_neg a2
        have q2 : mil (vC b m k) = nI (vC b m k) := if_neg a1
        rw [q1, q2]
        simp (disch := omega) only [le_nI]
        by_cases a3 : mn 1000000 (vC b m) k ≤ vC b m k
        · rw [if_pos a3, Nat.min_eq_left a3, q1]
        · rw [if_neg a3, Nat.min_eq_right (by omega), q2]
  · intro go
    simp (disch := omega) only [ltz, le_nI]
    rw [if_pos (by omega)]
def dgt (m c p : Nat) : Nat := if decide (1 ≤ p ∧ p ≤ m) = true then c / 6 ^ (p - 1) % 6 else 0
theorem dgt_lt (m c p : Nat) : dgt m c p < 6 := by unfold dgt; split <;> omega
def okD (b : Nat → Nat) (m c i : Nat) : Bool := decide ((b i + dgt m c i + dgt m c (i + 1) + dgt m c (i + 2)) % 6 = 0)
def vM (b : Nat → Nat) (m c : Nat) : Nat := if allN (okD b m c) m = true then sumN (dgt m c) 7 else 1000000
theorem code_M {m c : Nat} {g A : Nat → Int32} {x2 x3 x4 : Int32} (hm : m ≤ 5) (hc : c < 7776) (k0 : Int32 × (Nat → Int32) → Option (Int32 × Int32 × (Nat → Int32))) : L_X12_dials_79 (nI 0) g (nI m) x2 x3 x4 k0 fu (nI c, nI 0, nI 0, A) = k0 (nI (sumN (dgt m c) 7), fun i => if i < 7 then nI (dgt m c i) else A i) := by
  unfold L_X12_dials_79
  have h0 : (nI c, nI 0, nI 0, A) = (nI (c / 6 ^ (min (0 - 1) m)), nI (sumN (dgt m c) 0), nI 0, fun i => if i < 0 then nI (dgt m c i) else A i) := by
    rw [app_0, show min (0 - 1) m = 0 by omega, Nat.pow_zero, Nat.div_one]
    rfl
  rw [h0]
  refine lp_run (fun p => (nI (c / 6 ^ (min (p - 1) m)), nI (sumN (dgt m c) p), nI p, fun i => if i < p then nI (dgt m c i) else A i)) 7 _ ?_ ?_ (fu_gt (by omega))
  · intro go p hp
    have hle : c / 6 ^ (min (p - 1) m) ≤ c := Nat.div_le_self _ _
    have hd := dgt_lt m c p
    have q : (fun i => if i < p + 1 then nI (dgt m c i) else A i) p = nI (dgt m c p) := by
      show (if p < p + 1 then _ else _) = _
      rw [if_pos (by omega)]
    have q2 : upd (fun i => if i < p then nI (dgt m c i) else A i) p (nI (dgt m c p)) = fun i => if i < p + 1 then nI (dgt m c i) else A i := upd_app A (fun i => nI (dgt m c i)) p
    rcases Bool.eq_false_or_eq_true (decide (1 ≤ p ∧ p ≤ m)) with h | h
    · have hd1 : dgt m c p = c / 6 ^ (min (p - 1) m) % 6 := by
        simp only [decide_eq_true_eq] at h
        unfold dgt; rw [decide_eq_true h, if_pos rfl, Nat.min_eq_left (by omega)]
      have hr : c / 6 ^ (min (p - 1) m) / 6 = c / 6 ^ (min (p + 1 - 1) m) := by
        simp only [decide_eq_true_eq] at h
        rw [Nat.div_div_eq_div_mul, ← Nat.pow_succ]
        congr 2
        omega
      simp (disch := omega) only [ltz, le_nI, in_nI, some_bind, b01, h, jn_eq, rm_nI, ← hd1, wr_nI, q2, rd_nI, if_pos (Nat.lt_succ_self p), nm_eq, add_nI, dv_nI, hr]
      rw [if_neg (by omega)]
      simp
      rfl
    · have hd1 : dgt m c p = 0 := by unfold dgt; rw [h]; rfl
      have hr : min (p - 1) m = min (p + 1 - 1) m := by
        simp only [decide_eq_false_iff_not] at h
        omega
      rw [hd1] at q2
      simp (disch := omega) only [ltz, le_nI, in_nI, some_bind, b01, h, jn_eq, wr_nI, q2, rd_nI, if_pos (Nat.lt_succ_self p), nm_eq, add_nI, hd1]
      rw [if_neg (by omega)]
      simp only [if_true]
      rw [hr]
      simp only [sumN, hd1]
  · intro go
    simp (disch := omega) only [ltz, le_nI]
    rw [if_pos (by omega)]
theorem chk_M {n m c : Nat} {t : Int32} {g A : Nat → Int32} {b : Nat → Nat} {x2 x3 x4 x6 : Int32} (hn1 : n ≤ 260) (tM : MTape t g n b) (hmn : m ≤ n) (hm : m ≤ 5) (hb : ∀ i, i < m → b i < 6) (hA : ∀ i, i < 7 → A i = nI (dgt m c i)) (k0 : Int32 → Option (Int32 × Int32 × (Nat → Int32))) : L_X12_dials_153 (nI 0) g A (nI m) x2 x3 x4 x6 k0 fu (nI 1, nI 0) = k0 (nI (if allN (okD b m c) m = true then 1 else 0)) := by
  unfold L_X12_dials_153
  refine lp_run (fun i => (nI (if allN (okD b m c) i = true then 1 else 0), nI i)) m _ ?_ ?_ (fu_gt (by omega))
  · intro go i hi
    have h1 := dgt_lt m c i
    have h2 := dgt_lt m c (i + 1)
    have h3 := dgt_lt m c (i + 2)
    have h4 := hb i hi
    simp (disch := omega) only [ltz, le_nI, b01, at_M hn1 tM (show i < n by omega), some_bind, add_nI, rd_nI, hA, rm_nI, nm_eq, eq_nI]
    rw [if_neg (by omega)]
    simp only [allN]
    unfold okD
    rcases Bool.eq_false_or_eq_true (allN (okD b m c) i) with h | h
    · by_cases h5 : (b i + dgt m c i + dgt m c (i + 1) + dgt m c (i + 2)) % 6 = 0
      · unfold okD at h; simp [h, h5]
      · unfold okD at h; simp [h, h5]
    · unfold okD at h; simp [h]
  · intro go
    simp (disch := omega) only [ltz, le_nI]
    rw [if_pos (by omega)]
def cod (D : Nat → Nat) : Nat → Nat
  | 0 => 0
  | m + 1 => D 0 + 6 * cod (fun i => D (i + 1)) m
theorem cod_ok : ∀ (m : Nat) (D : Nat → Nat), (∀ i, D i < 6) → cod D m < 6 ^ m ∧ ∀ p, p < m → cod D m / 6 ^ p % 6 = D p := by
  intro m
  induction m with
  | zero => exact fun D _ => ⟨by simp [cod], fun p hp => absurd hp (Nat.not_lt_zero p)⟩
  | succ m ih =>
    intro D hD
    obtain ⟨h1, h2⟩ := ih (fun i => D (i + 1)) (fun i => hD (i + 1))
    have h3 := hD 0
    refine ⟨?_, ?_⟩
    · simp only [cod, Nat.pow_succ]; omega
    · intro p hp
      simp only [cod]
      cases p with
      | zero => rw [Nat.pow_zero, Nat.div_one]; omega
      | succ p =>
        have e : (D 0 + 6 * cod (fun i => D (i + 1)) m) / 6 ^ (p + 1) = cod (fun i => D (i + 1)) m / 6 ^ p := by
          rw [Nat.pow_succ, Nat.mul_comm (6 ^ p) 6, ← Nat.div_div_eq_div_mul]
          have : (D 0 + 6 * cod (fun i => D (i + 1)) m) / 6 = cod (fun i => D (i + 1)) m := by omega
          rw [this]
        rw [e]
        exact h2 p (by omega)
theorem sum_tn {b : Nat → Nat} {m c f : Nat} (hm2 : 2 ≤ m) (hm : m ≤ 5) (h : ∀ p, p ≤ m + 1 → dgt m c p = tn b f p) : sumN (dgt m c) 7 = sT b f (m + 1) := by
  have hz : ∀ p, m < p → dgt m c p = 0 := fun p hp => by unfold dgt; rw [decide_eq_false (by omega)]; rfl
  have h00 : dgt m c 0 = 0 := by unfold dgt; rw [decide_eq_false (by omega)]; rfl
  have e : sumN (dgt m c) 7 = sumN (fun j => dgt m c (j + 1)) 6 := by
    simp only [sumN, Nat.reduceAdd]
    omega
  have e2 : ∀ k, m + 1 + k ≤ 6 → sumN (fun j => dgt m c (j + 1)) (m + 1 + k) = sT b f (m + 1) := by
    intro k
    induction k with
    | zero =>
      intro _
      exact sumN_congr (m + 1) (fun i hi => h (i + 1) (by omega))
    | succ k ih =>
      intro hk
      show sumN (fun j => dgt m c (j + 1)) (m + 1 + k) + dgt m c (m + 1 + k + 1) = _
      rw [ih (by omega), hz _ (by omega), Nat.add_zero]
  have := e2 (5 - m) (by omega)
  rw [show m + 1 + (5 - m) = 6 by omega] at this
  rw [e, this]
theorem dials_same {b : Nat → Nat} {m : Nat} (hm2 : 2 ≤ m) (hm : m ≤ 5) : mn 1000000 (vC b m) 6 = mn 1000000 (vM b m) (6 ^ m) := by
  have key : ∀ x, x ≤ mn 1000000 (vC b m) 6 ↔ x ≤ mn 1000000 (vM b m) (6 ^ m) := by
    intro x
    rw [mn_le, mn_le]
    constructor
    · rintro ⟨h1, h2⟩
      refine ⟨h1, fun c hc => ?_⟩
      unfold vM
      split
      · rename_i hv
        have hv := (allN_iff _ m).mp hv
        have hf := dgt_lt m c 1
        have ht : ∀ p, p ≤ m + 1 → dgt m c p = tn b (dgt m c 1) p := by
          have hk : ∀ p, p ≤ m → dgt m c p = tn b (dgt m c 1) p ∧ dgt m c (p + 1) = tn b (dgt m c 1) (p + 1) := by
            intro p
            induction p with
            | zero =>
              intro _
              refine ⟨?_, rfl⟩
              unfold dgt; rw [decide_eq_false (by omega)]; rfl
            | succ p ih =>
              intro hp
              obtain ⟨i1, i2⟩ := ih (by omega)
              refine ⟨i2, ?_⟩
              have h3 := hv p (by omega)
              unfold okD at h3
              simp only [decide_eq_true_eq] at h3
              have h4 := dgt_lt m c (p + 2)
              show dgt m c (p + 2) = (6 - (b p + tn b (dgt m c 1) p + tn b (dgt m c 1) (p + 1)) % 6) % 6
              rw [← i1, ← i2]
              omega
          intro p hp
          rcases Nat.lt_or_ge m p with h | h
          · rw [show p = m + 1 by omega]
            exact (hk m (Nat.le_refl _)).2
          · exact (hk p h).1
        have h5 := h2 (dgt m c 1) hf
        unfold vC at h5
        have h6 : tn b (dgt m c 1) (m + 1) = 0 := by
          rw [← ht (m + 1) (Nat.le_refl _)]
          unfold dgt; rw [decide_eq_false (by omega)]; rfl
        rw [if_pos h6] at h5
        rw [sum_tn hm2 hm ht]
        exact h5
      · exact h1
    · rintro ⟨h1, h2⟩
      refine ⟨h1, fun f hf => ?_⟩
      unfold vC
      split
      · rename_i h0
        obtain ⟨c1, c2⟩ := cod_ok m (fun i => tn b f (i + 1)) (fun i => tn_lt b hf (i + 1))
        have ht : ∀ p, p ≤ m + 1 → dgt m (cod (fun i => tn b f (i + 1)) m) p = tn b f p := by
          intro p hp
          unfold dgt
          by_cases h3 : 1 ≤ p ∧ p ≤ m
          · rw [decide_eq_true h3, if_pos rfl, c2 (p - 1) (by omega)]
            show tn b f (p - 1 + 1) = _
            rw [show p - 1 + 1 = p by omega]
          · rw [decide_eq_false h3, if_neg (by decide)]
            rcases (show p = 0 ∨ p = m + 1 by omega) with rfl | rfl
            · rfl
            · exact h0.symm
        have h5 := h2 _ c1
        unfold vM at h5
        rw [if_pos, sum_tn hm2 hm ht] at h5
        · exact h5
        · rw [allN_iff]
          intro i hi
          unfold okD
          rw [ht i (by omega), ht (i + 1) (by omega), ht (i + 2) (by omega)]
          rw [decide_eq_true_eq]
          show (b i + tn b f i + tn b f (i + 1) + (6 - (b i + tn b f i + tn b f (i + 1)) % 6) % 6) % 6 = 0
          omega
      · exact h1
  exact Nat.le_antisymm ((key _).mp (Nat.le_refl _)) ((key _).mpr (Nat.le_refl _))
theorem pow6_le {m : Nat} (hm : m ≤ 5) : 6 ^ m ≤ 7776 := by
  have : 6 ^ m ≤ 6 ^ 5 := Nat.pow_le_pow_right (by omega) hm
  exact this
theorem dials_M {n m : Nat} {t : Int32} {g A : Nat → Int32} {b : Nat → Nat} (hn1 : n ≤ 260) (tM : MTape t g n b) (hmn : m ≤ n) (hm : m ≤ 5) (hb : ∀ i, i < m → b i < 6) (k0 : Int32 × (Nat → Int32) → Option (Int32 × Int32 × (Nat → Int32))) : ∃ A', L_X12_dials_63 (nI 0) g (nI m) (nI (6 ^ m)) k0 fu (nI 1000000, nI 0, A) = k0 (nI (mn 1000000 (vM b m) (6 ^ m)), A') := by
  have h6 := pow6_le hm
  obtain ⟨Z, hZ0, hZ⟩ : ∃ Z : Nat → Nat → Int32, Z 0 = A ∧ ∀ c, Z (c + 1) = fun i => if i < 7 then nI (dgt m c i) else Z c i := by
    refine ⟨fun k => Nat.rec A (fun c z => fun i => if i < 7 then nI (dgt m c i) else z i) k, rfl, fun c => rfl⟩
  refine ⟨Z (6 ^ m), ?_⟩
  unfold L_X12_dials_63
  have h0 : (nI 1000000, nI 0, A) = (nI (mn 1000000 (vM b m) 0), nI 0, Z 0) := by rw [hZ0]; rfl
  rw [h0]
  refine lp_run (fun c => (nI (mn 1000000 (vM b m) c), nI c, Z c)) (6 ^ m) _ ?_ ?_ (fu_gt (by omega))
  · intro go c hc
    have hc7 : c < 7776 := by omega
    have h1 := mn_lt (i := 1000000) (b := 1000001) (f := vM b m) (by omega) c
    have h2 : sumN (dgt m c) 7 ≤ 7 * 5 := sumN_le 7 (fun i _ => by have := dgt_lt m c i; omega)
    simp (disch := omega) only [ltz, le_nI, code_M hm hc7]
    rw [if_neg (by omega)]
    rw [chk_M hn1 tM hmn hm hb (c := c) (fun i hi => if_pos hi)]
    rw [hZ c]
    simp (disch := omega) only [b01, min_M, some_bind, nm_eq, add_nI]
    show _ = go (nI (min (mn 1000000 (vM b m) c) (vM b m c)), nI (c + 1), _)
    unfold vM
    rcases Bool.eq_false_or_eq_true (allN (okD b m c) m) with h | h
    · rw [if_neg (by rw [h]; decide), if_pos h]
    · rw [if_pos h, if_neg (c := allN (okD b m c) m = true) (by rw [h]; decide)]
      rw [Nat.min_eq_left (by unfold vM at h1; omega)]
  · intro go
    simp (disch := omega) only [ltz, le_nI]
    rw [if_pos (by omega)]
theorem B_dials {n : Nat} {size taped : Int32} {f g A : Nat → Int32} {b : Nat → Nat} (tC : CTape size f n b) (tM : MTape taped g n b) (x1 : Int32) : ∃ r r' n', f_X11_dials size f x1 = some r ∧ f_X12_dials taped g A x1 = some r' ∧ r.1 = r'.1 ∧ r.2 = nI n' ∧ r'.2.1 = nI n' ∧ n' ≤ n := by
  obtain ⟨t1, rfl, t2⟩ := tC
  obtain ⟨rfl, t3⟩ := tM
  have tC : CTape (nI n) f n b := ⟨t1, rfl, t2⟩
  have tM : MTape (nI n) g n b := ⟨rfl, t3⟩
  have hby : ∀ i, i < n → b i < 256 := fun i hi => (t2 i hi).2
  unfold f_X11_dials f_X12_dials f_X8_clear
  simp only [ltz]
  rcases in01 x1 2 5 (by omega) (by omega) with ⟨e1, e2⟩ | ⟨m, hm2, hm, rfl, e1, e2⟩
  · simp only [e1, e2, some_bind, n00, if_true]
    exact ⟨_, _, n, rfl, rfl, rfl, rfl, rfl, Nat.le_refl _⟩
  · by_cases hmn : m ≤ n
    · have c1 : f_X5_areDials (nI n) f (nI m) = some (nI (if allN (fun i => decide (b i < 6)) m = true then 1 else 0)) := by
        have e0 : some (nI (if allN (fun i => decide (b i < 6)) m = true then 1 else 0)) = if allN (fun i => decide (b i < 6)) m = true then some (nI 1) else some (nI 0) := by split <;> rfl
        rw [e0, match_all]
        unfold f_X5_areDials L_X5_areDials_2
        refine lp_find (fun i => nI i) m _ (fun _ => some (nI 0)) _ ?_ ?_ ?_ (fu_gt (by omega))
        · intro go i hi hP
          have b1 := hby i (by omega)
          simp (disch := omega) only [ltz, le_nI, at_C tC (show i < n by omega), some_bind, lt_nI, nm_eq, add_nI]
          rw [if_neg (by omega), if_pos (by simpa using hP)]
        · intro go i hi hP
          have b1 := hby i (by omega)
          simp (disch := omega) only [ltz, le_nI, at_C tC (show i < n by omega), some_bind, lt_nI, nm_eq, add_nI]
          rw [if_neg (by omega), if_neg (by simpa using hP)]
        · intro go
          simp (disch := omega) only [ltz, le_nI]
          rw [if_pos (by omega)]
      have h6 := pow6_le hm
      have c2 : ∀ k0 : Int32 → Option (Int32 × Int32 × (Nat → Int32)), L_X12_dials_28 (nI 0) g A (nI m) k0 fu (nI 1, nI 0) = if allN (fun i => decide (b i < 6)) m = true then k0 (nI (6 ^ m)) else some (-nI 3, nI 0, A) := by
        intro k0
        rw [match_all]
        unfold L_X12_dials_28
        refine lp_find (fun i => (nI (6 ^ i), nI i)) m _ (fun _ => some (-nI 3, nI 0, A)) _ ?_ ?_ ?_ (fu_gt (by omega))
        · intro go i hi hP
          have b1 := hby i (by omega)
          simp (disch := omega) only [ltz, le_nI, at_M t1 tM (show i < n by omega), some_bind, nm_eq, add_nI, mul_nI]
          have hP : b i < 6 := by simpa using hP
          rw [if_neg (by omega), if_pos (by omega), Nat.pow_succ]
        · intro go i hi hP
          have b1 := hby i (by omega)
          simp (disch := omega) only [ltz, le_nI, at_M t1 tM (show i < n by omega), some_bind, nm_eq, add_nI, mul_nI]
          have hP : ¬ b i < 6 := by simpa using hP
          rw [if_neg (by omega), if_neg (by omega)]
        · intro go
          simp (disch := omega) only [ltz, le_nI]
          rw [if_pos (by omega)]
      simp (disch := omega) only [e1, e2, some_bind, n10, if_false, le_nI, hmn, if_true, c1, c2, jn_eq, b01]
      rcases Bool.eq_false_or_eq_true (allN (fun i => decide (b i < 6)) m) with hc | hc
      · have hb : ∀ i, i < m → b i < 6 := fun i hi => by simpa using (allN_iff _ m).mp hc i hi
        obtain ⟨A', hA'⟩ := dials_M (A := A) t1 tM hmn hm hb (fun s29 => if s29.1 = nI 1000000 then (some (-nI 2, nI 0, s29.2)) else some (s29.1, nI 0, s29.2))
        have h1 := mn_lt (i := 1000000) (b := 1000001) (f := vM b m) (by omega) (6 ^ m)
        simp (disch := omega) only [hc, dials_C tC hmn hm hb, some_bind, if_true, hA', dials_same hm2 hm, eq_nI]
        refine ⟨_, (mil (mn 1000000 (vM b m) (6 ^ m)), nI 0, A'), 0, if_neg (by decide), ?_, rfl, rfl, rfl, Nat.zero_le _⟩
        unfold mil
        split <;> rfl
      · simp only [hc]
        exact ⟨_, _, 0, if_pos trivial, if_neg (by decide), rfl, rfl, rfl, Nat.zero_le _⟩
    · simp (disch := omega) only [e1, e2, some_bind, n10, if_false, le_nI, hmn]
      exact ⟨_, _, n, rfl, rfl, rfl, rfl, rfl, Nat.le_refl _⟩
