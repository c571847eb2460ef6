/-! LANDINGS -/
def tzf (v1 : Int32) : Option Int32 := if 0 < v1 then (jn (fun s2 : Int32 × Int32 => jn (fun s3 : Int32 × Int32 => jn (fun s4 : Int32 × Int32 => if s4.1 ≤ (4 : Int32) then (some (s4.2 + ((s4.1).toUInt32 >>> (((1 : Int32)).toUInt32 &&& Int32.toUInt32 31)).toInt32)) else nm (s4.2 + (2 : Int32)) fun v5 => nm ((s4.1).toUInt32 >>> (((2 : Int32)).toUInt32 &&& Int32.toUInt32 31)).toInt32 fun v6 => some (v5 + ((v6).toUInt32 >>> (((1 : Int32)).toUInt32 &&& Int32.toUInt32 31)).toInt32)) fun j62 => if s3.1 ≤ (16 : Int32) then (j62 (s3.1, s3.2)) else nm (s3.2 + (4 : Int32)) fun v7 => nm ((s3.1).toUInt32 >>> (((4 : Int32)).toUInt32 &&& Int32.toUInt32 31)).toInt32 fun v8 => j62 (v8, v7)) fun j49 => if s2.1 ≤ (256 : Int32) then (j49 (s2.1, s2.2)) else nm (s2.2 + (8 : Int32)) fun v9 => nm ((s2.1).toUInt32 >>> (((8 : Int32)).toUInt32 &&& Int32.toUInt32 31)).toInt32 fun v10 => j49 (v10, v9)) fun j34 => if v1 ≤ (65536 : Int32) then (j34 (v1, (1 : Int32))) else nm ((1 : Int32) + (16 : Int32)) fun v11 => nm ((v1).toUInt32 >>> (((16 : Int32)).toUInt32 &&& Int32.toUInt32 31)).toInt32 fun v12 => j34 (v12, v11)) else some (v1 &&& (32 : Int32))
theorem tzf_ok : ∀ k, k < 24 → tzf (nI (2 ^ k - 1)) = some (nI k) := by decide +kernel
theorem low_mask {n k : Nat} (hn : n < 4294967296) (h1 : n.testBit k = true) (h2 : ∀ i, i < k → n.testBit i = false) : (n ^^^ 4294967295) &&& (n - 1) = 2 ^ k - 1 := by
  have hp : 0 < 2 ^ k := Nat.two_pow_pos k
  have hm : n % 2 ^ k = 0 := by
    apply Nat.eq_of_testBit_eq
    intro i
    rw [Nat.testBit_mod_two_pow, Nat.zero_testBit]
    by_cases h : i < k
    · rw [h2 i h]; simp
    · simp [h]
  have hd : n / 2 ^ k % 2 = 1 := by rw [tb_iff, h1]; rfl
  obtain ⟨t, ht⟩ : ∃ t, n = 2 ^ k * (2 * t + 1) := by
    refine ⟨n / 2 ^ k / 2, ?_⟩
    have := Nat.div_add_mod n (2 ^ k)
    rw [hm] at this
    have e : 2 * (n / 2 ^ k / 2) + 1 = n / 2 ^ k := by omega
    rw [e]
    omega
  have e1 : n = 2 ^ k * (2 * t + 1) + 0 := by omega
  have e2 : n - 1 = 2 ^ k * (2 * t) + (2 ^ k - 1) := by
    rw [Nat.mul_add] at ht
    omega
  apply Nat.eq_of_testBit_eq
  intro i
  rw [Nat.testBit_and, Nat.testBit_xor, show (4294967295 : Nat) = 2 ^ 32 - 1 by rfl, Nat.testBit_two_pow_sub_one, e2, Nat.testBit_two_pow_mul_add _ (by omega), Nat.testBit_two_pow_sub_one]
  have ht1 : n.testBit i = if i < k then Nat.testBit 0 i else (2 * t + 1).testBit (i - k) := by
    rw [e1, Nat.testBit_two_pow_mul_add _ (by omega)]
  by_cases h : i < k
  · have hk : k < 32 := by
      rcases Nat.lt_or_ge k 32 with h3 | h3
      · exact h3
      · have : 2 ^ 32 ≤ 2 ^ k := Nat.pow_le_pow_right (by omega) h3
        rw [tb_big (show n < 2 ^ k by omega)] at h1
        cases h1
    rw [if_pos h, h2 i h, decide_eq_true h, decide_eq_true (show i < 32 by omega)]
    rfl
  · rw [if_neg h, ht1, if_neg h]
    rcases (show i = k ∨ k < i by omega) with rfl | h3
    · simp
    · have e3 : (2 * t + 1).testBit (i - k) = (2 * t).testBit (i - k) := by
        rw [show i - k = (i - k - 1) + 1 by omega, Nat.testBit_succ, Nat.testBit_succ]
        congr 1
        omega
      rw [e3]
      have : decide (i < k) = false := decide_eq_false h
      rw [this]
      by_cases h4 : i < 32
      · rw [decide_eq_true h4]; cases (2 * t).testBit (i - k) <;> rfl
      · have : (2 * t).testBit (i - k) = false := by
          rw [← e3]
          have h5 := ht1
          rw [if_neg h] at h5
          rw [← h5]
          have : 2 ^ 32 ≤ 2 ^ i := Nat.pow_le_pow_right (by omega) (by omega)
          exact tb_big (by omega)
        rw [this]
        simp
theorem ntz_24 {n k : Nat} (hn : n < 16777216) (h1 : n.testBit k = true) (h2 : ∀ i, i < k → n.testBit i = false) : f_J6_numberOfTrailingZeros_0f7a4 (nI n) = some (nI k) := by
  have hk : k < 24 := by
    rcases Nat.lt_or_ge k 24 with h | h
    · exact h
    · have : 2 ^ 24 ≤ 2 ^ k := Nat.pow_le_pow_right (by omega) h
      rw [tb_big (show n < 2 ^ k by omega)] at h1
      cases h1
  have hn0 : 0 < n := by
    rcases Nat.eq_zero_or_pos n with h | h
    · rw [h, Nat.zero_testBit] at h1; cases h1
    · exact h
  have e : f_J6_numberOfTrailingZeros_0f7a4 (nI n) = nm ((nI n ^^^ (-1 : Int32)) &&& (nI n - (1 : Int32))) fun v1 => tzf v1 := rfl
  rw [e, nm_eq]
  have e2 : (nI n ^^^ (-1 : Int32)) &&& (nI n - (1 : Int32)) = nI (2 ^ k - 1) := by
    rw [m1_nI, xor_nI]
    show _ &&& (nI n - nI 1) = _
    rw [sub_nI (by omega), and_nI, low_mask (by omega) h1 h2]
  rw [e2]
  exact tzf_ok k hk
/-! rooms joined by doors of which q is true -/
def ed (D : DS) (d : Nat) : Nat := 2 ^ on D d ||| 2 ^ ot D d
def tch (D : DS) (S d : Nat) : Bool := S.testBit (on D d) || S.testBit (ot D d)
def ps (D : DS) (q : Nat → Bool) (S : Nat) : Nat → Nat
  | 0 => S
  | d + 1 => if q d && tch D (ps D q S d) d then ps D q S d ||| ed D d else ps D q S d
theorem ed_tb (D : DS) (d x : Nat) : (ed D d).testBit x = (decide (on D d = x) || decide (ot D d = x)) := by
  unfold ed
  rw [Nat.testBit_or, Nat.testBit_two_pow, Nat.testBit_two_pow]
theorem ed_lt {D : DS} (hW : WDoors D) {d : Nat} (hd : d < 24) : ed D d < 65536 := by
  obtain ⟨a, b, _⟩ := hW.2.2.2.1 d hd
  exact Nat.or_lt_two_pow (n := 16) (Nat.pow_lt_pow_right (by omega) (by omega)) (Nat.pow_lt_pow_right (by omega) (by omega))
theorem tch_and (D : DS) (S d : Nat) : (S &&& ed D d = 0) = (tch D S d = false) := by
  apply propext
  unfold tch
  constructor
  · intro h
    have h1 : ∀ x, (S &&& ed D d).testBit x = false := fun x => by rw [h, Nat.zero_testBit]
    have a := h1 (on D d)
    have b := h1 (ot D d)
    rw [Nat.testBit_and, ed_tb] at a b
    simp at a b
    rw [a, b]
    rfl
  · intro h
    simp only [Bool.or_eq_false_iff] at h
    apply Nat.eq_of_testBit_eq
    intro x
    rw [Nat.testBit_and, ed_tb, Nat.zero_testBit]
    by_cases h1 : on D d = x
    · rw [← h1, h.1]; rfl
    · by_cases h2 : ot D d = x
      · rw [← h2, h.2]; rfl
      · simp [h1, h2]
theorem ps_lt {D : DS} (hW : WDoors D) {q : Nat → Bool} {S : Nat} (hS : S < 65536) : ∀ k, k ≤ 24 → ps D q S k < 65536 := by
  intro k
  induction k with
  | zero => exact fun _ => hS
  | succ k ih =>
    intro hk
    have h1 := ih (by omega)
    simp only [ps]
    split
    · exact Nat.or_lt_two_pow (n := 16) h1 (ed_lt hW (by omega))
    · exact h1
theorem ps_sub {D : DS} {q : Nat → Bool} {S : Nat} {x : Nat} : ∀ k j, j ≤ k → (ps D q S j).testBit x = true → (ps D q S k).testBit x = true := by
  intro k
  induction k with
  | zero => intro j hj h; rw [show j = 0 by omega] at h; exact h
  | succ k ih =>
    intro j hj h
    rcases (show j = k + 1 ∨ j ≤ k by omega) with rfl | h1
    · exact h
    · have := ih j h1 h
      simp only [ps]
      split
      · rw [Nat.testBit_or, this]; rfl
      · exact this
/-- joined -/
def R (D : DS) (q : Nat → Bool) (a b : Nat) : Prop := ∀ P : Nat → Prop, P a → (∀ d, d < 24 → q d = true → (P (on D d) ↔ P (ot D d))) → P b
theorem R_refl (D : DS) (q : Nat → Bool) (a : Nat) : R D q a a := fun _ h _ => h
theorem R_trans {D : DS} {q : Nat → Bool} {a b c : Nat} (h1 : R D q a b) (h2 : R D q b c) : R D q a c := fun P h hc => h2 P (h1 P h hc) hc
theorem R_edge {D : DS} {q : Nat → Bool} {d : Nat} (hd : d < 24) (hq : q d = true) : R D q (on D d) (ot D d) ∧ R D q (ot D d) (on D d) := ⟨fun _ h hc => (hc d hd hq).mp h, fun _ h hc => (hc d hd hq).mpr h⟩
theorem R_symm {D : DS} {q : Nat → Bool} {a b : Nat} (h : R D q a b) : R D q b a :=
  h (fun x => R D q x a) (R_refl D q a) (fun d hd hq => ⟨fun h1 => R_trans (R_edge hd hq).2 h1, fun h1 => R_trans (R_edge hd hq).1 h1⟩)
theorem R_mono {D : DS} {q q' : Nat → Bool} (h : ∀ d, d < 24 → q' d = true → q d = true) {a b : Nat} (hr : R D q' a b) : R D q a b := fun P hP hc => hr P hP (fun d hd hq => hc d hd (h d hd hq))
theorem ps_sound {D : DS} {q : Nat → Bool} {S a : Nat} (hS : ∀ x, S.testBit x = true → R D q a x) : ∀ k, k ≤ 24 → ∀ x, (ps D q S k).testBit x = true → R D q a x := by
  intro k
  induction k with
  | zero => exact fun _ => hS
  | succ k ih =>
    intro hk x hx
    have h1 := ih (by omega)
    simp only [ps] at hx
    split at hx
    · rename_i hc
      simp only [Bool.and_eq_true] at hc
      rw [Nat.testBit_or] at hx
      rcases Bool.eq_false_or_eq_true ((ps D q S k).testBit x) with h2 | h2
      · exact h1 x h2
      · rw [h2, Bool.false_or, ed_tb] at hx
        simp only [Bool.or_eq_true, decide_eq_true_eq] at hx
        have he := R_edge (D := D) (q := q) (d := k) (by omega) hc.1
        have ht := hc.2
        unfold tch at ht
        simp only [Bool.or_eq_true] at ht
        rcases ht with h3 | h3
        · have h4 := h1 _ h3
          rcases hx with rfl | rfl
          · exact h4
          · exact R_trans h4 he.1
        · have h4 := h1 _ h3
          rcases hx with rfl | rfl
          · exact R_trans h4 he.2
          · exact h4
    · exact h1 x hx
theorem tb_ext {A B : Nat} (h1 : ∀ x, A.testBit x = true → B.testBit x = true) (h2 : ∀ x, B.testBit x = true → A.testBit x = true) : A = B := by
  apply Nat.eq_of_testBit_eq
  intro x
  rcases Bool.eq_false_or_eq_true (A.testBit x) with h | h
  · rw [h, h1 x h]
  · rcases Bool.eq_false_or_eq_true (B.testBit x) with h3 | h3
    · rw [h2 x h3] at h; cases h
    · rw [h, h3]
theorem ps_fix {D : DS} {q : Nat → Bool} {S : Nat} (h : ps D q S 24 = S) {d : Nat} (hd : d < 24) (hq : q d = true) : S.testBit (on D d) = true ↔ S.testBit (ot D d) = true := by
  have hk : ∀ k, k ≤ 24 → ps D q S k = S := by
    intro k hk
    refine tb_ext (fun x hx => ?_) (fun x hx => ps_sub k 0 (by omega) hx)
    have := ps_sub (D := D) (q := q) (S := S) (x := x) 24 k hk hx
    rw [h] at this
    exact this
  have h1 := hk (d + 1) (by omega)
  simp only [ps] at h1
  rw [hk d (by omega), hq, Bool.true_and] at h1
  rcases Bool.eq_false_or_eq_true (tch D S d) with h2 | h2
  · rw [if_pos h2] at h1
    have a : S.testBit (on D d) = true := by rw [← h1, Nat.testBit_or, ed_tb]; simp
    have b : S.testBit (ot D d) = true := by rw [← h1, Nat.testBit_or, ed_tb]; simp
    exact ⟨fun _ => b, fun _ => a⟩
  · unfold tch at h2
    simp only [Bool.or_eq_false_iff] at h2
    rw [h2.1, h2.2]
/-! rounds until nothing changes -/
def it (D : DS) (q : Nat → Bool) (S : Nat) : Nat → Nat
  | 0 => S
  | k + 1 => ps D q (it D q S k) 24
theorem it_lt {D : DS} (hW : WDoors D) {q : Nat → Bool} {S : Nat} (hS : S < 65536) : ∀ k, it D q S k < 65536 := by
  intro k
  induction k with
  | zero => exact hS
  | succ k ih => exact ps_lt hW ih 24 (Nat.le_refl _)
def pcN (S : Nat) : Nat := sumN (fun i => if S.testBit i = true then 1 else 0) 16
theorem sumN_mono {f g : Nat → Nat} : ∀ n, (∀ i, i < n → f i ≤ g i) → sumN f n ≤ sumN g n := by
  intro n
  induction n with
  | zero => exact fun _ => Nat.le_refl _
  | succ n ih =>
    intro h
    have h1 := ih (fun i hi => h i (by omega))
    have h2 := h n (by omega)
    simp only [sumN]
    omega
theorem sumN_strict {f g : Nat → Nat} : ∀ n, (∀ i, i < n → f i ≤ g i) → (∃ i, i < n ∧ f i < g i) → sumN f n < sumN g n := by
  intro n
  induction n with
  | zero => rintro _ ⟨i, hi, _⟩; omega
  | succ n ih =>
    rintro h ⟨i, hi, hl⟩
    simp only [sumN]
    have h2 := h n (by omega)
    rcases (show i = n ∨ i < n by omega) with rfl | h3
    · have := sumN_mono i (fun j hj => h j (by omega))
      omega
    · have := ih (fun j hj => h j (by omega)) ⟨i, h3, hl⟩
      omega
theorem pcN_lt {A B : Nat} (hB : B < 65536) (h : ∀ x, A.testBit x = true → B.testBit x = true) (hn : B ≠ A) : pcN A < pcN B := by
  refine sumN_strict 16 (fun i _ => ?_) ?_
  · rcases Bool.eq_false_or_eq_true (A.testBit i) with h1 | h1
    · show (if A.testBit i = true then 1 else 0) ≤ (if B.testBit i = true then 1 else 0)
      rw [if_pos h1, if_pos (h i h1)]; omega
    · show (if A.testBit i = true then 1 else 0) ≤ (if B.testBit i = true then 1 else 0)
      rw [if_neg (by rw [h1]; decide)]; omega
  · apply Classical.byContradiction
    intro hc
    apply hn
    refine tb_ext (fun x hx => ?_) h
    rcases Bool.eq_false_or_eq_true (A.testBit x) with h1 | h1
    · exact h1
    · exfalso
      apply hc
      refine ⟨x, ?_, ?_⟩
      · rcases Nat.lt_or_ge x 16 with h2 | h2
        · exact h2
        · have : 2 ^ 16 ≤ 2 ^ x := Nat.pow_le_pow_right (by omega) h2
          rw [tb_big (show B < 2 ^ x by omega)] at hx
          cases hx
      · show (if A.testBit x = true then 1 else 0) < (if B.testBit x = true then 1 else 0)
        rw [if_pos hx, if_neg (by rw [h1]; decide)]; omega
theorem it_stay {D : DS} {q : Nat → Bool} {S : Nat} {i : Nat} (h : it D q S (i + 1) = it D q S i) : ∀ k, it D q S (i + k) = it D q S i := by
  intro k
  induction k with
  | zero => rfl
  | succ k ih =>
    show ps D q (it D q S (i + k)) 24 = _
    rw [ih]
    exact h
theorem it_fix {D : DS} (hW : WDoors D) {q : Nat → Bool} {S : Nat} (hS : S < 65536) (h0 : 0 < pcN S) : ∃ i, i ≤ 15 ∧ it D q S (i + 1) = it D q S i := by
  apply Classical.byContradiction
  intro hc
  have hk : ∀ k, k ≤ 16 → k < pcN (it D q S k) := by
    intro k
    induction k with
    | zero => exact fun _ => h0
    | succ k ih =>
      intro hk
      have h1 := ih (by omega)
      have h2 : pcN (it D q S k) < pcN (it D q S (k + 1)) := by
        refine pcN_lt (it_lt hW hS (k + 1)) (fun x hx => ps_sub 24 0 (by omega) hx) (fun e => hc ⟨k, by omega, e⟩)
      omega
  have h1 := hk 16 (Nat.le_refl _)
  have h2 : pcN (it D q S 16) ≤ 16 := sumN_le1 16 (fun i => by split <;> omega)
  omega
theorem it_16 {D : DS} (hW : WDoors D) {q : Nat → Bool} {S : Nat} (hS : S < 65536) (h0 : 0 < pcN S) {k : Nat} (hk : 15 ≤ k) : it D q S k = it D q S 16 := by
  obtain ⟨i, hi, h⟩ := it_fix (q := q) hW hS h0
  have h1 := it_stay h (k - i)
  have h2 := it_stay h (16 - i)
  rw [show i + (k - i) = k by omega] at h1
  rw [show i + (16 - i) = 16 by omega] at h2
  rw [h1, h2]
def G (D : DS) (q : Nat → Bool) (a : Nat) : Nat := it D q (2 ^ a) 16
theorem pow_16 {a : Nat} (ha : a < 16) : 2 ^ a < 65536 := by
  have : 2 ^ a < 2 ^ 16 := Nat.pow_lt_pow_right (by omega) ha
  exact this
theorem pcN_pow {a : Nat} (ha : a < 16) : 0 < pcN (2 ^ a) := by
  have h := pcN_lt (A := 0) (B := 2 ^ a) (pow_16 ha) (fun x hx => by rw [Nat.zero_testBit] at hx; cases hx) (by have := Nat.two_pow_pos a; omega)
  omega
theorem G_lt {D : DS} (hW : WDoors D) (q : Nat → Bool) {a : Nat} (ha : a < 16) : G D q a < 65536 := it_lt hW (pow_16 ha) 16
theorem G_tb {D : DS} (hW : WDoors D) (q : Nat → Bool) {a : Nat} (ha : a < 16) (x : Nat) : (G D q a).testBit x = true ↔ R D q a x := by
  constructor
  · have : ∀ k x, (it D q (2 ^ a) k).testBit x = true → R D q a x := by
      intro k
      induction k with
      | zero =>
        intro x hx
        show R D q a x
        have hx : (2 ^ a).testBit x = true := hx
        rw [Nat.testBit_two_pow] at hx
        simp only [decide_eq_true_eq] at hx
        rw [hx]
        exact R_refl D q x
      | succ k ih => exact fun x hx => ps_sound ih 24 (Nat.le_refl _) x hx
    exact this 16 x
  · intro h
    refine h (fun y => (G D q a).testBit y = true) ?_ (fun d hd hq => ps_fix (q := q) ?_ hd hq)
    · show (it D q (2 ^ a) 16).testBit a = true
      have : ∀ k, (it D q (2 ^ a) k).testBit a = true := by
        intro k
        induction k with
        | zero => show (2 ^ a).testBit a = true; rw [Nat.testBit_two_pow]; simp
        | succ k ih => exact ps_sub 24 0 (by omega) ih
      exact this 16
    · show it D q (2 ^ a) 17 = it D q (2 ^ a) 16
      exact it_16 hW (pow_16 ha) (pcN_pow ha) (by omega)
theorem edge_nI {D : DS} (hW : WDoors D) {d : Nat} (hd : d < 24) : (nI 1 <<< (nI (on D d) &&& nI 31)) ||| (nI 1 <<< (nI (ot D d) &&& nI 31)) = nI (ed D d) := by
  obtain ⟨a, b, _⟩ := hW.2.2.2.1 d hd
  have s1 : nI 1 <<< (nI (on D d) &&& nI 31) = nI (2 ^ on D d) := one_shl (by omega)
  have s2 : nI 1 <<< (nI (ot D d) &&& nI 31) = nI (2 ^ ot D d) := one_shl (by omega)
  rw [s1, s2, or_nI]
  rfl
theorem bit_of {n j : Nat} (hn : n < 2147483648) (hj : j < 32) : nI n >>> (nI j &&& nI 31) &&& nI 1 = nI (if n.testBit j = true then 1 else 0) := by
  have h := bit_nI hn hj
  rw [tb_iff] at h
  exact h
theorem groupOf_C {D : DS} {one other : Nat → Int32} (h1 : ∀ d, d < 24 → one d = nI (on D d)) (h2 : ∀ d, d < 24 → other d = nI (ot D d)) (hW : WDoors D) {q : Nat → Bool} {a M : Nat} (ha : a < 16) (hM : M < 16777216) (hq : ∀ d, d < 24 → M.testBit d = q d) : f_X0_groupOf one other (nI a) (nI M) = some (nI (G D q a)) := by
  have e1 : ∀ (S : Nat) (x4 x5 : Int32) (k0 : Int32 → Option Int32), S < 65536 → L_X0_groupOf_20 one other (nI M) x4 x5 k0 fu (nI S, nI 0) = k0 (nI (ps D q S 24)) := by
    intro S x4 x5 k0 hS
    unfold L_X0_groupOf_20
    have h0 : (nI S, nI 0) = (nI (ps D q S 0), nI 0) := rfl
    rw [h0]
    refine lp_run (fun d => (nI (ps D q S d), nI d)) 24 _ ?_ ?_ (fu_gt (by omega))
    · intro go d hd
      have p1 := ps_lt (q := q) hW hS d (by omega)
      have p2 := ed_lt hW hd
      have p3 : ps D q S d &&& ed D d < 65536 := Nat.lt_of_le_of_lt Nat.and_le_left p1
      simp (disch := omega) only [ltz, le_nI, rd_nI, h1 d hd, h2 d hd, edge_nI hW hd, nm_eq, bit_of, b01, hq d hd]
      simp (disch := omega) only [and_nI, eq_nI, tch_and, or_nI, add_nI]
      rw [if_neg (by omega)]
      simp only [ps]
      rcases Bool.eq_false_or_eq_true (q d) with a1 | a1
      · rcases Bool.eq_false_or_eq_true (tch D (ps D q S d) d) with a2 | a2 <;> simp [a1, a2]
      · simp [a1]
    · intro go
      simp (disch := omega) only [ltz, le_nI]
      rw [if_pos (by omega)]
  unfold f_X0_groupOf L_X0_groupOf_7
  have s1 : nI 1 <<< (nI a &&& nI 31) = nI (2 ^ a) := one_shl (by omega)
  simp only [ltz, nm_eq, s1]
  have key : ∀ (m k n : Nat), k + m = 16 → m < n → lp (fun go s => if nI 16 ≤ s.2 then some s.1 else L_X0_groupOf_20 one other (nI M) s.2 s.1 (fun s9 => if s9 = s.1 then some s9 else go (s9, s.2 + nI 1)) fu (s.1, nI 0)) n (nI (it D q (2 ^ a) k), nI k) = some (nI (G D q a)) := by
    intro m
    induction m with
    | zero =>
      intro k n hk hn
      obtain ⟨n, rfl⟩ : ∃ m, n = m + 1 := ⟨n - 1, by omega⟩
      rw [lp_s, show k = 16 by omega]
      exact if_pos (show nI 16 ≤ nI 16 by decide)
    | succ m ih =>
      intro k n hk hn
      obtain ⟨n, rfl⟩ : ∃ m, n = m + 1 := ⟨n - 1, by omega⟩
      rw [lp_s]
      have hl := it_lt hW (q := q) (pow_16 ha) k
      have hl1 := it_lt hW (q := q) (pow_16 ha) (k + 1)
      have hl2 : ps D q (it D q (2 ^ a) k) 24 < 65536 := hl1
      simp (disch := omega) only [le_nI, e1, eq_nI, add_nI]
      rw [if_neg (by omega)]
      by_cases h3 : ps D q (it D q (2 ^ a) k) 24 = it D q (2 ^ a) k
      · rw [if_pos h3, h3]
        have h4 := it_stay (i := k) h3 (16 - k)
        rw [show k + (16 - k) = 16 by omega] at h4
        unfold G
        rw [h4]
      · rw [if_neg h3]
        exact ih (k + 1) n (by omega) (by omega)
  exact key 16 0 fu rfl (fu_gt (by omega))
theorem groupOf_M {D : DS} {one other : Nat → Int32} (h1 : ∀ d, d < 24 → one d = nI (on D d)) (h2 : ∀ d, d < 24 → other d = nI (ot D d)) (hW : WDoors D) {q : Nat → Bool} {a : Nat} {x2 : Int32} (ha : a < 16) (hq : ∀ d, d < 24 → q d = (opn D d && !decide (nI d = x2))) : f_X12_groupOf (nI (dt D)) (nI (db D)) one other (nI a) x2 = some (nI (G D q a)) := by
  have e1 : ∀ (S : Nat) (x4 : Int32) (k0 : Int32 → Option Int32), S < 65536 → L_X12_groupOf_19 (nI (dt D)) (nI (db D)) one other x2 x4 k0 fu (nI S, nI 0) = k0 (nI (ps D q S 24)) := by
    intro S x4 k0 hS
    unfold L_X12_groupOf_19
    have h0 : (nI S, nI 0) = (nI (ps D q S 0), nI 0) := rfl
    rw [h0]
    refine lp_run (fun d => (nI (ps D q S d), nI d)) 24 _ ?_ ?_ (fu_gt (by omega))
    · intro go d hd
      have p1 := ps_lt (q := q) hW hS d (by omega)
      have p2 := ed_lt hW hd
      have p3 : ps D q S d &&& ed D d < 65536 := Nat.lt_of_le_of_lt Nat.and_le_left p1
      simp (disch := omega) only [ltz, le_nI, canOpen_M hW hd, some_bind, rd_nI, h1 d hd, h2 d hd, edge_nI hW hd, nm_eq, b01]
      simp (disch := omega) only [and_nI, eq_nI, tch_and, or_nI, add_nI]
      rw [if_neg (by omega)]
      simp only [ps, hq d hd]
      by_cases a0 : nI d = x2
      · simp [a0]
      · rcases Bool.eq_false_or_eq_true (opn D d) with a1 | a1
        · rcases Bool.eq_false_or_eq_true (tch D (ps D q S d) d) with a2 | a2 <;> simp [a0, a1, a2]
        · simp [a0, a1]
    · intro go
      simp (disch := omega) only [ltz, le_nI]
      rw [if_pos (by omega)]
  unfold f_X12_groupOf L_X12_groupOf_7
  have s1 : nI 1 <<< (nI a &&& nI 31) = nI (2 ^ a) := one_shl (by omega)
  simp only [ltz, nm_eq, s1]
  obtain ⟨prv, hp0, hps⟩ : ∃ prv : Nat → Nat, prv 0 = 0 ∧ ∀ k, prv (k + 1) = it D q (2 ^ a) k := ⟨fun k => match k with
    | 0 => 0
    | k + 1 => it D q (2 ^ a) k, rfl, fun _ => rfl⟩
  have hpl : ∀ k, prv k < 65536 := by
    intro k
    cases k with
    | zero => rw [hp0]; omega
    | succ k => rw [hps]; exact it_lt hW (pow_16 ha) k
  have key : ∀ (m k n : Nat), k + m = 17 → m < n → lp (fun go s => if s.1 = s.2 then some s.1 else L_X12_groupOf_19 (nI (dt D)) (nI (db D)) one other x2 s.1 (fun s11 => go (s11, s.1)) fu (s.1, nI 0)) n (nI (it D q (2 ^ a) k), nI (prv k)) = some (nI (G D q a)) := by
    intro m
    induction m with
    | zero =>
      intro k n hk hn
      obtain ⟨n, rfl⟩ : ∃ m, n = m + 1 := ⟨n - 1, by omega⟩
      have e : it D q (2 ^ a) 17 = it D q (2 ^ a) 16 := it_16 hW (pow_16 ha) (pcN_pow ha) (by omega)
      rw [lp_s, show k = 17 by omega, hps 16, e]
      exact if_pos rfl
    | succ m ih =>
      intro k n hk hn
      obtain ⟨n, rfl⟩ : ∃ m, n = m + 1 := ⟨n - 1, by omega⟩
      rw [lp_s]
      have hl := it_lt hW (q := q) (pow_16 ha) k
      have hl1 := hpl k
      simp (disch := omega) only [e1, eq_nI]
      by_cases h3 : it D q (2 ^ a) k = prv k
      · rw [if_pos h3]
        cases k with
        | zero =>
          exfalso
          rw [hp0] at h3
          have h3 : 2 ^ a = 0 := h3
          have := Nat.two_pow_pos a
          omega
        | succ k =>
          rw [hps] at h3
          have h4 := it_stay (i := k) h3 (16 - k)
          rw [show k + (16 - k) = 16 by omega] at h4
          unfold G
          rw [h4, h3]
      · rw [if_neg h3]
        have := ih (k + 1) n (by omega) (by omega)
        rw [hps] at this
        exact this
  have := key 17 0 fu rfl (fu_gt (by omega))
  rw [hp0] at this
  exact this
/-! how many groups -/
def grp (D : DS) (q : Nat → Bool) : Nat → Nat × Nat
  | 0 => (0, 0)
  | r + 1 => if (grp D q r).1.testBit r then grp D q r else ((grp D q r).1 ||| G D q r, (grp D q r).2 + 1)
theorem grp_lt {D : DS} (hW : WDoors D) (q : Nat → Bool) : ∀ r, r ≤ 16 → (grp D q r).1 < 65536 ∧ (grp D q r).2 ≤ r := by
  intro r
  induction r with
  | zero => exact fun _ => ⟨show 0 < 65536 by decide, Nat.le_refl 0⟩
  | succ r ih =>
    intro hr
    obtain ⟨a, b⟩ := ih (by omega)
    simp only [grp]
    split
    · exact ⟨a, by omega⟩
    · refine ⟨Nat.or_lt_two_pow (n := 16) a (G_lt hW q (by omega)), ?_⟩
      show (grp D q r).2 + 1 ≤ r + 1
      omega
theorem groups_C {D : DS} {one other : Nat → Int32} (h1 : ∀ d, d < 24 → one d = nI (on D d)) (h2 : ∀ d, d < 24 → other d = nI (ot D d)) (hW : WDoors D) : f_X0_groups (nI (dt D)) (nI (db D)) one other = some (nI (grp D (opn D) 16).2) := by
  unfold f_X0_groups L_X0_groups_6
  refine lp_run (fun r => (nI (grp D (opn D) r).1, nI (grp D (opn D) r).2, nI r)) 16 _ ?_ ?_ (fu_gt (by omega))
  · intro go r hr
    obtain ⟨a, b⟩ := grp_lt hW (opn D) r (by omega)
    simp (disch := omega) only [ltz, le_nI, bit_of, b01, unbarred_C hW, some_bind, groupOf_C h1 h2 hW hr (und_lt D) (fun d hd => und_tb D hd), nm_eq, or_nI, add_nI]
    rw [if_neg (by omega)]
    simp only [grp]
    rcases Bool.eq_false_or_eq_true ((grp D (opn D) r).1.testBit r) with h | h <;> simp [h]
  · intro go
    simp (disch := omega) only [ltz, le_nI]
    rw [if_pos (by omega)]
theorem groups_M {D : DS} {one other : Nat → Int32} (h1 : ∀ d, d < 24 → one d = nI (on D d)) (h2 : ∀ d, d < 24 → other d = nI (ot D d)) (hW : WDoors D) {q : Nat → Bool} {x1 : Int32} (hq : ∀ d, d < 24 → q d = (opn D d && !decide (nI d = x1))) : f_X12_groups (nI (dt D)) (nI (db D)) one other x1 = some (nI (grp D q 16).2) := by
  unfold f_X12_groups L_X12_groups_7
  refine lp_run (fun r => (nI (grp D q r).2, nI (grp D q r).1, nI r)) 16 _ ?_ ?_ (fu_gt (by omega))
  · intro go r hr
    obtain ⟨a, b⟩ := grp_lt hW q r (by omega)
    simp (disch := omega) only [ltz, le_nI, has_M, b01, some_bind, groupOf_M h1 h2 hW hr hq, nm_eq, or_nI, add_nI]
    rw [if_neg (by omega)]
    simp only [grp]
    rcases Bool.eq_false_or_eq_true ((grp D q r).1.testBit r) with h | h <;> simp [h]
  · intro go
    simp (disch := omega) only [ltz, le_nI]
    rw [if_pos (by omega)]
theorem grp_seen {D : DS} (hW : WDoors D) (q : Nat → Bool) : ∀ r, r ≤ 16 → ∀ x, (grp D q r).1.testBit x = true ↔ ∃ a, a < r ∧ R D q a x := by
  intro r
  induction r with
  | zero =>
    intro _ x
    constructor
    · intro h
      have h : Nat.testBit 0 x = true := h
      rw [Nat.zero_testBit] at h
      cases h
    · rintro ⟨a, ha, _⟩; omega
  | succ r ih =>
    intro hr x
    have h1 := ih (by omega)
    simp only [grp]
    split
    · rename_i hs
      rw [h1 x]
      obtain ⟨a0, ha0, hR0⟩ := (h1 r).mp hs
      constructor
      · rintro ⟨a, ha, hR⟩; exact ⟨a, by omega, hR⟩
      · rintro ⟨a, ha, hR⟩
        rcases (show a < r ∨ a = r by omega) with h2 | rfl
        · exact ⟨a, h2, hR⟩
        · exact ⟨a0, ha0, R_trans hR0 hR⟩
    · rw [Nat.testBit_or, Bool.or_eq_true, h1 x, G_tb hW q (by omega)]
      constructor
      · rintro (⟨a, ha, hR⟩ | hR)
        · exact ⟨a, by omega, hR⟩
        · exact ⟨r, by omega, hR⟩
      · rintro ⟨a, ha, hR⟩
        rcases (show a < r ∨ a = r by omega) with h2 | rfl
        · exact Or.inl ⟨a, h2, hR⟩
        · exact Or.inr hR
def fsr (D : DS) (q : Nat → Bool) (r : Nat) : Nat := if (grp D q r).1.testBit r = true then 0 else 1
theorem grp_cnt (D : DS) (q : Nat → Bool) : ∀ r, (grp D q r).2 = sumN (fsr D q) r := by
  intro r
  induction r with
  | zero => rfl
  | succ r ih =>
    simp only [grp, sumN]
    rw [← ih]
    unfold fsr
    split
    · rfl
    · rfl
theorem grp_same {D : DS} (hW : WDoors D) {q q' : Nat → Bool} (h : ∀ a b, R D q a b ↔ R D q' a b) : (grp D q 16).2 = (grp D q' 16).2 := by
  rw [grp_cnt, grp_cnt]
  refine sumN_congr 16 (fun r hr => ?_)
  have e : (grp D q r).1.testBit r = true ↔ (grp D q' r).1.testBit r = true := by
    rw [grp_seen hW q r (by omega), grp_seen hW q' r (by omega)]
    constructor
    · rintro ⟨a, ha, hR⟩; exact ⟨a, ha, (h a r).mp hR⟩
    · rintro ⟨a, ha, hR⟩; exact ⟨a, ha, (h a r).mpr hR⟩
  unfold fsr
  by_cases h1 : (grp D q r).1.testBit r = true
  · rw [if_pos h1, if_pos (e.mp h1)]
  · rw [if_neg h1, if_neg (fun h2 => h1 (e.mpr h2))]
theorem R_min (D : DS) (q : Nat → Bool) : ∀ n x, x < n → ∃ m, m ≤ x ∧ R D q m x ∧ ∀ r, r < m → ¬ R D q r m := by
  intro n
  induction n with
  | zero => intro x h; omega
  | succ n ih =>
    intro x hx
    by_cases h : ∃ r, r < x ∧ R D q r x
    · obtain ⟨r, hr, hR⟩ := h
      obtain ⟨m, hm, hR2, hmin⟩ := ih r (by omega)
      exact ⟨m, by omega, R_trans hR2 hR, hmin⟩
    · exact ⟨x, Nat.le_refl _, R_refl D q x, fun r hr hR => h ⟨r, hr, hR⟩⟩
def qm (D : DS) (d : Nat) (e : Nat) : Bool := opn D e && !decide (e = d)
theorem only_way {D : DS} (hW : WDoors D) {d : Nat} (hd : d < 24) (ho : opn D d = true) : (grp D (qm D d) 16).2 = (grp D (opn D) 16).2 ↔ R D (qm D d) (on D d) (ot D d) := by
  have hmono : ∀ {a b}, R D (qm D d) a b → R D (opn D) a b := fun h => R_mono (fun e he hq => by unfold qm at hq; simp only [Bool.and_eq_true] at hq; exact hq.1) h
  obtain ⟨l1, l2, _⟩ := hW.2.2.2.1 d hd
  constructor
  · intro heq
    apply Classical.byContradiction
    intro hn
    have hlt : (grp D (opn D) 16).2 < (grp D (qm D d) 16).2 := by
      rw [grp_cnt, grp_cnt]
      refine sumN_strict 16 (fun r hr => ?_) ?_
      · unfold fsr
        by_cases h1 : (grp D (qm D d) r).1.testBit r = true
        · have h2 : (grp D (opn D) r).1.testBit r = true := by
            rw [grp_seen hW _ r (by omega)] at h1 ⊢
            obtain ⟨a, ha, hR⟩ := h1
            exact ⟨a, ha, hmono hR⟩
          rw [if_pos h1, if_pos h2]
          exact Nat.le_refl _
        · rw [if_neg h1]
          split <;> omega
      · obtain ⟨a, ha, hRa, hma⟩ := R_min D (qm D d) 16 (on D d) (by omega)
        obtain ⟨b, hb, hRb, hmb⟩ := R_min D (qm D d) 16 (ot D d) (by omega)
        have hab : a ≠ b := by
          rintro rfl
          exact hn (R_trans (R_symm hRa) hRb)
        have hj : R D (opn D) a b := R_trans (hmono hRa) (R_trans (R_edge hd ho).1 (R_symm (hmono hRb)))
        have fin : ∀ u v, u < v → v ≤ 15 → R D (opn D) u v → (∀ r, r < v → ¬ R D (qm D d) r v) → ∃ i, i < 16 ∧ fsr D (opn D) i < fsr D (qm D d) i := by
          intro u v huv hv hR hm
          refine ⟨v, by omega, ?_⟩
          unfold fsr
          rw [if_pos, if_neg]
          · omega
          · rw [grp_seen hW _ v (by omega)]
            rintro ⟨r, hr, hR2⟩
            exact hm r hr hR2
          · rw [grp_seen hW _ v (by omega)]
            exact ⟨u, huv, hR⟩
        rcases Nat.lt_or_ge a b with h | h
        · exact fin a b h (by omega) hj hmb
        · exact fin b a (by omega) (by omega) (R_symm hj) hma
    omega
  · intro hR
    refine grp_same hW (fun a b => ⟨hmono, fun h P hP hc => h P hP (fun e he hq => ?_)⟩)
    by_cases h1 : e = d
    · subst h1
      exact ⟨fun h2 => hR P h2 hc, fun h2 => R_symm hR P h2 hc⟩
    · exact hc e he (by unfold qm; rw [hq]; simp [h1])
def oW (D : DS) (d : Nat) : Bool := opn D d && !((G D (qm D d) (on D d)).testBit (ot D d))
theorem oW_ok {D : DS} (hW : WDoors D) {d : Nat} (hd : d < 24) (ho : opn D d = true) : oW D d = !decide ((grp D (qm D d) 16).2 = (grp D (opn D) 16).2) := by
  obtain ⟨l1, l2, _⟩ := hW.2.2.2.1 d hd
  unfold oW
  rw [ho, Bool.true_and]
  congr 1
  have h := (only_way hW hd ho).trans (G_tb hW (qm D d) (show on D d < 16 by omega) (ot D d)).symm
  by_cases h1 : (grp D (qm D d) 16).2 = (grp D (opn D) 16).2
  · rw [h.mp h1, decide_eq_true h1]
  · rw [decide_eq_false h1]
    cases h2 : (G D (qm D d) (on D d)).testBit (ot D d) with
    | false => rfl
    | true => exact absurd (h.mpr h2) h1
theorem mask_qm {D : DS} {d : Nat} (hd : d < 24) : und D &&& (2 ^ d ^^^ 4294967295) < 16777216 ∧ ∀ e, e < 24 → (und D &&& (2 ^ d ^^^ 4294967295)).testBit e = qm D d e := by
  refine ⟨Nat.lt_of_le_of_lt Nat.and_le_left (und_lt D), fun e he => ?_⟩
  rw [Nat.testBit_and, Nat.testBit_xor, Nat.testBit_two_pow, show (4294967295 : Nat) = 2 ^ 32 - 1 by rfl, Nat.testBit_two_pow_sub_one, und_tb D he, decide_eq_true (show e < 32 by omega)]
  unfold qm
  by_cases h : d = e
  · subst h; simp
  · have : ¬ e = d := fun x => h x.symm
    simp [h, this]
theorem onlyWays_C {D : DS} {one other : Nat → Int32} (h1 : ∀ d, d < 24 → one d = nI (on D d)) (h2 : ∀ d, d < 24 → other d = nI (ot D d)) (hW : WDoors D) : f_X0_onlyWays (nI (dt D)) (nI (db D)) one other = some (nI (bitsN (oW D) 24)) := by
  unfold f_X0_onlyWays
  rw [unbarred_C hW, some_bind]
  unfold L_X0_onlyWays_9
  refine lp_run (fun d => (nI (bitsN (oW D) d), nI d)) 24 _ ?_ ?_ (fu_gt (by omega))
  · intro go d hd
    obtain ⟨l1, l2, _⟩ := hW.2.2.2.1 d hd
    have hu := und_lt D
    obtain ⟨m1, m2⟩ := mask_qm (D := D) hd
    have s1 : nI (und D) &&& ((nI 1 <<< (nI d &&& nI 31)) ^^^ (-nI 1)) = nI (und D &&& (2 ^ d ^^^ 4294967295)) := by
      have : nI 1 <<< (nI d &&& nI 31) = nI (2 ^ d) := one_shl (by omega)
      have m1' : -nI 1 = nI 4294967295 := m1_nI
      rw [this, m1', xor_nI, and_nI]
    have hG := G_lt hW (qm D d) (show on D d < 16 by omega)
    simp (disch := omega) only [ltz, le_nI, bit_of, b01, und_tb D hd, rd_nI, h1 d hd, h2 d hd, s1, groupOf_C h1 h2 hW (show on D d < 16 by omega) m1 m2, some_bind, or_bit, nm_eq, add_nI]
    rw [if_neg (by omega)]
    simp only [bitsN]
    unfold oW
    rcases Bool.eq_false_or_eq_true (opn D d) with a1 | a1
    · rcases Bool.eq_false_or_eq_true ((G D (qm D d) (on D d)).testBit (ot D d)) with a2 | a2 <;> simp [a1, a2]
    · simp [a1]
  · intro go
    simp (disch := omega) only [ltz, le_nI]
    rw [if_pos (by omega)]
theorem pc_bits (P : Nat → Bool) : pc (bitsN P 24) = sumN (fun k => if P k = true then 1 else 0) 24 := sumN_congr 24 (fun k hk => by
  show bitsN P 24 / 2 ^ k % 2 = if P k = true then 1 else 0
  rw [tb_iff, bitsN_test, decide_eq_true hk, Bool.true_and])
theorem land_M {D : DS} {one other : Nat → Int32} (h1 : ∀ d, d < 24 → one d = nI (on D d)) (h2 : ∀ d, d < 24 → other d = nI (ot D d)) (hW : WDoors D) (x1 : Int32) (k0 : Int32 × Int32 → Option Int32) : L_X12_landings_54 (nI (dt D)) (nI (db D)) one other x1 (nI (grp D (opn D) 16).2) k0 fu (nI 0, -nI 2, nI 23) = k0 (nI (sumN (fun k => if oW D k = true then 1 else 0) 24), enc (-nI 2) (fstN (fun d => !oW D d) 24)) := by
  rw [← lfd_fst, ← sumN_rev (fun k => if oW D k = true then 1 else 0) 24]
  unfold L_X12_landings_54
  have dz : ∀ k : Nat, k < 24 → zI (23 - (k : Int)) = nI (23 - k) := fun k hk => by
    have q : ((23 - k : Nat) : Int) = 23 - (k : Int) := by omega
    rw [zI_nat, q]
  have h0 : (nI 0, -nI 2, nI 23) = (nI (sumN (fun j => if oW D (24 - 1 - j) = true then 1 else 0) 0), enc (-nI 2) (lfd (oW D) 24 0), zI (23 - ((0 : Nat) : Int))) := by rw [dz 0 (by omega)]; rfl
  rw [h0]
  refine lp_run (fun k => (nI (sumN (fun j => if oW D (24 - 1 - j) = true then 1 else 0) k), enc (-nI 2) (lfd (oW D) 24 k), zI (23 - (k : Int)))) 24 _ ?_ ?_ (fu_gt (by omega))
  · intro go k hk
    have e2 : nI (23 - k) + -nI 1 = zI (23 - ((k + 1 : Nat) : Int)) := by
      have q : ((23 - k : Nat) : Int) + -((1 : Nat) : Int) = 23 - ((k + 1 : Nat) : Int) := by omega
      rw [zI_nat, zI_nat 1, zI_neg, zI_add, q]
    have hq : ∀ e, e < 24 → qm D (23 - k) e = (opn D e && !decide (nI e = nI (23 - k))) := by
      intro e he
      unfold qm
      congr 2
      exact decide_eq_decide.mpr (by rw [eq_nI (by omega) (by omega)])
    have g1 := (grp_lt hW (opn D) 16 (Nat.le_refl _)).2
    have g2 := (grp_lt hW (qm D (23 - k)) 16 (Nat.le_refl _)).2
    simp (disch := omega) only [ltz, dz k hk, lt_nI, canOpen_M hW (show 23 - k < 24 by omega), some_bind, b01, groups_M h1 h2 hW hq, eq_nI, nm_eq, e2, add_nI]
    rw [if_neg (by omega)]
    simp only [sumN, lfd]
    rw [show 24 - 1 - k = 23 - k by omega]
    rcases Bool.eq_false_or_eq_true (opn D (23 - k)) with a1 | a1
    · rw [oW_ok hW (show 23 - k < 24 by omega) a1]
      by_cases a2 : (grp D (qm D (23 - k)) 16).2 = (grp D (opn D) 16).2 <;> simp [a1, a2, enc]
    · have a2 : oW D (23 - k) = false := by unfold oW; rw [a1]; rfl
      simp [a1, a2]
  · intro go
    have e3 : zI (23 - ((24 : Nat) : Int)) < nI 0 := by decide
    simp only [ltz]
    rw [if_pos e3]
theorem B_landings {D : DS} {dtold dbar dtold' dbar' : Int32} {one other wards fits bent one' other' wards' prongs : Nat → Int32} (dC : CDoors dtold dbar one other wards fits bent D) (dM : MDoors dtold' dbar' one' other' wards' prongs D) (hW : WDoors D) (x1 : Int32) : ∃ r, f_X11_landings dtold dbar one other x1 = some r ∧ f_X12_landings dtold' dbar' one' other' x1 = some r := by
  obtain ⟨rfl, rfl, c3, c4, _⟩ := dC
  obtain ⟨rfl, rfl, m3, m4, _⟩ := dM
  have hqo : ∀ e, e < 24 → opn D e = (opn D e && !decide (nI e = -nI 1)) := by
    intro e he
    rw [decide_eq_false (neg_ne e (by omega)).1]
    simp
  unfold f_X11_landings f_X12_landings
  simp only [ltz]
  rcases in01 x1 0 15 (by omega) (by omega) with ⟨e1, e2⟩ | ⟨a, _, ha, rfl, e1, e2⟩
  · simp only [e1, e2, some_bind, n00, if_true]
    rcases in01 x1 100 102 (by omega) (by omega) with ⟨e3, e4⟩ | ⟨a, ha1, ha2, rfl, e3, e4⟩
    · have hne : ∀ j, 100 ≤ j → j ≤ 102 → ¬ x1 = nI j := by
        intro j hj1 hj2 h
        rw [h, in_nI (by omega) (by omega) (by omega), decide_eq_true (by omega)] at e4
        simp only [if_true] at e4
        exact absurd (Option.some.inj e4) (by decide)
      simp only [e4, some_bind, n00, if_true, hne 100 (by omega) (by omega), hne 101 (by omega) (by omega), hne 102 (by omega) (by omega), if_false]
      exact ⟨_, rfl, rfl⟩
    · simp (disch := omega) only [e4, some_bind, n10, if_false, groups_C c3 c4 hW, groups_M m3 m4 hW hqo, onlyWays_C c3 c4 hW, land_M m3 m4 hW, bitCount_24 (bitsN_lt (oW D) 24), pc_bits, eq_nI, n10n]
      rcases (show a = 100 ∨ a = 101 ∨ a = 102 by omega) with rfl | rfl | rfl
      · exact ⟨_, if_pos rfl, if_pos rfl⟩
      · exact ⟨_, (if_neg (by decide)).trans (if_pos rfl), (if_neg (by decide)).trans (if_pos rfl)⟩
      · refine ⟨enc (-nI 2) (fstN (fun d => !oW D d) 24), ((if_neg (by decide)).trans ((if_neg (by decide)).trans (if_pos rfl))).trans ?_, (if_neg (by decide)).trans (if_neg (by decide))⟩
        have hl : bitsN (oW D) 24 < 16777216 := bitsN_lt (oW D) 24
        simp (disch := omega) only [eq_nI]
        cases h : fstN (fun d => !oW D d) 24 with
        | none =>
          have hz : bitsN (oW D) 24 = 0 := by
            rw [← bitsN_false 24]
            refine bitsN_congr 24 (fun i hi => ?_)
            have := fstN_none h i hi
            simpa using this
          rw [if_pos hz]
          rfl
        | some k =>
          obtain ⟨k1, k2, k3⟩ := fstN_some h
          have k2 : oW D k = true := by simpa using k2
          have t1 : (bitsN (oW D) 24).testBit k = true := by rw [bitsN_test, decide_eq_true k1, k2]; rfl
          have hz : ¬ bitsN (oW D) 24 = 0 := by
            intro e
            rw [e, Nat.zero_testBit] at t1
            cases t1
          rw [if_neg hz, ntz_24 hl t1]
          · rfl
          · intro i hi
            have := k3 i hi
            have : oW D i = false := by simpa using this
            rw [bitsN_test, this, Bool.and_false]
  · simp (disch := omega) only [e1, e2, some_bind, n10, if_false, unbarred_C hW, groupOf_C c3 c4 hW (show a < 16 by omega) (und_lt D) (fun d hd => und_tb D hd), groupOf_M m3 m4 hW (show a < 16 by omega) hqo]
    exact ⟨_, rfl, rfl⟩
