/-! doors that can be opened, the room behind -/
def opn (D : DS) (d : Nat) : Bool := (dt D).testBit d && !(db D).testBit d
def und (D : DS) : Nat := bitsN (opn D) 24
theorem m1_nI : (-1 : Int32) = nI 4294967295 := by decide
theorem tb_big {n i : Nat} (h : n < 2 ^ i) : n.testBit i = false := Nat.testBit_lt_two_pow h
theorem tb_dt {D : DS} (hW : WDoors D) {i : Nat} (hi : ¬ i < 24) : (dt D).testBit i = false := by
  have h : 2 ^ 24 ≤ 2 ^ i := Nat.pow_le_pow_right (by omega) (by omega)
  exact tb_big (Nat.lt_of_lt_of_le hW.1 h)
theorem unbarred_C {D : DS} (hW : WDoors D) : f_X0_unbarred (nI (dt D)) (nI (db D)) = some (nI (und D)) := by
  unfold f_X0_unbarred
  rw [m1_nI, xor_nI, and_nI]
  congr 2
  apply Nat.eq_of_testBit_eq
  intro i
  unfold und
  rw [Nat.testBit_and, Nat.testBit_xor, bitsN_test, show (4294967295 : Nat) = 2 ^ 32 - 1 by rfl, Nat.testBit_two_pow_sub_one]
  unfold opn
  by_cases hi : i < 24
  · have : decide (i < 32) = true := by simp; omega
    rw [this, decide_eq_true hi]
    simp
  · rw [tb_dt hW hi]
    simp
theorem und_lt (D : DS) : und D < 16777216 := bitsN_lt (opn D) 24
theorem und_tb (D : DS) {d : Nat} (hd : d < 24) : (und D).testBit d = opn D d := by
  unfold und
  rw [bitsN_test, decide_eq_true hd, Bool.true_and]
theorem canOpen_M {D : DS} (hW : WDoors D) {d : Nat} (hd : d < 24) : f_X12_canOpen (nI (dt D)) (nI (db D)) (nI d) = some (nI (if opn D d = true then 1 else 0)) := by
  unfold f_X12_canOpen
  obtain ⟨_, b, c⟩ := door_in hW hd
  rw [b, some_bind]
  unfold opn
  rcases Bool.eq_false_or_eq_true ((dt D).testBit d) with h1 | h1
  · rw [c, h1, some_bind]
    rcases Bool.eq_false_or_eq_true ((db D).testBit d) with h2 | h2
    · rw [h2]; rfl
    · rw [h2]; rfl
  · rw [h1]; rfl
def bhd (D : DS) (d r : Nat) : Option Nat := if on D d = r then some (ot D d) else if ot D d = r then some (on D d) else none
theorem behind_M {D : DS} {one other : Nat → Int32} (h1 : ∀ d, d < 24 → one d = nI (on D d)) (h2 : ∀ d, d < 24 → other d = nI (ot D d)) (hW : WDoors D) {d r : Nat} (hd : d < 24) (hr : r < 65536) : f_X12_behind one other (nI d) (nI r) = some (enc (-nI 1) (bhd D d r)) := by
  obtain ⟨a, b, _⟩ := hW.2.2.2.1 d hd
  unfold f_X12_behind bhd
  simp (disch := omega) only [ltz, rd_nI, h1 d hd, h2 d hd, eq_nI]
  by_cases q1 : on D d = r
  · rw [if_pos q1, if_pos q1]; rfl
  · rw [if_neg q1, if_neg q1]
    by_cases q2 : ot D d = r
    · rw [if_pos q2, if_pos q2]; rfl
    · rw [if_neg q2, if_neg q2]; rfl
theorem behind_C {D : DS} {one other : Nat → Int32} (h1 : ∀ d, d < 24 → one d = nI (on D d)) (h2 : ∀ d, d < 24 → other d = nI (ot D d)) (hW : WDoors D) {d r : Nat} (hd : d < 24) (hr : r < 65536) : f_X0_behind (nI (dt D)) one other (nI d) (nI r) = some (if (dt D).testBit d = true then enc (-nI 1) (bhd D d r) else -nI 1) := by
  obtain ⟨a, b, _⟩ := hW.2.2.2.1 d hd
  unfold f_X0_behind bhd
  rcases Bool.eq_false_or_eq_true ((dt D).testBit d) with hb | hb
  · simp (disch := omega) only [ltz, (door1 hW hd hb).1, some_bind, n10, if_false, rd_nI, h1 d hd, h2 d hd, eq_nI, hb, if_true]
    by_cases q1 : on D d = r
    · rw [if_pos q1, if_pos q1]; rfl
    · rw [if_neg q1, if_neg q1]
      by_cases q2 : ot D d = r
      · rw [if_pos q2, if_pos q2]; rfl
      · rw [if_neg q2, if_neg q2]; rfl
  · rw [if_neg (by rw [hb]; decide)]
    simp only [ltz, (door0 hW hd hb).1, some_bind, n00, if_true]
theorem bhd_lt {D : DS} (hW : WDoors D) {d r x : Nat} (hd : d < 24) (h : bhd D d r = some x) : x ≤ 15 := by
  obtain ⟨a, b, _⟩ := hW.2.2.2.1 d hd
  unfold bhd at h
  by_cases q1 : on D d = r
  · rw [if_pos q1] at h; cases h; omega
  · rw [if_neg q1] at h
    by_cases q2 : ot D d = r
    · rw [if_pos q2] at h; cases h; omega
    · rw [if_neg q2] at h; cases h
def ofR (D : DS) (r d : Nat) : Bool := (dt D).testBit d && (bhd D d r).isSome
theorem ofRoom_C {D : DS} {one other : Nat → Int32} (h1 : ∀ d, d < 24 → one d = nI (on D d)) (h2 : ∀ d, d < 24 → other d = nI (ot D d)) (hW : WDoors D) {r : Nat} (hr : r < 65536) : f_X0_ofRoom (nI (dt D)) one other (nI r) = some (nI (bitsN (ofR D r) 24)) := by
  unfold f_X0_ofRoom L_X0_ofRoom_4
  refine lp_run (fun k => (nI (bitsN (ofR D r) k), nI k)) 24 _ ?_ ?_ (fu_gt (by omega))
  · intro go d hd
    simp (disch := omega) only [ltz, nm_eq, behind_C h1 h2 hW hd hr, some_bind, le_nI, add_nI, or_bit]
    rw [if_neg (by omega)]
    simp only [bitsN, ofR]
    rcases Bool.eq_false_or_eq_true ((dt D).testBit d) with hb | hb
    · simp only [hb, if_true, Bool.true_and]
      cases hx : bhd D d r with
      | none => simp [enc]
      | some x =>
        have hlt := bhd_lt hW hd hx
        have := (neg_ne x (by omega)).1
        simp [enc, this]
    · simp [hb]
  · intro go
    simp (disch := omega) only [ltz, le_nI]
    rw [if_pos (by omega)]
/-! AT ONCE -/
def mn (i : Nat) (f : Nat → Nat) : Nat → Nat
  | 0 => i
  | n + 1 => min (mn i f n) (f n)
theorem mn_le (i : Nat) (f : Nat → Nat) (x : Nat) : ∀ n, x ≤ mn i f n ↔ x ≤ i ∧ ∀ k, k < n → x ≤ f k := by
  intro n
  induction n with
  | zero => simp [mn]
  | succ n ih =>
    simp only [mn]
    rw [Nat.le_min, ih]
    constructor
    · rintro ⟨⟨h1, h2⟩, h3⟩
      refine ⟨h1, fun k hk => ?_⟩
      rcases Nat.lt_or_ge k n with h | h
      · exact h2 k h
      · rw [show k = n by omega]; exact h3
    · rintro ⟨h1, h2⟩
      exact ⟨⟨h1, fun k hk => h2 k (by omega)⟩, h2 n (by omega)⟩
theorem mn_lt {i b : Nat} {f : Nat → Nat} (hi : i < b) : ∀ n, mn i f n < b := by
  intro n
  induction n with
  | zero => exact hi
  | succ n ih => simp only [mn]; omega
def pinS (T : TS) (w S : Nat) (k : Nat) : Nat := if S.testBit k then 0 else pn T (6 * w + k)
def dorS (D : DS) (q : Nat → Bool) (S d : Nat) : Nat := if q d && !(fitS D d &&& S == 0) then 1 else 0
def bnd (T : TS) (D : DS) (w : Nat) (q : Nat → Bool) (S : Nat) : Nat := sumN (pinS T w S) 6 + sumN (dorS D q S) 24
theorem sumN_le1 {f : Nat → Nat} (n : Nat) (h : ∀ i, f i ≤ 1) : sumN f n ≤ n := by
  have := sumN_le (f := f) (b := 1) n (fun i _ => h i)
  omega
theorem dorS_le (D : DS) (q : Nat → Bool) (S d : Nat) : dorS D q S d ≤ 1 := by unfold dorS; split <;> omega
theorem pinS_le {T : TS} (hW : WTown T) {w : Nat} (hw : w < 10) (S : Nat) {k : Nat} (hk : k < 6) : pinS T w S k ≤ 60 := by
  unfold pinS
  have := hW.2.2.2.2.2.1 (6 * w + k) (by omega)
  split <;> omega
theorem bnd_lt {T : TS} {D : DS} (hW : WTown T) {w : Nat} (hw : w < 10) (q : Nat → Bool) (S : Nat) : bnd T D w q S < 1000 := by
  unfold bnd
  have h1 := sumN_le (f := pinS T w S) (b := 60) 6 (fun k hk => pinS_le hW hw S hk)
  have h2 := sumN_le1 (f := dorS D q S) 24 (dorS_le D q S)
  omega
theorem imin_nI {a b : Nat} (ha : a < 2147483648) (hb : b < 2147483648) : imin (nI a) (nI b) = nI (min a b) := by
  unfold imin
  simp only [lt_nI hb ha]
  split
  · rw [Nat.min_eq_right (by omega)]
  · rw [Nat.min_eq_left (by omega)]
theorem min_M {a b : Nat} (ha : a < 2147483648) (hb : b < 2147483648) : f_X12_min (nI a) (nI b) = some (nI (min a b)) := by
  unfold f_X12_min
  simp only [le_nI hb ha]
  split
  · rw [Nat.min_eq_right (by omega)]
  · rw [Nat.min_eq_left (by omega)]
theorem most_C {T : TS} {D : DS} {fits pins : Nat → Int32} (h1 : ∀ d, d < 24 → (dt D).testBit d = true → fits d = nI (fitS D d)) (hp : ∀ j, j < 60 → pins j = nI (pn T j)) (hW : WTown T) {q : Nat → Bool} (hq : ∀ d, q d = true → (dt D).testBit d = true) {w : Nat} (hw : w < 10) : f_X11_mostOpened fits (nI (tt T)) pins (nI w) (nI (bitsN q 24)) = some (nI (mn 24 (bnd T D w q) 64)) := by
  have hql : bitsN q 24 < 16777216 := bitsN_lt q 24
  have e1 : ∀ (x3 : Int32) (S : Nat) (k0 : Int32 → Option Int32), S < 64 → L_X11_mostOpened_19 fits (nI (tt T)) pins (nI w) (nI (bitsN q 24)) x3 (nI S) k0 fu (nI 0, nI 0) = k0 (nI (sumN (pinS T w S) 6)) := by
    intro x3 S k0 hS
    unfold L_X11_mostOpened_19
    refine lp_run (fun k => (nI (sumN (pinS T w S) k), nI k)) 6 _ ?_ ?_ (fu_gt (by omega))
    · intro go k hk
      have eb : nI S >>> (nI k &&& nI 31) &&& nI 1 = nI (if S.testBit k then 1 else 0) := by
        have : nI S >>> (nI k &&& nI 31) &&& nI 1 = nI (S / 2 ^ k % 2) := bit_nI (by omega) (by omega)
        rw [this, tb_iff]
      simp (disch := omega) only [ltz, le_nI, eb, b01, pok_C hp hW hw hk, some_bind, add_nI, nm_eq]
      rw [if_neg (by omega)]
      simp only [sumN, pinS]
      rcases Bool.eq_false_or_eq_true (S.testBit k) with hb | hb <;> simp [hb]
    · intro go
      simp (disch := omega) only [ltz, le_nI]
      rw [if_pos (by omega)]
  have e2 : ∀ (x3 : Int32) (S a : Nat) (k0 : Int32 → Option Int32), S < 64 → L_X11_mostOpened_60 fits (nI (tt T)) pins (nI w) (nI (bitsN q 24)) x3 (nI S) k0 fu (nI a, nI 0) = k0 (nI (a + sumN (dorS D q S) 24)) := by
    intro x3 S a k0 hS
    unfold L_X11_mostOpened_60
    refine lp_run (fun d => (nI (a + sumN (dorS D q S) d), nI d)) 24 _ ?_ ?_ (fu_gt (by omega))
    · intro go d hd
      have eb : nI (bitsN q 24) >>> (nI d &&& nI 31) &&& nI 1 = nI (if q d = true then 1 else 0) := by
        have h0 : nI (bitsN q 24) >>> (nI d &&& nI 31) &&& nI 1 = nI (bitsN q 24 / 2 ^ d % 2) := bit_nI (by omega) (by omega)
        rw [h0, tb_iff, bitsN_test, decide_eq_true hd, Bool.true_and]
      simp (disch := omega) only [ltz, le_nI, eb, b01, add_nI, rd_nI, nm_eq]
      rw [if_neg (by omega)]
      simp only [sumN, dorS]
      rcases Bool.eq_false_or_eq_true (q d) with hb | hb
      · rw [h1 d hd (hq d hb), and_nI]
        have hf := and_lt (b := S) (fitS_lt D d)
        simp (disch := omega) only [eq_nI]
        by_cases hz : fitS D d &&& S = 0
        · simp [hb, hz]
        · simp [hb, hz, Nat.add_assoc]
      · simp [hb]
    · intro go
      simp (disch := omega) only [ltz, le_nI]
      rw [if_pos (by omega)]
  unfold f_X11_mostOpened L_X11_mostOpened_6
  refine lp_run (fun S => (nI (mn 24 (bnd T D w q) S), nI S)) 64 _ ?_ ?_ (fu_gt (by omega))
  · intro go S hS
    have hb := bnd_lt (D := D) hW hw q S
    have hm := mn_lt (i := 24) (b := 25) (f := bnd T D w q) (by omega) S
    simp (disch := omega) only [ltz, le_nI, e1, e2, nm_eq, add_nI]
    rw [if_neg (by omega), imin_nI (by omega) (by show sumN (pinS T w S) 6 + sumN (dorS D q S) 24 < _; unfold bnd at hb; omega)]
    rfl
  · intro go
    simp (disch := omega) only [ltz, le_nI]
    rw [if_pos (by omega)]
