/-! the town's small functions on both sides -/
theorem or_bit (P : Nat → Bool) {k : Nat} (hk : k < 31) : nI (bitsN P k) ||| (nI 1 <<< (nI k &&& nI 31)) = nI (bitsN P k + 2 ^ k) := by
  have e : nI 1 <<< (nI k &&& nI 31) = nI (2 ^ k) := one_shl (by omega)
  rw [e, or_nI, bitsN_or]
theorem b01 (b : Bool) : (nI (if b = true then 1 else 0) = nI 0) = (b = false) := by cases b <;> decide
theorem b01' (b : Bool) : (nI (if b = true then 1 else 0) = nI 1) = (b = true) := by cases b <;> decide
theorem pinsOf_C {T : TS} {told : Int32} {pins : Nat → Int32} {now : Nat → Int32} (ht : told = nI (tt T)) (hp : ∀ j, j < 60 → pins j = nI (pn T j)) (hM : MTown now T) (hW : WTown T) {w : Nat} (hw : w < 10) (hb : (tt T).testBit w = true) : f_X9_pinsOf told pins (nI w) = some (nI (sumN (fun k => pn T (6 * w + k)) 6)) := by
  subst ht
  unfold f_X9_pinsOf L_X9_pinsOf_4
  refine lp_run (fun k => (nI (sumN (fun i => pn T (6 * w + i)) k), nI k)) 6 _ ?_ ?_ (fu_gt (by omega))
  · intro go k hk
    simp (disch := omega) only [ltz, nm_eq, (woman_in hM hW hw).1, some_bind, le_nI, mul_nI, add_nI, rd_nI, b01, hb]
    rw [if_neg (by omega), if_neg (by decide), hp _ (by omega), add_nI, Nat.mul_comm]
    rfl
  · intro go
    simp (disch := omega) only [ltz, le_nI]
    rw [if_pos (by omega)]
theorem pinsOf_M {T : TS} {now : Nat → Int32} (hM : MTown now T) {w : Nat} (hw : w < 10) : f_X12_pinsOf now (nI w) = some (nI (sumN (fun k => pn T (6 * w + k)) 6)) := by
  unfold f_X12_pinsOf L_X12_pinsOf_4
  refine lp_run (fun k => (nI (sumN (fun i => pn T (6 * w + i)) k), nI k)) 6 _ ?_ ?_ (fu_gt (by omega))
  · intro go k hk
    simp (disch := omega) only [ltz, nm_eq, le_nI, mul_nI, add_nI, rd_nI]
    rw [if_neg (by omega), Nat.add_assoc 104, hM.2.2.2.2.1 _ (by omega), add_nI]
    rfl
  · intro go
    simp (disch := omega) only [ltz, le_nI]
    rw [if_pos (by omega)]
def inRm (T : TS) (r w : Nat) : Bool := (tt T).testBit w && (ro T w == r)
theorem inRoom_C {T : TS} {told : Int32} {rooms : Nat → Int32} {now : Nat → Int32} (ht : told = nI (tt T)) (hr : ∀ w, w < 10 → rooms w = nI (ro T w)) (hM : MTown now T) (hW : WTown T) {r : Nat} (hr2 : r < 65536) : f_X9_inRoom told rooms (nI r) = some (nI (bitsN (inRm T r) 10)) := by
  subst ht
  unfold f_X9_inRoom L_X9_inRoom_4
  refine lp_run (fun k => (nI (bitsN (inRm T r) k), nI k)) 10 _ ?_ ?_ (fu_gt (by omega))
  · intro go k hk
    have hro := hW.2.2.2.2.1 k hk
    simp (disch := omega) only [ltz, nm_eq, (woman_in hM hW hk).1, some_bind, le_nI, add_nI, rd_nI, b01, hr k hk, eq_nI, or_bit]
    rw [if_neg (by omega)]
    simp only [bitsN, inRm]
    rcases Bool.eq_false_or_eq_true ((tt T).testBit k) with hb | hb
    · by_cases h2 : ro T k = r <;> simp [hb, h2]
    · simp [hb]
  · intro go
    simp (disch := omega) only [ltz, le_nI]
    rw [if_pos (by omega)]
theorem inRoom_M {T : TS} {now : Nat → Int32} (hM : MTown now T) (hW : WTown T) {r : Nat} (hr2 : r < 65536) : f_X12_womenIn now (nI r) = some (nI (bitsN (inRm T r) 10)) := by
  unfold f_X12_womenIn L_X12_womenIn_4
  refine lp_run (fun k => (nI (bitsN (inRm T r) k), nI k)) 10 _ ?_ ?_ (fu_gt (by omega))
  · intro go k hk
    have hro := hW.2.2.2.2.1 k hk
    simp (disch := omega) only [ltz, nm_eq, (woman_in hM hW hk).2, some_bind, le_nI, add_nI, rd_nI, b01, hM.2.2.1 k hk, eq_nI, or_bit]
    rw [if_neg (by omega)]
    simp only [bitsN, inRm]
    rcases Bool.eq_false_or_eq_true ((tt T).testBit k) with hb | hb
    · by_cases h2 : ro T k = r <;> simp [hb, h2]
    · simp [hb]
  · intro go
    simp (disch := omega) only [ltz, le_nI]
    rw [if_pos (by omega)]
theorem toldWomen_M {T : TS} {now : Nat → Int32} (hM : MTown now T) (hW : WTown T) : f_X12_toldWomen now = some (nI (tt T)) := by
  unfold f_X12_toldWomen L_X12_toldWomen_4
  have hself := bitsN_self (t := tt T) 10 hW.1
  refine (lp_run (fun k => (nI (bitsN (fun i => (tt T).testBit i) k), nI k)) 10 (some (nI (bitsN (fun i => (tt T).testBit i) 10))) ?_ ?_ (fu_gt (by omega))).trans (by rw [hself])
  · intro go k hk
    simp (disch := omega) only [ltz, nm_eq, (woman_in hM hW hk).2, some_bind, le_nI, add_nI, b01, or_bit]
    rw [if_neg (by omega)]
    simp only [bitsN]
    rcases Bool.eq_false_or_eq_true ((tt T).testBit k) with hb | hb <;> simp [hb]
  · intro go
    simp (disch := omega) only [ltz, le_nI]
    rw [if_pos (by omega)]
theorem sumN_split (f : Nat → Nat) (m : Nat) : ∀ n, sumN f (m + n) = sumN f m + sumN (fun i => f (m + i)) n := by
  intro n
  induction n with
  | zero => rfl
  | succ n ih => show sumN f (m + n) + f (m + n) = _; rw [ih]; simp only [sumN]; omega
theorem sumN_rows (f : Nat → Nat) : ∀ n, sumN f (6 * n) = sumN (fun w => sumN (fun k => f (6 * w + k)) 6) n := by
  intro n
  induction n with
  | zero => rfl
  | succ n ih => rw [Nat.mul_succ, sumN_split, ih]; rfl
theorem pinsAll_C {T : TS} {pins : Nat → Int32} (hp : ∀ j, j < 60 → pins j = nI (pn T j)) : f_X9_pinsOfAll pins = some (nI (sumN (pn T) 60)) := by
  unfold f_X9_pinsOfAll L_X9_pinsOfAll_4
  refine lp_run (fun k => (nI (sumN (pn T) k), nI k)) 60 _ ?_ ?_ (fu_gt (by omega))
  · intro go k hk
    simp (disch := omega) only [ltz, nm_eq, le_nI, add_nI, rd_nI]
    rw [if_neg (by omega), hp _ hk, add_nI]
    rfl
  · intro go
    simp (disch := omega) only [ltz, le_nI]
    rw [if_pos (by omega)]
theorem zero_untold {T : TS} (hW : WTown T) {w : Nat} (hw : w < 10) (hb : (tt T).testBit w = false) : sumN (fun k => pn T (6 * w + k)) 6 = 0 := by
  have h : sumN (fun k => pn T (6 * w + k)) 6 = sumN (fun _ => 0) 6 := sumN_congr 6 (fun i hi => by
    have h1 := hW.2.2.2.2.2.2 w hw hb i hi
    have h2 := hW.2.2.2.2.2.1 (6 * w + i) (by omega)
    omega)
  rw [h]; rfl
theorem pinsAll_M {T : TS} {now : Nat → Int32} (hM : MTown now T) (hW : WTown T) : f_X12_pinsOfAll now = some (nI (sumN (pn T) 60)) := by
  unfold f_X12_pinsOfAll L_X12_pinsOfAll_4
  have hrows := sumN_rows (pn T) 10
  refine (lp_run (fun k => (nI (sumN (fun w => sumN (fun k => pn T (6 * w + k)) 6) k), nI k)) 10 (some (nI (sumN (fun w => sumN (fun k => pn T (6 * w + k)) 6) 10))) ?_ ?_ (fu_gt (by omega))).trans (by rw [← hrows])
  · intro go k hk
    simp (disch := omega) only [ltz, nm_eq, (woman_in hM hW hk).2, some_bind, le_nI, add_nI, b01, pinsOf_M hM hk]
    rw [if_neg (by omega)]
    cases hb : (tt T).testBit k
    · rw [if_pos rfl]
      have h0 := zero_untold hW hk hb
      show go (nI (sumN (fun w => sumN (fun k => pn T (6 * w + k)) 6) k), nI (k + 1)) = go (nI (sumN (fun w => sumN (fun k => pn T (6 * w + k)) 6) k + sumN (fun k_1 => pn T (6 * k + k_1)) 6), nI (k + 1))
      rw [h0]; rfl
    · rw [if_neg (by decide)]; rfl
  · intro go
    simp (disch := omega) only [ltz, le_nI]
    rw [if_pos (by omega)]
theorem isTold_C {T : TS} (hW : WTown T) {w : Nat} (hw : w < 10) : f_X9_isTold (nI (tt T)) (nI w) = some (nI (if (tt T).testBit w then 1 else 0)) := by
  have h1 := hW.1
  unfold f_X9_isTold
  have e : (nI (tt T) >>> (nI w &&& 31)) &&& (1 : Int32) = nI (tt T / 2 ^ w % 2) := bit_nI (by omega) (by omega)
  rw [e, tb_iff]
  simp (disch := omega) only [ltz, lt_nI, le_nI]
  rw [if_neg (by omega), if_neg (by omega)]
  by_cases hb : (tt T).testBit w = true
  · rw [if_pos hb, if_neg (by rw [eq_nI (by omega) (by omega)]; omega)]
  · rw [if_neg hb, if_pos rfl]
theorem within_05 {k : Nat} (hk : k < 6) : f_X11_isWithin (nI k) (nI 0) (nI 5) = some (nI 1) := by
  unfold f_X11_isWithin
  simp (disch := omega) only [lt_nI]
  rw [if_neg (by omega), if_neg (by omega)]
  rfl
/-- the pins of a kind: a woman who isn't told has none -/
theorem pok_C {T : TS} {pins : Nat → Int32} (hp : ∀ j, j < 60 → pins j = nI (pn T j)) (hW : WTown T) {w k : Nat} (hw : w < 10) (hk : k < 6) : f_X9_pinsOfKind (nI (tt T)) pins (nI w) (nI k) = some (nI (pn T (6 * w + k))) := by
  unfold f_X9_pinsOfKind
  rw [isTold_C hW hw, some_bind]
  simp only [ltz, b01]
  rcases Bool.eq_false_or_eq_true ((tt T).testBit w) with hb | hb
  · rw [if_neg (by rw [hb]; decide), within_05 hk, some_bind, if_neg (by decide)]
    simp (disch := omega) only [mul_nI, add_nI, rd_nI]
    rw [hp _ (by omega), Nat.mul_comm]
  · rw [if_pos hb]
    have h1 := hW.2.2.2.2.2.2 w hw hb k hk
    have h2 := (hW.2.2.2.2.2.1 (6 * w + k) (by omega)).1
    rw [show pn T (6 * w + k) = 0 by omega]
