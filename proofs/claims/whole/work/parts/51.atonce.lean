theorem opt_cases {α : Type} (o : Option α) : o = none ∨ ∃ x, o = some x := by
  cases o with
  | none => exact Or.inl rfl
  | some x => exact Or.inr ⟨x, rfl⟩
theorem andn63 : ∀ a, a < 64 → ∀ b, b < 64 → nI a &&& (nI b ^^^ (-nI 1)) = nI (a &&& (63 ^^^ b)) := by decide +kernel
theorem not63 : ∀ b, b < 64 → ∀ k, k < 6 → (63 ^^^ b).testBit k = !(b.testBit k) := by decide +kernel
theorem has_M {n j : Nat} (hn : n < 2147483648) (hj : j < 32) : f_X12_has (nI n) (nI j) = some (nI (if n.testBit j = true then 1 else 0)) := by
  unfold f_X12_has
  have e : nI n >>> (nI j &&& nI 31) &&& nI 1 = nI (if n.testBit j = true then 1 else 0) := by
    have h0 : nI n >>> (nI j &&& nI 31) &&& nI 1 = nI (n / 2 ^ j % 2) := bit_nI hn hj
    rw [h0, tb_iff]
  simp only [ltz, e, b01']
  cases n.testBit j <;> rfl
theorem bitsN_and (P Q : Nat → Bool) (n : Nat) : bitsN P n &&& bitsN Q n = bitsN (fun i => P i && Q i) n := by
  apply Nat.eq_of_testBit_eq
  intro i
  rw [Nat.testBit_and, bitsN_test, bitsN_test, bitsN_test]
  cases decide (i < n) <;> simp
/-- which doors count -/
def cnt (D : DS) (r what : Nat) (d : Nat) : Bool := opn D d && (what == 0 || (bhd D d r).isSome)
theorem most_M {T : TS} {D : DS} {now one other wards prongs : Nat → Int32} (hM : MTown now T) (hWT : WTown T) (h1 : ∀ d, d < 24 → one d = nI (on D d)) (h2 : ∀ d, d < 24 → other d = nI (ot D d)) (h3 : ∀ d, d < 24 → wards d = nI (wa D d)) (h4 : ∀ k, k < 6 → prongs k = nI (pr D k)) (hW : WDoors D) {w what : Nat} (hw : w < 10) (hwh : what ≤ 1) : L_X12_atOnce_26 (nI (dt D)) (nI (db D)) now prongs one other wards (nI w) (nI what) fu (nI 1000000, nI 0) = some (nI (mn 1000000 (fun S => bnd T D w (cnt D (ro T w) what) (63 ^^^ S)) 64)) := by
  have hro := hWT.2.2.2.2.1 w hw
  have e1 : ∀ (x3 : Int32) (S : Nat) (k0 : Int32 → Option Int32), S < 64 → L_X12_atOnce_39 (nI (dt D)) (nI (db D)) now prongs one other wards (nI w) (nI what) x3 (nI S) k0 fu (nI 0, nI 0) = k0 (nI (sumN (pinS T w (63 ^^^ S)) 6)) := by
    intro x3 S k0 hS
    unfold L_X12_atOnce_39
    refine lp_run (fun k => (nI (sumN (pinS T w (63 ^^^ S)) k), nI k)) 6 _ ?_ ?_ (fu_gt (by omega))
    · intro go k hk
      simp (disch := omega) only [ltz, le_nI, has_M, some_bind, b01, mul_nI, add_nI, rd_nI, nm_eq]
      rw [if_neg (by omega), Nat.add_assoc 104, hM.2.2.2.2.1 _ (by omega), add_nI]
      simp only [sumN, pinS, not63 S hS k hk]
      rcases Bool.eq_false_or_eq_true (S.testBit k) with hb | hb <;> simp [hb]
    · intro go
      simp (disch := omega) only [ltz, le_nI]
      rw [if_pos (by omega)]
  have e2 : ∀ (x3 : Int32) (S a : Nat) (k0 : Int32 → Option Int32), S < 64 → L_X12_atOnce_85 (nI (dt D)) (nI (db D)) now prongs one other wards (nI w) (nI what) x3 (nI S) k0 fu (nI a, nI 0) = k0 (nI (a + sumN (dorS D (cnt D (ro T w) what) (63 ^^^ S)) 24)) := by
    intro x3 S a k0 hS
    unfold L_X12_atOnce_85
    refine lp_run (fun d => (nI (a + sumN (dorS D (cnt D (ro T w) what) (63 ^^^ S)) d), nI d)) 24 _ ?_ ?_ (fu_gt (by omega))
    · intro go d hd
      have hf := and_lt (b := 63 ^^^ S) (fitS_lt D d)
      have hbm := behind_M h1 h2 hW hd (r := ro T w) (by omega)
      have h34 := hM.2.2.1 w hw
      have hand := andn63 (fitS D d) (fitS_lt D d) S hS
      simp (disch := omega) only [ltz, le_nI, canOpen_M hW hd, some_bind, jn_eq, nm_eq, b01, add_nI, rd_nI, h34, hbm, fitting_M h3 h4 hW hd, hand, eq_nI, n00, n10, if_true, if_false]
      rw [if_neg (by omega)]
      simp only [sumN, dorS, cnt]
      rcases Bool.eq_false_or_eq_true (opn D d) with hb | hb
      · rcases (show what = 0 ∨ what = 1 by omega) with rfl | rfl
        · by_cases hz : fitS D d &&& (63 ^^^ S) = 0
          · simp [hb, hz]
          · simp [hb, hz, Nat.add_assoc]
        · rcases opt_cases (bhd D d (ro T w)) with hx | ⟨x, hx⟩
          · simp [hb, hx, enc]
          · have hne := (neg_ne x (by have := bhd_lt hW hd hx; omega)).1
            by_cases hz : fitS D d &&& (63 ^^^ S) = 0
            · simp [hb, hx, hz, enc, hne]
            · simp [hb, hx, hz, enc, hne, Nat.add_assoc]
      · simp [hb]
    · intro go
      simp (disch := omega) only [ltz, le_nI]
      rw [if_pos (by omega)]
  unfold L_X12_atOnce_26
  refine lp_run (fun S => (nI (mn 1000000 (fun S => bnd T D w (cnt D (ro T w) what) (63 ^^^ S)) S), nI S)) 64 _ ?_ ?_ (fu_gt (by omega))
  · intro go S hS
    have hb := bnd_lt (D := D) hWT hw (cnt D (ro T w) what) (63 ^^^ S)
    have hm := mn_lt (i := 1000000) (b := 1000001) (f := fun S => bnd T D w (cnt D (ro T w) what) (63 ^^^ S)) (by omega) S
    simp (disch := omega) only [ltz, le_nI, e1, e2, nm_eq, add_nI]
    rw [if_neg (by omega), min_M (by omega) (by unfold bnd at hb; omega), some_bind]
    rfl
  · intro go
    simp (disch := omega) only [ltz, le_nI]
    rw [if_pos (by omega)]
theorem inv63 : ∀ k, k < 64 → 63 ^^^ k < 64 ∧ 63 ^^^ (63 ^^^ k) = k := by decide +kernel
theorem mn_rev (f : Nat → Nat) (hf : f 63 ≤ 24) : mn 24 f 64 = mn 1000000 (fun S => f (63 ^^^ S)) 64 := by
  have key : ∀ x, x ≤ mn 24 f 64 ↔ x ≤ mn 1000000 (fun S => f (63 ^^^ S)) 64 := by
    intro x
    rw [mn_le, mn_le]
    constructor
    · rintro ⟨h1, h2⟩
      exact ⟨by omega, fun k hk => h2 _ (inv63 k hk).1⟩
    · rintro ⟨h1, h2⟩
      refine ⟨Nat.le_trans (h2 0 (by omega)) hf, fun k hk => ?_⟩
      have := h2 _ (inv63 k hk).1
      rw [(inv63 k hk).2] at this
      exact this
  exact Nat.le_antisymm ((key _).mp (Nat.le_refl _)) ((key _).mpr (Nat.le_refl _))
theorem bnd63 (T : TS) (D : DS) (w : Nat) (q : Nat → Bool) : bnd T D w q 63 ≤ 24 := by
  unfold bnd
  have h1 : sumN (pinS T w 63) 6 = sumN (fun _ => 0) 6 := sumN_congr 6 (fun i hi => by
    unfold pinS
    rw [(by decide : ∀ k, k < 6 → (63 : Nat).testBit k = true) i hi]
    rfl)
  rw [h1]
  have h2 := sumN_le1 (f := dorS D q 63) 24 (dorS_le D q 63)
  have h3 : sumN (fun _ => 0) 6 = 0 := rfl
  omega
theorem B_atOnce {T : TS} {D : DS} {told round x dtold dbar dtold' dbar' : Int32} {rust rooms hair pins now one other wards fits bent one' other' wards' prongs : Nat → Int32} (hC : CTown told round x rust rooms hair pins T) (hM : MTown now T) (hWT : WTown T) (dC : CDoors dtold dbar one other wards fits bent D) (dM : MDoors dtold' dbar' one' other' wards' prongs D) (hW : WDoors D) (x1 x2 : Int32) : ∃ r, f_X11_atOnce dtold dbar one other fits told rooms pins x1 x2 = some r ∧ f_X12_atOnce dtold' dbar' now prongs one' other' wards' x1 x2 = some r := by
  obtain ⟨rfl, rfl, rfl, hd, he, hf, hg⟩ := hC
  obtain ⟨rfl, rfl, c3, c4, c5, c6, c7⟩ := dC
  obtain ⟨rfl, rfl, m3, m4, m5, m6⟩ := dM
  unfold f_X11_atOnce f_X12_atOnce
  rcases woman_cases hM hWT x1 with ⟨w, hw, rfl, hb, e1, e2⟩ | ⟨e1, e2⟩
  · have n1 : ((1 : Int32) = 0) = False := n10
    have hro := hWT.2.2.2.2.1 w hw
    obtain ⟨_, _, hroom⟩ := told1 he hM hWT hw hb
    rw [e1, e2, some_bind, some_bind]
    simp only [n1, if_false]
    simp only [ltz]
    rcases in01 x2 0 1 (by omega) (by omega) with ⟨e3, e4⟩ | ⟨m, _, hm, rfl, e3, e4⟩
    · simp only [e3, e4, some_bind, n00, if_true]
      exact ⟨_, rfl, rfl⟩
    · have hrev := mn_rev (bnd T D w (cnt D (ro T w) m)) (bnd63 T D w _)
      have hMm := most_M hM hWT m3 m4 m5 m6 hW (w := w) (what := m) hw hm
      have hq : ∀ d, cnt D (ro T w) m d = true → (dt D).testBit d = true := by
        intro d h
        unfold cnt opn at h
        simp only [Bool.and_eq_true] at h
        exact h.1.1
      have hMc := most_C c6 hg hWT (q := cnt D (ro T w) m) hq hw
      refine ⟨nI (mn 24 (bnd T D w (cnt D (ro T w) m)) 64), ?_, ?_⟩
      · simp only [e3, some_bind, n10, if_false, unbarred_C hW, jn_eq, hroom, ofRoom_C c3 c4 hW (show ro T w < 65536 by omega), nm_eq, and_nI]
        rcases (show m = 0 ∨ m = 1 by omega) with rfl | rfl
        · rw [if_neg (by decide)]
          have : und D = bitsN (cnt D (ro T w) 0) 24 := by unfold und; exact bitsN_congr 24 (fun i _ => by unfold cnt; simp)
          rw [this, hMc, some_bind]
        · rw [if_pos rfl]
          have : und D &&& bitsN (ofR D (ro T w)) 24 = bitsN (cnt D (ro T w) 1) 24 := by
            unfold und
            rw [bitsN_and]
            exact bitsN_congr 24 (fun i _ => by
              unfold cnt ofR opn
              cases (dt D).testBit i <;> simp)
          rw [this, hMc, some_bind]
      · simp only [e4, some_bind, n10, if_false]
        rw [hMm, ← hrev]
  · simp only [e1, e2, some_bind, eq_self, if_true]
    exact ⟨_, rfl, rfl⟩
