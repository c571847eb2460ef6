/-! KINDS ENOUGH -/
def enP (D : DS) (k d : Nat) : Bool := !((dt D).testBit d) || !(fitS D d &&& k == 0)
def enB (D : DS) (k : Nat) : Bool := (fstN (enP D k) 24).isNone
theorem fitS_lt (D : DS) (d : Nat) : fitS D d < 64 := bitsN_lt (fitB D d) 6
theorem and_lt {a b n : Nat} (h : a < n) : a &&& b < n := Nat.lt_of_le_of_lt Nat.and_le_left h
/-- a told door, one that isn't -/
theorem door1 {D : DS} (hW : WDoors D) {d : Nat} (hd : d < 24) (hb : (dt D).testBit d = true) : f_X0_isTold (nI (dt D)) (nI d) = some (nI 1) ∧ f_X12_isDoor (nI (dt D)) (nI d) = some (nI 1) := by
  obtain ⟨a, b, _⟩ := door_in hW hd
  rw [if_pos hb] at a b
  exact ⟨a, b⟩
theorem door0 {D : DS} (hW : WDoors D) {d : Nat} (hd : d < 24) (hb : (dt D).testBit d = false) : f_X0_isTold (nI (dt D)) (nI d) = some (nI 0) ∧ f_X12_isDoor (nI (dt D)) (nI d) = some (nI 0) := by
  obtain ⟨a, b, _⟩ := door_in hW hd
  rw [if_neg (by rw [hb]; decide)] at a b
  exact ⟨a, b⟩
theorem en_fin (D : DS) (k : Nat) : (match fstN (enP D k) 24 with
    | none => some (nI 1)
    | some _ => some (nI 0)) = some (nI (if enB D k = true then 1 else 0)) := by
  unfold enB
  cases fstN (enP D k) 24 <;> rfl
theorem opensAll_C {D : DS} {fits : Nat → Int32} (h1 : ∀ d, d < 24 → (dt D).testBit d = true → fits d = nI (fitS D d)) (hW : WDoors D) {k : Nat} (hk : k < 64) : f_X0_opensAll (nI (dt D)) fits (nI k) = some (nI (if enB D k = true then 1 else 0)) := by
  rw [← en_fin]
  unfold f_X0_opensAll L_X0_opensAll_2
  refine lp_find (fun i => nI i) 24 _ (fun _ => some (nI 0)) _ ?_ ?_ ?_ (fu_gt (by omega))
  · intro go d hd hP
    have hf := and_lt (b := k) (fitS_lt D d)
    unfold enP at hP
    rcases Bool.eq_false_or_eq_true ((dt D).testBit d) with hb | hb
    · rw [hb] at hP
      simp only [Bool.not_true, Bool.false_or, Bool.not_eq_true', beq_eq_false_iff_ne, ne_eq] at hP
      simp (disch := omega) only [ltz, le_nI, (door1 hW hd hb).1, some_bind, n10, if_false, rd_nI, h1 d hd hb, and_nI, nm_eq, add_nI]
      rw [if_neg (by omega), if_neg (by rw [eq_nI (by omega) (by omega)]; exact hP)]
    · simp (disch := omega) only [ltz, le_nI, (door0 hW hd hb).1, some_bind, n00, if_true, nm_eq, add_nI]
      rw [if_neg (by omega)]
  · intro go d hd hP
    have hf := and_lt (b := k) (fitS_lt D d)
    unfold enP at hP
    rcases Bool.eq_false_or_eq_true ((dt D).testBit d) with hb | hb
    · rw [hb] at hP
      simp only [Bool.not_true, Bool.false_or, Bool.not_eq_false', beq_iff_eq] at hP
      simp (disch := omega) only [ltz, le_nI, (door1 hW hd hb).1, some_bind, n10, if_false, rd_nI, h1 d hd hb, and_nI, nm_eq, add_nI, hP, n00, if_true]
      rw [if_neg (by omega)]
    · rw [hb] at hP; cases hP
  · intro go
    simp (disch := omega) only [ltz, le_nI]
    rw [if_pos (by omega)]
theorem areEnough_M {D : DS} {wards prongs : Nat → Int32} (h3 : ∀ d, d < 24 → wards d = nI (wa D d)) (h4 : ∀ k, k < 6 → prongs k = nI (pr D k)) (hW : WDoors D) {k : Nat} (hk : k < 64) : f_X12_areEnough (nI (dt D)) prongs wards (nI k) = some (nI (if enB D k = true then 1 else 0)) := by
  rw [← en_fin]
  unfold f_X12_areEnough L_X12_areEnough_2
  refine lp_find (fun i => nI i) 24 _ (fun _ => some (nI 0)) _ ?_ ?_ ?_ (fu_gt (by omega))
  · intro go d hd hP
    have hf := and_lt (b := k) (fitS_lt D d)
    unfold enP at hP
    rcases Bool.eq_false_or_eq_true ((dt D).testBit d) with hb | hb
    · rw [hb] at hP
      simp only [Bool.not_true, Bool.false_or, Bool.not_eq_true', beq_eq_false_iff_ne, ne_eq] at hP
      simp (disch := omega) only [ltz, le_nI, (door1 hW hd hb).2, some_bind, n10, if_false, fitting_M h3 h4 hW hd, and_nI, nm_eq, add_nI]
      rw [if_neg (by omega), if_neg (by rw [eq_nI (by omega) (by omega)]; exact hP)]
    · simp (disch := omega) only [ltz, le_nI, (door0 hW hd hb).2, some_bind, n00, if_true, nm_eq, add_nI]
      rw [if_neg (by omega)]
  · intro go d hd hP
    have hf := and_lt (b := k) (fitS_lt D d)
    unfold enP at hP
    rcases Bool.eq_false_or_eq_true ((dt D).testBit d) with hb | hb
    · rw [hb] at hP
      simp only [Bool.not_true, Bool.false_or, Bool.not_eq_false', beq_iff_eq] at hP
      simp (disch := omega) only [ltz, le_nI, (door1 hW hd hb).2, some_bind, n10, if_false, fitting_M h3 h4 hW hd, and_nI, nm_eq, add_nI, hP, n00, if_true]
      rw [if_neg (by omega)]
    · rw [hb] at hP; cases hP
  · intro go
    simp (disch := omega) only [ltz, le_nI]
    rw [if_pos (by omega)]
def bst (D : DS) : Nat → Option Nat
  | 0 => none
  | k + 1 => if enB D k && (match bst D k with
      | none => true
      | some b => decide (pc k < pc b)) then some k else bst D k
theorem bst_lt (D : DS) : ∀ k b, bst D k = some b → b < k := by
  intro k
  induction k with
  | zero => intro b h; cases h
  | succ k ih =>
    intro b h
    have key : ∀ c : Bool, (if c = true then some k else bst D k) = some b → b < k + 1 := by
      intro c h
      cases c
      · exact Nat.lt_succ_of_lt (ih b h)
      · cases h; omega
    exact key _ h
def enc (d : Int32) (o : Option Nat) : Int32 := match o with
  | none => d
  | some b => nI b
theorem neg_ne : ∀ b, b < 64 → (¬ nI b = -nI 1) ∧ (¬ nI b = -nI 2) := by decide
theorem fewest_C {D : DS} {fits : Nat → Int32} (h1 : ∀ d, d < 24 → (dt D).testBit d = true → fits d = nI (fitS D d)) (hW : WDoors D) : f_X0_fewestKinds (nI (dt D)) fits = some (enc (-nI 1) (bst D 64)) := by
  unfold f_X0_fewestKinds L_X0_fewestKinds_4
  refine lp_run (fun k => (enc (-nI 1) (bst D k), nI k)) 64 _ ?_ ?_ (fu_gt (by omega))
  · intro go k hk
    have hop := opensAll_C h1 hW hk
    cases hb : bst D k with
    | none =>
      simp (disch := omega) only [ltz, le_nI, jn_eq, nm_eq, enc, if_true, hop, some_bind, n10, if_false, add_nI, b01]
      rw [if_neg (by omega)]
      simp only [bst, hb, Bool.and_true]
      rcases Bool.eq_false_or_eq_true (enB D k) with he | he <;> simp [he, enc]
    | some b =>
      have hbk := bst_lt D k b hb
      have p1 := pc_le k
      have p2 := pc_le b
      simp (disch := omega) only [ltz, le_nI, jn_eq, nm_eq, enc, (neg_ne b (by omega)).1, if_false, hop, some_bind, n10, n00, if_true, add_nI, b01, bitCount_s]
      rw [if_neg (by omega)]
      simp only [bst, hb]
      by_cases hp : pc b ≤ pc k
      · have : ¬ pc k < pc b := by omega
        simp [hp, this, enc]
      · have : pc k < pc b := by omega
        rcases Bool.eq_false_or_eq_true (enB D k) with he | he <;> simp [he, hp, this, enc]
  · intro go
    simp (disch := omega) only [ltz, le_nI]
    rw [if_pos (by omega)]
theorem enough_M {D : DS} {wards prongs : Nat → Int32} (h3 : ∀ d, d < 24 → wards d = nI (wa D d)) (h4 : ∀ k, k < 6 → prongs k = nI (pr D k)) (hW : WDoors D) (x1 : Int32) (k0 : Int32 → Option Int32) : L_X12_enough_16 (nI (dt D)) prongs wards x1 k0 fu (-nI 2, nI 0) = k0 (enc (-nI 2) (bst D 64)) := by
  unfold L_X12_enough_16
  refine lp_run (fun k => (enc (-nI 2) (bst D k), nI k)) 64 _ ?_ ?_ (fu_gt (by omega))
  · intro go k hk
    have hop := areEnough_M h3 h4 hW hk
    cases hb : bst D k with
    | none =>
      simp (disch := omega) only [ltz, le_nI, nm_eq, enc, if_true, hop, some_bind, add_nI, b01]
      rw [if_neg (by omega)]
      simp only [bst, hb, Bool.and_true]
      rcases Bool.eq_false_or_eq_true (enB D k) with he | he <;> simp [he, enc]
    | some b =>
      have hbk := bst_lt D k b hb
      have p1 := pc_le k
      have p2 := pc_le b
      simp (disch := omega) only [ltz, le_nI, nm_eq, enc, (neg_ne b (by omega)).2, if_false, hop, some_bind, add_nI, b01, bits_M]
      rw [if_neg (by omega)]
      simp only [bst, hb]
      by_cases hp : pc b ≤ pc k
      · have : ¬ pc k < pc b := by omega
        simp [hp, this, enc]
      · have : pc k < pc b := by omega
        rcases Bool.eq_false_or_eq_true (enB D k) with he | he <;> simp [he, hp, this, enc]
  · intro go
    simp (disch := omega) only [ltz, le_nI]
    rw [if_pos (by omega)]
theorem B_enough {D : DS} {dtold dtold' : Int32} {fits wards prongs : Nat → Int32} (h0 : dtold = nI (dt D)) (h0' : dtold' = nI (dt D)) (h1 : ∀ d, d < 24 → (dt D).testBit d = true → fits d = nI (fitS D d)) (h3 : ∀ d, d < 24 → wards d = nI (wa D d)) (h4 : ∀ k, k < 6 → prongs k = nI (pr D k)) (hW : WDoors D) (x1 : Int32) : ∃ r, f_X11_enough dtold fits x1 = some r ∧ f_X12_enough dtold' prongs wards x1 = some r := by
  subst h0; subst h0'
  unfold f_X11_enough f_X12_enough
  simp only [ltz]
  rcases in01 x1 0 1 (by omega) (by omega) with ⟨e1, e2⟩ | ⟨m, _, hm, rfl, e1, e2⟩
  · simp only [e1, e2, some_bind, n00, if_true]
    exact ⟨_, rfl, rfl⟩
  · simp only [e1, e2, some_bind, n10, if_false, fewest_C h1 hW, enough_M h3 h4 hW]
    cases hb : bst D 64 with
    | none =>
      simp only [enc, if_true]
      rcases (show m = 0 ∨ m = 1 by omega) with rfl | rfl
      · refine ⟨-nI 2, rfl, ?_⟩
        rw [if_neg (by decide)]
      · exact ⟨-nI 2, rfl, if_pos rfl⟩
    | some b =>
      have hbk := bst_lt D 64 b hb
      obtain ⟨q1, q2⟩ := neg_ne b hbk
      simp (disch := omega) only [enc, q1, q2, if_false, bitCount_s, bits_M, some_bind]
      rcases (show m = 0 ∨ m = 1 by omega) with rfl | rfl
      · refine ⟨_, if_pos rfl, ?_⟩
        rw [if_neg (by decide)]
      · refine ⟨_, if_neg (by decide), if_pos rfl⟩
