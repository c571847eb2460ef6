/-! WALK: a door is chosen, a turn, a round, rounds -/
def elig (T : TS) (D : DS) (w d : Nat) : Bool := opn D d && (bhd D d (ro T w)).isSome && (kf T D w d).isSome
def KDo (T : TS) (D : DS) (w d : Nat) : Nat → Int32 := KD T w d ((kf T D w d).getD 0) ((bhd D d (ro T w)).getD 0)
def wsh (T : TS) (D : DS) (W : LW) (w d : Nat) : Int32 := lawV W 101 9999 (KDo T D w d)
def chN (T : TS) (D : DS) (W : LW) (w : Nat) : Nat → Int32 × Int32
  | 0 => (-nI 1, nI 0)
  | d + 1 => if elig T D w d = true ∧ ¬ wsh T D W w d ≤ (chN T D W w d).2 then (nI d, wsh T D W w d) else chN T D W w d
theorem chN_no {T : TS} {D : DS} {W : LW} {w d : Nat} (h : elig T D w d = false) : chN T D W w (d + 1) = chN T D W w d := by
  show (if _ then _ else _) = _
  rw [if_neg (by rw [h]; simp)]
theorem chN_le {T : TS} {D : DS} {W : LW} {w d : Nat} (h : wsh T D W w d ≤ (chN T D W w d).2) : chN T D W w (d + 1) = chN T D W w d := by
  show (if _ then _ else _) = _
  rw [if_neg (fun e => e.2 h)]
theorem chN_gt {T : TS} {D : DS} {W : LW} {w d : Nat} (h : elig T D w d = true) (h2 : ¬ wsh T D W w d ≤ (chN T D W w d).2) : chN T D W w (d + 1) = (nI d, wsh T D W w d) := by
  show (if _ then _ else _) = _
  rw [if_pos ⟨h, h2⟩]
theorem chN_ok (T : TS) (D : DS) (W : LW) (w : Nat) : ∀ n, (chN T D W w n).1 = -nI 1 ∨ ∃ d, d < n ∧ (chN T D W w n).1 = nI d ∧ elig T D w d = true := by
  intro n
  induction n with
  | zero => exact Or.inl rfl
  | succ n ih =>
    by_cases h : elig T D w n = true ∧ ¬ wsh T D W w n ≤ (chN T D W w n).2
    · rw [chN_gt h.1 h.2]
      exact Or.inr ⟨n, by omega, rfl, h.1⟩
    · have e : chN T D W w (n + 1) = chN T D W w n := by
        show (if _ then _ else _) = _
        rw [if_neg h]
      rw [e]
      rcases ih with a | ⟨d, a, b, c⟩
      · exact Or.inl a
      · exact Or.inr ⟨d, by omega, b, c⟩
theorem elig_ok {T : TS} {D : DS} {w d : Nat} (h : elig T D w d = true) : opn D d = true ∧ (dt D).testBit d = true ∧ (∃ o, bhd D d (ro T w) = some o) ∧ ∃ k, kf T D w d = some k := by
  unfold elig at h
  simp only [Bool.and_eq_true] at h
  obtain ⟨⟨a, b⟩, c⟩ := h
  refine ⟨a, ?_, Option.isSome_iff_exists.1 b, Option.isSome_iff_exists.1 c⟩
  unfold opn at a
  simp only [Bool.and_eq_true] at a
  exact a.1
theorem st_X10_chooseDoor_34 (p1_told : Int32) (p1_rust : (Nat → Int32)) (p1_rooms : (Nat → Int32)) (p1_pins : (Nat → Int32)) (p2_told : Int32) (p2_barred : Int32) (p2_one : (Nat → Int32)) (p2_other : (Nat → Int32)) (p2_fits : (Nat → Int32)) (p3_rules : Int32) (p3_signs : (Nat → Int32)) (p3_values : (Nat → Int32)) (p3_letters : (Nat → Int32)) (p3_amounts : (Nat → Int32)) (p3_conditions : (Nat → Int32)) (p3_ends : (Nat → Int32)) (x5 : Int32) (x6 : Int32) (m : Nat) (s : Int32 × Int32 × Int32 × (Nat → Int32) × (Nat → Int32)) : L_X10_chooseDoor_34 p1_told p1_rust p1_rooms p1_pins p2_told p2_barred p2_one p2_other p2_fits p3_rules p3_signs p3_values p3_letters p3_amounts p3_conditions p3_ends x5 x6 (m + 1) s = (if (24 : Int32) ≤ s.2.2.1 then (some (s.1, s.2.2.2.1, s.2.2.2.2)) else if ((x6 >>> (s.2.2.1 &&& 31)) &&& (1 : Int32)) = 0 then (nm (s.2.2.1 + (1 : Int32)) fun v6 => (L_X10_chooseDoor_34 p1_told p1_rust p1_rooms p1_pins p2_told p2_barred p2_one p2_other p2_fits p3_rules p3_signs p3_values p3_letters p3_amounts p3_conditions p3_ends x5 x6 m) (s.1, s.2.1, v6, s.2.2.2.1, s.2.2.2.2)) else rd p2_fits 24 s.2.2.1 fun v7 => if (v7 &&& x5) = 0 then (nm (s.2.2.1 + (1 : Int32)) fun v8 => (L_X10_chooseDoor_34 p1_told p1_rust p1_rooms p1_pins p2_told p2_barred p2_one p2_other p2_fits p3_rules p3_signs p3_values p3_letters p3_amounts p3_conditions p3_ends x5 x6 m) (s.1, s.2.1, v8, s.2.2.2.1, s.2.2.2.2)) else (f_X10_knowDoor s.2.2.2.1 p1_told p1_rust p1_rooms p1_pins p2_told p2_one p2_other p2_fits s.2.2.1).bind fun u9 => (f_X2_amountOf 10 p3_rules p3_signs p3_values s.2.2.2.2 p3_letters p3_amounts p3_conditions p3_ends u9 (101 : Int32) (9999 : Int32)).bind fun u10 => if u10.1 ≤ s.2.1 then (nm (s.2.2.1 + (1 : Int32)) fun v11 => (L_X10_chooseDoor_34 p1_told p1_rust p1_rooms p1_pins p2_told p2_barred p2_one p2_other p2_fits p3_rules p3_signs p3_values p3_letters p3_amounts p3_conditions p3_ends x5 x6 m) (s.1, s.2.1, v11, u9, u10.2)) else nm (s.2.2.1 + (1 : Int32)) fun v12 => (L_X10_chooseDoor_34 p1_told p1_rust p1_rooms p1_pins p2_told p2_barred p2_one p2_other p2_fits p3_rules p3_signs p3_values p3_letters p3_amounts p3_conditions p3_ends x5 x6 m) (s.2.2.1, u10.1, v12, u9, u10.2)) := rfl
theorem st_X12_chosenBy_7 (t_toldDoors : Int32) (t_barredDoors : Int32) (t_clauses : Int32) (t_now : (Nat → Int32)) (t_prongsOf : (Nat → Int32)) (t_oneOf : (Nat → Int32)) (t_otherOf : (Nat → Int32)) (t_wardsOf : (Nat → Int32)) (t_codes : (Nat → Int32)) (t_clauseOf : (Nat → Int32)) (t_codeFrom : (Nat → Int32)) (t_codeHalf : (Nat → Int32)) (t_codeTo : (Nat → Int32)) (x1 : Int32) (m : Nat) (s : Int32 × Int32 × Int32 × (Nat → Int32) × (Nat → Int32)) : L_X12_chosenBy_7 t_toldDoors t_barredDoors t_clauses t_now t_prongsOf t_oneOf t_otherOf t_wardsOf t_codes t_clauseOf t_codeFrom t_codeHalf t_codeTo x1 (m + 1) s = (if (24 : Int32) ≤ s.2.2.1 then (some (s.1, s.2.2.2.1, s.2.2.2.2)) else (f_X12_canOpen t_toldDoors t_barredDoors s.2.2.1).bind fun u1 => if u1 = 0 then (nm (s.2.2.1 + (1 : Int32)) fun v2 => (L_X12_chosenBy_7 t_toldDoors t_barredDoors t_clauses t_now t_prongsOf t_oneOf t_otherOf t_wardsOf t_codes t_clauseOf t_codeFrom t_codeHalf t_codeTo x1 m) (s.1, s.2.1, v2, s.2.2.2.1, s.2.2.2.2)) else rd t_now 166 ((34 : Int32) + x1) fun v3 => (f_X12_behind t_oneOf t_otherOf s.2.2.1 v3).bind fun u4 => if u4 = (-1 : Int32) then (nm (s.2.2.1 + (1 : Int32)) fun v5 => (L_X12_chosenBy_7 t_toldDoors t_barredDoors t_clauses t_now t_prongsOf t_oneOf t_otherOf t_wardsOf t_codes t_clauseOf t_codeFrom t_codeHalf t_codeTo x1 m) (s.1, s.2.1, v5, s.2.2.2.1, s.2.2.2.2)) else (f_X12_kindFor t_now t_prongsOf t_wardsOf x1 s.2.2.1).bind fun u6 => if u6 = (-1 : Int32) then (nm (s.2.2.1 + (1 : Int32)) fun v11 => (L_X12_chosenBy_7 t_toldDoors t_barredDoors t_clauses t_now t_prongsOf t_oneOf t_otherOf t_wardsOf t_codes t_clauseOf t_codeFrom t_codeHalf t_codeTo x1 m) (s.1, s.2.1, v11, s.2.2.2.1, s.2.2.2.2)) else (f_X12_feelsDoor t_now t_prongsOf t_oneOf t_otherOf t_wardsOf s.2.2.2.2 x1 s.2.2.1).bind fun u7 => (f_X12_byLaw t_clauses t_codes t_clauseOf t_codeFrom t_codeHalf t_codeTo s.2.2.2.1 u7 (101 : Int32) (9999 : Int32)).bind fun u8 => if s.2.1 < u8.1 then (nm (s.2.2.1 + (1 : Int32)) fun v9 => (L_X12_chosenBy_7 t_toldDoors t_barredDoors t_clauses t_now t_prongsOf t_oneOf t_otherOf t_wardsOf t_codes t_clauseOf t_codeFrom t_codeHalf t_codeTo x1 m) (s.2.2.1, u8.1, v9, u8.2, u7)) else nm (s.2.2.1 + (1 : Int32)) fun v10 => (L_X12_chosenBy_7 t_toldDoors t_barredDoors t_clauses t_now t_prongsOf t_oneOf t_otherOf t_wardsOf t_codes t_clauseOf t_codeFrom t_codeHalf t_codeTo x1 m) (s.1, s.2.1, v10, u8.2, u7)) := rfl
theorem kl_lt (T : TS) (w : Nat) : kl T w < 64 := bitsN_lt (klB T w) 6
theorem chooseL_C {T : TS} {D : DS} {W : LW} {now rust rooms pins one other fits : Nat → Int32} (hr : ∀ i, i < 24 → rust i = nI (ru T i)) (he : ∀ w, w < 10 → rooms w = nI (ro T w)) (hp : ∀ j, j < 60 → pins j = nI (pn T j)) (hM : MTown now T) (hT : WTown T) (h1 : ∀ d, d < 24 → one d = nI (on D d)) (h2 : ∀ d, d < 24 → other d = nI (ot D d)) (h5 : ∀ d, d < 24 → (dt D).testBit d = true → fits d = nI (fitS D d)) (hW : WDoors D) {rules : Int32} {sg va letters amounts conditions ends : Nat → Int32} (hL : CLaw rules sg va letters amounts conditions ends W) {w : Nat} (hw : w < 10) (hb : (tt T).testBit w = true) (barred : Int32) : ∀ (r d m : Nat) (known st : Nat → Int32), d + r = 24 → r < m → KWs known T w → ∃ known' st', L_X10_chooseDoor_34 (nI (tt T)) rust rooms pins (nI (dt D)) barred one other fits rules sg va letters amounts conditions ends (nI (kl T w)) (nI (und D &&& bitsN (ofR D (ro T w)) 24)) m ((chN T D W w d).1, (chN T D W w d).2, nI d, known, st) = some ((chN T D W w 24).1, known', st') ∧ KWs known' T w := by
  intro r
  induction r with
  | zero =>
    intro d m known st hd hm hkn
    obtain ⟨m, rfl⟩ : ∃ k, m = k + 1 := ⟨m - 1, by omega⟩
    obtain rfl : d = 24 := by omega
    have q : (nI 24 ≤ nI 24) = True := by rw [le_nI (by omega) (by omega)]; exact eq_true (by omega)
    rw [st_X10_chooseDoor_34]
    simp only [ltz, q, ↓reduceIte]
    exact ⟨known, st, rfl, hkn⟩
  | succ r ih =>
    intro d m known st hd hm hkn
    obtain ⟨m, rfl⟩ : ∃ k, m = k + 1 := ⟨m - 1, by omega⟩
    have hd24 : d < 24 := by omega
    have q : (nI 24 ≤ nI d) = False := by rw [le_nI (by omega) (by omega)]; exact eq_false (by omega)
    have hund : und D &&& bitsN (ofR D (ro T w)) 24 < 16777216 := and_lt (und_lt D)
    have hbit := bit_of (n := und D &&& bitsN (ofR D (ro T w)) 24) (j := d) (by omega) (by omega)
    rw [Nat.testBit_and, und_tb D hd24, bitsN_test, decide_eq_true hd24, Bool.true_and] at hbit
    rw [st_X10_chooseDoor_34]
    simp only [ltz]
    rcases Bool.eq_false_or_eq_true (opn D d && ofR D (ro T w) d) with hx | hx
    · rw [hx, if_pos rfl] at hbit
      have hx1 := (Bool.and_eq_true_iff.1 hx).1
      have hx2 := (Bool.and_eq_true_iff.1 hx).2
      unfold ofR at hx2
      have hdb := (Bool.and_eq_true_iff.1 hx2).1
      have hbs := (Bool.and_eq_true_iff.1 hx2).2
      cases hk : kf T D w d with
      | none =>
        have hfk : nI (fitS D d) &&& nI (kl T w) = nI 0 := by rw [and_nI, fk_none hk]
        have hel : elig T D w d = false := by unfold elig; rw [hk]; simp
        simp (disch := omega) only [↓reduceIte, ↓some_bind, ↓nm_eq, ↓jn_eq, ↓wr_nI, ↓rd_nI, n10, n00, q, hbit, h5 d hd24 hdb, hfk, add_nI]
        rw [← chN_no (W := W) hel]
        exact ih (d + 1) m known st (by omega) (by omega) hkn
      | some k =>
        obtain ⟨f1, f2, f3⟩ := fk_some hk
        have hfk : (nI (fitS D d) &&& nI (kl T w) = nI 0) = False := by rw [and_nI, eq_nI (by omega) (by omega)]; exact eq_false f2
        obtain ⟨o, ho⟩ := Option.isSome_iff_exists.1 hbs
        have hel : elig T D w d = true := by unfold elig; rw [hx1, hk, ho]; rfl
        obtain ⟨kn, c1, c2⟩ := knowDoor_C hr he hp hM hT h1 h2 h5 hW hw hb hd24 hdb hk ho hkn
        have hKD : KD T w d k o = KDo T D w d := by unfold KDo; rw [hk, ho]; rfl
        obtain ⟨st1, c3⟩ := amt_C (x := 101) hL (K := KDo T D w d) (hKD ▸ c2) (by omega) (by omega) 9999 st
        have c3 : f_X2_amountOf 10 rules sg va st letters amounts conditions ends kn (nI 101) (nI 9999) = some (wsh T D W w d, st1) := c3
        by_cases hle : wsh T D W w d ≤ (chN T D W w d).2
        · have hle' := eq_true hle
          simp (disch := omega) only [↓reduceIte, ↓some_bind, ↓nm_eq, ↓jn_eq, ↓wr_nI, ↓rd_nI, n10, n00, q, hbit, h5 d hd24 hdb, hfk, ↓bind_of c1, ↓bind_of c3, hle', add_nI]
          rw [← chN_le hle]
          exact ih (d + 1) m kn st1 (by omega) (by omega) (KWs_KD c2)
        · have hle' := eq_false hle
          simp (disch := omega) only [↓reduceIte, ↓some_bind, ↓nm_eq, ↓jn_eq, ↓wr_nI, ↓rd_nI, n10, n00, q, hbit, h5 d hd24 hdb, hfk, ↓bind_of c1, ↓bind_of c3, hle', add_nI]
          have e := chN_gt hel hle
          rw [show nI d = (chN T D W w (d + 1)).1 by rw [e], show wsh T D W w d = (chN T D W w (d + 1)).2 by rw [e]]
          exact ih (d + 1) m kn st1 (by omega) (by omega) (KWs_KD c2)
    · rw [hx, if_neg (by decide)] at hbit
      have hel : elig T D w d = false := by
        cases ha : opn D d with
        | false => unfold elig; rw [ha]; rfl
        | true =>
          rw [ha, Bool.true_and] at hx
          unfold ofR at hx
          unfold opn at ha
          rw [(Bool.and_eq_true_iff.1 ha).1, Bool.true_and] at hx
          unfold elig
          rw [hx]
          simp
      simp (disch := omega) only [↓reduceIte, ↓some_bind, ↓nm_eq, ↓jn_eq, ↓wr_nI, ↓rd_nI, n10, n00, q, hbit, add_nI]
      rw [← chN_no (W := W) hel]
      exact ih (d + 1) m known st (by omega) (by omega) hkn
theorem choose_C {T : TS} {D : DS} {W : LW} {now rust rooms pins one other fits : Nat → Int32} (hr : ∀ i, i < 24 → rust i = nI (ru T i)) (he : ∀ w, w < 10 → rooms w = nI (ro T w)) (hp : ∀ j, j < 60 → pins j = nI (pn T j)) (hM : MTown now T) (hT : WTown T) (h1 : ∀ d, d < 24 → one d = nI (on D d)) (h2 : ∀ d, d < 24 → other d = nI (ot D d)) (h5 : ∀ d, d < 24 → (dt D).testBit d = true → fits d = nI (fitS D d)) (hW : WDoors D) {rules : Int32} {sg va letters amounts conditions ends : Nat → Int32} (hL : CLaw rules sg va letters amounts conditions ends W) {w : Nat} (hw : w < 10) (hb : (tt T).testBit w = true) {known : Nat → Int32} (st : Nat → Int32) (hkn : KWs known T w) : ∃ known' st', f_X10_chooseDoor known (nI (tt T)) rust rooms pins (nI (dt D)) (nI (db D)) one other fits rules sg va st letters amounts conditions ends (nI w) = some ((chN T D W w 24).1, known', st') ∧ KWs known' T w := by
  have hlow := hT.2.2.2.2.1 w hw
  have c1 := kindsLeft_C hp hM hT hw hb
  have c2 := unbarred_C hW
  have c3 := roomOf_C he hM hT hw hb
  have c4 := ofRoom_C h1 h2 hW (r := ro T w) (by omega)
  unfold f_X10_chooseDoor
  simp only [ltz]
  simp (disch := omega) only [↓bind_of c1, ↓bind_of c2, ↓bind_of c3, ↓bind_of c4, ↓nm_eq, and_nI]
  exact chooseL_C hr he hp hM hT h1 h2 h5 hW hL hw hb (nI (db D)) 24 0 fu known st rfl (fu_gt (by omega)) hkn
theorem chooseL_M {T : TS} {D : DS} {W : LW} {now one other wards prongs : Nat → Int32} (hM : MTown now T) (hT : WTown T) (h1 : ∀ d, d < 24 → one d = nI (on D d)) (h2 : ∀ d, d < 24 → other d = nI (ot D d)) (h3 : ∀ d, d < 24 → wards d = nI (wa D d)) (h4 : ∀ k, k < 6 → prongs k = nI (pr D k)) (hW : WDoors D) {clauses : Int32} {codes clauseOf codeFrom codeHalf codeTo : Nat → Int32} (hL : MLaw clauses codes clauseOf codeFrom codeHalf codeTo W) (hWL : WLaw W) {w : Nat} (hw : w < 10) : ∀ (r d m : Nat) (st facts : Nat → Int32), d + r = 24 → r < m → ∃ st' facts', L_X12_chosenBy_7 (nI (dt D)) (nI (db D)) clauses now prongs one other wards codes clauseOf codeFrom codeHalf codeTo (nI w) m ((chN T D W w d).1, (chN T D W w d).2, nI d, st, facts) = some ((chN T D W w 24).1, st', facts') := by
  have hlow := hT.2.2.2.2.1 w hw
  have e1 := hM.2.2.1 w hw
  intro r
  induction r with
  | zero =>
    intro d m st facts hd hm
    obtain ⟨m, rfl⟩ : ∃ k, m = k + 1 := ⟨m - 1, by omega⟩
    obtain rfl : d = 24 := by omega
    have q : (nI 24 ≤ nI 24) = True := by rw [le_nI (by omega) (by omega)]; exact eq_true (by omega)
    rw [st_X12_chosenBy_7]
    simp only [ltz, q, ↓reduceIte]
    exact ⟨st, facts, rfl⟩
  | succ r ih =>
    intro d m st facts hd hm
    obtain ⟨m, rfl⟩ : ∃ k, m = k + 1 := ⟨m - 1, by omega⟩
    have hd24 : d < 24 := by omega
    have q : (nI 24 ≤ nI d) = False := by rw [le_nI (by omega) (by omega)]; exact eq_false (by omega)
    have c0 := canOpen_M hW hd24
    have c1 := behind_M h1 h2 hW (d := d) (r := ro T w) hd24 (by omega)
    have c2 := kindFor_M hM hT h3 h4 hW hw hd24
    rw [st_X12_chosenBy_7]
    simp only [ltz]
    rcases Bool.eq_false_or_eq_true (opn D d) with hx | hx
    · rw [hx, if_pos rfl] at c0
      cases ho : bhd D d (ro T w) with
      | none =>
        rw [ho] at c1
        have c1 : f_X12_behind one other (nI d) (nI (ro T w)) = some (-nI 1) := c1
        have hel : elig T D w d = false := by unfold elig; rw [ho]; simp
        simp (disch := omega) only [↓reduceIte, ↓some_bind, ↓nm_eq, ↓jn_eq, ↓wr_nI, ↓rd_nI, n10, n00, q, ↓bind_of c0, add_nI, e1, ↓bind_of c1, eq_self]
        rw [← chN_no (W := W) hel]
        exact ih (d + 1) m st facts (by omega) (by omega)
      | some o =>
        have ho15 := bhd_lt hW hd24 ho
        rw [ho] at c1
        have c1 : f_X12_behind one other (nI d) (nI (ro T w)) = some (nI o) := c1
        have n1 := eq_false (neg_ne o (by omega)).1
        cases hk : kf T D w d with
        | none =>
          rw [hk] at c2
          have c2 : f_X12_kindFor now prongs wards (nI w) (nI d) = some (-nI 1) := c2
          have hel : elig T D w d = false := by unfold elig; rw [hk]; simp
          simp (disch := omega) only [↓reduceIte, ↓some_bind, ↓nm_eq, ↓jn_eq, ↓wr_nI, ↓rd_nI, n10, n00, q, ↓bind_of c0, add_nI, e1, ↓bind_of c1, n1, ↓bind_of c2, eq_self]
          rw [← chN_no (W := W) hel]
          exact ih (d + 1) m st facts (by omega) (by omega)
        | some k =>
          have hk6 := (kf_some hk).1
          rw [hk] at c2
          have c2 : f_X12_kindFor now prongs wards (nI w) (nI d) = some (nI k) := c2
          have n2 := eq_false (neg_ne k (by omega)).1
          have hel : elig T D w d = true := by unfold elig; rw [hx, hk, ho]; rfl
          obtain ⟨fa, c3, c4⟩ := feelsDoor_M (facts := facts) hM hT h1 h2 h3 h4 hW hw hd24 hk ho
          have hKD : KD T w d k o = KDo T D w d := by unfold KDo; rw [hk, ho]; rfl
          obtain ⟨st1, c5⟩ := amt_M (x := 101) hL hWL (K := KDo T D w d) (hKD ▸ c4) (by omega) (by omega) 9999 (by omega) st
          have c5 : f_X12_byLaw clauses codes clauseOf codeFrom codeHalf codeTo st fa (nI 101) (nI 9999) = some (wsh T D W w d, st1) := c5
          by_cases hle : wsh T D W w d ≤ (chN T D W w d).2
          · have hle' : ((chN T D W w d).2 < wsh T D W w d) = False := eq_false (fun h => Int32.not_le.2 h hle)
            simp (disch := omega) only [↓reduceIte, ↓some_bind, ↓nm_eq, ↓jn_eq, ↓wr_nI, ↓rd_nI, n10, n00, q, ↓bind_of c0, add_nI, e1, ↓bind_of c1, n1, ↓bind_of c2, n2, ↓bind_of c3, ↓bind_of c5, hle']
            rw [← chN_le hle]
            exact ih (d + 1) m st1 fa (by omega) (by omega)
          · have hle' : ((chN T D W w d).2 < wsh T D W w d) = True := eq_true (Int32.not_le.1 hle)
            simp (disch := omega) only [↓reduceIte, ↓some_bind, ↓nm_eq, ↓jn_eq, ↓wr_nI, ↓rd_nI, n10, n00, q, ↓bind_of c0, add_nI, e1, ↓bind_of c1, n1, ↓bind_of c2, n2, ↓bind_of c3, ↓bind_of c5, hle']
            have e := chN_gt hel hle
            rw [show nI d = (chN T D W w (d + 1)).1 by rw [e], show wsh T D W w d = (chN T D W w (d + 1)).2 by rw [e]]
            exact ih (d + 1) m st1 fa (by omega) (by omega)
    · rw [hx, if_neg (by decide)] at c0
      have hel : elig T D w d = false := by unfold elig; rw [hx]; rfl
      simp (disch := omega) only [↓reduceIte, ↓some_bind, ↓nm_eq, ↓jn_eq, ↓wr_nI, ↓rd_nI, n10, n00, q, ↓bind_of c0, add_nI]
      rw [← chN_no (W := W) hel]
      exact ih (d + 1) m st facts (by omega) (by omega)
theorem choose_M {T : TS} {D : DS} {W : LW} {now one other wards prongs : Nat → Int32} (hM : MTown now T) (hT : WTown T) (h1 : ∀ d, d < 24 → one d = nI (on D d)) (h2 : ∀ d, d < 24 → other d = nI (ot D d)) (h3 : ∀ d, d < 24 → wards d = nI (wa D d)) (h4 : ∀ k, k < 6 → prongs k = nI (pr D k)) (hW : WDoors D) {clauses : Int32} {codes clauseOf codeFrom codeHalf codeTo : Nat → Int32} (hL : MLaw clauses codes clauseOf codeFrom codeHalf codeTo W) (hWL : WLaw W) {w : Nat} (hw : w < 10) (st facts : Nat → Int32) : ∃ st' facts', f_X12_chosenBy (nI (dt D)) (nI (db D)) clauses now prongs one other wards codes clauseOf codeFrom codeHalf codeTo st facts (nI w) = some ((chN T D W w 24).1, st', facts') := by
  unfold f_X12_chosenBy
  simp only [ltz]
  exact chooseL_M hM hT h1 h2 h3 h4 hW hL hWL hw 24 0 fu st facts rfl (fu_gt (by omega))
