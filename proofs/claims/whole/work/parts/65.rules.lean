/-! THE LAW's rules: which one speaks, and what it says -/
abbrev LW : Type := Nat × (Nat → Nat) × (Nat → Den) × (Nat → Den)
def lR (W : LW) : Nat := W.1
def lL (W : LW) : Nat → Nat := W.2.1
def lA (W : LW) : Nat → Den := W.2.2.1
def lC (W : LW) : Nat → Den := W.2.2.2
def CLaw (rules : Int32) (sg va letters amounts conditions ends : Nat → Int32) (W : LW) : Prop := rules = nI (lR W) ∧ lR W ≤ 16 ∧ ∀ q, q < lR W → ∃ a h t, t ≤ 250 ∧ letters q = nI (lL W q) ∧ lL W q < 256 ∧ amounts q = nI a ∧ conditions q = nI h ∧ ends q = nI t ∧ SegC sg va h t 64 (lC W q) ∧ (lL W q ≠ 120 → SegC sg va a h 64 (lA W q))
def MLaw (clauses : Int32) (codes clauseOf codeFrom codeHalf codeTo : Nat → Int32) (W : LW) : Prop := clauses = nI (lR W) ∧ lR W ≤ 16 ∧ ∀ q, q < lR W → ∃ a h t, t ≤ 250 ∧ clauseOf q = nI (lL W q) ∧ lL W q < 256 ∧ codeFrom q = nI a ∧ codeHalf q = nI h ∧ codeTo q = nI t ∧ SegM codes h t 64 (lC W q) ∧ (lL W q ≠ 120 → SegM codes a h 64 (lA W q))
def WLaw (W : LW) : Prop := ∀ q, q < lR W → B01 (lC W q)
def lQ (W : LW) (x : Nat) (K : Nat → Int32) (q : Nat) : Bool := (lL W q == x) && !decide ((lC W q K).getD (nI 0) = nI 0)
def lawF (W : LW) (x : Nat) (K : Nat → Int32) : Option Nat := lfd (lQ W x K) (lR W) (lR W)
def clampI (most : Nat) (v : Int32) : Int32 := imax (nI 0) (imin (nI most) v)
def lawV (W : LW) (x most : Nat) (K : Nat → Int32) : Int32 := match lawF W x K with
  | none => nI 0
  | some c => clampI most ((lA W c K).getD (nI 0))
theorem lQ_no {W : LW} {x : Nat} {K : Nat → Int32} {q : Nat} (h : ¬ lL W q = x) : lQ W x K q = false := by
  unfold lQ
  rw [show (lL W q == x) = false from beq_eq_false_iff_ne.2 h, Bool.false_and]
theorem lQ_yes {W : LW} {x : Nat} {K : Nat → Int32} {q : Nat} (h : lL W q = x) : lQ W x K q = !decide ((lC W q K).getD (nI 0) = nI 0) := by
  unfold lQ
  rw [show (lL W q == x) = true from beq_iff_eq.2 h, Bool.true_and]
theorem B01_getD {A : Den} (h : B01 A) (K : Nat → Int32) : (A K).getD (nI 0) = nI 0 ∨ (A K).getD (nI 0) = nI 1 := by
  cases e : A K with
  | none => exact Or.inl rfl
  | some a => exact h K a e
theorem clamp_M (most : Nat) (hm : most < 2147483648) (v : Int32) : (if nI 0 ≤ v then (if v ≤ nI most then v else nI most) else nI 0) = clampI most v := by
  have h0 : (nI 0).toInt = 0 := by decide
  have hp : (nI 0) ≤ nI most := by rw [le_nI (by omega) hm]; omega
  have hp2 : 0 ≤ (nI most).toInt := by have := Int32.le_iff_toInt_le.1 hp; omega
  unfold clampI imax imin
  by_cases h1 : nI 0 ≤ v
  · rw [if_pos h1]
    by_cases h2 : v ≤ nI most
    · rw [if_pos h2]
      by_cases h3 : v < nI most
      · rw [if_pos h3]
        split
        · rfl
        · rename_i h4
          have a := Int32.le_iff_toInt_le.1 h1
          have c : ¬ (nI 0).toInt < v.toInt := fun h => h4 (Int32.lt_iff_toInt_lt.2 h)
          exact Int32.toInt_inj.1 (by omega)
      · rw [if_neg h3]
        have a := Int32.le_iff_toInt_le.1 h2
        have c : ¬ v.toInt < (nI most).toInt := fun h => h3 (Int32.lt_iff_toInt_lt.2 h)
        have e : v = nI most := Int32.toInt_inj.1 (by omega)
        rw [e]
        split
        · rfl
        · rename_i h4
          have c : ¬ (nI 0).toInt < (nI most).toInt := fun h => h4 (Int32.lt_iff_toInt_lt.2 h)
          exact Int32.toInt_inj.1 (by omega)
    · rw [if_neg h2]
      have c : ¬ v.toInt ≤ (nI most).toInt := fun h => h2 (Int32.le_iff_toInt_le.2 h)
      rw [if_neg (show ¬ v < nI most from fun h => by have := Int32.lt_iff_toInt_lt.1 h; omega)]
      split
      · rfl
      · rename_i h4
        have c : ¬ (nI 0).toInt < (nI most).toInt := fun h => h4 (Int32.lt_iff_toInt_lt.2 h)
        exact Int32.toInt_inj.1 (by omega)
  · rw [if_neg h1]
    have c : ¬ (nI 0).toInt ≤ v.toInt := fun h => h1 (Int32.le_iff_toInt_le.2 h)
    rw [if_pos (show v < nI most from Int32.lt_iff_toInt_lt.2 (by omega)), if_neg (show ¬ nI 0 < v from fun h => by have := Int32.lt_iff_toInt_lt.1 h; omega)]
theorem st_X2_isAnyTrue_2 (n2 : Nat) (t_rules : Int32) (t_signs : (Nat → Int32)) (t_values : (Nat → Int32)) (t_letters : (Nat → Int32)) (t_conditions : (Nat → Int32)) (t_ends : (Nat → Int32)) (f2 : (Nat → Int32)) (x1 : Int32) (m : Nat) (s : Int32 × (Nat → Int32)) : L_X2_isAnyTrue_2 n2 t_rules t_signs t_values t_letters t_conditions t_ends f2 x1 (m + 1) s = (if t_rules ≤ s.1 then (some ((0 : Int32), s.2)) else if (16 : Int32) ≤ s.1 then (some ((0 : Int32), s.2)) else rd t_letters 16 s.1 fun v1 => if v1 = x1 then (rd t_conditions 16 s.1 fun v3 => rd t_ends 16 s.1 fun v4 => (f_X2_reckon n2 t_signs t_values s.2 f2 v3 v4).bind fun u5 => if u5.1 = 0 then (nm (s.1 + (1 : Int32)) fun v6 => (L_X2_isAnyTrue_2 n2 t_rules t_signs t_values t_letters t_conditions t_ends f2 x1 m) (v6, u5.2)) else some ((1 : Int32), u5.2)) else nm (s.1 + (1 : Int32)) fun v2 => (L_X2_isAnyTrue_2 n2 t_rules t_signs t_values t_letters t_conditions t_ends f2 x1 m) (v2, s.2)) := rfl
theorem st_X2_amountOf_3 (n3 : Nat) (t_rules : Int32) (t_signs : (Nat → Int32)) (t_values : (Nat → Int32)) (t_letters : (Nat → Int32)) (t_amounts : (Nat → Int32)) (t_conditions : (Nat → Int32)) (t_ends : (Nat → Int32)) (f3 : (Nat → Int32)) (x1 : Int32) (x2 : Int32) (k0 : Int32 × (Nat → Int32) → Option (Int32 × (Nat → Int32))) (m : Nat) (s : Int32 × (Nat → Int32)) : L_X2_amountOf_3 n3 t_rules t_signs t_values t_letters t_amounts t_conditions t_ends f3 x1 x2 k0 (m + 1) s = (if t_rules ≤ s.1 then (some ((0 : Int32), s.2)) else if (16 : Int32) ≤ s.1 then (some ((0 : Int32), s.2)) else rd t_letters 16 s.1 fun v1 => if v1 = x1 then (rd t_conditions 16 s.1 fun v3 => rd t_ends 16 s.1 fun v4 => (f_X2_reckon n3 t_signs t_values s.2 f3 v3 v4).bind fun u5 => if u5.1 = 0 then (nm (s.1 + (1 : Int32)) fun v6 => (L_X2_amountOf_3 n3 t_rules t_signs t_values t_letters t_amounts t_conditions t_ends f3 x1 x2 k0 m) (v6, u5.2)) else k0 (s.1, u5.2)) else nm (s.1 + (1 : Int32)) fun v2 => (L_X2_amountOf_3 n3 t_rules t_signs t_values t_letters t_amounts t_conditions t_ends f3 x1 x2 k0 m) (v2, s.2)) := rfl
theorem st_X12_holdsAny_2 (t_clauses : Int32) (t_codes : (Nat → Int32)) (t_clauseOf : (Nat → Int32)) (t_codeHalf : (Nat → Int32)) (t_codeTo : (Nat → Int32)) (t_facts : (Nat → Int32)) (x1 : Int32) (m : Nat) (s : Int32 × (Nat → Int32)) : L_X12_holdsAny_2 t_clauses t_codes t_clauseOf t_codeHalf t_codeTo t_facts x1 (m + 1) s = (if t_clauses ≤ s.1 then (some ((0 : Int32), s.2)) else rd t_clauseOf 16 s.1 fun v1 => if v1 = x1 then (rd t_codeHalf 16 s.1 fun v3 => rd t_codeTo 16 s.1 fun v4 => (f_X12_reckonsTo t_codes s.2 t_facts v3 v4).bind fun u5 => if u5.1 = (1 : Int32) then (some ((1 : Int32), u5.2)) else nm (s.1 + (1 : Int32)) fun v6 => (L_X12_holdsAny_2 t_clauses t_codes t_clauseOf t_codeHalf t_codeTo t_facts x1 m) (v6, u5.2)) else nm (s.1 + (1 : Int32)) fun v2 => (L_X12_holdsAny_2 t_clauses t_codes t_clauseOf t_codeHalf t_codeTo t_facts x1 m) (v2, s.2)) := rfl
theorem st_X12_byLaw_2 (t_clauses : Int32) (t_codes : (Nat → Int32)) (t_clauseOf : (Nat → Int32)) (t_codeFrom : (Nat → Int32)) (t_codeHalf : (Nat → Int32)) (t_codeTo : (Nat → Int32)) (t_facts : (Nat → Int32)) (x1 : Int32) (x2 : Int32) (k0 : Int32 × (Nat → Int32) → Option (Int32 × (Nat → Int32))) (m : Nat) (s : Int32 × (Nat → Int32)) : L_X12_byLaw_2 t_clauses t_codes t_clauseOf t_codeFrom t_codeHalf t_codeTo t_facts x1 x2 k0 (m + 1) s = (if t_clauses ≤ s.1 then (some ((0 : Int32), s.2)) else rd t_clauseOf 16 s.1 fun v1 => if v1 = x1 then (rd t_codeHalf 16 s.1 fun v3 => rd t_codeTo 16 s.1 fun v4 => (f_X12_reckonsTo t_codes s.2 t_facts v3 v4).bind fun u5 => if u5.1 = (1 : Int32) then (k0 (s.1, u5.2)) else nm (s.1 + (1 : Int32)) fun v6 => (L_X12_byLaw_2 t_clauses t_codes t_clauseOf t_codeFrom t_codeHalf t_codeTo t_facts x1 x2 k0 m) (v6, u5.2)) else nm (s.1 + (1 : Int32)) fun v2 => (L_X12_byLaw_2 t_clauses t_codes t_clauseOf t_codeFrom t_codeHalf t_codeTo t_facts x1 x2 k0 m) (v2, s.2)) := rfl
theorem anyL_C {rules : Int32} {sg va letters amounts conditions ends f3 K : Nat → Int32} {W : LW} (hL : CLaw rules sg va letters amounts conditions ends W) (hK : ∀ q, q < 10 → f3 q = K q) {x : Nat} (hx : x < 256) : ∀ (d q m : Nat) (st : Nat → Int32), q + d = lR W → d < m → ∃ st', L_X2_isAnyTrue_2 10 rules sg va letters conditions ends f3 (nI x) m (nI q, st) = some (nI (if (lfd (lQ W x K) (lR W) d).isSome = true then 1 else 0), st') := by
  obtain ⟨rfl, hR, hL⟩ := hL
  intro d
  induction d with
  | zero =>
    intro q m st hq hm
    obtain ⟨m, rfl⟩ : ∃ k, m = k + 1 := ⟨m - 1, by omega⟩
    have q1 : (nI (lR W) ≤ nI q) = True := by rw [le_nI (by omega) (by omega)]; exact eq_true (by omega)
    rw [st_X2_isAnyTrue_2]
    simp only [ltz]
    simp (disch := omega) only [↓reduceIte, ↓some_bind, ↓nm_eq, ↓jn_eq, ↓wr_nI, ↓rd_nI, n10, n00, q1]
    exact ⟨st, rfl⟩
  | succ d ih =>
    intro q m st hq hm
    obtain ⟨m, rfl⟩ : ∃ k, m = k + 1 := ⟨m - 1, by omega⟩
    have q1 : (nI (lR W) ≤ nI q) = False := by rw [le_nI (by omega) (by omega)]; exact eq_false (by omega)
    have q16 : (nI 16 ≤ nI q) = False := by rw [le_nI (by omega) (by omega)]; exact eq_false (by omega)
    obtain ⟨a, h, t, g0, g1, g2, g3, g4, g5, g6, g7⟩ := hL q (by omega)
    have hn : lR W - 1 - d = q := by omega
    rw [st_X2_isAnyTrue_2]
    simp only [ltz]
    by_cases hx1 : lL W q = x
    · have e1 : (nI (lL W q) = nI x) = True := eq_true (by rw [hx1])
      obtain ⟨st1, r1⟩ := reckon_C (st := st) g6 hK g0 (Nat.le_refl _)
      by_cases hv : (lC W q K).getD (nI 0) = nI 0
      · rw [hv] at r1
        have hQ : lQ W x K q = false := by rw [lQ_yes hx1, decide_eq_true hv]; rfl
        simp (disch := omega) only [↓reduceIte, ↓some_bind, ↓nm_eq, ↓jn_eq, ↓wr_nI, ↓rd_nI, n10, n00, q1, q16, g1, g4, g5, e1, ↓bind_of r1, n01, add_nI, lfd, hn, hQ, Bool.false_eq_true]
        exact ih (q + 1) m st1 (by omega) (by omega)
      · have hQ : lQ W x K q = true := by rw [lQ_yes hx1, decide_eq_false hv]; rfl
        simp (disch := omega) only [↓reduceIte, ↓some_bind, ↓nm_eq, ↓jn_eq, ↓wr_nI, ↓rd_nI, n10, n00, q1, q16, g1, g4, g5, e1, ↓bind_of r1, hv, Option.isSome_some, add_nI, lfd, hn, hQ]
        exact ⟨st1, rfl⟩
    · have e1 : (nI (lL W q) = nI x) = False := by rw [eq_nI (by omega) (by omega)]; exact eq_false hx1
      have hQ : lQ W x K q = false := lQ_no hx1
      simp (disch := omega) only [↓reduceIte, ↓some_bind, ↓nm_eq, ↓jn_eq, ↓wr_nI, ↓rd_nI, n10, n00, q1, q16, g1, e1, add_nI, lfd, hn, hQ, Bool.false_eq_true]
      exact ih (q + 1) m st (by omega) (by omega)
theorem anyL_M {clauses : Int32} {codes clauseOf codeFrom codeHalf codeTo f3 K : Nat → Int32} {W : LW} (hL : MLaw clauses codes clauseOf codeFrom codeHalf codeTo W) (hW : WLaw W) (hK : ∀ q, q < 10 → f3 q = K q) {x : Nat} (hx : x < 256) : ∀ (d q m : Nat) (st : Nat → Int32), q + d = lR W → d < m → ∃ st', L_X12_holdsAny_2 clauses codes clauseOf codeHalf codeTo f3 (nI x) m (nI q, st) = some (nI (if (lfd (lQ W x K) (lR W) d).isSome = true then 1 else 0), st') := by
  obtain ⟨rfl, hR, hL⟩ := hL
  intro d
  induction d with
  | zero =>
    intro q m st hq hm
    obtain ⟨m, rfl⟩ : ∃ k, m = k + 1 := ⟨m - 1, by omega⟩
    have q1 : (nI (lR W) ≤ nI q) = True := by rw [le_nI (by omega) (by omega)]; exact eq_true (by omega)
    rw [st_X12_holdsAny_2]
    simp only [ltz]
    simp (disch := omega) only [↓reduceIte, ↓some_bind, ↓nm_eq, ↓jn_eq, ↓wr_nI, ↓rd_nI, n10, n00, q1]
    exact ⟨st, rfl⟩
  | succ d ih =>
    intro q m st hq hm
    obtain ⟨m, rfl⟩ : ∃ k, m = k + 1 := ⟨m - 1, by omega⟩
    have q1 : (nI (lR W) ≤ nI q) = False := by rw [le_nI (by omega) (by omega)]; exact eq_false (by omega)
    obtain ⟨a, h, t, g0, g1, g2, g3, g4, g5, g6, g7⟩ := hL q (by omega)
    have hn : lR W - 1 - d = q := by omega
    rw [st_X12_holdsAny_2]
    simp only [ltz]
    by_cases hx1 : lL W q = x
    · have e1 : (nI (lL W q) = nI x) = True := eq_true (by rw [hx1])
      obtain ⟨st1, r1⟩ := reckon_MM (st := st) g6 hK g0 (Nat.le_refl _)
      by_cases hv : (lC W q K).getD (nI 0) = nI 0
      · rw [hv] at r1
        have hQ : lQ W x K q = false := by rw [lQ_yes hx1, decide_eq_true hv]; rfl
        simp (disch := omega) only [↓reduceIte, ↓some_bind, ↓nm_eq, ↓jn_eq, ↓wr_nI, ↓rd_nI, n10, n00, q1, g1, g4, g5, e1, ↓bind_of r1, n01, add_nI, lfd, hn, hQ, Bool.false_eq_true]
        exact ih (q + 1) m st1 (by omega) (by omega)
      · have hQ : lQ W x K q = true := by rw [lQ_yes hx1, decide_eq_false hv]; rfl
        have hv1 := (B01_getD (hW q (by omega)) K).resolve_left hv
        rw [hv1] at r1
        simp (disch := omega) only [↓reduceIte, ↓some_bind, ↓nm_eq, ↓jn_eq, ↓wr_nI, ↓rd_nI, n10, n00, q1, g1, g4, g5, e1, ↓bind_of r1, eq_self, Option.isSome_some, add_nI, lfd, hn, hQ]
        exact ⟨st1, rfl⟩
    · have e1 : (nI (lL W q) = nI x) = False := by rw [eq_nI (by omega) (by omega)]; exact eq_false hx1
      have hQ : lQ W x K q = false := lQ_no hx1
      simp (disch := omega) only [↓reduceIte, ↓some_bind, ↓nm_eq, ↓jn_eq, ↓wr_nI, ↓rd_nI, n10, n00, q1, g1, e1, add_nI, lfd, hn, hQ, Bool.false_eq_true]
      exact ih (q + 1) m st (by omega) (by omega)
theorem amtL_C {rules : Int32} {sg va letters amounts conditions ends f3 K : Nat → Int32} {W : LW} (hL : CLaw rules sg va letters amounts conditions ends W) (hK : ∀ q, q < 10 → f3 q = K q) {x : Nat} (hx : x < 256) (x2 : Int32) (k0 : Int32 × (Nat → Int32) → Option (Int32 × (Nat → Int32))) : ∀ (d q m : Nat) (st : Nat → Int32), q + d = lR W → d < m → ∃ st', L_X2_amountOf_3 10 rules sg va letters amounts conditions ends f3 (nI x) x2 k0 m (nI q, st) = (match (generalizing := false) lfd (lQ W x K) (lR W) d with
    | none => some (nI 0, st')
    | some c => k0 (nI c, st')) := by
  obtain ⟨rfl, hR, hL⟩ := hL
  intro d
  induction d with
  | zero =>
    intro q m st hq hm
    obtain ⟨m, rfl⟩ : ∃ k, m = k + 1 := ⟨m - 1, by omega⟩
    have q1 : (nI (lR W) ≤ nI q) = True := by rw [le_nI (by omega) (by omega)]; exact eq_true (by omega)
    rw [st_X2_amountOf_3]
    simp only [ltz]
    simp (disch := omega) only [↓reduceIte, ↓some_bind, ↓nm_eq, ↓jn_eq, ↓wr_nI, ↓rd_nI, n10, n00, q1]
    exact ⟨st, rfl⟩
  | succ d ih =>
    intro q m st hq hm
    obtain ⟨m, rfl⟩ : ∃ k, m = k + 1 := ⟨m - 1, by omega⟩
    have q1 : (nI (lR W) ≤ nI q) = False := by rw [le_nI (by omega) (by omega)]; exact eq_false (by omega)
    have q16 : (nI 16 ≤ nI q) = False := by rw [le_nI (by omega) (by omega)]; exact eq_false (by omega)
    obtain ⟨a, h, t, g0, g1, g2, g3, g4, g5, g6, g7⟩ := hL q (by omega)
    have hn : lR W - 1 - d = q := by omega
    rw [st_X2_amountOf_3]
    simp only [ltz]
    by_cases hx1 : lL W q = x
    · have e1 : (nI (lL W q) = nI x) = True := eq_true (by rw [hx1])
      obtain ⟨st1, r1⟩ := reckon_C (st := st) g6 hK g0 (Nat.le_refl _)
      by_cases hv : (lC W q K).getD (nI 0) = nI 0
      · rw [hv] at r1
        have hQ : lQ W x K q = false := by rw [lQ_yes hx1, decide_eq_true hv]; rfl
        simp (disch := omega) only [↓reduceIte, ↓some_bind, ↓nm_eq, ↓jn_eq, ↓wr_nI, ↓rd_nI, n10, n00, q1, q16, g1, g4, g5, e1, ↓bind_of r1, n01, add_nI, lfd, hn, hQ, Bool.false_eq_true]
        exact ih (q + 1) m st1 (by omega) (by omega)
      · have hQ : lQ W x K q = true := by rw [lQ_yes hx1, decide_eq_false hv]; rfl
        simp (disch := omega) only [↓reduceIte, ↓some_bind, ↓nm_eq, ↓jn_eq, ↓wr_nI, ↓rd_nI, n10, n00, q1, q16, g1, g4, g5, e1, ↓bind_of r1, hv, Option.isSome_some, add_nI, lfd, hn, hQ]
        exact ⟨st1, rfl⟩
    · have e1 : (nI (lL W q) = nI x) = False := by rw [eq_nI (by omega) (by omega)]; exact eq_false hx1
      have hQ : lQ W x K q = false := lQ_no hx1
      simp (disch := omega) only [↓reduceIte, ↓some_bind, ↓nm_eq, ↓jn_eq, ↓wr_nI, ↓rd_nI, n10, n00, q1, q16, g1, e1, add_nI, lfd, hn, hQ, Bool.false_eq_true]
      exact ih (q + 1) m st (by omega) (by omega)
theorem amtL_M {clauses : Int32} {codes clauseOf codeFrom codeHalf codeTo f3 K : Nat → Int32} {W : LW} (hL : MLaw clauses codes clauseOf codeFrom codeHalf codeTo W) (hW : WLaw W) (hK : ∀ q, q < 10 → f3 q = K q) {x : Nat} (hx : x < 256) (x2 : Int32) (k0 : Int32 × (Nat → Int32) → Option (Int32 × (Nat → Int32))) : ∀ (d q m : Nat) (st : Nat → Int32), q + d = lR W → d < m → ∃ st', L_X12_byLaw_2 clauses codes clauseOf codeFrom codeHalf codeTo f3 (nI x) x2 k0 m (nI q, st) = (match (generalizing := false) lfd (lQ W x K) (lR W) d with
    | none => some (nI 0, st')
    | some c => k0 (nI c, st')) := by
  obtain ⟨rfl, hR, hL⟩ := hL
  intro d
  induction d with
  | zero =>
    intro q m st hq hm
    obtain ⟨m, rfl⟩ : ∃ k, m = k + 1 := ⟨m - 1, by omega⟩
    have q1 : (nI (lR W) ≤ nI q) = True := by rw [le_nI (by omega) (by omega)]; exact eq_true (by omega)
    rw [st_X12_byLaw_2]
    simp only [ltz]
    simp (disch := omega) only [↓reduceIte, ↓some_bind, ↓nm_eq, ↓jn_eq, ↓wr_nI, ↓rd_nI, n10, n00, q1]
    exact ⟨st, rfl⟩
  | succ d ih =>
    intro q m st hq hm
    obtain ⟨m, rfl⟩ : ∃ k, m = k + 1 := ⟨m - 1, by omega⟩
    have q1 : (nI (lR W) ≤ nI q) = False := by rw [le_nI (by omega) (by omega)]; exact eq_false (by omega)
    obtain ⟨a, h, t, g0, g1, g2, g3, g4, g5, g6, g7⟩ := hL q (by omega)
    have hn : lR W - 1 - d = q := by omega
    rw [st_X12_byLaw_2]
    simp only [ltz]
    by_cases hx1 : lL W q = x
    · have e1 : (nI (lL W q) = nI x) = True := eq_true (by rw [hx1])
      obtain ⟨st1, r1⟩ := reckon_MM (st := st) g6 hK g0 (Nat.le_refl _)
      by_cases hv : (lC W q K).getD (nI 0) = nI 0
      · rw [hv] at r1
        have hQ : lQ W x K q = false := by rw [lQ_yes hx1, decide_eq_true hv]; rfl
        simp (disch := omega) only [↓reduceIte, ↓some_bind, ↓nm_eq, ↓jn_eq, ↓wr_nI, ↓rd_nI, n10, n00, q1, g1, g4, g5, e1, ↓bind_of r1, n01, add_nI, lfd, hn, hQ, Bool.false_eq_true]
        exact ih (q + 1) m st1 (by omega) (by omega)
      · have hQ : lQ W x K q = true := by rw [lQ_yes hx1, decide_eq_false hv]; rfl
        have hv1 := (B01_getD (hW q (by omega)) K).resolve_left hv
        rw [hv1] at r1
        simp (disch := omega) only [↓reduceIte, ↓some_bind, ↓nm_eq, ↓jn_eq, ↓wr_nI, ↓rd_nI, n10, n00, q1, g1, g4, g5, e1, ↓bind_of r1, eq_self, Option.isSome_some, add_nI, lfd, hn, hQ]
        exact ⟨st1, rfl⟩
    · have e1 : (nI (lL W q) = nI x) = False := by rw [eq_nI (by omega) (by omega)]; exact eq_false hx1
      have hQ : lQ W x K q = false := lQ_no hx1
      simp (disch := omega) only [↓reduceIte, ↓some_bind, ↓nm_eq, ↓jn_eq, ↓wr_nI, ↓rd_nI, n10, n00, q1, g1, e1, add_nI, lfd, hn, hQ, Bool.false_eq_true]
      exact ih (q + 1) m st (by omega) (by omega)
theorem any_C {rules : Int32} {sg va letters amounts conditions ends f3 K : Nat → Int32} {W : LW} (hL : CLaw rules sg va letters amounts conditions ends W) (hK : ∀ q, q < 10 → f3 q = K q) {x : Nat} (hx : x < 256) (st : Nat → Int32) : ∃ st', f_X2_isAnyTrue 10 rules sg va st letters conditions ends f3 (nI x) = some (nI (if (lawF W x K).isSome = true then 1 else 0), st') := by
  have hR := hL.2.1
  exact anyL_C hL hK hx (lR W) 0 fu st (by omega) (fu_gt (by omega))
theorem any_M {clauses : Int32} {codes clauseOf codeFrom codeHalf codeTo f3 K : Nat → Int32} {W : LW} (hL : MLaw clauses codes clauseOf codeFrom codeHalf codeTo W) (hW : WLaw W) (hK : ∀ q, q < 10 → f3 q = K q) {x : Nat} (hx : x < 256) (st : Nat → Int32) : ∃ st', f_X12_holdsAny clauses codes clauseOf codeHalf codeTo st f3 (nI x) = some (nI (if (lawF W x K).isSome = true then 1 else 0), st') := by
  have hR := hL.2.1
  exact anyL_M hL hW hK hx (lR W) 0 fu st (by omega) (fu_gt (by omega))
theorem lawF_lt {W : LW} {x : Nat} {K : Nat → Int32} {c : Nat} (h : lawF W x K = some c) : c < lR W ∧ lL W c = x := by
  rcases lfd_ok (lQ W x K) (lR W) (lR W) (Nat.le_refl _) with ⟨e, _⟩ | ⟨c', e, e1, e2, _⟩
  · rw [show lawF W x K = lfd (lQ W x K) (lR W) (lR W) from rfl, e] at h
    cases h
  · rw [show lawF W x K = lfd (lQ W x K) (lR W) (lR W) from rfl, e] at h
    injection h with h
    subst h
    refine ⟨e2, ?_⟩
    by_cases hx : lL W c' = x
    · exact hx
    · rw [lQ_no hx] at e1
      cases e1
theorem amt_C {rules : Int32} {sg va letters amounts conditions ends f3 K : Nat → Int32} {W : LW} (hL : CLaw rules sg va letters amounts conditions ends W) (hK : ∀ q, q < 10 → f3 q = K q) {x : Nat} (hx : x < 256) (h120 : x ≠ 120) (most : Nat) (st : Nat → Int32) : ∃ st', f_X2_amountOf 10 rules sg va st letters amounts conditions ends f3 (nI x) (nI most) = some (lawV W x most K, st') := by
  have hR := hL.2.1
  have hL0 := hL
  obtain ⟨st1, h⟩ := amtL_C hL hK hx (nI most) (fun s7 => rd amounts 16 s7.1 fun v8 => rd conditions 16 s7.1 fun v9 => (f_X2_reckon 10 sg va s7.2 f3 v8 v9).bind fun u10 => some ((imax (nI 0) (imin (nI most) u10.1)), u10.2)) (lR W) 0 fu st (by omega) (fu_gt (by omega))
  unfold f_X2_amountOf lawV
  simp only [ltz]
  rw [h]
  rw [show lfd (lQ W x K) (lR W) (lR W) = lawF W x K from rfl]
  cases e : lawF W x K with
  | none => exact ⟨st1, rfl⟩
  | some c =>
    obtain ⟨hc1, hc2⟩ := lawF_lt e
    obtain ⟨a, h, t, g0, g1, g2, g3, g4, g5, g6, g7⟩ := hL0.2.2 c hc1
    obtain ⟨st2, r2⟩ := reckon_C (st := st1) (g7 (by rw [hc2]; exact h120)) hK (Nat.le_trans g6.1 g0) (Nat.le_refl _)
    simp (disch := omega) only [↓rd_nI, g3, g4, ↓bind_of r2]
    exact ⟨st2, rfl⟩
theorem amt_M {clauses : Int32} {codes clauseOf codeFrom codeHalf codeTo f3 K : Nat → Int32} {W : LW} (hL : MLaw clauses codes clauseOf codeFrom codeHalf codeTo W) (hW : WLaw W) (hK : ∀ q, q < 10 → f3 q = K q) {x : Nat} (hx : x < 256) (h120 : x ≠ 120) (most : Nat) (hm : most < 2147483648) (st : Nat → Int32) : ∃ st', f_X12_byLaw clauses codes clauseOf codeFrom codeHalf codeTo st f3 (nI x) (nI most) = some (lawV W x most K, st') := by
  have hR := hL.2.1
  have hL0 := hL
  obtain ⟨st1, h⟩ := amtL_M hL hW hK hx (nI most) (fun s7 => rd codeFrom 16 s7.1 fun v8 => rd codeHalf 16 s7.1 fun v9 => (f_X12_reckonsTo codes s7.2 f3 v8 v9).bind fun u10 => if nI 0 ≤ u10.1 then (if u10.1 ≤ nI most then (some (u10.1, u10.2)) else some (nI most, u10.2)) else some (nI 0, u10.2)) (lR W) 0 fu st (by omega) (fu_gt (by omega))
  unfold f_X12_byLaw lawV
  simp only [ltz]
  rw [h]
  rw [show lfd (lQ W x K) (lR W) (lR W) = lawF W x K from rfl]
  cases e : lawF W x K with
  | none => exact ⟨st1, rfl⟩
  | some c =>
    obtain ⟨hc1, hc2⟩ := lawF_lt e
    obtain ⟨a, h, t, g0, g1, g2, g3, g4, g5, g6, g7⟩ := hL0.2.2 c hc1
    obtain ⟨st2, r2⟩ := reckon_MM (st := st1) (g7 (by rw [hc2]; exact h120)) hK (Nat.le_trans g6.1 g0) (Nat.le_refl _)
    simp (disch := omega) only [↓rd_nI, g3, g4, ↓bind_of r2]
    refine ⟨st2, ?_⟩
    rw [← clamp_M most hm]
    generalize (lA W c K).getD (nI 0) = v
    by_cases h1 : nI 0 ≤ v
    · by_cases h2 : v ≤ nI most
      · rw [if_pos h1, if_pos h2, if_pos h1, if_pos h2]
      · rw [if_pos h1, if_neg h2, if_pos h1, if_neg h2]
    · rw [if_neg h1, if_neg h1]
