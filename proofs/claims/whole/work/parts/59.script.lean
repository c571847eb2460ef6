/-! TEXTS: what stands at a place -/
theorem l1000 : (OfNat.ofNat 1000 : Int32) = nI 1000 := rfl
theorem gb0 {β : Type} (k : Option β) : gb (nI 0) k = k := if_pos (Or.inl rfl)
theorem gb1 {β : Type} (k : Option β) : gb (nI 1) k = k := if_pos (Or.inr rfl)
theorem gbB {β : Type} (c : Bool) (k : Option β) : gb (nI (if c = true then 1 else 0)) k = k := by cases c; exact gb0 k; exact gb1 k
def hN (e : Nat) (b : Nat → Nat) (p : Nat) : Nat := if p < e then b p else 999
def hr (e : Nat) (b : Nat → Nat) (p : Nat) : Int32 := if p < e then nI (b p) else -nI 1
def txt (e : Nat) (b : Nat → Nat) : Prop := e ≤ 260 ∧ ∀ i, i < e → b i < 256
theorem hN_lt {e : Nat} {b : Nat → Nat} (ht : txt e b) (p : Nat) : hN e b p < 256 ∧ p < e ∧ hr e b p = nI (hN e b p) ∨ hN e b p = 999 ∧ ¬ p < e ∧ hr e b p = -nI 1 := by
  unfold hN hr
  by_cases h : p < e
  · rw [if_pos h, if_pos h]; exact Or.inl ⟨ht.2 p h, h, rfl⟩
  · rw [if_neg h, if_neg h]; exact Or.inr ⟨rfl, h, rfl⟩
theorem m1_toInt : (-nI 1 : Int32).toInt = -1 := by decide
theorem eq_hr {e : Nat} {b : Nat → Nat} (ht : txt e b) (p : Nat) {c : Nat} (hc : c < 256) : (hr e b p = nI c) = (hN e b p = c) := by
  rcases hN_lt ht p with ⟨h1, h2, h3⟩ | ⟨h1, h2, h3⟩
  · rw [h3, eq_nI (by omega) (by omega)]
  · rw [h3, h1]
    apply propext
    constructor
    · intro h
      rw [i32_eq, m1_toInt, nI_toInt (by omega)] at h
      omega
    · intro h; omega
theorem in_hr {e : Nat} {b : Nat → Nat} (ht : txt e b) (p : Nat) {l h : Nat} (hh : h < 256) (hl : l < 256) : f_X12_in (hr e b p) (nI l) (nI h) = some (nI (if decide (l ≤ hN e b p ∧ hN e b p ≤ h) = true then 1 else 0)) := by
  rcases hN_lt ht p with ⟨h1, h2, h3⟩ | ⟨h1, h2, h3⟩
  · rw [h3, in_nI (by omega) (by omega) (by omega)]
  · rw [h3, h1, decide_eq_false (by omega)]
    unfold f_X12_in
    have : -nI 1 < nI l := by rw [i32_lt, m1_toInt, nI_toInt (by omega)]; omega
    rw [if_pos this]
    rfl
theorem win_in (x l h : Int32) : f_X11_isWithin x l h = f_X12_in x l h := by
  unfold f_X11_isWithin f_X12_in
  rfl
theorem sign_C {n e p : Nat} {f : Nat → Int32} {b : Nat → Nat} (tC : CTape (nI n) f n b) (he : e ≤ n) (hp : p < 100000) : fo_X7_sign (nI e) (nI p) (nI n) f = some (hr e b p) := by
  have t1 := tC.1
  unfold fo_X7_sign hr
  simp (disch := omega) only [ltz, le_nI]
  by_cases h : p < e
  · rw [if_neg (by omega), if_pos h, at_C tC (by omega), some_bind]
  · rw [if_pos (by omega), if_neg h]
theorem here_M {n e p : Nat} {t : Int32} {g : Nat → Int32} {b : Nat → Nat} (hn : n ≤ 260) (tM : MTape t g n b) (he : e ≤ n) (hp : p < 100000) : f_X12_here (nI p) (nI e) g = some (hr e b p) := by
  unfold f_X12_here hr
  simp (disch := omega) only [ltz, le_nI]
  by_cases h : p < e
  · have := tM.2 p (by omega)
    have e1 : g p &&& nI 255 = nI (b p) := this
    rw [if_neg (by omega), if_pos h, rd_nI (by omega) (by omega), e1]
  · rw [if_pos (by omega), if_neg h]
def dgB (e : Nat) (b : Nat → Nat) (p : Nat) : Bool := decide (48 ≤ hN e b p ∧ hN e b p ≤ 57)
theorem dgB_lt {e : Nat} {b : Nat → Nat} {p : Nat} (h : dgB e b p = true) : p < e := by
  unfold dgB hN at h
  simp only [decide_eq_true_eq] at h
  by_cases h1 : p < e
  · exact h1
  · rw [if_neg h1] at h; omega
theorem digit_C {n e p : Nat} {f : Nat → Int32} {b : Nat → Nat} (tC : CTape (nI n) f n b) (ht : txt e b) (he : e ≤ n) (hp : p < 100000) : fo_X7_isDigit (nI e) (nI p) (nI n) f = some (nI (if dgB e b p = true then 1 else 0)) := by
  unfold fo_X7_isDigit
  simp only [ltz, sign_C tC he hp, some_bind, win_in]
  rw [in_hr ht p (by omega) (by omega), some_bind, gbB]
  rfl
theorem digit_M {n e p : Nat} {t : Int32} {g : Nat → Int32} {b : Nat → Nat} (hn : n ≤ 260) (tM : MTape t g n b) (ht : txt e b) (he : e ≤ n) (hp : p < 100000) : f_X12_isDigit (nI p) (nI e) g = some (nI (if dgB e b p = true then 1 else 0)) := by
  have h := in_hr ht p (l := 48) (h := 57) (by omega) (by omega)
  unfold f_X12_in at h
  unfold f_X12_isDigit
  simp only [ltz, here_M hn tM he hp, some_bind] at h ⊢
  exact h
def flt (w p : Nat) : Int32 := -nI 1000 * nI w - nI p
theorem flt_ne : ∀ w p, 1 ≤ w → w ≤ 10 → p < 100000 → flt w p ≠ nI 0 := by
  intro w p h1 h2 h3 h
  unfold flt at h
  have e : -nI 1000 * nI w = -nI (1000 * w) := by
    rcases (show w = 1 ∨ w = 2 ∨ w = 3 ∨ w = 4 ∨ w = 5 ∨ w = 6 ∨ w = 7 ∨ w = 8 ∨ w = 9 ∨ w = 10 by omega) with rfl | rfl | rfl | rfl | rfl | rfl | rfl | rfl | rfl | rfl <;> decide
  rw [e, zI_nat, zI_nat, zI_neg, zI_sub, i32_eq, zI_toInt (by omega) (by omega)] at h
  have : (nI 0).toInt = 0 := by decide
  rw [this] at h
  omega
theorem fail_0 (w p : Nat) : f_X7_fail (nI 0) (nI w) (nI p) = some (flt w p) := by
  unfold f_X7_fail
  simp only [ltz, l1000, n00, if_true, nm_eq]
  rfl
theorem fail_n {x w p : Int32} (h : x ≠ nI 0) : f_X7_fail x w p = some x := if_neg h
theorem wrong_M (x : Int32) (w p : Nat) : f_X12_wrongAt x (nI w) (nI p) = some (nI 0, flt w p) := by
  unfold f_X12_wrongAt
  simp only [ltz, l1000, nm_eq]
  rfl
theorem sound_0 : f_X7_isSound (nI 0) = some (nI 1) := rfl
theorem sound_n {x : Int32} (h : x ≠ nI 0) : f_X7_isSound x = some (nI 0) := if_neg h
/-! a sign that is wanted -/
theorem take_C {n e p c : Nat} {f : Nat → Int32} {b : Nat → Nat} (tC : CTape (nI n) f n b) (ht : txt e b) (he : e ≤ n) (hp : p < 100000) (hc : c < 256) : fo_X7_take (nI e) (nI p) (nI 0) (nI n) f (nI c) = if hN e b p = c then some (nI 1, nI (p + 1)) else some (nI 0, nI p) := by
  unfold fo_X7_take
  simp only [ltz, n00, if_true, sign_C tC he hp, some_bind, eq_hr ht p hc, nm_eq, add_nI]
theorem want_C {n e p c : Nat} {f : Nat → Int32} {b : Nat → Nat} (tC : CTape (nI n) f n b) (ht : txt e b) (he : e ≤ n) (hp : p < 100000) (hc : c < 256) : fo_X7_want (nI e) (nI p) (nI 0) (nI n) f (nI c) = if hN e b p = c then some (nI (p + 1), nI 0) else some (nI p, flt 1 p) := by
  unfold fo_X7_want
  simp only [ltz]
  rw [take_C tC ht he hp hc]
  by_cases h : hN e b p = c
  · rw [if_pos h, if_pos h, some_bind]
    exact if_neg (by show ¬ nI 1 = nI 0; decide)
  · rw [if_neg h, if_neg h, some_bind]
    show (if nI 0 = nI 0 then _ else _) = _
    rw [if_pos rfl, fail_0, some_bind]
theorem want_n {e p x s c : Int32} {f : Nat → Int32} (h : x ≠ nI 0) : fo_X7_want e p x s f c = some (p, x) := by
  unfold fo_X7_want fo_X7_take
  have h' : ¬ x = 0 := h
  rw [if_neg h', some_bind]
  show (if (0 : Int32) = 0 then _ else _) = _
  rw [if_pos rfl, fail_n h, some_bind]
theorem takes_M {n e p c : Nat} {t x : Int32} {g : Nat → Int32} {b : Nat → Nat} (hn : n ≤ 260) (tM : MTape t g n b) (ht : txt e b) (he : e ≤ n) (hp : p < 100000) (hc : c < 256) : f_X12_takes (nI p) (nI e) x g (nI c) = if hN e b p = c then some (nI 1, nI (p + 1), x) else some (nI 0, nI p, flt 1 p) := by
  unfold f_X12_takes
  simp only [ltz, here_M hn tM he hp, some_bind, eq_hr ht p hc, nm_eq, add_nI, wrong_M, gb0]
/-! numbers: value, place, and 0 or 2 where a digit is too many -/
def nmr (e : Nat) (b : Nat → Nat) : Nat → Nat → Nat → Nat × Nat × Nat
  | 0, v, p => if dgB e b p then (v, p, 2) else (v, p, 0)
  | k + 1, v, p => if dgB e b p then nmr e b k (10 * v + hN e b p - 48) (p + 1) else (v, p, 0)
theorem nmr_ok {e : Nat} {b : Nat → Nat} : ∀ k v p, (nmr e b k v p).1 + 1 ≤ (v + 1) * 10 ^ k ∧ p ≤ (nmr e b k v p).2.1 ∧ (nmr e b k v p).2.1 ≤ p + k ∧ ((nmr e b k v p).2.2 = 0 ∨ (nmr e b k v p).2.2 = 2) ∧ ((nmr e b k v p).2.1 ≤ max p e) := by
  intro k
  induction k with
  | zero =>
    intro v p
    simp only [nmr]
    split
    · exact ⟨by simp, Nat.le_refl _, Nat.le_refl _, Or.inr rfl, by show p ≤ _; omega⟩
    · exact ⟨by simp, Nat.le_refl _, Nat.le_refl _, Or.inl rfl, by show p ≤ _; omega⟩
  | succ k ih =>
    intro v p
    simp only [nmr]
    have hp : 0 < 10 ^ k := Nat.pow_pos (by omega)
    split
    · rename_i h
      have hl := dgB_lt h
      obtain ⟨a1, a2, a3, a4, a5⟩ := ih (10 * v + hN e b p - 48) (p + 1)
      unfold dgB at h
      simp only [decide_eq_true_eq] at h
      refine ⟨?_, by omega, by omega, a4, by omega⟩
      have h1 : (10 * v + hN e b p - 48 + 1) * 10 ^ k ≤ (v + 1) * 10 * 10 ^ k := Nat.mul_le_mul_right _ (by omega)
      have h2 : (v + 1) * 10 ^ (k + 1) = (v + 1) * 10 * 10 ^ k := by rw [Nat.pow_succ, Nat.mul_assoc, Nat.mul_comm (10 ^ k) 10]
      omega
    · refine ⟨?_, Nat.le_refl _, Nat.le_add_right _ _, Or.inl rfl, by show p ≤ _; omega⟩
      show v + 1 ≤ (v + 1) * 10 ^ (k + 1)
      have : 1 ≤ 10 ^ (k + 1) := Nat.pow_pos (by omega)
      have := Nat.mul_le_mul_left (v + 1) this
      omega
def fw (w q : Nat) : Int32 := if w = 0 then nI 0 else flt w q
theorem fwS {w : Nat} (q : Nat) (h : ¬ w = 0) : fw w q = flt w q := if_neg h
theorem fw0 (q : Nat) : fw 0 q = nI 0 := rfl
theorem hr_dig {e : Nat} {b : Nat → Nat} (ht : txt e b) {p : Nat} (h : dgB e b p = true) : hr e b p = nI (hN e b p) ∧ 48 ≤ hN e b p ∧ hN e b p ≤ 57 := by
  unfold dgB at h
  simp only [decide_eq_true_eq] at h
  rcases hN_lt ht p with ⟨h1, h2, h3⟩ | ⟨h1, h2, h3⟩
  · exact ⟨h3, h⟩
  · omega
theorem number_s {te ts x : Int32} {tb : Nat → Int32} {m : Nat} {s : Int32 × Int32 × Int32 × Int32} : Lo_X7_number_20 te ts tb x (m + 1) s = if x < s.2.1 then (some (s.1, s.2.2.1, s.2.2.2)) else if s.2.2.2 = 0 then ((fo_X7_isDigit te s.2.2.1 ts tb).bind fun u3 => if u3 = 0 then (some (s.1, s.2.2.1, s.2.2.2)) else if s.2.1 = x then ((f_X7_fail s.2.2.2 (2 : Int32) s.2.2.1).bind fun u8 => nm (s.2.1 + (1 : Int32)) fun v9 => Lo_X7_number_20 te ts tb x m (s.1, v9, s.2.2.1, u8)) else (fo_X7_sign te s.2.2.1 ts tb).bind fun u4 => nm ((((10 : Int32) * s.1) + u4) - (48 : Int32)) fun v5 => nm (s.2.2.1 + (1 : Int32)) fun v6 => nm (s.2.1 + (1 : Int32)) fun v7 => Lo_X7_number_20 te ts tb x m (v5, v7, v6, s.2.2.2)) else some (s.1, s.2.2.1, s.2.2.2) := rfl
theorem numberL_C {n e : Nat} {f : Nat → Int32} {b : Nat → Nat} (tC : CTape (nI n) f n b) (ht : txt e b) (he : e ≤ n) (mx : Nat) (hmx : mx ≤ 5) : ∀ (k i v p m : Nat), i + k = mx → p + k < 100000 → v < 10 ^ i → k + 2 ≤ m → Lo_X7_number_20 (nI e) (nI n) f (nI mx) m (nI v, nI i, nI p, nI 0) = some (nI (nmr e b k v p).1, nI (nmr e b k v p).2.1, fw (nmr e b k v p).2.2 (nmr e b k v p).2.1) := by
  intro k
  induction k with
  | zero =>
    intro i v p m hi hp hv hm
    obtain ⟨m, rfl⟩ : ∃ q, m = q + 2 := ⟨m - 2, by omega⟩
    have : i = mx := by omega
    subst this
    rw [number_s]
    simp (disch := omega) only [ltz, lt_nI, n00, if_true, digit_C tC ht he (show p < 100000 by omega), some_bind, b01, fail_0, nm_eq, add_nI]
    rw [if_neg (by omega)]
    simp only [nmr]
    rcases Bool.eq_false_or_eq_true (dgB e b p) with h | h
    · rw [if_neg (by rw [h]; decide), number_s, if_pos h]
      simp (disch := omega) only [lt_nI]
      rw [if_pos (by omega)]
      rfl
    · rw [if_pos h, if_neg (by rw [h]; decide)]
      rfl
  | succ k ih =>
    intro i v p m hi hp hv hm
    obtain ⟨m, rfl⟩ : ∃ q, m = q + 1 := ⟨m - 1, by omega⟩
    rw [number_s]
    simp (disch := omega) only [ltz, lt_nI, n00, if_true, digit_C tC ht he (show p < 100000 by omega), some_bind, b01, eq_nI, sign_C tC he (show p < 100000 by omega), nm_eq, add_nI]
    rw [if_neg (by omega)]
    simp only [nmr]
    rcases Bool.eq_false_or_eq_true (dgB e b p) with h | h
    · obtain ⟨d1, d2, d3⟩ := hr_dig ht h
      rw [if_neg (by rw [h]; decide), if_neg (by omega), if_pos h, d1, mul_nI, add_nI, sub_nI (by omega)]
      refine ih (i + 1) _ (p + 1) m (by omega) (by omega) ?_ (by omega)
      rw [Nat.pow_succ]
      omega
    · rw [if_pos h, if_neg (by rw [h]; decide)]
      rfl
theorem number_C {n e p : Nat} {f : Nat → Int32} {b : Nat → Nat} (tC : CTape (nI n) f n b) (ht : txt e b) (he : e ≤ n) {mx : Nat} (hmx : mx ≤ 5) (hp : p < 90000) : fo_X7_number (nI e) (nI p) (nI 0) (nI n) f (nI mx) = if dgB e b p = true then some (nI (nmr e b mx 0 p).1, nI (nmr e b mx 0 p).2.1, fw (nmr e b mx 0 p).2.2 (nmr e b mx 0 p).2.1) else some (nI 0, nI p, flt 1 p) := by
  unfold fo_X7_number
  simp only [ltz, digit_C tC ht he (show p < 100000 by omega), some_bind, b01, jn_eq, fail_0]
  rcases Bool.eq_false_or_eq_true (dgB e b p) with h | h
  · rw [if_neg (by rw [h]; decide), if_pos h]
    have := numberL_C tC ht he mx hmx mx 0 0 p fu (by omega) (by omega) (by simp) (by have := fu_gt (show 7 < 20000 by omega); omega)
    exact this
  · rw [if_pos h, if_neg (by rw [h]; decide)]
    have e : fu = 19999 + 1 := rfl
    rw [e, number_s]
    have h1 := flt_ne 1 p (by omega) (by omega) (by omega)
    simp (disch := omega) only [ltz, lt_nI, h1, if_false]
    rw [if_neg (by omega)]
def NU (e : Nat) (b : Nat → Nat) (hi p : Nat) : Nat × Nat × Nat × Nat := if dgB e b p = true then (if (nmr e b 2 0 p).2.2 = 0 then (if (nmr e b 2 0 p).1 ≤ hi then ((nmr e b 2 0 p).1, (nmr e b 2 0 p).2.1, 0, 0) else ((nmr e b 2 0 p).1, (nmr e b 2 0 p).2.1, 3, p)) else ((nmr e b 2 0 p).1, (nmr e b 2 0 p).2.1, 2, (nmr e b 2 0 p).2.1)) else (0, p, 1, p)
theorem NU_ok (e : Nat) (b : Nat → Nat) (hi p : Nat) : (NU e b hi p).1 < 100 ∧ p ≤ (NU e b hi p).2.1 ∧ (NU e b hi p).2.1 ≤ p + 2 ∧ (NU e b hi p).2.1 ≤ max p e ∧ (NU e b hi p).2.2.1 ≤ 3 ∧ (NU e b hi p).2.2.2 ≤ p + 2 ∧ ((NU e b hi p).2.2.1 = 0 → (NU e b hi p).1 ≤ hi ∧ p < (NU e b hi p).2.1) := by
  obtain ⟨a1, a2, a3, a4, a5⟩ := nmr_ok (e := e) (b := b) 2 0 p
  unfold NU
  rcases Bool.eq_false_or_eq_true (dgB e b p) with h | h
  · rw [if_pos h]
    have hs : p < (nmr e b 2 0 p).2.1 := by
      simp only [nmr, h, if_true]
      rcases Bool.eq_false_or_eq_true (dgB e b (p + 1)) with h1 | h1
      · rw [if_pos h1]
        split <;> (show p < p + 1 + 1; omega)
      · rw [if_neg (by rw [h1]; decide)]
        show p < p + 1
        omega
    by_cases h1 : (nmr e b 2 0 p).2.2 = 0
    · rw [if_pos h1]
      by_cases h2 : (nmr e b 2 0 p).1 ≤ hi
      · rw [if_pos h2]
        dsimp only
        exact ⟨by omega, a2, a3, a5, by omega, by omega, fun _ => ⟨h2, hs⟩⟩
      · rw [if_neg h2]
        dsimp only
        exact ⟨by omega, a2, a3, a5, by omega, by omega, fun h => by omega⟩
    · rw [if_neg h1]
      dsimp only
      exact ⟨by omega, a2, a3, a5, by omega, a3, fun h => by omega⟩
  · rw [if_neg (by rw [h]; decide)]
    dsimp only
    exact ⟨by omega, by omega, by omega, by omega, by omega, by omega, fun h => by omega⟩
theorem upTo_C {n e p hi : Nat} {f : Nat → Int32} {b : Nat → Nat} (tC : CTape (nI n) f n b) (ht : txt e b) (he : e ≤ n) (hp : p < 90000) (hhi : hi < 1000) : fo_X7_numberUpTo (nI e) (nI p) (nI 0) (nI n) f (nI hi) = some (nI (NU e b hi p).1, nI (NU e b hi p).2.1, fw (NU e b hi p).2.2.1 (NU e b hi p).2.2.2) := by
  unfold fo_X7_numberUpTo
  simp only [ltz]
  rw [number_C tC ht he (show 2 ≤ 5 by omega) hp]
  obtain ⟨a1, a2, a3, a4, a5⟩ := nmr_ok (e := e) (b := b) 2 0 p
  rcases Bool.eq_false_or_eq_true (dgB e b p) with h | h
  · unfold NU
    simp only [h, if_true, some_bind]
    generalize nmr e b 2 0 p = z at *
    obtain ⟨v, p', w⟩ := z
    dsimp only at *
    simp (disch := omega) only [le_nI]
    rcases a4 with rfl | rfl
    · simp only [if_true]
      by_cases h1 : v ≤ hi
      · rw [if_pos h1, if_pos h1]
        dsimp only
        rw [fw0, fw0]
      · rw [if_neg h1, if_neg h1, fw0, fail_0, some_bind]
        dsimp only
        rw [fwS p (show ¬ (3 : Nat) = 0 by omega)]
    · rw [if_neg (show ¬ (2 : Nat) = 0 by omega)]
      have h2 : fw 2 p' ≠ nI 0 := by rw [fwS p' (show ¬ (2 : Nat) = 0 by omega)]; exact flt_ne 2 _ (by omega) (by omega) (by omega)
      rw [fail_n h2, some_bind]
      dsimp only
      split <;> exact Eq.refl _
  · have e1 : NU e b hi p = (0, p, 1, p) := by unfold NU; rw [h]; rfl
    rw [if_neg (by rw [h]; decide), some_bind, e1]
    simp (disch := omega) only [le_nI]
    rw [if_pos (by omega), fwS p (show ¬ (1 : Nat) = 0 by omega)]
theorem nmr_n {e : Nat} {b : Nat → Nat} {p : Nat} (h : dgB e b p = false) (k v : Nat) : nmr e b k v p = (v, p, 0) := by cases k <;> simp [nmr, h]
theorem nmr_z {e : Nat} {b : Nat → Nat} {p : Nat} (h : dgB e b p = true) (v : Nat) : nmr e b 0 v p = (v, p, 2) := by simp [nmr, h]
theorem nmr_d {e : Nat} {b : Nat → Nat} {p : Nat} (h : dgB e b p = true) (k v : Nat) : nmr e b (k + 1) v p = nmr e b k (10 * v + hN e b p - 48) (p + 1) := by simp [nmr, h]
theorem withinL_s {tl tf x1 x2 : Int32} {tt : Nat → Int32} {k0 k1 : Int32 × Int32 → Option (Int32 × Int32 × Int32 × Int32)} {m : Nat} {s : Int32 × Int32} : L_X12_readsWithin_27 tl tf tt x1 x2 k0 k1 (m + 1) s = (f_X12_isDigit s.1 tl tt).bind fun u2 => if u2 = 0 then (k1 (s.1, s.2)) else if s.1 = (x2 + (2 : Int32)) then (k0 (s.1, s.2)) else (f_X12_here s.1 tl tt).bind fun u3 => nm ((((10 : Int32) * s.2) + u3) - (48 : Int32)) fun v4 => nm (s.1 + (1 : Int32)) fun v5 => L_X12_readsWithin_27 tl tf tt x1 x2 k0 k1 m (v5, v4) := rfl
theorem withinL_M {n e q : Nat} {t x x1 : Int32} {g : Nat → Int32} {b : Nat → Nat} (hn : n ≤ 260) (tM : MTape t g n b) (ht : txt e b) (he : e ≤ n) (k0 k1 : Int32 × Int32 → Option (Int32 × Int32 × Int32 × Int32)) : ∀ (k i v p m : Nat), i + k = 2 → p = q + i → q < 90000 → v < 10 ^ i → k < m → L_X12_readsWithin_27 (nI e) x g x1 (nI q) k0 k1 m (nI p, nI v) = if (nmr e b k v p).2.2 = 0 then k1 (nI (nmr e b k v p).2.1, nI (nmr e b k v p).1) else k0 (nI (nmr e b k v p).2.1, nI (nmr e b k v p).1) := by
  intro k
  induction k with
  | zero =>
    intro i v p m hi hp hq hv hm
    obtain ⟨m, rfl⟩ : ∃ q, m = q + 1 := ⟨m - 1, by omega⟩
    rw [withinL_s]
    simp (disch := omega) only [ltz, digit_M hn tM ht he (show p < 100000 by omega), some_bind, b01, add_nI, eq_nI]
    rcases Bool.eq_false_or_eq_true (dgB e b p) with h | h
    · rw [if_neg (by rw [h]; decide), if_pos (by omega), nmr_z h]
      rfl
    · rw [if_pos h, nmr_n h]
      rfl
  | succ k ih =>
    intro i v p m hi hp hq hv hm
    obtain ⟨m, rfl⟩ : ∃ q, m = q + 1 := ⟨m - 1, by omega⟩
    rw [withinL_s]
    simp (disch := omega) only [ltz, digit_M hn tM ht he (show p < 100000 by omega), some_bind, b01, add_nI, eq_nI, here_M hn tM he (show p < 100000 by omega), nm_eq]
    rcases Bool.eq_false_or_eq_true (dgB e b p) with h | h
    · obtain ⟨d1, d2, d3⟩ := hr_dig ht h
      rw [if_neg (by rw [h]; decide), if_neg (by omega), nmr_d h, d1, mul_nI, add_nI, sub_nI (by omega)]
      refine ih (i + 1) _ (p + 1) m (by omega) (by omega) hq ?_ (by omega)
      rw [Nat.pow_succ]
      omega
    · rw [if_pos h, nmr_n h]
      rfl
theorem within_M {n e p hi : Nat} {t x num : Int32} {g : Nat → Int32} {b : Nat → Nat} (hn : n ≤ 260) (tM : MTape t g n b) (ht : txt e b) (he : e ≤ n) (hp : p < 90000) (hhi : hi < 1000) : ∃ num', f_X12_readsWithin (nI p) (nI e) x num g (nI hi) = (if (NU e b hi p).2.2.1 = 0 then some (nI 1, nI (NU e b hi p).2.1, x, nI (NU e b hi p).1) else some (nI 0, nI (NU e b hi p).2.1, fw (NU e b hi p).2.2.1 (NU e b hi p).2.2.2, num')) := by
  unfold f_X12_readsWithin
  obtain ⟨a1, a2, a3, a4, a5⟩ := nmr_ok (e := e) (b := b) 2 0 p
  simp only [ltz, digit_M hn tM ht he (show p < 100000 by omega), some_bind, b01]
  rcases Bool.eq_false_or_eq_true (dgB e b p) with h | h
  · refine ⟨nI (nmr e b 2 0 p).1, ?_⟩
    rw [if_neg (by rw [h]; decide), withinL_M hn tM ht he _ _ 2 0 0 p fu (by omega) (by omega) (by omega) (by simp) (fu_gt (by omega))]
    unfold NU
    simp only [h, if_true]
    generalize nmr e b 2 0 p = z at *
    obtain ⟨v, p', w⟩ := z
    dsimp only at *
    rcases a4 with rfl | rfl
    · simp (disch := omega) only [le_nI, if_true, wrong_M, some_bind, n00]
      by_cases h1 : v ≤ hi
      · rw [if_pos h1, if_pos h1]; rfl
      · rw [if_neg h1, if_neg h1]; rfl
    · rw [if_neg (by omega), wrong_M, some_bind, gb0]
      rfl
  · refine ⟨num, ?_⟩
    have e1 : NU e b hi p = (0, p, 1, p) := by unfold NU; rw [h]; rfl
    rw [if_pos h, wrong_M, some_bind, gb0, e1]
    rfl
