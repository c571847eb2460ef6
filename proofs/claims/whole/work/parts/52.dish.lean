/-! DISH -/
def cw (by_ : Nat → Nat) (n v : Nat) : Nat := sumN (fun i => if by_ i = v then 1 else 0) n
theorem cw_le (by_ : Nat → Nat) (n v : Nat) : cw by_ n v ≤ n := sumN_le1 n (fun i => by show (if by_ i = v then 1 else 0) ≤ 1; split <;> omega)
theorem cw_pos {by_ : Nat → Nat} : ∀ {n i : Nat}, i < n → 0 < cw by_ n (by_ i) := by
  intro n
  induction n with
  | zero => intro i h; omega
  | succ n ih =>
    intro i h
    show 0 < sumN _ n + (if by_ n = by_ i then 1 else 0)
    rcases Nat.lt_or_ge i n with h1 | h1
    · have := ih h1
      unfold cw at this
      omega
    · rw [show i = n by omega, if_pos rfl]
      omega
theorem cw_ex {by_ : Nat → Nat} {v : Nat} : ∀ {n : Nat}, 0 < cw by_ n v → ∃ i, i < n ∧ by_ i = v := by
  intro n
  induction n with
  | zero => intro h; simp [cw, sumN] at h
  | succ n ih =>
    intro h
    have h : 0 < cw by_ n v + (if by_ n = v then 1 else 0) := h
    by_cases hv : by_ n = v
    · exact ⟨n, by omega, hv⟩
    · rw [if_neg hv] at h
      obtain ⟨i, hi, e⟩ := ih (by omega)
      exact ⟨i, by omega, e⟩
theorem weigh_C {n m v : Nat} {f : Nat → Int32} {by_ : Nat → Nat} (tC : CTape (nI n) f n by_) (hm : m ≤ n) (hv : v < 256) : f_X5_howManyWeigh (nI n) f (nI m) (nI v) = some (nI (cw by_ m v)) := by
  have t1 := tC.1
  unfold f_X5_howManyWeigh L_X5_howManyWeigh_5
  refine lp_run (fun k => (nI (cw by_ k v), nI k)) m _ ?_ ?_ (fu_gt (by omega))
  · intro go k hk
    have hb := (tC.2.2 k (by omega)).2
    simp (disch := omega) only [ltz, le_nI, at_C tC (show k < n by omega), some_bind, eq_nI, nm_eq, add_nI]
    rw [if_neg (by omega)]
    show _ = go (nI (cw by_ k v + (if by_ k = v then 1 else 0)), nI (k + 1))
    by_cases h : by_ k = v <;> simp [h]
  · intro go
    simp (disch := omega) only [ltz, le_nI]
    rw [if_pos (by omega)]
theorem weigh_M {n m v : Nat} {t : Int32} {g : Nat → Int32} {by_ : Nat → Nat} (hn : n ≤ 260) (hby : ∀ i, i < n → by_ i < 256) (tM : MTape t g n by_) (hm : m ≤ n) (hv : v < 256) : f_X12_alikeTo g (nI m) (nI v) = some (nI (cw by_ m v)) := by
  unfold f_X12_alikeTo L_X12_alikeTo_5
  refine lp_run (fun k => (nI (cw by_ k v), nI k)) m _ ?_ ?_ (fu_gt (by omega))
  · intro go k hk
    have hb := hby k (by omega)
    simp (disch := omega) only [ltz, le_nI, at_M hn tM (show k < n by omega), some_bind, eq_nI, nm_eq, add_nI]
    rw [if_neg (by omega)]
    show _ = go (nI (cw by_ k v + (if by_ k = v then 1 else 0)), nI (k + 1))
    by_cases h : by_ k = v <;> simp [h]
  · intro go
    simp (disch := omega) only [ltz, le_nI]
    rw [if_pos (by omega)]
/-- the class's best so far -/
def cst (by_ : Nat → Nat) (m : Nat) : Nat → Option Nat
  | 0 => none
  | i + 1 => match cst by_ m i with
    | none => some (by_ i)
    | some b => if cw by_ m b < cw by_ m (by_ i) then some (by_ i) else if cw by_ m (by_ i) = cw by_ m b then (if b ≤ by_ i then some b else some (by_ i)) else some b
/-- the model's best so far -/
def mst (by_ : Nat → Nat) (m : Nat) : Nat → Nat
  | 0 => 0
  | k + 1 => if cw by_ m (k + 1) ≤ cw by_ m (mst by_ m k) then mst by_ m k else k + 1
theorem cst_ok (by_ : Nat → Nat) (m : Nat) : ∀ i, 0 < i → ∃ b j, cst by_ m i = some b ∧ j < i ∧ b = by_ j ∧ ∀ a, a < i → cw by_ m (by_ a) ≤ cw by_ m b ∧ (cw by_ m (by_ a) = cw by_ m b → b ≤ by_ a) := by
  intro i
  induction i with
  | zero => intro h; omega
  | succ i ih =>
    intro _
    rcases Nat.eq_zero_or_pos i with h0 | h0
    · subst h0
      exact ⟨by_ 0, 0, rfl, by omega, rfl, fun a ha => by rw [show a = 0 by omega]; exact ⟨Nat.le_refl _, fun _ => Nat.le_refl _⟩⟩
    · obtain ⟨b, j, e, hj, hb, hall⟩ := ih h0
      simp only [cst, e]
      by_cases h1 : cw by_ m b < cw by_ m (by_ i)
      · refine ⟨by_ i, i, if_pos h1, by omega, rfl, fun a ha => ?_⟩
        rcases Nat.lt_or_ge a i with h | h
        · have := hall a h
          exact ⟨by omega, fun q => by omega⟩
        · rw [show a = i by omega]; exact ⟨Nat.le_refl _, fun _ => Nat.le_refl _⟩
      · by_cases h2 : cw by_ m (by_ i) = cw by_ m b
        · by_cases h3 : b ≤ by_ i
          · refine ⟨b, j, by rw [if_neg h1, if_pos h2, if_pos h3], by omega, hb, fun a ha => ?_⟩
            rcases Nat.lt_or_ge a i with h | h
            · exact hall a h
            · rw [show a = i by omega]; exact ⟨by omega, fun _ => h3⟩
          · refine ⟨by_ i, i, by rw [if_neg h1, if_pos h2, if_neg h3], by omega, rfl, fun a ha => ?_⟩
            rcases Nat.lt_or_ge a i with h | h
            · obtain ⟨q1, q2⟩ := hall a h
              exact ⟨by omega, fun q => by have := q2 (by omega); omega⟩
            · rw [show a = i by omega]; exact ⟨Nat.le_refl _, fun _ => Nat.le_refl _⟩
        · refine ⟨b, j, by rw [if_neg h1, if_neg h2], by omega, hb, fun a ha => ?_⟩
          rcases Nat.lt_or_ge a i with h | h
          · exact hall a h
          · rw [show a = i by omega]; exact ⟨by omega, fun q => absurd q h2⟩
theorem mst_ok (by_ : Nat → Nat) (m : Nat) : ∀ k, mst by_ m k ≤ k ∧ ∀ v, v ≤ k → cw by_ m v ≤ cw by_ m (mst by_ m k) ∧ (cw by_ m v = cw by_ m (mst by_ m k) → mst by_ m k ≤ v) := by
  intro k
  induction k with
  | zero => exact ⟨Nat.le_refl _, fun v hv => by rw [show v = 0 by omega]; exact ⟨Nat.le_refl _, fun _ => Nat.le_refl _⟩⟩
  | succ k ih =>
    obtain ⟨h0, hall⟩ := ih
    simp only [mst]
    by_cases h : cw by_ m (k + 1) ≤ cw by_ m (mst by_ m k)
    · rw [if_pos h]
      refine ⟨by omega, fun v hv => ?_⟩
      rcases Nat.lt_or_ge v (k + 1) with h1 | h1
      · exact hall v (by omega)
      · rw [show v = k + 1 by omega]; exact ⟨h, fun _ => by omega⟩
    · rw [if_neg h]
      refine ⟨Nat.le_refl _, fun v hv => ?_⟩
      rcases Nat.lt_or_ge v (k + 1) with h1 | h1
      · have := hall v (by omega)
        exact ⟨by omega, fun q => by omega⟩
      · rw [show v = k + 1 by omega]; exact ⟨Nat.le_refl _, fun _ => Nat.le_refl _⟩
theorem best_same {by_ : Nat → Nat} {m : Nat} (hm : 0 < m) (hby : ∀ i, i < m → by_ i < 256) : cst by_ m m = some (mst by_ m 255) := by
  obtain ⟨b, j, e, hj, hb, hall⟩ := cst_ok by_ m m hm
  obtain ⟨h1, h2⟩ := mst_ok by_ m 255
  have hbl := hby j hj
  have p1 : 0 < cw by_ m b := by rw [hb]; exact cw_pos hj
  have q1 := h2 b (by omega)
  obtain ⟨i, hi, ei⟩ := cw_ex (v := mst by_ m 255) (by omega : 0 < cw by_ m (mst by_ m 255))
  have q2 := hall i hi
  rw [ei] at q2
  have : b = mst by_ m 255 := by
    have a1 := q2.2 (by omega)
    have a2 := q1.2 (by omega)
    omega
  rw [e, this]
theorem most_weightC {n m : Nat} {f : Nat → Int32} {by_ : Nat → Nat} (tC : CTape (nI n) f n by_) (hm : m ≤ n) (hm0 : 0 < m) : f_X5_mostWeight (nI n) f (nI m) = some (nI (mst by_ m 255)) := by
  have t1 := tC.1
  have hby : ∀ i, i < m → by_ i < 256 := fun i hi => (tC.2.2 i (by omega)).2
  have hbs := best_same hm0 hby
  have e0 : some (nI (mst by_ m 255)) = some (enc (-nI 1) (cst by_ m m)) := by rw [hbs]; rfl
  rw [e0]
  unfold f_X5_mostWeight L_X5_mostWeight_7
  refine lp_run (fun i => (enc (-nI 1) (cst by_ m i), (match cst by_ m i with
    | none => nI 0
    | some b => nI (cw by_ m b)), nI i)) m _ ?_ ?_ (fu_gt (by omega))
  · intro go i hi
    have hb := hby i hi
    have hc := cw_le by_ m (by_ i)
    have hp := cw_pos (by_ := by_) hi
    rcases Nat.eq_zero_or_pos i with h0 | h0
    · subst h0
      simp (disch := omega) only [ltz, le_nI, lt_nI, at_C tC (show 0 < n by omega), some_bind, weigh_C tC hm hb, nm_eq, add_nI, cst]
      rw [if_neg (by omega), if_pos hp]
      rfl
    · obtain ⟨b, j, e, hj, hbj, hall⟩ := cst_ok by_ m i h0
      have hbl : b < 256 := by rw [hbj]; exact hby j (by omega)
      have hc2 := cw_le by_ m b
      simp (disch := omega) only [ltz, le_nI, lt_nI, eq_nI, at_C tC (show i < n by omega), some_bind, weigh_C tC hm hb, nm_eq, add_nI, cst, e, enc]
      rw [if_neg (by omega)]
      by_cases h1 : cw by_ m b < cw by_ m (by_ i)
      · simp [h1]
      · by_cases h2 : cw by_ m (by_ i) = cw by_ m b
        · by_cases h3 : b ≤ by_ i
          · simp [h1, h2, h3]
          · simp [h1, h2, h3]
        · simp [h1, h2]
  · intro go
    simp (disch := omega) only [ltz, le_nI]
    rw [if_pos (by omega)]
theorem most_weightM {n m : Nat} {t : Int32} {g : Nat → Int32} {by_ : Nat → Nat} (hn : n ≤ 260) (hby : ∀ i, i < n → by_ i < 256) (tM : MTape t g n by_) (hm : m ≤ n) (x2 : Int32) (k0 : Int32 → Option (Int32 × Int32)) : L_X12_dish_39 (nI 0) g (nI m) x2 k0 fu (nI 0, nI 1) = k0 (nI (mst by_ m 255)) := by
  unfold L_X12_dish_39
  refine lp_run (fun k => (nI (mst by_ m k), nI (k + 1))) 255 _ ?_ ?_ (fu_gt (by omega))
  · intro go k hk
    have h1 := (mst_ok by_ m k).1
    have c1 := cw_le by_ m (k + 1)
    have c2 := cw_le by_ m (mst by_ m k)
    simp (disch := omega) only [ltz, le_nI, weigh_M hn hby tM hm, some_bind, nm_eq, add_nI]
    rw [if_neg (by omega)]
    simp only [mst]
    by_cases h : cw by_ m (k + 1) ≤ cw by_ m (mst by_ m k) <;> simp [h]
  · intro go
    simp (disch := omega) only [ltz, le_nI]
    rw [if_pos (by omega)]
theorem other_C {n m v : Nat} {f : Nat → Int32} {by_ : Nat → Nat} (tC : CTape (nI n) f n by_) (hm : m ≤ n) (hv : v < 256) : f_X5_firstOfAnother (nI n) f (nI m) (nI v) = some (enc (-nI 2) (fstN (fun i => by_ i == v) m)) := by
  have t1 := tC.1
  have e0 : some (enc (-nI 2) (fstN (fun i => by_ i == v) m)) = match fstN (fun i => by_ i == v) m with
      | none => some (-nI 2)
      | some k => some (nI k) := by cases fstN (fun i => by_ i == v) m <;> rfl
  rw [e0]
  unfold f_X5_firstOfAnother L_X5_firstOfAnother_2
  refine lp_find (fun i => nI i) m _ (fun k => some (nI k)) _ ?_ ?_ ?_ (fu_gt (by omega))
  · intro go k hk hP
    have hb := (tC.2.2 k (by omega)).2
    simp (disch := omega) only [ltz, le_nI, at_C tC (show k < n by omega), some_bind, eq_nI, nm_eq, add_nI]
    rw [if_neg (by omega), if_pos (by simpa using hP)]
  · intro go k hk hP
    have hb := (tC.2.2 k (by omega)).2
    simp (disch := omega) only [ltz, le_nI, at_C tC (show k < n by omega), some_bind, eq_nI, nm_eq, add_nI]
    rw [if_neg (by omega), if_neg (by simpa using hP)]
  · intro go
    simp (disch := omega) only [ltz, le_nI]
    rw [if_pos (by omega)]
theorem other_M {n m v : Nat} {t : Int32} {g : Nat → Int32} {by_ : Nat → Nat} (hn : n ≤ 260) (hby : ∀ i, i < n → by_ i < 256) (tM : MTape t g n by_) (hm : m ≤ n) (hv : v < 256) : L_X12_dish_93 (nI 0) g (nI m) (nI v) fu (nI 0) = some (enc (-nI 2) (fstN (fun i => by_ i == v) m), nI 0) := by
  have e0 : some (enc (-nI 2) (fstN (fun i => by_ i == v) m), nI 0) = match fstN (fun i => by_ i == v) m with
      | none => some (-nI 2, nI 0)
      | some k => some (nI k, nI 0) := by cases fstN (fun i => by_ i == v) m <;> rfl
  rw [e0]
  unfold L_X12_dish_93
  refine lp_find (fun i => nI i) m _ (fun k => some (nI k, nI 0)) _ ?_ ?_ ?_ (fu_gt (by omega))
  · intro go k hk hP
    have hb := hby k (by omega)
    simp (disch := omega) only [ltz, le_nI, at_M hn tM (show k < n by omega), some_bind, eq_nI, nm_eq, add_nI]
    rw [if_neg (by omega), if_pos (by simpa using hP)]
  · intro go k hk hP
    have hb := hby k (by omega)
    simp (disch := omega) only [ltz, le_nI, at_M hn tM (show k < n by omega), some_bind, eq_nI, nm_eq, add_nI]
    rw [if_neg (by omega), if_neg (by simpa using hP)]
  · intro go
    simp (disch := omega) only [ltz, le_nI]
    rw [if_pos (by omega)]
theorem B_dish {n : Nat} {size taped : Int32} {f g : Nat → Int32} {by_ : Nat → Nat} (tC : CTape size f n by_) (tM : MTape taped g n by_) (x1 x2 : Int32) : ∃ r r' n', f_X11_dish size f x1 x2 = some r ∧ f_X12_dish taped g x1 x2 = some r' ∧ r.1 = r'.1 ∧ r.2 = nI n' ∧ r'.2 = nI n' ∧ n' ≤ n := by
  obtain ⟨t1, rfl, t2⟩ := tC
  obtain ⟨rfl, t3⟩ := tM
  have tC : CTape (nI n) f n by_ := ⟨t1, rfl, t2⟩
  have tM : MTape (nI n) g n by_ := ⟨rfl, t3⟩
  have hby : ∀ i, i < n → by_ i < 256 := fun i hi => (t2 i hi).2
  unfold f_X11_dish f_X12_dish f_X8_clear
  simp only [ltz]
  rcases in01 x1 1 12 (by omega) (by omega) with ⟨e1, e2⟩ | ⟨m, hm1, hm, rfl, e1, e2⟩
  · simp only [e1, e2, some_bind, n00, if_true]
    exact ⟨_, _, n, rfl, rfl, rfl, rfl, rfl, Nat.le_refl _⟩
  · rcases in01 x2 0 2 (by omega) (by omega) with ⟨e3, e4⟩ | ⟨q, hq1, hq, rfl, e3, e4⟩
    · simp only [e1, e2, e3, e4, some_bind, n10, if_false, n00, if_true]
      exact ⟨_, _, n, rfl, rfl, rfl, rfl, rfl, Nat.le_refl _⟩
    · by_cases hmn : m ≤ n
      · have hv : mst by_ m 255 < 256 := by have := (mst_ok by_ m 255).1; omega
        simp (disch := omega) only [e1, e2, e3, e4, some_bind, n10, if_false, le_nI, hmn, if_true, most_weightC tC hmn (show 0 < m by omega), most_weightM t1 hby tM hmn, jn_eq, weigh_C tC hmn hv, weigh_M t1 hby tM hmn hv, other_C tC hmn hv, other_M t1 hby tM hmn hv]
        rcases (show q = 0 ∨ q = 1 ∨ q = 2 by omega) with rfl | rfl | rfl
        · exact ⟨_, _, 0, if_pos rfl, if_pos rfl, rfl, rfl, rfl, Nat.zero_le _⟩
        · exact ⟨_, _, 0, (if_neg (by decide)).trans (if_neg (by decide)), (if_neg (by decide)).trans (if_pos rfl), rfl, rfl, rfl, Nat.zero_le _⟩
        · exact ⟨_, _, 0, (if_neg (by decide)).trans (if_pos rfl), (if_neg (by decide)).trans (if_neg (by decide)), rfl, rfl, rfl, Nat.zero_le _⟩
      · simp (disch := omega) only [e1, e2, e3, e4, some_bind, n10, if_false, le_nI, hmn]
        exact ⟨_, _, n, rfl, rfl, rfl, rfl, rfl, Nat.le_refl _⟩
