/-! THE LAW: the model's stack of what waits -/
def St (wa : Nat → Int32) : List Nat → Prop
  | [] => True
  | x :: r => wa r.length = nI x ∧ x < 2147483648 ∧ St wa r
theorem St_congr {wa wa' : Nat → Int32} : ∀ (W : List Nat), (∀ i, i < W.length → wa' i = wa i) → St wa W → St wa' W
  | [], _, _ => trivial
  | x :: r, hc, h => ⟨(hc r.length (by rw [List.length_cons]; omega)).trans h.1, h.2.1, St_congr r (fun i hi => hc i (by rw [List.length_cons]; omega)) h.2.2⟩
theorem St_push {wa : Nat → Int32} {W : List Nat} (h : St wa W) {x : Nat} (hx : x < 2147483648) : St (upd wa W.length (nI x)) (x :: W) := ⟨upd_at _ _ _, hx, St_congr W (fun i hi => upd_ne _ _ (by omega)) h⟩
theorem St_app {wa : Nat → Int32} : ∀ (P W : List Nat), St wa (P ++ W) → St wa W
  | [], _, h => h
  | _ :: P, W, h => St_app P W h.2.2
theorem St_in {wa : Nat → Int32} : ∀ (P W : List Nat), St wa (P ++ W) → ∀ i, W.length ≤ i → i < (P ++ W).length → ∃ x, x ∈ P ∧ wa i = nI x ∧ x < 2147483648
  | [], W, _, i, h1, h2 => by simp only [List.nil_append] at h2; omega
  | y :: P, W, h, i, h1, h2 => by
    rw [List.cons_append, List.length_cons] at h2
    by_cases e : i = (P ++ W).length
    · subst e
      exact ⟨y, List.mem_cons_self .., h.1, h.2.1⟩
    · obtain ⟨x, hx, h3⟩ := St_in P W h.2.2 i h1 (by omega)
      exact ⟨x, List.mem_cons_of_mem _ hx, h3⟩
theorem St_at {wa : Nat → Int32} {W : List Nat} (h : St wa W) {i : Nat} (hi : i < W.length) : ∃ x, wa i = nI x ∧ x < 2147483648 := by
  have h' : St wa (W ++ []) := by rw [List.append_nil]; exact h
  obtain ⟨x, _, h3⟩ := St_in W [] h' i (by simp only [List.length_nil]; omega) (by rw [List.append_nil]; exact hi)
  exact ⟨x, h3⟩
def tpI (W : List Nat) : Int32 := match W with
  | [] => -nI 1
  | x :: _ => nI (x / 1048576)
theorem top_M {wa : Nat → Int32} {W : List Nat} (h : St wa W) (hl : W.length ≤ 260) : f_X12_waitTop (nI W.length) wa = some (tpI W) := by
  unfold f_X12_waitTop
  simp only [ltz]
  cases W with
  | nil => simp only [List.length_nil, n00, ↓reduceIte]; rfl
  | cons x r =>
    rw [List.length_cons] at hl ⊢
    have q : (nI (r.length + 1) = nI 0) = False := by rw [eq_nI (by omega) (by omega)]; exact eq_false (by omega)
    have q2 : nI (r.length + 1) - nI 1 = nI r.length := sub_nI (by omega)
    simp (disch := omega) only [q, q2, ↓reduceIte, ↓rd_nI, h.1]
    rw [dv_nI h.2.1 (by omega) (by omega)]
    rfl
def TMu (W : List Nat) : Prop := tpI W < nI 4 ∨ ¬ tpI W ≤ nI 6
def TO (W : List Nat) : Prop := TMu W ∧ ¬ tpI W = nI 2 ∧ ¬ tpI W = nI 3
theorem TO_nil : TO [] := ⟨Or.inl (by decide), by decide, by decide⟩
theorem TO_cons {x : Nat} {W : List Nat} (h : 10 ≤ x / 1048576) (hx : x < 2147483648) : TO (x :: W) := by
  have h2 : x / 1048576 < 2147483648 := by omega
  refine ⟨Or.inr ?_, ?_, ?_⟩
  · show ¬ nI (x / 1048576) ≤ nI 6
    rw [le_nI h2 (by omega)]; omega
  · show ¬ nI (x / 1048576) = nI 2
    rw [eq_nI h2 (by omega)]; omega
  · show ¬ nI (x / 1048576) = nI 3
    rw [eq_nI h2 (by omega)]; omega
theorem TMu_cons {x : Nat} {W : List Nat} (h : x / 1048576 < 4) : TMu (x :: W) := by
  refine Or.inl ?_
  show nI (x / 1048576) < nI 4
  rw [lt_nI (by omega) (by omega)]; omega
theorem notes_M {c k v : Nat} (hc : c < 260) (sa : Nat → Int32) : f_X12_notes (nI c) sa (nI k) (nI v) = some (nI (c + 1), upd sa c (nI (1048576 * k + v))) := by
  unfold f_X12_notes
  simp only [ltz]
  simp (disch := omega) only [↓wr_nI, mul_nI, add_nI, ↓nm_eq]
theorem st_X12_closesSums_0 (t_waitsAt : (Nat → Int32)) (x1 : Int32) (m : Nat) (s : Int32 × Int32 × (Nat → Int32)) : L_X12_closesSums_0 t_waitsAt x1 (m + 1) s = ((f_X12_waitTop s.2.1 t_waitsAt).bind fun u1 => jn (fun s2 : Unit => (f_X12_waitTop s.2.1 t_waitsAt).bind fun u3 => (f_X12_notes s.1 s.2.2 u3 (0 : Int32)).bind fun u4 => nm (s.2.1 - (1 : Int32)) fun v5 => (L_X12_closesSums_0 t_waitsAt x1 m) (u4.1, v5, u4.2)) fun j37 => jn (fun s6 : Unit => if x1 = 0 then (some (s.1, s.2.1, s.2.2)) else (f_X12_waitTop s.2.1 t_waitsAt).bind fun u7 => if u7 = (2 : Int32) then (j37 ()) else (f_X12_waitTop s.2.1 t_waitsAt).bind fun u8 => if u8 = (3 : Int32) then (j37 ()) else some (s.1, s.2.1, s.2.2)) fun j17 => if u1 < (4 : Int32) then (j17 ()) else (f_X12_waitTop s.2.1 t_waitsAt).bind fun u9 => if u9 ≤ (6 : Int32) then (j37 ()) else j17 ()) := rfl
theorem closeStop {wa sa : Nat → Int32} {W : List Nat} {c m x1 : Nat} (h : St wa W) (hl : W.length ≤ 260) (hx : x1 = 0 ∨ x1 = 1) (hm : TMu W) (ht : x1 = 1 → TO W) : L_X12_closesSums_0 wa (nI x1) (m + 1) (nI c, nI W.length, sa) = some (nI c, nI W.length, sa) := by
  have tp := top_M h hl
  rw [st_X12_closesSums_0]
  simp only [ltz]
  have fin : ∀ K : Unit → Option (Int32 × Int32 × (Nat → Int32)), (if nI x1 = nI 0 then some (nI c, nI W.length, sa) else (f_X12_waitTop (nI W.length) wa).bind fun u7 => if u7 = nI 2 then K () else (f_X12_waitTop (nI W.length) wa).bind fun u8 => if u8 = nI 3 then K () else some (nI c, nI W.length, sa)) = some (nI c, nI W.length, sa) := by
    intro K
    rcases hx with rfl | rfl
    · rw [if_pos rfl]
    · have t := ht rfl
      rw [if_neg (by decide), tp, some_bind, if_neg t.2.1, some_bind, if_neg t.2.2]
  rcases hm with hm | hm
  · have q := eq_true hm
    simp only [↓bind_of tp, ↓jn_eq, q, ↓reduceIte]
    have := fin (fun _ => (f_X12_waitTop (nI W.length) wa).bind fun u3 => (f_X12_notes (nI c) sa u3 (nI 0)).bind fun u4 => nm (nI W.length - nI 1) fun v5 => L_X12_closesSums_0 wa (nI x1) m (u4.1, v5, u4.2))
    simp only [↓bind_of tp] at this
    exact this
  · by_cases hm2 : tpI W < nI 4
    · have q := eq_true hm2
      simp only [↓bind_of tp, ↓jn_eq, q, ↓reduceIte]
      have := fin (fun _ => (f_X12_waitTop (nI W.length) wa).bind fun u3 => (f_X12_notes (nI c) sa u3 (nI 0)).bind fun u4 => nm (nI W.length - nI 1) fun v5 => L_X12_closesSums_0 wa (nI x1) m (u4.1, v5, u4.2))
      simp only [↓bind_of tp] at this
      exact this
    · have q := eq_false hm2
      have q2 := eq_false hm
      simp only [↓bind_of tp, ↓jn_eq, q, q2, ↓reduceIte]
      have := fin (fun _ => (f_X12_waitTop (nI W.length) wa).bind fun u3 => (f_X12_notes (nI c) sa u3 (nI 0)).bind fun u4 => nm (nI W.length - nI 1) fun v5 => L_X12_closesSums_0 wa (nI x1) m (u4.1, v5, u4.2))
      simp only [↓bind_of tp] at this
      exact this
theorem closeStep {wa sa : Nat → Int32} {R : List Nat} {c m x1 k : Nat} (h : St wa (1048576 * k :: R)) (hl : R.length + 1 ≤ 260) (hc : c < 260) (hx : x1 = 0 ∨ x1 = 1) (hk : (4 ≤ k ∧ k ≤ 6) ∨ (x1 = 1 ∧ (k = 2 ∨ k = 3))) : L_X12_closesSums_0 wa (nI x1) (m + 1) (nI c, nI (R.length + 1), sa) = L_X12_closesSums_0 wa (nI x1) m (nI (c + 1), nI R.length, upd sa c (nI (1048576 * k + 0))) := by
  have tp : f_X12_waitTop (nI (R.length + 1)) wa = some (nI k) := by
    have := top_M h (by rw [List.length_cons]; exact hl)
    rw [List.length_cons] at this
    rw [this]
    show some (nI (1048576 * k / 1048576)) = _
    rw [show 1048576 * k / 1048576 = k by omega]
  have nt := notes_M (c := c) (k := k) (v := 0) hc sa
  have q2 : nI (R.length + 1) - nI 1 = nI R.length := sub_nI (by omega)
  rw [st_X12_closesSums_0]
  simp only [ltz]
  rcases hk with ⟨h1, h2⟩ | ⟨h1, h2⟩
  · have q : (nI k < nI 4) = False := by rw [lt_nI (by omega) (by omega)]; exact eq_false (by omega)
    have q3 : (nI k ≤ nI 6) = True := by rw [le_nI (by omega) (by omega)]; exact eq_true (by omega)
    simp only [↓bind_of tp, ↓jn_eq, q, q3, ↓reduceIte, ↓bind_of nt, ↓nm_eq, q2]
  · subst h1
    have q : (nI k < nI 4) = True := by rw [lt_nI (by omega) (by omega)]; exact eq_true (by omega)
    rcases h2 with rfl | rfl
    · simp only [↓bind_of tp, ↓jn_eq, q, n10, eq_self, ↓reduceIte, ↓bind_of nt, ↓nm_eq, q2]
    · have q4 : (nI 3 = nI 2) = False := eq_false (by decide)
      simp only [↓bind_of tp, ↓jn_eq, q, q4, n10, eq_self, ↓reduceIte, ↓bind_of nt, ↓nm_eq, q2]
theorem st_X12_hasOpenSum_2 (t_waiting : Int32) (t_waitsAt : (Nat → Int32)) (m : Nat) (s : Int32) : L_X12_hasOpenSum_2 t_waiting t_waitsAt (m + 1) s = (if t_waiting ≤ s then (some (0 : Int32)) else rd t_waitsAt 260 s fun v1 => dv v1 (1048576 : Int32) fun v2 => if v2 = (14 : Int32) then (some (1 : Int32)) else nm (s + (1 : Int32)) fun v3 => (L_X12_hasOpenSum_2 t_waiting t_waitsAt m) v3) := rfl
theorem hasN_M {wa : Nat → Int32} {len : Nat} (hl : len ≤ 260) : ∀ (r i m : Nat), i + r = len → r < m → (∀ j, i ≤ j → j < len → ∃ x, wa j = nI x ∧ x < 2147483648 ∧ ¬ x / 1048576 = 14) → L_X12_hasOpenSum_2 (nI len) wa m (nI i) = some (nI 0) := by
  intro r
  induction r with
  | zero =>
    intro i m hi hm h
    obtain ⟨m, rfl⟩ : ∃ k, m = k + 1 := ⟨m - 1, by omega⟩
    have q : (nI len ≤ nI i) = True := by rw [le_nI (by omega) (by omega)]; exact eq_true (by omega)
    rw [st_X12_hasOpenSum_2]
    simp only [ltz, q, ↓reduceIte]
  | succ r ih =>
    intro i m hi hm h
    obtain ⟨m, rfl⟩ : ∃ k, m = k + 1 := ⟨m - 1, by omega⟩
    have q : (nI len ≤ nI i) = False := by rw [le_nI (by omega) (by omega)]; exact eq_false (by omega)
    obtain ⟨x, h1, h2, h3⟩ := h i (Nat.le_refl _) (by omega)
    have hd : ∀ kk : Int32 → Option Int32, dv (wa i) (nI 1048576) kk = kk (nI (x / 1048576)) := fun kk => by rw [h1, dv_nI h2 (by omega) (by omega)]
    have q2 : (nI (x / 1048576) = nI 14) = False := by rw [eq_nI (by omega) (by omega)]; exact eq_false h3
    rw [st_X12_hasOpenSum_2]
    simp only [ltz]
    simp (disch := omega) only [q, ↓reduceIte, ↓rd_nI, ↓hd, q2, ↓nm_eq, add_nI]
    exact ih (i + 1) m (by omega) (by omega) (fun j h1 h2 => h j (by omega) h2)
theorem hasY_M {wa : Nat → Int32} {len : Nat} (hl : len ≤ 260) (hall : ∀ j, j < len → ∃ x, wa j = nI x ∧ x < 2147483648) : ∀ (r i m : Nat), i + r = len → r < m → (∃ j x, i ≤ j ∧ j < len ∧ wa j = nI x ∧ x < 2147483648 ∧ x / 1048576 = 14) → L_X12_hasOpenSum_2 (nI len) wa m (nI i) = some (nI 1) := by
  intro r
  induction r with
  | zero =>
    intro i m hi hm ⟨j, x, h1, h2, _⟩
    omega
  | succ r ih =>
    intro i m hi hm ⟨j, y, j1, j2, j3, j4, j5⟩
    obtain ⟨m, rfl⟩ : ∃ k, m = k + 1 := ⟨m - 1, by omega⟩
    have q : (nI len ≤ nI i) = False := by rw [le_nI (by omega) (by omega)]; exact eq_false (by omega)
    obtain ⟨x, h1, h2⟩ := hall i (by omega)
    have hd : ∀ kk : Int32 → Option Int32, dv (wa i) (nI 1048576) kk = kk (nI (x / 1048576)) := fun kk => by rw [h1, dv_nI h2 (by omega) (by omega)]
    rw [st_X12_hasOpenSum_2]
    simp only [ltz]
    by_cases h3 : x / 1048576 = 14
    · have q2 : (nI (x / 1048576) = nI 14) = True := by rw [h3]; exact eq_self _
      simp (disch := omega) only [q, ↓reduceIte, ↓rd_nI, ↓hd, q2]
    · have q2 : (nI (x / 1048576) = nI 14) = False := by rw [eq_nI (by omega) (by omega)]; exact eq_false h3
      simp (disch := omega) only [q, ↓reduceIte, ↓rd_nI, ↓hd, q2, ↓nm_eq, add_nI]
      refine ih (i + 1) m (by omega) (by omega) ⟨j, y, ?_, j2, j3, j4, j5⟩
      by_cases e : j = i
      · subst e
        rw [j3] at h1
        rw [eq_nI j4 h2] at h1
        subst h1
        exact absurd j5 h3
      · omega
theorem opens_Y {p o k : Nat} {x : Int32} {W : List Nat} {wa : Nat → Int32} (ho : o < 6) (hl : W.length < 260) : f_X12_opens (nI p) x (nI o) (nI W.length) wa (nI k) = some (nI 1, nI (p + 1), x, nI (o + 1), nI (W.length + 1), upd wa W.length (nI (1048576 * k))) := by
  have q : (nI o = nI 6) = False := by rw [eq_nI (by omega) (by omega)]; exact eq_false (by omega)
  unfold f_X12_opens
  simp only [ltz]
  simp (disch := omega) only [q, ↓reduceIte, ↓nm_eq, ↓wr_nI, mul_nI, add_nI]
theorem opens_N {p k : Nat} {x : Int32} {W : List Nat} {wa : Nat → Int32} : f_X12_opens (nI p) x (nI 6) (nI W.length) wa (nI k) = some (nI 0, nI p, flt 5 p, nI 6, nI W.length, wa) := by
  unfold f_X12_opens
  simp only [ltz]
  simp only [eq_self, ↓reduceIte, ↓bind_of (wrong_M x 5 p), ↓gb0]
theorem st_X12_readsNumber_10 (t_length0 : Int32) (t_fault : Int32) (t_tape : (Nat → Int32)) (x1 : Int32) (k0 : Int32 × Int32 → Option (Int32 × Int32 × Int32 × Int32)) (m : Nat) (s : Int32 × Int32) : L_X12_readsNumber_10 t_length0 t_fault t_tape x1 k0 (m + 1) s = ((f_X12_isDigit s.1 t_length0 t_tape).bind fun u1 => if u1 = 0 then (some ((1 : Int32), s.1, t_fault, s.2)) else if s.1 = (x1 + (5 : Int32)) then (k0 (s.1, s.2)) else (f_X12_here s.1 t_length0 t_tape).bind fun u2 => nm ((((10 : Int32) * s.2) + u2) - (48 : Int32)) fun v3 => nm (s.1 + (1 : Int32)) fun v4 => (L_X12_readsNumber_10 t_length0 t_fault t_tape x1 k0 m) (v4, v3)) := rfl
theorem numberL_M {n e q : Nat} {t x : Int32} {g : Nat → Int32} {b : Nat → Nat} (hn : n ≤ 260) (tM : MTape t g n b) (ht : txt e b) (he : e ≤ n) (k0 : Int32 × Int32 → Option (Int32 × Int32 × Int32 × Int32)) : ∀ (k i v p m : Nat), i + k = 5 → p = q + i → q < 90000 → v < 10 ^ i → k < m → L_X12_readsNumber_10 (nI e) x g (nI q) k0 m (nI p, nI v) = if (nmr e b k v p).2.2 = 0 then some (nI 1, nI (nmr e b k v p).2.1, x, nI (nmr e b k v p).1) else k0 (nI (nmr e b k v p).2.1, nI (nmr e b k v p).1) := by
  intro k
  induction k with
  | zero =>
    intro i v p m hi hp hq hv hm
    obtain ⟨m, rfl⟩ : ∃ q, m = q + 1 := ⟨m - 1, by omega⟩
    rw [st_X12_readsNumber_10]
    simp (disch := omega) only [ltz, digit_M hn tM ht he (show p < 100000 by omega), some_bind, b01, add_nI, eq_nI]
    rcases Bool.eq_false_or_eq_true (dgB e b p) with h | h
    · rw [if_neg (by rw [h]; decide), if_pos (by omega), nmr_z h]
      rfl
    · rw [if_pos h, nmr_n h]
      rfl
  | succ k ih =>
    intro i v p m hi hp hq hv hm
    obtain ⟨m, rfl⟩ : ∃ q, m = q + 1 := ⟨m - 1, by omega⟩
    rw [st_X12_readsNumber_10]
    simp (disch := omega) only [ltz, digit_M hn tM ht he (show p < 100000 by omega), some_bind, b01, add_nI, eq_nI, here_M hn tM he (show p < 100000 by omega), nm_eq]
    rcases Bool.eq_false_or_eq_true (dgB e b p) with h | h
    · obtain ⟨d1, d2, d3⟩ := hr_dig ht h
      rw [if_neg (by rw [h]; decide), if_neg (by omega), nmr_d h, d1, mul_nI, add_nI, sub_nI (by omega)]
      refine ih (i + 1) _ (p + 1) m (by omega) (by omega) hq ?_ (by omega)
      rw [Nat.pow_succ]
      omega
    · rw [if_pos h, nmr_n h]
      rfl
theorem number_M {n e p : Nat} {t x num : Int32} {g : Nat → Int32} {b : Nat → Nat} (hn : n ≤ 260) (tM : MTape t g n b) (ht : txt e b) (he : e ≤ n) (hp : p < 90000) : f_X12_readsNumber (nI p) (nI e) x num g = if (nmr e b 5 0 p).2.2 = 0 then some (nI 1, nI (nmr e b 5 0 p).2.1, x, nI (nmr e b 5 0 p).1) else some (nI 0, nI (nmr e b 5 0 p).2.1, flt 2 (nmr e b 5 0 p).2.1, nI (nmr e b 5 0 p).1) := by
  unfold f_X12_readsNumber
  simp only [ltz]
  rw [numberL_M hn tM ht he _ 5 0 0 p fu (by omega) (by omega) hp (by omega) (fu_gt (by omega))]
  split
  · rfl
  · simp only [↓bind_of (wrong_M x 2 _), ↓gb0]
