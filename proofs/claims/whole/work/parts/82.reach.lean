/-! REACH: rooms that are next to each other by a kind -/
def orN (f : Nat → Nat) : Nat → Nat
  | 0 => 0
  | n + 1 => orN f n ||| f n
theorem orN_tb (f : Nat → Nat) (i : Nat) : ∀ n, (orN f n).testBit i = true ↔ ∃ r, r < n ∧ (f r).testBit i = true := by
  intro n
  induction n with
  | zero =>
    constructor
    · intro h
      have h : (0 : Nat).testBit i = true := h
      rw [Nat.zero_testBit] at h
      cases h
    · rintro ⟨r, h, _⟩
      omega
  | succ n ih =>
    show (orN f n ||| f n).testBit i = true ↔ _
    rw [Nat.testBit_or, Bool.or_eq_true, ih]
    constructor
    · rintro (⟨r, h1, h2⟩ | h)
      · exact ⟨r, by omega, h2⟩
      · exact ⟨n, by omega, h⟩
    · rintro ⟨r, h1, h2⟩
      by_cases e : r = n
      · subst e; exact Or.inr h2
      · exact Or.inl ⟨r, by omega, h2⟩
theorem orN_lt {f : Nat → Nat} {m : Nat} : ∀ n, (∀ r, r < n → f r < 2 ^ m) → orN f n < 2 ^ m := by
  intro n
  induction n with
  | zero => intro _; exact Nat.two_pow_pos m
  | succ n ih =>
    intro h
    exact Nat.or_lt_two_pow (ih (fun r hr => h r (by omega))) (h n (by omega))
def Adj (D : DS) (k r r' : Nat) : Prop := ∃ d, d < 24 ∧ opn D d = true ∧ fitB D d k = true ∧ bhd D d r = some r'
def edW (D : DS) (d k r : Nat) : Nat := if (opn D d && fitB D d k) = true then (if on D d = r then 2 ^ ot D d else 0) ||| (if ot D d = r then 2 ^ on D d else 0) else 0
def nxD (D : DS) (n k r : Nat) : Nat := orN (fun d => edW D d k r) n
theorem edW_lt {D : DS} (hW : WDoors D) {d k r : Nat} (hd : d < 24) : edW D d k r < 2 ^ 16 := by
  obtain ⟨h1, h2, _⟩ := hW.2.2.2.1 d hd
  have p1 : 2 ^ ot D d < 2 ^ 16 := Nat.pow_lt_pow_right (by omega) (by omega)
  have p2 : 2 ^ on D d < 2 ^ 16 := Nat.pow_lt_pow_right (by omega) (by omega)
  unfold edW
  split
  · exact Nat.or_lt_two_pow (by split <;> omega) (by split <;> omega)
  · omega
theorem nxD_lt {D : DS} (hW : WDoors D) {n k r : Nat} (hn : n ≤ 24) : nxD D n k r < 65536 := orN_lt (m := 16) n (fun d hd => edW_lt hW (by omega))
theorem opn_told {D : DS} {d : Nat} (h : opn D d = true) : (dt D).testBit d = true := by
  unfold opn at h
  exact (Bool.and_eq_true_iff.1 h).1
theorem edW_tb {D : DS} (hW : WDoors D) {d k r r' : Nat} (hd : d < 24) : (edW D d k r).testBit r' = true ↔ opn D d = true ∧ fitB D d k = true ∧ bhd D d r = some r' := by
  unfold edW
  by_cases hc : (opn D d && fitB D d k) = true
  · rw [if_pos hc]
    rw [Bool.and_eq_true] at hc
    have hne := hW.2.2.2.2.1 d hd (opn_told hc.1)
    rw [Nat.testBit_or, Bool.or_eq_true]
    unfold bhd
    constructor
    · intro h
      refine ⟨hc.1, hc.2, ?_⟩
      rcases h with h | h
      · by_cases e : on D d = r
        · rw [if_pos e] at h ⊢
          rw [Nat.testBit_two_pow] at h
          rw [of_decide_eq_true h]
        · rw [if_neg e, Nat.zero_testBit] at h
          cases h
      · by_cases e : ot D d = r
        · rw [if_pos e, Nat.testBit_two_pow] at h
          rw [if_neg (fun e2 => hne (e2.trans e.symm)), if_pos e, of_decide_eq_true h]
        · rw [if_neg e, Nat.zero_testBit] at h
          cases h
    · rintro ⟨_, _, h⟩
      by_cases e : on D d = r
      · rw [if_pos e] at h ⊢
        injection h with h
        exact Or.inl (by rw [Nat.testBit_two_pow]; exact decide_eq_true h)
      · rw [if_neg e] at h
        by_cases e2 : ot D d = r
        · rw [if_pos e2] at h
          injection h with h
          exact Or.inr (by rw [if_pos e2, Nat.testBit_two_pow]; exact decide_eq_true h)
        · rw [if_neg e2] at h
          cases h
  · rw [if_neg hc, Nat.zero_testBit]
    rw [Bool.and_eq_true] at hc
    constructor
    · intro h; cases h
    · rintro ⟨h1, h2, _⟩
      exact absurd ⟨h1, h2⟩ hc
theorem nx_tb {D : DS} (hW : WDoors D) {k r r' : Nat} : (nxD D 24 k r).testBit r' = true ↔ Adj D k r r' := by
  unfold nxD
  rw [orN_tb]
  constructor
  · rintro ⟨d, h1, h2⟩
    exact ⟨d, h1, (edW_tb hW h1).1 h2⟩
  · rintro ⟨d, h1, h2⟩
    exact ⟨d, h1, (edW_tb hW h1).2 h2⟩
theorem bhd_symm {D : DS} (hW : WDoors D) {d r r' : Nat} (hd : d < 24) (ht : (dt D).testBit d = true) (h : bhd D d r = some r') : bhd D d r' = some r := by
  have hne := hW.2.2.2.2.1 d hd ht
  unfold bhd at h ⊢
  by_cases e : on D d = r
  · rw [if_pos e] at h
    injection h with h
    rw [if_neg (fun e2 => hne (e2.trans h.symm)), if_pos h, e]
  · rw [if_neg e] at h
    by_cases e2 : ot D d = r
    · rw [if_pos e2] at h
      injection h with h
      rw [if_pos h, e2]
    · rw [if_neg e2] at h
      cases h
theorem Adj_symm {D : DS} (hW : WDoors D) {k r r' : Nat} (h : Adj D k r r') : Adj D k r' r := by
  obtain ⟨d, h1, h2, h3, h4⟩ := h
  exact ⟨d, h1, h2, h3, bhd_symm hW h1 (opn_told h2) h4⟩
theorem Adj_lt {D : DS} (hW : WDoors D) {k r r' : Nat} (h : Adj D k r r') : r' ≤ 15 ∧ r ≤ 15 := by
  have h' := Adj_symm hW h
  obtain ⟨d, h1, _, _, h4⟩ := h
  obtain ⟨d', h1', _, _, h4'⟩ := h'
  exact ⟨bhd_lt hW h1 h4, bhd_lt hW h1' h4'⟩
theorem fill_N {n : Nat} (hn : n < 19000) (f : Nat → Int32) : f_J7_fill_53178 n f (nI 0) = some (mixN n (fun _ => nI 0) f) := by
  unfold f_J7_fill_53178 L_J7_fill_53178_5
  have a3 : Int32.ofNat n = nI n := rfl
  simp only [nm_eq, a3]
  refine lp_run0 (fun k => (nI k, mixN k (fun _ => nI 0) f)) n _ (by show _ = (nI 0, mixN 0 _ f); rw [mix_0]; rfl) ?_ ?_ (fu_gt (by omega))
  · intro go k hk
    have q : (nI n ≤ nI k) = False := by rw [le_nI (by omega) (by omega)]; exact eq_false (by omega)
    have e := mix_s k (fun _ => nI 0) f
    simp (disch := omega) only [ltz, q, ↓reduceIte, wr_nI, nm_eq, add_nI]
    rw [← e]
  · intro go
    have q : (nI n ≤ nI n) = True := by rw [le_nI (by omega) (by omega)]; exact eq_true (by omega)
    simp only [q, ↓reduceIte]
theorem st_X6_roomsNextTo_5 (t_next : (Nat → Int32)) (x1 : Int32) (x2 : Int32) (m : Nat) (s : Int32 × Int32) : L_X6_roomsNextTo_5 t_next x1 x2 (m + 1) s = (if (16 : Int32) ≤ s.2 then (some s.1) else if ((x1 >>> (s.2 &&& 31)) &&& (1 : Int32)) = 0 then (nm (s.2 + (1 : Int32)) fun v1 => (L_X6_roomsNextTo_5 t_next x1 x2 m) (s.1, v1)) else rd t_next 96 ((x2 * (16 : Int32)) + s.2) fun v2 => nm (s.1 ||| v2) fun v3 => nm (s.2 + (1 : Int32)) fun v4 => (L_X6_roomsNextTo_5 t_next x1 x2 m) (v3, v4)) := rfl
def nbN (D : DS) (k H : Nat) : Nat → Nat := orN (fun r => if H.testBit r = true then nxD D 24 k r else 0)
theorem nbN_lt {D : DS} (hW : WDoors D) (k H n : Nat) : nbN D k H n < 65536 := orN_lt (m := 16) n (fun r _ => by
  split
  · exact nxD_lt hW (by omega)
  · omega)
theorem nb_tb {D : DS} (hW : WDoors D) {k H r' : Nat} : (nbN D k H 16).testBit r' = true ↔ ∃ r, r < 16 ∧ H.testBit r = true ∧ Adj D k r r' := by
  unfold nbN
  rw [orN_tb]
  constructor
  · rintro ⟨r, h1, h2⟩
    by_cases e : H.testBit r = true
    · rw [if_pos e] at h2
      exact ⟨r, h1, e, (nx_tb hW).1 h2⟩
    · rw [if_neg e, Nat.zero_testBit] at h2
      cases h2
  · rintro ⟨r, h1, h2, h3⟩
    exact ⟨r, h1, by rw [if_pos h2]; exact (nx_tb hW).2 h3⟩
theorem roomsNext_C {D : DS} {next : Nat → Int32} (hW : WDoors D) (hx : ∀ k r, k < 6 → r < 16 → next (k * 16 + r) = nI (nxD D 24 k r)) {H k : Nat} (hH : H < 65536) (hk : k < 6) : f_X6_roomsNextTo next (nI H) (nI k) = some (nI (nbN D k H 16)) := by
  unfold f_X6_roomsNextTo L_X6_roomsNextTo_5
  refine lp_run (fun r => (nI (nbN D k H r), nI r)) 16 _ ?_ ?_ (fu_gt (by omega))
  · intro go r hr
    have q : (nI 16 ≤ nI r) = False := by rw [le_nI (by omega) (by omega)]; exact eq_false (by omega)
    have hb := bit_of (n := H) (j := r) (by omega) (by omega)
    have hj : k * 16 + r < 96 := by omega
    by_cases e : H.testBit r = true
    · rw [if_pos e] at hb
      have e2 : nbN D k H (r + 1) = nbN D k H r ||| nxD D 24 k r := by
        show nbN D k H r ||| (if H.testBit r = true then nxD D 24 k r else 0) = _
        rw [if_pos e]
      simp only [ltz]
      simp (disch := omega) only [q, ↓reduceIte, hb, n10, mul_nI, add_nI, rd_nI, hx k r hk hr, nm_eq]
      rw [or_nI, e2]
    · rw [if_neg e] at hb
      have e2 : nbN D k H (r + 1) = nbN D k H r := by
        show nbN D k H r ||| (if H.testBit r = true then nxD D 24 k r else 0) = _
        rw [if_neg e, Nat.or_zero]
      simp only [ltz]
      simp (disch := omega) only [q, ↓reduceIte, hb, n00, add_nI, nm_eq]
      rw [e2]
  · intro go
    have q : (nI 16 ≤ nI 16) = True := by rw [le_nI (by omega) (by omega)]; exact eq_true (by omega)
    simp only [ltz, q, ↓reduceIte]
def frB (T : TS) (x v k : Nat) : Bool := decide (dg v k < pn T (6 * x + k))
theorem freeKinds_C {T : TS} {left : Nat → Int32} {x v : Nat} (hT : WTown T) (hx : x < 10) (hl : ∀ k, k < 6 → left k = nI (pn T (6 * x + k))) (hv : VW v) : f_X6_freeKinds left (nI (wy v)) = some (nI (bitsN (frB T x v) 6)) := by
  unfold f_X6_freeKinds L_X6_freeKinds_4
  refine lp_run (fun k => (nI (bitsN (frB T x v) k), nI k)) 6 _ ?_ ?_ (fu_gt (by omega))
  · intro go k hk
    have q : (nI 6 ≤ nI k) = False := by rw [le_nI (by omega) (by omega)]; exact eq_false (by omega)
    have hd := dig_C hv k hk
    have hl2 := dg_lt v k
    have h60 := pn_lt hT (show 6 * x + k < 60 by omega)
    simp only [ltz]
    simp (disch := omega) only [q, ↓reduceIte, rd_nI, hl k hk, mul_nI, hd, le_nI, nm_eq, add_nI, or_bit]
    simp only [bitsN]
    by_cases e : dg v k < pn T (6 * x + k)
    · have hb : frB T x v k = true := decide_eq_true e
      rw [if_neg (by omega)]
      simp [hb]
    · have hb : frB T x v k = false := decide_eq_false e
      rw [if_pos (by omega)]
      simp [hb]
  · intro go
    have q : (nI 6 ≤ nI 6) = True := by rw [le_nI (by omega) (by omega)]; exact eq_true (by omega)
    simp only [ltz, q, ↓reduceIte]
