/-! THE LAW: the model's sums -/
def KF (t_length0 t_number0 t_codeMany : Int32) (t_tape t_said : Nat → Int32) : Int32 × Int32 × Int32 × Int32 × (Nat → Int32) → Option (Int32 × Int32 × Int32 × Int32 × Int32 × Int32 × Int32 × (Nat → Int32) × (Nat → Int32)) := (fun s3 => (f_X12_isDigit s3.1 t_length0 t_tape).bind fun u4 => if u4 = 0 then ((f_X12_here s3.1 t_length0 t_tape).bind fun u5 => (f_X12_factOf u5).bind fun u6 => if u6 = (-1 : Int32) then ((f_X12_wrongAt s3.2.1 (1 : Int32) s3.1).bind fun u9 => gb u9.1 <| some (u9.1, s3.1, u9.2, t_number0, s3.2.2.1, t_codeMany, s3.2.2.2.1, t_said, s3.2.2.2.2)) else (f_X12_notes t_codeMany t_said (1 : Int32) u6).bind fun u7 => nm (s3.1 + (1 : Int32)) fun v8 => some ((1 : Int32), v8, s3.2.1, t_number0, s3.2.2.1, u7.1, s3.2.2.2.1, u7.2, s3.2.2.2.2)) else (f_X12_readsNumber s3.1 t_length0 s3.2.1 t_number0 t_tape).bind fun u10 => if u10.1 = 0 then (some ((0 : Int32), u10.2.1, u10.2.2.1, u10.2.2.2, s3.2.2.1, t_codeMany, s3.2.2.2.1, t_said, s3.2.2.2.2)) else (f_X12_notes t_codeMany t_said (0 : Int32) u10.2.2.2).bind fun u11 => some ((1 : Int32), u10.2.1, u10.2.2.1, u10.2.2.2, s3.2.2.1, u11.1, s3.2.2.2.1, u11.2, s3.2.2.2.2))
def KS (t_waiting : Int32) : Int32 × Int32 × Int32 × Int32 × Int32 × Int32 × (Nat → Int32) × (Nat → Int32) → Option (Int32 × Int32 × Int32 × Int32 × Int32 × Int32 × Int32 × (Nat → Int32) × (Nat → Int32)) := (fun s16 => (f_X12_hasOpenSum s16.2.2.2.2.2.1 s16.2.2.2.2.2.2.2 t_waiting).bind fun u17 => if u17 = 0 then ((f_X12_closesSums s16.2.2.2.2.1 s16.2.2.2.2.2.1 s16.2.2.2.2.2.2.1 s16.2.2.2.2.2.2.2 (1 : Int32)).bind fun u18 => some ((1 : Int32), s16.1, s16.2.1, s16.2.2.1, s16.2.2.2.1, u18.1, u18.2.1, u18.2.2, s16.2.2.2.2.2.2.2)) else (f_X12_wrongAt s16.2.1 (1 : Int32) s16.1).bind fun u19 => gb u19.1 <| some (u19.1, s16.1, u19.2, s16.2.2.1, s16.2.2.2.1, s16.2.2.2.2.1, s16.2.2.2.2.2.1, s16.2.2.2.2.2.2.1, s16.2.2.2.2.2.2.2))
def LSm (e bs : Nat) (g : Nat → Int32) (m p : Nat) (x num : Int32) (o c : Nat) (W : List Nat) (sa wa : Nat → Int32) : Option (Int32 × Int32 × Int32 × Int32 × Int32 × Int32 × Int32 × (Nat → Int32) × (Nat → Int32)) := L_X12_readsSum_14 (nI e) g (nI bs) (KS (nI bs)) m (nI p, x, num, nI o, nI c, nI W.length, sa, wa)
def RFm (e bs : Nat) (g : Nat → Int32) (j m p : Nat) (x num : Int32) (o c : Nat) (W : List Nat) (sa wa : Nat → Int32) : Option (Int32 × Int32 × Int32 × Int32 × Int32 × Int32 × Int32 × (Nat → Int32) × (Nat → Int32)) := (L_X12_readsFactor_0 (nI e) num (nI c) g sa (KF (nI e) num (nI c) g sa) j (nI p, x, nI o, nI W.length, wa)).bind fun u1 => if u1.1 = nI 0 then some (nI 0, u1.2.1, u1.2.2.1, u1.2.2.2.1, u1.2.2.2.2.1, u1.2.2.2.2.2.1, u1.2.2.2.2.2.2.1, u1.2.2.2.2.2.2.2.1, u1.2.2.2.2.2.2.2.2) else L_X12_readsSum_14 (nI e) g (nI bs) (KS (nI bs)) m (u1.2.1, u1.2.2.1, u1.2.2.2.1, u1.2.2.2.2.1, u1.2.2.2.2.2.1, u1.2.2.2.2.2.2.1, u1.2.2.2.2.2.2.2.1, u1.2.2.2.2.2.2.2.2)
theorem rs_eq (e bs p o c : Nat) (x num : Int32) (W : List Nat) (g sa wa : Nat → Int32) (hb : W.length = bs) : f_X12_readsSum (nI p) (nI e) x num (nI o) (nI c) (nI W.length) g sa wa = RFm e bs g fu fu p x num o c W sa wa := by
  subst hb
  rfl
theorem st_X12_readsFactor_0 (t_length0 : Int32) (t_number0 : Int32) (t_codeMany : Int32) (t_tape : (Nat → Int32)) (t_said : (Nat → Int32)) (k0 : Int32 × Int32 × Int32 × Int32 × (Nat → Int32) → Option (Int32 × Int32 × Int32 × Int32 × Int32 × Int32 × Int32 × (Nat → Int32) × (Nat → Int32))) (m : Nat) (s : Int32 × Int32 × Int32 × Int32 × (Nat → Int32)) : L_X12_readsFactor_0 t_length0 t_number0 t_codeMany t_tape t_said k0 (m + 1) s = ((f_X12_here s.1 t_length0 t_tape).bind fun u1 => if u1 = (91 : Int32) then ((f_X12_opens s.1 s.2.1 s.2.2.1 s.2.2.2.1 s.2.2.2.2 (14 : Int32)).bind fun u2 => if u2.1 = 0 then (some ((0 : Int32), u2.2.1, u2.2.2.1, t_number0, u2.2.2.2.1, t_codeMany, u2.2.2.2.2.1, t_said, u2.2.2.2.2.2)) else (L_X12_readsFactor_0 t_length0 t_number0 t_codeMany t_tape t_said k0 m) (u2.2.1, u2.2.2.1, u2.2.2.2.1, u2.2.2.2.2.1, u2.2.2.2.2.2)) else k0 (s.1, s.2.1, s.2.2.1, s.2.2.2.1, s.2.2.2.2)) := rfl
theorem st_X12_readsSum_14 (t_length0 : Int32) (t_tape : (Nat → Int32)) (x1 : Int32) (k0 : Int32 × Int32 × Int32 × Int32 × Int32 × Int32 × (Nat → Int32) × (Nat → Int32) → Option (Int32 × Int32 × Int32 × Int32 × Int32 × Int32 × Int32 × (Nat → Int32) × (Nat → Int32))) (m : Nat) (s : Int32 × Int32 × Int32 × Int32 × Int32 × Int32 × (Nat → Int32) × (Nat → Int32)) : L_X12_readsSum_14 t_length0 t_tape x1 k0 (m + 1) s = ((f_X12_here s.1 t_length0 t_tape).bind fun u2 => (f_X12_sumSign u2).bind fun u3 => if u3 = (-1 : Int32) then ((f_X12_here s.1 t_length0 t_tape).bind fun u4 => if u4 = (93 : Int32) then ((f_X12_hasOpenSum s.2.2.2.2.2.1 s.2.2.2.2.2.2.2 x1).bind fun u5 => if u5 = 0 then (k0 (s.1, s.2.1, s.2.2.1, s.2.2.2.1, s.2.2.2.2.1, s.2.2.2.2.2.1, s.2.2.2.2.2.2.1, s.2.2.2.2.2.2.2)) else (f_X12_closesSums s.2.2.2.2.1 s.2.2.2.2.2.1 s.2.2.2.2.2.2.1 s.2.2.2.2.2.2.2 (1 : Int32)).bind fun u6 => nm (u6.2.1 - (1 : Int32)) fun v7 => nm (s.2.2.2.1 - (1 : Int32)) fun v8 => nm (s.1 + (1 : Int32)) fun v9 => (L_X12_readsSum_14 t_length0 t_tape x1 k0 m) (v9, s.2.1, s.2.2.1, v8, u6.1, v7, u6.2.2, s.2.2.2.2.2.2.2)) else k0 (s.1, s.2.1, s.2.2.1, s.2.2.2.1, s.2.2.2.2.1, s.2.2.2.2.2.1, s.2.2.2.2.2.2.1, s.2.2.2.2.2.2.2)) else jn (fun s10 : Int32 => (f_X12_closesSums s.2.2.2.2.1 s.2.2.2.2.2.1 s.2.2.2.2.2.2.1 s.2.2.2.2.2.2.2 s10).bind fun u11 => wr s.2.2.2.2.2.2.2 260 u11.2.1 ((1048576 : Int32) * u3) fun g12 => nm (u11.2.1 + (1 : Int32)) fun v13 => nm (s.1 + (1 : Int32)) fun v14 => (f_X12_readsFactor v14 t_length0 s.2.1 s.2.2.1 s.2.2.2.1 u11.1 v13 t_tape u11.2.2 g12).bind fun u15 => if u15.1 = 0 then (some ((0 : Int32), u15.2.1, u15.2.2.1, u15.2.2.2.1, u15.2.2.2.2.1, u15.2.2.2.2.2.1, u15.2.2.2.2.2.2.1, u15.2.2.2.2.2.2.2.1, u15.2.2.2.2.2.2.2.2)) else (L_X12_readsSum_14 t_length0 t_tape x1 k0 m) (u15.2.1, u15.2.2.1, u15.2.2.2.1, u15.2.2.2.2.1, u15.2.2.2.2.2.1, u15.2.2.2.2.2.2.1, u15.2.2.2.2.2.2.2.1, u15.2.2.2.2.2.2.2.2)) fun j38 => if (4 : Int32) ≤ u3 then (j38 (0 : Int32)) else j38 (1 : Int32)) := rfl
theorem rf_open {n e : Nat} {t : Int32} {g : Nat → Int32} {b : Nat → Nat} (hn : n ≤ 260) (tM : MTape t g n b) (ht : txt e b) (he : e ≤ n) (he2 : e ≤ 240) {bs j m p o c : Nat} {x num : Int32} {W : List Nat} {sa wa : Nat → Int32} (hp : p ≤ e) (h : hN e b p = 91) (ho : o < 6) (hl : W.length < 260) : RFm e bs g (j + 1) m p x num o c W sa wa = RFm e bs g j m (p + 1) x num (o + 1) c (1048576 * 14 :: W) sa (upd wa W.length (nI (1048576 * 14))) := by
  have hm0 := here_M hn tM he (show p < 100000 by omega)
  have s := eq_hr ht p (c := 91) (by omega)
  rw [eq_true h] at s
  have ho := opens_Y (p := p) (k := 14) (x := x) (W := W) (wa := wa) ho hl
  unfold RFm
  rw [st_X12_readsFactor_0, List.length_cons]
  simp only [ltz]
  simp (disch := omega) only [↓reduceIte, ↓some_bind, ↓nm_eq, ↓jn_eq, ↓wr_nI, ↓rd_nI, ↓gb0, ↓gb1, n10, n00, ↓bind_of hm0, s, ↓bind_of ho]
theorem rf_deep {n e : Nat} {t : Int32} {g : Nat → Int32} {b : Nat → Nat} (hn : n ≤ 260) (tM : MTape t g n b) (ht : txt e b) (he : e ≤ n) (he2 : e ≤ 240) {bs j m p o c : Nat} {x num : Int32} {W : List Nat} {sa wa : Nat → Int32} (hp : p ≤ e) (h : hN e b p = 91) (ho : o = 6) : ∃ r, RFm e bs g (j + 1) m p x num o c W sa wa = some r ∧ r.1 = nI 0 ∧ r.2.2.1 = flt 5 p := by
  subst ho
  have hm0 := here_M hn tM he (show p < 100000 by omega)
  have s := eq_hr ht p (c := 91) (by omega)
  rw [eq_true h] at s
  have ho := opens_N (p := p) (k := 14) (x := x) (W := W) (wa := wa)
  unfold RFm
  rw [st_X12_readsFactor_0]
  simp only [ltz]
  simp (disch := omega) only [↓reduceIte, ↓some_bind, ↓nm_eq, ↓jn_eq, ↓wr_nI, ↓rd_nI, ↓gb0, ↓gb1, n10, n00, ↓bind_of hm0, s, ↓bind_of ho]
  exact ⟨_, rfl, rfl, rfl⟩
theorem rf_num {n e : Nat} {t : Int32} {g : Nat → Int32} {b : Nat → Nat} (hn : n ≤ 260) (tM : MTape t g n b) (ht : txt e b) (he : e ≤ n) (he2 : e ≤ 240) {bs j m p o c : Nat} {x num : Int32} {W : List Nat} {sa wa : Nat → Int32} (hp : p ≤ e) (h : dgB e b p = true) (h2 : (nmr e b 5 0 p).2.2 = 0) (hc : c < 260) : RFm e bs g (j + 1) m p x num o c W sa wa = LSm e bs g m (nmr e b 5 0 p).2.1 x (nI (nmr e b 5 0 p).1) o (c + 1) W (upd sa c (nI (1048576 * 0 + (nmr e b 5 0 p).1))) wa := by
  have hm0 := here_M hn tM he (show p < 100000 by omega)
  have s := eq_hr ht p (c := 91) (by omega)
  have hd : 48 ≤ hN e b p ∧ hN e b p ≤ 57 := by unfold dgB at h; exact of_decide_eq_true h
  rw [eq_false (show ¬ hN e b p = 91 by omega)] at s
  have dm := digit_M hn tM ht he (show p < 100000 by omega)
  rw [if_pos h] at dm
  have nu := number_M (x := x) (num := num) hn tM ht he (show p < 90000 by omega)
  rw [if_pos h2] at nu
  have nt := notes_M (k := 0) (v := (nmr e b 5 0 p).1) hc sa
  generalize nmr e b 5 0 p = z at *
  unfold RFm LSm
  rw [st_X12_readsFactor_0]
  simp only [ltz]
  simp (disch := omega) only [↓reduceIte, ↓some_bind, ↓nm_eq, ↓jn_eq, ↓wr_nI, ↓rd_nI, ↓gb0, ↓gb1, n10, n00, ↓bind_of hm0, s]
  unfold KF
  simp only [ltz]
  simp (disch := omega) only [↓reduceIte, ↓some_bind, ↓nm_eq, ↓jn_eq, ↓wr_nI, ↓rd_nI, ↓gb0, ↓gb1, n10, n00, ↓bind_of dm, ↓bind_of nu, ↓bind_of nt]
theorem rf_numB {n e : Nat} {t : Int32} {g : Nat → Int32} {b : Nat → Nat} (hn : n ≤ 260) (tM : MTape t g n b) (ht : txt e b) (he : e ≤ n) (he2 : e ≤ 240) {bs j m p o c : Nat} {x num : Int32} {W : List Nat} {sa wa : Nat → Int32} (hp : p ≤ e) (h : dgB e b p = true) (h2 : ¬ (nmr e b 5 0 p).2.2 = 0) : ∃ r, RFm e bs g (j + 1) m p x num o c W sa wa = some r ∧ r.1 = nI 0 ∧ r.2.2.1 = flt 2 (nmr e b 5 0 p).2.1 := by
  have hm0 := here_M hn tM he (show p < 100000 by omega)
  have s := eq_hr ht p (c := 91) (by omega)
  have hd : 48 ≤ hN e b p ∧ hN e b p ≤ 57 := by unfold dgB at h; exact of_decide_eq_true h
  rw [eq_false (show ¬ hN e b p = 91 by omega)] at s
  have dm := digit_M hn tM ht he (show p < 100000 by omega)
  rw [if_pos h] at dm
  have nu := number_M (x := x) (num := num) hn tM ht he (show p < 90000 by omega)
  rw [if_neg h2] at nu
  generalize nmr e b 5 0 p = z at *
  unfold RFm
  rw [st_X12_readsFactor_0]
  simp only [ltz]
  simp (disch := omega) only [↓reduceIte, ↓some_bind, ↓nm_eq, ↓jn_eq, ↓wr_nI, ↓rd_nI, ↓gb0, ↓gb1, n10, n00, ↓bind_of hm0, s]
  unfold KF
  simp only [ltz]
  simp (disch := omega) only [↓reduceIte, ↓some_bind, ↓nm_eq, ↓jn_eq, ↓wr_nI, ↓rd_nI, ↓gb0, ↓gb1, n10, n00, ↓bind_of dm, ↓bind_of nu]
  exact ⟨_, rfl, rfl, rfl⟩
theorem rf_let {n e : Nat} {t : Int32} {g : Nat → Int32} {b : Nat → Nat} (hn : n ≤ 260) (tM : MTape t g n b) (ht : txt e b) (he : e ≤ n) (he2 : e ≤ 240) {bs j m p o c : Nat} {x num : Int32} {W : List Nat} {sa wa : Nat → Int32} (hp : p ≤ e) {l : Nat} (h : ltN (hN e b p) = some l) (hc : c < 260) : RFm e bs g (j + 1) m p x num o c W sa wa = LSm e bs g m (p + 1) x num o (c + 1) W (upd sa c (nI (1048576 * 1 + l))) wa := by
  obtain ⟨l1, l2, l3, l4⟩ := ltN_lt h
  have hm0 := here_M hn tM he (show p < 100000 by omega)
  have s := eq_hr ht p (c := 91) (by omega)
  rw [eq_false l3] at s
  have dm := digit_M hn tM ht he (show p < 100000 by omega)
  rw [if_neg (by unfold dgB; simp; omega)] at dm
  have fm := factOf_M ht p
  rw [h] at fm
  have fm : f_X12_factOf (hr e b p) = some (nI l) := fm
  have n1 := eq_false (neg_ne l (by omega)).1
  have nt := notes_M (k := 1) (v := l) hc sa
  unfold RFm LSm
  rw [st_X12_readsFactor_0]
  simp only [ltz]
  simp (disch := omega) only [↓reduceIte, ↓some_bind, ↓nm_eq, ↓jn_eq, ↓wr_nI, ↓rd_nI, ↓gb0, ↓gb1, n10, n00, ↓bind_of hm0, s]
  unfold KF
  simp only [ltz]
  simp (disch := omega) only [↓reduceIte, ↓some_bind, ↓nm_eq, ↓jn_eq, ↓wr_nI, ↓rd_nI, ↓gb0, ↓gb1, n10, n00, ↓bind_of dm, ↓bind_of hm0, ↓bind_of fm, n1, ↓bind_of nt, add_nI]
theorem rf_bad {n e : Nat} {t : Int32} {g : Nat → Int32} {b : Nat → Nat} (hn : n ≤ 260) (tM : MTape t g n b) (ht : txt e b) (he : e ≤ n) (he2 : e ≤ 240) {bs j m p o c : Nat} {x num : Int32} {W : List Nat} {sa wa : Nat → Int32} (hp : p ≤ e) (h : ¬ hN e b p = 91) (h1 : ltN (hN e b p) = none) (h2 : dgB e b p = false) : ∃ r, RFm e bs g (j + 1) m p x num o c W sa wa = some r ∧ r.1 = nI 0 ∧ r.2.2.1 = flt 1 p := by
  have hm0 := here_M hn tM he (show p < 100000 by omega)
  have s := eq_hr ht p (c := 91) (by omega)
  rw [eq_false h] at s
  have dm := digit_M hn tM ht he (show p < 100000 by omega)
  rw [if_neg (by rw [h2]; decide)] at dm
  have fm := factOf_M ht p
  rw [h1] at fm
  have fm : f_X12_factOf (hr e b p) = some (-nI 1) := fm
  unfold RFm
  rw [st_X12_readsFactor_0]
  simp only [ltz]
  simp (disch := omega) only [↓reduceIte, ↓some_bind, ↓nm_eq, ↓jn_eq, ↓wr_nI, ↓rd_nI, ↓gb0, ↓gb1, n10, n00, ↓bind_of hm0, s]
  unfold KF
  simp only [ltz]
  simp (disch := omega) only [↓reduceIte, ↓some_bind, ↓nm_eq, ↓jn_eq, ↓wr_nI, ↓rd_nI, ↓gb0, ↓gb1, n10, n00, ↓bind_of dm, ↓bind_of hm0, ↓bind_of fm, eq_self, ↓bind_of (wrong_M x 1 p)]
  exact ⟨_, rfl, rfl, rfl⟩
theorem sumSign_s : ∀ c, c < 256 → f_X12_sumSign (nI c) = some (if mulS c ∨ addS c then nI (mop c) else -nI 1) := by decide +kernel
theorem sumSign_e : f_X12_sumSign (-nI 1) = some (-nI 1) := by decide +kernel
theorem sumSign_Y {e : Nat} {b : Nat → Nat} (ht : txt e b) {p : Nat} (h : mulS (hN e b p) ∨ addS (hN e b p)) : f_X12_sumSign (hr e b p) = some (nI (mop (hN e b p))) := by
  have hl : hN e b p < 256 := by unfold mulS addS at h; omega
  rcases hN_lt ht p with ⟨h1, _, h3⟩ | ⟨h1, _, h3⟩
  · rw [h3, sumSign_s _ h1, if_pos h]
  · omega
theorem sumSign_N {e : Nat} {b : Nat → Nat} (ht : txt e b) {p : Nat} (h : ¬ mulS (hN e b p)) (h' : ¬ addS (hN e b p)) : f_X12_sumSign (hr e b p) = some (-nI 1) := by
  rcases hN_lt ht p with ⟨h1, _, h3⟩ | ⟨h1, _, h3⟩
  · rw [h3, sumSign_s _ h1, if_neg (fun e => e.elim h h')]
  · rw [h3]; exact sumSign_e
theorem mop_mul {c : Nat} (h : mulS c) : 4 ≤ mop c ∧ mop c ≤ 6 ∧ isOp c := by
  unfold mulS at h
  rcases h with rfl | rfl | rfl <;> (unfold isOp; decide)
theorem mop_add {c : Nat} (h : addS c) : (mop c = 2 ∨ mop c = 3) ∧ isOp c := by
  unfold addS at h
  rcases h with rfl | rfl <;> (unfold isOp; decide)
theorem ls_mul {n e : Nat} {t : Int32} {g : Nat → Int32} {b : Nat → Nat} (hn : n ≤ 260) (tM : MTape t g n b) (ht : txt e b) (he : e ≤ n) (he2 : e ≤ 240) {bs m p o c : Nat} {x num : Int32} {W R : List Nat} {sa wa : Nat → Int32} (hp : p ≤ e) (h : mulS (hN e b p)) {c1 : Nat} {sa1 : Nat → Int32} (hcl : f_X12_closesSums (nI c) (nI W.length) sa wa (nI 0) = some (nI c1, nI R.length, sa1)) (hl : R.length < 260) : LSm e bs g (m + 1) p x num o c W sa wa = RFm e bs g fu m (p + 1) x num o c1 (1048576 * mop (hN e b p) :: R) sa1 (upd wa R.length (nI (1048576 * mop (hN e b p)))) := by
  have hm0 := here_M hn tM he (show p < 100000 by omega)
  have sg := sumSign_Y ht (Or.inl h)
  obtain ⟨g1, g2, g3⟩ := mop_mul h
  generalize mop (hN e b p) = k at *
  have n1 := eq_false (neg_ne k (by omega)).1
  have q : (nI 4 ≤ nI k) = True := by rw [le_nI (by omega) (by omega)]; exact eq_true (by omega)
  unfold LSm RFm
  rw [st_X12_readsSum_14, List.length_cons]
  simp only [ltz]
  simp (disch := omega) only [↓reduceIte, ↓some_bind, ↓nm_eq, ↓jn_eq, ↓wr_nI, ↓rd_nI, ↓gb0, ↓gb1, n10, n00, ↓bind_of hm0, ↓bind_of sg, n1, q, ↓bind_of hcl, mul_nI, add_nI]
  rfl
theorem ls_add {n e : Nat} {t : Int32} {g : Nat → Int32} {b : Nat → Nat} (hn : n ≤ 260) (tM : MTape t g n b) (ht : txt e b) (he : e ≤ n) (he2 : e ≤ 240) {bs m p o c : Nat} {x num : Int32} {W R : List Nat} {sa wa : Nat → Int32} (hp : p ≤ e) (h : addS (hN e b p)) {c1 : Nat} {sa1 : Nat → Int32} (hcl : f_X12_closesSums (nI c) (nI W.length) sa wa (nI 1) = some (nI c1, nI R.length, sa1)) (hl : R.length < 260) : LSm e bs g (m + 1) p x num o c W sa wa = RFm e bs g fu m (p + 1) x num o c1 (1048576 * mop (hN e b p) :: R) sa1 (upd wa R.length (nI (1048576 * mop (hN e b p)))) := by
  have hm0 := here_M hn tM he (show p < 100000 by omega)
  have sg := sumSign_Y ht (Or.inr h)
  obtain ⟨g1, g3⟩ := mop_add h
  generalize mop (hN e b p) = k at *
  have n1 := eq_false (neg_ne k (by omega)).1
  have q : (nI 4 ≤ nI k) = False := by rw [le_nI (by omega) (by omega)]; exact eq_false (by omega)
  unfold LSm RFm
  rw [st_X12_readsSum_14, List.length_cons]
  simp only [ltz]
  simp (disch := omega) only [↓reduceIte, ↓some_bind, ↓nm_eq, ↓jn_eq, ↓wr_nI, ↓rd_nI, ↓gb0, ↓gb1, n10, n00, ↓bind_of hm0, ↓bind_of sg, n1, q, ↓bind_of hcl, mul_nI, add_nI]
  rfl
theorem ls_close {n e : Nat} {t : Int32} {g : Nat → Int32} {b : Nat → Nat} (hn : n ≤ 260) (tM : MTape t g n b) (ht : txt e b) (he : e ≤ n) (he2 : e ≤ 240) {bs m p o c : Nat} {x num : Int32} {W R : List Nat} {sa wa : Nat → Int32} (hp : p ≤ e) (h : hN e b p = 93) (hho : f_X12_hasOpenSum (nI W.length) wa (nI bs) = some (nI 1)) {c1 : Nat} {sa1 : Nat → Int32} (hcl : f_X12_closesSums (nI c) (nI W.length) sa wa (nI 1) = some (nI c1, nI (R.length + 1), sa1)) : LSm e bs g (m + 1) p x num (o + 1) c W sa wa = LSm e bs g m (p + 1) x num o c1 R sa1 wa := by
  have hm0 := here_M hn tM he (show p < 100000 by omega)
  have sg := sumSign_N ht (p := p) (by unfold mulS; omega) (by unfold addS; omega)
  have s := eq_hr ht p (c := 93) (by omega)
  rw [eq_true h] at s
  have q1 : nI (R.length + 1) - nI 1 = nI R.length := sub_nI (by omega)
  have q2 : nI (o + 1) - nI 1 = nI o := sub_nI (by omega)
  unfold LSm
  rw [st_X12_readsSum_14]
  simp only [ltz]
  simp (disch := omega) only [↓reduceIte, ↓some_bind, ↓nm_eq, ↓jn_eq, ↓wr_nI, ↓rd_nI, ↓gb0, ↓gb1, n10, n00, ↓bind_of hm0, ↓bind_of sg, eq_self, s, ↓bind_of hho, ↓bind_of hcl, q1, q2, add_nI]
theorem ls_end {n e : Nat} {t : Int32} {g : Nat → Int32} {b : Nat → Nat} (hn : n ≤ 260) (tM : MTape t g n b) (ht : txt e b) (he : e ≤ n) (he2 : e ≤ 240) {bs m p o c : Nat} {x num : Int32} {W R : List Nat} {sa wa : Nat → Int32} (hp : p ≤ e) (h1 : ¬ mulS (hN e b p)) (h2 : ¬ addS (hN e b p)) (h3 : ¬ hN e b p = 93 ∨ f_X12_hasOpenSum (nI W.length) wa (nI bs) = some (nI 0)) : LSm e bs g (m + 1) p x num o c W sa wa = KS (nI bs) (nI p, x, num, nI o, nI c, nI W.length, sa, wa) := by
  have hm0 := here_M hn tM he (show p < 100000 by omega)
  have sg := sumSign_N ht h1 h2
  have s := eq_hr ht p (c := 93) (by omega)
  unfold LSm
  rw [st_X12_readsSum_14]
  simp only [ltz]
  by_cases h : hN e b p = 93
  · rw [eq_true h] at s
    have hho := h3.resolve_left (fun e => e h)
    simp (disch := omega) only [↓reduceIte, ↓some_bind, ↓nm_eq, ↓jn_eq, ↓wr_nI, ↓rd_nI, ↓gb0, ↓gb1, n10, n00, ↓bind_of hm0, ↓bind_of sg, eq_self, s, ↓bind_of hho]
  · rw [eq_false h] at s
    simp (disch := omega) only [↓reduceIte, ↓some_bind, ↓nm_eq, ↓jn_eq, ↓wr_nI, ↓rd_nI, ↓gb0, ↓gb1, n10, n00, ↓bind_of hm0, ↓bind_of sg, eq_self, s]
theorem ks_bad {bs p o c : Nat} {x num : Int32} {W : List Nat} {sa wa : Nat → Int32} (hho : f_X12_hasOpenSum (nI W.length) wa (nI bs) = some (nI 1)) : ∃ r, KS (nI bs) (nI p, x, num, nI o, nI c, nI W.length, sa, wa) = some r ∧ r.1 = nI 0 ∧ r.2.2.1 = flt 1 p := by
  unfold KS
  simp only [ltz]
  simp only [↓bind_of hho, n10, ↓reduceIte, ↓bind_of (wrong_M x 1 p), ↓gb0]
  exact ⟨_, rfl, rfl, rfl⟩
theorem ks_ok {bs p o c : Nat} {x num : Int32} {W R : List Nat} {sa wa : Nat → Int32} (hho : f_X12_hasOpenSum (nI W.length) wa (nI bs) = some (nI 0)) {c1 : Nat} {sa1 : Nat → Int32} (hcl : f_X12_closesSums (nI c) (nI W.length) sa wa (nI 1) = some (nI c1, nI R.length, sa1)) : KS (nI bs) (nI p, x, num, nI o, nI c, nI W.length, sa, wa) = some (nI 1, nI p, x, num, nI o, nI c1, nI R.length, sa1, wa) := by
  unfold KS
  simp only [ltz]
  simp only [↓bind_of hho, n00, ↓reduceIte, ↓bind_of hcl]
def TP (sa : Nat → Int32) (a c : Nat) (pt : List Nat) (d : Nat) (F : Den) : Prop := (pt = [] ∧ SegM sa a c d F) ∨ (∃ op mid A B, pt = [1048576 * mop op] ∧ mulS op ∧ SegM sa a mid (d + 1) A ∧ SegM sa mid c d B ∧ F = binF op A B)
def SP (sa : Nat → Int32) (a c : Nat) (ps pt : List Nat) (d : Nat) (F : Den) : Prop := (ps = [] ∧ TP sa a c pt d F) ∨ (∃ op mid A B, ps = [1048576 * mop op] ∧ addS op ∧ SegM sa a mid (d + 2) A ∧ TP sa mid c pt d B ∧ F = binF op A B)
theorem segM_up {sa : Nat → Int32} {a s d : Nat} {F : Den} {x : Int32} (h : SegM sa a s d F) : SegM (upd sa s x) a s d F := SegM_congr h (fun q _ h2 => upd_ne _ _ (by omega))
theorem SegM_le {sa : Nat → Int32} {a s d : Nat} {F : Den} (h : SegM sa a s d F) : a ≤ s := h.1
theorem TP_le {sa : Nat → Int32} {a c d : Nat} {pt : List Nat} {F : Den} (h : TP sa a c pt d F) : a ≤ c := by
  rcases h with ⟨_, h⟩ | ⟨_, _, _, _, _, _, h1, h2, _⟩
  · exact h.1
  · exact Nat.le_trans h1.1 h2.1
theorem TP_congr {sa sa' : Nat → Int32} {a c d : Nat} {pt : List Nat} {F : Den} (h : TP sa a c pt d F) (hc : ∀ i, a ≤ i → i < c → sa' i = sa i) : TP sa' a c pt d F := by
  rcases h with ⟨h0, h⟩ | ⟨op, mid, A, B, h0, h1, h2, h3, h4⟩
  · exact Or.inl ⟨h0, SegM_congr h hc⟩
  · have l1 := h2.1
    have l2 := h3.1
    exact Or.inr ⟨op, mid, A, B, h0, h1, SegM_congr h2 (fun q q1 q2 => hc q q1 (by omega)), SegM_congr h3 (fun q q1 q2 => hc q (by omega) q2), h4⟩
/-- closing a term's own sign, if there is one -/
theorem closeP {sa wa : Nat → Int32} {a c d m x1 : Nat} {pt R : List Nat} {F : Den} (h : TP sa a c pt d F) (hd : 1 ≤ d) (hs : St wa (pt ++ R)) (hl : (pt ++ R).length ≤ 260) (hc : c + 1 < 260) (hx : x1 = 0 ∨ x1 = 1) : ∃ sa1, L_X12_closesSums_0 wa (nI x1) (m + pt.length) (nI c, nI (pt ++ R).length, sa) = L_X12_closesSums_0 wa (nI x1) m (nI (c + pt.length), nI R.length, sa1) ∧ (∀ i, i < c → sa1 i = sa i) ∧ SegM sa1 a (c + pt.length) (d + 1) F := by
  rcases h with ⟨rfl, h⟩ | ⟨op, mid, A, B, rfl, h1, h2, h3, rfl⟩
  · exact ⟨sa, rfl, fun _ _ => rfl, SegM_mono h (by omega)⟩
  · obtain ⟨g1, g2, g3⟩ := mop_mul h1
    have hs' : St wa (1048576 * mop op :: R) := hs
    rw [List.cons_append, List.nil_append, List.length_cons] at hl
    refine ⟨upd sa c (nI (1048576 * mop op + 0)), closeStep hs' hl (by omega) hx (Or.inl ⟨g1, g2⟩), fun i hi => upd_ne _ _ (by omega), ?_⟩
    have l1 := h2.1
    have l2 := h3.1
    exact SegM_bin (Nat.le_refl _) (Nat.le_refl _) (by omega) (SegM_congr h2 (fun q _ q2 => upd_ne _ _ (by omega))) (segM_up h3) g3 (upd_at _ _ _)
theorem close0 {sa wa : Nat → Int32} {a c d : Nat} {pt R : List Nat} {F : Den} (h : TP sa a c pt d F) (hd : 1 ≤ d) (hs : St wa (pt ++ R)) (hl : (pt ++ R).length ≤ 250) (hc : c + 1 < 260) (hR : TMu R) : ∃ sa1, f_X12_closesSums (nI c) (nI (pt ++ R).length) sa wa (nI 0) = some (nI (c + pt.length), nI R.length, sa1) ∧ (∀ i, i < c → sa1 i = sa i) ∧ SegM sa1 a (c + pt.length) (d + 1) F := by
  have hlp : pt.length ≤ 250 := by rw [List.length_append] at hl; omega
  have hlr : R.length ≤ 250 := by rw [List.length_append] at hl; omega
  obtain ⟨sa1, k1, k2, k3⟩ := closeP (m := fu - pt.length) (x1 := 0) h hd hs (by omega) hc (Or.inl rfl)
  refine ⟨sa1, ?_, k2, k3⟩
  have hf : fu - pt.length + pt.length = fu := Nat.sub_add_cancel (Nat.le_of_lt (fu_gt (by omega)))
  rw [hf] at k1
  show L_X12_closesSums_0 wa (nI 0) fu _ = _
  rw [k1]
  have hf2 : fu - pt.length = (fu - pt.length - 1) + 1 := by have := @fu_gt (pt.length + 1) (by omega); omega
  rw [hf2]
  exact closeStop (St_app pt R hs) (by omega) (Or.inl rfl) hR (fun h => by cases h)
theorem close1 {sa wa : Nat → Int32} {a c d : Nat} {ps pt W : List Nat} {F : Den} (h : SP sa a c ps pt d F) (hd : 1 ≤ d) (hs : St wa (pt ++ (ps ++ W))) (hl : (pt ++ (ps ++ W)).length ≤ 250) (hc : c + 2 < 260) (hW : TO W) : ∃ c1 sa1, f_X12_closesSums (nI c) (nI (pt ++ (ps ++ W)).length) sa wa (nI 1) = some (nI c1, nI W.length, sa1) ∧ c1 = c + pt.length + ps.length ∧ (∀ i, i < a → sa1 i = sa i) ∧ SegM sa1 a c1 (d + 2) F := by
  have hlp : pt.length ≤ 250 := by rw [List.length_append] at hl; omega
  have hlr : (ps ++ W).length ≤ 250 := by rw [List.length_append] at hl; omega
  have hf : fu - pt.length + pt.length = fu := Nat.sub_add_cancel (Nat.le_of_lt (fu_gt (by omega)))
  rcases h with ⟨rfl, h⟩ | ⟨op, mid, A, B, rfl, h1, h2, h3, rfl⟩
  · have hac := TP_le h
    obtain ⟨sa1, k1, k2, k3⟩ := closeP (m := fu - pt.length) (x1 := 1) h hd hs (by omega) (by omega) (Or.inr rfl)
    refine ⟨c + pt.length, sa1, ?_, rfl, fun i hi => k2 i (by omega), SegM_mono k3 (by omega)⟩
    rw [hf] at k1
    show L_X12_closesSums_0 wa (nI 1) fu _ = _
    rw [k1]
    have hf2 : fu - pt.length = (fu - pt.length - 1) + 1 := by have := @fu_gt (pt.length + 1) (by omega); omega
    rw [hf2]
    exact closeStop (St_app pt _ hs) (by omega) (Or.inr rfl) hW.1 (fun _ => hW)
  · obtain ⟨g1, g3⟩ := mop_add h1
    have hac := TP_le h3
    have hptl : pt.length ≤ 1 := by
      rcases h3 with ⟨rfl, _⟩ | ⟨_, _, _, _, rfl, _⟩
      · exact Nat.zero_le _
      · exact Nat.le_refl _
    have hmid := h2.1
    obtain ⟨sa1, k1, k2, k3⟩ := closeP (m := fu - pt.length) (x1 := 1) h3 hd hs (by omega) (by omega) (Or.inr rfl)
    rw [hf] at k1
    have hs2 : St wa (1048576 * mop op :: W) := St_app pt _ hs
    rw [List.cons_append, List.nil_append, List.length_cons] at hlr
    have hf2 : fu - pt.length = (fu - pt.length - 2) + 1 + 1 := by have := @fu_gt (pt.length + 2) (by omega); omega
    refine ⟨c + pt.length + 1, upd sa1 (c + pt.length) (nI (1048576 * mop op + 0)), ?_, rfl, fun i hi => ?_, ?_⟩
    · show L_X12_closesSums_0 wa (nI 1) fu _ = _
      rw [k1, hf2]
      show L_X12_closesSums_0 wa (nI 1) _ (nI (c + pt.length), nI (W.length + 1), sa1) = _
      rw [closeStep hs2 (by omega) (by omega) (Or.inr rfl) (Or.inr ⟨rfl, g1⟩)]
      exact closeStop hs2.2.2 (by omega) (Or.inr rfl) hW.1 (fun _ => hW)
    · rw [upd_ne _ _ (by omega)]
      exact k2 i (by omega)
    · have l3 := k3.1
      exact SegM_bin (Nat.le_refl _) (by omega) (by omega) (SegM_congr h2 (fun q q1 q2 => by rw [upd_ne _ _ (by omega)]; exact k2 q (by omega))) (segM_up k3) g3 (upd_at _ _ _)
