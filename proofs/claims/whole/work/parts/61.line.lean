/-! ORDERS: a line and what it does -/
def CMD : Type := Nat × Nat × Nat × Nat × Nat
def cso (c : CMD) : Nat := c.1
def cnu (c : CMD) : Nat := c.2.1
def co1 (c : CMD) : Nat := c.2.2.1
def co2 (c : CMD) : Nat := c.2.2.2.1
def cva (c : CMD) : Nat := c.2.2.2.2
def mkC (a b c d e : Nat) : CMD := (a, b, c, d, e)
def apD (c : CMD) (D : DS) : DS := if cso c = 3 then (dt D, db D, on D, ot D, wa D, fun k => if k = cnu c then cva c else pr D k) else if cso c = 0 then (dt D ||| 2 ^ cnu c, clr (db D) (cnu c), (fun d => if d = cnu c then co1 c else on D d), (fun d => if d = cnu c then co2 c else ot D d), (fun d => if d = cnu c then cva c else wa D d), pr D) else if cso c = 1 then (dt D, db D ||| 2 ^ cnu c, on D, ot D, wa D, pr D) else (dt D, clr (db D) (cnu c), on D, ot D, wa D, pr D)
def apT (c : CMD) (T : TS) : TS := if cso c = 0 then (tt T, rn T, xx T, (fun i => if i = cnu c then 0 else ru T i), ro T, ha T, pn T) else T
def VC (c : CMD) (D : DS) : Prop := (cso c = 3 ∧ cnu c < 6 ∧ cva c ≤ 63) ∨ (cso c = 0 ∧ cnu c < 24 ∧ co1 c ≤ 15 ∧ co2 c ≤ 15 ∧ co1 c ≠ co2 c ∧ cva c ≤ 63) ∨ ((cso c = 1 ∨ cso c = 2) ∧ cnu c < 24 ∧ (dt D).testBit (cnu c) = true)
theorem ap3 {k v : Nat} (a b : Nat) (D : DS) : apD (mkC 3 k a b v) D = (dt D, db D, on D, ot D, wa D, fun j => if j = k then v else pr D j) := rfl
theorem ap0 (d a b v : Nat) (D : DS) : apD (mkC 0 d a b v) D = (dt D ||| 2 ^ d, clr (db D) d, (fun i => if i = d then a else on D i), (fun i => if i = d then b else ot D i), (fun i => if i = d then v else wa D i), pr D) := rfl
theorem ap1 (d a b v : Nat) (D : DS) : apD (mkC 1 d a b v) D = (dt D, db D ||| 2 ^ d, on D, ot D, wa D, pr D) := rfl
theorem ap2 (d a b v : Nat) (D : DS) : apD (mkC 2 d a b v) D = (dt D, clr (db D) d, on D, ot D, wa D, pr D) := rfl
theorem W_apD {c : CMD} {D : DS} (hW : WDoors D) (hc : VC c D) : WDoors (apD c D) := by
  obtain ⟨a1, a2, a3, a4, a5, a6⟩ := hW
  obtain ⟨so, nu, o1, o2, va⟩ := c
  rcases hc with ⟨h1, h2, h3⟩ | ⟨h1, h2, h3, h4, h5, h6⟩ | ⟨h1, h2, h3⟩
  · have h1 : so = 3 := h1
    subst h1
    refine ⟨a1, a2, a3, a4, a5, fun k hk => ?_⟩
    show (if k = nu then va else pr D k) ≤ 63
    split
    · exact h3
    · exact a6 k hk
  · have h1 : so = 0 := h1
    subst h1
    have h2 : nu < 24 := h2
    refine ⟨set_lt a1 h2, clr_lt a2, fun d hd => ?_, fun d hd => ?_, fun d hd hb => ?_, a6⟩
    · have hd : (clr (db D) nu).testBit d = true := hd
      rw [clr_tb a2] at hd
      simp only [Bool.and_eq_true] at hd
      show (dt D ||| 2 ^ nu).testBit d = true
      rw [Nat.testBit_or, a3 d hd.1]
      rfl
    · show (if d = nu then o1 else on D d) ≤ 15 ∧ (if d = nu then o2 else ot D d) ≤ 15 ∧ (if d = nu then va else wa D d) ≤ 63
      by_cases h : d = nu
      · rw [if_pos h, if_pos h, if_pos h]; exact ⟨h3, h4, h6⟩
      · rw [if_neg h, if_neg h, if_neg h]; exact a4 d hd
    · show (if d = nu then o1 else on D d) ≠ (if d = nu then o2 else ot D d)
      by_cases h : d = nu
      · rw [if_pos h, if_pos h]; exact h5
      · rw [if_neg h, if_neg h]
        refine a5 d hd ?_
        have hb : (dt D ||| 2 ^ nu).testBit d = true := hb
        rw [Nat.testBit_or, Nat.testBit_two_pow, decide_eq_false (fun e => h e.symm), Bool.or_false] at hb
        exact hb
  · have h2 : nu < 24 := h2
    have h3 : (dt D).testBit nu = true := h3
    rcases h1 with h1 | h1
    · have h1 : so = 1 := h1
      subst h1
      refine ⟨a1, set_lt a2 h2, fun d hd => ?_, a4, a5, a6⟩
      have hd : (db D ||| 2 ^ nu).testBit d = true := hd
      show (dt D).testBit d = true
      by_cases h : nu = d
      · subst h; exact h3
      · rw [Nat.testBit_or, Nat.testBit_two_pow, decide_eq_false h, Bool.or_false] at hd
        exact a3 d hd
    · have h1 : so = 2 := h1
      subst h1
      refine ⟨a1, clr_lt a2, fun d hd => ?_, a4, a5, a6⟩
      have hd : (clr (db D) nu).testBit d = true := hd
      rw [clr_tb a2] at hd
      simp only [Bool.and_eq_true] at hd
      exact a3 d hd.1
theorem W_apT {c : CMD} {T : TS} (hW : WTown T) : WTown (apT c T) := by
  unfold apT
  split
  · obtain ⟨a1, a2, a3, a4, a5⟩ := hW
    refine ⟨a1, a2, a3, fun i hi => ?_, a5⟩
    show (if i = cnu c then 0 else ru T i) ≤ 99
    split
    · omega
    · exact a4 i hi
  · exact hW
theorem M_unrust {now : Nat → Int32} {T : TS} {d : Nat} (a b v : Nat) (hd : d < 24) (hM : MTown now T) : MTown (upd now d (nI 0)) (apT (mkC 0 d a b v) T) := by
  obtain ⟨a1, a2, a3, a4, a5, a6, a7⟩ := hM
  have o : ∀ i, 24 ≤ i → upd now d (nI 0) i = now i := fun i hi => by unfold upd; rw [if_neg (by omega)]
  refine ⟨fun i hi => ?_, fun w hw => (o _ (by omega)).trans (a2 w hw), fun w hw => (o _ (by omega)).trans (a3 w hw), fun w hw => (o _ (by omega)).trans (a4 w hw), fun w hw => (o _ (by omega)).trans (a5 w hw), (o _ (by omega)).trans a6, (o _ (by omega)).trans a7⟩
  show upd now d (nI 0) i = nI (if i = d then 0 else ru T i)
  unfold upd
  by_cases h : i = d
  · rw [if_pos h, if_pos h]
  · rw [if_neg h, if_neg h]; exact a1 i hi
theorem upd_nI {A : Nat → Int32} {F : Nat → Nat} {n d v : Nat} (h : ∀ i, i < n → A i = nI (F i)) : ∀ i, i < n → upd A d (nI v) i = nI (if i = d then v else F i) := by
  intro i hi
  unfold upd
  by_cases h1 : i = d
  · rw [if_pos h1, if_pos h1]
  · rw [if_neg h1, if_neg h1]; exact h i hi
theorem upd_at (A : Nat → Int32) (d : Nat) (v : Int32) : upd A d v d = v := by unfold upd; rw [if_pos rfl]
theorem upd_ne (A : Nat → Int32) {d i : Nat} (v : Int32) (h : i ≠ d) : upd A d v i = A i := by unfold upd; rw [if_neg h]
def HA (sorts numbers ones others values : Nat → Int32) (L : Nat) (c : CMD) : Prop := sorts L = nI (cso c) ∧ numbers L = nI (cnu c) ∧ (cso c = 0 → ones L = nI (co1 c) ∧ others L = nI (co2 c)) ∧ (cso c = 0 ∨ cso c = 3 → values L = nI (cva c))
theorem line_ok {n e p L : Nat} {t x num : Int32} {f g sorts numbers ones others values now prongs one other wards : Nat → Int32} {b : Nat → Nat} {D : DS} {T : TS} (tC : CTape (nI n) f n b) (tM : MTape t g n b) (ht : txt e b) (he : e ≤ n) (hp : p ≤ e) (hL : L ≤ 16) (hW : WDoors D) (dM : MDoors (nI (dt D)) (nI (db D)) one other wards prongs D) (hM : MTown now T) :
    (∃ w q r r', fo_X4_readLine (nI L) (nI (dt D)) sorts numbers ones others values (nI e) (nI p) (nI 0) (nI n) f = some r ∧ f_X12_readsLine (nI (dt D)) (nI (db D)) (nI p) (nI e) x num (nI L) now prongs one other wards g = some r' ∧ 1 ≤ w ∧ w ≤ 7 ∧ q < 1000 ∧ r.2.2.2.2.2.2.2.2 = flt w q ∧ r'.1 = nI 0 ∧ r'.2.2.2.2.1 = flt w q) ∨
    (∃ c p' so' nu' on' ot' va' r', fo_X4_readLine (nI L) (nI (dt D)) sorts numbers ones others values (nI e) (nI p) (nI 0) (nI n) f = some (nI (L + 1), nI (dt (apD c D)), so', nu', on', ot', va', nI p', nI 0) ∧ HA so' nu' on' ot' va' L c ∧ (∀ i, i ≠ L → so' i = sorts i ∧ nu' i = numbers i ∧ on' i = ones i ∧ ot' i = others i ∧ va' i = values i) ∧ f_X12_readsLine (nI (dt D)) (nI (db D)) (nI p) (nI e) x num (nI L) now prongs one other wards g = some r' ∧ r'.1 = nI 1 ∧ r'.2.2.2.1 = nI p' ∧ r'.2.2.2.2.1 = x ∧ r'.2.2.2.2.2.2.1 = nI (L + 1) ∧ MTown r'.2.2.2.2.2.2.2.1 (apT c T) ∧ MDoors r'.2.1 r'.2.2.1 r'.2.2.2.2.2.2.2.2.2.1 r'.2.2.2.2.2.2.2.2.2.2.1 r'.2.2.2.2.2.2.2.2.2.2.2 r'.2.2.2.2.2.2.2.2.1 (apD c D) ∧ VC c D ∧ p < p' ∧ p' ≤ e ∧ L < 16) := by
  have hn := tC.1
  have he2 := ht.1
  obtain ⟨d1, d2, d3, d4, d5, d6⟩ := dM
  have hc0 := sign_C tC he (show p < 100000 by omega)
  have hm0 := here_M hn tM he (show p < 100000 by omega)
  have hk0 := in_hr ht p (l := 97) (h := 102) (by omega) (by omega)
  have hkC : f_X11_isWithin (hr e b p) (nI 97) (nI 102) = some (nI (if decide (97 ≤ hN e b p ∧ hN e b p ≤ 102) = true then 1 else 0)) := by rw [win_in]; exact hk0
  have hdC := digit_C tC ht he (show p < 100000 by omega)
  have hdM := digit_M hn tM ht he (show p < 100000 by omega)
  by_cases hk : 97 ≤ hN e b p ∧ hN e b p ≤ 102
  · rw [decide_eq_true hk] at hk0 hkC
    simp only [if_true] at hk0 hkC
    by_cases hL2 : L = 16
    · have e16 : (nI L < nI 16) = False := by rw [lt_nI (by omega) (by omega)]; exact eq_false (by omega)
      have e16' : (nI L = nI 16) = True := by rw [eq_nI (by omega) (by omega)]; exact eq_true hL2
      refine Or.inl ?_
      have C : ∃ r, fo_X4_readLine (nI L) (nI (dt D)) sorts numbers ones others values (nI e) (nI p) (nI 0) (nI n) f = some r ∧ r.2.2.2.2.2.2.2.2 = flt 4 p := by
        unfold fo_X4_readLine fo_X4_readKind fo_X4_readDoor
        simp only [ltz]
        simp (disch := omega) only [↓reduceIte, ↓some_bind, ↓nm_eq, ↓jn_eq, ↓wr_nI, ↓rd_nI, ↓gb0, ↓gb1, n10, n00, ↓bind_of hc0, ↓bind_of hkC, e16, ↓bind_of (fail_0 4 p)]
        exact ⟨_, rfl, rfl⟩
      have M : ∃ r, f_X12_readsLine (nI (dt D)) (nI (db D)) (nI p) (nI e) x num (nI L) now prongs one other wards g = some r ∧ r.1 = nI 0 ∧ r.2.2.2.2.1 = flt 4 p := by
        unfold f_X12_readsLine f_X12_readsKind f_X12_readsDoor
        simp only [ltz]
        simp (disch := omega) only [↓reduceIte, ↓some_bind, ↓nm_eq, ↓jn_eq, ↓wr_nI, ↓rd_nI, ↓gb0, ↓gb1, n10, n00, ↓bind_of hm0, ↓bind_of hk0, e16', ↓bind_of (wrong_M x 4 p)]
        exact ⟨_, rfl, rfl, rfl⟩
      obtain ⟨r, C1, C2⟩ := C
      obtain ⟨r', M1, M2, M3⟩ := M
      exact ⟨4, p, r, r', C1, M1, by omega, by omega, by omega, C2, M2, M3⟩
    · have e16 : (nI L < nI 16) = True := by rw [lt_nI (by omega) (by omega)]; exact eq_true (by omega)
      have e16' : (nI L = nI 16) = False := by rw [eq_nI (by omega) (by omega)]; exact eq_false hL2
      have hpe : p < e := by
        rcases hN_lt ht p with ⟨_, h, _⟩ | ⟨h, _, _⟩
        · exact h
        · omega
      have hv : hr e b p - nI 97 = nI (hN e b p - 97) := by
        rcases hN_lt ht p with ⟨_, _, h⟩ | ⟨h, _, _⟩
        · rw [h, sub_nI (by omega)]
        · omega
      by_cases h1 : hN e b (p + 1) = 61
      · have hp1 := hN_in ht h1 (by omega)
        have wc1 := wantY tC ht he (show p + 1 < 100000 by omega) (show 61 < 256 by omega) h1
        have wm1 := takesY (x := x) hn tM ht he (show p + 1 < 100000 by omega) (show 61 < 256 by omega) h1
        obtain ⟨num1, m1⟩ := within_M (x := x) (num := num) (hi := 63) hn tM ht he (show p + 1 + 1 < 90000 by omega) (by omega)
        have c1 := upTo_C (hi := 63) tC ht he (show p + 1 + 1 < 90000 by omega) (by omega)
        have k1 := NU_ok e b 63 (p + 1 + 1)
        generalize NU e b 63 (p + 1 + 1) = z1 at *
        obtain ⟨v1, p1, w1, q1⟩ := z1
        obtain ⟨a11, a12, a13, a14, a15, a16, a17⟩ := k1
        dsimp only at *
        by_cases hw1 : w1 = 0
        · subst hw1
          obtain ⟨b1, b2⟩ := a17 rfl
          rw [if_pos rfl] at m1
          rw [fw0] at c1
          have C : fo_X4_readLine (nI L) (nI (dt D)) sorts numbers ones others values (nI e) (nI p) (nI 0) (nI n) f = some (nI (L + 1), nI (dt (apD (mkC 3 (hN e b p - 97) 0 0 v1) D)), upd sorts L (nI 3), upd numbers L (nI (hN e b p - 97)), ones, others, upd values L (nI v1), nI (p1), nI 0) := by
            unfold fo_X4_readLine fo_X4_readKind fo_X4_readDoor
            simp only [ltz]
            simp (disch := omega) only [↓reduceIte, ↓some_bind, ↓nm_eq, ↓jn_eq, ↓wr_nI, ↓rd_nI, ↓gb0, ↓gb1, n10, n00, ↓bind_of hc0, ↓bind_of hkC, e16, hv, add_nI, ↓bind_of wc1, ↓bind_of sound_0, ↓bind_of c1]
            rfl
          have M : f_X12_readsLine (nI (dt D)) (nI (db D)) (nI p) (nI e) x num (nI L) now prongs one other wards g = some (nI 1, nI (dt D), nI (db D), nI p1, x, nI v1, nI (L + 1), now, upd prongs (hN e b p - 97) (nI v1), one, other, wards) := by
            unfold f_X12_readsLine f_X12_readsKind f_X12_readsDoor
            simp only [ltz]
            simp (disch := omega) only [↓reduceIte, ↓some_bind, ↓nm_eq, ↓jn_eq, ↓wr_nI, ↓rd_nI, ↓gb0, ↓gb1, n10, n00, ↓bind_of hm0, ↓bind_of hk0, e16', hv, add_nI, ↓bind_of wm1, ↓bind_of m1]
          refine Or.inr ⟨mkC 3 (hN e b p - 97) 0 0 v1, p1, _, _, _, _, _, _, C, ?_, ?_, M, rfl, rfl, rfl, rfl, hM, ⟨rfl, rfl, d3, d4, d5, upd_nI d6⟩, Or.inl ⟨rfl, show hN e b p - 97 < 6 by omega, b1⟩, by omega, by omega, by omega⟩
          · exact ⟨upd_at _ _ _, upd_at _ _ _, fun h => absurd h (by show ¬ (3 : Nat) = 0; decide), fun _ => upd_at _ _ _⟩
          · exact fun i hi => ⟨upd_ne _ _ hi, upd_ne _ _ hi, rfl, rfl, upd_ne _ _ hi⟩
        · have hf := fault_ne hw1 (by omega) (show q1 < 100000 by omega)
          rw [if_neg hw1] at m1
          refine Or.inl ?_
          have C : ∃ r, fo_X4_readLine (nI L) (nI (dt D)) sorts numbers ones others values (nI e) (nI p) (nI 0) (nI n) f = some r ∧ r.2.2.2.2.2.2.2.2 = fw w1 q1 := by
            unfold fo_X4_readLine fo_X4_readKind fo_X4_readDoor
            simp only [ltz]
            simp (disch := omega) only [↓reduceIte, ↓some_bind, ↓nm_eq, ↓jn_eq, ↓wr_nI, ↓rd_nI, ↓gb0, ↓gb1, n10, n00, ↓bind_of hc0, ↓bind_of hkC, e16, hv, add_nI, ↓bind_of wc1, ↓bind_of sound_0, ↓bind_of c1]
            exact ⟨_, rfl, rfl⟩
          have M : ∃ r, f_X12_readsLine (nI (dt D)) (nI (db D)) (nI p) (nI e) x num (nI L) now prongs one other wards g = some r ∧ r.1 = nI 0 ∧ r.2.2.2.2.1 = fw w1 q1 := by
            unfold f_X12_readsLine f_X12_readsKind f_X12_readsDoor
            simp only [ltz]
            simp (disch := omega) only [↓reduceIte, ↓some_bind, ↓nm_eq, ↓jn_eq, ↓wr_nI, ↓rd_nI, ↓gb0, ↓gb1, n10, n00, ↓bind_of hm0, ↓bind_of hk0, e16', hv, add_nI, ↓bind_of wm1, ↓bind_of m1]
            exact ⟨_, rfl, rfl, rfl⟩
          obtain ⟨r, C1, C2⟩ := C
          obtain ⟨r', M1, M2, M3⟩ := M
          rw [fwS q1 hw1] at C2 M3
          exact ⟨w1, q1, r, r', C1, M1, by omega, by omega, by omega, C2, M2, M3⟩
      · have hf := flt_ne 1 (p + 1) (by omega) (by omega) (by omega)
        have wc1 := wantN tC ht he (show p + 1 < 100000 by omega) (show 61 < 256 by omega) h1
        have wm1 := takesN (x := x) hn tM ht he (show p + 1 < 100000 by omega) (show 61 < 256 by omega) h1
        refine Or.inl ?_
        have C : ∃ r, fo_X4_readLine (nI L) (nI (dt D)) sorts numbers ones others values (nI e) (nI p) (nI 0) (nI n) f = some r ∧ r.2.2.2.2.2.2.2.2 = flt 1 (p + 1) := by
          unfold fo_X4_readLine fo_X4_readKind fo_X4_readDoor
          simp only [ltz]
          simp (disch := omega) only [↓reduceIte, ↓some_bind, ↓nm_eq, ↓jn_eq, ↓wr_nI, ↓rd_nI, ↓gb0, ↓gb1, n10, n00, ↓bind_of hc0, ↓bind_of hkC, e16, hv, add_nI, ↓bind_of wc1, ↓bind_of (sound_n hf)]
          exact ⟨_, rfl, rfl⟩
        have M : ∃ r, f_X12_readsLine (nI (dt D)) (nI (db D)) (nI p) (nI e) x num (nI L) now prongs one other wards g = some r ∧ r.1 = nI 0 ∧ r.2.2.2.2.1 = flt 1 (p + 1) := by
          unfold f_X12_readsLine f_X12_readsKind f_X12_readsDoor
          simp only [ltz]
          simp (disch := omega) only [↓reduceIte, ↓some_bind, ↓nm_eq, ↓jn_eq, ↓wr_nI, ↓rd_nI, ↓gb0, ↓gb1, n10, n00, ↓bind_of hm0, ↓bind_of hk0, e16', hv, add_nI, ↓bind_of wm1]
          exact ⟨_, rfl, rfl, rfl⟩
        obtain ⟨r, C1, C2⟩ := C
        obtain ⟨r', M1, M2, M3⟩ := M
        exact ⟨1, p + 1, r, r', C1, M1, by omega, by omega, by omega, C2, M2, M3⟩
  · rw [decide_eq_false hk] at hk0 hkC
    simp only [Bool.false_eq_true, if_false] at hk0 hkC
    rcases Bool.eq_false_or_eq_true (dgB e b p) with hd | hd
    · rw [hd] at hdC hdM
      simp only [if_true] at hdC hdM
      by_cases hL2 : L = 16
      · have e16 : (nI L < nI 16) = False := by rw [lt_nI (by omega) (by omega)]; exact eq_false (by omega)
        have e16' : (nI L = nI 16) = True := by rw [eq_nI (by omega) (by omega)]; exact eq_true hL2
        refine Or.inl ?_
        have C : ∃ r, fo_X4_readLine (nI L) (nI (dt D)) sorts numbers ones others values (nI e) (nI p) (nI 0) (nI n) f = some r ∧ r.2.2.2.2.2.2.2.2 = flt 4 p := by
          unfold fo_X4_readLine fo_X4_readKind fo_X4_readDoor
          simp only [ltz]
          simp (disch := omega) only [↓reduceIte, ↓some_bind, ↓nm_eq, ↓jn_eq, ↓wr_nI, ↓rd_nI, ↓gb0, ↓gb1, n10, n00, ↓bind_of hc0, ↓bind_of hkC, ↓bind_of hdC, e16, ↓bind_of (fail_0 4 p)]
          exact ⟨_, rfl, rfl⟩
        have M : ∃ r, f_X12_readsLine (nI (dt D)) (nI (db D)) (nI p) (nI e) x num (nI L) now prongs one other wards g = some r ∧ r.1 = nI 0 ∧ r.2.2.2.2.1 = flt 4 p := by
          unfold f_X12_readsLine f_X12_readsKind f_X12_readsDoor
          simp only [ltz]
          simp (disch := omega) only [↓reduceIte, ↓some_bind, ↓nm_eq, ↓jn_eq, ↓wr_nI, ↓rd_nI, ↓gb0, ↓gb1, n10, n00, ↓bind_of hm0, ↓bind_of hk0, ↓bind_of hdM, e16', ↓bind_of (wrong_M x 4 p)]
          exact ⟨_, rfl, rfl, rfl⟩
        obtain ⟨r, C1, C2⟩ := C
        obtain ⟨r', M1, M2, M3⟩ := M
        exact ⟨4, p, r, r', C1, M1, by omega, by omega, by omega, C2, M2, M3⟩
      · have e16 : (nI L < nI 16) = True := by rw [lt_nI (by omega) (by omega)]; exact eq_true (by omega)
        have e16' : (nI L = nI 16) = False := by rw [eq_nI (by omega) (by omega)]; exact eq_false hL2
        obtain ⟨num1, m1⟩ := within_M (x := x) (num := num) (hi := 23) hn tM ht he (show p < 90000 by omega) (by omega)
        have c1 := upTo_C (hi := 23) tC ht he (show p < 90000 by omega) (by omega)
        have k1 := NU_ok e b 23 (p)
        generalize NU e b 23 (p) = z1 at *
        obtain ⟨v1, p1, w1, q1⟩ := z1
        obtain ⟨a11, a12, a13, a14, a15, a16, a17⟩ := k1
        dsimp only at *
        by_cases hw1 : w1 = 0
        · subst hw1
          obtain ⟨b1, b2⟩ := a17 rfl
          rw [if_pos rfl] at m1
          rw [fw0] at c1
          have hv24 : v1 < 24 := by omega
          have hc1 := sign_C tC he (show p1 < 100000 by omega)
          have hm1 := here_M hn tM he (show p1 < 100000 by omega)
          have s58 := eq_hr ht p1 (c := 58) (by omega)
          have s33 := eq_hr ht p1 (c := 33) (by omega)
          have s63 := eq_hr ht p1 (c := 63) (by omega)
          have tb := bit_of (show dt D < 2147483648 by have := hW.1; omega) (show v1 < 32 by omega)
          have tbM := (door_in hW hv24).2.1
          by_cases h1 : hN e b p1 = 58
          · have hp1 := hN_in ht h1 (by omega)
            rw [eq_true h1] at s58
            have tk := takeY tC ht he (show p1 < 100000 by omega) (show 58 < 256 by omega) h1
            rcases rooms_ok (x := x) (num := nI v1) (ones := ones) (others := others) (values := values) (now := now) (one := one) (other := other) (wards := wards) (T := dt D) (B := db D) tC tM ht he (show p1 + 1 ≤ e by omega) (show L < 16 by omega) hv24 with ⟨ww, qq, r0, r0', C0, M0, hw1, hw2, hq, E1, E2, E3⟩ | ⟨u1, u2, u3, p', C0, M0, g1, g2, g3, g4, g5, g6⟩
            · obtain ⟨o1, o2, o3, o4, o5⟩ := r0
              obtain ⟨y1, y2, y3, y4, y5, y6, y7, y8, y9, y10⟩ := r0'
              dsimp only at E1 E2 E3
              subst E1; subst E2; subst E3
              refine Or.inl ?_
              have C : ∃ r, fo_X4_readLine (nI L) (nI (dt D)) sorts numbers ones others values (nI e) (nI p) (nI 0) (nI n) f = some r ∧ r.2.2.2.2.2.2.2.2 = flt ww qq := by
                unfold fo_X4_readLine fo_X4_readKind fo_X4_readDoor
                simp only [ltz]
                simp (disch := omega) only [↓reduceIte, ↓some_bind, ↓nm_eq, ↓jn_eq, ↓wr_nI, ↓rd_nI, ↓gb0, ↓gb1, n10, n00, ↓bind_of hc0, ↓bind_of hkC, ↓bind_of hdC, e16, add_nI, ↓bind_of c1, ↓bind_of sound_0, ↓bind_of tk, ↓bind_of C0]
                exact ⟨_, rfl, rfl⟩
              have M : ∃ r, f_X12_readsLine (nI (dt D)) (nI (db D)) (nI p) (nI e) x num (nI L) now prongs one other wards g = some r ∧ r.1 = nI 0 ∧ r.2.2.2.2.1 = flt ww qq := by
                unfold f_X12_readsLine f_X12_readsKind f_X12_readsDoor
                simp only [ltz]
                simp (disch := omega) only [↓reduceIte, ↓some_bind, ↓nm_eq, ↓jn_eq, ↓wr_nI, ↓rd_nI, ↓gb0, ↓gb1, n10, n00, ↓bind_of hm0, ↓bind_of hk0, ↓bind_of hdM, e16', add_nI, ↓bind_of m1, ↓bind_of hm1, s58, ↓bind_of M0]
                exact ⟨_, rfl, rfl, rfl⟩
              obtain ⟨r, C1, C2⟩ := C
              obtain ⟨r', M1, M2, M3⟩ := M
              exact ⟨ww, qq, r, r', C1, M1, by omega, by omega, by omega, C2, M2, M3⟩
            · skip
              have C : fo_X4_readLine (nI L) (nI (dt D)) sorts numbers ones others values (nI e) (nI p) (nI 0) (nI n) f = some (nI (L + 1), nI (dt (apD (mkC 0 v1 u1 u2 u3) D)), upd sorts L (nI 0), upd numbers L (nI v1), upd ones L (nI u1), upd others L (nI u2), upd values L (nI u3), nI (p'), nI 0) := by
                unfold fo_X4_readLine fo_X4_readKind fo_X4_readDoor
                simp only [ltz]
                simp (disch := omega) only [↓reduceIte, ↓some_bind, ↓nm_eq, ↓jn_eq, ↓wr_nI, ↓rd_nI, ↓gb0, ↓gb1, n10, n00, ↓bind_of hc0, ↓bind_of hkC, ↓bind_of hdC, e16, add_nI, ↓bind_of c1, ↓bind_of sound_0, ↓bind_of tk, ↓bind_of C0, set_nI hv24]
                rfl
              have M : f_X12_readsLine (nI (dt D)) (nI (db D)) (nI p) (nI e) x num (nI L) now prongs one other wards g = some (nI 1, nI (dt D ||| 2 ^ v1), nI (clr (db D) v1), nI p', x, nI u3, nI (L + 1), upd now v1 (nI 0), prongs, upd one v1 (nI u1), upd other v1 (nI u2), upd wards v1 (nI u3)) := by
                unfold f_X12_readsLine f_X12_readsKind f_X12_readsDoor
                simp only [ltz]
                simp (disch := omega) only [↓reduceIte, ↓some_bind, ↓nm_eq, ↓jn_eq, ↓wr_nI, ↓rd_nI, ↓gb0, ↓gb1, n10, n00, ↓bind_of hm0, ↓bind_of hk0, ↓bind_of hdM, e16', add_nI, ↓bind_of m1, ↓bind_of hm1, s58, ↓bind_of M0]
              refine Or.inr ⟨mkC 0 v1 u1 u2 u3, p', _, _, _, _, _, _, C, ?_, ?_, M, rfl, rfl, rfl, rfl, M_unrust u1 u2 u3 hv24 hM, ⟨rfl, rfl, upd_nI d3, upd_nI d4, upd_nI d5, d6⟩, Or.inr (Or.inl ⟨rfl, hv24, g1, g2, g3, g4⟩), by omega, by omega, by omega⟩
              · exact ⟨upd_at _ _ _, upd_at _ _ _, fun _ => ⟨upd_at _ _ _, upd_at _ _ _⟩, fun _ => upd_at _ _ _⟩
              · exact fun i hi => ⟨upd_ne _ _ hi, upd_ne _ _ hi, upd_ne _ _ hi, upd_ne _ _ hi, upd_ne _ _ hi⟩
          · rw [eq_false h1] at s58
            have tk := takeN tC ht he (show p1 < 100000 by omega) (show 58 < 256 by omega) h1
            by_cases h2 : hN e b p1 = 33
            · rw [eq_true h2] at s33
              have hp1 := hN_in ht h2 (by omega)
              rcases Bool.eq_false_or_eq_true ((dt D).testBit v1) with hb | hb
              · rw [hb] at tb tbM
                simp only [if_true] at tb tbM
                have C : fo_X4_readLine (nI L) (nI (dt D)) sorts numbers ones others values (nI e) (nI p) (nI 0) (nI n) f = some (nI (L + 1), nI (dt (apD (mkC 1 v1 0 0 0) D)), upd sorts L (nI 1), upd numbers L (nI v1), ones, others, values, nI (p1 + 1), nI 0) := by
                  unfold fo_X4_readLine fo_X4_readKind fo_X4_readDoor
                  simp only [ltz]
                  simp (disch := omega) only [↓reduceIte, ↓some_bind, ↓nm_eq, ↓jn_eq, ↓wr_nI, ↓rd_nI, ↓gb0, ↓gb1, n10, n00, ↓bind_of hc0, ↓bind_of hkC, ↓bind_of hdC, e16, add_nI, ↓bind_of c1, ↓bind_of sound_0, ↓bind_of tk, ↓bind_of hc1, s33, s63, tb]
                  rfl
                have M : f_X12_readsLine (nI (dt D)) (nI (db D)) (nI p) (nI e) x num (nI L) now prongs one other wards g = some (nI 1, nI (dt D), nI (db D ||| 2 ^ v1), nI (p1 + 1), x, nI v1, nI (L + 1), now, prongs, one, other, wards) := by
                  unfold f_X12_readsLine f_X12_readsKind f_X12_readsDoor
                  simp only [ltz]
                  simp (disch := omega) only [↓reduceIte, ↓some_bind, ↓nm_eq, ↓jn_eq, ↓wr_nI, ↓rd_nI, ↓gb0, ↓gb1, n10, n00, ↓bind_of hm0, ↓bind_of hk0, ↓bind_of hdM, e16', add_nI, ↓bind_of m1, ↓bind_of hm1, s58, s33, s63, ↓bind_of tbM, set_nI hv24, clr_nI hv24]
                refine Or.inr ⟨mkC 1 v1 0 0 0, p1 + 1, _, _, _, _, _, _, C, ?_, ?_, M, rfl, rfl, rfl, rfl, hM, ⟨rfl, rfl, d3, d4, d5, d6⟩, Or.inr (Or.inr ⟨Or.inl rfl, hv24, hb⟩), by omega, by omega, by omega⟩
                · exact ⟨upd_at _ _ _, upd_at _ _ _, fun h => absurd h (by show ¬ (1 : Nat) = 0; decide), fun h => absurd h (by show ¬ ((1 : Nat) = 0 ∨ (1 : Nat) = 3); decide)⟩
                · exact fun i hi => ⟨upd_ne _ _ hi, upd_ne _ _ hi, rfl, rfl, rfl⟩
              · rw [hb] at tb tbM
                simp only [Bool.false_eq_true, if_false] at tb tbM
                refine Or.inl ?_
                have C : ∃ r, fo_X4_readLine (nI L) (nI (dt D)) sorts numbers ones others values (nI e) (nI p) (nI 0) (nI n) f = some r ∧ r.2.2.2.2.2.2.2.2 = flt 7 p := by
                  unfold fo_X4_readLine fo_X4_readKind fo_X4_readDoor
                  simp only [ltz]
                  simp (disch := omega) only [↓reduceIte, ↓some_bind, ↓nm_eq, ↓jn_eq, ↓wr_nI, ↓rd_nI, ↓gb0, ↓gb1, n10, n00, ↓bind_of hc0, ↓bind_of hkC, ↓bind_of hdC, e16, add_nI, ↓bind_of c1, ↓bind_of sound_0, ↓bind_of tk, ↓bind_of hc1, s33, s63, tb, ↓bind_of (fail_0 7 p)]
                  exact ⟨_, rfl, rfl⟩
                have M : ∃ r, f_X12_readsLine (nI (dt D)) (nI (db D)) (nI p) (nI e) x num (nI L) now prongs one other wards g = some r ∧ r.1 = nI 0 ∧ r.2.2.2.2.1 = flt 7 p := by
                  unfold f_X12_readsLine f_X12_readsKind f_X12_readsDoor
                  simp only [ltz]
                  simp (disch := omega) only [↓reduceIte, ↓some_bind, ↓nm_eq, ↓jn_eq, ↓wr_nI, ↓rd_nI, ↓gb0, ↓gb1, n10, n00, ↓bind_of hm0, ↓bind_of hk0, ↓bind_of hdM, e16', add_nI, ↓bind_of m1, ↓bind_of hm1, s58, s33, s63, ↓bind_of tbM, ↓bind_of (wrong_M x 7 p)]
                  exact ⟨_, rfl, rfl, rfl⟩
                obtain ⟨r, C1, C2⟩ := C
                obtain ⟨r', M1, M2, M3⟩ := M
                exact ⟨7, p, r, r', C1, M1, by omega, by omega, by omega, C2, M2, M3⟩
            · rw [eq_false h2] at s33
              have h33 := h2
              clear h2
              by_cases h2 : hN e b p1 = 63
              · rw [eq_true h2] at s63
                have hp1 := hN_in ht h2 (by omega)
                rcases Bool.eq_false_or_eq_true ((dt D).testBit v1) with hb | hb
                · rw [hb] at tb tbM
                  simp only [if_true] at tb tbM
                  have C : fo_X4_readLine (nI L) (nI (dt D)) sorts numbers ones others values (nI e) (nI p) (nI 0) (nI n) f = some (nI (L + 1), nI (dt (apD (mkC 2 v1 0 0 0) D)), upd sorts L (nI 2), upd numbers L (nI v1), ones, others, values, nI (p1 + 1), nI 0) := by
                    unfold fo_X4_readLine fo_X4_readKind fo_X4_readDoor
                    simp only [ltz]
                    simp (disch := omega) only [↓reduceIte, ↓some_bind, ↓nm_eq, ↓jn_eq, ↓wr_nI, ↓rd_nI, ↓gb0, ↓gb1, n10, n00, ↓bind_of hc0, ↓bind_of hkC, ↓bind_of hdC, e16, add_nI, ↓bind_of c1, ↓bind_of sound_0, ↓bind_of tk, ↓bind_of hc1, s33, s63, tb]
                    rfl
                  have M : f_X12_readsLine (nI (dt D)) (nI (db D)) (nI p) (nI e) x num (nI L) now prongs one other wards g = some (nI 1, nI (dt D), nI (clr (db D) v1), nI (p1 + 1), x, nI v1, nI (L + 1), now, prongs, one, other, wards) := by
                    unfold f_X12_readsLine f_X12_readsKind f_X12_readsDoor
                    simp only [ltz]
                    simp (disch := omega) only [↓reduceIte, ↓some_bind, ↓nm_eq, ↓jn_eq, ↓wr_nI, ↓rd_nI, ↓gb0, ↓gb1, n10, n00, ↓bind_of hm0, ↓bind_of hk0, ↓bind_of hdM, e16', add_nI, ↓bind_of m1, ↓bind_of hm1, s58, s33, s63, ↓bind_of tbM, set_nI hv24, clr_nI hv24]
                  refine Or.inr ⟨mkC 2 v1 0 0 0, p1 + 1, _, _, _, _, _, _, C, ?_, ?_, M, rfl, rfl, rfl, rfl, hM, ⟨rfl, rfl, d3, d4, d5, d6⟩, Or.inr (Or.inr ⟨Or.inr rfl, hv24, hb⟩), by omega, by omega, by omega⟩
                  · exact ⟨upd_at _ _ _, upd_at _ _ _, fun h => absurd h (by show ¬ (2 : Nat) = 0; decide), fun h => absurd h (by show ¬ ((2 : Nat) = 0 ∨ (2 : Nat) = 3); decide)⟩
                  · exact fun i hi => ⟨upd_ne _ _ hi, upd_ne _ _ hi, rfl, rfl, rfl⟩
                · rw [hb] at tb tbM
                  simp only [Bool.false_eq_true, if_false] at tb tbM
                  refine Or.inl ?_
                  have C : ∃ r, fo_X4_readLine (nI L) (nI (dt D)) sorts numbers ones others values (nI e) (nI p) (nI 0) (nI n) f = some r ∧ r.2.2.2.2.2.2.2.2 = flt 7 p := by
                    unfold fo_X4_readLine fo_X4_readKind fo_X4_readDoor
                    simp only [ltz]
                    simp (disch := omega) only [↓reduceIte, ↓some_bind, ↓nm_eq, ↓jn_eq, ↓wr_nI, ↓rd_nI, ↓gb0, ↓gb1, n10, n00, ↓bind_of hc0, ↓bind_of hkC, ↓bind_of hdC, e16, add_nI, ↓bind_of c1, ↓bind_of sound_0, ↓bind_of tk, ↓bind_of hc1, s33, s63, tb, ↓bind_of (fail_0 7 p)]
                    exact ⟨_, rfl, rfl⟩
                  have M : ∃ r, f_X12_readsLine (nI (dt D)) (nI (db D)) (nI p) (nI e) x num (nI L) now prongs one other wards g = some r ∧ r.1 = nI 0 ∧ r.2.2.2.2.1 = flt 7 p := by
                    unfold f_X12_readsLine f_X12_readsKind f_X12_readsDoor
                    simp only [ltz]
                    simp (disch := omega) only [↓reduceIte, ↓some_bind, ↓nm_eq, ↓jn_eq, ↓wr_nI, ↓rd_nI, ↓gb0, ↓gb1, n10, n00, ↓bind_of hm0, ↓bind_of hk0, ↓bind_of hdM, e16', add_nI, ↓bind_of m1, ↓bind_of hm1, s58, s33, s63, ↓bind_of tbM, ↓bind_of (wrong_M x 7 p)]
                    exact ⟨_, rfl, rfl, rfl⟩
                  obtain ⟨r, C1, C2⟩ := C
                  obtain ⟨r', M1, M2, M3⟩ := M
                  exact ⟨7, p, r, r', C1, M1, by omega, by omega, by omega, C2, M2, M3⟩
              · rw [eq_false h2] at s63
                refine Or.inl ?_
                have C : ∃ r, fo_X4_readLine (nI L) (nI (dt D)) sorts numbers ones others values (nI e) (nI p) (nI 0) (nI n) f = some r ∧ r.2.2.2.2.2.2.2.2 = flt 1 p1 := by
                  unfold fo_X4_readLine fo_X4_readKind fo_X4_readDoor
                  simp only [ltz]
                  simp (disch := omega) only [↓reduceIte, ↓some_bind, ↓nm_eq, ↓jn_eq, ↓wr_nI, ↓rd_nI, ↓gb0, ↓gb1, n10, n00, ↓bind_of hc0, ↓bind_of hkC, ↓bind_of hdC, e16, add_nI, ↓bind_of c1, ↓bind_of sound_0, ↓bind_of tk, ↓bind_of hc1, s33, s63, ↓bind_of (fail_0 1 p1)]
                  exact ⟨_, rfl, rfl⟩
                have M : ∃ r, f_X12_readsLine (nI (dt D)) (nI (db D)) (nI p) (nI e) x num (nI L) now prongs one other wards g = some r ∧ r.1 = nI 0 ∧ r.2.2.2.2.1 = flt 1 p1 := by
                  unfold f_X12_readsLine f_X12_readsKind f_X12_readsDoor
                  simp only [ltz]
                  simp (disch := omega) only [↓reduceIte, ↓some_bind, ↓nm_eq, ↓jn_eq, ↓wr_nI, ↓rd_nI, ↓gb0, ↓gb1, n10, n00, ↓bind_of hm0, ↓bind_of hk0, ↓bind_of hdM, e16', add_nI, ↓bind_of m1, ↓bind_of hm1, s58, s33, s63, ↓bind_of (wrong_M x 1 p1)]
                  exact ⟨_, rfl, rfl, rfl⟩
                obtain ⟨r, C1, C2⟩ := C
                obtain ⟨r', M1, M2, M3⟩ := M
                exact ⟨1, p1, r, r', C1, M1, by omega, by omega, by omega, C2, M2, M3⟩
        · have hf := fault_ne hw1 (by omega) (show q1 < 100000 by omega)
          rw [if_neg hw1] at m1
          refine Or.inl ?_
          have C : ∃ r, fo_X4_readLine (nI L) (nI (dt D)) sorts numbers ones others values (nI e) (nI p) (nI 0) (nI n) f = some r ∧ r.2.2.2.2.2.2.2.2 = fw w1 q1 := by
            unfold fo_X4_readLine fo_X4_readKind fo_X4_readDoor
            simp only [ltz]
            simp (disch := omega) only [↓reduceIte, ↓some_bind, ↓nm_eq, ↓jn_eq, ↓wr_nI, ↓rd_nI, ↓gb0, ↓gb1, n10, n00, ↓bind_of hc0, ↓bind_of hkC, ↓bind_of hdC, e16, add_nI, ↓bind_of c1, ↓bind_of (sound_n hf)]
            exact ⟨_, rfl, rfl⟩
          have M : ∃ r, f_X12_readsLine (nI (dt D)) (nI (db D)) (nI p) (nI e) x num (nI L) now prongs one other wards g = some r ∧ r.1 = nI 0 ∧ r.2.2.2.2.1 = fw w1 q1 := by
            unfold f_X12_readsLine f_X12_readsKind f_X12_readsDoor
            simp only [ltz]
            simp (disch := omega) only [↓reduceIte, ↓some_bind, ↓nm_eq, ↓jn_eq, ↓wr_nI, ↓rd_nI, ↓gb0, ↓gb1, n10, n00, ↓bind_of hm0, ↓bind_of hk0, ↓bind_of hdM, e16', add_nI, ↓bind_of m1]
            exact ⟨_, rfl, rfl, rfl⟩
          obtain ⟨r, C1, C2⟩ := C
          obtain ⟨r', M1, M2, M3⟩ := M
          rw [fwS q1 hw1] at C2 M3
          exact ⟨w1, q1, r, r', C1, M1, by omega, by omega, by omega, C2, M2, M3⟩
    · rw [hd] at hdC hdM
      simp only [Bool.false_eq_true, if_false] at hdC hdM
      refine Or.inl ?_
      have C : ∃ r, fo_X4_readLine (nI L) (nI (dt D)) sorts numbers ones others values (nI e) (nI p) (nI 0) (nI n) f = some r ∧ r.2.2.2.2.2.2.2.2 = flt 1 p := by
        unfold fo_X4_readLine fo_X4_readKind fo_X4_readDoor
        simp only [ltz]
        simp (disch := omega) only [↓reduceIte, ↓some_bind, ↓nm_eq, ↓jn_eq, ↓wr_nI, ↓rd_nI, ↓gb0, ↓gb1, n10, n00, ↓bind_of hc0, ↓bind_of hkC, ↓bind_of hdC, ↓bind_of (fail_0 1 p)]
        exact ⟨_, rfl, rfl⟩
      have M : ∃ r, f_X12_readsLine (nI (dt D)) (nI (db D)) (nI p) (nI e) x num (nI L) now prongs one other wards g = some r ∧ r.1 = nI 0 ∧ r.2.2.2.2.1 = flt 1 p := by
        unfold f_X12_readsLine f_X12_readsKind f_X12_readsDoor
        simp only [ltz]
        simp (disch := omega) only [↓reduceIte, ↓some_bind, ↓nm_eq, ↓jn_eq, ↓wr_nI, ↓rd_nI, ↓gb0, ↓gb1, n10, n00, ↓bind_of hm0, ↓bind_of hk0, ↓bind_of hdM, ↓bind_of (wrong_M x 1 p)]
        exact ⟨_, rfl, rfl, rfl⟩
      obtain ⟨r, C1, C2⟩ := C
      obtain ⟨r', M1, M2, M3⟩ := M
      exact ⟨1, p, r, r', C1, M1, by omega, by omega, by omega, C2, M2, M3⟩
