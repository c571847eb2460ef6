/-! ORDERS -/
theorem fault_ne {w q : Nat} (h : ¬ w = 0) (hw : w ≤ 7) (hq : q < 100000) : fw w q ≠ nI 0 := by rw [fwS q h]; exact flt_ne w q (by omega) (by omega) hq
def clr (x d : Nat) : Nat := x &&& (2 ^ d ^^^ 4294967295)
theorem clr_nI {x d : Nat} (hd : d < 24) : nI x &&& ((nI 1 <<< (nI d &&& nI 31)) ^^^ (-nI 1)) = nI (clr x d) := by
  have : nI 1 <<< (nI d &&& nI 31) = nI (2 ^ d) := one_shl (by omega)
  have m1' : -nI 1 = nI 4294967295 := m1_nI
  rw [this, m1', xor_nI, and_nI]
  rfl
theorem set_nI {x d : Nat} (hd : d < 24) : nI x ||| (nI 1 <<< (nI d &&& nI 31)) = nI (x ||| 2 ^ d) := by
  have : nI 1 <<< (nI d &&& nI 31) = nI (2 ^ d) := one_shl (by omega)
  rw [this, or_nI]
theorem clr_tb {x d : Nat} (hx : x < 16777216) (i : Nat) : (clr x d).testBit i = (x.testBit i && !decide (i = d)) := by
  unfold clr
  rw [Nat.testBit_and, Nat.testBit_xor, Nat.testBit_two_pow, show (4294967295 : Nat) = 2 ^ 32 - 1 by rfl, Nat.testBit_two_pow_sub_one]
  by_cases hi : i < 24
  · rw [decide_eq_true (show i < 32 by omega)]
    by_cases h : d = i
    · subst h; simp
    · have : ¬ i = d := fun e => h e.symm
      simp [h, this]
  · have : 2 ^ 24 ≤ 2 ^ i := Nat.pow_le_pow_right (by omega) (by omega)
    rw [tb_big (show x < 2 ^ i by omega)]
    simp
theorem clr_lt {x d : Nat} (hx : x < 16777216) : clr x d < 16777216 := Nat.lt_of_le_of_lt Nat.and_le_left hx
theorem set_lt {x d : Nat} (hx : x < 16777216) (hd : d < 24) : x ||| 2 ^ d < 16777216 := Nat.or_lt_two_pow (n := 24) hx (Nat.pow_lt_pow_right (by omega) hd)
theorem bind_of {α β : Type} {o : Option α} {a : α} (h : o = some a) (f : α → Option β) : o.bind f = f a := by rw [h, some_bind]
theorem hN_in {e : Nat} {b : Nat → Nat} (ht : txt e b) {p c : Nat} (h : hN e b p = c) (hc : c < 256) : p < e := by
  rcases hN_lt ht p with ⟨_, h1, _⟩ | ⟨h1, _, _⟩
  · exact h1
  · omega
theorem wantY {n e p c : Nat} {f : Nat → Int32} {b : Nat → Nat} (tC : CTape (nI n) f n b) (ht : txt e b) (he : e ≤ n) (hp : p < 100000) (hc : c < 256) (h : hN e b p = c) : fo_X7_want (nI e) (nI p) (nI 0) (nI n) f (nI c) = some (nI (p + 1), nI 0) := by rw [want_C tC ht he hp hc, if_pos h]
theorem wantN {n e p c : Nat} {f : Nat → Int32} {b : Nat → Nat} (tC : CTape (nI n) f n b) (ht : txt e b) (he : e ≤ n) (hp : p < 100000) (hc : c < 256) (h : ¬ hN e b p = c) : fo_X7_want (nI e) (nI p) (nI 0) (nI n) f (nI c) = some (nI p, flt 1 p) := by rw [want_C tC ht he hp hc, if_neg h]
theorem takeY {n e p c : Nat} {f : Nat → Int32} {b : Nat → Nat} (tC : CTape (nI n) f n b) (ht : txt e b) (he : e ≤ n) (hp : p < 100000) (hc : c < 256) (h : hN e b p = c) : fo_X7_take (nI e) (nI p) (nI 0) (nI n) f (nI c) = some (nI 1, nI (p + 1)) := by rw [take_C tC ht he hp hc, if_pos h]
theorem takeN {n e p c : Nat} {f : Nat → Int32} {b : Nat → Nat} (tC : CTape (nI n) f n b) (ht : txt e b) (he : e ≤ n) (hp : p < 100000) (hc : c < 256) (h : ¬ hN e b p = c) : fo_X7_take (nI e) (nI p) (nI 0) (nI n) f (nI c) = some (nI 0, nI p) := by rw [take_C tC ht he hp hc, if_neg h]
theorem takesY {n e p c : Nat} {t x : Int32} {g : Nat → Int32} {b : Nat → Nat} (hn : n ≤ 260) (tM : MTape t g n b) (ht : txt e b) (he : e ≤ n) (hp : p < 100000) (hc : c < 256) (h : hN e b p = c) : f_X12_takes (nI p) (nI e) x g (nI c) = some (nI 1, nI (p + 1), x) := by rw [takes_M hn tM ht he hp hc, if_pos h]
theorem takesN {n e p c : Nat} {t x : Int32} {g : Nat → Int32} {b : Nat → Nat} (hn : n ≤ 260) (tM : MTape t g n b) (ht : txt e b) (he : e ≤ n) (hp : p < 100000) (hc : c < 256) (h : ¬ hN e b p = c) : f_X12_takes (nI p) (nI e) x g (nI c) = some (nI 0, nI p, flt 1 p) := by rw [takes_M hn tM ht he hp hc, if_neg h]
theorem rooms_ok {n e p L d : Nat} {t x num : Int32} {f g ones others values now one other wards : Nat → Int32} {b : Nat → Nat} {T B : Nat} (tC : CTape (nI n) f n b) (tM : MTape t g n b) (ht : txt e b) (he : e ≤ n) (hp : p ≤ e) (hL : L < 16) (hd : d < 24) :
    (∃ w q r r', fo_X4_readRooms (nI L) ones others values (nI e) (nI p) (nI 0) (nI n) f = some r ∧ f_X12_readsRooms (nI T) (nI B) (nI p) (nI e) x num now one other wards g (nI d) = some r' ∧ 1 ≤ w ∧ w ≤ 7 ∧ q < 1000 ∧ r.2.2.2.2 = flt w q ∧ r'.1 = nI 0 ∧ r'.2.2.2.2.1 = flt w q) ∨
    (∃ v1 v2 v3 p', fo_X4_readRooms (nI L) ones others values (nI e) (nI p) (nI 0) (nI n) f = some (upd ones L (nI v1), upd others L (nI v2), upd values L (nI v3), nI p', nI 0) ∧ f_X12_readsRooms (nI T) (nI B) (nI p) (nI e) x num now one other wards g (nI d) = some (nI 1, nI (T ||| 2 ^ d), nI (clr B d), nI p', x, nI v3, upd now d (nI 0), upd one d (nI v1), upd other d (nI v2), upd wards d (nI v3)) ∧ v1 ≤ 15 ∧ v2 ≤ 15 ∧ v1 ≠ v2 ∧ v3 ≤ 63 ∧ p < p' ∧ p' ≤ e) := by
  have hn := tC.1
  have he2 := ht.1
  obtain ⟨num1, m1⟩ := within_M (x := x) (num := num) (hi := 15) hn tM ht he (show p < 90000 by omega) (by omega)
  have c1 := upTo_C (hi := 15) tC ht he (show p < 90000 by omega) (by omega)
  have k1 := NU_ok e b 15 (p)
  generalize NU e b 15 (p) = z1 at *
  obtain ⟨v1, p1, w1, q1⟩ := z1
  obtain ⟨a11, a12, a13, a14, a15, a16, a17⟩ := k1
  dsimp only at *
  by_cases hw1 : w1 = 0
  · subst hw1
    obtain ⟨b1, b2⟩ := a17 rfl
    rw [if_pos rfl] at m1
    rw [fw0] at c1
    by_cases h1 : hN e b p1 = 45
    · have hp1 := hN_in ht h1 (by omega)
      have wc1 := wantY tC ht he (show p1 < 100000 by omega) (show 45 < 256 by omega) h1
      have wm1 := takesY (x := x) hn tM ht he (show p1 < 100000 by omega) (show 45 < 256 by omega) h1
      obtain ⟨num2, m2⟩ := within_M (x := x) (num := nI v1) (hi := 15) hn tM ht he (show p1 + 1 < 90000 by omega) (by omega)
      have c2 := upTo_C (hi := 15) tC ht he (show p1 + 1 < 90000 by omega) (by omega)
      have k2 := NU_ok e b 15 (p1 + 1)
      generalize NU e b 15 (p1 + 1) = z2 at *
      obtain ⟨v2, p2, w2, q2⟩ := z2
      obtain ⟨a21, a22, a23, a24, a25, a26, a27⟩ := k2
      dsimp only at *
      by_cases hw2 : w2 = 0
      · subst hw2
        obtain ⟨f1, f2⟩ := a27 rfl
        rw [if_pos rfl] at m2
        rw [fw0] at c2
        have r1 : upd ones L (nI v1) L = nI v1 := by unfold upd; rw [if_pos rfl]
        have r2 : upd others L (nI v2) L = nI v2 := by unfold upd; rw [if_pos rfl]
        have es : (nI v1 = nI v2) = (v1 = v2) := eq_nI (by omega) (by omega)
        by_cases h2 : v1 = v2
        · rw [eq_true h2] at es
          have hf := flt_ne 6 (p1 + 1) (by omega) (by omega) (by omega)
          refine Or.inl ?_
          have C : ∃ r, fo_X4_readRooms (nI L) ones others values (nI e) (nI p) (nI 0) (nI n) f = some r ∧ r.2.2.2.2 = flt 6 (p1 + 1) := by
            unfold fo_X4_readRooms
            simp only [ltz]
            simp (disch := omega) only [↓reduceIte, ↓some_bind, ↓nm_eq, ↓jn_eq, ↓wr_nI, ↓rd_nI, ↓gb0, ↓gb1, n10, n00, ↓bind_of c1, ↓bind_of wc1, ↓bind_of sound_0, ↓bind_of c2, r1, r2, es, ↓bind_of (fail_0 6 (p1 + 1)), ↓bind_of (want_n hf), ↓bind_of (sound_n hf)]
            exact ⟨_, rfl, rfl⟩
          have M : ∃ r, f_X12_readsRooms (nI T) (nI B) (nI p) (nI e) x num now one other wards g (nI d) = some r ∧ r.1 = nI 0 ∧ r.2.2.2.2.1 = flt 6 (p1 + 1) := by
            unfold f_X12_readsRooms
            simp only [ltz]
            simp (disch := omega) only [↓reduceIte, ↓some_bind, ↓nm_eq, ↓jn_eq, ↓wr_nI, ↓rd_nI, ↓gb0, ↓gb1, n10, n00, ↓bind_of m1, ↓bind_of wm1, ↓bind_of m2, es, ↓bind_of (wrong_M x 6 (p1 + 1))]
            exact ⟨_, rfl, rfl, rfl⟩
          obtain ⟨r, C1, C2⟩ := C
          obtain ⟨r', M1, M2, M3⟩ := M
          exact ⟨6, p1 + 1, r, r', C1, M1, by omega, by omega, by omega, C2, M2, M3⟩
        · rw [eq_false h2] at es
          by_cases h3 : hN e b p2 = 61
          · have hp2 := hN_in ht h3 (by omega)
            have wc2 := wantY tC ht he (show p2 < 100000 by omega) (show 61 < 256 by omega) h3
            have wm2 := takesY (x := x) hn tM ht he (show p2 < 100000 by omega) (show 61 < 256 by omega) h3
            obtain ⟨num3, m3⟩ := within_M (x := x) (num := nI v2) (hi := 63) hn tM ht he (show p2 + 1 < 90000 by omega) (by omega)
            have c3 := upTo_C (hi := 63) tC ht he (show p2 + 1 < 90000 by omega) (by omega)
            have k3 := NU_ok e b 63 (p2 + 1)
            generalize NU e b 63 (p2 + 1) = z3 at *
            obtain ⟨v3, p3, w3, q3⟩ := z3
            obtain ⟨a31, a32, a33, a34, a35, a36, a37⟩ := k3
            dsimp only at *
            by_cases hw3 : w3 = 0
            · subst hw3
              obtain ⟨i1, i2⟩ := a37 rfl
              rw [if_pos rfl] at m3
              rw [fw0] at c3
              refine Or.inr ⟨v1, v2, v3, p3, ?_, ?_, by omega, by omega, h2, by omega, by omega, by omega⟩
              · unfold fo_X4_readRooms
                simp only [ltz]
                simp (disch := omega) only [↓reduceIte, ↓some_bind, ↓nm_eq, ↓jn_eq, ↓wr_nI, ↓rd_nI, ↓gb0, ↓gb1, n10, n00, ↓bind_of c1, ↓bind_of wc1, ↓bind_of sound_0, ↓bind_of c2, r1, r2, es, ↓bind_of wc2, ↓bind_of c3]
              · unfold f_X12_readsRooms
                simp only [ltz]
                simp (disch := omega) only [↓reduceIte, ↓some_bind, ↓nm_eq, ↓jn_eq, ↓wr_nI, ↓rd_nI, ↓gb0, ↓gb1, n10, n00, ↓bind_of m1, ↓bind_of wm1, ↓bind_of m2, es, ↓bind_of wm2, ↓bind_of m3, set_nI hd, clr_nI hd, add_nI, Nat.zero_add]
            · have hf := fault_ne hw3 (by omega) (show q3 < 100000 by omega)
              rw [if_neg hw3] at m3
              refine Or.inl ?_
              have C : ∃ r, fo_X4_readRooms (nI L) ones others values (nI e) (nI p) (nI 0) (nI n) f = some r ∧ r.2.2.2.2 = fw w3 q3 := by
                unfold fo_X4_readRooms
                simp only [ltz]
                simp (disch := omega) only [↓reduceIte, ↓some_bind, ↓nm_eq, ↓jn_eq, ↓wr_nI, ↓rd_nI, ↓gb0, ↓gb1, n10, n00, ↓bind_of c1, ↓bind_of wc1, ↓bind_of sound_0, ↓bind_of c2, r1, r2, es, ↓bind_of wc2, ↓bind_of c3]
                exact ⟨_, rfl, rfl⟩
              have M : ∃ r, f_X12_readsRooms (nI T) (nI B) (nI p) (nI e) x num now one other wards g (nI d) = some r ∧ r.1 = nI 0 ∧ r.2.2.2.2.1 = fw w3 q3 := by
                unfold f_X12_readsRooms
                simp only [ltz]
                simp (disch := omega) only [↓reduceIte, ↓some_bind, ↓nm_eq, ↓jn_eq, ↓wr_nI, ↓rd_nI, ↓gb0, ↓gb1, n10, n00, ↓bind_of m1, ↓bind_of wm1, ↓bind_of m2, es, ↓bind_of wm2, ↓bind_of m3]
                exact ⟨_, rfl, rfl, rfl⟩
              obtain ⟨r, C1, C2⟩ := C
              obtain ⟨r', M1, M2, M3⟩ := M
              rw [fwS q3 hw3] at C2 M3
              exact ⟨w3, q3, r, r', C1, M1, by omega, by omega, by omega, C2, M2, M3⟩
          · have hf := flt_ne 1 p2 (by omega) (by omega) (by omega)
            have wc2 := wantN tC ht he (show p2 < 100000 by omega) (show 61 < 256 by omega) h3
            have wm2 := takesN (x := x) hn tM ht he (show p2 < 100000 by omega) (show 61 < 256 by omega) h3
            refine Or.inl ?_
            have C : ∃ r, fo_X4_readRooms (nI L) ones others values (nI e) (nI p) (nI 0) (nI n) f = some r ∧ r.2.2.2.2 = flt 1 p2 := by
              unfold fo_X4_readRooms
              simp only [ltz]
              simp (disch := omega) only [↓reduceIte, ↓some_bind, ↓nm_eq, ↓jn_eq, ↓wr_nI, ↓rd_nI, ↓gb0, ↓gb1, n10, n00, ↓bind_of c1, ↓bind_of wc1, ↓bind_of sound_0, ↓bind_of c2, r1, r2, es, ↓bind_of wc2, ↓bind_of (sound_n hf)]
              exact ⟨_, rfl, rfl⟩
            have M : ∃ r, f_X12_readsRooms (nI T) (nI B) (nI p) (nI e) x num now one other wards g (nI d) = some r ∧ r.1 = nI 0 ∧ r.2.2.2.2.1 = flt 1 p2 := by
              unfold f_X12_readsRooms
              simp only [ltz]
              simp (disch := omega) only [↓reduceIte, ↓some_bind, ↓nm_eq, ↓jn_eq, ↓wr_nI, ↓rd_nI, ↓gb0, ↓gb1, n10, n00, ↓bind_of m1, ↓bind_of wm1, ↓bind_of m2, es, ↓bind_of wm2]
              exact ⟨_, rfl, rfl, rfl⟩
            obtain ⟨r, C1, C2⟩ := C
            obtain ⟨r', M1, M2, M3⟩ := M
            exact ⟨1, p2, r, r', C1, M1, by omega, by omega, by omega, C2, M2, M3⟩
      · have hf := fault_ne hw2 (by omega) (show q2 < 100000 by omega)
        rw [if_neg hw2] at m2
        refine Or.inl ?_
        have C : ∃ r, fo_X4_readRooms (nI L) ones others values (nI e) (nI p) (nI 0) (nI n) f = some r ∧ r.2.2.2.2 = fw w2 q2 := by
          unfold fo_X4_readRooms
          simp only [ltz]
          simp (disch := omega) only [↓reduceIte, ↓some_bind, ↓nm_eq, ↓jn_eq, ↓wr_nI, ↓rd_nI, ↓gb0, ↓gb1, n10, n00, ↓bind_of c1, ↓bind_of wc1, ↓bind_of sound_0, ↓bind_of c2, ↓bind_of (want_n hf), ↓bind_of (sound_n hf)]
          exact ⟨_, rfl, rfl⟩
        have M : ∃ r, f_X12_readsRooms (nI T) (nI B) (nI p) (nI e) x num now one other wards g (nI d) = some r ∧ r.1 = nI 0 ∧ r.2.2.2.2.1 = fw w2 q2 := by
          unfold f_X12_readsRooms
          simp only [ltz]
          simp (disch := omega) only [↓reduceIte, ↓some_bind, ↓nm_eq, ↓jn_eq, ↓wr_nI, ↓rd_nI, ↓gb0, ↓gb1, n10, n00, ↓bind_of m1, ↓bind_of wm1, ↓bind_of m2]
          exact ⟨_, rfl, rfl, rfl⟩
        obtain ⟨r, C1, C2⟩ := C
        obtain ⟨r', M1, M2, M3⟩ := M
        rw [fwS q2 hw2] at C2 M3
        exact ⟨w2, q2, r, r', C1, M1, by omega, by omega, by omega, C2, M2, M3⟩
    · have hf := flt_ne 1 p1 (by omega) (by omega) (by omega)
      have wc1 := wantN tC ht he (show p1 < 100000 by omega) (show 45 < 256 by omega) h1
      have wm1 := takesN (x := x) hn tM ht he (show p1 < 100000 by omega) (show 45 < 256 by omega) h1
      refine Or.inl ?_
      have C : ∃ r, fo_X4_readRooms (nI L) ones others values (nI e) (nI p) (nI 0) (nI n) f = some r ∧ r.2.2.2.2 = flt 1 p1 := by
        unfold fo_X4_readRooms
        simp only [ltz]
        simp (disch := omega) only [↓reduceIte, ↓some_bind, ↓nm_eq, ↓jn_eq, ↓wr_nI, ↓rd_nI, ↓gb0, ↓gb1, n10, n00, ↓bind_of c1, ↓bind_of wc1, ↓bind_of (want_n hf), ↓bind_of (sound_n hf)]
        exact ⟨_, rfl, rfl⟩
      have M : ∃ r, f_X12_readsRooms (nI T) (nI B) (nI p) (nI e) x num now one other wards g (nI d) = some r ∧ r.1 = nI 0 ∧ r.2.2.2.2.1 = flt 1 p1 := by
        unfold f_X12_readsRooms
        simp only [ltz]
        simp (disch := omega) only [↓reduceIte, ↓some_bind, ↓nm_eq, ↓jn_eq, ↓wr_nI, ↓rd_nI, ↓gb0, ↓gb1, n10, n00, ↓bind_of m1, ↓bind_of wm1]
        exact ⟨_, rfl, rfl, rfl⟩
      obtain ⟨r, C1, C2⟩ := C
      obtain ⟨r', M1, M2, M3⟩ := M
      exact ⟨1, p1, r, r', C1, M1, by omega, by omega, by omega, C2, M2, M3⟩
  · have hf := fault_ne hw1 (by omega) (show q1 < 100000 by omega)
    rw [if_neg hw1] at m1
    refine Or.inl ?_
    have C : ∃ r, fo_X4_readRooms (nI L) ones others values (nI e) (nI p) (nI 0) (nI n) f = some r ∧ r.2.2.2.2 = fw w1 q1 := by
      unfold fo_X4_readRooms
      simp only [ltz]
      simp (disch := omega) only [↓reduceIte, ↓some_bind, ↓nm_eq, ↓jn_eq, ↓wr_nI, ↓rd_nI, ↓gb0, ↓gb1, n10, n00, ↓bind_of c1, ↓bind_of (want_n hf), ↓bind_of (sound_n hf)]
      exact ⟨_, rfl, rfl⟩
    have M : ∃ r, f_X12_readsRooms (nI T) (nI B) (nI p) (nI e) x num now one other wards g (nI d) = some r ∧ r.1 = nI 0 ∧ r.2.2.2.2.1 = fw w1 q1 := by
      unfold f_X12_readsRooms
      simp only [ltz]
      simp (disch := omega) only [↓reduceIte, ↓some_bind, ↓nm_eq, ↓jn_eq, ↓wr_nI, ↓rd_nI, ↓gb0, ↓gb1, n10, n00, ↓bind_of m1]
      exact ⟨_, rfl, rfl, rfl⟩
    obtain ⟨r, C1, C2⟩ := C
    obtain ⟨r', M1, M2, M3⟩ := M
    rw [fwS q1 hw1] at C2 M3
    exact ⟨w1, q1, r, r', C1, M1, by omega, by omega, by omega, C2, M2, M3⟩
