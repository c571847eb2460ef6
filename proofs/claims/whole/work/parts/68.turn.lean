/-! WALK: a turn, rounds -/
def sPn (T : TS) (j v : Nat) : TS := (tt T, rn T, xx T, ru T, ro T, ha T, fun i => if i = j then v else pn T i)
def sX (T : TS) (v : Nat) : TS := (tt T, rn T, v, ru T, ro T, ha T, pn T)
def sRo (T : TS) (w v : Nat) : TS := (tt T, rn T, xx T, ru T, (fun i => if i = w then v else ro T i), ha T, pn T)
def sRu (T : TS) (d v : Nat) : TS := (tt T, rn T, xx T, (fun i => if i = d then v else ru T i), ro T, ha T, pn T)
def sRn (T : TS) (v : Nat) : TS := (tt T, v, xx T, ru T, ro T, ha T, pn T)
theorem upd_sh {A : Nat → Int32} {F : Nat → Nat} {n a d v : Nat} (h : ∀ i, i < n → A (a + i) = nI (F i)) : ∀ i, i < n → upd A (a + d) (nI v) (a + i) = nI (if i = d then v else F i) := by
  intro i hi
  unfold upd
  by_cases h1 : i = d
  · rw [if_pos h1, if_pos (by omega)]
  · rw [if_neg h1, if_neg (by omega)]; exact h i hi
theorem upd_off {A : Nat → Int32} {P : Nat → Int32} {n a j : Nat} {v : Int32} (h : ∀ i, i < n → A (a + i) = P i) (hj : j < a ∨ a + n ≤ j) : ∀ i, i < n → upd A j v (a + i) = P i := by
  intro i hi
  unfold upd
  rw [if_neg (by omega)]
  exact h i hi
theorem upd_lo {A : Nat → Int32} {P : Nat → Int32} {n j : Nat} {v : Int32} (h : ∀ i, i < n → A i = P i) (hj : n ≤ j) : ∀ i, i < n → upd A j v i = P i := by
  intro i hi
  unfold upd
  rw [if_neg (by omega)]
  exact h i hi
theorem M_pn {now : Nat → Int32} {T : TS} {j : Nat} (hj : j < 60) (v : Nat) (h : MTown now T) : MTown (upd now (104 + j) (nI v)) (sPn T j v) := by
  obtain ⟨a1, a2, a3, a4, a5, a6, a7⟩ := h
  exact ⟨upd_lo a1 (by omega), upd_off a2 (by omega), upd_off a3 (by omega), upd_off a4 (by omega), upd_sh a5, (upd_ne _ _ (by omega)).trans a6, (upd_ne _ _ (by omega)).trans a7⟩
theorem M_x {now : Nat → Int32} {T : TS} (v : Nat) (h : MTown now T) : MTown (upd now 165 (nI v)) (sX T v) := by
  obtain ⟨a1, a2, a3, a4, a5, a6, a7⟩ := h
  exact ⟨upd_lo a1 (by omega), upd_off a2 (by omega), upd_off a3 (by omega), upd_off a4 (by omega), upd_off a5 (by omega), (upd_ne _ _ (by omega)).trans a6, upd_at _ _ _⟩
theorem M_rn {now : Nat → Int32} {T : TS} (v : Nat) (h : MTown now T) : MTown (upd now 164 (nI v)) (sRn T v) := by
  obtain ⟨a1, a2, a3, a4, a5, a6, a7⟩ := h
  exact ⟨upd_lo a1 (by omega), upd_off a2 (by omega), upd_off a3 (by omega), upd_off a4 (by omega), upd_off a5 (by omega), upd_at _ _ _, (upd_ne _ _ (by omega)).trans a7⟩
theorem M_ro {now : Nat → Int32} {T : TS} {w : Nat} (hw : w < 10) (v : Nat) (h : MTown now T) : MTown (upd now (34 + w) (nI v)) (sRo T w v) := by
  obtain ⟨a1, a2, a3, a4, a5, a6, a7⟩ := h
  exact ⟨upd_lo a1 (by omega), upd_off a2 (by omega), upd_sh a3, upd_off a4 (by omega), upd_off a5 (by omega), (upd_ne _ _ (by omega)).trans a6, (upd_ne _ _ (by omega)).trans a7⟩
theorem M_ru {now : Nat → Int32} {T : TS} {d : Nat} (hd : d < 24) (v : Nat) (h : MTown now T) : MTown (upd now d (nI v)) (sRu T d v) := by
  obtain ⟨a1, a2, a3, a4, a5, a6, a7⟩ := h
  exact ⟨upd_nI a1, upd_off a2 (by omega), upd_off a3 (by omega), upd_off a4 (by omega), upd_off a5 (by omega), (upd_ne _ _ (by omega)).trans a6, (upd_ne _ _ (by omega)).trans a7⟩
theorem W_pn {T : TS} {j v : Nat} (hv : v ≤ pn T j) (h : WTown T) : WTown (sPn T j v) := by
  obtain ⟨a1, a2, a3, a4, a5, a6, a7⟩ := h
  refine ⟨a1, a2, a3, a4, a5, fun i hi => ?_, a7⟩
  show (if i = j then v else pn T i) ≤ ha T i ∧ ha T i ≤ 60
  have := a6 i hi
  split
  · rename_i e; subst e; omega
  · exact this
theorem W_x {T : TS} {v : Nat} (hv : v < 65536) (h : WTown T) : WTown (sX T v) := by
  obtain ⟨a1, a2, a3, a4, a5, a6, a7⟩ := h
  exact ⟨a1, a2, hv, a4, a5, a6, a7⟩
theorem W_rn {T : TS} {v : Nat} (hv : v ≤ 9999) (h : WTown T) : WTown (sRn T v) := by
  obtain ⟨a1, a2, a3, a4, a5, a6, a7⟩ := h
  exact ⟨a1, hv, a3, a4, a5, a6, a7⟩
theorem W_ro {T : TS} {w v : Nat} (hv : v ≤ 15) (h : WTown T) : WTown (sRo T w v) := by
  obtain ⟨a1, a2, a3, a4, a5, a6, a7⟩ := h
  refine ⟨a1, a2, a3, a4, fun i hi => ?_, a6, a7⟩
  show (if i = w then v else ro T i) ≤ 15
  split
  · exact hv
  · exact a5 i hi
theorem W_ru {T : TS} {d v : Nat} (hv : v ≤ 99) (h : WTown T) : WTown (sRu T d v) := by
  obtain ⟨a1, a2, a3, a4, a5, a6, a7⟩ := h
  refine ⟨a1, a2, a3, fun i hi => ?_, a5, a6, a7⟩
  show (if i = d then v else ru T i) ≤ 99
  split
  · exact hv
  · exact a4 i hi
theorem xx_sPn (T : TS) (j v : Nat) : xx (sPn T j v) = xx T := rfl
theorem xx_sX (T : TS) (v : Nat) : xx (sX T v) = v := rfl
theorem ro_sXP (T : TS) (j v y w : Nat) : ro (sX (sPn T j v) y) w = ro T w := rfl
theorem ru_sXP (T : TS) (j v y w : Nat) : ru (sX (sPn T j v) y) w = ru T w := rfl
def drw (x : Nat) : Nat := (25173 * x + 13849) % 65536
theorem draw_C {x : Nat} (hx : x < 65536) : f_X9_draw (nI x) = some (nI (drw x % 10), nI (drw x)) := by
  unfold f_X9_draw
  simp only [ltz]
  have e : nI (25173 * x + 13849) &&& nI 65535 = nI (drw x) := by
    rw [and_nI]
    show nI ((25173 * x + 13849) &&& (2 ^ 16 - 1)) = _
    rw [Nat.and_two_pow_sub_one_eq_mod]
    rfl
  have hd : drw x < 65536 := Nat.mod_lt _ (by omega)
  simp (disch := omega) only [mul_nI, add_nI, e, nm_eq, rm_nI]
theorem m1_told {D : DS} (hW : WDoors D) : f_X0_isTold (nI (dt D)) (-nI 1) = some (nI 0) := by
  rcases door_cases hW (-nI 1) with ⟨d, h1, h2, _⟩ | ⟨h, _⟩
  · exact absurd h2.symm (neg_ne d (by omega)).1
  · exact h
theorem min_C {r : Nat} (hr : r ≤ 99) : imin (nI 99) (nI (r + 1)) = nI (if r = 99 then 99 else r + 1) := by
  unfold imin
  by_cases h : r = 99
  · subst h
    rw [if_pos rfl]
    decide
  · rw [if_neg h]
    by_cases h2 : r = 98
    · subst h2; decide
    · rw [if_pos (by rw [lt_nI (by omega) (by omega)]; omega)]
theorem minR_M {r : Nat} (hr : r ≤ 99) : f_X12_min (nI 99) (nI (r + 1)) = some (nI (if r = 99 then 99 else r + 1)) := by
  unfold f_X12_min
  by_cases h : r = 99
  · subst h
    rw [if_pos rfl]
    decide
  · rw [if_neg h, if_pos (by rw [le_nI (by omega) (by omega)]; omega)]
theorem takePin_C {T : TS} {pins : Nat → Int32} (hp : ∀ j, j < 60 → pins j = nI (pn T j)) (hW : WTown T) {w k : Nat} (hw : w < 10) (hk : k < 6) (hpos : 0 < pn T (6 * w + k)) : f_X9_takePin (nI (tt T)) pins (nI w) (nI k) = some (upd pins (w * 6 + k) (nI (pn T (6 * w + k) - 1))) := by
  have h60 := hW.2.2.2.2.2.1 (6 * w + k) (by omega)
  have hj : w * 6 + k < 60 := by omega
  have cpj : pins (w * 6 + k) = nI (pn T (6 * w + k)) := by rw [hp _ hj, Nat.mul_comm w 6]
  have q : (nI (pn T (6 * w + k)) ≤ nI 0) = False := by rw [le_nI (by omega) (by omega)]; exact eq_false (by omega)
  have p1 : nI (pn T (6 * w + k)) - nI 1 = nI (pn T (6 * w + k) - 1) := sub_nI (by omega)
  unfold f_X9_takePin
  rw [pok_C hp hW hw hk, some_bind]
  simp (disch := omega) only [ltz, q, ↓reduceIte, nm_eq, mul_nI, add_nI, rd_nI, wr_nI, cpj, p1]
theorem turn_ok {T : TS} {D : DS} {W : LW} {now rust rooms hair pins one other fits bent one' other' wards wards' prongs : Nat → Int32} (hC : CTown (nI (tt T)) (nI (rn T)) (nI (xx T)) rust rooms hair pins T) (hM : MTown now T) (hT : WTown T) (dC : CDoors (nI (dt D)) (nI (db D)) one other wards fits bent D) (dM : MDoors (nI (dt D)) (nI (db D)) one' other' wards' prongs D) (hW : WDoors D) {rules : Int32} {sg va letters amounts conditions ends : Nat → Int32} (lC : CLaw rules sg va letters amounts conditions ends W) {clauses : Int32} {codes clauseOf codeFrom codeHalf codeTo : Nat → Int32} (lM : MLaw clauses codes clauseOf codeFrom codeHalf codeTo W) (hWL : WLaw W) {w : Nat} (hw : w < 10) (hb : (tt T).testBit w = true) (pa ja : Int32) (known st facts st2 : Nat → Int32) : ∃ pa' ja' known' x' rust' rooms' pins' st' now' st2' facts' T', f_X10_step pa ja known (nI (tt T)) (nI (rn T)) (nI (xx T)) rust rooms pins (nI (dt D)) (nI (db D)) one other fits rules sg va st letters amounts conditions ends (nI w) = some (pa', ja', known', x', rust', rooms', pins', st') ∧ f_X12_turnOf (nI (dt D)) (nI (db D)) clauses pa ja now prongs one' other' wards' codes clauseOf codeFrom codeHalf codeTo st2 facts (nI w) = some (pa', ja', now', st2', facts') ∧ CTown (nI (tt T)) (nI (rn T)) x' rust' rooms' hair pins' T' ∧ MTown now' T' ∧ WTown T' ∧ tt T' = tt T ∧ rn T' = rn T := by
  have hC0 := hC
  obtain ⟨_, _, _, cr, ce, ch, cp⟩ := hC
  obtain ⟨_, _, g1, g2, g3, g4, g5⟩ := dC
  obtain ⟨_, _, m1, m2, m3, m4⟩ := dM
  obtain ⟨kn, k1, k2⟩ := knowWoman_C (known := known) ce cp hM hT hw hb
  obtain ⟨fa, f1, f2⟩ := feels_M (facts := facts) hM hT hw
  obtain ⟨st1, a1⟩ := any_C (x := 120) lC k2 (by omega) st
  obtain ⟨st3, a2⟩ := any_M (x := 120) lM hWL f2 (by omega) st2
  unfold f_X10_step f_X12_turnOf
  simp only [ltz]
  by_cases hx : (lawF W 120 (KW T w)).isSome = true
  · rw [if_pos hx] at a1 a2
    simp (disch := omega) only [↓reduceIte, ↓some_bind, ↓nm_eq, ↓jn_eq, ↓wr_nI, ↓rd_nI, n10, n00, ↓bind_of k1, ↓bind_of f1, ↓bind_of a1, ↓bind_of a2]
    exact ⟨_, _, _, _, _, _, _, _, _, _, _, T, rfl, rfl, hC0, hM, hT, rfl, rfl⟩
  · rw [if_neg hx] at a1 a2
    obtain ⟨kn2, st4, c1, c2⟩ := choose_C cr ce cp hM hT g1 g2 g4 hW lC hw hb st1 (KWs_KW k2)
    obtain ⟨st5, fa2, c3⟩ := choose_M hM hT m1 m2 m3 m4 hW lM hWL hw st3 fa
    rcases chN_ok T D W w 24 with hn | ⟨d, hd, hn, hel⟩
    · rw [hn] at c1 c3
      have c4 := m1_told hW
      simp (disch := omega) only [↓reduceIte, ↓some_bind, ↓nm_eq, ↓jn_eq, ↓wr_nI, ↓rd_nI, n10, n00, ↓bind_of k1, ↓bind_of f1, ↓bind_of a1, ↓bind_of a2, ↓bind_of c1, ↓bind_of c3, ↓bind_of c4, eq_self]
      exact ⟨_, _, _, _, _, _, _, _, _, _, _, T, rfl, rfl, hC0, hM, hT, rfl, rfl⟩
    · rw [hn] at c1 c3
      obtain ⟨e1, e2, ⟨o, ho⟩, k, hk⟩ := elig_ok hel
      have c4 := (door1 hW hd e2).1
      have n1 := eq_false (neg_ne d (by omega)).1
      have ho15 := bhd_lt hW hd ho
      have hk6 := (kf_some hk).1
      have hlow := hT.2.2.2.2.1 w hw
      have hkpos : 0 < pn T (6 * w + k) := by
        have := (kf_some hk).2.1
        unfold kfB klB at this
        exact of_decide_eq_true (Bool.and_eq_true_iff.1 this).1
      obtain ⟨kn3, c5, c6⟩ := knowDoor_C cr ce cp hM hT g1 g2 g4 hW hw hb hd e2 hk ho c2
      obtain ⟨fa3, c7, c8⟩ := feelsDoor_M (facts := fa2) hM hT m1 m2 m3 m4 hW hw hd hk ho
      obtain ⟨st6, c9⟩ := amt_C (x := 106) lC c6 (by omega) (by omega) 10 st4
      obtain ⟨st7, c10⟩ := amt_M (x := 106) lM hWL c8 (by omega) (by omega) 10 (by omega) st5
      have c11 : kn3 5 = nI k := c6 5 (by omega)
      have c12 : fa3 5 = nI k := c8 5 (by omega)
      have c13 : kn3 3 = nI o := c6 3 (by omega)
      have hj : w * 6 + k < 60 := by omega
      have c17 := takePin_C cp hT hw hk6 hkpos
      have c18 : f_X9_takePin (nI (tt T)) pins (nI w) (kn3 5) = some (upd pins (w * 6 + k) (nI (pn T (6 * w + k) - 1))) := by rw [c11]; exact c17
      have hxx := hT.2.2.1
      have d1 := draw_C hxx
      have hdr : drw (xx T) < 65536 := Nat.mod_lt _ (by omega)
      have hdrw : (25173 * xx T + 13849) % 65536 = drw (xx T) := rfl
      generalize drw (xx T) = y at *
      have p1 : nI (pn T (6 * w + k)) - nI 1 = nI (pn T (6 * w + k) - 1) := sub_nI (by omega)
      have mpj : now (104 + 6 * w + k) = nI (pn T (6 * w + k)) := by rw [Nat.add_assoc]; exact hM.2.2.2.2.1 _ (by omega)
      have x0 := M_pn (j := 6 * w + k) (by omega) (pn T (6 * w + k) - 1) hM
      rw [← Nat.add_assoc] at x0
      have x1 := M_x (y) x0
      have y0 := W_x hdr (W_pn (j := 6 * w + k) (v := pn T (6 * w + k) - 1) (by omega) hT)
      have cp2 : ∀ j, j < 60 → upd pins (w * 6 + k) (nI (pn T (6 * w + k) - 1)) j = nI (if j = 6 * w + k then pn T (6 * w + k) - 1 else pn T j) := by rw [Nat.mul_comm w 6]; exact upd_nI cp
      generalize hNW : upd now (104 + 6 * w + k) (nI (pn T (6 * w + k) - 1)) = nw at *
      have v1 := x0.2.2.2.2.2.2
      rw [xx_sPn] at v1
      generalize hNX : upd nw 165 (nI (y)) = nx at *
      have v2 := x1.2.2.2.2.2.2
      rw [xx_sX] at v2
      have v3 := x1.2.2.1 w hw
      rw [ro_sXP] at v3
      have v4 : nx (0 + d) = nI (ru T d) := by
        have := x1.1 d hd
        rw [ru_sXP] at this
        rw [Nat.zero_add]
        exact this
      have c14 := behind_M m1 m2 hW (d := d) (r := ro T w) hd (by omega)
      rw [ho] at c14
      have c14 : f_X12_behind one' other' (nI d) (nI (ro T w)) = some (nI o) := c14
      have hru := hT.2.2.2.1 d hd
      have c15 := min_C hru
      have c16 := minR_M hru
      generalize lawV W 106 10 (KD T w d k o) = tn at *
      by_cases hle : tn ≤ nI (y % 10)
      · have hle' := eq_true hle
        simp (disch := omega) only [↓reduceIte, ↓some_bind, ↓nm_eq, ↓jn_eq, ↓wr_nI, ↓rd_nI, n10, n00, ↓bind_of k1, ↓bind_of f1, ↓bind_of a1, ↓bind_of a2, ↓bind_of c1, ↓bind_of c3, ↓bind_of c4, n1, ↓bind_of c5, ↓bind_of c7, ↓bind_of c9, ↓bind_of c10, ↓bind_of c18, ↓bind_of c17, c11, c12, mul_nI, add_nI, mpj, p1, ↓bind_of d1, hle', c13, hNW, v1]
        have hmod : ∀ kk : Int32 → Option (Int32 × Int32 × (Nat → Int32) × (Nat → Int32) × (Nat → Int32)), rm (nI (25173 * xx T + 13849)) (nI 65536) kk = kk (nI (y)) := fun kk => by rw [rm_nI (by omega) (by omega) (by omega), hdrw]
        have hmod2 : ∀ kk : Int32 → Option (Int32 × Int32 × (Nat → Int32) × (Nat → Int32) × (Nat → Int32)), rm (nI (y)) (nI 10) kk = kk (nI (y % 10)) := fun kk => rm_nI (by omega) (by omega) (by omega) kk
        simp (disch := omega) only [↓hmod, ↓wr_nI, hNX, ↓rd_nI, v2, ↓hmod2, hle', ↓reduceIte, add_nI, v3, ↓bind_of c14, ↓nm_eq]
        refine ⟨_, _, _, _, _, _, _, _, _, _, _, sRo (sX (sPn T (6 * w + k) (pn T (6 * w + k) - 1)) (y)) w o, rfl, rfl, ⟨rfl, rfl, rfl, cr, upd_nI ce, ch, cp2⟩, M_ro hw o x1, W_ro ho15 y0, rfl, rfl⟩
      · have hle' := eq_false hle
        simp (disch := omega) only [↓reduceIte, ↓some_bind, ↓nm_eq, ↓jn_eq, ↓wr_nI, ↓rd_nI, n10, n00, ↓bind_of k1, ↓bind_of f1, ↓bind_of a1, ↓bind_of a2, ↓bind_of c1, ↓bind_of c3, ↓bind_of c4, n1, ↓bind_of c5, ↓bind_of c7, ↓bind_of c9, ↓bind_of c10, ↓bind_of c18, ↓bind_of c17, c11, c12, mul_nI, add_nI, mpj, p1, ↓bind_of d1, hle', hNW, v1, cr d hd, c15]
        have hmod : ∀ kk : Int32 → Option (Int32 × Int32 × (Nat → Int32) × (Nat → Int32) × (Nat → Int32)), rm (nI (25173 * xx T + 13849)) (nI 65536) kk = kk (nI (y)) := fun kk => by rw [rm_nI (by omega) (by omega) (by omega), hdrw]
        have hmod2 : ∀ kk : Int32 → Option (Int32 × Int32 × (Nat → Int32) × (Nat → Int32) × (Nat → Int32)), rm (nI (y)) (nI 10) kk = kk (nI (y % 10)) := fun kk => rm_nI (by omega) (by omega) (by omega) kk
        simp (disch := omega) only [↓hmod, ↓wr_nI, hNX, ↓rd_nI, v2, ↓hmod2, hle', ↓reduceIte, add_nI, v4, ↓bind_of c16, ↓nm_eq]
        have x2 := M_ru hd (if ru T d = 99 then 99 else ru T d + 1) x1
        refine ⟨_, _, _, _, _, _, _, _, _, _, _, sRu (sX (sPn T (6 * w + k) (pn T (6 * w + k) - 1)) (y)) d (if ru T d = 99 then 99 else ru T d + 1), rfl, rfl, ⟨rfl, rfl, rfl, upd_nI cr, ce, ch, cp2⟩, ?_, W_ru (by split <;> omega) y0, rfl, rfl⟩
        rw [Nat.zero_add]
        exact x2
