/-! REACH: what the model answers; both sides -/
theorem st_X12_getsTo_69 (t_toldDoors : Int32) (t_barredDoors : Int32) (t_queued : Int32) (t_now : (Nat → Int32)) (t_prongsOf : (Nat → Int32)) (t_oneOf : (Nat → Int32)) (t_otherOf : (Nat → Int32)) (t_wardsOf : (Nat → Int32)) (t_stepsTo : (Nat → Int32)) (t_firstBy : (Nat → Int32)) (t_queue : (Nat → Int32)) (x2 : Int32) (x3 : Int32) (k0 : Int32 → Option (Int32 × Int32 × (Nat → Int32) × (Nat → Int32) × (Nat → Int32))) (m : Nat) (s : Int32 × Int32) : L_X12_getsTo_69 t_toldDoors t_barredDoors t_queued t_now t_prongsOf t_oneOf t_otherOf t_wardsOf t_stepsTo t_firstBy t_queue x2 x3 k0 (m + 1) s = (if s.2 < 0 then (k0 s.1) else rd t_queue 15000 s.2 fun v7 => dv v7 (117649 : Int32) fun v8 => if v8 = x2 then (rd t_queue 15000 s.2 fun v10 => nm (s.2 + (-1 : Int32)) fun v11 => (L_X12_getsTo_69 t_toldDoors t_barredDoors t_queued t_now t_prongsOf t_oneOf t_otherOf t_wardsOf t_stepsTo t_firstBy t_queue x2 x3 k0 m) (v10, v11)) else nm (s.2 + (-1 : Int32)) fun v9 => (L_X12_getsTo_69 t_toldDoors t_barredDoors t_queued t_now t_prongsOf t_oneOf t_otherOf t_wardsOf t_stepsTo t_firstBy t_queue x2 x3 k0 m) (s.1, v9)) := rfl
def clF (st : Nat → Int32) (q : Nat → Nat) : Nat → Nat → Int32
  | 0 => st
  | i + 1 => upd (clF st q i) (q i) (nI 0)
theorem clF_in (st : Nat → Int32) (q : Nat → Nat) (y : Nat) : ∀ i, (∃ j, j < i ∧ q j = y) → clF st q i y = nI 0 := by
  intro i
  induction i with
  | zero => rintro ⟨j, h, _⟩; omega
  | succ i ih =>
    rintro ⟨j, h, e⟩
    show upd (clF st q i) (q i) (nI 0) y = _
    by_cases hy : y = q i
    · rw [hy, upd_at]
    · rw [upd_ne _ _ hy]
      refine ih ⟨j, ?_, e⟩
      by_cases hj : j = i
      · rw [hj] at e; exact absurd e.symm hy
      · omega
theorem clF_out (st : Nat → Int32) (q : Nat → Nat) (y : Nat) : ∀ i, (∀ j, j < i → q j ≠ y) → clF st q i y = st y := by
  intro i
  induction i with
  | zero => intro _; rfl
  | succ i ih =>
    intro h
    show upd (clF st q i) (q i) (nI 0) y = _
    rw [upd_ne _ _ (fun e => h i (by omega) e.symm)]
    exact ih (fun j hj => h j (by omega))
section NR
variable {D : DS} {Q : Nat → Nat} {r0 s : Nat} {R V F : Nat → Nat} {st fb qu : Nat → Int32}
theorem clears_M (hB : MqB D Q r0 s s R V F) (hA : MqA s R V F st fb qu) : ∃ st', f_X12_clearsWays (nI s) st qu = some st' ∧ ∀ y, y < 1882384 → st' y = nI 0 := by
  have hs := mq_bound hB
  refine ⟨clF st (fun j => qcd (R j) (V j)) s, ?_, fun y hy => ?_⟩
  · unfold f_X12_clearsWays L_X12_clearsWays_2
    have hw : vp_nar .byte (nI 0) = nI 0 := vnar_nI (by omega)
    refine lp_run0 (fun i => (nI i, clF st (fun j => qcd (R j) (V j)) i)) s _ rfl ?_ ?_ (fu_gt (by omega))
    · intro go i hi
      obtain ⟨i1, i2, _⟩ := hB.1 i hi
      have hcl := qcd_lt i2 i1
      have q : (nI s ≤ nI i) = False := by rw [le_nI (by omega) (by omega)]; exact eq_false (by omega)
      simp only [ltz]
      simp (disch := omega) only [q, ↓reduceIte, ↓rd_nI, hA.1 i hi, ↓wr_nI, hw, ↓nm_eq, add_nI]
      rfl
    · intro go
      have q : (nI s ≤ nI s) = True := by rw [le_nI (by omega) (by omega)]; exact eq_true (by omega)
      simp only [ltz, q, ↓reduceIte]
  · by_cases h : ∃ j, j < s ∧ qcd (R j) (V j) = y
    · exact clF_in st _ y s h
    · rw [clF_out st _ y s (fun j hj e => h ⟨j, hj, e⟩)]
      exact hA.2.2.1 y hy (fun j hj e => h ⟨j, hj, e⟩)
theorem nearL_M (hB : MqB D Q r0 s s R V F) (hA : MqA s R V F st fb qu) {b1 b2 : Int32} {t1 t2 t3 t4 t5 t6 t7 : Nat → Int32} (k0 : Int32 → Option (Int32 × Int32 × (Nat → Int32) × (Nat → Int32) × (Nat → Int32))) : L_X12_near_19 b1 b2 (nI s) t1 t2 t3 t4 t5 t6 t7 qu k0 fu (nI 0, nI 0) = k0 (nI (orN (fun j => 2 ^ R j) s)) := by
  have hs := mq_bound hB
  unfold L_X12_near_19
  refine lp_run0 (fun i => (nI (orN (fun j => 2 ^ R j) i), nI i)) s _ rfl ?_ ?_ (fu_gt (by omega))
  · intro go i hi
    obtain ⟨i1, i2, _⟩ := hB.1 i hi
    have hcl := qcd_lt i2 i1
    have e1 := (qcd_div (r := R i) i1).1
    have q : (nI s ≤ nI i) = False := by rw [le_nI (by omega) (by omega)]; exact eq_false (by omega)
    have hsh : nI 1 <<< (nI (R i) &&& nI 31) = nI (2 ^ R i) := one_shl (by omega)
    simp only [ltz]
    simp (disch := omega) only [q, ↓reduceIte, ↓rd_nI, hA.1 i hi, ↓dv_nI, e1, hsh, or_nI, ↓nm_eq, add_nI]
    rfl
  · intro go
    have q : (nI s ≤ nI s) = True := by rw [le_nI (by omega) (by omega)]; exact eq_true (by omega)
    simp only [ltz, q, ↓reduceIte]
theorem near_bits (hB : MqB D Q r0 s s R V F) (r : Nat) : (orN (fun j => 2 ^ R j) s).testBit r = true ↔ ∃ m v, m ≤ 6 ∧ RcN D Q r0 m v r := by
  rw [orN_tb]
  constructor
  · rintro ⟨j, hj, h⟩
    rw [Nat.testBit_two_pow] at h
    obtain ⟨i1, i2, i3⟩ := hB.1 j hj
    exact ⟨tot (V j), V j, i1.2, by rw [← of_decide_eq_true h]; exact i3⟩
  · rintro ⟨m, v, hm, h⟩
    obtain ⟨b, hb, _, e⟩ := mq_all hB m v r hm h
    exact ⟨b, hb, by rw [Nat.testBit_two_pow]; exact decide_eq_true e⟩
def idx (i : Nat) : Int32 := if i = 0 then -nI 1 else nI (i - 1)
theorem dec_nI (a : Nat) : nI (a + 1) + -nI 1 = nI a := by
  have h : nI (a + 1) - nI 1 = nI a := by rw [sub_nI (by omega)]; rfl
  rw [← h, Int32.sub_eq_add_neg]
theorem idx_s (i : Nat) : idx (i + 1) = nI i ∧ nI i + -nI 1 = idx i := by
  refine ⟨rfl, ?_⟩
  cases i with
  | zero => decide
  | succ i => exact dec_nI i
theorem getsL_M (hB : MqB D Q r0 s s R V F) (hA : MqA s R V F st fb qu) {rm : Nat} (hrm : rm ≤ 15) {b1 b2 b3 b4 : Int32} {t1 t2 t3 t4 t5 t6 t7 : Nat → Int32} (k0 : Int32 → Option (Int32 × Int32 × (Nat → Int32) × (Nat → Int32) × (Nat → Int32))) : ∀ (i m : Nat) (fd : Int32), i ≤ s → i < m →
    ∃ fd', L_X12_getsTo_69 b1 b2 b3 t1 t2 t3 t4 t5 t6 t7 qu (nI rm) b4 k0 m (fd, idx i) = k0 fd' ∧ (((∀ j, j < i → R j ≠ rm) ∧ fd' = fd) ∨ ∃ j, j < i ∧ R j = rm ∧ (∀ j', j' < j → R j' ≠ rm) ∧ fd' = nI (qcd (R j) (V j))) := by
  have hs := mq_bound hB
  intro i
  induction i with
  | zero =>
    intro m fd _ hm
    obtain ⟨m, rfl⟩ : ∃ z, m = z + 1 := ⟨m - 1, by omega⟩
    have q : (idx 0 < nI 0) = True := eq_true (by decide)
    rw [st_X12_getsTo_69]
    simp only [ltz, q, ↓reduceIte]
    exact ⟨fd, rfl, Or.inl ⟨fun j hj => absurd hj (by omega), rfl⟩⟩
  | succ i ih =>
    intro m fd hi hm
    obtain ⟨m, rfl⟩ : ∃ z, m = z + 1 := ⟨m - 1, by omega⟩
    obtain ⟨e1, e2⟩ := idx_s i
    obtain ⟨i1, i2, _⟩ := hB.1 i (by omega)
    have hcl := qcd_lt i2 i1
    have e3 := (qcd_div (r := R i) i1).1
    have q : (nI i < nI 0) = False := by rw [lt_nI (by omega) (by omega)]; exact eq_false (by omega)
    rw [st_X12_getsTo_69, e1]
    simp only [ltz]
    by_cases h : R i = rm
    · have q2 : (nI (R i) = nI rm) = True := by rw [h]; exact eq_true rfl
      simp (disch := omega) only [q, ↓reduceIte, ↓rd_nI, hA.1 i (by omega), ↓dv_nI, e3, q2, ↓nm_eq, e2]
      obtain ⟨fd', c1, c2⟩ := ih m (nI (qcd (R i) (V i))) (by omega) (by omega)
      refine ⟨fd', c1, Or.inr ?_⟩
      rcases c2 with ⟨c3, c4⟩ | ⟨j, c3, c4, c5, c6⟩
      · exact ⟨i, by omega, h, c3, c4⟩
      · exact ⟨j, by omega, c4, c5, c6⟩
    · have q2 : (nI (R i) = nI rm) = False := by rw [eq_nI (by omega) (by omega)]; exact eq_false h
      simp (disch := omega) only [q, ↓reduceIte, ↓rd_nI, hA.1 i (by omega), ↓dv_nI, e3, q2, ↓nm_eq, e2]
      obtain ⟨fd', c1, c2⟩ := ih m fd (by omega) (by omega)
      refine ⟨fd', c1, ?_⟩
      rcases c2 with ⟨c3, c4⟩ | ⟨j, c3, c4, c5, c6⟩
      · refine Or.inl ⟨fun j hj => ?_, c4⟩
        by_cases e : j = i
        · rw [e]; exact h
        · exact c3 j (by omega)
      · exact Or.inr ⟨j, by omega, c4, c5, c6⟩
end NR
theorem B_near {T : TS} {D : DS} {told round xx' dtold dbar dtold' dbar' : Int32} {rust rooms hair pins now one other wards fits bent one' other' wards' prongs : Nat → Int32} (hC : CTown told round xx' rust rooms hair pins T) (hM : MTown now T) (hT : WTown T) (dC : CDoors dtold dbar one other wards fits bent D) (dM : MDoors dtold' dbar' one' other' wards' prongs D) (hW : WDoors D) {rs qd : Int32} {nx lf us rr st fb qu : Nat → Int32} (hz : ∀ y, y < 1882384 → st y = nI 0) (x1 : Int32) :
    ∃ r r', f_X11_near dtold dbar one other fits told rooms pins rs nx lf us rr x1 = some r ∧ f_X12_near dtold' dbar' qd now prongs one' other' wards' st fb qu x1 = some r' ∧ r.1 = r'.1 ∧ (∀ y, y < 1882384 → r'.2.2.1 y = nI 0) := by
  obtain ⟨rfl, c2, c3, c4, c5, c6, c7'⟩ := hC
  obtain ⟨rfl, rfl, k3, k4, k5, k6, k7⟩ := dC
  obtain ⟨rfl, rfl, m3, m4, m5, m6⟩ := dM
  unfold f_X11_near f_X12_near
  simp only [ltz]
  rcases (woman_cases hM hT x1).symm with ⟨u1, u2⟩ | ⟨w, hw, rfl, hb, u1, u2⟩
  · have u1 : f_X9_isTold (nI (tt T)) x1 = some (nI 0) := u1
    have u2 : f_X12_isWoman now x1 = some (nI 0) := u2
    simp only [↓bind_of u1, ↓bind_of u2, ↓reduceIte]
    exact ⟨_, _, rfl, rfl, rfl, hz⟩
  · have u1 : f_X9_isTold (nI (tt T)) (nI w) = some (nI 1) := u1
    have u2 : f_X12_isWoman now (nI w) = some (nI 1) := u2
    have v1 := roomOf_C c5 hM hT hw hb
    have hro := hT.2.2.2.2.1 w hw
    obtain ⟨s, nx', lf', us', rr', U, B, s1, s2, s3, s4, s5⟩ := spread_C (size := rs) (next := nx) (left := lf) (used := us) (rooms := rr) (sz := rr) hM hT hw hb c7' hW k3 k4 k6 hro
    obtain ⟨A, a1, a2⟩ := allRooms_C s4 s5
    obtain ⟨s', R, V, F, st', fb', qu', l1, l2, l3⟩ := lays_M (fb := fb) (qu := qu) (qd := qd) hW hT hM hw m3 m4 m5 m6 hz
    obtain ⟨st2, z1, z2⟩ := clears_M l2 l3
    have hAA : A = orN (fun j => 2 ^ R j) s' := by
      apply Nat.eq_of_testBit_eq
      intro r
      have h1 := a2 r
      have h2 := near_bits l2 r
      rw [Bool.eq_iff_iff, h1, h2]
    simp only [↓bind_of u1, ↓bind_of u2, n10, ↓reduceIte, ↓bind_of v1, ↓bind_of s1, ↓bind_of a1, ↓bind_of l1]
    rw [nearL_M l2 l3, bind_of z1]
    exact ⟨_, _, rfl, rfl, by rw [hAA], z2⟩
theorem B_getsTo {T : TS} {D : DS} {told round xx' dtold dbar dtold' dbar' : Int32} {rust rooms hair pins now one other wards fits bent one' other' wards' prongs : Nat → Int32} (hC : CTown told round xx' rust rooms hair pins T) (hM : MTown now T) (hT : WTown T) (dC : CDoors dtold dbar one other wards fits bent D) (dM : MDoors dtold' dbar' one' other' wards' prongs D) (hW : WDoors D) {rs qd : Int32} {nx lf us rr st fb qu : Nat → Int32} (hz : ∀ y, y < 1882384 → st y = nI 0) (x1 x2 x3 : Int32) :
    ∃ r r', f_X11_getsTo dtold dbar one other fits told rooms pins rs nx lf us rr x1 x2 x3 = some r ∧ f_X12_getsTo dtold' dbar' qd now prongs one' other' wards' st fb qu x1 x2 x3 = some r' ∧ r.1 = r'.1 ∧ (∀ y, y < 1882384 → r'.2.2.1 y = nI 0) := by
  obtain ⟨rfl, c2, c3, c4, c5, c6, c7'⟩ := hC
  obtain ⟨rfl, rfl, k3, k4, k5, k6, k7⟩ := dC
  obtain ⟨rfl, rfl, m3, m4, m5, m6⟩ := dM
  unfold f_X11_getsTo f_X12_getsTo
  simp only [ltz]
  rcases (woman_cases hM hT x1).symm with ⟨u1, u2⟩ | ⟨w, hw, rfl, hb, u1, u2⟩
  · have u1 : f_X9_isTold (nI (tt T)) x1 = some (nI 0) := u1
    have u2 : f_X12_isWoman now x1 = some (nI 0) := u2
    simp only [↓bind_of u1, ↓bind_of u2, ↓reduceIte]
    exact ⟨_, _, rfl, rfl, rfl, hz⟩
  have u1 : f_X9_isTold (nI (tt T)) (nI w) = some (nI 1) := u1
  have u2 : f_X12_isWoman now (nI w) = some (nI 1) := u2
  rcases in01 x2 0 15 (by omega) (by omega) with ⟨e1, e2⟩ | ⟨rm, _, hrm, rfl, e1, e2⟩
  · simp only [↓bind_of u1, ↓bind_of u2, n10, ↓reduceIte, ↓bind_of e1, ↓bind_of e2]
    exact ⟨_, _, rfl, rfl, rfl, hz⟩
  rcases in01 x3 0 1 (by omega) (by omega) with ⟨e3, e4⟩ | ⟨wh, _, hwh, rfl, e3, e4⟩
  · simp only [↓bind_of u1, ↓bind_of u2, n10, ↓reduceIte, ↓bind_of e1, ↓bind_of e2, ↓bind_of e3, ↓bind_of e4]
    exact ⟨_, _, rfl, rfl, rfl, hz⟩
  have v1 := roomOf_C c5 hM hT hw hb
  have hro := hT.2.2.2.2.1 w hw
  have hroom := hM.2.2.1 w hw
  by_cases hsame : ro T w = rm
  · have q1 : (nI (ro T w) = nI rm) = True := by rw [hsame]; exact eq_true rfl
    simp (disch := omega) only [↓bind_of u1, ↓bind_of u2, n10, ↓reduceIte, ↓bind_of e1, ↓bind_of e2, ↓bind_of e3, ↓bind_of e4, ↓bind_of v1, q1, add_nI, ↓rd_nI, hroom]
    rcases (show wh = 0 ∨ wh = 1 by omega) with rfl | rfl
    · simp only [↓reduceIte]
      exact ⟨_, _, rfl, rfl, rfl, hz⟩
    · simp only [n10, ↓reduceIte]
      exact ⟨_, _, rfl, rfl, rfl, hz⟩
  have q1 : (nI (ro T w) = nI rm) = False := by rw [eq_nI (by omega) (by omega)]; exact eq_false hsame
  obtain ⟨s, nx', lf', us', rr', U, B, s1, s2, s3, s4, s5⟩ := spread_C (size := rs) (next := nx) (left := lf) (used := us) (rooms := rr) (sz := rr) (r0 := rm) hM hT hw hb c7' hW k3 k4 k6 hrm
  obtain ⟨s', R, V, F, st', fb', qu', l1, l2, l3⟩ := lays_M (fb := fb) (qu := qu) (qd := qd) hW hT hM hw m3 m4 m5 m6 hz
  obtain ⟨st2, z1, z2⟩ := clears_M l2 l3
  have hsb := mq_bound l2
  have hs0 := l2.2.2.2.2.2.2.2.1.1
  have hix : nI s' - nI 1 = idx s' := by
    rw [sub_nI (by omega)]
    unfold idx
    rw [if_neg (by omega)]
  have getsK := fun k0 => getsL_M l2 l3 (rm := rm) hrm (b1 := nI (dt D)) (b2 := nI (db D)) (b3 := nI s') (b4 := nI wh) (t1 := now) (t2 := prongs) (t3 := one') (t4 := other') (t5 := wards') (t6 := st') (t7 := fb') k0 s' fu (-nI 1) (Nat.le_refl _) (fu_gt (by omega))
  simp (disch := omega) only [↓bind_of u1, ↓bind_of u2, n10, ↓reduceIte, ↓bind_of e1, ↓bind_of e2, ↓bind_of e3, ↓bind_of e4, ↓bind_of v1, q1, add_nI, ↓rd_nI, hroom, ↓bind_of s1, ↓bind_of l1, ↓nm_eq, hix]
  obtain ⟨fd', f1, f2⟩ := getsK (fun s12 => jn (fun s13 : Int32 => (f_X12_clearsWays (nI s') st' qu').bind fun u14 => some (s13, nI s', u14, fb', qu')) fun j138 => if s12 = -nI 1 then j138 (-nI 2) else if nI wh = nI 0 then rd st' 1882384 s12 fun v16 => j138 (v16 - nI 1) else rd fb' 1882384 s12 fun v15 => j138 v15)
  rw [f1]
  simp only [↓jn_eq, ↓bind_of z1]
  rcases few_C s3 s4 s5 hro with ⟨g1, g2⟩ | ⟨n, v, hn, g1, g2, g3⟩
  · -- by none
    have qm : (-nI 1 = -nI 1) = True := eq_true rfl
    rcases f2 with ⟨h1, rfl⟩ | ⟨j, hj, h1, _, _⟩
    · simp only [↓bind_of g1, ↓reduceIte]
      exact ⟨_, _, rfl, rfl, rfl, z2⟩
    · obtain ⟨i1, i2, i3⟩ := l2.1 j hj
      rw [h1] at i3
      exact absurd (RcN_sym hW _ _ _ _ i1.2 i3) (g2 _ _ i1.2)
  · have g2' := RcN_sym hW n rm v (ro T w) hn g2
    rcases f2 with ⟨h1, _⟩ | ⟨j, hj, h1, h2, rfl⟩
    · obtain ⟨b, hb', _, e⟩ := mq_all l2 n v rm hn g2'
      exact absurd e (h1 b hb')
    · obtain ⟨i1, i2, i3⟩ := l2.1 j hj
      have i6 := i1.2
      have hcl := qcd_lt i2 i1
      rw [h1] at i3
      have hmin1 : n ≤ tot (V j) := g3 _ _ i1.2 (RcN_sym hW _ _ _ _ i1.2 i3)
      have hmin2 : tot (V j) ≤ n := by
        obtain ⟨b, hb', e1', e2'⟩ := mq_all l2 n v rm hn g2'
        have hjb : j ≤ b := by
          by_cases hh : j ≤ b
          · exact hh
          · exact absurd e2' (h2 b (by omega))
        have h3 := l2.2.2.2.1 j b hjb hb'
        obtain ⟨_, a2⟩ := RcN_ok n v rm hn g2'
        rw [e1', a2] at h3
        exact h3
      have htn : tot (V j) = n := by omega
      have hn1 : 1 ≤ n := by
        by_cases hh : 1 ≤ n
        · exact hh
        · have h0 : n = 0 := by omega
          rw [h0] at g2
          exact absurd g2.2 hsame
      have qn : (nI n = -nI 1) = False := by
        refine eq_false (fun h => ?_)
        rw [i32_eq, m1_toInt, nI_toInt (by omega)] at h
        omega
      have qc : (nI (qcd (R j) (V j)) = -nI 1) = False := by
        refine eq_false (fun h => ?_)
        rw [i32_eq, m1_toInt, nI_toInt (by omega)] at h
        omega
      have hst := l3.2.1 j hj
      rcases (show wh = 0 ∨ wh = 1 by omega) with rfl | rfl
      · have e5 : nI (tot (V j) + 1) - nI 1 = nI n := by rw [sub_nI (by omega), htn]; rfl
        simp (disch := omega) only [↓bind_of g1, qn, qc, ↓reduceIte, ↓rd_nI, hst, e5]
        exact ⟨_, _, rfl, rfl, rfl, z2⟩
      · obtain ⟨n', rfl⟩ : ∃ z, n = z + 1 := ⟨n - 1, by omega⟩
        obtain ⟨best, b1, b2, b3, b4⟩ := fst_C (n := n') hW hT hw s2 k3 k4 k6 hro s3 s4 s5 hn
        obtain ⟨p1, p2⟩ := l2.2.2.1 j hj (by omega)
        have hfb := l3.2.2.2 j hj (by omega)
        rw [htn, h1, Nat.add_sub_cancel] at p2
        have q1' := b4 (F j) (V j) p1 p2
        have q2' : F j ≤ best := by
          obtain ⟨VV, hV⟩ := b3 (by omega)
          obtain ⟨b, hb', e1', e2', e3'⟩ := mq_first l2 (show best < 24 by omega) n' VV rm hn hV
          have hjb : j ≤ b := by
            by_cases hh : j ≤ b
            · exact hh
            · exact absurd e2' (h2 b (by omega))
          obtain ⟨_, a2⟩ := RcN_ok (n' + 1) VV rm hn (RcF_N (by omega) n' VV rm hn hV)
          have h3 := l2.2.2.2.2.1 j b hjb hb' (by rw [e1', a2, htn]) (by omega)
          omega
        have hbest : best = F j := by omega
        rw [hbest] at b2
        simp (disch := omega) only [↓bind_of g1, qn, qc, n10, ↓reduceIte, ↓rd_nI, hfb, ↓bind_of b2]
        exact ⟨_, _, rfl, rfl, rfl, z2⟩
