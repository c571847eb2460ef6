/-! REACH: how the model lays the ways -/
theorem st_X12_laysWays_107 (t_toldDoors : Int32) (t_barredDoors : Int32) (t_now : (Nat → Int32)) (t_prongsOf : (Nat → Int32)) (t_oneOf : (Nat → Int32)) (t_otherOf : (Nat → Int32)) (t_wardsOf : (Nat → Int32)) (x1 : Int32) (x3 : Int32) (x4 : Int32) (x5 : Int32) (k0 : Int32 × (Nat → Int32) × (Nat → Int32) × (Nat → Int32) → Option (Int32 × (Nat → Int32) × (Nat → Int32) × (Nat → Int32))) (m : Nat) (s : Int32 × Int32 × (Nat → Int32) × (Nat → Int32) × (Nat → Int32)) : L_X12_laysWays_107 t_toldDoors t_barredDoors t_now t_prongsOf t_oneOf t_otherOf t_wardsOf x1 x3 x4 x5 k0 (m + 1) s = (if (6 : Int32) ≤ s.1 then (k0 (s.2.1, s.2.2.1, s.2.2.2.1, s.2.2.2.2)) else (f_X12_fits t_prongsOf t_wardsOf s.1 x5).bind fun u11 => if u11 = 0 then (nm (s.1 + (1 : Int32)) fun v12 => (L_X12_laysWays_107 t_toldDoors t_barredDoors t_now t_prongsOf t_oneOf t_otherOf t_wardsOf x1 x3 x4 x5 k0 m) (v12, s.2.1, s.2.2.1, s.2.2.2.1, s.2.2.2.2)) else (f_X12_goneOf x4 s.1).bind fun u13 => rd t_now 166 (((104 : Int32) + ((6 : Int32) * x1)) + s.1) fun v14 => if v14 ≤ u13 then (nm (s.1 + (1 : Int32)) fun v15 => (L_X12_laysWays_107 t_toldDoors t_barredDoors t_now t_prongsOf t_oneOf t_otherOf t_wardsOf x1 x3 x4 x5 k0 m) (v15, s.2.1, s.2.2.1, s.2.2.2.1, s.2.2.2.2)) else (f_X12_goesOn s.2.1 t_oneOf t_otherOf s.2.2.1 s.2.2.2.1 s.2.2.2.2 x1 x4 x5 s.1).bind fun u16 => nm (s.1 + (1 : Int32)) fun v17 => (L_X12_laysWays_107 t_toldDoors t_barredDoors t_now t_prongsOf t_oneOf t_otherOf t_wardsOf x1 x3 x4 x5 k0 m) (v17, u16.1, u16.2.1, u16.2.2.1, u16.2.2.2)) := rfl
theorem st_X12_laysWays_69 (t_toldDoors : Int32) (t_barredDoors : Int32) (t_now : (Nat → Int32)) (t_prongsOf : (Nat → Int32)) (t_oneOf : (Nat → Int32)) (t_otherOf : (Nat → Int32)) (t_wardsOf : (Nat → Int32)) (x1 : Int32) (x3 : Int32) (x4 : Int32) (k0 : Int32 × (Nat → Int32) × (Nat → Int32) × (Nat → Int32) → Option (Int32 × (Nat → Int32) × (Nat → Int32) × (Nat → Int32))) (m : Nat) (s : Int32 × Int32 × (Nat → Int32) × (Nat → Int32) × (Nat → Int32)) : L_X12_laysWays_69 t_toldDoors t_barredDoors t_now t_prongsOf t_oneOf t_otherOf t_wardsOf x1 x3 x4 k0 (m + 1) s = (if (24 : Int32) ≤ s.1 then (k0 (s.2.1, s.2.2.1, s.2.2.2.1, s.2.2.2.2)) else (f_X12_canOpen t_toldDoors t_barredDoors s.1).bind fun u7 => if u7 = 0 then (nm (s.1 + (1 : Int32)) fun v8 => (L_X12_laysWays_69 t_toldDoors t_barredDoors t_now t_prongsOf t_oneOf t_otherOf t_wardsOf x1 x3 x4 k0 m) (v8, s.2.1, s.2.2.1, s.2.2.2.1, s.2.2.2.2)) else dv x4 (117649 : Int32) fun v9 => (f_X12_behind t_oneOf t_otherOf s.1 v9).bind fun u10 => if u10 = (-1 : Int32) then (nm (s.1 + (1 : Int32)) fun v20 => (L_X12_laysWays_69 t_toldDoors t_barredDoors t_now t_prongsOf t_oneOf t_otherOf t_wardsOf x1 x3 x4 k0 m) (v20, s.2.1, s.2.2.1, s.2.2.2.1, s.2.2.2.2)) else L_X12_laysWays_107 t_toldDoors t_barredDoors t_now t_prongsOf t_oneOf t_otherOf t_wardsOf x1 x3 x4 s.1 (fun s18 => nm (s.1 + (1 : Int32)) fun v19 => (L_X12_laysWays_69 t_toldDoors t_barredDoors t_now t_prongsOf t_oneOf t_otherOf t_wardsOf x1 x3 x4 k0 m) (v19, s18.1, s18.2.1, s18.2.2.1, s18.2.2.2)) fu ((0 : Int32), s.2.1, s.2.2.1, s.2.2.2.1, s.2.2.2.2)) := rfl
theorem st_X12_laysWays_35 (t_toldDoors : Int32) (t_barredDoors : Int32) (t_now : (Nat → Int32)) (t_prongsOf : (Nat → Int32)) (t_oneOf : (Nat → Int32)) (t_otherOf : (Nat → Int32)) (t_wardsOf : (Nat → Int32)) (x1 : Int32) (m : Nat) (s : Int32 × Int32 × (Nat → Int32) × (Nat → Int32) × (Nat → Int32)) : L_X12_laysWays_35 t_toldDoors t_barredDoors t_now t_prongsOf t_oneOf t_otherOf t_wardsOf x1 (m + 1) s = (if s.2.1 ≤ s.1 then (some (s.2.1, s.2.2.1, s.2.2.2.1, s.2.2.2.2)) else rd s.2.2.2.2 15000 s.1 fun v5 => rd s.2.2.1 1882384 v5 fun v6 => if v6 ≤ (6 : Int32) then (L_X12_laysWays_69 t_toldDoors t_barredDoors t_now t_prongsOf t_oneOf t_otherOf t_wardsOf x1 s.1 v5 (fun s21 => nm (s.1 + (1 : Int32)) fun v22 => (L_X12_laysWays_35 t_toldDoors t_barredDoors t_now t_prongsOf t_oneOf t_otherOf t_wardsOf x1 m) (v22, s21.1, s21.2.1, s21.2.2.1, s21.2.2.2)) fu ((0 : Int32), s.2.1, s.2.2.1, s.2.2.2.1, s.2.2.2.2)) else nm (s.1 + (1 : Int32)) fun v23 => (L_X12_laysWays_35 t_toldDoors t_barredDoors t_now t_prongsOf t_oneOf t_otherOf t_wardsOf x1 m) (v23, s.2.1, s.2.2.1, s.2.2.2.1, s.2.2.2.2)) := rfl
def qcd (r v : Nat) : Nat := 117649 * r + c7 v
theorem qcd_lt {r v : Nat} (hr : r ≤ 15) (hv : VW v) : qcd r v < 1882384 := by
  have := c7_lt hv
  unfold qcd
  omega
theorem qcd_div {r v : Nat} (hv : VW v) : qcd r v / 117649 = r ∧ qcd r v % 117649 = c7 v := by
  have := c7_lt hv
  unfold qcd
  omega
theorem qcd_inj {r v r' v' : Nat} (hv : VW v) (hv' : VW v') (h : qcd r v = qcd r' v') : r = r' ∧ v = v' := by
  have h1 := c7_lt hv
  have h2 := c7_lt hv'
  unfold qcd at h
  exact ⟨by omega, c7_inj hv hv' (by omega)⟩
theorem goneOf_M {r v k : Nat} (hr : r ≤ 15) (hv : VW v) (hk : k < 6) : f_X12_goneOf (nI (qcd r v)) (nI k) = some (nI (dg v k)) := by
  have h1 := qcd_lt hr hv
  have h2 := c7_lt hv
  unfold f_X12_goneOf
  simp only [ltz]
  rw [rm_nI (by omega) (by omega) (by omega), (qcd_div hv).2]
  unfold L_X12_goneOf_8
  refine lp_run0 (fun i => (nI (c7 v / 7 ^ i), nI i)) k _ (by show _ = (nI (c7 v / 7 ^ 0), nI 0); rw [Nat.pow_zero, Nat.div_one]) ?_ ?_ (fu_gt (by omega))
  · intro go i hi
    have q : (nI k ≤ nI i) = False := by rw [le_nI (by omega) (by omega)]; exact eq_false (by omega)
    have e1 : c7 v / 7 ^ i < 2147483648 := Nat.lt_of_le_of_lt (Nat.div_le_self _ _) (by omega)
    have e2 : c7 v / 7 ^ i / 7 = c7 v / 7 ^ (i + 1) := by rw [Nat.div_div_eq_div_mul, ← Nat.pow_succ]
    simp only [ltz]
    simp (disch := omega) only [q, ↓reduceIte, ↓dv_nI, e2, ↓nm_eq, add_nI]
  · intro go
    have q : (nI k ≤ nI k) = True := by rw [le_nI (by omega) (by omega)]; exact eq_true (by omega)
    have e1 : c7 v / 7 ^ k < 2147483648 := Nat.lt_of_le_of_lt (Nat.div_le_self _ _) (by omega)
    simp only [ltz]
    simp (disch := omega) only [q, ↓reduceIte, ↓rm_nI]
    rw [c7_dg hv k hk]
theorem sevenTo_M {k : Nat} (hk : k < 6) : f_X12_sevenTo (nI k) = some (nI (7 ^ k)) := by
  unfold f_X12_sevenTo L_X12_sevenTo_4
  refine lp_run0 (fun i => (nI (7 ^ i), nI i)) k _ rfl ?_ ?_ (fu_gt (by omega))
  · intro go i hi
    have q : (nI k ≤ nI i) = False := by rw [le_nI (by omega) (by omega)]; exact eq_false (by omega)
    simp only [ltz]
    simp (disch := omega) only [q, ↓reduceIte, mul_nI, ↓nm_eq, add_nI]
    rw [Nat.pow_succ]
  · intro go
    have q : (nI k ≤ nI k) = True := by rw [le_nI (by omega) (by omega)]; exact eq_true (by omega)
    simp only [ltz, q, ↓reduceIte]
theorem byte_nI : ∀ n, n < 100 → (nI n).toInt8.toInt32 = nI n := by decide
theorem vnar_nI {n : Nat} (h : n < 100) : vp_nar .byte (nI n) = nI n := by rw [vp_nar_byte, byte_nI n h]
theorem vnar_b {n : Nat} (h : n < 100) : vp_nar .byte ((nI n).toInt8.toInt32) = nI n := by rw [byte_nI n h, vnar_nI h]
/-- the model's arrays -/
def MqA (s : Nat) (R V F : Nat → Nat) (st fb qu : Nat → Int32) : Prop := (∀ j, j < s → qu j = nI (qcd (R j) (V j))) ∧ (∀ j, j < s → st (qcd (R j) (V j)) = nI (tot (V j) + 1)) ∧ (∀ y, y < 1882384 → (∀ j, j < s → qcd (R j) (V j) ≠ y) → st y = nI 0) ∧ (∀ j, j < s → 1 ≤ tot (V j) → fb (qcd (R j) (V j)) = nI (F j))
/-- where the model stands at place i, door d, kind k -/
def MqI (D : DS) (Q : Nat → Nat) (r0 i d k ri vi fi s : Nat) (R V F : Nat → Nat) (st fb qu : Nat → Int32) : Prop := MqB D Q r0 i s R V F ∧ MqA s R V F st fb qu ∧ i < s ∧ R i = ri ∧ V i = vi ∧ F i = fi ∧ (∀ b, b < s → tot (V b) = tot vi + 1 → F b ≤ (if tot vi = 0 then d else fi)) ∧ (∀ d', d' < d → ∀ k', k' < 6 → DnM D Q s R V F i d' k') ∧ (∀ k', k' < k → DnM D Q s R V F i d k')
theorem DnM_ext {D : DS} {Q : Nat → Nat} {s j d k r v f : Nat} {R V F : Nat → Nat} (hj : j < s) (h : DnM D Q s R V F j d k) : DnM D Q (s + 1) (updN R s r) (updN V s v) (updN F s f) j d k := by
  have oR : ∀ j, j < s → updN R s r j = R j := fun j hj => if_neg (by omega)
  have oV : ∀ j, j < s → updN V s v j = V j := fun j hj => if_neg (by omega)
  have oF : ∀ j, j < s → updN F s f j = F j := fun j hj => if_neg (by omega)
  intro h1 h2 h3 h4 r' h5
  rw [oV j hj] at h1 h4
  rw [oR j hj] at h5
  obtain ⟨b, b1, b2, b3, b4⟩ := h h1 h2 h3 h4 r' h5
  refine ⟨b, by omega, by rw [oR b b1]; exact b2, by rw [oV b b1, oV j hj]; exact b3, ?_⟩
  rw [oF b b1, oV j hj, oF j hj]
  exact b4
section GO
variable {D : DS} {T : TS} {x r0 : Nat} {one other wards prongs now : Nat → Int32}
theorem goesOn_M (hW : WDoors D) (h1 : ∀ d, d < 24 → one d = nI (on D d)) (h2 : ∀ d, d < 24 → other d = nI (ot D d)) {i d k ri vi fi s r : Nat} {R V F : Nat → Nat} {st fb qu : Nat → Int32} {Q : Nat → Nat} (hI : MqI D Q r0 i d k ri vi fi s R V F st fb qu) (hd : d < 24) (hk : k < 6) (ht6 : tot vi < 6) (ho : opn D d = true) (hf : fitB D d k = true) (hr : bhd D d ri = some r) (hq : dg vi k < Q k) (x1 : Int32) :
    ∃ s' R' V' F' st' fb' qu', f_X12_goesOn (nI s) one other st fb qu x1 (nI (qcd ri vi)) (nI d) (nI k) = some (nI s', st', fb', qu') ∧ MqI D Q r0 i d (k + 1) ri vi fi s' R' V' F' st' fb' qu' := by
  obtain ⟨hB, hA, hi, rfl, rfl, rfl, hG, hD1, hD2⟩ := hI
  have hB0 := hB
  obtain ⟨i1, i2, i3⟩ := hB.1 i hi
  obtain ⟨p1, p2, p3⟩ := pl_ok i1 ht6 hk
  have hr15 := bhd_lt hW hd hr
  have hcl := qcd_lt i2 i1
  have hc7 := c7_lt i1
  obtain ⟨e1, e2⟩ := qcd_div (r := R i) i1
  have hbe := behind_M h1 h2 hW hd (show R i < 65536 by omega)
  rw [hr] at hbe
  have hbe : f_X12_behind one other (nI d) (nI (R i)) = some (nI r) := hbe
  have hsv := sevenTo_M hk
  have e3 : 117649 * r + c7 (V i) + 7 ^ k = qcd r (V i + 8 ^ k) := by
    unfold qcd
    rw [c7_p i1 ht6 hk, Nat.add_assoc]
  have hcl' := qcd_lt hr15 p1
  have hsb := mq_bound hB0
  unfold f_X12_goesOn
  simp only [ltz]
  by_cases hin : ∃ b, b < s ∧ R b = r ∧ V b = V i + 8 ^ k
  · obtain ⟨b, b1, b2, b3⟩ := hin
    have hst : st (qcd r (V i + 8 ^ k)) = nI (tot (V i + 8 ^ k) + 1) := by
      have := hA.2.1 b b1
      rw [b2, b3] at this
      exact this
    have hV6 := p1.2
    have q : (nI (tot (V i + 8 ^ k) + 1) = nI 0) = False := by rw [eq_nI (by omega) (by omega)]; exact eq_false (by omega)
    simp (disch := omega) only [↓dv_nI, e1, ↓bind_of hbe, ↓rm_nI, e2, ↓bind_of hsv, mul_nI, add_nI, e3, ↓nm_eq, ↓rd_nI, hst, q, ↓reduceIte]
    refine ⟨s, R, V, F, st, fb, qu, rfl, hB0, hA, hi, rfl, rfl, rfl, hG, hD1, fun k' hk' => ?_⟩
    by_cases e : k' = k
    · rw [e]
      intro _ _ _ _ r' hr'
      rw [hr] at hr'
      injection hr' with hr'
      exact ⟨b, b1, by rw [b2, hr'], b3, hG b b1 (by rw [b3, p2])⟩
    · exact hD2 k' (by omega)
  · have hnew : ∀ j, j < s → ¬ (R j = r ∧ V j = V i + 8 ^ k) := fun j hj h => hin ⟨j, hj, h.1, h.2⟩
    have hcdn : ∀ j, j < s → qcd (R j) (V j) ≠ qcd r (V i + 8 ^ k) := fun j hj e => hnew j hj (qcd_inj (hB.1 j hj).1 p1 e)
    have hst : st (qcd r (V i + 8 ^ k)) = nI 0 := hA.2.2.1 _ hcl' hcdn
    have hsti : st (qcd (R i) (V i)) = nI (tot (V i) + 1) := hA.2.1 i hi
    have hw : vp_nar .byte (nI (tot (V i) + 1 + 1)).toInt8.toInt32 = nI (tot (V i) + 1 + 1) := vnar_b (by omega)
    have hg8 : ∀ y, upd st (qcd r (V i + 8 ^ k)) y (qcd (R i) (V i)) = nI (tot (V i) + 1) := fun y => by rw [upd_ne _ _ (hcdn i hi)]; exact hsti
    have hstep := mq_step (k := k) hW hB0 hi hd hk ht6 ho hf hr hq hnew hG
    have hbnd := mq_bound hstep
    -- the arrays behind it
    have arr : ∀ fd, (if tot (V i) = 0 then d else F i) = fd → MqA (s + 1) (updN R s r) (updN V s (V i + 8 ^ k)) (updN F s fd) (upd st (qcd r (V i + 8 ^ k)) (nI (tot (V i) + 1 + 1))) (upd fb (qcd r (V i + 8 ^ k)) (nI fd)) (upd qu s (nI (qcd r (V i + 8 ^ k)))) := by
      intro fd _
      obtain ⟨a1, a2, a3, a4⟩ := hA
      have oR : ∀ j, j < s → updN R s r j = R j := fun j hj => if_neg (by omega)
      have oV : ∀ j, j < s → updN V s (V i + 8 ^ k) j = V j := fun j hj => if_neg (by omega)
      have oF : ∀ j, j < s → updN F s fd j = F j := fun j hj => if_neg (by omega)
      have nR : updN R s r s = r := if_pos rfl
      have nV : updN V s (V i + 8 ^ k) s = V i + 8 ^ k := if_pos rfl
      have nF : updN F s fd s = fd := if_pos rfl
      refine ⟨fun j hj => ?_, fun j hj => ?_, fun y hy hno => ?_, fun j hj ht => ?_⟩
      · by_cases e : j = s
        · rw [e, upd_at, nR, nV]
        · rw [upd_ne _ _ e, oR j (by omega), oV j (by omega)]
          exact a1 j (by omega)
      · by_cases e : j = s
        · rw [e, nR, nV, upd_at, p2]
        · rw [oR j (by omega), oV j (by omega), upd_ne _ _ (hcdn j (by omega))]
          exact a2 j (by omega)
      · have hy' := hno s (by omega)
        rw [nR, nV] at hy'
        rw [upd_ne _ _ (fun e => hy' e.symm)]
        exact a3 y hy (fun j hj => by
          have := hno j (by omega)
          rw [oR j hj, oV j hj] at this
          exact this)
      · by_cases e : j = s
        · rw [e, nR, nV, nF, upd_at]
        · rw [oV j (by omega)] at ht
          rw [oR j (by omega), oV j (by omega), oF j (by omega), upd_ne _ _ (hcdn j (by omega))]
          exact a4 j (by omega) ht
    have fin : ∀ fd, (if tot (V i) = 0 then d else F i) = fd → MqI D Q r0 i d (k + 1) (R i) (V i) (F i) (s + 1) (updN R s r) (updN V s (V i + 8 ^ k)) (updN F s fd) (upd st (qcd r (V i + 8 ^ k)) (nI (tot (V i) + 1 + 1))) (upd fb (qcd r (V i + 8 ^ k)) (nI fd)) (upd qu s (nI (qcd r (V i + 8 ^ k)))) := by
      intro fd hfd
      have harr := arr fd hfd
      rw [hfd] at hstep
      refine ⟨hstep, harr, by omega, if_neg (by omega), if_neg (by omega), if_neg (by omega), fun b hb hbt => ?_, fun d' hd' k' hk' => DnM_ext hi (hD1 d' hd' k' hk'), fun k' hk' => ?_⟩
      · by_cases e : b = s
        · rw [e]
          have nF : updN F s fd s = fd := if_pos rfl
          rw [nF, hfd]
          exact Nat.le_refl _
        · have oV : updN V s (V i + 8 ^ k) b = V b := if_neg e
          have oF : updN F s fd b = F b := if_neg e
          rw [oV] at hbt
          rw [oF]
          exact hG b (by omega) hbt
      · by_cases e : k' = k
        · rw [e]
          have oRi : updN R s r i = R i := if_neg (by omega)
          have oVi : updN V s (V i + 8 ^ k) i = V i := if_neg (by omega)
          have oFi : updN F s fd i = F i := if_neg (by omega)
          intro _ _ _ _ r' hr'
          rw [oRi, hr] at hr'
          injection hr' with hr'
          refine ⟨s, by omega, by rw [← hr']; exact if_pos rfl, by rw [oVi]; exact if_pos rfl, ?_⟩
          have nF : updN F s fd s = fd := if_pos rfl
          rw [nF, oVi, oFi, hfd]
          exact Nat.le_refl _
        · exact DnM_ext hi (hD2 k' (by omega))
    by_cases h0 : tot (V i) = 0
    · have q1 : (nI (tot (V i) + 1) = nI 1) = True := by rw [h0]; exact eq_true rfl
      have hwd : vp_nar .byte (nI d).toInt8.toInt32 = nI d := vnar_b (by omega)
      simp (disch := omega) only [↓dv_nI, e1, ↓bind_of hbe, ↓rm_nI, e2, ↓bind_of hsv, mul_nI, add_nI, e3, ↓nm_eq, ↓rd_nI, hst, ↓reduceIte, hsti, hw, ↓wr_nI, hg8, ↓jn_eq, q1, hwd]
      exact ⟨s + 1, _, _, _, _, _, _, rfl, fin d (if_pos h0)⟩
    · have q1 : (nI (tot (V i) + 1) = nI 1) = False := by rw [eq_nI (by omega) (by omega)]; exact eq_false (by omega)
      obtain ⟨f1, _⟩ := hB.2.2.1 i hi (by omega)
      have hfb := hA.2.2.2 i hi (by omega)
      have hwd : vp_nar .byte (nI (F i)) = nI (F i) := vnar_nI (by omega)
      simp (disch := omega) only [↓dv_nI, e1, ↓bind_of hbe, ↓rm_nI, e2, ↓bind_of hsv, mul_nI, add_nI, e3, ↓nm_eq, ↓rd_nI, hst, ↓reduceIte, hsti, hw, ↓wr_nI, hg8, ↓jn_eq, q1, hfb, hwd]
      exact ⟨s + 1, _, _, _, _, _, _, rfl, fin (F i) (if_neg h0)⟩
end GO
