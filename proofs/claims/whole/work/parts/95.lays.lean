/-! REACH: the model's loops -/
abbrev MR : Type := Int32 × (Nat → Int32) × (Nat → Int32) × (Nat → Int32)
section LW
variable {D : DS} {T : TS} {x r0 : Nat} {one other wards prongs now : Nat → Int32}
theorem kindsL_M (hW : WDoors D) (hT : WTown T) (hM : MTown now T) (hx : x < 10) (h1 : ∀ d, d < 24 → one d = nI (on D d)) (h2 : ∀ d, d < 24 → other d = nI (ot D d)) (h3 : ∀ d, d < 24 → wards d = nI (wa D d)) (h4 : ∀ k, k < 6 → prongs k = nI (pr D k)) {i d ri vi fi r : Nat} (hd : d < 24) (hri : ri ≤ 15) (hvi : VW vi) (ht6 : tot vi < 6) (ho : opn D d = true) (hr : bhd D d ri = some r) (b1 b2 x3 : Int32) (k0 : MR → Option MR) :
    ∀ (rem k m s : Nat) (R V F : Nat → Nat) (st fb qu : Nat → Int32), k + rem = 6 → rem < m → MqI D (fun k => pn T (6 * x + k)) r0 i d k ri vi fi s R V F st fb qu →
    ∃ s' R' V' F' st' fb' qu', L_X12_laysWays_107 b1 b2 now prongs one other wards (nI x) x3 (nI (qcd ri vi)) (nI d) k0 m (nI k, nI s, st, fb, qu) = k0 (nI s', st', fb', qu') ∧ MqI D (fun k => pn T (6 * x + k)) r0 i d 6 ri vi fi s' R' V' F' st' fb' qu' := by
  intro rem
  induction rem with
  | zero =>
    intro k m s R V F st fb qu hk hm hI
    obtain ⟨m, rfl⟩ : ∃ z, m = z + 1 := ⟨m - 1, by omega⟩
    obtain rfl : k = 6 := by omega
    have q : (nI 6 ≤ nI 6) = True := by rw [le_nI (by omega) (by omega)]; exact eq_true (by omega)
    rw [st_X12_laysWays_107]
    simp only [ltz, q, ↓reduceIte]
    exact ⟨s, R, V, F, st, fb, qu, rfl, hI⟩
  | succ rem ih =>
    intro k m s R V F st fb qu hk hm hI
    obtain ⟨m, rfl⟩ : ∃ z, m = z + 1 := ⟨m - 1, by omega⟩
    have hk6 : k < 6 := by omega
    have q : (nI 6 ≤ nI k) = False := by rw [le_nI (by omega) (by omega)]; exact eq_false (by omega)
    have c1 := fits_M h3 h4 hW hk6 hd
    have skip : ¬ (fitB D d k = true ∧ dg vi k < pn T (6 * x + k)) → MqI D (fun k => pn T (6 * x + k)) r0 i d (k + 1) ri vi fi s R V F st fb qu := by
      intro hno
      obtain ⟨a1, a2, a3, a4, a5, a6, a7, a8, a9⟩ := hI
      refine ⟨a1, a2, a3, a4, a5, a6, a7, a8, fun k' hk' => ?_⟩
      by_cases e : k' = k
      · rw [e]
        intro _ _ hf hq
        rw [a5] at hq
        exact absurd ⟨hf, hq⟩ hno
      · exact a9 k' (by omega)
    rw [st_X12_laysWays_107]
    simp only [ltz]
    cases hf : fitB D d k
    · rw [hf, if_neg (by decide)] at c1
      simp (disch := omega) only [q, ↓reduceIte, ↓bind_of c1, n00, ↓nm_eq, add_nI]
      exact ih (k + 1) m s R V F st fb qu (by omega) (by omega) (skip (fun h => by rw [hf] at h; exact absurd h.1 (by decide)))
    · rw [hf, if_pos rfl] at c1
      have c2 := goneOf_M hri hvi hk6
      have hp : now (104 + 6 * x + k) = nI (pn T (6 * x + k)) := by rw [Nat.add_assoc]; exact hM.2.2.2.2.1 _ (by omega)
      have hpl := pn_lt hT (show 6 * x + k < 60 by omega)
      have hdl := dg_lt vi k
      by_cases hq : dg vi k < pn T (6 * x + k)
      · have q2 : (nI (pn T (6 * x + k)) ≤ nI (dg vi k)) = False := by rw [le_nI (by omega) (by omega)]; exact eq_false (by omega)
        obtain ⟨s', R', V', F', st', fb', qu', c3, hI'⟩ := goesOn_M hW h1 h2 hI hd hk6 ht6 ho hf hr hq (nI x)
        simp (disch := omega) only [q, ↓reduceIte, ↓bind_of c1, n10, ↓bind_of c2, mul_nI, add_nI, ↓rd_nI, hp, q2, ↓bind_of c3, ↓nm_eq]
        exact ih (k + 1) m s' R' V' F' st' fb' qu' (by omega) (by omega) hI'
      · have q2 : (nI (pn T (6 * x + k)) ≤ nI (dg vi k)) = True := by rw [le_nI (by omega) (by omega)]; exact eq_true (by omega)
        simp (disch := omega) only [q, ↓reduceIte, ↓bind_of c1, n10, ↓bind_of c2, mul_nI, add_nI, ↓rd_nI, hp, q2, ↓nm_eq]
        exact ih (k + 1) m s R V F st fb qu (by omega) (by omega) (skip (fun h => hq h.2))
theorem mqI_next {i d ri vi fi s : Nat} {Q R V F : Nat → Nat} {st fb qu : Nat → Int32} (hI : MqI D Q r0 i d 6 ri vi fi s R V F st fb qu) : MqI D Q r0 i (d + 1) 0 ri vi fi s R V F st fb qu := by
  obtain ⟨a1, a2, a3, a4, a5, a6, a7, a8, a9⟩ := hI
  refine ⟨a1, a2, a3, a4, a5, a6, fun b hb hbt => ?_, fun d' hd' k' hk' => ?_, fun k' hk' => absurd hk' (by omega)⟩
  · have := a7 b hb hbt
    by_cases h0 : tot vi = 0
    · rw [if_pos h0] at this ⊢; omega
    · rw [if_neg h0] at this ⊢; exact this
  · by_cases e : d' = d
    · rw [e]; exact a9 k' hk'
    · exact a8 d' (by omega) k' hk'
theorem doorsL_M (hW : WDoors D) (hT : WTown T) (hM : MTown now T) (hx : x < 10) (h1 : ∀ d, d < 24 → one d = nI (on D d)) (h2 : ∀ d, d < 24 → other d = nI (ot D d)) (h3 : ∀ d, d < 24 → wards d = nI (wa D d)) (h4 : ∀ k, k < 6 → prongs k = nI (pr D k)) {i ri vi fi : Nat} (hri : ri ≤ 15) (hvi : VW vi) (ht6 : tot vi < 6) (x3 : Int32) (k0 : MR → Option MR) :
    ∀ (rem d m s : Nat) (R V F : Nat → Nat) (st fb qu : Nat → Int32), d + rem = 24 → rem < m → MqI D (fun k => pn T (6 * x + k)) r0 i d 0 ri vi fi s R V F st fb qu →
    ∃ s' R' V' F' st' fb' qu', L_X12_laysWays_69 (nI (dt D)) (nI (db D)) now prongs one other wards (nI x) x3 (nI (qcd ri vi)) k0 m (nI d, nI s, st, fb, qu) = k0 (nI s', st', fb', qu') ∧ MqI D (fun k => pn T (6 * x + k)) r0 i 24 0 ri vi fi s' R' V' F' st' fb' qu' := by
  have hcl := qcd_lt hri hvi
  obtain ⟨e1, e2⟩ := qcd_div (r := ri) hvi
  intro rem
  induction rem with
  | zero =>
    intro d m s R V F st fb qu hk hm hI
    obtain ⟨m, rfl⟩ : ∃ z, m = z + 1 := ⟨m - 1, by omega⟩
    obtain rfl : d = 24 := by omega
    have q : (nI 24 ≤ nI 24) = True := by rw [le_nI (by omega) (by omega)]; exact eq_true (by omega)
    rw [st_X12_laysWays_69]
    simp only [ltz, q, ↓reduceIte]
    exact ⟨s, R, V, F, st, fb, qu, rfl, hI⟩
  | succ rem ih =>
    intro d m s R V F st fb qu hk hm hI
    obtain ⟨m, rfl⟩ : ∃ z, m = z + 1 := ⟨m - 1, by omega⟩
    have hd : d < 24 := by omega
    have q : (nI 24 ≤ nI d) = False := by rw [le_nI (by omega) (by omega)]; exact eq_false (by omega)
    have c1 := canOpen_M hW hd
    have skip : ¬ (opn D d = true ∧ ∃ r, bhd D d ri = some r) → MqI D (fun k => pn T (6 * x + k)) r0 i (d + 1) 0 ri vi fi s R V F st fb qu := by
      intro hno
      obtain ⟨a1, a2, a3, a4, a5, a6, a7, a8, a9⟩ := hI
      refine mqI_next ⟨a1, a2, a3, a4, a5, a6, a7, a8, fun k' hk' => ?_⟩
      intro _ ho _ _ r hr
      rw [a4] at hr
      exact absurd ⟨ho, r, hr⟩ hno
    rw [st_X12_laysWays_69]
    simp only [ltz]
    cases ho : opn D d
    · rw [ho, if_neg (by decide)] at c1
      simp (disch := omega) only [q, ↓reduceIte, ↓bind_of c1, n00, ↓nm_eq, add_nI]
      exact ih (d + 1) m s R V F st fb qu (by omega) (by omega) (skip (fun h => by rw [ho] at h; exact absurd h.1 (by decide)))
    · rw [ho, if_pos rfl] at c1
      have c2 := behind_M h1 h2 hW hd (show ri < 65536 by omega)
      cases hr : bhd D d ri with
      | none =>
        rw [hr] at c2
        have c2 : f_X12_behind one other (nI d) (nI ri) = some (-nI 1) := c2
        simp (disch := omega) only [q, ↓reduceIte, ↓bind_of c1, n10, ↓dv_nI, e1, ↓bind_of c2, ↓nm_eq, add_nI]
        exact ih (d + 1) m s R V F st fb qu (by omega) (by omega) (skip (fun h => by
          obtain ⟨_, r, h⟩ := h
          rw [hr] at h
          cases h))
      | some r =>
        rw [hr] at c2
        have c2 : f_X12_behind one other (nI d) (nI ri) = some (nI r) := c2
        have hr15 := bhd_lt hW hd hr
        have q2 : (nI r = -nI 1) = False := by
          refine eq_false (fun h => ?_)
          rw [i32_eq, m1_toInt, nI_toInt (by omega)] at h
          omega
        obtain ⟨s', R', V', F', st', fb', qu', k1, k2⟩ := kindsL_M hW hT hM hx h1 h2 h3 h4 hd hri hvi ht6 ho hr (nI (dt D)) (nI (db D)) x3 (fun s18 => nm (nI d + nI 1) fun v19 => L_X12_laysWays_69 (nI (dt D)) (nI (db D)) now prongs one other wards (nI x) x3 (nI (qcd ri vi)) k0 m (v19, s18.1, s18.2.1, s18.2.2.1, s18.2.2.2)) 6 0 fu s R V F st fb qu rfl (fu_gt (by omega)) hI
        simp (disch := omega) only [q, ↓reduceIte, ↓bind_of c1, n10, ↓dv_nI, e1, ↓bind_of c2, q2]
        rw [k1]
        simp only [↓nm_eq, add_nI]
        exact ih (d + 1) m s' R' V' F' st' fb' qu' (by omega) (by omega) (mqI_next k2)
theorem outerL_M (hW : WDoors D) (hT : WTown T) (hM : MTown now T) (hx : x < 10) (h1 : ∀ d, d < 24 → one d = nI (on D d)) (h2 : ∀ d, d < 24 → other d = nI (ot D d)) (h3 : ∀ d, d < 24 → wards d = nI (wa D d)) (h4 : ∀ k, k < 6 → prongs k = nI (pr D k)) :
    ∀ (rem i m s : Nat) (R V F : Nat → Nat) (st fb qu : Nat → Int32), i + rem = 14784 → rem < m → i ≤ s → (i = 0 → s = 1) → MqB D (fun k => pn T (6 * x + k)) r0 i s R V F → MqA s R V F st fb qu →
    ∃ s' R' V' F' st' fb' qu', L_X12_laysWays_35 (nI (dt D)) (nI (db D)) now prongs one other wards (nI x) m (nI i, nI s, st, fb, qu) = some (nI s', st', fb', qu') ∧ MqB D (fun k => pn T (6 * x + k)) r0 s' s' R' V' F' ∧ MqA s' R' V' F' st' fb' qu' := by
  intro rem
  induction rem with
  | zero =>
    intro i m s R V F st fb qu hi hm his h0 hB hA
    obtain ⟨m, rfl⟩ : ∃ z, m = z + 1 := ⟨m - 1, by omega⟩
    have hs := mq_bound hB
    obtain rfl : i = s := by omega
    have q : (nI i ≤ nI i) = True := by rw [le_nI (by omega) (by omega)]; exact eq_true (by omega)
    rw [st_X12_laysWays_35]
    simp only [ltz, q, ↓reduceIte]
    exact ⟨i, R, V, F, st, fb, qu, rfl, hB, hA⟩
  | succ rem ih =>
    intro i m s R V F st fb qu hi hm his h0 hB hA
    obtain ⟨m, rfl⟩ : ∃ z, m = z + 1 := ⟨m - 1, by omega⟩
    have hs := mq_bound hB
    by_cases hend : i = s
    · subst hend
      have q : (nI i ≤ nI i) = True := by rw [le_nI (by omega) (by omega)]; exact eq_true (by omega)
      rw [st_X12_laysWays_35]
      simp only [ltz, q, ↓reduceIte]
      exact ⟨i, R, V, F, st, fb, qu, rfl, hB, hA⟩
    · have hi' : i < s := by omega
      have hB0 := hB
      have hA0 := hA
      obtain ⟨g1, g2, g3, g4, g5, g6, g7, g8, g9⟩ := hB
      obtain ⟨i1, i2, i3⟩ := g1 i hi'
      have i6 := i1.2
      have hcl := qcd_lt i2 i1
      have hq := hA.1 i hi'
      have hst := hA.2.1 i hi'
      have q : (nI s ≤ nI i) = False := by rw [le_nI (by omega) (by omega)]; exact eq_false (by omega)
      rw [st_X12_laysWays_35]
      simp only [ltz]
      by_cases ht : tot (V i) < 6
      · have q2 : (nI (tot (V i) + 1) ≤ nI 6) = True := by rw [le_nI (by omega) (by omega)]; exact eq_true (by omega)
        have hI : MqI D (fun k => pn T (6 * x + k)) r0 i 0 0 (R i) (V i) (F i) s R V F st fb qu := by
          refine ⟨hB0, hA0, hi', rfl, rfl, rfl, fun b hb hbt => ?_, fun d' hd' => absurd hd' (by omega), fun k' hk' => absurd hk' (by omega)⟩
          by_cases hz : tot (V i) = 0
          · have hv0 := v0_of i1 hz
            rw [hz] at i3
            obtain ⟨_, hR0⟩ := i3
            have hi0 := g2 i 0 hi' g8.1 (by rw [g8.2.2]; exact hR0) (by rw [g8.2.1]; exact hv0)
            have hs1 := h0 hi0
            obtain rfl : b = 0 := by omega
            rw [g8.2.1, VW0.2.1] at hbt
            omega
          · rw [if_neg hz]
            exact g7 i b (Nat.le_refl _) hi' hb (by omega) hbt
        obtain ⟨s', R', V', F', st', fb', qu', k1, k2⟩ := doorsL_M hW hT hM hx h1 h2 h3 h4 i2 i1 ht (nI i) (fun s21 => nm (nI i + nI 1) fun v22 => L_X12_laysWays_35 (nI (dt D)) (nI (db D)) now prongs one other wards (nI x) m (v22, s21.1, s21.2.1, s21.2.2.1, s21.2.2.2)) 24 0 fu s R V F st fb qu rfl (fu_gt (by omega)) hI
        simp (disch := omega) only [q, ↓reduceIte, ↓rd_nI, hq, hst, q2]
        rw [k1]
        simp only [↓nm_eq, add_nI]
        obtain ⟨a1, a2, a3, a4, a5, a6, a7, a8, a9⟩ := k2
        refine ih (i + 1) m s' R' V' F' st' fb' qu' (by omega) (by omega) (by omega) (fun h => absurd h (by omega)) ?_ a2
        obtain ⟨b1, b2, b3, b4, b5, b6, b7, b8, b9⟩ := a1
        refine ⟨b1, b2, b3, b4, b5, fun a b ha => b6 a b (by omega), fun a b ha => b7 a b (by omega), b8, fun j hj d hd k hk => ?_⟩
        by_cases e : j = i
        · rw [e]; exact a8 d hd k hk
        · exact b9 j (by omega) d hd k hk
      · have q2 : (nI (tot (V i) + 1) ≤ nI 6) = False := by rw [le_nI (by omega) (by omega)]; exact eq_false (by omega)
        simp (disch := omega) only [q, ↓reduceIte, ↓rd_nI, hq, hst, q2, ↓nm_eq, add_nI]
        refine ih (i + 1) m s R V F st fb qu (by omega) (by omega) (by omega) (fun h => absurd h (by omega)) ?_ hA0
        refine ⟨g1, g2, g3, g4, g5, fun a b ha => g6 a b (by omega), fun a b ha => g7 a b (by omega), g8, fun j hj d hd k hk => ?_⟩
        by_cases e : j = i
        · rw [e]; intro h; exact absurd h ht
        · exact g9 j (by omega) d hd k hk
theorem lays_M (hW : WDoors D) (hT : WTown T) (hM : MTown now T) (hx : x < 10) (h1 : ∀ d, d < 24 → one d = nI (on D d)) (h2 : ∀ d, d < 24 → other d = nI (ot D d)) (h3 : ∀ d, d < 24 → wards d = nI (wa D d)) (h4 : ∀ k, k < 6 → prongs k = nI (pr D k)) {st fb qu : Nat → Int32} {qd : Int32} (hz : ∀ y, y < 1882384 → st y = nI 0) :
    ∃ s R V F st' fb' qu', f_X12_laysWays (nI (dt D)) (nI (db D)) qd now prongs one other wards st fb qu (nI x) = some (nI s, st', fb', qu') ∧ MqB D (fun k => pn T (6 * x + k)) (ro T x) s s R V F ∧ MqA s R V F st' fb' qu' := by
  have hro := hT.2.2.2.2.1 x hx
  have hroom := hM.2.2.1 x hx
  have hc0 : c7 0 = 0 := by decide +kernel
  have e0 : qcd (ro T x) 0 = 117649 * ro T x := by unfold qcd; rw [hc0]; omega
  have hw : vp_nar .byte (nI 1) = nI 1 := vnar_nI (by omega)
  have hB : MqB D (fun k => pn T (6 * x + k)) (ro T x) 0 1 (fun _ => ro T x) (fun _ => 0) (fun _ => 0) := by
    have t0 := VW0.2.1
    refine ⟨fun j hj => ⟨VW0.1, hro, by rw [t0]; exact ⟨rfl, rfl⟩⟩, fun a b ha hb _ _ => by omega, fun j hj h => by rw [t0] at h; omega, fun a b _ _ => Nat.le_refl _, fun a b _ _ _ h => Nat.le_refl _, fun a b _ _ _ => Nat.le_succ _, fun a b _ _ _ _ _ => Nat.le_refl _, ⟨by omega, rfl, rfl⟩, fun j hj => absurd hj (by omega)⟩
  have hA : MqA 1 (fun _ => ro T x) (fun _ => 0) (fun _ => 0) (upd st (117649 * ro T x) (nI 1)) fb (upd qu 0 (nI (117649 * ro T x))) := by
    have t0 := VW0.2.1
    refine ⟨fun j hj => ?_, fun j hj => ?_, fun y hy hno => ?_, fun j hj h => by rw [t0] at h; omega⟩
    · obtain rfl : j = 0 := by omega
      rw [upd_at, e0]
    · rw [e0, upd_at, t0]
    · have := hno 0 (by omega)
      rw [e0] at this
      rw [upd_ne _ _ (fun e => this e.symm)]
      exact hz y hy
  obtain ⟨s', R', V', F', st', fb', qu', k1, k2, k3⟩ := outerL_M hW hT hM hx h1 h2 h3 h4 14784 0 fu 1 _ _ _ _ fb _ rfl (fu_gt (by omega)) (by omega) (fun _ => rfl) hB hA
  unfold f_X12_laysWays
  simp only [ltz]
  simp (disch := omega) only [add_nI, ↓rd_nI, hroom, mul_nI, ↓nm_eq, ↓wr_nI, hw, k1]
  exact ⟨s', R', V', F', st', fb', qu', rfl, k2, k3⟩
end LW
