/-! ROUNDS, TRIED: both sides -/
theorem st_X10_go_33 (p1_told : Int32) (p1_round : Int32) (p2_told : Int32) (p2_barred : Int32) (p2_one : (Nat → Int32)) (p2_other : (Nat → Int32)) (p2_fits : (Nat → Int32)) (p3_rules : Int32) (p3_signs : (Nat → Int32)) (p3_values : (Nat → Int32)) (p3_letters : (Nat → Int32)) (p3_amounts : (Nat → Int32)) (p3_conditions : (Nat → Int32)) (p3_ends : (Nat → Int32)) (x4 : Int32) (x5 : Int32) (k0 : Int32 × Int32 × (Nat → Int32) × Int32 × (Nat → Int32) × (Nat → Int32) × (Nat → Int32) × (Nat → Int32) → Option (Int32 × Int32 × (Nat → Int32) × Int32 × Int32 × (Nat → Int32) × (Nat → Int32) × (Nat → Int32) × (Nat → Int32))) (m : Nat) (s : Int32 × Int32 × Int32 × (Nat → Int32) × Int32 × (Nat → Int32) × (Nat → Int32) × (Nat → Int32) × (Nat → Int32)) : L_X10_go_33 p1_told p1_round p2_told p2_barred p2_one p2_other p2_fits p3_rules p3_signs p3_values p3_letters p3_amounts p3_conditions p3_ends x4 x5 k0 (m + 1) s = (if (10 : Int32) ≤ s.1 then (k0 (s.2.1, s.2.2.1, s.2.2.2.1, s.2.2.2.2.1, s.2.2.2.2.2.1, s.2.2.2.2.2.2.1, s.2.2.2.2.2.2.2.1, s.2.2.2.2.2.2.2.2)) else (f_X9_isTold p1_told s.1).bind fun u1 => if u1 = 0 then (nm (s.1 + (1 : Int32)) fun v2 => (L_X10_go_33 p1_told p1_round p2_told p2_barred p2_one p2_other p2_fits p3_rules p3_signs p3_values p3_letters p3_amounts p3_conditions p3_ends x4 x5 k0 m) (v2, s.2.1, s.2.2.1, s.2.2.2.1, s.2.2.2.2.1, s.2.2.2.2.2.1, s.2.2.2.2.2.2.1, s.2.2.2.2.2.2.2.1, s.2.2.2.2.2.2.2.2)) else (f_X10_step s.2.1 s.2.2.1 s.2.2.2.1 p1_told p1_round s.2.2.2.2.1 s.2.2.2.2.2.1 s.2.2.2.2.2.2.1 s.2.2.2.2.2.2.2.1 p2_told p2_barred p2_one p2_other p2_fits p3_rules p3_signs p3_values s.2.2.2.2.2.2.2.2 p3_letters p3_amounts p3_conditions p3_ends s.1).bind fun u3 => nm (s.1 + (1 : Int32)) fun v4 => (L_X10_go_33 p1_told p1_round p2_told p2_barred p2_one p2_other p2_fits p3_rules p3_signs p3_values p3_letters p3_amounts p3_conditions p3_ends x4 x5 k0 m) (v4, u3.1, u3.2.1, u3.2.2.1, u3.2.2.2.1, u3.2.2.2.2.1, u3.2.2.2.2.2.1, u3.2.2.2.2.2.2.1, u3.2.2.2.2.2.2.2)) := rfl
theorem st_X10_go_13 (p1_told : Int32) (p2_told : Int32) (p2_barred : Int32) (p2_one : (Nat → Int32)) (p2_other : (Nat → Int32)) (p2_fits : (Nat → Int32)) (p3_rules : Int32) (p3_signs : (Nat → Int32)) (p3_values : (Nat → Int32)) (p3_letters : (Nat → Int32)) (p3_amounts : (Nat → Int32)) (p3_conditions : (Nat → Int32)) (p3_ends : (Nat → Int32)) (x4 : Int32) (m : Nat) (s : Int32 × Int32 × Int32 × (Nat → Int32) × Int32 × Int32 × (Nat → Int32) × (Nat → Int32) × (Nat → Int32) × (Nat → Int32)) : L_X10_go_13 p1_told p2_told p2_barred p2_one p2_other p2_fits p3_rules p3_signs p3_values p3_letters p3_amounts p3_conditions p3_ends x4 (m + 1) s = (if x4 ≤ s.1 then (some (s.2.1, s.2.2.1, s.2.2.2.1, s.2.2.2.2.1, s.2.2.2.2.2.1, s.2.2.2.2.2.2.1, s.2.2.2.2.2.2.2.1, s.2.2.2.2.2.2.2.2.1, s.2.2.2.2.2.2.2.2.2)) else if (9999 : Int32) ≤ s.2.2.2.2.1 then (some (s.2.1, s.2.2.1, s.2.2.2.1, s.2.2.2.2.1, s.2.2.2.2.2.1, s.2.2.2.2.2.2.1, s.2.2.2.2.2.2.2.1, s.2.2.2.2.2.2.2.2.1, s.2.2.2.2.2.2.2.2.2)) else L_X10_go_33 p1_told s.2.2.2.2.1 p2_told p2_barred p2_one p2_other p2_fits p3_rules p3_signs p3_values p3_letters p3_amounts p3_conditions p3_ends x4 s.1 (fun s5 => nm (s.2.2.2.2.1 + (1 : Int32)) fun v6 => nm (s.1 + (1 : Int32)) fun v7 => (L_X10_go_13 p1_told p2_told p2_barred p2_one p2_other p2_fits p3_rules p3_signs p3_values p3_letters p3_amounts p3_conditions p3_ends x4 m) (v7, s5.1, s5.2.1, s5.2.2.1, v6, s5.2.2.2.1, s5.2.2.2.2.1, s5.2.2.2.2.2.1, s5.2.2.2.2.2.2.1, s5.2.2.2.2.2.2.2)) fu ((0 : Int32), s.2.1, s.2.2.1, s.2.2.2.1, s.2.2.2.2.2.1, s.2.2.2.2.2.2.1, s.2.2.2.2.2.2.2.1, s.2.2.2.2.2.2.2.2.1, s.2.2.2.2.2.2.2.2.2)) := rfl
theorem st_X12_roundsGo_33 (t_toldDoors : Int32) (t_barredDoors : Int32) (t_clauses : Int32) (t_prongsOf : (Nat → Int32)) (t_oneOf : (Nat → Int32)) (t_otherOf : (Nat → Int32)) (t_wardsOf : (Nat → Int32)) (t_codes : (Nat → Int32)) (t_clauseOf : (Nat → Int32)) (t_codeFrom : (Nat → Int32)) (t_codeHalf : (Nat → Int32)) (t_codeTo : (Nat → Int32)) (x1 : Int32) (x2 : Int32) (k0 : Int32 × Int32 × (Nat → Int32) × (Nat → Int32) × (Nat → Int32) → Option (Int32 × Int32 × (Nat → Int32) × (Nat → Int32) × (Nat → Int32))) (m : Nat) (s : Int32 × Int32 × Int32 × (Nat → Int32) × (Nat → Int32) × (Nat → Int32)) : L_X12_roundsGo_33 t_toldDoors t_barredDoors t_clauses t_prongsOf t_oneOf t_otherOf t_wardsOf t_codes t_clauseOf t_codeFrom t_codeHalf t_codeTo x1 x2 k0 (m + 1) s = (if (10 : Int32) ≤ s.1 then (k0 (s.2.1, s.2.2.1, s.2.2.2.1, s.2.2.2.2.1, s.2.2.2.2.2)) else (f_X12_isWoman s.2.2.2.1 s.1).bind fun u2 => if u2 = 0 then (nm (s.1 + (1 : Int32)) fun v3 => (L_X12_roundsGo_33 t_toldDoors t_barredDoors t_clauses t_prongsOf t_oneOf t_otherOf t_wardsOf t_codes t_clauseOf t_codeFrom t_codeHalf t_codeTo x1 x2 k0 m) (v3, s.2.1, s.2.2.1, s.2.2.2.1, s.2.2.2.2.1, s.2.2.2.2.2)) else (f_X12_turnOf t_toldDoors t_barredDoors t_clauses s.2.1 s.2.2.1 s.2.2.2.1 t_prongsOf t_oneOf t_otherOf t_wardsOf t_codes t_clauseOf t_codeFrom t_codeHalf t_codeTo s.2.2.2.2.1 s.2.2.2.2.2 s.1).bind fun u4 => nm (s.1 + (1 : Int32)) fun v5 => (L_X12_roundsGo_33 t_toldDoors t_barredDoors t_clauses t_prongsOf t_oneOf t_otherOf t_wardsOf t_codes t_clauseOf t_codeFrom t_codeHalf t_codeTo x1 x2 k0 m) (v5, u4.1, u4.2.1, u4.2.2.1, u4.2.2.2.1, u4.2.2.2.2)) := rfl
theorem st_X12_roundsGo_12 (t_toldDoors : Int32) (t_barredDoors : Int32) (t_clauses : Int32) (t_prongsOf : (Nat → Int32)) (t_oneOf : (Nat → Int32)) (t_otherOf : (Nat → Int32)) (t_wardsOf : (Nat → Int32)) (t_codes : (Nat → Int32)) (t_clauseOf : (Nat → Int32)) (t_codeFrom : (Nat → Int32)) (t_codeHalf : (Nat → Int32)) (t_codeTo : (Nat → Int32)) (x1 : Int32) (m : Nat) (s : Int32 × Int32 × Int32 × (Nat → Int32) × (Nat → Int32) × (Nat → Int32)) : L_X12_roundsGo_12 t_toldDoors t_barredDoors t_clauses t_prongsOf t_oneOf t_otherOf t_wardsOf t_codes t_clauseOf t_codeFrom t_codeHalf t_codeTo x1 (m + 1) s = (if x1 ≤ s.1 then (some (s.2.1, s.2.2.1, s.2.2.2.1, s.2.2.2.2.1, s.2.2.2.2.2)) else rd s.2.2.2.1 166 (164 : Int32) fun v1 => if (9999 : Int32) ≤ v1 then (some (s.2.1, s.2.2.1, s.2.2.2.1, s.2.2.2.2.1, s.2.2.2.2.2)) else L_X12_roundsGo_33 t_toldDoors t_barredDoors t_clauses t_prongsOf t_oneOf t_otherOf t_wardsOf t_codes t_clauseOf t_codeFrom t_codeHalf t_codeTo x1 s.1 (fun s6 => rd s6.2.2.1 166 (164 : Int32) fun v7 => wr s6.2.2.1 166 (164 : Int32) (v7 + (1 : Int32)) fun g8 => nm (s.1 + (1 : Int32)) fun v9 => (L_X12_roundsGo_12 t_toldDoors t_barredDoors t_clauses t_prongsOf t_oneOf t_otherOf t_wardsOf t_codes t_clauseOf t_codeFrom t_codeHalf t_codeTo x1 m) (v9, s6.1, s6.2.1, g8, s6.2.2.2.1, s6.2.2.2.2)) fu ((0 : Int32), s.2.1, s.2.2.1, s.2.2.2.1, s.2.2.2.2.1, s.2.2.2.2.2)) := rfl
theorem women_ok {D : DS} {W : LW} {hair one other fits bent one' other' wards wards' prongs : Nat → Int32} (dC : CDoors (nI (dt D)) (nI (db D)) one other wards fits bent D) (dM : MDoors (nI (dt D)) (nI (db D)) one' other' wards' prongs D) (hW : WDoors D) {rules : Int32} {sg va letters amounts conditions ends : Nat → Int32} (lC : CLaw rules sg va letters amounts conditions ends W) {clauses : Int32} {codes clauseOf codeFrom codeHalf codeTo : Nat → Int32} (lM : MLaw clauses codes clauseOf codeFrom codeHalf codeTo W) (hWL : WLaw W) {t0 r0 : Nat} {y1 y2 z1 z2 : Int32} (kC : _) (kM : _) : ∀ (r w m m' : Nat) (T : TS) (pa ja x : Int32) (known rust rooms pins st now st2 facts : Nat → Int32), w + r = 10 → r < m → r < m' → tt T = t0 → rn T = r0 → CTown (nI t0) (nI r0) x rust rooms hair pins T → MTown now T → WTown T →
    ∃ T' pa' ja' x' known' rust' rooms' pins' st' now' st2' facts', L_X10_go_33 (nI t0) (nI r0) (nI (dt D)) (nI (db D)) one other fits rules sg va letters amounts conditions ends y1 y2 kC m (nI w, pa, ja, known, x, rust, rooms, pins, st) = kC (pa', ja', known', x', rust', rooms', pins', st') ∧ L_X12_roundsGo_33 (nI (dt D)) (nI (db D)) clauses prongs one' other' wards' codes clauseOf codeFrom codeHalf codeTo z1 z2 kM m' (nI w, pa, ja, now, st2, facts) = kM (pa', ja', now', st2', facts') ∧ tt T' = t0 ∧ rn T' = r0 ∧ CTown (nI t0) (nI r0) x' rust' rooms' hair pins' T' ∧ MTown now' T' ∧ WTown T' := by
  intro r
  induction r with
  | zero =>
    intro w m m' T pa ja x known rust rooms pins st now st2 facts hw hm hm' h1 h2 hC hM hT
    obtain ⟨m, rfl⟩ : ∃ k, m = k + 1 := ⟨m - 1, by omega⟩
    obtain ⟨m', rfl⟩ : ∃ k, m' = k + 1 := ⟨m' - 1, by omega⟩
    have q : (nI 10 ≤ nI w) = True := by rw [le_nI (by omega) (by omega)]; exact eq_true (by omega)
    rw [st_X10_go_33, st_X12_roundsGo_33]
    simp only [ltz, q, ↓reduceIte]
    exact ⟨T, _, _, _, _, _, _, _, _, _, _, _, rfl, rfl, h1, h2, hC, hM, hT⟩
  | succ r ih =>
    intro w m m' T pa ja x known rust rooms pins st now st2 facts hw hm hm' h1 h2 hC hM hT
    obtain ⟨m, rfl⟩ : ∃ k, m = k + 1 := ⟨m - 1, by omega⟩
    obtain ⟨m', rfl⟩ : ∃ k, m' = k + 1 := ⟨m' - 1, by omega⟩
    have hw10 : w < 10 := by omega
    have q : (nI 10 ≤ nI w) = False := by rw [le_nI (by omega) (by omega)]; exact eq_false (by omega)
    subst h1
    subst h2
    rw [st_X10_go_33, st_X12_roundsGo_33]
    simp only [ltz]
    rcases Bool.eq_false_or_eq_true ((tt T).testBit w) with hb | hb
    · obtain ⟨e1, e2⟩ := woman_in hM hT hw10
      rw [hb, if_pos rfl] at e1 e2
      have hx : x = nI (xx T) := hC.2.2.1
      subst hx
      obtain ⟨pa1, ja1, kn1, x1, ru1, ro1, pi1, st1, now1, st3, fa1, T1, a1, a2, a3, a4, a5, a6, a7⟩ := turn_ok hC hM hT dC dM hW lC lM hWL hw10 hb pa ja known st facts st2
      simp (disch := omega) only [↓reduceIte, ↓some_bind, ↓nm_eq, ↓jn_eq, ↓wr_nI, ↓rd_nI, n10, n00, q, ↓bind_of e1, ↓bind_of e2, ↓bind_of a1, ↓bind_of a2, add_nI]
      exact ih (w + 1) m m' T1 pa1 ja1 x1 kn1 ru1 ro1 pi1 st1 now1 st3 fa1 (by omega) (by omega) (by omega) a6 a7 a3 a4 a5
    · obtain ⟨e1, e2⟩ := told0 hM hT hw10 hb
      simp (disch := omega) only [↓reduceIte, ↓some_bind, ↓nm_eq, ↓jn_eq, ↓wr_nI, ↓rd_nI, n10, n00, q, ↓bind_of e1, ↓bind_of e2, add_nI]
      exact ih (w + 1) m m' T pa ja x known rust rooms pins st now st2 facts (by omega) (by omega) (by omega) rfl rfl hC hM hT
theorem goL_ok {D : DS} {W : LW} {hair one other fits bent one' other' wards wards' prongs : Nat → Int32} (dC : CDoors (nI (dt D)) (nI (db D)) one other wards fits bent D) (dM : MDoors (nI (dt D)) (nI (db D)) one' other' wards' prongs D) (hW : WDoors D) {rules : Int32} {sg va letters amounts conditions ends : Nat → Int32} (lC : CLaw rules sg va letters amounts conditions ends W) {clauses : Int32} {codes clauseOf codeFrom codeHalf codeTo : Nat → Int32} (lM : MLaw clauses codes clauseOf codeFrom codeHalf codeTo W) (hWL : WLaw W) {t0 n : Nat} (hn : n ≤ 100) : ∀ (r i m m' : Nat) (T : TS) (pa ja x : Int32) (known rust rooms pins st now st2 facts : Nat → Int32), i + r = n → r < m → r < m' → tt T = t0 → CTown (nI t0) (nI (rn T)) x rust rooms hair pins T → MTown now T → WTown T →
    ∃ T' pa' ja' x' known' rust' rooms' pins' st' now' st2' facts', L_X10_go_13 (nI t0) (nI (dt D)) (nI (db D)) one other fits rules sg va letters amounts conditions ends (nI n) m (nI i, pa, ja, known, nI (rn T), x, rust, rooms, pins, st) = some (pa', ja', known', nI (rn T'), x', rust', rooms', pins', st') ∧ L_X12_roundsGo_12 (nI (dt D)) (nI (db D)) clauses prongs one' other' wards' codes clauseOf codeFrom codeHalf codeTo (nI n) m' (nI i, pa, ja, now, st2, facts) = some (pa', ja', now', st2', facts') ∧ tt T' = t0 ∧ CTown (nI t0) (nI (rn T')) x' rust' rooms' hair pins' T' ∧ MTown now' T' ∧ WTown T' := by
  intro r
  induction r with
  | zero =>
    intro i m m' T pa ja x known rust rooms pins st now st2 facts hi hm hm' h1 hC hM hT
    obtain ⟨m, rfl⟩ : ∃ k, m = k + 1 := ⟨m - 1, by omega⟩
    obtain ⟨m', rfl⟩ : ∃ k, m' = k + 1 := ⟨m' - 1, by omega⟩
    have q : (nI n ≤ nI i) = True := by rw [le_nI (by omega) (by omega)]; exact eq_true (by omega)
    rw [st_X10_go_13, st_X12_roundsGo_12]
    simp only [q, ↓reduceIte]
    exact ⟨T, _, _, _, _, _, _, _, _, _, _, _, rfl, rfl, h1, hC, hM, hT⟩
  | succ r ih =>
    intro i m m' T pa ja x known rust rooms pins st now st2 facts hi hm hm' h1 hC hM hT
    obtain ⟨m, rfl⟩ : ∃ k, m = k + 1 := ⟨m - 1, by omega⟩
    obtain ⟨m', rfl⟩ : ∃ k, m' = k + 1 := ⟨m' - 1, by omega⟩
    have q : (nI n ≤ nI i) = False := by rw [le_nI (by omega) (by omega)]; exact eq_false (by omega)
    have hrn := hT.2.1
    have e6 := hM.2.2.2.2.2.1
    rw [st_X10_go_13, st_X12_roundsGo_12]
    simp only [ltz]
    by_cases h99 : rn T = 9999
    · have q2 : (nI 9999 ≤ nI (rn T)) = True := by rw [le_nI (by omega) (by omega)]; exact eq_true (by omega)
      simp (disch := omega) only [↓reduceIte, ↓some_bind, ↓nm_eq, ↓jn_eq, ↓wr_nI, ↓rd_nI, n10, n00, q, e6, q2]
      exact ⟨T, _, _, _, _, _, _, _, _, _, _, _, rfl, rfl, h1, hC, hM, hT⟩
    · have q2 : (nI 9999 ≤ nI (rn T)) = False := by rw [le_nI (by omega) (by omega)]; exact eq_false (by omega)
      simp (disch := omega) only [↓reduceIte, ↓some_bind, ↓nm_eq, ↓jn_eq, ↓wr_nI, ↓rd_nI, n10, n00, q, e6, q2]
      generalize hkC : (fun s5 : Int32 × Int32 × (Nat → Int32) × Int32 × (Nat → Int32) × (Nat → Int32) × (Nat → Int32) × (Nat → Int32) => _) = kC
      generalize hkM : (fun s6 : Int32 × Int32 × (Nat → Int32) × (Nat → Int32) × (Nat → Int32) => _) = kM
      obtain ⟨T1, pa1, ja1, x1, kn1, ru1, ro1, pi1, st1, now1, st3, fa1, a1, a2, a3, a4, a5, a6, a7⟩ := women_ok dC dM hW lC lM hWL (y1 := nI n) (y2 := nI i) (z1 := nI n) (z2 := nI i) kC kM 10 0 fu fu T pa ja x known rust rooms pins st now st2 facts rfl (fu_gt (by omega)) (fu_gt (by omega)) h1 rfl hC hM hT
      rw [a1, a2, ← hkC, ← hkM]
      have e7 := a6.2.2.2.2.2.1
      rw [a4] at e7
      simp (disch := omega) only [↓reduceIte, ↓some_bind, ↓nm_eq, ↓jn_eq, ↓wr_nI, ↓rd_nI, n10, n00, e7, add_nI]
      have x0 := M_rn (rn T + 1) a6
      have y0 := W_rn (v := rn T + 1) (by omega) a7
      obtain ⟨b1, b2, b3, b4, b5, b6, b7⟩ := a5
      exact ih (i + 1) m m' (sRn T1 (rn T + 1)) pa1 ja1 x1 kn1 ru1 ro1 pi1 st1 (upd now1 164 (nI (rn T + 1))) st3 fa1 (by omega) (by omega) (by omega) a3 ⟨b1, rfl, b3, b4, b5, b6, b7⟩ x0 y0
theorem go_ok {D : DS} {W : LW} {hair one other fits bent one' other' wards wards' prongs : Nat → Int32} (dC : CDoors (nI (dt D)) (nI (db D)) one other wards fits bent D) (dM : MDoors (nI (dt D)) (nI (db D)) one' other' wards' prongs D) (hW : WDoors D) {rules : Int32} {sg va letters amounts conditions ends : Nat → Int32} (lC : CLaw rules sg va letters amounts conditions ends W) {clauses : Int32} {codes clauseOf codeFrom codeHalf codeTo : Nat → Int32} (lM : MLaw clauses codes clauseOf codeFrom codeHalf codeTo W) (hWL : WLaw W) {T : TS} {told round x : Int32} {rust rooms pins now : Nat → Int32} (hC : CTown told round x rust rooms hair pins T) (hM : MTown now T) (hT : WTown T) {n : Nat} (hn : n ≤ 100) (wp wj go je : Int32) (known st st2 facts : Nat → Int32) :
    ∃ T' pa' ja' x' known' rust' rooms' pins' st' now' st2' facts', f_X10_go wp wj known told round x rust rooms pins (nI (dt D)) (nI (db D)) one other fits rules sg va st letters amounts conditions ends (nI n) = some (pa', ja', known', nI (rn T'), x', rust', rooms', pins', st') ∧ f_X12_roundsGo (nI (dt D)) (nI (db D)) clauses go je now prongs one' other' wards' codes clauseOf codeFrom codeHalf codeTo st2 facts (nI n) = some (pa', ja', now', st2', facts') ∧ tt T' = tt T ∧ CTown told (nI (rn T')) x' rust' rooms' hair pins' T' ∧ MTown now' T' ∧ WTown T' := by
  have h1 : told = nI (tt T) := hC.1
  have h2 : round = nI (rn T) := hC.2.1
  subst h1
  subst h2
  unfold f_X10_go f_X12_roundsGo
  simp only [ltz]
  exact goL_ok dC dM hW lC lM hWL hn n 0 fu fu T (nI 0) (nI 0) x known rust rooms pins st now st2 facts (by omega) (fu_gt (by omega)) (fu_gt (by omega)) rfl hC hM hT
theorem B_rounds {T : TS} {D : DS} {W : LW} {dtold dbar dtold' dbar' : Int32} {hair one other fits bent one' other' wards wards' prongs : Nat → Int32} (dC : CDoors dtold dbar one other wards fits bent D) (dM : MDoors dtold' dbar' one' other' wards' prongs D) (hW : WDoors D) {rules : Int32} {sg va letters amounts conditions ends : Nat → Int32} (lC : CLaw rules sg va letters amounts conditions ends W) {clauses : Int32} {codes clauseOf codeFrom codeHalf codeTo : Nat → Int32} (lM : MLaw clauses codes clauseOf codeFrom codeHalf codeTo W) (hWL : WLaw W) {told round x : Int32} {rust rooms pins now : Nat → Int32} (hC : CTown told round x rust rooms hair pins T) (hM : MTown now T) (hT : WTown T) (wp wj go je : Int32) (known st st2 facts : Nat → Int32) (x1 : Int32) : ∃ r r' T', f_X11_rounds dtold dbar one other fits told round x rust rooms pins wp wj known rules sg va st letters amounts conditions ends x1 = some r ∧ f_X12_rounds dtold' dbar' clauses go je now prongs one' other' wards' codes clauseOf codeFrom codeHalf codeTo st2 facts x1 = some r' ∧ r.1 = r'.1 ∧ CTown told r.2.1 r.2.2.1 r.2.2.2.1 r.2.2.2.2.1 hair r.2.2.2.2.2.1 T' ∧ MTown r'.2.2.2.1 T' ∧ WTown T' := by
  have c1 : dtold = nI (dt D) := dC.1
  have c2 : dbar = nI (db D) := dC.2.1
  have c3 : dtold' = nI (dt D) := dM.1
  have c4 : dbar' = nI (db D) := dM.2.1
  subst c1; subst c2; subst c3; subst c4
  unfold f_X11_rounds f_X12_rounds
  simp only [ltz]
  rcases in01 x1 1 100 (by omega) (by omega) with ⟨e1, e2⟩ | ⟨n, he1, he2, rfl, e1, e2⟩
  · simp only [e1, e2, some_bind, n00, ↓reduceIte]
    exact ⟨_, _, T, rfl, rfl, rfl, hC, hM, hT⟩
  · obtain ⟨T', pa', ja', x', kn', ru', ro', pi', st', now', st2', fa', a1, a2, a3, a4, a5, a6⟩ := go_ok dC dM hW lC lM hWL hC hM hT he2 wp wj go je known st st2 facts
    simp only [↓bind_of e1, ↓bind_of e2, n10, ↓reduceIte, ↓bind_of a1, ↓bind_of a2]
    exact ⟨_, _, T', rfl, rfl, rfl, a4, a5, a6⟩
theorem B_tried {T : TS} {D : DS} {W : LW} {dtold dbar dtold' dbar' : Int32} {hair one other fits bent one' other' wards wards' prongs : Nat → Int32} (dC : CDoors dtold dbar one other wards fits bent D) (dM : MDoors dtold' dbar' one' other' wards' prongs D) (hW : WDoors D) {rules : Int32} {sg va letters amounts conditions ends : Nat → Int32} (lC : CLaw rules sg va letters amounts conditions ends W) {clauses : Int32} {codes clauseOf codeFrom codeHalf codeTo : Nat → Int32} (lM : MLaw clauses codes clauseOf codeFrom codeHalf codeTo W) (hWL : WLaw W) {told round x : Int32} {rust rooms pins now : Nat → Int32} (hC : CTown told round x rust rooms hair pins T) (hM : MTown now T) (hT : WTown T) (wp wj go je : Int32) (known st st2 facts aside : Nat → Int32) {told2 round2 xr2 : Int32} {rust2 rooms2 hair2 pins2 : Nat → Int32} (x1 x2 : Int32) : ∃ r r', f_X11_tried dtold dbar one other fits told round x rust rooms hair pins told2 round2 xr2 rust2 rooms2 hair2 pins2 wp wj known rules sg va st letters amounts conditions ends x1 x2 = some r ∧ f_X12_tried dtold' dbar' clauses go je now aside prongs one' other' wards' codes clauseOf codeFrom codeHalf codeTo st2 facts x1 x2 = some r' ∧ r.1 = r'.1 ∧ MTown r'.2.2.2.1 T := by
  have c1 : dtold = nI (dt D) := dC.1
  have c2 : dbar = nI (db D) := dC.2.1
  have c3 : dtold' = nI (dt D) := dM.1
  have c4 : dbar' = nI (db D) := dM.2.1
  subst c1; subst c2; subst c3; subst c4
  have c5 : told = nI (tt T) := hC.1
  subst c5
  unfold f_X11_tried f_X12_tried
  simp only [ltz]
  rcases in01 x1 1 100 (by omega) (by omega) with ⟨e1, e2⟩ | ⟨n, he1, he2, rfl, e1, e2⟩
  · simp only [e1, e2, some_bind, n00, ↓reduceIte]
    exact ⟨_, _, rfl, rfl, rfl, hM⟩
  obtain ⟨⟨k1, k2, k3, k4, k5, k6, k7⟩, hcp, hC2⟩ := copy_C (told2 := told2) (round2 := round2) (x2 := xr2) (rust2 := rust2) (rooms2 := rooms2) (hair2 := hair2) (pins2 := pins2) hC
  dsimp only at hC2
  obtain ⟨T', pa', ja', x', kn', ru', ro', pi', st', now', st2', fa', a1, a2, a3, a4, a5, a6⟩ := go_ok dC dM hW lC lM hWL hC2 hM hT he2 wp wj go je known st st2 facts
  have hk1 : k1 = nI (tt T) := hC2.1
  have hk2 : k1 = nI (tt T') := a4.1
  have fin : MTown (fun i => if i < 166 then (fun i => if i < 166 then now i else aside i) i else now' i) T := MTown_congr (fun i hi => (if_pos hi).trans (if_pos hi)) hM
  rcases in01 x2 0 1 (by omega) (by omega) with ⟨b1, b2⟩ | ⟨j, hj1, hj2, rfl, b1, b2⟩
  · have z0 : (x2 = nI 0) = False := eq_false (fun h => by
      subst h
      rw [in_Y (a := 0) (by omega) (by omega) (by omega)] at b1
      exact absurd b1 (by decide))
    have z1 : (x2 = nI 1) = False := eq_false (fun h => by
      subst h
      rw [in_Y (a := 1) (by omega) (by omega) (by omega)] at b1
      exact absurd b1 (by decide))
    rcases woman_cases hM hT (x2 - nI 10) with ⟨w, hw, hx, hb, t1, t2⟩ | ⟨t1, t2⟩
    · have hx2 : x2 = nI (w + 10) := by
        have : x2 - nI 10 + nI 10 = nI w + nI 10 := by rw [hx]
        rw [Int32.sub_add_cancel, add_nI] at this
        exact this
      have w1 := in_Y (a := w + 10) (l := 10) (h := 19) (by omega) (by omega) (by omega)
      rw [← hx2] at w1
      have hcan : f_X11_canBeTried (nI (tt T)) x2 = some (nI 1) := by
        unfold f_X11_canBeTried
        simp only [ltz]
        simp only [z0, z1, ↓reduceIte, ↓bind_of w1, n10, ↓bind_of t1]
        rfl
      have z30 : (nI 30 ≤ x2) = False := by rw [hx2, le_nI (by omega) (by omega)]; exact eq_false (by omega)
      have hro := roomOf_C (T := T') a4.2.2.2.2.1 a5 a6 hw (by rw [a3]; exact hb)
      rw [← hk2] at hro
      have hsub : nI 34 + x2 - nI 10 = nI (34 + w) := by rw [hx2, add_nI, sub_nI (by omega)] <;> (congr 1 <;> omega)
      have hnow := a5.2.2.1 w hw
      simp (disch := omega) only [↓bind_of e1, ↓bind_of e2, n10, ↓reduceIte, ↓bind_of hcan, ↓bind_of hcp, ↓bind_of a1, ↓bind_of a2, z0, z1, z30, hx, ↓bind_of hro, ↓bind_of b2, ↓bind_of t2, ↓jn_eq, copies_M, ↓some_bind, hsub, ↓rd_nI, hnow]
      rw [hx] at t2
      simp (disch := omega) only [↓bind_of t2, show ¬ (1 : Int32) = nI 0 by decide, ↓reduceIte, ↓jn_eq, copies_M, ↓some_bind, ↓bind_of a2, z0, z1, z30, hsub, ↓rd_nI, hnow]
      exact ⟨_, _, rfl, rfl, rfl, fin⟩
    · rcases woman_cases hM hT (x2 - nI 30) with ⟨w, hw, hx, hb, s1, s2⟩ | ⟨s1, s2⟩
      · have hx2 : x2 = nI (w + 30) := by
          have : x2 - nI 30 + nI 30 = nI w + nI 30 := by rw [hx]
          rw [Int32.sub_add_cancel, add_nI] at this
          exact this
        have w1 : f_X11_isWithin x2 (nI 10) (nI 19) = some (nI 0) := by rw [hx2, win_in, in_nI (by omega) (by omega) (by omega), if_neg (by simp <;> omega)]
        have w2 := in_Y (a := w + 30) (l := 30) (h := 39) (by omega) (by omega) (by omega)
        rw [← hx2] at w2
        have hcan : f_X11_canBeTried (nI (tt T)) x2 = some (nI 1) := by
          unfold f_X11_canBeTried
          simp only [ltz]
          simp only [z0, z1, ↓reduceIte, ↓bind_of w1, n00, ↓bind_of w2, n10, ↓bind_of s1, show ¬ (1 : Int32) = nI 0 by decide]
        have z30 : (nI 30 ≤ x2) = True := by rw [hx2, le_nI (by omega) (by omega)]; exact eq_true (by omega)
        have hpc := pinsOf_C (T := T') (now := now') rfl a4.2.2.2.2.2.2 a5 a6 hw (by rw [a3]; exact hb)
        rw [← hk2] at hpc
        have hpm := pinsOf_M a5 hw
        simp (disch := omega) only [↓bind_of e1, ↓bind_of e2, n10, n00, ↓reduceIte, ↓bind_of hcan, ↓bind_of hcp, ↓bind_of a1, ↓bind_of a2, z0, z1, z30, hx, ↓bind_of hpc, ↓bind_of b2, ↓bind_of t2, ↓jn_eq, copies_M, ↓some_bind, show ((0 : Int32) = nI 0) = True from eq_true (by decide)]
        rw [hx] at s2
        simp (disch := omega) only [↓bind_of s2, show ¬ (1 : Int32) = nI 0 by decide, ↓reduceIte, ↓jn_eq, copies_M, ↓some_bind, ↓bind_of a2, z0, z1, z30, ↓bind_of hpm]
        exact ⟨_, _, rfl, rfl, rfl, fin⟩
      · have hcan : f_X11_canBeTried (nI (tt T)) x2 = some (nI 0) := by
          unfold f_X11_canBeTried
          simp only [ltz]
          rcases in01 x2 10 19 (by omega) (by omega) with ⟨u1, _⟩ | ⟨_, _, _, _, u1, _⟩
          · rcases in01 x2 30 39 (by omega) (by omega) with ⟨v1, _⟩ | ⟨_, _, _, _, v1, _⟩
            · simp only [z0, z1, ↓reduceIte, ↓bind_of u1, n00, ↓bind_of v1]
            · simp only [z0, z1, ↓reduceIte, ↓bind_of u1, n00, n10, ↓bind_of v1, ↓bind_of s1, show ((0 : Int32) = nI 0) = True from eq_true (by decide)]
          · simp only [z0, z1, ↓reduceIte, ↓bind_of u1, n10, ↓bind_of t1]
            rfl
        simp (disch := omega) only [↓bind_of e1, ↓bind_of e2, n10, n00, ↓reduceIte, ↓bind_of hcan, ↓bind_of b2, ↓bind_of t2, ↓jn_eq, ↓bind_of s2, show ((0 : Int32) = nI 0) = True from eq_true (by decide)]
        exact ⟨_, _, rfl, rfl, rfl, hM⟩
  · have hj : j = 0 ∨ j = 1 := by omega
    rcases hj with rfl | rfl
    · have hcan : f_X11_canBeTried (nI (tt T)) (nI 0) = some (nI 1) := by
        unfold f_X11_canBeTried
        simp only [ltz, n00, ↓reduceIte]
      simp (disch := omega) only [↓bind_of e1, ↓bind_of e2, n10, n00, ↓reduceIte, ↓bind_of hcan, ↓bind_of hcp, ↓bind_of a1, ↓bind_of a2, ↓bind_of b2, ↓jn_eq, copies_M, ↓some_bind]
      exact ⟨_, _, rfl, rfl, rfl, fin⟩
    · have hcan : f_X11_canBeTried (nI (tt T)) (nI 1) = some (nI 1) := by
        unfold f_X11_canBeTried
        simp only [ltz, n10, eq_self, ↓reduceIte]
      simp (disch := omega) only [↓bind_of e1, ↓bind_of e2, n10, n00, eq_self, ↓reduceIte, ↓bind_of hcan, ↓bind_of hcp, ↓bind_of a1, ↓bind_of a2, ↓bind_of b2, ↓jn_eq, copies_M, ↓some_bind]
      exact ⟨_, _, rfl, rfl, rfl, fin⟩
