/-! THE LAW: a rule, both sides -/
theorem er_C {s r : Nat} (hr : r < 16) (le am co en : Nat → Int32) (l a h : Int32) : f_X2_endRule (nI s) (nI r) le am co en l a h = some (nI (r + 1), upd le r l, upd am r a, upd co r h, upd en r (nI s)) := by
  have q : (nI 16 ≤ nI r) = False := by rw [le_nI (by omega) (by omega)]; exact eq_false (by omega)
  unfold f_X2_endRule
  simp only [ltz]
  simp (disch := omega) only [↓reduceIte, ↓some_bind, ↓nm_eq, ↓jn_eq, ↓wr_nI, ↓rd_nI, ↓gb0, ↓gb1, n10, n00, q, add_nI]
theorem choice_bad (rt : Int32 → Int32 → Int32 → Int32 → (Nat → Int32) → Int32 → (Nat → Int32) → (Nat → Int32) → Int32 → Option (Int32 × Int32 × Int32 × (Nat → Int32) × (Nat → Int32))) {e pl x n s : Int32} {f sg va : Nat → Int32} {o : Int32} (h : x ≠ nI 0) : ∃ va', fo_X3_readChoice rt e pl x n f s sg va o = some (pl, x, s, sg, va') := by
  obtain ⟨va', hl⟩ := land_T s va (-nI 1)
  unfold fo_X3_readChoice
  simp only [ltz]
  have hfu : fu = (fu - 1) + 1 := by have := @fu_gt 1 (by omega); omega
  have q : (nI 240 ≤ nI 0) = False := by rw [le_nI (by omega) (by omega)]; exact eq_false (by omega)
  rw [hfu, st_X3_readChoice_4]
  simp only [ltz]
  simp (disch := omega) only [↓reduceIte, ↓some_bind, ↓nm_eq, ↓jn_eq, ↓wr_nI, ↓rd_nI, ↓gb0, ↓gb1, n10, n00, q, ↓bind_of (sound_n h), ↓bind_of hl]
  exact ⟨va', rfl⟩
theorem cond_both {n e : Nat} {t : Int32} {f g : Nat → Int32} {b : Nat → Nat} (tC : CTape (nI n) f n b) (tM : MTape t g n b) (ht : txt e b) (he : e ≤ n) (he2 : e ≤ 240) {p s c : Nat} {sg va sa wa : Nat → Int32} {x num o0 w0 : Int32} (hp : p ≤ e) (hp1 : 1 ≤ p) (hs : s ≤ p) (hc : c ≤ p) :
    (∃ w q pl5 fl5 pl6 fl6 s6 sg6 va6 pl7 r, 1 ≤ w ∧ w ≤ 5 ∧ q ≤ e ∧ fo_X7_want (nI e) (nI p) (nI 0) (nI n) f (nI 40) = some (pl5, fl5) ∧ fo_X3_readChoice (fo_X3_readTest 8) (nI e) pl5 fl5 (nI n) f (nI s) sg va (nI 1) = some (pl6, fl6, nI s6, sg6, va6) ∧ fo_X7_want (nI e) pl6 fl6 (nI n) f (nI 41) = some (pl7, flt w q) ∧ f_X12_readsCondition (nI p) (nI e) x num o0 (nI c) w0 g sa wa = some r ∧ r.1 = nI 0 ∧ r.2.2.1 = flt w q) ∨
    (∃ F p2 s2 sg2 va2 num2 c2 sa2 wa2, p < p2 ∧ p2 + 1 ≤ e ∧ fo_X7_want (nI e) (nI p) (nI 0) (nI n) f (nI 40) = some (nI (p + 1), nI 0) ∧ fo_X3_readChoice (fo_X3_readTest 8) (nI e) (nI (p + 1)) (nI 0) (nI n) f (nI s) sg va (nI 1) = some (nI p2, nI 0, nI s2, sg2, va2) ∧ fo_X7_want (nI e) (nI p2) (nI 0) (nI n) f (nI 41) = some (nI (p2 + 1), nI 0) ∧ s ≤ s2 ∧ s2 ≤ p2 ∧ (∀ i, i < s → sg2 i = sg i ∧ va2 i = va i) ∧ SegC sg2 va2 s s2 20 F ∧ f_X12_readsCondition (nI p) (nI e) x num o0 (nI c) w0 g sa wa = some (nI 1, nI (p2 + 1), x, num2, nI 0, nI c2, nI 0, sa2, wa2) ∧ c ≤ c2 ∧ c2 ≤ p2 ∧ (∀ i, i < c → sa2 i = sa i) ∧ SegM sa2 c c2 20 F ∧ B01 F) := by
  have hn := tC.1
  have hm0 := here_M hn tM he (show p < 100000 by omega)
  have s40 := eq_hr ht p (c := 40) (by omega)
  by_cases h40 : hN e b p = 40
  · have hpe := sgn_eq h40 (by omega)
    rw [eq_true h40] at s40
    have wc := wantY tC ht he (show p < 100000 by omega) (show 40 < 256 by omega) h40
    obtain ⟨R, D1, M1⟩ := choice_C tC ht he he2 (fo_X3_readTest 8) (part_C tC ht he he2 (fo_X3_readTest 8) (testAll_C tC ht he he2 8 1 (by omega) (by omega))) (p + 1) s sg va (by omega) (by omega) (by omega)
    have hro := DD_ok D1 (by omega)
    have hop : f_X12_opens (nI p) x (nI 0) (nI 0) wa (nI 13) = some (nI 1, nI (p + 1), x, nI 1, nI 1, upd wa 0 (nI (1048576 * 13))) := opens_Y (p := p) (o := 0) (k := 13) (x := x) (W := []) (wa := wa) (by omega) (by simp only [List.length_nil]; omega)
    have hs0 : St (upd wa 0 (nI (1048576 * 13))) [1048576 * 13] := ⟨upd_at _ _ _, by omega, trivial⟩
    have mc := conds_M hn tM ht he he2 D1
    have hred : f_X12_readsCondition (nI p) (nI e) x num o0 (nI c) w0 g sa wa = TBm e g fu (p + 1) x num 1 c [1048576 * 13] sa (upd wa 0 (nI (1048576 * 13))) := by
      unfold f_X12_readsCondition TBm
      simp only [ltz]
      simp (disch := omega) only [↓reduceIte, ↓some_bind, ↓nm_eq, ↓jn_eq, ↓wr_nI, ↓rd_nI, ↓gb0, ↓gb1, n10, n00, ↓bind_of hm0, s40, ↓bind_of hop]
      rfl
    rcases R with ⟨w, q⟩ | ⟨F, p2⟩
    · skip
      obtain ⟨p', s', sg', va', M1, hs', hp'⟩ := M1
      obtain ⟨r1, r2, r3⟩ := hro
      have hf := flt_ne w q r1 (by omega) (by omega)
      obtain ⟨k, k1, k2⟩ := (mc : MCho e g b 1 (p + 1) (.bad w q)) c c none x num [1048576 * 13] sa (upd wa 0 (nI (1048576 * 13))) (by omega) (by omega) (by omega) (by show 1 ≤ p + 1; omega) ⟨_, [], rfl, by omega, by omega⟩ hs0 rfl
      obtain ⟨r, q1, q2, q3⟩ := k2 (fu - k)
      have hfk : fu - k + k = fu := by have := @fu_gt k (by omega); omega
      rw [hfk] at q1
      exact Or.inl ⟨w, q, _, _, _, _, _, _, _, _, r, r1, r2, r3, wc, M1, want_n hf, hred.trans q1, q2, q3⟩
    · skip
      obtain ⟨s2, sg2, va2, M1, g1, g2, g3, g4⟩ := M1
      obtain ⟨r1, r2, r3⟩ := hro
      have r1 : p + 1 + 1 ≤ p2 := r1
      have g2 : s2 + (p + 1) ≤ s + p2 := g2
      obtain ⟨k, j2, num', c', sa', wa', accA, accO, k1, k2, k3, k4, k5, k6, k7, k8, k9, k10⟩ := (mc : MCho e g b 1 (p + 1) (.ok F p2)) c c none x num [1048576 * 13] sa (upd wa 0 (nI (1048576 * 13))) (by omega) (by omega) (by omega) (by show 1 ≤ p + 1; omega) ⟨_, [], rfl, by omega, by omega⟩ hs0 rfl
      have hfk : fu - k + k = fu := by have := @fu_gt k (by omega); omega
      have k3' := k3 (fu - k)
      rw [hfk] at k3'
      have hfu := @fu_gt 1000 (by omega)
      obtain ⟨j2, rfl⟩ : ∃ k, j2 = k + 1 := ⟨j2 - 1, by omega⟩
      by_cases h41 : hN e b p2 = 41
      · have w41 := wantY tC ht he (show p2 < 100000 by omega) (show 41 < 256 by omega) h41
        have hpe2 := sgn_eq h41 (by omega)
        obtain ⟨sa1, l1, l2, l3⟩ := land1 k8 k4 (by simp only [List.length_singleton]; omega) (by omega) ⟨_, [], rfl, by omega, by omega⟩
        refine Or.inr ⟨F, p2, s2, sg2, va2, num', c', sa1, wa', by omega, by omega, wc, M1, w41, g1, by omega, g3, g4, ?_, by omega, by omega, fun i hi => (l3 i (Or.inl hi)).trans (k7 i hi), l2, r3 trivial⟩
        rw [hred]
        refine Eq.trans k3' ?_
        exact pl_done hn tM ht he he2 (o := 0) r2 h41 l1
      · have w41 := wantN tC ht he (show p2 < 100000 by omega) (show 41 < 256 by omega) h41
        obtain ⟨r, q1, q2, q3⟩ := pl_bad hn tM ht he he2 (j := j2) (m := fu - k) (o := 1) (c := c') (x := x) (num := num') (W := pA accA ++ (pO accO ++ [1048576 * 13])) (sa := sa') (wa := wa') r2 k9 k10 h41
        exact Or.inl ⟨1, p2, _, _, _, _, _, _, _, _, r, by omega, by omega, r2, wc, M1, w41, hred.trans (Eq.trans k3' q1), q2, q3⟩
  · rw [eq_false h40] at s40
    have wc := wantN tC ht he (show p < 100000 by omega) (show 40 < 256 by omega) h40
    have hf := flt_ne 1 p (by omega) (by omega) (by omega)
    obtain ⟨va', hcb⟩ := choice_bad (fo_X3_readTest 8) (e := nI e) (pl := nI p) (n := nI n) (s := nI s) (f := f) (sg := sg) (va := va) (o := nI 1) hf
    refine Or.inl ⟨1, p, _, _, _, _, _, _, _, _, (nI 0, nI p, flt 1 p, num, o0, nI c, w0, sa, wa), by omega, by omega, hp, wc, hcb, want_n hf, ?_, rfl, rfl⟩
    unfold f_X12_readsCondition
    simp only [ltz]
    simp (disch := omega) only [↓reduceIte, ↓some_bind, ↓nm_eq, ↓jn_eq, ↓wr_nI, ↓rd_nI, ↓gb0, ↓gb1, n10, n00, ↓bind_of hm0, s40, ↓bind_of (wrong_M x 1 p)]
theorem rule_ok {n e : Nat} {t : Int32} {f g : Nat → Int32} {b : Nat → Nat} (tC : CTape (nI n) f n b) (tM : MTape t g n b) (ht : txt e b) (he : e ≤ n) (he2 : e ≤ 240) {p s c r : Nat} {sg va sa wa le am co en sl sf sh st : Nat → Int32} {x num o0 w0 : Int32} (hp : p ≤ e) (hrr : r ≤ 16) (hs : s ≤ p) (hc : c ≤ p) :
    (∃ w q r1 r2, 1 ≤ w ∧ w ≤ 5 ∧ q < 1000 ∧ fo_X3_readRule (nI e) (nI p) (nI 0) (nI n) f (nI s) (nI r) sg va le am co en = some r1 ∧ r1.2.1 = flt w q ∧ f_X12_readsRule (nI p) (nI e) x num o0 (nI c) w0 (nI r) g sa wa sl sf sh st = some r2 ∧ r2.1 = nI 0 ∧ r2.2.2.1 = flt w q) ∨
    (∃ l A C p' s1 s' sg' va' c1 c' num' sa' wa', r < 16 ∧ p < p' ∧ p' ≤ e ∧ l < 256 ∧ B01 C ∧ fo_X3_readRule (nI e) (nI p) (nI 0) (nI n) f (nI s) (nI r) sg va le am co en = some (nI p', nI 0, nI s', nI (r + 1), sg', va', upd le r (nI l), upd am r (nI s), upd co r (nI s1), upd en r (nI s')) ∧ s ≤ s' ∧ s' ≤ p' ∧ (∀ i, i < s → sg' i = sg i ∧ va' i = va i) ∧ SegC sg' va' s1 s' 64 C ∧ (l ≠ 120 → SegC sg' va' s s1 64 A) ∧ f_X12_readsRule (nI p) (nI e) x num o0 (nI c) w0 (nI r) g sa wa sl sf sh st = some (nI 1, nI p', x, num', nI 0, nI c', nI 0, nI (r + 1), sa', wa', upd sl r (nI l), upd sf r (nI c), upd sh r (nI c1), upd st r (nI c')) ∧ c ≤ c' ∧ c' ≤ p' ∧ (∀ i, i < c → sa' i = sa i) ∧ SegM sa' c1 c' 64 C ∧ (l ≠ 120 → SegM sa' c c1 64 A)) := by
  have hn := tC.1
  have hc0 := sign_C tC he (show p < 100000 by omega)
  have hm0 := here_M hn tM he (show p < 100000 by omega)
  have t101 := eq_hr ht p (c := 101) (by omega)
  have t106 := eq_hr ht p (c := 106) (by omega)
  have t120 := eq_hr ht p (c := 120) (by omega)
  rcases Decidable.em (hN e b p = 101 ∨ hN e b p = 106 ∨ hN e b p = 120) with hl | hl
  · have hlt : hN e b p < 256 := by omega
    have hpe := sgn_in hlt
    have hhr : hr e b p = nI (hN e b p) := by
      rcases hN_lt ht p with ⟨_, _, h⟩ | ⟨_, h, _⟩
      · exact h
      · exact absurd hpe h
    -- which of the three it is
    have cC : ∀ {β : Type} (J : Option β) (K : Option β), (if hr e b p = nI 101 then J else if hr e b p = nI 106 then J else if hr e b p = nI 120 then J else K) = J := by
      intro β J K
      by_cases h1 : hr e b p = nI 101
      · rw [if_pos h1]
      · rw [if_neg h1]
        by_cases h2 : hr e b p = nI 106
        · rw [if_pos h2]
        · rw [if_neg h2]
          rw [if_pos (by rw [t120]; rw [t101] at h1; rw [t106] at h2; omega)]
    by_cases h16 : r = 16
    · have q1 : (nI r < nI 16) = False := by rw [lt_nI (by omega) (by omega)]; exact eq_false (by omega)
      have q2 : (nI r = nI 16) = True := by rw [h16]; exact eq_self _
      have C : ∃ r1, fo_X3_readRule (nI e) (nI p) (nI 0) (nI n) f (nI s) (nI r) sg va le am co en = some r1 ∧ r1.2.1 = flt 4 p := by
        unfold fo_X3_readRule
        simp only [ltz]
        simp only [↓bind_of hc0, ↓jn_eq, ↓cC, q1, ↓reduceIte, ↓bind_of (fail_0 4 p)]
        exact ⟨_, rfl, rfl⟩
      have M : ∃ r2, f_X12_readsRule (nI p) (nI e) x num o0 (nI c) w0 (nI r) g sa wa sl sf sh st = some r2 ∧ r2.1 = nI 0 ∧ r2.2.2.1 = flt 4 p := by
        unfold f_X12_readsRule
        simp only [ltz]
        simp only [↓bind_of hm0, ↓jn_eq, ↓cC, q2, ↓reduceIte, ↓bind_of (wrong_M x 4 p), ↓gb0]
        exact ⟨_, rfl, rfl, rfl⟩
      obtain ⟨r1, C1, C2⟩ := C
      obtain ⟨r2, M1, M2, M3⟩ := M
      exact Or.inl ⟨4, p, r1, r2, by omega, by omega, by omega, C1, C2, M1, M2, M3⟩
    · have hr16 : r < 16 := by omega
      have q1 : (nI r < nI 16) = True := by rw [lt_nI (by omega) (by omega)]; exact eq_true (by omega)
      have q2 : (nI r = nI 16) = False := by rw [eq_nI (by omega) (by omega)]; exact eq_false (by omega)
      by_cases hx : hN e b p = 120
      · rw [eq_true hx] at t120
        rcases cond_both tC tM ht he he2 (p := p + 1) (s := s) (c := c) (sg := sg) (va := va) (sa := sa) (wa := wa) (x := x) (num := num) (o0 := nI 0) (w0 := nI 0) (by omega) (by omega) (by omega) (by omega) with ⟨w, q, pl5, fl5, pl6, fl6, s6, sg6, va6, pl7, rr, a1, a2, a3, b1, b2, b3, b4, b5, b6⟩ | ⟨F, p2, s2, sg2, va2, num2, c2, sa2, wa2, a1, a2, b1, b2, b3, b4, b5, b6, b7, b8, b9, b10, b11, b12, b13⟩
        · obtain ⟨z1, z2, z3, z4⟩ := rr
          dsimp only at b5 b6
          subst b5; subst b6
          have er := er_C (s := s6) hr16 le am co en (hr e b p) (nI s) (nI s)
          have C : ∃ r1, fo_X3_readRule (nI e) (nI p) (nI 0) (nI n) f (nI s) (nI r) sg va le am co en = some r1 ∧ r1.2.1 = flt w q := by
            unfold fo_X3_readRule
            simp only [ltz]
            simp (disch := omega) only [↓bind_of hc0, ↓jn_eq, ↓cC, q1, ↓reduceIte, ↓nm_eq, add_nI, t120, ↓bind_of b1, ↓bind_of b2, ↓bind_of b3, ↓bind_of er]
            exact ⟨_, rfl, rfl⟩
          have M : ∃ r2, f_X12_readsRule (nI p) (nI e) x num o0 (nI c) w0 (nI r) g sa wa sl sf sh st = some r2 ∧ r2.1 = nI 0 ∧ r2.2.2.1 = flt w q := by
            unfold f_X12_readsRule
            simp only [ltz]
            simp (disch := omega) only [↓bind_of hm0, ↓jn_eq, ↓cC, q2, ↓reduceIte, ↓wr_nI, ↓nm_eq, add_nI, t120, ↓bind_of b4, n00]
            exact ⟨_, rfl, rfl, rfl⟩
          obtain ⟨r1, C1, C2⟩ := C
          obtain ⟨r2, M1, M2, M3⟩ := M
          exact Or.inl ⟨w, q, r1, r2, a1, a2, by omega, C1, C2, M1, M2, M3⟩
        · have er := er_C (s := s2) hr16 le am co en (hr e b p) (nI s) (nI s)
          refine Or.inr ⟨120, numF 0, F, p2 + 1, s, s2, sg2, va2, c, c2, num2, sa2, wa2, hr16, by omega, by omega, by omega, b13, ?_, b4, by omega, b6, SegC_mono b7 (by omega), fun h => absurd rfl h, ?_, b9, by omega, b11, SegM_mono b12 (by omega), fun h => absurd rfl h⟩
          · have hh : hr e b p = nI 120 := by rw [hhr, hx]
            unfold fo_X3_readRule
            simp only [ltz]
            simp (disch := omega) only [↓bind_of hc0, ↓jn_eq, ↓cC, q1, ↓reduceIte, ↓nm_eq, add_nI, t120, ↓bind_of b1, ↓bind_of b2, ↓bind_of b3, ↓bind_of er]
            rw [hh]
          · have hh : hr e b p = nI 120 := by rw [hhr, hx]
            unfold f_X12_readsRule
            simp only [ltz]
            simp (disch := omega) only [↓bind_of hm0, ↓jn_eq, ↓cC, q2, ↓reduceIte, ↓wr_nI, ↓nm_eq, add_nI, t120, ↓bind_of b8, n10]
            rw [hh]
      · rw [eq_false hx] at t120
        obtain ⟨R, D1, M1⟩ := sumAll_C tC ht he he2 8 0 (by omega) (by omega) (p + 1) s sg va (by omega) (by omega)
        have hro := DD_ok D1 (by omega)
        rcases R with ⟨w, q⟩ | ⟨A, p1⟩
        · skip
          obtain ⟨p', s', sg', va', M1, hs', hp'⟩ := M1
          obtain ⟨r1, r2, r3⟩ := hro
          have hf := flt_ne w q r1 (by omega) (by omega)
          obtain ⟨va2, hcb⟩ := choice_bad (fo_X3_readTest 8) (e := nI e) (pl := nI p') (n := nI n) (s := nI s') (f := f) (sg := sg') (va := va') (o := nI 1) hf
          have er := er_C (s := s') hr16 le am co en (hr e b p) (nI s) (nI s')
          obtain ⟨⟨z1, z2, z3, z4⟩, m1, m2, m3⟩ := sum_MN hn tM ht he he2 D1 (by omega) (by omega) (c := c) (x := x) (num := num) (W := []) (sa := sa) (wa := wa) (by omega) (by simp only [List.length_nil]; omega) TO_nil trivial
          dsimp only at m2 m3
          subst m2; subst m3
          have m1 : f_X12_readsSum (nI (p + 1)) (nI e) x num (nI 0) (nI c) (nI 0) g sa wa = _ := m1
          have C : ∃ r1, fo_X3_readRule (nI e) (nI p) (nI 0) (nI n) f (nI s) (nI r) sg va le am co en = some r1 ∧ r1.2.1 = flt w q := by
            unfold fo_X3_readRule
            simp only [ltz]
            simp (disch := omega) only [↓bind_of hc0, ↓jn_eq, ↓cC, q1, ↓reduceIte, ↓nm_eq, add_nI, t120, ↓bind_of M1, ↓bind_of (want_n hf), ↓bind_of hcb, ↓bind_of er]
            exact ⟨_, rfl, rfl⟩
          have M : ∃ r2, f_X12_readsRule (nI p) (nI e) x num o0 (nI c) w0 (nI r) g sa wa sl sf sh st = some r2 ∧ r2.1 = nI 0 ∧ r2.2.2.1 = flt w q := by
            unfold f_X12_readsRule
            simp only [ltz]
            simp (disch := omega) only [↓bind_of hm0, ↓jn_eq, ↓cC, q2, ↓reduceIte, ↓wr_nI, ↓nm_eq, add_nI, t120, ↓bind_of m1, n00]
            exact ⟨_, rfl, rfl, rfl⟩
          obtain ⟨r1', C1, C2⟩ := C
          obtain ⟨r2', M1', M2, M3⟩ := M
          exact Or.inl ⟨w, q, r1', r2', r1, r2, by omega, C1, C2, M1', M2, M3⟩
        · skip
          obtain ⟨s1, sg1, va1, M1, g1, g2, g3, g4⟩ := M1
          obtain ⟨r1, r2, r3⟩ := hro
          have r1 : p + 1 + 1 ≤ p1 := r1
          have g2 : s1 + (p + 1) ≤ s + p1 := g2
          obtain ⟨num1, c1, sa1, wa1, m1, m2, m3, m4, m5, m6⟩ := sum_MY hn tM ht he he2 D1 (by omega) (by omega) (c := c) (x := x) (num := num) (W := []) (sa := sa) (wa := wa) (by omega) (by simp only [List.length_nil]; omega) TO_nil trivial
          have m1 : f_X12_readsSum (nI (p + 1)) (nI e) x num (nI 0) (nI c) (nI 0) g sa wa = some (nI 1, nI p1, x, num1, nI 0, nI c1, nI 0, sa1, wa1) := m1
          rcases cond_both tC tM ht he he2 (p := p1) (s := s1) (c := c1) (sg := sg1) (va := va1) (sa := sa1) (wa := wa1) (x := x) (num := num1) (o0 := nI 0) (w0 := nI 0) r2 (by omega) (by omega) (by omega) with ⟨w, q, pl5, fl5, pl6, fl6, s6, sg6, va6, pl7, rr, a1, a2, a3, b1, b2, b3, b4, b5, b6⟩ | ⟨F, p2, s2, sg2, va2, num2, c2, sa2, wa2, a1, a2, b1, b2, b3, b4, b5, b6, b7, b8, b9, b10, b11, b12, b13⟩
          · obtain ⟨z1, z2, z3, z4⟩ := rr
            dsimp only at b5 b6
            subst b5; subst b6
            have er := er_C (s := s6) hr16 le am co en (hr e b p) (nI s) (nI s1)
            have C : ∃ r1, fo_X3_readRule (nI e) (nI p) (nI 0) (nI n) f (nI s) (nI r) sg va le am co en = some r1 ∧ r1.2.1 = flt w q := by
              unfold fo_X3_readRule
              simp only [ltz]
              simp (disch := omega) only [↓bind_of hc0, ↓jn_eq, ↓cC, q1, ↓reduceIte, ↓nm_eq, add_nI, t120, ↓bind_of M1, ↓bind_of b1, ↓bind_of b2, ↓bind_of b3, ↓bind_of er]
              exact ⟨_, rfl, rfl⟩
            have M : ∃ r2, f_X12_readsRule (nI p) (nI e) x num o0 (nI c) w0 (nI r) g sa wa sl sf sh st = some r2 ∧ r2.1 = nI 0 ∧ r2.2.2.1 = flt w q := by
              unfold f_X12_readsRule
              simp only [ltz]
              simp (disch := omega) only [↓bind_of hm0, ↓jn_eq, ↓cC, q2, ↓reduceIte, ↓wr_nI, ↓nm_eq, add_nI, t120, ↓bind_of m1, n10, ↓bind_of b4, n00]
              exact ⟨_, rfl, rfl, rfl⟩
            obtain ⟨r1', C1, C2⟩ := C
            obtain ⟨r2', M1', M2, M3⟩ := M
            exact Or.inl ⟨w, q, r1', r2', a1, a2, by omega, C1, C2, M1', M2, M3⟩
          · have er := er_C (s := s2) hr16 le am co en (hr e b p) (nI s) (nI s1)
            refine Or.inr ⟨hN e b p, A, F, p2 + 1, s1, s2, sg2, va2, c1, c2, num2, sa2, wa2, hr16, by omega, by omega, hlt, b13, ?_, by omega, by omega, fun i hi => ⟨(b6 i (by omega)).1.trans (g3 i hi).1, (b6 i (by omega)).2.trans (g3 i hi).2⟩, SegC_mono b7 (by omega), fun _ => SegC_mono (SegC_congr g4 (fun q _ q2 => b6 q q2)) (by unfold dF; omega), ?_, by omega, by omega, fun i hi => (b11 i (by omega)).trans (m5 i hi), SegM_mono b12 (by omega), fun _ => SegM_mono (SegM_congr m6 (fun q _ q2 => b11 q q2)) (by unfold dF; omega)⟩
            · unfold fo_X3_readRule
              simp only [ltz]
              simp (disch := omega) only [↓bind_of hc0, ↓jn_eq, ↓cC, q1, ↓reduceIte, ↓nm_eq, add_nI, t120, ↓bind_of M1, ↓bind_of b1, ↓bind_of b2, ↓bind_of b3, ↓bind_of er]
              rw [hhr]
            · unfold f_X12_readsRule
              simp only [ltz]
              simp (disch := omega) only [↓bind_of hm0, ↓jn_eq, ↓cC, q2, ↓reduceIte, ↓wr_nI, ↓nm_eq, add_nI, t120, ↓bind_of m1, n10, ↓bind_of b8]
              rw [hhr]
  · rw [eq_false (show ¬ hN e b p = 101 by omega)] at t101
    rw [eq_false (show ¬ hN e b p = 106 by omega)] at t106
    rw [eq_false (show ¬ hN e b p = 120 by omega)] at t120
    have C : ∃ r1, fo_X3_readRule (nI e) (nI p) (nI 0) (nI n) f (nI s) (nI r) sg va le am co en = some r1 ∧ r1.2.1 = flt 1 p := by
      unfold fo_X3_readRule
      simp only [ltz]
      simp only [↓bind_of hc0, ↓jn_eq, t101, t106, t120, ↓reduceIte, ↓bind_of (fail_0 1 p)]
      exact ⟨_, rfl, rfl⟩
    have M : ∃ r2, f_X12_readsRule (nI p) (nI e) x num o0 (nI c) w0 (nI r) g sa wa sl sf sh st = some r2 ∧ r2.1 = nI 0 ∧ r2.2.2.1 = flt 1 p := by
      unfold f_X12_readsRule
      simp only [ltz]
      simp only [↓bind_of hm0, ↓jn_eq, t101, t106, t120, ↓reduceIte, ↓bind_of (wrong_M x 1 p), ↓gb0]
      exact ⟨_, rfl, rfl, rfl⟩
    obtain ⟨r1, C1, C2⟩ := C
    obtain ⟨r2, M1, M2, M3⟩ := M
    exact Or.inl ⟨1, p, r1, r2, by omega, by omega, by omega, C1, C2, M1, M2, M3⟩
