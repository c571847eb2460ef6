/-! the public methods, one by one: both answer, alike, and stand alike behind it -/
theorem in01 (x : Int32) (a b : Nat) (hab : a ≤ b) (hb : b < 2147483648) : (f_X11_isWithin x (nI a) (nI b) = some (nI 0) ∧ f_X12_in x (nI a) (nI b) = some (nI 0)) ∨ (∃ j, a ≤ j ∧ j ≤ b ∧ x = nI j ∧ f_X11_isWithin x (nI a) (nI b) = some (nI 1) ∧ f_X12_in x (nI a) (nI b) = some (nI 1)) := by
  rcases in_cases x hab hb with ⟨h1, h2, _⟩ | h
  · exact Or.inl ⟨h1, h2⟩
  · exact Or.inr h
theorem n10 : (nI 1 = nI 0) = False := by simp only [eq_iff_iff, iff_false]; decide
theorem n00 : (nI 0 = nI 0) = True := eq_self _
theorem B_seed {T : TS} {told round x : Int32} {rust rooms hair pins now : Nat → Int32} (hC : CTown told round x rust rooms hair pins T) (hM : MTown now T) (hW : WTown T) (x1 : Int32) : ∃ r r' T', f_X11_seed x x1 = some r ∧ f_X12_seed now x1 = some r' ∧ r.1 = r'.1 ∧ CTown told round r.2 rust rooms hair pins T' ∧ MTown r'.2 T' ∧ WTown T' := by
  unfold f_X11_seed f_X12_seed
  simp only [ltz]
  rcases in01 x1 0 65535 (by omega) (by omega) with ⟨e1, e2⟩ | ⟨j, _, hj, rfl, e1, e2⟩
  · simp only [e1, e2, some_bind, n00, if_true]
    exact ⟨_, _, T, rfl, rfl, rfl, hC, hM, hW⟩
  · simp (disch := omega) only [e1, e2, some_bind, n10, if_false, wr_nI]
    refine ⟨_, _, (tt T, rn T, j, ru T, ro T, ha T, pn T), rfl, rfl, rfl, ?_, ?_, ?_⟩
    · obtain ⟨a, b, _, d, e, f, g⟩ := hC
      exact ⟨a, b, rfl, d, e, f, g⟩
    · show MTown (upd now 165 (nI j)) _
      obtain ⟨a, b, c, d, e, f, g⟩ := hM
      exact ⟨fun i hi => by rw [pk_un (by omega)]; exact a i hi, fun i hi => by rw [pk_un (by omega)]; exact b i hi, fun i hi => by rw [pk_un (by omega)]; exact c i hi, fun i hi => by rw [pk_un (by omega)]; exact d i hi, fun i hi => by rw [pk_un (by omega)]; exact e i hi, by rw [pk_un (by omega)]; exact f, pk_us⟩
    · obtain ⟨a, b, _, d, e, f, g⟩ := hW
      exact ⟨a, b, by show j < 65536; omega, d, e, f, g⟩
theorem B_woman {T : TS} {told round x : Int32} {rust rooms hair pins now : Nat → Int32} (hC : CTown told round x rust rooms hair pins T) (hM : MTown now T) (hW : WTown T) (x1 x2 : Int32) : ∃ r r' T', f_X11_woman told rooms x1 x2 = some r ∧ f_X12_woman now x1 x2 = some r' ∧ r.1 = r'.1 ∧ CTown r.2.1 round x rust r.2.2 hair pins T' ∧ MTown r'.2 T' ∧ WTown T' := by
  unfold f_X11_woman f_X12_woman f_X9_put
  simp only [ltz]
  rcases in01 x1 0 9 (by omega) (by omega) with ⟨e1, e2⟩ | ⟨w, _, hw, rfl, e1, e2⟩
  · simp only [e1, e2, some_bind, n00, if_true]
    exact ⟨_, _, T, rfl, rfl, rfl, hC, hM, hW⟩
  · rcases in01 x2 0 15 (by omega) (by omega) with ⟨e3, e4⟩ | ⟨q, _, hq, rfl, e3, e4⟩
    · simp only [e1, e2, e3, e4, some_bind, n10, if_false, n00, if_true]
      exact ⟨_, _, T, rfl, rfl, rfl, hC, hM, hW⟩
    · obtain ⟨a, b, c, d, e, f, g⟩ := hC
      have h1 : told ||| nI 1 <<< (nI w &&& nI 31) = nI (tt T ||| 2 ^ w) := by
        have e5 : nI 1 <<< (nI w &&& nI 31) = nI (2 ^ w) := one_shl (by omega)
        rw [a, e5, or_nI]
      simp (disch := omega) only [e1, e2, e3, e4, some_bind, n10, if_false, wr_nI, add_nI, nm_eq, h1]
      have hbit : ∀ i, (tt T ||| 2 ^ w).testBit i = ((tt T).testBit i || decide (w = i)) := fun i => by rw [Nat.testBit_or, Nat.testBit_two_pow]
      refine ⟨_, _, (tt T ||| 2 ^ w, rn T, xx T, ru T, fun i => if i = w then q else ro T i, ha T, pn T), rfl, rfl, rfl, ?_, ?_, ?_⟩
      · refine ⟨rfl, b, c, d, fun i hi => ?_, f, g⟩
        show upd rooms w (nI q) i = nI (if i = w then q else ro T i)
        unfold upd
        split
        · rfl
        · exact e i hi
      · show MTown (upd (upd now (24 + w) (nI 1)) (34 + w) (nI q)) _
        obtain ⟨a, b, c, d, e, f, g⟩ := hM
        refine ⟨fun i hi => by rw [pk_un (by omega), pk_un (by omega)]; exact a i hi, fun i hi => ?_, fun i hi => ?_, fun i hi => by rw [pk_un (by omega), pk_un (by omega)]; exact d i hi, fun i hi => by rw [pk_un (by omega), pk_un (by omega)]; exact e i hi, by rw [pk_un (by omega), pk_un (by omega)]; exact f, by rw [pk_un (by omega), pk_un (by omega)]; exact g⟩
        · rw [pk_un (by omega)]
          show upd now (24 + w) (nI 1) (24 + i) = nI (if (tt T ||| 2 ^ w).testBit i = true then 1 else 0)
          rw [hbit]
          by_cases h : i = w
          · subst h; rw [pk_us]; simp
          · rw [pk_un (by omega), b i hi]
            have : (decide (w = i)) = false := by simp; omega
            rw [this, Bool.or_false]
        · show upd (upd now (24 + w) (nI 1)) (34 + w) (nI q) (34 + i) = nI (if i = w then q else ro T i)
          by_cases h : i = w
          · subst h; rw [pk_us, if_pos rfl]
          · rw [pk_un (by omega), pk_un (by omega), if_neg h]; exact c i hi
      · obtain ⟨a, b, c, d, e, f, g⟩ := hW
        have h2 : 2 ^ w < 2 ^ 10 := Nat.pow_lt_pow_right (by omega) (by omega)
        refine ⟨?_, b, c, d, fun i hi => ?_, f, fun i hi h => ?_⟩
        · show tt T ||| 2 ^ w < 1024
          exact Nat.or_lt_two_pow (n := 10) a h2
        · show (if i = w then q else ro T i) ≤ 15
          split
          · omega
          · exact e i hi
        · have h : (tt T ||| 2 ^ w).testBit i = false := h
          rw [hbit] at h
          simp only [Bool.or_eq_false_iff] at h
          exact g i hi h.1
theorem B_kindIs {D : DS} {bent prongs : Nat → Int32} (h1 : ∀ k, k < 6 → bent k = nI (pr D k)) (h2 : ∀ k, k < 6 → prongs k = nI (pr D k)) (x1 : Int32) : ∃ r, f_X11_kindIs bent x1 = some r ∧ f_X12_kindIs prongs x1 = some r := by
  unfold f_X11_kindIs f_X12_kindIs
  simp only [ltz]
  rcases in01 x1 0 5 (by omega) (by omega) with ⟨e1, e2⟩ | ⟨k, _, hk, rfl, e1, e2⟩
  · simp only [e1, e2, some_bind, n00, if_true]
    exact ⟨_, rfl, rfl⟩
  · simp (disch := omega) only [e1, e2, some_bind, n10, if_false, rd_nI, h1 k (by omega), h2 k (by omega)]
    exact ⟨_, rfl, rfl⟩
theorem B_womanIs {T : TS} {told round x : Int32} {rust rooms hair pins now : Nat → Int32} (hC : CTown told round x rust rooms hair pins T) (hM : MTown now T) (hW : WTown T) (x1 x2 : Int32) : ∃ r, f_X11_womanIs told rooms hair pins x1 x2 = some r ∧ f_X12_womanIs now x1 x2 = some r := by
  obtain ⟨a, b, c, d, e, f, g⟩ := hC
  unfold f_X11_womanIs f_X12_womanIs f_X9_roomOf
  rw [a]
  rcases woman_cases hM hW x1 with ⟨w, hw, rfl, hb, e1, e2⟩ | ⟨e1, e2⟩
  · have p1 := pinsOf_C (told := nI (tt T)) rfl g hM hW hw hb
    have p2 := pinsOf_M hM hw
    rw [e1, e2, some_bind, some_bind, some_bind]
    simp only [ltz, n10, if_false, p1, p2, some_bind]
    by_cases h0 : x2 = nI 0
    · simp (disch := omega) only [h0, if_true, rd_nI, e w hw, add_nI, hM.2.2.1 w hw]
      exact ⟨_, rfl, rfl⟩
    · simp only [h0, if_false]
      by_cases h1 : x2 = nI 1
      · simp only [h1, if_true]
        exact ⟨_, rfl, rfl⟩
      · simp only [h1, if_false]
        rcases in01 x2 10 15 (by omega) (by omega) with ⟨e3, e4⟩ | ⟨k, hk1, hk2, rfl, e3, e4⟩
        · simp only [e3, e4, some_bind, n00, if_true]
          rcases in01 x2 20 25 (by omega) (by omega) with ⟨e5, e6⟩ | ⟨k, hk1, hk2, rfl, e5, e6⟩
          · simp only [e5, e6, some_bind, n00, if_true]
            exact ⟨_, rfl, rfl⟩
          · simp (disch := omega) only [e5, e6, some_bind, n10, if_false, mul_nI, add_nI, sub_nI, rd_nI]
            rw [f _ (by omega), show 44 + 6 * w + k - 20 = 44 + (w * 6 + k - 20) by omega, hM.2.2.2.1 _ (by omega)]
            exact ⟨_, rfl, rfl⟩
        · simp (disch := omega) only [e3, e4, some_bind, n10, if_false, mul_nI, add_nI, sub_nI, rd_nI, pok_C g hW hw (show k - 10 < 6 by omega)]
          rw [show 104 + 6 * w + k - 10 = 104 + (6 * w + (k - 10)) by omega, hM.2.2.2.2.1 _ (by omega)]
          exact ⟨_, rfl, rfl⟩
  · simp only [e1, e2, some_bind, eq_self, if_true]
    exact ⟨_, rfl, rfl⟩
theorem cpy0 {β : Type} {f g : Nat → Int32} {n0 n1 n : Nat} {k : (Nat → Int32) → Option β} (h0 : n ≤ n0) (h1 : n ≤ n1) (hn : n < 2147483648) : cpy f n0 g n1 (nI 0) (nI 0) (nI n) k = k (va_cpy f g 0 0 n) := by
  unfold cpy
  rw [nI_clamp (n := 0) (by omega), nI_clamp (n := n) (by omega), if_pos]
  exact ⟨⟨nI_pos (by omega), nI_pos (by omega), nI_pos hn⟩, by omega, by omega⟩
theorem cpyV {f g : Nat → Int32} {n i : Nat} (h : i < n) : va_cpy f g 0 0 n i = f i := by rw [pk_cpy_in (by omega) (by omega)]; simp
/-- one town copied over another -/
theorem copy_C {T : TS} {told round x told2 round2 x2 : Int32} {rust rooms hair pins rust2 rooms2 hair2 pins2 : Nat → Int32} (hC : CTown told round x rust rooms hair pins T) : ∃ r, f_X9_copy told2 round2 x2 rust2 rooms2 hair2 pins2 told round x rust rooms hair pins = some r ∧ CTown r.1 r.2.1 r.2.2.1 r.2.2.2.1 r.2.2.2.2.1 r.2.2.2.2.2.1 r.2.2.2.2.2.2 T := by
  unfold f_X9_copy
  simp (disch := omega) only [ltz, cpy0]
  obtain ⟨a, b, c, d, e, f, g⟩ := hC
  exact ⟨_, rfl, a, b, c, fun i hi => (cpyV hi).trans (d i hi), fun i hi => (cpyV hi).trans (e i hi), fun i hi => (cpyV hi).trans (f i hi), fun i hi => (cpyV hi).trans (g i hi)⟩
theorem copies_M (f g : Nat → Int32) : f_X12_copies 166 166 f g = some (fun i => if i < 166 then f i else g i) := by
  unfold f_X12_copies L_X12_copies_2
  refine lp_run (fun k => (nI k, fun i => if i < k then f i else g i)) 166 _ ?_ ?_ (fu_gt (by omega))
  · intro go k hk
    simp (disch := omega) only [ltz, nm_eq, le_nI, add_nI, rd_nI, wr_nI]
    rw [if_neg (by omega)]
    congr 2
    funext i
    unfold upd
    by_cases h : i = k
    · subst h; simp
    · rw [if_neg h]
      show (if i < k then f i else g i) = _
      by_cases h2 : i < k
      · rw [if_pos h2, if_pos (by omega)]
      · rw [if_neg h2, if_neg (by omega)]
  · intro go
    simp (disch := omega) only [ltz, le_nI]
    rw [if_pos (by omega)]
theorem MTown_congr {f g : Nat → Int32} {T : TS} (h : ∀ i, i < 166 → g i = f i) (hM : MTown f T) : MTown g T := by
  obtain ⟨a, b, c, d, e, f1, g1⟩ := hM
  exact ⟨fun i hi => by rw [h _ (by omega)]; exact a i hi, fun i hi => by rw [h _ (by omega)]; exact b i hi, fun i hi => by rw [h _ (by omega)]; exact c i hi, fun i hi => by rw [h _ (by omega)]; exact d i hi, fun i hi => by rw [h _ (by omega)]; exact e i hi, by rw [h _ (by omega)]; exact f1, by rw [h _ (by omega)]; exact g1⟩
theorem B_keep {T : TS} {k0 k0' told round x told2 round2 x2 : Int32} {rust rooms hair pins rust2 rooms2 hair2 pins2 now kept : Nat → Int32} (hC : CTown told round x rust rooms hair pins T) (hM : MTown now T) : ∃ r r', f_X11_keep k0 told round x rust rooms hair pins told2 round2 x2 rust2 rooms2 hair2 pins2 = some r ∧ f_X12_keep k0' now kept = some r' ∧ r.1 = r'.1 ∧ r.2.1 = 1 ∧ r'.2.1 = 1 ∧ CTown r.2.2.1 r.2.2.2.1 r.2.2.2.2.1 r.2.2.2.2.2.1 r.2.2.2.2.2.2.1 r.2.2.2.2.2.2.2.1 r.2.2.2.2.2.2.2.2 T ∧ MTown r'.2.2 T := by
  obtain ⟨u, e1, h1⟩ := copy_C (told2 := told2) (round2 := round2) (x2 := x2) (rust2 := rust2) (rooms2 := rooms2) (hair2 := hair2) (pins2 := pins2) hC
  unfold f_X11_keep f_X12_keep
  rw [e1, copies_M, some_bind, some_bind]
  simp (disch := omega) only [ltz, rd_nI, hM.2.2.2.2.2.1]
  exact ⟨_, _, rfl, rfl, hC.2.1, rfl, rfl, h1, MTown_congr (fun i hi => if_pos hi) hM⟩
theorem B_undo {T T2 : TS} {kp told round x told2 round2 x2 : Int32} {rust rooms hair pins rust2 rooms2 hair2 pins2 now kept : Nat → Int32} (hC : CTown told round x rust rooms hair pins T) (hM : MTown now T) (hW : WTown T) (hK : kp = 0 ∨ (CTown told2 round2 x2 rust2 rooms2 hair2 pins2 T2 ∧ MTown kept T2 ∧ WTown T2)) : ∃ r r' T', f_X11_undo kp told round x rust rooms hair pins told2 round2 x2 rust2 rooms2 hair2 pins2 = some r ∧ f_X12_undo kp now kept = some r' ∧ r.1 = r'.1 ∧ CTown r.2.1 r.2.2.1 r.2.2.2.1 r.2.2.2.2.1 r.2.2.2.2.2.1 r.2.2.2.2.2.2.1 r.2.2.2.2.2.2.2 T' ∧ MTown r'.2 T' ∧ WTown T' := by
  unfold f_X11_undo f_X12_undo
  by_cases h0 : kp = 0
  · rw [if_pos h0, if_pos h0]
    exact ⟨_, _, T, rfl, rfl, rfl, hC, hM, hW⟩
  · rw [if_neg h0, if_neg h0]
    rcases hK with h | ⟨h1, h2, h3⟩
    · exact absurd h h0
    · obtain ⟨u, e1, h4⟩ := copy_C (told2 := told) (round2 := round) (x2 := x) (rust2 := rust) (rooms2 := rooms) (hair2 := hair) (pins2 := pins) h1
      rw [e1, copies_M, some_bind, some_bind]
      exact ⟨_, _, T2, rfl, rfl, rfl, h4, MTown_congr (fun i hi => if_pos hi) h2, h3⟩
