def pc (n : Nat) : Nat := sumN (fun k => n / 2 ^ k % 2) 24
theorem pc_le (n : Nat) : pc n ≤ 24 := by
  have := sumN_le (f := fun k => n / 2 ^ k % 2) (b := 1) 24 (fun i _ => by show n / 2 ^ i % 2 ≤ 1; omega)
  exact this
theorem bits_M {n : Nat} (hn : n < 2147483648) : f_X12_bits (nI n) = some (nI (pc n)) := by
  unfold f_X12_bits L_X12_bits_4
  refine lp_run (fun k => (nI (sumN (fun k => n / 2 ^ k % 2) k), nI k)) 24 _ ?_ ?_ (fu_gt (by omega))
  · intro go k hk
    have e : nI n >>> (nI k &&& nI 31) &&& nI 1 = nI (n / 2 ^ k % 2) := bit_nI hn (by omega)
    simp (disch := omega) only [ltz, nm_eq, le_nI, add_nI, e]
    rw [if_neg (by omega)]
    rfl
  · intro go
    simp (disch := omega) only [ltz, le_nI]
    rw [if_pos (by omega)]
    rfl
theorem bitCount_s : ∀ n, n < 1024 → f_J6_bitCount_0f7a4 (nI n) = some (nI (pc n)) := by decide +kernel
theorem both {α : Type} {e : Option α} (h : ∃ r, e = some r) : ∃ r, e = some r ∧ e = some r := by
  obtain ⟨r, h⟩ := h
  exact ⟨r, h, h⟩
theorem ite_ex {α : Type} {c : Prop} [Decidable c] {A B : Option α} (h1 : ∃ r, A = some r) (h2 : ∃ r, B = some r) : ∃ r, (if c then A else B) = some r := by
  split
  · exact h1
  · exact h2
theorem B_doorIs {T : TS} {D : DS} {dtold dbar dtold' dbar' : Int32} {one other wards fits bent one' other' wards' prongs rust now : Nat → Int32} (hC : CDoors dtold dbar one other wards fits bent D) (hM : MDoors dtold' dbar' one' other' wards' prongs D) (hW : WDoors D) (hr : ∀ i, i < 24 → rust i = nI (ru T i)) (hT : MTown now T) (x1 x2 : Int32) : ∃ r, f_X11_doorIs dtold dbar one other wards fits rust x1 x2 = some r ∧ f_X12_doorIs dtold' dbar' now prongs one' other' wards' x1 x2 = some r := by
  obtain ⟨rfl, rfl, c3, c4, c5, c6, c7⟩ := hC
  obtain ⟨rfl, rfl, m3, m4, m5, m6⟩ := hM
  unfold f_X11_doorIs f_X12_doorIs
  rcases door_cases hW x1 with ⟨d, hd, rfl, hb, e1, e2⟩ | ⟨e1, e2⟩
  · simp (disch := omega) only [e1, e2, some_bind, ltz, n10, if_false, rd_nI, c3 d hd, c4 d hd, c5 d hd, c6 d hd hb, hr d hd, m3 d hd, m4 d hd, m5 d hd, add_nI, Nat.zero_add, hT.1 d hd, fitting_M m5 m6 hW hd]
    exact both (ite_ex ⟨_, rfl⟩ (ite_ex ⟨_, rfl⟩ (ite_ex ⟨_, rfl⟩ (ite_ex ⟨_, rfl⟩ (ite_ex ⟨_, rfl⟩ (ite_ex ⟨_, rfl⟩ ⟨_, rfl⟩))))))
  · simp only [e1, e2, some_bind, eq_self, if_true]
    exact ⟨_, rfl, rfl⟩
theorem B_prongs {D : DS} {dtold dtold' : Int32} {wards bent wards' prongs : Nat → Int32} (h0 : dtold = nI (dt D)) (h0' : dtold' = nI (dt D)) (h1 : ∀ d, d < 24 → wards d = nI (wa D d)) (h2 : ∀ k, k < 6 → bent k = nI (pr D k)) (h3 : ∀ d, d < 24 → wards' d = nI (wa D d)) (h4 : ∀ k, k < 6 → prongs k = nI (pr D k)) (hW : WDoors D) (x1 x2 : Int32) : ∃ r, f_X11_prongs dtold wards bent x1 x2 = some r ∧ f_X12_prongs dtold' prongs wards' x1 x2 = some r := by
  subst h0; subst h0'
  unfold f_X11_prongs f_X12_prongs
  simp only [ltz]
  rcases in01 x1 0 5 (by omega) (by omega) with ⟨e1, e2⟩ | ⟨k, _, hk, rfl, e1, e2⟩
  · simp only [e1, e2, some_bind, n00, if_true]
    exact ⟨_, rfl, rfl⟩
  · rcases door_cases hW x2 with ⟨d, hd, rfl, hb, e3, e4⟩ | ⟨e3, e4⟩
    · have q1 := (hW.2.2.2.1 d hd).2.2
      have q2 := hW.2.2.2.2.2 k (by omega)
      have q3 : pr D k ^^^ wa D d < 64 := Nat.xor_lt_two_pow (n := 6) (by omega) (by omega)
      have n1 : ((1 : Int32) = nI 0) = False := n10
      simp (disch := omega) only [e1, e2, e3, e4, some_bind, n10, n1, if_false, rd_nI, h1 d hd, h2 k (by omega), h3 d hd, h4 k (by omega), xor_nI, bits_M, bitCount_s]
      exact ⟨_, rfl, rfl⟩
    · have n1 : ((0 : Int32) = nI 0) = True := n00
      simp only [e1, e2, e3, e4, some_bind, n10, n1, if_false, if_true]
      exact ⟨_, rfl, rfl⟩
theorem B_nothingFits {D : DS} {dtold dtold' : Int32} {fits wards' prongs : Nat → Int32} (h0 : dtold = nI (dt D)) (h0' : dtold' = nI (dt D)) (h1 : ∀ d, d < 24 → (dt D).testBit d = true → fits d = nI (fitS D d)) (h3 : ∀ d, d < 24 → wards' d = nI (wa D d)) (h4 : ∀ k, k < 6 → prongs k = nI (pr D k)) (hW : WDoors D) : ∃ r, f_X11_nothingFits dtold fits = some r ∧ f_X12_nothingFits dtold' prongs wards' = some r := by
  subst h0; subst h0'
  have hf : ∀ d, fitS D d < 64 := fun d => bitsN_lt (fitB D d) 6
  have hfd : ∀ d, fitS D d < 2147483648 := fun d => Nat.lt_trans (hf d) (by omega)
  refine ⟨nI (bitsN (fun d => (dt D).testBit d && (fitS D d == 0)) 24), ?_, ?_⟩
  · unfold f_X11_nothingFits L_X11_nothingFits_4
    refine lp_run (fun k => (nI (bitsN (fun d => (dt D).testBit d && (fitS D d == 0)) k), nI k)) 24 _ ?_ ?_ (fu_gt (by omega))
    · intro go k hk
      have h2 := hfd k
      simp (disch := omega) only [ltz, nm_eq, (door_in hW hk).1, some_bind, le_nI, add_nI, rd_nI, b01, or_bit]
      rw [if_neg (by omega)]
      simp only [bitsN]
      rcases Bool.eq_false_or_eq_true ((dt D).testBit k) with hb | hb
      · rw [h1 k hk hb]
        simp (disch := omega) only [eq_nI, hb]
        by_cases h2 : fitS D k = 0 <;> simp [h2]
      · simp [hb]
    · intro go
      simp (disch := omega) only [ltz, le_nI]
      rw [if_pos (by omega)]
  · unfold f_X12_nothingFits L_X12_nothingFits_4
    refine lp_run (fun k => (nI (bitsN (fun d => (dt D).testBit d && (fitS D d == 0)) k), nI k)) 24 _ ?_ ?_ (fu_gt (by omega))
    · intro go k hk
      have h2 := hfd k
      simp (disch := omega) only [ltz, nm_eq, (door_in hW hk).2.1, some_bind, le_nI, add_nI, b01, or_bit, fitting_M h3 h4 hW hk, eq_nI]
      rw [if_neg (by omega)]
      simp only [bitsN]
      rcases Bool.eq_false_or_eq_true ((dt D).testBit k) with hb | hb
      · by_cases h2 : fitS D k = 0 <;> simp [h2, hb]
      · simp [hb]
    · intro go
      simp (disch := omega) only [ltz, le_nI]
      rw [if_pos (by omega)]
theorem B_count {T : TS} {D : DS} {n : Nat} {told round x dtold dbar dtold' dbar' size taped rules clauses : Int32} {rust rooms hair pins now : Nat → Int32} (hC : CTown told round x rust rooms hair pins T) (hM : MTown now T) (hW : WTown T) (h1 : dtold = dtold') (h2 : dbar = dbar') (h3 : size = taped) (h4 : rules = clauses) (x1 : Int32) : ∃ r, f_X11_count size dtold dbar told round x rooms pins rules x1 = some r ∧ f_X12_count dtold' dbar' taped clauses now x1 = some r := by
  subst h1; subst h2; subst h3; subst h4
  obtain ⟨rfl, rfl, rfl, d, e, f, g⟩ := hC
  unfold f_X11_count f_X12_count
  simp only [ltz]
  rcases in01 x1 10 25 (by omega) (by omega) with ⟨e1, e2⟩ | ⟨k, hk1, hk2, rfl, e1, e2⟩
  · rw [e1, e2, pinsAll_C g, pinsAll_M hM hW, toldWomen_M hM hW, rd_nI (by omega) (by omega), rd_nI (by omega) (by omega), hM.2.2.2.2.2.1, hM.2.2.2.2.2.2]
    simp only [some_bind, n00, if_true]
    exact both (ite_ex ⟨_, rfl⟩ (ite_ex ⟨_, rfl⟩ (ite_ex ⟨_, rfl⟩ (ite_ex ⟨_, rfl⟩ (ite_ex ⟨_, rfl⟩ (ite_ex ⟨_, rfl⟩ (ite_ex ⟨_, rfl⟩ (ite_ex ⟨_, rfl⟩ ⟨_, rfl⟩))))))))
  · rw [e1, e2]
    have q1 := inRoom_C (told := nI (tt T)) rfl e hM hW (r := k - 10) (by omega)
    have q2 := inRoom_M hM hW (r := k - 10) (by omega)
    have q3 : nI k - nI 10 = nI (k - 10) := sub_nI hk1
    simp only [some_bind, n10, if_false, q3, q1, q2]
    have ne : ∀ m, m < 10 → ¬ nI k = nI m := fun m hm => by rw [eq_nI (by omega) (by omega)]; omega
    rw [if_neg (ne 0 (by omega)), if_neg (ne 1 (by omega)), if_neg (ne 2 (by omega)), if_neg (ne 3 (by omega)), if_neg (ne 4 (by omega)), if_neg (ne 5 (by omega)), if_neg (ne 6 (by omega)), if_neg (ne 7 (by omega))]
    exact ⟨_, rfl, rfl⟩
/-- pins of a woman as hair again, in the model's row -/
def putF (g : Nat → Int32) (w k : Nat) : Nat → Int32 := fun i => if 104 + 6 * w ≤ i ∧ i < 104 + 6 * w + k then g (i - 60) else g i
theorem putsUp_M {g : Nat → Int32} {h p : Nat → Nat} (hh : ∀ j, j < 60 → g (44 + j) = nI (h j)) (hp : ∀ j, j < 60 → g (104 + j) = nI (p j)) (hle : ∀ j, j < 60 → p j ≤ h j) {w : Nat} (hw : w < 10) : f_X12_putsUp g (nI w) = some (nI (sumN (fun k => h (6 * w + k) - p (6 * w + k)) 6), putF g w 6) := by
  unfold f_X12_putsUp L_X12_putsUp_4
  have h0 : ((0 : Int32), (0 : Int32), g) = (nI (sumN (fun k => h (6 * w + k) - p (6 * w + k)) 0), nI 0, putF g w 0) := by
    have : putF g w 0 = g := by funext i; unfold putF; rw [if_neg (by omega)]
    rw [this]; rfl
  rw [h0]
  refine lp_run (fun k => (nI (sumN (fun k => h (6 * w + k) - p (6 * w + k)) k), nI k, putF g w k)) 6 _ ?_ ?_ (fu_gt (by omega))
  · intro go k hk
    have q1 : putF g w k (44 + (6 * w + k)) = nI (h (6 * w + k)) := by unfold putF; rw [if_neg (by omega)]; exact hh _ (by omega)
    have q2 : putF g w k (104 + (6 * w + k)) = nI (p (6 * w + k)) := by unfold putF; rw [if_neg (by omega)]; exact hp _ (by omega)
    have q3 := hle (6 * w + k) (by omega)
    simp (disch := omega) only [ltz, nm_eq, le_nI, mul_nI, add_nI, rd_nI, wr_nI, q1, q2, sub_nI]
    rw [if_neg (by omega)]
    have q4 : upd (putF g w k) (104 + (6 * w + k)) (nI (h (6 * w + k))) = putF g w (k + 1) := by
      funext i
      unfold upd putF
      by_cases hi : i = 104 + (6 * w + k)
      · subst hi
        rw [if_pos rfl, if_pos (by omega), show 104 + (6 * w + k) - 60 = 44 + (6 * w + k) by omega, hh _ (by omega)]
      · rw [if_neg hi]
        by_cases h2 : 104 + 6 * w ≤ i ∧ i < 104 + 6 * w + k
        · rw [if_pos h2, if_pos (by omega)]
        · rw [if_neg h2, if_neg (by omega)]
    rw [q4]
    simp only [sumN]
    rw [Nat.add_sub_assoc q3]
  · intro go
    simp (disch := omega) only [ltz, le_nI]
    rw [if_pos (by omega)]
theorem sumN_sub {f g : Nat → Nat} : ∀ n, (∀ i, i < n → g i ≤ f i) → sumN (fun i => f i - g i) n = sumN f n - sumN g n ∧ sumN g n ≤ sumN f n := by
  intro n
  induction n with
  | zero => intro _; exact ⟨rfl, Nat.le_refl _⟩
  | succ n ih =>
    intro h
    obtain ⟨h1, h2⟩ := ih (fun i hi => h i (by omega))
    have h3 := h n (by omega)
    simp only [sumN]
    rw [h1]
    omega
theorem B_night {T : TS} {told round x : Int32} {rust rooms hair pins now : Nat → Int32} (hC : CTown told round x rust rooms hair pins T) (hM : MTown now T) (hW : WTown T) : ∃ r r' T', f_X11_night hair pins = some r ∧ f_X12_night now = some r' ∧ r.1 = r'.1 ∧ CTown told round x rust rooms hair r.2 T' ∧ MTown r'.2 T' ∧ WTown T' := by
  have hle : ∀ j, j < 60 → pn T j ≤ ha T j := fun j hj => (hW.2.2.2.2.2.1 j hj).1
  obtain ⟨s1, s2⟩ := sumN_sub (f := ha T) (g := pn T) 60 hle
  have hC' : CTown told round x rust rooms hair (va_cpy hair pins 0 0 60) (tt T, rn T, xx T, ru T, ro T, ha T, ha T) := by
    obtain ⟨a, b, c, d, e, f, g⟩ := hC
    exact ⟨a, b, c, d, e, f, fun j hj => (cpyV hj).trans (f j hj)⟩
  have e1 : f_X11_night hair pins = some (nI (sumN (ha T) 60 - sumN (pn T) 60), va_cpy hair pins 0 0 60) := by
    unfold f_X11_night
    simp (disch := omega) only [ltz, cpy0, pinsAll_C hC.2.2.2.2.2.2, some_bind]
    rw [show f_X9_pinsOfAll (va_cpy hair pins 0 0 60) = some (nI (sumN (ha T) 60)) from pinsAll_C (T := (tt T, rn T, xx T, ru T, ro T, ha T, ha T)) hC'.2.2.2.2.2.2, some_bind, sub_nI s2]
  -- the model's row behind the first k women
  have key : ∀ k, k ≤ 10 → MTown (fun i => if 104 ≤ i ∧ i < 104 + 6 * k then now (i - 60) else now i) (tt T, rn T, xx T, ru T, ro T, ha T, fun j => if j < 6 * k then ha T j else pn T j) := by
    intro k hk
    obtain ⟨a, b, c, d, e, f, g⟩ := hM
    refine ⟨fun i hi => ?_, fun i hi => ?_, fun i hi => ?_, fun i hi => ?_, fun i hi => ?_, ?_, ?_⟩
    · exact (if_neg (by omega)).trans (a i hi)
    · exact (if_neg (by omega)).trans (b i hi)
    · exact (if_neg (by omega)).trans (c i hi)
    · exact (if_neg (by omega)).trans (d i hi)
    · show (if 104 ≤ 104 + i ∧ 104 + i < 104 + 6 * k then now (104 + i - 60) else now (104 + i)) = nI (if i < 6 * k then ha T i else pn T i)
      by_cases h : i < 6 * k
      · rw [if_pos (by omega), if_pos h, show 104 + i - 60 = 44 + i by omega, d i hi]
      · rw [if_neg (by omega), if_neg h, e i hi]
    · exact (if_neg (by omega)).trans f
    · exact (if_neg (by omega)).trans g
  have hWk : ∀ k, WTown (tt T, rn T, xx T, ru T, ro T, ha T, fun j => if j < 6 * k then ha T j else pn T j) := by
    intro k
    obtain ⟨a, b, c, d, e, f, g⟩ := hW
    refine ⟨a, b, c, d, e, fun j hj => ⟨?_, (f j hj).2⟩, g⟩
    show (if j < 6 * k then ha T j else pn T j) ≤ ha T j
    split
    · exact Nat.le_refl _
    · exact (f j hj).1
  have e2 : f_X12_night now = some (nI (sumN (ha T) 60 - sumN (pn T) 60), fun i => if 104 ≤ i ∧ i < 104 + 6 * 10 then now (i - 60) else now i) := by
    unfold f_X12_night L_X12_night_4
    have h0 : ((0 : Int32), (0 : Int32), now) = (nI (sumN (fun i => ha T i - pn T i) (6 * 0)), nI 0, fun i => if 104 ≤ i ∧ i < 104 + 6 * 0 then now (i - 60) else now i) := by
      have : (fun i => if 104 ≤ i ∧ i < 104 + 6 * 0 then now (i - 60) else now i) = now := by funext i; rw [if_neg (by omega)]
      rw [this]; rfl
    rw [h0, ← s1]
    refine lp_run (fun k => (nI (sumN (fun i => ha T i - pn T i) (6 * k)), nI k, fun i => if 104 ≤ i ∧ i < 104 + 6 * k then now (i - 60) else now i)) 10 _ ?_ ?_ (fu_gt (by omega))
    · intro go k hk
      have mk := key k (by omega)
      have w1 := (woman_in mk (hWk k) hk).2
      have w1 : f_X12_isWoman (fun i => if 104 ≤ i ∧ i < 104 + 6 * k then now (i - 60) else now i) (nI k) = some (nI (if (tt T).testBit k = true then 1 else 0)) := w1
      have p1 := putsUp_M (g := fun i => if 104 ≤ i ∧ i < 104 + 6 * k then now (i - 60) else now i) mk.2.2.2.1 mk.2.2.2.2.1 (fun j hj => ((hWk k).2.2.2.2.2.1 j hj).1) hk
      simp (disch := omega) only [ltz, nm_eq, le_nI, add_nI, w1, some_bind, b01, p1]
      rw [if_neg (by omega)]
      have hsum : sumN (fun i => ha T i - pn T i) (6 * (k + 1)) = sumN (fun i => ha T i - pn T i) (6 * k) + sumN (fun i => ha T (6 * k + i) - pn T (6 * k + i)) 6 := by rw [Nat.mul_succ, sumN_split]
      rcases Bool.eq_false_or_eq_true ((tt T).testBit k) with hb | hb
      · rw [if_neg (by rw [hb]; decide)]
        have q1 : putF (fun i => if 104 ≤ i ∧ i < 104 + 6 * k then now (i - 60) else now i) k 6 = fun i => if 104 ≤ i ∧ i < 104 + 6 * (k + 1) then now (i - 60) else now i := by
          funext i
          unfold putF
          dsimp only
          by_cases h : 104 + 6 * k ≤ i ∧ i < 104 + 6 * k + 6
          · rw [if_pos h, if_neg (by omega), if_pos (by omega)]
          · rw [if_neg h]
            by_cases h2 : 104 ≤ i ∧ i < 104 + 6 * k
            · rw [if_pos h2, if_pos (by omega)]
            · rw [if_neg h2, if_neg (by omega)]
        have q2 : sumN (fun k_1 => ha (tt T, rn T, xx T, ru T, ro T, ha T, fun j => if j < 6 * k then ha T j else pn T j) (6 * k + k_1) - pn (tt T, rn T, xx T, ru T, ro T, ha T, fun j => if j < 6 * k then ha T j else pn T j) (6 * k + k_1)) 6 = sumN (fun i => ha T (6 * k + i) - pn T (6 * k + i)) 6 := sumN_congr 6 (fun i hi => by
          show ha T (6 * k + i) - (if 6 * k + i < 6 * k then ha T (6 * k + i) else pn T (6 * k + i)) = _
          rw [if_neg (by omega)])
        rw [q1, q2, hsum]
      · rw [if_pos hb]
        have z1 : sumN (fun i => ha T (6 * k + i) - pn T (6 * k + i)) 6 = 0 := by
          have : sumN (fun i => ha T (6 * k + i) - pn T (6 * k + i)) 6 = sumN (fun _ => 0) 6 := sumN_congr 6 (fun i hi => by
            have := hW.2.2.2.2.2.2 k hk hb i hi
            show ha T (6 * k + i) - pn T (6 * k + i) = 0
            omega)
          rw [this]; rfl
        have q1 : (fun i => if 104 ≤ i ∧ i < 104 + 6 * k then now (i - 60) else now i) = fun i => if 104 ≤ i ∧ i < 104 + 6 * (k + 1) then now (i - 60) else now i := by
          funext i
          by_cases h : 104 + 6 * k ≤ i ∧ i < 104 + 6 * k + 6
          · rw [if_neg (by omega), if_pos (by omega)]
            have d1 := hM.2.2.2.1 (i - 104) (by omega)
            have d2 := hM.2.2.2.2.1 (i - 104) (by omega)
            have d3 := hW.2.2.2.2.2.2 k hk hb (i - 104 - 6 * k) (by omega)
            have d4 := hle (i - 104) (by omega)
            rw [show 6 * k + (i - 104 - 6 * k) = i - 104 by omega] at d3
            rw [show 44 + (i - 104) = i - 60 by omega] at d1
            rw [show 104 + (i - 104) = i by omega] at d2
            rw [d1, d2, d3, show pn T (i - 104) = 0 by omega]
          · by_cases h2 : 104 ≤ i ∧ i < 104 + 6 * k
            · rw [if_pos h2, if_pos (by omega)]
            · rw [if_neg h2, if_neg (by omega)]
        rw [hsum, z1, q1]
        simp only [Nat.add_zero]
    · intro go
      simp (disch := omega) only [ltz, le_nI]
      rw [if_pos (by omega)]
  refine ⟨_, _, (tt T, rn T, xx T, ru T, ro T, ha T, ha T), e1, e2, rfl, hC', ?_, ?_⟩
  · obtain ⟨a, b, c, d, e, f, g⟩ := key 10 (by omega)
    exact ⟨a, b, c, d, fun j hj => (e j hj).trans (by show nI (if j < 6 * 10 then ha T j else pn T j) = nI (ha T j); rw [if_pos (by omega)]), f, g⟩
  · obtain ⟨a, b, c, d, e, f, g⟩ := hW
    exact ⟨a, b, c, d, e, fun j hj => ⟨Nat.le_refl _, (f j hj).2⟩, g⟩
