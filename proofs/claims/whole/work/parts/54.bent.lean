/-! BENT -/
def allN (P : Nat → Bool) : Nat → Bool
  | 0 => true
  | n + 1 => allN P n && P n
theorem allN_fst (P : Nat → Bool) : ∀ n, allN P n = (fstN P n).isNone := by
  intro n
  induction n with
  | zero => rfl
  | succ n ih =>
    simp only [allN, fstN]
    rw [ih]
    cases fstN P n with
    | none => cases P n <;> rfl
    | some k => rfl
def dB (b : Nat → Nat) (i : Nat) : Nat := b (2 * i)
def kB (b : Nat → Nat) (i : Nat) : Nat := b (2 * i + 1)
def okB (D : DS) (b : Nat → Nat) (i : Nat) : Bool := (decide (dB b i < 24) && (dt D).testBit (dB b i)) && decide (kB b i < 6)
def ftB (D : DS) (b : Nat → Nat) (i : Nat) : Bool := fitB D (dB b i) (kB b i)
def need (b : Nat → Nat) (n k : Nat) : Nat := cw (kB b) n k
theorem isT_byte {D : DS} (hW : WDoors D) {x : Nat} (hx : x < 256) : f_X0_isTold (nI (dt D)) (nI x) = some (nI (if (decide (x < 24) && (dt D).testBit x) = true then 1 else 0)) ∧ f_X12_isDoor (nI (dt D)) (nI x) = some (nI (if (decide (x < 24) && (dt D).testBit x) = true then 1 else 0)) := by
  by_cases h : x < 24
  · obtain ⟨a, b, _⟩ := door_in hW h
    rw [decide_eq_true h, Bool.true_and]
    exact ⟨a, b⟩
  · rcases door_cases hW (nI x) with ⟨d, hd, e, _⟩ | ⟨a, b⟩
    · rw [eq_nI (by omega) (by omega)] at e; omega
    · rw [decide_eq_false h, Bool.false_and]
      exact ⟨a, b⟩
theorem okB_cases {D : DS} {b : Nat → Nat} {i : Nat} (h : okB D b i = true) : dB b i < 24 ∧ (dt D).testBit (dB b i) = true ∧ kB b i < 6 := by
  unfold okB at h
  simp only [Bool.and_eq_true, decide_eq_true_eq] at h
  exact ⟨h.1.1, h.1.2, h.2⟩
theorem areDoors_C {D : DS} {n m : Nat} {f : Nat → Int32} {b : Nat → Nat} (tC : CTape (nI n) f n b) (hW : WDoors D) (hm : 2 * m ≤ n) : f_X11_areDoorsWithKinds (nI n) f (nI (dt D)) (nI m) = some (nI (if allN (okB D b) m = true then 1 else 0)) := by
  have t1 := tC.1
  have e0 : some (nI (if allN (okB D b) m = true then 1 else 0)) = match fstN (okB D b) m with
      | none => some (nI 1)
      | some _ => some (nI 0) := by rw [allN_fst]; cases fstN (okB D b) m <;> rfl
  rw [e0]
  unfold f_X11_areDoorsWithKinds L_X11_areDoorsWithKinds_2
  have step : ∀ (go : Int32 → Option Int32) (i : Nat), i < m → (if nI m ≤ nI i then some (nI 1) else (f_X8_at (nI n) f (nI 2 * nI i)).bind fun u1 => (f_X0_isTold (nI (dt D)) u1).bind fun u2 => if u2 = nI 0 then some (nI 0) else (f_X8_at (nI n) f (nI 2 * nI i + nI 1)).bind fun u3 => if u3 < nI 6 then nm (nI i + nI 1) fun v4 => go v4 else some (nI 0)) = if okB D b i = true then go (nI (i + 1)) else some (nI 0) := by
    intro go i hi
    have b1 := (tC.2.2 (2 * i) (by omega)).2
    have b2 := (tC.2.2 (2 * i + 1) (by omega)).2
    simp (disch := omega) only [le_nI, mul_nI, add_nI, at_C tC (show 2 * i < n by omega), at_C tC (show 2 * i + 1 < n by omega), some_bind, (isT_byte hW b1).1, b01, lt_nI, nm_eq]
    rw [if_neg (by omega)]
    unfold okB dB kB
    rcases Bool.eq_false_or_eq_true (decide (b (2 * i) < 24) && (dt D).testBit (b (2 * i))) with h | h
    · by_cases h2 : b (2 * i + 1) < 6 <;> simp [h, h2]
    · simp [h]
  refine lp_find (fun i => nI i) m _ (fun _ => some (nI 0)) _ ?_ ?_ ?_ (fu_gt (by omega))
  · intro go i hi hP
    simp only [ltz]
    rw [step go i hi, if_pos hP]
  · intro go i hi hP
    simp only [ltz]
    rw [step go i hi, if_neg (by rw [hP]; decide)]
  · intro go
    simp (disch := omega) only [ltz, le_nI]
    rw [if_pos (by omega)]
theorem bentOf_C {n m k : Nat} {f : Nat → Int32} {b : Nat → Nat} (tC : CTape (nI n) f n b) (hm : 2 * m ≤ n) (hk : k < 256) : f_X11_bentOf (nI n) f (nI m) (nI k) = some (nI (need b m k)) := by
  have t1 := tC.1
  unfold f_X11_bentOf L_X11_bentOf_5
  refine lp_run (fun i => (nI (need b i k), nI i)) m _ ?_ ?_ (fu_gt (by omega))
  · intro go i hi
    have b2 := (tC.2.2 (2 * i + 1) (by omega)).2
    simp (disch := omega) only [ltz, le_nI, mul_nI, add_nI, at_C tC (show 2 * i + 1 < n by omega), some_bind, eq_nI, nm_eq]
    rw [if_neg (by omega)]
    show _ = go (nI (need b i k + (if kB b i = k then 1 else 0)), nI (i + 1))
    unfold kB
    by_cases h : b (2 * i + 1) = k <;> simp [h]
  · intro go
    simp (disch := omega) only [ltz, le_nI]
    rw [if_pos (by omega)]
theorem whoPut_C {T : TS} {hair now : Nat → Int32} (hf : ∀ j, j < 60 → hair j = nI (ha T j)) (hM : MTown now T) (hW : WTown T) {k m : Nat} (hk : k < 6) (hm : m < 65536) : f_X9_whoPutUp (nI (tt T)) hair (nI k) (nI m) = some (nI (bitsN (fun w => (tt T).testBit w && decide (m ≤ ha T (6 * w + k))) 10)) := by
  unfold f_X9_whoPutUp L_X9_whoPutUp_5
  have hin : f_X11_isWithin (nI k) (nI 0) (nI 5) = some (nI 1) := by
    rcases in_cases (nI k) (a := 0) (b := 5) (by omega) (by omega) with ⟨_, _, h | h⟩ | ⟨j, _, _, _, e, _⟩
    · rw [lt_nI (by omega) (by omega)] at h; omega
    · rw [lt_nI (by omega) (by omega)] at h; omega
    · exact e
  refine lp_run (fun w => (nI (bitsN (fun w => (tt T).testBit w && decide (m ≤ ha T (6 * w + k))) w), nI w)) 10 _ ?_ ?_ (fu_gt (by omega))
  · intro go w hw
    have hh := (hW.2.2.2.2.2.1 (6 * w + k) (by omega)).2
    have e1 : hair (w * 6 + k) = nI (ha T (6 * w + k)) := by rw [Nat.mul_comm w 6]; exact hf _ (by omega)
    simp (disch := omega) only [ltz, le_nI, (woman_in hM hW hw).1, some_bind, b01, hin, n10, if_false, mul_nI, add_nI, rd_nI, e1, lt_nI, nm_eq, or_bit]
    rw [if_neg (by omega)]
    simp only [bitsN]
    rcases Bool.eq_false_or_eq_true ((tt T).testBit w) with hb | hb
    · by_cases h : ha T (6 * w + k) < m
      · have : ¬ m ≤ ha T (6 * w + k) := by omega
        simp [hb, h, this]
      · have : m ≤ ha T (6 * w + k) := by omega
        simp [hb, h, this]
    · simp [hb]
  · intro go
    simp (disch := omega) only [ltz, le_nI]
    rw [if_pos (by omega)]
/-- a woman could have done it -/
def cdB (T : TS) (b : Nat → Nat) (n w k : Nat) : Bool := decide (need b n k ≤ ha T (6 * w + k))
def ansB (T : TS) (D : DS) (b : Nat → Nat) (n : Nat) : Nat := bitsN (fun w => allN (ftB D b) n && ((tt T).testBit w && allN (cdB T b n w) 6)) 10
theorem fitS_tb {D : DS} {d k : Nat} (hk : k < 6) : (fitS D d).testBit k = fitB D d k := by
  unfold fitS
  rw [bitsN_test, decide_eq_true hk, Bool.true_and]
theorem bitsN_false (n : Nat) : bitsN (fun _ => false) n = 0 := by
  induction n with
  | zero => rfl
  | succ n ih => simp only [bitsN]; rw [ih]; rfl
theorem need_le (b : Nat → Nat) (n k : Nat) : need b n k ≤ n := cw_le (kB b) n k
theorem whoBent_C {T : TS} {D : DS} {n m : Nat} {f hair fits now : Nat → Int32} {b : Nat → Nat} (tC : CTape (nI n) f n b) (hf : ∀ j, j < 60 → hair j = nI (ha T j)) (hM : MTown now T) (hWT : WTown T) (c6 : ∀ d, d < 24 → (dt D).testBit d = true → fits d = nI (fitS D d)) (hW : WDoors D) (hm : 2 * m ≤ n) (hok : allN (okB D b) m = true) : f_X11_whoBent (nI n) f (nI (dt D)) fits (nI (tt T)) hair (nI m) = some (nI (ansB T D b m)) := by
  have t1 := tC.1
  rw [allN_fst] at hok
  have hall : ∀ i, i < m → okB D b i = true := fstN_none (by simpa using hok)
  have e1 : L_X11_whoBent_81 (nI n) f (nI (dt D)) fits (nI (tt T)) hair (nI m) fu (nI (tt T), nI 0) = some (nI (bitsN (fun w => (tt T).testBit w && allN (cdB T b m w) 6) 10)) := by
    unfold L_X11_whoBent_81
    have h0 : (nI (tt T), nI 0) = (nI (bitsN (fun w => (tt T).testBit w && allN (cdB T b m w) 0) 10), nI 0) := by
      have : bitsN (fun w => (tt T).testBit w && allN (cdB T b m w) 0) 10 = bitsN (fun i => (tt T).testBit i) 10 := bitsN_congr 10 (fun i _ => by simp [allN])
      rw [this, bitsN_self 10 hWT.1]
    rw [h0]
    refine lp_run (fun k => (nI (bitsN (fun w => (tt T).testBit w && allN (cdB T b m w) k) 10), nI k)) 6 _ ?_ ?_ (fu_gt (by omega))
    · intro go k hk
      have hn := need_le b m k
      simp (disch := omega) only [ltz, le_nI, bentOf_C tC hm, whoPut_C hf hM hWT hk, some_bind, nm_eq, and_nI, add_nI]
      rw [if_neg (by omega), bitsN_and]
      congr 3
      apply bitsN_congr
      intro w _
      simp only [allN, cdB]
      cases (tt T).testBit w <;> simp
    · intro go
      simp (disch := omega) only [ltz, le_nI]
      rw [if_pos (by omega)]
  have efin : some (nI (ansB T D b m)) = match fstN (ftB D b) m with
      | none => some (nI (bitsN (fun w => (tt T).testBit w && allN (cdB T b m w) 6) 10))
      | some _ => some (nI 0) := by
    unfold ansB
    rw [allN_fst]
    cases fstN (ftB D b) m with
    | none => simp
    | some k => simp [bitsN_false]
  rw [efin]
  unfold f_X11_whoBent L_X11_whoBent_10
  have step : ∀ (go : Int32 → Option Int32) (i : Nat), i < m → (if nI m ≤ nI i then L_X11_whoBent_81 (nI n) f (nI (dt D)) fits (nI (tt T)) hair (nI m) fu (nI (tt T), nI 0) else (f_X8_at (nI n) f (nI 2 * nI i)).bind fun u1 => (f_X8_at (nI n) f (nI 2 * nI i + nI 1)).bind fun u2 => (f_X0_isTold (nI (dt D)) u1).bind fun u3 => if u3 = nI 0 then some (nI 0) else rd fits 24 u1 fun v4 => if v4 >>> (u2 &&& nI 31) &&& nI 1 = nI 0 then some (nI 0) else nm (nI i + nI 1) fun v5 => go v5) = if ftB D b i = true then go (nI (i + 1)) else some (nI 0) := by
    intro go i hi
    obtain ⟨q1, q2, q3⟩ := okB_cases (hall i hi)
    have a1 := at_C tC (show 2 * i < n by omega)
    have a2 := at_C tC (show 2 * i + 1 < n by omega)
    have q4 := (door1 hW q1 q2).1
    have q5 := c6 _ q1 q2
    have hfl := fitS_lt D (b (2 * i))
    have e3 : nI (fitS D (b (2 * i))) >>> (nI (b (2 * i + 1)) &&& nI 31) &&& nI 1 = nI (if ftB D b i = true then 1 else 0) := by
      have h0 : nI (fitS D (b (2 * i))) >>> (nI (b (2 * i + 1)) &&& nI 31) &&& nI 1 = nI (fitS D (b (2 * i)) / 2 ^ b (2 * i + 1) % 2) := bit_nI (by omega) (by unfold kB at q3; omega)
      have q6 : (fitS D (b (2 * i))).testBit (b (2 * i + 1)) = ftB D b i := fitS_tb q3
      rw [h0, tb_iff, q6]
    unfold dB at q1 q2 q4 q5
    simp (disch := omega) only [le_nI, mul_nI, add_nI, a1, a2, some_bind, q4, n10, if_false, rd_nI, q5, e3, b01, nm_eq]
    rw [if_neg (by omega)]
    rcases Bool.eq_false_or_eq_true (ftB D b i) with h | h <;> simp [h]
  refine lp_find (fun i => nI i) m _ (fun _ => some (nI 0)) _ ?_ ?_ ?_ (fu_gt (by omega))
  · intro go i hi hP
    simp only [ltz]
    rw [step go i hi, if_pos hP]
  · intro go i hi hP
    simp only [ltz]
    rw [step go i hi, if_neg (by rw [hP]; decide)]
  · intro go
    simp (disch := omega) only [ltz, le_nI]
    rw [if_pos (by omega), e1]
theorem bent_M {T : TS} {D : DS} {n m : Nat} {t : Int32} {g now wards prongs nd : Nat → Int32} {b : Nat → Nat} (hn1 : n ≤ 260) (hby : ∀ i, i < n → b i < 256) (tM : MTape t g n b) (hM : MTown now T) (hWT : WTown T) (h3 : ∀ d, d < 24 → wards d = nI (wa D d)) (h4 : ∀ k, k < 6 → prongs k = nI (pr D k)) (hW : WDoors D) (hm : 2 * m ≤ n) (hm2 : m ≤ 12) : ∃ nd', (L_X12_bent_31 (nI (dt D)) (nI 0) now prongs wards g (nI m) (nI 1) (fun s4 => L_X12_bent_52 (nI (dt D)) (nI 0) now prongs wards g s4 (nI m) (nI 1) (fun s9 => L_X12_bent_96 (nI (dt D)) (nI 0) now prongs wards g (nI m) (fun s18 => L_X12_bent_165 (nI (dt D)) (nI 0) now prongs wards g s18.2 s18.1 fu ((nI 0), (nI 0))) fu ((nI 1), (nI 0), s4)) fu (nI 0)) fu ((nI 0), nd)) = some (if allN (okB D b) m = true then nI (ansB T D b m) else -nI 2, nI 0, nd') := by
  have e31 : ∀ k0 : (Nat → Int32) → Option (Int32 × Int32 × (Nat → Int32)), L_X12_bent_31 (nI (dt D)) (nI 0) now prongs wards g (nI m) (nI 1) k0 fu (nI 0, nd) = k0 (fun i => if i < 6 then nI 0 else nd i) := by
    intro k0
    unfold L_X12_bent_31
    have h0 : (nI 0, nd) = (nI 0, fun i => if i < 0 then nI 0 else nd i) := by
      have : (fun i => if i < 0 then nI 0 else nd i) = nd := by funext i; rw [if_neg (by omega)]
      rw [this]
    rw [h0]
    refine lp_run (fun k => (nI k, fun i => if i < k then nI 0 else nd i)) 6 _ ?_ ?_ (fu_gt (by omega))
    · intro go k hk
      simp (disch := omega) only [ltz, le_nI, wr_nI, nm_eq, add_nI]
      rw [if_neg (by omega)]
      congr 2
      funext i
      unfold upd
      by_cases h : i = k
      · subst h; simp
      · rw [if_neg h]
        show (if i < k then nI 0 else nd i) = _
        by_cases h2 : i < k
        · rw [if_pos h2, if_pos (by omega)]
        · rw [if_neg h2, if_neg (by omega)]
    · intro go
      simp (disch := omega) only [ltz, le_nI]
      rw [if_pos (by omega)]
  have e52 : ∀ (s4 : Nat → Int32) (k0 : Unit → Option (Int32 × Int32 × (Nat → Int32))), L_X12_bent_52 (nI (dt D)) (nI 0) now prongs wards g s4 (nI m) (nI 1) k0 fu (nI 0) = if allN (okB D b) m = true then k0 () else some (-nI 2, nI 0, s4) := by
    intro s4 k0
    have e0 : (if allN (okB D b) m = true then k0 () else some (-nI 2, nI 0, s4)) = match fstN (okB D b) m with
        | none => k0 ()
        | some _ => some (-nI 2, nI 0, s4) := by rw [allN_fst]; cases fstN (okB D b) m <;> rfl
    rw [e0]
    unfold L_X12_bent_52
    have step : ∀ (go : Int32 → Option (Int32 × Int32 × (Nat → Int32))) (i : Nat), i < m → (if nI m ≤ nI i then k0 () else (f_X12_octet g (nI 2 * nI i)).bind fun u5 => (f_X12_isDoor (nI (dt D)) u5).bind fun u6 => if u6 = nI 0 then some (-nI 2, nI 0, s4) else (f_X12_octet g (nI 2 * nI i + nI 1)).bind fun u7 => if u7 < nI 6 then nm (nI i + nI 1) fun v8 => go v8 else some (-nI 2, nI 0, s4)) = if okB D b i = true then go (nI (i + 1)) else some (-nI 2, nI 0, s4) := by
      intro go i hi
      have b1 := hby (2 * i) (by omega)
      have b2 := hby (2 * i + 1) (by omega)
      simp (disch := omega) only [le_nI, mul_nI, add_nI, at_M hn1 tM (show 2 * i < n by omega), at_M hn1 tM (show 2 * i + 1 < n by omega), some_bind, (isT_byte hW b1).2, b01, lt_nI, nm_eq]
      rw [if_neg (by omega)]
      unfold okB dB kB
      rcases Bool.eq_false_or_eq_true (decide (b (2 * i) < 24) && (dt D).testBit (b (2 * i))) with h | h
      · by_cases h2 : b (2 * i + 1) < 6 <;> simp [h, h2]
      · simp [h]
    refine lp_find (fun i => nI i) m _ (fun _ => some (-nI 2, nI 0, s4)) _ ?_ ?_ ?_ (fu_gt (by omega))
    · intro go i hi hP
      simp only [ltz]
      rw [step go i hi, if_pos hP]
    · intro go i hi hP
      simp only [ltz]
      rw [step go i hi, if_neg (by rw [hP]; decide)]
    · intro go
      simp (disch := omega) only [ltz, le_nI]
      rw [if_pos (by omega)]
  rw [e31, e52]
  by_cases hok : allN (okB D b) m = true
  · rw [if_pos hok, if_pos hok]
    have hok' := hok
    rw [allN_fst] at hok'
    have hall : ∀ i, i < m → okB D b i = true := fstN_none (by simpa using hok')
    have e96 : ∀ k0 : Int32 × (Nat → Int32) → Option (Int32 × Int32 × (Nat → Int32)), L_X12_bent_96 (nI (dt D)) (nI 0) now prongs wards g (nI m) k0 fu (nI 1, nI 0, fun i => if i < 6 then nI 0 else nd i) = k0 (nI (if allN (ftB D b) m = true then 1 else 0), fun i => if i < 6 then nI (need b m i) else nd i) := by
      intro k0
      unfold L_X12_bent_96
      have h0 : (nI 1, nI 0, fun i => if i < 6 then nI 0 else nd i) = (nI (if allN (ftB D b) 0 = true then 1 else 0), nI 0, fun i => if i < 6 then nI (need b 0 i) else nd i) := rfl
      rw [h0]
      refine lp_run (fun j => (nI (if allN (ftB D b) j = true then 1 else 0), nI j, fun i => if i < 6 then nI (need b j i) else nd i)) m _ ?_ ?_ (fu_gt (by omega))
      · intro go j hj
        obtain ⟨q1, q2, q3⟩ := okB_cases (hall j hj)
        have q3' : b (2 * j + 1) < 6 := q3
        have q1' : b (2 * j) < 24 := q1
        have hfm := fits_M h3 h4 hW q3' q1'
        have e4 : upd (fun i => if i < 6 then nI (need b j i) else nd i) (b (2 * j + 1)) (nI (need b j (b (2 * j + 1)) + 1)) = fun i => if i < 6 then nI (need b (j + 1) i) else nd i := by
          funext i
          unfold upd
          have hs : need b (j + 1) i = need b j i + (if b (2 * j + 1) = i then 1 else 0) := rfl
          by_cases h : i = b (2 * j + 1)
          · subst h
            rw [if_pos rfl, if_pos q3', hs, if_pos rfl]
          · rw [if_neg h]
            show (if i < 6 then nI (need b j i) else nd i) = _
            have e9 : (if b (2 * j + 1) = i then 1 else 0) = 0 := if_neg (fun e => h e.symm)
            rw [hs, e9, Nat.add_zero]
        simp (disch := omega) only [ltz, le_nI, mul_nI, add_nI, at_M hn1 tM (show 2 * j + 1 < n by omega), at_M hn1 tM (show 2 * j < n by omega), some_bind, rd_nI, wr_nI, if_pos q3', hfm, b01, nm_eq]
        rw [if_neg (by omega), e4]
        simp only [allN, ftB, dB, kB]
        rcases Bool.eq_false_or_eq_true (allN (ftB D b) j) with h | h
        · rcases Bool.eq_false_or_eq_true (fitB D (b (2 * j)) (b (2 * j + 1))) with h2 | h2 <;> simp [h, h2]
        · simp [h]
      · intro go
        simp (disch := omega) only [ltz, le_nI]
        rw [if_pos (by omega)]
    rw [e96]
    have e195 : ∀ (fl c : Bool) (w : Nat) (x3 : Int32) (k0 : Int32 → Option (Int32 × Int32 × (Nat → Int32))), w < 10 → L_X12_bent_195 (nI (dt D)) (nI 0) now prongs wards g (fun i => if i < 6 then nI (need b m i) else nd i) (nI (if fl = true then 1 else 0)) x3 (nI w) k0 fu (nI (if c = true then 1 else 0), nI 0) = k0 (nI (if (c && allN (cdB T b m w) 6) = true then 1 else 0)) := by
      intro fl c w x3 k0 hw
      unfold L_X12_bent_195
      have h0 : (nI (if c = true then 1 else 0), nI 0) = (nI (if (c && allN (cdB T b m w) 0) = true then 1 else 0), nI 0) := by simp [allN]
      rw [h0]
      refine lp_run (fun k => (nI (if (c && allN (cdB T b m w) k) = true then 1 else 0), nI k)) 6 _ ?_ ?_ (fu_gt (by omega))
      · intro go k hk
        have hh := (hWT.2.2.2.2.2.1 (6 * w + k) (by omega)).2
        have hn := need_le b m k
        have e1 : now (44 + 6 * w + k) = nI (ha T (6 * w + k)) := by rw [Nat.add_assoc]; exact hM.2.2.2.1 _ (by omega)
        simp (disch := omega) only [ltz, le_nI, b01, mul_nI, add_nI, rd_nI, e1, if_pos hk, lt_nI, nm_eq]
        rw [if_neg (by omega)]
        have ha1 : allN (cdB T b m w) (k + 1) = (allN (cdB T b m w) k && cdB T b m w k) := rfl
        rw [ha1, ← Bool.and_assoc]
        rcases Bool.eq_false_or_eq_true (c && allN (cdB T b m w) k) with h | h
        · by_cases h2 : ha T (6 * w + k) < need b m k
          · have hcd : cdB T b m w k = false := by unfold cdB; simp; omega
            simp [h, h2, hcd]
          · have hcd : cdB T b m w k = true := by unfold cdB; simp; omega
            simp [h, h2, hcd]
        · simp [h]
      · intro go
        simp (disch := omega) only [ltz, le_nI]
        rw [if_pos (by omega)]
    have e165 : ∀ fl : Bool, L_X12_bent_165 (nI (dt D)) (nI 0) now prongs wards g (fun i => if i < 6 then nI (need b m i) else nd i) (nI (if fl = true then 1 else 0)) fu (nI 0, nI 0) = some (nI (bitsN (fun w => fl && ((tt T).testBit w && allN (cdB T b m w) 6)) 10), nI 0, fun i => if i < 6 then nI (need b m i) else nd i) := by
      intro fl
      unfold L_X12_bent_165
      refine lp_run (fun w => (nI (bitsN (fun w => fl && ((tt T).testBit w && allN (cdB T b m w) 6)) w), nI w)) 10 _ ?_ ?_ (fu_gt (by omega))
      · intro go w hw
        have c1 := e195 fl true w
        have c0 := e195 fl false w
        have c1 : ∀ (x3 : Int32) (k0 : Int32 → Option (Int32 × Int32 × (Nat → Int32))), L_X12_bent_195 (nI (dt D)) (nI 0) now prongs wards g (fun i => if i < 6 then nI (need b m i) else nd i) (nI (if fl = true then 1 else 0)) x3 (nI w) k0 fu (nI 1, nI 0) = k0 (nI (if allN (cdB T b m w) 6 = true then 1 else 0)) := fun x3 k0 => by have := c1 x3 k0 hw; simpa using this
        have c0 : ∀ (x3 : Int32) (k0 : Int32 → Option (Int32 × Int32 × (Nat → Int32))), L_X12_bent_195 (nI (dt D)) (nI 0) now prongs wards g (fun i => if i < 6 then nI (need b m i) else nd i) (nI (if fl = true then 1 else 0)) x3 (nI w) k0 fu (nI 0, nI 0) = k0 (nI 0) := fun x3 k0 => by have := c0 x3 k0 hw; simpa using this
        simp (disch := omega) only [ltz, le_nI, jn_eq, c1, c0, (woman_in hM hWT hw).2, some_bind, b01, n00, if_true, nm_eq, add_nI, or_bit]
        rw [if_neg (by omega)]
        simp only [bitsN]
        rcases Bool.eq_false_or_eq_true fl with h | h
        · rcases Bool.eq_false_or_eq_true ((tt T).testBit w) with h2 | h2
          · rcases Bool.eq_false_or_eq_true (allN (cdB T b m w) 6) with h3 | h3 <;> simp [h, h2, h3]
          · simp [h, h2]
        · simp [h]
      · intro go
        simp (disch := omega) only [ltz, le_nI]
        rw [if_pos (by omega)]
    exact ⟨_, e165 (allN (ftB D b) m)⟩
  · rw [if_neg hok, if_neg hok]
    exact ⟨_, rfl⟩
theorem B_bent {T : TS} {D : DS} {n : Nat} {told round x size taped dtold dbar dtold' dbar' : Int32} {rust rooms hair pins now one other wards fits bent one' other' wards' prongs f g nd : Nat → Int32} {b : Nat → Nat} (hC : CTown told round x rust rooms hair pins T) (hM : MTown now T) (hWT : WTown T) (dC : CDoors dtold dbar one other wards fits bent D) (dM : MDoors dtold' dbar' one' other' wards' prongs D) (hW : WDoors D) (tC : CTape size f n b) (tM : MTape taped g n b) (x1 : Int32) : ∃ r r' n', f_X11_bent size f dtold fits told hair x1 = some r ∧ f_X12_bent dtold' taped now prongs wards' g nd x1 = some r' ∧ r.1 = r'.1 ∧ r.2 = nI n' ∧ r'.2.1 = nI n' ∧ n' ≤ n := by
  obtain ⟨rfl, rfl, rfl, hd, he, hf, hg⟩ := hC
  obtain ⟨rfl, rfl, c3, c4, c5, c6, c7⟩ := dC
  obtain ⟨rfl, rfl, m3, m4, m5, m6⟩ := dM
  obtain ⟨t1, rfl, t2⟩ := tC
  obtain ⟨rfl, t3⟩ := tM
  have tC : CTape (nI n) f n b := ⟨t1, rfl, t2⟩
  have tM : MTape (nI n) g n b := ⟨rfl, t3⟩
  have hby : ∀ i, i < n → b i < 256 := fun i hi => (t2 i hi).2
  unfold f_X11_bent f_X12_bent f_X8_clear
  simp only [ltz]
  rcases in01 x1 1 12 (by omega) (by omega) with ⟨e1, e2⟩ | ⟨m, hm1, hm, rfl, e1, e2⟩
  · simp only [e1, e2, some_bind, n00, if_true]
    exact ⟨_, _, n, rfl, rfl, rfl, rfl, rfl, Nat.le_refl _⟩
  · by_cases hmn : 2 * m ≤ n
    · obtain ⟨nd', e3⟩ := bent_M (nd := nd) t1 hby tM hM hWT m5 m6 hW hmn hm
      simp (disch := omega) only [e1, e2, some_bind, n10, if_false, mul_nI, le_nI, hmn, if_true, areDoors_C tC hW hmn, b01, jn_eq, e3]
      rcases Bool.eq_false_or_eq_true (allN (okB D b) m) with hok | hok
      · rw [if_neg (by rw [hok]; decide), whoBent_C tC hf hM hWT c6 hW hmn hok, some_bind]
        refine ⟨_, _, 0, rfl, rfl, ?_, rfl, rfl, Nat.zero_le _⟩
        show nI (ansB T D b m) = if allN (okB D b) m = true then _ else _
        rw [if_pos hok]
      · rw [if_pos hok]
        refine ⟨_, _, 0, rfl, rfl, ?_, rfl, rfl, Nat.zero_le _⟩
        show -nI 2 = if allN (okB D b) m = true then _ else _
        rw [if_neg (by rw [hok]; decide)]
    · simp (disch := omega) only [e1, e2, some_bind, n10, if_false, mul_nI, le_nI, hmn]
      exact ⟨_, _, n, rfl, rfl, rfl, rfl, rfl, Nat.le_refl _⟩
