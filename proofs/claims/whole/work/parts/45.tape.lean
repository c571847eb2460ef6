/-! the tape; doors' small functions -/
def shC (k : Nat) : Int32 := ([24, 16, 8, 0] : List Int32).getD k (-8)
def shM (k : Nat) : Int32 := ([3, 2, 1, 0] : List Int32).getD k (-1)
theorem sh_ok : ∀ k, k < 4 → (¬ shC k < 0) ∧ (¬ shM k < 0) ∧ shC k + (-8) = shC (k + 1) ∧ shM k + (-1) = shM (k + 1) ∧ (8 : Int32) * shM k = shC k := by decide
theorem sh_end : shC 4 < 0 ∧ shM 4 < 0 := by decide
def byC (v : Int32) (k : Nat) : Int32 := (v >>> (shC k &&& 31)) &&& 255
def byM (v : Int32) (k : Nat) : Int32 := vp_nar .byte (v >>> (shC k &&& 31)).toInt8.toInt32
theorem low_byte (x : Int32) : x.toInt8.toInt32 &&& 255 = x &&& 255 := by
  apply Int32.toBitVec_inj.1
  show (x.toInt8.toInt32).toBitVec &&& 255#32 = x.toBitVec &&& 255#32
  rw [Int8.toBitVec_toInt32, Int32.toBitVec_toInt8]
  apply BitVec.eq_of_getLsbD_eq
  intro i hi
  rw [BitVec.getLsbD_and, BitVec.getLsbD_and, BitVec.getLsbD_signExtend]
  by_cases h : i < 8
  · simp only [h, hi, if_true, decide_true, Bool.true_and, BitVec.getLsbD_signExtend]
  · have : (255#32).getLsbD i = false := (by decide : ∀ i, i < 32 → ¬ i < 8 → (255#32).getLsbD i = false) i hi h
    rw [this, Bool.and_false, Bool.and_false]
theorem byMC (v : Int32) (k : Nat) : byM v k &&& 255 = byC v k := by
  unfold byM byC
  rw [pk_vb, low_byte]
def putB (f : Nat → Int32) (n : Nat) (g : Nat → Int32) (k : Nat) : Nat → Int32 := fun i => if n ≤ i ∧ i < n + k then g (i - n) else f i
theorem putB_s (f : Nat → Int32) (n : Nat) (g : Nat → Int32) (k : Nat) : upd (putB f n g k) (n + k) (g k) = putB f n g (k + 1) := by
  funext i
  unfold upd putB
  by_cases h : i = n + k
  · subst h
    rw [if_pos rfl, if_pos (by omega), Nat.add_sub_cancel_left]
  · rw [if_neg h]
    by_cases h2 : n ≤ i ∧ i < n + k
    · rw [if_pos h2, if_pos (by omega)]
    · rw [if_neg h2, if_neg (by omega)]
theorem putB_0 (f : Nat → Int32) (n : Nat) (g : Nat → Int32) : putB f n g 0 = f := by
  funext i
  unfold putB
  rw [if_neg (by omega)]
theorem add_C {n : Nat} (hn : n + 4 ≤ 260) (f : Nat → Int32) (v : Int32) : f_X8_add (nI n) f v = some (nI (n + 4), putB f n (byC v) 4) := by
  unfold f_X8_add L_X8_add_3
  have h0 : ((24 : Int32), nI n, f) = (shC 0, nI (n + 0), putB f n (byC v) 0) := by rw [putB_0]; rfl
  rw [h0]
  refine lp_run (fun k => (shC k, nI (n + k), putB f n (byC v) k)) 4 _ ?_ ?_ (fu_gt (by omega))
  · intro go k hk
    obtain ⟨a, b, c, d, e⟩ := sh_ok k hk
    simp only [nm_eq]
    rw [if_neg a, if_neg (by show ¬ nI 260 ≤ nI (n + k); rw [le_nI (by omega) (by omega)]; omega), wr_nI (by omega) (by omega), c, nI_1]
    show go (_, _, upd _ _ (byC v k)) = _
    rw [putB_s]
    rfl
  · intro go
    simp only []
    rw [if_pos sh_end.1]
theorem add_M {n : Nat} (hn : n + 4 ≤ 260) (f : Nat → Int32) (v : Int32) : f_X12_types (nI n) f v = some (nI (n + 4), putB f n (byM v) 4) := by
  unfold f_X12_types L_X12_types_2
  have h0 : ((3 : Int32), nI n, f) = (shM 0, nI (n + 0), putB f n (byM v) 0) := by rw [putB_0]; rfl
  rw [h0]
  refine lp_run (fun k => (shM k, nI (n + k), putB f n (byM v) k)) 4 _ ?_ ?_ (fu_gt (by omega))
  · intro go k hk
    obtain ⟨a, b, c, d, e⟩ := sh_ok k hk
    simp only [nm_eq]
    rw [if_neg b, wr_nI (by omega) (by omega), d, nI_1, e]
    show go (_, _, upd _ _ (byM v k)) = _
    rw [putB_s]
    rfl
  · intro go
    simp only []
    rw [if_pos sh_end.2]
theorem byC_lt (v : Int32) (k : Nat) : ∃ b, b < 256 ∧ byC v k = nI b := by
  obtain ⟨j, hj, e⟩ := pk_andE (v >>> (shC k &&& 31)) (m := 255) 8 (by decide)
  exact ⟨j, hj, e⟩
/-- four bytes more on both tapes -/
theorem tape4 {n : Nat} {f g : Nat → Int32} {by_ : Nat → Nat} (hn : n + 4 ≤ 260) (hC : CTape (nI n) f n by_) (hM : MTape (nI n) g n by_) (v : Int32) : ∃ by2, CTape (nI (n + 4)) (putB f n (byC v) 4) (n + 4) by2 ∧ MTape (nI (n + 4)) (putB g n (byM v) 4) (n + 4) by2 := by
  refine ⟨fun i => if n ≤ i then (byC v (i - n)).toNatClampNeg else by_ i, ⟨hn, rfl, fun i hi => ?_⟩, rfl, fun i hi => ?_⟩
  · show putB f n (byC v) 4 i = nI (if n ≤ i then (byC v (i - n)).toNatClampNeg else by_ i) ∧ (if n ≤ i then (byC v (i - n)).toNatClampNeg else by_ i) < 256
    unfold putB
    by_cases h : n ≤ i
    · obtain ⟨b, hb, e⟩ := byC_lt v (i - n)
      rw [if_pos ⟨h, hi⟩, if_pos h, e, nI_clamp (by omega)]
      exact ⟨rfl, hb⟩
    · rw [if_neg (fun q => h q.1), if_neg h]
      exact hC.2.2 i (by omega)
  · show putB g n (byM v) 4 i &&& 255 = nI (if n ≤ i then (byC v (i - n)).toNatClampNeg else by_ i)
    unfold putB
    by_cases h : n ≤ i
    · obtain ⟨b, hb, e⟩ := byC_lt v (i - n)
      rw [if_pos ⟨h, hi⟩, if_pos h, byMC, e, nI_clamp (by omega)]
    · rw [if_neg (fun q => h q.1), if_neg h]
      exact hM.2 i (by omega)
theorem B_feed {n : Nat} {size taped : Int32} {f g : Nat → Int32} {by_ : Nat → Nat} (hC : CTape size f n by_) (hM : MTape taped g n by_) (x1 x2 x3 x4 x5 : Int32) : ∃ r r' n' by', f_X11_feed size f x1 x2 x3 x4 x5 = some r ∧ f_X12_feed taped g x1 x2 x3 x4 x5 = some r' ∧ r.1 = r'.1 ∧ CTape r.2.1 r.2.2 n' by' ∧ MTape r'.2.1 r'.2.2 n' by' := by
  obtain ⟨h1, rfl, h2⟩ := hC
  obtain ⟨rfl, h3⟩ := hM
  unfold f_X11_feed f_X12_feed
  by_cases h : n ≤ 240
  · have q1 : nI n ≤ (240 : Int32) := by show nI n ≤ nI 240; rw [le_nI (by omega) (by omega)]; exact h
    have q2 : nI n + (20 : Int32) ≤ (260 : Int32) := by show nI n + nI 20 ≤ nI 260; rw [add_nI, le_nI (by omega) (by omega)]; omega
    rw [if_pos q1, if_pos q2]
    simp (disch := omega) only [add_C, add_M, some_bind]
    obtain ⟨b1, c1, m1⟩ := tape4 (by omega) ⟨h1, rfl, h2⟩ ⟨rfl, h3⟩ x1
    obtain ⟨b2, c2, m2⟩ := tape4 (by omega) c1 m1 x2
    obtain ⟨b3, c3, m3⟩ := tape4 (by omega) c2 m2 x3
    obtain ⟨b4, c4, m4⟩ := tape4 (by omega) c3 m3 x4
    obtain ⟨b5, c5, m5⟩ := tape4 (by omega) c4 m4 x5
    exact ⟨_, _, _, b5, rfl, rfl, rfl, c5, m5⟩
  · have q1 : ¬ nI n ≤ (240 : Int32) := by show ¬ nI n ≤ nI 240; rw [le_nI (by omega) (by omega)]; exact h
    have q2 : ¬ nI n + (20 : Int32) ≤ (260 : Int32) := by show ¬ nI n + nI 20 ≤ nI 260; rw [add_nI, le_nI (by omega) (by omega)]; omega
    rw [if_neg q1, if_neg q2]
    exact ⟨_, _, n, by_, rfl, rfl, rfl, ⟨h1, rfl, h2⟩, rfl, h3⟩
/-- a byte of the tape -/
theorem at_C {n : Nat} {f : Nat → Int32} {by_ : Nat → Nat} (hC : CTape (nI n) f n by_) {i : Nat} (hi : i < n) : f_X8_at (nI n) f (nI i) = some (nI (by_ i)) := by
  obtain ⟨h1, _, h2⟩ := hC
  unfold f_X8_at
  simp (disch := omega) only [ltz, lt_nI, le_nI, rd_nI]
  rw [if_neg (by omega), if_neg (by omega), (h2 i hi).1]
theorem at_M {n : Nat} {t : Int32} {g : Nat → Int32} {by_ : Nat → Nat} (hn : n ≤ 260) (hM : MTape t g n by_) {i : Nat} (hi : i < n) : f_X12_octet g (nI i) = some (nI (by_ i)) := by
  unfold f_X12_octet
  rw [rd_nI (by omega) (by omega), hM.2 i hi]
theorem andn_fit : ∀ a, a < 64 → ∀ b, b < 64 → (decide ((nI a &&& (nI b ^^^ (-1))) = 0)) = (a &&& b == a) := by decide +kernel
theorem fits_M {D : DS} {prongs wards : Nat → Int32} (hwa : ∀ d, d < 24 → wards d = nI (wa D d)) (hpr : ∀ k, k < 6 → prongs k = nI (pr D k)) (hW : WDoors D) {k d : Nat} (hk : k < 6) (hd : d < 24) : f_X12_fits prongs wards (nI k) (nI d) = some (nI (if fitB D d k = true then 1 else 0)) := by
  unfold f_X12_fits
  have h1 := (hW.2.2.2.1 d hd).2.2
  have h2 := hW.2.2.2.2.2 k hk
  rw [rd_nI hd (by omega), rd_nI hk (by omega), hwa d hd, hpr k hk]
  have h3 := andn_fit (wa D d) (by omega) (pr D k) (by omega)
  unfold fitB
  rw [← h3]
  by_cases h : (nI (wa D d) &&& (nI (pr D k) ^^^ (-1))) = 0
  · rw [if_pos h, decide_eq_true h]; rfl
  · rw [if_neg h, decide_eq_false h]; rfl
theorem fitting_M {D : DS} {prongs wards : Nat → Int32} (hwa : ∀ d, d < 24 → wards d = nI (wa D d)) (hpr : ∀ k, k < 6 → prongs k = nI (pr D k)) (hW : WDoors D) {d : Nat} (hd : d < 24) : f_X12_fitting prongs wards (nI d) = some (nI (fitS D d)) := by
  unfold f_X12_fitting L_X12_fitting_4
  refine lp_run (fun k => (nI (bitsN (fitB D d) k), nI k)) 6 _ ?_ ?_ (fu_gt (by omega))
  · intro go k hk
    simp (disch := omega) only [ltz, nm_eq, fits_M hwa hpr hW hk hd, some_bind, le_nI, add_nI, b01, or_bit]
    rw [if_neg (by omega)]
    simp only [bitsN]
    rcases Bool.eq_false_or_eq_true (fitB D d k) with hb | hb <;> simp [hb]
  · intro go
    simp (disch := omega) only [ltz, le_nI]
    rw [if_pos (by omega)]
    rfl
