/-! WALK: what a woman knows, and what she does -/
def klB (T : TS) (w k : Nat) : Bool := decide (0 < pn T (6 * w + k))
def kl (T : TS) (w : Nat) : Nat := bitsN (klB T w) 6
def kfB (T : TS) (D : DS) (w d k : Nat) : Bool := klB T w k && fitB D d k
def kf (T : TS) (D : DS) (w d : Nat) : Option Nat := fstN (fun k => !kfB T D w d k) 6
def KW (T : TS) (w : Nat) : Nat → Int32 := fun q => if q = 0 then nI w else if q = 1 then nI (ro T w) else if q = 7 then nI (sumN (fun k => pn T (6 * w + k)) 6) else if q = 9 then nI (rn T % 100) else nI 0
def KD (T : TS) (w d k o : Nat) : Nat → Int32 := fun q => if q = 2 then nI d else if q = 3 then nI o else if q = 4 then nI (ru T d) else if q = 5 then nI k else if q = 6 then nI (pn T (6 * w + k)) else if q = 8 then nI (pc (bitsN (inRm T o) 10)) else KW T w q
def KWs (kn : Nat → Int32) (T : TS) (w : Nat) : Prop := kn 0 = KW T w 0 ∧ kn 1 = KW T w 1 ∧ kn 7 = KW T w 7 ∧ kn 9 = KW T w 9
theorem ten {P : Nat → Prop} (h0 : P 0) (h1 : P 1) (h2 : P 2) (h3 : P 3) (h4 : P 4) (h5 : P 5) (h6 : P 6) (h7 : P 7) (h8 : P 8) (h9 : P 9) : ∀ q, q < 10 → P q := by
  intro q hq
  have h : q = 0 ∨ q = 1 ∨ q = 2 ∨ q = 3 ∨ q = 4 ∨ q = 5 ∨ q = 6 ∨ q = 7 ∨ q = 8 ∨ q = 9 := by omega
  rcases h with rfl | rfl | rfl | rfl | rfl | rfl | rfl | rfl | rfl | rfl <;> assumption
theorem KWs_KW {kn : Nat → Int32} {T : TS} {w : Nat} (h : ∀ q, q < 10 → kn q = KW T w q) : KWs kn T w := ⟨h 0 (by omega), h 1 (by omega), h 7 (by omega), h 9 (by omega)⟩
theorem KWs_KD {kn : Nat → Int32} {T : TS} {w d k o : Nat} (h : ∀ q, q < 10 → kn q = KD T w d k o q) : KWs kn T w := ⟨h 0 (by omega), h 1 (by omega), h 7 (by omega), h 9 (by omega)⟩
theorem pos_nI {p : Nat} (hp : p < 2147483648) : (nI p ≤ nI 0) = (p = 0) := by rw [le_nI hp (by omega)]; exact propext ⟨fun h => by omega, fun h => by omega⟩
theorem pn_lt {T : TS} (hW : WTown T) {j : Nat} (hj : j < 60) : pn T j ≤ 60 := by have := hW.2.2.2.2.2.1 j hj; omega
theorem kindsLeft_C {T : TS} {now pins : Nat → Int32} (hp : ∀ j, j < 60 → pins j = nI (pn T j)) (hM : MTown now T) (hW : WTown T) {w : Nat} (hw : w < 10) (hb : (tt T).testBit w = true) : f_X9_kindsLeft (nI (tt T)) pins (nI w) = some (nI (kl T w)) := by
  have ht := (woman_in hM hW hw).1
  rw [hb, if_pos rfl] at ht
  unfold f_X9_kindsLeft L_X9_kindsLeft_4
  refine lp_run (fun k => (nI (bitsN (klB T w) k), nI k)) 6 _ ?_ ?_ (fu_gt (by omega))
  · intro go k hk
    have q : (nI 6 ≤ nI k) = False := by rw [le_nI (by omega) (by omega)]; exact eq_false (by omega)
    have hj : w * 6 + k < 60 := by omega
    have h60 := pn_lt hW hj
    simp (disch := omega) only [ltz, q, ↓reduceIte, ↓bind_of ht, n10, mul_nI, add_nI, rd_nI, hp _ hj, pos_nI, nm_eq, or_bit]
    rw [Nat.mul_comm w 6] at h60 ⊢
    simp only [bitsN]
    by_cases h0 : pn T (6 * w + k) = 0
    · have hk1 : klB T w k = false := decide_eq_false (show ¬ 0 < pn T (6 * w + k) by omega)
      rw [if_pos h0]
      simp [hk1]
    · have hk1 : klB T w k = true := decide_eq_true (show 0 < pn T (6 * w + k) by omega)
      rw [if_neg h0]
      simp [hk1]
  · intro go
    have q : (nI 6 ≤ nI 6) = True := by rw [le_nI (by omega) (by omega)]; exact eq_true (by omega)
    simp only [ltz, q, ↓reduceIte]
    rfl
theorem fk_eq (T : TS) (D : DS) (w d : Nat) : fitS D d &&& kl T w = bitsN (kfB T D w d) 6 := by
  unfold fitS kl
  rw [bitsN_and]
  exact bitsN_congr 6 (fun i _ => Bool.and_comm _ _)
theorem fk_none {T : TS} {D : DS} {w d : Nat} : kf T D w d = none → fitS D d &&& kl T w = 0 := by
  intro h
  rw [fk_eq, ← bitsN_false 6]
  refine bitsN_congr 6 (fun i hi => ?_)
  have := fstN_none h i hi
  cases hk : kfB T D w d i with
  | false => rfl
  | true => rw [hk] at this; cases this
theorem kf_some {T : TS} {D : DS} {w d k : Nat} (h : kf T D w d = some k) : k < 6 ∧ kfB T D w d k = true ∧ ∀ i, i < k → kfB T D w d i = false := by
  obtain ⟨a, b, c⟩ := fstN_some h
  refine ⟨a, ?_, fun i hi => ?_⟩
  · cases hk : kfB T D w d k with
    | false => rw [hk] at b; cases b
    | true => rfl
  · have := c i hi
    cases hk : kfB T D w d i with
    | false => rfl
    | true => rw [hk] at this; cases this
theorem fk_some {T : TS} {D : DS} {w d k : Nat} (h : kf T D w d = some k) : fitS D d &&& kl T w < 64 ∧ ¬ fitS D d &&& kl T w = 0 ∧ f_J6_numberOfTrailingZeros_0f7a4 (nI (fitS D d &&& kl T w)) = some (nI k) := by
  obtain ⟨h1, h2, h3⟩ := kf_some h
  have hl : fitS D d &&& kl T w < 64 := and_lt (fitS_lt D d)
  have hb : (fitS D d &&& kl T w).testBit k = true := by rw [fk_eq, bitsN_test, decide_eq_true h1, h2]; rfl
  refine ⟨hl, fun h0 => ?_, ntz_24 (by omega) hb (fun i hi => ?_)⟩
  · rw [h0, Nat.zero_testBit] at hb
    cases hb
  · rw [fk_eq, bitsN_test, h3 i hi, Bool.and_false]
theorem kindFor_M {T : TS} {D : DS} {now prongs wards : Nat → Int32} (hM : MTown now T) (hT : WTown T) (h3 : ∀ d, d < 24 → wards d = nI (wa D d)) (h4 : ∀ k, k < 6 → prongs k = nI (pr D k)) (hW : WDoors D) {w d : Nat} (hw : w < 10) (hd : d < 24) : f_X12_kindFor now prongs wards (nI w) (nI d) = some (enc (-nI 1) (kf T D w d)) := by
  unfold f_X12_kindFor L_X12_kindFor_2
  refine (lp_findE (fun k => nI k) 6 (fun k => !kfB T D w d k) (fun k => some (nI k)) (some (-nI 1)) (kf T D w d) rfl ?_ ?_ ?_ (fu_gt (by omega))).trans ?_
  · intro go k hk hP
    have q : (nI 6 ≤ nI k) = False := by rw [le_nI (by omega) (by omega)]; exact eq_false (by omega)
    have hj : 104 + 6 * w + k < 166 := by omega
    have e5 : now (104 + 6 * w + k) = nI (pn T (6 * w + k)) := by rw [Nat.add_assoc]; exact hM.2.2.2.2.1 _ (by omega)
    have h60 := pn_lt hT (show 6 * w + k < 60 by omega)
    have hf := fits_M h3 h4 hW hk hd
    simp (disch := omega) only [ltz, q, ↓reduceIte, mul_nI, add_nI, rd_nI, e5, pos_nI, nm_eq]
    by_cases h0 : pn T (6 * w + k) = 0
    · rw [if_pos h0]
    · rw [if_neg h0, hf, some_bind]
      have hfb : fitB D d k = false := by
        cases hb : fitB D d k with
        | false => rfl
        | true =>
          have : kfB T D w d k = true := by unfold kfB klB; rw [hb, decide_eq_true (show 0 < pn T (6 * w + k) by omega)]; rfl
          rw [this] at hP
          cases hP
      simp only [hfb, Bool.false_eq_true, if_false, n00, if_true]
  · intro go k hk hP
    have q : (nI 6 ≤ nI k) = False := by rw [le_nI (by omega) (by omega)]; exact eq_false (by omega)
    have hj : 104 + 6 * w + k < 166 := by omega
    have e5 : now (104 + 6 * w + k) = nI (pn T (6 * w + k)) := by rw [Nat.add_assoc]; exact hM.2.2.2.2.1 _ (by omega)
    have h60 := pn_lt hT (show 6 * w + k < 60 by omega)
    have hf := fits_M h3 h4 hW hk hd
    have hkf : kfB T D w d k = true := by
      cases hb : kfB T D w d k with
      | true => rfl
      | false => rw [hb] at hP; cases hP
    have hkl : klB T w k = true := by
      unfold kfB at hkf
      exact (Bool.and_eq_true_iff.1 hkf).1
    have hfb : fitB D d k = true := by
      unfold kfB at hkf
      exact (Bool.and_eq_true_iff.1 hkf).2
    have h0 : ¬ pn T (6 * w + k) = 0 := by
      unfold klB at hkl
      have := of_decide_eq_true hkl
      omega
    simp (disch := omega) only [ltz, q, ↓reduceIte, mul_nI, add_nI, rd_nI, e5, pos_nI, nm_eq]
    rw [if_neg h0, hf, some_bind]
    simp only [hfb, if_true, n10, if_false]
  · intro go
    have q : (nI 6 ≤ nI 6) = True := by rw [le_nI (by omega) (by omega)]; exact eq_true (by omega)
    simp only [ltz, q, ↓reduceIte]
  · cases kf T D w d <;> rfl
theorem fill_C (f : Nat → Int32) : f_J7_fill_53178 10 f (nI 0) = some (mixN 10 (fun _ => nI 0) f) := by
  unfold f_J7_fill_53178 L_J7_fill_53178_5
  have a3 : Int32.ofNat 10 = nI 10 := rfl
  simp only [nm_eq, a3]
  refine lp_run0 (fun k => (nI k, mixN k (fun _ => nI 0) f)) 10 _ (by show _ = (nI 0, mixN 0 _ f); rw [mix_0]; rfl) ?_ ?_ (fu_gt (by omega))
  · intro go k hk
    have q : (nI 10 ≤ nI k) = False := by rw [le_nI (by omega) (by omega)]; exact eq_false (by omega)
    have e := mix_s k (fun _ => nI 0) f
    simp (disch := omega) only [ltz, q, ↓reduceIte, wr_nI, nm_eq, add_nI]
    rw [← e]
  · intro go
    have q : (nI 10 ≤ nI 10) = True := by rw [le_nI (by omega) (by omega)]; exact eq_true (by omega)
    simp only [ltz, q, ↓reduceIte]
theorem roomOf_C {T : TS} {rooms now : Nat → Int32} (he : ∀ w, w < 10 → rooms w = nI (ro T w)) (hM : MTown now T) (hW : WTown T) {w : Nat} (hw : w < 10) (hb : (tt T).testBit w = true) : f_X9_roomOf (nI (tt T)) rooms (nI w) = some (nI (ro T w)) := by
  have ht := (woman_in hM hW hw).1
  rw [hb, if_pos rfl] at ht
  unfold f_X9_roomOf
  simp only [ltz]
  simp (disch := omega) only [↓bind_of ht, n10, ↓reduceIte, rd_nI, he w hw]
theorem knowWoman_C {T : TS} {known now rooms pins : Nat → Int32} (he : ∀ w, w < 10 → rooms w = nI (ro T w)) (hp : ∀ j, j < 60 → pins j = nI (pn T j)) (hM : MTown now T) (hW : WTown T) {w : Nat} (hw : w < 10) (hb : (tt T).testBit w = true) : ∃ kn', f_X10_knowWoman known (nI (tt T)) (nI (rn T)) rooms pins (nI w) = some kn' ∧ ∀ q, q < 10 → kn' q = KW T w q := by
  have h1 := roomOf_C he hM hW hw hb
  have h2 := pinsOf_C rfl hp hM hW hw hb
  have h3 := fill_C known
  have hr := hW.2.1
  unfold f_X10_knowWoman
  simp only [ltz]
  simp (disch := omega) only [↓bind_of h3, ↓bind_of h1, ↓bind_of h2, ↓wr_nI, ↓rm_nI]
  refine ⟨_, rfl, ?_⟩
  apply ten <;> rfl
theorem feels_M {T : TS} {facts now : Nat → Int32} (hM : MTown now T) (hW : WTown T) {w : Nat} (hw : w < 10) : ∃ fa', f_X12_feels now facts (nI w) = some fa' ∧ ∀ q, q < 10 → fa' q = KW T w q := by
  have h2 := pinsOf_M hM hw
  have e1 := hM.2.2.1 w hw
  have e6 := hM.2.2.2.2.2.1
  have hr := hW.2.1
  unfold f_X12_feels L_X12_feels_2
  refine ⟨upd (upd (upd (upd (mixN 10 (fun _ => nI 0) facts) 0 (nI w)) 1 (nI (ro T w))) 7 (nI (sumN (fun k => pn T (6 * w + k)) 6))) 9 (nI (rn T % 100)), lp_run0 (fun k => (nI k, mixN k (fun _ => nI 0) facts)) 10 _ (by show _ = (nI 0, mixN 0 _ facts); rw [mix_0]; rfl) ?_ ?_ (fu_gt (by omega)), ?_⟩
  · intro go k hk
    have q : (nI 10 ≤ nI k) = False := by rw [le_nI (by omega) (by omega)]; exact eq_false (by omega)
    have e := mix_s k (fun _ => nI 0) facts
    simp (disch := omega) only [ltz, q, ↓reduceIte, wr_nI, nm_eq, add_nI]
    rw [← e]
  · intro go
    have q : (nI 10 ≤ nI 10) = True := by rw [le_nI (by omega) (by omega)]; exact eq_true (by omega)
    simp only [ltz, q, ↓reduceIte]
    simp (disch := omega) only [↓bind_of h2, ↓wr_nI, add_nI, rd_nI, e1, e6, rm_nI]
  · apply ten <;> rfl
theorem inRm_lt (T : TS) (o : Nat) : bitsN (inRm T o) 10 < 1024 := bitsN_lt (inRm T o) 10
theorem knowDoor_C {T : TS} {D : DS} {now rust rooms pins one other fits : Nat → Int32} (hr : ∀ i, i < 24 → rust i = nI (ru T i)) (he : ∀ w, w < 10 → rooms w = nI (ro T w)) (hp : ∀ j, j < 60 → pins j = nI (pn T j)) (hM : MTown now T) (hT : WTown T) (h1 : ∀ d, d < 24 → one d = nI (on D d)) (h2 : ∀ d, d < 24 → other d = nI (ot D d)) (h5 : ∀ d, d < 24 → (dt D).testBit d = true → fits d = nI (fitS D d)) (hW : WDoors D) {known : Nat → Int32} {w d k o : Nat} (hw : w < 10) (hb : (tt T).testBit w = true) (hd : d < 24) (hdb : (dt D).testBit d = true) (hk : kf T D w d = some k) (ho : bhd D d (ro T w) = some o) (hkn : KWs known T w) : ∃ kn', f_X10_knowDoor known (nI (tt T)) rust rooms pins (nI (dt D)) one other fits (nI d) = some kn' ∧ ∀ q, q < 10 → kn' q = KD T w d k o q := by
  obtain ⟨k0, k1, k7, k9⟩ := hkn
  have k0 : known 0 = nI w := k0
  have k1 : known 1 = nI (ro T w) := k1
  have hlow := hT.2.2.2.2.1 w hw
  have ho15 := bhd_lt hW hd ho
  obtain ⟨f1, f2, f3⟩ := fk_some hk
  have hk6 := (kf_some hk).1
  have c1 := kindsLeft_C hp hM hT hw hb
  have c2 := behind_C h1 h2 hW (d := d) (r := ro T w) hd (by omega)
  rw [if_pos hdb, ho] at c2
  have c2 : f_X0_behind (nI (dt D)) one other (nI d) (nI (ro T w)) = some (nI o) := c2
  have c3 := inRoom_C rfl he hM hT (r := o) (by omega)
  have c4 := bitCount_24 (n := bitsN (inRm T o) 10) (by have := inRm_lt T o; omega)
  have c5 : (nI (fitS D d &&& kl T w) = nI 0) = False := by rw [eq_nI (by omega) (by omega)]; exact eq_false f2
  have c6 : upd known 2 (nI d) 1 = nI (ro T w) := k1
  have c8 := pok_C hp hT hw hk6
  unfold f_X10_knowDoor
  simp only [ltz]
  simp (disch := omega) only [↓rd_nI, ↓wr_nI, k0, ↓bind_of c1]
  simp (disch := omega) only [↓rd_nI, ↓wr_nI, ↓nm_eq, h5 d hd hdb, and_nI, c5, ↓reduceIte, ↓bind_of f3]
  simp (disch := omega) only [↓rd_nI, ↓wr_nI, ↓nm_eq, c6, ↓bind_of c2, hr d hd, ↓bind_of c8]
  have c7 : upd (upd (upd (upd (upd known 2 (nI d)) 3 (nI o)) 4 (nI (ru T d))) 5 (nI k)) 6 (nI (pn T (6 * w + k))) 3 = nI o := rfl
  simp (disch := omega) only [c7, ↓bind_of c3, ↓bind_of c4, ↓wr_nI]
  refine ⟨_, rfl, ?_⟩
  apply ten
  · exact k0
  · exact k1
  · rfl
  · rfl
  · rfl
  · rfl
  · rfl
  · exact k7
  · rfl
  · exact k9
theorem feelsDoor_M {T : TS} {D : DS} {now one other wards prongs : Nat → Int32} (hM : MTown now T) (hT : WTown T) (h1 : ∀ d, d < 24 → one d = nI (on D d)) (h2 : ∀ d, d < 24 → other d = nI (ot D d)) (h3 : ∀ d, d < 24 → wards d = nI (wa D d)) (h4 : ∀ k, k < 6 → prongs k = nI (pr D k)) (hW : WDoors D) {facts : Nat → Int32} {w d k o : Nat} (hw : w < 10) (hd : d < 24) (hk : kf T D w d = some k) (ho : bhd D d (ro T w) = some o) : ∃ fa', f_X12_feelsDoor now prongs one other wards facts (nI w) (nI d) = some fa' ∧ ∀ q, q < 10 → fa' q = KD T w d k o q := by
  obtain ⟨fa, e0, hfa⟩ := feels_M (facts := facts) hM hT hw
  have e1 := hM.2.2.1 w hw
  have hlow := hT.2.2.2.2.1 w hw
  have ho15 := bhd_lt hW hd ho
  have hk6 := (kf_some hk).1
  have c2 := behind_M h1 h2 hW (d := d) (r := ro T w) hd (by omega)
  rw [ho] at c2
  have c2 : f_X12_behind one other (nI d) (nI (ro T w)) = some (nI o) := c2
  have c1 := kindFor_M hM hT h3 h4 hW hw hd
  rw [hk] at c1
  have c1 : f_X12_kindFor now prongs wards (nI w) (nI d) = some (nI k) := c1
  have c3 := inRoom_M hM hT (r := o) (by omega)
  have c4 := bits_M (n := bitsN (inRm T o) 10) (by have := inRm_lt T o; omega)
  have e4 : now (0 + d) = nI (ru T d) := by rw [Nat.zero_add]; exact hM.1 d hd
  have e5 : now (104 + 6 * w + k) = nI (pn T (6 * w + k)) := by rw [Nat.add_assoc]; exact hM.2.2.2.2.1 _ (by omega)
  unfold f_X12_feelsDoor
  simp only [ltz]
  simp (disch := omega) only [↓bind_of e0, ↓wr_nI, add_nI, ↓rd_nI, e1, ↓bind_of c2, e4, ↓bind_of c1]
  have c6 : upd (upd (upd (upd fa 2 (nI d)) 3 (nI o)) 4 (nI (ru T d))) 5 (nI k) 5 = nI k := rfl
  simp (disch := omega) only [c6, mul_nI, add_nI, rd_nI, wr_nI, e5]
  have c7 : upd (upd (upd (upd (upd fa 2 (nI d)) 3 (nI o)) 4 (nI (ru T d))) 5 (nI k)) 6 (nI (pn T (6 * w + k))) 3 = nI o := rfl
  simp (disch := omega) only [c7, ↓bind_of c3, ↓bind_of c4, ↓wr_nI]
  refine ⟨_, rfl, ?_⟩
  apply ten
  · exact hfa 0 (by omega)
  · exact hfa 1 (by omega)
  · rfl
  · rfl
  · rfl
  · rfl
  · rfl
  · exact hfa 7 (by omega)
  · rfl
  · exact hfa 9 (by omega)
