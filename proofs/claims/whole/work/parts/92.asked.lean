/-! REACH: what the class answers -/
theorem st_X6_fewestTo_2 (t_size : Int32) (t_used : (Nat → Int32)) (t_rooms : (Nat → Int32)) (x1 : Int32) (k0 : Int32 → Option (Int32)) (m : Nat) (s : Int32) : L_X6_fewestTo_2 t_size t_used t_rooms x1 k0 (m + 1) s = (if t_size ≤ s then (some (-1 : Int32)) else if (924 : Int32) ≤ s then (some (-1 : Int32)) else rd t_used 924 s fun v1 => (f_X6_placeOf v1).bind fun u2 => rd t_rooms 924 u2 fun v3 => if ((v3 >>> (x1 &&& 31)) &&& (1 : Int32)) = 0 then (nm (s + (1 : Int32)) fun v4 => (L_X6_fewestTo_2 t_size t_used t_rooms x1 k0 m) v4) else k0 s) := rfl
theorem st_X6_lowestDoor_23 (t_left : (Nat → Int32)) (t_rooms : (Nat → Int32)) (p1_told : Int32) (p1_one : (Nat → Int32)) (p1_other : (Nat → Int32)) (p1_fits : (Nat → Int32)) (x2 : Int32) (x3 : Int32) (x5 : Int32) (x6 : Int32) (m : Nat) (s : Int32) : L_X6_lowestDoor_23 t_left t_rooms p1_told p1_one p1_other p1_fits x2 x3 x5 x6 (m + 1) s = (if (24 : Int32) ≤ s then (some (24 : Int32)) else if ((x3 >>> (s &&& 31)) &&& (1 : Int32)) = 0 then (nm (s + (1 : Int32)) fun v4 => (L_X6_lowestDoor_23 t_left t_rooms p1_told p1_one p1_other p1_fits x2 x3 x5 x6 m) v4) else rd p1_fits 24 s fun v5 => if (v5 &&& x6) = 0 then (nm (s + (1 : Int32)) fun v6 => (L_X6_lowestDoor_23 t_left t_rooms p1_told p1_one p1_other p1_fits x2 x3 x5 x6 m) v6) else (f_X0_behind p1_told p1_one p1_other s x2).bind fun u7 => if ((x5 >>> (u7 &&& 31)) &&& (1 : Int32)) = 0 then (nm (s + (1 : Int32)) fun v8 => (L_X6_lowestDoor_23 t_left t_rooms p1_told p1_one p1_other p1_fits x2 x3 x5 x6 m) v8) else some s) := rfl
theorem st_X6_firstDoor_19 (t_size : Int32) (t_left : (Nat → Int32)) (t_used : (Nat → Int32)) (t_rooms : (Nat → Int32)) (p1_told : Int32) (p1_barred : Int32) (p1_one : (Nat → Int32)) (p1_other : (Nat → Int32)) (p1_fits : (Nat → Int32)) (x2 : Int32) (x3 : Int32) (x4 : Int32) (m : Nat) (s : Int32 × Int32) : L_X6_firstDoor_19 t_size t_left t_used t_rooms p1_told p1_barred p1_one p1_other p1_fits x2 x3 x4 (m + 1) s = (if t_size ≤ s.2 then (some s.1) else if (924 : Int32) ≤ s.2 then (some s.1) else rd t_used 924 s.2 fun v4 => if (v4 >>> ((18 : Int32) &&& 31)) = (x3 - (1 : Int32)) then (rd t_used 924 s.2 fun v6 => (f_X6_lowestDoor t_left t_rooms p1_told p1_one p1_other p1_fits x2 x4 v6).bind fun u7 => nm (imin s.1 u7) fun v8 => nm (s.2 + (1 : Int32)) fun v9 => (L_X6_firstDoor_19 t_size t_left t_used t_rooms p1_told p1_barred p1_one p1_other p1_fits x2 x3 x4 m) (v8, v9)) else nm (s.2 + (1 : Int32)) fun v5 => (L_X6_firstDoor_19 t_size t_left t_used t_rooms p1_told p1_barred p1_one p1_other p1_fits x2 x3 x4 m) (s.1, v5)) := rfl
section RQ
variable {D : DS} {T : TS} {x r0 s : Nat} {used rooms : Nat → Int32} {U B : Nat → Nat}
theorem sp_end (hS : SpB D (fun k => pn T (6 * x + k)) r0 s s U B) {m v r : Nat} (hm : m ≤ 6) (h : RcN D (fun k => pn T (6 * x + k)) r0 m v r) : ∃ j, j < s ∧ U j = v ∧ tot (U j) = m ∧ (B (plc (U j))).testBit r = true := by
  have hb := sp_all hS (n := 7) (fun j hj _ => hj) m v r (by omega) hm h
  obtain ⟨a1, a2⟩ := RcN_ok m v r hm h
  obtain ⟨g1, g2, g3, g4, g5, g6, g7, g8, g9, g10⟩ := hS
  obtain ⟨j, hj, he⟩ := g6 (plc v) (plc_inv a1).2 (tb_ne hb)
  have e : U j = v := plc_inj (g2 j hj).1 a1 he
  exact ⟨j, hj, e, by rw [e]; exact a2, by rw [e]; exact hb⟩
theorem allRooms_C (hr : RdR rooms B) (hS : SpB D (fun k => pn T (6 * x + k)) r0 s s U B) : ∃ A, f_X6_allRooms rooms = some (nI A) ∧ (∀ r, A.testBit r = true ↔ ∃ m v, m ≤ 6 ∧ RcN D (fun k => pn T (6 * x + k)) r0 m v r) := by
  refine ⟨orN B 924, ?_, fun r => ?_⟩
  · unfold f_X6_allRooms L_X6_allRooms_4
    refine lp_run0 (fun k => (nI (orN B k), nI k)) 924 _ rfl ?_ ?_ (fu_gt (by omega))
    · intro go k hk
      have q : (nI 924 ≤ nI k) = False := by rw [le_nI (by omega) (by omega)]; exact eq_false (by omega)
      simp only [ltz]
      simp (disch := omega) only [q, ↓reduceIte, ↓rd_nI, hr k hk, ↓nm_eq, or_nI, add_nI]
      rfl
    · intro go
      have q : (nI 924 ≤ nI 924) = True := by rw [le_nI (by omega) (by omega)]; exact eq_true (by omega)
      simp only [ltz, q, ↓reduceIte]
  · rw [orN_tb]
    constructor
    · rintro ⟨z, hz, hb⟩
      obtain ⟨g1, g2, g3, g4, g5, g6, g7, g8, g9, g10⟩ := hS
      obtain ⟨j, hj, he⟩ := g6 z hz (tb_ne hb)
      exact ⟨tot (U j), U j, (g2 j hj).1.2, g7 j hj r (by rw [he]; exact hb)⟩
    · rintro ⟨m, v, hm, h⟩
      obtain ⟨j, hj, _, _, hb⟩ := sp_end hS hm h
      exact ⟨plc (U j), (plc_inv (hS.2.1 j hj).1).2, hb⟩
theorem tot_sh {v : Nat} (hv : VW v) : nI (wy v) >>> (nI 18 &&& nI 31) = nI (tot v) := by
  have hwl := wy_lt hv
  have : nI (wy v) >>> (nI 18 &&& nI 31) = nI (wy v / 2 ^ 18) := shr_nI (by omega) (by omega)
  rw [this]
  congr 1
  have h1 := hv.1
  unfold wy
  show _ / 262144 = _
  omega
theorem fewL_C (hu : RdU used s U) (hr : RdR rooms B) (hS : SpB D (fun k => pn T (6 * x + k)) r0 s s U B) {r : Nat} (hr15 : r ≤ 15) (k0 : Int32 → Option Int32) : ∀ (rem i m : Nat), i + rem = s → rem < m → (∀ j, j < i → (B (plc (U j))).testBit r = false) →
    (L_X6_fewestTo_2 (nI s) used rooms (nI r) k0 m (nI i) = some (-nI 1) ∧ (∀ j, j < s → (B (plc (U j))).testBit r = false)) ∨ (∃ i', i' < s ∧ L_X6_fewestTo_2 (nI s) used rooms (nI r) k0 m (nI i) = k0 (nI i') ∧ (B (plc (U i'))).testBit r = true ∧ (∀ j, j < i' → (B (plc (U j))).testBit r = false)) := by
  have hs := hS.1
  intro rem
  induction rem with
  | zero =>
    intro i m hi hm hj
    obtain ⟨m, rfl⟩ : ∃ z, m = z + 1 := ⟨m - 1, by omega⟩
    obtain rfl : i = s := by omega
    have q : (nI i ≤ nI i) = True := by rw [le_nI (by omega) (by omega)]; exact eq_true (by omega)
    rw [st_X6_fewestTo_2]
    simp only [ltz, q, ↓reduceIte]
    exact Or.inl ⟨trivial, hj⟩
  | succ rem ih =>
    intro i m hi hm hj
    obtain ⟨m, rfl⟩ : ∃ z, m = z + 1 := ⟨m - 1, by omega⟩
    have his : i < s := by omega
    have hv := (hS.2.1 i his).1
    have hpl := (plc_inv hv).2
    have hBl := hS.2.2.2.2.2.2.2.2.1 _ hpl
    have q : (nI s ≤ nI i) = False := by rw [le_nI (by omega) (by omega)]; exact eq_false (by omega)
    have q2 : (nI 924 ≤ nI i) = False := by rw [le_nI (by omega) (by omega)]; exact eq_false (by omega)
    have c1 := placeOf_C hv
    have hb := bit_of (n := B (plc (U i))) (j := r) (by omega) (by omega)
    rw [st_X6_fewestTo_2]
    simp only [ltz]
    cases hc : (B (plc (U i))).testBit r
    · rw [hc, if_neg (by decide)] at hb
      simp (disch := omega) only [q, q2, ↓reduceIte, ↓rd_nI, hu i his, ↓bind_of c1, hr _ hpl, hb, ↓nm_eq, add_nI]
      exact ih (i + 1) m (by omega) (by omega) (fun j hj' => by
        by_cases e : j = i
        · rw [e]; exact hc
        · exact hj j (by omega))
    · rw [hc, if_pos rfl] at hb
      simp (disch := omega) only [q, q2, ↓reduceIte, ↓rd_nI, hu i his, ↓bind_of c1, hr _ hpl, hb, n10]
      exact Or.inr ⟨i, his, rfl, hc, hj⟩
theorem few_C (hu : RdU used s U) (hr : RdR rooms B) (hS : SpB D (fun k => pn T (6 * x + k)) r0 s s U B) {r : Nat} (hr15 : r ≤ 15) :
    (f_X6_fewestTo (nI s) used rooms (nI r) = some (-nI 1) ∧ ∀ m v, m ≤ 6 → ¬ RcN D (fun k => pn T (6 * x + k)) r0 m v r) ∨ (∃ n v, n ≤ 6 ∧ f_X6_fewestTo (nI s) used rooms (nI r) = some (nI n) ∧ RcN D (fun k => pn T (6 * x + k)) r0 n v r ∧ ∀ m v, m ≤ 6 → RcN D (fun k => pn T (6 * x + k)) r0 m v r → n ≤ m) := by
  have hs := hS.1
  unfold f_X6_fewestTo
  simp only [ltz]
  rcases fewL_C hu hr hS hr15 (fun s5 => rd used 924 s5 fun v6 => some (v6 >>> (nI 18 &&& nI 31))) s 0 fu (by omega) (fu_gt (by omega)) (fun j hj => absurd hj (by omega)) with ⟨e, h⟩ | ⟨i, hi, e, h1, h2⟩
  · refine Or.inl ⟨e, fun m v hm hR => ?_⟩
    obtain ⟨j, hj, _, _, hb⟩ := sp_end hS hm hR
    rw [h j hj] at hb
    cases hb
  · have hv := (hS.2.1 i hi).1
    refine Or.inr ⟨tot (U i), U i, hv.2, ?_, hS.2.2.2.2.2.2.1 i hi r h1, fun m v hm hR => ?_⟩
    · rw [e, rd_nI (by omega) (by omega), hu i hi, tot_sh hv]
    · obtain ⟨j, hj, _, ht, hb⟩ := sp_end hS hm hR
      have hij : i ≤ j := by
        by_cases hh : i ≤ j
        · exact hh
        · rw [h2 j (by omega)] at hb
          cases hb
      have := hS.2.2.2.1 i j hij hj
      omega
/-- a door of this room by which one may go first, if the rest is v -/
def LDk (D : DS) (T : TS) (x h : Nat) (B : Nat → Nat) (v d : Nat) : Prop := opn D d = true ∧ (∃ r1, bhd D d h = some r1 ∧ (B (plc v)).testBit r1 = true) ∧ ∃ k, k < 6 ∧ fitB D d k = true ∧ dg v k < pn T (6 * x + k)
theorem lowL_C {one other fits left : Nat → Int32} (hW : WDoors D) (h1 : ∀ d, d < 24 → one d = nI (on D d)) (h2 : ∀ d, d < 24 → other d = nI (ot D d)) (h5 : ∀ d, d < 24 → (dt D).testBit d = true → fits d = nI (fitS D d)) {h v : Nat} (hh : h ≤ 15) (hB : B (plc v) < 65536) : ∀ (rem d m : Nat), d + rem = 24 → rem < m → (∀ d', d' < d → ¬ LDk D T x h B v d') →
    ∃ d', d' ≤ 24 ∧ L_X6_lowestDoor_23 left rooms (nI (dt D)) one other fits (nI h) (nI (und D &&& bitsN (ofR D h) 24)) (nI (B (plc v))) (nI (bitsN (frB T x v) 6)) m (nI d) = some (nI d') ∧ (d' < 24 → LDk D T x h B v d') ∧ (∀ d2, d2 < d' → ¬ LDk D T x h B v d2) := by
  have hul := und_lt D
  have hwl : und D &&& bitsN (ofR D h) 24 < 2147483648 := Nat.lt_of_le_of_lt Nat.and_le_left (by omega)
  intro rem
  induction rem with
  | zero =>
    intro d m hd hm hno
    obtain ⟨m, rfl⟩ : ∃ z, m = z + 1 := ⟨m - 1, by omega⟩
    obtain rfl : d = 24 := by omega
    have q : (nI 24 ≤ nI 24) = True := by rw [le_nI (by omega) (by omega)]; exact eq_true (by omega)
    rw [st_X6_lowestDoor_23]
    simp only [ltz, q, ↓reduceIte]
    exact ⟨24, Nat.le_refl _, rfl, fun h => absurd h (by omega), hno⟩
  | succ rem ih =>
    intro d m hd hm hno
    obtain ⟨m, rfl⟩ : ∃ z, m = z + 1 := ⟨m - 1, by omega⟩
    have hd24 : d < 24 := by omega
    have q : (nI 24 ≤ nI d) = False := by rw [le_nI (by omega) (by omega)]; exact eq_false (by omega)
    have hb := bit_of (n := und D &&& bitsN (ofR D h) 24) (j := d) hwl (by omega)
    rw [Nat.testBit_and, und_tb D hd24, bitsN_test, decide_eq_true hd24, Bool.true_and] at hb
    have next : ¬ LDk D T x h B v d → ∀ d', d' < d + 1 → ¬ LDk D T x h B v d' := by
      intro hn d' hd'
      by_cases e : d' = d
      · rw [e]; exact hn
      · exact hno d' (by omega)
    rw [st_X6_lowestDoor_23]
    simp only [ltz]
    cases hwb : (opn D d && ofR D h d)
    · rw [hwb, if_neg (by decide)] at hb
      simp (disch := omega) only [q, ↓reduceIte, hb, n00, ↓nm_eq, add_nI]
      refine ih (d + 1) m (by omega) (by omega) (next (fun hl => ?_))
      obtain ⟨a1, ⟨r1, a2, _⟩, _⟩ := hl
      have : ofR D h d = true := by unfold ofR; rw [opn_told a1, a2]; rfl
      rw [a1, this] at hwb
      cases hwb
    · rw [hwb, if_pos rfl] at hb
      rw [Bool.and_eq_true] at hwb
      obtain ⟨ho, hor⟩ := hwb
      have htold := opn_told ho
      have hf := h5 d hd24 htold
      have hfl := fitS_lt D d
      have hand0 : nI (fitS D d) &&& nI (bitsN (frB T x v) 6) = nI (fitS D d &&& bitsN (frB T x v) 6) := and_nI _ _
      have hand : (nI (fitS D d &&& bitsN (frB T x v) 6) = nI 0) = (fitS D d &&& bitsN (frB T x v) 6 = 0) := eq_nI (Nat.lt_of_le_of_lt Nat.and_le_left (by omega)) (by omega)
      by_cases hz : fitS D d &&& bitsN (frB T x v) 6 = 0
      · have hz' : (nI (fitS D d &&& bitsN (frB T x v) 6) = nI 0) = True := by rw [hand]; exact eq_true hz
        simp (disch := omega) only [q, ↓reduceIte, hb, n10, ↓rd_nI, hf, hand0, hz', ↓nm_eq, add_nI]
        refine ih (d + 1) m (by omega) (by omega) (next (fun hl => ?_))
        obtain ⟨_, _, k, hk, b1, b2⟩ := hl
        have : (fitS D d &&& bitsN (frB T x v) 6).testBit k = true := by
          rw [Nat.testBit_and, fitS_tb hk, b1, bitsN_test, decide_eq_true hk]
          exact decide_eq_true b2
        exact tb_ne this hz
      · have hz' : (nI (fitS D d &&& bitsN (frB T x v) 6) = nI 0) = False := by rw [hand]; exact eq_false hz
        obtain ⟨k, hkb⟩ := ne_tb hz
        rw [Nat.testBit_and, Bool.and_eq_true, bitsN_test, Bool.and_eq_true] at hkb
        obtain ⟨kb1, kb2, kb3⟩ := hkb
        have hk := of_decide_eq_true kb2
        rw [fitS_tb hk] at kb1
        have kb3 : dg v k < pn T (6 * x + k) := of_decide_eq_true kb3
        have hbe := behind_C h1 h2 hW hd24 (show h < 65536 by omega)
        rw [if_pos htold] at hbe
        unfold ofR at hor
        rw [htold, Bool.true_and] at hor
        obtain ⟨r1, hr1⟩ := Option.isSome_iff_exists.1 hor
        rw [hr1] at hbe
        have hbe : f_X0_behind (nI (dt D)) one other (nI d) (nI h) = some (nI r1) := hbe
        have hr15 := bhd_lt hW hd24 hr1
        have hb2 := bit_of (n := B (plc v)) (j := r1) (by omega) (by omega)
        cases hc : (B (plc v)).testBit r1
        · rw [hc, if_neg (by decide)] at hb2
          simp (disch := omega) only [q, ↓reduceIte, hb, n10, ↓rd_nI, hf, hand0, hz', ↓bind_of hbe, hb2, n00, ↓nm_eq, add_nI]
          refine ih (d + 1) m (by omega) (by omega) (next (fun hl => ?_))
          obtain ⟨_, ⟨r2, a2, a3⟩, _⟩ := hl
          rw [hr1] at a2
          injection a2 with a2
          rw [← a2, hc] at a3
          cases a3
        · rw [hc, if_pos rfl] at hb2
          simp (disch := omega) only [q, ↓reduceIte, hb, n10, ↓rd_nI, hf, hand0, hz', ↓bind_of hbe, hb2]
          exact ⟨d, by omega, rfl, fun _ => ⟨ho, ⟨r1, hr1, hc⟩, k, hk, kb1, kb3⟩, hno⟩
theorem low_C {one other fits left : Nat → Int32} (hW : WDoors D) (hT : WTown T) (hx : x < 10) (hl : ∀ k, k < 6 → left k = nI (pn T (6 * x + k))) (h1 : ∀ d, d < 24 → one d = nI (on D d)) (h2 : ∀ d, d < 24 → other d = nI (ot D d)) (h5 : ∀ d, d < 24 → (dt D).testBit d = true → fits d = nI (fitS D d)) {h v : Nat} (hh : h ≤ 15) (hr : RdR rooms B) (hv : VW v) (hB : B (plc v) < 65536) :
    ∃ d', d' ≤ 24 ∧ f_X6_lowestDoor left rooms (nI (dt D)) one other fits (nI h) (nI (und D &&& bitsN (ofR D h) 24)) (nI (wy v)) = some (nI d') ∧ (d' < 24 → LDk D T x h B v d') ∧ (∀ d2, d2 < d' → ¬ LDk D T x h B v d2) := by
  have hpl := (plc_inv hv).2
  have c1 := placeOf_C hv
  have c2 := freeKinds_C hT hx hl hv
  obtain ⟨d', e1, e2, e3, e4⟩ := lowL_C (T := T) (x := x) (rooms := rooms) (left := left) hW h1 h2 h5 hh hB 24 0 fu rfl (fu_gt (by omega)) (fun d' hd' => absurd hd' (by omega))
  refine ⟨d', e1, ?_, e3, e4⟩
  unfold f_X6_lowestDoor
  simp only [ltz]
  simp (disch := omega) only [↓bind_of c1, ↓rd_nI, hr _ hpl, ↓bind_of c2]
  exact e2
theorem fstL_C {one other fits left : Nat → Int32} {b2 : Int32} (hW : WDoors D) (hT : WTown T) (hx : x < 10) (hl : ∀ k, k < 6 → left k = nI (pn T (6 * x + k))) (h1 : ∀ d, d < 24 → one d = nI (on D d)) (h2 : ∀ d, d < 24 → other d = nI (ot D d)) (h5 : ∀ d, d < 24 → (dt D).testBit d = true → fits d = nI (fitS D d)) {h n : Nat} (hh : h ≤ 15) (hu : RdU used s U) (hr : RdR rooms B) (hS : SpB D (fun k => pn T (6 * x + k)) r0 s s U B) (hn : n < 100) :
    ∀ (rem i m best : Nat), i + rem = s → rem < m → best ≤ 24 → (best < 24 → ∃ j, j < s ∧ tot (U j) = n ∧ LDk D T x h B (U j) best) → (∀ j, j < i → tot (U j) = n → ∀ d, d < best → ¬ LDk D T x h B (U j) d) →
    ∃ best', best' ≤ 24 ∧ L_X6_firstDoor_19 (nI s) left used rooms (nI (dt D)) b2 one other fits (nI h) (nI (n + 1)) (nI (und D &&& bitsN (ofR D h) 24)) m (nI best, nI i) = some (nI best') ∧ (best' < 24 → ∃ j, j < s ∧ tot (U j) = n ∧ LDk D T x h B (U j) best') ∧ (∀ j, j < s → tot (U j) = n → ∀ d, d < best' → ¬ LDk D T x h B (U j) d) := by
  have hs := hS.1
  intro rem
  induction rem with
  | zero =>
    intro i m best hi hm hb hb1 hb2
    obtain ⟨m, rfl⟩ : ∃ z, m = z + 1 := ⟨m - 1, by omega⟩
    obtain rfl : i = s := by omega
    have q : (nI i ≤ nI i) = True := by rw [le_nI (by omega) (by omega)]; exact eq_true (by omega)
    rw [st_X6_firstDoor_19]
    simp only [ltz, q, ↓reduceIte]
    exact ⟨best, hb, rfl, hb1, hb2⟩
  | succ rem ih =>
    intro i m best hi hm hb hb1 hb2
    obtain ⟨m, rfl⟩ : ∃ z, m = z + 1 := ⟨m - 1, by omega⟩
    have his : i < s := by omega
    have hv := (hS.2.1 i his).1
    have hv6 := hv.2
    have hpl := (plc_inv hv).2
    have hBl := hS.2.2.2.2.2.2.2.2.1 _ hpl
    have q : (nI s ≤ nI i) = False := by rw [le_nI (by omega) (by omega)]; exact eq_false (by omega)
    have q2 : (nI 924 ≤ nI i) = False := by rw [le_nI (by omega) (by omega)]; exact eq_false (by omega)
    have e1 : nI (n + 1) - nI 1 = nI n := by rw [sub_nI (by omega)]; rfl
    have hts := tot_sh hv
    rw [st_X6_firstDoor_19]
    simp only [ltz]
    by_cases ht : tot (U i) = n
    · have q3 : (nI (tot (U i)) = nI n) = True := by rw [ht]; exact eq_true rfl
      obtain ⟨d', k1, k2, k3, k4⟩ := low_C (T := T) (x := x) hW hT hx hl h1 h2 h5 hh hr hv hBl
      have hmin := imin_nI (a := best) (b := d') (by omega) (by omega)
      simp (disch := omega) only [q, q2, ↓reduceIte, ↓rd_nI, hu i his, hts, e1, q3, ↓bind_of k2, hmin, ↓nm_eq, add_nI]
      refine ih (i + 1) m (min best d') (by omega) (by omega) (by omega) (fun hlt => ?_) (fun j hj hjn d hd => ?_)
      · by_cases hc : d' < best
        · rw [Nat.min_eq_right (by omega)] at hlt ⊢
          exact ⟨i, his, ht, k3 hlt⟩
        · rw [Nat.min_eq_left (by omega)] at hlt ⊢
          exact hb1 hlt
      · by_cases e : j = i
        · rw [e]; exact k4 d (by omega)
        · exact hb2 j (by omega) hjn d (by omega)
    · have q3 : (nI (tot (U i)) = nI n) = False := by rw [eq_nI (by omega) (by omega)]; exact eq_false ht
      simp (disch := omega) only [q, q2, ↓reduceIte, ↓rd_nI, hu i his, hts, e1, q3, ↓nm_eq, add_nI]
      refine ih (i + 1) m best (by omega) (by omega) hb hb1 (fun j hj hjn d hd => ?_)
      by_cases e : j = i
      · exact absurd hjn (by rw [e]; exact ht)
      · exact hb2 j (by omega) hjn d hd
/-- the class's first door: the lowest one of which a way of n + 1 doors from h begins -/
theorem fst_C {one other fits left : Nat → Int32} (hW : WDoors D) (hT : WTown T) (hx : x < 10) (hl : ∀ k, k < 6 → left k = nI (pn T (6 * x + k))) (h1 : ∀ d, d < 24 → one d = nI (on D d)) (h2 : ∀ d, d < 24 → other d = nI (ot D d)) (h5 : ∀ d, d < 24 → (dt D).testBit d = true → fits d = nI (fitS D d)) {h n : Nat} (hh : h ≤ 15) (hu : RdU used s U) (hr : RdR rooms B) (hS : SpB D (fun k => pn T (6 * x + k)) r0 s s U B) (hn : n + 1 ≤ 6) :
    ∃ best, best ≤ 24 ∧ f_X6_firstDoor (nI s) left used rooms (nI (dt D)) (nI (db D)) one other fits (nI h) (nI (n + 1)) = some (nI best) ∧ (best < 24 → ∃ V, RcF D (fun k => pn T (6 * x + k)) h best n V r0) ∧ (∀ d V, d < 24 → RcF D (fun k => pn T (6 * x + k)) h d n V r0 → best ≤ d) := by
  have c1 := unbarred_C hW
  have c2 := ofRoom_C h1 h2 hW (show h < 65536 by omega)
  have hs := hS.1
  obtain ⟨best, k1, k2, k3, k4⟩ := fstL_C (b2 := nI (db D)) (n := n) hW hT hx hl h1 h2 h5 hh hu hr hS (by omega) s 0 fu 24 (by omega) (fu_gt (by omega)) (by omega) (fun h => absurd h (by omega)) (fun j hj => absurd hj (by omega))
  refine ⟨best, k1, ?_, fun hb => ?_, fun d V hd hF => ?_⟩
  · unfold f_X6_firstDoor
    simp only [ltz]
    simp (disch := omega) only [↓bind_of c1, ↓bind_of c2, ↓nm_eq, and_nI]
    exact k2
  · obtain ⟨j, hj, ht, ho, ⟨r1, hr1, hbit⟩, k, hk, hf, hq⟩ := k3 hb
    have hR := hS.2.2.2.2.2.2.1 j hj r1 hbit
    rw [ht] at hR
    have hR' := RcN_sym hW n r0 (U j) r1 (by omega) hR
    exact ⟨U j + 8 ^ k, RcF_of hk ho hf hr1 n (U j) r0 hn hR' hq⟩
  · obtain ⟨k, v, r1, hk, g1, g2, g3, g4, g5, _⟩ := RcF_to n V r0 hn hF
    have hR' := RcN_sym hW n r1 v r0 (by omega) g4
    obtain ⟨j, hj, e, ht, hbit⟩ := sp_end hS (by omega) hR'
    by_cases hh' : best ≤ d
    · exact hh'
    · exact absurd ⟨g1, ⟨r1, g3, hbit⟩, k, hk, g2, by rw [e]; exact g5⟩ (k4 j hj ht d (by omega))
end RQ
