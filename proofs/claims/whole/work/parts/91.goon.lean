/-! REACH: the class's loops -/
def RdR (rooms : Nat → Int32) (B : Nat → Nat) : Prop := ∀ x, x < 924 → rooms x = nI (B x)
def RdU (used : Nat → Int32) (s : Nat) (U : Nat → Nat) : Prop := ∀ j, j < s → used j = nI (wy (U j))
theorem two3 (k : Nat) : 2 ^ (3 * k) = 8 ^ k := by rw [Nat.pow_mul]
theorem pow8_lt {k : Nat} (hk : k < 6) : 8 ^ k ≤ 32768 := Nat.le_trans (Nat.pow_le_pow_right (by omega) (show k ≤ 5 by omega)) (by decide)
theorem RdR_upd {rooms : Nat → Int32} {B : Nat → Nat} {x y : Nat} (h : RdR rooms B) : RdR (upd rooms x (nI y)) (updN B x y) := by
  intro z hz
  unfold upd updN
  by_cases e : z = x
  · rw [if_pos e, if_pos e]
  · rw [if_neg e, if_neg e]; exact h z hz
theorem RdU_upd {used : Nat → Int32} {s v : Nat} {U : Nat → Nat} (h : RdU used s U) : RdU (upd used s (nI (wy v))) (s + 1) (updN U s v) := by
  intro z hz
  unfold upd updN
  by_cases e : z = s
  · rw [if_pos e, if_pos e]
  · rw [if_neg e, if_neg e]; exact h z (by omega)
theorem goOnL_C {D : DS} {T : TS} {x r0 i : Nat} {next left : Nat → Int32} (hW : WDoors D) (hnx : ∀ k r, k < 6 → r < 16 → next (k * 16 + r) = nI (nxD D 24 k r)) {v H : Nat} (hv : VW v) (ht6 : tot v < 6) (hH : H < 65536) (hHc : ∀ r, H.testBit r = true ↔ RcN D (fun k => pn T (6 * x + k)) r0 (tot v) v r) (h15 : r0 ≤ 15) :
    ∀ (rem k m s : Nat) (used rooms : Nat → Int32) (U B : Nat → Nat), k + rem = 6 → rem < m → i < s → U i = v → RdU used s U → RdR rooms B → SpB D (fun k => pn T (6 * x + k)) r0 i s U B → (∀ k', k' < k → Dn D (fun k => pn T (6 * x + k)) r0 B v k') →
    ∃ s' used' rooms' U' B', L_X6_goOn_19 next left (nI (wy v)) (nI H) (nI (bitsN (frB T x v) 6)) m (nI k, nI s, used, rooms) = some (nI s', used', rooms') ∧ i < s' ∧ U' i = v ∧ RdU used' s' U' ∧ RdR rooms' B' ∧ SpB D (fun k => pn T (6 * x + k)) r0 i s' U' B' ∧ (∀ k', k' < 6 → Dn D (fun k => pn T (6 * x + k)) r0 B' v k') := by
  intro rem
  induction rem with
  | zero =>
    intro k m s used rooms U B hk hm hi hU hu hr hS hD
    obtain ⟨m, rfl⟩ : ∃ z, m = z + 1 := ⟨m - 1, by omega⟩
    obtain rfl : k = 6 := by omega
    have q : (nI 6 ≤ nI 6) = True := by rw [le_nI (by omega) (by omega)]; exact eq_true (by omega)
    rw [st_X6_goOn_19]
    simp only [ltz, q, ↓reduceIte]
    exact ⟨s, used, rooms, U, B, rfl, hi, hU, hu, hr, hS, hD⟩
  | succ rem ih =>
    intro k m s used rooms U B hk hm hi hU hu hr hS hD
    obtain ⟨m, rfl⟩ : ∃ z, m = z + 1 := ⟨m - 1, by omega⟩
    have hk6 : k < 6 := by omega
    have q : (nI 6 ≤ nI k) = False := by rw [le_nI (by omega) (by omega)]; exact eq_false (by omega)
    have hfl := bitsN_lt (frB T x v) 6
    have hfb := bit_of (n := bitsN (frB T x v) 6) (j := k) (by omega) (by omega)
    rw [bitsN_test, decide_eq_true hk6, Bool.true_and] at hfb
    rw [st_X6_goOn_19]
    simp only [ltz]
    by_cases hf : dg v k < pn T (6 * x + k)
    · have hf' : frB T x v k = true := decide_eq_true hf
      rw [hf', if_pos rfl] at hfb
      have c1 := roomsNext_C hW hnx hH hk6
      have htl := nbN_lt hW k H 16
      by_cases h0 : nbN D k H 16 = 0
      · rw [h0] at c1
        simp (disch := omega) only [q, ↓reduceIte, ↓jn_eq, hfb, n10, ↓bind_of c1, ↓nm_eq, add_nI]
        refine ih (k + 1) m s used rooms U B (by omega) (by omega) hi hU hu hr hS (fun k' hk' => ?_)
        by_cases e : k' = k
        · rw [e]
          intro _ _ r1 r hr1 ha
          have h1 := (hHc r1).2 hr1
          have := (nb_tb hW (k := k) (H := H) (r' := r)).2 ⟨r1, by have := (Adj_lt hW ha).2; omega, h1, ha⟩
          exact absurd h0 (tb_ne this)
        · exact hD k' (by omega)
      · have q0 : (nI (nbN D k H 16) = nI 0) = False := by rw [eq_nI (by omega) (by omega)]; exact eq_false h0
        obtain ⟨p1, p2, p3⟩ := pl_ok hv ht6 hk6
        have hpl := (plc_inv p1).2
        have c2 := placeOf_C p1
        have hsh : nI 1 <<< (nI (3 * k) &&& nI 31) = nI (8 ^ k) := by
          have := one_shl (j := 3 * k) (by omega)
          rw [two3] at this
          exact this
        have e1 : wy v + 8 ^ k + 262144 = wy (v + 8 ^ k) := (wy_p hv ht6 hk6).symm
        have hrd : rooms (plc (v + 8 ^ k)) = nI (B (plc (v + 8 ^ k))) := hr _ hpl
        have hBl := hS.2.2.2.2.2.2.2.2.1 _ hpl
        have hstep := sp_step (k := k) (t := nbN D k H 16) hS hi hk6 (by rw [hU]; exact ht6) (by rw [hU]; exact hf) (fun r hb => by
          obtain ⟨r1, _, a1, a2⟩ := (nb_tb hW).1 hb
          rw [hU]
          exact ⟨r1, (hHc r1).1 a1, a2⟩) h0 htl
        rw [hU] at hstep
        have hDn : ∀ k', k' < k + 1 → Dn D (fun k => pn T (6 * x + k)) r0 (updN B (plc (v + 8 ^ k)) (B (plc (v + 8 ^ k)) ||| nbN D k H 16)) v k' := by
          intro k' hk'
          by_cases e : k' = k
          · rw [e]
            intro _ _ r1 r hr1 ha
            show (if plc (v + 8 ^ k) = plc (v + 8 ^ k) then B (plc (v + 8 ^ k)) ||| nbN D k H 16 else _).testBit r = true
            rw [if_pos rfl, orB_tb]
            exact Or.inr ((nb_tb hW).2 ⟨r1, by have := (Adj_lt hW ha).2; omega, (hHc r1).2 hr1, ha⟩)
          · intro a b r1 r c d
            have h := hD k' (by omega) a b r1 r c d
            unfold updN
            split
            · rename_i e2
              rw [orB_tb]
              exact Or.inl (e2 ▸ h)
            · exact h
        by_cases hB : B (plc (v + 8 ^ k)) = 0
        · obtain ⟨hs, hS'⟩ := hstep.2 hB
          have q1 : (nI (B (plc (v + 8 ^ k))) = nI 0) = True := by rw [hB]; exact eq_true rfl
          have q2 : (nI 924 ≤ nI s) = False := by rw [le_nI (by omega) (by omega)]; exact eq_false (by omega)
          simp (disch := omega) only [q, ↓reduceIte, ↓jn_eq, hfb, n10, ↓bind_of c1, q0, mul_nI, hsh, e1, ↓nm_eq, ↓bind_of c2, ↓rd_nI, hrd, q1, q2, ↓wr_nI, or_nI, add_nI]
          refine ih (k + 1) m (s + 1) _ _ _ _ (by omega) (by omega) (by omega) ?_ (RdU_upd hu) (RdR_upd hr) hS' hDn
          show (if i = s then v + 8 ^ k else U i) = v
          rw [if_neg (by omega)]
          exact hU
        · have hS' := hstep.1 hB
          have q1 : (nI (B (plc (v + 8 ^ k))) = nI 0) = False := by rw [eq_nI (by omega) (by omega)]; exact eq_false hB
          simp (disch := omega) only [q, ↓reduceIte, ↓jn_eq, hfb, n10, ↓bind_of c1, q0, mul_nI, hsh, e1, ↓nm_eq, ↓bind_of c2, ↓rd_nI, hrd, q1, ↓wr_nI, or_nI, add_nI]
          exact ih (k + 1) m s _ _ _ _ (by omega) (by omega) hi hU hu (RdR_upd hr) hS' hDn
    · have hf' : frB T x v k = false := decide_eq_false hf
      rw [hf', if_neg (by decide)] at hfb
      simp (disch := omega) only [q, ↓reduceIte, ↓jn_eq, hfb, n00, ↓nm_eq, add_nI]
      refine ih (k + 1) m s used rooms U B (by omega) (by omega) hi hU hu hr hS (fun k' hk' => ?_)
      by_cases e : k' = k
      · rw [e]
        intro _ hq
        exact absurd hq hf
      · exact hD k' (by omega)
theorem spreadL_C {D : DS} {T : TS} {x r0 : Nat} {next left : Nat → Int32} {b1 b2 b3 : Int32} {b4 b5 b6 b7 : Nat → Int32} (hW : WDoors D) (hT : WTown T) (hx : x < 10) (hnx : ∀ k r, k < 6 → r < 16 → next (k * 16 + r) = nI (nxD D 24 k r)) (hl : ∀ k, k < 6 → left k = nI (pn T (6 * x + k))) (h15 : r0 ≤ 15) :
    ∀ (rem i m s : Nat) (used rooms : Nat → Int32) (U B : Nat → Nat), i + rem = 924 → rem < m → i ≤ s → RdU used s U → RdR rooms B → SpB D (fun k => pn T (6 * x + k)) r0 i s U B →
    ∃ s' used' rooms' U' B', L_X6_spread_68 next left b1 b2 b4 b5 b6 b3 b7 m (nI i, nI s, used, rooms) = some (nI s', next, left, used', rooms') ∧ RdU used' s' U' ∧ RdR rooms' B' ∧ SpB D (fun k => pn T (6 * x + k)) r0 s' s' U' B' := by
  intro rem
  induction rem with
  | zero =>
    intro i m s used rooms U B hi hm his hu hr hS
    obtain ⟨m, rfl⟩ : ∃ z, m = z + 1 := ⟨m - 1, by omega⟩
    have hs := hS.1
    obtain rfl : i = s := by omega
    have q : (nI i ≤ nI i) = True := by rw [le_nI (by omega) (by omega)]; exact eq_true (by omega)
    rw [st_X6_spread_68]
    simp only [ltz, q, ↓reduceIte]
    exact ⟨i, used, rooms, U, B, rfl, hu, hr, hS⟩
  | succ rem ih =>
    intro i m s used rooms U B hi hm his hu hr hS
    obtain ⟨m, rfl⟩ : ∃ z, m = z + 1 := ⟨m - 1, by omega⟩
    have hs := hS.1
    by_cases hend : i = s
    · subst hend
      have q : (nI i ≤ nI i) = True := by rw [le_nI (by omega) (by omega)]; exact eq_true (by omega)
      rw [st_X6_spread_68]
      simp only [ltz, q, ↓reduceIte]
      exact ⟨i, used, rooms, U, B, rfl, hu, hr, hS⟩
    · have hi' : i < s := by omega
      have hS0 := hS
      obtain ⟨g1, g2, g3, g4, g5, g6, g7, g8, g9, g10⟩ := hS
      have q : (nI s ≤ nI i) = False := by rw [le_nI (by omega) (by omega)]; exact eq_false (by omega)
      have q2 : (nI 924 ≤ nI i) = False := by rw [le_nI (by omega) (by omega)]; exact eq_false (by omega)
      have hv := (g2 i hi').1
      have hwl := wy_lt hv
      have hui := hu i hi'
      have hsh : nI (wy (U i)) >>> (nI 18 &&& nI 31) = nI (tot (U i)) := by
        have : nI (wy (U i)) >>> (nI 18 &&& nI 31) = nI (wy (U i) / 2 ^ 18) := shr_nI (by omega) (by omega)
        rw [this]
        congr 1
        have h1 := hv.1
        unfold wy
        show _ / 262144 = _
        omega
      have nx5 : ∀ U' B' s', i < s' → SpB D (fun k => pn T (6 * x + k)) r0 i s' U' B' → (∀ k', k' < 6 → Dn D (fun k => pn T (6 * x + k)) r0 B' (U' i) k') → SpB D (fun k => pn T (6 * x + k)) r0 (i + 1) s' U' B' := by
        intro U' B' s' hi2 h hd
        obtain ⟨a1, a2, a3, a4, a5, a6, a7, a8, a9, a10⟩ := h
        refine ⟨a1, a2, a3, a4, fun a b ha => a5 a b (by omega), a6, a7, a8, a9, fun j hj k hk => ?_⟩
        by_cases e : j = i
        · rw [e]; exact hd k hk
        · exact a10 j (by omega) k hk
      have ht6le := hv.2
      rw [st_X6_spread_68]
      by_cases ht : tot (U i) < 6
      · have q3 : (nI 6 ≤ nI (tot (U i))) = False := by rw [le_nI (by omega) (by omega)]; exact eq_false (by omega)
        have hpl := (plc_inv hv).2
        have hHc : ∀ r, (B (plc (U i))).testBit r = true ↔ RcN D (fun k => pn T (6 * x + k)) r0 (tot (U i)) (U i) r := fun r => ⟨fun h => g7 i hi' r h, fun h => sp_all hS0 (n := tot (U i)) (fun j hj hlt => by
          by_cases e : j < i
          · exact e
          · have := g4 i j (by omega) hj
            omega) (tot (U i)) (U i) r (Nat.le_refl _) hv.2 h⟩
        have c1 := placeOf_C hv
        have hrd := hr _ hpl
        have c2 := freeKinds_C hT hx hl hv
        obtain ⟨s', used', rooms', U', B', k1, k2, k3, k4, k5, k6, k7⟩ := goOnL_C (left := left) hW hnx hv ht (g9 _ hpl) hHc h15 6 0 fu s used rooms U B rfl (fu_gt (by omega)) hi' rfl hu hr hS0 (fun k' hk' => absurd hk' (by omega))
        have c3 : f_X6_goOn (nI s) next left used rooms (nI (wy (U i))) = some (nI s', used', rooms') := by
          unfold f_X6_goOn
          simp only [ltz]
          simp (disch := omega) only [↓bind_of c1, ↓rd_nI, hrd, ↓bind_of c2, k1]
        simp only [ltz]
        simp (disch := omega) only [q, q2, ↓reduceIte, ↓rd_nI, hui, hsh, q3, ↓bind_of c3, ↓nm_eq, add_nI]
        exact ih (i + 1) m s' used' rooms' U' B' (by omega) (by omega) (by omega) k4 k5 (nx5 U' B' s' k2 k6 (fun k' hk' => by rw [k3]; exact k7 k' hk'))
      · have q3 : (nI 6 ≤ nI (tot (U i))) = True := by rw [le_nI (by omega) (by omega)]; exact eq_true (by omega)
        simp only [ltz]
        simp (disch := omega) only [q, q2, ↓reduceIte, ↓rd_nI, hui, hsh, q3, ↓nm_eq, add_nI]
        exact ih (i + 1) m s used rooms U B (by omega) (by omega) (by omega) hu hr (nx5 U B s hi' hS0 (fun k' hk' h => absurd h ht))
theorem leftL_C {T : TS} {x : Nat} {now : Nat → Int32} {b1 b2 b3 : Int32} {t1 t2 t3 t4 t5 t6 pins : Nat → Int32} {x4 : Int32} (hM : MTown now T) (hT : WTown T) (hx : x < 10) (hb : (tt T).testBit x = true) (hp : ∀ j, j < 60 → pins j = nI (pn T j)) (left : Nat → Int32) (k0 : (Nat → Int32) → Option (Int32 × (Nat → Int32) × (Nat → Int32) × (Nat → Int32) × (Nat → Int32))) : L_X6_spread_8 b1 t1 t2 t3 b2 b3 t4 t5 t6 (nI (tt T)) pins (nI x) x4 k0 fu (nI 0, left) = k0 (mixN 6 (fun k => nI (pn T (6 * x + k))) left) := by
  unfold L_X6_spread_8
  refine lp_run0 (fun k => (nI k, mixN k (fun k => nI (pn T (6 * x + k))) left)) 6 _ (by show _ = (nI 0, mixN 0 _ left); rw [mix_0]) ?_ ?_ (fu_gt (by omega))
  · intro go k hk
    have q : (nI 6 ≤ nI k) = False := by rw [le_nI (by omega) (by omega)]; exact eq_false (by omega)
    have u1 := pok_C hp hT hx hk
    have e4 : upd (mixN k (fun k => nI (pn T (6 * x + k))) left) k (nI (pn T (6 * x + k))) = mixN (k + 1) (fun k => nI (pn T (6 * x + k))) left := mix_s k (fun k => nI (pn T (6 * x + k))) left
    simp only [ltz]
    simp (disch := omega) only [q, ↓reduceIte, ↓bind_of u1, add_nI, ↓wr_nI, ↓nm_eq, e4]
  · intro go
    have q : (nI 6 ≤ nI 6) = True := by rw [le_nI (by omega) (by omega)]; exact eq_true (by omega)
    simp only [ltz, q, ↓reduceIte]
theorem plc0 : plc 0 = 0 := by decide +kernel
theorem wy0 : wy 0 = 0 := by decide +kernel
theorem spread_C {D : DS} {T : TS} {x r0 : Nat} {now sz : Nat → Int32} {size : Int32} {next left used rooms one other fits pins : Nat → Int32} (hM : MTown now T) (hT : WTown T) (hx : x < 10) (hb : (tt T).testBit x = true) (hp : ∀ j, j < 60 → pins j = nI (pn T j)) (hW : WDoors D) (h1 : ∀ d, d < 24 → one d = nI (on D d)) (h2 : ∀ d, d < 24 → other d = nI (ot D d)) (h5 : ∀ d, d < 24 → (dt D).testBit d = true → fits d = nI (fitS D d)) (h15 : r0 ≤ 15) :
    ∃ s next' left' used' rooms' U B, f_X6_spread size next left used rooms (nI (dt D)) (nI (db D)) one other fits (nI (tt T)) pins (nI x) (nI r0) = some (nI s, next', left', used', rooms') ∧ (∀ k, k < 6 → left' k = nI (pn T (6 * x + k))) ∧ RdU used' s U ∧ RdR rooms' B ∧ SpB D (fun k => pn T (6 * x + k)) r0 s s U B := by
  obtain ⟨nx, j1, j2⟩ := join_C (next := next) hW h1 h2 h5
  have c0 := fill_N (n := 924) (by omega) rooms
  have hsh : nI 1 <<< (nI r0 &&& nI 31) = nI (2 ^ r0) := one_shl (by omega)
  have h2p : 2 ^ r0 < 65536 := Nat.pow_lt_pow_right (n := 16) (by omega) (by omega)
  have hB : RdR (upd (mixN 924 (fun _ => nI 0) rooms) 0 (nI (2 ^ r0))) (updN (fun _ => 0) 0 (2 ^ r0)) := RdR_upd (fun z hz => mix_lt hz)
  have hU : RdU (upd used 0 (nI 0)) 1 (fun _ => 0) := fun j hj => by
    obtain rfl : j = 0 := by omega
    rw [upd_at, wy0]
  have b0 : updN (fun _ => 0) 0 (2 ^ r0) (plc 0) = 2 ^ r0 := by rw [plc0]; rfl
  have hS : SpB D (fun k => pn T (6 * x + k)) r0 0 1 (fun _ => 0) (updN (fun _ => 0) 0 (2 ^ r0)) := by
    refine ⟨by omega, fun j hj => ⟨VW0.1, ?_⟩, fun a b ha hb' _ => by omega, fun a b _ _ => Nat.le_refl _, fun a b _ _ _ => Nat.le_succ _, fun z hz hz0 => ?_, fun j hj r hr => ?_, ?_, fun z hz => ?_, fun j hj => absurd hj (by omega)⟩
    · rw [b0]
      have := Nat.two_pow_pos r0
      omega
    · refine ⟨0, by omega, ?_⟩
      rw [plc0]
      by_cases e : z = 0
      · exact e.symm
      · have : updN (fun _ => 0) 0 (2 ^ r0) z = 0 := if_neg e
        exact absurd this hz0
    · rw [b0, Nat.testBit_two_pow] at hr
      rw [VW0.2.1]
      exact ⟨rfl, (of_decide_eq_true hr).symm⟩
    · rw [b0, Nat.testBit_two_pow_self]
    · unfold updN
      split
      · exact h2p
      · show 0 < 65536
        omega
  have hl' : ∀ k, k < 6 → mixN 6 (fun k => nI (pn T (6 * x + k))) left k = nI (pn T (6 * x + k)) := fun k hk => mix_lt hk
  obtain ⟨s', used', rooms', U', B', k1, k2, k3, k4⟩ := spreadL_C (b1 := nI (dt D)) (b2 := nI (db D)) (b3 := nI (tt T)) (b4 := one) (b5 := other) (b6 := fits) (b7 := pins) hW hT hx j2 hl' h15 924 0 fu 1 _ _ _ _ rfl (fu_gt (by omega)) (by omega) hU hB hS
  unfold f_X6_spread
  simp only [ltz]
  rw [bind_of j1, leftL_C hM hT hx hb hp]
  simp (disch := omega) only [↓bind_of c0, ↓wr_nI, hsh, k1]
  exact ⟨s', nx, _, used', rooms', U', B', rfl, hl', k2, k3, k4⟩
