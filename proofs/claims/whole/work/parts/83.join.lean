/-! REACH: joining the rooms; a way further -/
theorem st_X6_joinRooms_24 (p1_told : Int32) (p1_barred : Int32) (p1_one : (Nat → Int32)) (p1_other : (Nat → Int32)) (p1_fits : (Nat → Int32)) (x2 : Int32) (x3 : Int32) (k0 : (Nat → Int32) → Option ((Nat → Int32))) (m : Nat) (s : Int32 × (Nat → Int32)) : L_X6_joinRooms_24 p1_told p1_barred p1_one p1_other p1_fits x2 x3 k0 (m + 1) s = (if (6 : Int32) ≤ s.1 then (k0 s.2) else if ((x2 >>> (x3 &&& 31)) &&& (1 : Int32)) = 0 then (nm (s.1 + (1 : Int32)) fun v3 => (L_X6_joinRooms_24 p1_told p1_barred p1_one p1_other p1_fits x2 x3 k0 m) (v3, s.2)) else rd p1_fits 24 x3 fun v4 => if ((v4 >>> (s.1 &&& 31)) &&& (1 : Int32)) = 0 then (nm (s.1 + (1 : Int32)) fun v5 => (L_X6_joinRooms_24 p1_told p1_barred p1_one p1_other p1_fits x2 x3 k0 m) (v5, s.2)) else rd p1_one 24 x3 fun v6 => nm ((s.1 * (16 : Int32)) + v6) fun v7 => rd s.2 96 v7 fun v8 => rd p1_other 24 x3 fun v9 => wr s.2 96 v7 (v8 ||| ((1 : Int32) <<< (v9 &&& 31))) fun g10 => rd p1_other 24 x3 fun v11 => nm ((s.1 * (16 : Int32)) + v11) fun v12 => rd g10 96 v12 fun v13 => rd p1_one 24 x3 fun v14 => wr g10 96 v12 (v13 ||| ((1 : Int32) <<< (v14 &&& 31))) fun g15 => nm (s.1 + (1 : Int32)) fun v16 => (L_X6_joinRooms_24 p1_told p1_barred p1_one p1_other p1_fits x2 x3 k0 m) (v16, g15)) := rfl
theorem st_X6_joinRooms_15 (p1_told : Int32) (p1_barred : Int32) (p1_one : (Nat → Int32)) (p1_other : (Nat → Int32)) (p1_fits : (Nat → Int32)) (x2 : Int32) (m : Nat) (s : Int32 × (Nat → Int32)) : L_X6_joinRooms_15 p1_told p1_barred p1_one p1_other p1_fits x2 (m + 1) s = (if (24 : Int32) ≤ s.1 then (some s.2) else L_X6_joinRooms_24 p1_told p1_barred p1_one p1_other p1_fits x2 s.1 (fun s17 => nm (s.1 + (1 : Int32)) fun v18 => (L_X6_joinRooms_15 p1_told p1_barred p1_one p1_other p1_fits x2 m) (v18, s17)) fu ((0 : Int32), s.2)) := rfl
theorem nxD_s (D : DS) (d k r : Nat) : nxD D (d + 1) k r = nxD D d k r ||| edW D d k r := rfl
/-- after door d's kinds below k have been joined -/
def nxK (D : DS) (d k k' r : Nat) : Nat := if k' < k then nxD D (d + 1) k' r else nxD D d k' r
theorem joinL_C {D : DS} {told barred : Int32} {one other fits : Nat → Int32} (hW : WDoors D) (h1 : ∀ d, d < 24 → one d = nI (on D d)) (h2 : ∀ d, d < 24 → other d = nI (ot D d)) (h5 : ∀ d, d < 24 → (dt D).testBit d = true → fits d = nI (fitS D d)) {d : Nat} (hd : d < 24) (k0 : _) : ∀ (r k m : Nat) (nx : Nat → Int32), k + r = 6 → r < m → (∀ k' q, k' < 6 → q < 16 → nx (k' * 16 + q) = nI (nxK D d k k' q)) → ∃ nx', L_X6_joinRooms_24 told barred one other fits (nI (und D)) (nI d) k0 m (nI k, nx) = k0 nx' ∧ (∀ k' q, k' < 6 → q < 16 → nx' (k' * 16 + q) = nI (nxD D (d + 1) k' q)) := by
  have hlu := und_lt D
  have hb := bit_of (n := und D) (j := d) (by omega) (by omega)
  rw [und_tb D hd] at hb
  obtain ⟨g1, g2, _⟩ := hW.2.2.2.1 d hd
  intro r
  induction r with
  | zero =>
    intro k m nx hk hm hnx
    obtain ⟨m, rfl⟩ : ∃ z, m = z + 1 := ⟨m - 1, by omega⟩
    have q : (nI 6 ≤ nI k) = True := by rw [le_nI (by omega) (by omega)]; exact eq_true (by omega)
    rw [st_X6_joinRooms_24]
    simp only [ltz, q, ↓reduceIte]
    refine ⟨nx, rfl, fun k' q h3 h4 => ?_⟩
    rw [hnx k' q h3 h4]
    unfold nxK
    rw [if_pos (by omega)]
  | succ r ih =>
    intro k m nx hk hm hnx
    obtain ⟨m, rfl⟩ : ∃ z, m = z + 1 := ⟨m - 1, by omega⟩
    have hk6 : k < 6 := by omega
    have q : (nI 6 ≤ nI k) = False := by rw [le_nI (by omega) (by omega)]; exact eq_false (by omega)
    rw [st_X6_joinRooms_24]
    simp only [ltz]
    -- nothing to join
    have none_ : (opn D d && fitB D d k) = false → ∀ k' q, k' < 6 → q < 16 → nx (k' * 16 + q) = nI (nxK D d (k + 1) k' q) := by
      intro hc k' q h3 h4
      rw [hnx k' q h3 h4]
      unfold nxK
      by_cases e : k' = k
      · subst e
        rw [if_neg (by omega), if_pos (by omega), nxD_s]
        unfold edW
        rw [if_neg (by rw [hc]; decide), Nat.or_zero]
      · by_cases e2 : k' < k
        · rw [if_pos e2, if_pos (by omega)]
        · rw [if_neg e2, if_neg (by omega)]
    rcases Bool.eq_false_or_eq_true (opn D d) with ho | ho
    · rw [ho, if_pos rfl] at hb
      have htold := opn_told ho
      have hne := hW.2.2.2.2.1 d hd htold
      have hf := h5 d hd htold
      have hfl := fitS_lt D d
      have hfb := bit_of (n := fitS D d) (j := k) (by omega) (by omega)
      rw [fitS_tb hk6] at hfb
      rcases Bool.eq_false_or_eq_true (fitB D d k) with hk2 | hk2
      · rw [hk2, if_pos rfl] at hfb
        have hj1 : k * 16 + on D d < 96 := by omega
        have hj2 : k * 16 + ot D d < 96 := by omega
        have v1 := hnx k (on D d) hk6 (by omega)
        have v2 := hnx k (ot D d) hk6 (by omega)
        have hlt : ∀ q, nxK D d k k q < 65536 := fun q => by
          unfold nxK
          split
          · exact nxD_lt hW (by omega)
          · exact nxD_lt hW (by omega)
        have s1 : nI 1 <<< (nI (ot D d) &&& nI 31) = nI (2 ^ ot D d) := one_shl (by omega)
        have s2 : nI 1 <<< (nI (on D d) &&& nI 31) = nI (2 ^ on D d) := one_shl (by omega)
        have v2' : upd nx (k * 16 + on D d) (nI (nxK D d k k (on D d) ||| 2 ^ ot D d)) (k * 16 + ot D d) = nI (nxK D d k k (ot D d)) := by rw [upd_ne _ _ (by omega)]; exact v2
        simp (disch := omega) only [↓reduceIte, ↓some_bind, ↓nm_eq, ↓jn_eq, ↓wr_nI, ↓rd_nI, n10, n00, q, hb, hf, hfb, h1 d hd, h2 d hd, mul_nI, add_nI, v1, s1, or_nI, v2', s2]
        refine ih (k + 1) m _ (by omega) (by omega) (fun k' z h3 h4 => ?_)
        by_cases e : k' = k
        · rw [e]
          have hz : nxK D d (k + 1) k z = nxD D d k z ||| ((if on D d = z then 2 ^ ot D d else 0) ||| (if ot D d = z then 2 ^ on D d else 0)) := by
            unfold nxK
            rw [if_pos (show k < k + 1 by omega), nxD_s]
            unfold edW
            rw [ho, hk2]
            rfl
          have hk0' : ∀ y, nxK D d k k y = nxD D d k y := fun y => by unfold nxK; rw [if_neg (by omega)]
          rw [hz]
          by_cases e1 : z = ot D d
          · rw [e1, upd_at, hk0', if_neg hne, if_pos rfl, Nat.zero_or]
          · rw [upd_ne _ _ (by omega)]
            by_cases e2 : z = on D d
            · rw [e2, upd_at, hk0', if_pos rfl, if_neg (fun h => e1 (e2.trans h.symm)), Nat.or_zero]
            · rw [upd_ne _ _ (by omega), hnx k z hk6 h4, hk0', if_neg (fun h => e2 h.symm), if_neg (fun h => e1 h.symm), Nat.or_zero, Nat.or_zero]
        · rw [upd_ne _ _ (by omega), upd_ne _ _ (by omega), hnx k' z h3 h4]
          unfold nxK
          by_cases e2 : k' < k
          · rw [if_pos e2, if_pos (by omega)]
          · rw [if_neg e2, if_neg (by omega)]
      · rw [hk2, if_neg (by decide)] at hfb
        simp (disch := omega) only [↓reduceIte, ↓some_bind, ↓nm_eq, ↓jn_eq, ↓wr_nI, ↓rd_nI, n10, n00, q, hb, hf, hfb, add_nI]
        exact ih (k + 1) m nx (by omega) (by omega) (none_ (by rw [hk2, Bool.and_false]))
    · rw [ho, if_neg (by decide)] at hb
      simp (disch := omega) only [↓reduceIte, ↓some_bind, ↓nm_eq, ↓jn_eq, ↓wr_nI, ↓rd_nI, n10, n00, q, hb, add_nI]
      exact ih (k + 1) m nx (by omega) (by omega) (none_ (by rw [ho, Bool.false_and]))
theorem joinD_C {D : DS} {told barred : Int32} {one other fits : Nat → Int32} (hW : WDoors D) (h1 : ∀ d, d < 24 → one d = nI (on D d)) (h2 : ∀ d, d < 24 → other d = nI (ot D d)) (h5 : ∀ d, d < 24 → (dt D).testBit d = true → fits d = nI (fitS D d)) : ∀ (r d m : Nat) (nx : Nat → Int32), d + r = 24 → r < m → (∀ k' q, k' < 6 → q < 16 → nx (k' * 16 + q) = nI (nxD D d k' q)) → ∃ nx', L_X6_joinRooms_15 told barred one other fits (nI (und D)) m (nI d, nx) = some nx' ∧ (∀ k' q, k' < 6 → q < 16 → nx' (k' * 16 + q) = nI (nxD D 24 k' q)) := by
  intro r
  induction r with
  | zero =>
    intro d m nx hd hm hnx
    obtain ⟨m, rfl⟩ : ∃ z, m = z + 1 := ⟨m - 1, by omega⟩
    obtain rfl : d = 24 := by omega
    have q : (nI 24 ≤ nI 24) = True := by rw [le_nI (by omega) (by omega)]; exact eq_true (by omega)
    rw [st_X6_joinRooms_15]
    simp only [ltz, q, ↓reduceIte]
    exact ⟨nx, rfl, hnx⟩
  | succ r ih =>
    intro d m nx hd hm hnx
    obtain ⟨m, rfl⟩ : ∃ z, m = z + 1 := ⟨m - 1, by omega⟩
    have q : (nI 24 ≤ nI d) = False := by rw [le_nI (by omega) (by omega)]; exact eq_false (by omega)
    rw [st_X6_joinRooms_15]
    simp only [ltz]
    simp (disch := omega) only [↓reduceIte, ↓some_bind, ↓nm_eq, ↓jn_eq, ↓wr_nI, ↓rd_nI, n10, n00, q, add_nI]
    obtain ⟨nx1, k1, k2⟩ := joinL_C (told := told) (barred := barred) hW h1 h2 h5 (show d < 24 by omega) (fun s17 => nm (nI d + nI 1) fun v18 => L_X6_joinRooms_15 told barred one other fits (nI (und D)) m (v18, s17)) 6 0 fu nx rfl (fu_gt (by omega)) (fun k' q h3 h4 => by rw [hnx k' q h3 h4]; unfold nxK; rw [if_neg (by omega)])
    simp only [nm_eq, add_nI] at k1
    rw [k1]
    exact ih (d + 1) m nx1 (by omega) (by omega) k2
theorem join_C {D : DS} {one other fits next : Nat → Int32} (hW : WDoors D) (h1 : ∀ d, d < 24 → one d = nI (on D d)) (h2 : ∀ d, d < 24 → other d = nI (ot D d)) (h5 : ∀ d, d < 24 → (dt D).testBit d = true → fits d = nI (fitS D d)) : ∃ nx', f_X6_joinRooms next (nI (dt D)) (nI (db D)) one other fits = some nx' ∧ (∀ k q, k < 6 → q < 16 → nx' (k * 16 + q) = nI (nxD D 24 k q)) := by
  have c1 := fill_N (n := 96) (by omega) next
  have c2 := unbarred_C hW
  unfold f_X6_joinRooms
  simp only [ltz]
  simp only [↓bind_of c1, ↓bind_of c2]
  exact joinD_C hW h1 h2 h5 24 0 fu _ rfl (fu_gt (by omega)) (fun k q h3 h4 => mix_lt (by omega))
