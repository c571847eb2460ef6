/-! REACH: how the class spreads -/
theorem st_X6_goOn_19 (t_next : (Nat → Int32)) (t_left : (Nat → Int32)) (x1 : Int32) (x2 : Int32) (x3 : Int32) (m : Nat) (s : Int32 × Int32 × (Nat → Int32) × (Nat → Int32)) : L_X6_goOn_19 t_next t_left x1 x2 x3 (m + 1) s = (if (6 : Int32) ≤ s.1 then (some (s.2.1, s.2.2.1, s.2.2.2)) else jn (fun s4 : Int32 => if s4 = 0 then (nm (s.1 + (1 : Int32)) fun v5 => (L_X6_goOn_19 t_next t_left x1 x2 x3 m) (v5, s.2.1, s.2.2.1, s.2.2.2)) else nm ((x1 + ((1 : Int32) <<< (((3 : Int32) * s.1) &&& 31))) + (262144 : Int32)) fun v6 => (f_X6_placeOf v6).bind fun u7 => rd s.2.2.2 924 u7 fun v8 => jn (fun s9 : Int32 × (Nat → Int32) => rd s.2.2.2 924 u7 fun v10 => wr s.2.2.2 924 u7 (v10 ||| s4) fun g11 => nm (s.1 + (1 : Int32)) fun v12 => (L_X6_goOn_19 t_next t_left x1 x2 x3 m) (v12, s9.1, s9.2, g11)) fun j114 => if v8 = 0 then (if (924 : Int32) ≤ s.2.1 then (j114 (s.2.1, s.2.2.1)) else wr s.2.2.1 924 s.2.1 v6 fun g13 => nm (s.2.1 + (1 : Int32)) fun v14 => j114 (v14, g13)) else j114 (s.2.1, s.2.2.1)) fun j46 => if ((x3 >>> (s.1 &&& 31)) &&& (1 : Int32)) = 0 then (j46 (0 : Int32)) else (f_X6_roomsNextTo t_next x2 s.1).bind fun u15 => j46 u15) := rfl
theorem st_X6_spread_68 (t_next : (Nat → Int32)) (t_left : (Nat → Int32)) (p1_told : Int32) (p1_barred : Int32) (p1_one : (Nat → Int32)) (p1_other : (Nat → Int32)) (p1_fits : (Nat → Int32)) (p2_told : Int32) (p2_pins : (Nat → Int32)) (m : Nat) (s : Int32 × Int32 × (Nat → Int32) × (Nat → Int32)) : L_X6_spread_68 t_next t_left p1_told p1_barred p1_one p1_other p1_fits p2_told p2_pins (m + 1) s = (if s.2.1 ≤ s.1 then (some (s.2.1, t_next, t_left, s.2.2.1, s.2.2.2)) else if (924 : Int32) ≤ s.1 then (some (s.2.1, t_next, t_left, s.2.2.1, s.2.2.2)) else rd s.2.2.1 924 s.1 fun v11 => if (6 : Int32) ≤ (v11 >>> ((18 : Int32) &&& 31)) then (nm (s.1 + (1 : Int32)) fun v12 => (L_X6_spread_68 t_next t_left p1_told p1_barred p1_one p1_other p1_fits p2_told p2_pins m) (v12, s.2.1, s.2.2.1, s.2.2.2)) else rd s.2.2.1 924 s.1 fun v13 => (f_X6_goOn s.2.1 t_next t_left s.2.2.1 s.2.2.2 v13).bind fun u14 => nm (s.1 + (1 : Int32)) fun v15 => (L_X6_spread_68 t_next t_left p1_told p1_barred p1_one p1_other p1_fits p2_told p2_pins m) (v15, u14.1, u14.2.1, u14.2.2)) := rfl
theorem st_X6_spread_8 (t_size : Int32) (t_next : (Nat → Int32)) (t_used : (Nat → Int32)) (t_rooms : (Nat → Int32)) (p1_told : Int32) (p1_barred : Int32) (p1_one : (Nat → Int32)) (p1_other : (Nat → Int32)) (p1_fits : (Nat → Int32)) (p2_told : Int32) (p2_pins : (Nat → Int32)) (x3 : Int32) (x4 : Int32) (k0 : (Nat → Int32) → Option (Int32 × (Nat → Int32) × (Nat → Int32) × (Nat → Int32) × (Nat → Int32))) (m : Nat) (s : Int32 × (Nat → Int32)) : L_X6_spread_8 t_size t_next t_used t_rooms p1_told p1_barred p1_one p1_other p1_fits p2_told p2_pins x3 x4 k0 (m + 1) s = (if (6 : Int32) ≤ s.1 then (k0 s.2) else (f_X9_pinsOfKind p2_told p2_pins x3 s.1).bind fun u2 => wr s.2 6 s.1 u2 fun g3 => nm (s.1 + (1 : Int32)) fun v4 => (L_X6_spread_8 t_size t_next t_used t_rooms p1_told p1_barred p1_one p1_other p1_fits p2_told p2_pins x3 x4 k0 m) (v4, g3)) := rfl
def Dn (D : DS) (Q : Nat → Nat) (r0 : Nat) (B : Nat → Nat) (v k : Nat) : Prop := tot v < 6 → dg v k < Q k → ∀ r1 r, RcN D Q r0 (tot v) v r1 → Adj D k r1 r → (B (plc (v + 8 ^ k))).testBit r = true
/-- ways U 0 .. U (s - 1), rooms B by their places; the first i have been gone on from -/
def SpB (D : DS) (Q : Nat → Nat) (r0 i s : Nat) (U B : Nat → Nat) : Prop := s ≤ 924 ∧ (∀ j, j < s → VW (U j) ∧ B (plc (U j)) ≠ 0) ∧ (∀ a b, a < s → b < s → U a = U b → a = b) ∧ (∀ a b, a ≤ b → b < s → tot (U a) ≤ tot (U b)) ∧ (∀ a b, i ≤ a → a < s → b < s → tot (U b) ≤ tot (U a) + 1) ∧ (∀ x, x < 924 → B x ≠ 0 → ∃ j, j < s ∧ plc (U j) = x) ∧ (∀ j, j < s → ∀ r, (B (plc (U j))).testBit r = true → RcN D Q r0 (tot (U j)) (U j) r) ∧ (B (plc 0)).testBit r0 = true ∧ (∀ x, x < 924 → B x < 65536) ∧ (∀ j, j < i → ∀ k, k < 6 → Dn D Q r0 B (U j) k)
theorem tb_ne {n i : Nat} (h : n.testBit i = true) : n ≠ 0 := fun e => by rw [e, Nat.zero_testBit] at h; cases h
theorem sp_all {D : DS} {Q : Nat → Nat} {r0 i s : Nat} {U B : Nat → Nat} (h : SpB D Q r0 i s U B) {n : Nat} (hp : ∀ j, j < s → tot (U j) < n → j < i) : ∀ m v r, m ≤ n → m ≤ 6 → RcN D Q r0 m v r → (B (plc v)).testBit r = true := by
  obtain ⟨g1, g2, g3, g4, g5, g6, g7, g8, g9, g10⟩ := h
  intro m
  induction m with
  | zero =>
    intro v r _ _ hr
    obtain ⟨rfl, rfl⟩ := hr
    exact g8
  | succ m ih =>
    intro v r hm h6 hr
    obtain ⟨k, v1, r1, hk, h1, h2, rfl, h4⟩ := hr
    obtain ⟨a1, a2⟩ := RcN_ok m v1 r1 (by omega) h1
    have hb := ih v1 r1 (by omega) (by omega) h1
    obtain ⟨j, hj, he⟩ := g6 (plc v1) (plc_inv a1).2 (tb_ne hb)
    have e : U j = v1 := plc_inj (g2 j hj).1 a1 he
    have hji := hp j hj (by rw [e, a2]; omega)
    have := g10 j hji k hk
    rw [e] at this
    exact this (by rw [a2]; omega) h2 r1 r (by rw [a2]; exact h1) h4
theorem orB_tb (a b i : Nat) : (a ||| b).testBit i = true ↔ a.testBit i = true ∨ b.testBit i = true := by rw [Nat.testBit_or, Bool.or_eq_true]
theorem or_ne {a b : Nat} (h : a ≠ 0 ∨ b ≠ 0) : a ||| b ≠ 0 := fun e => by
  have h1 : a = 0 := by
    apply Nat.eq_of_testBit_eq
    intro i
    have := congrArg (fun n => n.testBit i) e
    simp at this
    simp [this.1]
  have h2 : b = 0 := by
    apply Nat.eq_of_testBit_eq
    intro i
    have := congrArg (fun n => n.testBit i) e
    simp at this
    simp [this.2]
  rcases h with h | h
  · exact h h1
  · exact h h2
theorem ne_tb {n : Nat} (h : n ≠ 0) : ∃ i, n.testBit i = true := by
  by_cases hh : ∃ i, n.testBit i = true
  · exact hh
  · exact absurd (Nat.eq_of_testBit_eq (fun i => by
      rw [Nat.zero_testBit]
      cases hc : n.testBit i
      · rfl
      · exact absurd ⟨i, hc⟩ hh)) h
def updN (B : Nat → Nat) (x y : Nat) : Nat → Nat := fun i => if i = x then y else B i
/-- a way more, or more rooms of one -/
theorem sp_step {D : DS} {Q : Nat → Nat} {r0 i s k t : Nat} {U B : Nat → Nat} (h : SpB D Q r0 i s U B) (hi : i < s) (hk : k < 6) (ht6 : tot (U i) < 6) (hq : dg (U i) k < Q k) (hr : ∀ r, t.testBit r = true → ∃ r1, RcN D Q r0 (tot (U i)) (U i) r1 ∧ Adj D k r1 r) (ht0 : t ≠ 0) (ht : t < 65536) :
    (B (plc (U i + 8 ^ k)) ≠ 0 → SpB D Q r0 i s U (updN B (plc (U i + 8 ^ k)) (B (plc (U i + 8 ^ k)) ||| t))) ∧
    (B (plc (U i + 8 ^ k)) = 0 → s < 924 ∧ SpB D Q r0 i (s + 1) (updN U s (U i + 8 ^ k)) (updN B (plc (U i + 8 ^ k)) (B (plc (U i + 8 ^ k)) ||| t))) := by
  obtain ⟨g1, g2, g3, g4, g5, g6, g7, g8, g9, g10⟩ := h
  obtain ⟨p1, p2, p3⟩ := pl_ok (g2 i hi).1 ht6 hk
  generalize hv : U i + 8 ^ k = v at *
  have hpl := (plc_inv p1).2
  have sound : ∀ r, t.testBit r = true → RcN D Q r0 (tot v) v r := by
    intro r h
    obtain ⟨r1, a1, a2⟩ := hr r h
    rw [p2]
    exact ⟨k, U i, r1, hk, a1, hq, hv.symm, a2⟩
  have mono : ∀ x r, (B x).testBit r = true → (updN B (plc v) (B (plc v) ||| t) x).testBit r = true := by
    intro x r h
    unfold updN
    by_cases e : x = plc v
    · rw [if_pos e, orB_tb]; exact Or.inl (e ▸ h)
    · rw [if_neg e]; exact h
  have lt' : ∀ x, x < 924 → updN B (plc v) (B (plc v) ||| t) x < 65536 := by
    intro x hx
    unfold updN
    by_cases e : x = plc v
    · rw [if_pos e]; exact Nat.or_lt_two_pow (n := 16) (g9 _ hpl) ht
    · rw [if_neg e]; exact g9 x hx
  have ne' : ∀ x, B x ≠ 0 → updN B (plc v) (B (plc v) ||| t) x ≠ 0 := by
    intro x hx
    unfold updN
    by_cases e : x = plc v
    · rw [if_pos e]; exact or_ne (Or.inr ht0)
    · rw [if_neg e]; exact hx
  have at' : updN B (plc v) (B (plc v) ||| t) (plc v) = B (plc v) ||| t := if_pos rfl
  have dn' : ∀ w k, Dn D Q r0 B w k → Dn D Q r0 (updN B (plc v) (B (plc v) ||| t)) w k := fun w k h a b r1 r c d => mono _ _ (h a b r1 r c d)
  constructor
  · intro hb
    refine ⟨g1, fun j hj => ⟨(g2 j hj).1, ne' _ (g2 j hj).2⟩, g3, g4, g5, fun x hx hx0 => ?_, fun j hj r hr' => ?_, mono _ _ g8, lt', fun j hj k hk => dn' _ _ (g10 j hj k hk)⟩
    · by_cases e : x = plc v
      · rw [e]; exact g6 _ hpl hb
      · have : updN B (plc v) (B (plc v) ||| t) x = B x := if_neg e
        rw [this] at hx0
        exact g6 x hx hx0
    · by_cases e : plc (U j) = plc v
      · have e2 := plc_inj (g2 j hj).1 p1 e
        rw [e, at', orB_tb] at hr'
        rcases hr' with hr' | hr'
        · exact g7 j hj r (by rw [e]; exact hr')
        · rw [e2]; exact sound r hr'
      · have : updN B (plc v) (B (plc v) ||| t) (plc (U j)) = B (plc (U j)) := if_neg e
        rw [this] at hr'
        exact g7 j hj r hr'
  · intro hb
    have hnew : ∀ j, j < s → U j ≠ v := fun j hj e => (g2 j hj).2 (by rw [e]; exact hb)
    have o1 : ∀ j, j < s → updN U s v j = U j := fun j hj => if_neg (by omega)
    have o2 : updN U s v s = v := if_pos rfl
    have inj' : ∀ a b, a < s + 1 → b < s + 1 → updN U s v a = updN U s v b → a = b := by
      intro a b ha hb' hab
      by_cases e1 : a = s
      · by_cases e2 : b = s
        · omega
        · rw [e1, o2, o1 b (by omega)] at hab
          exact absurd hab.symm (hnew b (by omega))
      · by_cases e2 : b = s
        · rw [e2, o2, o1 a (by omega)] at hab
          exact absurd hab (hnew a (by omega))
        · rw [o1 a (by omega), o1 b (by omega)] at hab
          exact g3 a b (by omega) (by omega) hab
    have vw' : ∀ j, j < s + 1 → VW (updN U s v j) := by
      intro j hj
      by_cases e : j = s
      · rw [e, o2]; exact p1
      · rw [o1 j (by omega)]; exact (g2 j (by omega)).1
    have hs : s + 1 ≤ 924 := pigeon 924 (s + 1) (fun j => plc (updN U s v j)) (fun j hj => (plc_inv (vw' j hj)).2) (fun a b ha hb' hab => inj' a b ha hb' (plc_inj (vw' a ha) (vw' b hb') hab))
    refine ⟨by omega, hs, fun j hj => ⟨vw' j hj, ?_⟩, inj', fun a b hab hb' => ?_, fun a b ha ha2 hb' => ?_, fun x hx hx0 => ?_, fun j hj r hr' => ?_, mono _ _ g8, lt', fun j hj k hk => ?_⟩
    · by_cases e : j = s
      · rw [e, o2, at']; exact or_ne (Or.inr ht0)
      · rw [o1 j (by omega)]; exact ne' _ (g2 j (by omega)).2
    · by_cases e2 : b = s
      · by_cases e1 : a = s
        · rw [e1, e2]; exact Nat.le_refl _
        · rw [e2, o2, o1 a (by omega), p2]
          exact g5 i a (Nat.le_refl _) hi (by omega)
      · rw [o1 a (by omega), o1 b (by omega)]
        exact g4 a b hab (by omega)
    · have hta : tot (U i) ≤ tot (updN U s v a) := by
        by_cases e1 : a = s
        · rw [e1, o2, p2]; omega
        · rw [o1 a (by omega)]; exact g4 i a ha (by omega)
      have htb : tot (updN U s v b) ≤ tot (U i) + 1 := by
        by_cases e2 : b = s
        · rw [e2, o2, p2]; exact Nat.le_refl _
        · rw [o1 b (by omega)]; exact g5 i b (Nat.le_refl _) hi (by omega)
      omega
    · by_cases e : x = plc v
      · exact ⟨s, by omega, by rw [o2, e]⟩
      · have : updN B (plc v) (B (plc v) ||| t) x = B x := if_neg e
        rw [this] at hx0
        obtain ⟨j, hj, he⟩ := g6 x hx hx0
        exact ⟨j, by omega, by rw [o1 j hj]; exact he⟩
    · by_cases e : j = s
      · rw [e, o2] at hr' ⊢
        rw [at', orB_tb, hb, Nat.zero_testBit] at hr'
        rcases hr' with hr' | hr'
        · cases hr'
        · exact sound r hr'
      · have hj' : j < s := by omega
        rw [o1 j hj'] at hr' ⊢
        have : updN B (plc v) (B (plc v) ||| t) (plc (U j)) = B (plc (U j)) := if_neg (fun e2 => hnew j hj' (plc_inj (g2 j hj').1 p1 e2))
        rw [this] at hr'
        exact g7 j hj' r hr'
    · rw [o1 j (by omega)]
      exact dn' _ _ (g10 j hj k hk)
