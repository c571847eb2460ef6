/-! the sign at a place: looked up (as it was), or kept in a field (as it is) -/
def sgnAt (e p n : Int32) (f : Nat → Int32) : Int32 := if e ≤ p then -1 else if p < 0 then -1 else if n ≤ p then -1 else f p.toNatClampNeg
theorem sim_some {α β : Type} (g : α → β) (a : α) : Option.map g (some a) = some (g a) := rfl
theorem sim_ite {α β : Type} {c : Prop} [Decidable c] (g : α → β) (a b : Option α) : Option.map g (if c then a else b) = if c then Option.map g a else Option.map g b := by split <;> rfl
theorem sim_bd {α β γ : Type} (g : β → γ) (o : Option α) (f : α → Option β) : Option.map g (o.bind f) = o.bind (fun u => Option.map g (f u)) := by cases o <;> rfl
theorem sim_db {α β γ : Type} (o : Option α) (g : α → β) (f : β → Option γ) : (Option.map g o).bind f = o.bind (fun u => f (g u)) := by cases o <;> rfl
theorem sim_bb {α β γ : Type} (o : Option α) (g : α → Option β) (f : β → Option γ) : (o.bind g).bind f = o.bind (fun u => (g u).bind f) := by cases o <;> rfl
theorem sim_bi {α β : Type} {c : Prop} [Decidable c] (a b : Option α) (f : α → Option β) : (if c then a else b).bind f = if c then a.bind f else b.bind f := by split <;> rfl
theorem sim_rd {α β : Type} (g : α → β) (f : Nat → Int32) (n : Nat) (i : Int32) (k : Int32 → Option α) : Option.map g (rd f n i k) = rd f n i (fun v => Option.map g (k v)) := by unfold rd; split <;> rfl
theorem sim_wr {α β : Type} (g : α → β) (f : Nat → Int32) (n : Nat) (i x : Int32) (k : (Nat → Int32) → Option α) : Option.map g (wr f n i x k) = wr f n i x (fun v => Option.map g (k v)) := by unfold wr; split <;> rfl
theorem sim_gb {α β : Type} (g : α → β) (v : Int32) (k : Option α) : Option.map g (gb v k) = gb v (Option.map g k) := by unfold gb; split <;> rfl
theorem sim_cpy {α β : Type} (g : α → β) (f : Nat → Int32) (n0 : Nat) (h : Nat → Int32) (n1 : Nat) (sp dp n : Int32) (k : (Nat → Int32) → Option α) : Option.map g (cpy f n0 h n1 sp dp n k) = cpy f n0 h n1 sp dp n (fun v => Option.map g (k v)) := by unfold cpy; split <;> rfl
theorem sim_in {n p : Int32} (hz : n ≤ 260) (h0 : ¬ p < 0) (h1 : ¬ n ≤ p) {β : Type} (f : Nat → Int32) (k : Int32 → Option β) : rd f 260 p k = k (f p.toNatClampNeg) ∧ ¬ (260 : Int32) ≤ p := by
  rw [i32_le] at hz h1
  rw [i32_lt] at h0
  have e0 : (0 : Int32).toInt = 0 := by decide
  have e1 : (260 : Int32).toInt = 260 := by decide
  rw [e0] at h0
  rw [e1] at hz
  refine ⟨if_pos ⟨by omega, by omega⟩, ?_⟩
  rw [i32_le, e1]
  omega
theorem sim_sign {n : Int32} (hz : n ≤ 260) (e p : Int32) (f : Nat → Int32) : fo_X7_sign e p n f = some (sgnAt e p n f) := by
  unfold fo_X7_sign f_X8_at sgnAt
  by_cases h : e ≤ p
  · rw [if_pos h, if_pos h]
  · rw [if_neg h, if_neg h]
    by_cases h0 : p < 0
    · rw [if_pos h0, if_pos h0, some_bind]
    · rw [if_neg h0, if_neg h0]
      by_cases h1 : n ≤ p
      · rw [if_pos h1, if_pos h1, some_bind]
      · rw [if_neg h1, if_neg h1, (sim_in hz h0 h1 f _).1, some_bind]
theorem sim_step {n : Int32} (hz : n ≤ 260) (e p x : Int32) (f : Nat → Int32) : f_X7_step e p x n f = some (p + 1, sgnAt e (p + 1) n f) := by
  unfold f_X7_step sgnAt
  simp only [nm_eq, jn_eq]
  have z : ((0 : Int32) = 0) = True := eq_self _
  have z1 : ((1 : Int32) = 0) = False := eq_false (by decide)
  by_cases h0 : p + 1 < 0
  · simp only [h0, if_true, z]
    split <;> rfl
  · simp only [h0, if_false]
    by_cases h : e ≤ p + 1
    · simp only [h, if_true, z]
    · simp only [h, if_false]
      by_cases h1 : n ≤ p + 1
      · simp only [h1, if_true, z]
      · simp only [h1, if_false]
        have q := (sim_in hz h0 h1 f (fun v => some (p + 1, v))).1
        have q2 := eq_false (sim_in hz h0 h1 f (fun v => some (p + 1, v))).2
        simp only [q2, if_false, z1, q]
theorem sim_gbb {β : Type} (c d : Prop) [Decidable c] [Decidable d] (K : Int32 → Option β) : ((if c then some (0 : Int32) else if d then some (0 : Int32) else some (1 : Int32)).bind fun u => gb u (K u)) = (if c then some (0 : Int32) else if d then some (0 : Int32) else some (1 : Int32)).bind K := by
  split
  · rfl
  · split <;> rfl
theorem sim_bs (o : Option Int32) : (o.bind fun u => some u) = o := by cases o <;> rfl
theorem sm_f_X7_isDigit {n : Int32} (hz : n ≤ 260) (e p : Int32) (f : Nat → Int32) : f_X7_isDigit (sgnAt e p n f) = fo_X7_isDigit e p n f := by
  unfold f_X7_isDigit fo_X7_isDigit f_X11_isWithin
  rw [sim_sign hz, some_bind, sim_gbb, sim_bs]

theorem sm_f_X7_take {t_end : Int32} {t_place : Int32} {t_fault : Int32} {tape_size : Int32} {tape_bytes : (Nat → Int32)} {x1 : Int32} (hz : tape_size ≤ 260) : f_X7_take t_end t_place (sgnAt t_end t_place tape_size tape_bytes) t_fault tape_size tape_bytes x1 = (fo_X7_take t_end t_place t_fault tape_size tape_bytes x1).map (fun r => (r.1, r.2, sgnAt t_end r.2 tape_size tape_bytes)) := by
  unfold f_X7_take fo_X7_take
  simp only [nm_eq, jn_eq, some_bind, sim_some, sim_ite, sim_bd, sim_db, sim_rd, sim_wr, sim_gb, sim_cpy, sim_sign hz, sim_step hz]
theorem sm_f_X7_want {t_end t_place t_fault tape_size x1 : Int32} {tape_bytes : Nat → Int32} (hz : tape_size ≤ 260) : f_X7_want t_end t_place (sgnAt t_end t_place tape_size tape_bytes) t_fault tape_size tape_bytes x1 = (fo_X7_want t_end t_place t_fault tape_size tape_bytes x1).map (fun r => (r.1, sgnAt t_end r.1 tape_size tape_bytes, r.2)) := by
  unfold f_X7_want fo_X7_want fo_X7_take
  have z1 : ((1 : Int32) = 0) = False := eq_false (by decide)
  by_cases hf : t_fault = 0 <;> by_cases hs : sgnAt t_end t_place tape_size tape_bytes = x1 <;> simp only [hf, hs, if_true, if_false, z1, eq_self, nm_eq, sim_sign hz, sim_step hz, some_bind, sim_some, sim_bd, f_X7_fail]

theorem sn_X7_number (t_end : Int32) (tape_size : Int32) (tape_bytes : (Nat → Int32)) (x1 : Int32) (x2 : Int32) (x3 : Int32) (k0 : Int32 × Int32 × Int32 × Int32 → Option (Int32 × Int32 × Int32 × Int32)) (m : Nat) (s : Int32 × Int32 × Int32 × Int32 × Int32) : L_X7_number_27 t_end tape_size tape_bytes x1 x2 x3 k0 (m + 1) s = (if x1 < s.2.1 then (k0 (s.1, s.2.2.1, s.2.2.2.1, s.2.2.2.2)) else if s.2.2.2.2 = 0 then ((f_X7_isDigit s.2.2.2.1).bind fun u3 => if u3 = 0 then (k0 (s.1, s.2.2.1, s.2.2.2.1, s.2.2.2.2)) else if s.2.1 = x1 then ((f_X7_fail s.2.2.2.2 (2 : Int32) s.2.2.1).bind fun u7 => nm (s.2.1 + (1 : Int32)) fun v8 => (L_X7_number_27 t_end tape_size tape_bytes x1 x2 x3 k0 m) (s.1, v8, s.2.2.1, s.2.2.2.1, u7)) else nm ((((10 : Int32) * s.1) + s.2.2.2.1) - (48 : Int32)) fun v4 => (f_X7_step t_end s.2.2.1 s.2.2.2.1 tape_size tape_bytes).bind fun u5 => nm (s.2.1 + (1 : Int32)) fun v6 => (L_X7_number_27 t_end tape_size tape_bytes x1 x2 x3 k0 m) (v4, v6, u5.1, u5.2, s.2.2.2.2)) else k0 (s.1, s.2.2.1, s.2.2.2.1, s.2.2.2.2)) := rfl
theorem so_X7_number (t_end : Int32) (tape_size : Int32) (tape_bytes : (Nat → Int32)) (x1 : Int32) (m : Nat) (s : Int32 × Int32 × Int32 × Int32) : Lo_X7_number_20 t_end tape_size tape_bytes x1 (m + 1) s = (if x1 < s.2.1 then (some (s.1, s.2.2.1, s.2.2.2)) else if s.2.2.2 = 0 then ((fo_X7_isDigit t_end s.2.2.1 tape_size tape_bytes).bind fun u3 => if u3 = 0 then (some (s.1, s.2.2.1, s.2.2.2)) else if s.2.1 = x1 then ((f_X7_fail s.2.2.2 (2 : Int32) s.2.2.1).bind fun u8 => nm (s.2.1 + (1 : Int32)) fun v9 => (Lo_X7_number_20 t_end tape_size tape_bytes x1 m) (s.1, v9, s.2.2.1, u8)) else (fo_X7_sign t_end s.2.2.1 tape_size tape_bytes).bind fun u4 => nm ((((10 : Int32) * s.1) + u4) - (48 : Int32)) fun v5 => nm (s.2.2.1 + (1 : Int32)) fun v6 => nm (s.2.1 + (1 : Int32)) fun v7 => (Lo_X7_number_20 t_end tape_size tape_bytes x1 m) (v5, v7, v6, s.2.2.2)) else some (s.1, s.2.2.1, s.2.2.2)) := rfl
theorem sm_numL {t_end tape_size x1 x2 x3 : Int32} {tape_bytes : Nat → Int32} {k0 : Int32 × Int32 × Int32 × Int32 → Option (Int32 × Int32 × Int32 × Int32)} (hz : tape_size ≤ 260) : ∀ (m : Nat) (a0 a1 a2 a3 : Int32), L_X7_number_27 t_end tape_size tape_bytes x1 x2 x3 k0 m (a0, a1, a2, sgnAt t_end a2 tape_size tape_bytes, a3) = (Lo_X7_number_20 t_end tape_size tape_bytes x1 m (a0, a1, a2, a3)).bind fun u => k0 (u.1, u.2.1, sgnAt t_end u.2.1 tape_size tape_bytes, u.2.2) := by
  intro m
  induction m with
  | zero => intros; rfl
  | succ m ih =>
    intros
    rw [sn_X7_number, so_X7_number]
    simp only [nm_eq, sm_f_X7_isDigit hz, sim_sign hz, sim_step hz, some_bind, sim_bb, sim_bi, ih]

theorem sm_number {t_end t_place t_fault tape_size x1 x2 : Int32} {tape_bytes : Nat → Int32} (hz : tape_size ≤ 260) : f_X7_number t_end t_place (sgnAt t_end t_place tape_size tape_bytes) t_fault tape_size tape_bytes x1 x2 = ((fo_X7_number t_end t_place t_fault tape_size tape_bytes x1).bind fun u => if u.1 ≤ x2 then some (u.1, u.2.1, u.2.2) else (f_X7_fail u.2.2 (3 : Int32) t_place).bind fun z => some (u.1, u.2.1, z)).map (fun r => (r.1, r.2.1, sgnAt t_end r.2.1 tape_size tape_bytes, r.2.2)) := by
  unfold f_X7_number fo_X7_number
  simp only [jn_eq, sm_f_X7_isDigit hz, sm_numL hz, sim_bd, sim_bb, sim_bi, sim_ite, sim_some]
theorem sm_upTo {t_end t_place t_fault tape_size x2 : Int32} {tape_bytes : Nat → Int32} (hz : tape_size ≤ 260) : f_X7_number t_end t_place (sgnAt t_end t_place tape_size tape_bytes) t_fault tape_size tape_bytes 2 x2 = (fo_X7_numberUpTo t_end t_place t_fault tape_size tape_bytes x2).map (fun r => (r.1, r.2.1, sgnAt t_end r.2.1 tape_size tape_bytes, r.2.2)) := sm_number hz

theorem n5_fail {x a b y : Int32} (h : f_X7_fail x a b = some y) : y = x ∨ x = 0 := by
  unfold f_X7_fail at h
  split at h
  · exact Or.inr ‹_›
  · exact Or.inl (Option.some.inj h).symm
theorem n5_dig {x : Int32} (h1 : ¬ x < 48) (h2 : ¬ (57 : Int32) < x) : ∃ d, d ≤ 9 ∧ x = nI (48 + d) := by
  rw [i32_lt] at h1 h2
  have e1 : (48 : Int32).toInt = 48 := by decide
  have e2 : (57 : Int32).toInt = 57 := by decide
  rw [e1] at h1
  rw [e2] at h2
  refine ⟨(x.toInt - 48).toNat, by omega, ?_⟩
  rw [i32_eq, nI_toInt (by omega)]
  omega
theorem n5_L {te ts : Int32} {tb : Nat → Int32} (hz : ts ≤ 260) : ∀ (m a i : Nat) (p x : Int32) (r : Int32 × Int32 × Int32), i ≤ 5 → a < 10 ^ i → Lo_X7_number_20 te ts tb 5 m (nI a, nI i, p, x) = some r → ∃ v, v < 100000 ∧ r.1 = nI v := by
  intro m
  induction m with
  | zero =>
    intro a i p x r _ _ h
    have h : (none : Option (Int32 × Int32 × Int32)) = some r := h
    cases h
  | succ m ih =>
    intro a i p x r hi ha h
    have hp : 10 ^ i ≤ 10 ^ 5 := Nat.pow_le_pow_right (by omega) hi
    have hb : a < 100000 := by omega
    have stop : ∀ y z : Int32, some (nI a, y, z) = some r → ∃ v, v < 100000 ∧ r.1 = nI v := by
      intro y z hh
      rw [← Option.some.inj hh]
      exact ⟨a, hb, rfl⟩
    rw [so_X7_number] at h
    dsimp only at h
    split at h
    · exact stop _ _ h
    · split at h
      · rename_i hx
        obtain ⟨u, hu, h⟩ := bs h
        split at h
        · exact stop _ _ h
        · rename_i hu0
          split at h
          · rename_i hh
            obtain ⟨z, hz0, h⟩ := bs h
            rw [nm_eq] at h
            have hi5 : i = 5 := by
              have hh : nI i = nI 5 := hh
              rwa [eq_nI (by omega) (by omega)] at hh
            subst hi5
            -- the round behind it ends: six is above five
            cases m with
            | zero =>
              have h : (none : Option (Int32 × Int32 × Int32)) = some r := h
              cases h
            | succ m =>
              rw [so_X7_number] at h
              dsimp only at h
              rw [if_pos (by decide)] at h
              exact stop _ _ h
          · rename_i hi5
            have hi5 : ¬ nI i = nI 5 := hi5
            rw [eq_nI (by omega) (by omega)] at hi5
            rw [sim_sign hz, some_bind, nm_eq, nm_eq, nm_eq] at h
            have hd : ∃ d, d ≤ 9 ∧ sgnAt te p ts tb = nI (48 + d) := by
              rw [← sm_f_X7_isDigit hz] at hu
              unfold f_X7_isDigit at hu
              split at hu
              · exact absurd (Option.some.inj hu).symm hu0
              · split at hu
                · exact absurd (Option.some.inj hu).symm hu0
                · exact n5_dig ‹_› ‹_›
            obtain ⟨d, hd, e⟩ := hd
            rw [e] at h
            have e2 : (10 : Int32) * nI a + nI (48 + d) - 48 = nI (10 * a + d) := by
              show nI 10 * nI a + nI (48 + d) - nI 48 = _
              rw [mul_nI, add_nI, sub_nI (by omega), show 10 * a + (48 + d) - 48 = 10 * a + d by omega]
            have e3 : nI i + (1 : Int32) = nI (i + 1) := add_nI i 1
            rw [e2, e3] at h
            refine ih (10 * a + d) (i + 1) _ _ r (by omega) ?_ h
            rw [Nat.pow_succ]
            omega
      · exact stop _ _ h
theorem n5_C {te tp tf ts : Int32} {tb : Nat → Int32} (hz : ts ≤ 260) {r : Int32 × Int32 × Int32} (h : fo_X7_number te tp tf ts tb 5 = some r) : r.1 ≤ 99999 := by
  have key : ∀ x, Lo_X7_number_20 te ts tb 5 fu (0, 0, tp, x) = some r → r.1 ≤ 99999 := by
    intro x hx
    obtain ⟨v, hv, e⟩ := n5_L hz fu 0 0 tp x r (by omega) (by omega) hx
    rw [e]
    show nI v ≤ nI 99999
    rw [le_nI (by omega) (by omega)]
    omega
  unfold fo_X7_number at h
  obtain ⟨u, hu, h⟩ := bs h
  rw [jn_eq] at h
  dsimp only at h
  split at h
  · obtain ⟨z, hz0, h⟩ := bs h
    exact key _ h
  · exact key _ h
theorem sm_five {t_end t_place t_fault tape_size : Int32} {tape_bytes : Nat → Int32} (hz : tape_size ≤ 260) : f_X7_number t_end t_place (sgnAt t_end t_place tape_size tape_bytes) t_fault tape_size tape_bytes 5 99999 = (fo_X7_number t_end t_place t_fault tape_size tape_bytes 5).map (fun r => (r.1, r.2.1, sgnAt t_end r.2.1 tape_size tape_bytes, r.2.2)) := by
  rw [sm_number hz]
  cases h : fo_X7_number t_end t_place t_fault tape_size tape_bytes 5 with
  | none => rfl
  | some r =>
    simp only [some_bind, eq_true (n5_C hz h), if_true, sim_some]
