/-! HAIR: the model's reader -/
theorem st_X12_readsPin_4 (t_length0 : Int32) (t_fault : Int32) (t_newMany : Int32) (t_tape : (Nat → Int32)) (t_newPins : (Nat → Int32)) (k0 : Int32 × Int32 × Int32 × Int32 × (Nat → Int32) × (Nat → Int32) × (Nat → Int32) → Option (Int32 × Int32 × Int32 × Int32 × Int32 × Int32 × Int32 × (Nat → Int32) × (Nat → Int32) × (Nat → Int32) × (Nat → Int32))) (k1 : Int32 × Int32 × Int32 × Int32 × (Nat → Int32) × (Nat → Int32) × (Nat → Int32) → Option (Int32 × Int32 × Int32 × Int32 × Int32 × Int32 × Int32 × (Nat → Int32) × (Nat → Int32) × (Nat → Int32) × (Nat → Int32))) (m : Nat) (s : Int32 × Int32 × Int32 × Int32 × (Nat → Int32) × (Nat → Int32) × (Nat → Int32)) : L_X12_readsPin_4 t_length0 t_fault t_newMany t_tape t_newPins k0 k1 (m + 1) s = ((f_X12_here s.1 t_length0 t_tape).bind fun u2 => if u2 = (40 : Int32) then (if s.2.1 = (2 : Int32) then (k0 (s.1, s.2.1, s.2.2.1, s.2.2.2.1, s.2.2.2.2.1, s.2.2.2.2.2.1, s.2.2.2.2.2.2)) else wr s.2.2.2.2.1 2 s.2.1 s.2.2.1 fun g3 => wr s.2.2.2.2.2.1 2 s.2.1 t_newMany fun g4 => wr s.2.2.2.2.2.2 2 s.2.1 s.2.2.2.1 fun g5 => nm (s.2.1 + (1 : Int32)) fun v6 => nm (s.1 + (1 : Int32)) fun v7 => (f_X12_readsTimes v7 t_length0 s.2.2.1 s.2.2.2.1 t_tape).bind fun u8 => (L_X12_readsPin_4 t_length0 t_fault t_newMany t_tape t_newPins k0 k1 m) (u8.1, v6, u8.2.1, u8.2.2, g3, g4, g5)) else k1 (s.1, s.2.1, s.2.2.1, s.2.2.2.1, s.2.2.2.2.1, s.2.2.2.2.2.1, s.2.2.2.2.2.2)) := rfl
theorem st_X12_readsPin_203 (t_length0 : Int32) (t_pinFrom : Int32) (t_pinTimes : Int32) (t_tape : (Nat → Int32)) (t_roundFrom : (Nat → Int32)) (t_roundAt : (Nat → Int32)) (t_roundTimes : (Nat → Int32)) (m : Nat) (s : Int32 × Int32 × Int32 × Int32 × (Nat → Int32)) : L_X12_readsPin_203 t_length0 t_pinFrom t_pinTimes t_tape t_roundFrom t_roundAt t_roundTimes (m + 1) s = ((f_X12_here s.1 t_length0 t_tape).bind fun u19 => if u19 = (41 : Int32) then (if s.2.2.2.1 ≤ 0 then (some ((1 : Int32), s.1, s.2.1, s.2.2.1, s.2.2.2.1, t_pinFrom, t_pinTimes, s.2.2.2.2, t_roundFrom, t_roundAt, t_roundTimes)) else nm (s.1 + (1 : Int32)) fun v20 => nm (s.2.2.2.1 - (1 : Int32)) fun v21 => rd t_roundAt 2 v21 fun v22 => rd t_roundTimes 2 v21 fun v23 => rd t_roundFrom 2 v21 fun v24 => (f_X12_repeats s.2.1 s.2.2.1 s.2.2.2.2 v22 v23 v24).bind fun u25 => if u25.1 = 0 then (some ((0 : Int32), v20, u25.2.1, u25.2.2.1, v21, t_pinFrom, t_pinTimes, u25.2.2.2, t_roundFrom, t_roundAt, t_roundTimes)) else (L_X12_readsPin_203 t_length0 t_pinFrom t_pinTimes t_tape t_roundFrom t_roundAt t_roundTimes m) (v20, u25.2.1, u25.2.2.1, v21, u25.2.2.2)) else some ((1 : Int32), s.1, s.2.1, s.2.2.1, s.2.2.2.1, t_pinFrom, t_pinTimes, s.2.2.2.2, t_roundFrom, t_roundAt, t_roundTimes)) := rfl
theorem st_X12_hair_48 (t_taped : Int32) (t_length0 : Int32) (t_codeMany : Int32) (t_saidMany : Int32) (t_now : (Nat → Int32)) (t_tape : (Nat → Int32)) (x1 : Int32) (k0 : Int32 × Int32 × Int32 × Int32 × Int32 × Int32 × Int32 × (Nat → Int32) × (Nat → Int32) × (Nat → Int32) × (Nat → Int32) → Option (Int32 × Int32 × Int32 × Int32 × Int32 × Int32 × Int32 × Int32 × Int32 × Int32 × Int32 × (Nat → Int32) × (Nat → Int32) × (Nat → Int32) × (Nat → Int32) × (Nat → Int32))) (m : Nat) (s : Int32 × Int32 × Int32 × Int32 × Int32 × Int32 × Int32 × (Nat → Int32) × (Nat → Int32) × (Nat → Int32) × (Nat → Int32)) : L_X12_hair_48 t_taped t_length0 t_codeMany t_saidMany t_now t_tape x1 k0 (m + 1) s = (if s.1 = 0 then (k0 (s.1, s.2.1, s.2.2.1, s.2.2.2.1, s.2.2.2.2.1, s.2.2.2.2.2.1, s.2.2.2.2.2.2.1, s.2.2.2.2.2.2.2.1, s.2.2.2.2.2.2.2.2.1, s.2.2.2.2.2.2.2.2.2.1, s.2.2.2.2.2.2.2.2.2.2)) else jn (fun s5 : Unit => (f_X12_readsPin s.2.1 t_length0 s.2.2.1 s.2.2.2.1 s.2.2.2.2.1 s.2.2.2.2.2.1 s.2.2.2.2.2.2.1 t_tape s.2.2.2.2.2.2.2.1 s.2.2.2.2.2.2.2.2.1 s.2.2.2.2.2.2.2.2.2.1 s.2.2.2.2.2.2.2.2.2.2).bind fun u6 => (L_X12_hair_48 t_taped t_length0 t_codeMany t_saidMany t_now t_tape x1 k0 m) (u6.1, u6.2.1, u6.2.2.1, u6.2.2.2.1, u6.2.2.2.2.1, u6.2.2.2.2.2.1, u6.2.2.2.2.2.2.1, u6.2.2.2.2.2.2.2.1, u6.2.2.2.2.2.2.2.2.1, u6.2.2.2.2.2.2.2.2.2.1, u6.2.2.2.2.2.2.2.2.2.2)) fun j70 => if s.2.1 < t_length0 then (j70 ()) else if s.2.2.2.2.1 ≤ 0 then (k0 (s.1, s.2.1, s.2.2.1, s.2.2.2.1, s.2.2.2.2.1, s.2.2.2.2.2.1, s.2.2.2.2.2.2.1, s.2.2.2.2.2.2.2.1, s.2.2.2.2.2.2.2.2.1, s.2.2.2.2.2.2.2.2.2.1, s.2.2.2.2.2.2.2.2.2.2)) else j70 ()) := rfl
abbrev HT7 : Type := Int32 × Int32 × Int32 × Int32 × (Nat → Int32) × (Nat → Int32) × (Nat → Int32)
abbrev HT11 : Type := Int32 × Int32 × Int32 × Int32 × Int32 × Int32 × Int32 × (Nat → Int32) × (Nat → Int32) × (Nat → Int32) × (Nat → Int32)
abbrev HT16 : Type := Int32 × Int32 × Int32 × Int32 × Int32 × Int32 × Int32 × Int32 × Int32 × Int32 × Int32 × (Nat → Int32) × (Nat → Int32) × (Nat → Int32) × (Nat → Int32) × (Nat → Int32)
def hK0 (t_fault t_newMany : Int32) (t_newPins : Nat → Int32) : HT7 → Option HT11 := fun s9 => (f_X12_wrongAt t_fault (5 : Int32) s9.1).bind fun u10 => gb u10.1 <| some (u10.1, s9.1, u10.2, t_newMany, s9.2.1, s9.2.2.1, s9.2.2.2.1, t_newPins, s9.2.2.2.2.1, s9.2.2.2.2.2.1, s9.2.2.2.2.2.2)
def hK1 (t_length0 t_fault t_newMany : Int32) (t_tape t_newPins : Nat → Int32) : HT7 → Option HT11 := fun s11 => (f_X12_here s11.1 t_length0 t_tape).bind fun u12 => (f_X12_in u12 (97 : Int32) (102 : Int32)).bind fun u13 => if u13 = 0 then ((f_X12_wrongAt t_fault (1 : Int32) s11.1).bind fun u27 => gb u27.1 <| some (u27.1, s11.1, u27.2, t_newMany, s11.2.1, s11.2.2.1, s11.2.2.2.1, t_newPins, s11.2.2.2.2.1, s11.2.2.2.2.2.1, s11.2.2.2.2.2.2)) else if (t_newMany + s11.2.2.2.1) ≤ (60 : Int32) then ((f_X12_here s11.1 t_length0 t_tape).bind fun u14 => wr t_newPins 60 t_newMany (u14 - (97 : Int32)) fun g15 => nm (s11.1 + (1 : Int32)) fun v16 => nm (t_newMany + (1 : Int32)) fun v17 => (f_X12_repeats t_fault v17 g15 (v17 - (1 : Int32)) s11.2.2.2.1 s11.2.2.1).bind fun u18 => if u18.1 = 0 then (some ((0 : Int32), v16, u18.2.1, u18.2.2.1, s11.2.1, s11.2.2.1, s11.2.2.2.1, u18.2.2.2, s11.2.2.2.2.1, s11.2.2.2.2.2.1, s11.2.2.2.2.2.2)) else L_X12_readsPin_203 t_length0 s11.2.2.1 s11.2.2.2.1 t_tape s11.2.2.2.2.1 s11.2.2.2.2.2.1 s11.2.2.2.2.2.2 fu (v16, u18.2.1, u18.2.2.1, s11.2.1, u18.2.2.2)) else (f_X12_wrongAt t_fault (6 : Int32) s11.2.2.1).bind fun u26 => gb u26.1 <| some (u26.1, s11.1, u26.2, t_newMany, s11.2.1, s11.2.2.1, s11.2.2.2.1, t_newPins, s11.2.2.2.2.1, s11.2.2.2.2.2.1, s11.2.2.2.2.2.2)
def hA (ta le cm sm : Int32) (now tape : Nat → Int32) (x1 : Int32) (k0 : HT11 → Option HT16) (m m2 : Nat) (p d N z : Int32) (np rf ra rt : Nat → Int32) (pf pt : Int32) : Option HT16 := ((f_X12_readsTimes p le pf pt tape).bind fun u1 => L_X12_readsPin_4 le z N tape np (hK0 z N np) (hK1 le z N tape np) m (u1.1, d, u1.2.1, u1.2.2, rf, ra, rt)).bind fun u6 => L_X12_hair_48 ta le cm sm now tape x1 k0 m2 (u6.1, u6.2.1, u6.2.2.1, u6.2.2.2.1, u6.2.2.2.2.1, u6.2.2.2.2.2.1, u6.2.2.2.2.2.2.1, u6.2.2.2.2.2.2.2.1, u6.2.2.2.2.2.2.2.2.1, u6.2.2.2.2.2.2.2.2.2.1, u6.2.2.2.2.2.2.2.2.2.2)
def hB (ta le cm sm : Int32) (now tape : Nat → Int32) (x1 : Int32) (k0 : HT11 → Option HT16) (m m2 : Nat) (p d N z : Int32) (np rf ra rt : Nat → Int32) (pf pt : Int32) : Option HT16 := (L_X12_readsPin_203 le pf pt tape rf ra rt m (p, z, N, d, np)).bind fun u6 => L_X12_hair_48 ta le cm sm now tape x1 k0 m2 (u6.1, u6.2.1, u6.2.2.1, u6.2.2.2.1, u6.2.2.2.2.1, u6.2.2.2.2.2.1, u6.2.2.2.2.2.2.1, u6.2.2.2.2.2.2.2.1, u6.2.2.2.2.2.2.2.2.1, u6.2.2.2.2.2.2.2.2.2.1, u6.2.2.2.2.2.2.2.2.2.2)
theorem readsPin_eq (ta le cm sm : Int32) (now tape : Nat → Int32) (x1 : Int32) (k0 : HT11 → Option HT16) (m2 : Nat) (p d N z : Int32) (np rf ra rt : Nat → Int32) (pf pt : Int32) : ((f_X12_readsPin p le z N d pf pt tape np rf ra rt).bind fun u6 => L_X12_hair_48 ta le cm sm now tape x1 k0 m2 (u6.1, u6.2.1, u6.2.2.1, u6.2.2.2.1, u6.2.2.2.2.1, u6.2.2.2.2.2.1, u6.2.2.2.2.2.2.1, u6.2.2.2.2.2.2.2.1, u6.2.2.2.2.2.2.2.2.1, u6.2.2.2.2.2.2.2.2.2.1, u6.2.2.2.2.2.2.2.2.2.2)) = hA ta le cm sm now tape x1 k0 fu m2 p d N z np rf ra rt pf pt := rfl
/-! counts -/
def hCn (g : Nat → Nat) (k : Nat) : Nat → Nat := sumN (fun i => if g i = k then 1 else 0)
theorem hCn_s (g : Nat → Nat) (k n : Nat) : hCn g k (n + 1) = hCn g k n + (if g n = k then 1 else 0) := rfl
theorem hCn_congr {g g' : Nat → Nat} {k n : Nat} (h : ∀ i, i < n → g' i = g i) : hCn g' k n = hCn g k n := sumN_congr n (fun i hi => by rw [h i hi])
theorem hCn_mono (g : Nat → Nat) (k a : Nat) : ∀ m, hCn g k a ≤ hCn g k (a + m) := by
  intro m
  unfold hCn
  rw [sumN_split]
  omega
theorem hCn_sum {g : Nat → Nat} : ∀ n, (∀ i, i < n → g i < 6) → sumN (fun k => hCn g k n) 6 = n := by
  intro n
  induction n with
  | zero => intro _; show sumN (fun _ => 0) 6 = 0; decide
  | succ n ih =>
    intro h
    have h1 := ih (fun i hi => h i (by omega))
    have h2 := h n (by omega)
    rw [sum6] at h1 ⊢
    simp only [hCn_s]
    have h3 : g n = 0 ∨ g n = 1 ∨ g n = 2 ∨ g n = 3 ∨ g n = 4 ∨ g n = 5 := by omega
    rcases h3 with h3 | h3 | h3 | h3 | h3 | h3 <;> simp [h3] <;> omega
def gxx (g : Nat → Nat) (a N : Nat) : Nat → Nat := fun i => if i < N then g i else g (a + (i - a) % (N - a))
theorem gxx_lo {g : Nat → Nat} {a N i : Nat} (h : i < N) : gxx g a N i = g i := if_pos h
theorem gxx_hi {g : Nat → Nat} {a N i : Nat} (h : ¬ i < N) : gxx g a N i = g (a + (i - a) % (N - a)) := if_neg h
theorem gxx_lt {g : Nat → Nat} {a N i : Nat} (h : ∀ i, i < N → g i < 6) (ha : a < N) : gxx g a N i < 6 := by
  by_cases hi : i < N
  · rw [gxx_lo hi]; exact h i hi
  · rw [gxx_hi hi]
    have := Nat.mod_lt (i - a) (show N - a > 0 by omega)
    exact h _ (by omega)
theorem gxx_per {g : Nat → Nat} {a N j : Nat} (ha : a < N) : gxx g a N (N + j) = gxx g a N (a + j) := by
  rw [gxx_hi (by omega), show N + j - a = j + (N - a) by omega, Nat.add_mod_right]
  by_cases h : a + j < N
  · rw [gxx_lo h, Nat.mod_eq_of_lt (by omega)]
  · rw [gxx_hi h, show a + j - a = j by omega]
theorem gxx_hCn {g : Nat → Nat} {a m : Nat} (k : Nat) : ∀ s, hCn (gxx g a (a + m)) k (a + m * (s + 1)) = hCn g k (a + m) + s * (hCn g k (a + m) - hCn g k a) := by
  intro s
  induction s with
  | zero =>
    rw [Nat.zero_add, Nat.mul_one, Nat.zero_mul, Nat.add_zero]
    exact hCn_congr (fun i hi => gxx_lo hi)
  | succ s ih =>
    rw [Nat.mul_succ m (s + 1), ← Nat.add_assoc]
    unfold hCn at ih ⊢
    rw [sumN_split, ih]
    have hb : sumN (fun i => if gxx g a (a + m) (a + m * (s + 1) + i) = k then 1 else 0) m = sumN (fun i => if g (a + i) = k then 1 else 0) m := by
      apply sumN_congr
      intro i hi
      have hge : ¬ a + m * (s + 1) + i < a + m := by
        have : m * 1 ≤ m * (s + 1) := Nat.mul_le_mul_left m (by omega)
        omega
      rw [gxx_hi hge, show a + m * (s + 1) + i - a = m * (s + 1) + i by omega, show a + m - a = m by omega, Nat.mul_add_mod, Nat.mod_eq_of_lt hi]
    have hs : sumN (fun i => if g i = k then 1 else 0) (a + m) = sumN (fun i => if g i = k then 1 else 0) a + sumN (fun i => if g (a + i) = k then 1 else 0) m := sumN_split _ a m
    rw [hb, hs, Nat.succ_mul]
    omega
theorem repeats_M {np : Nat → Int32} {g : Nat → Nat} {a N t q : Nat} {x : Int32} (h1 : ∀ i, i < N → np i = nI (g i) ∧ g i < 6) (hN : N ≤ 60) (ha : a ≤ N) (ht1 : 1 ≤ t) (ht9 : t ≤ 9) :
    (a + (N - a) * t ≤ 60 → ∃ np', f_X12_repeats x (nI N) np (nI a) (nI t) (nI q) = some (nI 1, x, nI (a + (N - a) * t), np') ∧ (∀ i, i < a + (N - a) * t → np' i = nI (gxx g a N i) ∧ gxx g a N i < 6)) ∧
    (¬ a + (N - a) * t ≤ 60 → f_X12_repeats x (nI N) np (nI a) (nI t) (nI q) = some (nI 0, flt 6 q, nI N, np)) := by
  have hmt : (N - a) * t ≤ 60 * 9 := Nat.mul_le_mul (by omega) ht9
  have hge : (N - a) * 1 ≤ (N - a) * t := Nat.mul_le_mul_left _ ht1
  rw [Nat.mul_one] at hge
  unfold f_X12_repeats
  simp (disch := omega) only [ltz, ↓nm_eq, sub_nI, mul_nI, add_nI, le_nI]
  constructor
  · intro h60
    rw [if_pos h60]
    refine ⟨putB np N (fun i => nI (gxx g a N (N + i))) ((N - a) * t - (N - a)), ?_, fun i hi => ?_⟩
    · unfold L_X12_repeats_31
      refine lp_run0 (fun j => (nI ((N - a) + j), putB np N (fun i => nI (gxx g a N (N + i))) j)) ((N - a) * t - (N - a)) _ (by show _ = (nI ((N - a) + 0), putB np N _ 0); rw [putB_0, Nat.add_zero]) ?_ ?_ (fu_gt (by omega))
      · intro go j hj
        have haN : a < N := Nat.lt_of_not_le (fun hh => by rw [show N - a = 0 by omega, Nat.zero_mul] at hj; omega)
        have q1 : (nI ((N - a) * t) ≤ nI ((N - a) + j)) = False := by rw [le_nI (by omega) (by omega)]; exact eq_false (by omega)
        have e1 : N + j - (N - a) = a + j := by omega
        have e2 : a + ((N - a) + j) = N + j := by omega
        have e3 : putB np N (fun i => nI (gxx g a N (N + i))) j (a + j) = nI (gxx g a N (N + j)) := by
          rw [gxx_per haN]
          unfold putB
          by_cases hlt : a + j < N
          · rw [if_neg (by omega), gxx_lo hlt]
            exact (h1 _ hlt).1
          · rw [if_pos (by omega)]
            show nI (gxx g a N (N + (a + j - N))) = _
            rw [show N + (a + j - N) = a + j by omega]
        have e4 : upd (putB np N (fun i => nI (gxx g a N (N + i))) j) (N + j) (nI (gxx g a N (N + j))) = putB np N (fun i => nI (gxx g a N (N + i))) (j + 1) := putB_s np N (fun i => nI (gxx g a N (N + i))) j
        simp (disch := omega) only [ltz, mul_nI, q1, ↓reduceIte, ↓nm_eq, add_nI, sub_nI, e1, e2, ↓rd_nI, ↓wr_nI, e3, e4]
        rfl
      · intro go
        have q1 : (nI ((N - a) * t) ≤ nI ((N - a) + ((N - a) * t - (N - a)))) = True := by rw [le_nI (by omega) (by omega)]; exact eq_true (by omega)
        simp only [ltz, mul_nI, q1, ↓reduceIte, ↓nm_eq, add_nI]
    · unfold putB
      by_cases hlt : i < N
      · rw [if_neg (by omega), gxx_lo hlt]
        exact h1 i hlt
      · rw [if_pos (by omega)]
        have haN : a < N := Nat.lt_of_not_le (fun hh => by rw [show N - a = 0 by omega, Nat.zero_mul] at hi; omega)
        refine ⟨?_, gxx_lt (fun i hi => (h1 i hi).2) haN⟩
        show nI (gxx g a N (N + (i - N))) = _
        rw [show N + (i - N) = i by omega]
  · intro h60
    rw [if_neg h60, wrong_M, some_bind, gb0]
