/-! HAIR: both sides -/
def puS (g : Nat → Int32) (w : Nat) : Nat → Int32
  | 0 => nI 0
  | k + 1 => puS g w k + g (44 + (6 * w + k)) - g (104 + (6 * w + k))
theorem putsUp_A (g : Nat → Int32) {w : Nat} (hw : w < 10) : f_X12_putsUp g (nI w) = some (puS g w 6, putF g w 6) := by
  unfold f_X12_putsUp L_X12_putsUp_4
  refine lp_run0 (fun k => (puS g w k, nI k, putF g w k)) 6 _ ?_ ?_ ?_ (fu_gt (by omega))
  · have : putF g w 0 = g := by funext i; unfold putF; rw [if_neg (by omega)]
    show _ = (nI 0, nI 0, putF g w 0)
    rw [this]; rfl
  · intro go k hk
    have q : (nI 6 ≤ nI k) = False := by rw [le_nI (by omega) (by omega)]; exact eq_false (by omega)
    have q1 : putF g w k (44 + (6 * w + k)) = g (44 + (6 * w + k)) := by unfold putF; rw [if_neg (by omega)]
    have q2 : putF g w k (104 + (6 * w + k)) = g (104 + (6 * w + k)) := by unfold putF; rw [if_neg (by omega)]
    have q4 : upd (putF g w k) (104 + (6 * w + k)) (g (44 + (6 * w + k))) = putF g w (k + 1) := by
      funext i
      unfold upd putF
      by_cases hi : i = 104 + (6 * w + k)
      · subst hi
        rw [if_pos rfl, if_pos (by omega), show 104 + (6 * w + k) - 60 = 44 + (6 * w + k) by omega]
      · rw [if_neg hi]
        by_cases h2 : 104 + 6 * w ≤ i ∧ i < 104 + 6 * w + k
        · rw [if_pos h2, if_pos (by omega)]
        · rw [if_neg h2, if_neg (by omega)]
    simp (disch := omega) only [ltz, q, ↓reduceIte, ↓nm_eq, mul_nI, add_nI, ↓rd_nI, ↓wr_nI, q1, q2, q4]
    rfl
  · intro go
    have q : (nI 6 ≤ nI 6) = True := by rw [le_nI (by omega) (by omega)]; exact eq_true (by omega)
    simp only [ltz, q, ↓reduceIte]
section HZ
variable {a1 a2 a3 a4 a5 a6 a7 a8 a9 a10 : Int32} {t0 t1 t2 t3 t4 : Nat → Int32}
theorem hair95_M {now : Nat → Int32} {w : Nat} (hw : w < 10) (k0 : (Nat → Int32) → Option HT16) : L_X12_hair_95 a1 a2 a3 a4 a5 a6 a7 a8 a9 a10 t0 t1 t2 t3 t4 (nI w) k0 fu (nI 0, now) = k0 (putB now (44 + 6 * w) (fun _ => nI 0) 6) := by
  unfold L_X12_hair_95
  refine lp_run0 (fun k => (nI k, putB now (44 + 6 * w) (fun _ => nI 0) k)) 6 _ (by show _ = (nI 0, putB now _ _ 0); rw [putB_0]) ?_ ?_ (fu_gt (by omega))
  · intro go k hk
    have q : (nI 6 ≤ nI k) = False := by rw [le_nI (by omega) (by omega)]; exact eq_false (by omega)
    have e4 : upd (putB now (44 + 6 * w) (fun _ => nI 0) k) (44 + 6 * w + k) (nI 0) = putB now (44 + 6 * w) (fun _ => nI 0) (k + 1) := putB_s now (44 + 6 * w) (fun _ => nI 0) k
    simp (disch := omega) only [ltz, q, ↓reduceIte, ↓nm_eq, mul_nI, add_nI, ↓wr_nI, e4]
  · intro go
    have q : (nI 6 ≤ nI 6) = True := by rw [le_nI (by omega) (by omega)]; exact eq_true (by omega)
    simp only [ltz, q, ↓reduceIte]
theorem hair127_M {now np : Nat → Int32} {g : Nat → Nat} {w N : Nat} (hw : w < 10) (hN : N ≤ 60) (h1 : ∀ i, i < N → np i = nI (g i) ∧ g i < 6) (k0 : (Nat → Int32) → Option HT16) : L_X12_hair_127 a1 a2 a3 a4 a5 a6 (nI N) a8 a9 a10 t0 np t2 t3 t4 (nI w) k0 fu (nI 0, putB now (44 + 6 * w) (fun _ => nI 0) 6) = k0 (putB now (44 + 6 * w) (fun k => nI (hCn g k N)) 6) := by
  unfold L_X12_hair_127
  refine lp_run0 (fun i => (nI i, putB now (44 + 6 * w) (fun k => nI (hCn g k i)) 6)) N _ rfl ?_ ?_ (fu_gt (by omega))
  · intro go i hi
    obtain ⟨e1, e2⟩ := h1 i hi
    have q : (nI N ≤ nI i) = False := by rw [le_nI (by omega) (by omega)]; exact eq_false (by omega)
    have q1 : putB now (44 + 6 * w) (fun k => nI (hCn g k i)) 6 (44 + 6 * w + g i) = nI (hCn g (g i) i) := by
      unfold putB
      rw [if_pos (by omega)]
      show nI (hCn g (44 + 6 * w + g i - (44 + 6 * w)) i) = _
      rw [Nat.add_sub_cancel_left]
    have q4 : upd (putB now (44 + 6 * w) (fun k => nI (hCn g k i)) 6) (44 + 6 * w + g i) (nI (hCn g (g i) i + 1)) = putB now (44 + 6 * w) (fun k => nI (hCn g k (i + 1))) 6 := by
      funext j
      unfold upd putB
      by_cases hj : j = 44 + 6 * w + g i
      · rw [if_pos hj, if_pos (by omega)]
        show _ = nI (hCn g (j - (44 + 6 * w)) (i + 1))
        rw [show j - (44 + 6 * w) = g i by omega, hCn_s, if_pos rfl]
      · rw [if_neg hj]
        by_cases h2 : 44 + 6 * w ≤ j ∧ j < 44 + 6 * w + 6
        · rw [if_pos h2, if_pos h2]
          show nI (hCn g (j - (44 + 6 * w)) i) = nI (hCn g (j - (44 + 6 * w)) (i + 1))
          rw [hCn_s, if_neg (by omega)]
          rfl
        · rw [if_neg h2, if_neg h2]
    simp (disch := omega) only [ltz, q, ↓reduceIte, ↓nm_eq, ↓rd_nI, e1, mul_nI, add_nI, ↓wr_nI, q1, q4]
  · intro go
    have q : (nI N ≤ nI N) = True := by rw [le_nI (by omega) (by omega)]; exact eq_true (by omega)
    simp only [ltz, q, ↓reduceIte]
end HZ
/-- a town in which a woman's hair is told -/
def hrF (h : Nat → Nat) (w : Nat) (P : Nat → Nat) : Nat → Nat := fun j => if 6 * w ≤ j ∧ j < 6 * w + 6 then P (j - 6 * w) else h j
def hrT (T : TS) (w : Nat) (P : Nat → Nat) : TS := (tt T, rn T, xx T, ru T, ro T, hrF (ha T) w P, hrF (pn T) w P)
theorem hrT_W {T : TS} {w : Nat} {P : Nat → Nat} (hT : WTown T) (hb : (tt T).testBit w = true) (hP : sumN P 6 ≤ 60) : WTown (hrT T w P) := by
  obtain ⟨a, b, c, d, e, f, g⟩ := hT
  refine ⟨a, b, c, d, e, fun j hj => ?_, fun v hv hv2 k hk => ?_⟩
  · show hrF (pn T) w P j ≤ hrF (ha T) w P j ∧ hrF (ha T) w P j ≤ 60
    unfold hrF
    by_cases h : 6 * w ≤ j ∧ j < 6 * w + 6
    · rw [if_pos h, if_pos h]
      have := sum6_le P (j - 6 * w) (by omega)
      exact ⟨Nat.le_refl _, by omega⟩
    · rw [if_neg h, if_neg h]
      exact f j hj
  · have hvw : v ≠ w := fun e => by
      subst e
      have hv2 : (tt T).testBit v = false := hv2
      rw [hb] at hv2
      cases hv2
    show hrF (ha T) w P (6 * v + k) = 0
    unfold hrF
    rw [if_neg (by omega)]
    exact g v hv hv2 k hk
theorem hrT_M {T : TS} {now : Nat → Int32} {w : Nat} {P : Nat → Nat} {c : Nat → Nat} (hM : MTown now T) (hw : w < 10) (hc : ∀ k, k < 6 → P k = c k) : MTown (putF (putB now (44 + 6 * w) (fun k => nI (c k)) 6) w 6) (hrT T w P) := by
  obtain ⟨a, b, c', d, e, f, g⟩ := hM
  have lo : ∀ i, ¬ (104 + 6 * w ≤ i ∧ i < 104 + 6 * w + 6) → ¬ (44 + 6 * w ≤ i ∧ i < 44 + 6 * w + 6) → putF (putB now (44 + 6 * w) (fun k => nI (c k)) 6) w 6 i = now i := by
    intro i h1 h2
    unfold putF putB
    rw [if_neg h1, if_neg h2]
  refine ⟨fun i hi => ?_, fun i hi => ?_, fun i hi => ?_, fun j hj => ?_, fun j hj => ?_, ?_, ?_⟩
  · rw [lo i (by omega) (by omega)]; exact a i hi
  · rw [lo _ (by omega) (by omega)]; exact b i hi
  · rw [lo _ (by omega) (by omega)]; exact c' i hi
  · show _ = nI (hrF (ha T) w P j)
    unfold hrF
    by_cases h : 6 * w ≤ j ∧ j < 6 * w + 6
    · unfold putF putB
      rw [if_neg (by omega), if_pos (by omega), if_pos h]
      show nI (c (44 + j - (44 + 6 * w))) = _
      rw [show 44 + j - (44 + 6 * w) = j - 6 * w by omega, hc _ (by omega)]
    · rw [if_neg h, lo _ (by omega) (by omega)]
      exact d j hj
  · show _ = nI (hrF (pn T) w P j)
    unfold hrF
    by_cases h : 6 * w ≤ j ∧ j < 6 * w + 6
    · unfold putF putB
      rw [if_pos (by omega), if_pos (by omega), if_pos h]
      show nI (c (104 + j - 60 - (44 + 6 * w))) = _
      rw [show 104 + j - 60 - (44 + 6 * w) = j - 6 * w by omega, hc _ (by omega)]
    · rw [if_neg h, lo _ (by omega) (by omega)]
      exact e j hj
  · rw [lo _ (by omega) (by omega)]; exact f
  · rw [lo _ (by omega) (by omega)]; exact g
theorem cpyD {β : Type} {f g : Nat → Int32} {w : Nat} {k : (Nat → Int32) → Option β} (hw : w < 10) : cpy f 6 g 60 (nI 0) (nI (w * 6)) (nI 6) k = k (va_cpy f g 0 (w * 6) 6) := by
  unfold cpy
  rw [nI_clamp (n := 0) (by omega), nI_clamp (n := 6) (by omega), nI_clamp (n := w * 6) (by omega), if_pos]
  exact ⟨⟨nI_pos (by omega), nI_pos (by omega), nI_pos (by omega)⟩, by omega, by omega⟩
theorem cpyD_v {f g : Nat → Int32} {h P : Nat → Nat} {w : Nat} (h1 : ∀ k, k < 6 → f k = nI (P k)) (h2 : ∀ j, j < 60 → g j = nI (h j)) : ∀ j, j < 60 → va_cpy f g 0 (w * 6) 6 j = nI (hrF h w P j) := by
  intro j hj
  unfold hrF
  by_cases hh : 6 * w ≤ j ∧ j < 6 * w + 6
  · rw [if_pos hh, pk_cpy_in (by omega) (by omega), show 0 + (j - w * 6) = j - 6 * w by omega]
    exact h1 _ (by omega)
  · rw [if_neg hh, pk_cpy_out (by omega)]
    exact h2 j hj
theorem hrF_sum (h : Nat → Nat) (w : Nat) (P : Nat → Nat) : sumN (fun k => hrF h w P (6 * w + k)) 6 = sumN P 6 := by
  apply sumN_congr
  intro k hk
  unfold hrF
  rw [if_pos (by omega), Nat.add_sub_cancel_left]
theorem B_hair {n : Nat} {size taped : Int32} {f g : Nat → Int32} {b : Nat → Nat} {T : TS} {told round x : Int32} {rust rooms hair pins now : Nat → Int32} {se sp sf : Int32} {hp ha' : Nat → Int32} {pl le fa cm sm nn ro' pf pt : Int32} {np rf ra rt : Nat → Int32} (tC : CTape size f n b) (tM : MTape taped g n b) (hC : CTown told round x rust rooms hair pins T) (hM : MTown now T) (hT : WTown T) (x1 x2 : Int32) :
    ∃ r r' n' T', fo_X11_hair size f se sp sf hp ha' told hair pins x1 x2 = some r ∧ f_X12_hair taped pl le fa cm sm nn ro' pf pt now g np rf ra rt x1 x2 = some r' ∧ r.1 = r'.1 ∧ r.2.1 = nI n' ∧ r'.2.1 = nI n' ∧ n' ≤ n ∧ CTown told round x rust rooms r.2.2.2.2.2.2.2.1 r.2.2.2.2.2.2.2.2 T' ∧ MTown r'.2.2.2.2.2.2.2.2.2.2.2.1 T' ∧ WTown T' := by
  have tC0 := tC
  have tM0 := tM
  have hC0 := hC
  obtain ⟨t1, rfl, t2⟩ := tC
  obtain ⟨rfl, t3⟩ := tM
  obtain ⟨rfl, c2, c3, c4, c5, c6, c7⟩ := hC
  unfold fo_X11_hair f_X12_hair fo_X7_open f_X8_clear f_X12_beginsText
  simp only [ltz]
  rcases (woman_cases hM hT x1).symm with ⟨u1, u2⟩ | ⟨w, hw, rfl, hb, u1, u2⟩
  · have u1 : f_X9_isTold (nI (tt T)) x1 = some (nI 0) := u1
    have u2 : f_X12_isWoman now x1 = some (nI 0) := u2
    simp only [↓bind_of u1, ↓bind_of u2, ↓reduceIte]
    exact ⟨_, _, n, T, rfl, rfl, rfl, rfl, rfl, Nat.le_refl _, hC0, hM, hT⟩
  have u1 : f_X9_isTold (nI (tt T)) (nI w) = some (nI 1) := u1
  have u2 : f_X12_isWoman now (nI w) = some (nI 1) := u2
  rcases in01 x2 1 60 (by omega) (by omega) with ⟨e1, e2⟩ | ⟨e, he1, he2, rfl, e1, e2⟩
  · simp only [↓bind_of u1, ↓bind_of u2, ↓bind_of e1, ↓bind_of e2, n10, ↓reduceIte]
    exact ⟨_, _, n, T, rfl, rfl, rfl, rfl, rfl, Nat.le_refl _, hC0, hM, hT⟩
  rcases Nat.lt_or_ge n e with hen | hen
  · have q : (nI e ≤ nI n) = False := by rw [le_nI (by omega) (by omega)]; exact eq_false (by omega)
    simp only [↓bind_of u1, ↓bind_of u2, ↓bind_of e1, ↓bind_of e2, n10, q, ↓reduceIte]
    exact ⟨_, _, n, T, rfl, rfl, rfl, rfl, rfl, Nat.le_refl _, hC0, hM, hT⟩
  have q : (nI e ≤ nI n) = True := by rw [le_nI (by omega) (by omega)]; exact eq_true hen
  have ht : txt e b := ⟨by omega, fun i hi => (t2 i (by omega)).2⟩
  obtain ⟨pins', ahead', p', z, wf, qf, P', k1, ⟨nr, k2⟩, k3⟩ := read_C tC0 ht hen he2 hp ha'
  simp only [↓bind_of u1, ↓bind_of u2, ↓bind_of e1, ↓bind_of e2, n10, q, ↓reduceIte, ↓some_bind, ↓bind_of k1]
  rw [readsPin_eq]
  generalize hk0 : (fun s7 : HT11 => ite (s7.1 = nI 0) _ _) = k0
  obtain ⟨s, m1, m2⟩ := (run_M t1 tM0 ht hen (nI n) (nI 0) (nI 0) (nI w) now k0 nr).1 0 0 _ _ _ fu fu 0 fa pf pt np rf ra rt (fun _ => 0) k2 (by omega) (by omega) ⟨by omega, fun i hi => absurd hi (by omega), fun k hk => rfl, fun j hj => absurd hj (by omega)⟩ (fu_gt (by omega)) (fu_gt (by omega))
  rw [m1, ← hk0]
  obtain ⟨y1, y2, y3, y4, y5, y6, y7, y8, y9, y10, y11⟩ := s
  rcases k3 with ⟨d1, d2, d3, d4⟩ | ⟨rfl, rfl, d3, d4⟩
  · obtain ⟨f1, f2⟩ := m2.1 (by show wf ≠ 0; omega)
    dsimp only at f1 f2
    subst f1; subst f2
    have hz : z ≠ nI 0 := by rw [d4]; exact flt_ne wf qf d1 (by omega) (by omega)
    simp only [↓bind_of (sound_n hz), ↓reduceIte]
    exact ⟨_, _, 0, T, rfl, rfl, d4, rfl, rfl, Nat.zero_le _, hC0, hM, hT⟩
  · obtain ⟨f1, N, gg, f2, f3, f4, f5⟩ := m2.2 rfl
    dsimp only at f1 f2 f4 f5
    subst f1; subst f2
    have hsum : sumN P' 6 = N := by
      rw [sumN_congr 6 f5]
      exact hCn_sum N (fun i hi => (f4 i hi).2)
    have hWT := hrT_W (P := P') hT hb d4
    have hMT := hrT_M (T := T) (P := P') (c := fun k => hCn gg k N) hM hw f5
    have g6 : Int32.ofNat 6 = nI 6 := rfl
    have dr : f_X9_dress 6 (nI (tt T)) hair pins pins' (nI w) = some (va_cpy pins' hair 0 (w * 6) 6, va_cpy pins' pins 0 (w * 6) 6) := by
      unfold f_X9_dress
      simp only [ltz, ↓bind_of u1, n10, ↓reduceIte, g6, mul_nI, ↓cpyD hw]
    have hp2 := cpyD_v (w := w) d3 c7
    have po := pinsOf_C (T := hrT T w P') (told := nI (tt T)) (pins := va_cpy pins' pins 0 (w * 6) 6) rfl hp2 hMT hWT hw hb
    have ps : sumN (fun k => pn (hrT T w P') (6 * w + k)) 6 = N := by rw [← hsum]; exact hrF_sum (pn T) w P'
    rw [ps] at po
    simp only [↓bind_of sound_0, n10, ↓reduceIte, ↓bind_of dr, ↓bind_of po]
    rw [hair95_M hw]
    rw [hair127_M hw f3 f4]
    rw [putsUp_A _ hw, some_bind]
    exact ⟨_, _, 0, hrT T w P', rfl, rfl, rfl, rfl, rfl, Nat.zero_le _, ⟨rfl, c2, c3, c4, c5, cpyD_v d3 c6, hp2⟩, hMT, hWT⟩
