/-! HAIR: the model follows the small steps -/
def HMi (d N : Nat) (st : HSt) (P : Nat → Nat) (np rf ra rt : Nat → Int32) (g : Nat → Nat) : Prop := N ≤ 60 ∧ (∀ i, i < N → np i = nI (g i) ∧ g i < 6) ∧ (∀ k, k < 6 → P k = hCn g k N) ∧ (∀ j, j < d → ∃ a, rf j = nI (st j).1 ∧ rt j = nI (st j).2.1 ∧ ra j = nI a ∧ a ≤ N ∧ 1 ≤ (st j).2.1 ∧ (st j).2.1 ≤ 9 ∧ (∀ k, k < 6 → (st j).2.2 k = hCn g k a))
def HMf (r : HRs) (s : HT11) : Prop := (r.1 ≠ 0 → s.1 = nI 0 ∧ s.2.2.1 = flt r.1 r.2.1) ∧ (r.1 = 0 → s.1 = nI 1 ∧ ∃ N g, s.2.2.2.1 = nI N ∧ N ≤ 60 ∧ (∀ i, i < N → s.2.2.2.2.2.2.2.1 i = nI (g i) ∧ g i < 6) ∧ (∀ k, k < 6 → r.2.2 k = hCn g k N))
theorem HMi_sum {d N : Nat} {st : HSt} {P : Nat → Nat} {np rf ra rt : Nat → Int32} {g : Nat → Nat} (h : HMi d N st P np rf ra rt g) : sumN P 6 = N := by
  rw [sumN_congr 6 h.2.2.1]
  exact hCn_sum N (fun i hi => (h.2.1 i hi).2)
theorem rep_cnt {g P Q : Nat → Nat} {a N t : Nat} (ha : a ≤ N) (ht : 1 ≤ t) (hg : ∀ i, i < N → g i < 6) (hP : ∀ k, k < 6 → P k = hCn g k N) (hQ : ∀ k, k < 6 → Q k = hCn g k a) : (∀ k, k < 6 → hRep P Q t k = hCn (gxx g a N) k (a + (N - a) * t)) ∧ sumN (hRep P Q t) 6 = a + (N - a) * t := by
  have h1 : ∀ k, k < 6 → hRep P Q t k = hCn (gxx g a N) k (a + (N - a) * t) := by
    intro k hk
    have h := gxx_hCn (g := g) (a := a) (m := N - a) k (t - 1)
    rw [show t - 1 + 1 = t by omega, show a + (N - a) = N by omega] at h
    rw [h]
    unfold hRep
    rw [hP k hk, hQ k hk]
  refine ⟨h1, ?_⟩
  rw [sumN_congr 6 h1]
  refine hCn_sum _ (fun i hi => ?_)
  by_cases h : i < N
  · rw [gxx_lo h]; exact hg i h
  · have haN : a < N := Nat.lt_of_not_le (fun hh => by rw [show N - a = 0 by omega, Nat.zero_mul] at hi; omega)
    exact gxx_lt hg haN
section HM
variable {n e : Nat} {tp : Int32} {tape : Nat → Int32} {b : Nat → Nat}
theorem inY {p l h : Nat} (ht : txt e b) (hh : h < 256) (hl : l < 256) (c : l ≤ hN e b p ∧ hN e b p ≤ h) : f_X12_in (hr e b p) (nI l) (nI h) = some (nI 1) := by rw [in_hr ht p hh hl, decide_eq_true c]; rfl
theorem inN {p l h : Nat} (ht : txt e b) (hh : h < 256) (hl : l < 256) (c : ¬ (l ≤ hN e b p ∧ hN e b p ≤ h)) : f_X12_in (hr e b p) (nI l) (nI h) = some (nI 0) := by rw [in_hr ht p hh hl, decide_eq_false c]; rfl
theorem times_M (hn : n ≤ 260) (tM : MTape tp tape n b) (ht : txt e b) (he : e ≤ n) {p t p1 : Nat} (hp : p ≤ e) (hT : hTm e b p = (t, p1)) (pf pt : Int32) : f_X12_readsTimes (nI p) (nI e) pf pt tape = some (nI p1, nI p, nI t) := by
  have s1 := here_M hn tM he (show p < 100000 by omega)
  unfold f_X12_readsTimes
  simp only [ltz]
  obtain ⟨t', p1', hT', h1, h2, h3, h4, h5⟩ := hTm_ok e b p
  rw [hT] at hT'
  injection hT' with a1 a2
  subst a1; subst a2
  rcases h5 with ⟨rfl, rfl, h6⟩ | ⟨rfl, rfl, h6, h7⟩
  · have w1 := inN (p := p1) (l := 50) (h := 57) ht (by omega) (by omega) h6
    simp only [↓bind_of s1, ↓bind_of w1, ↓reduceIte]
  · have w1 := inY (p := p) (l := 50) (h := 57) ht (by omega) (by omega) ⟨h6, h7⟩
    have s2 := (hN_low ht (p := p) (by omega)).2
    simp (disch := omega) only [↓bind_of s1, ↓bind_of w1, n10, ↓reduceIte, ↓nm_eq, s2, sub_nI, add_nI]
theorem L48_0 {ta le cm sm x1 : Int32} {now : Nat → Int32} {k0 : HT11 → Option HT16} {m2 : Nat} (s : Int32 × Int32 × Int32 × Int32 × Int32 × Int32 × (Nat → Int32) × (Nat → Int32) × (Nat → Int32) × (Nat → Int32)) : L_X12_hair_48 ta le cm sm now tape x1 k0 (m2 + 1) (nI 0, s) = k0 (nI 0, s) := by
  rw [st_X12_hair_48]
  simp only [ltz, ↓reduceIte]
theorem L48_1 {ta cm sm x1 : Int32} {now : Nat → Int32} {k0 : HT11 → Option HT16} {m2 p d : Nat} {z N pf pt : Int32} {np rf ra rt : Nat → Int32} (hp : p ≤ e) (he : e ≤ 260) (hd : d ≤ 2) : L_X12_hair_48 ta (nI e) cm sm now tape x1 k0 (m2 + 1) (nI 1, nI p, z, N, nI d, pf, pt, np, rf, ra, rt) = if d = 0 ∧ ¬ p < e then k0 (nI 1, nI p, z, N, nI d, pf, pt, np, rf, ra, rt) else hA ta (nI e) cm sm now tape x1 k0 fu m2 (nI p) (nI d) N z np rf ra rt pf pt := by
  rw [st_X12_hair_48]
  by_cases h : d = 0 ∧ ¬ p < e
  · have q1 : (nI p < nI e) = False := by rw [lt_nI (by omega) (by omega)]; exact eq_false h.2
    have q2 : (nI d ≤ nI 0) = True := by rw [le_nI (by omega) (by omega)]; exact eq_true (by omega)
    rw [if_pos h]
    simp only [ltz, n10, ↓reduceIte, ↓jn_eq, q1, q2]
  · rw [if_neg h]
    by_cases h1 : p < e
    · have q1 : (nI p < nI e) = True := by rw [lt_nI (by omega) (by omega)]; exact eq_true h1
      simp only [ltz, n10, ↓reduceIte, ↓jn_eq, q1]
      exact readsPin_eq _ _ _ _ _ _ _ _ _ _ _ _ _ _ _ _ _ _ _
    · have q1 : (nI p < nI e) = False := by rw [lt_nI (by omega) (by omega)]; exact eq_false h1
      have q2 : (nI d ≤ nI 0) = False := by rw [le_nI (by omega) (by omega)]; exact eq_false (by omega)
      simp only [ltz, n10, ↓reduceIte, ↓jn_eq, q1, q2]
      exact readsPin_eq _ _ _ _ _ _ _ _ _ _ _ _ _ _ _ _ _ _ _
theorem run_M (hn : n ≤ 260) (tM : MTape tp tape n b) (ht : txt e b) (he : e ≤ n) (ta cm sm x1 : Int32) (now : Nat → Int32) (k0 : HT11 → Option HT16) : ∀ nn : Nat,
    (∀ (p d : Nat) (st : HSt) (P : Nat → Nat) (r : HRs) (m m2 N : Nat) (z pf pt : Int32) (np rf ra rt : Nat → Int32) (g : Nat → Nat), hRun e b nn true p d st P = some r → d ≤ 2 → p ≤ e → HMi d N st P np rf ra rt g → e - p < m → e - p < m2 → ∃ s, hA ta (nI e) cm sm now tape x1 k0 m m2 (nI p) (nI d) (nI N) z np rf ra rt pf pt = k0 s ∧ HMf r s) ∧
    (∀ (p d : Nat) (st : HSt) (P : Nat → Nat) (r : HRs) (m m2 N : Nat) (z pf pt : Int32) (np rf ra rt : Nat → Int32) (g : Nat → Nat), hRun e b nn false p d st P = some r → d ≤ 2 → p ≤ e → HMi d N st P np rf ra rt g → e - p < m → e - p + 1 < m2 → ∃ s, hB ta (nI e) cm sm now tape x1 k0 m m2 (nI p) (nI d) (nI N) z np rf ra rt pf pt = k0 s ∧ HMf r s) := by
  intro nn
  induction nn with
  | zero =>
    constructor
    · intro p d st P r m m2 N z pf pt np rf ra rt g h
      cases h
    · intro p d st P r m m2 N z pf pt np rf ra rt g h
      cases h
  | succ nn ih =>
    obtain ⟨ihA, ihB⟩ := ih
    constructor
    · intro p d st P r m m2 N z pf pt np rf ra rt g hrun hd hp hI hm hm2
      obtain ⟨m, rfl⟩ : ∃ z, m = z + 1 := ⟨m - 1, by omega⟩
      have hsum := HMi_sum hI
      obtain ⟨hN60, hI1, hI2, hI3⟩ := hI
      obtain ⟨t, p1, hT, ht1, ht9, hq1, hq2, hq3⟩ := hTm_ok e b p
      have hp1 : p1 ≤ e := by
        rcases hq3 with ⟨rfl, _⟩ | ⟨rfl, _, h6, h7⟩
        · exact hp
        · have := (hN_low ht (p := p) (by omega)).1
          omega
      have r1 := times_M hn tM ht he hp hT pf pt
      have s1 := here_M hn tM he (show p1 < 100000 by omega)
      simp only [hRun, hT] at hrun
      unfold hA
      have q40 := eq_hr ht p1 (c := 40) (by omega)
      by_cases hL : 97 ≤ hN e b p1 ∧ hN e b p1 ≤ 102
      · rw [if_pos hL] at hrun
        have q40' : (hr e b p1 = nI 40) = False := by rw [q40]; exact eq_false (by omega)
        have w1 := inY (p := p1) (l := 97) (h := 102) ht (by omega) (by omega) hL
        obtain ⟨hlt, s2⟩ := hN_low ht (p := p1) (by omega)
        have w1' : f_X12_in (nI (hN e b p1)) (nI 97) (nI 102) = some (nI 1) := by rw [← s2]; exact w1
        have hk : hN e b p1 - 97 < 6 := by omega
        have hs := hAdd_sum P t _ hk
        simp only [↓bind_of r1]
        rw [st_X12_readsPin_4]
        by_cases h60 : sumN (hAdd P (hN e b p1 - 97) t) 6 ≤ 60
        · rw [if_pos h60] at hrun
          have q60 : (nI (N + t) ≤ nI 60) = True := by rw [le_nI (by omega) (by omega)]; exact eq_true (by omega)
          have hg1 : ∀ i, i < N + 1 → upd np N (nI (hN e b p1 - 97)) i = nI (if i = N then hN e b p1 - 97 else g i) ∧ (if i = N then hN e b p1 - 97 else g i) < 6 := by
            intro i hi
            by_cases hiN : i = N
            · rw [if_pos hiN, hiN, upd_at]; exact ⟨rfl, hk⟩
            · rw [if_neg hiN, upd_ne _ _ hiN]; exact hI1 i (by omega)
          have hrep := (repeats_M (q := p) (x := z) hg1 (by omega) (show N ≤ N + 1 by omega) ht1 ht9).1
          rw [show N + (N + 1 - N) * t = N + t by rw [show N + 1 - N = 1 by omega, Nat.one_mul]] at hrep
          obtain ⟨np', c1, c2⟩ := hrep (by omega)
          have e3 : nI (N + 1) - nI 1 = nI N := by rw [sub_nI (by omega)]; rfl
          simp (disch := omega) only [ltz, ↓bind_of s1, q40', ↓reduceIte]
          unfold hK1
          simp (disch := omega) only [ltz, ↓bind_of s1, s2, ↓bind_of w1', n10, ↓reduceIte, add_nI, q60, sub_nI, ↓wr_nI, ↓nm_eq]
          simp only [Nat.add_sub_cancel, ↓bind_of c1, n10, ↓reduceIte]
          refine ihB (p1 + 1) d st _ r fu m2 (N + t) z (nI p) (nI t) np' rf ra rt (gxx (fun i => if i = N then hN e b p1 - 97 else g i) N (N + 1)) hrun hd (by omega) ⟨by omega, c2, fun k hk6 => ?_, fun j hj => ?_⟩ (fu_gt (by omega)) (by omega)
          · have h := gxx_hCn (g := fun i => if i = N then hN e b p1 - 97 else g i) (a := N) (m := 1) k (t - 1)
            rw [show t - 1 + 1 = t by omega, Nat.one_mul, hCn_s] at h
            have e0 : hCn (fun i => if i = N then hN e b p1 - 97 else g i) k N = P k := by
              rw [hI2 k hk6]
              exact hCn_congr (fun i hi => if_neg (by omega))
            rw [h, e0]
            show hAdd P (hN e b p1 - 97) t k = P k + (if (if N = N then hN e b p1 - 97 else g N) = k then 1 else 0) + (t - 1) * (P k + (if (if N = N then hN e b p1 - 97 else g N) = k then 1 else 0) - P k)
            rw [if_pos (rfl : N = N)]
            unfold hAdd
            by_cases hkk : k = hN e b p1 - 97
            · rw [if_pos hkk, if_pos hkk.symm, show P k + 1 - P k = 1 by omega]
              omega
            · rw [if_neg hkk, if_neg (fun h => hkk h.symm), show P k + 0 - P k = 0 by omega]
              omega
          · obtain ⟨a, a1, a2, a3, a4, a5, a6, a7⟩ := hI3 j hj
            refine ⟨a, a1, a2, a3, by omega, a5, a6, fun k hk6 => ?_⟩
            rw [a7 k hk6]
            refine (hCn_congr (fun i hi => ?_)).symm
            rw [gxx_lo (by omega)]
            exact if_neg (by omega)
        · rw [if_neg h60] at hrun
          injection hrun with hrun
          subst hrun
          have q60 : (nI (N + t) ≤ nI 60) = False := by rw [le_nI (by omega) (by omega)]; exact eq_false (by omega)
          simp (disch := omega) only [ltz, ↓bind_of s1, q40', ↓reduceIte]
          unfold hK1
          simp (disch := omega) only [ltz, ↓bind_of s1, ↓bind_of w1, n10, ↓reduceIte, add_nI, q60, ↓bind_of (wrong_M z 6 p), gb0, ↓some_bind]
          obtain ⟨m2, rfl⟩ : ∃ z, m2 = z + 1 := ⟨m2 - 1, by omega⟩
          rw [L48_0]
          exact ⟨_, rfl, fun _ => ⟨rfl, rfl⟩, fun h => absurd h (by show ¬ (6 : Nat) = 0; omega)⟩
      · rw [if_neg hL] at hrun
        by_cases hO : hN e b p1 = 40
        · have q40' : (hr e b p1 = nI 40) = True := by rw [q40]; exact eq_true hO
          have hlt := (hN_low ht (p := p1) (by omega)).1
          rw [if_pos hO] at hrun
          simp only [↓bind_of r1]
          rw [st_X12_readsPin_4]
          by_cases hd2 : d = 2
          · rw [if_pos hd2] at hrun
            injection hrun with hrun
            subst hrun
            subst hd2
            simp only [ltz, ↓bind_of s1, q40', ↓reduceIte]
            unfold hK0
            simp only [ltz, ↓bind_of (wrong_M z 5 p1), gb0, ↓some_bind]
            obtain ⟨m2, rfl⟩ : ∃ z, m2 = z + 1 := ⟨m2 - 1, by omega⟩
            rw [L48_0]
            exact ⟨_, rfl, fun _ => ⟨rfl, rfl⟩, fun h => absurd h (by show ¬ (5 : Nat) = 0; omega)⟩
          · rw [if_neg hd2] at hrun
            have q2 : (nI d = nI 2) = False := by rw [eq_nI (by omega) (by omega)]; exact eq_false hd2
            have hd3 : d < 2 := by omega
            simp (disch := omega) only [ltz, ↓bind_of s1, q40', ↓reduceIte, q2, ↓wr_nI, ↓nm_eq, add_nI]
            refine ihA (p1 + 1) (d + 1) _ P r m m2 N z (nI p) (nI t) np (upd rf d (nI p)) (upd ra d (nI N)) (upd rt d (nI t)) g hrun (by omega) (by omega) ⟨hN60, hI1, hI2, fun j hj => ?_⟩ (by omega) (by omega)
            unfold hPut
            by_cases hjd : j = d
            · subst hjd
              rw [if_pos rfl]
              exact ⟨N, by rw [upd_at], by rw [upd_at], by rw [upd_at], Nat.le_refl _, ht1, ht9, hI2⟩
            · rw [if_neg hjd, upd_ne _ _ hjd, upd_ne _ _ hjd, upd_ne _ _ hjd]
              exact hI3 j (by omega)
        · have q40' : (hr e b p1 = nI 40) = False := by rw [q40]; exact eq_false hO
          rw [if_neg hO] at hrun
          injection hrun with hrun
          subst hrun
          have w1 := inN (p := p1) (l := 97) (h := 102) ht (by omega) (by omega) hL
          simp only [↓bind_of r1]
          rw [st_X12_readsPin_4]
          simp only [ltz, ↓bind_of s1, q40', ↓reduceIte]
          unfold hK1
          simp only [ltz, ↓bind_of s1, ↓bind_of w1, ↓reduceIte, ↓bind_of (wrong_M z 1 p1), gb0, ↓some_bind]
          obtain ⟨m2, rfl⟩ : ∃ z, m2 = z + 1 := ⟨m2 - 1, by omega⟩
          rw [L48_0]
          exact ⟨_, rfl, fun _ => ⟨rfl, rfl⟩, fun h => absurd h (by show ¬ (1 : Nat) = 0; omega)⟩
    · intro p d st P r m m2 N z pf pt np rf ra rt g hrun hd hp hI hm hm2
      obtain ⟨m, rfl⟩ : ∃ z, m = z + 1 := ⟨m - 1, by omega⟩
      obtain ⟨m2, rfl⟩ : ∃ z, m2 = z + 1 := ⟨m2 - 1, by omega⟩
      have hI0 := hI
      obtain ⟨hN60, hI1, hI2, hI3⟩ := hI
      have s1 := here_M hn tM he (show p < 100000 by omega)
      have q41 := eq_hr ht p (c := 41) (by omega)
      simp only [hRun] at hrun
      unfold hB
      rw [st_X12_readsPin_203]
      by_cases hd0 : d = 0
      · rw [if_pos hd0] at hrun
        have q0 : (nI d ≤ nI 0) = True := by rw [le_nI (by omega) (by omega)]; exact eq_true (by omega)
        have hsame : ∀ k : HT11 → Option HT16, ((if hr e b p = nI 41 then some (nI 1, nI p, z, nI N, nI d, pf, pt, np, rf, ra, rt) else some (nI 1, nI p, z, nI N, nI d, pf, pt, np, rf, ra, rt)) : Option HT11).bind k = k (nI 1, nI p, z, nI N, nI d, pf, pt, np, rf, ra, rt) := by
          intro k
          split <;> rfl
        simp only [ltz, ↓bind_of s1, q0, ↓reduceIte]
        rw [hsame, L48_1 hp (by omega) hd]
        by_cases hpe : p < e
        · rw [if_pos hpe] at hrun
          rw [if_neg (fun h => h.2 hpe)]
          exact ihA p d st P r fu m2 N z pf pt np rf ra rt g hrun hd hp hI0 (fu_gt (by omega)) (by omega)
        · rw [if_neg hpe] at hrun
          injection hrun with hrun
          subst hrun
          rw [if_pos ⟨hd0, hpe⟩]
          exact ⟨_, rfl, fun h => absurd rfl h, fun _ => ⟨rfl, N, g, rfl, hN60, hI1, hI2⟩⟩
      · rw [if_neg hd0] at hrun
        have q0 : (nI d ≤ nI 0) = False := by rw [le_nI (by omega) (by omega)]; exact eq_false (by omega)
        by_cases h41 : hN e b p = 41
        · have q41' : (hr e b p = nI 41) = True := by rw [q41]; exact eq_true h41
          have hlt := (hN_low ht (p := p) (by omega)).1
          rw [if_pos h41] at hrun
          obtain ⟨a, a1, a2, a3, a4, a5, a6, a7⟩ := hI3 (d - 1) (by omega)
          obtain ⟨k1, k2⟩ := rep_cnt (t := (st (d - 1)).2.1) a4 a5 (fun i hi => (hI1 i hi).2) hI2 a7
          have hrep := repeats_M (q := (st (d - 1)).1) (x := z) hI1 hN60 a4 a5 a6
          by_cases h60 : sumN (hRep P (st (d - 1)).2.2 (st (d - 1)).2.1) 6 ≤ 60
          · rw [if_pos h60] at hrun
            rw [k2] at h60
            obtain ⟨np', c1, c2⟩ := hrep.1 h60
            simp (disch := omega) only [ltz, ↓bind_of s1, q41', q0, ↓reduceIte, ↓nm_eq, add_nI, sub_nI, ↓rd_nI, a1, a2, a3, ↓bind_of c1, n10]
            refine ihB (p + 1) (d - 1) st _ r m (m2 + 1) _ z pf pt np' rf ra rt (gxx g a N) hrun (by omega) (by omega) ⟨h60, c2, k1, fun j hj => ?_⟩ (by omega) (by omega)
            obtain ⟨a', b1, b2, b3, b4, b5, b6, b7⟩ := hI3 j (by omega)
            have hge : (N - a) * 1 ≤ (N - a) * (st (d - 1)).2.1 := Nat.mul_le_mul_left _ a5
            refine ⟨a', b1, b2, b3, by omega, b5, b6, fun k hk6 => ?_⟩
            rw [b7 k hk6]
            exact (hCn_congr (fun i hi => gxx_lo (by omega))).symm
          · rw [if_neg h60] at hrun
            injection hrun with hrun
            subst hrun
            rw [k2] at h60
            have c1 := hrep.2 h60
            simp (disch := omega) only [ltz, ↓bind_of s1, q41', q0, ↓reduceIte, ↓nm_eq, add_nI, sub_nI, ↓rd_nI, a1, a2, a3, ↓bind_of c1, ↓some_bind]
            rw [L48_0]
            exact ⟨_, rfl, fun _ => ⟨rfl, rfl⟩, fun h => absurd h (by show ¬ (6 : Nat) = 0; omega)⟩
        · have q41' : (hr e b p = nI 41) = False := by rw [q41]; exact eq_false h41
          rw [if_neg h41] at hrun
          simp only [ltz, ↓bind_of s1, q41', ↓reduceIte, ↓some_bind]
          rw [L48_1 hp (by omega) hd, if_neg (fun h => hd0 h.1)]
          exact ihA p d st P r fu m2 N z pf pt np rf ra rt g hrun hd hp hI0 (fu_gt (by omega)) (by omega)
end HM
