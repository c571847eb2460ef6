/-! whole numbers with a sign; THURSDAY -/
def zI (z : Int) : Int32 := Int32.ofInt z
theorem zI_nat (n : Nat) : nI n = zI (n : Int) := by unfold nI zI; rw [Int32.ofInt_eq_ofNat]
theorem zI_add (a b : Int) : zI a + zI b = zI (a + b) := by unfold zI; rw [← Int32.ofInt_add]
theorem zI_sub (a b : Int) : zI a - zI b = zI (a - b) := by unfold zI; rw [← Int32.ofInt_sub]
theorem zI_neg (a : Int) : -zI a = zI (-a) := by unfold zI; rw [← Int32.ofInt_neg]
theorem zI_toInt {a : Int} (h1 : -2147483648 ≤ a) (h2 : a < 2147483648) : (zI a).toInt = a := Int32.toInt_ofInt_of_le (by omega) (by omega)
theorem zI_ge0 {a : Int} (h1 : -2147483648 ≤ a) (h2 : a < 2147483648) : ((0 : Int32) ≤ zI a) = (0 ≤ a) := by
  apply propext
  rw [i32_le, zI_toInt h1 h2]
  rfl
theorem abs_C {a : Int} (h1 : -2147483647 ≤ a) (h2 : a < 2147483648) : f_J9_abs_0f7a4 (zI a) = some (nI a.natAbs) := by
  unfold f_J9_abs_0f7a4
  simp only [zI_ge0 (show -2147483648 ≤ a by omega) h2]
  by_cases h : 0 ≤ a
  · rw [if_pos h, zI_nat, show (a.natAbs : Int) = a by omega]
  · rw [if_neg h, zI_neg, zI_nat, show (a.natAbs : Int) = -a by omega]
theorem abs_M {a : Int} (h1 : -2147483647 ≤ a) (h2 : a < 2147483648) : f_X12_size (zI a) = some (nI a.natAbs) := by
  unfold f_X12_size
  simp only [zI_ge0 (show -2147483648 ≤ a by omega) h2]
  by_cases h : 0 ≤ a
  · rw [if_pos h, zI_nat, show (a.natAbs : Int) = a by omega]
  · rw [if_neg h, zI_neg, zI_nat, show (a.natAbs : Int) = -a by omega]
theorem dv_nI {β : Type} {a d : Nat} (ha : a < 2147483648) (h0 : 0 < d) (hd : d < 2147483648) (k : Int32 → Option β) : dv (nI a) (nI d) k = k (nI (a / d)) := by
  unfold dv
  rw [if_neg (nI_ne0 h0 hd), pk_div ha h0 hd]
theorem rm_nI {β : Type} {a d : Nat} (ha : a < 2147483648) (h0 : 0 < d) (hd : d < 2147483648) (k : Int32 → Option β) : rm (nI a) (nI d) k = k (nI (a % d)) := by
  unfold rm
  rw [if_neg (nI_ne0 h0 hd), pk_rem ha h0 hd]
def sumZ (f : Nat → Int) : Nat → Int
  | 0 => 0
  | n + 1 => sumZ f n + f n
/-- what is carried behind day d -/
def cry (b : Nat → Nat) (s : Nat) (d : Nat) : Int := sumZ (fun j => (b j : Int) - s) (d + 1)
def hnd (b : Nat → Nat) (s f : Nat) : Nat → Int
  | 0 => 0
  | i + 1 => hnd b s f i + ((b ((f + i) % 7) : Int) - s)
def stC (b : Nat → Nat) (s f : Nat) (n : Nat) : Nat := sumN (fun i => (hnd b s f (i + 1)).natAbs) n
def stM (b : Nat → Nat) (s r : Nat) (n : Nat) : Nat := sumN (fun k => (cry b s k - cry b s r).natAbs) n
theorem cry_b {b : Nat → Nat} {s : Nat} (hb : ∀ i, i < 7 → b i < 256) (hs : s < 256) : ∀ d : Nat, d < 7 → -(256 * ((d : Int) + 1)) ≤ cry b s d ∧ cry b s d ≤ 256 * ((d : Int) + 1) := by
  intro d
  induction d with
  | zero =>
    intro _
    have := hb 0 (by omega)
    simp only [cry, sumZ]
    omega
  | succ d ih =>
    intro hd
    have h1 := ih (by omega)
    have h2 := hb (d + 1) hd
    have e : cry b s (d + 1) = cry b s d + ((b (d + 1) : Int) - s) := rfl
    rw [e]
    omega
theorem hnd_b {b : Nat → Nat} {s f : Nat} (hb : ∀ i, i < 7 → b i < 256) (hs : s < 256) : ∀ i : Nat, i ≤ 7 → -(256 * (i : Int)) ≤ hnd b s f i ∧ hnd b s f i ≤ 256 * (i : Int) := by
  intro i
  induction i with
  | zero => intro _; simp [hnd]
  | succ i ih =>
    intro hi
    have h1 := ih (by omega)
    have h2 := hb ((f + i) % 7) (by omega)
    simp only [hnd]
    omega
theorem cry_6 {b : Nat → Nat} {s : Nat} (h : sumN b 7 = 7 * s) : cry b s 6 = 0 := by
  simp only [cry, sumZ]
  simp only [sumN] at h
  omega
theorem cry_cyc {b : Nat → Nat} {s : Nat} (h : sumN b 7 = 7 * s) : ∀ d, d < 7 → cry b s d = cry b s ((d + 6) % 7) + ((b d : Int) - s) := by
  intro d hd
  have h6 := cry_6 h
  rcases (show d = 0 ∨ d = 1 ∨ d = 2 ∨ d = 3 ∨ d = 4 ∨ d = 5 ∨ d = 6 by omega) with rfl | rfl | rfl | rfl | rfl | rfl | rfl
  · show cry b s 0 = cry b s 6 + _
    rw [h6]
    simp only [cry, sumZ]
  · rfl
  · rfl
  · rfl
  · rfl
  · rfl
  · rfl
theorem hnd_cry {b : Nat → Nat} {s f : Nat} (h : sumN b 7 = 7 * s) : ∀ i, hnd b s f i = cry b s ((f + i + 6) % 7) - cry b s ((f + 6) % 7) := by
  intro i
  induction i with
  | zero => simp [hnd]
  | succ i ih =>
    simp only [hnd]
    rw [ih]
    have h1 := cry_cyc h ((f + i) % 7) (by omega)
    rw [show ((f + i) % 7 + 6) % 7 = (f + i + 6) % 7 by omega] at h1
    rw [show (f + (i + 1) + 6) % 7 = (f + i) % 7 by omega, h1]
    omega
theorem cyc7 (F : Nat → Nat) : ∀ f, f < 7 → sumN (fun i => F ((f + i) % 7)) 7 = sumN F 7 := by
  intro f hf
  rcases (show f = 0 ∨ f = 1 ∨ f = 2 ∨ f = 3 ∨ f = 4 ∨ f = 5 ∨ f = 6 by omega) with rfl | rfl | rfl | rfl | rfl | rfl | rfl <;> simp only [sumN] <;> simp <;> omega
theorem st_same {b : Nat → Nat} {s f : Nat} (h : sumN b 7 = 7 * s) (hf : f < 7) : stC b s f 7 = stM b s ((f + 6) % 7) 7 := by
  unfold stC stM
  rw [← cyc7 (fun k => (cry b s k - cry b s ((f + 6) % 7)).natAbs) f hf]
  apply sumN_congr
  intro i _
  rw [hnd_cry h, show (f + (i + 1) + 6) % 7 = (f + i) % 7 by omega]
theorem stC_lt {b : Nat → Nat} {s f : Nat} (hb : ∀ i, i < 7 → b i < 256) (hs : s < 256) {n : Nat} (hn : n ≤ 7) : stC b s f n ≤ n * 1792 := sumN_le n (fun i hi => by
  have := hnd_b (f := f) hb hs (i + 1) (by omega)
  show (hnd b s f (i + 1)).natAbs ≤ 1792
  omega)
theorem stM_lt {b : Nat → Nat} {s r : Nat} (hb : ∀ i, i < 7 → b i < 256) (hs : s < 256) (hr : r < 7) {n : Nat} (hn : n ≤ 7) : stM b s r n ≤ n * 3584 := sumN_le n (fun k hk => by
  have h1 := cry_b hb hs k (by omega)
  have h2 := cry_b hb hs r hr
  show (cry b s k - cry b s r).natAbs ≤ 3584
  omega)
theorem steps_C {n s f0 : Nat} {f : Nat → Int32} {b : Nat → Nat} (tC : CTape (nI n) f n b) (hn : 7 ≤ n) (hs : s < 256) (hf : f0 < 7) : f_X5_stepsFrom (nI n) f (nI f0) (nI s) = some (nI (stC b s f0 7)) := by
  have hb : ∀ i, i < 7 → b i < 256 := fun i hi => (tC.2.2 i (by omega)).2
  unfold f_X5_stepsFrom L_X5_stepsFrom_8
  refine lp_run (fun i => (zI (hnd b s f0 i), nI (stC b s f0 i), nI i)) 7 _ ?_ ?_ (fu_gt (by omega))
  · intro go i hi
    have h1 := hnd_b (f := f0) hb hs (i + 1) (by omega)
    have hat := at_C tC (show (f0 + i) % 7 < n by omega)
    have e1 : zI (hnd b s f0 i) + (nI (b ((f0 + i) % 7)) - nI s) = zI (hnd b s f0 (i + 1)) := by
      rw [zI_nat, zI_nat, zI_sub, zI_add]
      rfl
    simp (disch := omega) only [ltz, le_nI, add_nI, rm_nI, hat, some_bind, nm_eq, e1, abs_C]
    rw [if_neg (by omega)]
    rfl
  · intro go
    simp (disch := omega) only [ltz, le_nI]
    rw [if_pos (by omega)]
theorem week_C {n : Nat} {f : Nat → Int32} {b : Nat → Nat} (tC : CTape (nI n) f n b) (hn : 7 ≤ n) : f_X5_weekSteps (nI n) f = some (if sumN b 7 % 7 = 0 then nI (mn (stC b (sumN b 7 / 7) 0 7) (fun k => stC b (sumN b 7 / 7) (k + 1) 7) 6) else -nI 2) := by
  have hb : ∀ i, i < 7 → b i < 256 := fun i hi => (tC.2.2 i (by omega)).2
  have hsum := sumN_le (f := b) (b := 255) 7 (fun i hi => by have := hb i hi; omega)
  have e1 : ∀ k0 : Int32 → Option Int32, L_X5_weekSteps_4 (nI n) f k0 fu (nI 0, nI 0) = k0 (nI (sumN b 7)) := by
    intro k0
    unfold L_X5_weekSteps_4
    refine lp_run (fun i => (nI (sumN b i), nI i)) 7 _ ?_ ?_ (fu_gt (by omega))
    · intro go i hi
      simp (disch := omega) only [ltz, le_nI, at_C tC (show i < n by omega), some_bind, nm_eq, add_nI]
      rw [if_neg (by omega)]
      rfl
    · intro go
      simp (disch := omega) only [ltz, le_nI]
      rw [if_pos (by omega)]
  have hs : sumN b 7 / 7 < 256 := by omega
  have e2 : L_X5_weekSteps_49 (nI n) f (nI (sumN b 7 / 7)) fu (nI (stC b (sumN b 7 / 7) 0 7), nI 1) = some (nI (mn (stC b (sumN b 7 / 7) 0 7) (fun k => stC b (sumN b 7 / 7) (k + 1) 7) 6)) := by
    unfold L_X5_weekSteps_49
    refine lp_run (fun k => (nI (mn (stC b (sumN b 7 / 7) 0 7) (fun k => stC b (sumN b 7 / 7) (k + 1) 7) k), nI (k + 1))) 6 _ ?_ ?_ (fu_gt (by omega))
    · intro go k hk
      have h1 := stC_lt (f := 0) hb hs (n := 7) (by omega)
      have h2 := stC_lt (f := k + 1) hb hs (n := 7) (by omega)
      have h3 := mn_lt (i := stC b (sumN b 7 / 7) 0 7) (b := 12545) (f := fun k => stC b (sumN b 7 / 7) (k + 1) 7) (by omega) k
      simp (disch := omega) only [ltz, le_nI, steps_C tC hn hs (show k + 1 < 7 by omega), some_bind, nm_eq, add_nI, imin_nI]
      rw [if_neg (by omega)]
      rfl
    · intro go
      simp (disch := omega) only [ltz, le_nI]
      rw [if_pos (by omega)]
  unfold f_X5_weekSteps
  simp (disch := omega) only [ltz, e1, rm_nI, eq_nI, dv_nI, steps_C tC hn hs, some_bind, e2]
  by_cases h : sumN b 7 % 7 = 0
  · rw [if_pos h, if_pos h]
  · rw [if_neg h, if_neg h]
theorem week_M {n : Nat} {t : Int32} {g c0 : Nat → Int32} {b : Nat → Nat} (hn1 : n ≤ 260) (hb : ∀ i, i < 7 → b i < 256) (tM : MTape t g n b) (hn : 7 ≤ n) : ∃ c', (L_X12_thursday_20 (nI 0) g c0 (fun s4 => rm s4 (nI 7) fun v5 => if v5 = nI 0 then (L_X12_thursday_54 (nI 0) g s4 (fun s11 => L_X12_thursday_93 (nI 0) g s11 fu ((nI 1000000), (nI 0))) fu ((nI 0), (nI 0), c0)) else some ((-nI 2), (nI 0), c0)) fu ((nI 0), (nI 0))) = some (if sumN b 7 % 7 = 0 then nI (mn 1000000 (fun r => stM b (sumN b 7 / 7) r 7) 7) else -nI 2, nI 0, c') := by
  have hsum := sumN_le (f := b) (b := 255) 7 (fun i hi => by have := hb i hi; omega)
  have hs : sumN b 7 / 7 < 256 := by omega
  have e1 : ∀ k0 : Int32 → Option (Int32 × Int32 × (Nat → Int32)), L_X12_thursday_20 (nI 0) g c0 k0 fu (nI 0, nI 0) = k0 (nI (sumN b 7)) := by
    intro k0
    unfold L_X12_thursday_20
    refine lp_run (fun i => (nI (sumN b i), nI i)) 7 _ ?_ ?_ (fu_gt (by omega))
    · intro go i hi
      simp (disch := omega) only [ltz, le_nI, at_M hn1 tM (show i < n by omega), some_bind, nm_eq, add_nI]
      rw [if_neg (by omega)]
      rfl
    · intro go
      simp (disch := omega) only [ltz, le_nI]
      rw [if_pos (by omega)]
  obtain ⟨s, hse⟩ : ∃ s, s = sumN b 7 / 7 := ⟨_, rfl⟩
  rw [← hse] at hs ⊢
  have e2 : ∀ k0 : (Nat → Int32) → Option (Int32 × Int32 × (Nat → Int32)), L_X12_thursday_54 (nI 0) g (nI (sumN b 7)) k0 fu (nI 0, nI 0, c0) = k0 (fun i => if i < 7 then zI (cry b s i) else c0 i) := by
    intro k0
    unfold L_X12_thursday_54
    have h0 : (nI 0, nI 0, c0) = (zI (sumZ (fun j => (b j : Int) - s) 0), nI 0, fun i => if i < 0 then zI (cry b s i) else c0 i) := by
      have : (fun i => if i < 0 then zI (cry b s i) else c0 i) = c0 := by funext i; rw [if_neg (by omega)]
      rw [this]
      rfl
    rw [h0]
    refine lp_run (fun k => (zI (sumZ (fun j => (b j : Int) - s) k), nI k, fun i => if i < k then zI (cry b s i) else c0 i)) 7 _ ?_ ?_ (fu_gt (by omega))
    · intro go k hk
      have e3 : zI (sumZ (fun j => (b j : Int) - s) k) + nI (b k) - nI s = zI (cry b s k) := by
        rw [zI_nat, zI_nat, zI_add, zI_sub]
        show zI _ = zI (sumZ (fun j => (b j : Int) - s) k + ((b k : Int) - s))
        congr 1
        omega
      simp (disch := omega) only [ltz, le_nI, at_M hn1 tM (show k < n by omega), some_bind, nm_eq, add_nI, dv_nI, ← hse, e3, wr_nI]
      rw [if_neg (by omega)]
      have e4 : upd (fun i => if i < k then zI (cry b s i) else c0 i) k (zI (cry b s k)) = fun i => if i < k + 1 then zI (cry b s i) else c0 i := by
        funext i
        unfold upd
        by_cases h : i = k
        · subst h; simp
        · rw [if_neg h]
          show (if i < k then zI (cry b s i) else c0 i) = _
          by_cases h2 : i < k
          · rw [if_pos h2, if_pos (by omega)]
          · rw [if_neg h2, if_neg (by omega)]
      rw [e4]
      rfl
    · intro go
      simp (disch := omega) only [ltz, le_nI]
      rw [if_pos (by omega)]
  have e5 : L_X12_thursday_93 (nI 0) g (fun i => if i < 7 then zI (cry b s i) else c0 i) fu (nI 1000000, nI 0) = some (nI (mn 1000000 (fun r => stM b s r 7) 7), nI 0, fun i => if i < 7 then zI (cry b s i) else c0 i) := by
    have e6 : ∀ (r : Nat) (x3 : Int32) (k0 : Int32 → Option (Int32 × Int32 × (Nat → Int32))), r < 7 → L_X12_thursday_106 (nI 0) g (fun i => if i < 7 then zI (cry b s i) else c0 i) x3 (nI r) k0 fu (nI 0, nI 0) = k0 (nI (stM b s r 7)) := by
      intro r x3 k0 hr
      unfold L_X12_thursday_106
      refine lp_run (fun k => (nI (stM b s r k), nI k)) 7 _ ?_ ?_ (fu_gt (by omega))
      · intro go k hk
        have h1 := cry_b hb hs k hk
        have h2 := cry_b hb hs r hr
        simp (disch := omega) only [ltz, le_nI, rd_nI, if_pos hk, if_pos hr, zI_sub, abs_M, some_bind, nm_eq, add_nI]
        rw [if_neg (by omega)]
        rfl
      · intro go
        simp (disch := omega) only [ltz, le_nI]
        rw [if_pos (by omega)]
    unfold L_X12_thursday_93
    refine lp_run (fun r => (nI (mn 1000000 (fun r => stM b s r 7) r), nI r)) 7 _ ?_ ?_ (fu_gt (by omega))
    · intro go r hr
      have h1 := stM_lt hb hs hr (n := 7) (by omega)
      have h3 := mn_lt (i := 1000000) (b := 1000001) (f := fun r => stM b s r 7) (by omega) r
      simp (disch := omega) only [ltz, le_nI, e6, min_M, some_bind, nm_eq, add_nI]
      rw [if_neg (by omega)]
      rfl
    · intro go
      simp (disch := omega) only [ltz, le_nI]
      rw [if_pos (by omega)]
  simp (disch := omega) only [e1, rm_nI, eq_nI, e2, e5]
  by_cases h : sumN b 7 % 7 = 0
  · rw [if_pos h, if_pos h]; exact ⟨_, rfl⟩
  · rw [if_neg h, if_neg h]; exact ⟨_, rfl⟩
theorem week_same {b : Nat → Nat} {s : Nat} (hb : ∀ i, i < 7 → b i < 256) (hs : s < 256) (h : sumN b 7 = 7 * s) : mn (stC b s 0 7) (fun k => stC b s (k + 1) 7) 6 = mn 1000000 (fun r => stM b s r 7) 7 := by
  have key : ∀ x, x ≤ mn (stC b s 0 7) (fun k => stC b s (k + 1) 7) 6 ↔ x ≤ mn 1000000 (fun r => stM b s r 7) 7 := by
    intro x
    rw [mn_le, mn_le]
    constructor
    · rintro ⟨h1, h2⟩
      have hall : ∀ f, f < 7 → x ≤ stC b s f 7 := fun f hf => by
        rcases Nat.eq_zero_or_pos f with q | q
        · rw [q]; exact h1
        · have := h2 (f - 1) (by omega)
          rw [show f - 1 + 1 = f by omega] at this
          exact this
      refine ⟨?_, fun r hr => ?_⟩
      · have := stC_lt (f := 0) hb hs (n := 7) (by omega); omega
      · have := hall ((r + 1) % 7) (by omega)
        rw [st_same h (by omega), show ((r + 1) % 7 + 6) % 7 = r by omega] at this
        exact this
    · rintro ⟨h1, h2⟩
      have hall : ∀ f, f < 7 → x ≤ stC b s f 7 := fun f hf => by rw [st_same h hf]; exact h2 _ (by omega)
      exact ⟨hall 0 (by omega), fun k hk => hall (k + 1) (by omega)⟩
  exact Nat.le_antisymm ((key _).mp (Nat.le_refl _)) ((key _).mpr (Nat.le_refl _))
theorem B_thursday {n : Nat} {size taped : Int32} {f g c0 : Nat → Int32} {b : Nat → Nat} (tC : CTape size f n b) (tM : MTape taped g n b) : ∃ r r' n', f_X11_thursday size f = some r ∧ f_X12_thursday taped g c0 = some r' ∧ r.1 = r'.1 ∧ r.2 = nI n' ∧ r'.2.1 = nI n' ∧ n' ≤ n := by
  obtain ⟨t1, rfl, t2⟩ := tC
  obtain ⟨rfl, t3⟩ := tM
  have tC : CTape (nI n) f n b := ⟨t1, rfl, t2⟩
  have tM : MTape (nI n) g n b := ⟨rfl, t3⟩
  unfold f_X11_thursday f_X12_thursday f_X8_clear
  by_cases hn : 7 ≤ n
  · have hb : ∀ i, i < 7 → b i < 256 := fun i hi => (t2 i (by omega)).2
    have hsum := sumN_le (f := b) (b := 255) 7 (fun i hi => by have := hb i hi; omega)
    obtain ⟨c', e2⟩ := week_M (c0 := c0) t1 hb tM hn
    have e1 := week_C tC hn
    simp (disch := omega) only [ltz, le_nI, hn, if_true, e1, some_bind, e2]
    refine ⟨_, _, 0, rfl, rfl, ?_, rfl, rfl, Nat.zero_le _⟩
    show (if sumN b 7 % 7 = 0 then _ else _) = (if sumN b 7 % 7 = 0 then _ else _)
    by_cases h : sumN b 7 % 7 = 0
    · rw [if_pos h, if_pos h, week_same hb (by omega) (by omega)]
    · rw [if_neg h, if_neg h]
  · simp (disch := omega) only [ltz, le_nI, hn, if_false]
    exact ⟨_, _, n, rfl, rfl, rfl, rfl, rfl, Nat.le_refl _⟩
