/-- the first of N that P isn't true of -/
def fstN (P : Nat → Bool) : Nat → Option Nat
  | 0 => none
  | n + 1 => match fstN P n with
    | some k => some k
    | none => if P n then none else some n
theorem fstN_some {P : Nat → Bool} : ∀ {n k : Nat}, fstN P n = some k → k < n ∧ P k = false ∧ ∀ i, i < k → P i = true := by
  intro n
  induction n with
  | zero => intro k h; cases h
  | succ n ih =>
    intro k h
    simp only [fstN] at h
    cases hf : fstN P n with
    | some j =>
      rw [hf] at h
      cases h
      obtain ⟨a, b, c⟩ := ih hf
      exact ⟨by omega, b, c⟩
    | none =>
      rw [hf] at h
      have hall : ∀ i, i < n → P i = true := by
        clear ih h
        intro i
        induction n with
        | zero => intro h; omega
        | succ n ih2 =>
          intro hi
          simp only [fstN] at hf
          cases hg : fstN P n with
          | some j => rw [hg] at hf; cases hf
          | none =>
            rw [hg] at hf
            dsimp only at hf
            by_cases hP : P n = true
            · rcases Nat.lt_or_ge i n with h1 | h1
              · exact ih2 hg h1
              · rw [show i = n by omega]; exact hP
            · rw [if_neg hP] at hf; cases hf
      dsimp only at h
      by_cases hP : P n = true
      · rw [if_pos hP] at h; cases h
      · rw [if_neg hP] at h
        cases h
        exact ⟨by omega, by simpa using hP, hall⟩
theorem fstN_none {P : Nat → Bool} : ∀ {n : Nat}, fstN P n = none → ∀ i, i < n → P i = true := by
  intro n
  induction n with
  | zero => intro _ i h; omega
  | succ n ih =>
    intro h i hi
    simp only [fstN] at h
    cases hg : fstN P n with
    | some j => rw [hg] at h; cases h
    | none =>
      rw [hg] at h
      dsimp only at h
      by_cases hP : P n = true
      · rcases Nat.lt_or_ge i n with h1 | h1
        · exact ih hg i h1
        · rw [show i = n by omega]; exact hP
      · rw [if_neg hP] at h; cases h
/-- a loop that ends at the first place where P isn't true -/
theorem lp_find {S β : Type} {body : (S → Option β) → S → Option β} (st : Nat → S) (N : Nat) (P : Nat → Bool) (no : Nat → Option β) (yes : Option β) (h1 : ∀ (go : S → Option β) (k : Nat), k < N → P k = true → body go (st k) = go (st (k + 1))) (h2 : ∀ (go : S → Option β) (k : Nat), k < N → P k = false → body go (st k) = no k) (h3 : ∀ go : S → Option β, body go (st N) = yes) {n : Nat} (hn : N < n) : lp body n (st 0) = match fstN P N with
    | none => yes
    | some k => no k := by
  cases hf : fstN P N with
  | none => exact lp_run st N yes (fun go k hk => h1 go k hk (fstN_none hf k hk)) h3 hn
  | some j =>
    obtain ⟨a, b, c⟩ := fstN_some hf
    exact lp_run st j (no j) (fun go k hk => h1 go k (by omega) (c k hk)) (fun go => h2 go j a b) (by omega)
theorem n10n : ((1 : Nat) = 0) = False := by simp
/-- a told woman, one that isn't -/
theorem told1 {T : TS} {rooms now : Nat → Int32} (he : ∀ w, w < 10 → rooms w = nI (ro T w)) (hM : MTown now T) (hW : WTown T) {w : Nat} (hw : w < 10) (hb : (tt T).testBit w = true) : f_X9_isTold (nI (tt T)) (nI w) = some (nI 1) ∧ f_X12_isWoman now (nI w) = some (nI 1) ∧ f_X9_roomOf (nI (tt T)) rooms (nI w) = some (nI (ro T w)) := by
  obtain ⟨a, b⟩ := woman_in hM hW hw
  rw [if_pos hb] at a b
  refine ⟨a, b, ?_⟩
  unfold f_X9_roomOf
  simp (disch := omega) only [a, ltz, some_bind, n10, if_false, rd_nI, he w hw]
theorem told0 {T : TS} {now : Nat → Int32} (hM : MTown now T) (hW : WTown T) {w : Nat} (hw : w < 10) (hb : (tt T).testBit w = false) : f_X9_isTold (nI (tt T)) (nI w) = some (nI 0) ∧ f_X12_isWoman now (nI w) = some (nI 0) := by
  obtain ⟨a, b⟩ := woman_in hM hW hw
  rw [if_neg (by rw [hb]; decide)] at a b
  exact ⟨a, b⟩
/-- CHECK -/
def dueN (T : TS) (w : Nat) : Nat := if (tt T).testBit w = true then ro T w else 255
theorem dueN1 {T : TS} {w : Nat} (hb : (tt T).testBit w = true) : dueN T w = ro T w := if_pos hb
theorem dueN0 {T : TS} {w : Nat} (hb : (tt T).testBit w = false) : dueN T w = 255 := if_neg (by rw [hb]; decide)
theorem check_stepC {T : TS} {n m : Nat} {rooms now f : Nat → Int32} {by_ : Nat → Nat} (he : ∀ w, w < 10 → rooms w = nI (ro T w)) (hM : MTown now T) (hW : WTown T) (tC : CTape (nI n) f n by_) {k : Nat} (hk : k < m) (hm : m ≤ 10) (hmn : m ≤ n) (k0 : Int32 → Option (Int32 × Int32)) (go : Int32 × Int32 → Option (Int32 × Int32)) : (if nI m ≤ nI k then k0 (-nI 1) else if True then (f_X9_isTold (nI (tt T)) (nI k)).bind fun u2 => jn (fun s3 : Int32 => (f_X8_at (nI n) f (nI k)).bind fun u4 => if u4 = s3 then nm (nI k + nI 1) fun v5 => go (-nI 1, v5) else nm (nI k + nI 1) fun v6 => go (nI k, v6)) fun j63 => if u2 = nI 0 then j63 (nI 255) else (f_X9_roomOf (nI (tt T)) rooms (nI k)).bind fun u7 => j63 u7 else k0 (-nI 1)) = if by_ k = dueN T k then go (-nI 1, nI (k + 1)) else go (nI k, nI (k + 1)) := by
  have hb0 := (tC.2.2 k (by omega)).2
  have hr := hW.2.2.2.2.1 k (by omega)
  have hat := at_C tC (show k < n by omega)
  have t1 := tC.1
  rw [if_neg (by rw [le_nI (by omega) (by omega)]; omega), if_pos trivial]
  rcases Bool.eq_false_or_eq_true ((tt T).testBit k) with hb | hb
  · obtain ⟨a, _, c⟩ := told1 he hM hW (show k < 10 by omega) hb
    rw [dueN1 hb]
    simp (disch := omega) only [a, c, hat, some_bind, jn_eq, nm_eq, n10, n10n, if_false, add_nI, eq_nI]
  · obtain ⟨a, _⟩ := told0 hM hW (show k < 10 by omega) hb
    rw [dueN0 hb]
    simp (disch := omega) only [a, hat, some_bind, jn_eq, nm_eq, n00, if_true, add_nI, eq_nI]
theorem B_check {T : TS} {n : Nat} {told round x size taped : Int32} {rust rooms hair pins now f g : Nat → Int32} {by_ : Nat → Nat} (hC : CTown told round x rust rooms hair pins T) (hM : MTown now T) (hW : WTown T) (tC : CTape size f n by_) (tM : MTape taped g n by_) (x1 : Int32) : ∃ r r' n', f_X11_check size f told rooms x1 = some r ∧ f_X12_check taped now g x1 = some r' ∧ r.1 = r'.1 ∧ r.2 = nI n' ∧ r'.2 = nI n' ∧ n' ≤ n := by
  obtain ⟨rfl, rfl, rfl, hd, he, hf, hg⟩ := hC
  obtain ⟨t1, rfl, t2⟩ := tC
  obtain ⟨rfl, t3⟩ := tM
  have tC : CTape (nI n) f n by_ := ⟨t1, rfl, t2⟩
  have tM : MTape (nI n) g n by_ := ⟨rfl, t3⟩
  unfold f_X11_check f_X12_check f_X8_clear
  simp only [ltz]
  rcases in01 x1 0 10 (by omega) (by omega) with ⟨e1, e2⟩ | ⟨m, _, hm, rfl, e1, e2⟩
  · simp only [e1, e2, some_bind, n00, if_true]
    exact ⟨_, _, n, rfl, rfl, rfl, rfl, rfl, Nat.le_refl _⟩
  · simp (disch := omega) only [e1, e2, some_bind, n10, if_false, le_nI]
    by_cases hmn : m ≤ n
    · rw [if_pos hmn, if_pos hmn]
      have eM : L_X12_check_28 (nI 0) now g (nI m) fu (nI 0) = match fstN (fun w => by_ w == dueN T w) m with
          | none => some (-nI 1, nI 0)
          | some k => some (nI k, nI 0) := by
        unfold L_X12_check_28
        have step : ∀ (go : Int32 → Option (Int32 × Int32)) (k : Nat), k < m → (if nI m ≤ nI k then some (-nI 1, nI 0) else (f_X12_octet g (nI k)).bind fun u2 => (f_X12_isWoman now (nI k)).bind fun u3 => jn (fun s4 : Int32 => if u2 = s4 then nm (nI k + nI 1) fun v5 => go v5 else some (nI k, nI 0)) fun j61 => if u3 = nI 0 then j61 (nI 255) else rd now 166 (nI 34 + nI k) fun v6 => j61 v6) = if by_ k = dueN T k then go (nI (k + 1)) else some (nI k, nI 0) := by
          intro go k hk
          have hb0 := (tC.2.2 k (by omega)).2
          have hr := hW.2.2.2.2.1 k (by omega)
          have hat := at_M t1 tM (show k < n by omega)
          have h34 := hM.2.2.1 k (by omega)
          rw [if_neg (by rw [le_nI (by omega) (by omega)]; omega)]
          rcases Bool.eq_false_or_eq_true ((tt T).testBit k) with hb | hb
          · obtain ⟨_, a, _⟩ := told1 he hM hW (show k < 10 by omega) hb
            rw [dueN1 hb]
            simp (disch := omega) only [a, hat, some_bind, jn_eq, nm_eq, n10, n10n, if_false, add_nI, rd_nI, h34, eq_nI]
          · obtain ⟨_, a⟩ := told0 hM hW (show k < 10 by omega) hb
            rw [dueN0 hb]
            simp (disch := omega) only [a, hat, some_bind, jn_eq, nm_eq, n00, if_true, add_nI, eq_nI]
        refine lp_find (fun k => nI k) m _ (fun k => some (nI k, nI 0)) _ ?_ ?_ ?_ (fu_gt (by omega))
        · intro go k hk hP
          simp only [ltz]
          rw [step go k hk, if_pos (by simpa using hP)]
        · intro go k hk hP
          simp only [ltz]
          rw [step go k hk, if_neg (by simpa using hP)]
        · intro go
          simp (disch := omega) only [ltz, le_nI]
          rw [if_pos (by omega)]
      have eC : ∀ k0 : Int32 → Option (Int32 × Int32), L_X11_check_28 (nI n) f (nI (tt T)) rooms (nI m) k0 fu (-nI 1, nI 0) = match fstN (fun w => by_ w == dueN T w) m with
          | none => k0 (-nI 1)
          | some k => k0 (nI k) := by
        intro k0
        unfold L_X11_check_28
        have hne : ∀ k, k < 10 → ¬ nI k = -nI 1 := (by decide : ∀ k, k < 10 → ¬ nI k = -nI 1)
        cases hfst : fstN (fun w => by_ w == dueN T w) m with
        | none =>
          have hall := fstN_none hfst
          refine lp_run (fun k => (-nI 1, nI k)) m _ ?_ ?_ (fu_gt (by omega))
          · intro go k hk
            simp only [ltz]
            rw [check_stepC he hM hW tC hk hm hmn k0 go, if_pos (by simpa using hall k hk)]
          · intro go
            simp (disch := omega) only [ltz, le_nI]
            rw [if_pos (by omega)]
        | some j =>
          obtain ⟨hj, hjP, hall⟩ := fstN_some hfst
          obtain ⟨st, hst1, hst2⟩ : ∃ st : Nat → Int32 × Int32, (∀ k, k ≤ j → st k = (-nI 1, nI k)) ∧ st (j + 1) = (nI j, nI (j + 1)) := ⟨fun k => if k ≤ j then (-nI 1, nI k) else (nI j, nI (j + 1)), fun k hk => if_pos hk, if_neg (by omega)⟩
          rw [← hst1 0 (by omega)]
          refine lp_run st (j + 1) _ ?_ ?_ (fu_gt (by omega))
          · intro go k hk
            rw [hst1 k (by omega)]
            simp only [ltz]
            rw [check_stepC he hM hW tC (show k < m by omega) hm hmn k0 go]
            rcases Nat.lt_or_ge k j with hkj | hkj
            · rw [hst1 (k + 1) (by omega), if_pos (by simpa using hall k hkj)]
            · have hkj : k = j := by omega
              subst hkj
              rw [hst2, if_neg (by simpa using hjP)]
          · intro go
            rw [hst2]
            simp (disch := omega) only [ltz, le_nI]
            by_cases hmj : m ≤ j + 1
            · rw [if_pos hmj]
            · rw [if_neg hmj, if_neg (hne j (by omega))]
      rw [eM, eC]
      cases fstN (fun w => by_ w == dueN T w) m with
      | none => exact ⟨_, _, 0, rfl, rfl, rfl, rfl, rfl, Nat.zero_le _⟩
      | some k => exact ⟨_, _, 0, rfl, rfl, rfl, rfl, rfl, Nat.zero_le _⟩
    · rw [if_neg hmn, if_neg hmn]
      exact ⟨_, _, n, rfl, rfl, rfl, rfl, rfl, Nat.le_refl _⟩
