/-! THE LAW's steps: what a stretch of them comes to -/
theorem n01 : (nI 0 = nI 1) = False := by simp only [eq_iff_iff, iff_false]; decide
abbrev Den : Type := (Nat → Int32) → Option Int32
def isOp (op : Nat) : Prop := op = 43 ∨ op = 45 ∨ op = 42 ∨ op = 47 ∨ op = 37 ∨ op = 60 ∨ op = 62 ∨ op = 61
def mop (op : Nat) : Nat := if op = 43 then 2 else if op = 45 then 3 else if op = 42 then 4 else if op = 47 then 5 else if op = 37 then 6 else if op = 60 then 7 else if op = 62 then 8 else 9
def jO (op : Nat) (a b : Int32) : Int32 := if op = 43 then a + b else if op = 45 then a - b else if op = 42 then a * b else if op = 47 then a / b else if op = 37 then a - a / b * b else if op = 60 then (if b ≤ a then nI 0 else nI 1) else if op = 62 then (if a ≤ b then nI 0 else nI 1) else if a = b then nI 1 else nI 0
def numF (v : Nat) : Den := fun _ => some (nI v)
def letF (l : Nat) : Den := fun K => some (K l)
def binF (op : Nat) (A B : Den) : Den := fun K => (A K).bind fun a => (B K).bind fun b => if (op = 47 ∨ op = 37) ∧ b = nI 0 then none else some (jO op a b)
def notF (A : Den) : Den := fun K => (A K).bind fun a => some (nI 1 - a)
def andF (A B : Den) : Den := fun K => (A K).bind fun a => if a = nI 0 then some a else B K
def orF (A B : Den) : Den := fun K => (A K).bind fun a => if a = nI 0 then B K else some a
def B01 (A : Den) : Prop := ∀ K a, A K = some a → a = nI 0 ∨ a = nI 1
theorem andF_assoc (A B C : Den) : andF (andF A B) C = andF A (andF B C) := by
  funext K
  unfold andF
  cases A K with
  | none => rfl
  | some a =>
    simp only [some_bind]
    by_cases h : a = nI 0
    · simp only [h, if_true, some_bind]
    · simp only [h, if_false]
theorem orF_assoc (A B C : Den) : orF (orF A B) C = orF A (orF B C) := by
  funext K
  unfold orF
  cases A K with
  | none => rfl
  | some a =>
    simp only [some_bind]
    by_cases h : a = nI 0
    · simp only [h, if_true]
    · simp only [h, if_false, some_bind]
theorem B01_cmp {op : Nat} (h : op = 60 ∨ op = 62 ∨ op = 61) (A B : Den) : B01 (binF op A B) := by
  intro K v hv
  unfold binF at hv
  cases hA : A K with
  | none => rw [hA] at hv; cases hv
  | some a =>
    cases hB : B K with
    | none => rw [hA, hB] at hv; cases hv
    | some b =>
      rw [hA, hB, some_bind, some_bind, if_neg (by omega)] at hv
      injection hv with hv
      subst hv
      unfold jO
      rcases h with rfl | rfl | rfl
      · simp only [show ¬ (60 : Nat) = 43 by omega, show ¬ (60 : Nat) = 45 by omega, show ¬ (60 : Nat) = 42 by omega, show ¬ (60 : Nat) = 47 by omega, show ¬ (60 : Nat) = 37 by omega, if_false, if_true]
        split
        · exact Or.inl rfl
        · exact Or.inr rfl
      · simp only [show ¬ (62 : Nat) = 43 by omega, show ¬ (62 : Nat) = 45 by omega, show ¬ (62 : Nat) = 42 by omega, show ¬ (62 : Nat) = 47 by omega, show ¬ (62 : Nat) = 37 by omega, show ¬ (62 : Nat) = 60 by omega, if_false, if_true]
        split
        · exact Or.inl rfl
        · exact Or.inr rfl
      · simp only [show ¬ (61 : Nat) = 43 by omega, show ¬ (61 : Nat) = 45 by omega, show ¬ (61 : Nat) = 42 by omega, show ¬ (61 : Nat) = 47 by omega, show ¬ (61 : Nat) = 37 by omega, show ¬ (61 : Nat) = 60 by omega, show ¬ (61 : Nat) = 62 by omega, if_false]
        split
        · exact Or.inr rfl
        · exact Or.inl rfl
theorem B01_not {A : Den} (h : B01 A) : B01 (notF A) := by
  intro K v hv
  unfold notF at hv
  cases hA : A K with
  | none => rw [hA] at hv; cases hv
  | some a =>
    rw [hA, some_bind] at hv
    injection hv with hv
    subst hv
    rcases h K a hA with rfl | rfl
    · exact Or.inr rfl
    · exact Or.inl rfl
theorem B01_and {A B : Den} (h : B01 A) (g : B01 B) : B01 (andF A B) := by
  intro K v hv
  unfold andF at hv
  cases hA : A K with
  | none => rw [hA] at hv; cases hv
  | some a =>
    rw [hA, some_bind] at hv
    by_cases h0 : a = nI 0
    · rw [if_pos h0] at hv
      injection hv with hv
      subst hv
      exact Or.inl h0
    · rw [if_neg h0] at hv
      exact g K v hv
theorem B01_or {A B : Den} (h : B01 A) (g : B01 B) : B01 (orF A B) := by
  intro K v hv
  unfold orF at hv
  cases hA : A K with
  | none => rw [hA] at hv; cases hv
  | some a =>
    rw [hA, some_bind] at hv
    by_cases h0 : a = nI 0
    · rw [if_pos h0] at hv
      exact g K v hv
    · rw [if_neg h0] at hv
      injection hv with hv
      subst hv
      exact h K a hA
theorem joined_C {op : Nat} (h : isOp op) (a b : Int32) (hb : ¬ ((op = 47 ∨ op = 37) ∧ b = nI 0)) : f_X2_joined (nI op) a b = some (jO op a b) := by
  unfold f_X2_joined jO
  simp only [ltz]
  rcases h with rfl | rfl | rfl | rfl | rfl | rfl | rfl | rfl
  · simp only [eq_false (show ¬ nI 43 = nI 37 by decide), eq_false (show ¬ nI 43 = nI 42 by decide), eq_false (show ¬ nI 43 = nI 45 by decide), eq_false (show ¬ nI 43 = nI 47 by decide), eq_false (show ¬ nI 43 = nI 60 by decide), eq_false (show ¬ nI 43 = nI 62 by decide), eq_false (show ¬ (43 : Nat) = 45 by omega), eq_false (show ¬ (43 : Nat) = 42 by omega), eq_false (show ¬ (43 : Nat) = 47 by omega), eq_false (show ¬ (43 : Nat) = 37 by omega), eq_false (show ¬ (43 : Nat) = 60 by omega), eq_false (show ¬ (43 : Nat) = 62 by omega), eq_self, if_true, if_false]
  · simp only [eq_false (show ¬ nI 45 = nI 37 by decide), eq_false (show ¬ nI 45 = nI 42 by decide), eq_false (show ¬ nI 45 = nI 43 by decide), eq_false (show ¬ nI 45 = nI 47 by decide), eq_false (show ¬ nI 45 = nI 60 by decide), eq_false (show ¬ nI 45 = nI 62 by decide), eq_false (show ¬ (45 : Nat) = 43 by omega), eq_false (show ¬ (45 : Nat) = 42 by omega), eq_false (show ¬ (45 : Nat) = 47 by omega), eq_false (show ¬ (45 : Nat) = 37 by omega), eq_false (show ¬ (45 : Nat) = 60 by omega), eq_false (show ¬ (45 : Nat) = 62 by omega), eq_self, if_true, if_false]
  · simp only [eq_false (show ¬ nI 42 = nI 37 by decide), eq_false (show ¬ nI 42 = nI 43 by decide), eq_false (show ¬ nI 42 = nI 45 by decide), eq_false (show ¬ nI 42 = nI 47 by decide), eq_false (show ¬ nI 42 = nI 60 by decide), eq_false (show ¬ nI 42 = nI 62 by decide), eq_false (show ¬ (42 : Nat) = 43 by omega), eq_false (show ¬ (42 : Nat) = 45 by omega), eq_false (show ¬ (42 : Nat) = 47 by omega), eq_false (show ¬ (42 : Nat) = 37 by omega), eq_false (show ¬ (42 : Nat) = 60 by omega), eq_false (show ¬ (42 : Nat) = 62 by omega), eq_self, if_true, if_false]
  · have hb0 : ¬ b = nI 0 := fun e => hb ⟨by omega, e⟩
    have hz : ¬ b = 0 := hb0
    simp only [eq_false (show ¬ nI 47 = nI 37 by decide), eq_false (show ¬ nI 47 = nI 42 by decide), eq_false (show ¬ nI 47 = nI 43 by decide), eq_false (show ¬ nI 47 = nI 45 by decide), eq_false (show ¬ nI 47 = nI 60 by decide), eq_false (show ¬ nI 47 = nI 62 by decide), eq_false (show ¬ (47 : Nat) = 43 by omega), eq_false (show ¬ (47 : Nat) = 45 by omega), eq_false (show ¬ (47 : Nat) = 42 by omega), eq_false (show ¬ (47 : Nat) = 37 by omega), eq_false (show ¬ (47 : Nat) = 60 by omega), eq_false (show ¬ (47 : Nat) = 62 by omega), eq_self, if_true, if_false, eq_false hb0, dv, rm, ltz]
  · have hb0 : ¬ b = nI 0 := fun e => hb ⟨by omega, e⟩
    have hz : ¬ b = 0 := hb0
    simp only [eq_false (show ¬ nI 37 = nI 42 by decide), eq_false (show ¬ nI 37 = nI 43 by decide), eq_false (show ¬ nI 37 = nI 45 by decide), eq_false (show ¬ nI 37 = nI 47 by decide), eq_false (show ¬ nI 37 = nI 60 by decide), eq_false (show ¬ nI 37 = nI 62 by decide), eq_false (show ¬ (37 : Nat) = 43 by omega), eq_false (show ¬ (37 : Nat) = 45 by omega), eq_false (show ¬ (37 : Nat) = 42 by omega), eq_false (show ¬ (37 : Nat) = 47 by omega), eq_false (show ¬ (37 : Nat) = 60 by omega), eq_false (show ¬ (37 : Nat) = 62 by omega), eq_self, if_true, if_false, eq_false hb0, dv, rm, ltz]
  · simp only [eq_false (show ¬ nI 60 = nI 37 by decide), eq_false (show ¬ nI 60 = nI 42 by decide), eq_false (show ¬ nI 60 = nI 43 by decide), eq_false (show ¬ nI 60 = nI 45 by decide), eq_false (show ¬ nI 60 = nI 47 by decide), eq_false (show ¬ nI 60 = nI 62 by decide), eq_false (show ¬ (60 : Nat) = 43 by omega), eq_false (show ¬ (60 : Nat) = 45 by omega), eq_false (show ¬ (60 : Nat) = 42 by omega), eq_false (show ¬ (60 : Nat) = 47 by omega), eq_false (show ¬ (60 : Nat) = 37 by omega), eq_false (show ¬ (60 : Nat) = 62 by omega), eq_self, if_true, if_false]
    split <;> rfl
  · simp only [eq_false (show ¬ nI 62 = nI 37 by decide), eq_false (show ¬ nI 62 = nI 42 by decide), eq_false (show ¬ nI 62 = nI 43 by decide), eq_false (show ¬ nI 62 = nI 45 by decide), eq_false (show ¬ nI 62 = nI 47 by decide), eq_false (show ¬ nI 62 = nI 60 by decide), eq_false (show ¬ (62 : Nat) = 43 by omega), eq_false (show ¬ (62 : Nat) = 45 by omega), eq_false (show ¬ (62 : Nat) = 42 by omega), eq_false (show ¬ (62 : Nat) = 47 by omega), eq_false (show ¬ (62 : Nat) = 37 by omega), eq_false (show ¬ (62 : Nat) = 60 by omega), eq_self, if_true, if_false]
    split <;> rfl
  · simp only [eq_false (show ¬ nI 61 = nI 37 by decide), eq_false (show ¬ nI 61 = nI 42 by decide), eq_false (show ¬ nI 61 = nI 43 by decide), eq_false (show ¬ nI 61 = nI 45 by decide), eq_false (show ¬ nI 61 = nI 47 by decide), eq_false (show ¬ nI 61 = nI 60 by decide), eq_false (show ¬ nI 61 = nI 62 by decide), eq_false (show ¬ (61 : Nat) = 43 by omega), eq_false (show ¬ (61 : Nat) = 45 by omega), eq_false (show ¬ (61 : Nat) = 42 by omega), eq_false (show ¬ (61 : Nat) = 47 by omega), eq_false (show ¬ (61 : Nat) = 37 by omega), eq_false (show ¬ (61 : Nat) = 60 by omega), eq_false (show ¬ (61 : Nat) = 62 by omega), if_false]
    split <;> rfl
theorem reckon_M {op : Nat} (h : isOp op) (a b : Int32) (hb : ¬ ((op = 47 ∨ op = 37) ∧ b = nI 0)) : f_X12_reckon (nI (mop op)) a b = some (jO op a b) := by
  unfold f_X12_reckon jO mop
  simp only [ltz]
  rcases h with rfl | rfl | rfl | rfl | rfl | rfl | rfl | rfl
  · simp only [eq_false (show ¬ nI 2 = nI 3 by decide), eq_false (show ¬ nI 2 = nI 4 by decide), eq_false (show ¬ nI 2 = nI 5 by decide), eq_false (show ¬ nI 2 = nI 6 by decide), eq_false (show ¬ nI 2 = nI 7 by decide), eq_false (show ¬ nI 2 = nI 8 by decide), eq_false (show ¬ (43 : Nat) = 45 by omega), eq_false (show ¬ (43 : Nat) = 42 by omega), eq_false (show ¬ (43 : Nat) = 47 by omega), eq_false (show ¬ (43 : Nat) = 37 by omega), eq_false (show ¬ (43 : Nat) = 60 by omega), eq_false (show ¬ (43 : Nat) = 62 by omega), eq_self, if_true, if_false]
  · simp only [eq_false (show ¬ nI 3 = nI 2 by decide), eq_false (show ¬ nI 3 = nI 4 by decide), eq_false (show ¬ nI 3 = nI 5 by decide), eq_false (show ¬ nI 3 = nI 6 by decide), eq_false (show ¬ nI 3 = nI 7 by decide), eq_false (show ¬ nI 3 = nI 8 by decide), eq_false (show ¬ (45 : Nat) = 43 by omega), eq_false (show ¬ (45 : Nat) = 42 by omega), eq_false (show ¬ (45 : Nat) = 47 by omega), eq_false (show ¬ (45 : Nat) = 37 by omega), eq_false (show ¬ (45 : Nat) = 60 by omega), eq_false (show ¬ (45 : Nat) = 62 by omega), eq_self, if_true, if_false]
  · simp only [eq_false (show ¬ nI 4 = nI 2 by decide), eq_false (show ¬ nI 4 = nI 3 by decide), eq_false (show ¬ nI 4 = nI 5 by decide), eq_false (show ¬ nI 4 = nI 6 by decide), eq_false (show ¬ nI 4 = nI 7 by decide), eq_false (show ¬ nI 4 = nI 8 by decide), eq_false (show ¬ (42 : Nat) = 43 by omega), eq_false (show ¬ (42 : Nat) = 45 by omega), eq_false (show ¬ (42 : Nat) = 47 by omega), eq_false (show ¬ (42 : Nat) = 37 by omega), eq_false (show ¬ (42 : Nat) = 60 by omega), eq_false (show ¬ (42 : Nat) = 62 by omega), eq_self, if_true, if_false]
  · have hb0 : ¬ b = nI 0 := fun e => hb ⟨by omega, e⟩
    simp only [eq_false (show ¬ nI 5 = nI 2 by decide), eq_false (show ¬ nI 5 = nI 3 by decide), eq_false (show ¬ nI 5 = nI 4 by decide), eq_false (show ¬ nI 5 = nI 6 by decide), eq_false (show ¬ nI 5 = nI 7 by decide), eq_false (show ¬ nI 5 = nI 8 by decide), eq_false (show ¬ (47 : Nat) = 43 by omega), eq_false (show ¬ (47 : Nat) = 45 by omega), eq_false (show ¬ (47 : Nat) = 42 by omega), eq_false (show ¬ (47 : Nat) = 37 by omega), eq_false (show ¬ (47 : Nat) = 60 by omega), eq_false (show ¬ (47 : Nat) = 62 by omega), eq_self, if_true, if_false, eq_false hb0, dv, rm, ltz]
  · have hb0 : ¬ b = nI 0 := fun e => hb ⟨by omega, e⟩
    simp only [eq_false (show ¬ nI 6 = nI 2 by decide), eq_false (show ¬ nI 6 = nI 3 by decide), eq_false (show ¬ nI 6 = nI 4 by decide), eq_false (show ¬ nI 6 = nI 5 by decide), eq_false (show ¬ nI 6 = nI 7 by decide), eq_false (show ¬ nI 6 = nI 8 by decide), eq_false (show ¬ (37 : Nat) = 43 by omega), eq_false (show ¬ (37 : Nat) = 45 by omega), eq_false (show ¬ (37 : Nat) = 42 by omega), eq_false (show ¬ (37 : Nat) = 47 by omega), eq_false (show ¬ (37 : Nat) = 60 by omega), eq_false (show ¬ (37 : Nat) = 62 by omega), eq_self, if_true, if_false, eq_false hb0, dv, rm, ltz]
  · simp only [eq_false (show ¬ nI 7 = nI 2 by decide), eq_false (show ¬ nI 7 = nI 3 by decide), eq_false (show ¬ nI 7 = nI 4 by decide), eq_false (show ¬ nI 7 = nI 5 by decide), eq_false (show ¬ nI 7 = nI 6 by decide), eq_false (show ¬ nI 7 = nI 8 by decide), eq_false (show ¬ (60 : Nat) = 43 by omega), eq_false (show ¬ (60 : Nat) = 45 by omega), eq_false (show ¬ (60 : Nat) = 42 by omega), eq_false (show ¬ (60 : Nat) = 47 by omega), eq_false (show ¬ (60 : Nat) = 37 by omega), eq_false (show ¬ (60 : Nat) = 62 by omega), eq_self, if_true, if_false]
    split <;> rfl
  · simp only [eq_false (show ¬ nI 8 = nI 2 by decide), eq_false (show ¬ nI 8 = nI 3 by decide), eq_false (show ¬ nI 8 = nI 4 by decide), eq_false (show ¬ nI 8 = nI 5 by decide), eq_false (show ¬ nI 8 = nI 6 by decide), eq_false (show ¬ nI 8 = nI 7 by decide), eq_false (show ¬ (62 : Nat) = 43 by omega), eq_false (show ¬ (62 : Nat) = 45 by omega), eq_false (show ¬ (62 : Nat) = 42 by omega), eq_false (show ¬ (62 : Nat) = 47 by omega), eq_false (show ¬ (62 : Nat) = 37 by omega), eq_false (show ¬ (62 : Nat) = 60 by omega), eq_self, if_true, if_false]
    split <;> rfl
  · simp only [eq_false (show ¬ nI 9 = nI 2 by decide), eq_false (show ¬ nI 9 = nI 3 by decide), eq_false (show ¬ nI 9 = nI 4 by decide), eq_false (show ¬ nI 9 = nI 5 by decide), eq_false (show ¬ nI 9 = nI 6 by decide), eq_false (show ¬ nI 9 = nI 7 by decide), eq_false (show ¬ nI 9 = nI 8 by decide), eq_false (show ¬ (61 : Nat) = 43 by omega), eq_false (show ¬ (61 : Nat) = 45 by omega), eq_false (show ¬ (61 : Nat) = 42 by omega), eq_false (show ¬ (61 : Nat) = 47 by omega), eq_false (show ¬ (61 : Nat) = 37 by omega), eq_false (show ¬ (61 : Nat) = 60 by omega), eq_false (show ¬ (61 : Nat) = 62 by omega), if_false]
    split <;> rfl
theorem st_X2_reckon_9 (n3 : Nat) (t_signs : (Nat → Int32)) (t_values : (Nat → Int32)) (f3 : (Nat → Int32)) (x2 : Int32) (k0 : Int32 × (Nat → Int32) → Option (Int32 × (Nat → Int32))) (m : Nat) (s : Int32 × Int32 × Int32 × (Nat → Int32)) : L_X2_reckon_9 n3 t_signs t_values f3 x2 k0 (m + 1) s = (if (256 : Int32) ≤ s.2.2.1 then (k0 (s.1, s.2.2.2)) else if s.2.1 < 0 then (k0 (s.1, s.2.2.2)) else if x2 ≤ s.2.1 then (k0 (s.1, s.2.2.2)) else if (256 : Int32) ≤ s.2.1 then (k0 (s.1, s.2.2.2)) else rd t_signs 256 s.2.1 fun v1 => rd t_values 256 s.2.1 fun v2 => nm (s.2.1 + (1 : Int32)) fun v3 => jn (fun s4 : Unit => if s.1 < (64 : Int32) then (jn (fun s5 : Int32 => wr s.2.2.2 64 s.1 s5 fun g6 => nm (s.1 + (1 : Int32)) fun v7 => nm (s.2.2.1 + (1 : Int32)) fun v8 => (L_X2_reckon_9 n3 t_signs t_values f3 x2 k0 m) (v7, v3, v8, g6)) fun j107 => if v1 = (48 : Int32) then (j107 v2) else (f_X2_letterValue n3 f3 v2).bind fun u9 => j107 u9) else some ((0 : Int32), s.2.2.2)) fun j71 => if v1 = (48 : Int32) then (j71 ()) else if v1 = (97 : Int32) then (j71 ()) else if (1 : Int32) ≤ s.1 then (if v1 = (33 : Int32) then (rd s.2.2.2 64 (s.1 - (1 : Int32)) fun v25 => wr s.2.2.2 64 (s.1 - (1 : Int32)) ((1 : Int32) - v25) fun g26 => nm (s.2.2.1 + (1 : Int32)) fun v27 => (L_X2_reckon_9 n3 t_signs t_values f3 x2 k0 m) (s.1, v3, v27, g26)) else jn (fun s10 : Unit => rd s.2.2.2 64 (s.1 - (1 : Int32)) fun v11 => jn (fun s12 : Int32 => jn (fun s13 : Int32 => if s12 = s13 then (nm (s.2.2.1 + (1 : Int32)) fun v16 => (L_X2_reckon_9 n3 t_signs t_values f3 x2 k0 m) (s.1, v2, v16, s.2.2.2)) else nm (s.1 + (-1 : Int32)) fun v14 => nm (s.2.2.1 + (1 : Int32)) fun v15 => (L_X2_reckon_9 n3 t_signs t_values f3 x2 k0 m) (v14, v3, v15, s.2.2.2)) fun j195 => if v1 = (38 : Int32) then (j195 (1 : Int32)) else j195 (0 : Int32)) fun j183 => if v11 = 0 then (j183 (1 : Int32)) else j183 (0 : Int32)) fun j166 => if v1 = (38 : Int32) then (j166 ()) else if v1 = (124 : Int32) then (j166 ()) else rd s.2.2.2 64 (s.1 - (1 : Int32)) fun v17 => jn (fun s18 : Int32 => if s18 = 0 then (if (2 : Int32) ≤ s.1 then (rd s.2.2.2 64 (s.1 - (2 : Int32)) fun v19 => (f_X2_joined v1 v19 v17).bind fun u20 => wr s.2.2.2 64 (s.1 - (2 : Int32)) u20 fun g21 => nm (s.1 + (-1 : Int32)) fun v22 => nm (s.2.2.1 + (1 : Int32)) fun v23 => (L_X2_reckon_9 n3 t_signs t_values f3 x2 k0 m) (v22, v3, v23, g21)) else some ((0 : Int32), s.2.2.2)) else some ((0 : Int32), s.2.2.2)) fun j246 => jn (fun s24 : Unit => j246 (0 : Int32)) fun j245 => if v17 = 0 then (if v1 = (47 : Int32) then (j246 (1 : Int32)) else if v1 = (37 : Int32) then (j246 (1 : Int32)) else j245 ()) else j245 ()) else some ((0 : Int32), s.2.2.2)) := rfl
theorem stC_num {sg va f3 : Nat → Int32} {x2 i top cnt m : Nat} {st : Nat → Int32} (k0 : Int32 × (Nat → Int32) → Option (Int32 × (Nat → Int32))) (hx : x2 ≤ 256) (hi : i < x2) (hc : cnt < 256) (ht : top < 64) (hs : sg i = nI 48) : L_X2_reckon_9 10 sg va f3 (nI x2) k0 (m + 1) (nI top, nI i, nI cnt, st) = L_X2_reckon_9 10 sg va f3 (nI x2) k0 m (nI (top + 1), nI (i + 1), nI (cnt + 1), upd st top (va i)) := by
  have q1 : (nI 256 ≤ nI cnt) = False := by rw [le_nI (by omega) (by omega)]; exact eq_false (by omega)
  have q2 : (nI i < nI 0) = False := by rw [lt_nI (by omega) (by omega)]; exact eq_false (by omega)
  have q3 : (nI x2 ≤ nI i) = False := by rw [le_nI (by omega) (by omega)]; exact eq_false (by omega)
  have q4 : (nI 256 ≤ nI i) = False := by rw [le_nI (by omega) (by omega)]; exact eq_false (by omega)
  have q5 : (nI top < nI 64) = True := by rw [lt_nI (by omega) (by omega)]; exact eq_true (by omega)
  rw [st_X2_reckon_9]
  simp only [ltz]
  simp (disch := omega) only [↓reduceIte, ↓some_bind, ↓nm_eq, ↓jn_eq, ↓wr_nI, ↓rd_nI, n10, n00, q1, q2, q3, q4, q5, hs, eq_self, add_nI]
theorem stC_let {l : Nat} {sg va f3 : Nat → Int32} {x2 i top cnt m : Nat} {st : Nat → Int32} (k0 : Int32 × (Nat → Int32) → Option (Int32 × (Nat → Int32))) (hx : x2 ≤ 256) (hi : i < x2) (hc : cnt < 256) (ht : top < 64) (hs : sg i = nI 97) (hv : va i = nI l) (hl : l < 10) : L_X2_reckon_9 10 sg va f3 (nI x2) k0 (m + 1) (nI top, nI i, nI cnt, st) = L_X2_reckon_9 10 sg va f3 (nI x2) k0 m (nI (top + 1), nI (i + 1), nI (cnt + 1), upd st top (f3 l)) := by
  have q1 : (nI 256 ≤ nI cnt) = False := by rw [le_nI (by omega) (by omega)]; exact eq_false (by omega)
  have q2 : (nI i < nI 0) = False := by rw [lt_nI (by omega) (by omega)]; exact eq_false (by omega)
  have q3 : (nI x2 ≤ nI i) = False := by rw [le_nI (by omega) (by omega)]; exact eq_false (by omega)
  have q4 : (nI 256 ≤ nI i) = False := by rw [le_nI (by omega) (by omega)]; exact eq_false (by omega)
  have q5 : (nI top < nI 64) = True := by rw [lt_nI (by omega) (by omega)]; exact eq_true (by omega)
  have hlv : f_X2_letterValue 10 f3 (nI l) = some (f3 l) := by
    unfold f_X2_letterValue
    have a1 : (nI l < nI 0) = False := by rw [lt_nI (by omega) (by omega)]; exact eq_false (by omega)
    have a2 : (nI 10 ≤ nI l) = False := by rw [le_nI (by omega) (by omega)]; exact eq_false (by omega)
    have a3 : Int32.ofNat 10 = nI 10 := rfl
    simp (disch := omega) only [ltz, a3, a1, a2, ↓reduceIte, rd_nI]
  rw [st_X2_reckon_9]
  simp only [ltz]
  simp (disch := omega) only [↓reduceIte, ↓some_bind, ↓nm_eq, ↓jn_eq, ↓wr_nI, ↓rd_nI, n10, n00, q1, q2, q3, q4, q5, hs, hv, eq_false (show ¬ nI 97 = nI 48 by decide), eq_self, ↓bind_of hlv, add_nI]
theorem stC_not {sg va f3 : Nat → Int32} {x2 i top cnt m : Nat} {st : Nat → Int32} (k0 : Int32 × (Nat → Int32) → Option (Int32 × (Nat → Int32))) (hx : x2 ≤ 256) (hi : i < x2) (hc : cnt < 256) (ht : top < 64) (hs : sg i = nI 33) : L_X2_reckon_9 10 sg va f3 (nI x2) k0 (m + 1) (nI (top + 1), nI i, nI cnt, st) = L_X2_reckon_9 10 sg va f3 (nI x2) k0 m (nI (top + 1), nI (i + 1), nI (cnt + 1), upd st top (nI 1 - st top)) := by
  have q1 : (nI 256 ≤ nI cnt) = False := by rw [le_nI (by omega) (by omega)]; exact eq_false (by omega)
  have q2 : (nI i < nI 0) = False := by rw [lt_nI (by omega) (by omega)]; exact eq_false (by omega)
  have q3 : (nI x2 ≤ nI i) = False := by rw [le_nI (by omega) (by omega)]; exact eq_false (by omega)
  have q4 : (nI 256 ≤ nI i) = False := by rw [le_nI (by omega) (by omega)]; exact eq_false (by omega)
  have q5 : (nI 1 ≤ nI (top + 1)) = True := by rw [le_nI (by omega) (by omega)]; exact eq_true (by omega)
  have q6 : nI (top + 1) - nI 1 = nI top := sub_nI (by omega)
  rw [st_X2_reckon_9]
  simp only [ltz]
  simp (disch := omega) only [↓reduceIte, ↓some_bind, ↓nm_eq, ↓jn_eq, ↓wr_nI, ↓rd_nI, n10, n00, q1, q2, q3, q4, q5, q6, hs, eq_false (show ¬ nI 33 = nI 48 by decide), eq_false (show ¬ nI 33 = nI 97 by decide), eq_self, add_nI]
theorem stC_andY {v : Nat} {sg va f3 : Nat → Int32} {x2 i top cnt m : Nat} {st : Nat → Int32} (k0 : Int32 × (Nat → Int32) → Option (Int32 × (Nat → Int32))) (hx : x2 ≤ 256) (hi : i < x2) (hc : cnt < 256) (ht : top < 64) (hs : sg i = nI 38) (hv : va i = nI v) (h0 : st top = nI 0) : L_X2_reckon_9 10 sg va f3 (nI x2) k0 (m + 1) (nI (top + 1), nI i, nI cnt, st) = L_X2_reckon_9 10 sg va f3 (nI x2) k0 m (nI (top + 1), nI v, nI (cnt + 1), st) := by
  have q1 : (nI 256 ≤ nI cnt) = False := by rw [le_nI (by omega) (by omega)]; exact eq_false (by omega)
  have q2 : (nI i < nI 0) = False := by rw [lt_nI (by omega) (by omega)]; exact eq_false (by omega)
  have q3 : (nI x2 ≤ nI i) = False := by rw [le_nI (by omega) (by omega)]; exact eq_false (by omega)
  have q4 : (nI 256 ≤ nI i) = False := by rw [le_nI (by omega) (by omega)]; exact eq_false (by omega)
  have q5 : (nI 1 ≤ nI (top + 1)) = True := by rw [le_nI (by omega) (by omega)]; exact eq_true (by omega)
  have q6 : nI (top + 1) - nI 1 = nI top := sub_nI (by omega)
  have q7 : nI (top + 1) + -nI 1 = nI top := by rw [← Int32.sub_eq_add_neg]; exact q6
  rw [st_X2_reckon_9]
  simp only [ltz]
  simp (disch := omega) only [↓reduceIte, ↓some_bind, ↓nm_eq, ↓jn_eq, ↓wr_nI, ↓rd_nI, n10, n00, q1, q2, q3, q4, q5, q6, q7, hs, hv, h0, eq_false (show ¬ nI 38 = nI 48 by decide), eq_false (show ¬ nI 38 = nI 97 by decide), eq_false (show ¬ nI 38 = nI 33 by decide), eq_self, n01, add_nI]
theorem stC_andN {v : Nat} {sg va f3 : Nat → Int32} {x2 i top cnt m : Nat} {st : Nat → Int32} (k0 : Int32 × (Nat → Int32) → Option (Int32 × (Nat → Int32))) (hx : x2 ≤ 256) (hi : i < x2) (hc : cnt < 256) (ht : top < 64) (hs : sg i = nI 38) (hv : va i = nI v) (h0 : ¬ st top = nI 0) : L_X2_reckon_9 10 sg va f3 (nI x2) k0 (m + 1) (nI (top + 1), nI i, nI cnt, st) = L_X2_reckon_9 10 sg va f3 (nI x2) k0 m (nI top, nI (i + 1), nI (cnt + 1), st) := by
  have q1 : (nI 256 ≤ nI cnt) = False := by rw [le_nI (by omega) (by omega)]; exact eq_false (by omega)
  have q2 : (nI i < nI 0) = False := by rw [lt_nI (by omega) (by omega)]; exact eq_false (by omega)
  have q3 : (nI x2 ≤ nI i) = False := by rw [le_nI (by omega) (by omega)]; exact eq_false (by omega)
  have q4 : (nI 256 ≤ nI i) = False := by rw [le_nI (by omega) (by omega)]; exact eq_false (by omega)
  have q5 : (nI 1 ≤ nI (top + 1)) = True := by rw [le_nI (by omega) (by omega)]; exact eq_true (by omega)
  have q6 : nI (top + 1) - nI 1 = nI top := sub_nI (by omega)
  have q7 : nI (top + 1) + -nI 1 = nI top := by rw [← Int32.sub_eq_add_neg]; exact q6
  rw [st_X2_reckon_9]
  simp only [ltz]
  simp (disch := omega) only [↓reduceIte, ↓some_bind, ↓nm_eq, ↓jn_eq, ↓wr_nI, ↓rd_nI, n10, n00, q1, q2, q3, q4, q5, q6, q7, hs, hv, h0, eq_false (show ¬ nI 38 = nI 48 by decide), eq_false (show ¬ nI 38 = nI 97 by decide), eq_false (show ¬ nI 38 = nI 33 by decide), eq_self, n01, add_nI]
theorem stC_orY {v : Nat} {sg va f3 : Nat → Int32} {x2 i top cnt m : Nat} {st : Nat → Int32} (k0 : Int32 × (Nat → Int32) → Option (Int32 × (Nat → Int32))) (hx : x2 ≤ 256) (hi : i < x2) (hc : cnt < 256) (ht : top < 64) (hs : sg i = nI 124) (hv : va i = nI v) (h0 : ¬ st top = nI 0) : L_X2_reckon_9 10 sg va f3 (nI x2) k0 (m + 1) (nI (top + 1), nI i, nI cnt, st) = L_X2_reckon_9 10 sg va f3 (nI x2) k0 m (nI (top + 1), nI v, nI (cnt + 1), st) := by
  have q1 : (nI 256 ≤ nI cnt) = False := by rw [le_nI (by omega) (by omega)]; exact eq_false (by omega)
  have q2 : (nI i < nI 0) = False := by rw [lt_nI (by omega) (by omega)]; exact eq_false (by omega)
  have q3 : (nI x2 ≤ nI i) = False := by rw [le_nI (by omega) (by omega)]; exact eq_false (by omega)
  have q4 : (nI 256 ≤ nI i) = False := by rw [le_nI (by omega) (by omega)]; exact eq_false (by omega)
  have q5 : (nI 1 ≤ nI (top + 1)) = True := by rw [le_nI (by omega) (by omega)]; exact eq_true (by omega)
  have q6 : nI (top + 1) - nI 1 = nI top := sub_nI (by omega)
  have q7 : nI (top + 1) + -nI 1 = nI top := by rw [← Int32.sub_eq_add_neg]; exact q6
  rw [st_X2_reckon_9]
  simp only [ltz]
  simp (disch := omega) only [↓reduceIte, ↓some_bind, ↓nm_eq, ↓jn_eq, ↓wr_nI, ↓rd_nI, n10, n00, q1, q2, q3, q4, q5, q6, q7, hs, hv, h0, eq_false (show ¬ nI 124 = nI 48 by decide), eq_false (show ¬ nI 124 = nI 97 by decide), eq_false (show ¬ nI 124 = nI 33 by decide), eq_false (show ¬ nI 124 = nI 38 by decide), eq_self, n01, add_nI]
theorem stC_orN {v : Nat} {sg va f3 : Nat → Int32} {x2 i top cnt m : Nat} {st : Nat → Int32} (k0 : Int32 × (Nat → Int32) → Option (Int32 × (Nat → Int32))) (hx : x2 ≤ 256) (hi : i < x2) (hc : cnt < 256) (ht : top < 64) (hs : sg i = nI 124) (hv : va i = nI v) (h0 : st top = nI 0) : L_X2_reckon_9 10 sg va f3 (nI x2) k0 (m + 1) (nI (top + 1), nI i, nI cnt, st) = L_X2_reckon_9 10 sg va f3 (nI x2) k0 m (nI top, nI (i + 1), nI (cnt + 1), st) := by
  have q1 : (nI 256 ≤ nI cnt) = False := by rw [le_nI (by omega) (by omega)]; exact eq_false (by omega)
  have q2 : (nI i < nI 0) = False := by rw [lt_nI (by omega) (by omega)]; exact eq_false (by omega)
  have q3 : (nI x2 ≤ nI i) = False := by rw [le_nI (by omega) (by omega)]; exact eq_false (by omega)
  have q4 : (nI 256 ≤ nI i) = False := by rw [le_nI (by omega) (by omega)]; exact eq_false (by omega)
  have q5 : (nI 1 ≤ nI (top + 1)) = True := by rw [le_nI (by omega) (by omega)]; exact eq_true (by omega)
  have q6 : nI (top + 1) - nI 1 = nI top := sub_nI (by omega)
  have q7 : nI (top + 1) + -nI 1 = nI top := by rw [← Int32.sub_eq_add_neg]; exact q6
  rw [st_X2_reckon_9]
  simp only [ltz]
  simp (disch := omega) only [↓reduceIte, ↓some_bind, ↓nm_eq, ↓jn_eq, ↓wr_nI, ↓rd_nI, n10, n00, q1, q2, q3, q4, q5, q6, q7, hs, hv, h0, eq_false (show ¬ nI 124 = nI 48 by decide), eq_false (show ¬ nI 124 = nI 97 by decide), eq_false (show ¬ nI 124 = nI 33 by decide), eq_false (show ¬ nI 124 = nI 38 by decide), eq_self, n01, add_nI]
theorem stC_bin {op : Nat} {sg va f3 : Nat → Int32} {x2 i top cnt m : Nat} {st : Nat → Int32} (k0 : Int32 × (Nat → Int32) → Option (Int32 × (Nat → Int32))) (hx : x2 ≤ 256) (hi : i < x2) (hc : cnt < 256) (ht : top + 1 < 64) (hs : sg i = nI op) (ho : isOp op) (h0 : ¬ ((op = 47 ∨ op = 37) ∧ st (top + 1) = nI 0)) : L_X2_reckon_9 10 sg va f3 (nI x2) k0 (m + 1) (nI (top + 2), nI i, nI cnt, st) = L_X2_reckon_9 10 sg va f3 (nI x2) k0 m (nI (top + 1), nI (i + 1), nI (cnt + 1), upd st top (jO op (st top) (st (top + 1)))) := by
  have q1 : (nI 256 ≤ nI cnt) = False := by rw [le_nI (by omega) (by omega)]; exact eq_false (by omega)
  have q2 : (nI i < nI 0) = False := by rw [lt_nI (by omega) (by omega)]; exact eq_false (by omega)
  have q3 : (nI x2 ≤ nI i) = False := by rw [le_nI (by omega) (by omega)]; exact eq_false (by omega)
  have q4 : (nI 256 ≤ nI i) = False := by rw [le_nI (by omega) (by omega)]; exact eq_false (by omega)
  have q5 : (nI 1 ≤ nI (top + 2)) = True := by rw [le_nI (by omega) (by omega)]; exact eq_true (by omega)
  have q5' : (nI 2 ≤ nI (top + 2)) = True := by rw [le_nI (by omega) (by omega)]; exact eq_true (by omega)
  have q6 : nI (top + 2) - nI 1 = nI (top + 1) := sub_nI (by omega)
  have q6' : nI (top + 2) - nI 2 = nI top := sub_nI (by omega)
  have q7 : nI (top + 2) + -nI 1 = nI (top + 1) := by rw [← Int32.sub_eq_add_neg]; exact q6
  have hj := joined_C ho (st top) (st (top + 1)) h0
  have p1 : (nI op = nI 48) = False := by rw [eq_nI (by unfold isOp at ho; omega) (by omega)]; exact eq_false (by unfold isOp at ho; omega)
  have p2 : (nI op = nI 97) = False := by rw [eq_nI (by unfold isOp at ho; omega) (by omega)]; exact eq_false (by unfold isOp at ho; omega)
  have p3 : (nI op = nI 33) = False := by rw [eq_nI (by unfold isOp at ho; omega) (by omega)]; exact eq_false (by unfold isOp at ho; omega)
  have p4 : (nI op = nI 38) = False := by rw [eq_nI (by unfold isOp at ho; omega) (by omega)]; exact eq_false (by unfold isOp at ho; omega)
  have p5 : (nI op = nI 124) = False := by rw [eq_nI (by unfold isOp at ho; omega) (by omega)]; exact eq_false (by unfold isOp at ho; omega)
  rw [st_X2_reckon_9]
  simp only [ltz]
  by_cases hz : st (top + 1) = nI 0
  · have p6 : (nI op = nI 47) = False := by rw [eq_nI (by unfold isOp at ho; omega) (by omega)]; exact eq_false (fun h => h0 ⟨Or.inl h, hz⟩)
    have p7 : (nI op = nI 37) = False := by rw [eq_nI (by unfold isOp at ho; omega) (by omega)]; exact eq_false (fun h => h0 ⟨Or.inr h, hz⟩)
    rw [hz] at hj
    simp (disch := omega) only [↓reduceIte, ↓some_bind, ↓nm_eq, ↓jn_eq, ↓wr_nI, ↓rd_nI, n10, n00, q1, q2, q3, q4, q5, q5', q6, q6', q7, hs, p1, p2, p3, p4, p5, p6, p7, hz, ↓bind_of hj, add_nI]
  · simp (disch := omega) only [↓reduceIte, ↓some_bind, ↓nm_eq, ↓jn_eq, ↓wr_nI, ↓rd_nI, n10, n00, q1, q2, q3, q4, q5, q5', q6, q6', q7, hs, p1, p2, p3, p4, p5, eq_false hz, ↓bind_of hj, add_nI]
theorem stC_ref {op : Nat} {sg va f3 : Nat → Int32} {x2 i top cnt m : Nat} {st : Nat → Int32} (k0 : Int32 × (Nat → Int32) → Option (Int32 × (Nat → Int32))) (hx : x2 ≤ 256) (hi : i < x2) (hc : cnt < 256) (ht : top + 1 < 64) (hs : sg i = nI op) (ho : op = 47 ∨ op = 37) (h0 : st (top + 1) = nI 0) : L_X2_reckon_9 10 sg va f3 (nI x2) k0 (m + 1) (nI (top + 2), nI i, nI cnt, st) = some (nI 0, st) := by
  have q1 : (nI 256 ≤ nI cnt) = False := by rw [le_nI (by omega) (by omega)]; exact eq_false (by omega)
  have q2 : (nI i < nI 0) = False := by rw [lt_nI (by omega) (by omega)]; exact eq_false (by omega)
  have q3 : (nI x2 ≤ nI i) = False := by rw [le_nI (by omega) (by omega)]; exact eq_false (by omega)
  have q4 : (nI 256 ≤ nI i) = False := by rw [le_nI (by omega) (by omega)]; exact eq_false (by omega)
  have q5 : (nI 1 ≤ nI (top + 2)) = True := by rw [le_nI (by omega) (by omega)]; exact eq_true (by omega)
  have q6 : nI (top + 2) - nI 1 = nI (top + 1) := sub_nI (by omega)
  rw [st_X2_reckon_9]
  simp only [ltz]
  rcases ho with rfl | rfl
  · simp (disch := omega) only [↓reduceIte, ↓some_bind, ↓nm_eq, ↓jn_eq, ↓wr_nI, ↓rd_nI, n10, n00, q1, q2, q3, q4, q5, q6, hs, h0, eq_false (show ¬ nI 47 = nI 48 by decide), eq_false (show ¬ nI 47 = nI 97 by decide), eq_false (show ¬ nI 47 = nI 33 by decide), eq_false (show ¬ nI 47 = nI 38 by decide), eq_false (show ¬ nI 47 = nI 124 by decide), eq_self]
  · simp (disch := omega) only [↓reduceIte, ↓some_bind, ↓nm_eq, ↓jn_eq, ↓wr_nI, ↓rd_nI, n10, n00, q1, q2, q3, q4, q5, q6, hs, h0, eq_false (show ¬ nI 37 = nI 48 by decide), eq_false (show ¬ nI 37 = nI 97 by decide), eq_false (show ¬ nI 37 = nI 33 by decide), eq_false (show ¬ nI 37 = nI 38 by decide), eq_false (show ¬ nI 37 = nI 124 by decide), eq_false (show ¬ nI 37 = nI 47 by decide), eq_self]
theorem st_X12_reckonsTo_16 (t_codes : (Nat → Int32)) (t_facts : (Nat → Int32)) (x2 : Int32) (x4 : Int32) (k0 : (Nat → Int32) → Option (Int32 × (Nat → Int32))) (m : Nat) (s : Int32 × Int32 × (Nat → Int32)) : L_X12_reckonsTo_16 t_codes t_facts x2 x4 k0 (m + 1) s = (if x2 ≤ s.2.1 then (k0 s.2.2) else rd t_codes 260 s.2.1 fun v3 => dv v3 (1048576 : Int32) fun v4 => rd t_codes 260 s.2.1 fun v5 => rm v5 (1048576 : Int32) fun v6 => nm (s.2.1 + (1 : Int32)) fun v7 => jn (fun s8 : Unit => jn (fun s9 : Int32 => wr s.2.2 260 s.1 s9 fun g10 => nm (s.1 + (1 : Int32)) fun v11 => (L_X12_reckonsTo_16 t_codes t_facts x2 x4 k0 m) (v11, v7, g10)) fun j85 => if v4 = 0 then (j85 v6) else rd t_facts 10 v6 fun v12 => j85 v12) fun j63 => if v4 = 0 then (j63 ()) else if v4 = (1 : Int32) then (j63 ()) else if v4 = (10 : Int32) then (rd s.2.2 260 (s.1 - (1 : Int32)) fun v26 => wr s.2.2 260 (s.1 - (1 : Int32)) ((1 : Int32) - v26) fun g27 => (L_X12_reckonsTo_16 t_codes t_facts x2 x4 k0 m) (s.1, v7, g27)) else jn (fun s13 : Unit => rd s.2.2 260 (s.1 - (1 : Int32)) fun v14 => jn (fun s15 : Int32 => if v14 = s15 then (nm (x4 + v6) fun v17 => (L_X12_reckonsTo_16 t_codes t_facts x2 x4 k0 m) (s.1, v17, s.2.2)) else nm (s.1 - (1 : Int32)) fun v16 => (L_X12_reckonsTo_16 t_codes t_facts x2 x4 k0 m) (v16, v7, s.2.2)) fun j155 => if v4 = (12 : Int32) then (j155 (1 : Int32)) else j155 (0 : Int32)) fun j135 => if v4 = (11 : Int32) then (j135 ()) else if v4 = (12 : Int32) then (j135 ()) else nm (s.1 - (1 : Int32)) fun v18 => jn (fun s19 : Unit => rd s.2.2 260 (v18 - (1 : Int32)) fun v20 => rd s.2.2 260 v18 fun v21 => (f_X12_reckon v4 v20 v21).bind fun u22 => wr s.2.2 260 (v18 - (1 : Int32)) u22 fun g23 => (L_X12_reckonsTo_16 t_codes t_facts x2 x4 k0 m) (v18, v7, g23)) fun j203 => jn (fun s24 : Unit => rd s.2.2 260 v18 fun v25 => if v25 = 0 then (some ((0 : Int32), s.2.2)) else j203 ()) fun j192 => if v4 = (5 : Int32) then (j192 ()) else if v4 = (6 : Int32) then (j192 ()) else j203 ()) := rfl
theorem stM_num {v : Nat} {co f3 : Nat → Int32} {x2 i top m c : Nat} {st : Nat → Int32} (k0 : (Nat → Int32) → Option (Int32 × (Nat → Int32))) (hx : x2 ≤ 256) (hi : i < x2) (hcl : c < 2147483648) (ht : top < 64) (hs : co i = nI c) (z1 : c / 1048576 = 0) (z2 : c % 1048576 = v) : L_X12_reckonsTo_16 co f3 (nI x2) (nI 0) k0 (m + 1) (nI top, nI i, st) = L_X12_reckonsTo_16 co f3 (nI x2) (nI 0) k0 m (nI (top + 1), nI (i + 1), upd st top (nI v)) := by
  have q3 : (nI x2 ≤ nI i) = False := by rw [le_nI (by omega) (by omega)]; exact eq_false (by omega)
  have hdv : ∀ k : Int32 → Option (Int32 × (Nat → Int32)), dv (co i) (nI 1048576) k = k (nI (0)) := fun k => by rw [hs, dv_nI (by omega) (by omega) (by omega), z1]
  have hrm : ∀ k : Int32 → Option (Int32 × (Nat → Int32)), rm (co i) (nI 1048576) k = k (nI (v)) := fun k => by rw [hs, rm_nI (by omega) (by omega) (by omega), z2]
  rw [st_X12_reckonsTo_16]
  simp only [ltz]
  simp (disch := omega) only [↓reduceIte, ↓some_bind, ↓nm_eq, ↓jn_eq, ↓wr_nI, ↓rd_nI, n10, n00, q3, hs, ↓hdv, ↓hrm, add_nI]
theorem stM_let {l : Nat} {co f3 : Nat → Int32} {x2 i top m c : Nat} {st : Nat → Int32} (k0 : (Nat → Int32) → Option (Int32 × (Nat → Int32))) (hx : x2 ≤ 256) (hi : i < x2) (hcl : c < 2147483648) (ht : top < 64) (hl : l < 10) (hs : co i = nI c) (z1 : c / 1048576 = 1) (z2 : c % 1048576 = l) : L_X12_reckonsTo_16 co f3 (nI x2) (nI 0) k0 (m + 1) (nI top, nI i, st) = L_X12_reckonsTo_16 co f3 (nI x2) (nI 0) k0 m (nI (top + 1), nI (i + 1), upd st top (f3 l)) := by
  have q3 : (nI x2 ≤ nI i) = False := by rw [le_nI (by omega) (by omega)]; exact eq_false (by omega)
  have hdv : ∀ k : Int32 → Option (Int32 × (Nat → Int32)), dv (co i) (nI 1048576) k = k (nI (1)) := fun k => by rw [hs, dv_nI (by omega) (by omega) (by omega), z1]
  have hrm : ∀ k : Int32 → Option (Int32 × (Nat → Int32)), rm (co i) (nI 1048576) k = k (nI (l)) := fun k => by rw [hs, rm_nI (by omega) (by omega) (by omega), z2]
  rw [st_X12_reckonsTo_16]
  simp only [ltz]
  simp (disch := omega) only [↓reduceIte, ↓some_bind, ↓nm_eq, ↓jn_eq, ↓wr_nI, ↓rd_nI, n10, n00, q3, hs, ↓hdv, ↓hrm, eq_self, add_nI]
theorem stM_not {co f3 : Nat → Int32} {x2 i top m c : Nat} {st : Nat → Int32} (k0 : (Nat → Int32) → Option (Int32 × (Nat → Int32))) (hx : x2 ≤ 256) (hi : i < x2) (hcl : c < 2147483648) (ht : top < 64) (hs : co i = nI c) (z1 : c / 1048576 = 10) : L_X12_reckonsTo_16 co f3 (nI x2) (nI 0) k0 (m + 1) (nI (top + 1), nI i, st) = L_X12_reckonsTo_16 co f3 (nI x2) (nI 0) k0 m (nI (top + 1), nI (i + 1), upd st top (nI 1 - st top)) := by
  have q3 : (nI x2 ≤ nI i) = False := by rw [le_nI (by omega) (by omega)]; exact eq_false (by omega)
  have hdv : ∀ k : Int32 → Option (Int32 × (Nat → Int32)), dv (co i) (nI 1048576) k = k (nI (10)) := fun k => by rw [hs, dv_nI (by omega) (by omega) (by omega), z1]
  have hrm : ∀ k : Int32 → Option (Int32 × (Nat → Int32)), rm (co i) (nI 1048576) k = k (nI (c % 1048576)) := fun k => by rw [hs, rm_nI (by omega) (by omega) (by omega)]
  have q6 : nI (top + 1) - nI 1 = nI top := sub_nI (by omega)
  rw [st_X12_reckonsTo_16]
  simp only [ltz]
  simp (disch := omega) only [↓reduceIte, ↓some_bind, ↓nm_eq, ↓jn_eq, ↓wr_nI, ↓rd_nI, n10, n00, q3, q6, hs, ↓hdv, ↓hrm, eq_false (show ¬ nI 10 = nI 0 by decide), eq_false (show ¬ nI 10 = nI 1 by decide), eq_self, add_nI]
theorem stM_andY {v : Nat} {co f3 : Nat → Int32} {x2 i top m c : Nat} {st : Nat → Int32} (k0 : (Nat → Int32) → Option (Int32 × (Nat → Int32))) (hx : x2 ≤ 256) (hi : i < x2) (hcl : c < 2147483648) (ht : top < 64) (hs : co i = nI c) (z1 : c / 1048576 = 11) (z2 : c % 1048576 = v) (h0 : st top = nI 0) : L_X12_reckonsTo_16 co f3 (nI x2) (nI 0) k0 (m + 1) (nI (top + 1), nI i, st) = L_X12_reckonsTo_16 co f3 (nI x2) (nI 0) k0 m (nI (top + 1), nI v, st) := by
  have q3 : (nI x2 ≤ nI i) = False := by rw [le_nI (by omega) (by omega)]; exact eq_false (by omega)
  have hdv : ∀ k : Int32 → Option (Int32 × (Nat → Int32)), dv (co i) (nI 1048576) k = k (nI (11)) := fun k => by rw [hs, dv_nI (by omega) (by omega) (by omega), z1]
  have hrm : ∀ k : Int32 → Option (Int32 × (Nat → Int32)), rm (co i) (nI 1048576) k = k (nI (v)) := fun k => by rw [hs, rm_nI (by omega) (by omega) (by omega), z2]
  have q6 : nI (top + 1) - nI 1 = nI top := sub_nI (by omega)
  rw [st_X12_reckonsTo_16]
  simp only [ltz]
  simp (disch := omega) only [↓reduceIte, ↓some_bind, ↓nm_eq, ↓jn_eq, ↓wr_nI, ↓rd_nI, n10, n00, q3, q6, hs, ↓hdv, ↓hrm, h0, eq_false (show ¬ nI 11 = nI 0 by decide), eq_false (show ¬ nI 11 = nI 1 by decide), eq_false (show ¬ nI 11 = nI 10 by decide), eq_false (show ¬ nI 11 = nI 12 by decide), eq_self, add_nI, Nat.zero_add]
theorem stM_andN {v : Nat} {co f3 : Nat → Int32} {x2 i top m c : Nat} {st : Nat → Int32} (k0 : (Nat → Int32) → Option (Int32 × (Nat → Int32))) (hx : x2 ≤ 256) (hi : i < x2) (hcl : c < 2147483648) (ht : top < 64) (hs : co i = nI c) (z1 : c / 1048576 = 11) (z2 : c % 1048576 = v) (h0 : ¬ st top = nI 0) : L_X12_reckonsTo_16 co f3 (nI x2) (nI 0) k0 (m + 1) (nI (top + 1), nI i, st) = L_X12_reckonsTo_16 co f3 (nI x2) (nI 0) k0 m (nI top, nI (i + 1), st) := by
  have q3 : (nI x2 ≤ nI i) = False := by rw [le_nI (by omega) (by omega)]; exact eq_false (by omega)
  have hdv : ∀ k : Int32 → Option (Int32 × (Nat → Int32)), dv (co i) (nI 1048576) k = k (nI (11)) := fun k => by rw [hs, dv_nI (by omega) (by omega) (by omega), z1]
  have hrm : ∀ k : Int32 → Option (Int32 × (Nat → Int32)), rm (co i) (nI 1048576) k = k (nI (v)) := fun k => by rw [hs, rm_nI (by omega) (by omega) (by omega), z2]
  have q6 : nI (top + 1) - nI 1 = nI top := sub_nI (by omega)
  rw [st_X12_reckonsTo_16]
  simp only [ltz]
  simp (disch := omega) only [↓reduceIte, ↓some_bind, ↓nm_eq, ↓jn_eq, ↓wr_nI, ↓rd_nI, n10, n00, q3, q6, hs, ↓hdv, ↓hrm, h0, eq_false (show ¬ nI 11 = nI 0 by decide), eq_false (show ¬ nI 11 = nI 1 by decide), eq_false (show ¬ nI 11 = nI 10 by decide), eq_false (show ¬ nI 11 = nI 12 by decide), eq_self, add_nI, Nat.zero_add]
theorem stM_orY {v : Nat} {co f3 : Nat → Int32} {x2 i top m c : Nat} {st : Nat → Int32} (k0 : (Nat → Int32) → Option (Int32 × (Nat → Int32))) (hx : x2 ≤ 256) (hi : i < x2) (hcl : c < 2147483648) (ht : top < 64) (hs : co i = nI c) (z1 : c / 1048576 = 12) (z2 : c % 1048576 = v) (h0 : st top = nI 1) : L_X12_reckonsTo_16 co f3 (nI x2) (nI 0) k0 (m + 1) (nI (top + 1), nI i, st) = L_X12_reckonsTo_16 co f3 (nI x2) (nI 0) k0 m (nI (top + 1), nI v, st) := by
  have q3 : (nI x2 ≤ nI i) = False := by rw [le_nI (by omega) (by omega)]; exact eq_false (by omega)
  have hdv : ∀ k : Int32 → Option (Int32 × (Nat → Int32)), dv (co i) (nI 1048576) k = k (nI (12)) := fun k => by rw [hs, dv_nI (by omega) (by omega) (by omega), z1]
  have hrm : ∀ k : Int32 → Option (Int32 × (Nat → Int32)), rm (co i) (nI 1048576) k = k (nI (v)) := fun k => by rw [hs, rm_nI (by omega) (by omega) (by omega), z2]
  have q6 : nI (top + 1) - nI 1 = nI top := sub_nI (by omega)
  rw [st_X12_reckonsTo_16]
  simp only [ltz]
  simp (disch := omega) only [↓reduceIte, ↓some_bind, ↓nm_eq, ↓jn_eq, ↓wr_nI, ↓rd_nI, n10, n00, q3, q6, hs, ↓hdv, ↓hrm, h0, eq_false (show ¬ nI 12 = nI 0 by decide), eq_false (show ¬ nI 12 = nI 1 by decide), eq_false (show ¬ nI 12 = nI 10 by decide), eq_false (show ¬ nI 12 = nI 11 by decide), eq_self, eq_self, add_nI, Nat.zero_add]
theorem stM_orN {v : Nat} {co f3 : Nat → Int32} {x2 i top m c : Nat} {st : Nat → Int32} (k0 : (Nat → Int32) → Option (Int32 × (Nat → Int32))) (hx : x2 ≤ 256) (hi : i < x2) (hcl : c < 2147483648) (ht : top < 64) (hs : co i = nI c) (z1 : c / 1048576 = 12) (z2 : c % 1048576 = v) (h0 : ¬ st top = nI 1) : L_X12_reckonsTo_16 co f3 (nI x2) (nI 0) k0 (m + 1) (nI (top + 1), nI i, st) = L_X12_reckonsTo_16 co f3 (nI x2) (nI 0) k0 m (nI top, nI (i + 1), st) := by
  have q3 : (nI x2 ≤ nI i) = False := by rw [le_nI (by omega) (by omega)]; exact eq_false (by omega)
  have hdv : ∀ k : Int32 → Option (Int32 × (Nat → Int32)), dv (co i) (nI 1048576) k = k (nI (12)) := fun k => by rw [hs, dv_nI (by omega) (by omega) (by omega), z1]
  have hrm : ∀ k : Int32 → Option (Int32 × (Nat → Int32)), rm (co i) (nI 1048576) k = k (nI (v)) := fun k => by rw [hs, rm_nI (by omega) (by omega) (by omega), z2]
  have q6 : nI (top + 1) - nI 1 = nI top := sub_nI (by omega)
  rw [st_X12_reckonsTo_16]
  simp only [ltz]
  simp (disch := omega) only [↓reduceIte, ↓some_bind, ↓nm_eq, ↓jn_eq, ↓wr_nI, ↓rd_nI, n10, n00, q3, q6, hs, ↓hdv, ↓hrm, h0, eq_false (show ¬ nI 12 = nI 0 by decide), eq_false (show ¬ nI 12 = nI 1 by decide), eq_false (show ¬ nI 12 = nI 10 by decide), eq_false (show ¬ nI 12 = nI 11 by decide), eq_self, eq_self, add_nI, Nat.zero_add]
theorem mop_le {op : Nat} (h : isOp op) : 2 ≤ mop op ∧ mop op ≤ 9 ∧ (mop op = 5 ↔ op = 47) ∧ (mop op = 6 ↔ op = 37) := by
  unfold mop
  rcases h with rfl | rfl | rfl | rfl | rfl | rfl | rfl | rfl <;> decide
theorem stM_bin {op : Nat} {co f3 : Nat → Int32} {x2 i top m c : Nat} {st : Nat → Int32} (k0 : (Nat → Int32) → Option (Int32 × (Nat → Int32))) (hx : x2 ≤ 256) (hi : i < x2) (hcl : c < 2147483648) (ht : top + 1 < 64) (hs : co i = nI c) (z1 : c / 1048576 = mop op) (ho : isOp op) (h0 : ¬ ((op = 47 ∨ op = 37) ∧ st (top + 1) = nI 0)) : L_X12_reckonsTo_16 co f3 (nI x2) (nI 0) k0 (m + 1) (nI (top + 2), nI i, st) = L_X12_reckonsTo_16 co f3 (nI x2) (nI 0) k0 m (nI (top + 1), nI (i + 1), upd st top (jO op (st top) (st (top + 1)))) := by
  have hr := reckon_M ho (st top) (st (top + 1)) h0
  obtain ⟨g1, g2, g3, g4⟩ := mop_le ho
  generalize mop op = o at *
  have q3 : (nI x2 ≤ nI i) = False := by rw [le_nI (by omega) (by omega)]; exact eq_false (by omega)
  have hdv : ∀ k : Int32 → Option (Int32 × (Nat → Int32)), dv (co i) (nI 1048576) k = k (nI (o)) := fun k => by rw [hs, dv_nI (by omega) (by omega) (by omega), z1]
  have hrm : ∀ k : Int32 → Option (Int32 × (Nat → Int32)), rm (co i) (nI 1048576) k = k (nI (c % 1048576)) := fun k => by rw [hs, rm_nI (by omega) (by omega) (by omega)]
  have q6 : nI (top + 2) - nI 1 = nI (top + 1) := sub_nI (by omega)
  have q7 : nI (top + 1) - nI 1 = nI top := sub_nI (by omega)
  have p0 : (nI o = nI 0) = False := by rw [eq_nI (by omega) (by omega)]; exact eq_false (by omega)
  have p1 : (nI o = nI 1) = False := by rw [eq_nI (by omega) (by omega)]; exact eq_false (by omega)
  have p2 : (nI o = nI 10) = False := by rw [eq_nI (by omega) (by omega)]; exact eq_false (by omega)
  have p3 : (nI o = nI 11) = False := by rw [eq_nI (by omega) (by omega)]; exact eq_false (by omega)
  have p4 : (nI o = nI 12) = False := by rw [eq_nI (by omega) (by omega)]; exact eq_false (by omega)
  rw [st_X12_reckonsTo_16]
  simp only [ltz]
  by_cases hz : st (top + 1) = nI 0
  · have p6 : (nI o = nI 5) = False := by rw [eq_nI (by omega) (by omega)]; exact eq_false (fun h => h0 ⟨Or.inl (g3.1 h), hz⟩)
    have p7 : (nI o = nI 6) = False := by rw [eq_nI (by omega) (by omega)]; exact eq_false (fun h => h0 ⟨Or.inr (g4.1 h), hz⟩)
    simp (disch := omega) only [↓reduceIte, ↓some_bind, ↓nm_eq, ↓jn_eq, ↓wr_nI, ↓rd_nI, n10, n00, q3, q6, q7, hs, ↓hdv, ↓hrm, p0, p1, p2, p3, p4, p6, p7, ↓bind_of hr, add_nI]
  · by_cases p5 : o = 5
    · subst p5
      simp (disch := omega) only [↓reduceIte, ↓some_bind, ↓nm_eq, ↓jn_eq, ↓wr_nI, ↓rd_nI, n10, n00, q3, q6, q7, hs, ↓hdv, ↓hrm, p0, p1, p2, p3, p4, eq_self, eq_false hz, ↓bind_of hr, add_nI]
    · have p6 : (nI o = nI 5) = False := by rw [eq_nI (by omega) (by omega)]; exact eq_false p5
      by_cases p7 : o = 6
      · subst p7
        simp (disch := omega) only [↓reduceIte, ↓some_bind, ↓nm_eq, ↓jn_eq, ↓wr_nI, ↓rd_nI, n10, n00, q3, q6, q7, hs, ↓hdv, ↓hrm, p0, p1, p2, p3, p4, p6, eq_self, eq_false hz, ↓bind_of hr, add_nI]
      · have p8 : (nI o = nI 6) = False := by rw [eq_nI (by omega) (by omega)]; exact eq_false p7
        simp (disch := omega) only [↓reduceIte, ↓some_bind, ↓nm_eq, ↓jn_eq, ↓wr_nI, ↓rd_nI, n10, n00, q3, q6, q7, hs, ↓hdv, ↓hrm, p0, p1, p2, p3, p4, p6, p8, ↓bind_of hr, add_nI]
theorem stM_ref {op : Nat} {co f3 : Nat → Int32} {x2 i top m c : Nat} {st : Nat → Int32} (k0 : (Nat → Int32) → Option (Int32 × (Nat → Int32))) (hx : x2 ≤ 256) (hi : i < x2) (hcl : c < 2147483648) (ht : top + 1 < 64) (hs : co i = nI c) (z1 : c / 1048576 = mop op) (ho : op = 47 ∨ op = 37) (h0 : st (top + 1) = nI 0) : L_X12_reckonsTo_16 co f3 (nI x2) (nI 0) k0 (m + 1) (nI (top + 2), nI i, st) = some (nI 0, st) := by
  have q3 : (nI x2 ≤ nI i) = False := by rw [le_nI (by omega) (by omega)]; exact eq_false (by omega)
  have hdv : ∀ k : Int32 → Option (Int32 × (Nat → Int32)), dv (co i) (nI 1048576) k = k (nI (mop op)) := fun k => by rw [hs, dv_nI (by omega) (by omega) (by omega), z1]
  have hrm : ∀ k : Int32 → Option (Int32 × (Nat → Int32)), rm (co i) (nI 1048576) k = k (nI (c % 1048576)) := fun k => by rw [hs, rm_nI (by omega) (by omega) (by omega)]
  have q6 : nI (top + 2) - nI 1 = nI (top + 1) := sub_nI (by omega)
  rw [st_X12_reckonsTo_16]
  simp only [ltz]
  rcases ho with rfl | rfl
  · have hdv : ∀ k : Int32 → Option (Int32 × (Nat → Int32)), dv (co i) (nI 1048576) k = k (nI 5) := hdv
    simp (disch := omega) only [↓reduceIte, ↓some_bind, ↓nm_eq, ↓jn_eq, ↓wr_nI, ↓rd_nI, n10, n00, q3, q6, hs, ↓hdv, ↓hrm, h0, eq_false (show ¬ nI 5 = nI 0 by decide), eq_false (show ¬ nI 5 = nI 1 by decide), eq_false (show ¬ nI 5 = nI 10 by decide), eq_false (show ¬ nI 5 = nI 11 by decide), eq_false (show ¬ nI 5 = nI 12 by decide), eq_self]
  · have hdv : ∀ k : Int32 → Option (Int32 × (Nat → Int32)), dv (co i) (nI 1048576) k = k (nI 6) := hdv
    simp (disch := omega) only [↓reduceIte, ↓some_bind, ↓nm_eq, ↓jn_eq, ↓wr_nI, ↓rd_nI, n10, n00, q3, q6, hs, ↓hdv, ↓hrm, h0, eq_false (show ¬ nI 6 = nI 0 by decide), eq_false (show ¬ nI 6 = nI 1 by decide), eq_false (show ¬ nI 6 = nI 10 by decide), eq_false (show ¬ nI 6 = nI 11 by decide), eq_false (show ¬ nI 6 = nI 12 by decide), eq_false (show ¬ nI 6 = nI 5 by decide), eq_self]
def SegC (sg va : Nat → Int32) (i j d : Nat) (F : Den) : Prop := i ≤ j ∧ ∀ (sg' va' : Nat → Int32), (∀ q, i ≤ q → q < j → sg' q = sg q ∧ va' q = va q) → ∀ (f3 K : Nat → Int32) (top cnt x2 : Nat) (st : Nat → Int32), (∀ q, q < 10 → f3 q = K q) → j ≤ x2 → x2 ≤ 256 → top + d ≤ 64 → cnt + (j - i) ≤ 256 →
  (∀ v, F K = some v → ∃ st' s, s ≤ j - i ∧ (∀ (k0 : Int32 × (Nat → Int32) → Option (Int32 × (Nat → Int32))) (m : Nat), L_X2_reckon_9 10 sg' va' f3 (nI x2) k0 (m + s) (nI (top), nI (i), nI (cnt), st) = L_X2_reckon_9 10 sg' va' f3 (nI x2) k0 m (nI (top + 1), nI (j), nI (cnt + s), st')) ∧ st' top = v ∧ ∀ q, q < top → st' q = st q) ∧
  (F K = none → ∃ st' s, s ≤ j - i ∧ ∀ (k0 : Int32 × (Nat → Int32) → Option (Int32 × (Nat → Int32))) (m : Nat), L_X2_reckon_9 10 sg' va' f3 (nI x2) k0 (m + s) (nI (top), nI (i), nI (cnt), st) = some (nI 0, st'))
theorem SegC_congr {sg va sg2 va2 : Nat → Int32} {i j d : Nat} {F : Den} (h : SegC sg va i j d F) (hc2 : ∀ q, i ≤ q → q < j → sg2 q = sg q ∧ va2 q = va q) : SegC sg2 va2 i j d F :=
  ⟨h.1, fun sg' va' hc => h.2 sg' va' (fun q h1 h2 => ⟨(hc q h1 h2).1.trans (hc2 q h1 h2).1, (hc q h1 h2).2.trans (hc2 q h1 h2).2⟩)⟩
theorem SegC_mono {sg va : Nat → Int32} {i j d d' : Nat} {F : Den} (h : SegC sg va i j d F) (hd : d ≤ d') : SegC sg va i j d' F :=
  ⟨h.1, fun sg' va' hc f3 K top cnt x2 st h1 h2 h3 h4 h5 => h.2 sg' va' hc f3 K top cnt x2 st h1 h2 h3 (by omega) h5⟩
theorem SegC_num {sg va : Nat → Int32} {i d v : Nat} (hd : 1 ≤ d) (hs : sg i = nI 48) (hv : va i = nI v) : SegC sg va i (i + 1) d (numF v) := by
  refine ⟨by omega, fun sg' va' hc f3 K top cnt x2 st h1 h2 h3 h4 h5 => ⟨fun u hu => ⟨upd st top (nI v), 1, by omega, fun k0 m => ?_, ?_, fun q hq => upd_ne _ _ (by omega)⟩, fun hn => (by cases hn)⟩⟩
  · exact by rw [stC_num k0 h3 (by omega) (by omega) (by omega) ((hc i (by omega) (by omega)).1.trans hs), (hc i (by omega) (by omega)).2, hv]
  · injection hu with hu
    rw [← hu]
    exact upd_at _ _ _
theorem SegC_let {sg va : Nat → Int32} {i d l : Nat} (hd : 1 ≤ d) (hs : sg i = nI 97) (hv : va i = nI l) (hl : l < 10) : SegC sg va i (i + 1) d (letF l) := by
  refine ⟨by omega, fun sg' va' hc f3 K top cnt x2 st h1 h2 h3 h4 h5 => ⟨fun u hu => ⟨upd st top (f3 l), 1, by omega, fun k0 m => ?_, ?_, fun q hq => upd_ne _ _ (by omega)⟩, fun hn => (by cases hn)⟩⟩
  · exact stC_let k0 h3 (by omega) (by omega) (by omega) ((hc i (by omega) (by omega)).1.trans hs) ((hc i (by omega) (by omega)).2.trans hv) hl
  · injection hu with hu
    rw [← hu, upd_at]
    exact h1 l hl
theorem SegC_not {sg va : Nat → Int32} {i j d : Nat} {A : Den} (hd : 1 ≤ d) (h : SegC sg va i j d A) (hs : sg j = nI 33) : SegC sg va i (j + 1) d (notF A) := by
  obtain ⟨hij, h⟩ := h
  refine ⟨by omega, fun sg' va' hc f3 K top cnt x2 st h1 h2 h3 h4 h5 => ?_⟩
  obtain ⟨hA, hN⟩ := h sg' va' (fun q h1 h2 => hc q (by omega) (by omega)) f3 K top cnt x2 st h1 (by omega) h3 h4 (by omega)
  unfold notF
  cases e : A K with
  | none =>
    obtain ⟨st', s, e1, e2⟩ := hN e
    exact ⟨fun v hv => (by cases hv), fun _ => ⟨st', s, by omega, e2⟩⟩
  | some a =>
    obtain ⟨st', s, e1, e2, e3, e4⟩ := hA a e
    refine ⟨fun v hv => ⟨upd st' top (nI 1 - a), 1 + s, by omega, fun k0 m => ?_, ?_, fun q hq => (upd_ne _ _ (by omega)).trans (e4 q hq)⟩, fun hn => (by cases hn)⟩
    · rw [← Nat.add_assoc, e2 k0 (m + 1), stC_not k0 h3 (by omega) (by omega) (by omega) ((hc j (by omega) (by omega)).1.trans hs), e3]
      rw [show cnt + s + 1 = cnt + (1 + s) by omega]
    · injection hv with hv
      rw [← hv]
      exact upd_at _ _ _
theorem SegC_bin {sg va : Nat → Int32} {i j k dA dB d op : Nat} {A B : Den} (hdA : dA ≤ d) (hdB : dB + 1 ≤ d) (hd2 : 2 ≤ d) (hA : SegC sg va i j dA A) (hB : SegC sg va j k dB B) (ho : isOp op) (hs : sg k = nI op) : SegC sg va i (k + 1) d (binF op A B) := by
  obtain ⟨hij, hA⟩ := hA
  obtain ⟨hjk, hB⟩ := hB
  refine ⟨by omega, fun sg' va' hc f3 K top cnt x2 st h1 h2 h3 h4 h5 => ?_⟩
  obtain ⟨hA, hN⟩ := hA sg' va' (fun q h1 h2 => hc q (by omega) (by omega)) f3 K top cnt x2 st h1 (by omega) h3 (by omega) (by omega)
  unfold binF
  cases eA : A K with
  | none =>
    obtain ⟨st', s, e1, e2⟩ := hN eA
    exact ⟨fun v hv => (by cases hv), fun _ => ⟨st', s, by omega, e2⟩⟩
  | some a =>
    obtain ⟨st1, s1, e1, e2, e3, e4⟩ := hA a eA
    obtain ⟨hB, hN2⟩ := hB sg' va' (fun q h1 h2 => hc q (by omega) (by omega)) f3 K (top + 1) (cnt + s1) x2 st1 h1 (by omega) h3 (by omega) (by omega)
    cases eB : B K with
    | none =>
      obtain ⟨st', s, f1, f2⟩ := hN2 eB
      refine ⟨fun v hv => (by cases hv), fun _ => ⟨st', s + s1, by omega, fun k0 m => ?_⟩⟩
      rw [← Nat.add_assoc, e2 k0 (m + s)]
      exact f2 k0 m
    | some b =>
      obtain ⟨st2, s2, f1, f2, f3', f4⟩ := hB b eB
      have g0 : st2 top = a := (f4 top (by omega)).trans e3
      have run : ∀ (k0 : Int32 × (Nat → Int32) → Option (Int32 × (Nat → Int32))) (m : Nat), L_X2_reckon_9 10 sg' va' f3 (nI x2) k0 (m + (s2 + s1)) (nI (top), nI (i), nI (cnt), st) = L_X2_reckon_9 10 sg' va' f3 (nI x2) k0 m (nI (top + 2), nI (k), nI (cnt + s1 + s2), st2) := by
        intro k0 m
        rw [← Nat.add_assoc, e2 k0 (m + s2)]
        exact f2 k0 m
      by_cases hz : (op = 47 ∨ op = 37) ∧ b = nI 0
      · refine ⟨fun v hv => ?_, fun _ => ⟨st2, 1 + (s2 + s1), by omega, fun k0 m => ?_⟩⟩
        · rw [some_bind, some_bind, if_pos hz] at hv
          cases hv
        · rw [← Nat.add_assoc, run k0 (m + 1)]
          exact stC_ref k0 h3 (by omega) (by omega) (by omega) ((hc k (by omega) (by omega)).1.trans hs) hz.1 (f3'.trans hz.2)
      · refine ⟨fun v hv => ⟨upd st2 top (jO op a b), 1 + (s2 + s1), by omega, fun k0 m => ?_, ?_, fun q hq => (upd_ne _ _ (by omega)).trans ((f4 q (by omega)).trans (e4 q hq))⟩, fun hn => ?_⟩
        · rw [← Nat.add_assoc, run k0 (m + 1), stC_bin k0 h3 (by omega) (by omega) (by omega) ((hc k (by omega) (by omega)).1.trans hs) ho (by rw [f3']; exact hz), f3', g0]
          rw [show cnt + s1 + s2 + 1 = cnt + (1 + (s2 + s1)) by omega]
        · rw [some_bind, some_bind, if_neg hz] at hv
          injection hv with hv
          rw [← hv]
          exact upd_at _ _ _
        · rw [some_bind, some_bind, if_neg hz] at hn
          cases hn
theorem SegC_and {sg va : Nat → Int32} {i j k d : Nat} {A B : Den} (hd : 1 ≤ d) (hA : SegC sg va i j d A) (hB : SegC sg va (j + 1) k d B) (hs : sg j = nI 38) (hva : va j = nI k) : SegC sg va i k d (andF A B) := by
  obtain ⟨hij, hA⟩ := hA
  obtain ⟨hjk, hB⟩ := hB
  refine ⟨by omega, fun sg' va' hc f3 K top cnt x2 st h1 h2 h3 h4 h5 => ?_⟩
  obtain ⟨hA, hN⟩ := hA sg' va' (fun q h1 h2 => hc q (by omega) (by omega)) f3 K top cnt x2 st h1 (by omega) h3 (by omega) (by omega)
  unfold andF
  cases eA : A K with
  | none =>
    obtain ⟨st', s, e1, e2⟩ := hN eA
    exact ⟨fun v hv => (by cases hv), fun _ => ⟨st', s, by omega, e2⟩⟩
  | some a =>
    obtain ⟨st1, s1, e1, e2, e3, e4⟩ := hA a eA
    obtain ⟨hB, hN2⟩ := hB sg' va' (fun q h1 h2 => hc q (by omega) (by omega)) f3 K top (cnt + s1 + 1) x2 st1 h1 (by omega) h3 (by omega) (by omega)
    by_cases e0 : a = nI 0
    · subst e0
      refine ⟨fun v hv => ⟨st1, 1 + s1, by omega, fun k0 m => ?_, ?_, e4⟩, fun hn => ?_⟩
      · rw [← Nat.add_assoc, e2 k0 (m + 1), stC_andY (v := k) k0 h3 (by omega) (by omega) (by omega) ((hc j (by omega) (by omega)).1.trans hs) ((hc j (by omega) (by omega)).2.trans hva) e3]
        rw [show cnt + s1 + 1 = cnt + (1 + s1) by omega]
      · rw [some_bind, if_pos rfl] at hv
        injection hv with hv
        rw [← hv]
        exact e3
      · rw [some_bind, if_pos rfl] at hn
        cases hn
    · skip
      have run : ∀ (k0 : Int32 × (Nat → Int32) → Option (Int32 × (Nat → Int32))) (m : Nat), L_X2_reckon_9 10 sg' va' f3 (nI x2) k0 (m + (1 + s1)) (nI (top), nI (i), nI (cnt), st) = L_X2_reckon_9 10 sg' va' f3 (nI x2) k0 m (nI (top), nI (j + 1), nI (cnt + s1 + 1), st1) := by
        intro k0 m
        rw [← Nat.add_assoc, e2 k0 (m + 1), stC_andN (v := k) k0 h3 (by omega) (by omega) (by omega) ((hc j (by omega) (by omega)).1.trans hs) ((hc j (by omega) (by omega)).2.trans hva) (by rw [e3]; exact e0)]
      rw [some_bind, if_neg e0]
      refine ⟨fun v hv => ?_, fun hn => ?_⟩
      · obtain ⟨st2, s2, f1, f2, f3', f4⟩ := hB v hv
        refine ⟨st2, s2 + (1 + s1), by omega, fun k0 m => ?_, f3', fun q hq => (f4 q hq).trans (e4 q hq)⟩
        rw [← Nat.add_assoc, run k0 (m + s2), f2 k0 m]
        rw [show cnt + s1 + 1 + s2 = cnt + (s2 + (1 + s1)) by omega]
      · obtain ⟨st2, s2, f1, f2⟩ := hN2 hn
        refine ⟨st2, s2 + (1 + s1), by omega, fun k0 m => ?_⟩
        rw [← Nat.add_assoc, run k0 (m + s2)]
        exact f2 k0 m
theorem SegC_or {sg va : Nat → Int32} {i j k d : Nat} {A B : Den} (hd : 1 ≤ d) (hA : SegC sg va i j d A) (hB : SegC sg va (j + 1) k d B) (hs : sg j = nI 124) (hva : va j = nI k) : SegC sg va i k d (orF A B) := by
  obtain ⟨hij, hA⟩ := hA
  obtain ⟨hjk, hB⟩ := hB
  refine ⟨by omega, fun sg' va' hc f3 K top cnt x2 st h1 h2 h3 h4 h5 => ?_⟩
  obtain ⟨hA, hN⟩ := hA sg' va' (fun q h1 h2 => hc q (by omega) (by omega)) f3 K top cnt x2 st h1 (by omega) h3 (by omega) (by omega)
  unfold orF
  cases eA : A K with
  | none =>
    obtain ⟨st', s, e1, e2⟩ := hN eA
    exact ⟨fun v hv => (by cases hv), fun _ => ⟨st', s, by omega, e2⟩⟩
  | some a =>
    obtain ⟨st1, s1, e1, e2, e3, e4⟩ := hA a eA
    obtain ⟨hB, hN2⟩ := hB sg' va' (fun q h1 h2 => hc q (by omega) (by omega)) f3 K top (cnt + s1 + 1) x2 st1 h1 (by omega) h3 (by omega) (by omega)
    by_cases e0 : a = nI 0
    · subst e0
      have run : ∀ (k0 : Int32 × (Nat → Int32) → Option (Int32 × (Nat → Int32))) (m : Nat), L_X2_reckon_9 10 sg' va' f3 (nI x2) k0 (m + (1 + s1)) (nI (top), nI (i), nI (cnt), st) = L_X2_reckon_9 10 sg' va' f3 (nI x2) k0 m (nI (top), nI (j + 1), nI (cnt + s1 + 1), st1) := by
        intro k0 m
        rw [← Nat.add_assoc, e2 k0 (m + 1), stC_orN (v := k) k0 h3 (by omega) (by omega) (by omega) ((hc j (by omega) (by omega)).1.trans hs) ((hc j (by omega) (by omega)).2.trans hva) e3]
      rw [some_bind, if_pos rfl]
      refine ⟨fun v hv => ?_, fun hn => ?_⟩
      · obtain ⟨st2, s2, f1, f2, f3', f4⟩ := hB v hv
        refine ⟨st2, s2 + (1 + s1), by omega, fun k0 m => ?_, f3', fun q hq => (f4 q hq).trans (e4 q hq)⟩
        rw [← Nat.add_assoc, run k0 (m + s2), f2 k0 m]
        rw [show cnt + s1 + 1 + s2 = cnt + (s2 + (1 + s1)) by omega]
      · obtain ⟨st2, s2, f1, f2⟩ := hN2 hn
        refine ⟨st2, s2 + (1 + s1), by omega, fun k0 m => ?_⟩
        rw [← Nat.add_assoc, run k0 (m + s2)]
        exact f2 k0 m
    · skip
      refine ⟨fun v hv => ⟨st1, 1 + s1, by omega, fun k0 m => ?_, ?_, e4⟩, fun hn => ?_⟩
      · rw [← Nat.add_assoc, e2 k0 (m + 1), stC_orY (v := k) k0 h3 (by omega) (by omega) (by omega) ((hc j (by omega) (by omega)).1.trans hs) ((hc j (by omega) (by omega)).2.trans hva) (by rw [e3]; exact e0)]
        rw [show cnt + s1 + 1 = cnt + (1 + s1) by omega]
      · rw [some_bind, if_neg e0] at hv
        injection hv with hv
        rw [← hv]
        exact e3
      · rw [some_bind, if_neg e0] at hn
        cases hn
def SegM (co : Nat → Int32) (i j d : Nat) (F : Den) : Prop := i ≤ j ∧ ∀ (co' : Nat → Int32), (∀ q, i ≤ q → q < j → co' q = co q) → ∀ (f3 K : Nat → Int32) (top cnt x2 : Nat) (st : Nat → Int32), (∀ q, q < 10 → f3 q = K q) → j ≤ x2 → x2 ≤ 256 → top + d ≤ 64 → cnt + (j - i) ≤ 256 →
  (∀ v, F K = some v → ∃ st' s, s ≤ j - i ∧ (∀ (k0 : (Nat → Int32) → Option (Int32 × (Nat → Int32))) (m : Nat), L_X12_reckonsTo_16 co' f3 (nI x2) (nI 0) k0 (m + s) (nI (top), nI (i), st) = L_X12_reckonsTo_16 co' f3 (nI x2) (nI 0) k0 m (nI (top + 1), nI (j), st')) ∧ st' top = v ∧ ∀ q, q < top → st' q = st q) ∧
  (F K = none → ∃ st' s, s ≤ j - i ∧ ∀ (k0 : (Nat → Int32) → Option (Int32 × (Nat → Int32))) (m : Nat), L_X12_reckonsTo_16 co' f3 (nI x2) (nI 0) k0 (m + s) (nI (top), nI (i), st) = some (nI 0, st'))
theorem SegM_congr {co co2 : Nat → Int32} {i j d : Nat} {F : Den} (h : SegM co i j d F) (hc2 : ∀ q, i ≤ q → q < j → co2 q = co q) : SegM co2 i j d F :=
  ⟨h.1, fun co' hc => h.2 co' (fun q h1 h2 => (hc q h1 h2).trans (hc2 q h1 h2))⟩
theorem SegM_mono {co : Nat → Int32} {i j d d' : Nat} {F : Den} (h : SegM co i j d F) (hd : d ≤ d') : SegM co i j d' F :=
  ⟨h.1, fun co' hc f3 K top cnt x2 st h1 h2 h3 h4 h5 => h.2 co' hc f3 K top cnt x2 st h1 h2 h3 (by omega) h5⟩
theorem SegM_num {co : Nat → Int32} {i d v : Nat} (hd : 1 ≤ d) (hv : v < 1048576) (hs : co i = nI (1048576 * 0 + v)) : SegM co i (i + 1) d (numF v) := by
  refine ⟨by omega, fun co' hc f3 K top cnt x2 st h1 h2 h3 h4 h5 => ⟨fun u hu => ⟨upd st top (nI v), 1, by omega, fun k0 m => ?_, ?_, fun q hq => upd_ne _ _ (by omega)⟩, fun hn => (by cases hn)⟩⟩
  · exact stM_num k0 h3 (by omega) (by omega) (by omega) ((hc i (by omega) (by omega)).trans hs) (by omega) (by omega)
  · injection hu with hu
    rw [← hu]
    exact upd_at _ _ _
theorem SegM_let {co : Nat → Int32} {i d l : Nat} (hd : 1 ≤ d) (hl : l < 10) (hs : co i = nI (1048576 * 1 + l)) : SegM co i (i + 1) d (letF l) := by
  refine ⟨by omega, fun co' hc f3 K top cnt x2 st h1 h2 h3 h4 h5 => ⟨fun u hu => ⟨upd st top (f3 l), 1, by omega, fun k0 m => ?_, ?_, fun q hq => upd_ne _ _ (by omega)⟩, fun hn => (by cases hn)⟩⟩
  · exact stM_let k0 h3 (by omega) (by omega) (by omega) hl ((hc i (by omega) (by omega)).trans hs) (by omega) (by omega)
  · injection hu with hu
    rw [← hu, upd_at]
    exact h1 l hl
theorem SegM_not {co : Nat → Int32} {i j d : Nat} {A : Den} (hd : 1 ≤ d) (h : SegM co i j d A) (hs : co j = nI (1048576 * 10 + 0)) : SegM co i (j + 1) d (notF A) := by
  obtain ⟨hij, h⟩ := h
  refine ⟨by omega, fun co' hc f3 K top cnt x2 st h1 h2 h3 h4 h5 => ?_⟩
  obtain ⟨hA, hN⟩ := h co' (fun q h1 h2 => hc q (by omega) (by omega)) f3 K top cnt x2 st h1 (by omega) h3 h4 (by omega)
  unfold notF
  cases e : A K with
  | none =>
    obtain ⟨st', s, e1, e2⟩ := hN e
    exact ⟨fun v hv => (by cases hv), fun _ => ⟨st', s, by omega, e2⟩⟩
  | some a =>
    obtain ⟨st', s, e1, e2, e3, e4⟩ := hA a e
    refine ⟨fun v hv => ⟨upd st' top (nI 1 - a), 1 + s, by omega, fun k0 m => ?_, ?_, fun q hq => (upd_ne _ _ (by omega)).trans (e4 q hq)⟩, fun hn => (by cases hn)⟩
    · rw [← Nat.add_assoc, e2 k0 (m + 1), stM_not k0 h3 (by omega) (by omega) (by omega) ((hc j (by omega) (by omega)).trans hs) (by omega), e3]
      skip
    · injection hv with hv
      rw [← hv]
      exact upd_at _ _ _
theorem SegM_bin {co : Nat → Int32} {i j k dA dB d op : Nat} {A B : Den} (hdA : dA ≤ d) (hdB : dB + 1 ≤ d) (hd2 : 2 ≤ d) (hA : SegM co i j dA A) (hB : SegM co j k dB B) (ho : isOp op) (hs : co k = nI (1048576 * mop op + 0)) : SegM co i (k + 1) d (binF op A B) := by
  obtain ⟨hij, hA⟩ := hA
  obtain ⟨hjk, hB⟩ := hB
  refine ⟨by omega, fun co' hc f3 K top cnt x2 st h1 h2 h3 h4 h5 => ?_⟩
  obtain ⟨hA, hN⟩ := hA co' (fun q h1 h2 => hc q (by omega) (by omega)) f3 K top cnt x2 st h1 (by omega) h3 (by omega) (by omega)
  unfold binF
  cases eA : A K with
  | none =>
    obtain ⟨st', s, e1, e2⟩ := hN eA
    exact ⟨fun v hv => (by cases hv), fun _ => ⟨st', s, by omega, e2⟩⟩
  | some a =>
    obtain ⟨st1, s1, e1, e2, e3, e4⟩ := hA a eA
    obtain ⟨hB, hN2⟩ := hB co' (fun q h1 h2 => hc q (by omega) (by omega)) f3 K (top + 1) (cnt + s1) x2 st1 h1 (by omega) h3 (by omega) (by omega)
    cases eB : B K with
    | none =>
      obtain ⟨st', s, f1, f2⟩ := hN2 eB
      refine ⟨fun v hv => (by cases hv), fun _ => ⟨st', s + s1, by omega, fun k0 m => ?_⟩⟩
      rw [← Nat.add_assoc, e2 k0 (m + s)]
      exact f2 k0 m
    | some b =>
      obtain ⟨st2, s2, f1, f2, f3', f4⟩ := hB b eB
      have g0 : st2 top = a := (f4 top (by omega)).trans e3
      have run : ∀ (k0 : (Nat → Int32) → Option (Int32 × (Nat → Int32))) (m : Nat), L_X12_reckonsTo_16 co' f3 (nI x2) (nI 0) k0 (m + (s2 + s1)) (nI (top), nI (i), st) = L_X12_reckonsTo_16 co' f3 (nI x2) (nI 0) k0 m (nI (top + 2), nI (k), st2) := by
        intro k0 m
        rw [← Nat.add_assoc, e2 k0 (m + s2)]
        exact f2 k0 m
      by_cases hz : (op = 47 ∨ op = 37) ∧ b = nI 0
      · refine ⟨fun v hv => ?_, fun _ => ⟨st2, 1 + (s2 + s1), by omega, fun k0 m => ?_⟩⟩
        · rw [some_bind, some_bind, if_pos hz] at hv
          cases hv
        · rw [← Nat.add_assoc, run k0 (m + 1)]
          exact stM_ref k0 h3 (by omega) (by have := mop_le ho; omega) (by omega) ((hc k (by omega) (by omega)).trans hs) (by have := mop_le ho; omega) hz.1 (f3'.trans hz.2)
      · refine ⟨fun v hv => ⟨upd st2 top (jO op a b), 1 + (s2 + s1), by omega, fun k0 m => ?_, ?_, fun q hq => (upd_ne _ _ (by omega)).trans ((f4 q (by omega)).trans (e4 q hq))⟩, fun hn => ?_⟩
        · rw [← Nat.add_assoc, run k0 (m + 1), stM_bin k0 h3 (by omega) (by have := mop_le ho; omega) (by omega) ((hc k (by omega) (by omega)).trans hs) (by have := mop_le ho; omega) ho (by rw [f3']; exact hz), f3', g0]
          skip
        · rw [some_bind, some_bind, if_neg hz] at hv
          injection hv with hv
          rw [← hv]
          exact upd_at _ _ _
        · rw [some_bind, some_bind, if_neg hz] at hn
          cases hn
theorem SegM_and {co : Nat → Int32} {i j k d : Nat} {A B : Den} (hd : 1 ≤ d) (hA : SegM co i j d A) (hB : SegM co (j + 1) k d B) (hs : co j = nI (1048576 * 11 + k)) : SegM co i k d (andF A B) := by
  obtain ⟨hij, hA⟩ := hA
  obtain ⟨hjk, hB⟩ := hB
  refine ⟨by omega, fun co' hc f3 K top cnt x2 st h1 h2 h3 h4 h5 => ?_⟩
  obtain ⟨hA, hN⟩ := hA co' (fun q h1 h2 => hc q (by omega) (by omega)) f3 K top cnt x2 st h1 (by omega) h3 (by omega) (by omega)
  unfold andF
  cases eA : A K with
  | none =>
    obtain ⟨st', s, e1, e2⟩ := hN eA
    exact ⟨fun v hv => (by cases hv), fun _ => ⟨st', s, by omega, e2⟩⟩
  | some a =>
    obtain ⟨st1, s1, e1, e2, e3, e4⟩ := hA a eA
    obtain ⟨hB, hN2⟩ := hB co' (fun q h1 h2 => hc q (by omega) (by omega)) f3 K top (cnt + s1 + 1) x2 st1 h1 (by omega) h3 (by omega) (by omega)
    by_cases e0 : a = nI 0
    · subst e0
      refine ⟨fun v hv => ⟨st1, 1 + s1, by omega, fun k0 m => ?_, ?_, e4⟩, fun hn => ?_⟩
      · rw [← Nat.add_assoc, e2 k0 (m + 1), stM_andY (v := k) k0 h3 (by omega) (by omega) (by omega) ((hc j (by omega) (by omega)).trans hs) (by omega) (by omega) e3]
        skip
      · rw [some_bind, if_pos rfl] at hv
        injection hv with hv
        rw [← hv]
        exact e3
      · rw [some_bind, if_pos rfl] at hn
        cases hn
    · skip
      have run : ∀ (k0 : (Nat → Int32) → Option (Int32 × (Nat → Int32))) (m : Nat), L_X12_reckonsTo_16 co' f3 (nI x2) (nI 0) k0 (m + (1 + s1)) (nI (top), nI (i), st) = L_X12_reckonsTo_16 co' f3 (nI x2) (nI 0) k0 m (nI (top), nI (j + 1), st1) := by
        intro k0 m
        rw [← Nat.add_assoc, e2 k0 (m + 1), stM_andN (v := k) k0 h3 (by omega) (by omega) (by omega) ((hc j (by omega) (by omega)).trans hs) (by omega) (by omega) (by rw [e3]; exact e0)]
      rw [some_bind, if_neg e0]
      refine ⟨fun v hv => ?_, fun hn => ?_⟩
      · obtain ⟨st2, s2, f1, f2, f3', f4⟩ := hB v hv
        refine ⟨st2, s2 + (1 + s1), by omega, fun k0 m => ?_, f3', fun q hq => (f4 q hq).trans (e4 q hq)⟩
        rw [← Nat.add_assoc, run k0 (m + s2), f2 k0 m]
        skip
      · obtain ⟨st2, s2, f1, f2⟩ := hN2 hn
        refine ⟨st2, s2 + (1 + s1), by omega, fun k0 m => ?_⟩
        rw [← Nat.add_assoc, run k0 (m + s2)]
        exact f2 k0 m
theorem SegM_or {co : Nat → Int32} {i j k d : Nat} {A B : Den} (hd : 1 ≤ d) (hA : SegM co i j d A) (hB : SegM co (j + 1) k d B) (hs : co j = nI (1048576 * 12 + k)) (h01 : B01 A) : SegM co i k d (orF A B) := by
  obtain ⟨hij, hA⟩ := hA
  obtain ⟨hjk, hB⟩ := hB
  refine ⟨by omega, fun co' hc f3 K top cnt x2 st h1 h2 h3 h4 h5 => ?_⟩
  obtain ⟨hA, hN⟩ := hA co' (fun q h1 h2 => hc q (by omega) (by omega)) f3 K top cnt x2 st h1 (by omega) h3 (by omega) (by omega)
  unfold orF
  cases eA : A K with
  | none =>
    obtain ⟨st', s, e1, e2⟩ := hN eA
    exact ⟨fun v hv => (by cases hv), fun _ => ⟨st', s, by omega, e2⟩⟩
  | some a =>
    obtain ⟨st1, s1, e1, e2, e3, e4⟩ := hA a eA
    obtain ⟨hB, hN2⟩ := hB co' (fun q h1 h2 => hc q (by omega) (by omega)) f3 K top (cnt + s1 + 1) x2 st1 h1 (by omega) h3 (by omega) (by omega)
    by_cases e0 : a = nI 0
    · subst e0
      have run : ∀ (k0 : (Nat → Int32) → Option (Int32 × (Nat → Int32))) (m : Nat), L_X12_reckonsTo_16 co' f3 (nI x2) (nI 0) k0 (m + (1 + s1)) (nI (top), nI (i), st) = L_X12_reckonsTo_16 co' f3 (nI x2) (nI 0) k0 m (nI (top), nI (j + 1), st1) := by
        intro k0 m
        rw [← Nat.add_assoc, e2 k0 (m + 1), stM_orN (v := k) k0 h3 (by omega) (by omega) (by omega) ((hc j (by omega) (by omega)).trans hs) (by omega) (by omega) (by rw [e3]; decide)]
      rw [some_bind, if_pos rfl]
      refine ⟨fun v hv => ?_, fun hn => ?_⟩
      · obtain ⟨st2, s2, f1, f2, f3', f4⟩ := hB v hv
        refine ⟨st2, s2 + (1 + s1), by omega, fun k0 m => ?_, f3', fun q hq => (f4 q hq).trans (e4 q hq)⟩
        rw [← Nat.add_assoc, run k0 (m + s2), f2 k0 m]
        skip
      · obtain ⟨st2, s2, f1, f2⟩ := hN2 hn
        refine ⟨st2, s2 + (1 + s1), by omega, fun k0 m => ?_⟩
        rw [← Nat.add_assoc, run k0 (m + s2)]
        exact f2 k0 m
    · have e5 : a = nI 1 := (h01 K a eA).resolve_left e0
      refine ⟨fun v hv => ⟨st1, 1 + s1, by omega, fun k0 m => ?_, ?_, e4⟩, fun hn => ?_⟩
      · rw [← Nat.add_assoc, e2 k0 (m + 1), stM_orY (v := k) k0 h3 (by omega) (by omega) (by omega) ((hc j (by omega) (by omega)).trans hs) (by omega) (by omega) (e3.trans e5)]
        skip
      · rw [some_bind, if_neg e0] at hv
        injection hv with hv
        rw [← hv]
        exact e3
      · rw [some_bind, if_neg e0] at hn
        cases hn
theorem reckon_C {sg va f3 K st : Nat → Int32} {i j d : Nat} {F : Den} (h : SegC sg va i j d F) (hK : ∀ q, q < 10 → f3 q = K q) (hj : j ≤ 250) (hd : d ≤ 64) : ∃ st', f_X2_reckon 10 sg va st f3 (nI i) (nI j) = some ((F K).getD (nI 0), st') := by
  obtain ⟨hij, h⟩ := h
  obtain ⟨hA, hN⟩ := h sg va (fun _ _ _ => ⟨rfl, rfl⟩) f3 K 0 0 j st hK (Nat.le_refl _) (by omega) (by omega) (by omega)
  unfold f_X2_reckon
  simp only [ltz]
  cases e : F K with
  | none =>
    obtain ⟨st', s, e1, e2⟩ := hN e
    have hf : fu = (fu - s) + s := (Nat.sub_add_cancel (Nat.le_of_lt (fu_gt (by omega)))).symm
    rw [hf, e2]
    exact ⟨st', rfl⟩
  | some v =>
    obtain ⟨st', s, e1, e2, e3, e4⟩ := hA v e
    have hf : fu = (fu - s - 1 + 1) + s := by have := @fu_gt (s + 1) (by omega); omega
    have q1 : (nI 256 ≤ nI (0 + s)) = False := by rw [le_nI (by omega) (by omega)]; exact eq_false (by omega)
    have q2 : (nI j < nI 0) = False := by rw [lt_nI (by omega) (by omega)]; exact eq_false (by omega)
    have q3 : (nI j ≤ nI j) = True := by rw [le_nI (by omega) (by omega)]; exact eq_true (by omega)
    have q4 : (nI (0 + 1) ≤ nI 0) = False := by rw [le_nI (by omega) (by omega)]; exact eq_false (by omega)
    have q5 : nI (0 + 1) - nI 1 = nI 0 := sub_nI (by omega)
    rw [hf, e2, st_X2_reckon_9]
    simp (disch := omega) only [ltz, q1, q2, q3, q4, q5, ↓reduceIte, rd_nI, e3]
    exact ⟨st', rfl⟩
theorem reckon_MM {co f3 K st : Nat → Int32} {i j d : Nat} {F : Den} (h : SegM co i j d F) (hK : ∀ q, q < 10 → f3 q = K q) (hj : j ≤ 250) (hd : d ≤ 64) : ∃ st', f_X12_reckonsTo co st f3 (nI i) (nI j) = some ((F K).getD (nI 0), st') := by
  obtain ⟨hij, h⟩ := h
  obtain ⟨hA, hN⟩ := h co (fun _ _ _ => rfl) f3 K 0 0 j st hK (Nat.le_refl _) (by omega) (by omega) (by omega)
  unfold f_X12_reckonsTo
  simp only [ltz]
  have d0 : i / 260 = 0 := by omega
  have m0 : nI 260 * nI 0 = nI 0 := by decide
  simp (disch := omega) only [dv_nI, d0, nm_eq, m0]
  cases e : F K with
  | none =>
    obtain ⟨st', s, e1, e2⟩ := hN e
    have hf : fu = (fu - s) + s := (Nat.sub_add_cancel (Nat.le_of_lt (fu_gt (by omega)))).symm
    rw [hf, e2]
    exact ⟨st', rfl⟩
  | some v =>
    obtain ⟨st', s, e1, e2, e3, e4⟩ := hA v e
    have hf : fu = (fu - s - 1 + 1) + s := by have := @fu_gt (s + 1) (by omega); omega
    have q3 : (nI j ≤ nI j) = True := by rw [le_nI (by omega) (by omega)]; exact eq_true (by omega)
    rw [hf, e2, st_X12_reckonsTo_16]
    simp (disch := omega) only [q3, ↓reduceIte, rd_nI, e3]
    exact ⟨st', rfl⟩
