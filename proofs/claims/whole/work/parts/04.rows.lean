section GR
variable {X : GC} {E : GE} {cc : ByteArray} {own : String} {rk mx kc ks : Nat} {ws : va_W} {pc : Nat} {lv : List (Nat × Value)} {st : List Value} {α : Type} {r : α}
def nm {α β : Type} (x : α) (f : α → β) : β := f x
def rd {β : Type} (f : Nat → Int32) (n : Nat) (i : Int32) (k : Int32 → Option β) : Option β := if 0 ≤ i.toInt ∧ i.toInt < n then k (f i.toNatClampNeg) else none
def wr {β : Type} (f : Nat → Int32) (n : Nat) (i x : Int32) (k : (Nat → Int32) → Option β) : Option β := if 0 ≤ i.toInt ∧ i.toInt < n then k (upd f i.toNatClampNeg x) else none
def dv {β : Type} (a b : Int32) (k : Int32 → Option β) : Option β := if b = 0 then none else k (a / b)
def rm {β : Type} (a b : Int32) (k : Int32 → Option β) : Option β := if b = 0 then none else k (a - a / b * b)
def gb {β : Type} (v : Int32) (k : Option β) : Option β := if v = 0 ∨ v = 1 then k else none
theorem gb_is {β : Type} {v : Int32} {k : Option β} {r : β} (h : gb v k = some r) : narrow .boolean (.int v) = .int v ∧ k = some r := by
  unfold gb at h
  split at h
  · rename_i hv
    refine ⟨?_, h⟩
    rcases hv with rfl | rfl <;> decide
  · cases h
theorem ite_some {α : Type} {c : Prop} [Decidable c] {P : Option α} {r : α} (h : (if c then P else none) = some r) : c ∧ P = some r := by
  split at h
  · exact ⟨‹_›, h⟩
  · cases h
theorem ite_someN {α : Type} {c : Prop} [Decidable c] {P : Option α} {r : α} (h : (if c then none else P) = some r) : ¬ c ∧ P = some r := by
  split at h
  · cases h
  · exact ⟨‹_›, h⟩
theorem rd_is {β : Type} {f : Nat → Int32} {n : Nat} {i : Int32} {k : Int32 → Option β} {r : β} (h : rd f n i k = some r) : vp_in i n ∧ k (f i.toNatClampNeg) = some r := ⟨vp_in_iff.mpr (ite_some h).1, (ite_some h).2⟩
theorem wr_is {β : Type} {f : Nat → Int32} {n : Nat} {i x : Int32} {k : (Nat → Int32) → Option β} {r : β} (h : wr f n i x k = some r) : vp_in i n ∧ k (upd f i.toNatClampNeg x) = some r := ⟨vp_in_iff.mpr (ite_some h).1, (ite_some h).2⟩
theorem g_nm {x : Int32} {F : Int32 → Option α} (h : nm x F = some r) (k : ∀ v, F v = some r → Gx X E kc ks ws pc lv (.int v :: st)) : Gx X E kc ks ws pc lv (.int x :: st) := k x h
theorem g_jn {S : Type} {J : S → Option α} {M : (S → Option α) → Option α} (P : S → Prop) (h : jn J M = some r) (hJ : ∀ s, J s = some r → P s) (k : ∀ j : S → Option α, (∀ s, j s = some r → P s) → M j = some r → Gx X E kc ks ws pc lv st) : Gx X E kc ks ws pc lv st := k J hJ h
theorem g_sub {lv' : List (Nat × Value)} (is : List Nat) (hl : lv_pick lv is = lv') (k : Gx X E kc ks ws pc lv' st) : Gx X E kc ks ws pc lv st := by
  obtain ⟨p, l, e, R, s, m, args, below, meth, c, A, nL, Q⟩ := X
  intro H locs ls hP hD hS h
  exact k H locs ls hP hD hS (lv_sub h is hl)
theorem g_iconst (C : Cx X E cc own rk mx) {n : Int} {v : Int32} (hd : decode cc pc = .ok (.iconst n, 1)) (hv : Int32.ofInt n = v) (k : Gx X E kc ks ws (pc + 1) lv (.int v :: st)) : Gx X E kc ks ws pc lv (st) := by
  obtain ⟨p, l, e, R, s, m, args, below, meth, c, A, nL, Q⟩ := X
  obtain ⟨hx, hb, hml, hown, hts, hK, hA, hAB, hSF, hR, hB0, hlk, hmx⟩ := C
  intro H locs ls hP hD hS hl
  exact lv_iconst hx hb hd hv (k H locs ls hP hD hS hl)
theorem g_bipush (C : Cx X E cc own rk mx) {n : Int} {v : Int32} (hd : decode cc pc = .ok (.bipush n, 2)) (hv : (Int8.ofInt n).toInt32 = v) (k : Gx X E kc ks ws (pc + 2) lv (.int v :: st)) : Gx X E kc ks ws pc lv (st) := by
  obtain ⟨p, l, e, R, s, m, args, below, meth, c, A, nL, Q⟩ := X
  obtain ⟨hx, hb, hml, hown, hts, hK, hA, hAB, hSF, hR, hB0, hlk, hmx⟩ := C
  intro H locs ls hP hD hS hl
  exact lv_bipush hx hb hd hv (k H locs ls hP hD hS hl)
theorem g_sipush (C : Cx X E cc own rk mx) {n : Int} {v : Int32} (hd : decode cc pc = .ok (.sipush n, 3)) (hv : (Int16.ofInt n).toInt32 = v) (k : Gx X E kc ks ws (pc + 3) lv (.int v :: st)) : Gx X E kc ks ws pc lv (st) := by
  obtain ⟨p, l, e, R, s, m, args, below, meth, c, A, nL, Q⟩ := X
  obtain ⟨hx, hb, hml, hown, hts, hK, hA, hAB, hSF, hR, hB0, hlk, hmx⟩ := C
  intro H locs ls hP hD hS hl
  exact lv_sipush hx hb hd hv (k H locs ls hP hD hS hl)
theorem g_ldc (C : Cx X E cc own rk mx) {i : Nat} {v : Int32} (hd : decode cc pc = .ok (.ldc i, 2)) (hw : Cond.constant own i v ∈ lw_g) (k : Gx X E kc ks ws (pc + 2) lv (.int v :: st)) : Gx X E kc ks ws pc lv (st) := by
  obtain ⟨p, l, e, R, s, m, args, below, meth, c, A, nL, Q⟩ := X
  obtain ⟨hx, hb, hml, hown, hts, hK, hA, hAB, hSF, hR, hB0, hlk, hmx⟩ := C
  intro H locs ls hP hD hS hl
  exact lv_ldc hx hb hown (hts _ hw) hd (k H locs ls hP hD hS hl)
theorem g_ldcw (C : Cx X E cc own rk mx) {i : Nat} {v : Int32} (hd : decode cc pc = .ok (.ldc_w i, 3)) (hw : Cond.constant own i v ∈ lw_g) (k : Gx X E kc ks ws (pc + 3) lv (.int v :: st)) : Gx X E kc ks ws pc lv (st) := by
  obtain ⟨p, l, e, R, s, m, args, below, meth, c, A, nL, Q⟩ := X
  obtain ⟨hx, hb, hml, hown, hts, hK, hA, hAB, hSF, hR, hB0, hlk, hmx⟩ := C
  intro H locs ls hP hD hS hl
  exact lv_ldcw hx hb hown (hts _ hw) hd (k H locs ls hP hD hS hl)
theorem g_iload_n (C : Cx X E cc own rk mx) {n : Fin 4} {i : Nat} {x : Int32} (hd : decode cc pc = .ok (.iload_n n, 1)) (hi : (n : Nat) = i) (j : Nat) (hj : lv[j]? = some (i, .int x)) (k : Gx X E kc ks ws (pc + 1) lv (.int x :: st)) : Gx X E kc ks ws pc lv (st) := by
  obtain ⟨p, l, e, R, s, m, args, below, meth, c, A, nL, Q⟩ := X
  obtain ⟨hx, hb, hml, hown, hts, hK, hA, hAB, hSF, hR, hB0, hlk, hmx⟩ := C
  intro H locs ls hP hD hS hl
  exact lv_iload_n hx hb hd hi (lv_at hl j hj) (k H locs ls hP hD hS hl)
theorem g_iload (C : Cx X E cc own rk mx) {i : Nat} {x : Int32} (hd : decode cc pc = .ok (.iload i, 2)) (j : Nat) (hj : lv[j]? = some (i, .int x)) (k : Gx X E kc ks ws (pc + 2) lv (.int x :: st)) : Gx X E kc ks ws pc lv (st) := by
  obtain ⟨p, l, e, R, s, m, args, below, meth, c, A, nL, Q⟩ := X
  obtain ⟨hx, hb, hml, hown, hts, hK, hA, hAB, hSF, hR, hB0, hlk, hmx⟩ := C
  intro H locs ls hP hD hS hl
  exact lv_iload hx hb hd (lv_at hl j hj) (k H locs ls hP hD hS hl)
theorem g_aload_n (C : Cx X E cc own rk mx) {n : Fin 4} {i : Nat} {x : Nat} (hd : decode cc pc = .ok (.aload_n n, 1)) (hi : (n : Nat) = i) (j : Nat) (hj : lv[j]? = some (i, .ref x)) (k : Gx X E kc ks ws (pc + 1) lv (.ref x :: st)) : Gx X E kc ks ws pc lv (st) := by
  obtain ⟨p, l, e, R, s, m, args, below, meth, c, A, nL, Q⟩ := X
  obtain ⟨hx, hb, hml, hown, hts, hK, hA, hAB, hSF, hR, hB0, hlk, hmx⟩ := C
  intro H locs ls hP hD hS hl
  exact lv_aload_n hx hb hd hi (lv_at hl j hj) (k H locs ls hP hD hS hl)
theorem g_aload (C : Cx X E cc own rk mx) {i : Nat} {x : Nat} (hd : decode cc pc = .ok (.aload i, 2)) (j : Nat) (hj : lv[j]? = some (i, .ref x)) (k : Gx X E kc ks ws (pc + 2) lv (.ref x :: st)) : Gx X E kc ks ws pc lv (st) := by
  obtain ⟨p, l, e, R, s, m, args, below, meth, c, A, nL, Q⟩ := X
  obtain ⟨hx, hb, hml, hown, hts, hK, hA, hAB, hSF, hR, hB0, hlk, hmx⟩ := C
  intro H locs ls hP hD hS hl
  exact lv_aload hx hb hd (lv_at hl j hj) (k H locs ls hP hD hS hl)
theorem g_istore_n (C : Cx X E cc own rk mx) {n : Fin 4} {i : Nat} {x : Int32} {lv' : List (Nat × Value)} (hd : decode cc pc = .ok (.istore_n n, 1)) (hi : (n : Nat) = i) (hn : i < mx) (hl' : (i, Value.int x) :: lv.filter (fun q => !(q.1 == i) && !(q.1 + 1 == i && q.2.category == 2)) = lv') (k : Gx X E kc ks ws (pc + 1) lv' st) : Gx X E kc ks ws pc lv (Value.int x :: st) := by
  obtain ⟨p, l, e, R, s, m, args, below, meth, c, A, nL, Q⟩ := X
  obtain ⟨hx, hb, hml, hown, hts, hK, hA, hAB, hSF, hR, hB0, hlk, hmx⟩ := C
  intro H locs ls hP hD hS hl
  exact lv_istore_n hx hb hd hi hl (hmx ▸ hn) hl' (fun ls hl => (k H locs ls hP hD hS hl))
theorem g_istore (C : Cx X E cc own rk mx) {i : Nat} {x : Int32} {lv' : List (Nat × Value)} (hd : decode cc pc = .ok (.istore i, 2))  (hn : i < mx) (hl' : (i, Value.int x) :: lv.filter (fun q => !(q.1 == i) && !(q.1 + 1 == i && q.2.category == 2)) = lv') (k : Gx X E kc ks ws (pc + 2) lv' st) : Gx X E kc ks ws pc lv (Value.int x :: st) := by
  obtain ⟨p, l, e, R, s, m, args, below, meth, c, A, nL, Q⟩ := X
  obtain ⟨hx, hb, hml, hown, hts, hK, hA, hAB, hSF, hR, hB0, hlk, hmx⟩ := C
  intro H locs ls hP hD hS hl
  exact lv_istore hx hb hd hl (hmx ▸ hn) hl' (fun ls hl => (k H locs ls hP hD hS hl))
theorem g_astore_n (C : Cx X E cc own rk mx) {n : Fin 4} {i : Nat} {x : Nat} {lv' : List (Nat × Value)} (hd : decode cc pc = .ok (.astore_n n, 1)) (hi : (n : Nat) = i) (hn : i < mx) (hl' : (i, Value.ref x) :: lv.filter (fun q => !(q.1 == i) && !(q.1 + 1 == i && q.2.category == 2)) = lv') (k : Gx X E kc ks ws (pc + 1) lv' st) : Gx X E kc ks ws pc lv (Value.ref x :: st) := by
  obtain ⟨p, l, e, R, s, m, args, below, meth, c, A, nL, Q⟩ := X
  obtain ⟨hx, hb, hml, hown, hts, hK, hA, hAB, hSF, hR, hB0, hlk, hmx⟩ := C
  intro H locs ls hP hD hS hl
  exact lv_astore_n hx hb hd hi hl (hmx ▸ hn) hl' (fun ls hl => (k H locs ls hP hD hS hl))
theorem g_iinc (C : Cx X E cc own rk mx) {i j : Nat} {n : Int} {x v : Int32} {lv' : List (Nat × Value)} (hd : decode cc pc = .ok (.iinc i n, 3)) (hj : lv[j]? = some (i, .int x)) (hv : x + Int32.ofInt n = v) (hn : i < mx) (hl' : (i, Value.int v) :: lv.filter (fun q => !(q.1 == i) && !(q.1 + 1 == i && q.2.category == 2)) = lv') (k : Gx X E kc ks ws (pc + 3) lv' st) : Gx X E kc ks ws pc lv st := by
  obtain ⟨p, l, e, R, s, m, args, below, meth, c, A, nL, Q⟩ := X
  obtain ⟨hx, hb, hml, hown, hts, hK, hA, hAB, hSF, hR, hB0, hlk, hmx⟩ := C
  intro H locs ls hP hD hS hl
  exact lv_iinc hx hb hd hl hj hv (hmx ▸ hn) hl' (fun ls hl => (k H locs ls hP hD hS hl))
theorem g_iadd (C : Cx X E cc own rk mx) {x y : Int32} (hd : decode cc pc = .ok (.iadd, 1))  (k : Gx X E kc ks ws (pc + 1) lv (.int (x + y) :: st)) : Gx X E kc ks ws pc lv (.int y :: .int x :: st) := by
  obtain ⟨p, l, e, R, s, m, args, below, meth, c, A, nL, Q⟩ := X
  obtain ⟨hx, hb, hml, hown, hts, hK, hA, hAB, hSF, hR, hB0, hlk, hmx⟩ := C
  intro H locs ls hP hD hS hl
  exact lv_iadd hx hb hd (k H locs ls hP hD hS hl)
theorem g_isub (C : Cx X E cc own rk mx) {x y : Int32} (hd : decode cc pc = .ok (.isub, 1))  (k : Gx X E kc ks ws (pc + 1) lv (.int (x - y) :: st)) : Gx X E kc ks ws pc lv (.int y :: .int x :: st) := by
  obtain ⟨p, l, e, R, s, m, args, below, meth, c, A, nL, Q⟩ := X
  obtain ⟨hx, hb, hml, hown, hts, hK, hA, hAB, hSF, hR, hB0, hlk, hmx⟩ := C
  intro H locs ls hP hD hS hl
  exact lv_isub hx hb hd (k H locs ls hP hD hS hl)
theorem g_imul (C : Cx X E cc own rk mx) {x y : Int32} (hd : decode cc pc = .ok (.imul, 1))  (k : Gx X E kc ks ws (pc + 1) lv (.int (x * y) :: st)) : Gx X E kc ks ws pc lv (.int y :: .int x :: st) := by
  obtain ⟨p, l, e, R, s, m, args, below, meth, c, A, nL, Q⟩ := X
  obtain ⟨hx, hb, hml, hown, hts, hK, hA, hAB, hSF, hR, hB0, hlk, hmx⟩ := C
  intro H locs ls hP hD hS hl
  exact lv_imul hx hb hd (k H locs ls hP hD hS hl)
theorem g_iand (C : Cx X E cc own rk mx) {x y : Int32} (hd : decode cc pc = .ok (.iand, 1))  (k : Gx X E kc ks ws (pc + 1) lv (.int (x &&& y) :: st)) : Gx X E kc ks ws pc lv (.int y :: .int x :: st) := by
  obtain ⟨p, l, e, R, s, m, args, below, meth, c, A, nL, Q⟩ := X
  obtain ⟨hx, hb, hml, hown, hts, hK, hA, hAB, hSF, hR, hB0, hlk, hmx⟩ := C
  intro H locs ls hP hD hS hl
  exact lv_iand hx hb hd (k H locs ls hP hD hS hl)
theorem g_ior (C : Cx X E cc own rk mx) {x y : Int32} (hd : decode cc pc = .ok (.ior, 1))  (k : Gx X E kc ks ws (pc + 1) lv (.int (x ||| y) :: st)) : Gx X E kc ks ws pc lv (.int y :: .int x :: st) := by
  obtain ⟨p, l, e, R, s, m, args, below, meth, c, A, nL, Q⟩ := X
  obtain ⟨hx, hb, hml, hown, hts, hK, hA, hAB, hSF, hR, hB0, hlk, hmx⟩ := C
  intro H locs ls hP hD hS hl
  exact lv_ior hx hb hd (k H locs ls hP hD hS hl)
theorem g_ixor (C : Cx X E cc own rk mx) {x y : Int32} (hd : decode cc pc = .ok (.ixor, 1))  (k : Gx X E kc ks ws (pc + 1) lv (.int (x ^^^ y) :: st)) : Gx X E kc ks ws pc lv (.int y :: .int x :: st) := by
  obtain ⟨p, l, e, R, s, m, args, below, meth, c, A, nL, Q⟩ := X
  obtain ⟨hx, hb, hml, hown, hts, hK, hA, hAB, hSF, hR, hB0, hlk, hmx⟩ := C
  intro H locs ls hP hD hS hl
  exact lv_ixor hx hb hd (k H locs ls hP hD hS hl)
theorem g_ishl (C : Cx X E cc own rk mx) {x y : Int32} (hd : decode cc pc = .ok (.ishl, 1))  (k : Gx X E kc ks ws (pc + 1) lv (.int (x <<< (y &&& 31)) :: st)) : Gx X E kc ks ws pc lv (.int y :: .int x :: st) := by
  obtain ⟨p, l, e, R, s, m, args, below, meth, c, A, nL, Q⟩ := X
  obtain ⟨hx, hb, hml, hown, hts, hK, hA, hAB, hSF, hR, hB0, hlk, hmx⟩ := C
  intro H locs ls hP hD hS hl
  exact lv_ishl hx hb hd (k H locs ls hP hD hS hl)
theorem g_ishr (C : Cx X E cc own rk mx) {x y : Int32} (hd : decode cc pc = .ok (.ishr, 1))  (k : Gx X E kc ks ws (pc + 1) lv (.int (x >>> (y &&& 31)) :: st)) : Gx X E kc ks ws pc lv (.int y :: .int x :: st) := by
  obtain ⟨p, l, e, R, s, m, args, below, meth, c, A, nL, Q⟩ := X
  obtain ⟨hx, hb, hml, hown, hts, hK, hA, hAB, hSF, hR, hB0, hlk, hmx⟩ := C
  intro H locs ls hP hD hS hl
  exact lv_ishr hx hb hd (k H locs ls hP hD hS hl)
theorem g_iushr (C : Cx X E cc own rk mx) {x y : Int32} (hd : decode cc pc = .ok (.iushr, 1))  (k : Gx X E kc ks ws (pc + 1) lv (.int ((x.toUInt32 >>> (y.toUInt32 &&& Int32.toUInt32 31)).toInt32) :: st)) : Gx X E kc ks ws pc lv (.int y :: .int x :: st) := by
  obtain ⟨p, l, e, R, s, m, args, below, meth, c, A, nL, Q⟩ := X
  obtain ⟨hx, hb, hml, hown, hts, hK, hA, hAB, hSF, hR, hB0, hlk, hmx⟩ := C
  intro H locs ls hP hD hS hl
  exact lv_iushr hx hb hd rfl (k H locs ls hP hD hS hl)
theorem g_ineg (C : Cx X E cc own rk mx) {x : Int32} (hd : decode cc pc = .ok (.ineg, 1))  (k : Gx X E kc ks ws (pc + 1) lv (.int (-x) :: st)) : Gx X E kc ks ws pc lv (.int x :: st) := by
  obtain ⟨p, l, e, R, s, m, args, below, meth, c, A, nL, Q⟩ := X
  obtain ⟨hx, hb, hml, hown, hts, hK, hA, hAB, hSF, hR, hB0, hlk, hmx⟩ := C
  intro H locs ls hP hD hS hl
  exact lv_ineg hx hb hd (k H locs ls hP hD hS hl)
theorem g_i2b (C : Cx X E cc own rk mx) {x : Int32} (hd : decode cc pc = .ok (.i2b, 1))  (k : Gx X E kc ks ws (pc + 1) lv (.int (x.toInt8.toInt32) :: st)) : Gx X E kc ks ws pc lv (.int x :: st) := by
  obtain ⟨p, l, e, R, s, m, args, below, meth, c, A, nL, Q⟩ := X
  obtain ⟨hx, hb, hml, hown, hts, hK, hA, hAB, hSF, hR, hB0, hlk, hmx⟩ := C
  intro H locs ls hP hD hS hl
  exact lv_i2b hx hb hd rfl (k H locs ls hP hD hS hl)
theorem g_idiv (C : Cx X E cc own rk mx) {x y : Int32} {F : Int32 → Option α} (hd : decode cc pc = .ok (.idiv, 1)) (h : dv x y F = some r) (k : ∀ v, F v = some r → Gx X E kc ks ws (pc + 1) lv (.int v :: st)) : Gx X E kc ks ws pc lv (.int y :: .int x :: st) := by
  obtain ⟨p, l, e, R, s, m, args, below, meth, c, A, nL, Q⟩ := X
  obtain ⟨hx, hb, hml, hown, hts, hK, hA, hAB, hSF, hR, hB0, hlk, hmx⟩ := C
  intro H locs ls hP hD hS hl
  exact lv_idiv hx hb hd (ite_someN h).1 (k _ (ite_someN h).2 H locs ls hP hD hS hl)
theorem g_irem (C : Cx X E cc own rk mx) {x y : Int32} {F : Int32 → Option α} (hd : decode cc pc = .ok (.irem, 1)) (h : rm x y F = some r) (k : ∀ v, F v = some r → Gx X E kc ks ws (pc + 1) lv (.int v :: st)) : Gx X E kc ks ws pc lv (.int y :: .int x :: st) := by
  obtain ⟨p, l, e, R, s, m, args, below, meth, c, A, nL, Q⟩ := X
  obtain ⟨hx, hb, hml, hown, hts, hK, hA, hAB, hSF, hR, hB0, hlk, hmx⟩ := C
  intro H locs ls hP hD hS hl
  exact lv_irem hx hb hd (ite_someN h).1 (k _ (ite_someN h).2 H locs ls hP hD hS hl)
theorem g_dup (C : Cx X E cc own rk mx) {v : Value} (hd : decode cc pc = .ok (.dup, 1)) (hv : v.category = 1) (k : Gx X E kc ks ws (pc + 1) lv (v :: v :: st)) : Gx X E kc ks ws pc lv (v :: st) := by
  obtain ⟨p, l, e, R, s, m, args, below, meth, c, A, nL, Q⟩ := X
  obtain ⟨hx, hb, hml, hown, hts, hK, hA, hAB, hSF, hR, hB0, hlk, hmx⟩ := C
  intro H locs ls hP hD hS hl
  exact lv_dup hx hb hd hv (k H locs ls hP hD hS hl)
theorem g_pop (C : Cx X E cc own rk mx) {v : Value} (hd : decode cc pc = .ok (.pop, 1)) (hv : v.category = 1) (k : Gx X E kc ks ws (pc + 1) lv (st)) : Gx X E kc ks ws pc lv (v :: st) := by
  obtain ⟨p, l, e, R, s, m, args, below, meth, c, A, nL, Q⟩ := X
  obtain ⟨hx, hb, hml, hown, hts, hK, hA, hAB, hSF, hR, hB0, hlk, hmx⟩ := C
  intro H locs ls hP hD hS hl
  exact lv_pop hx hb hd hv (k H locs ls hP hD hS hl)
theorem g_dup2 (C : Cx X E cc own rk mx) {va vb : Value} (hd : decode cc pc = .ok (.dup2, 1)) (hv : va.category = 1) (hv2 : vb.category = 1) (k : Gx X E kc ks ws (pc + 1) lv (va :: vb :: va :: vb :: st)) : Gx X E kc ks ws pc lv (va :: vb :: st) := by
  obtain ⟨p, l, e, R, s, m, args, below, meth, c, A, nL, Q⟩ := X
  obtain ⟨hx, hb, hml, hown, hts, hK, hA, hAB, hSF, hR, hB0, hlk, hmx⟩ := C
  intro H locs ls hP hD hS hl
  exact lv_dup2_11 hx hb hd hv hv2 (k H locs ls hP hD hS hl)
theorem g_goto (C : Cx X E cc own rk mx) {off : Int} {tgt : Nat} (hd : decode cc pc = .ok (.goto off, 3)) (ht : (pc : Int) + off = (tgt : Int)) (k : Gx X E kc ks ws tgt lv st) : Gx X E kc ks ws pc lv st := by
  obtain ⟨p, l, e, R, s, m, args, below, meth, c, A, nL, Q⟩ := X
  obtain ⟨hx, hb, hml, hown, hts, hK, hA, hAB, hSF, hR, hB0, hlk, hmx⟩ := C
  intro H locs ls hP hD hS hl
  exact lv_goto hx hb hd ht (k H locs ls hP hD hS hl)
theorem g_icmp_eq (C : Cx X E cc own rk mx) {x y : Int32} {off : Int} {tgt : Nat} {P Q : Option α} (hd : decode cc pc = .ok (.if_icmp .eq off, 3)) (ht : (pc : Int) + off = (tgt : Int)) (h : (if x = y then P else Q) = some r) (kt : P = some r → Gx X E kc ks ws tgt lv st) (kf : Q = some r → Gx X E kc ks ws (pc + 3) lv st) : Gx X E kc ks ws pc lv (.int y :: .int x :: st) := by
  obtain ⟨p, l, e, R, s, m, args, below, meth, c, A, nL, Q⟩ := X
  obtain ⟨hx, hb, hml, hown, hts, hK, hA, hAB, hSF, hR, hB0, hlk, hmx⟩ := C
  intro H locs ls hP hD hS hl
  exact lv_icmp_eq hx hb hd ht (fun c => kt ((if_pos c).symm.trans h) H locs ls hP hD hS hl) (fun c => kf ((if_neg c).symm.trans h) H locs ls hP hD hS hl)
theorem g_icmp_ne (C : Cx X E cc own rk mx) {x y : Int32} {off : Int} {tgt : Nat} {P Q : Option α} (hd : decode cc pc = .ok (.if_icmp .ne off, 3)) (ht : (pc : Int) + off = (tgt : Int)) (h : (if x = y then P else Q) = some r) (kt : Q = some r → Gx X E kc ks ws tgt lv st) (kf : P = some r → Gx X E kc ks ws (pc + 3) lv st) : Gx X E kc ks ws pc lv (.int y :: .int x :: st) := by
  obtain ⟨p, l, e, R, s, m, args, below, meth, c, A, nL, Q⟩ := X
  obtain ⟨hx, hb, hml, hown, hts, hK, hA, hAB, hSF, hR, hB0, hlk, hmx⟩ := C
  intro H locs ls hP hD hS hl
  exact lv_icmp_ne hx hb hd ht (fun c => kt ((if_neg c).symm.trans h) H locs ls hP hD hS hl) (fun c => kf ((if_pos c).symm.trans h) H locs ls hP hD hS hl)
theorem g_icmp_lt (C : Cx X E cc own rk mx) {x y : Int32} {off : Int} {tgt : Nat} {P Q : Option α} (hd : decode cc pc = .ok (.if_icmp .lt off, 3)) (ht : (pc : Int) + off = (tgt : Int)) (h : (if x < y then P else Q) = some r) (kt : P = some r → Gx X E kc ks ws tgt lv st) (kf : Q = some r → Gx X E kc ks ws (pc + 3) lv st) : Gx X E kc ks ws pc lv (.int y :: .int x :: st) := by
  obtain ⟨p, l, e, R, s, m, args, below, meth, c, A, nL, Q⟩ := X
  obtain ⟨hx, hb, hml, hown, hts, hK, hA, hAB, hSF, hR, hB0, hlk, hmx⟩ := C
  intro H locs ls hP hD hS hl
  exact lv_icmp_lt hx hb hd ht (fun c => kt ((if_pos c).symm.trans h) H locs ls hP hD hS hl) (fun c => kf ((if_neg c).symm.trans h) H locs ls hP hD hS hl)
theorem g_icmp_ge (C : Cx X E cc own rk mx) {x y : Int32} {off : Int} {tgt : Nat} {P Q : Option α} (hd : decode cc pc = .ok (.if_icmp .ge off, 3)) (ht : (pc : Int) + off = (tgt : Int)) (h : (if y ≤ x then P else Q) = some r) (kt : P = some r → Gx X E kc ks ws tgt lv st) (kf : Q = some r → Gx X E kc ks ws (pc + 3) lv st) : Gx X E kc ks ws pc lv (.int y :: .int x :: st) := by
  obtain ⟨p, l, e, R, s, m, args, below, meth, c, A, nL, Q⟩ := X
  obtain ⟨hx, hb, hml, hown, hts, hK, hA, hAB, hSF, hR, hB0, hlk, hmx⟩ := C
  intro H locs ls hP hD hS hl
  exact lv_icmp_ge hx hb hd ht (fun c => kt ((if_pos c).symm.trans h) H locs ls hP hD hS hl) (fun c => kf ((if_neg c).symm.trans h) H locs ls hP hD hS hl)
theorem g_icmp_gt (C : Cx X E cc own rk mx) {x y : Int32} {off : Int} {tgt : Nat} {P Q : Option α} (hd : decode cc pc = .ok (.if_icmp .gt off, 3)) (ht : (pc : Int) + off = (tgt : Int)) (h : (if y < x then P else Q) = some r) (kt : P = some r → Gx X E kc ks ws tgt lv st) (kf : Q = some r → Gx X E kc ks ws (pc + 3) lv st) : Gx X E kc ks ws pc lv (.int y :: .int x :: st) := by
  obtain ⟨p, l, e, R, s, m, args, below, meth, c, A, nL, Q⟩ := X
  obtain ⟨hx, hb, hml, hown, hts, hK, hA, hAB, hSF, hR, hB0, hlk, hmx⟩ := C
  intro H locs ls hP hD hS hl
  exact lv_icmp_gt hx hb hd ht (fun c => kt ((if_pos c).symm.trans h) H locs ls hP hD hS hl) (fun c => kf ((if_neg c).symm.trans h) H locs ls hP hD hS hl)
theorem g_icmp_le (C : Cx X E cc own rk mx) {x y : Int32} {off : Int} {tgt : Nat} {P Q : Option α} (hd : decode cc pc = .ok (.if_icmp .le off, 3)) (ht : (pc : Int) + off = (tgt : Int)) (h : (if x ≤ y then P else Q) = some r) (kt : P = some r → Gx X E kc ks ws tgt lv st) (kf : Q = some r → Gx X E kc ks ws (pc + 3) lv st) : Gx X E kc ks ws pc lv (.int y :: .int x :: st) := by
  obtain ⟨p, l, e, R, s, m, args, below, meth, c, A, nL, Q⟩ := X
  obtain ⟨hx, hb, hml, hown, hts, hK, hA, hAB, hSF, hR, hB0, hlk, hmx⟩ := C
  intro H locs ls hP hD hS hl
  exact lv_icmp_le hx hb hd ht (fun c => kt ((if_pos c).symm.trans h) H locs ls hP hD hS hl) (fun c => kf ((if_neg c).symm.trans h) H locs ls hP hD hS hl)
theorem g_if_eq (C : Cx X E cc own rk mx) {x : Int32} {off : Int} {tgt : Nat} {P Q : Option α} (hd : decode cc pc = .ok (.ifCond .eq off, 3)) (ht : (pc : Int) + off = (tgt : Int)) (h : (if x = 0 then P else Q) = some r) (kt : P = some r → Gx X E kc ks ws tgt lv st) (kf : Q = some r → Gx X E kc ks ws (pc + 3) lv st) : Gx X E kc ks ws pc lv (.int x :: st) := by
  obtain ⟨p, l, e, R, s, m, args, below, meth, c, A, nL, Q⟩ := X
  obtain ⟨hx, hb, hml, hown, hts, hK, hA, hAB, hSF, hR, hB0, hlk, hmx⟩ := C
  intro H locs ls hP hD hS hl
  exact lv_if_eq hx hb hd ht (fun c => kt ((if_pos c).symm.trans h) H locs ls hP hD hS hl) (fun c => kf ((if_neg c).symm.trans h) H locs ls hP hD hS hl)
theorem g_if_ne (C : Cx X E cc own rk mx) {x : Int32} {off : Int} {tgt : Nat} {P Q : Option α} (hd : decode cc pc = .ok (.ifCond .ne off, 3)) (ht : (pc : Int) + off = (tgt : Int)) (h : (if x = 0 then P else Q) = some r) (kt : Q = some r → Gx X E kc ks ws tgt lv st) (kf : P = some r → Gx X E kc ks ws (pc + 3) lv st) : Gx X E kc ks ws pc lv (.int x :: st) := by
  obtain ⟨p, l, e, R, s, m, args, below, meth, c, A, nL, Q⟩ := X
  obtain ⟨hx, hb, hml, hown, hts, hK, hA, hAB, hSF, hR, hB0, hlk, hmx⟩ := C
  intro H locs ls hP hD hS hl
  exact lv_if_ne hx hb hd ht (fun c => kt ((if_neg c).symm.trans h) H locs ls hP hD hS hl) (fun c => kf ((if_pos c).symm.trans h) H locs ls hP hD hS hl)
theorem g_if_lt (C : Cx X E cc own rk mx) {x : Int32} {off : Int} {tgt : Nat} {P Q : Option α} (hd : decode cc pc = .ok (.ifCond .lt off, 3)) (ht : (pc : Int) + off = (tgt : Int)) (h : (if x < 0 then P else Q) = some r) (kt : P = some r → Gx X E kc ks ws tgt lv st) (kf : Q = some r → Gx X E kc ks ws (pc + 3) lv st) : Gx X E kc ks ws pc lv (.int x :: st) := by
  obtain ⟨p, l, e, R, s, m, args, below, meth, c, A, nL, Q⟩ := X
  obtain ⟨hx, hb, hml, hown, hts, hK, hA, hAB, hSF, hR, hB0, hlk, hmx⟩ := C
  intro H locs ls hP hD hS hl
  exact lv_if_lt hx hb hd ht (fun c => kt ((if_pos c).symm.trans h) H locs ls hP hD hS hl) (fun c => kf ((if_neg c).symm.trans h) H locs ls hP hD hS hl)
theorem g_if_ge (C : Cx X E cc own rk mx) {x : Int32} {off : Int} {tgt : Nat} {P Q : Option α} (hd : decode cc pc = .ok (.ifCond .ge off, 3)) (ht : (pc : Int) + off = (tgt : Int)) (h : (if 0 ≤ x then P else Q) = some r) (kt : P = some r → Gx X E kc ks ws tgt lv st) (kf : Q = some r → Gx X E kc ks ws (pc + 3) lv st) : Gx X E kc ks ws pc lv (.int x :: st) := by
  obtain ⟨p, l, e, R, s, m, args, below, meth, c, A, nL, Q⟩ := X
  obtain ⟨hx, hb, hml, hown, hts, hK, hA, hAB, hSF, hR, hB0, hlk, hmx⟩ := C
  intro H locs ls hP hD hS hl
  exact lv_if_ge hx hb hd ht (fun c => kt ((if_pos c).symm.trans h) H locs ls hP hD hS hl) (fun c => kf ((if_neg c).symm.trans h) H locs ls hP hD hS hl)
theorem g_if_gt (C : Cx X E cc own rk mx) {x : Int32} {off : Int} {tgt : Nat} {P Q : Option α} (hd : decode cc pc = .ok (.ifCond .gt off, 3)) (ht : (pc : Int) + off = (tgt : Int)) (h : (if 0 < x then P else Q) = some r) (kt : P = some r → Gx X E kc ks ws tgt lv st) (kf : Q = some r → Gx X E kc ks ws (pc + 3) lv st) : Gx X E kc ks ws pc lv (.int x :: st) := by
  obtain ⟨p, l, e, R, s, m, args, below, meth, c, A, nL, Q⟩ := X
  obtain ⟨hx, hb, hml, hown, hts, hK, hA, hAB, hSF, hR, hB0, hlk, hmx⟩ := C
  intro H locs ls hP hD hS hl
  exact lv_if_gt hx hb hd ht (fun c => kt ((if_pos c).symm.trans h) H locs ls hP hD hS hl) (fun c => kf ((if_neg c).symm.trans h) H locs ls hP hD hS hl)
theorem g_if_le (C : Cx X E cc own rk mx) {x : Int32} {off : Int} {tgt : Nat} {P Q : Option α} (hd : decode cc pc = .ok (.ifCond .le off, 3)) (ht : (pc : Int) + off = (tgt : Int)) (h : (if x ≤ 0 then P else Q) = some r) (kt : P = some r → Gx X E kc ks ws tgt lv st) (kf : Q = some r → Gx X E kc ks ws (pc + 3) lv st) : Gx X E kc ks ws pc lv (.int x :: st) := by
  obtain ⟨p, l, e, R, s, m, args, below, meth, c, A, nL, Q⟩ := X
  obtain ⟨hx, hb, hml, hown, hts, hK, hA, hAB, hSF, hR, hB0, hlk, hmx⟩ := C
  intro H locs ls hP hD hS hl
  exact lv_if_le hx hb hd ht (fun c => kt ((if_pos c).symm.trans h) H locs ls hP hD hS hl) (fun c => kf ((if_neg c).symm.trans h) H locs ls hP hD hS hl)
/-- a field link: constant idx of class own names field k of class number ci -/
def FL (own : String) (idx ci k : Nat) : Prop := ∃ (q : vw_C) (ty : Nat → FieldType), cls[ci]? = some q ∧ (∀ w ∈ u_ws q.1 q.2.1 q.2.2, w ∈ lw_g) ∧ k < q.2.2 ∧ Cond.fieldLink own idx (q.2.1 k).1 (q.2.1 k).2.1 (q.2.1 k).2.2.1 ∈ lw_g ∧ (∀ k, k < q.2.2 → parseFieldDescriptor (q.2.1 k).2.2.1 = some (ty k)) ∧ (∀ a, a < q.2.2 → ∀ b, b < q.2.2 → a ≠ b → (q.2.1 a).2.1 ≠ (q.2.1 b).2.1)
theorem g_get (C : Cx X E cc own rk mx) {idx ci k a : Nat} {fs : List Value} {v : Value} (hF : FL own idx ci k) (hd : decode cc pc = .ok (.getfield idx, 3)) (q0 : Nat) (he : ws[q0]? = some (a, .inr (ci, fs))) (hv : fs[k]? = some v) (kk : Gx X E kc ks ws (pc + 3) lv (v :: st)) : Gx X E kc ks ws pc lv (.ref a :: st) := by
  obtain ⟨p, l, e, R, s, m, args, below, meth, c, A, nL, Q⟩ := X
  obtain ⟨hx, hb, hml, hown, hts, hK, hA, hAB, hSF, hR, hB0, hlk, hmx⟩ := C
  intro H locs ls hP hD hS hl
  obtain ⟨⟨Cl, T, N⟩, ty, hc, hin, hk, hlk2, hty, hnm⟩ := hF
  exact va_get hx hb hts hin hown hK hP q0 he hc k hk (hts _ hlk2) (fun _ h => h) hv hd (kk H locs ls hP hD hS hl)
theorem g_put (C : Cx X E cc own rk mx) {idx ci k a : Nat} {fs : List Value} {v : Value} {ws' : va_W} (ty : FieldType) (hF : FL own idx ci k) (hd : decode cc pc = .ok (.putfield idx, 3)) (q0 : Nat) (he : ws[q0]? = some (a, .inr (ci, fs))) (hfin : (cls[ci]?).map (fun q => ((q.2.1 k).2.2.2, parseFieldDescriptor (q.2.1 k).2.2.1)) = some (false, some ty)) (hn : narrow ty v = v) (hfit : fits ty v = true) (hlen : k < fs.length) (hw : ws.set q0 (a, .inr (ci, fs.set k v)) = ws') (kk : Gx X E kc ks ws' (pc + 3) lv st) : Gx X E kc ks ws pc lv (v :: .ref a :: st) := by
  obtain ⟨p, l, e, R, s, m, args, below, meth, c, A, nL, Q⟩ := X
  obtain ⟨hx, hb, hml, hown, hts, hK, hA, hAB, hSF, hR, hB0, hlk, hmx⟩ := C
  intro H locs ls hP hD hS hl
  obtain ⟨⟨Cl, T, N⟩, ty0, hc, hin, hk, hlk2, hty, hnm⟩ := hF
  rw [hc] at hfin
  injection hfin with hfin
  injection hfin with hf1 hf2
  subst hw
  exact va_put hx hb hts hin ty0 hty hnm hown hK hP hD hS q0 he hc k hk (hts _ hlk2) (fun _ h => h) hf1 hf2 hn hfit hlen hd (fun H1 locs1 hP hD hS => kk H1 locs1 ls hP hD hS hl)
theorem g_iald (C : Cx X E cc own rk mx) {a n : Nat} {f : Nat → Int32} {i : Int32} {F : Int32 → Option α} (hd : decode cc pc = .ok (.iaload, 1)) (q0 : Nat) (ha : ws[q0]? = some (a, .inl (E.2.1, n, .inl f))) (h : rd f n i F = some r) (k : ∀ v, F v = some r → Gx X E kc ks ws (pc + 1) lv (.int v :: st)) : Gx X E kc ks ws pc lv (.int i :: .ref a :: st) := by
  obtain ⟨p, l, e, R, s, m, args, below, meth, c, A, nL, Q⟩ := X
  obtain ⟨hx, hb, hml, hown, hts, hK, hA, hAB, hSF, hR, hB0, hlk, hmx⟩ := C
  intro H locs ls hP hD hS hl
  exact va_iald hx hb hK hP q0 0 ha rfl (rd_is h).1 hd (k _ (rd_is h).2 H locs ls hP hD hS hl)
theorem g_bald (C : Cx X E cc own rk mx) {a n : Nat} {f : Nat → Int32} {i : Int32} {F : Int32 → Option α} (hd : decode cc pc = .ok (.baload, 1)) (q0 : Nat) (ha : ws[q0]? = some (a, .inl (E.2.2.1, n, .inl f))) (h : rd f n i F = some r) (k : ∀ v, F v = some r → Gx X E kc ks ws (pc + 1) lv (.int v :: st)) : Gx X E kc ks ws pc lv (.int i :: .ref a :: st) := by
  obtain ⟨p, l, e, R, s, m, args, below, meth, c, A, nL, Q⟩ := X
  obtain ⟨hx, hb, hml, hown, hts, hK, hA, hAB, hSF, hR, hB0, hlk, hmx⟩ := C
  intro H locs ls hP hD hS hl
  exact va_bald hx hb hK hP q0 1 ha rfl (rd_is h).1 hd (k _ (rd_is h).2 H locs ls hP hD hS hl)
theorem g_iast (C : Cx X E cc own rk mx) {a n : Nat} {f : Nat → Int32} {i x : Int32} {F : (Nat → Int32) → Option α} (hd : decode cc pc = .ok (.iastore, 1)) (q0 : Nat) (ha : ws[q0]? = some (a, .inl (E.2.1, n, .inl f))) (h : wr f n i x F = some r) (k : ∀ g, F g = some r → Gx X E kc ks (ws.set q0 (a, .inl (E.2.1, n, .inl g))) (pc + 1) lv st) : Gx X E kc ks ws pc lv (.int x :: .int i :: .ref a :: st) := by
  obtain ⟨p, l, e, R, s, m, args, below, meth, c, A, nL, Q⟩ := X
  obtain ⟨hx, hb, hml, hown, hts, hK, hA, hAB, hSF, hR, hB0, hlk, hmx⟩ := C
  intro H locs ls hP hD hS hl
  exact va_iast hx hb hK hP hD hS q0 0 ha rfl (wr_is h).1 hd (fun H1 locs1 hP hD hS => k _ (wr_is h).2 H1 locs1 ls hP hD hS hl)
theorem g_bast (C : Cx X E cc own rk mx) {a n : Nat} {f : Nat → Int32} {i x : Int32} {F : (Nat → Int32) → Option α} (hd : decode cc pc = .ok (.bastore, 1)) (q0 : Nat) (ha : ws[q0]? = some (a, .inl (E.2.2.1, n, .inl f))) (h : wr f n i (vp_nar .byte x) F = some r) (k : ∀ g, F g = some r → Gx X E kc ks (ws.set q0 (a, .inl (E.2.2.1, n, .inl g))) (pc + 1) lv st) : Gx X E kc ks ws pc lv (.int x :: .int i :: .ref a :: st) := by
  obtain ⟨p, l, e, R, s, m, args, below, meth, c, A, nL, Q⟩ := X
  obtain ⟨hx, hb, hml, hown, hts, hK, hA, hAB, hSF, hR, hB0, hlk, hmx⟩ := C
  intro H locs ls hP hD hS hl
  exact va_bast hx hb hK hP hD hS q0 1 ha rfl (wr_is h).1 hd (fun H1 locs1 hP hD hS => k _ (wr_is h).2 H1 locs1 ls hP hD hS hl)
theorem g_alen (C : Cx X E cc own rk mx) {a n : Nat} {f : Nat → Int32} {v : Int32} (hd : decode cc pc = .ok (.arraylength, 1)) (q0 : Nat) (ha : ws[q0]? = some (a, .inl (E.2.1, n, .inl f))) (hv : Int32.ofNat n = v) (k : Gx X E kc ks ws (pc + 1) lv (.int v :: st)) : Gx X E kc ks ws pc lv (.ref a :: st) := by
  obtain ⟨p, l, e, R, s, m, args, below, meth, c, A, nL, Q⟩ := X
  obtain ⟨hx, hb, hml, hown, hts, hK, hA, hAB, hSF, hR, hB0, hlk, hmx⟩ := C
  intro H locs ls hP hD hS hl
  exact va_alen hx hb hK hP q0 0 ha rfl hv hd (k H locs ls hP hD hS hl)
theorem g_iincn (C : Cx X E cc own rk mx) {i j : Nat} {n : Int} {x d : Int32} {F : Int32 → Option α} {lv' : Int32 → List (Nat × Value)} (hd : decode cc pc = .ok (.iinc i n, 3)) (hj : lv[j]? = some (i, .int x)) (hv : Int32.ofInt n = d) (hn : i < mx) (hl' : ∀ v, (i, Value.int v) :: lv.filter (fun q => !(q.1 == i) && !(q.1 + 1 == i && q.2.category == 2)) = lv' v) (h : nm (x + d) F = some r) (k : ∀ v, F v = some r → Gx X E kc ks ws (pc + 3) (lv' v) st) : Gx X E kc ks ws pc lv st := by
  obtain ⟨p, l, e, R, s, m, args, below, meth, c, A, nL, Q⟩ := X
  obtain ⟨hx, hb, hml, hown, hts, hK, hA, hAB, hSF, hR, hB0, hlk, hmx⟩ := C
  intro H locs ls hP hD hS hl
  exact lv_iinc hx hb hd hl hj (by rw [hv]) (hmx ▸ hn) (hl' _) (fun ls hl => k _ h H locs ls hP hD hS hl)
theorem g_ws {ws' : va_W} (hw : ws = ws') (k : Gx X E kc ks ws' pc lv st) : Gx X E kc ks ws pc lv st := by rw [hw]; exact k
end GR
