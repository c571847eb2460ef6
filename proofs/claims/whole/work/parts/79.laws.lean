/-! THE LAW: rule behind rule, both sides -/
abbrev LF : Type := (Nat → Nat) × (Nat → Den) × (Nat → Den)
def CRl (r s : Nat) (sg va le am co en : Nat → Int32) (W : LF) : Prop := ∀ q, q < r → ∃ a h t, t ≤ s ∧ le q = nI (W.1 q) ∧ W.1 q < 256 ∧ am q = nI a ∧ co q = nI h ∧ en q = nI t ∧ SegC sg va h t 64 (W.2.2 q) ∧ (W.1 q ≠ 120 → SegC sg va a h 64 (W.2.1 q))
def MRl (r c : Nat) (sa sl sf sh st : Nat → Int32) (W : LF) : Prop := ∀ q, q < r → ∃ a h t, t ≤ c ∧ sl q = nI (W.1 q) ∧ W.1 q < 256 ∧ sf q = nI a ∧ sh q = nI h ∧ st q = nI t ∧ SegM sa h t 64 (W.2.2 q) ∧ (W.1 q ≠ 120 → SegM sa a h 64 (W.2.1 q))
def WRl (r : Nat) (W : LF) : Prop := ∀ q, q < r → B01 (W.2.2 q)
def exL (W : LF) (r l : Nat) (A C : Den) : LF := (fun q => if q = r then l else W.1 q, fun q => if q = r then A else W.2.1 q, fun q => if q = r then C else W.2.2 q)
theorem exL_at (W : LF) (r l : Nat) (A C : Den) : (exL W r l A C).1 r = l ∧ (exL W r l A C).2.1 r = A ∧ (exL W r l A C).2.2 r = C := ⟨if_pos rfl, if_pos rfl, if_pos rfl⟩
theorem exL_ne (W : LF) {r q : Nat} (l : Nat) (A C : Den) (h : q ≠ r) : (exL W r l A C).1 q = W.1 q ∧ (exL W r l A C).2.1 q = W.2.1 q ∧ (exL W r l A C).2.2 q = W.2.2 q := ⟨if_neg h, if_neg h, if_neg h⟩
theorem CRl_ex {r s s1 s' l : Nat} {sg va sg' va' le am co en : Nat → Int32} {W : LF} {A C : Den} (h : CRl r s sg va le am co en W) (hc : ∀ i, i < s → sg' i = sg i ∧ va' i = va i) (hs : s ≤ s') (hl : l < 256) (h1 : SegC sg' va' s1 s' 64 C) (h2 : l ≠ 120 → SegC sg' va' s s1 64 A) : CRl (r + 1) s' sg' va' (upd le r (nI l)) (upd am r (nI s)) (upd co r (nI s1)) (upd en r (nI s')) (exL W r l A C) := by
  intro q hq
  by_cases e : q = r
  · subst e
    obtain ⟨e1, e2, e3⟩ := exL_at W q l A C
    rw [e1, e2, e3]
    exact ⟨s, s1, s', Nat.le_refl _, upd_at _ _ _, hl, upd_at _ _ _, upd_at _ _ _, upd_at _ _ _, h1, h2⟩
  · obtain ⟨e1, e2, e3⟩ := exL_ne W l A C e
    rw [e1, e2, e3]
    obtain ⟨a, h, t, k1, k2, k3, k4, k5, k6, k7, k8⟩ := h q (by omega)
    have l7 := k7.1
    exact ⟨a, h, t, by omega, (upd_ne _ _ e).trans k2, k3, (upd_ne _ _ e).trans k4, (upd_ne _ _ e).trans k5, (upd_ne _ _ e).trans k6, SegC_congr k7 (fun z _ z2 => hc z (by omega)), fun hx => SegC_congr (k8 hx) (fun z _ z2 => hc z (by omega))⟩
theorem MRl_ex {r c c1 c' l : Nat} {sa sa' sl sf sh st : Nat → Int32} {W : LF} {A C : Den} (h : MRl r c sa sl sf sh st W) (hc : ∀ i, i < c → sa' i = sa i) (hs : c ≤ c') (hl : l < 256) (h1 : SegM sa' c1 c' 64 C) (h2 : l ≠ 120 → SegM sa' c c1 64 A) : MRl (r + 1) c' sa' (upd sl r (nI l)) (upd sf r (nI c)) (upd sh r (nI c1)) (upd st r (nI c')) (exL W r l A C) := by
  intro q hq
  by_cases e : q = r
  · subst e
    obtain ⟨e1, e2, e3⟩ := exL_at W q l A C
    rw [e1, e2, e3]
    exact ⟨c, c1, c', Nat.le_refl _, upd_at _ _ _, hl, upd_at _ _ _, upd_at _ _ _, upd_at _ _ _, h1, h2⟩
  · obtain ⟨e1, e2, e3⟩ := exL_ne W l A C e
    rw [e1, e2, e3]
    obtain ⟨a, h, t, k1, k2, k3, k4, k5, k6, k7, k8⟩ := h q (by omega)
    have l7 := k7.1
    exact ⟨a, h, t, by omega, (upd_ne _ _ e).trans k2, k3, (upd_ne _ _ e).trans k4, (upd_ne _ _ e).trans k5, (upd_ne _ _ e).trans k6, SegM_congr k7 (fun z _ z2 => hc z (by omega)), fun hx => SegM_congr (k8 hx) (fun z _ z2 => hc z (by omega))⟩
theorem WRl_ex {r l : Nat} {W : LF} {A C : Den} (h : WRl r W) (hC : B01 C) : WRl (r + 1) (exL W r l A C) := by
  intro q hq
  by_cases e : q = r
  · subst e
    rw [(exL_at W q l A C).2.2]
    exact hC
  · rw [(exL_ne W l A C e).2.2]
    exact h q (by omega)
theorem st_X3_read_14 (script_end : Int32) (script_tape_size : Int32) (script_tape_bytes : (Nat → Int32)) (m : Nat) (s : Int32 × Int32 × Int32 × (Nat → Int32) × (Nat → Int32) × (Nat → Int32) × (Nat → Int32) × (Nat → Int32) × (Nat → Int32) × Int32 × Int32) : Lo_X3_read_14 script_end script_tape_size script_tape_bytes (m + 1) s = (if (16 : Int32) < s.1 then (some (s.2.1, s.2.2.1, s.2.2.2.1, s.2.2.2.2.1, s.2.2.2.2.2.1, s.2.2.2.2.2.2.1, s.2.2.2.2.2.2.2.1, s.2.2.2.2.2.2.2.2.1, s.2.2.2.2.2.2.2.2.2.1, s.2.2.2.2.2.2.2.2.2.2)) else (f_X7_isSound s.2.2.2.2.2.2.2.2.2.2).bind fun u2 => if u2 = 0 then (some (s.2.1, s.2.2.1, s.2.2.2.1, s.2.2.2.2.1, s.2.2.2.2.2.1, s.2.2.2.2.2.2.1, s.2.2.2.2.2.2.2.1, s.2.2.2.2.2.2.2.2.1, s.2.2.2.2.2.2.2.2.2.1, s.2.2.2.2.2.2.2.2.2.2)) else (fo_X3_readRule script_end s.2.2.2.2.2.2.2.2.2.1 s.2.2.2.2.2.2.2.2.2.2 script_tape_size script_tape_bytes s.2.1 s.2.2.1 s.2.2.2.1 s.2.2.2.2.1 s.2.2.2.2.2.1 s.2.2.2.2.2.2.1 s.2.2.2.2.2.2.2.1 s.2.2.2.2.2.2.2.2.1).bind fun u3 => (f_X7_isSound u3.2.1).bind fun u4 => if u4 = 0 then (some (u3.2.2.1, u3.2.2.2.1, u3.2.2.2.2.1, u3.2.2.2.2.2.1, u3.2.2.2.2.2.2.1, u3.2.2.2.2.2.2.2.1, u3.2.2.2.2.2.2.2.2.1, u3.2.2.2.2.2.2.2.2.2, u3.1, u3.2.1)) else (f_X7_isAtEnd script_end u3.1).bind fun u5 => if u5 = 0 then ((fo_X7_want script_end u3.1 u3.2.1 script_tape_size script_tape_bytes (59 : Int32)).bind fun u6 => nm (s.1 + (1 : Int32)) fun v7 => (Lo_X3_read_14 script_end script_tape_size script_tape_bytes m) (v7, u3.2.2.1, u3.2.2.2.1, u3.2.2.2.2.1, u3.2.2.2.2.2.1, u3.2.2.2.2.2.2.1, u3.2.2.2.2.2.2.2.1, u3.2.2.2.2.2.2.2.2.1, u3.2.2.2.2.2.2.2.2.2, u6.1, u6.2)) else some (u3.2.2.1, u3.2.2.2.1, u3.2.2.2.2.1, u3.2.2.2.2.2.1, u3.2.2.2.2.2.2.1, u3.2.2.2.2.2.2.2.1, u3.2.2.2.2.2.2.2.2.1, u3.2.2.2.2.2.2.2.2.2, u3.1, u3.2.1)) := rfl
theorem st_X12_law_31 (t_taped : Int32) (t_length0 : Int32) (t_clauses : Int32) (t_tape : (Nat → Int32)) (t_codes : (Nat → Int32)) (t_clauseOf : (Nat → Int32)) (t_codeFrom : (Nat → Int32)) (t_codeHalf : (Nat → Int32)) (t_codeTo : (Nat → Int32)) (k0 : Int32 × Int32 × Int32 × Int32 × Int32 × Int32 × Int32 × Int32 × (Nat → Int32) × (Nat → Int32) × (Nat → Int32) × (Nat → Int32) × (Nat → Int32) × (Nat → Int32) → Option (Int32 × Int32 × Int32 × Int32 × Int32 × Int32 × Int32 × Int32 × Int32 × Int32 × Int32 × (Nat → Int32) × (Nat → Int32) × (Nat → Int32) × (Nat → Int32) × (Nat → Int32) × (Nat → Int32) × (Nat → Int32) × (Nat → Int32) × (Nat → Int32) × (Nat → Int32) × (Nat → Int32))) (m : Nat) (s : Int32 × Int32 × Int32 × Int32 × Int32 × Int32 × Int32 × Int32 × (Nat → Int32) × (Nat → Int32) × (Nat → Int32) × (Nat → Int32) × (Nat → Int32) × (Nat → Int32)) : L_X12_law_31 t_taped t_length0 t_clauses t_tape t_codes t_clauseOf t_codeFrom t_codeHalf t_codeTo k0 (m + 1) s = (if s.1 = 0 then (k0 (s.1, s.2.1, s.2.2.1, s.2.2.2.1, s.2.2.2.2.1, s.2.2.2.2.2.1, s.2.2.2.2.2.2.1, s.2.2.2.2.2.2.2.1, s.2.2.2.2.2.2.2.2.1, s.2.2.2.2.2.2.2.2.2.1, s.2.2.2.2.2.2.2.2.2.2.1, s.2.2.2.2.2.2.2.2.2.2.2.1, s.2.2.2.2.2.2.2.2.2.2.2.2.1, s.2.2.2.2.2.2.2.2.2.2.2.2.2)) else if t_length0 ≤ s.2.1 then (k0 (s.1, s.2.1, s.2.2.1, s.2.2.2.1, s.2.2.2.2.1, s.2.2.2.2.2.1, s.2.2.2.2.2.2.1, s.2.2.2.2.2.2.2.1, s.2.2.2.2.2.2.2.2.1, s.2.2.2.2.2.2.2.2.2.1, s.2.2.2.2.2.2.2.2.2.2.1, s.2.2.2.2.2.2.2.2.2.2.2.1, s.2.2.2.2.2.2.2.2.2.2.2.2.1, s.2.2.2.2.2.2.2.2.2.2.2.2.2)) else (f_X12_takes s.2.1 t_length0 s.2.2.1 t_tape (59 : Int32)).bind fun u4 => if u4.1 = 0 then ((L_X12_law_31 t_taped t_length0 t_clauses t_tape t_codes t_clauseOf t_codeFrom t_codeHalf t_codeTo k0 m) ((0 : Int32), u4.2.1, u4.2.2, s.2.2.2.1, s.2.2.2.2.1, s.2.2.2.2.2.1, s.2.2.2.2.2.2.1, s.2.2.2.2.2.2.2.1, s.2.2.2.2.2.2.2.2.1, s.2.2.2.2.2.2.2.2.2.1, s.2.2.2.2.2.2.2.2.2.2.1, s.2.2.2.2.2.2.2.2.2.2.2.1, s.2.2.2.2.2.2.2.2.2.2.2.2.1, s.2.2.2.2.2.2.2.2.2.2.2.2.2)) else (f_X12_readsRule u4.2.1 t_length0 u4.2.2 s.2.2.2.1 s.2.2.2.2.1 s.2.2.2.2.2.1 s.2.2.2.2.2.2.1 s.2.2.2.2.2.2.2.1 t_tape s.2.2.2.2.2.2.2.2.1 s.2.2.2.2.2.2.2.2.2.1 s.2.2.2.2.2.2.2.2.2.2.1 s.2.2.2.2.2.2.2.2.2.2.2.1 s.2.2.2.2.2.2.2.2.2.2.2.2.1 s.2.2.2.2.2.2.2.2.2.2.2.2.2).bind fun u5 => if u5.1 = 0 then ((L_X12_law_31 t_taped t_length0 t_clauses t_tape t_codes t_clauseOf t_codeFrom t_codeHalf t_codeTo k0 m) ((0 : Int32), u5.2.1, u5.2.2.1, u5.2.2.2.1, u5.2.2.2.2.1, u5.2.2.2.2.2.1, u5.2.2.2.2.2.2.1, u5.2.2.2.2.2.2.2.1, u5.2.2.2.2.2.2.2.2.1, u5.2.2.2.2.2.2.2.2.2.1, u5.2.2.2.2.2.2.2.2.2.2.1, u5.2.2.2.2.2.2.2.2.2.2.2.1, u5.2.2.2.2.2.2.2.2.2.2.2.2.1, u5.2.2.2.2.2.2.2.2.2.2.2.2.2)) else (L_X12_law_31 t_taped t_length0 t_clauses t_tape t_codes t_clauseOf t_codeFrom t_codeHalf t_codeTo k0 m) ((1 : Int32), u5.2.1, u5.2.2.1, u5.2.2.2.1, u5.2.2.2.2.1, u5.2.2.2.2.2.1, u5.2.2.2.2.2.2.1, u5.2.2.2.2.2.2.2.1, u5.2.2.2.2.2.2.2.2.1, u5.2.2.2.2.2.2.2.2.2.1, u5.2.2.2.2.2.2.2.2.2.2.1, u5.2.2.2.2.2.2.2.2.2.2.2.1, u5.2.2.2.2.2.2.2.2.2.2.2.2.1, u5.2.2.2.2.2.2.2.2.2.2.2.2.2)) := rfl
theorem laws_ok {n e : Nat} {t : Int32} {f g : Nat → Int32} {b : Nat → Nat} (tC : CTape (nI n) f n b) (tM : MTape t g n b) (ht : txt e b) (he : e ≤ n) (he2 : e ≤ 240) {a1 a2 : Int32} {a3 a4 a5 a6 a7 : Nat → Int32} (k0 : _) : ∀ (d r p s c : Nat) (x num o0 w0 : Int32) (sg va le am co en sa wa sl sf sh st : Nat → Int32) (W : LF) (m m' : Nat), r + d = 16 → p ≤ e → s ≤ p → c ≤ p → CRl r s sg va le am co en W → MRl r c sa sl sf sh st W → WRl r W → d + 3 ≤ m → d + 3 ≤ m' →
    (∃ w q r1 s8, 1 ≤ w ∧ w ≤ 5 ∧ q < 1000 ∧ Lo_X3_read_14 (nI e) (nI n) f m (nI r, nI s, nI r, sg, va, le, am, co, en, nI p, nI 0) = some r1 ∧ r1.2.2.2.2.2.2.2.2.2 = flt w q ∧ ((f_X12_readsRule (nI p) (nI e) x num o0 (nI c) w0 (nI r) g sa wa sl sf sh st).bind fun u => if u.1 = nI 0 then L_X12_law_31 a1 (nI e) a2 g a3 a4 a5 a6 a7 k0 m' (nI 0, u.2.1, u.2.2.1, u.2.2.2.1, u.2.2.2.2.1, u.2.2.2.2.2.1, u.2.2.2.2.2.2.1, u.2.2.2.2.2.2.2.1, u.2.2.2.2.2.2.2.2.1, u.2.2.2.2.2.2.2.2.2.1, u.2.2.2.2.2.2.2.2.2.2.1, u.2.2.2.2.2.2.2.2.2.2.2.1, u.2.2.2.2.2.2.2.2.2.2.2.2.1, u.2.2.2.2.2.2.2.2.2.2.2.2.2) else L_X12_law_31 a1 (nI e) a2 g a3 a4 a5 a6 a7 k0 m' (nI 1, u.2.1, u.2.2.1, u.2.2.2.1, u.2.2.2.2.1, u.2.2.2.2.2.1, u.2.2.2.2.2.2.1, u.2.2.2.2.2.2.2.1, u.2.2.2.2.2.2.2.2.1, u.2.2.2.2.2.2.2.2.2.1, u.2.2.2.2.2.2.2.2.2.2.1, u.2.2.2.2.2.2.2.2.2.2.2.1, u.2.2.2.2.2.2.2.2.2.2.2.2.1, u.2.2.2.2.2.2.2.2.2.2.2.2.2)) = k0 s8 ∧ s8.1 = nI 0 ∧ s8.2.2.1 = flt w q) ∨
    (∃ r' s' c' W' sg' va' le' am' co' en' pl s8, r' ≤ 16 ∧ s' ≤ e ∧ c' ≤ e ∧ Lo_X3_read_14 (nI e) (nI n) f m (nI r, nI s, nI r, sg, va, le, am, co, en, nI p, nI 0) = some (nI s', nI r', sg', va', le', am', co', en', pl, nI 0) ∧ CRl r' s' sg' va' le' am' co' en' W' ∧ WRl r' W' ∧ ((f_X12_readsRule (nI p) (nI e) x num o0 (nI c) w0 (nI r) g sa wa sl sf sh st).bind fun u => if u.1 = nI 0 then L_X12_law_31 a1 (nI e) a2 g a3 a4 a5 a6 a7 k0 m' (nI 0, u.2.1, u.2.2.1, u.2.2.2.1, u.2.2.2.2.1, u.2.2.2.2.2.1, u.2.2.2.2.2.2.1, u.2.2.2.2.2.2.2.1, u.2.2.2.2.2.2.2.2.1, u.2.2.2.2.2.2.2.2.2.1, u.2.2.2.2.2.2.2.2.2.2.1, u.2.2.2.2.2.2.2.2.2.2.2.1, u.2.2.2.2.2.2.2.2.2.2.2.2.1, u.2.2.2.2.2.2.2.2.2.2.2.2.2) else L_X12_law_31 a1 (nI e) a2 g a3 a4 a5 a6 a7 k0 m' (nI 1, u.2.1, u.2.2.1, u.2.2.2.1, u.2.2.2.2.1, u.2.2.2.2.2.1, u.2.2.2.2.2.2.1, u.2.2.2.2.2.2.2.1, u.2.2.2.2.2.2.2.2.1, u.2.2.2.2.2.2.2.2.2.1, u.2.2.2.2.2.2.2.2.2.2.1, u.2.2.2.2.2.2.2.2.2.2.2.1, u.2.2.2.2.2.2.2.2.2.2.2.2.1, u.2.2.2.2.2.2.2.2.2.2.2.2.2)) = k0 s8 ∧ s8.1 = nI 1 ∧ s8.2.2.2.2.2.1 = nI c' ∧ s8.2.2.2.2.2.2.2.1 = nI r' ∧ MRl r' c' s8.2.2.2.2.2.2.2.2.1 s8.2.2.2.2.2.2.2.2.2.2.1 s8.2.2.2.2.2.2.2.2.2.2.2.1 s8.2.2.2.2.2.2.2.2.2.2.2.2.1 s8.2.2.2.2.2.2.2.2.2.2.2.2.2 W') := by
  intro d
  induction d with
  | zero =>
    intro r p s c x num o0 w0 sg va le am co en sa wa sl sf sh st W m m' hr0 hp hs hc hC hM hB hm hm'
    obtain ⟨m, rfl⟩ : ∃ k, m = k + 1 := ⟨m - 1, by omega⟩
    obtain ⟨m', rfl⟩ : ∃ k, m' = k + 1 := ⟨m' - 1, by omega⟩
    have q16 : (nI 16 < nI r) = False := by rw [lt_nI (by omega) (by omega)]; exact eq_false (by omega)
    rcases rule_ok (sg := sg) (va := va) (sa := sa) (wa := wa) (le := le) (am := am) (co := co) (en := en) (sl := sl) (sf := sf) (sh := sh) (st := st) (x := x) (num := num) (o0 := o0) (w0 := w0) tC tM ht he he2 hp (show r ≤ 16 by omega) hs hc with ⟨w, q, r1, r2, h1, h2, h3, C, E1, M, E2, E3⟩ | ⟨l, A, Cd, p', s1, s', sg', va', c1, c', num', sa', wa', h1, _⟩
    · skip
      obtain ⟨z1, z2, z3, z4, z5, z6, z7, z8, z9, z10⟩ := r1
      obtain ⟨y1, y2, y3, y4, y5, y6, y7, y8, y9, y10, y11, y12, y13, y14⟩ := r2
      dsimp only at E1 E2 E3
      subst E1; subst E2; subst E3
      have hf := flt_ne w q h1 (by omega) (by omega)
      have C' : Lo_X3_read_14 (nI e) (nI n) f (m + 1) (nI r, nI s, nI r, sg, va, le, am, co, en, nI p, nI 0) = some (z3, z4, z5, z6, z7, z8, z9, z10, z1, flt w q) := by
        rw [st_X3_read_14]
        simp only [ltz]
        simp (disch := omega) only [↓reduceIte, ↓some_bind, ↓nm_eq, ↓jn_eq, ↓wr_nI, ↓rd_nI, ↓gb0, ↓gb1, n10, n00, q16, ↓bind_of sound_0, ↓bind_of C, ↓bind_of (sound_n hf)]
      have M' : ((f_X12_readsRule (nI p) (nI e) x num o0 (nI c) w0 (nI r) g sa wa sl sf sh st).bind fun u => if u.1 = nI 0 then L_X12_law_31 a1 (nI e) a2 g a3 a4 a5 a6 a7 k0 (m' + 1) (nI 0, u.2.1, u.2.2.1, u.2.2.2.1, u.2.2.2.2.1, u.2.2.2.2.2.1, u.2.2.2.2.2.2.1, u.2.2.2.2.2.2.2.1, u.2.2.2.2.2.2.2.2.1, u.2.2.2.2.2.2.2.2.2.1, u.2.2.2.2.2.2.2.2.2.2.1, u.2.2.2.2.2.2.2.2.2.2.2.1, u.2.2.2.2.2.2.2.2.2.2.2.2.1, u.2.2.2.2.2.2.2.2.2.2.2.2.2) else L_X12_law_31 a1 (nI e) a2 g a3 a4 a5 a6 a7 k0 (m' + 1) (nI 1, u.2.1, u.2.2.1, u.2.2.2.1, u.2.2.2.2.1, u.2.2.2.2.2.1, u.2.2.2.2.2.2.1, u.2.2.2.2.2.2.2.1, u.2.2.2.2.2.2.2.2.1, u.2.2.2.2.2.2.2.2.2.1, u.2.2.2.2.2.2.2.2.2.2.1, u.2.2.2.2.2.2.2.2.2.2.2.1, u.2.2.2.2.2.2.2.2.2.2.2.2.1, u.2.2.2.2.2.2.2.2.2.2.2.2.2)) = k0 (nI 0, y2, flt w q, y4, y5, y6, y7, y8, y9, y10, y11, y12, y13, y14) := by
        rw [M, some_bind]
        dsimp only
        rw [if_pos rfl, st_X12_law_31]
        simp only [ltz]
        simp (disch := omega) only [↓reduceIte, ↓some_bind, ↓nm_eq, ↓jn_eq, ↓wr_nI, ↓rd_nI, ↓gb0, ↓gb1, n10, n00]
      exact Or.inl ⟨w, q, _, _, h1, h2, h3, C', rfl, M', rfl, rfl⟩
    · omega
  | succ d ih =>
    intro r p s c x num o0 w0 sg va le am co en sa wa sl sf sh st W m m' hr0 hp hs hc hC hM hB hm hm'
    obtain ⟨m, rfl⟩ : ∃ k, m = k + 1 + 1 := ⟨m - 2, by omega⟩
    obtain ⟨m', rfl⟩ : ∃ k, m' = k + 1 + 1 := ⟨m' - 2, by omega⟩
    have q16 : (nI 16 < nI r) = False := by rw [lt_nI (by omega) (by omega)]; exact eq_false (by omega)
    have q17 : (nI 16 < nI (r + 1)) = False := by rw [lt_nI (by omega) (by omega)]; exact eq_false (by omega)
    rcases rule_ok (sg := sg) (va := va) (sa := sa) (wa := wa) (le := le) (am := am) (co := co) (en := en) (sl := sl) (sf := sf) (sh := sh) (st := st) (x := x) (num := num) (o0 := o0) (w0 := w0) tC tM ht he he2 hp (show r ≤ 16 by omega) hs hc with ⟨w, q, r1, r2, h1, h2, h3, C, E1, M, E2, E3⟩ | ⟨l, A, Cd, p', s1, s', sg', va', c1, c', num', sa', wa', h1, h2, h3, h4, h5, C, h6, h7, h8, h9, h10, M, h11, h12, h13, h14, h15⟩
    · skip
      obtain ⟨z1, z2, z3, z4, z5, z6, z7, z8, z9, z10⟩ := r1
      obtain ⟨y1, y2, y3, y4, y5, y6, y7, y8, y9, y10, y11, y12, y13, y14⟩ := r2
      dsimp only at E1 E2 E3
      subst E1; subst E2; subst E3
      have hf := flt_ne w q h1 (by omega) (by omega)
      have C' : Lo_X3_read_14 (nI e) (nI n) f (m + 1 + 1) (nI r, nI s, nI r, sg, va, le, am, co, en, nI p, nI 0) = some (z3, z4, z5, z6, z7, z8, z9, z10, z1, flt w q) := by
        rw [st_X3_read_14]
        simp only [ltz]
        simp (disch := omega) only [↓reduceIte, ↓some_bind, ↓nm_eq, ↓jn_eq, ↓wr_nI, ↓rd_nI, ↓gb0, ↓gb1, n10, n00, q16, ↓bind_of sound_0, ↓bind_of C, ↓bind_of (sound_n hf)]
      have M' : ((f_X12_readsRule (nI p) (nI e) x num o0 (nI c) w0 (nI r) g sa wa sl sf sh st).bind fun u => if u.1 = nI 0 then L_X12_law_31 a1 (nI e) a2 g a3 a4 a5 a6 a7 k0 (m' + 1 + 1) (nI 0, u.2.1, u.2.2.1, u.2.2.2.1, u.2.2.2.2.1, u.2.2.2.2.2.1, u.2.2.2.2.2.2.1, u.2.2.2.2.2.2.2.1, u.2.2.2.2.2.2.2.2.1, u.2.2.2.2.2.2.2.2.2.1, u.2.2.2.2.2.2.2.2.2.2.1, u.2.2.2.2.2.2.2.2.2.2.2.1, u.2.2.2.2.2.2.2.2.2.2.2.2.1, u.2.2.2.2.2.2.2.2.2.2.2.2.2) else L_X12_law_31 a1 (nI e) a2 g a3 a4 a5 a6 a7 k0 (m' + 1 + 1) (nI 1, u.2.1, u.2.2.1, u.2.2.2.1, u.2.2.2.2.1, u.2.2.2.2.2.1, u.2.2.2.2.2.2.1, u.2.2.2.2.2.2.2.1, u.2.2.2.2.2.2.2.2.1, u.2.2.2.2.2.2.2.2.2.1, u.2.2.2.2.2.2.2.2.2.2.1, u.2.2.2.2.2.2.2.2.2.2.2.1, u.2.2.2.2.2.2.2.2.2.2.2.2.1, u.2.2.2.2.2.2.2.2.2.2.2.2.2)) = k0 (nI 0, y2, flt w q, y4, y5, y6, y7, y8, y9, y10, y11, y12, y13, y14) := by
        rw [M, some_bind]
        dsimp only
        rw [if_pos rfl, st_X12_law_31]
        simp only [ltz]
        simp (disch := omega) only [↓reduceIte, ↓some_bind, ↓nm_eq, ↓jn_eq, ↓wr_nI, ↓rd_nI, ↓gb0, ↓gb1, n10, n00]
      exact Or.inl ⟨w, q, _, _, h1, h2, h3, C', rfl, M', rfl, rfl⟩
    · have hC2 := CRl_ex hC h8 h6 h4 h9 h10
      have hM2 := MRl_ex hM h13 h11 h4 h14 h15
      have hB2 := WRl_ex (l := l) (A := A) hB h5
      have hpe : p' < 100000 := by omega
      rw [st_X3_read_14, M, some_bind]
      dsimp only
      rw [if_neg (show ¬ nI 1 = nI 0 by decide), st_X12_law_31]
      simp only [ltz]
      by_cases hend : p' = e
      · have b1 : (nI p' < nI e) = False := by rw [lt_nI (by omega) (by omega)]; exact eq_false (by omega)
        have b2 : (nI e ≤ nI p') = True := by rw [le_nI (by omega) (by omega)]; exact eq_true (by omega)
        have aE : f_X7_isAtEnd (nI e) (nI p') = some (nI 1) := by unfold f_X7_isAtEnd; simp only [ltz, b1, ↓reduceIte]
        simp (disch := omega) only [↓reduceIte, ↓some_bind, ↓nm_eq, ↓jn_eq, ↓wr_nI, ↓rd_nI, ↓gb0, ↓gb1, n10, n00, q16, b2, ↓bind_of sound_0, ↓bind_of C, ↓bind_of aE]
        exact Or.inr ⟨r + 1, s', c', exL W r l A Cd, _, _, _, _, _, _, _, _, by omega, by omega, by omega, rfl, hC2, hB2, rfl, rfl, rfl, rfl, hM2⟩
      · have b1 : (nI p' < nI e) = True := by rw [lt_nI (by omega) (by omega)]; exact eq_true (by omega)
        have b2 : (nI e ≤ nI p') = False := by rw [le_nI (by omega) (by omega)]; exact eq_false (by omega)
        have aE : f_X7_isAtEnd (nI e) (nI p') = some (nI 0) := by unfold f_X7_isAtEnd; simp only [ltz, b1, ↓reduceIte]
        by_cases h59 : hN e b p' = 59
        · have wc := wantY tC ht he hpe (show 59 < 256 by omega) h59
          have wm := takesY (x := x) tC.1 tM ht he hpe (show 59 < 256 by omega) h59
          simp (disch := omega) only [↓reduceIte, ↓some_bind, ↓nm_eq, ↓jn_eq, ↓wr_nI, ↓rd_nI, ↓gb0, ↓gb1, n10, n00, q16, b2, add_nI, ↓bind_of sound_0, ↓bind_of C, ↓bind_of aE, ↓bind_of wc, ↓bind_of wm]
          exact ih (r + 1) (p' + 1) s' c' x num' (nI 0) (nI 0) sg' va' _ _ _ _ sa' wa' _ _ _ _ (exL W r l A Cd) (m + 1) (m' + 1) (by omega) (by have := hN_in ht h59 (by omega); omega) (by omega) (by omega) hC2 hM2 hB2 (by omega) (by omega)
        · have wc := wantN tC ht he hpe (show 59 < 256 by omega) h59
          have wm := takesN (x := x) tC.1 tM ht he hpe (show 59 < 256 by omega) h59
          have hf := flt_ne 1 p' (by omega) (by omega) hpe
          simp (disch := omega) only [↓reduceIte, ↓some_bind, ↓nm_eq, ↓jn_eq, ↓wr_nI, ↓rd_nI, ↓gb0, ↓gb1, n10, n00, q16, b2, add_nI, ↓bind_of sound_0, ↓bind_of C, ↓bind_of aE, ↓bind_of wc, ↓bind_of wm]
          rw [st_X3_read_14, st_X12_law_31]
          simp only [ltz]
          simp (disch := omega) only [↓reduceIte, ↓some_bind, ↓nm_eq, ↓jn_eq, ↓wr_nI, ↓rd_nI, ↓gb0, ↓gb1, n10, n00, q17, ↓bind_of (sound_n hf)]
          exact Or.inl ⟨1, p', _, _, by omega, by omega, by omega, rfl, rfl, rfl, rfl, rfl⟩
