/-! THE LAW: both sides -/
theorem copy95 {t1 t2 t3 t4 t5 t6 t8 t9 t10 : Int32} {g sa wa sl sf sh st co cf ch ct codes : Nat → Int32} {c : Nat} (hc : c ≤ 260) (k0 : _) : L_X12_law_95 t1 t2 t3 t4 t5 t6 (nI c) t8 t9 t10 g sa wa sl sf sh st co cf ch ct k0 fu (nI 0, codes) = k0 (mixN c sa codes) := by
  unfold L_X12_law_95
  refine lp_run0 (fun k => (nI k, mixN k sa codes)) c _ (by show _ = (nI 0, mixN 0 _ codes); rw [mix_0]) ?_ ?_ (fu_gt (by omega))
  · intro go k hk
    have q : (nI c ≤ nI k) = False := by rw [le_nI (by omega) (by omega)]; exact eq_false (by omega)
    simp (disch := omega) only [ltz, q, ↓reduceIte, ↓some_bind, ↓nm_eq, ↓jn_eq, ↓wr_nI, ↓rd_nI, ↓gb0, ↓gb1, n10, n00, mix_s, add_nI]
  · intro go
    have q : (nI c ≤ nI c) = True := by rw [le_nI (by omega) (by omega)]; exact eq_true (by omega)
    simp only [q, ↓reduceIte]
theorem copy123 {t1 t2 t3 t4 t5 t6 t7 t8 t10 : Int32} {g sa wa sl sf sh st co cf ch ct codes : Nat → Int32} {r : Nat} (hr : r ≤ 16) : L_X12_law_123 t1 t2 t3 t4 t5 t6 t7 t8 (nI r) t10 g sa wa sl sf sh st codes fu (nI 0, co, cf, ch, ct) = some (nI r, t1, t2, t3, t4, t5, t6, t7, t8, nI r, t10, sa, wa, sl, sf, sh, st, codes, mixN r sl co, mixN r sf cf, mixN r sh ch, mixN r st ct) := by
  unfold L_X12_law_123
  refine lp_run0 (fun k => (nI k, mixN k sl co, mixN k sf cf, mixN k sh ch, mixN k st ct)) r _ (by show _ = (nI 0, mixN 0 _ _, mixN 0 _ _, mixN 0 _ _, mixN 0 _ _); rw [mix_0, mix_0, mix_0, mix_0]) ?_ ?_ (fu_gt (by omega))
  · intro go k hk
    have q : (nI r ≤ nI k) = False := by rw [le_nI (by omega) (by omega)]; exact eq_false (by omega)
    simp (disch := omega) only [ltz, q, ↓reduceIte, ↓some_bind, ↓nm_eq, ↓jn_eq, ↓wr_nI, ↓rd_nI, ↓gb0, ↓gb1, n10, n00, mix_s, add_nI]
  · intro go
    have q : (nI r ≤ nI r) = True := by rw [le_nI (by omega) (by omega)]; exact eq_true (by omega)
    simp only [q, ↓reduceIte]
theorem B_law {n : Nat} {size taped : Int32} {f g : Nat → Int32} {b : Nat → Nat} (tC : CTape size f n b) (tM : MTape taped g n b) {se sp sf0 ls lr : Int32} {sg va le am co en : Nat → Int32} {pl len fa nu op cm wt sm cl : Int32} {sa wa sl sf sh st codes clauseOf codeFrom codeHalf codeTo : Nat → Int32} (x1 : Int32) :
    ∃ r r' n', fo_X11_law size f se sp sf0 ls lr sg va le am co en x1 = some r ∧ f_X12_law taped pl len fa nu op cm wt sm cl g sa wa sl sf sh st codes clauseOf codeFrom codeHalf codeTo x1 = some r' ∧ r.1 = r'.1 ∧ r.2.1 = nI n' ∧ r'.2.1 = nI n' ∧ n' ≤ n ∧
      (((r.2.2.2.2.2.2.2.2.2.2.2.2.2 = 0 ∨ r.2.2.2.2.2.2.2.2.2.2.2.2.2 = 1) ∧ r'.2.2.2.2.2.2.2.2.2.2.1 = cl ∧ r'.2.2.2.2.2.2.2.2.2.2.2.2.2.2.2.2.2.1 = codes ∧ r'.2.2.2.2.2.2.2.2.2.2.2.2.2.2.2.2.2.2.1 = clauseOf ∧ r'.2.2.2.2.2.2.2.2.2.2.2.2.2.2.2.2.2.2.2.1 = codeFrom ∧ r'.2.2.2.2.2.2.2.2.2.2.2.2.2.2.2.2.2.2.2.2.1 = codeHalf ∧ r'.2.2.2.2.2.2.2.2.2.2.2.2.2.2.2.2.2.2.2.2.2 = codeTo) ∨
       (r.2.2.2.2.2.2.2.2.2.2.2.2.2 = 2 ∧ ∃ W, CLaw r.2.2.2.2.2.2.1 r.2.2.2.2.2.2.2.1 r.2.2.2.2.2.2.2.2.1 r.2.2.2.2.2.2.2.2.2.1 r.2.2.2.2.2.2.2.2.2.2.1 r.2.2.2.2.2.2.2.2.2.2.2.1 r.2.2.2.2.2.2.2.2.2.2.2.2.1 W ∧ MLaw r'.2.2.2.2.2.2.2.2.2.2.1 r'.2.2.2.2.2.2.2.2.2.2.2.2.2.2.2.2.2.1 r'.2.2.2.2.2.2.2.2.2.2.2.2.2.2.2.2.2.2.1 r'.2.2.2.2.2.2.2.2.2.2.2.2.2.2.2.2.2.2.2.1 r'.2.2.2.2.2.2.2.2.2.2.2.2.2.2.2.2.2.2.2.2.1 r'.2.2.2.2.2.2.2.2.2.2.2.2.2.2.2.2.2.2.2.2.2 W ∧ WLaw W)) := by
  have tC0 := tC
  have tM0 := tM
  obtain ⟨t1, rfl, t2⟩ := tC
  obtain ⟨rfl, t3⟩ := tM
  unfold fo_X11_law f_X12_law fo_X7_open f_X8_clear f_X12_beginsText
  simp only [ltz]
  rcases in01 x1 1 240 (by omega) (by omega) with ⟨e1, e2⟩ | ⟨e, he1, he2, rfl, e1, e2⟩
  · simp only [e1, e2, some_bind, n00, ↓reduceIte]
    exact ⟨_, _, n, rfl, rfl, rfl, rfl, rfl, Nat.le_refl _, Or.inl ⟨Or.inl rfl, rfl, rfl, rfl, rfl, rfl, rfl⟩⟩
  rcases Nat.lt_or_ge n e with hen | hen
  · have q : (nI e ≤ nI n) = False := by rw [le_nI (by omega) (by omega)]; exact eq_false (by omega)
    simp only [e1, e2, some_bind, n10, q, ↓reduceIte]
    exact ⟨_, _, n, rfl, rfl, rfl, rfl, rfl, Nat.le_refl _, Or.inl ⟨Or.inl rfl, rfl, rfl, rfl, rfl, rfl, rfl⟩⟩
  have q : (nI e ≤ nI n) = True := by rw [le_nI (by omega) (by omega)]; exact eq_true hen
  have ht : txt e b := ⟨by omega, fun i hi => (t2 i (by omega)).2⟩
  simp only [e1, e2, ↓some_bind, n10, q, ↓reduceIte]
  unfold fo_X3_read f_X2_clear
  simp only [ltz, ↓some_bind]
  generalize hk0 : (fun s6 : Int32 × Int32 × Int32 × Int32 × Int32 × Int32 × Int32 × Int32 × (Nat → Int32) × (Nat → Int32) × (Nat → Int32) × (Nat → Int32) × (Nat → Int32) × (Nat → Int32) => ite (s6.1 = nI 0) _ _) = k0
  have key := laws_ok tC0 tM0 ht hen (by omega) k0 16 0 0 0 0 fa nu op wt sg va le am co en sa wa sl sf sh st (fun _ => 0, fun _ => numF 0, fun _ => numF 0) fu fu rfl (by omega) (by omega) (by omega) (fun q hq => absurd hq (by omega)) (fun q hq => absurd hq (by omega)) (fun q hq => absurd hq (by omega)) (fu_gt (by omega)) (fu_gt (by omega)) (a1 := nI n) (a2 := cl) (a3 := codes) (a4 := clauseOf) (a5 := codeFrom) (a6 := codeHalf) (a7 := codeTo)
  have key2 : ∀ K : Int32 × Int32 × Int32 × Int32 × Int32 × Int32 × Int32 × Int32 × (Nat → Int32) × (Nat → Int32) × (Nat → Int32) × (Nat → Int32) × (Nat → Int32) × (Nat → Int32) → Option (Int32 × Int32 × Int32 × Int32 × Int32 × Int32 × Int32 × Int32 × Int32 × Int32 × Int32 × (Nat → Int32) × (Nat → Int32) × (Nat → Int32) × (Nat → Int32) × (Nat → Int32) × (Nat → Int32) × (Nat → Int32) × (Nat → Int32) × (Nat → Int32) × (Nat → Int32) × (Nat → Int32)), ((f_X12_readsRule (nI 0) (nI e) fa nu op (nI 0) wt (nI 0) g sa wa sl sf sh st).bind fun u => K (u.1, u.2.1, u.2.2.1, u.2.2.2.1, u.2.2.2.2.1, u.2.2.2.2.2.1, u.2.2.2.2.2.2.1, u.2.2.2.2.2.2.2.1, u.2.2.2.2.2.2.2.2.1, u.2.2.2.2.2.2.2.2.2.1, u.2.2.2.2.2.2.2.2.2.2.1, u.2.2.2.2.2.2.2.2.2.2.2.1, u.2.2.2.2.2.2.2.2.2.2.2.2.1, u.2.2.2.2.2.2.2.2.2.2.2.2.2)) = ((f_X12_readsRule (nI 0) (nI e) fa nu op (nI 0) wt (nI 0) g sa wa sl sf sh st).bind fun u => if u.1 = nI 0 then K (nI 0, u.2.1, u.2.2.1, u.2.2.2.1, u.2.2.2.2.1, u.2.2.2.2.2.1, u.2.2.2.2.2.2.1, u.2.2.2.2.2.2.2.1, u.2.2.2.2.2.2.2.2.1, u.2.2.2.2.2.2.2.2.2.1, u.2.2.2.2.2.2.2.2.2.2.1, u.2.2.2.2.2.2.2.2.2.2.2.1, u.2.2.2.2.2.2.2.2.2.2.2.2.1, u.2.2.2.2.2.2.2.2.2.2.2.2.2) else K (nI 1, u.2.1, u.2.2.1, u.2.2.2.1, u.2.2.2.2.1, u.2.2.2.2.2.1, u.2.2.2.2.2.2.1, u.2.2.2.2.2.2.2.1, u.2.2.2.2.2.2.2.2.1, u.2.2.2.2.2.2.2.2.2.1, u.2.2.2.2.2.2.2.2.2.2.1, u.2.2.2.2.2.2.2.2.2.2.2.1, u.2.2.2.2.2.2.2.2.2.2.2.2.1, u.2.2.2.2.2.2.2.2.2.2.2.2.2)) := by
    intro K
    rcases rule_ok (p := 0) (s := 0) (c := 0) (r := 0) (sg := sg) (va := va) (sa := sa) (wa := wa) (le := le) (am := am) (co := co) (en := en) (sl := sl) (sf := sf) (sh := sh) (st := st) (x := fa) (num := nu) (o0 := op) (w0 := wt) tC0 tM0 ht hen (by omega) (by omega) (by omega) (by omega) (by omega) with ⟨w, q, r1, r2, h1, h2, h3, C, E1, M, E2, E3⟩ | ⟨l, A, Cd, p', s1, s', sg', va', c1, c', num', sa', wa', h1, h2, h3, h4, h5, C, h6, h7, h8, h9, h10, M, h11, h12, h13, h14, h15⟩
    · rw [M, some_bind, some_bind, E2, if_pos rfl]
    · rw [M, some_bind, some_bind, if_neg (show ¬ nI 1 = nI 0 by decide)]
  rw [key2]
  rcases key with ⟨w, q, r1, s8, h1, h2, h3, h4, h5, h6, h7, h8⟩ | ⟨r', s', c', W', sg', va', le', am', co', en', pl', s8, h1, h2, h3, h4, h5, h6, h7, h8, h9, h10, h11⟩
  · obtain ⟨z1, z2, z3, z4, z5, z6, z7, z8, z9, z10⟩ := r1
    obtain ⟨y1, y2, y3, y4, y5, y6, y7, y8, y9, y10, y11, y12, y13, y14⟩ := s8
    dsimp only at h5 h7 h8
    subst h5; subst h7; subst h8
    have hf := flt_ne w q h1 (by omega) (by omega)
    rw [h6, h4, ← hk0]
    simp only [↓some_bind, ↓bind_of (sound_n hf), ↓reduceIte]
    exact ⟨_, _, 0, rfl, rfl, rfl, rfl, rfl, Nat.zero_le _, Or.inl ⟨Or.inr rfl, rfl, rfl, rfl, rfl, rfl, rfl⟩⟩
  · obtain ⟨y1, y2, y3, y4, y5, y6, y7, y8, y9, y10, y11, y12, y13, y14⟩ := s8
    dsimp only at h8 h9 h10 h11
    subst h8; subst h9; subst h10
    rw [h7, h4, ← hk0]
    simp only [↓some_bind, ↓bind_of sound_0, n10, ↓reduceIte]
    rw [copy95 (by omega), copy123 h1]
    refine ⟨_, _, 0, rfl, rfl, rfl, rfl, rfl, Nat.zero_le _, Or.inr ⟨rfl, (r', W'.1, W'.2.1, W'.2.2), ⟨rfl, h1, fun q hq => ?_⟩, ⟨rfl, h1, fun q hq => ?_⟩, h6⟩⟩
    · obtain ⟨a, h, t, k1, k2, k3, k4, k5, k6, k7, k8⟩ := h5 q hq
      exact ⟨a, h, t, by omega, k2, k3, k4, k5, k6, k7, k8⟩
    · obtain ⟨a, h, t, k1, k2, k3, k4, k5, k6, k7, k8⟩ := h11 q hq
      have l7 := k7.1
      exact ⟨a, h, t, by omega, (mix_lt hq).trans k2, k3, (mix_lt hq).trans k4, (mix_lt hq).trans k5, (mix_lt hq).trans k6, SegM_congr k7 (fun z _ z2 => mix_lt (by omega)), fun hx => SegM_congr (k8 hx) (fun z _ z2 => mix_lt (by omega))⟩
