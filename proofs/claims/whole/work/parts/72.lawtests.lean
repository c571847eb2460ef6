/-! THE LAW: the class's readers of conditions -/
def Ch (va : Nat → Int32) : Int32 → List Nat → Prop
  | last, [] => last = -nI 1
  | last, j :: js => last = nI j ∧ j < 256 ∧ (∀ i, i ∈ js → i < j) ∧ Ch va (va j) js
theorem Ch_congr {va va' : Nat → Int32} : ∀ (js : List Nat) (last : Int32), (∀ i, i ∈ js → va' i = va i) → Ch va last js → Ch va' last js
  | [], _, _, h => h
  | j :: js, _, hc, h => by
    refine ⟨h.1, h.2.1, h.2.2.1, ?_⟩
    rw [hc j (List.mem_cons_self ..)]
    exact Ch_congr js _ (fun i hi => hc i (List.mem_cons_of_mem _ hi)) h.2.2.2
theorem st_X2_landJumps_4 (t_size : Int32) (m : Nat) (s : Int32 × Int32 × (Nat → Int32)) : L_X2_landJumps_4 t_size (m + 1) s = (if (256 : Int32) ≤ s.2.1 then (some s.2.2) else (f_X11_isWithin s.1 (0 : Int32) (255 : Int32)).bind fun u1 => if u1 = 0 then (some s.2.2) else rd s.2.2 256 s.1 fun v2 => wr s.2.2 256 s.1 t_size fun g3 => nm (s.2.1 + (1 : Int32)) fun v4 => (L_X2_landJumps_4 t_size m) (v2, v4, g3)) := rfl
theorem m1_in : f_X11_isWithin (-nI 1) (nI 0) (nI 255) = some (nI 0) := by decide
theorem landL_C {sz : Nat} : ∀ (js : List Nat) (last : Int32) (cnt m : Nat) (va : Nat → Int32), Ch va last js → cnt + js.length ≤ 250 → js.length < m → ∃ va', L_X2_landJumps_4 (nI sz) m (last, nI cnt, va) = some va' ∧ (∀ j, j ∈ js → va' j = nI sz) ∧ (∀ i, i ∉ js → va' i = va i) := by
  intro js
  induction js with
  | nil =>
    intro last cnt m va h hc hm
    obtain ⟨m, rfl⟩ : ∃ k, m = k + 1 := ⟨m - 1, by simp only [List.length_nil] at hm; omega⟩
    simp only [List.length_nil] at hc
    have h : last = -nI 1 := h
    subst h
    have q : (nI 256 ≤ nI cnt) = False := by rw [le_nI (by omega) (by omega)]; exact eq_false (by omega)
    rw [st_X2_landJumps_4]
    simp only [ltz]
    simp (disch := omega) only [q, ↓reduceIte, ↓bind_of m1_in, n00]
    exact ⟨va, rfl, fun j hj => (by cases hj), fun i _ => rfl⟩
  | cons j js ih =>
    intro last cnt m va h hc hm
    rw [List.length_cons] at hc hm
    obtain ⟨m, rfl⟩ : ∃ k, m = k + 1 := ⟨m - 1, by omega⟩
    obtain ⟨rfl, h2, h3, h4⟩ := h
    have q : (nI 256 ≤ nI cnt) = False := by rw [le_nI (by omega) (by omega)]; exact eq_false (by omega)
    have hin := in_Y (a := j) (l := 0) (h := 255) (by omega) (by omega) (by omega)
    obtain ⟨va', k1, k2, k3⟩ := ih (va j) (cnt + 1) m (upd va j (nI sz)) (Ch_congr js _ (fun i hi => upd_ne _ _ (by have := h3 i hi; omega)) h4) (by omega) (by omega)
    rw [st_X2_landJumps_4]
    simp only [ltz]
    simp (disch := omega) only [q, ↓reduceIte, ↓bind_of hin, n10, ↓rd_nI, ↓wr_nI, ↓nm_eq, add_nI]
    refine ⟨va', k1, fun i hi => ?_, fun i hi => ?_⟩
    · by_cases hjs : i ∈ js
      · exact k2 i hjs
      · have e : i = j := by
          rcases List.mem_cons.1 hi with h | h
          · exact h
          · exact absurd h hjs
        subst e
        rw [k3 i hjs]
        exact upd_at _ _ _
    · rw [k3 i (fun h => hi (List.mem_cons_of_mem _ h))]
      exact upd_ne _ _ (fun h => hi (by rw [h]; exact List.mem_cons_self ..))
theorem land_C {sz : Nat} {js : List Nat} {last : Int32} {va : Nat → Int32} (h : Ch va last js) (hl : js.length ≤ 250) : ∃ va', f_X2_landJumps (nI sz) va last = some va' ∧ (∀ j, j ∈ js → va' j = nI sz) ∧ (∀ i, i ∉ js → va' i = va i) := by
  unfold f_X2_landJumps
  simp only [ltz]
  exact landL_C js last 0 fu va h (by omega) (fu_gt (by omega))
theorem landL_T (sz : Int32) : ∀ (r cnt m : Nat) (x : Int32) (va : Nat → Int32), cnt + r = 256 → r < m → ∃ va', L_X2_landJumps_4 sz m (x, nI cnt, va) = some va' := by
  intro r
  induction r with
  | zero =>
    intro cnt m x va h hm
    obtain ⟨m, rfl⟩ : ∃ k, m = k + 1 := ⟨m - 1, by omega⟩
    have q : (nI 256 ≤ nI cnt) = True := by rw [le_nI (by omega) (by omega)]; exact eq_true (by omega)
    rw [st_X2_landJumps_4]
    simp only [ltz, q, ↓reduceIte]
    exact ⟨va, rfl⟩
  | succ r ih =>
    intro cnt m x va h hm
    obtain ⟨m, rfl⟩ : ∃ k, m = k + 1 := ⟨m - 1, by omega⟩
    have q : (nI 256 ≤ nI cnt) = False := by rw [le_nI (by omega) (by omega)]; exact eq_false (by omega)
    rw [st_X2_landJumps_4]
    simp only [ltz]
    rcases in01 x 0 255 (by omega) (by omega) with ⟨e1, _⟩ | ⟨j, _, hj, rfl, e1, _⟩
    · simp (disch := omega) only [q, ↓reduceIte, ↓bind_of e1, n00]
      exact ⟨va, rfl⟩
    · simp (disch := omega) only [q, ↓reduceIte, ↓bind_of e1, n10, ↓rd_nI, ↓wr_nI, ↓nm_eq, add_nI]
      exact ih (cnt + 1) m _ _ (by omega) (by omega)
theorem land_T (sz : Int32) (va : Nat → Int32) (x : Int32) : ∃ va', f_X2_landJumps sz va x = some va' := by
  unfold f_X2_landJumps
  simp only [ltz]
  exact landL_T sz 256 0 fu x va rfl (fu_gt (by omega))
theorem take_n {e p x s c : Int32} {f : Nat → Int32} (h : x ≠ nI 0) : fo_X7_take e p x s f c = some (nI 0, p) := by
  unfold fo_X7_take
  have h' : ¬ x = 0 := h
  rw [if_neg h']
  rfl
theorem mem_ltS {s s' : Nat} {js : List Nat} (h : ∀ j, j ∈ js → j < s) (hs : s ≤ s') : ∀ j, j ∈ s' :: js → j < s' + 1 := by
  intro j hj
  rcases List.mem_cons.1 hj with h1 | h1
  · omega
  · have := h j h1; omega
theorem not_memS {z s' : Nat} {js : List Nat} (h : z ∉ js) (h2 : z ≠ s') : z ∉ s' :: js := by
  intro hz
  rcases List.mem_cons.1 hz with h1 | h1
  · exact h2 h1
  · exact h h1
def HT (e n : Nat) (f : Nat → Int32) (b : Nat → Nat) (it : It) (rs : Int32 → Int32 → Int32 → Int32 → (Nat → Int32) → Int32 → (Nat → Int32) → (Nat → Int32) → Int32 → Option (Int32 × Int32 × Int32 × (Nat → Int32) × (Nat → Int32))) (o : Nat) : Prop := ∀ (p s : Nat) (sg va : Nat → Int32), 1 ≤ p → p ≤ e → s ≤ p → ∃ R, DD e b it o p R ∧ MC p s s 20 sg va (rs (nI e) (nI p) (nI 0) (nI n) f (nI s) sg va (nI o)) R
theorem st_X3_readPart_4 (rt : Int32 → Int32 → Int32 → Int32 → (Nat → Int32) → Int32 → (Nat → Int32) → (Nat → Int32) → Int32 → Option (Int32 × Int32 × Int32 × (Nat → Int32) × (Nat → Int32))) (script_end : Int32) (script_tape_size : Int32) (script_tape_bytes : (Nat → Int32)) (x1 : Int32) (k0 : Int32 × Int32 × Int32 × Int32 × (Nat → Int32) × (Nat → Int32) → Option (Int32 × Int32 × Int32 × (Nat → Int32) × (Nat → Int32))) (k1 : Int32 × Int32 × Int32 × Int32 × (Nat → Int32) × (Nat → Int32) → Option (Int32 × Int32 × Int32 × (Nat → Int32) × (Nat → Int32))) (m : Nat) (s : Int32 × Int32 × Int32 × Int32 × Int32 × (Nat → Int32) × (Nat → Int32)) : Lo_X3_readPart_4 rt script_end script_tape_size script_tape_bytes x1 k0 k1 (m + 1) s = (if (240 : Int32) ≤ s.2.1 then (k1 (s.1, s.2.2.1, s.2.2.2.1, s.2.2.2.2.1, s.2.2.2.2.2.1, s.2.2.2.2.2.2)) else (f_X7_isSound s.2.2.2.1).bind fun u1 => if u1 = 0 then (k1 (s.1, s.2.2.1, s.2.2.2.1, s.2.2.2.2.1, s.2.2.2.2.2.1, s.2.2.2.2.2.2)) else (rt script_end s.2.2.1 s.2.2.2.1 script_tape_size script_tape_bytes s.2.2.2.2.1 s.2.2.2.2.2.1 s.2.2.2.2.2.2 x1).bind fun u2 => (fo_X7_take script_end u2.1 u2.2.1 script_tape_size script_tape_bytes (38 : Int32)).bind fun u3 => if u3.1 = 0 then (k0 (s.1, u3.2, u2.2.1, u2.2.2.1, u2.2.2.2.1, u2.2.2.2.2)) else (f_X2_add u2.2.2.1 u2.2.2.2.1 u2.2.2.2.2 (38 : Int32) s.1).bind fun u4 => nm (s.2.1 + (1 : Int32)) fun v5 => (Lo_X3_readPart_4 rt script_end script_tape_size script_tape_bytes x1 k0 k1 m) (u4.1, v5, u3.2, u2.2.1, u4.2.1, u4.2.2.1, u4.2.2.2)) := rfl
theorem st_X3_readChoice_4 (rt : Int32 → Int32 → Int32 → Int32 → (Nat → Int32) → Int32 → (Nat → Int32) → (Nat → Int32) → Int32 → Option (Int32 × Int32 × Int32 × (Nat → Int32) × (Nat → Int32))) (script_end : Int32) (script_tape_size : Int32) (script_tape_bytes : (Nat → Int32)) (x1 : Int32) (k0 : Int32 × Int32 × Int32 × Int32 × (Nat → Int32) × (Nat → Int32) → Option (Int32 × Int32 × Int32 × (Nat → Int32) × (Nat → Int32))) (k1 : Int32 × Int32 × Int32 × Int32 × (Nat → Int32) × (Nat → Int32) → Option (Int32 × Int32 × Int32 × (Nat → Int32) × (Nat → Int32))) (m : Nat) (s : Int32 × Int32 × Int32 × Int32 × Int32 × (Nat → Int32) × (Nat → Int32)) : Lo_X3_readChoice_4 rt script_end script_tape_size script_tape_bytes x1 k0 k1 (m + 1) s = (if (240 : Int32) ≤ s.2.1 then (k1 (s.1, s.2.2.1, s.2.2.2.1, s.2.2.2.2.1, s.2.2.2.2.2.1, s.2.2.2.2.2.2)) else (f_X7_isSound s.2.2.2.1).bind fun u1 => if u1 = 0 then (k1 (s.1, s.2.2.1, s.2.2.2.1, s.2.2.2.2.1, s.2.2.2.2.2.1, s.2.2.2.2.2.2)) else (fo_X3_readPart rt script_end s.2.2.1 s.2.2.2.1 script_tape_size script_tape_bytes s.2.2.2.2.1 s.2.2.2.2.2.1 s.2.2.2.2.2.2 x1).bind fun u2 => (fo_X7_take script_end u2.1 u2.2.1 script_tape_size script_tape_bytes (124 : Int32)).bind fun u3 => if u3.1 = 0 then (k0 (s.1, u3.2, u2.2.1, u2.2.2.1, u2.2.2.2.1, u2.2.2.2.2)) else (f_X2_add u2.2.2.1 u2.2.2.2.1 u2.2.2.2.2 (124 : Int32) s.1).bind fun u4 => nm (s.2.1 + (1 : Int32)) fun v5 => (Lo_X3_readChoice_4 rt script_end script_tape_size script_tape_bytes x1 k0 k1 m) (u4.1, v5, u3.2, u2.2.1, u4.2.1, u4.2.2.1, u4.2.2.2)) := rfl
theorem partL_C {n e : Nat} {f : Nat → Int32} {b : Nat → Nat} (tC : CTape (nI n) f n b) (ht : txt e b) (he : e ≤ n) (he2 : e ≤ 240) (rt : Int32 → Int32 → Int32 → Int32 → (Nat → Int32) → Int32 → (Nat → Int32) → (Nat → Int32) → Int32 → Option (Int32 × Int32 × Int32 × (Nat → Int32) × (Nat → Int32))) {o : Nat} (hin : HT e n f b .tst rt o) : ∀ (k i p s m : Nat) (js : List Nat) (last : Int32) (sg va : Nat → Int32), e ≤ p + k → k + 1 < m → p ≤ e → i + 1 ≤ p → s ≤ p → Ch va last js → (∀ j, j ∈ js → j < s) → js.length + 1 ≤ p →
    ∃ R, DD e b .prt o p R ∧ (match R with
      | .inl (w, q) => ∃ p' s' sg' va', Lo_X3_readPart_4 rt (nI e) (nI n) f (nI o) (fun s6 => (f_X2_landJumps s6.2.2.2.1 s6.2.2.2.2.2 s6.1).bind fun u7 => some (s6.2.1, s6.2.2.1, s6.2.2.2.1, s6.2.2.2.2.1, u7)) (fun s6 => (f_X2_landJumps s6.2.2.2.1 s6.2.2.2.2.2 s6.1).bind fun u7 => some (s6.2.1, s6.2.2.1, s6.2.2.2.1, s6.2.2.2.2.1, u7)) m (last, nI i, nI p, nI 0, nI s, sg, va) = some (nI p', flt w q, nI s', sg', va') ∧ s' ≤ 256 ∧ p' < 1000
      | .inr (F, p') => ∃ s' sg' va', Lo_X3_readPart_4 rt (nI e) (nI n) f (nI o) (fun s6 => (f_X2_landJumps s6.2.2.2.1 s6.2.2.2.2.2 s6.1).bind fun u7 => some (s6.2.1, s6.2.2.1, s6.2.2.2.1, s6.2.2.2.2.1, u7)) (fun s6 => (f_X2_landJumps s6.2.2.2.1 s6.2.2.2.2.2 s6.1).bind fun u7 => some (s6.2.1, s6.2.2.1, s6.2.2.2.1, s6.2.2.2.2.1, u7)) m (last, nI i, nI p, nI 0, nI s, sg, va) = some (nI p', nI 0, nI s', sg', va') ∧ s ≤ s' ∧ s' + p ≤ s + p' ∧ (∀ i, i < s → sg' i = sg i ∧ (i ∉ js → va' i = va i)) ∧ (∀ j, j ∈ js → va' j = nI s') ∧ SegC sg' va' s s' 20 F) := by
  intro k
  induction k with
  | zero =>
    intro i p s m js last sg va hk hm hp hi hs hch hjs hjl
    obtain ⟨m, rfl⟩ : ∃ k, m = k + 1 := ⟨m - 1, by omega⟩
    have q : (nI 240 ≤ nI i) = False := by rw [le_nI (by omega) (by omega)]; exact eq_false (by omega)
    obtain ⟨R1, D1, M1⟩ := hin p s sg va (by omega) hp hs
    have hro := DD_ok D1 hp
    rcases R1 with ⟨w, q1⟩ | ⟨F, p'⟩
    · skip
      obtain ⟨p', s', sg', va', M1, hs', hp'⟩ := M1
      obtain ⟨r1, r2, r3⟩ := hro
      have hf := flt_ne w q1 r1 (by omega) (by omega)
      obtain ⟨va2, hl⟩ := land_T (nI s') va' last
      refine ⟨_, DD.aB D1, ?_⟩
      rw [st_X3_readPart_4]
      simp only [ltz]
      simp (disch := omega) only [↓reduceIte, ↓some_bind, ↓nm_eq, ↓jn_eq, ↓wr_nI, ↓rd_nI, ↓gb0, ↓gb1, n10, n00, q, ↓bind_of sound_0, ↓bind_of M1, ↓bind_of (take_n hf), ↓bind_of hl]
      exact ⟨_, s', _, _, rfl, hs', hp'⟩
    · skip
      obtain ⟨s', sg', va', M1, g1, g2, g3, g4⟩ := M1
      obtain ⟨r1, r2, r3⟩ := hro
      have r1 : p + 1 ≤ p' := r1
      by_cases hc : hN e b p' = 38
      · have tk := takeY tC ht he (show p' < 100000 by omega) (show 38 < 256 by omega) hc
        have hpe := sgn_eq hc (by omega)
        omega
      · have tk := takeN tC ht he (show p' < 100000 by omega) (show 38 < 256 by omega) hc
        obtain ⟨va2, hl, l1, l2⟩ := land_C (sz := s') (Ch_congr js last (fun j hj => (g3 j (hjs j hj)).2) hch) (by omega)
        refine ⟨_, DD.aE D1 hc, s', sg', va2, ?_, g1, by omega, fun i hi => ⟨(g3 i hi).1, fun hn => (l2 i hn).trans (g3 i hi).2⟩, l1, SegC_congr g4 (fun z h1 h2 => ⟨rfl, l2 z (fun h => by have := hjs z h; omega)⟩)⟩
        rw [st_X3_readPart_4]
        simp only [ltz]
        simp (disch := omega) only [↓reduceIte, ↓some_bind, ↓nm_eq, ↓jn_eq, ↓wr_nI, ↓rd_nI, ↓gb0, ↓gb1, n10, n00, q, ↓bind_of sound_0, ↓bind_of M1, ↓bind_of tk, ↓bind_of hl]
  | succ k ih =>
    intro i p s m js last sg va hk hm hp hi hs hch hjs hjl
    obtain ⟨m, rfl⟩ : ∃ k, m = k + 1 := ⟨m - 1, by omega⟩
    have q : (nI 240 ≤ nI i) = False := by rw [le_nI (by omega) (by omega)]; exact eq_false (by omega)
    obtain ⟨R1, D1, M1⟩ := hin p s sg va (by omega) hp hs
    have hro := DD_ok D1 hp
    rcases R1 with ⟨w, q1⟩ | ⟨F, p'⟩
    · skip
      obtain ⟨p', s', sg', va', M1, hs', hp'⟩ := M1
      obtain ⟨r1, r2, r3⟩ := hro
      have hf := flt_ne w q1 r1 (by omega) (by omega)
      obtain ⟨va2, hl⟩ := land_T (nI s') va' last
      refine ⟨_, DD.aB D1, ?_⟩
      rw [st_X3_readPart_4]
      simp only [ltz]
      simp (disch := omega) only [↓reduceIte, ↓some_bind, ↓nm_eq, ↓jn_eq, ↓wr_nI, ↓rd_nI, ↓gb0, ↓gb1, n10, n00, q, ↓bind_of sound_0, ↓bind_of M1, ↓bind_of (take_n hf), ↓bind_of hl]
      exact ⟨_, s', _, _, rfl, hs', hp'⟩
    · skip
      obtain ⟨s', sg', va', M1, g1, g2, g3, g4⟩ := M1
      obtain ⟨r1, r2, r3⟩ := hro
      have r1 : p + 1 ≤ p' := r1
      by_cases hc : hN e b p' = 38
      · have tk := takeY tC ht he (show p' < 100000 by omega) (show 38 < 256 by omega) hc
        have hpe := sgn_eq hc (by omega)
        have hadd := put_C (s := s') (by omega) sg' va' (nI 38) last
        obtain ⟨R2, D2, M2⟩ := ih (i + 1) (p' + 1) (s' + 1) m (s' :: js) (nI s') (upd sg' s' (nI 38)) (upd va' s' last) (by omega) (by omega) (by omega) (by omega) (by omega) ⟨rfl, by omega, fun j hj => by have := hjs j hj; omega, by rw [upd_at]; exact Ch_congr js last (fun j hj => by have := hjs j hj; rw [upd_ne _ _ (by omega)]; exact (g3 j this).2) hch⟩ (mem_ltS hjs g1) (by rw [List.length_cons]; omega)
        have run : Lo_X3_readPart_4 rt (nI e) (nI n) f (nI o) (fun s6 => (f_X2_landJumps s6.2.2.2.1 s6.2.2.2.2.2 s6.1).bind fun u7 => some (s6.2.1, s6.2.2.1, s6.2.2.2.1, s6.2.2.2.2.1, u7)) (fun s6 => (f_X2_landJumps s6.2.2.2.1 s6.2.2.2.2.2 s6.1).bind fun u7 => some (s6.2.1, s6.2.2.1, s6.2.2.2.1, s6.2.2.2.2.1, u7)) (m + 1) (last, nI i, nI p, nI 0, nI s, sg, va) = Lo_X3_readPart_4 rt (nI e) (nI n) f (nI o) (fun s6 => (f_X2_landJumps s6.2.2.2.1 s6.2.2.2.2.2 s6.1).bind fun u7 => some (s6.2.1, s6.2.2.1, s6.2.2.2.1, s6.2.2.2.2.1, u7)) (fun s6 => (f_X2_landJumps s6.2.2.2.1 s6.2.2.2.2.2 s6.1).bind fun u7 => some (s6.2.1, s6.2.2.1, s6.2.2.2.1, s6.2.2.2.2.1, u7)) m (nI s', nI (i + 1), nI (p' + 1), nI 0, nI (s' + 1), upd sg' s' (nI 38), upd va' s' last) := by
          rw [st_X3_readPart_4]
          simp only [ltz]
          simp (disch := omega) only [↓reduceIte, ↓some_bind, ↓nm_eq, ↓jn_eq, ↓wr_nI, ↓rd_nI, ↓gb0, ↓gb1, n10, n00, q, ↓bind_of sound_0, ↓bind_of M1, ↓bind_of tk, ↓bind_of hadd, add_nI]
        rcases R2 with ⟨w, q1⟩ | ⟨G, p2⟩
        · skip
          obtain ⟨p2, s2, sg2, va2, M2, hs2, hp2⟩ := M2
          refine ⟨_, DD.aNB D1 hc D2, p2, s2, sg2, va2, ?_, hs2, hp2⟩
          rw [run]
          exact M2
        · skip
          obtain ⟨s2, sg2, va2, M2, k1, k2, k3, k4, k5⟩ := M2
          refine ⟨_, DD.aN D1 hc D2, s2, sg2, va2, ?_, by omega, by omega, fun i hi => ?_, fun j hj => k4 j (List.mem_cons_of_mem _ hj), ?_⟩
          · rw [run]
            exact M2
          · have x := k3 i (by omega)
            have y := g3 i hi
            refine ⟨?_, fun hn => ?_⟩
            · rw [x.1, upd_ne _ _ (by omega)]; exact y.1
            · rw [x.2 (not_memS hn (by omega)), upd_ne _ _ (by omega)]
              exact y.2
          · have hA : SegC sg2 va2 s s' 20 F := SegC_congr g4 (fun z h1 h2 => by
              have x := k3 z (by omega)
              refine ⟨?_, ?_⟩
              · rw [x.1, upd_ne _ _ (by omega)]
              · rw [x.2 (not_memS (fun h => by have := hjs z h; omega) (by omega)), upd_ne _ _ (by omega)])
            exact SegC_and (by omega) hA k5 (by rw [(k3 s' (by omega)).1, upd_at]) (k4 s' (List.mem_cons_self ..))
      · have tk := takeN tC ht he (show p' < 100000 by omega) (show 38 < 256 by omega) hc
        obtain ⟨va2, hl, l1, l2⟩ := land_C (sz := s') (Ch_congr js last (fun j hj => (g3 j (hjs j hj)).2) hch) (by omega)
        refine ⟨_, DD.aE D1 hc, s', sg', va2, ?_, g1, by omega, fun i hi => ⟨(g3 i hi).1, fun hn => (l2 i hn).trans (g3 i hi).2⟩, l1, SegC_congr g4 (fun z h1 h2 => ⟨rfl, l2 z (fun h => by have := hjs z h; omega)⟩)⟩
        rw [st_X3_readPart_4]
        simp only [ltz]
        simp (disch := omega) only [↓reduceIte, ↓some_bind, ↓nm_eq, ↓jn_eq, ↓wr_nI, ↓rd_nI, ↓gb0, ↓gb1, n10, n00, q, ↓bind_of sound_0, ↓bind_of M1, ↓bind_of tk, ↓bind_of hl]
theorem part_C {n e : Nat} {f : Nat → Int32} {b : Nat → Nat} (tC : CTape (nI n) f n b) (ht : txt e b) (he : e ≤ n) (he2 : e ≤ 240) (rt : Int32 → Int32 → Int32 → Int32 → (Nat → Int32) → Int32 → (Nat → Int32) → (Nat → Int32) → Int32 → Option (Int32 × Int32 × Int32 × (Nat → Int32) × (Nat → Int32))) {o : Nat} (hin : HT e n f b .tst rt o) : HT e n f b .prt (fo_X3_readPart rt) o := by
  intro p s sg va hp1 hp hs
  obtain ⟨R, D1, M1⟩ := partL_C tC ht he he2 rt hin e 0 p s fu [] (-nI 1) sg va (by omega) (fu_gt (by omega)) hp (by omega) hs rfl (fun j hj => (by cases hj)) (by simp only [List.length_nil]; omega)
  refine ⟨R, D1, ?_⟩
  unfold fo_X3_readPart
  simp only [ltz]
  rcases R with ⟨w, q⟩ | ⟨G, p'⟩
  · exact M1
  · skip
    obtain ⟨s', sg', va', M1, g1, g2, g3, g4, g5⟩ := M1
    exact ⟨s', sg', va', M1, g1, g2, fun i hi => ⟨(g3 i hi).1, (g3 i hi).2 (by intro h; cases h)⟩, g5⟩
theorem choiceL_C {n e : Nat} {f : Nat → Int32} {b : Nat → Nat} (tC : CTape (nI n) f n b) (ht : txt e b) (he : e ≤ n) (he2 : e ≤ 240) (rt : Int32 → Int32 → Int32 → Int32 → (Nat → Int32) → Int32 → (Nat → Int32) → (Nat → Int32) → Int32 → Option (Int32 × Int32 × Int32 × (Nat → Int32) × (Nat → Int32))) {o : Nat} (hin : HT e n f b .prt (fo_X3_readPart rt) o) : ∀ (k i p s m : Nat) (js : List Nat) (last : Int32) (sg va : Nat → Int32), e ≤ p + k → k + 1 < m → p ≤ e → i + 1 ≤ p → s ≤ p → Ch va last js → (∀ j, j ∈ js → j < s) → js.length + 1 ≤ p →
    ∃ R, DD e b .cho o p R ∧ (match R with
      | .inl (w, q) => ∃ p' s' sg' va', Lo_X3_readChoice_4 rt (nI e) (nI n) f (nI o) (fun s6 => (f_X2_landJumps s6.2.2.2.1 s6.2.2.2.2.2 s6.1).bind fun u7 => some (s6.2.1, s6.2.2.1, s6.2.2.2.1, s6.2.2.2.2.1, u7)) (fun s6 => (f_X2_landJumps s6.2.2.2.1 s6.2.2.2.2.2 s6.1).bind fun u7 => some (s6.2.1, s6.2.2.1, s6.2.2.2.1, s6.2.2.2.2.1, u7)) m (last, nI i, nI p, nI 0, nI s, sg, va) = some (nI p', flt w q, nI s', sg', va') ∧ s' ≤ 256 ∧ p' < 1000
      | .inr (F, p') => ∃ s' sg' va', Lo_X3_readChoice_4 rt (nI e) (nI n) f (nI o) (fun s6 => (f_X2_landJumps s6.2.2.2.1 s6.2.2.2.2.2 s6.1).bind fun u7 => some (s6.2.1, s6.2.2.1, s6.2.2.2.1, s6.2.2.2.2.1, u7)) (fun s6 => (f_X2_landJumps s6.2.2.2.1 s6.2.2.2.2.2 s6.1).bind fun u7 => some (s6.2.1, s6.2.2.1, s6.2.2.2.1, s6.2.2.2.2.1, u7)) m (last, nI i, nI p, nI 0, nI s, sg, va) = some (nI p', nI 0, nI s', sg', va') ∧ s ≤ s' ∧ s' + p ≤ s + p' ∧ (∀ i, i < s → sg' i = sg i ∧ (i ∉ js → va' i = va i)) ∧ (∀ j, j ∈ js → va' j = nI s') ∧ SegC sg' va' s s' 20 F) := by
  intro k
  induction k with
  | zero =>
    intro i p s m js last sg va hk hm hp hi hs hch hjs hjl
    obtain ⟨m, rfl⟩ : ∃ k, m = k + 1 := ⟨m - 1, by omega⟩
    have q : (nI 240 ≤ nI i) = False := by rw [le_nI (by omega) (by omega)]; exact eq_false (by omega)
    obtain ⟨R1, D1, M1⟩ := hin p s sg va (by omega) hp hs
    have hro := DD_ok D1 hp
    rcases R1 with ⟨w, q1⟩ | ⟨F, p'⟩
    · skip
      obtain ⟨p', s', sg', va', M1, hs', hp'⟩ := M1
      obtain ⟨r1, r2, r3⟩ := hro
      have hf := flt_ne w q1 r1 (by omega) (by omega)
      obtain ⟨va2, hl⟩ := land_T (nI s') va' last
      refine ⟨_, DD.oB D1, ?_⟩
      rw [st_X3_readChoice_4]
      simp only [ltz]
      simp (disch := omega) only [↓reduceIte, ↓some_bind, ↓nm_eq, ↓jn_eq, ↓wr_nI, ↓rd_nI, ↓gb0, ↓gb1, n10, n00, q, ↓bind_of sound_0, ↓bind_of M1, ↓bind_of (take_n hf), ↓bind_of hl]
      exact ⟨_, s', _, _, rfl, hs', hp'⟩
    · skip
      obtain ⟨s', sg', va', M1, g1, g2, g3, g4⟩ := M1
      obtain ⟨r1, r2, r3⟩ := hro
      have r1 : p + 1 ≤ p' := r1
      by_cases hc : hN e b p' = 124
      · have tk := takeY tC ht he (show p' < 100000 by omega) (show 124 < 256 by omega) hc
        have hpe := sgn_eq hc (by omega)
        omega
      · have tk := takeN tC ht he (show p' < 100000 by omega) (show 124 < 256 by omega) hc
        obtain ⟨va2, hl, l1, l2⟩ := land_C (sz := s') (Ch_congr js last (fun j hj => (g3 j (hjs j hj)).2) hch) (by omega)
        refine ⟨_, DD.oE D1 hc, s', sg', va2, ?_, g1, by omega, fun i hi => ⟨(g3 i hi).1, fun hn => (l2 i hn).trans (g3 i hi).2⟩, l1, SegC_congr g4 (fun z h1 h2 => ⟨rfl, l2 z (fun h => by have := hjs z h; omega)⟩)⟩
        rw [st_X3_readChoice_4]
        simp only [ltz]
        simp (disch := omega) only [↓reduceIte, ↓some_bind, ↓nm_eq, ↓jn_eq, ↓wr_nI, ↓rd_nI, ↓gb0, ↓gb1, n10, n00, q, ↓bind_of sound_0, ↓bind_of M1, ↓bind_of tk, ↓bind_of hl]
  | succ k ih =>
    intro i p s m js last sg va hk hm hp hi hs hch hjs hjl
    obtain ⟨m, rfl⟩ : ∃ k, m = k + 1 := ⟨m - 1, by omega⟩
    have q : (nI 240 ≤ nI i) = False := by rw [le_nI (by omega) (by omega)]; exact eq_false (by omega)
    obtain ⟨R1, D1, M1⟩ := hin p s sg va (by omega) hp hs
    have hro := DD_ok D1 hp
    rcases R1 with ⟨w, q1⟩ | ⟨F, p'⟩
    · skip
      obtain ⟨p', s', sg', va', M1, hs', hp'⟩ := M1
      obtain ⟨r1, r2, r3⟩ := hro
      have hf := flt_ne w q1 r1 (by omega) (by omega)
      obtain ⟨va2, hl⟩ := land_T (nI s') va' last
      refine ⟨_, DD.oB D1, ?_⟩
      rw [st_X3_readChoice_4]
      simp only [ltz]
      simp (disch := omega) only [↓reduceIte, ↓some_bind, ↓nm_eq, ↓jn_eq, ↓wr_nI, ↓rd_nI, ↓gb0, ↓gb1, n10, n00, q, ↓bind_of sound_0, ↓bind_of M1, ↓bind_of (take_n hf), ↓bind_of hl]
      exact ⟨_, s', _, _, rfl, hs', hp'⟩
    · skip
      obtain ⟨s', sg', va', M1, g1, g2, g3, g4⟩ := M1
      obtain ⟨r1, r2, r3⟩ := hro
      have r1 : p + 1 ≤ p' := r1
      by_cases hc : hN e b p' = 124
      · have tk := takeY tC ht he (show p' < 100000 by omega) (show 124 < 256 by omega) hc
        have hpe := sgn_eq hc (by omega)
        have hadd := put_C (s := s') (by omega) sg' va' (nI 124) last
        obtain ⟨R2, D2, M2⟩ := ih (i + 1) (p' + 1) (s' + 1) m (s' :: js) (nI s') (upd sg' s' (nI 124)) (upd va' s' last) (by omega) (by omega) (by omega) (by omega) (by omega) ⟨rfl, by omega, fun j hj => by have := hjs j hj; omega, by rw [upd_at]; exact Ch_congr js last (fun j hj => by have := hjs j hj; rw [upd_ne _ _ (by omega)]; exact (g3 j this).2) hch⟩ (mem_ltS hjs g1) (by rw [List.length_cons]; omega)
        have run : Lo_X3_readChoice_4 rt (nI e) (nI n) f (nI o) (fun s6 => (f_X2_landJumps s6.2.2.2.1 s6.2.2.2.2.2 s6.1).bind fun u7 => some (s6.2.1, s6.2.2.1, s6.2.2.2.1, s6.2.2.2.2.1, u7)) (fun s6 => (f_X2_landJumps s6.2.2.2.1 s6.2.2.2.2.2 s6.1).bind fun u7 => some (s6.2.1, s6.2.2.1, s6.2.2.2.1, s6.2.2.2.2.1, u7)) (m + 1) (last, nI i, nI p, nI 0, nI s, sg, va) = Lo_X3_readChoice_4 rt (nI e) (nI n) f (nI o) (fun s6 => (f_X2_landJumps s6.2.2.2.1 s6.2.2.2.2.2 s6.1).bind fun u7 => some (s6.2.1, s6.2.2.1, s6.2.2.2.1, s6.2.2.2.2.1, u7)) (fun s6 => (f_X2_landJumps s6.2.2.2.1 s6.2.2.2.2.2 s6.1).bind fun u7 => some (s6.2.1, s6.2.2.1, s6.2.2.2.1, s6.2.2.2.2.1, u7)) m (nI s', nI (i + 1), nI (p' + 1), nI 0, nI (s' + 1), upd sg' s' (nI 124), upd va' s' last) := by
          rw [st_X3_readChoice_4]
          simp only [ltz]
          simp (disch := omega) only [↓reduceIte, ↓some_bind, ↓nm_eq, ↓jn_eq, ↓wr_nI, ↓rd_nI, ↓gb0, ↓gb1, n10, n00, q, ↓bind_of sound_0, ↓bind_of M1, ↓bind_of tk, ↓bind_of hadd, add_nI]
        rcases R2 with ⟨w, q1⟩ | ⟨G, p2⟩
        · skip
          obtain ⟨p2, s2, sg2, va2, M2, hs2, hp2⟩ := M2
          refine ⟨_, DD.oNB D1 hc D2, p2, s2, sg2, va2, ?_, hs2, hp2⟩
          rw [run]
          exact M2
        · skip
          obtain ⟨s2, sg2, va2, M2, k1, k2, k3, k4, k5⟩ := M2
          refine ⟨_, DD.oN D1 hc D2, s2, sg2, va2, ?_, by omega, by omega, fun i hi => ?_, fun j hj => k4 j (List.mem_cons_of_mem _ hj), ?_⟩
          · rw [run]
            exact M2
          · have x := k3 i (by omega)
            have y := g3 i hi
            refine ⟨?_, fun hn => ?_⟩
            · rw [x.1, upd_ne _ _ (by omega)]; exact y.1
            · rw [x.2 (not_memS hn (by omega)), upd_ne _ _ (by omega)]
              exact y.2
          · have hA : SegC sg2 va2 s s' 20 F := SegC_congr g4 (fun z h1 h2 => by
              have x := k3 z (by omega)
              refine ⟨?_, ?_⟩
              · rw [x.1, upd_ne _ _ (by omega)]
              · rw [x.2 (not_memS (fun h => by have := hjs z h; omega) (by omega)), upd_ne _ _ (by omega)])
            exact SegC_or (by omega) hA k5 (by rw [(k3 s' (by omega)).1, upd_at]) (k4 s' (List.mem_cons_self ..))
      · have tk := takeN tC ht he (show p' < 100000 by omega) (show 124 < 256 by omega) hc
        obtain ⟨va2, hl, l1, l2⟩ := land_C (sz := s') (Ch_congr js last (fun j hj => (g3 j (hjs j hj)).2) hch) (by omega)
        refine ⟨_, DD.oE D1 hc, s', sg', va2, ?_, g1, by omega, fun i hi => ⟨(g3 i hi).1, fun hn => (l2 i hn).trans (g3 i hi).2⟩, l1, SegC_congr g4 (fun z h1 h2 => ⟨rfl, l2 z (fun h => by have := hjs z h; omega)⟩)⟩
        rw [st_X3_readChoice_4]
        simp only [ltz]
        simp (disch := omega) only [↓reduceIte, ↓some_bind, ↓nm_eq, ↓jn_eq, ↓wr_nI, ↓rd_nI, ↓gb0, ↓gb1, n10, n00, q, ↓bind_of sound_0, ↓bind_of M1, ↓bind_of tk, ↓bind_of hl]
theorem choice_C {n e : Nat} {f : Nat → Int32} {b : Nat → Nat} (tC : CTape (nI n) f n b) (ht : txt e b) (he : e ≤ n) (he2 : e ≤ 240) (rt : Int32 → Int32 → Int32 → Int32 → (Nat → Int32) → Int32 → (Nat → Int32) → (Nat → Int32) → Int32 → Option (Int32 × Int32 × Int32 × (Nat → Int32) × (Nat → Int32))) {o : Nat} (hin : HT e n f b .prt (fo_X3_readPart rt) o) : HT e n f b .cho (fo_X3_readChoice rt) o := by
  intro p s sg va hp1 hp hs
  obtain ⟨R, D1, M1⟩ := choiceL_C tC ht he he2 rt hin e 0 p s fu [] (-nI 1) sg va (by omega) (fu_gt (by omega)) hp (by omega) hs rfl (fun j hj => (by cases hj)) (by simp only [List.length_nil]; omega)
  refine ⟨R, D1, ?_⟩
  unfold fo_X3_readChoice
  simp only [ltz]
  rcases R with ⟨w, q⟩ | ⟨G, p'⟩
  · exact M1
  · skip
    obtain ⟨s', sg', va', M1, g1, g2, g3, g4, g5⟩ := M1
    exact ⟨s', sg', va', M1, g1, g2, fun i hi => ⟨(g3 i hi).1, (g3 i hi).2 (by intro h; cases h)⟩, g5⟩
theorem test_C {n e : Nat} {f : Nat → Int32} {b : Nat → Nat} (tC : CTape (nI n) f n b) (ht : txt e b) (he : e ≤ n) (he2 : e ≤ 240) (rt : Int32 → Int32 → Int32 → Int32 → (Nat → Int32) → Int32 → (Nat → Int32) → (Nat → Int32) → Int32 → Option (Int32 × Int32 × Int32 × (Nat → Int32) × (Nat → Int32))) {o : Nat} (ho : o ≤ 6) (ih : o < 6 → HT e n f b .tst rt (o + 1)) : HT e n f b .tst (Fo_X3_readTest rt) o := by
  intro p s sg va hp1 hp hs
  have hc0 := sign_C tC he (show p < 100000 by omega)
  have s33 := eq_hr ht p (c := 33) (by omega)
  have s40 := eq_hr ht p (c := 40) (by omega)
  unfold Fo_X3_readTest
  simp only [ltz]
  have hmY : o < 6 → fo_X3_mayOpen (nI p) (nI 0) (nI o) = some (nI 1, nI (p + 1), nI 0) := by
    intro ho6
    have q : (nI o < nI 6) = True := by rw [lt_nI (by omega) (by omega)]; exact eq_true ho6
    unfold fo_X3_mayOpen
    simp only [ltz, q, ↓reduceIte, nm_eq, add_nI]
  have hmN : ¬ o < 6 → fo_X3_mayOpen (nI p) (nI 0) (nI o) = some (nI 0, nI p, flt 5 p) := by
    intro ho6
    have q : (nI o < nI 6) = False := by rw [lt_nI (by omega) (by omega)]; exact eq_false ho6
    unfold fo_X3_mayOpen
    simp only [ltz, q, ↓reduceIte, ↓bind_of (fail_0 5 p)]
  by_cases h33 : hN e b p = 33
  · have hpe := sgn_eq h33 (by omega)
    rw [eq_true h33] at s33
    by_cases ho6 : o < 6
    · obtain ⟨R, D1, M1⟩ := ih ho6 (p + 1) s sg va (by omega) (by omega) (by omega)
      have hro := DD_ok D1 (by omega)
      rcases R with ⟨w, q⟩ | ⟨F, p'⟩
      · skip
        obtain ⟨p', s', sg', va', M1, hs', hp'⟩ := M1
        obtain ⟨a', s2, sg2, va2, hadd, hs2⟩ := put_T hs' sg' va' (nI 33) (nI 0)
        refine ⟨_, DD.nB h33 ho6 D1, ?_⟩
        simp (disch := omega) only [↓reduceIte, ↓some_bind, ↓nm_eq, ↓jn_eq, ↓wr_nI, ↓rd_nI, ↓gb0, ↓gb1, n10, n00, ↓bind_of hc0, s33, ↓bind_of (hmY ho6), add_nI, ↓bind_of M1, ↓bind_of hadd]
        exact ⟨_, s2, _, _, rfl, hs2, hp'⟩
      · skip
        obtain ⟨s', sg', va', M1, g1, g2, g3, g4⟩ := M1
        obtain ⟨r1, r2, r3⟩ := hro
        have g2 : s' + (p + 1) ≤ s + p' := g2
        have hadd := put_C (s := s') (by omega) sg' va' (nI 33) (nI 0)
        refine ⟨_, DD.nO h33 ho6 D1, ?_⟩
        simp (disch := omega) only [↓reduceIte, ↓some_bind, ↓nm_eq, ↓jn_eq, ↓wr_nI, ↓rd_nI, ↓gb0, ↓gb1, n10, n00, ↓bind_of hc0, s33, ↓bind_of (hmY ho6), add_nI, ↓bind_of M1, ↓bind_of hadd]
        refine ⟨s' + 1, _, _, rfl, by omega, by omega, fun i hi => ?_, SegC_not (by omega) (seg_up g4) (upd_at _ _ _)⟩
        rw [upd_ne _ _ (by omega), upd_ne _ _ (by omega)]
        exact g3 i hi
    · refine ⟨_, DD.nD h33 (by omega), ?_⟩
      simp (disch := omega) only [↓reduceIte, ↓some_bind, ↓nm_eq, ↓jn_eq, ↓wr_nI, ↓rd_nI, ↓gb0, ↓gb1, n10, n00, ↓bind_of hc0, s33, ↓bind_of (hmN ho6)]
      exact ⟨_, s, _, _, rfl, by omega, by omega⟩
  · rw [eq_false h33] at s33
    by_cases h40 : hN e b p = 40
    · have hpe := sgn_eq h40 (by omega)
      rw [eq_true h40] at s40
      by_cases ho6 : o < 6
      · obtain ⟨R, D1, M1⟩ := choice_C tC ht he he2 rt (part_C tC ht he he2 rt (ih ho6)) (p + 1) s sg va (by omega) (by omega) (by omega)
        have hro := DD_ok D1 (by omega)
        rcases R with ⟨w, q⟩ | ⟨F, p'⟩
        · skip
          obtain ⟨p', s', sg', va', M1, hs', hp'⟩ := M1
          obtain ⟨r1, r2, r3⟩ := hro
          have hf := flt_ne w q r1 (by omega) (by omega)
          refine ⟨_, DD.pB h40 ho6 D1, ?_⟩
          simp (disch := omega) only [↓reduceIte, ↓some_bind, ↓nm_eq, ↓jn_eq, ↓wr_nI, ↓rd_nI, ↓gb0, ↓gb1, n10, n00, ↓bind_of hc0, s33, s40, ↓bind_of (hmY ho6), add_nI, ↓bind_of M1, ↓bind_of (want_n hf)]
          exact ⟨_, s', _, _, rfl, hs', hp'⟩
        · skip
          obtain ⟨s', sg', va', M1, g1, g2, g3, g4⟩ := M1
          obtain ⟨r1, r2, r3⟩ := hro
          have g2 : s' + (p + 1) ≤ s + p' := g2
          by_cases h41 : hN e b p' = 41
          · have wc := wantY tC ht he (show p' < 100000 by omega) (show 41 < 256 by omega) h41
            refine ⟨_, DD.pO h40 ho6 D1 h41, ?_⟩
            simp (disch := omega) only [↓reduceIte, ↓some_bind, ↓nm_eq, ↓jn_eq, ↓wr_nI, ↓rd_nI, ↓gb0, ↓gb1, n10, n00, ↓bind_of hc0, s33, s40, ↓bind_of (hmY ho6), add_nI, ↓bind_of M1, ↓bind_of wc]
            exact ⟨s', sg', va', rfl, g1, by omega, g3, g4⟩
          · have wc := wantN tC ht he (show p' < 100000 by omega) (show 41 < 256 by omega) h41
            refine ⟨_, DD.pN h40 ho6 D1 h41, ?_⟩
            simp (disch := omega) only [↓reduceIte, ↓some_bind, ↓nm_eq, ↓jn_eq, ↓wr_nI, ↓rd_nI, ↓gb0, ↓gb1, n10, n00, ↓bind_of hc0, s33, s40, ↓bind_of (hmY ho6), add_nI, ↓bind_of M1, ↓bind_of wc]
            exact ⟨_, s', _, _, rfl, by omega, by omega⟩
      · refine ⟨_, DD.pD h40 (by omega), ?_⟩
        simp (disch := omega) only [↓reduceIte, ↓some_bind, ↓nm_eq, ↓jn_eq, ↓wr_nI, ↓rd_nI, ↓gb0, ↓gb1, n10, n00, ↓bind_of hc0, s33, s40, ↓bind_of (hmN ho6)]
        exact ⟨_, s, _, _, rfl, by omega, by omega⟩
    · rw [eq_false h40] at s40
      obtain ⟨R, D1, M1⟩ := sumAll_C tC ht he he2 8 o ho (by omega) p s sg va hp hs
      have hro := DD_ok D1 hp
      unfold fo_X3_readComparison
      simp only [ltz]
      rcases R with ⟨w, q⟩ | ⟨A, p1⟩
      · skip
        obtain ⟨p', s', sg', va', M1, hs', hp'⟩ := M1
        obtain ⟨r1, r2, r3⟩ := hro
        have hf := flt_ne w q r1 (by omega) (by omega)
        have hc1 := sign_C tC he (show p' < 100000 by omega)
        refine ⟨_, DD.cB h33 h40 D1, ?_⟩
        simp (disch := omega) only [↓reduceIte, ↓some_bind, ↓nm_eq, ↓jn_eq, ↓wr_nI, ↓rd_nI, ↓gb0, ↓gb1, n10, n00, ↓bind_of hc0, s33, s40, ↓bind_of M1, ↓bind_of hc1]
        simp (disch := omega) only [↓jn_eq, ↓bind_of (sound_n hf), ↓bind_of (fail_n hf), n00, ↓reduceIte, ↓some_bind]
        split
        · exact ⟨_, s', _, _, rfl, hs', hp'⟩
        · split
          · exact ⟨_, s', _, _, rfl, hs', hp'⟩
          · split
            · exact ⟨_, s', _, _, rfl, hs', hp'⟩
            · exact ⟨_, s', _, _, rfl, hs', hp'⟩
      · skip
        obtain ⟨s', sg', va', M1, g1, g2, g3, g4⟩ := M1
        obtain ⟨r1, r2, r3⟩ := hro
        have r1 : p + 1 ≤ p1 := r1
        have hc1 := sign_C tC he (show p1 < 100000 by omega)
        by_cases hcm : cmpS (hN e b p1)
        · have hpe := sgn_in (cmpS_lt hcm)
          have hhr : hr e b p1 = nI (hN e b p1) := by
            rcases hN_lt ht p1 with ⟨_, _, h⟩ | ⟨_, h, _⟩
            · exact h
            · exact absurd hpe h
          obtain ⟨R2, D2, M2⟩ := sumAll_C tC ht he he2 8 o ho (by omega) (p1 + 1) s' sg' va' (by omega) (by omega)
          have hro2 := DD_ok D2 (by omega)
          have run : ∀ r, fo_X3_readSum 8 (nI e) (nI (p1 + 1)) (nI 0) (nI n) f (nI s') sg' va' (nI o) = some r → ∀ z, (f_X2_add r.2.2.1 r.2.2.2.1 r.2.2.2.2 (hr e b p1) (nI 0)) = some z → (if hr e b p1 = nI 60 then True else if hr e b p1 = nI 62 then True else if hr e b p1 = nI 61 then True else False) := by
            intro _ _ _ _
            unfold cmpS at hcm
            rw [hhr]
            simp only [eq_nI (show hN e b p1 < 2147483648 by omega) (show 60 < 2147483648 by omega), eq_nI (show hN e b p1 < 2147483648 by omega) (show 62 < 2147483648 by omega), eq_nI (show hN e b p1 < 2147483648 by omega) (show 61 < 2147483648 by omega)]
            split
            · trivial
            · split
              · trivial
              · split
                · trivial
                · omega
          rcases R2 with ⟨w, q⟩ | ⟨B, p2⟩
          · skip
            obtain ⟨p2, s2, sg2, va2, M2, hs2, hp2⟩ := M2
            obtain ⟨a', s3, sg3, va3, hadd, hs3⟩ := put_T hs2 sg2 va2 (hr e b p1) (nI 0)
            refine ⟨_, DD.cB2 h33 h40 D1 hcm D2, ?_⟩
            simp (disch := omega) only [↓reduceIte, ↓some_bind, ↓nm_eq, ↓jn_eq, ↓wr_nI, ↓rd_nI, ↓gb0, ↓gb1, n10, n00, ↓bind_of hc0, s33, s40, ↓bind_of M1, ↓bind_of hc1]
            simp (disch := omega) only [↓reduceIte, ↓some_bind, ↓nm_eq, ↓jn_eq, ↓wr_nI, ↓rd_nI, ↓gb0, ↓gb1, n10, n00, ↓bind_of sound_0, add_nI, ↓bind_of M2, ↓bind_of hadd]
            have rr := run _ M2 _ hadd
            split
            · exact ⟨_, s3, _, _, rfl, hs3, hp2⟩
            · rename_i x1
              rw [if_neg x1] at rr
              split
              · exact ⟨_, s3, _, _, rfl, hs3, hp2⟩
              · rename_i x2
                rw [if_neg x2] at rr
                split
                · exact ⟨_, s3, _, _, rfl, hs3, hp2⟩
                · rename_i x3
                  rw [if_neg x3] at rr
                  exact rr.elim
          · skip
            obtain ⟨s2, sg2, va2, M2, k1, k2, k3, k4⟩ := M2
            obtain ⟨t1, t2, t3⟩ := hro2
            have k2 : s2 + (p1 + 1) ≤ s' + p2 := k2
            have hadd := put_C (s := s2) (by omega) sg2 va2 (hr e b p1) (nI 0)
            refine ⟨_, DD.cO h33 h40 D1 hcm D2, ?_⟩
            simp (disch := omega) only [↓reduceIte, ↓some_bind, ↓nm_eq, ↓jn_eq, ↓wr_nI, ↓rd_nI, ↓gb0, ↓gb1, n10, n00, ↓bind_of hc0, s33, s40, ↓bind_of M1, ↓bind_of hc1]
            simp (disch := omega) only [↓reduceIte, ↓some_bind, ↓nm_eq, ↓jn_eq, ↓wr_nI, ↓rd_nI, ↓gb0, ↓gb1, n10, n00, ↓bind_of sound_0, add_nI, ↓bind_of M2, ↓bind_of hadd]
            have rr := run _ M2 _ hadd
            have hA : SegC sg2 va2 s s' (dF o + 2) A := SegC_congr g4 (fun q h1 h2 => k3 q (by omega))
            have hop : isOp (hN e b p1) := by unfold cmpS at hcm; unfold isOp; omega
            have fin : SegC (upd sg2 s2 (hr e b p1)) (upd va2 s2 (nI 0)) s (s2 + 1) 20 (binF (hN e b p1) A B) := SegC_bin (by unfold dF; omega) (by unfold dF; omega) (by omega) (SegC_congr hA (fun q _ h2 => ⟨upd_ne _ _ (by omega), upd_ne _ _ (by omega)⟩)) (seg_up k4) hop (by rw [upd_at]; exact hhr)
            have cells : ∀ i, i < s → upd sg2 s2 (hr e b p1) i = sg i ∧ upd va2 s2 (nI 0) i = va i := fun i hi => by
              rw [upd_ne _ _ (by omega), upd_ne _ _ (by omega)]
              exact ⟨(k3 i (by omega)).1.trans (g3 i hi).1, (k3 i (by omega)).2.trans (g3 i hi).2⟩
            split
            · exact ⟨s2 + 1, _, _, rfl, by omega, by omega, cells, fin⟩
            · rename_i x1
              rw [if_neg x1] at rr
              split
              · exact ⟨s2 + 1, _, _, rfl, by omega, by omega, cells, fin⟩
              · rename_i x2
                rw [if_neg x2] at rr
                split
                · exact ⟨s2 + 1, _, _, rfl, by omega, by omega, cells, fin⟩
                · rename_i x3
                  rw [if_neg x3] at rr
                  exact rr.elim
        · have n60 : (hr e b p1 = nI 60) = False := by rw [eq_hr ht p1 (by omega)]; exact eq_false (fun h => hcm (by unfold cmpS; omega))
          have n62 : (hr e b p1 = nI 62) = False := by rw [eq_hr ht p1 (by omega)]; exact eq_false (fun h => hcm (by unfold cmpS; omega))
          have n61 : (hr e b p1 = nI 61) = False := by rw [eq_hr ht p1 (by omega)]; exact eq_false (fun h => hcm (by unfold cmpS; omega))
          have hf := flt_ne 1 p1 (by omega) (by omega) (by omega)
          refine ⟨_, DD.cS h33 h40 D1 hcm, ?_⟩
          simp (disch := omega) only [↓reduceIte, ↓some_bind, ↓nm_eq, ↓jn_eq, ↓wr_nI, ↓rd_nI, ↓gb0, ↓gb1, n10, n00, ↓bind_of hc0, s33, s40, ↓bind_of M1, ↓bind_of hc1, n60, n61, n62, ↓bind_of (fail_0 1 p1), ↓bind_of (sound_n hf)]
          exact ⟨_, s', _, _, rfl, by omega, by omega⟩
theorem testAll_C {n e : Nat} {f : Nat → Int32} {b : Nat → Nat} (tC : CTape (nI n) f n b) (ht : txt e b) (he : e ≤ n) (he2 : e ≤ 240) : ∀ (k o : Nat), o ≤ 6 → 7 ≤ o + k → HT e n f b .tst (fo_X3_readTest k) o := by
  intro k
  induction k with
  | zero => intro o h1 h2; omega
  | succ k ih =>
    intro o h1 h2
    exact test_C tC ht he he2 (fo_X3_readTest k) h1 (fun h => ih (o + 1) (by omega) (by omega))
