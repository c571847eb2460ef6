/-! THE LAW: the class's readers of sums -/
def MC (p s a d : Nat) (sg va : Nat → Int32) (r : Option (Int32 × Int32 × Int32 × (Nat → Int32) × (Nat → Int32))) (R : Res) : Prop := match R with
  | .inl (w, q) => ∃ p' s' sg' va', r = some (nI p', flt w q, nI s', sg', va') ∧ s' ≤ 256 ∧ p' < 1000
  | .inr (F, p') => ∃ s' sg' va', r = some (nI p', nI 0, nI s', sg', va') ∧ s ≤ s' ∧ s' + p ≤ s + p' ∧ (∀ i, i < s → sg' i = sg i ∧ va' i = va i) ∧ SegC sg' va' a s' d F
theorem put_C {s : Nat} (hs : s < 256) (sg va : Nat → Int32) (x v : Int32) : f_X2_add (nI s) sg va x v = some (nI s, nI (s + 1), upd sg s x, upd va s v) := by
  have q : (nI s < nI 256) = True := by rw [lt_nI (by omega) (by omega)]; exact eq_true hs
  have q2 : nI (s + 1) - nI 1 = nI s := sub_nI (by omega)
  unfold f_X2_add
  simp only [ltz]
  simp (disch := omega) only [q, ↓reduceIte, ↓wr_nI, ↓nm_eq, add_nI, q2]
theorem put_T {s : Nat} (hs : s ≤ 256) (sg va : Nat → Int32) (x v : Int32) : ∃ a s' sg' va', f_X2_add (nI s) sg va x v = some (a, nI s', sg', va') ∧ s' ≤ 256 := by
  by_cases h : s = 256
  · subst h
    have q : (nI 256 < nI 256) = False := by rw [lt_nI (by omega) (by omega)]; exact eq_false (by omega)
    unfold f_X2_add
    simp only [ltz]
    simp only [q, ↓reduceIte]
    exact ⟨_, 256, _, _, rfl, by omega⟩
  · exact ⟨_, s + 1, _, _, put_C (by omega) sg va x v, by omega⟩
theorem seg_up {sg va : Nat → Int32} {a s d : Nat} {F : Den} {x v : Int32} (h : SegC sg va a s d F) : SegC (upd sg s x) (upd va s v) a s d F := SegC_congr h (fun q _ h2 => ⟨upd_ne _ _ (by omega), upd_ne _ _ (by omega)⟩)
def dF (o : Nat) : Nat := 13 - 2 * o
def HS (e n : Nat) (f : Nat → Int32) (b : Nat → Nat) (it : It) (d : Nat) (rs : Int32 → Int32 → Int32 → Int32 → (Nat → Int32) → Int32 → (Nat → Int32) → (Nat → Int32) → Int32 → Option (Int32 × Int32 × Int32 × (Nat → Int32) × (Nat → Int32))) (o : Nat) : Prop := ∀ (p s : Nat) (sg va : Nat → Int32), p ≤ e → s ≤ p → ∃ R, DD e b it o p R ∧ MC p s s d sg va (rs (nI e) (nI p) (nI 0) (nI n) f (nI s) sg va (nI o)) R
theorem factor_C {n e : Nat} {f : Nat → Int32} {b : Nat → Nat} (tC : CTape (nI n) f n b) (ht : txt e b) (he : e ≤ n) (he2 : e ≤ 240) (rs : Int32 → Int32 → Int32 → Int32 → (Nat → Int32) → Int32 → (Nat → Int32) → (Nat → Int32) → Int32 → Option (Int32 × Int32 × Int32 × (Nat → Int32) × (Nat → Int32))) {o : Nat} (ho : o ≤ 6) (ih : o < 6 → HS e n f b .sum (dF (o + 1) + 2) rs (o + 1)) : HS e n f b .fac (dF o) (fo_X3_readFactor rs) o := by
  intro p s sg va hp hs
  have hd1 : 1 ≤ dF o := by unfold dF; omega
  have hc0 := sign_C tC he (show p < 100000 by omega)
  have hla := letterAt_C ht p
  have s91 := eq_hr ht p (c := 91) (by omega)
  unfold fo_X3_readFactor
  simp only [ltz]
  by_cases h91 : hN e b p = 91
  · have hpe := sgn_eq h91 (by omega)
    rw [eq_true h91] at s91
    by_cases ho6 : o < 6
    · have hm : fo_X3_mayOpen (nI p) (nI 0) (nI o) = some (nI 1, nI (p + 1), nI 0) := by
        have q : (nI o < nI 6) = True := by rw [lt_nI (by omega) (by omega)]; exact eq_true ho6
        unfold fo_X3_mayOpen
        simp only [ltz, q, ↓reduceIte, nm_eq, add_nI]
      obtain ⟨R, D1, M1⟩ := ih ho6 (p + 1) s sg va (by omega) (by omega)
      have hro := DD_ok D1 (by omega)
      rcases R with ⟨w, q⟩ | ⟨F, p'⟩
      · skip
        obtain ⟨p', s', sg', va', M1, hs'⟩ := M1
        obtain ⟨r1, r2, r3⟩ := hro
        have hf := flt_ne w q r1 (by omega) (by omega)
        refine ⟨_, DD.fOpB h91 ho6 D1, ?_⟩
        simp (disch := omega) only [↓reduceIte, ↓some_bind, ↓nm_eq, ↓jn_eq, ↓wr_nI, ↓rd_nI, ↓gb0, ↓gb1, n10, n00, ↓bind_of hc0, ↓bind_of hla, s91, ↓bind_of hm, add_nI, ↓bind_of M1, ↓bind_of (want_n hf)]
        exact ⟨_, s', _, _, rfl, hs'⟩
      · skip
        obtain ⟨s', sg', va', M1, g1, g2, g3, g4⟩ := M1
        obtain ⟨r1, r2, r3⟩ := hro
        by_cases h93 : hN e b p' = 93
        · have wc := wantY tC ht he (show p' < 100000 by omega) (show 93 < 256 by omega) h93
          refine ⟨_, DD.fOp h91 ho6 D1 h93, ?_⟩
          simp (disch := omega) only [↓reduceIte, ↓some_bind, ↓nm_eq, ↓jn_eq, ↓wr_nI, ↓rd_nI, ↓gb0, ↓gb1, n10, n00, ↓bind_of hc0, ↓bind_of hla, s91, ↓bind_of hm, add_nI, ↓bind_of M1, ↓bind_of wc]
          exact ⟨s', sg', va', rfl, g1, by omega, g3, SegC_mono g4 (by unfold dF; omega)⟩
        · have wc := wantN tC ht he (show p' < 100000 by omega) (show 93 < 256 by omega) h93
          refine ⟨_, DD.fOpN h91 ho6 D1 h93, ?_⟩
          simp (disch := omega) only [↓reduceIte, ↓some_bind, ↓nm_eq, ↓jn_eq, ↓wr_nI, ↓rd_nI, ↓gb0, ↓gb1, n10, n00, ↓bind_of hc0, ↓bind_of hla, s91, ↓bind_of hm, add_nI, ↓bind_of M1, ↓bind_of wc]
          have g2' : s' + (p + 1) ≤ s + p' := g2
          exact ⟨_, s', _, _, rfl, by omega, by omega⟩
    · have hm : fo_X3_mayOpen (nI p) (nI 0) (nI o) = some (nI 0, nI p, flt 5 p) := by
        have q : (nI o < nI 6) = False := by rw [lt_nI (by omega) (by omega)]; exact eq_false ho6
        unfold fo_X3_mayOpen
        simp only [ltz, q, ↓reduceIte, ↓bind_of (fail_0 5 p)]
      refine ⟨_, DD.fDeep h91 (by omega), ?_⟩
      simp (disch := omega) only [↓reduceIte, ↓some_bind, ↓nm_eq, ↓jn_eq, ↓wr_nI, ↓rd_nI, ↓gb0, ↓gb1, n10, n00, ↓bind_of hc0, ↓bind_of hla, s91, ↓bind_of hm]
      exact ⟨_, s, _, _, rfl, by omega, by omega⟩
  · rw [eq_false h91] at s91
    cases hl : ltN (hN e b p) with
    | some l =>
      have hla : f_X2_letterAt (hr e b p) = some (nI l) := by rw [hl] at hla; exact hla
      obtain ⟨l1, l2, l3, l4⟩ := ltN_lt hl
      have hpe := sgn_in l1
      have n1 := eq_false (neg_ne l (by omega)).1
      refine ⟨_, DD.fLet hl, ?_⟩
      simp (disch := omega) only [↓reduceIte, ↓some_bind, ↓nm_eq, ↓jn_eq, ↓wr_nI, ↓rd_nI, ↓gb0, ↓gb1, n10, n00, ↓bind_of hc0, ↓bind_of hla, s91, n1, ↓bind_of (put_C (s := s) (by omega) sg va (nI 97) (nI l)), add_nI]
      exact ⟨s + 1, _, _, rfl, by omega, by omega, fun i hi => ⟨upd_ne _ _ (by omega), upd_ne _ _ (by omega)⟩, SegC_let hd1 (upd_at _ _ _) (upd_at _ _ _) l2⟩
    | none =>
      have hla : f_X2_letterAt (hr e b p) = some (-nI 1) := by rw [hl] at hla; exact hla
      have hnu := number_C tC ht he (p := p) (mx := 5) (by omega) (by omega)
      rcases Bool.eq_false_or_eq_true (dgB e b p) with hd | hd
      · rw [if_pos hd] at hnu
        have hpe := dgB_lt hd
        obtain ⟨a1, a2, a3, a4, a5⟩ := nmr_ok (e := e) (b := b) 5 0 p
        have hst : p + 1 ≤ (nmr e b 5 0 p).2.1 := by
          have : nmr e b 5 0 p = nmr e b 4 (10 * 0 + hN e b p - 48) (p + 1) := by
            show (if dgB e b p then _ else _) = _
            rw [if_pos hd]
          rw [this]
          exact (nmr_ok (e := e) (b := b) 4 (10 * 0 + hN e b p - 48) (p + 1)).2.1
        have D0 : ((nmr e b 5 0 p).2.2 = 0 → DD e b .fac o p (.ok (numF (nmr e b 5 0 p).1) (nmr e b 5 0 p).2.1)) ∧ (¬ (nmr e b 5 0 p).2.2 = 0 → DD e b .fac o p (.bad 2 (nmr e b 5 0 p).2.1)) := ⟨fun h => DD.fNum hd h, fun h => DD.fNumB hd h⟩
        generalize nmr e b 5 0 p = z at *
        obtain ⟨v, p1, k⟩ := z
        dsimp only at *
        by_cases hk : k = 0
        · subst hk
          rw [fw0] at hnu
          refine ⟨_, D0.1 rfl, ?_⟩
          simp (disch := omega) only [↓reduceIte, ↓some_bind, ↓nm_eq, ↓jn_eq, ↓wr_nI, ↓rd_nI, ↓gb0, ↓gb1, n10, n00, ↓bind_of hc0, ↓bind_of hla, s91, eq_self, ↓bind_of hnu, ↓bind_of (put_C (s := s) (by omega) sg va (nI 48) (nI v)), add_nI]
          exact ⟨s + 1, _, _, rfl, by omega, by omega, fun i hi => ⟨upd_ne _ _ (by omega), upd_ne _ _ (by omega)⟩, SegC_num hd1 (upd_at _ _ _) (upd_at _ _ _)⟩
        · have hk2 : k = 2 := by omega
          subst hk2
          rw [fwS p1 hk] at hnu
          refine ⟨_, D0.2 hk, ?_⟩
          simp (disch := omega) only [↓reduceIte, ↓some_bind, ↓nm_eq, ↓jn_eq, ↓wr_nI, ↓rd_nI, ↓gb0, ↓gb1, n10, n00, ↓bind_of hc0, ↓bind_of hla, s91, eq_self, ↓bind_of hnu, ↓bind_of (put_C (s := s) (by omega) sg va (nI 48) (nI v)), add_nI]
          exact ⟨_, s + 1, _, _, rfl, by omega, by omega⟩
      · rw [if_neg (by rw [hd]; decide)] at hnu
        refine ⟨_, DD.fBad h91 hl hd, ?_⟩
        simp (disch := omega) only [↓reduceIte, ↓some_bind, ↓nm_eq, ↓jn_eq, ↓wr_nI, ↓rd_nI, ↓gb0, ↓gb1, n10, n00, ↓bind_of hc0, ↓bind_of hla, s91, eq_self, ↓bind_of hnu, ↓bind_of (put_C (s := s) (by omega) sg va (nI 48) (nI 0)), add_nI]
        exact ⟨_, s + 1, _, _, rfl, by omega, by omega⟩
theorem st_X3_readTerm_7 (rs : Int32 → Int32 → Int32 → Int32 → (Nat → Int32) → Int32 → (Nat → Int32) → (Nat → Int32) → Int32 → Option (Int32 × Int32 × Int32 × (Nat → Int32) × (Nat → Int32))) (script_end : Int32) (script_tape_size : Int32) (script_tape_bytes : (Nat → Int32)) (x1 : Int32) (m : Nat) (s : Int32 × Int32 × Int32 × Int32 × (Nat → Int32) × (Nat → Int32)) : Lo_X3_readTerm_7 rs script_end script_tape_size script_tape_bytes x1 (m + 1) s = (if (240 : Int32) ≤ s.1 then (some (s.2.1, s.2.2.1, s.2.2.2.1, s.2.2.2.2.1, s.2.2.2.2.2)) else (f_X7_isSound s.2.2.1).bind fun u2 => if u2 = 0 then (some (s.2.1, s.2.2.1, s.2.2.2.1, s.2.2.2.2.1, s.2.2.2.2.2)) else (fo_X7_sign script_end s.2.1 script_tape_size script_tape_bytes).bind fun u3 => jn (fun s4 : Unit => nm (s.2.1 + (1 : Int32)) fun v5 => (fo_X3_readFactor rs script_end v5 s.2.2.1 script_tape_size script_tape_bytes s.2.2.2.1 s.2.2.2.2.1 s.2.2.2.2.2 x1).bind fun u6 => (f_X2_add u6.2.2.1 u6.2.2.2.1 u6.2.2.2.2 u3 (0 : Int32)).bind fun u7 => nm (s.1 + (1 : Int32)) fun v8 => (Lo_X3_readTerm_7 rs script_end script_tape_size script_tape_bytes x1 m) (v8, u6.1, u6.2.1, u7.2.1, u7.2.2.1, u7.2.2.2)) fun j51 => if u3 = (42 : Int32) then (j51 ()) else if u3 = (47 : Int32) then (j51 ()) else if u3 = (37 : Int32) then (j51 ()) else some (s.2.1, s.2.2.1, s.2.2.2.1, s.2.2.2.2.1, s.2.2.2.2.2)) := rfl
theorem st_X3_readSum_7 (rs : Int32 → Int32 → Int32 → Int32 → (Nat → Int32) → Int32 → (Nat → Int32) → (Nat → Int32) → Int32 → Option (Int32 × Int32 × Int32 × (Nat → Int32) × (Nat → Int32))) (script_end : Int32) (script_tape_size : Int32) (script_tape_bytes : (Nat → Int32)) (x1 : Int32) (m : Nat) (s : Int32 × Int32 × Int32 × Int32 × (Nat → Int32) × (Nat → Int32)) : Lo_X3_readSum_7 rs script_end script_tape_size script_tape_bytes x1 (m + 1) s = (if (240 : Int32) ≤ s.1 then (some (s.2.1, s.2.2.1, s.2.2.2.1, s.2.2.2.2.1, s.2.2.2.2.2)) else (f_X7_isSound s.2.2.1).bind fun u2 => if u2 = 0 then (some (s.2.1, s.2.2.1, s.2.2.2.1, s.2.2.2.2.1, s.2.2.2.2.2)) else (fo_X7_sign script_end s.2.1 script_tape_size script_tape_bytes).bind fun u3 => jn (fun s4 : Unit => nm (s.2.1 + (1 : Int32)) fun v5 => (fo_X3_readTerm rs script_end v5 s.2.2.1 script_tape_size script_tape_bytes s.2.2.2.1 s.2.2.2.2.1 s.2.2.2.2.2 x1).bind fun u6 => (f_X2_add u6.2.2.1 u6.2.2.2.1 u6.2.2.2.2 u3 (0 : Int32)).bind fun u7 => nm (s.1 + (1 : Int32)) fun v8 => (Lo_X3_readSum_7 rs script_end script_tape_size script_tape_bytes x1 m) (v8, u6.1, u6.2.1, u7.2.1, u7.2.2.1, u7.2.2.2)) fun j45 => if u3 = (43 : Int32) then (j45 ()) else if u3 = (45 : Int32) then (j45 ()) else some (s.2.1, s.2.2.1, s.2.2.2.1, s.2.2.2.2.1, s.2.2.2.2.2)) := rfl
theorem termL_C {n e : Nat} {f : Nat → Int32} {b : Nat → Nat} (tC : CTape (nI n) f n b) (ht : txt e b) (he : e ≤ n) (he2 : e ≤ 240) (rs : Int32 → Int32 → Int32 → Int32 → (Nat → Int32) → Int32 → (Nat → Int32) → (Nat → Int32) → Int32 → Option (Int32 × Int32 × Int32 × (Nat → Int32) × (Nat → Int32))) {o : Nat} (ho : o ≤ 6) (hin : HS e n f b .fac (dF o) (fo_X3_readFactor rs) o) : ∀ (k i p s a m : Nat) (sg va : Nat → Int32) (F : Den), e ≤ p + k → k + 1 < m → p ≤ e → i + 1 ≤ p → s ≤ p → SegC sg va a s (dF o + 1) F → ∃ R, DD e b (.trs F) o p R ∧ MC p s a (dF o + 1) sg va (Lo_X3_readTerm_7 rs (nI e) (nI n) f (nI o) m (nI i, nI p, nI 0, nI s, sg, va)) R := by
  intro k
  induction k with
  | zero =>
    intro i p s a m sg va F hk hm hp hi hs hF
    obtain ⟨m, rfl⟩ : ∃ k, m = k + 1 := ⟨m - 1, by omega⟩
    have hc0 := sign_C tC he (show p < 100000 by omega)
    have q : (nI 240 ≤ nI i) = False := by rw [le_nI (by omega) (by omega)]; exact eq_false (by omega)
    have hno : ¬ mulS (hN e b p) := fun h => by have := sgn_in (mulS_lt h); omega
    have s42 : (hr e b p = nI 42) = False := by rw [eq_hr ht p (by omega)]; exact eq_false (fun h => hno (by unfold mulS; omega))
    have s47 : (hr e b p = nI 47) = False := by rw [eq_hr ht p (by omega)]; exact eq_false (fun h => hno (by unfold mulS; omega))
    have s37 : (hr e b p = nI 37) = False := by rw [eq_hr ht p (by omega)]; exact eq_false (fun h => hno (by unfold mulS; omega))
    refine ⟨_, DD.rE hno, ?_⟩
    rw [st_X3_readTerm_7]
    simp only [ltz]
    simp (disch := omega) only [↓reduceIte, ↓some_bind, ↓nm_eq, ↓jn_eq, ↓wr_nI, ↓rd_nI, ↓gb0, ↓gb1, n10, n00, q, ↓bind_of sound_0, ↓bind_of hc0, s42, s47, s37]
    exact ⟨s, sg, va, rfl, Nat.le_refl _, Nat.le_refl _, fun i _ => ⟨rfl, rfl⟩, hF⟩
  | succ k ih =>
    intro i p s a m sg va F hk hm hp hi hs hF
    obtain ⟨m, rfl⟩ : ∃ k, m = k + 1 + 1 := ⟨m - 2, by omega⟩
    have hc0 := sign_C tC he (show p < 100000 by omega)
    have q : (nI 240 ≤ nI i) = False := by rw [le_nI (by omega) (by omega)]; exact eq_false (by omega)
    by_cases hno : mulS (hN e b p)
    · have hpe := sgn_in (mulS_lt hno)
      have hop : isOp (hN e b p) := by unfold mulS at hno; unfold isOp; omega
      have hhr : hr e b p = nI (hN e b p) := by
        rcases hN_lt ht p with ⟨_, _, h⟩ | ⟨_, h, _⟩
        · exact h
        · exact absurd hpe h
      obtain ⟨R1, D1, M1⟩ := hin (p + 1) s sg va (by omega) (by omega)
      have hro := DD_ok D1 (by omega)
      have body : ∀ r, (fo_X3_readFactor rs) (nI e) (nI (p + 1)) (nI 0) (nI n) f (nI s) sg va (nI o) = some r → Lo_X3_readTerm_7 rs (nI e) (nI n) f (nI o) (m + 1 + 1) (nI i, nI p, nI 0, nI s, sg, va) = (f_X2_add r.2.2.1 r.2.2.2.1 r.2.2.2.2 (hr e b p) (nI 0)).bind fun u7 => Lo_X3_readTerm_7 rs (nI e) (nI n) f (nI o) (m + 1) (nI (i + 1), r.1, r.2.1, u7.2.1, u7.2.2.1, u7.2.2.2) := by
        intro r hr0
        rw [st_X3_readTerm_7]
        simp only [ltz]
        unfold mulS at hno
        rcases hno with h | h | h
        · have s42 : (hr e b p = nI 42) = True := by rw [eq_hr ht p (by omega)]; exact eq_true h
          simp (disch := omega) only [↓reduceIte, ↓some_bind, ↓nm_eq, ↓jn_eq, ↓wr_nI, ↓rd_nI, ↓gb0, ↓gb1, n10, n00, q, ↓bind_of sound_0, ↓bind_of hc0, s42, add_nI, ↓bind_of hr0]
        · have s47 : (hr e b p = nI 47) = True := by rw [eq_hr ht p (by omega)]; exact eq_true h
          have s42 : (hr e b p = nI 42) = False := by rw [eq_hr ht p (by omega)]; exact eq_false (by omega)
          simp (disch := omega) only [↓reduceIte, ↓some_bind, ↓nm_eq, ↓jn_eq, ↓wr_nI, ↓rd_nI, ↓gb0, ↓gb1, n10, n00, q, ↓bind_of sound_0, ↓bind_of hc0, s42, s47, add_nI, ↓bind_of hr0]
        · have s37 : (hr e b p = nI 37) = True := by rw [eq_hr ht p (by omega)]; exact eq_true h
          have s42 : (hr e b p = nI 42) = False := by rw [eq_hr ht p (by omega)]; exact eq_false (by omega)
          have s47 : (hr e b p = nI 47) = False := by rw [eq_hr ht p (by omega)]; exact eq_false (by omega)
          simp (disch := omega) only [↓reduceIte, ↓some_bind, ↓nm_eq, ↓jn_eq, ↓wr_nI, ↓rd_nI, ↓gb0, ↓gb1, n10, n00, q, ↓bind_of sound_0, ↓bind_of hc0, s42, s47, s37, add_nI, ↓bind_of hr0]
      rcases R1 with ⟨w, q1⟩ | ⟨G, p'⟩
      · skip
        obtain ⟨p', s', sg', va', M1, hs'⟩ := M1
        obtain ⟨r1, r2, r3⟩ := hro
        have hf := flt_ne w q1 r1 (by omega) (by omega)
        obtain ⟨a', s2, sg2, va2, hadd, hs2⟩ := put_T hs'.1 sg' va' (hr e b p) (nI 0)
        refine ⟨_, DD.rB hno D1, ?_⟩
        rw [body _ M1]
        simp only [↓bind_of hadd]
        rw [st_X3_readTerm_7]
        have q' : (nI 240 ≤ nI (i + 1)) = False ∨ (nI 240 ≤ nI (i + 1)) = True := by
          by_cases h : nI 240 ≤ nI (i + 1)
          · exact Or.inr (eq_true h)
          · exact Or.inl (eq_false h)
        simp only [ltz]
        rcases q' with q' | q'
        · simp (disch := omega) only [↓reduceIte, ↓some_bind, ↓nm_eq, ↓jn_eq, ↓wr_nI, ↓rd_nI, ↓gb0, ↓gb1, n10, n00, q', ↓bind_of (sound_n hf)]
          exact ⟨_, s2, _, _, rfl, hs2, hs'.2⟩
        · simp (disch := omega) only [↓reduceIte, ↓some_bind, ↓nm_eq, ↓jn_eq, ↓wr_nI, ↓rd_nI, ↓gb0, ↓gb1, n10, n00, q']
          exact ⟨_, s2, _, _, rfl, hs2, hs'.2⟩
      · skip
        obtain ⟨s', sg', va', M1, g1, g2, g3, g4⟩ := M1
        obtain ⟨r1, r2, r3⟩ := hro
        have r1 : p + 1 + 1 ≤ p' := r1
        have g2 : s' + (p + 1) ≤ s + p' := g2
        have hadd := put_C (s := s') (by omega) sg' va' (hr e b p) (nI 0)
        have hF' : SegC sg' va' a s (dF o + 1) F := SegC_congr hF (fun q h1 h2 => g3 q (by omega))
        have hB : SegC (upd sg' s' (hr e b p)) (upd va' s' (nI 0)) a (s' + 1) (dF o + 1) (binF (hN e b p) F G) := SegC_bin (Nat.le_refl _) (by unfold dF; omega) (by unfold dF; omega) (SegC_congr hF' (fun q _ h2 => ⟨upd_ne _ _ (by omega), upd_ne _ _ (by omega)⟩)) (seg_up g4) hop (by rw [upd_at]; exact hhr)
        obtain ⟨R2, D2, M2⟩ := ih (i + 1) p' (s' + 1) a (m + 1) _ _ _ (by omega) (by omega) r2 (by omega) (by omega) hB
        refine ⟨R2, DD.rN hno D1 D2, ?_⟩
        rw [body _ M1]
        simp only [↓bind_of hadd]
        rcases R2 with ⟨w, q1⟩ | ⟨H, p2⟩
        · exact M2
        · skip
          obtain ⟨s2, sg2, va2, M2, k1, k2, k3, k4⟩ := M2
          refine ⟨s2, sg2, va2, M2, by omega, by omega, fun i hi => ?_, k4⟩
          have x1 := k3 i (by omega)
          have x2 := g3 i (by omega)
          rw [x1.1, x1.2, upd_ne _ _ (by omega), upd_ne _ _ (by omega)]
          exact x2
    · have s42 : (hr e b p = nI 42) = False := by rw [eq_hr ht p (by omega)]; exact eq_false (fun h => hno (by unfold mulS; omega))
      have s47 : (hr e b p = nI 47) = False := by rw [eq_hr ht p (by omega)]; exact eq_false (fun h => hno (by unfold mulS; omega))
      have s37 : (hr e b p = nI 37) = False := by rw [eq_hr ht p (by omega)]; exact eq_false (fun h => hno (by unfold mulS; omega))
      refine ⟨_, DD.rE hno, ?_⟩
      rw [st_X3_readTerm_7]
      simp only [ltz]
      simp (disch := omega) only [↓reduceIte, ↓some_bind, ↓nm_eq, ↓jn_eq, ↓wr_nI, ↓rd_nI, ↓gb0, ↓gb1, n10, n00, q, ↓bind_of sound_0, ↓bind_of hc0, s42, s47, s37]
      exact ⟨s, sg, va, rfl, Nat.le_refl _, Nat.le_refl _, fun i _ => ⟨rfl, rfl⟩, hF⟩
theorem term_C {n e : Nat} {f : Nat → Int32} {b : Nat → Nat} (tC : CTape (nI n) f n b) (ht : txt e b) (he : e ≤ n) (he2 : e ≤ 240) (rs : Int32 → Int32 → Int32 → Int32 → (Nat → Int32) → Int32 → (Nat → Int32) → (Nat → Int32) → Int32 → Option (Int32 × Int32 × Int32 × (Nat → Int32) × (Nat → Int32))) {o : Nat} (ho : o ≤ 6) (hin : HS e n f b .fac (dF o) (fo_X3_readFactor rs) o) : HS e n f b .ter (dF o + 1) (fo_X3_readTerm rs) o := by
  intro p s sg va hp hs
  obtain ⟨R, D1, M1⟩ := hin p s sg va hp hs
  have hro := DD_ok D1 hp
  unfold fo_X3_readTerm
  rcases R with ⟨w, q⟩ | ⟨F, p'⟩
  · skip
    obtain ⟨p', s', sg', va', M1, hs'⟩ := M1
    obtain ⟨r1, r2, r3⟩ := hro
    have hf := flt_ne w q r1 (by omega) (by omega)
    refine ⟨_, DD.tB D1, ?_⟩
    rw [M1, some_bind]
    dsimp only
    have hfu : fu = (fu - 1) + 1 := by have := @fu_gt 1 (by omega); omega
    have q' : (nI 240 ≤ nI 0) = False := by rw [le_nI (by omega) (by omega)]; exact eq_false (by omega)
    rw [hfu, st_X3_readTerm_7]
    simp only [ltz]
    simp (disch := omega) only [↓reduceIte, ↓some_bind, ↓nm_eq, ↓jn_eq, ↓wr_nI, ↓rd_nI, ↓gb0, ↓gb1, n10, n00, q', ↓bind_of (sound_n hf)]
    exact ⟨_, s', _, _, rfl, hs'⟩
  · skip
    obtain ⟨s', sg', va', M1, g1, g2, g3, g4⟩ := M1
    obtain ⟨r1, r2, r3⟩ := hro
    have r1 : p + 1 ≤ p' := r1
    obtain ⟨R2, D2, M2⟩ := termL_C tC ht he he2 rs ho hin e 0 p' s' s fu sg' va' F (by omega) (fu_gt (by omega)) r2 (by omega) (by omega) (SegC_mono g4 (by omega))
    refine ⟨R2, DD.tN D1 D2, ?_⟩
    rw [M1, some_bind]
    dsimp only
    simp only [ltz]
    rcases R2 with ⟨w, q1⟩ | ⟨H, p2⟩
    · exact M2
    · skip
      obtain ⟨s2, sg2, va2, M2, k1, k2, k3, k4⟩ := M2
      refine ⟨s2, sg2, va2, M2, by omega, by omega, fun i hi => ?_, k4⟩
      have x1 := k3 i (by omega)
      have x2 := g3 i hi
      exact ⟨x1.1.trans x2.1, x1.2.trans x2.2⟩
theorem sumL_C {n e : Nat} {f : Nat → Int32} {b : Nat → Nat} (tC : CTape (nI n) f n b) (ht : txt e b) (he : e ≤ n) (he2 : e ≤ 240) (rs : Int32 → Int32 → Int32 → Int32 → (Nat → Int32) → Int32 → (Nat → Int32) → (Nat → Int32) → Int32 → Option (Int32 × Int32 × Int32 × (Nat → Int32) × (Nat → Int32))) {o : Nat} (ho : o ≤ 6) (hin : HS e n f b .ter (dF o + 1) (fo_X3_readTerm rs) o) : ∀ (k i p s a m : Nat) (sg va : Nat → Int32) (F : Den), e ≤ p + k → k + 1 < m → p ≤ e → i + 1 ≤ p → s ≤ p → SegC sg va a s (dF o + 2) F → ∃ R, DD e b (.srs F) o p R ∧ MC p s a (dF o + 2) sg va (Lo_X3_readSum_7 rs (nI e) (nI n) f (nI o) m (nI i, nI p, nI 0, nI s, sg, va)) R := by
  intro k
  induction k with
  | zero =>
    intro i p s a m sg va F hk hm hp hi hs hF
    obtain ⟨m, rfl⟩ : ∃ k, m = k + 1 := ⟨m - 1, by omega⟩
    have hc0 := sign_C tC he (show p < 100000 by omega)
    have q : (nI 240 ≤ nI i) = False := by rw [le_nI (by omega) (by omega)]; exact eq_false (by omega)
    have hno : ¬ addS (hN e b p) := fun h => by have := sgn_in (addS_lt h); omega
    have s43 : (hr e b p = nI 43) = False := by rw [eq_hr ht p (by omega)]; exact eq_false (fun h => hno (by unfold addS; omega))
    have s45 : (hr e b p = nI 45) = False := by rw [eq_hr ht p (by omega)]; exact eq_false (fun h => hno (by unfold addS; omega))
    refine ⟨_, DD.qE hno, ?_⟩
    rw [st_X3_readSum_7]
    simp only [ltz]
    simp (disch := omega) only [↓reduceIte, ↓some_bind, ↓nm_eq, ↓jn_eq, ↓wr_nI, ↓rd_nI, ↓gb0, ↓gb1, n10, n00, q, ↓bind_of sound_0, ↓bind_of hc0, s43, s45]
    exact ⟨s, sg, va, rfl, Nat.le_refl _, Nat.le_refl _, fun i _ => ⟨rfl, rfl⟩, hF⟩
  | succ k ih =>
    intro i p s a m sg va F hk hm hp hi hs hF
    obtain ⟨m, rfl⟩ : ∃ k, m = k + 1 + 1 := ⟨m - 2, by omega⟩
    have hc0 := sign_C tC he (show p < 100000 by omega)
    have q : (nI 240 ≤ nI i) = False := by rw [le_nI (by omega) (by omega)]; exact eq_false (by omega)
    by_cases hno : addS (hN e b p)
    · have hpe := sgn_in (addS_lt hno)
      have hop : isOp (hN e b p) := by unfold addS at hno; unfold isOp; omega
      have hhr : hr e b p = nI (hN e b p) := by
        rcases hN_lt ht p with ⟨_, _, h⟩ | ⟨_, h, _⟩
        · exact h
        · exact absurd hpe h
      obtain ⟨R1, D1, M1⟩ := hin (p + 1) s sg va (by omega) (by omega)
      have hro := DD_ok D1 (by omega)
      have body : ∀ r, (fo_X3_readTerm rs) (nI e) (nI (p + 1)) (nI 0) (nI n) f (nI s) sg va (nI o) = some r → Lo_X3_readSum_7 rs (nI e) (nI n) f (nI o) (m + 1 + 1) (nI i, nI p, nI 0, nI s, sg, va) = (f_X2_add r.2.2.1 r.2.2.2.1 r.2.2.2.2 (hr e b p) (nI 0)).bind fun u7 => Lo_X3_readSum_7 rs (nI e) (nI n) f (nI o) (m + 1) (nI (i + 1), r.1, r.2.1, u7.2.1, u7.2.2.1, u7.2.2.2) := by
        intro r hr0
        rw [st_X3_readSum_7]
        simp only [ltz]
        unfold addS at hno
        rcases hno with h | h
        · have s43 : (hr e b p = nI 43) = True := by rw [eq_hr ht p (by omega)]; exact eq_true h
          simp (disch := omega) only [↓reduceIte, ↓some_bind, ↓nm_eq, ↓jn_eq, ↓wr_nI, ↓rd_nI, ↓gb0, ↓gb1, n10, n00, q, ↓bind_of sound_0, ↓bind_of hc0, s43, add_nI, ↓bind_of hr0]
        · have s45 : (hr e b p = nI 45) = True := by rw [eq_hr ht p (by omega)]; exact eq_true h
          have s43 : (hr e b p = nI 43) = False := by rw [eq_hr ht p (by omega)]; exact eq_false (by omega)
          simp (disch := omega) only [↓reduceIte, ↓some_bind, ↓nm_eq, ↓jn_eq, ↓wr_nI, ↓rd_nI, ↓gb0, ↓gb1, n10, n00, q, ↓bind_of sound_0, ↓bind_of hc0, s43, s45, add_nI, ↓bind_of hr0]
      rcases R1 with ⟨w, q1⟩ | ⟨G, p'⟩
      · skip
        obtain ⟨p', s', sg', va', M1, hs'⟩ := M1
        obtain ⟨r1, r2, r3⟩ := hro
        have hf := flt_ne w q1 r1 (by omega) (by omega)
        obtain ⟨a', s2, sg2, va2, hadd, hs2⟩ := put_T hs'.1 sg' va' (hr e b p) (nI 0)
        refine ⟨_, DD.qB hno D1, ?_⟩
        rw [body _ M1]
        simp only [↓bind_of hadd]
        rw [st_X3_readSum_7]
        have q' : (nI 240 ≤ nI (i + 1)) = False ∨ (nI 240 ≤ nI (i + 1)) = True := by
          by_cases h : nI 240 ≤ nI (i + 1)
          · exact Or.inr (eq_true h)
          · exact Or.inl (eq_false h)
        simp only [ltz]
        rcases q' with q' | q'
        · simp (disch := omega) only [↓reduceIte, ↓some_bind, ↓nm_eq, ↓jn_eq, ↓wr_nI, ↓rd_nI, ↓gb0, ↓gb1, n10, n00, q', ↓bind_of (sound_n hf)]
          exact ⟨_, s2, _, _, rfl, hs2, hs'.2⟩
        · simp (disch := omega) only [↓reduceIte, ↓some_bind, ↓nm_eq, ↓jn_eq, ↓wr_nI, ↓rd_nI, ↓gb0, ↓gb1, n10, n00, q']
          exact ⟨_, s2, _, _, rfl, hs2, hs'.2⟩
      · skip
        obtain ⟨s', sg', va', M1, g1, g2, g3, g4⟩ := M1
        obtain ⟨r1, r2, r3⟩ := hro
        have r1 : p + 1 + 1 ≤ p' := r1
        have g2 : s' + (p + 1) ≤ s + p' := g2
        have hadd := put_C (s := s') (by omega) sg' va' (hr e b p) (nI 0)
        have hF' : SegC sg' va' a s (dF o + 2) F := SegC_congr hF (fun q h1 h2 => g3 q (by omega))
        have hB : SegC (upd sg' s' (hr e b p)) (upd va' s' (nI 0)) a (s' + 1) (dF o + 2) (binF (hN e b p) F G) := SegC_bin (Nat.le_refl _) (by unfold dF; omega) (by unfold dF; omega) (SegC_congr hF' (fun q _ h2 => ⟨upd_ne _ _ (by omega), upd_ne _ _ (by omega)⟩)) (seg_up g4) hop (by rw [upd_at]; exact hhr)
        obtain ⟨R2, D2, M2⟩ := ih (i + 1) p' (s' + 1) a (m + 1) _ _ _ (by omega) (by omega) r2 (by omega) (by omega) hB
        refine ⟨R2, DD.qN hno D1 D2, ?_⟩
        rw [body _ M1]
        simp only [↓bind_of hadd]
        rcases R2 with ⟨w, q1⟩ | ⟨H, p2⟩
        · exact M2
        · skip
          obtain ⟨s2, sg2, va2, M2, k1, k2, k3, k4⟩ := M2
          refine ⟨s2, sg2, va2, M2, by omega, by omega, fun i hi => ?_, k4⟩
          have x1 := k3 i (by omega)
          have x2 := g3 i (by omega)
          rw [x1.1, x1.2, upd_ne _ _ (by omega), upd_ne _ _ (by omega)]
          exact x2
    · have s43 : (hr e b p = nI 43) = False := by rw [eq_hr ht p (by omega)]; exact eq_false (fun h => hno (by unfold addS; omega))
      have s45 : (hr e b p = nI 45) = False := by rw [eq_hr ht p (by omega)]; exact eq_false (fun h => hno (by unfold addS; omega))
      refine ⟨_, DD.qE hno, ?_⟩
      rw [st_X3_readSum_7]
      simp only [ltz]
      simp (disch := omega) only [↓reduceIte, ↓some_bind, ↓nm_eq, ↓jn_eq, ↓wr_nI, ↓rd_nI, ↓gb0, ↓gb1, n10, n00, q, ↓bind_of sound_0, ↓bind_of hc0, s43, s45]
      exact ⟨s, sg, va, rfl, Nat.le_refl _, Nat.le_refl _, fun i _ => ⟨rfl, rfl⟩, hF⟩
theorem sum_C {n e : Nat} {f : Nat → Int32} {b : Nat → Nat} (tC : CTape (nI n) f n b) (ht : txt e b) (he : e ≤ n) (he2 : e ≤ 240) (rs : Int32 → Int32 → Int32 → Int32 → (Nat → Int32) → Int32 → (Nat → Int32) → (Nat → Int32) → Int32 → Option (Int32 × Int32 × Int32 × (Nat → Int32) × (Nat → Int32))) {o : Nat} (ho : o ≤ 6) (hin : HS e n f b .ter (dF o + 1) (fo_X3_readTerm rs) o) : HS e n f b .sum (dF o + 2) (Fo_X3_readSum rs) o := by
  intro p s sg va hp hs
  obtain ⟨R, D1, M1⟩ := hin p s sg va hp hs
  have hro := DD_ok D1 hp
  unfold Fo_X3_readSum
  rcases R with ⟨w, q⟩ | ⟨F, p'⟩
  · skip
    obtain ⟨p', s', sg', va', M1, hs'⟩ := M1
    obtain ⟨r1, r2, r3⟩ := hro
    have hf := flt_ne w q r1 (by omega) (by omega)
    refine ⟨_, DD.sB D1, ?_⟩
    rw [M1, some_bind]
    dsimp only
    have hfu : fu = (fu - 1) + 1 := by have := @fu_gt 1 (by omega); omega
    have q' : (nI 240 ≤ nI 0) = False := by rw [le_nI (by omega) (by omega)]; exact eq_false (by omega)
    rw [hfu, st_X3_readSum_7]
    simp only [ltz]
    simp (disch := omega) only [↓reduceIte, ↓some_bind, ↓nm_eq, ↓jn_eq, ↓wr_nI, ↓rd_nI, ↓gb0, ↓gb1, n10, n00, q', ↓bind_of (sound_n hf)]
    exact ⟨_, s', _, _, rfl, hs'⟩
  · skip
    obtain ⟨s', sg', va', M1, g1, g2, g3, g4⟩ := M1
    obtain ⟨r1, r2, r3⟩ := hro
    have r1 : p + 1 ≤ p' := r1
    obtain ⟨R2, D2, M2⟩ := sumL_C tC ht he he2 rs ho hin e 0 p' s' s fu sg' va' F (by omega) (fu_gt (by omega)) r2 (by omega) (by omega) (SegC_mono g4 (by omega))
    refine ⟨R2, DD.sN D1 D2, ?_⟩
    rw [M1, some_bind]
    dsimp only
    simp only [ltz]
    rcases R2 with ⟨w, q1⟩ | ⟨H, p2⟩
    · exact M2
    · skip
      obtain ⟨s2, sg2, va2, M2, k1, k2, k3, k4⟩ := M2
      refine ⟨s2, sg2, va2, M2, by omega, by omega, fun i hi => ?_, k4⟩
      have x1 := k3 i (by omega)
      have x2 := g3 i hi
      exact ⟨x1.1.trans x2.1, x1.2.trans x2.2⟩
theorem sumAll_C {n e : Nat} {f : Nat → Int32} {b : Nat → Nat} (tC : CTape (nI n) f n b) (ht : txt e b) (he : e ≤ n) (he2 : e ≤ 240) : ∀ (k o : Nat), o ≤ 6 → 7 ≤ o + k → HS e n f b .sum (dF o + 2) (fo_X3_readSum k) o := by
  intro k
  induction k with
  | zero => intro o h1 h2; omega
  | succ k ih =>
    intro o h1 h2
    exact sum_C tC ht he he2 (fo_X3_readSum k) h1 (term_C tC ht he he2 (fo_X3_readSum k) h1 (factor_C tC ht he he2 (fo_X3_readSum k) h1 (fun h => ih (o + 1) (by omega) (by omega))))
