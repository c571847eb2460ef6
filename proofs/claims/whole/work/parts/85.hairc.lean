/-! HAIR: the class's reader -/
theorem st_X1_readPins_2 (rp : (Nat → Int32) → (Nat → Int32) → Int32 → Int32 → Int32 → Int32 → (Nat → Int32) → Int32 → Option ((Nat → Int32) × (Nat → Int32) × Int32 × Int32)) (script_end : Int32) (script_tape_size : Int32) (script_tape_bytes : (Nat → Int32)) (x1 : Int32) (m : Nat) (s : Int32 × (Nat → Int32) × (Nat → Int32) × Int32 × Int32) : Lo_X1_readPins_2 rp script_end script_tape_size script_tape_bytes x1 (m + 1) s = (if (60 : Int32) < s.1 then (some (s.2.1, s.2.2.1, s.2.2.2.1, s.2.2.2.2)) else (f_X7_isSound s.2.2.2.2).bind fun u1 => if u1 = 0 then (some (s.2.1, s.2.2.1, s.2.2.2.1, s.2.2.2.2)) else jn (fun s2 : Unit => (fo_X1_readItem rp s.2.1 s.2.2.1 script_end s.2.2.2.1 s.2.2.2.2 script_tape_size script_tape_bytes x1).bind fun u3 => nm (s.1 + (1 : Int32)) fun v4 => (Lo_X1_readPins_2 rp script_end script_tape_size script_tape_bytes x1 m) (v4, u3.1, u3.2.1, u3.2.2.1, u3.2.2.2)) fun j31 => if s.1 ≤ 0 then (j31 ()) else (fo_X1_endsHere script_end s.2.2.2.1 script_tape_size script_tape_bytes x1).bind fun u5 => if u5 = 0 then (j31 ()) else some (s.2.1, s.2.2.1, s.2.2.2.1, s.2.2.2.2)) := rfl
theorem st_X1_readGroup_74 (rp : (Nat → Int32) → (Nat → Int32) → Int32 → Int32 → Int32 → Int32 → (Nat → Int32) → Int32 → Option ((Nat → Int32) × (Nat → Int32) × Int32 × Int32)) (t_ahead : (Nat → Int32)) (script_end : Int32) (script_place : Int32) (script_fault : Int32) (script_tape_size : Int32) (script_tape_bytes : (Nat → Int32)) (x1 : Int32) (x2 : Int32) (m : Nat) (s : Int32 × (Nat → Int32)) : Lo_X1_readGroup_74 rp t_ahead script_end script_place script_fault script_tape_size script_tape_bytes x1 x2 (m + 1) s = (if (6 : Int32) ≤ s.1 then (some (s.2, t_ahead, script_place, script_fault)) else (f_X7_isSound script_fault).bind fun u7 => if u7 = 0 then (some (s.2, t_ahead, script_place, script_fault)) else rd s.2 6 s.1 fun v8 => rd s.2 6 s.1 fun v9 => rd t_ahead 12 ((x1 * (6 : Int32)) + s.1) fun v10 => wr s.2 6 s.1 (v8 + ((x2 - (1 : Int32)) * (v9 - v10))) fun g11 => nm (s.1 + (1 : Int32)) fun v12 => (Lo_X1_readGroup_74 rp t_ahead script_end script_place script_fault script_tape_size script_tape_bytes x1 x2 m) (v12, g11)) := rfl
def sI (f : Nat → Int32) : Nat → Int32
  | 0 => nI 0
  | n + 1 => sI f n + f n
theorem soFar_some (pins : Nat → Int32) : f_X1_pinsSoFar pins = some (sI pins 6) := by
  unfold f_X1_pinsSoFar L_X1_pinsSoFar_4
  refine lp_run (fun k => (sI pins k, nI k)) 6 _ ?_ ?_ (fu_gt (by omega))
  · intro go k hk
    have q : (nI 6 ≤ nI k) = False := by rw [le_nI (by omega) (by omega)]; exact eq_false (by omega)
    simp (disch := omega) only [ltz, q, ↓reduceIte, ↓nm_eq, ↓rd_nI, add_nI]
    rfl
  · intro go
    have q : (nI 6 ≤ nI 6) = True := by rw [le_nI (by omega) (by omega)]; exact eq_true (by omega)
    simp only [ltz, q, ↓reduceIte]
theorem sI_nI {pins : Nat → Int32} {P : Nat → Nat} : ∀ n, (∀ k, k < n → pins k = nI (P k)) → sI pins n = nI (sumN P n) := by
  intro n
  induction n with
  | zero => intro _; rfl
  | succ n ih =>
    intro h
    show sI pins n + pins n = _
    rw [ih (fun k hk => h k (by omega)), h n (by omega), add_nI]
    rfl
theorem soFar_C {pins : Nat → Int32} {P : Nat → Nat} (h : ∀ k, k < 6 → pins k = nI (P k)) : f_X1_pinsSoFar pins = some (nI (sumN P 6)) := by rw [soFar_some, sI_nI 6 h]
abbrev HRp : Type := (Nat → Int32) → (Nat → Int32) → Int32 → Int32 → Int32 → Int32 → (Nat → Int32) → Int32 → Option ((Nat → Int32) × (Nat → Int32) × Int32 × Int32)
/-- how a reading ends: with a fault, or behind an item -/
def HEnd (F : Nat → Prop) (e : Nat) (b : Nat → Nat) (x : Nat) (m : Bool) (p : Nat) (st : HSt) (P : Nat → Nat) (pins' ahead' : Nat → Int32) (p' : Nat) (z : Int32) : Prop :=
  (∃ w q Pz, 1 ≤ w ∧ w ≤ 6 ∧ q ≤ e ∧ z = flt w q ∧ hEv e b m p x st P (w, q, Pz)) ∨
  (z = nI 0 ∧ F p' ∧ ∃ P' st', (∀ k, k < 6 → pins' k = nI (P' k)) ∧ sumN P' 6 ≤ 60 ∧ (∀ k, k < 6 → P k ≤ P' k) ∧ (∀ j, j < x → st' j = st j) ∧ (∀ j, j < x → ∀ k, k < 6 → ahead' (j * 6 + k) = nI ((st j).2.2 k)) ∧ (∀ r, hEv e b false p' x st' P' r → hEv e b m p x st P r))
def HFin (e : Nat) (b : Nat → Nat) (x p0 p' : Nat) : Prop := p0 ≤ p' ∧ (x = 0 → p' = e) ∧ (0 < x → hN e b p' = 41)
def HCon (e n : Nat) (b : Nat → Nat) (f : Nat → Int32) (x : Nat) (rp : HRp) : Prop := ∀ (pins ahead : Nat → Int32) (p : Nat) (st : HSt) (P : Nat → Nat), (∀ k, k < 6 → pins k = nI (P k)) → sumN P 6 ≤ 60 → p ≤ e → (∀ j, j < x → ∀ k, k < 6 → ahead (j * 6 + k) = nI ((st j).2.2 k)) →
  ∃ pins' ahead' p' z, rp pins ahead (nI e) (nI p) (nI 0) (nI n) f (nI x) = some (pins', ahead', nI p', z) ∧ p' ≤ e ∧ HEnd (HFin e b x p) e b x true p st P pins' ahead' p' z
theorem grpL_C {rp : HRp} {ahead pins f : Nat → Int32} {se sp sn : Int32} {x t : Nat} {P Q : Nat → Nat} (hx : x < 2) (h1 : ∀ k, k < 6 → pins k = nI (P k)) (h2 : ∀ k, k < 6 → ahead (x * 6 + k) = nI (Q k)) (h3 : ∀ k, k < 6 → Q k ≤ P k) (ht : 1 ≤ t) : ∃ pins', Lo_X1_readGroup_74 rp ahead se sp (nI 0) sn f (nI x) (nI t) fu (nI 0, pins) = some (pins', ahead, sp, nI 0) ∧ (∀ k, k < 6 → pins' k = nI (hRep P Q t k)) := by
  refine ⟨mixN 6 (fun k => nI (hRep P Q t k)) pins, ?_, fun k hk => mix_lt hk⟩
  unfold Lo_X1_readGroup_74
  refine lp_run0 (fun k => (nI k, mixN k (fun k => nI (hRep P Q t k)) pins)) 6 _ (by show _ = (nI 0, mixN 0 _ pins); rw [mix_0]) ?_ ?_ (fu_gt (by omega))
  · intro go k hk
    have q : (nI 6 ≤ nI k) = False := by rw [le_nI (by omega) (by omega)]; exact eq_false (by omega)
    have e1 : mixN k (fun k => nI (hRep P Q t k)) pins k = nI (P k) := by
      show (if k < k then _ else pins k) = _
      rw [if_neg (by omega), h1 k hk]
    have e2 : x * 6 + k < 12 := by omega
    have e3 : nI (P k + (t - 1) * (P k - Q k)) = nI (hRep P Q t k) := rfl
    have e4 : upd (mixN k (fun k => nI (hRep P Q t k)) pins) k (nI (hRep P Q t k)) = mixN (k + 1) (fun k => nI (hRep P Q t k)) pins := mix_s k (fun k => nI (hRep P Q t k)) pins
    have e5 := h3 k hk
    simp (disch := omega) only [ltz, q, ↓reduceIte, ↓bind_of sound_0, n10, ↓nm_eq, ↓rd_nI, ↓wr_nI, e1, mul_nI, add_nI, h2 k hk, sub_nI, e3, e4]
  · intro go
    have q : (nI 6 ≤ nI 6) = True := by rw [le_nI (by omega) (by omega)]; exact eq_true (by omega)
    simp only [ltz, q, ↓reduceIte]
theorem grpL_n {rp : HRp} {ahead pins f : Nat → Int32} {se sp sn z x t : Int32} (hz : z ≠ nI 0) : Lo_X1_readGroup_74 rp ahead se sp z sn f x t fu (nI 0, pins) = some (pins, ahead, sp, z) := by
  have e : fu = 19999 + 1 := rfl
  have q : (nI 6 ≤ nI 0) = False := by rw [le_nI (by omega) (by omega)]; exact eq_false (by omega)
  rw [e, st_X1_readGroup_74]
  simp only [ltz, q, ↓reduceIte, ↓bind_of (sound_n hz), n00]
theorem cpyA {β : Type} {f g : Nat → Int32} {x : Nat} {k : (Nat → Int32) → Option β} (hx : x < 2) : cpy f 6 g 12 (nI 0) (nI (x * 6)) (nI 6) k = k (va_cpy f g 0 (x * 6) 6) := by
  unfold cpy
  rw [nI_clamp (n := 0) (by omega), nI_clamp (n := 6) (by omega), nI_clamp (n := x * 6) (by omega), if_pos]
  exact ⟨⟨nI_pos (by omega), nI_pos (by omega), nI_pos (by omega)⟩, by omega, by omega⟩
theorem win_C {e : Nat} {b : Nat → Nat} (ht : txt e b) (p : Nat) {l h : Nat} (hh : h < 256) (hl : l < 256) : f_X11_isWithin (hr e b p) (nI l) (nI h) = some (nI (if decide (l ≤ hN e b p ∧ hN e b p ≤ h) = true then 1 else 0)) := by rw [win_in]; exact in_hr ht p hh hl
theorem winY {e : Nat} {b : Nat → Nat} (ht : txt e b) {p l h : Nat} (hh : h < 256) (hl : l < 256) (c : l ≤ hN e b p ∧ hN e b p ≤ h) : f_X11_isWithin (hr e b p) (nI l) (nI h) = some (nI 1) := by rw [win_C ht p hh hl, decide_eq_true c]; rfl
theorem winN {e : Nat} {b : Nat → Nat} (ht : txt e b) {p l h : Nat} (hh : h < 256) (hl : l < 256) (c : ¬ (l ≤ hN e b p ∧ hN e b p ≤ h)) : f_X11_isWithin (hr e b p) (nI l) (nI h) = some (nI 0) := by rw [win_C ht p hh hl, decide_eq_false c]; rfl
/-- the end of an item: are they too many? -/
def hKJ (fi : Int32) (s6 : (Nat → Int32) × (Nat → Int32) × Int32 × Int32) : Option ((Nat → Int32) × (Nat → Int32) × Int32 × Int32) := (f_X1_pinsSoFar s6.1).bind fun u7 => if u7 ≤ (60 : Int32) then (some (s6.1, s6.2.1, s6.2.2.1, s6.2.2.2)) else (f_X7_fail s6.2.2.2 (6 : Int32) fi).bind fun u8 => some (s6.1, s6.2.1, s6.2.2.1, u8)
def hKI (rp : HRp) (t_pins t_ahead : Nat → Int32) (se fi sf sn : Int32) (f : Nat → Int32) (x1 : Int32) (s3 : Int32 × Int32) : Option ((Nat → Int32) × (Nat → Int32) × Int32 × Int32) := (fo_X7_sign se s3.2 sn f).bind fun u4 => (f_X11_isWithin u4 (97 : Int32) (102 : Int32)).bind fun u5 => jn (hKJ fi) fun j139 => if u5 = 0 then ((fo_X7_sign se s3.2 sn f).bind fun u9 => if u9 = (40 : Int32) then ((fo_X1_readGroup rp t_pins t_ahead se s3.2 sf sn f x1 s3.1).bind fun u11 => j139 (u11.1, u11.2.1, u11.2.2.1, u11.2.2.2)) else (f_X7_fail sf (1 : Int32) s3.2).bind fun u10 => j139 (t_pins, t_ahead, s3.2, u10)) else (fo_X7_sign se s3.2 sn f).bind fun u12 => nm (u12 - (97 : Int32)) fun v13 => rd t_pins 6 v13 fun v14 => wr t_pins 6 v13 (v14 + s3.1) fun g15 => nm (s3.2 + (1 : Int32)) fun v16 => j139 (g15, t_ahead, v16, sf)
theorem item_eq (rp : HRp) (t_pins t_ahead : Nat → Int32) (se sp sf sn : Int32) (f : Nat → Int32) (x1 : Int32) : fo_X1_readItem rp t_pins t_ahead se sp sf sn f x1 = (fo_X7_sign se sp sn f).bind fun u1 => (f_X11_isWithin u1 (50 : Int32) (57 : Int32)).bind fun u2 => jn (hKI rp t_pins t_ahead se sp sf sn f x1) fun j51 => if u2 = 0 then (j51 ((1 : Int32), sp)) else (fo_X7_sign se sp sn f).bind fun u17 => nm (u17 - (48 : Int32)) fun v18 => nm (sp + (1 : Int32)) fun v19 => j51 (v18, v19) := rfl
theorem KJ_n {fi pl z : Int32} {pins ahead : Nat → Int32} (hz : z ≠ nI 0) : hKJ fi (pins, ahead, pl, z) = some (pins, ahead, pl, z) := by
  unfold hKJ
  simp only [↓bind_of (soFar_some pins), ↓bind_of (fail_n hz)]
  split <;> rfl
theorem KJ_C {p : Nat} {pl : Int32} {pins ahead : Nat → Int32} {P : Nat → Nat} (h : ∀ k, k < 6 → pins k = nI (P k)) (hb : sumN P 6 < 100000) : hKJ (nI p) (pins, ahead, pl, nI 0) = if sumN P 6 ≤ 60 then some (pins, ahead, pl, nI 0) else some (pins, ahead, pl, flt 6 p) := by
  unfold hKJ
  simp (disch := omega) only [ltz, ↓bind_of (soFar_C h), le_nI, ↓bind_of (fail_0 6 p)]
section HC
variable {n e : Nat} {f : Nat → Int32} {b : Nat → Nat}
theorem item_K (tC : CTape (nI n) f n b) (ht : txt e b) (he : e ≤ n) (rp : HRp) (pins ahead : Nat → Int32) (x z : Int32) {p t p1 : Nat} (hp : p ≤ e) (hT : hTm e b p = (t, p1)) : fo_X1_readItem rp pins ahead (nI e) (nI p) z (nI n) f x = hKI rp pins ahead (nI e) (nI p) z (nI n) f x (nI t, nI p1) := by
  have hn := tC.1
  rw [item_eq]
  simp only [ltz]
  have s1 := sign_C tC he (show p < 100000 by omega)
  obtain ⟨t', p1', hT', h1, h2, h3, h4, h5⟩ := hTm_ok e b p
  rw [hT] at hT'
  injection hT' with a1 a2
  subst a1; subst a2
  rcases h5 with ⟨rfl, rfl, h6⟩ | ⟨rfl, rfl, h6, h7⟩
  · have w1 := winN ht (p := p1) (l := 50) (h := 57) (by omega) (by omega) h6
    simp only [↓bind_of s1, ↓bind_of w1, ↓jn_eq, ↓reduceIte]
  · have w1 := winY ht (p := p) (l := 50) (h := 57) (by omega) (by omega) ⟨h6, h7⟩
    have s2 := (hN_low ht (p := p) (by omega)).2
    simp (disch := omega) only [↓bind_of s1, ↓bind_of w1, ↓jn_eq, n10, ↓reduceIte, ↓nm_eq, s2, sub_nI, add_nI]
theorem grp_5 {rp : HRp} {pins ahead : Nat → Int32} {p1 : Nat} {t : Int32} : fo_X1_readGroup rp pins ahead (nI e) (nI p1) (nI 0) (nI n) f (nI 2) t = some (pins, ahead, nI p1, flt 5 p1) := by
  unfold fo_X1_readGroup
  have q1 : (nI 2 < nI 0) = False := by rw [lt_nI (by omega) (by omega)]; exact eq_false (by omega)
  have q2 : (nI 2 < nI 2) = False := by rw [lt_nI (by omega) (by omega)]; exact eq_false (by omega)
  simp only [ltz, ↓jn_eq, q1, q2, ↓reduceIte, ↓bind_of (fail_0 5 p1)]
theorem grp_C (tC : CTape (nI n) f n b) (ht : txt e b) (he : e ≤ n) {rp : HRp} {x t p1 p : Nat} (hx : x < 2) (hrp : HCon e n b f (x + 1) rp) {pins ahead : Nat → Int32} {st : HSt} {P : Nat → Nat} (h1 : ∀ k, k < 6 → pins k = nI (P k)) (h2 : sumN P 6 ≤ 60) (h3 : ∀ j, j < x → ∀ k, k < 6 → ahead (j * 6 + k) = nI ((st j).2.2 k)) (ht1 : 1 ≤ t) (hp1 : hN e b p1 = 40) :
    ∃ pins' ahead' p' z, fo_X1_readGroup rp pins ahead (nI e) (nI p1) (nI 0) (nI n) f (nI x) (nI t) = some (pins', ahead', nI p', z) ∧ p' ≤ e ∧
      ((∃ w q Pz, 1 ≤ w ∧ w ≤ 6 ∧ q ≤ e ∧ z = flt w q ∧ hEv e b true (p1 + 1) (x + 1) (hPut st x (p, t, P)) P (w, q, Pz)) ∨
       (z = nI 0 ∧ ∃ P' st' q, p' = q + 1 ∧ p1 < q ∧ hN e b q = 41 ∧ (∀ k, k < 6 → pins' k = nI (hRep P' P t k)) ∧ sumN P' 6 ≤ 60 ∧ (∀ k, k < 6 → P k ≤ P' k) ∧ (∀ j, j < x + 1 → st' j = hPut st x (p, t, P) j) ∧ (∀ j, j < x → ∀ k, k < 6 → ahead' (j * 6 + k) = nI ((st j).2.2 k)) ∧ (∀ r, hEv e b false q (x + 1) st' P' r → hEv e b true (p1 + 1) (x + 1) (hPut st x (p, t, P)) P r))) := by
  have hn := tC.1
  have hpe := (hN_low ht (p := p1) (by omega)).1
  have q1 : (nI x < nI 0) = False := by rw [lt_nI (by omega) (by omega)]; exact eq_false (by omega)
  have q2 : (nI x < nI 2) = True := by rw [lt_nI (by omega) (by omega)]; exact eq_true (by omega)
  have r1 : ∀ j, j < x + 1 → ∀ k, k < 6 → va_cpy pins ahead 0 (x * 6) 6 (j * 6 + k) = nI ((hPut st x (p, t, P) j).2.2 k) := by
    intro j hj k hk
    unfold hPut
    by_cases hjx : j = x
    · subst hjx
      rw [if_pos rfl, pk_cpy_in (by omega) (by omega), show 0 + (j * 6 + k - j * 6) = k by omega]
      exact h1 k hk
    · rw [if_neg hjx, pk_cpy_out (by omega)]
      exact h3 j (by omega) k hk
  obtain ⟨pins', ahead', p', z, c1, c2, c3⟩ := hrp pins (va_cpy pins ahead 0 (x * 6) 6) (p1 + 1) (hPut st x (p, t, P)) P h1 h2 (by omega) r1
  unfold fo_X1_readGroup
  simp (disch := omega) only [ltz, ↓jn_eq, q1, q2, ↓reduceIte, ↓nm_eq, add_nI, mul_nI, ↓cpyA hx, ↓bind_of c1]
  rcases c3 with ⟨w, q, Pz, d1, d2, d3, d4, d5⟩ | ⟨rfl, d1, P', st', d2, d3, d4, d5, d6, d7⟩
  · have hz : z ≠ nI 0 := by rw [d4]; exact flt_ne w q d1 (by omega) (by omega)
    simp only [↓bind_of (want_n (c := nI 41) hz), grpL_n hz]
    exact ⟨_, _, _, _, rfl, c2, Or.inl ⟨w, q, Pz, d1, d2, d3, d4, d5⟩⟩
  · have h41 := d1.2.2 (by omega)
    have hge := d1.1
    have hq := (hN_low ht (p := p') (by omega)).1
    have w1 := wantY tC ht he (show p' < 100000 by omega) (show 41 < 256 by omega) h41
    have dx : ∀ k, k < 6 → ahead' (x * 6 + k) = nI (P k) := by
      intro k hk
      have := d6 x (by omega) k hk
      unfold hPut at this
      rw [if_pos rfl] at this
      exact this
    obtain ⟨pins2, g1, g2⟩ := grpL_C (rp := rp) (f := f) (se := nI e) (sp := nI (p' + 1)) (sn := nI n) hx d2 dx d4 ht1
    simp only [↓bind_of w1, g1]
    refine ⟨_, _, _, _, rfl, by omega, Or.inr ⟨rfl, P', st', p', rfl, by omega, h41, g2, d3, d4, d5, fun j hj k hk => ?_, d7⟩⟩
    have := d6 j (by omega) k hk
    unfold hPut at this
    rw [if_neg (by omega)] at this
    exact this
theorem item_C (tC : CTape (nI n) f n b) (ht : txt e b) (he : e ≤ n) {rp : HRp} {x p : Nat} (hx : x ≤ 2) (hrp : x < 2 → HCon e n b f (x + 1) rp) (hp : p ≤ e) {pins ahead : Nat → Int32} {st : HSt} {P : Nat → Nat} (h1 : ∀ k, k < 6 → pins k = nI (P k)) (h2 : sumN P 6 ≤ 60) (h3 : ∀ j, j < x → ∀ k, k < 6 → ahead (j * 6 + k) = nI ((st j).2.2 k)) :
    ∃ pins' ahead' p' z, fo_X1_readItem rp pins ahead (nI e) (nI p) (nI 0) (nI n) f (nI x) = some (pins', ahead', nI p', z) ∧ p' ≤ e ∧ HEnd (fun p' => p < p') e b x true p st P pins' ahead' p' z := by
  have hn := tC.1
  obtain ⟨t, p1, hT, ht1, ht9, hq1, hq2, hq3⟩ := hTm_ok e b p
  rw [item_K tC ht he rp pins ahead (nI x) (nI 0) hp hT]
  unfold hKI
  simp only [ltz]
  have hp1 : p1 ≤ e := by
    rcases hq3 with ⟨rfl, _⟩ | ⟨rfl, _, h6, h7⟩
    · exact hp
    · have := (hN_low ht (p := p) (by omega)).1
      omega
  have s1 := sign_C tC he (show p1 < 100000 by omega)
  by_cases hL : 97 ≤ hN e b p1 ∧ hN e b p1 ≤ 102
  · have w1 := winY ht (p := p1) (l := 97) (h := 102) (by omega) (by omega) hL
    obtain ⟨hlt, s2⟩ := hN_low ht (p := p1) (by omega)
    have hk : hN e b p1 - 97 < 6 := by omega
    have e1 := h1 _ hk
    have hs := hAdd_sum P t _ hk
    have h1' : ∀ k, k < 6 → upd pins (hN e b p1 - 97) (nI (P (hN e b p1 - 97) + t)) k = nI (hAdd P (hN e b p1 - 97) t k) := by
      intro k hk6
      unfold hAdd
      by_cases hkk : k = hN e b p1 - 97
      · rw [hkk, upd_at, if_pos rfl]
      · rw [upd_ne _ _ hkk, if_neg hkk]
        exact h1 k hk6
    have hK := KJ_C (p := p) (pl := nI (p1 + 1)) (ahead := ahead) h1' (by omega)
    simp (disch := omega) only [↓bind_of s1, ↓bind_of w1, ↓jn_eq, n10, ↓reduceIte, ↓nm_eq, s2, sub_nI, ↓rd_nI, ↓wr_nI, e1, add_nI, hK]
    by_cases h60 : sumN (hAdd P (hN e b p1 - 97) t) 6 ≤ 60
    · rw [if_pos h60]
      refine ⟨_, _, _, _, rfl, by omega, Or.inr ⟨rfl, by omega, _, st, h1', h60, fun k hk6 => ?_, fun j _ => rfl, h3, fun r hr => hEv_let hT hL.1 hL.2 h60 hr⟩⟩
      unfold hAdd
      split <;> omega
    · rw [if_neg h60]
      exact ⟨_, _, _, _, rfl, by omega, Or.inl ⟨6, p, P, by omega, by omega, by omega, rfl, hEv_let6 hT hL.1 hL.2 h60⟩⟩
  · have w1 := winN ht (p := p1) (l := 97) (h := 102) (by omega) (by omega) hL
    have q40 := eq_hr ht p1 (c := 40) (by omega)
    by_cases hO : hN e b p1 = 40
    · have q40' : (hr e b p1 = nI 40) = True := by rw [q40]; exact eq_true hO
      have hlt := (hN_low ht (p := p1) (by omega)).1
      by_cases hx2 : x = 2
      · subst hx2
        have hz : flt 5 p1 ≠ nI 0 := flt_ne 5 p1 (by omega) (by omega) (by omega)
        simp only [↓bind_of s1, ↓bind_of w1, ↓jn_eq, ↓reduceIte, q40', ↓bind_of grp_5, KJ_n hz]
        exact ⟨_, _, _, _, rfl, hp1, Or.inl ⟨5, p1, P, by omega, by omega, by omega, rfl, hEv_open5 hT hO rfl⟩⟩
      · obtain ⟨pins', ahead', p', z, c1, c2, c3⟩ := grp_C (p := p) tC ht he (show x < 2 by omega) (hrp (by omega)) h1 h2 h3 ht1 hO
        simp only [↓bind_of s1, ↓bind_of w1, ↓jn_eq, ↓reduceIte, q40', ↓bind_of c1]
        rcases c3 with ⟨w, q, Pz, d1, d2, d3, d4, d5⟩ | ⟨rfl, P', st', q, rfl, d0, d1, d2, d3, d4, d5, d6, d7⟩
        · have hz : z ≠ nI 0 := by rw [d4]; exact flt_ne w q d1 (by omega) (by omega)
          rw [KJ_n hz]
          exact ⟨_, _, _, _, rfl, c2, Or.inl ⟨w, q, Pz, d1, d2, d3, d4, hEv_open hT hO hx2 d5⟩⟩
        · have hle := hRep_le (P := P') (Q := P) ht9 d3
          have hs : st' x = (p, t, P) := by
            have := d5 x (by omega)
            unfold hPut at this
            rw [if_pos rfl] at this
            exact this
          rw [KJ_C (p := p) d2 (by omega)]
          by_cases h60 : sumN (hRep P' P t) 6 ≤ 60
          · rw [if_pos h60]
            refine ⟨_, _, _, _, rfl, c2, Or.inr ⟨rfl, by omega, _, st', d2, h60, fun k hk => ?_, fun j hj => ?_, d6, fun r hr => hEv_open hT hO hx2 (d7 r (hEv_shut d1 hs h60 hr))⟩⟩
            · have := d4 k hk
              unfold hRep
              omega
            · have := d5 j (by omega)
              unfold hPut at this
              rw [if_neg (by omega)] at this
              exact this
          · rw [if_neg h60]
            exact ⟨_, _, _, _, rfl, c2, Or.inl ⟨6, p, P', by omega, by omega, by omega, rfl, hEv_open hT hO hx2 (d7 _ (hEv_shut6 d1 hs h60))⟩⟩
    · have q40' : (hr e b p1 = nI 40) = False := by rw [q40]; exact eq_false hO
      have hz : flt 1 p1 ≠ nI 0 := flt_ne 1 p1 (by omega) (by omega) (by omega)
      simp only [↓bind_of s1, ↓bind_of w1, ↓jn_eq, ↓reduceIte, q40', ↓bind_of (fail_0 1 p1), KJ_n hz]
      exact ⟨_, _, _, _, rfl, hp1, Or.inl ⟨1, p1, P, by omega, by omega, by omega, rfl, hEv_bad hT hL hO⟩⟩
theorem ends_0 (p : Nat) (hp : p ≤ e) (he2 : e ≤ 260) (sn : Int32) : fo_X1_endsHere (nI e) (nI p) sn f (nI 0) = some (nI (if p < e then 0 else 1)) := by
  unfold fo_X1_endsHere f_X7_isAtEnd
  by_cases h : p < e
  · have q : (nI p < nI e) = True := by rw [lt_nI (by omega) (by omega)]; exact eq_true h
    have q' : (nI e ≤ nI p) = False := by rw [le_nI (by omega) (by omega)]; exact eq_false (by omega)
    rw [if_pos h]
    simp only [ltz, q, q', ↓reduceIte, ↓some_bind, gb0, gb1]
  · have q : (nI p < nI e) = False := by rw [lt_nI (by omega) (by omega)]; exact eq_false h
    have q' : (nI e ≤ nI p) = True := by rw [le_nI (by omega) (by omega)]; exact eq_true (by omega)
    rw [if_neg h]
    simp only [ltz, q, q', ↓reduceIte, ↓some_bind, gb0, gb1]
theorem ends_C (tC : CTape (nI n) f n b) (ht : txt e b) (he : e ≤ n) {x p : Nat} (hx : x ≤ 2) (hp : p ≤ e) : fo_X1_endsHere (nI e) (nI p) (nI n) f (nI x) = some (nI (if (x = 0 ∧ ¬ p < e) ∨ (¬ x = 0 ∧ hN e b p = 41) then 1 else 0)) := by
  have hn := tC.1
  by_cases h0 : x = 0
  · subst h0
    rw [ends_0 p hp (by omega)]
    by_cases h : p < e
    · rw [if_pos h, if_neg (fun q => by rcases q with q | q; exact q.2 h; exact q.1 rfl)]
    · rw [if_neg h, if_pos (Or.inl ⟨rfl, h⟩)]
  · have s1 := sign_C tC he (show p < 100000 by omega)
    unfold fo_X1_endsHere
    simp only [ltz]
    have q0 : (nI x = nI 0) = False := by rw [eq_nI (by omega) (by omega)]; exact eq_false h0
    have q41 := eq_hr ht p (c := 41) (by omega)
    by_cases h : hN e b p = 41
    · have q' : (hr e b p = nI 41) = True := by rw [q41]; exact eq_true h
      have hyes : (x = 0 ∧ ¬ p < e) ∨ (¬ x = 0 ∧ hN e b p = 41) := Or.inr ⟨h0, h⟩
      rw [if_pos hyes]
      simp only [q0, ↓reduceIte, ↓bind_of s1, q']
    · have q' : (hr e b p = nI 41) = False := by rw [q41]; exact eq_false h
      have hno : ¬ ((x = 0 ∧ ¬ p < e) ∨ (¬ x = 0 ∧ hN e b p = 41)) := fun z => z.elim (fun z => h0 z.1) (fun z => h z.2)
      rw [if_neg hno]
      simp only [q0, ↓reduceIte, ↓bind_of s1, q']
theorem pinsL_n {rp : HRp} {se sn sp x i z : Int32} {pins ahead : Nat → Int32} {m : Nat} (hz : z ≠ nI 0) : Lo_X1_readPins_2 rp se sn f x (m + 1) (i, pins, ahead, sp, z) = some (pins, ahead, sp, z) := by
  rw [st_X1_readPins_2]
  simp only [ltz, ↓bind_of (sound_n hz), ↓reduceIte]
  split <;> rfl
theorem pinsL_C (tC : CTape (nI n) f n b) (ht : txt e b) (he : e ≤ n) (he60 : e ≤ 60) {rp : HRp} {x : Nat} (hx : x ≤ 2) (hrp : x < 2 → HCon e n b f (x + 1) rp) : ∀ (μ i m p : Nat) (pins ahead : Nat → Int32) (st : HSt) (P : Nat → Nat), e - p < μ → μ + 1 ≤ m → i ≤ p → p ≤ e → (∀ k, k < 6 → pins k = nI (P k)) → sumN P 6 ≤ 60 → (∀ j, j < x → ∀ k, k < 6 → ahead (j * 6 + k) = nI ((st j).2.2 k)) →
    ∃ pins' ahead' p' z, Lo_X1_readPins_2 rp (nI e) (nI n) f (nI x) m (nI i, pins, ahead, nI p, nI 0) = some (pins', ahead', nI p', z) ∧ p' ≤ e ∧ HEnd (HFin e b x p) e b x (decide (i = 0)) p st P pins' ahead' p' z := by
  intro μ
  induction μ with
  | zero => intro i m p pins ahead st P h; omega
  | succ μ ih =>
    intro i m p pins ahead st P hμ hm hi hp h1 h2 h3
    obtain ⟨m, rfl⟩ : ∃ z, m = z + 2 := ⟨m - 2, by omega⟩
    rw [st_X1_readPins_2]
    have q60 : (nI 60 < nI i) = False := by rw [lt_nI (by omega) (by omega)]; exact eq_false (by omega)
    -- the rest behind an item
    have key : (∀ r, hEv e b true p x st P r → hEv e b (decide (i = 0)) p x st P r) → ∃ pins' ahead' p' z, ((fo_X1_readItem rp pins ahead (nI e) (nI p) (nI 0) (nI n) f (nI x)).bind fun u3 => Lo_X1_readPins_2 rp (nI e) (nI n) f (nI x) (m + 1) (nI (i + 1), u3.1, u3.2.1, u3.2.2.1, u3.2.2.2)) = some (pins', ahead', nI p', z) ∧ p' ≤ e ∧ HEnd (HFin e b x p) e b x (decide (i = 0)) p st P pins' ahead' p' z := by
      intro hfrom
      obtain ⟨pins1, ahead1, p1, z1, c1, c2, c3⟩ := item_C tC ht he hx hrp hp h1 h2 h3
      rw [bind_of c1]
      rcases c3 with ⟨w, q, Pz, d1, d2, d3, d4, d5⟩ | ⟨rfl, d0, P', st', d2, d3, d4, d5, d6, d7⟩
      · have hz : z1 ≠ nI 0 := by rw [d4]; exact flt_ne w q d1 (by omega) (by omega)
        exact ⟨_, _, _, _, pinsL_n hz, c2, Or.inl ⟨w, q, Pz, d1, d2, d3, d4, hfrom _ d5⟩⟩
      · have d6' : ∀ j, j < x → ∀ k, k < 6 → ahead1 (j * 6 + k) = nI ((st' j).2.2 k) := fun j hj k hk => by rw [d5 j hj]; exact d6 j hj k hk
        obtain ⟨pins2, ahead2, p2, z2, g1, g2, g3⟩ := ih (i + 1) (m + 1) p1 pins1 ahead1 st' P' (by omega) (by omega) (by omega) c2 d2 d3 d6'
        refine ⟨_, _, _, _, g1, g2, ?_⟩
        have hdec : decide (i + 1 = 0) = false := decide_eq_false (by omega)
        rw [hdec] at g3
        rcases g3 with ⟨w, q, Pz, k1, k2, k3, k4, k5⟩ | ⟨rfl, k0, P2, st2, k2, k3, k4, k5, k6, k7⟩
        · exact Or.inl ⟨w, q, Pz, k1, k2, k3, k4, hfrom _ (d7 _ k5)⟩
        · refine Or.inr ⟨rfl, ⟨by have := k0.1; omega, k0.2⟩, P2, st2, k2, k3, fun k hk => ?_, fun j hj => ?_, fun j hj k hk => ?_, fun r hr => hfrom _ (d7 _ (k7 r hr))⟩
          · have a1 := d4 k hk
            have a2 := k4 k hk
            omega
          · rw [k5 j hj, d5 j hj]
          · rw [k6 j hj k hk, d5 j hj]
    by_cases h0 : i = 0
    · subst h0
      have q0 : (nI 0 ≤ nI 0) = True := by rw [le_nI (by omega) (by omega)]; exact eq_true (by omega)
      simp only [ltz, q60, ↓reduceIte, ↓bind_of sound_0, n10, ↓jn_eq, q0, ↓nm_eq, add_nI]
      exact key (fun r hr => by rw [decide_eq_true rfl]; exact hr)
    · have q0 : (nI i ≤ nI 0) = False := by rw [le_nI (by omega) (by omega)]; exact eq_false (by omega)
      have hd0 : decide (i = 0) = false := decide_eq_false h0
      have hend := ends_C tC ht he hx hp
      by_cases hE : (x = 0 ∧ ¬ p < e) ∨ (¬ x = 0 ∧ hN e b p = 41)
      · rw [if_pos hE] at hend
        simp only [ltz, q60, ↓reduceIte, ↓bind_of sound_0, n10, ↓jn_eq, q0, ↓bind_of hend]
        refine ⟨_, _, _, _, rfl, hp, Or.inr ⟨rfl, ⟨Nat.le_refl _, fun hx0 => by omega, fun hx0 => by omega⟩, P, st, h1, h2, fun _ _ => Nat.le_refl _, fun _ _ => rfl, h3, fun r hr => ?_⟩⟩
        rw [hd0]; exact hr
      · rw [if_neg hE] at hend
        simp only [ltz, q60, ↓reduceIte, ↓bind_of sound_0, n10, ↓jn_eq, q0, ↓bind_of hend, n00, ↓nm_eq, add_nI]
        refine key (fun r hr => ?_)
        rw [hd0]
        by_cases hx0 : x = 0
        · exact hEv_nxt0 hx0 (by omega) hr
        · exact hEv_nxt hx0 (by omega) hr
theorem pins_C (tC : CTape (nI n) f n b) (ht : txt e b) (he : e ≤ n) (he60 : e ≤ 60) {rp : HRp} {x : Nat} (hx : x ≤ 2) (hrp : x < 2 → HCon e n b f (x + 1) rp) : HCon e n b f x (Fo_X1_readPins rp) := by
  intro pins ahead p st P h1 h2 h3 h4
  unfold Fo_X1_readPins
  exact pinsL_C tC ht he he60 hx hrp (e + 1) 0 fu p pins ahead st P (by omega) (by have := fu_gt (show 100 < 20000 by omega); omega) (by omega) h3 h1 h2 h4
theorem pins4_C (tC : CTape (nI n) f n b) (ht : txt e b) (he : e ≤ n) (he60 : e ≤ 60) : HCon e n b f 0 (fo_X1_readPins 4) := by
  have c2 : HCon e n b f 2 (fo_X1_readPins 2) := pins_C tC ht he he60 (by omega) (fun h => absurd h (by omega))
  have c1 : HCon e n b f 1 (fo_X1_readPins 3) := pins_C tC ht he he60 (by omega) (fun _ => c2)
  exact pins_C tC ht he he60 (by omega) (fun _ => c1)
/-- the class's reader: what it answers -/
theorem read_C (tC : CTape (nI n) f n b) (ht : txt e b) (he : e ≤ n) (he60 : e ≤ 60) (pins ahead : Nat → Int32) : ∃ pins' ahead' p' z w q P', fo_X1_read pins ahead (nI e) (nI 0) (nI 0) (nI n) f = some (pins', ahead', p', z) ∧ hEv e b true 0 0 (fun _ => (0, 0, fun _ => 0)) (fun _ => 0) (w, q, P') ∧ ((1 ≤ w ∧ w ≤ 6 ∧ q ≤ e ∧ z = flt w q) ∨ (w = 0 ∧ z = nI 0 ∧ (∀ k, k < 6 → pins' k = nI (P' k)) ∧ sumN P' 6 ≤ 60)) := by
  have c0 := fill_N (n := 6) (by omega) pins
  have z6 : sumN (fun _ => 0) 6 = 0 := by decide
  obtain ⟨pins', ahead', p', z, c1, c2, c3⟩ := pins4_C tC ht he he60 (mixN 6 (fun _ => nI 0) pins) ahead 0 (fun _ => (0, 0, fun _ => 0)) (fun _ => 0) (fun k hk => mix_lt hk) (by omega) (by omega) (fun j hj => absurd hj (by omega))
  unfold fo_X1_read
  simp only [ltz, ↓bind_of c0, ↓bind_of c1]
  rcases c3 with ⟨w, q, Pz, d1, d2, d3, d4, d5⟩ | ⟨rfl, d0, P', st', d2, d3, d4, d5, d6, d7⟩
  · exact ⟨_, _, _, _, w, q, Pz, rfl, d5, Or.inl ⟨d1, d2, d3, d4⟩⟩
  · have hpe := d0.2.1 rfl
    exact ⟨_, _, _, _, 0, 0, P', rfl, d7 _ (hEv_fin rfl (by omega)), Or.inr ⟨rfl, rfl, d2, d3⟩⟩
end HC
