/-! THE LAW as a text: what can stand where -/
inductive Res where
  | bad (w q : Nat) : Res
  | ok (F : Den) (p : Nat) : Res
inductive It where
  | fac : It
  | ter : It
  | trs (F : Den) : It
  | sum : It
  | srs (F : Den) : It
  | tst : It
  | prt : It
  | cho : It
def ltN (c : Nat) : Option Nat := if c = 119 then some 0 else if c = 114 then some 1 else if c = 100 then some 2 else if c = 111 then some 3 else if c = 117 then some 4 else if c = 107 then some 5 else if c = 110 then some 6 else if c = 112 then some 7 else if c = 99 then some 8 else if c = 116 then some 9 else none
def mulS (c : Nat) : Prop := c = 42 ∨ c = 47 ∨ c = 37
def addS (c : Nat) : Prop := c = 43 ∨ c = 45
def cmpS (c : Nat) : Prop := c = 60 ∨ c = 62 ∨ c = 61
instance (c : Nat) : Decidable (mulS c) := by unfold mulS; infer_instance
instance (c : Nat) : Decidable (addS c) := by unfold addS; infer_instance
instance (c : Nat) : Decidable (cmpS c) := by unfold cmpS; infer_instance
inductive DD (e : Nat) (b : Nat → Nat) : It → Nat → Nat → Res → Prop where
  | fNum {o p : Nat} (h : dgB e b p = true) (h2 : (nmr e b 5 0 p).2.2 = 0) : DD e b .fac o p (.ok (numF (nmr e b 5 0 p).1) (nmr e b 5 0 p).2.1)
  | fNumB {o p : Nat} (h : dgB e b p = true) (h2 : ¬ (nmr e b 5 0 p).2.2 = 0) : DD e b .fac o p (.bad 2 (nmr e b 5 0 p).2.1)
  | fLet {o p l : Nat} (h : ltN (hN e b p) = some l) : DD e b .fac o p (.ok (letF l) (p + 1))
  | fBad {o p : Nat} (h : ¬ hN e b p = 91) (h1 : ltN (hN e b p) = none) (h2 : dgB e b p = false) : DD e b .fac o p (.bad 1 p)
  | fDeep {o p : Nat} (h : hN e b p = 91) (ho : 6 ≤ o) : DD e b .fac o p (.bad 5 p)
  | fOpB {o p w q : Nat} (h : hN e b p = 91) (ho : o < 6) (d : DD e b .sum (o + 1) (p + 1) (.bad w q)) : DD e b .fac o p (.bad w q)
  | fOpN {o p p' : Nat} {F : Den} (h : hN e b p = 91) (ho : o < 6) (d : DD e b .sum (o + 1) (p + 1) (.ok F p')) (hn : ¬ hN e b p' = 93) : DD e b .fac o p (.bad 1 p')
  | fOp {o p p' : Nat} {F : Den} (h : hN e b p = 91) (ho : o < 6) (d : DD e b .sum (o + 1) (p + 1) (.ok F p')) (hy : hN e b p' = 93) : DD e b .fac o p (.ok F (p' + 1))
  | tB {o p w q : Nat} (d : DD e b .fac o p (.bad w q)) : DD e b .ter o p (.bad w q)
  | tN {o p p' : Nat} {F : Den} {R : Res} (d : DD e b .fac o p (.ok F p')) (d2 : DD e b (.trs F) o p' R) : DD e b .ter o p R
  | rE {o p : Nat} {F : Den} (h : ¬ mulS (hN e b p)) : DD e b (.trs F) o p (.ok F p)
  | rB {o p w q : Nat} {F : Den} (h : mulS (hN e b p)) (d : DD e b .fac o (p + 1) (.bad w q)) : DD e b (.trs F) o p (.bad w q)
  | rN {o p p' : Nat} {F G : Den} {R : Res} (h : mulS (hN e b p)) (d : DD e b .fac o (p + 1) (.ok G p')) (d2 : DD e b (.trs (binF (hN e b p) F G)) o p' R) : DD e b (.trs F) o p R
  | sB {o p w q : Nat} (d : DD e b .ter o p (.bad w q)) : DD e b .sum o p (.bad w q)
  | sN {o p p' : Nat} {F : Den} {R : Res} (d : DD e b .ter o p (.ok F p')) (d2 : DD e b (.srs F) o p' R) : DD e b .sum o p R
  | qE {o p : Nat} {F : Den} (h : ¬ addS (hN e b p)) : DD e b (.srs F) o p (.ok F p)
  | qB {o p w q : Nat} {F : Den} (h : addS (hN e b p)) (d : DD e b .ter o (p + 1) (.bad w q)) : DD e b (.srs F) o p (.bad w q)
  | qN {o p p' : Nat} {F G : Den} {R : Res} (h : addS (hN e b p)) (d : DD e b .ter o (p + 1) (.ok G p')) (d2 : DD e b (.srs (binF (hN e b p) F G)) o p' R) : DD e b (.srs F) o p R
  | nD {o p : Nat} (h : hN e b p = 33) (ho : 6 ≤ o) : DD e b .tst o p (.bad 5 p)
  | nB {o p w q : Nat} (h : hN e b p = 33) (ho : o < 6) (d : DD e b .tst (o + 1) (p + 1) (.bad w q)) : DD e b .tst o p (.bad w q)
  | nO {o p p' : Nat} {F : Den} (h : hN e b p = 33) (ho : o < 6) (d : DD e b .tst (o + 1) (p + 1) (.ok F p')) : DD e b .tst o p (.ok (notF F) p')
  | pD {o p : Nat} (h : hN e b p = 40) (ho : 6 ≤ o) : DD e b .tst o p (.bad 5 p)
  | pB {o p w q : Nat} (h : hN e b p = 40) (ho : o < 6) (d : DD e b .cho (o + 1) (p + 1) (.bad w q)) : DD e b .tst o p (.bad w q)
  | pN {o p p' : Nat} {F : Den} (h : hN e b p = 40) (ho : o < 6) (d : DD e b .cho (o + 1) (p + 1) (.ok F p')) (hn : ¬ hN e b p' = 41) : DD e b .tst o p (.bad 1 p')
  | pO {o p p' : Nat} {F : Den} (h : hN e b p = 40) (ho : o < 6) (d : DD e b .cho (o + 1) (p + 1) (.ok F p')) (hy : hN e b p' = 41) : DD e b .tst o p (.ok F (p' + 1))
  | cB {o p w q : Nat} (h1 : ¬ hN e b p = 33) (h2 : ¬ hN e b p = 40) (d : DD e b .sum o p (.bad w q)) : DD e b .tst o p (.bad w q)
  | cS {o p p1 : Nat} {A : Den} (h1 : ¬ hN e b p = 33) (h2 : ¬ hN e b p = 40) (d : DD e b .sum o p (.ok A p1)) (h : ¬ cmpS (hN e b p1)) : DD e b .tst o p (.bad 1 p1)
  | cB2 {o p p1 w q : Nat} {A : Den} (h1 : ¬ hN e b p = 33) (h2 : ¬ hN e b p = 40) (d : DD e b .sum o p (.ok A p1)) (h : cmpS (hN e b p1)) (d2 : DD e b .sum o (p1 + 1) (.bad w q)) : DD e b .tst o p (.bad w q)
  | cO {o p p1 p2 : Nat} {A B : Den} (h1 : ¬ hN e b p = 33) (h2 : ¬ hN e b p = 40) (d : DD e b .sum o p (.ok A p1)) (h : cmpS (hN e b p1)) (d2 : DD e b .sum o (p1 + 1) (.ok B p2)) : DD e b .tst o p (.ok (binF (hN e b p1) A B) p2)
  | aB {o p w q : Nat} (d : DD e b .tst o p (.bad w q)) : DD e b .prt o p (.bad w q)
  | aE {o p p' : Nat} {F : Den} (d : DD e b .tst o p (.ok F p')) (h : ¬ hN e b p' = 38) : DD e b .prt o p (.ok F p')
  | aNB {o p p' w q : Nat} {F : Den} (d : DD e b .tst o p (.ok F p')) (h : hN e b p' = 38) (d2 : DD e b .prt o (p' + 1) (.bad w q)) : DD e b .prt o p (.bad w q)
  | aN {o p p' p2 : Nat} {F G : Den} (d : DD e b .tst o p (.ok F p')) (h : hN e b p' = 38) (d2 : DD e b .prt o (p' + 1) (.ok G p2)) : DD e b .prt o p (.ok (andF F G) p2)
  | oB {o p w q : Nat} (d : DD e b .prt o p (.bad w q)) : DD e b .cho o p (.bad w q)
  | oE {o p p' : Nat} {F : Den} (d : DD e b .prt o p (.ok F p')) (h : ¬ hN e b p' = 124) : DD e b .cho o p (.ok F p')
  | oNB {o p p' w q : Nat} {F : Den} (d : DD e b .prt o p (.ok F p')) (h : hN e b p' = 124) (d2 : DD e b .cho o (p' + 1) (.bad w q)) : DD e b .cho o p (.bad w q)
  | oN {o p p' p2 : Nat} {F G : Den} (d : DD e b .prt o p (.ok F p')) (h : hN e b p' = 124) (d2 : DD e b .cho o (p' + 1) (.ok G p2)) : DD e b .cho o p (.ok (orF F G) p2)
def itS : It → Nat
  | .trs _ => 0
  | .srs _ => 0
  | _ => 1
def itB : It → Prop
  | .tst => True
  | .prt => True
  | .cho => True
  | _ => False
def ROK (e p : Nat) (it : It) : Res → Prop
  | .bad w q => 1 ≤ w ∧ w ≤ 5 ∧ q ≤ e
  | .ok F p' => p + itS it ≤ p' ∧ p' ≤ e ∧ (itB it → B01 F)
theorem sgn_in {e : Nat} {b : Nat → Nat} {p : Nat} (h : hN e b p < 256) : p < e := by
  unfold hN at h
  split at h
  · assumption
  · omega
theorem sgn_eq {e : Nat} {b : Nat → Nat} {p c : Nat} (h : hN e b p = c) (hc : c < 256) : p < e := sgn_in (e := e) (b := b) (by omega)
theorem mulS_lt {c : Nat} (h : mulS c) : c < 256 := by unfold mulS at h; omega
theorem addS_lt {c : Nat} (h : addS c) : c < 256 := by unfold addS at h; omega
theorem cmpS_lt {c : Nat} (h : cmpS c) : c < 256 := by unfold cmpS at h; omega
theorem ltN_lt {c l : Nat} (h : ltN c = some l) : c < 256 ∧ l < 10 ∧ ¬ c = 91 ∧ (c < 48 ∨ 57 < c) := by
  unfold ltN at h
  repeat' (first | (split at h; (injection h with h; omega)) | (split at h) | (cases h))
theorem DD_ok {e : Nat} {b : Nat → Nat} {it : It} {o p : Nat} {R : Res} (h : DD e b it o p R) : p ≤ e → ROK e p it R := by
  induction h with
  | @fNum o p h h2 =>
    intro hp
    obtain ⟨a1, a2, a3, a4, a5⟩ := nmr_ok (e := e) (b := b) 5 0 p
    have hlt := dgB_lt h
    refine ⟨?_, by omega, fun h => h.elim⟩
    show p + 1 ≤ _
    have : nmr e b 5 0 p = nmr e b 4 (10 * 0 + hN e b p - 48) (p + 1) := by
      show (if dgB e b p then _ else _) = _
      rw [if_pos h]
    rw [this]
    exact (nmr_ok (e := e) (b := b) 4 (10 * 0 + hN e b p - 48) (p + 1)).2.1
  | @fNumB o p h h2 =>
    intro hp
    obtain ⟨a1, a2, a3, a4, a5⟩ := nmr_ok (e := e) (b := b) 5 0 p
    exact ⟨by omega, by omega, by omega⟩
  | @fLet o p l h =>
    intro hp
    have := sgn_in (ltN_lt h).1
    exact ⟨Nat.le_refl _, by omega, fun h => h.elim⟩
  | fBad h h1 h2 => intro hp; exact ⟨by omega, by omega, hp⟩
  | fDeep h ho => intro hp; exact ⟨by omega, by omega, hp⟩
  | @fOpB o p w q h ho d ih =>
    intro hp
    exact ih (sgn_eq h (by omega))
  | @fOpN o p p' F h ho d hn ih =>
    intro hp
    obtain ⟨a, b, c⟩ := ih (sgn_eq h (by omega))
    exact ⟨by omega, by omega, b⟩
  | @fOp o p p' F h ho d hy ih =>
    intro hp
    obtain ⟨a, b', c⟩ := ih (sgn_eq h (by omega))
    have := sgn_in (e := e) (b := b) (p := p') (by omega)
    have a : p + 1 + 1 ≤ p' := a
    exact ⟨by show p + 1 ≤ p' + 1; omega, by omega, fun h => h.elim⟩
  | tB d ih => intro hp; exact ih hp
  | @tN o p p' F R d d2 ih ih2 =>
    intro hp
    obtain ⟨a, b, c⟩ := ih hp
    have a : p + 1 ≤ p' := a
    have k := ih2 b
    cases R with
    | bad w q => exact k
    | ok G p2 =>
      obtain ⟨a2, b2, c2⟩ := k
      have a2 : p' + 0 ≤ p2 := a2
      exact ⟨by show p + 1 ≤ p2; omega, b2, fun h => h.elim⟩
  | rE h => intro hp; exact ⟨Nat.le_refl _, hp, fun h => h.elim⟩
  | rB h d ih => intro hp; exact ih (sgn_in (mulS_lt h))
  | @rN o p p' F G R h d d2 ih ih2 =>
    intro hp
    obtain ⟨a, b', c⟩ := ih (sgn_in (mulS_lt h))
    have a : p + 1 + 1 ≤ p' := a
    have k := ih2 b'
    cases R with
    | bad w q => exact k
    | ok G p2 =>
      obtain ⟨a2, b2, c2⟩ := k
      have a2 : p' + 0 ≤ p2 := a2
      exact ⟨by show p + 0 ≤ p2; omega, b2, fun h => h.elim⟩
  | sB d ih => intro hp; exact ih hp
  | @sN o p p' F R d d2 ih ih2 =>
    intro hp
    obtain ⟨a, b, c⟩ := ih hp
    have a : p + 1 ≤ p' := a
    have k := ih2 b
    cases R with
    | bad w q => exact k
    | ok G p2 =>
      obtain ⟨a2, b2, c2⟩ := k
      have a2 : p' + 0 ≤ p2 := a2
      exact ⟨by show p + 1 ≤ p2; omega, b2, fun h => h.elim⟩
  | qE h => intro hp; exact ⟨Nat.le_refl _, hp, fun h => h.elim⟩
  | qB h d ih => intro hp; exact ih (sgn_in (addS_lt h))
  | @qN o p p' F G R h d d2 ih ih2 =>
    intro hp
    obtain ⟨a, b', c⟩ := ih (sgn_in (addS_lt h))
    have a : p + 1 + 1 ≤ p' := a
    have k := ih2 b'
    cases R with
    | bad w q => exact k
    | ok G p2 =>
      obtain ⟨a2, b2, c2⟩ := k
      have a2 : p' + 0 ≤ p2 := a2
      exact ⟨by show p + 0 ≤ p2; omega, b2, fun h => h.elim⟩
  | nD h ho => intro hp; exact ⟨by omega, by omega, hp⟩
  | nB h ho d ih => intro hp; exact ih (sgn_eq h (by omega))
  | @nO o p p' F h ho d ih =>
    intro hp
    obtain ⟨a, b', c⟩ := ih (sgn_eq h (by omega))
    have a : p + 1 + 1 ≤ p' := a
    exact ⟨by show p + 1 ≤ p'; omega, b', fun _ => B01_not (c trivial)⟩
  | pD h ho => intro hp; exact ⟨by omega, by omega, hp⟩
  | pB h ho d ih => intro hp; exact ih (sgn_eq h (by omega))
  | @pN o p p' F h ho d hn ih =>
    intro hp
    obtain ⟨a, b', c⟩ := ih (sgn_eq h (by omega))
    exact ⟨by omega, by omega, b'⟩
  | @pO o p p' F h ho d hy ih =>
    intro hp
    obtain ⟨a, b', c⟩ := ih (sgn_eq h (by omega))
    have a : p + 1 + 1 ≤ p' := a
    have := sgn_in (e := e) (b := b) (p := p') (by omega)
    exact ⟨by show p + 1 ≤ p' + 1; omega, by omega, fun _ => c trivial⟩
  | cB h1 h2 d ih => intro hp; exact ih hp
  | cS h1 h2 d h ih =>
    intro hp
    obtain ⟨a, b', c⟩ := ih hp
    exact ⟨by omega, by omega, b'⟩
  | cB2 h1 h2 d h d2 ih ih2 => intro hp; exact ih2 (sgn_in (cmpS_lt h))
  | @cO o p p1 p2 A B h1 h2 d h d2 ih ih2 =>
    intro hp
    obtain ⟨a, b', c⟩ := ih hp
    obtain ⟨a2, b2, c2⟩ := ih2 (sgn_in (cmpS_lt h))
    have a : p + 1 ≤ p1 := a
    have a2 : p1 + 1 + 1 ≤ p2 := a2
    exact ⟨by show p + 1 ≤ p2; omega, b2, fun _ => B01_cmp (by unfold cmpS at h; omega) A B⟩
  | aB d ih => intro hp; exact ih hp
  | aE d h ih => intro hp; exact ih hp
  | aNB d h d2 ih ih2 => intro hp; exact ih2 (sgn_eq h (by omega))
  | @aN o p p' p2 F G d h d2 ih ih2 =>
    intro hp
    obtain ⟨a, b', c⟩ := ih hp
    obtain ⟨a2, b2, c2⟩ := ih2 (sgn_eq h (by omega))
    have a : p + 1 ≤ p' := a
    have a2 : p' + 1 + 1 ≤ p2 := a2
    exact ⟨by show p + 1 ≤ p2; omega, b2, fun _ => B01_and (c trivial) (c2 trivial)⟩
  | oB d ih => intro hp; exact ih hp
  | oE d h ih => intro hp; exact ih hp
  | oNB d h d2 ih ih2 => intro hp; exact ih2 (sgn_eq h (by omega))
  | @oN o p p' p2 F G d h d2 ih ih2 =>
    intro hp
    obtain ⟨a, b', c⟩ := ih hp
    obtain ⟨a2, b2, c2⟩ := ih2 (sgn_eq h (by omega))
    have a : p + 1 ≤ p' := a
    have a2 : p' + 1 + 1 ≤ p2 := a2
    exact ⟨by show p + 1 ≤ p2; omega, b2, fun _ => B01_or (c trivial) (c2 trivial)⟩
theorem letterAt_s : ∀ c, c < 256 → f_X2_letterAt (nI c) = some (enc (-nI 1) (ltN c)) := by decide +kernel
theorem letterAt_e : f_X2_letterAt (-nI 1) = some (-nI 1) := by decide +kernel
theorem factOf_s : ∀ c, c < 256 → f_X12_factOf (nI c) = some (enc (-nI 1) (ltN c)) := by decide +kernel
theorem factOf_e : f_X12_factOf (-nI 1) = some (-nI 1) := by decide +kernel
theorem letterAt_C {e : Nat} {b : Nat → Nat} (ht : txt e b) (p : Nat) : f_X2_letterAt (hr e b p) = some (enc (-nI 1) (ltN (hN e b p))) := by
  rcases hN_lt ht p with ⟨h1, _, h3⟩ | ⟨h1, _, h3⟩
  · rw [h3]; exact letterAt_s _ h1
  · rw [h3, h1]; exact letterAt_e
theorem factOf_M {e : Nat} {b : Nat → Nat} (ht : txt e b) (p : Nat) : f_X12_factOf (hr e b p) = some (enc (-nI 1) (ltN (hN e b p))) := by
  rcases hN_lt ht p with ⟨h1, _, h3⟩ | ⟨h1, _, h3⟩
  · rw [h3]; exact factOf_s _ h1
  · rw [h3, h1]; exact factOf_e
