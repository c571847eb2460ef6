/-! THE LAW as a text: what can stand where -/
abbrev Res : Type := Sum (Nat × Nat) (Den × Nat)
abbrev Res.bad (w q : Nat) : Res := Sum.inl (w, q)
abbrev Res.ok (F : Den) (p : Nat) : Res := Sum.inr (F, p)
abbrev It : Type := Nat × Den
abbrev It.fac : It := (0, numF 0)
abbrev It.ter : It := (1, numF 0)
abbrev It.trs (F : Den) : It := (2, F)
abbrev It.sum : It := (3, numF 0)
abbrev It.srs (F : Den) : It := (4, F)
abbrev It.tst : It := (5, numF 0)
abbrev It.prt : It := (6, numF 0)
abbrev It.cho : It := (7, numF 0)
def ltN (c : Nat) : Option Nat := if c = 119 then some 0 else if c = 114 then some 1 else if c = 100 then some 2 else if c = 111 then some 3 else if c = 117 then some 4 else if c = 107 then some 5 else if c = 110 then some 6 else if c = 112 then some 7 else if c = 99 then some 8 else if c = 116 then some 9 else none
abbrev mulS (c : Nat) : Prop := c = 42 ∨ c = 47 ∨ c = 37
abbrev addS (c : Nat) : Prop := c = 43 ∨ c = 45
abbrev cmpS (c : Nat) : Prop := c = 60 ∨ c = 62 ∨ c = 61
def DD (e : Nat) (b : Nat → Nat) (it : It) (o p : Nat) (R : Res) : Prop := ∀ P : It → Nat → Nat → Res → Prop, (∀ (o : Nat) (p : Nat), (dgB e b p = true) → ((nmr e b 5 0 p).2.2 = 0) → P .fac o p (.ok (numF (nmr e b 5 0 p).1) (nmr e b 5 0 p).2.1)) → (∀ (o : Nat) (p : Nat), (dgB e b p = true) → (¬ (nmr e b 5 0 p).2.2 = 0) → P .fac o p (.bad 2 (nmr e b 5 0 p).2.1)) → (∀ (o : Nat) (p : Nat) (l : Nat), (ltN (hN e b p) = some l) → P .fac o p (.ok (letF l) (p + 1))) → (∀ (o : Nat) (p : Nat), (¬ hN e b p = 91) → (ltN (hN e b p) = none) → (dgB e b p = false) → P .fac o p (.bad 1 p)) → (∀ (o : Nat) (p : Nat), (hN e b p = 91) → (6 ≤ o) → P .fac o p (.bad 5 p)) → (∀ (o : Nat) (p : Nat) (w : Nat) (q : Nat), (hN e b p = 91) → (o < 6) → (P .sum (o + 1) (p + 1) (.bad w q)) → P .fac o p (.bad w q)) → (∀ (o : Nat) (p : Nat) (p' : Nat) (F : Den), (hN e b p = 91) → (o < 6) → (P .sum (o + 1) (p + 1) (.ok F p')) → (¬ hN e b p' = 93) → P .fac o p (.bad 1 p')) → (∀ (o : Nat) (p : Nat) (p' : Nat) (F : Den), (hN e b p = 91) → (o < 6) → (P .sum (o + 1) (p + 1) (.ok F p')) → (hN e b p' = 93) → P .fac o p (.ok F (p' + 1))) → (∀ (o : Nat) (p : Nat) (w : Nat) (q : Nat), (P .fac o p (.bad w q)) → P .ter o p (.bad w q)) → (∀ (o : Nat) (p : Nat) (p' : Nat) (F : Den) (R : Res), (P .fac o p (.ok F p')) → (P (.trs F) o p' R) → P .ter o p R) → (∀ (o : Nat) (p : Nat) (F : Den), (¬ mulS (hN e b p)) → P (.trs F) o p (.ok F p)) → (∀ (o : Nat) (p : Nat) (w : Nat) (q : Nat) (F : Den), (mulS (hN e b p)) → (P .fac o (p + 1) (.bad w q)) → P (.trs F) o p (.bad w q)) → (∀ (o : Nat) (p : Nat) (p' : Nat) (F : Den) (G : Den) (R : Res), (mulS (hN e b p)) → (P .fac o (p + 1) (.ok G p')) → (P (.trs (binF (hN e b p) F G)) o p' R) → P (.trs F) o p R) → (∀ (o : Nat) (p : Nat) (w : Nat) (q : Nat), (P .ter o p (.bad w q)) → P .sum o p (.bad w q)) → (∀ (o : Nat) (p : Nat) (p' : Nat) (F : Den) (R : Res), (P .ter o p (.ok F p')) → (P (.srs F) o p' R) → P .sum o p R) → (∀ (o : Nat) (p : Nat) (F : Den), (¬ addS (hN e b p)) → P (.srs F) o p (.ok F p)) → (∀ (o : Nat) (p : Nat) (w : Nat) (q : Nat) (F : Den), (addS (hN e b p)) → (P .ter o (p + 1) (.bad w q)) → P (.srs F) o p (.bad w q)) → (∀ (o : Nat) (p : Nat) (p' : Nat) (F : Den) (G : Den) (R : Res), (addS (hN e b p)) → (P .ter o (p + 1) (.ok G p')) → (P (.srs (binF (hN e b p) F G)) o p' R) → P (.srs F) o p R) → (∀ (o : Nat) (p : Nat), (hN e b p = 33) → (6 ≤ o) → P .tst o p (.bad 5 p)) → (∀ (o : Nat) (p : Nat) (w : Nat) (q : Nat), (hN e b p = 33) → (o < 6) → (P .tst (o + 1) (p + 1) (.bad w q)) → P .tst o p (.bad w q)) → (∀ (o : Nat) (p : Nat) (p' : Nat) (F : Den), (hN e b p = 33) → (o < 6) → (P .tst (o + 1) (p + 1) (.ok F p')) → P .tst o p (.ok (notF F) p')) → (∀ (o : Nat) (p : Nat), (hN e b p = 40) → (6 ≤ o) → P .tst o p (.bad 5 p)) → (∀ (o : Nat) (p : Nat) (w : Nat) (q : Nat), (hN e b p = 40) → (o < 6) → (P .cho (o + 1) (p + 1) (.bad w q)) → P .tst o p (.bad w q)) → (∀ (o : Nat) (p : Nat) (p' : Nat) (F : Den), (hN e b p = 40) → (o < 6) → (P .cho (o + 1) (p + 1) (.ok F p')) → (¬ hN e b p' = 41) → P .tst o p (.bad 1 p')) → (∀ (o : Nat) (p : Nat) (p' : Nat) (F : Den), (hN e b p = 40) → (o < 6) → (P .cho (o + 1) (p + 1) (.ok F p')) → (hN e b p' = 41) → P .tst o p (.ok F (p' + 1))) → (∀ (o : Nat) (p : Nat) (w : Nat) (q : Nat), (¬ hN e b p = 33) → (¬ hN e b p = 40) → (P .sum o p (.bad w q)) → P .tst o p (.bad w q)) → (∀ (o : Nat) (p : Nat) (p1 : Nat) (A : Den), (¬ hN e b p = 33) → (¬ hN e b p = 40) → (P .sum o p (.ok A p1)) → (¬ cmpS (hN e b p1)) → P .tst o p (.bad 1 p1)) → (∀ (o : Nat) (p : Nat) (p1 : Nat) (w : Nat) (q : Nat) (A : Den), (¬ hN e b p = 33) → (¬ hN e b p = 40) → (P .sum o p (.ok A p1)) → (cmpS (hN e b p1)) → (P .sum o (p1 + 1) (.bad w q)) → P .tst o p (.bad w q)) → (∀ (o : Nat) (p : Nat) (p1 : Nat) (p2 : Nat) (A : Den) (B : Den), (¬ hN e b p = 33) → (¬ hN e b p = 40) → (P .sum o p (.ok A p1)) → (cmpS (hN e b p1)) → (P .sum o (p1 + 1) (.ok B p2)) → P .tst o p (.ok (binF (hN e b p1) A B) p2)) → (∀ (o : Nat) (p : Nat) (w : Nat) (q : Nat), (P .tst o p (.bad w q)) → P .prt o p (.bad w q)) → (∀ (o : Nat) (p : Nat) (p' : Nat) (F : Den), (P .tst o p (.ok F p')) → (¬ hN e b p' = 38) → P .prt o p (.ok F p')) → (∀ (o : Nat) (p : Nat) (p' : Nat) (w : Nat) (q : Nat) (F : Den), (P .tst o p (.ok F p')) → (hN e b p' = 38) → (P .prt o (p' + 1) (.bad w q)) → P .prt o p (.bad w q)) → (∀ (o : Nat) (p : Nat) (p' : Nat) (p2 : Nat) (F : Den) (G : Den), (P .tst o p (.ok F p')) → (hN e b p' = 38) → (P .prt o (p' + 1) (.ok G p2)) → P .prt o p (.ok (andF F G) p2)) → (∀ (o : Nat) (p : Nat) (w : Nat) (q : Nat), (P .prt o p (.bad w q)) → P .cho o p (.bad w q)) → (∀ (o : Nat) (p : Nat) (p' : Nat) (F : Den), (P .prt o p (.ok F p')) → (¬ hN e b p' = 124) → P .cho o p (.ok F p')) → (∀ (o : Nat) (p : Nat) (p' : Nat) (w : Nat) (q : Nat) (F : Den), (P .prt o p (.ok F p')) → (hN e b p' = 124) → (P .cho o (p' + 1) (.bad w q)) → P .cho o p (.bad w q)) → (∀ (o : Nat) (p : Nat) (p' : Nat) (p2 : Nat) (F : Den) (G : Den), (P .prt o p (.ok F p')) → (hN e b p' = 124) → (P .cho o (p' + 1) (.ok G p2)) → P .cho o p (.ok (orF F G) p2)) → P it o p R
theorem DD.fNum {e : Nat} {b : Nat → Nat} {o : Nat} {p : Nat} (h : dgB e b p = true) (h2 : (nmr e b 5 0 p).2.2 = 0) : DD e b .fac o p (.ok (numF (nmr e b 5 0 p).1) (nmr e b 5 0 p).2.1) := fun P c0 c1 c2 c3 c4 c5 c6 c7 c8 c9 c10 c11 c12 c13 c14 c15 c16 c17 c18 c19 c20 c21 c22 c23 c24 c25 c26 c27 c28 c29 c30 c31 c32 c33 c34 c35 c36 => c0 _ _ h h2
theorem DD.fNumB {e : Nat} {b : Nat → Nat} {o : Nat} {p : Nat} (h : dgB e b p = true) (h2 : ¬ (nmr e b 5 0 p).2.2 = 0) : DD e b .fac o p (.bad 2 (nmr e b 5 0 p).2.1) := fun P c0 c1 c2 c3 c4 c5 c6 c7 c8 c9 c10 c11 c12 c13 c14 c15 c16 c17 c18 c19 c20 c21 c22 c23 c24 c25 c26 c27 c28 c29 c30 c31 c32 c33 c34 c35 c36 => c1 _ _ h h2
theorem DD.fLet {e : Nat} {b : Nat → Nat} {o : Nat} {p : Nat} {l : Nat} (h : ltN (hN e b p) = some l) : DD e b .fac o p (.ok (letF l) (p + 1)) := fun P c0 c1 c2 c3 c4 c5 c6 c7 c8 c9 c10 c11 c12 c13 c14 c15 c16 c17 c18 c19 c20 c21 c22 c23 c24 c25 c26 c27 c28 c29 c30 c31 c32 c33 c34 c35 c36 => c2 _ _ _ h
theorem DD.fBad {e : Nat} {b : Nat → Nat} {o : Nat} {p : Nat} (h : ¬ hN e b p = 91) (h1 : ltN (hN e b p) = none) (h2 : dgB e b p = false) : DD e b .fac o p (.bad 1 p) := fun P c0 c1 c2 c3 c4 c5 c6 c7 c8 c9 c10 c11 c12 c13 c14 c15 c16 c17 c18 c19 c20 c21 c22 c23 c24 c25 c26 c27 c28 c29 c30 c31 c32 c33 c34 c35 c36 => c3 _ _ h h1 h2
theorem DD.fDeep {e : Nat} {b : Nat → Nat} {o : Nat} {p : Nat} (h : hN e b p = 91) (ho : 6 ≤ o) : DD e b .fac o p (.bad 5 p) := fun P c0 c1 c2 c3 c4 c5 c6 c7 c8 c9 c10 c11 c12 c13 c14 c15 c16 c17 c18 c19 c20 c21 c22 c23 c24 c25 c26 c27 c28 c29 c30 c31 c32 c33 c34 c35 c36 => c4 _ _ h ho
theorem DD.fOpB {e : Nat} {b : Nat → Nat} {o : Nat} {p : Nat} {w : Nat} {q : Nat} (h : hN e b p = 91) (ho : o < 6) (d : DD e b .sum (o + 1) (p + 1) (.bad w q)) : DD e b .fac o p (.bad w q) := fun P c0 c1 c2 c3 c4 c5 c6 c7 c8 c9 c10 c11 c12 c13 c14 c15 c16 c17 c18 c19 c20 c21 c22 c23 c24 c25 c26 c27 c28 c29 c30 c31 c32 c33 c34 c35 c36 => c5 _ _ _ _ h ho (d P c0 c1 c2 c3 c4 c5 c6 c7 c8 c9 c10 c11 c12 c13 c14 c15 c16 c17 c18 c19 c20 c21 c22 c23 c24 c25 c26 c27 c28 c29 c30 c31 c32 c33 c34 c35 c36)
theorem DD.fOpN {e : Nat} {b : Nat → Nat} {o : Nat} {p : Nat} {p' : Nat} {F : Den} (h : hN e b p = 91) (ho : o < 6) (d : DD e b .sum (o + 1) (p + 1) (.ok F p')) (hn : ¬ hN e b p' = 93) : DD e b .fac o p (.bad 1 p') := fun P c0 c1 c2 c3 c4 c5 c6 c7 c8 c9 c10 c11 c12 c13 c14 c15 c16 c17 c18 c19 c20 c21 c22 c23 c24 c25 c26 c27 c28 c29 c30 c31 c32 c33 c34 c35 c36 => c6 _ _ _ _ h ho (d P c0 c1 c2 c3 c4 c5 c6 c7 c8 c9 c10 c11 c12 c13 c14 c15 c16 c17 c18 c19 c20 c21 c22 c23 c24 c25 c26 c27 c28 c29 c30 c31 c32 c33 c34 c35 c36) hn
theorem DD.fOp {e : Nat} {b : Nat → Nat} {o : Nat} {p : Nat} {p' : Nat} {F : Den} (h : hN e b p = 91) (ho : o < 6) (d : DD e b .sum (o + 1) (p + 1) (.ok F p')) (hy : hN e b p' = 93) : DD e b .fac o p (.ok F (p' + 1)) := fun P c0 c1 c2 c3 c4 c5 c6 c7 c8 c9 c10 c11 c12 c13 c14 c15 c16 c17 c18 c19 c20 c21 c22 c23 c24 c25 c26 c27 c28 c29 c30 c31 c32 c33 c34 c35 c36 => c7 _ _ _ _ h ho (d P c0 c1 c2 c3 c4 c5 c6 c7 c8 c9 c10 c11 c12 c13 c14 c15 c16 c17 c18 c19 c20 c21 c22 c23 c24 c25 c26 c27 c28 c29 c30 c31 c32 c33 c34 c35 c36) hy
theorem DD.tB {e : Nat} {b : Nat → Nat} {o : Nat} {p : Nat} {w : Nat} {q : Nat} (d : DD e b .fac o p (.bad w q)) : DD e b .ter o p (.bad w q) := fun P c0 c1 c2 c3 c4 c5 c6 c7 c8 c9 c10 c11 c12 c13 c14 c15 c16 c17 c18 c19 c20 c21 c22 c23 c24 c25 c26 c27 c28 c29 c30 c31 c32 c33 c34 c35 c36 => c8 _ _ _ _ (d P c0 c1 c2 c3 c4 c5 c6 c7 c8 c9 c10 c11 c12 c13 c14 c15 c16 c17 c18 c19 c20 c21 c22 c23 c24 c25 c26 c27 c28 c29 c30 c31 c32 c33 c34 c35 c36)
theorem DD.tN {e : Nat} {b : Nat → Nat} {o : Nat} {p : Nat} {p' : Nat} {F : Den} {R : Res} (d : DD e b .fac o p (.ok F p')) (d2 : DD e b (.trs F) o p' R) : DD e b .ter o p R := fun P c0 c1 c2 c3 c4 c5 c6 c7 c8 c9 c10 c11 c12 c13 c14 c15 c16 c17 c18 c19 c20 c21 c22 c23 c24 c25 c26 c27 c28 c29 c30 c31 c32 c33 c34 c35 c36 => c9 _ _ _ _ _ (d P c0 c1 c2 c3 c4 c5 c6 c7 c8 c9 c10 c11 c12 c13 c14 c15 c16 c17 c18 c19 c20 c21 c22 c23 c24 c25 c26 c27 c28 c29 c30 c31 c32 c33 c34 c35 c36) (d2 P c0 c1 c2 c3 c4 c5 c6 c7 c8 c9 c10 c11 c12 c13 c14 c15 c16 c17 c18 c19 c20 c21 c22 c23 c24 c25 c26 c27 c28 c29 c30 c31 c32 c33 c34 c35 c36)
theorem DD.rE {e : Nat} {b : Nat → Nat} {o : Nat} {p : Nat} {F : Den} (h : ¬ mulS (hN e b p)) : DD e b (.trs F) o p (.ok F p) := fun P c0 c1 c2 c3 c4 c5 c6 c7 c8 c9 c10 c11 c12 c13 c14 c15 c16 c17 c18 c19 c20 c21 c22 c23 c24 c25 c26 c27 c28 c29 c30 c31 c32 c33 c34 c35 c36 => c10 _ _ _ h
theorem DD.rB {e : Nat} {b : Nat → Nat} {o : Nat} {p : Nat} {w : Nat} {q : Nat} {F : Den} (h : mulS (hN e b p)) (d : DD e b .fac o (p + 1) (.bad w q)) : DD e b (.trs F) o p (.bad w q) := fun P c0 c1 c2 c3 c4 c5 c6 c7 c8 c9 c10 c11 c12 c13 c14 c15 c16 c17 c18 c19 c20 c21 c22 c23 c24 c25 c26 c27 c28 c29 c30 c31 c32 c33 c34 c35 c36 => c11 _ _ _ _ _ h (d P c0 c1 c2 c3 c4 c5 c6 c7 c8 c9 c10 c11 c12 c13 c14 c15 c16 c17 c18 c19 c20 c21 c22 c23 c24 c25 c26 c27 c28 c29 c30 c31 c32 c33 c34 c35 c36)
theorem DD.rN {e : Nat} {b : Nat → Nat} {o : Nat} {p : Nat} {p' : Nat} {F : Den} {G : Den} {R : Res} (h : mulS (hN e b p)) (d : DD e b .fac o (p + 1) (.ok G p')) (d2 : DD e b (.trs (binF (hN e b p) F G)) o p' R) : DD e b (.trs F) o p R := fun P c0 c1 c2 c3 c4 c5 c6 c7 c8 c9 c10 c11 c12 c13 c14 c15 c16 c17 c18 c19 c20 c21 c22 c23 c24 c25 c26 c27 c28 c29 c30 c31 c32 c33 c34 c35 c36 => c12 _ _ _ _ _ _ h (d P c0 c1 c2 c3 c4 c5 c6 c7 c8 c9 c10 c11 c12 c13 c14 c15 c16 c17 c18 c19 c20 c21 c22 c23 c24 c25 c26 c27 c28 c29 c30 c31 c32 c33 c34 c35 c36) (d2 P c0 c1 c2 c3 c4 c5 c6 c7 c8 c9 c10 c11 c12 c13 c14 c15 c16 c17 c18 c19 c20 c21 c22 c23 c24 c25 c26 c27 c28 c29 c30 c31 c32 c33 c34 c35 c36)
theorem DD.sB {e : Nat} {b : Nat → Nat} {o : Nat} {p : Nat} {w : Nat} {q : Nat} (d : DD e b .ter o p (.bad w q)) : DD e b .sum o p (.bad w q) := fun P c0 c1 c2 c3 c4 c5 c6 c7 c8 c9 c10 c11 c12 c13 c14 c15 c16 c17 c18 c19 c20 c21 c22 c23 c24 c25 c26 c27 c28 c29 c30 c31 c32 c33 c34 c35 c36 => c13 _ _ _ _ (d P c0 c1 c2 c3 c4 c5 c6 c7 c8 c9 c10 c11 c12 c13 c14 c15 c16 c17 c18 c19 c20 c21 c22 c23 c24 c25 c26 c27 c28 c29 c30 c31 c32 c33 c34 c35 c36)
theorem DD.sN {e : Nat} {b : Nat → Nat} {o : Nat} {p : Nat} {p' : Nat} {F : Den} {R : Res} (d : DD e b .ter o p (.ok F p')) (d2 : DD e b (.srs F) o p' R) : DD e b .sum o p R := fun P c0 c1 c2 c3 c4 c5 c6 c7 c8 c9 c10 c11 c12 c13 c14 c15 c16 c17 c18 c19 c20 c21 c22 c23 c24 c25 c26 c27 c28 c29 c30 c31 c32 c33 c34 c35 c36 => c14 _ _ _ _ _ (d P c0 c1 c2 c3 c4 c5 c6 c7 c8 c9 c10 c11 c12 c13 c14 c15 c16 c17 c18 c19 c20 c21 c22 c23 c24 c25 c26 c27 c28 c29 c30 c31 c32 c33 c34 c35 c36) (d2 P c0 c1 c2 c3 c4 c5 c6 c7 c8 c9 c10 c11 c12 c13 c14 c15 c16 c17 c18 c19 c20 c21 c22 c23 c24 c25 c26 c27 c28 c29 c30 c31 c32 c33 c34 c35 c36)
theorem DD.qE {e : Nat} {b : Nat → Nat} {o : Nat} {p : Nat} {F : Den} (h : ¬ addS (hN e b p)) : DD e b (.srs F) o p (.ok F p) := fun P c0 c1 c2 c3 c4 c5 c6 c7 c8 c9 c10 c11 c12 c13 c14 c15 c16 c17 c18 c19 c20 c21 c22 c23 c24 c25 c26 c27 c28 c29 c30 c31 c32 c33 c34 c35 c36 => c15 _ _ _ h
theorem DD.qB {e : Nat} {b : Nat → Nat} {o : Nat} {p : Nat} {w : Nat} {q : Nat} {F : Den} (h : addS (hN e b p)) (d : DD e b .ter o (p + 1) (.bad w q)) : DD e b (.srs F) o p (.bad w q) := fun P c0 c1 c2 c3 c4 c5 c6 c7 c8 c9 c10 c11 c12 c13 c14 c15 c16 c17 c18 c19 c20 c21 c22 c23 c24 c25 c26 c27 c28 c29 c30 c31 c32 c33 c34 c35 c36 => c16 _ _ _ _ _ h (d P c0 c1 c2 c3 c4 c5 c6 c7 c8 c9 c10 c11 c12 c13 c14 c15 c16 c17 c18 c19 c20 c21 c22 c23 c24 c25 c26 c27 c28 c29 c30 c31 c32 c33 c34 c35 c36)
theorem DD.qN {e : Nat} {b : Nat → Nat} {o : Nat} {p : Nat} {p' : Nat} {F : Den} {G : Den} {R : Res} (h : addS (hN e b p)) (d : DD e b .ter o (p + 1) (.ok G p')) (d2 : DD e b (.srs (binF (hN e b p) F G)) o p' R) : DD e b (.srs F) o p R := fun P c0 c1 c2 c3 c4 c5 c6 c7 c8 c9 c10 c11 c12 c13 c14 c15 c16 c17 c18 c19 c20 c21 c22 c23 c24 c25 c26 c27 c28 c29 c30 c31 c32 c33 c34 c35 c36 => c17 _ _ _ _ _ _ h (d P c0 c1 c2 c3 c4 c5 c6 c7 c8 c9 c10 c11 c12 c13 c14 c15 c16 c17 c18 c19 c20 c21 c22 c23 c24 c25 c26 c27 c28 c29 c30 c31 c32 c33 c34 c35 c36) (d2 P c0 c1 c2 c3 c4 c5 c6 c7 c8 c9 c10 c11 c12 c13 c14 c15 c16 c17 c18 c19 c20 c21 c22 c23 c24 c25 c26 c27 c28 c29 c30 c31 c32 c33 c34 c35 c36)
theorem DD.nD {e : Nat} {b : Nat → Nat} {o : Nat} {p : Nat} (h : hN e b p = 33) (ho : 6 ≤ o) : DD e b .tst o p (.bad 5 p) := fun P c0 c1 c2 c3 c4 c5 c6 c7 c8 c9 c10 c11 c12 c13 c14 c15 c16 c17 c18 c19 c20 c21 c22 c23 c24 c25 c26 c27 c28 c29 c30 c31 c32 c33 c34 c35 c36 => c18 _ _ h ho
theorem DD.nB {e : Nat} {b : Nat → Nat} {o : Nat} {p : Nat} {w : Nat} {q : Nat} (h : hN e b p = 33) (ho : o < 6) (d : DD e b .tst (o + 1) (p + 1) (.bad w q)) : DD e b .tst o p (.bad w q) := fun P c0 c1 c2 c3 c4 c5 c6 c7 c8 c9 c10 c11 c12 c13 c14 c15 c16 c17 c18 c19 c20 c21 c22 c23 c24 c25 c26 c27 c28 c29 c30 c31 c32 c33 c34 c35 c36 => c19 _ _ _ _ h ho (d P c0 c1 c2 c3 c4 c5 c6 c7 c8 c9 c10 c11 c12 c13 c14 c15 c16 c17 c18 c19 c20 c21 c22 c23 c24 c25 c26 c27 c28 c29 c30 c31 c32 c33 c34 c35 c36)
theorem DD.nO {e : Nat} {b : Nat → Nat} {o : Nat} {p : Nat} {p' : Nat} {F : Den} (h : hN e b p = 33) (ho : o < 6) (d : DD e b .tst (o + 1) (p + 1) (.ok F p')) : DD e b .tst o p (.ok (notF F) p') := fun P c0 c1 c2 c3 c4 c5 c6 c7 c8 c9 c10 c11 c12 c13 c14 c15 c16 c17 c18 c19 c20 c21 c22 c23 c24 c25 c26 c27 c28 c29 c30 c31 c32 c33 c34 c35 c36 => c20 _ _ _ _ h ho (d P c0 c1 c2 c3 c4 c5 c6 c7 c8 c9 c10 c11 c12 c13 c14 c15 c16 c17 c18 c19 c20 c21 c22 c23 c24 c25 c26 c27 c28 c29 c30 c31 c32 c33 c34 c35 c36)
theorem DD.pD {e : Nat} {b : Nat → Nat} {o : Nat} {p : Nat} (h : hN e b p = 40) (ho : 6 ≤ o) : DD e b .tst o p (.bad 5 p) := fun P c0 c1 c2 c3 c4 c5 c6 c7 c8 c9 c10 c11 c12 c13 c14 c15 c16 c17 c18 c19 c20 c21 c22 c23 c24 c25 c26 c27 c28 c29 c30 c31 c32 c33 c34 c35 c36 => c21 _ _ h ho
theorem DD.pB {e : Nat} {b : Nat → Nat} {o : Nat} {p : Nat} {w : Nat} {q : Nat} (h : hN e b p = 40) (ho : o < 6) (d : DD e b .cho (o + 1) (p + 1) (.bad w q)) : DD e b .tst o p (.bad w q) := fun P c0 c1 c2 c3 c4 c5 c6 c7 c8 c9 c10 c11 c12 c13 c14 c15 c16 c17 c18 c19 c20 c21 c22 c23 c24 c25 c26 c27 c28 c29 c30 c31 c32 c33 c34 c35 c36 => c22 _ _ _ _ h ho (d P c0 c1 c2 c3 c4 c5 c6 c7 c8 c9 c10 c11 c12 c13 c14 c15 c16 c17 c18 c19 c20 c21 c22 c23 c24 c25 c26 c27 c28 c29 c30 c31 c32 c33 c34 c35 c36)
theorem DD.pN {e : Nat} {b : Nat → Nat} {o : Nat} {p : Nat} {p' : Nat} {F : Den} (h : hN e b p = 40) (ho : o < 6) (d : DD e b .cho (o + 1) (p + 1) (.ok F p')) (hn : ¬ hN e b p' = 41) : DD e b .tst o p (.bad 1 p') := fun P c0 c1 c2 c3 c4 c5 c6 c7 c8 c9 c10 c11 c12 c13 c14 c15 c16 c17 c18 c19 c20 c21 c22 c23 c24 c25 c26 c27 c28 c29 c30 c31 c32 c33 c34 c35 c36 => c23 _ _ _ _ h ho (d P c0 c1 c2 c3 c4 c5 c6 c7 c8 c9 c10 c11 c12 c13 c14 c15 c16 c17 c18 c19 c20 c21 c22 c23 c24 c25 c26 c27 c28 c29 c30 c31 c32 c33 c34 c35 c36) hn
theorem DD.pO {e : Nat} {b : Nat → Nat} {o : Nat} {p : Nat} {p' : Nat} {F : Den} (h : hN e b p = 40) (ho : o < 6) (d : DD e b .cho (o + 1) (p + 1) (.ok F p')) (hy : hN e b p' = 41) : DD e b .tst o p (.ok F (p' + 1)) := fun P c0 c1 c2 c3 c4 c5 c6 c7 c8 c9 c10 c11 c12 c13 c14 c15 c16 c17 c18 c19 c20 c21 c22 c23 c24 c25 c26 c27 c28 c29 c30 c31 c32 c33 c34 c35 c36 => c24 _ _ _ _ h ho (d P c0 c1 c2 c3 c4 c5 c6 c7 c8 c9 c10 c11 c12 c13 c14 c15 c16 c17 c18 c19 c20 c21 c22 c23 c24 c25 c26 c27 c28 c29 c30 c31 c32 c33 c34 c35 c36) hy
theorem DD.cB {e : Nat} {b : Nat → Nat} {o : Nat} {p : Nat} {w : Nat} {q : Nat} (h1 : ¬ hN e b p = 33) (h2 : ¬ hN e b p = 40) (d : DD e b .sum o p (.bad w q)) : DD e b .tst o p (.bad w q) := fun P c0 c1 c2 c3 c4 c5 c6 c7 c8 c9 c10 c11 c12 c13 c14 c15 c16 c17 c18 c19 c20 c21 c22 c23 c24 c25 c26 c27 c28 c29 c30 c31 c32 c33 c34 c35 c36 => c25 _ _ _ _ h1 h2 (d P c0 c1 c2 c3 c4 c5 c6 c7 c8 c9 c10 c11 c12 c13 c14 c15 c16 c17 c18 c19 c20 c21 c22 c23 c24 c25 c26 c27 c28 c29 c30 c31 c32 c33 c34 c35 c36)
theorem DD.cS {e : Nat} {b : Nat → Nat} {o : Nat} {p : Nat} {p1 : Nat} {A : Den} (h1 : ¬ hN e b p = 33) (h2 : ¬ hN e b p = 40) (d : DD e b .sum o p (.ok A p1)) (h : ¬ cmpS (hN e b p1)) : DD e b .tst o p (.bad 1 p1) := fun P c0 c1 c2 c3 c4 c5 c6 c7 c8 c9 c10 c11 c12 c13 c14 c15 c16 c17 c18 c19 c20 c21 c22 c23 c24 c25 c26 c27 c28 c29 c30 c31 c32 c33 c34 c35 c36 => c26 _ _ _ _ h1 h2 (d P c0 c1 c2 c3 c4 c5 c6 c7 c8 c9 c10 c11 c12 c13 c14 c15 c16 c17 c18 c19 c20 c21 c22 c23 c24 c25 c26 c27 c28 c29 c30 c31 c32 c33 c34 c35 c36) h
theorem DD.cB2 {e : Nat} {b : Nat → Nat} {o : Nat} {p : Nat} {p1 : Nat} {w : Nat} {q : Nat} {A : Den} (h1 : ¬ hN e b p = 33) (h2 : ¬ hN e b p = 40) (d : DD e b .sum o p (.ok A p1)) (h : cmpS (hN e b p1)) (d2 : DD e b .sum o (p1 + 1) (.bad w q)) : DD e b .tst o p (.bad w q) := fun P c0 c1 c2 c3 c4 c5 c6 c7 c8 c9 c10 c11 c12 c13 c14 c15 c16 c17 c18 c19 c20 c21 c22 c23 c24 c25 c26 c27 c28 c29 c30 c31 c32 c33 c34 c35 c36 => c27 _ _ _ _ _ _ h1 h2 (d P c0 c1 c2 c3 c4 c5 c6 c7 c8 c9 c10 c11 c12 c13 c14 c15 c16 c17 c18 c19 c20 c21 c22 c23 c24 c25 c26 c27 c28 c29 c30 c31 c32 c33 c34 c35 c36) h (d2 P c0 c1 c2 c3 c4 c5 c6 c7 c8 c9 c10 c11 c12 c13 c14 c15 c16 c17 c18 c19 c20 c21 c22 c23 c24 c25 c26 c27 c28 c29 c30 c31 c32 c33 c34 c35 c36)
theorem DD.cO {e : Nat} {b : Nat → Nat} {o : Nat} {p : Nat} {p1 : Nat} {p2 : Nat} {A : Den} {B : Den} (h1 : ¬ hN e b p = 33) (h2 : ¬ hN e b p = 40) (d : DD e b .sum o p (.ok A p1)) (h : cmpS (hN e b p1)) (d2 : DD e b .sum o (p1 + 1) (.ok B p2)) : DD e b .tst o p (.ok (binF (hN e b p1) A B) p2) := fun P c0 c1 c2 c3 c4 c5 c6 c7 c8 c9 c10 c11 c12 c13 c14 c15 c16 c17 c18 c19 c20 c21 c22 c23 c24 c25 c26 c27 c28 c29 c30 c31 c32 c33 c34 c35 c36 => c28 _ _ _ _ _ _ h1 h2 (d P c0 c1 c2 c3 c4 c5 c6 c7 c8 c9 c10 c11 c12 c13 c14 c15 c16 c17 c18 c19 c20 c21 c22 c23 c24 c25 c26 c27 c28 c29 c30 c31 c32 c33 c34 c35 c36) h (d2 P c0 c1 c2 c3 c4 c5 c6 c7 c8 c9 c10 c11 c12 c13 c14 c15 c16 c17 c18 c19 c20 c21 c22 c23 c24 c25 c26 c27 c28 c29 c30 c31 c32 c33 c34 c35 c36)
theorem DD.aB {e : Nat} {b : Nat → Nat} {o : Nat} {p : Nat} {w : Nat} {q : Nat} (d : DD e b .tst o p (.bad w q)) : DD e b .prt o p (.bad w q) := fun P c0 c1 c2 c3 c4 c5 c6 c7 c8 c9 c10 c11 c12 c13 c14 c15 c16 c17 c18 c19 c20 c21 c22 c23 c24 c25 c26 c27 c28 c29 c30 c31 c32 c33 c34 c35 c36 => c29 _ _ _ _ (d P c0 c1 c2 c3 c4 c5 c6 c7 c8 c9 c10 c11 c12 c13 c14 c15 c16 c17 c18 c19 c20 c21 c22 c23 c24 c25 c26 c27 c28 c29 c30 c31 c32 c33 c34 c35 c36)
theorem DD.aE {e : Nat} {b : Nat → Nat} {o : Nat} {p : Nat} {p' : Nat} {F : Den} (d : DD e b .tst o p (.ok F p')) (h : ¬ hN e b p' = 38) : DD e b .prt o p (.ok F p') := fun P c0 c1 c2 c3 c4 c5 c6 c7 c8 c9 c10 c11 c12 c13 c14 c15 c16 c17 c18 c19 c20 c21 c22 c23 c24 c25 c26 c27 c28 c29 c30 c31 c32 c33 c34 c35 c36 => c30 _ _ _ _ (d P c0 c1 c2 c3 c4 c5 c6 c7 c8 c9 c10 c11 c12 c13 c14 c15 c16 c17 c18 c19 c20 c21 c22 c23 c24 c25 c26 c27 c28 c29 c30 c31 c32 c33 c34 c35 c36) h
theorem DD.aNB {e : Nat} {b : Nat → Nat} {o : Nat} {p : Nat} {p' : Nat} {w : Nat} {q : Nat} {F : Den} (d : DD e b .tst o p (.ok F p')) (h : hN e b p' = 38) (d2 : DD e b .prt o (p' + 1) (.bad w q)) : DD e b .prt o p (.bad w q) := fun P c0 c1 c2 c3 c4 c5 c6 c7 c8 c9 c10 c11 c12 c13 c14 c15 c16 c17 c18 c19 c20 c21 c22 c23 c24 c25 c26 c27 c28 c29 c30 c31 c32 c33 c34 c35 c36 => c31 _ _ _ _ _ _ (d P c0 c1 c2 c3 c4 c5 c6 c7 c8 c9 c10 c11 c12 c13 c14 c15 c16 c17 c18 c19 c20 c21 c22 c23 c24 c25 c26 c27 c28 c29 c30 c31 c32 c33 c34 c35 c36) h (d2 P c0 c1 c2 c3 c4 c5 c6 c7 c8 c9 c10 c11 c12 c13 c14 c15 c16 c17 c18 c19 c20 c21 c22 c23 c24 c25 c26 c27 c28 c29 c30 c31 c32 c33 c34 c35 c36)
theorem DD.aN {e : Nat} {b : Nat → Nat} {o : Nat} {p : Nat} {p' : Nat} {p2 : Nat} {F : Den} {G : Den} (d : DD e b .tst o p (.ok F p')) (h : hN e b p' = 38) (d2 : DD e b .prt o (p' + 1) (.ok G p2)) : DD e b .prt o p (.ok (andF F G) p2) := fun P c0 c1 c2 c3 c4 c5 c6 c7 c8 c9 c10 c11 c12 c13 c14 c15 c16 c17 c18 c19 c20 c21 c22 c23 c24 c25 c26 c27 c28 c29 c30 c31 c32 c33 c34 c35 c36 => c32 _ _ _ _ _ _ (d P c0 c1 c2 c3 c4 c5 c6 c7 c8 c9 c10 c11 c12 c13 c14 c15 c16 c17 c18 c19 c20 c21 c22 c23 c24 c25 c26 c27 c28 c29 c30 c31 c32 c33 c34 c35 c36) h (d2 P c0 c1 c2 c3 c4 c5 c6 c7 c8 c9 c10 c11 c12 c13 c14 c15 c16 c17 c18 c19 c20 c21 c22 c23 c24 c25 c26 c27 c28 c29 c30 c31 c32 c33 c34 c35 c36)
theorem DD.oB {e : Nat} {b : Nat → Nat} {o : Nat} {p : Nat} {w : Nat} {q : Nat} (d : DD e b .prt o p (.bad w q)) : DD e b .cho o p (.bad w q) := fun P c0 c1 c2 c3 c4 c5 c6 c7 c8 c9 c10 c11 c12 c13 c14 c15 c16 c17 c18 c19 c20 c21 c22 c23 c24 c25 c26 c27 c28 c29 c30 c31 c32 c33 c34 c35 c36 => c33 _ _ _ _ (d P c0 c1 c2 c3 c4 c5 c6 c7 c8 c9 c10 c11 c12 c13 c14 c15 c16 c17 c18 c19 c20 c21 c22 c23 c24 c25 c26 c27 c28 c29 c30 c31 c32 c33 c34 c35 c36)
theorem DD.oE {e : Nat} {b : Nat → Nat} {o : Nat} {p : Nat} {p' : Nat} {F : Den} (d : DD e b .prt o p (.ok F p')) (h : ¬ hN e b p' = 124) : DD e b .cho o p (.ok F p') := fun P c0 c1 c2 c3 c4 c5 c6 c7 c8 c9 c10 c11 c12 c13 c14 c15 c16 c17 c18 c19 c20 c21 c22 c23 c24 c25 c26 c27 c28 c29 c30 c31 c32 c33 c34 c35 c36 => c34 _ _ _ _ (d P c0 c1 c2 c3 c4 c5 c6 c7 c8 c9 c10 c11 c12 c13 c14 c15 c16 c17 c18 c19 c20 c21 c22 c23 c24 c25 c26 c27 c28 c29 c30 c31 c32 c33 c34 c35 c36) h
theorem DD.oNB {e : Nat} {b : Nat → Nat} {o : Nat} {p : Nat} {p' : Nat} {w : Nat} {q : Nat} {F : Den} (d : DD e b .prt o p (.ok F p')) (h : hN e b p' = 124) (d2 : DD e b .cho o (p' + 1) (.bad w q)) : DD e b .cho o p (.bad w q) := fun P c0 c1 c2 c3 c4 c5 c6 c7 c8 c9 c10 c11 c12 c13 c14 c15 c16 c17 c18 c19 c20 c21 c22 c23 c24 c25 c26 c27 c28 c29 c30 c31 c32 c33 c34 c35 c36 => c35 _ _ _ _ _ _ (d P c0 c1 c2 c3 c4 c5 c6 c7 c8 c9 c10 c11 c12 c13 c14 c15 c16 c17 c18 c19 c20 c21 c22 c23 c24 c25 c26 c27 c28 c29 c30 c31 c32 c33 c34 c35 c36) h (d2 P c0 c1 c2 c3 c4 c5 c6 c7 c8 c9 c10 c11 c12 c13 c14 c15 c16 c17 c18 c19 c20 c21 c22 c23 c24 c25 c26 c27 c28 c29 c30 c31 c32 c33 c34 c35 c36)
theorem DD.oN {e : Nat} {b : Nat → Nat} {o : Nat} {p : Nat} {p' : Nat} {p2 : Nat} {F : Den} {G : Den} (d : DD e b .prt o p (.ok F p')) (h : hN e b p' = 124) (d2 : DD e b .cho o (p' + 1) (.ok G p2)) : DD e b .cho o p (.ok (orF F G) p2) := fun P c0 c1 c2 c3 c4 c5 c6 c7 c8 c9 c10 c11 c12 c13 c14 c15 c16 c17 c18 c19 c20 c21 c22 c23 c24 c25 c26 c27 c28 c29 c30 c31 c32 c33 c34 c35 c36 => c36 _ _ _ _ _ _ (d P c0 c1 c2 c3 c4 c5 c6 c7 c8 c9 c10 c11 c12 c13 c14 c15 c16 c17 c18 c19 c20 c21 c22 c23 c24 c25 c26 c27 c28 c29 c30 c31 c32 c33 c34 c35 c36) h (d2 P c0 c1 c2 c3 c4 c5 c6 c7 c8 c9 c10 c11 c12 c13 c14 c15 c16 c17 c18 c19 c20 c21 c22 c23 c24 c25 c26 c27 c28 c29 c30 c31 c32 c33 c34 c35 c36)
theorem DD_rec {e : Nat} {b : Nat → Nat} {Q : It → Nat → Nat → Res → Prop} {it : It} {o p : Nat} {R : Res} (h : DD e b it o p R) (c0 : ∀ (o : Nat) (p : Nat), (dgB e b p = true) → ((nmr e b 5 0 p).2.2 = 0) → Q .fac o p (.ok (numF (nmr e b 5 0 p).1) (nmr e b 5 0 p).2.1)) (c1 : ∀ (o : Nat) (p : Nat), (dgB e b p = true) → (¬ (nmr e b 5 0 p).2.2 = 0) → Q .fac o p (.bad 2 (nmr e b 5 0 p).2.1)) (c2 : ∀ (o : Nat) (p : Nat) (l : Nat), (ltN (hN e b p) = some l) → Q .fac o p (.ok (letF l) (p + 1))) (c3 : ∀ (o : Nat) (p : Nat), (¬ hN e b p = 91) → (ltN (hN e b p) = none) → (dgB e b p = false) → Q .fac o p (.bad 1 p)) (c4 : ∀ (o : Nat) (p : Nat), (hN e b p = 91) → (6 ≤ o) → Q .fac o p (.bad 5 p)) (c5 : ∀ (o : Nat) (p : Nat) (w : Nat) (q : Nat), (hN e b p = 91) → (o < 6) → (DD e b .sum (o + 1) (p + 1) (.bad w q)) → (Q .sum (o + 1) (p + 1) (.bad w q)) → Q .fac o p (.bad w q)) (c6 : ∀ (o : Nat) (p : Nat) (p' : Nat) (F : Den), (hN e b p = 91) → (o < 6) → (DD e b .sum (o + 1) (p + 1) (.ok F p')) → (¬ hN e b p' = 93) → (Q .sum (o + 1) (p + 1) (.ok F p')) → Q .fac o p (.bad 1 p')) (c7 : ∀ (o : Nat) (p : Nat) (p' : Nat) (F : Den), (hN e b p = 91) → (o < 6) → (DD e b .sum (o + 1) (p + 1) (.ok F p')) → (hN e b p' = 93) → (Q .sum (o + 1) (p + 1) (.ok F p')) → Q .fac o p (.ok F (p' + 1))) (c8 : ∀ (o : Nat) (p : Nat) (w : Nat) (q : Nat), (DD e b .fac o p (.bad w q)) → (Q .fac o p (.bad w q)) → Q .ter o p (.bad w q)) (c9 : ∀ (o : Nat) (p : Nat) (p' : Nat) (F : Den) (R : Res), (DD e b .fac o p (.ok F p')) → (DD e b (.trs F) o p' R) → (Q .fac o p (.ok F p')) → (Q (.trs F) o p' R) → Q .ter o p R) (c10 : ∀ (o : Nat) (p : Nat) (F : Den), (¬ mulS (hN e b p)) → Q (.trs F) o p (.ok F p)) (c11 : ∀ (o : Nat) (p : Nat) (w : Nat) (q : Nat) (F : Den), (mulS (hN e b p)) → (DD e b .fac o (p + 1) (.bad w q)) → (Q .fac o (p + 1) (.bad w q)) → Q (.trs F) o p (.bad w q)) (c12 : ∀ (o : Nat) (p : Nat) (p' : Nat) (F : Den) (G : Den) (R : Res), (mulS (hN e b p)) → (DD e b .fac o (p + 1) (.ok G p')) → (DD e b (.trs (binF (hN e b p) F G)) o p' R) → (Q .fac o (p + 1) (.ok G p')) → (Q (.trs (binF (hN e b p) F G)) o p' R) → Q (.trs F) o p R) (c13 : ∀ (o : Nat) (p : Nat) (w : Nat) (q : Nat), (DD e b .ter o p (.bad w q)) → (Q .ter o p (.bad w q)) → Q .sum o p (.bad w q)) (c14 : ∀ (o : Nat) (p : Nat) (p' : Nat) (F : Den) (R : Res), (DD e b .ter o p (.ok F p')) → (DD e b (.srs F) o p' R) → (Q .ter o p (.ok F p')) → (Q (.srs F) o p' R) → Q .sum o p R) (c15 : ∀ (o : Nat) (p : Nat) (F : Den), (¬ addS (hN e b p)) → Q (.srs F) o p (.ok F p)) (c16 : ∀ (o : Nat) (p : Nat) (w : Nat) (q : Nat) (F : Den), (addS (hN e b p)) → (DD e b .ter o (p + 1) (.bad w q)) → (Q .ter o (p + 1) (.bad w q)) → Q (.srs F) o p (.bad w q)) (c17 : ∀ (o : Nat) (p : Nat) (p' : Nat) (F : Den) (G : Den) (R : Res), (addS (hN e b p)) → (DD e b .ter o (p + 1) (.ok G p')) → (DD e b (.srs (binF (hN e b p) F G)) o p' R) → (Q .ter o (p + 1) (.ok G p')) → (Q (.srs (binF (hN e b p) F G)) o p' R) → Q (.srs F) o p R) (c18 : ∀ (o : Nat) (p : Nat), (hN e b p = 33) → (6 ≤ o) → Q .tst o p (.bad 5 p)) (c19 : ∀ (o : Nat) (p : Nat) (w : Nat) (q : Nat), (hN e b p = 33) → (o < 6) → (DD e b .tst (o + 1) (p + 1) (.bad w q)) → (Q .tst (o + 1) (p + 1) (.bad w q)) → Q .tst o p (.bad w q)) (c20 : ∀ (o : Nat) (p : Nat) (p' : Nat) (F : Den), (hN e b p = 33) → (o < 6) → (DD e b .tst (o + 1) (p + 1) (.ok F p')) → (Q .tst (o + 1) (p + 1) (.ok F p')) → Q .tst o p (.ok (notF F) p')) (c21 : ∀ (o : Nat) (p : Nat), (hN e b p = 40) → (6 ≤ o) → Q .tst o p (.bad 5 p)) (c22 : ∀ (o : Nat) (p : Nat) (w : Nat) (q : Nat), (hN e b p = 40) → (o < 6) → (DD e b .cho (o + 1) (p + 1) (.bad w q)) → (Q .cho (o + 1) (p + 1) (.bad w q)) → Q .tst o p (.bad w q)) (c23 : ∀ (o : Nat) (p : Nat) (p' : Nat) (F : Den), (hN e b p = 40) → (o < 6) → (DD e b .cho (o + 1) (p + 1) (.ok F p')) → (¬ hN e b p' = 41) → (Q .cho (o + 1) (p + 1) (.ok F p')) → Q .tst o p (.bad 1 p')) (c24 : ∀ (o : Nat) (p : Nat) (p' : Nat) (F : Den), (hN e b p = 40) → (o < 6) → (DD e b .cho (o + 1) (p + 1) (.ok F p')) → (hN e b p' = 41) → (Q .cho (o + 1) (p + 1) (.ok F p')) → Q .tst o p (.ok F (p' + 1))) (c25 : ∀ (o : Nat) (p : Nat) (w : Nat) (q : Nat), (¬ hN e b p = 33) → (¬ hN e b p = 40) → (DD e b .sum o p (.bad w q)) → (Q .sum o p (.bad w q)) → Q .tst o p (.bad w q)) (c26 : ∀ (o : Nat) (p : Nat) (p1 : Nat) (A : Den), (¬ hN e b p = 33) → (¬ hN e b p = 40) → (DD e b .sum o p (.ok A p1)) → (¬ cmpS (hN e b p1)) → (Q .sum o p (.ok A p1)) → Q .tst o p (.bad 1 p1)) (c27 : ∀ (o : Nat) (p : Nat) (p1 : Nat) (w : Nat) (q : Nat) (A : Den), (¬ hN e b p = 33) → (¬ hN e b p = 40) → (DD e b .sum o p (.ok A p1)) → (cmpS (hN e b p1)) → (DD e b .sum o (p1 + 1) (.bad w q)) → (Q .sum o p (.ok A p1)) → (Q .sum o (p1 + 1) (.bad w q)) → Q .tst o p (.bad w q)) (c28 : ∀ (o : Nat) (p : Nat) (p1 : Nat) (p2 : Nat) (A : Den) (B : Den), (¬ hN e b p = 33) → (¬ hN e b p = 40) → (DD e b .sum o p (.ok A p1)) → (cmpS (hN e b p1)) → (DD e b .sum o (p1 + 1) (.ok B p2)) → (Q .sum o p (.ok A p1)) → (Q .sum o (p1 + 1) (.ok B p2)) → Q .tst o p (.ok (binF (hN e b p1) A B) p2)) (c29 : ∀ (o : Nat) (p : Nat) (w : Nat) (q : Nat), (DD e b .tst o p (.bad w q)) → (Q .tst o p (.bad w q)) → Q .prt o p (.bad w q)) (c30 : ∀ (o : Nat) (p : Nat) (p' : Nat) (F : Den), (DD e b .tst o p (.ok F p')) → (¬ hN e b p' = 38) → (Q .tst o p (.ok F p')) → Q .prt o p (.ok F p')) (c31 : ∀ (o : Nat) (p : Nat) (p' : Nat) (w : Nat) (q : Nat) (F : Den), (DD e b .tst o p (.ok F p')) → (hN e b p' = 38) → (DD e b .prt o (p' + 1) (.bad w q)) → (Q .tst o p (.ok F p')) → (Q .prt o (p' + 1) (.bad w q)) → Q .prt o p (.bad w q)) (c32 : ∀ (o : Nat) (p : Nat) (p' : Nat) (p2 : Nat) (F : Den) (G : Den), (DD e b .tst o p (.ok F p')) → (hN e b p' = 38) → (DD e b .prt o (p' + 1) (.ok G p2)) → (Q .tst o p (.ok F p')) → (Q .prt o (p' + 1) (.ok G p2)) → Q .prt o p (.ok (andF F G) p2)) (c33 : ∀ (o : Nat) (p : Nat) (w : Nat) (q : Nat), (DD e b .prt o p (.bad w q)) → (Q .prt o p (.bad w q)) → Q .cho o p (.bad w q)) (c34 : ∀ (o : Nat) (p : Nat) (p' : Nat) (F : Den), (DD e b .prt o p (.ok F p')) → (¬ hN e b p' = 124) → (Q .prt o p (.ok F p')) → Q .cho o p (.ok F p')) (c35 : ∀ (o : Nat) (p : Nat) (p' : Nat) (w : Nat) (q : Nat) (F : Den), (DD e b .prt o p (.ok F p')) → (hN e b p' = 124) → (DD e b .cho o (p' + 1) (.bad w q)) → (Q .prt o p (.ok F p')) → (Q .cho o (p' + 1) (.bad w q)) → Q .cho o p (.bad w q)) (c36 : ∀ (o : Nat) (p : Nat) (p' : Nat) (p2 : Nat) (F : Den) (G : Den), (DD e b .prt o p (.ok F p')) → (hN e b p' = 124) → (DD e b .cho o (p' + 1) (.ok G p2)) → (Q .prt o p (.ok F p')) → (Q .cho o (p' + 1) (.ok G p2)) → Q .cho o p (.ok (orF F G) p2)) : Q it o p R := (h (fun it o p R => DD e b it o p R ∧ Q it o p R) (fun o p x0 x1 => ⟨DD.fNum x0 x1, c0 o p x0 x1 ⟩) (fun o p x0 x1 => ⟨DD.fNumB x0 x1, c1 o p x0 x1 ⟩) (fun o p l x0 => ⟨DD.fLet x0, c2 o p l x0 ⟩) (fun o p x0 x1 x2 => ⟨DD.fBad x0 x1 x2, c3 o p x0 x1 x2 ⟩) (fun o p x0 x1 => ⟨DD.fDeep x0 x1, c4 o p x0 x1 ⟩) (fun o p w q x0 x1 x2 => ⟨DD.fOpB x0 x1 x2.1, c5 o p w q x0 x1 x2.1 x2.2⟩) (fun o p p' F x0 x1 x2 x3 => ⟨DD.fOpN x0 x1 x2.1 x3, c6 o p p' F x0 x1 x2.1 x3 x2.2⟩) (fun o p p' F x0 x1 x2 x3 => ⟨DD.fOp x0 x1 x2.1 x3, c7 o p p' F x0 x1 x2.1 x3 x2.2⟩) (fun o p w q x0 => ⟨DD.tB x0.1, c8 o p w q x0.1 x0.2⟩) (fun o p p' F R x0 x1 => ⟨DD.tN x0.1 x1.1, c9 o p p' F R x0.1 x1.1 x0.2 x1.2⟩) (fun o p F x0 => ⟨DD.rE x0, c10 o p F x0 ⟩) (fun o p w q F x0 x1 => ⟨DD.rB x0 x1.1, c11 o p w q F x0 x1.1 x1.2⟩) (fun o p p' F G R x0 x1 x2 => ⟨DD.rN x0 x1.1 x2.1, c12 o p p' F G R x0 x1.1 x2.1 x1.2 x2.2⟩) (fun o p w q x0 => ⟨DD.sB x0.1, c13 o p w q x0.1 x0.2⟩) (fun o p p' F R x0 x1 => ⟨DD.sN x0.1 x1.1, c14 o p p' F R x0.1 x1.1 x0.2 x1.2⟩) (fun o p F x0 => ⟨DD.qE x0, c15 o p F x0 ⟩) (fun o p w q F x0 x1 => ⟨DD.qB x0 x1.1, c16 o p w q F x0 x1.1 x1.2⟩) (fun o p p' F G R x0 x1 x2 => ⟨DD.qN x0 x1.1 x2.1, c17 o p p' F G R x0 x1.1 x2.1 x1.2 x2.2⟩) (fun o p x0 x1 => ⟨DD.nD x0 x1, c18 o p x0 x1 ⟩) (fun o p w q x0 x1 x2 => ⟨DD.nB x0 x1 x2.1, c19 o p w q x0 x1 x2.1 x2.2⟩) (fun o p p' F x0 x1 x2 => ⟨DD.nO x0 x1 x2.1, c20 o p p' F x0 x1 x2.1 x2.2⟩) (fun o p x0 x1 => ⟨DD.pD x0 x1, c21 o p x0 x1 ⟩) (fun o p w q x0 x1 x2 => ⟨DD.pB x0 x1 x2.1, c22 o p w q x0 x1 x2.1 x2.2⟩) (fun o p p' F x0 x1 x2 x3 => ⟨DD.pN x0 x1 x2.1 x3, c23 o p p' F x0 x1 x2.1 x3 x2.2⟩) (fun o p p' F x0 x1 x2 x3 => ⟨DD.pO x0 x1 x2.1 x3, c24 o p p' F x0 x1 x2.1 x3 x2.2⟩) (fun o p w q x0 x1 x2 => ⟨DD.cB x0 x1 x2.1, c25 o p w q x0 x1 x2.1 x2.2⟩) (fun o p p1 A x0 x1 x2 x3 => ⟨DD.cS x0 x1 x2.1 x3, c26 o p p1 A x0 x1 x2.1 x3 x2.2⟩) (fun o p p1 w q A x0 x1 x2 x3 x4 => ⟨DD.cB2 x0 x1 x2.1 x3 x4.1, c27 o p p1 w q A x0 x1 x2.1 x3 x4.1 x2.2 x4.2⟩) (fun o p p1 p2 A B x0 x1 x2 x3 x4 => ⟨DD.cO x0 x1 x2.1 x3 x4.1, c28 o p p1 p2 A B x0 x1 x2.1 x3 x4.1 x2.2 x4.2⟩) (fun o p w q x0 => ⟨DD.aB x0.1, c29 o p w q x0.1 x0.2⟩) (fun o p p' F x0 x1 => ⟨DD.aE x0.1 x1, c30 o p p' F x0.1 x1 x0.2⟩) (fun o p p' w q F x0 x1 x2 => ⟨DD.aNB x0.1 x1 x2.1, c31 o p p' w q F x0.1 x1 x2.1 x0.2 x2.2⟩) (fun o p p' p2 F G x0 x1 x2 => ⟨DD.aN x0.1 x1 x2.1, c32 o p p' p2 F G x0.1 x1 x2.1 x0.2 x2.2⟩) (fun o p w q x0 => ⟨DD.oB x0.1, c33 o p w q x0.1 x0.2⟩) (fun o p p' F x0 x1 => ⟨DD.oE x0.1 x1, c34 o p p' F x0.1 x1 x0.2⟩) (fun o p p' w q F x0 x1 x2 => ⟨DD.oNB x0.1 x1 x2.1, c35 o p p' w q F x0.1 x1 x2.1 x0.2 x2.2⟩) (fun o p p' p2 F G x0 x1 x2 => ⟨DD.oN x0.1 x1 x2.1, c36 o p p' p2 F G x0.1 x1 x2.1 x0.2 x2.2⟩)).2
def itS (it : It) : Nat := match it.1 with
  | 2 => 0
  | 4 => 0
  | _ => 1
def itB (it : It) : Prop := match it.1 with
  | 5 => True
  | 6 => True
  | 7 => True
  | _ => False
def ROK (e p : Nat) (it : It) (R : Res) : Prop := match R with
  | .inl (w, q) => 1 ≤ w ∧ w ≤ 5 ∧ q ≤ e
  | .inr (F, p') => p + itS it ≤ p' ∧ p' ≤ e ∧ (itB it → B01 F)
theorem sgn_in {e : Nat} {b : Nat → Nat} {p : Nat} (h : hN e b p < 256) : p < e := by
  unfold hN at h
  split at h
  · assumption
  · omega
theorem sgn_eq {e : Nat} {b : Nat → Nat} {p c : Nat} (h : hN e b p = c) (hc : c < 256) : p < e := sgn_in (e := e) (b := b) (by omega)
theorem mulS_lt {c : Nat} (h : mulS c) : c < 256 := by unfold mulS at h; omega
theorem addS_lt {c : Nat} (h : addS c) : c < 256 := by unfold addS at h; omega
theorem cmpS_lt {c : Nat} (h : cmpS c) : c < 256 := by unfold cmpS at h; omega
theorem ltN_lt {c l : Nat} (h : ltN c = some l) : c < 256 ∧ l < 10 ∧ ¬ c = 91 ∧ (c < 48 ∨ 57 < c) := by
  unfold ltN at h
  repeat' (first | (split at h; (injection h with h; omega)) | (split at h) | (cases h))
theorem DD_ok {e : Nat} {b : Nat → Nat} {it : It} {o p : Nat} {R : Res} (h : DD e b it o p R) : p ≤ e → ROK e p it R := by
  refine DD_rec (Q := fun it o p R => p ≤ e → ROK e p it R) h ?_ ?_ ?_ ?_ ?_ ?_ ?_ ?_ ?_ ?_ ?_ ?_ ?_ ?_ ?_ ?_ ?_ ?_ ?_ ?_ ?_ ?_ ?_ ?_ ?_ ?_ ?_ ?_ ?_ ?_ ?_ ?_ ?_ ?_ ?_ ?_ ?_
  · intro o p h h2
    intro hp
    obtain ⟨a1, a2, a3, a4, a5⟩ := nmr_ok (e := e) (b := b) 5 0 p
    have hlt := dgB_lt h
    refine ⟨?_, by omega, fun h => h.elim⟩
    show p + 1 ≤ _
    have : nmr e b 5 0 p = nmr e b 4 (10 * 0 + hN e b p - 48) (p + 1) := by
      show (if dgB e b p then _ else _) = _
      rw [if_pos h]
    rw [this]
    exact (nmr_ok (e := e) (b := b) 4 (10 * 0 + hN e b p - 48) (p + 1)).2.1
  · intro o p h h2
    intro hp
    obtain ⟨a1, a2, a3, a4, a5⟩ := nmr_ok (e := e) (b := b) 5 0 p
    exact ⟨by omega, by omega, by omega⟩
  · intro o p l h
    intro hp
    have := sgn_in (ltN_lt h).1
    exact ⟨Nat.le_refl _, by omega, fun h => h.elim⟩
  · intro _ _ h h1 h2
    intro hp; exact ⟨by omega, by omega, hp⟩
  · intro _ _ h ho
    intro hp; exact ⟨by omega, by omega, hp⟩
  · intro o p w q h ho d ih
    intro hp
    exact ih (sgn_eq h (by omega))
  · intro o p p' F h ho d hn ih
    intro hp
    obtain ⟨a, b, c⟩ := ih (sgn_eq h (by omega))
    exact ⟨by omega, by omega, b⟩
  · intro o p p' F h ho d hy ih
    intro hp
    obtain ⟨a, b', c⟩ := ih (sgn_eq h (by omega))
    have := sgn_in (e := e) (b := b) (p := p') (by omega)
    have a : p + 1 + 1 ≤ p' := a
    exact ⟨by show p + 1 ≤ p' + 1; omega, by omega, fun h => h.elim⟩
  · intro _ _ _ _ d ih
    intro hp; exact ih hp
  · intro o p p' F R d d2 ih ih2
    intro hp
    obtain ⟨a, b, c⟩ := ih hp
    have a : p + 1 ≤ p' := a
    have k := ih2 b
    rcases R with ⟨w, q⟩ | ⟨G, p2⟩
    · exact k
    · skip
      obtain ⟨a2, b2, c2⟩ := k
      have a2 : p' + 0 ≤ p2 := a2
      exact ⟨by show p + 1 ≤ p2; omega, b2, fun h => h.elim⟩
  · intro _ _ _ h
    intro hp; exact ⟨Nat.le_refl _, hp, fun h => h.elim⟩
  · intro _ _ _ _ _ h d ih
    intro hp; exact ih (sgn_in (mulS_lt h))
  · intro o p p' F G R h d d2 ih ih2
    intro hp
    obtain ⟨a, b', c⟩ := ih (sgn_in (mulS_lt h))
    have a : p + 1 + 1 ≤ p' := a
    have k := ih2 b'
    rcases R with ⟨w, q⟩ | ⟨G, p2⟩
    · exact k
    · skip
      obtain ⟨a2, b2, c2⟩ := k
      have a2 : p' + 0 ≤ p2 := a2
      exact ⟨by show p + 0 ≤ p2; omega, b2, fun h => h.elim⟩
  · intro _ _ _ _ d ih
    intro hp; exact ih hp
  · intro o p p' F R d d2 ih ih2
    intro hp
    obtain ⟨a, b, c⟩ := ih hp
    have a : p + 1 ≤ p' := a
    have k := ih2 b
    rcases R with ⟨w, q⟩ | ⟨G, p2⟩
    · exact k
    · skip
      obtain ⟨a2, b2, c2⟩ := k
      have a2 : p' + 0 ≤ p2 := a2
      exact ⟨by show p + 1 ≤ p2; omega, b2, fun h => h.elim⟩
  · intro _ _ _ h
    intro hp; exact ⟨Nat.le_refl _, hp, fun h => h.elim⟩
  · intro _ _ _ _ _ h d ih
    intro hp; exact ih (sgn_in (addS_lt h))
  · intro o p p' F G R h d d2 ih ih2
    intro hp
    obtain ⟨a, b', c⟩ := ih (sgn_in (addS_lt h))
    have a : p + 1 + 1 ≤ p' := a
    have k := ih2 b'
    rcases R with ⟨w, q⟩ | ⟨G, p2⟩
    · exact k
    · skip
      obtain ⟨a2, b2, c2⟩ := k
      have a2 : p' + 0 ≤ p2 := a2
      exact ⟨by show p + 0 ≤ p2; omega, b2, fun h => h.elim⟩
  · intro _ _ h ho
    intro hp; exact ⟨by omega, by omega, hp⟩
  · intro _ _ _ _ h ho d ih
    intro hp; exact ih (sgn_eq h (by omega))
  · intro o p p' F h ho d ih
    intro hp
    obtain ⟨a, b', c⟩ := ih (sgn_eq h (by omega))
    have a : p + 1 + 1 ≤ p' := a
    exact ⟨by show p + 1 ≤ p'; omega, b', fun _ => B01_not (c trivial)⟩
  · intro _ _ h ho
    intro hp; exact ⟨by omega, by omega, hp⟩
  · intro _ _ _ _ h ho d ih
    intro hp; exact ih (sgn_eq h (by omega))
  · intro o p p' F h ho d hn ih
    intro hp
    obtain ⟨a, b', c⟩ := ih (sgn_eq h (by omega))
    exact ⟨by omega, by omega, b'⟩
  · intro o p p' F h ho d hy ih
    intro hp
    obtain ⟨a, b', c⟩ := ih (sgn_eq h (by omega))
    have a : p + 1 + 1 ≤ p' := a
    have := sgn_in (e := e) (b := b) (p := p') (by omega)
    exact ⟨by show p + 1 ≤ p' + 1; omega, by omega, fun _ => c trivial⟩
  · intro _ _ _ _ h1 h2 d ih
    intro hp; exact ih hp
  · intro _ _ _ _ h1 h2 d h ih
    intro hp
    obtain ⟨a, b', c⟩ := ih hp
    exact ⟨by omega, by omega, b'⟩
  · intro _ _ _ _ _ _ h1 h2 d h d2 ih ih2
    intro hp; exact ih2 (sgn_in (cmpS_lt h))
  · intro o p p1 p2 A B h1 h2 d h d2 ih ih2
    intro hp
    obtain ⟨a, b', c⟩ := ih hp
    obtain ⟨a2, b2, c2⟩ := ih2 (sgn_in (cmpS_lt h))
    have a : p + 1 ≤ p1 := a
    have a2 : p1 + 1 + 1 ≤ p2 := a2
    exact ⟨by show p + 1 ≤ p2; omega, b2, fun _ => B01_cmp (by unfold cmpS at h; omega) A B⟩
  · intro _ _ _ _ d ih
    intro hp; exact ih hp
  · intro _ _ _ _ d h ih
    intro hp; exact ih hp
  · intro _ _ _ _ _ _ d h d2 ih ih2
    intro hp; exact ih2 (sgn_eq h (by omega))
  · intro o p p' p2 F G d h d2 ih ih2
    intro hp
    obtain ⟨a, b', c⟩ := ih hp
    obtain ⟨a2, b2, c2⟩ := ih2 (sgn_eq h (by omega))
    have a : p + 1 ≤ p' := a
    have a2 : p' + 1 + 1 ≤ p2 := a2
    exact ⟨by show p + 1 ≤ p2; omega, b2, fun _ => B01_and (c trivial) (c2 trivial)⟩
  · intro _ _ _ _ d ih
    intro hp; exact ih hp
  · intro _ _ _ _ d h ih
    intro hp; exact ih hp
  · intro _ _ _ _ _ _ d h d2 ih ih2
    intro hp; exact ih2 (sgn_eq h (by omega))
  · intro o p p' p2 F G d h d2 ih ih2
    intro hp
    obtain ⟨a, b', c⟩ := ih hp
    obtain ⟨a2, b2, c2⟩ := ih2 (sgn_eq h (by omega))
    have a : p + 1 ≤ p' := a
    have a2 : p' + 1 + 1 ≤ p2 := a2
    exact ⟨by show p + 1 ≤ p2; omega, b2, fun _ => B01_or (c trivial) (c2 trivial)⟩
theorem letterAt_s : ∀ c, c < 256 → f_X2_letterAt (nI c) = some (enc (-nI 1) (ltN c)) := by decide +kernel
theorem letterAt_e : f_X2_letterAt (-nI 1) = some (-nI 1) := by decide +kernel
theorem factOf_s : ∀ c, c < 256 → f_X12_factOf (nI c) = some (enc (-nI 1) (ltN c)) := by decide +kernel
theorem factOf_e : f_X12_factOf (-nI 1) = some (-nI 1) := by decide +kernel
theorem letterAt_C {e : Nat} {b : Nat → Nat} (ht : txt e b) (p : Nat) : f_X2_letterAt (hr e b p) = some (enc (-nI 1) (ltN (hN e b p))) := by
  rcases hN_lt ht p with ⟨h1, _, h3⟩ | ⟨h1, _, h3⟩
  · rw [h3]; exact letterAt_s _ h1
  · rw [h3, h1]; exact letterAt_e
theorem factOf_M {e : Nat} {b : Nat → Nat} (ht : txt e b) (p : Nat) : f_X12_factOf (hr e b p) = some (enc (-nI 1) (ltN (hN e b p))) := by
  rcases hN_lt ht p with ⟨h1, _, h3⟩ | ⟨h1, _, h3⟩
  · rw [h3]; exact factOf_s _ h1
  · rw [h3, h1]; exact factOf_e
