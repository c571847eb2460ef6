/-! relations: the class's state, the model's, and one abstract state of numbers -/
theorem ltz : ((((((((OfNat.ofNat 0 : Int32) = nI 0) ∧ (((OfNat.ofNat 1 : Int32) = nI 1) ∧ ((OfNat.ofNat 2 : Int32) = nI 2))) ∧ (((OfNat.ofNat 3 : Int32) = nI 3) ∧ (((OfNat.ofNat 4 : Int32) = nI 4) ∧ ((OfNat.ofNat 5 : Int32) = nI 5)))) ∧ ((((OfNat.ofNat 6 : Int32) = nI 6) ∧ (((OfNat.ofNat 7 : Int32) = nI 7) ∧ ((OfNat.ofNat 8 : Int32) = nI 8))) ∧ (((OfNat.ofNat 9 : Int32) = nI 9) ∧ (((OfNat.ofNat 10 : Int32) = nI 10) ∧ ((OfNat.ofNat 11 : Int32) = nI 11))))) ∧ (((((OfNat.ofNat 12 : Int32) = nI 12) ∧ (((OfNat.ofNat 13 : Int32) = nI 13) ∧ ((OfNat.ofNat 14 : Int32) = nI 14))) ∧ (((OfNat.ofNat 15 : Int32) = nI 15) ∧ (((OfNat.ofNat 16 : Int32) = nI 16) ∧ ((OfNat.ofNat 18 : Int32) = nI 18)))) ∧ ((((OfNat.ofNat 19 : Int32) = nI 19) ∧ (((OfNat.ofNat 20 : Int32) = nI 20) ∧ ((OfNat.ofNat 23 : Int32) = nI 23))) ∧ ((((OfNat.ofNat 24 : Int32) = nI 24) ∧ ((OfNat.ofNat 25 : Int32) = nI 25)) ∧ (((OfNat.ofNat 30 : Int32) = nI 30) ∧ ((OfNat.ofNat 31 : Int32) = nI 31)))))) ∧ ((((((OfNat.ofNat 32 : Int32) = nI 32) ∧ (((OfNat.ofNat 33 : Int32) = nI 33) ∧ ((OfNat.ofNat 34 : Int32) = nI 34))) ∧ (((OfNat.ofNat 36 : Int32) = nI 36) ∧ (((OfNat.ofNat 37 : Int32) = nI 37) ∧ ((OfNat.ofNat 38 : Int32) = nI 38)))) ∧ ((((OfNat.ofNat 39 : Int32) = nI 39) ∧ (((OfNat.ofNat 40 : Int32) = nI 40) ∧ ((OfNat.ofNat 41 : Int32) = nI 41))) ∧ (((OfNat.ofNat 42 : Int32) = nI 42) ∧ (((OfNat.ofNat 43 : Int32) = nI 43) ∧ ((OfNat.ofNat 44 : Int32) = nI 44))))) ∧ (((((OfNat.ofNat 45 : Int32) = nI 45) ∧ (((OfNat.ofNat 47 : Int32) = nI 47) ∧ ((OfNat.ofNat 48 : Int32) = nI 48))) ∧ (((OfNat.ofNat 50 : Int32) = nI 50) ∧ (((OfNat.ofNat 57 : Int32) = nI 57) ∧ ((OfNat.ofNat 58 : Int32) = nI 58)))) ∧ ((((OfNat.ofNat 59 : Int32) = nI 59) ∧ (((OfNat.ofNat 60 : Int32) = nI 60) ∧ ((OfNat.ofNat 61 : Int32) = nI 61))) ∧ ((((OfNat.ofNat 62 : Int32) = nI 62) ∧ ((OfNat.ofNat 63 : Int32) = nI 63)) ∧ (((OfNat.ofNat 64 : Int32) = nI 64) ∧ ((OfNat.ofNat 91 : Int32) = nI 91))))))) ∧ (((((((OfNat.ofNat 93 : Int32) = nI 93) ∧ (((OfNat.ofNat 97 : Int32) = nI 97) ∧ ((OfNat.ofNat 99 : Int32) = nI 99))) ∧ (((OfNat.ofNat 100 : Int32) = nI 100) ∧ (((OfNat.ofNat 101 : Int32) = nI 101) ∧ ((OfNat.ofNat 102 : Int32) = nI 102)))) ∧ ((((OfNat.ofNat 103 : Int32) = nI 103) ∧ (((OfNat.ofNat 104 : Int32) = nI 104) ∧ ((OfNat.ofNat 105 : Int32) = nI 105))) ∧ (((OfNat.ofNat 106 : Int32) = nI 106) ∧ (((OfNat.ofNat 107 : Int32) = nI 107) ∧ ((OfNat.ofNat 108 : Int32) = nI 108))))) ∧ (((((OfNat.ofNat 109 : Int32) = nI 109) ∧ (((OfNat.ofNat 110 : Int32) = nI 110) ∧ ((OfNat.ofNat 111 : Int32) = nI 111))) ∧ (((OfNat.ofNat 112 : Int32) = nI 112) ∧ (((OfNat.ofNat 113 : Int32) = nI 113) ∧ ((OfNat.ofNat 114 : Int32) = nI 114)))) ∧ ((((OfNat.ofNat 115 : Int32) = nI 115) ∧ (((OfNat.ofNat 116 : Int32) = nI 116) ∧ ((OfNat.ofNat 117 : Int32) = nI 117))) ∧ ((((OfNat.ofNat 118 : Int32) = nI 118) ∧ ((OfNat.ofNat 119 : Int32) = nI 119)) ∧ (((OfNat.ofNat 120 : Int32) = nI 120) ∧ ((OfNat.ofNat 124 : Int32) = nI 124)))))) ∧ ((((((OfNat.ofNat 164 : Int32) = nI 164) ∧ (((OfNat.ofNat 165 : Int32) = nI 165) ∧ ((OfNat.ofNat 166 : Int32) = nI 166))) ∧ (((OfNat.ofNat 216 : Int32) = nI 216) ∧ (((OfNat.ofNat 240 : Int32) = nI 240) ∧ ((OfNat.ofNat 255 : Int32) = nI 255)))) ∧ ((((OfNat.ofNat 256 : Int32) = nI 256) ∧ (((OfNat.ofNat 260 : Int32) = nI 260) ∧ ((OfNat.ofNat 923 : Int32) = nI 923))) ∧ (((OfNat.ofNat 924 : Int32) = nI 924) ∧ (((OfNat.ofNat 1295 : Int32) = nI 1295) ∧ ((OfNat.ofNat 1296 : Int32) = nI 1296))))) ∧ (((((OfNat.ofNat 4095 : Int32) = nI 4095) ∧ (((OfNat.ofNat 9999 : Int32) = nI 9999) ∧ ((OfNat.ofNat 13849 : Int32) = nI 13849))) ∧ (((OfNat.ofNat 25173 : Int32) = nI 25173) ∧ (((OfNat.ofNat 65535 : Int32) = nI 65535) ∧ ((OfNat.ofNat 65536 : Int32) = nI 65536)))) ∧ ((((OfNat.ofNat 117649 : Int32) = nI 117649) ∧ (((OfNat.ofNat 262144 : Int32) = nI 262144) ∧ ((OfNat.ofNat 1000000 : Int32) = nI 1000000))) ∧ ((((OfNat.ofNat 1048576 : Int32) = nI 1048576) ∧ ((OfNat.ofNat 252645135 : Int32) = nI 252645135)) ∧ (((OfNat.ofNat 858993459 : Int32) = nI 858993459) ∧ ((OfNat.ofNat 1431655765 : Int32) = nI 1431655765)))))))) := ⟨⟨⟨⟨⟨⟨rfl, ⟨rfl, rfl⟩⟩, ⟨rfl, ⟨rfl, rfl⟩⟩⟩, ⟨⟨rfl, ⟨rfl, rfl⟩⟩, ⟨rfl, ⟨rfl, rfl⟩⟩⟩⟩, ⟨⟨⟨rfl, ⟨rfl, rfl⟩⟩, ⟨rfl, ⟨rfl, rfl⟩⟩⟩, ⟨⟨rfl, ⟨rfl, rfl⟩⟩, ⟨⟨rfl, rfl⟩, ⟨rfl, rfl⟩⟩⟩⟩⟩, ⟨⟨⟨⟨rfl, ⟨rfl, rfl⟩⟩, ⟨rfl, ⟨rfl, rfl⟩⟩⟩, ⟨⟨rfl, ⟨rfl, rfl⟩⟩, ⟨rfl, ⟨rfl, rfl⟩⟩⟩⟩, ⟨⟨⟨rfl, ⟨rfl, rfl⟩⟩, ⟨rfl, ⟨rfl, rfl⟩⟩⟩, ⟨⟨rfl, ⟨rfl, rfl⟩⟩, ⟨⟨rfl, rfl⟩, ⟨rfl, rfl⟩⟩⟩⟩⟩⟩, ⟨⟨⟨⟨⟨rfl, ⟨rfl, rfl⟩⟩, ⟨rfl, ⟨rfl, rfl⟩⟩⟩, ⟨⟨rfl, ⟨rfl, rfl⟩⟩, ⟨rfl, ⟨rfl, rfl⟩⟩⟩⟩, ⟨⟨⟨rfl, ⟨rfl, rfl⟩⟩, ⟨rfl, ⟨rfl, rfl⟩⟩⟩, ⟨⟨rfl, ⟨rfl, rfl⟩⟩, ⟨⟨rfl, rfl⟩, ⟨rfl, rfl⟩⟩⟩⟩⟩, ⟨⟨⟨⟨rfl, ⟨rfl, rfl⟩⟩, ⟨rfl, ⟨rfl, rfl⟩⟩⟩, ⟨⟨rfl, ⟨rfl, rfl⟩⟩, ⟨rfl, ⟨rfl, rfl⟩⟩⟩⟩, ⟨⟨⟨rfl, ⟨rfl, rfl⟩⟩, ⟨rfl, ⟨rfl, rfl⟩⟩⟩, ⟨⟨rfl, ⟨rfl, rfl⟩⟩, ⟨⟨rfl, rfl⟩, ⟨rfl, rfl⟩⟩⟩⟩⟩⟩⟩
abbrev TS : Type := Nat × Nat × Nat × (Nat → Nat) × (Nat → Nat) × (Nat → Nat) × (Nat → Nat)
def tt (T : TS) : Nat := T.1
def rn (T : TS) : Nat := T.2.1
def xx (T : TS) : Nat := T.2.2.1
def ru (T : TS) : Nat → Nat := T.2.2.2.1
def ro (T : TS) : Nat → Nat := T.2.2.2.2.1
def ha (T : TS) : Nat → Nat := T.2.2.2.2.2.1
def pn (T : TS) : Nat → Nat := T.2.2.2.2.2.2
def CTown (told round x : Int32) (rust rooms hair pins : Nat → Int32) (T : TS) : Prop := told = nI (tt T) ∧ round = nI (rn T) ∧ x = nI (xx T) ∧ (∀ i, i < 24 → rust i = nI (ru T i)) ∧ (∀ w, w < 10 → rooms w = nI (ro T w)) ∧ (∀ j, j < 60 → hair j = nI (ha T j)) ∧ (∀ j, j < 60 → pins j = nI (pn T j))
def MTown (now : Nat → Int32) (T : TS) : Prop := (∀ i, i < 24 → now i = nI (ru T i)) ∧ (∀ w, w < 10 → now (24 + w) = nI (if (tt T).testBit w then 1 else 0)) ∧ (∀ w, w < 10 → now (34 + w) = nI (ro T w)) ∧ (∀ j, j < 60 → now (44 + j) = nI (ha T j)) ∧ (∀ j, j < 60 → now (104 + j) = nI (pn T j)) ∧ now 164 = nI (rn T) ∧ now 165 = nI (xx T)
def WTown (T : TS) : Prop := tt T < 1024 ∧ rn T ≤ 9999 ∧ xx T < 65536 ∧ (∀ i, i < 24 → ru T i ≤ 99) ∧ (∀ w, w < 10 → ro T w ≤ 15) ∧ (∀ j, j < 60 → pn T j ≤ ha T j ∧ ha T j ≤ 60) ∧ (∀ w, w < 10 → (tt T).testBit w = false → ∀ k, k < 6 → ha T (6 * w + k) = 0)
abbrev DS : Type := Nat × Nat × (Nat → Nat) × (Nat → Nat) × (Nat → Nat) × (Nat → Nat)
def dt (D : DS) : Nat := D.1
def db (D : DS) : Nat := D.2.1
def on (D : DS) : Nat → Nat := D.2.2.1
def ot (D : DS) : Nat → Nat := D.2.2.2.1
def wa (D : DS) : Nat → Nat := D.2.2.2.2.1
def pr (D : DS) : Nat → Nat := D.2.2.2.2.2
/-- kind k fits door d: its prongs are at all wards -/
def fitB (D : DS) (d k : Nat) : Bool := wa D d &&& pr D k == wa D d
def fitS (D : DS) (d : Nat) : Nat := bitsN (fitB D d) 6
def CDoors (told barred : Int32) (one other wards fits bent : Nat → Int32) (D : DS) : Prop := told = nI (dt D) ∧ barred = nI (db D) ∧ (∀ d, d < 24 → one d = nI (on D d)) ∧ (∀ d, d < 24 → other d = nI (ot D d)) ∧ (∀ d, d < 24 → wards d = nI (wa D d)) ∧ (∀ d, d < 24 → (dt D).testBit d = true → fits d = nI (fitS D d)) ∧ (∀ k, k < 6 → bent k = nI (pr D k))
def MDoors (told barred : Int32) (one other wards prongs : Nat → Int32) (D : DS) : Prop := told = nI (dt D) ∧ barred = nI (db D) ∧ (∀ d, d < 24 → one d = nI (on D d)) ∧ (∀ d, d < 24 → other d = nI (ot D d)) ∧ (∀ d, d < 24 → wards d = nI (wa D d)) ∧ (∀ k, k < 6 → prongs k = nI (pr D k))
def WDoors (D : DS) : Prop := dt D < 16777216 ∧ db D < 16777216 ∧ (∀ d, (db D).testBit d = true → (dt D).testBit d = true) ∧ (∀ d, d < 24 → on D d ≤ 15 ∧ ot D d ≤ 15 ∧ wa D d ≤ 63) ∧ (∀ d, d < 24 → (dt D).testBit d = true → on D d ≠ ot D d) ∧ (∀ k, k < 6 → pr D k ≤ 63)
def CTape (size : Int32) (bytes : Nat → Int32) (n : Nat) (by_ : Nat → Nat) : Prop := n ≤ 260 ∧ size = nI n ∧ ∀ i, i < n → bytes i = nI (by_ i) ∧ by_ i < 256
def MTape (taped : Int32) (tape : Nat → Int32) (n : Nat) (by_ : Nat → Nat) : Prop := taped = nI n ∧ ∀ i, i < n → tape i &&& 255 = nI (by_ i)
theorem b2n (b : Bool) : (if b = true then 1 else 0) = b.toNat := by cases b <;> rfl
/-- a woman, on both sides -/
theorem woman_in {T : TS} {now : Nat → Int32} (hM : MTown now T) (hW : WTown T) {w : Nat} (hw : w < 10) : f_X9_isTold (nI (tt T)) (nI w) = some (nI (if (tt T).testBit w then 1 else 0)) ∧ f_X12_isWoman now (nI w) = some (nI (if (tt T).testBit w then 1 else 0)) := by
  have h1 := hW.1
  have h2 := hM.2.1 w hw
  constructor
  · unfold f_X9_isTold
    have e : (nI (tt T) >>> (nI w &&& 31)) &&& (1 : Int32) = nI (tt T / 2 ^ w % 2) := bit_nI (by omega) (by omega)
    rw [e, tb_iff]
    simp (disch := omega) only [ltz, lt_nI, le_nI]
    rw [if_neg (by omega), if_neg (by omega)]
    by_cases hb : (tt T).testBit w = true
    · rw [if_pos hb, if_neg (by rw [eq_nI (by omega) (by omega)]; omega)]
    · rw [if_neg hb, if_pos rfl]
  · unfold f_X12_isWoman
    have e := in_cases (nI w) (a := 0) (b := 9) (by omega) (by omega)
    rcases e with ⟨_, _, h | h⟩ | ⟨j, _, _, _, _, e2⟩
    · rw [lt_nI (by omega) (by omega)] at h; omega
    · rw [lt_nI (by omega) (by omega)] at h; omega
    · have e2 : f_X12_in (nI w) 0 9 = some 1 := e2
      rw [e2, some_bind, if_neg (by decide)]
      have e3 : (24 : Int32) + nI w = nI (24 + w) := add_nI 24 w
      rw [e3, rd_nI (by omega) (by omega), h2]
      by_cases hb : (tt T).testBit w = true
      · rw [if_pos hb]; rfl
      · rw [if_neg hb]; rfl
theorem woman_cases {T : TS} {now : Nat → Int32} (hM : MTown now T) (hW : WTown T) (x : Int32) : (∃ w, w < 10 ∧ x = nI w ∧ (tt T).testBit w = true ∧ f_X9_isTold (nI (tt T)) x = some 1 ∧ f_X12_isWoman now x = some 1) ∨ (f_X9_isTold (nI (tt T)) x = some 0 ∧ f_X12_isWoman now x = some 0) := by
  rcases in_cases x (a := 0) (b := 9) (by omega) (by omega) with ⟨_, e2, h⟩ | ⟨w, _, hw, rfl, _, _⟩
  · refine Or.inr ⟨?_, ?_⟩
    · unfold f_X9_isTold
      by_cases h0 : x < 0
      · rw [if_pos h0]
      · rcases h with h | h
        · exact absurd h h0
        · rw [if_neg h0, if_pos]
          rw [i32_lt] at h
          rw [i32_le]
          have e9 : (nI 9).toInt = 9 := by decide
          have e10 : (10 : Int32).toInt = 10 := by decide
          omega
    · unfold f_X12_isWoman
      have e2 : f_X12_in x 0 9 = some 0 := e2
      rw [e2]
      rfl
  · obtain ⟨e1, e2⟩ := woman_in hM hW (w := w) (by omega)
    by_cases hb : (tt T).testBit w = true
    · rw [if_pos hb] at e1 e2
      exact Or.inl ⟨w, by omega, rfl, hb, e1, e2⟩
    · rw [if_neg hb] at e1 e2
      exact Or.inr ⟨e1, e2⟩
/-- a door, on both sides -/
theorem door_in {D : DS} (hW : WDoors D) {d : Nat} (hd : d < 24) : f_X0_isTold (nI (dt D)) (nI d) = some (nI (if (dt D).testBit d then 1 else 0)) ∧ f_X12_isDoor (nI (dt D)) (nI d) = some (nI (if (dt D).testBit d then 1 else 0)) ∧ f_X12_has (nI (db D)) (nI d) = some (nI (if (db D).testBit d then 1 else 0)) := by
  have h1 := hW.1
  have h2 := hW.2.1
  have e : (nI (dt D) >>> (nI d &&& 31)) &&& (1 : Int32) = nI (if (dt D).testBit d then 1 else 0) := by rw [bit_nI (by omega) (by omega), tb_iff]
  have e' : (nI (db D) >>> (nI d &&& 31)) &&& (1 : Int32) = nI (if (db D).testBit d then 1 else 0) := by rw [bit_nI (by omega) (by omega), tb_iff]
  have hh : ∀ b : Bool, (if nI (if b = true then 1 else 0) = (1 : Int32) then some (1 : Int32) else some 0) = some (nI (if b = true then 1 else 0)) := by intro b; cases b <;> rfl
  refine ⟨?_, ?_, ?_⟩
  · unfold f_X0_isTold
    rw [e]
    have q1 : ¬ nI d < (0 : Int32) := by show ¬ nI d < nI 0; rw [lt_nI (by omega) (by omega)]; omega
    have q2 : ¬ (24 : Int32) ≤ nI d := by show ¬ nI 24 ≤ nI d; rw [le_nI (by omega) (by omega)]; omega
    rw [if_neg q1, if_neg q2]
    cases (dt D).testBit d <;> rfl
  · unfold f_X12_isDoor
    rcases in_cases (nI d) (a := 0) (b := 23) (by omega) (by omega) with ⟨_, _, h | h⟩ | ⟨j, _, _, _, _, e2⟩
    · rw [lt_nI (by omega) (by omega)] at h; omega
    · rw [lt_nI (by omega) (by omega)] at h; omega
    · have e2 : f_X12_in (nI d) 0 23 = some 1 := e2
      rw [e2, some_bind, if_neg (by decide)]
      unfold f_X12_has
      rw [e, hh]
      cases (dt D).testBit d <;> rfl
  · unfold f_X12_has
    rw [e', hh]
theorem door_cases {D : DS} (hW : WDoors D) (x : Int32) : (∃ d, d < 24 ∧ x = nI d ∧ (dt D).testBit d = true ∧ f_X0_isTold (nI (dt D)) x = some 1 ∧ f_X12_isDoor (nI (dt D)) x = some 1) ∨ (f_X0_isTold (nI (dt D)) x = some 0 ∧ f_X12_isDoor (nI (dt D)) x = some 0) := by
  rcases in_cases x (a := 0) (b := 23) (by omega) (by omega) with ⟨_, e2, h⟩ | ⟨d, _, hd, rfl, _, _⟩
  · refine Or.inr ⟨?_, ?_⟩
    · unfold f_X0_isTold
      by_cases h0 : x < 0
      · rw [if_pos h0]
      · rcases h with h | h
        · exact absurd h h0
        · rw [if_neg h0, if_pos]
          rw [i32_lt] at h
          rw [i32_le]
          have e9 : (nI 23).toInt = 23 := by decide
          have e10 : (24 : Int32).toInt = 24 := by decide
          omega
    · unfold f_X12_isDoor
      have e2 : f_X12_in x 0 23 = some 0 := e2
      rw [e2]
      rfl
  · obtain ⟨e1, e2, _⟩ := door_in hW (d := d) (by omega)
    by_cases hb : (dt D).testBit d = true
    · rw [if_pos hb] at e1 e2
      exact Or.inl ⟨d, by omega, rfl, hb, e1, e2⟩
    · rw [if_neg hb] at e1 e2
      exact Or.inr ⟨e1, e2⟩
