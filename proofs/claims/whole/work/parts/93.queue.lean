/-! REACH: the model's queue -/
def DnM (D : DS) (Q : Nat → Nat) (s : Nat) (R V F : Nat → Nat) (j d k : Nat) : Prop := tot (V j) < 6 → opn D d = true → fitB D d k = true → dg (V j) k < Q k → ∀ r, bhd D d (R j) = some r → ∃ b, b < s ∧ R b = r ∧ V b = V j + 8 ^ k ∧ F b ≤ (if tot (V j) = 0 then d else F j)
/-- rooms R, ways V, first doors F of the queue's s places; the first i have been gone on from -/
def MqB (D : DS) (Q : Nat → Nat) (r0 i s : Nat) (R V F : Nat → Nat) : Prop := (∀ j, j < s → VW (V j) ∧ R j ≤ 15 ∧ RcN D Q r0 (tot (V j)) (V j) (R j)) ∧ (∀ a b, a < s → b < s → R a = R b → V a = V b → a = b) ∧ (∀ j, j < s → 1 ≤ tot (V j) → F j < 24 ∧ RcF D Q r0 (F j) (tot (V j) - 1) (V j) (R j)) ∧ (∀ a b, a ≤ b → b < s → tot (V a) ≤ tot (V b)) ∧ (∀ a b, a ≤ b → b < s → tot (V a) = tot (V b) → 1 ≤ tot (V a) → F a ≤ F b) ∧ (∀ a b, i ≤ a → a < s → b < s → tot (V b) ≤ tot (V a) + 1) ∧ (∀ a b, i ≤ a → a < s → b < s → 1 ≤ tot (V a) → tot (V b) = tot (V a) + 1 → F b ≤ F a) ∧ (0 < s ∧ V 0 = 0 ∧ R 0 = r0) ∧ (∀ j, j < i → ∀ d, d < 24 → ∀ k, k < 6 → DnM D Q s R V F j d k)
theorem mq_bound {D : DS} {Q : Nat → Nat} {r0 i s : Nat} {R V F : Nat → Nat} (h : MqB D Q r0 i s R V F) : s ≤ 14784 := by
  obtain ⟨g1, g2, _⟩ := h
  refine pigeon 14784 s (fun j => 924 * R j + plc (V j)) (fun j hj => ?_) (fun a b ha hb hab => ?_)
  · obtain ⟨a1, a2, _⟩ := g1 j hj
    have := (plc_inv a1).2
    show 924 * R j + plc (V j) < 14784
    omega
  · have hab : 924 * R a + plc (V a) = 924 * R b + plc (V b) := hab
    have pa := (plc_inv (g1 a ha).1).2
    have pb := (plc_inv (g1 b hb).1).2
    exact g2 a b ha hb (by omega) (plc_inj (g1 a ha).1 (g1 b hb).1 (by omega))
/-- a place more in the queue -/
theorem mq_step {D : DS} {Q : Nat → Nat} {r0 i s d k r : Nat} {R V F : Nat → Nat} (hW : WDoors D) (h : MqB D Q r0 i s R V F) (hi : i < s) (hd : d < 24) (hk : k < 6) (ht6 : tot (V i) < 6) (ho : opn D d = true) (hf : fitB D d k = true) (hr : bhd D d (R i) = some r) (hq : dg (V i) k < Q k) (hnew : ∀ j, j < s → ¬ (R j = r ∧ V j = V i + 8 ^ k)) (hG : ∀ b, b < s → tot (V b) = tot (V i) + 1 → F b ≤ (if tot (V i) = 0 then d else F i)) :
    MqB D Q r0 i (s + 1) (updN R s r) (updN V s (V i + 8 ^ k)) (updN F s (if tot (V i) = 0 then d else F i)) := by
  obtain ⟨g1, g2, g3, g4, g5, g6, g7, g8, g9⟩ := h
  obtain ⟨i1, i2, i3⟩ := g1 i hi
  obtain ⟨p1, p2, p3⟩ := pl_ok i1 ht6 hk
  have hadj : Adj D k (R i) r := ⟨d, hd, ho, hf, hr⟩
  generalize hv : V i + 8 ^ k = v at *
  generalize hfd : (if tot (V i) = 0 then d else F i) = fd at *
  have oR : ∀ j, j < s → updN R s r j = R j := fun j hj => if_neg (by omega)
  have oV : ∀ j, j < s → updN V s v j = V j := fun j hj => if_neg (by omega)
  have oF : ∀ j, j < s → updN F s fd j = F j := fun j hj => if_neg (by omega)
  have nR : updN R s r s = r := if_pos rfl
  have nV : updN V s v s = v := if_pos rfl
  have nF : updN F s fd s = fd := if_pos rfl
  refine ⟨fun j hj => ?_, fun a b ha hb h1 h2 => ?_, fun j hj h1 => ?_, fun a b hab hb => ?_, fun a b hab hb h1 h2 => ?_, fun a b ha ha2 hb => ?_, fun a b ha ha2 hb h1 h2 => ?_, ⟨by omega, by rw [oV 0 g8.1]; exact g8.2.1, by rw [oR 0 g8.1]; exact g8.2.2⟩, fun j hj d' hd' k' hk' => ?_⟩
  · by_cases e : j = s
    · rw [e, nR, nV]
      exact ⟨p1, bhd_lt hW hd hr, by rw [p2]; exact ⟨k, V i, R i, hk, i3, hq, hv.symm, hadj⟩⟩
    · rw [oR j (by omega), oV j (by omega)]
      exact g1 j (by omega)
  · by_cases e1 : a = s
    · by_cases e2 : b = s
      · omega
      · rw [e1, nR, oR b (by omega)] at h1
        rw [e1, nV, oV b (by omega)] at h2
        exact absurd ⟨h1.symm, h2.symm⟩ (hnew b (by omega))
    · by_cases e2 : b = s
      · rw [e2, nR, oR a (by omega)] at h1
        rw [e2, nV, oV a (by omega)] at h2
        exact absurd ⟨h1, h2⟩ (hnew a (by omega))
      · rw [oR a (by omega), oR b (by omega)] at h1
        rw [oV a (by omega), oV b (by omega)] at h2
        exact g2 a b (by omega) (by omega) h1 h2
  · by_cases e : j = s
    · rw [e, nR, nV, nF, p2]
      by_cases h0 : tot (V i) = 0
      · rw [if_pos h0] at hfd
        have hv0 := v0_of i1 h0
        rw [h0] at i3
        obtain ⟨_, hR0⟩ := i3
        rw [← hfd]
        refine ⟨hd, ?_⟩
        rw [show tot (V i) + 1 - 1 = 0 by omega]
        refine ⟨k, hk, ?_, by rw [← hv, hv0]; omega, ho, hf, by rw [← hR0]; exact hr⟩
        rw [hv0, VW0.2.2] at hq
        exact hq
      · rw [if_neg h0] at hfd
        obtain ⟨f1, f2⟩ := g3 i hi (by omega)
        rw [← hfd]
        refine ⟨f1, ?_⟩
        rw [show tot (V i) + 1 - 1 = (tot (V i) - 1) + 1 by omega]
        exact ⟨k, V i, R i, hk, f2, hq, hv.symm, hadj⟩
    · rw [oV j (by omega)] at h1
      rw [oR j (by omega), oV j (by omega), oF j (by omega)]
      exact g3 j (by omega) h1
  · by_cases e2 : b = s
    · by_cases e1 : a = s
      · rw [e1, e2]; exact Nat.le_refl _
      · rw [e2, nV, oV a (by omega), p2]
        exact g6 i a (Nat.le_refl _) hi (by omega)
    · rw [oV a (by omega), oV b (by omega)]
      exact g4 a b hab (by omega)
  · by_cases e2 : b = s
    · by_cases e1 : a = s
      · rw [e1, e2]; exact Nat.le_refl _
      · rw [e2, nV, oV a (by omega), p2] at h1
        rw [e2, nF, oF a (by omega)]
        exact hG a (by omega) h1
    · rw [oV a (by omega), oV b (by omega)] at h1
      rw [oV a (by omega)] at h2
      rw [oF a (by omega), oF b (by omega)]
      exact g5 a b hab (by omega) h1 h2
  · have hta : tot (V i) ≤ tot (updN V s v a) := by
      by_cases e1 : a = s
      · rw [e1, nV, p2]; omega
      · rw [oV a (by omega)]; exact g4 i a ha (by omega)
    have htb : tot (updN V s v b) ≤ tot (V i) + 1 := by
      by_cases e2 : b = s
      · rw [e2, nV, p2]; exact Nat.le_refl _
      · rw [oV b (by omega)]; exact g6 i b (Nat.le_refl _) hi (by omega)
    omega
  · have htb : tot (updN V s v b) ≤ tot (V i) + 1 := by
      by_cases e2 : b = s
      · rw [e2, nV, p2]; exact Nat.le_refl _
      · rw [oV b (by omega)]; exact g6 i b (Nat.le_refl _) hi (by omega)
    by_cases e1 : a = s
    · rw [e1, nV, p2] at h2
      omega
    · rw [oV a (by omega)] at h1 h2
      rw [oF a (by omega)]
      by_cases e2 : b = s
      · rw [e2, nV, p2] at h2
        rw [e2, nF, ← hfd, if_neg (by omega)]
        exact g5 i a ha (by omega) (by omega) (by omega)
      · rw [oV b (by omega)] at h2
        rw [oF b (by omega)]
        exact g7 a b ha (by omega) (by omega) h1 h2
  · intro h1 h2 h3 h4 r' h5
    rw [oV j (by omega)] at h1 h4
    rw [oR j (by omega)] at h5
    obtain ⟨b, b1, b2, b3, b4⟩ := g9 j hj d' hd' k' hk' h1 h2 h3 h4 r' h5
    refine ⟨b, by omega, by rw [oR b b1]; exact b2, by rw [oV b b1, oV j (by omega)]; exact b3, ?_⟩
    rw [oF b b1, oV j (by omega), oF j (by omega)]
    exact b4
/-- at the end all are there -/
theorem mq_all {D : DS} {Q : Nat → Nat} {r0 s : Nat} {R V F : Nat → Nat} (h : MqB D Q r0 s s R V F) : ∀ m v r, m ≤ 6 → RcN D Q r0 m v r → ∃ b, b < s ∧ V b = v ∧ R b = r := by
  obtain ⟨g1, g2, g3, g4, g5, g6, g7, g8, g9⟩ := h
  intro m
  induction m with
  | zero =>
    intro v r _ hr
    obtain ⟨rfl, rfl⟩ := hr
    exact ⟨0, g8.1, g8.2.1, g8.2.2⟩
  | succ m ih =>
    intro v r hm hr
    obtain ⟨k, v1, r1, hk, h1, h2, rfl, d, hd, ho, hf, hbd⟩ := hr
    obtain ⟨a1, a2⟩ := RcN_ok m v1 r1 (by omega) h1
    obtain ⟨b, hb, e1, e2⟩ := ih v1 r1 (by omega) h1
    obtain ⟨c, c1, c2, c3, _⟩ := g9 b hb d hd k hk (by rw [e1]; omega) ho hf (by rw [e1]; exact h2) r (by rw [e2]; exact hbd)
    exact ⟨c, c1, by rw [c3, e1], c2⟩
theorem mq_first {D : DS} {Q : Nat → Nat} {r0 s : Nat} {R V F : Nat → Nat} (h : MqB D Q r0 s s R V F) {d : Nat} (hd : d < 24) : ∀ n v r, n + 1 ≤ 6 → RcF D Q r0 d n v r → ∃ b, b < s ∧ V b = v ∧ R b = r ∧ F b ≤ d := by
  have h0 := h
  obtain ⟨g1, g2, g3, g4, g5, g6, g7, g8, g9⟩ := h
  intro n
  induction n with
  | zero =>
    intro v r _ hr
    obtain ⟨k, hk, h1, rfl, ho, hf, hb⟩ := hr
    have e : tot (V 0) = 0 := by rw [g8.2.1]; exact VW0.2.1
    obtain ⟨c, c1, c2, c3, c4⟩ := g9 0 g8.1 d hd k hk (by omega) ho hf (by rw [g8.2.1, VW0.2.2]; exact h1) r (by rw [g8.2.2]; exact hb)
    rw [if_pos e] at c4
    exact ⟨c, c1, by rw [c3, g8.2.1]; omega, c2, c4⟩
  | succ n ih =>
    intro v r hn hr
    obtain ⟨k, v1, r1, hk, h1, h2, rfl, d', hd', ho, hf, hbd⟩ := hr
    obtain ⟨a1, a2⟩ := RcN_ok (n + 1) v1 r1 (by omega) (RcF_N hd n v1 r1 (by omega) h1)
    obtain ⟨b, hb, e1, e2, e3⟩ := ih v1 r1 (by omega) h1
    obtain ⟨c, c1, c2, c3, c4⟩ := g9 b hb d' hd' k hk (by rw [e1]; omega) ho hf (by rw [e1]; exact h2) r (by rw [e2]; exact hbd)
    rw [if_neg (by rw [e1]; omega)] at c4
    exact ⟨c, c1, by rw [c3, e1], c2, by omega⟩
