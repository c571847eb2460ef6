/-! THE LAW: the model reads sums as they can stand -/
def BADr (e p : Nat) (run : Nat → Option (Int32 × Int32 × Int32 × Int32 × Int32 × Int32 × Int32 × (Nat → Int32) × (Nat → Int32))) (w q : Nat) : Prop := ∃ k, k + p ≤ e + 1 ∧ ∀ m, ∃ r, run (m + k) = some r ∧ r.1 = nI 0 ∧ r.2.2.1 = flt w q
def MFac (e : Nat) (g : Nat → Int32) (b : Nat → Nat) (o p : Nat) (R : Res) : Prop := ∀ (bs c j : Nat) (x num : Int32) (W : List Nat) (sa wa : Nat → Int32), o ≤ 6 → 7 ≤ o + j → p ≤ e → c ≤ p → W.length ≤ p → bs ≤ W.length → St wa W → match R with
  | .inl (w, q) => BADr e p (fun m => RFm e bs g j m p x num o c W sa wa) w q
  | .inr (F, p') => ∃ k num' c' sa' wa', k + p ≤ p' ∧ (∀ m, RFm e bs g j (m + k) p x num o c W sa wa = LSm e bs g m p' x num' o c' W sa' wa') ∧ St wa' W ∧ c ≤ c' ∧ c' + p ≤ c + p' ∧ (∀ i, i < c → sa' i = sa i) ∧ SegM sa' c c' (dF o) F
def MTer (e : Nat) (g : Nat → Int32) (b : Nat → Nat) (o p : Nat) (R : Res) : Prop := ∀ (bs c j : Nat) (x num : Int32) (W : List Nat) (sa wa : Nat → Int32), o ≤ 6 → 7 ≤ o + j → p ≤ e → c ≤ p → W.length ≤ p → bs ≤ W.length → TMu W → St wa W → match R with
  | .inl (w, q) => BADr e p (fun m => RFm e bs g j m p x num o c W sa wa) w q
  | .inr (F, p') => ∃ k num' c' sa' wa' pt, k + p ≤ p' ∧ (∀ m, RFm e bs g j (m + k) p x num o c W sa wa = LSm e bs g m p' x num' o c' (pt ++ W) sa' wa') ∧ St wa' (pt ++ W) ∧ c ≤ c' ∧ c' + pt.length + p ≤ c + p' ∧ (∀ i, i < c → sa' i = sa i) ∧ TP sa' c c' pt (dF o) F ∧ ¬ mulS (hN e b p')
def MTrs (e : Nat) (g : Nat → Int32) (b : Nat → Nat) (F0 : Den) (o p : Nat) (R : Res) : Prop := ∀ (bs a c : Nat) (x num : Int32) (pt W : List Nat) (sa wa : Nat → Int32), o ≤ 6 → p ≤ e → c + pt.length ≤ p → (pt ++ W).length ≤ p → bs ≤ W.length → TMu W → St wa (pt ++ W) → TP sa a c pt (dF o) F0 → match R with
  | .inl (w, q) => BADr e p (fun m => LSm e bs g m p x num o c (pt ++ W) sa wa) w q
  | .inr (F, p') => ∃ k num' c' sa' wa' pt', k + p ≤ p' ∧ (∀ m, LSm e bs g (m + k) p x num o c (pt ++ W) sa wa = LSm e bs g m p' x num' o c' (pt' ++ W) sa' wa') ∧ St wa' (pt' ++ W) ∧ c ≤ c' ∧ c' + pt'.length + p ≤ c + pt.length + p' ∧ (∀ i, i < a → sa' i = sa i) ∧ TP sa' a c' pt' (dF o) F ∧ ¬ mulS (hN e b p')
def MSum (e : Nat) (g : Nat → Int32) (b : Nat → Nat) (o p : Nat) (R : Res) : Prop := ∀ (bs c j : Nat) (x num : Int32) (W : List Nat) (sa wa : Nat → Int32), o ≤ 6 → 7 ≤ o + j → p ≤ e → c ≤ p → W.length ≤ p → bs ≤ W.length → TO W → St wa W → match R with
  | .inl (w, q) => BADr e p (fun m => RFm e bs g j m p x num o c W sa wa) w q
  | .inr (F, p') => ∃ k num' c' sa' wa' ps pt, k + p ≤ p' ∧ (∀ m, RFm e bs g j (m + k) p x num o c W sa wa = LSm e bs g m p' x num' o c' (pt ++ (ps ++ W)) sa' wa') ∧ St wa' (pt ++ (ps ++ W)) ∧ c ≤ c' ∧ c' + pt.length + ps.length + p ≤ c + p' ∧ (∀ i, i < c → sa' i = sa i) ∧ SP sa' c c' ps pt (dF o) F ∧ ¬ mulS (hN e b p') ∧ ¬ addS (hN e b p')
def MSrs (e : Nat) (g : Nat → Int32) (b : Nat → Nat) (F0 : Den) (o p : Nat) (R : Res) : Prop := ∀ (bs a c : Nat) (x num : Int32) (ps pt W : List Nat) (sa wa : Nat → Int32), o ≤ 6 → p ≤ e → c + pt.length + ps.length ≤ p → (pt ++ (ps ++ W)).length ≤ p → bs ≤ W.length → TO W → St wa (pt ++ (ps ++ W)) → SP sa a c ps pt (dF o) F0 → ¬ mulS (hN e b p) → match R with
  | .inl (w, q) => BADr e p (fun m => LSm e bs g m p x num o c (pt ++ (ps ++ W)) sa wa) w q
  | .inr (F, p') => ∃ k num' c' sa' wa' ps' pt', k + p ≤ p' ∧ (∀ m, LSm e bs g (m + k) p x num o c (pt ++ (ps ++ W)) sa wa = LSm e bs g m p' x num' o c' (pt' ++ (ps' ++ W)) sa' wa') ∧ St wa' (pt' ++ (ps' ++ W)) ∧ c ≤ c' ∧ c' + pt'.length + ps'.length + p ≤ c + pt.length + ps.length + p' ∧ (∀ i, i < a → sa' i = sa i) ∧ SP sa' a c' ps' pt' (dF o) F ∧ ¬ mulS (hN e b p') ∧ ¬ addS (hN e b p')
def MMs (e : Nat) (g : Nat → Int32) (b : Nat → Nat) (it : It) (o p : Nat) (R : Res) : Prop := match it.1 with
  | 0 => MFac e g b o p R
  | 1 => MTer e g b o p R
  | 2 => MTrs e g b it.2 o p R
  | 3 => MSum e g b o p R
  | 4 => MSrs e g b it.2 o p R
  | _ => True
theorem hasY_at {bs : Nat} {wa : Nat → Int32} {P W : List Nat} (hs : St wa (P ++ (1048576 * 14 :: W))) (hl : (P ++ (1048576 * 14 :: W)).length ≤ 260) (hb : bs ≤ W.length) : f_X12_hasOpenSum (nI (P ++ (1048576 * 14 :: W)).length) wa (nI bs) = some (nI 1) := by
  have h1 := St_app P _ hs
  have hlen : (P ++ (1048576 * 14 :: W)).length = P.length + (W.length + 1) := by rw [List.length_append, List.length_cons]
  refine hasY_M hl (fun j hj => St_at hs hj) ((P ++ (1048576 * 14 :: W)).length - bs) bs fu (by omega) (fu_gt (by omega)) ⟨W.length, 1048576 * 14, hb, by omega, h1.1, by omega, by omega⟩
theorem SP_ops {sa : Nat → Int32} {a c d : Nat} {ps pt : List Nat} {F : Den} (h : SP sa a c ps pt d F) : (∀ x, x ∈ pt ++ ps → ¬ x / 1048576 = 14) ∧ pt.length ≤ 1 ∧ ps.length ≤ 1 := by
  have tpo : ∀ {a c : Nat} {F : Den}, TP sa a c pt d F → (∀ x, x ∈ pt → ¬ x / 1048576 = 14) ∧ pt.length ≤ 1 := by
    intro a c F h
    rcases h with ⟨rfl, _⟩ | ⟨op, _, _, _, rfl, h1, _⟩
    · exact ⟨fun x hx => (by cases hx), Nat.zero_le _⟩
    · have := mop_mul h1
      refine ⟨fun x hx => ?_, Nat.le_refl _⟩
      rw [List.mem_singleton.1 hx]
      omega
  rcases h with ⟨rfl, h⟩ | ⟨op, _, _, _, rfl, h1, _, h2, _⟩
  · have := tpo h
    rw [List.append_nil]
    exact ⟨this.1, this.2, Nat.zero_le _⟩
  · have t := tpo h2
    have gm := mop_add h1
    refine ⟨fun x hx => ?_, t.2, Nat.le_refl _⟩
    rcases List.mem_append.1 hx with hx | hx
    · exact t.1 x hx
    · rw [List.mem_singleton.1 hx]
      omega
theorem hasN_at {bs a c d : Nat} {sa wa : Nat → Int32} {ps pt W : List Nat} {F : Den} (h : SP sa a c ps pt d F) (hs : St wa (pt ++ (ps ++ W))) (hl : (pt ++ (ps ++ W)).length ≤ 260) (hb : W.length = bs) : f_X12_hasOpenSum (nI (pt ++ (ps ++ W)).length) wa (nI bs) = some (nI 0) := by
  have hlen : (pt ++ (ps ++ W)).length = pt.length + (ps.length + W.length) := by rw [List.length_append, List.length_append]
  have hs2 : St wa ((pt ++ ps) ++ W) := by rw [List.append_assoc]; exact hs
  refine hasN_M hl ((pt ++ (ps ++ W)).length - bs) bs fu (by omega) (fu_gt (by omega)) (fun j h1 h2 => ?_)
  obtain ⟨x, hx, h3, h4⟩ := St_in (pt ++ ps) W hs2 j (by omega) (by rw [List.append_assoc]; exact h2)
  exact ⟨x, h3, h4, (SP_ops h).1 x hx⟩
theorem sums_M {n e : Nat} {t : Int32} {g : Nat → Int32} {b : Nat → Nat} (hn : n ≤ 260) (tM : MTape t g n b) (ht : txt e b) (he : e ≤ n) (he2 : e ≤ 240) {it : It} {o p : Nat} {R : Res} (h : DD e b it o p R) : MMs e g b it o p R := by
  refine DD_rec (Q := fun it o p R => MMs e g b it o p R) h ?_ ?_ ?_ ?_ ?_ ?_ ?_ ?_ ?_ ?_ ?_ ?_ ?_ ?_ ?_ ?_ ?_ ?_ ?_ ?_ ?_ ?_ ?_ ?_ ?_ ?_ ?_ ?_ ?_ ?_ ?_ ?_ ?_ ?_ ?_ ?_ ?_
  · intro o p h h2
    intro bs c j x num W sa wa ho hj hp hc hw hb hs
    have hok := DD_ok (DD.fNum (e := e) (b := b) (o := o) h h2) hp
    obtain ⟨a1, a2, a3, a4, a5⟩ := nmr_ok (e := e) (b := b) 5 0 p
    obtain ⟨r1, r2, r3⟩ := hok
    have r1 : p + 1 ≤ (nmr e b 5 0 p).2.1 := r1
    obtain ⟨j, rfl⟩ : ∃ k, j = k + 1 := ⟨j - 1, by omega⟩
    exact ⟨0, _, c + 1, _, wa, by omega, fun m => rf_num hn tM ht he he2 hp h h2 (by omega), hs, by omega, by omega, fun i hi => upd_ne _ _ (by omega), SegM_num (by unfold dF; omega) (by omega) (upd_at _ _ _)⟩
  · intro o p h h2
    intro bs c j x num W sa wa ho hj hp hc hw hb hs
    obtain ⟨j, rfl⟩ : ∃ k, j = k + 1 := ⟨j - 1, by omega⟩
    exact ⟨0, by omega, fun m => rf_numB hn tM ht he he2 hp h h2⟩
  · intro o p l h
    intro bs c j x num W sa wa ho hj hp hc hw hb hs
    obtain ⟨l1, l2, l3, l4⟩ := ltN_lt h
    have hpe := sgn_in l1
    obtain ⟨j, rfl⟩ : ∃ k, j = k + 1 := ⟨j - 1, by omega⟩
    exact ⟨0, _, c + 1, _, wa, by omega, fun m => rf_let hn tM ht he he2 hp h (by omega), hs, by omega, by omega, fun i hi => upd_ne _ _ (by omega), SegM_let (by unfold dF; omega) l2 (upd_at _ _ _)⟩
  · intro o p h h1 h2
    intro bs c j x num W sa wa ho hj hp hc hw hb hs
    obtain ⟨j, rfl⟩ : ∃ k, j = k + 1 := ⟨j - 1, by omega⟩
    exact ⟨0, by omega, fun m => rf_bad hn tM ht he he2 hp h h1 h2⟩
  · intro o p h ho'
    intro bs c j x num W sa wa ho hj hp hc hw hb hs
    obtain ⟨j, rfl⟩ : ∃ k, j = k + 1 := ⟨j - 1, by omega⟩
    exact ⟨0, by omega, fun m => rf_deep hn tM ht he he2 hp h (by omega)⟩
  · intro o p w q h ho' d ih
    intro bs c j x num W sa wa ho hj hp hc hw hb hs
    have hpe := sgn_eq h (by omega)
    obtain ⟨j, rfl⟩ : ∃ k, j = k + 1 := ⟨j - 1, by omega⟩
    obtain ⟨k, k1, k2⟩ := ih bs c j x num (1048576 * 14 :: W) sa (upd wa W.length (nI (1048576 * 14))) (by omega) (by omega) (by omega) (by omega) (by rw [List.length_cons]; omega) (by rw [List.length_cons]; omega) (TO_cons (by omega) (by omega)) (St_push hs (by omega))
    refine ⟨k, by omega, fun m => ?_⟩
    dsimp only
    rw [rf_open hn tM ht he he2 hp h ho' (by omega)]
    exact k2 m
  · intro o p p' F h ho' d hnn ih
    intro bs c j x num W sa wa ho hj hp hc hw hb hs
    have hpe := sgn_eq h (by omega)
    obtain ⟨r1, r2, r3⟩ := DD_ok d hpe
    obtain ⟨j, rfl⟩ : ∃ k, j = k + 1 := ⟨j - 1, by omega⟩
    obtain ⟨k, num', c', sa', wa', ps, pt, k1, k2, k3, k4, k5, k6, k7, k8, k9⟩ := ih bs c j x num (1048576 * 14 :: W) sa (upd wa W.length (nI (1048576 * 14))) (by omega) (by omega) (by omega) (by omega) (by rw [List.length_cons]; omega) (by rw [List.length_cons]; omega) (TO_cons (by omega) (by omega)) (St_push hs (by omega))
    have hops := SP_ops k7
    have hlen : (pt ++ (ps ++ (1048576 * 14 :: W))).length ≤ 250 := by rw [List.length_append, List.length_append, List.length_cons]; omega
    have hho : f_X12_hasOpenSum (nI (pt ++ (ps ++ (1048576 * 14 :: W))).length) wa' (nI bs) = some (nI 1) := by
      have k3' : St wa' ((pt ++ ps) ++ (1048576 * 14 :: W)) := by rw [List.append_assoc]; exact k3
      have := hasY_at (bs := bs) k3' (by rw [List.append_assoc]; omega) hb
      rw [List.append_assoc] at this
      exact this
    refine ⟨k + 1, by omega, fun m => ?_⟩
    dsimp only
    rw [rf_open hn tM ht he he2 hp h ho' (by omega), show m + (k + 1) = (m + 1) + k by omega, k2 (m + 1), ls_end (R := []) hn tM ht he he2 r2 k8 k9 (Or.inl hnn)]
    exact ks_bad hho
  · intro o p p' F h ho' d hy ih
    intro bs c j x num W sa wa ho hj hp hc hw hb hs
    have hpe := sgn_eq h (by omega)
    obtain ⟨r1, r2, r3⟩ := DD_ok d hpe
    obtain ⟨j, rfl⟩ : ∃ k, j = k + 1 := ⟨j - 1, by omega⟩
    obtain ⟨k, num', c', sa', wa', ps, pt, k1, k2, k3, k4, k5, k6, k7, k8, k9⟩ := ih bs c j x num (1048576 * 14 :: W) sa (upd wa W.length (nI (1048576 * 14))) (by omega) (by omega) (by omega) (by omega) (by rw [List.length_cons]; omega) (by rw [List.length_cons]; omega) (TO_cons (by omega) (by omega)) (St_push hs (by omega))
    have hops := SP_ops k7
    have hlen : (pt ++ (ps ++ (1048576 * 14 :: W))).length ≤ 250 := by rw [List.length_append, List.length_append, List.length_cons]; omega
    have hho : f_X12_hasOpenSum (nI (pt ++ (ps ++ (1048576 * 14 :: W))).length) wa' (nI bs) = some (nI 1) := by
      have k3' : St wa' ((pt ++ ps) ++ (1048576 * 14 :: W)) := by rw [List.append_assoc]; exact k3
      have := hasY_at (bs := bs) k3' (by rw [List.append_assoc]; omega) hb
      rw [List.append_assoc] at this
      exact this
    obtain ⟨c1, sa1, l1, l2, l3, l4⟩ := close1 k7 (by unfold dF; omega) k3 hlen (by omega) (TO_cons (by omega) (by omega))
    rw [List.length_cons] at l1
    refine ⟨k + 1, num', c1, sa1, wa', by omega, fun m => ?_, (St_app ps _ (St_app pt _ k3)).2.2, by omega, by omega, fun i hi => (l3 i hi).trans (k6 i hi), SegM_mono l4 (by unfold dF; omega)⟩
    rw [rf_open hn tM ht he he2 hp h ho' (by omega), show m + (k + 1) = (m + 1) + k by omega, k2 (m + 1), ls_close hn tM ht he he2 r2 hy hho l1]
  · intro o p w q d ih
    intro bs c j x num W sa wa ho hj hp hc hw hb htm hs
    exact ih bs c j x num W sa wa ho hj hp hc hw hb hs
  · intro o p p' F R d d2 ih ih2
    intro bs c j x num W sa wa ho hj hp hc hw hb htm hs
    obtain ⟨r1, r2, r3⟩ := DD_ok d hp
    have r1 : p + 1 ≤ p' := r1
    obtain ⟨k, num', c', sa', wa', k1, k2, k3, k4, k5, k6, k7⟩ := ih bs c j x num W sa wa ho hj hp hc hw hb hs
    have n2 := ih2 bs c c' x num' [] W sa' wa' ho r2 (by simp only [List.length_nil]; omega) (by simp only [List.nil_append]; omega) hb htm k3 (Or.inl ⟨rfl, k7⟩)
    rcases R with ⟨w, q⟩ | ⟨G, p2⟩
    · skip
      obtain ⟨l, l1, l2⟩ := n2
      refine ⟨l + k, by omega, fun m => ?_⟩
      dsimp only
      rw [← Nat.add_assoc, k2 (m + l)]
      exact l2 m
    · skip
      obtain ⟨l, num2, c2, sa2, wa2, pt2, l1, l2, l3, l4, l5, l6, l7, l8⟩ := n2
      simp only [List.length_nil] at l5
      refine ⟨l + k, num2, c2, sa2, wa2, pt2, by omega, fun m => ?_, l3, by omega, by omega, fun i hi => (l6 i hi).trans (k6 i hi), l7, l8⟩
      rw [← Nat.add_assoc, k2 (m + l)]
      exact l2 m
  · intro o p F h
    intro bs a c x num pt W sa wa ho hp hc hw hb htm hs htp
    exact ⟨0, num, c, sa, wa, pt, by omega, fun m => rfl, hs, Nat.le_refl _, Nat.le_refl _, fun i _ => rfl, htp, h⟩
  · intro o p w q F h d ih
    intro bs a c x num pt W sa wa ho hp hc hw hb htm hs htp
    have hpe := sgn_in (mulS_lt h)
    have hwl : W.length + pt.length ≤ p := by rw [List.length_append] at hw; omega
    obtain ⟨sa1, l1, l2, l3⟩ := close0 htp (by unfold dF; omega) hs (by omega) (by omega) htm
    have gm := mop_mul h
    obtain ⟨k, k1, k2⟩ := ih bs (c + pt.length) fu x num (1048576 * mop (hN e b p) :: W) sa1 (upd wa W.length (nI (1048576 * mop (hN e b p)))) ho (by have := @fu_gt 7 (by omega); omega) (by omega) (by omega) (by rw [List.length_cons]; omega) (by rw [List.length_cons]; omega) (St_push (St_app pt W hs) (by omega))
    refine ⟨k + 1, by omega, fun m => ?_⟩
    show ∃ r, LSm e bs g (m + k + 1) p x num o c (pt ++ W) sa wa = some r ∧ _
    rw [ls_mul hn tM ht he he2 hp h l1 (by omega)]
    exact k2 m
  · intro o p p' F G R h d d2 ih ih2
    intro bs a c x num pt W sa wa ho hp hc hw hb htm hs htp
    have hpe := sgn_in (mulS_lt h)
    obtain ⟨r1, r2, r3⟩ := DD_ok d hpe
    have r1 : p + 1 + 1 ≤ p' := r1
    have hwl : W.length + pt.length ≤ p := by rw [List.length_append] at hw; omega
    obtain ⟨sa1, l1, l2, l3⟩ := close0 htp (by unfold dF; omega) hs (by omega) (by omega) htm
    have gm := mop_mul h
    have hac := TP_le htp
    obtain ⟨k, num', c', sa', wa', k1, k2, k3, k4, k5, k6, k7⟩ := ih bs (c + pt.length) fu x num (1048576 * mop (hN e b p) :: W) sa1 (upd wa W.length (nI (1048576 * mop (hN e b p)))) ho (by have := @fu_gt 7 (by omega); omega) (by omega) (by omega) (by rw [List.length_cons]; omega) (by rw [List.length_cons]; omega) (St_push (St_app pt W hs) (by omega))
    have hTP : TP sa' a c' [1048576 * mop (hN e b p)] (dF o) (binF (hN e b p) F G) := Or.inr ⟨_, c + pt.length, F, G, rfl, h, SegM_congr l3 (fun q _ q2 => k6 q q2), k7, rfl⟩
    have n2 := ih2 bs a c' x num' [1048576 * mop (hN e b p)] W sa' wa' ho r2 (by simp only [List.length_singleton]; omega) (by rw [List.length_append, List.length_singleton]; omega) hb htm k3 hTP
    have run : ∀ m, LSm e bs g (m + (k + 1)) p x num o c (pt ++ W) sa wa = LSm e bs g m p' x num' o c' ([1048576 * mop (hN e b p)] ++ W) sa' wa' := by
      intro m
      rw [show m + (k + 1) = (m + k) + 1 by omega, ls_mul hn tM ht he he2 hp h l1 (by omega), k2 m]
      rfl
    rcases R with ⟨w, q⟩ | ⟨H, p2⟩
    · skip
      obtain ⟨l, l1', l2'⟩ := n2
      refine ⟨l + (k + 1), by omega, fun m => ?_⟩
      show ∃ r, LSm e bs g (m + (l + (k + 1))) p x num o c (pt ++ W) sa wa = some r ∧ _
      rw [← Nat.add_assoc, run (m + l)]
      exact l2' m
    · skip
      obtain ⟨l, num2, c2, sa2, wa2, pt2, q1, q2, q3, q4, q5, q6, q7, q8⟩ := n2
      simp only [List.length_singleton] at q5
      refine ⟨l + (k + 1), num2, c2, sa2, wa2, pt2, by omega, fun m => ?_, q3, by omega, by omega, fun i hi => ?_, q7, q8⟩
      · rw [← Nat.add_assoc, run (m + l)]
        exact q2 m
      · rw [q6 i hi, k6 i (by omega)]
        exact l2 i (by omega)
  · intro o p w q d ih
    intro bs c j x num W sa wa ho hj hp hc hw hb hto hs
    exact ih bs c j x num W sa wa ho hj hp hc hw hb hto.1 hs
  · intro o p p' F R d d2 ih ih2
    intro bs c j x num W sa wa ho hj hp hc hw hb hto hs
    obtain ⟨r1, r2, r3⟩ := DD_ok d hp
    have r1 : p + 1 ≤ p' := r1
    obtain ⟨k, num', c', sa', wa', pt, k1, k2, k3, k4, k5, k6, k7, k8⟩ := ih bs c j x num W sa wa ho hj hp hc hw hb hto.1 hs
    have hSP : SP sa' c c' [] pt (dF o) F := Or.inl ⟨rfl, k7⟩
    have hptl := (SP_ops hSP).2.1
    have n2 := ih2 bs c c' x num' [] pt W sa' wa' ho r2 (by simp only [List.length_nil]; omega) (by rw [List.length_append, List.nil_append]; omega) hb hto k3 hSP k8
    rcases R with ⟨w, q⟩ | ⟨G, p2⟩
    · skip
      obtain ⟨l, l1, l2⟩ := n2
      refine ⟨l + k, by omega, fun m => ?_⟩
      dsimp only
      rw [← Nat.add_assoc, k2 (m + l)]
      exact l2 m
    · skip
      obtain ⟨l, num2, c2, sa2, wa2, ps2, pt2, l1, l2, l3, l4, l5, l6, l7, l8⟩ := n2
      simp only [List.length_nil] at l5
      refine ⟨l + k, num2, c2, sa2, wa2, ps2, pt2, by omega, fun m => ?_, l3, by omega, by omega, fun i hi => (l6 i hi).trans (k6 i hi), l7, l8⟩
      rw [← Nat.add_assoc, k2 (m + l)]
      exact l2 m
  · intro o p F h
    intro bs a c x num ps pt W sa wa ho hp hc hw hb hto hs hsp hnm
    exact ⟨0, num, c, sa, wa, ps, pt, by omega, fun m => rfl, hs, Nat.le_refl _, Nat.le_refl _, fun i _ => rfl, hsp, hnm, h⟩
  · intro o p w q F h d ih
    intro bs a c x num ps pt W sa wa ho hp hc hw hb hto hs hsp hnm
    have hpe := sgn_in (addS_lt h)
    have hwl : W.length + pt.length + ps.length ≤ p := by rw [List.length_append, List.length_append] at hw; omega
    have hops := SP_ops hsp
    obtain ⟨c1, sa1, l1, l2, l3, l4⟩ := close1 hsp (by unfold dF; omega) hs (by omega) (by omega) hto
    have gm := mop_add h
    obtain ⟨k, k1, k2⟩ := ih bs c1 fu x num (1048576 * mop (hN e b p) :: W) sa1 (upd wa W.length (nI (1048576 * mop (hN e b p)))) ho (by have := @fu_gt 7 (by omega); omega) (by omega) (by omega) (by rw [List.length_cons]; omega) (by rw [List.length_cons]; omega) (TMu_cons (by omega)) (St_push (St_app ps W (St_app pt _ hs)) (by omega))
    refine ⟨k + 1, by omega, fun m => ?_⟩
    show ∃ r, LSm e bs g (m + k + 1) p x num o c (pt ++ (ps ++ W)) sa wa = some r ∧ _
    rw [ls_add hn tM ht he he2 hp h l1 (by omega)]
    exact k2 m
  · intro o p p' F G R h d d2 ih ih2
    intro bs a c x num ps pt W sa wa ho hp hc hw hb hto hs hsp hnm
    have hpe := sgn_in (addS_lt h)
    obtain ⟨r1, r2, r3⟩ := DD_ok d hpe
    have r1 : p + 1 + 1 ≤ p' := r1
    have hwl : W.length + pt.length + ps.length ≤ p := by rw [List.length_append, List.length_append] at hw; omega
    have hops := SP_ops hsp
    obtain ⟨c1, sa1, l1, l2, l3, l4⟩ := close1 hsp (by unfold dF; omega) hs (by omega) (by omega) hto
    have gm := mop_add h
    have hac := l4.1
    obtain ⟨k, num', c', sa', wa', pt', k1, k2, k3, k4, k5, k6, k7, k8⟩ := ih bs c1 fu x num (1048576 * mop (hN e b p) :: W) sa1 (upd wa W.length (nI (1048576 * mop (hN e b p)))) ho (by have := @fu_gt 7 (by omega); omega) (by omega) (by omega) (by rw [List.length_cons]; omega) (by rw [List.length_cons]; omega) (TMu_cons (by omega)) (St_push (St_app ps W (St_app pt _ hs)) (by omega))
    have hSP : SP sa' a c' [1048576 * mop (hN e b p)] pt' (dF o) (binF (hN e b p) F G) := Or.inr ⟨_, c1, F, G, rfl, h, SegM_congr l4 (fun q _ q2 => k6 q q2), k7, rfl⟩
    have hops2 := SP_ops hSP
    have n2 := ih2 bs a c' x num' [1048576 * mop (hN e b p)] pt' W sa' wa' ho r2 (by simp only [List.length_singleton]; omega) (by rw [List.length_append, List.length_append, List.length_singleton]; omega) hb hto k3 hSP k8
    have run : ∀ m, LSm e bs g (m + (k + 1)) p x num o c (pt ++ (ps ++ W)) sa wa = LSm e bs g m p' x num' o c' (pt' ++ ([1048576 * mop (hN e b p)] ++ W)) sa' wa' := by
      intro m
      rw [show m + (k + 1) = (m + k) + 1 by omega, ls_add hn tM ht he he2 hp h l1 (by omega), k2 m]
      rfl
    rcases R with ⟨w, q⟩ | ⟨H, p2⟩
    · skip
      obtain ⟨l, l1', l2'⟩ := n2
      refine ⟨l + (k + 1), by omega, fun m => ?_⟩
      show ∃ r, LSm e bs g (m + (l + (k + 1))) p x num o c (pt ++ (ps ++ W)) sa wa = some r ∧ _
      rw [← Nat.add_assoc, run (m + l)]
      exact l2' m
    · skip
      obtain ⟨l, num2, c2, sa2, wa2, ps2, pt2, q1, q2, q3, q4, q5, q6, q7, q8⟩ := n2
      simp only [List.length_singleton] at q5
      refine ⟨l + (k + 1), num2, c2, sa2, wa2, ps2, pt2, by omega, fun m => ?_, q3, by omega, by omega, fun i hi => ?_, q7, q8⟩
      · rw [← Nat.add_assoc, run (m + l)]
        exact q2 m
      · rw [q6 i hi, k6 i (by omega)]
        exact l3 i hi
  · intros; exact True.intro
  · intros; exact True.intro
  · intros; exact True.intro
  · intros; exact True.intro
  · intros; exact True.intro
  · intros; exact True.intro
  · intros; exact True.intro
  · intros; exact True.intro
  · intros; exact True.intro
  · intros; exact True.intro
  · intros; exact True.intro
  · intros; exact True.intro
  · intros; exact True.intro
  · intros; exact True.intro
  · intros; exact True.intro
  · intros; exact True.intro
  · intros; exact True.intro
  · intros; exact True.intro
  · intros; exact True.intro
theorem sum_MY {n e : Nat} {t : Int32} {g : Nat → Int32} {b : Nat → Nat} (hn : n ≤ 260) (tM : MTape t g n b) (ht : txt e b) (he : e ≤ n) (he2 : e ≤ 240) {o p p' : Nat} {F : Den} (h : DD e b .sum o p (.ok F p')) (ho : o ≤ 6) (hp : p ≤ e) {c : Nat} {x num : Int32} {W : List Nat} {sa wa : Nat → Int32} (hc : c ≤ p) (hw : W.length ≤ p) (hto : TO W) (hs : St wa W) : ∃ num' c' sa' wa', f_X12_readsSum (nI p) (nI e) x num (nI o) (nI c) (nI W.length) g sa wa = some (nI 1, nI p', x, num', nI o, nI c', nI W.length, sa', wa') ∧ St wa' W ∧ c ≤ c' ∧ c' + p ≤ c + p' ∧ (∀ i, i < c → sa' i = sa i) ∧ SegM sa' c c' (dF o + 2) F := by
  obtain ⟨r1, r2, r3⟩ := DD_ok h hp
  have r1 : p + 1 ≤ p' := r1
  obtain ⟨k, num', c', sa', wa', ps, pt, k1, k2, k3, k4, k5, k6, k7, k8, k9⟩ := (sums_M hn tM ht he he2 h : MSum e g b o p (.ok F p')) W.length c fu x num W sa wa ho (by have := @fu_gt 7 (by omega); omega) hp hc hw (Nat.le_refl _) hto hs
  have hops := SP_ops k7
  have hlen : (pt ++ (ps ++ W)).length ≤ 250 := by rw [List.length_append, List.length_append]; omega
  obtain ⟨c1, sa1, l1, l2, l3, l4⟩ := close1 k7 (by unfold dF; omega) k3 hlen (by omega) hto
  have hho := hasN_at (bs := W.length) k7 k3 (by omega) rfl
  refine ⟨num', c1, sa1, wa', ?_, St_app ps W (St_app pt _ k3), by omega, by omega, fun i hi => (l3 i hi).trans (k6 i hi), l4⟩
  have hf : fu = (fu - k - 1 + 1) + k := by have := @fu_gt (k + 1) (by omega); omega
  rw [rs_eq e W.length p o c x num W g sa wa rfl]
  have k2' := k2 (fu - k - 1 + 1)
  rw [← hf] at k2'
  rw [k2', ls_end (R := []) hn tM ht he he2 r2 k8 k9 (Or.inr hho)]
  exact ks_ok hho l1
theorem sum_MN {n e : Nat} {t : Int32} {g : Nat → Int32} {b : Nat → Nat} (hn : n ≤ 260) (tM : MTape t g n b) (ht : txt e b) (he : e ≤ n) (he2 : e ≤ 240) {o p w q : Nat} (h : DD e b .sum o p (.bad w q)) (ho : o ≤ 6) (hp : p ≤ e) {c : Nat} {x num : Int32} {W : List Nat} {sa wa : Nat → Int32} (hc : c ≤ p) (hw : W.length ≤ p) (hto : TO W) (hs : St wa W) : ∃ r, f_X12_readsSum (nI p) (nI e) x num (nI o) (nI c) (nI W.length) g sa wa = some r ∧ r.1 = nI 0 ∧ r.2.2.1 = flt w q := by
  obtain ⟨k, k1, k2⟩ := (sums_M hn tM ht he he2 h : MSum e g b o p (.bad w q)) W.length c fu x num W sa wa ho (by have := @fu_gt 7 (by omega); omega) hp hc hw (Nat.le_refl _) hto hs
  have hf : fu = (fu - k) + k := by have := @fu_gt k (by omega); omega
  rw [rs_eq e W.length p o c x num W g sa wa rfl]
  have k2' := k2 (fu - k)
  rw [← hf] at k2'
  exact k2'
