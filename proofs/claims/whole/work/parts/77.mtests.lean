/-! THE LAW: the model reads conditions as they can stand -/
abbrev Acc : Type := Option (Nat × Den)
def pA : Acc → List Nat
  | none => []
  | some z => [1048576 * 11 + z.1]
def pO : Acc → List Nat
  | none => []
  | some z => [1048576 * 12 + z.1]
def jA : Acc → Den → Den
  | none, G => G
  | some z, G => andF z.2 G
def jR : Acc → Den → Den
  | none, G => G
  | some z, G => orF z.2 G
def PAc (sa : Nat → Int32) (a c k : Nat) : Acc → Prop
  | none => a = c
  | some z => c = z.1 + 1 ∧ sa z.1 = nI (1048576 * k + 0) ∧ SegM sa a z.1 20 z.2 ∧ B01 z.2
def AP (sa : Nat → Int32) (a c : Nat) : Acc → Den → Prop
  | none, G => SegM sa a c 20 G
  | some z, G => ∃ B, z.1 < c ∧ sa z.1 = nI (1048576 * 11 + 0) ∧ SegM sa a z.1 20 z.2 ∧ SegM sa (z.1 + 1) c 20 B ∧ G = andF z.2 B
def OP (sa : Nat → Int32) (a c : Nat) (accA : Acc) : Acc → Den → Prop
  | none, G => AP sa a c accA G
  | some z, G => ∃ B, z.1 < c ∧ sa z.1 = nI (1048576 * 12 + 0) ∧ SegM sa a z.1 20 z.2 ∧ B01 z.2 ∧ AP sa (z.1 + 1) c accA B ∧ G = orF z.2 B
theorem AP_le {sa : Nat → Int32} {a c : Nat} {acc : Acc} {G : Den} (h : AP sa a c acc G) : a ≤ c := by
  cases acc with
  | none => exact h.1
  | some z => obtain ⟨B, h1, _, h3, _⟩ := h; exact Nat.le_trans h3.1 (Nat.le_of_lt h1)
theorem AP_congr {sa sa' : Nat → Int32} {a c : Nat} {acc : Acc} {G : Den} (h : AP sa a c acc G) (hc : ∀ i, a ≤ i → i < c → sa' i = sa i) : AP sa' a c acc G := by
  cases acc with
  | none => exact SegM_congr h hc
  | some z =>
    obtain ⟨B, h1, h2, h3, h4, h5⟩ := h
    have l := h3.1
    exact ⟨B, h1, (hc _ l h1).trans h2, SegM_congr h3 (fun q q1 q2 => hc q q1 (by omega)), SegM_congr h4 (fun q q1 q2 => hc q (by omega) q2), h5⟩
theorem pA_len (acc : Acc) : (pA acc).length ≤ 1 := by cases acc <;> simp [pA]
theorem pO_len (acc : Acc) : (pO acc).length ≤ 1 := by cases acc <;> simp [pO]
theorem landA {sa wa : Nat → Int32} {a c m x1 : Nat} {acc : Acc} {R : List Nat} {G : Den} (h : AP sa a c acc G) (hs : St wa (pA acc ++ R)) (hl : R.length + 1 ≤ 250) (hc : c < 250) (hx : x1 = 0 ∨ x1 = 1) : ∃ sa1, L_X12_lands_0 (nI c) wa (nI x1) (m + (pA acc).length) (nI (pA acc ++ R).length, sa) = L_X12_lands_0 (nI c) wa (nI x1) m (nI R.length, sa1) ∧ SegM sa1 a c 20 G ∧ (∀ i, i < a ∨ c ≤ i → sa1 i = sa i) := by
  cases acc with
  | none => exact ⟨sa, rfl, h, fun _ _ => rfl⟩
  | some z =>
    obtain ⟨B, h1, h2, h3, h4, rfl⟩ := h
    have l := h3.1
    have hs' : St wa ((1048576 * 11 + z.1) :: R) := hs
    refine ⟨upd sa z.1 (nI (1048576 * 11 + c)), landStep hs' hl (by omega) (by omega) h2 hx (Or.inl rfl), ?_, fun i hi => upd_ne _ _ (by omega)⟩
    exact SegM_and (by omega) (SegM_congr h3 (fun q _ q2 => upd_ne _ _ (by omega))) (SegM_congr h4 (fun q q1 _ => upd_ne _ _ (by omega))) (upd_at _ _ _)
theorem land0 {sa wa : Nat → Int32} {a c : Nat} {acc : Acc} {R : List Nat} {G : Den} (h : AP sa a c acc G) (hs : St wa (pA acc ++ R)) (hl : R.length + 1 ≤ 250) (hc : c < 250) (hR : TG 12 R) : ∃ sa1, f_X12_lands (nI c) (nI (pA acc ++ R).length) sa wa (nI 0) = some (nI R.length, sa1) ∧ SegM sa1 a c 20 G ∧ (∀ i, i < a ∨ c ≤ i → sa1 i = sa i) := by
  have hp := pA_len acc
  obtain ⟨sa1, k1, k2, k3⟩ := landA (m := fu - (pA acc).length - 1 + 1) (x1 := 0) h hs hl hc (Or.inl rfl)
  refine ⟨sa1, ?_, k2, k3⟩
  have hf : fu - (pA acc).length - 1 + 1 + (pA acc).length = fu := by have := @fu_gt ((pA acc).length + 1) (by omega); omega
  rw [hf] at k1
  show L_X12_lands_0 (nI c) wa (nI 0) fu _ = _
  rw [k1]
  exact landStop (St_app _ R hs) (by omega) (Or.inl rfl) hR
theorem land1 {sa wa : Nat → Int32} {a c : Nat} {accA accO : Acc} {W : List Nat} {G : Den} (h : OP sa a c accA accO G) (hs : St wa (pA accA ++ (pO accO ++ W))) (hl : W.length + 2 ≤ 250) (hc : c < 250) (hW : TG 13 W) : ∃ sa1, f_X12_lands (nI c) (nI (pA accA ++ (pO accO ++ W)).length) sa wa (nI 1) = some (nI W.length, sa1) ∧ SegM sa1 a c 20 G ∧ (∀ i, i < a ∨ c ≤ i → sa1 i = sa i) := by
  have hp := pA_len accA
  have hq := pO_len accO
  have hlen : (pO accO ++ W).length + 1 ≤ 250 := by rw [List.length_append]; omega
  cases accO with
  | none =>
    obtain ⟨sa1, k1, k2, k3⟩ := landA (m := fu - (pA accA).length - 1 + 1) (x1 := 1) (R := pO none ++ W) h hs hlen hc (Or.inr rfl)
    refine ⟨sa1, ?_, k2, k3⟩
    have hf : fu - (pA accA).length - 1 + 1 + (pA accA).length = fu := by have := @fu_gt ((pA accA).length + 1) (by omega); omega
    rw [hf] at k1
    show L_X12_lands_0 (nI c) wa (nI 1) fu _ = _
    rw [k1]
    exact landStop (St_app _ _ hs) (by omega) (Or.inr rfl) hW
  | some z =>
    obtain ⟨B, h1, h2, h3, h4, h5, rfl⟩ := h
    have l := h3.1
    obtain ⟨sa1, k1, k2, k3⟩ := landA (m := fu - (pA accA).length - 2 + 1 + 1) (x1 := 1) (R := pO (some z) ++ W) h5 hs hlen hc (Or.inr rfl)
    have hf : fu - (pA accA).length - 2 + 1 + 1 + (pA accA).length = fu := by have := @fu_gt ((pA accA).length + 2) (by omega); omega
    rw [hf] at k1
    have hs2 : St wa ((1048576 * 12 + z.1) :: W) := St_app _ _ hs
    refine ⟨upd sa1 z.1 (nI (1048576 * 12 + c)), ?_, ?_, fun i hi => ?_⟩
    · show L_X12_lands_0 (nI c) wa (nI 1) fu _ = _
      rw [k1]
      show L_X12_lands_0 (nI c) wa (nI 1) _ (nI (W.length + 1), sa1) = _
      rw [landStep hs2 (by omega) (by omega) (by omega) ((k3 _ (Or.inl (by omega))).trans h2) (Or.inr rfl) (Or.inr ⟨rfl, rfl⟩)]
      exact landStop hs2.2.2 (by omega) (Or.inr rfl) hW
    · exact SegM_or (by omega) (SegM_congr h3 (fun q q1 q2 => by rw [upd_ne _ _ (by omega)]; exact k3 q (Or.inl (by omega)))) (SegM_congr k2 (fun q q1 _ => upd_ne _ _ (by omega))) (upd_at _ _ _) h4
    · rw [upd_ne _ _ (by omega)]
      exact k3 i (by omega)
def MTst (e : Nat) (g : Nat → Int32) (b : Nat → Nat) (o p : Nat) (R : Res) : Prop := ∀ (c : Nat) (x num : Int32) (W : List Nat) (sa wa : Nat → Int32), o ≤ 6 → p ≤ e → c ≤ p → W.length ≤ p → TG 10 W → St wa W → match R with
  | .inl (w, q) => BADr e p (fun m => TBm e g m p x num o c W sa wa) w q
  | .inr (F, p') => ∃ k j1 j2 num' c' sa' wa', k + p ≤ p' ∧ fu + o ≤ j1 + 6 ∧ fu ≤ j2 + p' ∧ (∀ m, TBm e g (m + k) p x num o c W sa wa = EPm e g j1 j2 m p' x num' o c' W sa' wa') ∧ St wa' W ∧ c ≤ c' ∧ c' + p ≤ c + p' ∧ (∀ i, i < c → sa' i = sa i) ∧ SegM sa' c c' 20 F
def MPrt (e : Nat) (g : Nat → Int32) (b : Nat → Nat) (o p : Nat) (R : Res) : Prop := ∀ (a c : Nat) (acc : Acc) (x num : Int32) (W : List Nat) (sa wa : Nat → Int32), o ≤ 6 → p ≤ e → c ≤ p → (pA acc ++ W).length ≤ p → TG 12 W → St wa (pA acc ++ W) → PAc sa a c 11 acc → match R with
  | .inl (w, q) => BADr e p (fun m => TBm e g m p x num o c (pA acc ++ W) sa wa) w q
  | .inr (G, p') => ∃ k j2 num' c' sa' wa' acc', k + p ≤ p' ∧ fu ≤ j2 + p' ∧ (∀ m, TBm e g (m + k) p x num o c (pA acc ++ W) sa wa = PLm e g j2 m p' x num' o c' (pA acc' ++ W) sa' wa') ∧ St wa' (pA acc' ++ W) ∧ c ≤ c' ∧ c' + p ≤ c + p' ∧ (∀ i, i < a → sa' i = sa i) ∧ AP sa' a c' acc' (jA acc G) ∧ ¬ hN e b p' = 38
def MCho (e : Nat) (g : Nat → Int32) (b : Nat → Nat) (o p : Nat) (R : Res) : Prop := ∀ (a c : Nat) (acc : Acc) (x num : Int32) (W : List Nat) (sa wa : Nat → Int32), o ≤ 6 → p ≤ e → c ≤ p → (pO acc ++ W).length ≤ p → TG 13 W → St wa (pO acc ++ W) → PAc sa a c 12 acc → match R with
  | .inl (w, q) => BADr e p (fun m => TBm e g m p x num o c (pO acc ++ W) sa wa) w q
  | .inr (G, p') => ∃ k j2 num' c' sa' wa' accA accO, k + p ≤ p' ∧ fu ≤ j2 + p' ∧ (∀ m, TBm e g (m + k) p x num o c (pO acc ++ W) sa wa = PLm e g j2 m p' x num' o c' (pA accA ++ (pO accO ++ W)) sa' wa') ∧ St wa' (pA accA ++ (pO accO ++ W)) ∧ c ≤ c' ∧ c' + p ≤ c + p' ∧ (∀ i, i < a → sa' i = sa i) ∧ OP sa' a c' accA accO (jR acc G) ∧ ¬ hN e b p' = 38 ∧ ¬ hN e b p' = 124
def MMc (e : Nat) (g : Nat → Int32) (b : Nat → Nat) (it : It) (o p : Nat) (R : Res) : Prop := match it.1 with
  | 5 => MTst e g b o p R
  | 6 => MPrt e g b o p R
  | 7 => MCho e g b o p R
  | _ => True
theorem TG_pA {acc : Acc} {W : List Nat} (hW : TG 12 W) (hl : ∀ z, acc = some z → z.1 < 260) : TG 11 (pA acc ++ W) := by
  cases acc with
  | none => exact TG_mono hW (by omega)
  | some z => exact ⟨1048576 * 11 + z.1, W, rfl, by omega, by have := hl z rfl; omega⟩
theorem TG_pO {acc : Acc} {W : List Nat} (hW : TG 13 W) (hl : ∀ z, acc = some z → z.1 < 260) : TG 12 (pO acc ++ W) := by
  cases acc with
  | none => exact TG_mono hW (by omega)
  | some z => exact ⟨1048576 * 12 + z.1, W, rfl, by omega, by have := hl z rfl; omega⟩
theorem PAc_lt {sa : Nat → Int32} {a c k : Nat} {acc : Acc} (h : PAc sa a c k acc) (hc : c ≤ 250) : (∀ z, acc = some z → z.1 < 260) ∧ a ≤ c := by
  cases acc with
  | none =>
    have h : a = c := h
    exact ⟨fun z hz => (by cases hz), by omega⟩
  | some z =>
    obtain ⟨h1, _, h3, _⟩ := h
    have := h3.1
    refine ⟨fun z' hz => ?_, by omega⟩
    injection hz with hz
    subst hz
    omega
theorem AP_of {sa sa' : Nat → Int32} {a c c' : Nat} {acc : Acc} {F : Den} (h : PAc sa a c 11 acc) (hs : SegM sa' c c' 20 F) (hc : ∀ i, i < c → sa' i = sa i) : AP sa' a c' acc (jA acc F) := by
  cases acc with
  | none =>
    have h : a = c := h
    subst h
    exact hs
  | some z =>
    obtain ⟨h1, h2, h3, _⟩ := h
    have l := hs.1
    refine ⟨F, by omega, (hc _ (by omega)).trans h2, SegM_congr h3 (fun q _ q2 => hc q (by omega)), ?_, rfl⟩
    rw [← h1]
    exact hs
theorem OP_of {sa sa' : Nat → Int32} {a c c' : Nat} {accA acc : Acc} {F : Den} (h : PAc sa a c 12 acc) (hs : AP sa' c c' accA F) (hc : ∀ i, i < c → sa' i = sa i) : OP sa' a c' accA acc (jR acc F) := by
  cases acc with
  | none =>
    have h : a = c := h
    subst h
    exact hs
  | some z =>
    obtain ⟨h1, h2, h3, h4⟩ := h
    have l := AP_le hs
    refine ⟨F, by omega, (hc _ (by omega)).trans h2, SegM_congr h3 (fun q _ q2 => hc q (by omega)), h4, ?_, rfl⟩
    rw [← h1]
    exact hs
theorem jA_B01 {sa : Nat → Int32} {a c k : Nat} {acc : Acc} {F : Den} (h : PAc sa a c k acc) (hF : B01 F) : B01 (jA acc F) := by
  cases acc with
  | none => exact hF
  | some z => exact B01_and h.2.2.2 hF
theorem jR_B01 {sa : Nat → Int32} {a c k : Nat} {acc : Acc} {F : Den} (h : PAc sa a c k acc) (hF : B01 F) : B01 (jR acc F) := by
  cases acc with
  | none => exact hF
  | some z => exact B01_or h.2.2.2 hF
theorem jA_and (acc : Acc) (F G : Den) : andF (jA acc F) G = jA acc (andF F G) := by
  cases acc with
  | none => rfl
  | some z => exact andF_assoc _ _ _
theorem jR_or (acc : Acc) (F G : Den) : orF (jR acc F) G = jR acc (orF F G) := by
  cases acc with
  | none => rfl
  | some z => exact orF_assoc _ _ _
theorem tb_cmpBad {n e : Nat} {t : Int32} {g : Nat → Int32} {b : Nat → Nat} (hn : n ≤ 260) (tM : MTape t g n b) (ht : txt e b) (he : e ≤ n) (he2 : e ≤ 240) {m p o c w q : Nat} {x num : Int32} {W : List Nat} {sa wa : Nat → Int32} (hp : p ≤ e) (h1 : ¬ hN e b p = 33) (h2 : ¬ hN e b p = 40) (d : ∃ r, f_X12_readsCompared (nI p) (nI e) x num (nI o) (nI c) (nI W.length) g sa wa = some r ∧ r.1 = nI 0 ∧ r.2.2.1 = flt w q) : ∃ r, TBm e g (m + 1) p x num o c W sa wa = some r ∧ r.1 = nI 0 ∧ r.2.2.1 = flt w q := by
  obtain ⟨r, d1, d2, d3⟩ := d
  rw [tb_cmp hn tM ht he he2 hp h1 h2, d1, some_bind, if_pos d2]
  exact ⟨_, rfl, rfl, d3⟩
theorem conds_M {n e : Nat} {t : Int32} {g : Nat → Int32} {b : Nat → Nat} (hn : n ≤ 260) (tM : MTape t g n b) (ht : txt e b) (he : e ≤ n) (he2 : e ≤ 240) {it : It} {o p : Nat} {R : Res} (h : DD e b it o p R) : MMc e g b it o p R := by
  refine DD_rec (Q := fun it o p R => MMc e g b it o p R) h ?_ ?_ ?_ ?_ ?_ ?_ ?_ ?_ ?_ ?_ ?_ ?_ ?_ ?_ ?_ ?_ ?_ ?_ ?_ ?_ ?_ ?_ ?_ ?_ ?_ ?_ ?_ ?_ ?_ ?_ ?_ ?_ ?_ ?_ ?_ ?_ ?_
  · intros; exact True.intro
  · intros; exact True.intro
  · intros; exact True.intro
  · intros; exact True.intro
  · intros; exact True.intro
  · intros; exact True.intro
  · intros; exact True.intro
  · intros; exact True.intro
  · intros; exact True.intro
  · intros; exact True.intro
  · intros; exact True.intro
  · intros; exact True.intro
  · intros; exact True.intro
  · intros; exact True.intro
  · intros; exact True.intro
  · intros; exact True.intro
  · intros; exact True.intro
  · intros; exact True.intro
  · intro o p h ho'
    intro c x num W sa wa ho hp hc hw htg hs
    exact ⟨1, by omega, fun m => tb_deep hn tM ht he he2 hp h (Or.inl rfl) (by omega)⟩
  · intro o p w q h ho' d ih
    intro c x num W sa wa ho hp hc hw htg hs
    have hpe := sgn_eq h (by omega)
    obtain ⟨k, k1, k2⟩ := ih c x num (1048576 * 10 :: W) sa (upd wa W.length (nI (1048576 * 10))) (by omega) (by omega) (by omega) (by rw [List.length_cons]; omega) ⟨_, W, rfl, by omega, by omega⟩ (St_push hs (by omega))
    refine ⟨k + 1, by omega, fun m => ?_⟩
    dsimp only
    rw [← Nat.add_assoc, tb_open hn tM ht he he2 hp h (Or.inl ⟨rfl, rfl⟩) ho' (by omega)]
    exact k2 m
  · intro o p p' F h ho' d ih
    intro c x num W sa wa ho hp hc hw htg hs
    have hpe := sgn_eq h (by omega)
    obtain ⟨r1, r2, r3⟩ := DD_ok d hpe
    obtain ⟨k, j1, j2, num', c', sa', wa', k1, k2, k3, k4, k5, k6, k7, k8, k9⟩ := ih c x num (1048576 * 10 :: W) sa (upd wa W.length (nI (1048576 * 10))) (by omega) (by omega) (by omega) (by rw [List.length_cons]; omega) ⟨_, W, rfl, by omega, by omega⟩ (St_push hs (by omega))
    have hfu := @fu_gt 100 (by omega)
    obtain ⟨j1, rfl⟩ : ∃ k, j1 = k + 1 := ⟨j1 - 1, by omega⟩
    refine ⟨k + 1, j1, j2, num', c' + 1, _, wa', by omega, by omega, k3, fun m => ?_, k5.2.2, by omega, by omega, fun i hi => ?_, SegM_not (by omega) (segM_up k9) (upd_at _ _ _)⟩
    · rw [← Nat.add_assoc, tb_open hn tM ht he he2 hp h (Or.inl ⟨rfl, rfl⟩) ho' (by omega), k4 m, ep_not k5 (by omega) (by omega)]
    · rw [upd_ne _ _ (by omega)]
      exact k8 i hi
  · intro o p h ho'
    intro c x num W sa wa ho hp hc hw htg hs
    exact ⟨1, by omega, fun m => tb_deep hn tM ht he he2 hp h (Or.inr rfl) (by omega)⟩
  · intro o p w q h ho' d ih
    intro c x num W sa wa ho hp hc hw htg hs
    have hpe := sgn_eq h (by omega)
    obtain ⟨k, k1, k2⟩ := ih c c none x num (1048576 * 13 :: W) sa (upd wa W.length (nI (1048576 * 13))) (by omega) (by omega) (by omega) (by show (1048576 * 13 :: W).length ≤ p + 1; rw [List.length_cons]; omega) ⟨_, W, rfl, by omega, by omega⟩ (St_push hs (by omega)) rfl
    refine ⟨k + 1, by omega, fun m => ?_⟩
    dsimp only
    rw [← Nat.add_assoc, tb_open hn tM ht he he2 hp h (Or.inr ⟨rfl, rfl⟩) ho' (by omega)]
    exact k2 m
  · intro o p p' F h ho' d hnn ih
    intro c x num W sa wa ho hp hc hw htg hs
    have hpe := sgn_eq h (by omega)
    obtain ⟨r1, r2, r3⟩ := DD_ok d hpe
    obtain ⟨k, j2, num', c', sa', wa', accA, accO, k1, k2, k3, k4, k5, k6, k7, k8, k9, k10⟩ := ih c c none x num (1048576 * 13 :: W) sa (upd wa W.length (nI (1048576 * 13))) (by omega) (by omega) (by omega) (by show (1048576 * 13 :: W).length ≤ p + 1; rw [List.length_cons]; omega) ⟨_, W, rfl, by omega, by omega⟩ (St_push hs (by omega)) rfl
    have hfu := @fu_gt 1000 (by omega)
    obtain ⟨j2, rfl⟩ : ∃ k, j2 = k + 1 := ⟨j2 - 1, by omega⟩
    refine ⟨k + 1, by omega, fun m => ?_⟩
    dsimp only
    rw [← Nat.add_assoc, tb_open hn tM ht he he2 hp h (Or.inr ⟨rfl, rfl⟩) ho' (by omega)]
    have k3' := k3 m
    rw [show pO none ++ (1048576 * 13 :: W) = 1048576 * 13 :: W from rfl] at k3'
    rw [k3']
    exact pl_bad hn tM ht he he2 r2 k9 k10 hnn
  · intro o p p' F h ho' d hy ih
    intro c x num W sa wa ho hp hc hw htg hs
    have hpe := sgn_eq h (by omega)
    obtain ⟨r1, r2, r3⟩ := DD_ok d hpe
    have r1 : p + 1 + 1 ≤ p' := r1
    obtain ⟨k, j2, num', c', sa', wa', accA, accO, k1, k2, k3, k4, k5, k6, k7, k8, k9, k10⟩ := ih c c none x num (1048576 * 13 :: W) sa (upd wa W.length (nI (1048576 * 13))) (by omega) (by omega) (by omega) (by show (1048576 * 13 :: W).length ≤ p + 1; rw [List.length_cons]; omega) ⟨_, W, rfl, by omega, by omega⟩ (St_push hs (by omega)) rfl
    have hfu := @fu_gt 1000 (by omega)
    obtain ⟨j2, rfl⟩ : ∃ k, j2 = k + 1 := ⟨j2 - 1, by omega⟩
    obtain ⟨sa1, l1, l2, l3⟩ := land1 k8 k4 (by rw [List.length_cons]; omega) (by omega) ⟨_, W, rfl, by omega, by omega⟩
    rw [List.length_cons] at l1
    refine ⟨k + 1, fu, j2, num', c', sa1, wa', by omega, by omega, by omega, fun m => ?_, (St_app _ _ (St_app _ _ k4)).2.2, by omega, by omega, fun i hi => (l3 i (Or.inl hi)).trans (k7 i hi), l2⟩
    rw [← Nat.add_assoc, tb_open hn tM ht he he2 hp h (Or.inr ⟨rfl, rfl⟩) ho' (by omega)]
    have k3' := k3 m
    rw [show pO none ++ (1048576 * 13 :: W) = 1048576 * 13 :: W from rfl] at k3'
    rw [k3', pl_close hn tM ht he he2 r2 hy l1 (TG_len htg) (by omega)]
  · intro o p w q h1 h2 d ih
    intro c x num W sa wa ho hp hc hw htg hs
    have s1 := sum_MN hn tM ht he he2 d ho hp (x := x) (num := num) (sa := sa) hc hw (TG_TO htg (by omega)) hs
    exact ⟨1, by omega, fun m => tb_cmpBad hn tM ht he he2 hp h1 h2 (cmp_bad1 hn tM ht he he2 s1)⟩
  · intro o p p1 A h1 h2 d h ih
    intro c x num W sa wa ho hp hc hw htg hs
    obtain ⟨r1, r2, r3⟩ := DD_ok d hp
    obtain ⟨num1, c1, sa1, wa1, s1, s2, s3, s4, s5, s6⟩ := sum_MY hn tM ht he he2 d ho hp (x := x) (num := num) (sa := sa) hc hw (TG_TO htg (by omega)) hs
    exact ⟨1, by omega, fun m => tb_cmpBad hn tM ht he he2 hp h1 h2 (cmp_badS hn tM ht he he2 r2 s1 h)⟩
  · intro o p p1 w q A h1 h2 d h d2 ih ih2
    intro c x num W sa wa ho hp hc hw htg hs
    obtain ⟨r1, r2, r3⟩ := DD_ok d hp
    have r1 : p + 1 ≤ p1 := r1
    have hpe := sgn_in (cmpS_lt h)
    obtain ⟨num1, c1, sa1, wa1, s1, s2, s3, s4, s5, s6⟩ := sum_MY hn tM ht he he2 d ho hp (x := x) (num := num) (sa := sa) hc hw (TG_TO htg (by omega)) hs
    have t1 := sum_MN hn tM ht he he2 d2 ho hpe (c := c1) (x := x) (num := num1) (sa := sa1) (by omega) (by omega) (TG_TO htg (by omega)) s2
    exact ⟨1, by omega, fun m => tb_cmpBad hn tM ht he he2 hp h1 h2 (cmp_bad2 hn tM ht he he2 r2 s1 h t1)⟩
  · intro o p p1 p2 A B h1 h2 d h d2 ih ih2
    intro c x num W sa wa ho hp hc hw htg hs
    obtain ⟨r1, r2, r3⟩ := DD_ok d hp
    have r1 : p + 1 ≤ p1 := r1
    have hpe := sgn_in (cmpS_lt h)
    obtain ⟨u1, u2, u3⟩ := DD_ok d2 hpe
    have u1 : p1 + 1 + 1 ≤ p2 := u1
    obtain ⟨num1, c1, sa1, wa1, s1, s2, s3, s4, s5, s6⟩ := sum_MY hn tM ht he he2 d ho hp (x := x) (num := num) (sa := sa) hc hw (TG_TO htg (by omega)) hs
    obtain ⟨num2, c2, sa2, wa2, t1, t2, t3, t4, t5, t6⟩ := sum_MY hn tM ht he he2 d2 ho hpe (c := c1) (x := x) (num := num1) (sa := sa1) (by omega) (by omega) (TG_TO htg (by omega)) s2
    have hop : isOp (hN e b p1) := by unfold cmpS at h; unfold isOp; omega
    refine ⟨1, fu, fu, num2, c2 + 1, _, wa2, by omega, by omega, by omega, fun m => tb_cmpOK hn tM ht he he2 hp h1 h2 r2 s1 h t1 (by omega), t2, by omega, by omega, fun i hi => ?_, ?_⟩
    · rw [upd_ne _ _ (by omega), t5 i (by omega)]
      exact s5 i hi
    · exact SegM_bin (by unfold dF; omega) (by unfold dF; omega) (by omega) (SegM_congr s6 (fun q _ q2 => by rw [upd_ne _ _ (by omega)]; exact t5 q q2)) (segM_up t6) hop (upd_at _ _ _)
  · intro o p w q d ih
    intro a c acc x num W sa wa ho hp hc hw htg hs hpa
    exact ih c x num (pA acc ++ W) sa wa ho hp hc hw (TG_mono (TG_pA htg (PAc_lt hpa (by omega)).1) (by omega)) hs
  · intro o p p' F d h ih
    intro a c acc x num W sa wa ho hp hc hw htg hs hpa
    obtain ⟨r1, r2, r3⟩ := DD_ok d hp
    have htg2 := TG_pA htg (PAc_lt hpa (by omega)).1
    have hac := (PAc_lt hpa (by omega)).2
    obtain ⟨k, j1, j2, num', c', sa', wa', k1, k2, k3, k4, k5, k6, k7, k8, k9⟩ := ih c x num (pA acc ++ W) sa wa ho hp hc hw (TG_mono htg2 (by omega)) hs
    have hfu := @fu_gt 100 (by omega)
    obtain ⟨j1, rfl⟩ : ∃ k, j1 = k + 1 := ⟨j1 - 1, by omega⟩
    refine ⟨k, j2, num', c', sa', wa', acc, k1, k3, fun m => ?_, k5, k6, k7, fun i hi => k8 i (by omega), AP_of hpa k9 k8, h⟩
    rw [k4 m, ep_stop k5 (by omega) htg2 (by omega)]
  · intro o p p' w q F d h d2 ih ih2
    intro a c acc x num W sa wa ho hp hc hw htg hs hpa
    obtain ⟨r1, r2, r3⟩ := DD_ok d hp
    have r1 : p + 1 ≤ p' := r1
    have hpe := sgn_eq h (by omega)
    have htg2 := TG_pA htg (PAc_lt hpa (by omega)).1
    have hac := (PAc_lt hpa (by omega)).2
    have hwl : (pA acc).length + W.length ≤ p := by rw [List.length_append] at hw; exact hw
    obtain ⟨k, j1, j2, num', c', sa', wa', k1, k2, k3, k4, k5, k6, k7, k8, k9⟩ := ih c x num (pA acc ++ W) sa wa ho hp hc hw (TG_mono htg2 (by omega)) hs
    have hfu := @fu_gt 1000 (by omega)
    obtain ⟨j1, rfl⟩ : ∃ k, j1 = k + 1 := ⟨j1 - 1, by omega⟩
    obtain ⟨j2, rfl⟩ : ∃ k, j2 = k + 1 := ⟨j2 - 1, by omega⟩
    obtain ⟨sa1, l1, l2, l3⟩ := land0 (AP_of hpa k9 k8) k5 (by omega) (by omega) htg
    obtain ⟨l, n1, n2⟩ := ih2 a (c' + 1) (some (c', jA acc F)) x num' W (upd sa1 c' (nI (1048576 * 11 + 0))) (upd wa' W.length (nI (1048576 * 11 + c'))) ho (by omega) (by omega) (by show ((1048576 * 11 + c') :: W).length ≤ p' + 1; rw [List.length_cons]; omega) htg (St_push (St_app _ _ k5) (by omega)) ⟨rfl, upd_at _ _ _, segM_up l2, jA_B01 hpa (r3 trivial)⟩
    refine ⟨l + k, by omega, fun m => ?_⟩
    dsimp only
    rw [← Nat.add_assoc, k4 (m + l), ep_stop k5 (by omega) htg2 (by omega), pl_and hn tM ht he he2 r2 h l1 (by omega) (by omega)]
    exact n2 m
  · intro o p p' p2 F G d h d2 ih ih2
    intro a c acc x num W sa wa ho hp hc hw htg hs hpa
    obtain ⟨r1, r2, r3⟩ := DD_ok d hp
    have r1 : p + 1 ≤ p' := r1
    have hpe := sgn_eq h (by omega)
    have htg2 := TG_pA htg (PAc_lt hpa (by omega)).1
    have hac := (PAc_lt hpa (by omega)).2
    have hwl : (pA acc).length + W.length ≤ p := by rw [List.length_append] at hw; exact hw
    obtain ⟨k, j1, j2, num', c', sa', wa', k1, k2, k3, k4, k5, k6, k7, k8, k9⟩ := ih c x num (pA acc ++ W) sa wa ho hp hc hw (TG_mono htg2 (by omega)) hs
    have hfu := @fu_gt 1000 (by omega)
    obtain ⟨j1, rfl⟩ : ∃ k, j1 = k + 1 := ⟨j1 - 1, by omega⟩
    obtain ⟨j2, rfl⟩ : ∃ k, j2 = k + 1 := ⟨j2 - 1, by omega⟩
    obtain ⟨sa1, l1, l2, l3⟩ := land0 (AP_of hpa k9 k8) k5 (by omega) (by omega) htg
    obtain ⟨l, j3, num2, c2, sa2, wa2, acc2, n1, n2, n3, n4, n5, n6, n7, n8, n9⟩ := ih2 a (c' + 1) (some (c', jA acc F)) x num' W (upd sa1 c' (nI (1048576 * 11 + 0))) (upd wa' W.length (nI (1048576 * 11 + c'))) ho (by omega) (by omega) (by show ((1048576 * 11 + c') :: W).length ≤ p' + 1; rw [List.length_cons]; omega) htg (St_push (St_app _ _ k5) (by omega)) ⟨rfl, upd_at _ _ _, segM_up l2, jA_B01 hpa (r3 trivial)⟩
    refine ⟨l + k, j3, num2, c2, sa2, wa2, acc2, by omega, n2, fun m => ?_, n4, by omega, by omega, fun i hi => ?_, ?_, n9⟩
    · rw [← Nat.add_assoc, k4 (m + l), ep_stop k5 (by omega) htg2 (by omega), pl_and hn tM ht he he2 r2 h l1 (by omega) (by omega)]
      exact n3 m
    · rw [n7 i hi, upd_ne _ _ (by omega), l3 i (Or.inl hi)]
      exact k8 i (by omega)
    · rw [← jA_and]
      exact n8
  · intro o p w q d ih
    intro a c acc x num W sa wa ho hp hc hw htg hs hpa
    exact ih c c none x num (pO acc ++ W) sa wa ho hp hc hw (TG_pO htg (PAc_lt hpa (by omega)).1) hs rfl
  · intro o p p' F d h ih
    intro a c acc x num W sa wa ho hp hc hw htg hs hpa
    have htg2 := TG_pO htg (PAc_lt hpa (by omega)).1
    have hac := (PAc_lt hpa (by omega)).2
    obtain ⟨k, j2, num', c', sa', wa', accA, k1, k3, k4, k5, k6, k7, k8, k9, k10⟩ := ih c c none x num (pO acc ++ W) sa wa ho hp hc hw htg2 hs rfl
    exact ⟨k, j2, num', c', sa', wa', accA, acc, k1, k3, k4, k5, k6, k7, fun i hi => k8 i (by omega), OP_of hpa k9 k8, k10, h⟩
  · intro o p p' w q F d h d2 ih ih2
    intro a c acc x num W sa wa ho hp hc hw htg hs hpa
    obtain ⟨r1, r2, r3⟩ := DD_ok d hp
    have r1 : p + 1 ≤ p' := r1
    have hpe := sgn_eq h (by omega)
    have htg2 := TG_pO htg (PAc_lt hpa (by omega)).1
    have hac := (PAc_lt hpa (by omega)).2
    have hwl : (pO acc).length + W.length ≤ p := by rw [List.length_append] at hw; exact hw
    obtain ⟨k, j2, num', c', sa', wa', accA, k1, k3, k4, k5, k6, k7, k8, k9, k10⟩ := ih c c none x num (pO acc ++ W) sa wa ho hp hc hw htg2 hs rfl
    have hfu := @fu_gt 1000 (by omega)
    obtain ⟨j2, rfl⟩ : ∃ k, j2 = k + 1 := ⟨j2 - 1, by omega⟩
    obtain ⟨sa1, l1, l2, l3⟩ := land1 (OP_of hpa k9 k8) k5 (by omega) (by omega) htg
    obtain ⟨l, n1, n2⟩ := ih2 a (c' + 1) (some (c', jR acc F)) x num' W (upd sa1 c' (nI (1048576 * 12 + 0))) (upd wa' W.length (nI (1048576 * 12 + c'))) ho (by omega) (by omega) (by show ((1048576 * 12 + c') :: W).length ≤ p' + 1; rw [List.length_cons]; omega) htg (St_push (St_app _ _ (St_app _ _ k5)) (by omega)) ⟨rfl, upd_at _ _ _, segM_up l2, jR_B01 hpa (r3 trivial)⟩
    refine ⟨l + k, by omega, fun m => ?_⟩
    dsimp only
    have k4' := k4 (m + l)
    rw [show pA none ++ (pO acc ++ W) = pO acc ++ W from rfl] at k4'
    rw [← Nat.add_assoc, k4', pl_or hn tM ht he he2 r2 h l1 (by omega) (by omega)]
    exact n2 m
  · intro o p p' p2 F G d h d2 ih ih2
    intro a c acc x num W sa wa ho hp hc hw htg hs hpa
    obtain ⟨r1, r2, r3⟩ := DD_ok d hp
    have r1 : p + 1 ≤ p' := r1
    have hpe := sgn_eq h (by omega)
    have htg2 := TG_pO htg (PAc_lt hpa (by omega)).1
    have hac := (PAc_lt hpa (by omega)).2
    have hwl : (pO acc).length + W.length ≤ p := by rw [List.length_append] at hw; exact hw
    obtain ⟨k, j2, num', c', sa', wa', accA, k1, k3, k4, k5, k6, k7, k8, k9, k10⟩ := ih c c none x num (pO acc ++ W) sa wa ho hp hc hw htg2 hs rfl
    have hfu := @fu_gt 1000 (by omega)
    obtain ⟨j2, rfl⟩ : ∃ k, j2 = k + 1 := ⟨j2 - 1, by omega⟩
    obtain ⟨sa1, l1, l2, l3⟩ := land1 (OP_of hpa k9 k8) k5 (by omega) (by omega) htg
    obtain ⟨l, j3, num2, c2, sa2, wa2, acc2, acc3, n1, n2, n3, n4, n5, n6, n7, n8, n9⟩ := ih2 a (c' + 1) (some (c', jR acc F)) x num' W (upd sa1 c' (nI (1048576 * 12 + 0))) (upd wa' W.length (nI (1048576 * 12 + c'))) ho (by omega) (by omega) (by show ((1048576 * 12 + c') :: W).length ≤ p' + 1; rw [List.length_cons]; omega) htg (St_push (St_app _ _ (St_app _ _ k5)) (by omega)) ⟨rfl, upd_at _ _ _, segM_up l2, jR_B01 hpa (r3 trivial)⟩
    refine ⟨l + k, j3, num2, c2, sa2, wa2, acc2, acc3, by omega, n2, fun m => ?_, n4, by omega, by omega, fun i hi => ?_, ?_, n9⟩
    · have k4' := k4 (m + l)
      rw [show pA none ++ (pO acc ++ W) = pO acc ++ W from rfl] at k4'
      rw [← Nat.add_assoc, k4', pl_or hn tM ht he he2 r2 h l1 (by omega) (by omega)]
      exact n3 m
    · rw [n7 i hi, upd_ne _ _ (by omega), l3 i (Or.inl hi)]
      exact k8 i (by omega)
    · rw [← jR_or]
      exact n8
