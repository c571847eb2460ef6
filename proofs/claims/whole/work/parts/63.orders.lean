/-! ORDERS: both sides -/
theorem lp_run0 {S β : Type} {body : (S → Option β) → S → Option β} {s0 : S} (st : Nat → S) (N : Nat) (res : Option β) (h0 : s0 = st 0) (hs : ∀ (go : S → Option β) (k : Nat), k < N → body go (st k) = go (st (k + 1))) (he : ∀ go : S → Option β, body go (st N) = res) {n : Nat} (hn : N < n) : lp body n s0 = res := by rw [h0]; exact lp_run st N res hs he hn
def mixN (n : Nat) (F G : Nat → Int32) : Nat → Int32 := fun i => if i < n then F i else G i
theorem mix_0 (F G : Nat → Int32) : mixN 0 F G = G := by funext i; exact if_neg (by omega)
theorem mix_s (k : Nat) (F G : Nat → Int32) : upd (mixN k F G) k (F k) = mixN (k + 1) F G := by
  funext i
  unfold upd mixN
  by_cases h : i = k
  · rw [if_pos h, if_pos (by omega), h]
  · rw [if_neg h]
    by_cases h2 : i < k
    · rw [if_pos h2, if_pos (by omega)]
    · rw [if_neg h2, if_neg (by omega)]
theorem mix_lt {n i : Nat} {F G : Nat → Int32} (h : i < n) : mixN n F G i = F i := if_pos h
theorem doorsAside_M (told barred wt wb : Int32) (pr one oth wa wp wo wot ww : Nat → Int32) : f_X12_putsDoorsAside told barred wt wb pr one oth wa wp wo wot ww = some (told, barred, mixN 6 pr wp, mixN 24 one wo, mixN 24 oth wot, mixN 24 wa ww) := by
  unfold f_X12_putsDoorsAside L_X12_putsDoorsAside_18
  refine lp_run0 (fun k => (nI k, mixN k pr wp)) 6 _ (by show _ = (nI 0, mixN 0 pr wp); rw [mix_0]; rfl) ?_ ?_ (fu_gt (by omega))
  · intro go k hk
    have q : (nI 6 ≤ nI k) = False := by rw [le_nI (by omega) (by omega)]; exact eq_false (by omega)
    simp (disch := omega) only [ltz, q, ↓reduceIte, ↓some_bind, ↓nm_eq, ↓jn_eq, ↓wr_nI, ↓rd_nI, ↓gb0, ↓gb1, n10, n00, mix_s, add_nI]
  · intro go
    have q : (nI 6 ≤ nI 6) = True := by rw [le_nI (by omega) (by omega)]; exact eq_true (by omega)
    simp only [ltz, q, ↓reduceIte]
    unfold L_X12_putsDoorsAside_44
    refine lp_run0 (fun k => (nI k, mixN k one wo, mixN k oth wot, mixN k wa ww)) 24 _ (by show _ = (nI 0, mixN 0 one wo, mixN 0 oth wot, mixN 0 wa ww); rw [mix_0, mix_0, mix_0]) ?_ ?_ (fu_gt (by omega))
    · intro go k hk
      have q : (nI 24 ≤ nI k) = False := by rw [le_nI (by omega) (by omega)]; exact eq_false (by omega)
      simp (disch := omega) only [ltz, q, ↓reduceIte, ↓some_bind, ↓nm_eq, ↓jn_eq, ↓wr_nI, ↓rd_nI, ↓gb0, ↓gb1, n10, n00, mix_s, add_nI]
    · intro go
      have q : (nI 24 ≤ nI 24) = True := by rw [le_nI (by omega) (by omega)]; exact eq_true (by omega)
      simp only [ltz, q, ↓reduceIte]
theorem doorsBack_M (told barred wt wb : Int32) (pr one oth wa wp wo wot ww : Nat → Int32) : f_X12_putsDoorsBack told barred wt wb pr one oth wa wp wo wot ww = some (wt, wb, mixN 6 wp pr, mixN 24 wo one, mixN 24 wot oth, mixN 24 ww wa) := by
  unfold f_X12_putsDoorsBack L_X12_putsDoorsBack_18
  refine lp_run0 (fun k => (nI k, mixN k wp pr)) 6 _ (by show _ = (nI 0, mixN 0 wp pr); rw [mix_0]; rfl) ?_ ?_ (fu_gt (by omega))
  · intro go k hk
    have q : (nI 6 ≤ nI k) = False := by rw [le_nI (by omega) (by omega)]; exact eq_false (by omega)
    simp (disch := omega) only [ltz, q, ↓reduceIte, ↓some_bind, ↓nm_eq, ↓jn_eq, ↓wr_nI, ↓rd_nI, ↓gb0, ↓gb1, n10, n00, mix_s, add_nI]
  · intro go
    have q : (nI 6 ≤ nI 6) = True := by rw [le_nI (by omega) (by omega)]; exact eq_true (by omega)
    simp only [ltz, q, ↓reduceIte]
    unfold L_X12_putsDoorsBack_44
    refine lp_run0 (fun k => (nI k, mixN k wo one, mixN k wot oth, mixN k ww wa)) 24 _ (by show _ = (nI 0, mixN 0 wo one, mixN 0 wot oth, mixN 0 ww wa); rw [mix_0, mix_0, mix_0]) ?_ ?_ (fu_gt (by omega))
    · intro go k hk
      have q : (nI 24 ≤ nI k) = False := by rw [le_nI (by omega) (by omega)]; exact eq_false (by omega)
      simp (disch := omega) only [ltz, q, ↓reduceIte, ↓some_bind, ↓nm_eq, ↓jn_eq, ↓wr_nI, ↓rd_nI, ↓gb0, ↓gb1, n10, n00, mix_s, add_nI]
    · intro go
      have q : (nI 24 ≤ nI 24) = True := by rw [le_nI (by omega) (by omega)]; exact eq_true (by omega)
      simp only [ltz, q, ↓reduceIte]
theorem B_orders {n : Nat} {size taped : Int32} {f g : Nat → Int32} {b : Nat → Nat} {T : TS} {D : DS} {se sp sf ol oto : Int32} {os onu oo oot ov : Nat → Int32} {ctold round x : Int32} {rust rooms hair pins now : Nat → Int32} {dtold dbar dtold' dbar' : Int32} {one other wards fits bent one' other' wards' prongs : Nat → Int32} {pl le fa nu cm sm li wt wb : Int32} {aside wp wo wot ww : Nat → Int32} (tC : CTape size f n b) (tM : MTape taped g n b) (hC : CTown ctold round x rust rooms hair pins T) (hM : MTown now T) (hT : WTown T) (dC : CDoors dtold dbar one other wards fits bent D) (dM : MDoors dtold' dbar' one' other' wards' prongs D) (hW : WDoors D) (x1 : Int32) :
    ∃ r r' n' T' D', fo_X11_orders size f se sp sf ol oto os onu oo oot ov dtold dbar one other wards fits bent rust x1 = some r ∧ f_X12_orders dtold' dbar' taped pl le fa nu cm sm li wt wb now aside prongs one' other' wards' wp wo wot ww g x1 = some r' ∧ r.1 = r'.1 ∧ r.2.1 = nI n' ∧ r'.2.2.2.1 = nI n' ∧ n' ≤ n ∧
      CDoors r.2.2.2.2.2.2.2.2.2.2.2.2.1 r.2.2.2.2.2.2.2.2.2.2.2.2.2.1 r.2.2.2.2.2.2.2.2.2.2.2.2.2.2.1 r.2.2.2.2.2.2.2.2.2.2.2.2.2.2.2.1 r.2.2.2.2.2.2.2.2.2.2.2.2.2.2.2.2.1 r.2.2.2.2.2.2.2.2.2.2.2.2.2.2.2.2.2.1 r.2.2.2.2.2.2.2.2.2.2.2.2.2.2.2.2.2.2.1 D' ∧ CTown ctold round x r.2.2.2.2.2.2.2.2.2.2.2.2.2.2.2.2.2.2.2 rooms hair pins T' ∧
      MDoors r'.2.1 r'.2.2.1 r'.2.2.2.2.2.2.2.2.2.2.2.2.2.2.2.2.1 r'.2.2.2.2.2.2.2.2.2.2.2.2.2.2.2.2.2.1 r'.2.2.2.2.2.2.2.2.2.2.2.2.2.2.2.2.2.2.1 r'.2.2.2.2.2.2.2.2.2.2.2.2.2.2.2.1 D' ∧ MTown r'.2.2.2.2.2.2.2.2.2.2.2.2.2.1 T' ∧ WDoors D' ∧ WTown T' := by
  have tC0 := tC
  have tM0 := tM
  have hC0 := hC
  have hM0 := hM
  have dC0 := dC
  have dM0 := dM
  obtain ⟨t1, rfl, t2⟩ := tC
  obtain ⟨rfl, t3⟩ := tM
  unfold fo_X11_orders f_X12_orders fo_X7_open f_X8_clear f_X12_beginsText
  simp only [ltz]
  rcases in01 x1 1 120 (by omega) (by omega) with ⟨e1, e2⟩ | ⟨e, he1, he2, rfl, e1, e2⟩
  · simp only [e1, e2, some_bind, n00, ↓reduceIte]
    exact ⟨_, _, n, T, D, rfl, rfl, rfl, rfl, rfl, Nat.le_refl _, dC0, hC0, dM0, hM0, hW, hT⟩
  rcases Nat.lt_or_ge n e with hen | hen
  · have q : (nI e ≤ nI n) = False := by rw [le_nI (by omega) (by omega)]; exact eq_false (by omega)
    simp only [e1, e2, some_bind, n10, q, ↓reduceIte]
    exact ⟨_, _, n, T, D, rfl, rfl, rfl, rfl, rfl, Nat.le_refl _, dC0, hC0, dM0, hM0, hW, hT⟩
  have q : (nI e ≤ nI n) = True := by rw [le_nI (by omega) (by omega)]; exact eq_true hen
  have ht : txt e b := ⟨by omega, fun i hi => (t2 i (by omega)).2⟩
  obtain ⟨rfl, rfl, c3, c4, c5, c6, c7⟩ := dC
  obtain ⟨rfl, rfl, m3, m4, m5, m6⟩ := dM
  simp only [e1, e2, ↓some_bind, n10, q, ↓reduceIte, copies_M, doorsAside_M]
  unfold fo_X4_read
  simp only [ltz]
  generalize hk0 : (fun s8 : Int32 × Int32 × Int32 × Int32 × Int32 × Int32 × Int32 × (Nat → Int32) × (Nat → Int32) × (Nat → Int32) × (Nat → Int32) × (Nat → Int32) => ite (s8.1 = nI 0) _ _) = k0
  have key := lines_ok k0 tC0 tM0 ht hen 16 0 0 D T fa nu os onu oo oot ov now prongs one' other' wards' fu fu rfl (by omega) hW ⟨rfl, rfl, m3, m4, m5, m6⟩ hM0 (fu_gt (by omega)) (fu_gt (by omega)) (a1 := nI n) (a2 := nI 0) (a3 := nI 0) (a4 := nI (dt D)) (a5 := nI (db D)) (a6 := fun i => if i < 166 then now i else aside i) (a7 := mixN 6 prongs wp) (a8 := mixN 24 one' wo) (a9 := mixN 24 other' wot) (a10 := mixN 24 wards' ww)
  have key2 : ∀ K : Int32 × Int32 × Int32 × Int32 × Int32 × Int32 × Int32 × (Nat → Int32) × (Nat → Int32) × (Nat → Int32) × (Nat → Int32) × (Nat → Int32) → Option (Int32 × Int32 × Int32 × Int32 × Int32 × Int32 × Int32 × Int32 × Int32 × Int32 × Int32 × Int32 × Int32 × (Nat → Int32) × (Nat → Int32) × (Nat → Int32) × (Nat → Int32) × (Nat → Int32) × (Nat → Int32) × (Nat → Int32) × (Nat → Int32) × (Nat → Int32) × (Nat → Int32)), ((f_X12_readsLine (nI (dt D)) (nI (db D)) (nI 0) (nI e) fa nu (nI 0) now prongs one' other' wards' g).bind fun u => K (u.1, u.2.1, u.2.2.1, u.2.2.2.1, u.2.2.2.2.1, u.2.2.2.2.2.1, u.2.2.2.2.2.2.1, u.2.2.2.2.2.2.2.1, u.2.2.2.2.2.2.2.2.1, u.2.2.2.2.2.2.2.2.2.1, u.2.2.2.2.2.2.2.2.2.2.1, u.2.2.2.2.2.2.2.2.2.2.2)) = ((f_X12_readsLine (nI (dt D)) (nI (db D)) (nI 0) (nI e) fa nu (nI 0) now prongs one' other' wards' g).bind fun u => if u.1 = nI 0 then K (nI 0, u.2.1, u.2.2.1, u.2.2.2.1, u.2.2.2.2.1, u.2.2.2.2.2.1, u.2.2.2.2.2.2.1, u.2.2.2.2.2.2.2.1, u.2.2.2.2.2.2.2.2.1, u.2.2.2.2.2.2.2.2.2.1, u.2.2.2.2.2.2.2.2.2.2.1, u.2.2.2.2.2.2.2.2.2.2.2) else K (nI 1, u.2.1, u.2.2.1, u.2.2.2.1, u.2.2.2.2.1, u.2.2.2.2.2.1, u.2.2.2.2.2.2.1, u.2.2.2.2.2.2.2.1, u.2.2.2.2.2.2.2.2.1, u.2.2.2.2.2.2.2.2.2.1, u.2.2.2.2.2.2.2.2.2.2.1, u.2.2.2.2.2.2.2.2.2.2.2)) := by
    intro K
    rcases line_ok (x := fa) (num := nu) (sorts := os) (numbers := onu) (ones := oo) (others := oot) (values := ov) (L := 0) (p := 0) tC0 tM0 ht hen (by omega) (by omega) hW ⟨rfl, rfl, m3, m4, m5, m6⟩ hM0 with ⟨w, q, r, r', C, M, h1, h2, h3, E1, E2, E3⟩ | ⟨c, p', so', nu', on', ot', va', r', C, hA, hO, M, E1, E2, E3, E4, E5, E6, E7, E8, E9, E10⟩
    · rw [M, some_bind, some_bind, E2, if_pos rfl]
    · rw [M, some_bind, some_bind, E1, if_neg (by decide)]
  rw [key2]
  rcases key with ⟨w, q, r, s8, h1, h2, h3, h4, h5, h6, h7, h8⟩ | ⟨l, so2, nu2, on2, ot2, va2, p2, s8, to2, h1, h2, h3, h4, h5, h6, h7, h8, h9, h10⟩
  · obtain ⟨r1, r2, r3, r4, r5, r6, r7, r8, r9⟩ := r
    obtain ⟨y1, y2, y3, y4, y5, y6, y7, y8, y9, y10, y11, y12⟩ := s8
    dsimp only at h5 h7 h8
    subst h5; subst h7; subst h8
    have hf := flt_ne w q h1 (by omega) (by omega)
    rw [h6, h4, ← hk0]
    simp only [↓some_bind, ↓bind_of (sound_n hf), ↓reduceIte, copies_M, doorsBack_M]
    refine ⟨_, _, 0, T, D, rfl, rfl, rfl, rfl, rfl, Nat.zero_le _, dC0, hC0, ⟨rfl, rfl, ?_, ?_, ?_, ?_⟩, ?_, hW, hT⟩
    · intro d hd; exact (mix_lt hd).trans ((mix_lt hd).trans (m3 d hd))
    · intro d hd; exact (mix_lt hd).trans ((mix_lt hd).trans (m4 d hd))
    · intro d hd; exact (mix_lt hd).trans ((mix_lt hd).trans (m5 d hd))
    · intro d hd; exact (mix_lt hd).trans ((mix_lt hd).trans (m6 d hd))
    · exact MTown_congr (fun i hi => (if_pos hi).trans (if_pos hi)) hM0
  · obtain ⟨y1, y2, y3, y4, y5, y6, y7, y8, y9, y10, y11, y12⟩ := s8
    dsimp only at h7 h8 h9 h10
    subst h7; subst h8
    have hW2 := W_ldD l D hW h5
    obtain ⟨to3, ba3, on3, ot3, wa3, be3, ru3, K1, K2, K3⟩ := carry_ok (fits := fits) (k0 := fun s17 => (f_X0_fitAll s17.2.2.2.2.1 fits s17.2.2.2.2.2.1).bind fun u18 => some (s17.1, s17.2.1, s17.2.2.1, s17.2.2.2.1, s17.2.2.2.2.1, u18, s17.2.2.2.2.2.1, s17.2.2.2.2.2.2)) l 0 D T (nI (dt D)) (nI (db D)) one other wards bent rust fu rfl (by omega) hW h5 h3 ⟨rfl, rfl, c3, c4, c5, c7⟩ hC0.2.2.2.1 (fu_gt (by omega))
    obtain ⟨k1, k2, k3, k4, k5, k6⟩ := K2
    have hcar : f_X4_carryOut (nI (0 + l.length)) so2 nu2 on2 ot2 va2 (nI (dt D)) (nI (db D)) one other wards fits bent rust = some (to3, ba3, on3, ot3, wa3, (fun i => if i < 24 then nI (fitS (ldD l D) i) else fits i), be3, ru3) := by
      unfold f_X4_carryOut
      refine K1.trans ?_
      rw [fitAll_C k5 k6 hW2, some_bind]
    rw [h6, h2, ← hk0]
    simp only [↓some_bind, ↓bind_of sound_0, n10, ↓reduceIte, ↓bind_of hcar]
    obtain ⟨l1, l2, l3, l4, l5, l6⟩ := ldT_eq l T
    obtain ⟨w1, w2, w3, w4, w5, w6, w7⟩ := hC0
    refine ⟨_, _, 0, ldT l T, ldD l D, rfl, rfl, rfl, rfl, rfl, Nat.zero_le _, ⟨k1, k2, k3, k4, k5, fun d hd _ => if_pos hd, k6⟩, ⟨?_, ?_, ?_, K3, ?_, ?_, ?_⟩, h10, h9, hW2, W_ldT l T hT⟩
    · rw [l1]; exact w1
    · rw [l2]; exact w2
    · rw [l3]; exact w3
    · rw [l4]; exact w5
    · rw [l5]; exact w6
    · rw [l6]; exact w7
