/-! the readers' methods of the face, as they are now -/
theorem tapeZ {n : Nat} {size : Int32} {f : Nat → Int32} {b : Nat → Nat} (tC : CTape size f n b) : size ≤ 260 := by
  have h1 := tC.1
  rw [tC.2.1]
  show nI n ≤ nI 260
  rw [le_nI (by omega) (by omega)]
  exact h1
theorem open_N {size : Int32} {f : Nat → Int32} (hz : size ≤ 260) (se sp sn sf x : Int32) : f_X7_open se sp sn sf size f x = some (x, 0, sgnAt x 0 size f, 0) := by
  unfold f_X7_open
  rw [sim_step hz, some_bind, show (-1 : Int32) + 1 = 0 by decide]
theorem top_orders {tape_size : Int32} {tape_bytes : (Nat → Int32)} {script_end : Int32} {script_place : Int32} {script_sign : Int32} {script_fault : Int32} {ordersReader_lines : Int32} {ordersReader_told : Int32} {ordersReader_sorts : (Nat → Int32)} {ordersReader_numbers : (Nat → Int32)} {ordersReader_ones : (Nat → Int32)} {ordersReader_others : (Nat → Int32)} {ordersReader_values : (Nat → Int32)} {doors_told : Int32} {doors_barred : Int32} {doors_one : (Nat → Int32)} {doors_other : (Nat → Int32)} {doors_wards : (Nat → Int32)} {doors_fits : (Nat → Int32)} {doors_bent : (Nat → Int32)} {town_rust : (Nat → Int32)} {x1 : Int32} (hz : tape_size ≤ 260) {r : Int32 × Int32 × Int32 × Int32 × Int32 × Int32 × Int32 × (Nat → Int32) × (Nat → Int32) × (Nat → Int32) × (Nat → Int32) × (Nat → Int32) × Int32 × Int32 × (Nat → Int32) × (Nat → Int32) × (Nat → Int32) × (Nat → Int32) × (Nat → Int32) × (Nat → Int32)} (h : fo_X11_orders tape_size tape_bytes script_end script_place script_fault ordersReader_lines ordersReader_told ordersReader_sorts ordersReader_numbers ordersReader_ones ordersReader_others ordersReader_values doors_told doors_barred doors_one doors_other doors_wards doors_fits doors_bent town_rust x1 = some r) : ∃ z, f_X11_orders tape_size tape_bytes script_end script_place script_sign script_fault ordersReader_lines ordersReader_told ordersReader_sorts ordersReader_numbers ordersReader_ones ordersReader_others ordersReader_values doors_told doors_barred doors_one doors_other doors_wards doors_fits doors_bent town_rust x1 = some (r.1, r.2.1, r.2.2.1, r.2.2.2.1, z, r.2.2.2.2.1, r.2.2.2.2.2.1, r.2.2.2.2.2.2.1, r.2.2.2.2.2.2.2.1, r.2.2.2.2.2.2.2.2.1, r.2.2.2.2.2.2.2.2.2.1, r.2.2.2.2.2.2.2.2.2.2.1, r.2.2.2.2.2.2.2.2.2.2.2.1, r.2.2.2.2.2.2.2.2.2.2.2.2.1, r.2.2.2.2.2.2.2.2.2.2.2.2.2.1, r.2.2.2.2.2.2.2.2.2.2.2.2.2.2.1, r.2.2.2.2.2.2.2.2.2.2.2.2.2.2.2.1, r.2.2.2.2.2.2.2.2.2.2.2.2.2.2.2.2.1, r.2.2.2.2.2.2.2.2.2.2.2.2.2.2.2.2.2.1, r.2.2.2.2.2.2.2.2.2.2.2.2.2.2.2.2.2.2.1, r.2.2.2.2.2.2.2.2.2.2.2.2.2.2.2.2.2.2.2) := by
  unfold fo_X11_orders at h
  unfold f_X11_orders
  obtain ⟨u0, h0, h⟩ := bs h
  rw [h0, some_bind]
  by_cases c0 : u0 = 0
  · rw [if_pos c0] at h ⊢
    cases h
    exact ⟨_, rfl⟩
  rw [if_neg c0] at h ⊢
  by_cases d : x1 ≤ tape_size
  · rw [if_pos d] at h ⊢
    have o : fo_X7_open script_end script_place script_fault x1 = some (x1, 0, 0) := rfl
    rw [o, some_bind] at h
    rw [open_N hz, some_bind]
    dsimp only at h ⊢
    obtain ⟨v1, k1, h⟩ := bs h
    rw [sm_f_X4_read hz, k1, sim_some, some_bind]
    dsimp only
    obtain ⟨v2, k2, h⟩ := bs h
    rw [k2, some_bind]
    obtain ⟨v3, k3, h⟩ := bs h
    rw [k3, some_bind]
    by_cases c : v3 = 0
    · rw [if_pos c] at h ⊢
      cases h
      exact ⟨_, rfl⟩
    rw [if_neg c] at h ⊢
    obtain ⟨w0, l0, h⟩ := bs h
    rw [l0, some_bind]
    cases h
    exact ⟨_, rfl⟩
  · rw [if_neg d] at h ⊢
    cases h
    exact ⟨_, rfl⟩
theorem top_hair {tape_size : Int32} {tape_bytes : (Nat → Int32)} {script_end : Int32} {script_place : Int32} {script_sign : Int32} {script_fault : Int32} {hairReader_pins : (Nat → Int32)} {hairReader_ahead : (Nat → Int32)} {town_told : Int32} {town_hair : (Nat → Int32)} {town_pins : (Nat → Int32)} {x1 : Int32} {x2 : Int32} (hz : tape_size ≤ 260) {r : Int32 × Int32 × Int32 × Int32 × Int32 × (Nat → Int32) × (Nat → Int32) × (Nat → Int32) × (Nat → Int32)} (h : fo_X11_hair tape_size tape_bytes script_end script_place script_fault hairReader_pins hairReader_ahead town_told town_hair town_pins x1 x2 = some r) : ∃ z, f_X11_hair tape_size tape_bytes script_end script_place script_sign script_fault hairReader_pins hairReader_ahead town_told town_hair town_pins x1 x2 = some (r.1, r.2.1, r.2.2.1, r.2.2.2.1, z, r.2.2.2.2.1, r.2.2.2.2.2.1, r.2.2.2.2.2.2.1, r.2.2.2.2.2.2.2.1, r.2.2.2.2.2.2.2.2) := by
  unfold fo_X11_hair at h
  unfold f_X11_hair
  obtain ⟨u0, h0, h⟩ := bs h
  rw [h0, some_bind]
  by_cases c0 : u0 = 0
  · rw [if_pos c0] at h ⊢
    cases h
    exact ⟨_, rfl⟩
  rw [if_neg c0] at h ⊢
  obtain ⟨u1, h1, h⟩ := bs h
  rw [h1, some_bind]
  by_cases c1 : u1 = 0
  · rw [if_pos c1] at h ⊢
    cases h
    exact ⟨_, rfl⟩
  rw [if_neg c1] at h ⊢
  by_cases d : x2 ≤ tape_size
  · rw [if_pos d] at h ⊢
    have o : fo_X7_open script_end script_place script_fault x2 = some (x2, 0, 0) := rfl
    rw [o, some_bind] at h
    rw [open_N hz, some_bind]
    dsimp only at h ⊢
    obtain ⟨v1, k1, h⟩ := bs h
    rw [sm_f_X1_read hz, k1, sim_some, some_bind]
    dsimp only
    obtain ⟨v2, k2, h⟩ := bs h
    rw [k2, some_bind]
    obtain ⟨v3, k3, h⟩ := bs h
    rw [k3, some_bind]
    by_cases c : v3 = 0
    · rw [if_pos c] at h ⊢
      cases h
      exact ⟨_, rfl⟩
    rw [if_neg c] at h ⊢
    obtain ⟨w0, l0, h⟩ := bs h
    rw [l0, some_bind]
    obtain ⟨w1, l1, h⟩ := bs h
    rw [l1, some_bind]
    cases h
    exact ⟨_, rfl⟩
  · rw [if_neg d] at h ⊢
    cases h
    exact ⟨_, rfl⟩
theorem top_law {tape_size : Int32} {tape_bytes : (Nat → Int32)} {script_end : Int32} {script_place : Int32} {script_sign : Int32} {script_fault : Int32} {lawSpare_size : Int32} {lawSpare_rules : Int32} {lawSpare_signs : (Nat → Int32)} {lawSpare_values : (Nat → Int32)} {lawSpare_letters : (Nat → Int32)} {lawSpare_amounts : (Nat → Int32)} {lawSpare_conditions : (Nat → Int32)} {lawSpare_ends : (Nat → Int32)} {x1 : Int32} (hz : tape_size ≤ 260) {r : Int32 × Int32 × Int32 × Int32 × Int32 × Int32 × Int32 × (Nat → Int32) × (Nat → Int32) × (Nat → Int32) × (Nat → Int32) × (Nat → Int32) × (Nat → Int32) × Nat} (h : fo_X11_law tape_size tape_bytes script_end script_place script_fault lawSpare_size lawSpare_rules lawSpare_signs lawSpare_values lawSpare_letters lawSpare_amounts lawSpare_conditions lawSpare_ends x1 = some r) : ∃ z, f_X11_law tape_size tape_bytes script_end script_place script_sign script_fault lawSpare_size lawSpare_rules lawSpare_signs lawSpare_values lawSpare_letters lawSpare_amounts lawSpare_conditions lawSpare_ends x1 = some (r.1, r.2.1, r.2.2.1, r.2.2.2.1, z, r.2.2.2.2.1, r.2.2.2.2.2.1, r.2.2.2.2.2.2.1, r.2.2.2.2.2.2.2.1, r.2.2.2.2.2.2.2.2.1, r.2.2.2.2.2.2.2.2.2.1, r.2.2.2.2.2.2.2.2.2.2.1, r.2.2.2.2.2.2.2.2.2.2.2.1, r.2.2.2.2.2.2.2.2.2.2.2.2.1, r.2.2.2.2.2.2.2.2.2.2.2.2.2) := by
  unfold fo_X11_law at h
  unfold f_X11_law
  obtain ⟨u0, h0, h⟩ := bs h
  rw [h0, some_bind]
  by_cases c0 : u0 = 0
  · rw [if_pos c0] at h ⊢
    cases h
    exact ⟨_, rfl⟩
  rw [if_neg c0] at h ⊢
  by_cases d : x1 ≤ tape_size
  · rw [if_pos d] at h ⊢
    have o : fo_X7_open script_end script_place script_fault x1 = some (x1, 0, 0) := rfl
    rw [o, some_bind] at h
    rw [open_N hz, some_bind]
    dsimp only at h ⊢
    obtain ⟨v1, k1, h⟩ := bs h
    rw [sm_f_X3_read hz, k1, sim_some, some_bind]
    dsimp only
    obtain ⟨v2, k2, h⟩ := bs h
    rw [k2, some_bind]
    obtain ⟨v3, k3, h⟩ := bs h
    rw [k3, some_bind]
    by_cases c : v3 = 0
    · rw [if_pos c] at h ⊢
      cases h
      exact ⟨_, rfl⟩
    rw [if_neg c] at h ⊢
    cases h
    exact ⟨_, rfl⟩
  · rw [if_neg d] at h ⊢
    cases h
    exact ⟨_, rfl⟩
theorem B_ordersN {n : Nat} {size taped : Int32} {f g : Nat → Int32} {b : Nat → Nat} {T : TS} {D : DS} {sn se sp sf ol oto : Int32} {os onu oo oot ov : Nat → Int32} {ctold round x : Int32} {rust rooms hair pins now : Nat → Int32} {dtold dbar dtold' dbar' : Int32} {one other wards fits bent one' other' wards' prongs : Nat → Int32} {pl le fa nu cm sm li wt wb : Int32} {aside wp wo wot ww : Nat → Int32} (tC : CTape size f n b) (tM : MTape taped g n b) (hC : CTown ctold round x rust rooms hair pins T) (hM : MTown now T) (hT : WTown T) (dC : CDoors dtold dbar one other wards fits bent D) (dM : MDoors dtold' dbar' one' other' wards' prongs D) (hW : WDoors D) (x1 : Int32) :
    ∃ r r' n' T' D', f_X11_orders size f se sp sn sf ol oto os onu oo oot ov dtold dbar one other wards fits bent rust x1 = some r ∧ f_X12_orders dtold' dbar' taped pl le fa nu cm sm li wt wb now aside prongs one' other' wards' wp wo wot ww g x1 = some r' ∧ r.1 = r'.1 ∧ r.2.1 = nI n' ∧ r'.2.2.2.1 = nI n' ∧ n' ≤ n ∧
      CDoors r.2.2.2.2.2.2.2.2.2.2.2.2.2.1 r.2.2.2.2.2.2.2.2.2.2.2.2.2.2.1 r.2.2.2.2.2.2.2.2.2.2.2.2.2.2.2.1 r.2.2.2.2.2.2.2.2.2.2.2.2.2.2.2.2.1 r.2.2.2.2.2.2.2.2.2.2.2.2.2.2.2.2.2.1 r.2.2.2.2.2.2.2.2.2.2.2.2.2.2.2.2.2.2.1 r.2.2.2.2.2.2.2.2.2.2.2.2.2.2.2.2.2.2.2.1 D' ∧ CTown ctold round x r.2.2.2.2.2.2.2.2.2.2.2.2.2.2.2.2.2.2.2.2 rooms hair pins T' ∧
      MDoors r'.2.1 r'.2.2.1 r'.2.2.2.2.2.2.2.2.2.2.2.2.2.2.2.2.1 r'.2.2.2.2.2.2.2.2.2.2.2.2.2.2.2.2.2.1 r'.2.2.2.2.2.2.2.2.2.2.2.2.2.2.2.2.2.2.1 r'.2.2.2.2.2.2.2.2.2.2.2.2.2.2.2.1 D' ∧ MTown r'.2.2.2.2.2.2.2.2.2.2.2.2.2.1 T' ∧ WDoors D' ∧ WTown T' := by
  obtain ⟨r, r', n', T', D', e, rest⟩ := B_orders (n := n) (size := size) (taped := taped) (f := f) (g := g) (b := b) (T := T) (D := D) (se := se) (sp := sp) (sf := sf) (ol := ol) (oto := oto) (os := os) (onu := onu) (oo := oo) (oot := oot) (ov := ov) (ctold := ctold) (round := round) (x := x) (rust := rust) (rooms := rooms) (hair := hair) (pins := pins) (now := now) (dtold := dtold) (dbar := dbar) (dtold' := dtold') (dbar' := dbar') (one := one) (other := other) (wards := wards) (fits := fits) (bent := bent) (one' := one') (other' := other') (wards' := wards') (prongs := prongs) (pl := pl) (le := le) (fa := fa) (nu := nu) (cm := cm) (sm := sm) (li := li) (wt := wt) (wb := wb) (aside := aside) (wp := wp) (wo := wo) (wot := wot) (ww := ww) tC tM hC hM hT dC dM hW x1
  obtain ⟨z, e2⟩ := top_orders (script_sign := sn) (tapeZ tC) e
  exact ⟨_, r', n', T', D', e2, rest⟩
theorem B_hairN {n : Nat} {size taped : Int32} {f g : Nat → Int32} {b : Nat → Nat} {T : TS} {told round x : Int32} {rust rooms hair pins now : Nat → Int32} {sn se sp sf : Int32} {hp ha' : Nat → Int32} {pl le fa cm sm nn ro' pf pt : Int32} {np rf ra rt : Nat → Int32} (tC : CTape size f n b) (tM : MTape taped g n b) (hC : CTown told round x rust rooms hair pins T) (hM : MTown now T) (hT : WTown T) (x1 x2 : Int32) :
    ∃ r r' n' T', f_X11_hair size f se sp sn sf hp ha' told hair pins x1 x2 = some r ∧ f_X12_hair taped pl le fa cm sm nn ro' pf pt now g np rf ra rt x1 x2 = some r' ∧ r.1 = r'.1 ∧ r.2.1 = nI n' ∧ r'.2.1 = nI n' ∧ n' ≤ n ∧ CTown told round x rust rooms r.2.2.2.2.2.2.2.2.1 r.2.2.2.2.2.2.2.2.2 T' ∧ MTown r'.2.2.2.2.2.2.2.2.2.2.2.1 T' ∧ WTown T' := by
  obtain ⟨r, r', n', T', e, rest⟩ := B_hair (n := n) (size := size) (taped := taped) (f := f) (g := g) (b := b) (T := T) (told := told) (round := round) (x := x) (rust := rust) (rooms := rooms) (hair := hair) (pins := pins) (now := now) (se := se) (sp := sp) (sf := sf) (hp := hp) (ha' := ha') (pl := pl) (le := le) (fa := fa) (cm := cm) (sm := sm) (nn := nn) (ro' := ro') (pf := pf) (pt := pt) (np := np) (rf := rf) (ra := ra) (rt := rt) tC tM hC hM hT x1 x2
  obtain ⟨z, e2⟩ := top_hair (script_sign := sn) (tapeZ tC) e
  exact ⟨_, r', n', T', e2, rest⟩
theorem B_lawN {n : Nat} {size taped : Int32} {f g : Nat → Int32} {b : Nat → Nat} (tC : CTape size f n b) (tM : MTape taped g n b) {sn se sp sf0 ls lr : Int32} {sg va le am co en : Nat → Int32} {pl len fa nu op cm wt sm cl : Int32} {sa wa sl sf sh st codes clauseOf codeFrom codeHalf codeTo : Nat → Int32} (x1 : Int32) :
    ∃ r r' n', f_X11_law size f se sp sn sf0 ls lr sg va le am co en x1 = some r ∧ f_X12_law taped pl len fa nu op cm wt sm cl g sa wa sl sf sh st codes clauseOf codeFrom codeHalf codeTo x1 = some r' ∧ r.1 = r'.1 ∧ r.2.1 = nI n' ∧ r'.2.1 = nI n' ∧ n' ≤ n ∧
      (((r.2.2.2.2.2.2.2.2.2.2.2.2.2.2 = 0 ∨ r.2.2.2.2.2.2.2.2.2.2.2.2.2.2 = 1) ∧ r'.2.2.2.2.2.2.2.2.2.2.1 = cl ∧ r'.2.2.2.2.2.2.2.2.2.2.2.2.2.2.2.2.2.1 = codes ∧ r'.2.2.2.2.2.2.2.2.2.2.2.2.2.2.2.2.2.2.1 = clauseOf ∧ r'.2.2.2.2.2.2.2.2.2.2.2.2.2.2.2.2.2.2.2.1 = codeFrom ∧ r'.2.2.2.2.2.2.2.2.2.2.2.2.2.2.2.2.2.2.2.2.1 = codeHalf ∧ r'.2.2.2.2.2.2.2.2.2.2.2.2.2.2.2.2.2.2.2.2.2 = codeTo) ∨
       (r.2.2.2.2.2.2.2.2.2.2.2.2.2.2 = 2 ∧ ∃ W, CLaw r.2.2.2.2.2.2.2.1 r.2.2.2.2.2.2.2.2.1 r.2.2.2.2.2.2.2.2.2.1 r.2.2.2.2.2.2.2.2.2.2.1 r.2.2.2.2.2.2.2.2.2.2.2.1 r.2.2.2.2.2.2.2.2.2.2.2.2.1 r.2.2.2.2.2.2.2.2.2.2.2.2.2.1 W ∧ MLaw r'.2.2.2.2.2.2.2.2.2.2.1 r'.2.2.2.2.2.2.2.2.2.2.2.2.2.2.2.2.2.1 r'.2.2.2.2.2.2.2.2.2.2.2.2.2.2.2.2.2.2.1 r'.2.2.2.2.2.2.2.2.2.2.2.2.2.2.2.2.2.2.2.1 r'.2.2.2.2.2.2.2.2.2.2.2.2.2.2.2.2.2.2.2.2.1 r'.2.2.2.2.2.2.2.2.2.2.2.2.2.2.2.2.2.2.2.2.2 W ∧ WLaw W)) := by
  obtain ⟨r, r', n', e, rest⟩ := B_law (n := n) (size := size) (taped := taped) (f := f) (g := g) (b := b) (se := se) (sp := sp) (sf0 := sf0) (ls := ls) (lr := lr) (sg := sg) (va := va) (le := le) (am := am) (co := co) (en := en) (pl := pl) (len := len) (fa := fa) (nu := nu) (op := op) (cm := cm) (wt := wt) (sm := sm) (cl := cl) (sa := sa) (wa := wa) (sl := sl) (sf := sf) (sh := sh) (st := st) (codes := codes) (clauseOf := clauseOf) (codeFrom := codeFrom) (codeHalf := codeHalf) (codeTo := codeTo) tC tM x1
  obtain ⟨z, e2⟩ := top_law (script_sign := sn) (tapeZ tC) e
  exact ⟨_, r', n', e2, rest⟩
