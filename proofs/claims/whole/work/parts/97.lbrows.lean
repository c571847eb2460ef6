/-! THE CLAIM OUT OF ONE WALK OF THE LAW'S BODY. Your part is whole_start (and what it stands on); all else here is the same for every law, but numbers. -/
def R_law : String := "HairpinLocksLaw"
def lw_P (b : Addr) (xs : List Int32) (args : Array Value) (s : State) : Prop := args = #[.ref b] ∧ s.IntsAt b xs ∧ xs.length ≤ 3072 ∧ (Jvm.Cond.and given_1 narrow_1).before args s = true
def lw_Q (_ : Array Value) (s : State) (o : Outcome) (t : State) : Prop := o = .returned (some (.int 1)) ∧ Framed s o t [] 466478 7702816
def lw_Z (below : List Frame) (a : Array Value) (s : State) : State → Prop := fun t => ∃ o, t.status = .running ∧ Ended t below o ∧ lw_Q a s o t
/-- the law's own end, with 1 on the stack, nothing written that was there before, its room as the claim has it -/
theorem lw_ret {p : Program} {l : Launch} {e : Env} {s : State} {m : MethodId} {below : List Frame} {meth : Method} {c : Code} {b : Nat} (hx : p.tables.exec = Jvm.exec) (hb : c.code = code) (hr : meth.sig.returnType = ret) (hlocks : meth.locks = false) {pc : Nat} {H : Heap} {ls : Array Slot} (hdg : decode code pc = .ok (.ireturn, 1)) : W p l e room_1 s m #[Value.ref b] below meth c H [] 466478 7702816 (lw_Z below #[Value.ref b] s) (F0 m pc ls [.int 1]) := by
  intro T hT X
  obtain ⟨fs, hret, hrun, hended, hW, hframe⟩ := X.leave (v := some (.int 1)) (hlocks := hlocks) (fun h => by rw [hr] at h; cases h)
  have hmeth' : T.vm.method? m = some meth := X.method'
  refine ⟨T.setFrames fs, ?_, .returned (some (.int 1)), hrun, hended, rfl, ⟨_, rfl⟩, hW, hframe⟩
  jvm_step X.here [X.here.top, hx, hb, hdg, hmeth', hr, ret, narrow_b1]
  (try refine ⟨rfl, ?_⟩); (try refine ⟨rfl, ?_⟩)
  first | (intro acts; rw [hret _ acts rfl rfl rfl]) | rw [hret _ _ rfl rfl rfl]
  exact Steps.refl _
/-- what holds at the law's entry: the machine, the code, the tables' words (any of lw_tbl by 'hts w (by decide +kernel)'), the script of L ints xs at the cell b, what the Statement gives of the start (any of its parts by flat_of_before) -/
def lw_At (p : Program) (s : State) (m : MethodId) (meth : Method) (c : Code) (b L : Nat) (xs : Nat → Int32) : Prop :=
  p.tables.exec = Jvm.exec ∧ c.code = code ∧ meth.sig.returnType = ret ∧ c.maxLocals = 4 ∧ s.vm.findClass R_law = some m.cls ∧ (∀ w ∈ lw_tbl, w.before #[Value.ref b] s = true) ∧ va_X b L xs s s.heap ∧ b < s.heap.size ∧ meth.locks = false ∧ (Jvm.Cond.and given_1 narrow_1).before #[Value.ref b] s = true
section LR
variable {X : GC} {E : GE} {cc : ByteArray} {own : String} {rk mx kc ks : Nat} {ws : va_W} {pc : Nat} {lv : List (Nat × Value)} {st : List Value}
/-- the law's script, which nothing writes -/
def SX (X : GC) (b L : Nat) (xs : Nat → Int32) : Prop := match X with
  | (_, _, _, _, s, _, _, _, _, _, A, _, _) => va_X b L xs s s.heap ∧ b < s.heap.size ∧ ¬ A b
theorem g_sld (C : Cx X E cc own rk mx) {b L : Nat} {xs : Nat → Int32} (hX : SX X b L xs) {i : Int32} (hin : vp_in i L) (hd : decode cc pc = .ok (.iaload, 1)) (k : Gx X E kc ks ws (pc + 1) lv (.int (xs i.toNatClampNeg) :: st)) : Gx X E kc ks ws pc lv (.int i :: .ref b :: st) := by
  obtain ⟨p, l, e, R, s, m, args, below, meth, c, A, nL, Q⟩ := X
  obtain ⟨hx, hb, hml, hown, hts, hK, hA, hAB, hSF, hR, hB0, hlk, hmx⟩ := C
  obtain ⟨h1, h2, h3⟩ := hX
  intro H locs ls hP hD hS hl
  exact va_sld hx hb h1 h2 h3 hS hin hd (k H locs ls hP hD hS hl)
theorem g_slen (C : Cx X E cc own rk mx) {b L : Nat} {xs : Nat → Int32} (hX : SX X b L xs) (hd : decode cc pc = .ok (.arraylength, 1)) (k : Gx X E kc ks ws (pc + 1) lv (.int (Int32.ofNat L) :: st)) : Gx X E kc ks ws pc lv (.ref b :: st) := by
  obtain ⟨p, l, e, R, s, m, args, below, meth, c, A, nL, Q⟩ := X
  obtain ⟨hx, hb, hml, hown, hts, hK, hA, hAB, hSF, hR, hB0, hlk, hmx⟩ := C
  obtain ⟨h1, h2, h3⟩ := hX
  intro H locs ls hP hD hS hl
  exact va_slen hx hb h1 h2 h3 hS hd (k H locs ls hP hD hS hl)
theorem g_widen {kc' ks' : Nat} (h1 : kc ≤ kc') (h2 : ks ≤ ks') (k : Gx X E kc' ks' ws pc lv st) : Gx X E kc ks ws pc lv st := by
  obtain ⟨p, l, e, R, s, m, args, below, meth, c, A, nL, Q⟩ := X
  intro H locs ls hP hD hS hl
  exact W.widen h1 h2 (k H locs ls hP hD hS hl)
/-- the world's cells in another order -/
theorem g_perm {ws' : va_W} (is : List Nat) (hC : is.map (fun i => ws[i]?) = ws'.map some) (hnd : va_nd is = true) (k : Gx X E kc ks ws' pc lv st) : Gx X E kc ks ws pc lv st := by
  obtain ⟨p, l, e, R, s, m, args, below, meth, c, A, nL, Q⟩ := X
  intro H locs ls hP hD hS hl
  refine k H locs ls (fun j q hq => ?_) (hD.sub is hnd hC) hS hl
  have h1 : (is.map (fun i => ws[i]?))[j]? = some (some q) := by rw [hC, List.getElem?_map, hq]; rfl
  rw [List.getElem?_map] at h1
  cases hi : is[j]? with
  | none => rw [hi] at h1; cases h1
  | some i => rw [hi] at h1; exact hP i q (Option.some.inj h1)
variable {y : MethodName} {bytes : ByteArray} {maxL n idx rk' b : Nat} {ret : Option FieldType} {As : List Value} {wc wc' : va_W} {rv : Option Value}
theorem spl_app : ∀ (is1 is2 : List Nat) (c1 c2 ws : va_W), is1.length = c1.length → spl (is1 ++ is2) (c1 ++ c2) ws = spl is2 c2 (spl is1 c1 ws) := by
  intro is1
  induction is1 with
  | nil =>
    intro is2 c1 c2 ws h
    cases c1 with
    | nil => rfl
    | cons c cs => cases h
  | cons i is ih =>
    intro is2 c1 c2 ws h
    cases c1 with
    | nil => cases h
    | cons c cs => exact ih is2 cs c2 (ws.set i c) (Nat.succ.inj h)
theorem spl_chunk (n : Nat) {is : List Nat} {cs ws ws1 ws' : va_W} (hl : is.length = cs.length) (h1 : spl (is.take n) (cs.take n) ws = ws1) (h2 : spl (is.drop n) (cs.drop n) ws1 = ws') : spl is cs ws = ws' := by
  have h := spl_app (is.take n) (is.drop n) (cs.take n) (cs.drop n) ws (by rw [List.length_take, List.length_take, hl])
  rw [List.take_append_drop, List.take_append_drop, h1, h2] at h
  exact h
/-- a call of a method of an object, nothing made, behind makings -/
theorem g_callL (C : Cx X E cc own rk mx) (hV : MV y bytes maxL ret n) (hI : MI y) (hl : Cond.methodLink own idx y ∈ lw_g) (hM : Cn X.2.1 E y bytes maxL ret rk' 0 0 (.ref b :: As) wc (fun w => w = wc') rv) (hd : decode cc pc = .ok (.invokevirtual idx, 3)) (hrk : rk' < rk ∧ maxL ≤ 44) (hn : As.length = n) (hst : (st.map fun v => v.category).sum ≤ 8) (hroom : kc ≤ X.2.2.2.1.cells ∧ ks ≤ X.2.2.2.1.slots)
    (q0 ci : Nat) {fs : List Value} (he : ws[q0]? = some (b, .inr (ci, fs))) (hc : (cls[ci]?).map (fun q => q.1) = some y.cls) (is : List Nat) (hC : is.map (fun i => ws[i]?) = wc.map some) (hnd : va_nd is = true) (hf : wc'.map Prod.fst = wc.map Prod.fst)
    {ws' : va_W} {st0 st1 : List Value} (hs0 : st0 = As.reverse ++ .ref b :: st) (hs1 : rv.toList ++ st = st1) (hw : spl is wc' ws = ws') (k : Gx X E kc ks ws' (pc + 3) lv st1) : Gx X E kc ks ws pc lv st0 := by
  obtain ⟨p, l, e, R, s, m, args, below, meth, c, A, nL, Q⟩ := X
  obtain ⟨hx, hb, hml, hown, hts, hK, hA, hAB, hSF, hR, hB0, hlk, hmx⟩ := C
  intro H locs ls hP hD hS hlv
  have hF := va_free (wc := wc) hD hS hA is hC
  have cw : CallW R s args own y.cls idx y bytes maxL ret (.code y bytes maxL ret :: lw_g) (rmk rk' 0 0) 0 0 n := ⟨callB_of n hts (lg_goodC hV.1) rfl rfl rfl (hts _ hV.2.1) (hts _ hl) hV.2.2 ⟨by show rk' + 1 + 1 ≤ _; omega, by show 8 + (maxL + 11) + 64 * (rk' + 1) ≤ _; omega⟩, hts _ hI.1, hts _ hI.2⟩
  have hrecv : ∃ cell : Cell, H[b]? = some cell ∧ cell.vm.isStatics = false ∧ s.vm.findClass y.cls = some cell.cls := by
    cases hq : cls[ci]? with
    | none => rw [hq] at hc; cases hc
    | some q =>
      rw [hq] at hc
      have := va_recv hK hP hq he
      have hc : q.1 = y.cls := Option.some.inj hc
      rw [hc] at this
      exact this
  subst hw
  subst hs0
  subst hs1
  refine after_call (va_runV (As := As) (rest := st) ⟨hx, hb, hml, hown, hts⟩ (hM H.size) cw ⟨Pw.blind, hrecv, fun U hU hW => ⟨rfl, pw_of is hU hW hP hD hS hC hnd hK hAB hSF hB0 rfl⟩⟩ rfl hn hlv.1 rfl (lv_room hst) hd ⟨hroom.1, hroom.2⟩) hS hF (fun w' H1 locs1 hB hP1 hD1 hz hkq hS1 => ?_)
  subst hB
  obtain ⟨hP2, hD2⟩ := spl_world is hP hD hC hf hkq hP1
  exact k H1 locs1 ls hP2 hD2 hS1 hlv
end LR
theorem law_known {s : State} {args : Array Value} (hts : ∀ w ∈ lw_g, w.before args s = true) : ∃ D : va_G, ∀ (k : Nat) (q : vw_C), cls[k]? = some q → u_Kn s q.1 q.2.1 q.2.2 (D.1 k) (D.2 k) := by
  have hex : ∀ k : Nat, ∃ z : ClassId × (Nat → Nat), ∀ q : vw_C, cls[k]? = some q → u_Kn s q.1 q.2.1 q.2.2 z.1 z.2 := by
    intro k
    match k with
    | 0 =>
      obtain ⟨c0, iS, h⟩ := u_known (C := RX0) (T := TX0) (N := 7) (n := 7) hts inX0 (hts _ inst_X0)
      exact ⟨(c0, iS), fun q hq => by cases hq; exact h⟩
    | 1 =>
      obtain ⟨c0, iS, h⟩ := u_known (C := RX1) (T := TX1) (N := 3) (n := 3) hts inX1 (hts _ inst_X1)
      exact ⟨(c0, iS), fun q hq => by cases hq; exact h⟩
    | 2 =>
      obtain ⟨c0, iS, h⟩ := u_known (C := RX2) (T := TX2) (N := 9) (n := 9) hts inX2 (hts _ inst_X2)
      exact ⟨(c0, iS), fun q hq => by cases hq; exact h⟩
    | 3 =>
      obtain ⟨c0, iS, h⟩ := u_known (C := RX3) (T := TX3) (N := 2) (n := 2) hts inX3 (hts _ inst_X3)
      exact ⟨(c0, iS), fun q hq => by cases hq; exact h⟩
    | 4 =>
      obtain ⟨c0, iS, h⟩ := u_known (C := RX4) (T := TX4) (N := 8) (n := 8) hts inX4 (hts _ inst_X4)
      exact ⟨(c0, iS), fun q hq => by cases hq; exact h⟩
    | 5 =>
      obtain ⟨c0, iS, h⟩ := u_known (C := RX6) (T := TX6) (N := 5) (n := 5) hts inX6 (hts _ inst_X6)
      exact ⟨(c0, iS), fun q hq => by cases hq; exact h⟩
    | 6 =>
      obtain ⟨c0, iS, h⟩ := u_known (C := RX7) (T := TX7) (N := 5) (n := 5) hts inX7 (hts _ inst_X7)
      exact ⟨(c0, iS), fun q hq => by cases hq; exact h⟩
    | 7 =>
      obtain ⟨c0, iS, h⟩ := u_known (C := RX8) (T := TX8) (N := 2) (n := 2) hts inX8 (hts _ inst_X8)
      exact ⟨(c0, iS), fun q hq => by cases hq; exact h⟩
    | 8 =>
      obtain ⟨c0, iS, h⟩ := u_known (C := RX9) (T := TX9) (N := 7) (n := 7) hts inX9 (hts _ inst_X9)
      exact ⟨(c0, iS), fun q hq => by cases hq; exact h⟩
    | 9 =>
      obtain ⟨c0, iS, h⟩ := u_known (C := RX10) (T := TX10) (N := 3) (n := 3) hts inX10 (hts _ inst_X10)
      exact ⟨(c0, iS), fun q hq => by cases hq; exact h⟩
    | 10 =>
      obtain ⟨c0, iS, h⟩ := u_known (C := RX11) (T := TX11) (N := 14) (n := 14) hts inX11 (hts _ inst_X11)
      exact ⟨(c0, iS), fun q hq => by cases hq; exact h⟩
    | 11 =>
      obtain ⟨c0, iS, h⟩ := u_known (C := RX12) (T := TX12) (N := 58) (n := 58) hts inX12 (hts _ inst_X12)
      exact ⟨(c0, iS), fun q hq => by cases hq; exact h⟩
    | k + 12 =>
      obtain ⟨c0, iS, h⟩ := u_known (C := RX0) (T := TX0) (N := 7) (n := 7) hts inX0 (hts _ inst_X0)
      exact ⟨(c0, iS), fun q hq => by simp [cls] at hq⟩
  obtain ⟨f, hf⟩ := Classical.axiomOfChoice hex
  exact ⟨(fun k => (f k).1, fun k => (f k).2), hf⟩
theorem law_arr {s : State} {args : Array Value} {ty : FieldType} (h : (Cond.arrayClass ty).before args s = true) : ∃ cA : ClassId, ArrOfT s cA ty ∧ s.vm.findClass ("[" ++ ty.toString) = some cA := by
  obtain ⟨cA, kA, comp, hfind, hk, hkind⟩ := Cond.arrayClass_spec h
  exact ⟨cA, fun n z => ⟨fun k h => (by cases h), kA, hk, comp, hkind⟩, hfind⟩
abbrev tmL : Term := .static RX2 "LETTERS" "[C"
abbrev tmC : Term := .static RX6 "CHOOSE" "[I"
set_option maxRecDepth 100000 in
theorem nw_L : ∀ j, j < 10 → Cond.eq (.elem tmL (.int (Int32.ofNat j))) (.int (ltF j)) ∈ flatC narrow_1 := by decide +kernel
set_option maxRecDepth 100000 in
theorem nw_C : ∀ j, j < 72 → Cond.eq (.elem tmC (.int (Int32.ofNat j))) (.int (chF j)) ∈ flatC narrow_1 := by decide +kernel
set_option maxRecDepth 100000 in
theorem nw_L0 : Cond.arrayOf tmL .char ∈ flatC narrow_1 ∧ Cond.eq (.length tmL) (.int (Int32.ofNat 10)) ∈ flatC narrow_1 := by decide +kernel
set_option maxRecDepth 100000 in
theorem nw_C0 : Cond.arrayOf tmC .int ∈ flatC narrow_1 ∧ Cond.eq (.length tmC) (.int (Int32.ofNat 72)) ∈ flatC narrow_1 := by decide +kernel
theorem law_SF {s : State} {args : Array Value} (hts : ∀ w ∈ lw_g, w.before args s = true) (htt : ∀ w ∈ lw_tbl, w.before args s = true) (hgv : (Jvm.Cond.and given_1 narrow_1).before args s = true) : SF s.heap.size s s.heap := by
  have hs0 := flat_of_before _ hgv
  have hs : ∀ c ∈ flatC narrow_1, c.before args s = true := fun c hc => hs0 c (List.mem_append_right _ hc)
  have hA : ∀ a : Nat, a < s.heap.size → ¬ (fun q : Nat => s.heap.size ≤ q) a := fun a h => by show ¬ s.heap.size ≤ a; omega
  obtain ⟨t, ht, hT⟩ := va_Tof (tm := tmL) (ty := .char) (N := 10) (f := fun j => .int (ltF j)) (by decide) (hs _ nw_L0.1) (va_eqt (hs _ nw_L0.2)) (fun j hj => va_eqt (hs _ (nw_L j hj))) hA
  obtain ⟨u, hu, hU⟩ := va_Tof (tm := tmC) (ty := .int) (N := 72) (f := fun j => .int (chF j)) (by decide) (hs _ nw_C0.1) (va_eqt (hs _ nw_C0.2)) (fun j hj => va_eqt (hs _ (nw_C j hj))) hA
  refine ⟨⟨t, va_Zof (htt _ lays_LETTERS) (hts _ ini_X2) ht hA, hT⟩, ⟨u, va_Zof (htt _ lays_CHOOSE) (hts _ ini_X6) hu hA, hU⟩, fun w hw => ?_⟩
  have h1 := (List.mem_filter.mp hw).1
  have h2 := (List.mem_filter.mp hw).2
  have h3 := htt w h1
  cases w <;> first | exact va_Nw.of rfl h3 | (simp [isNest] at h2)
/-- where the law stands -/
abbrev XL (p : Program) (l : Launch) (e : Env) (s : State) (m : MethodId) (b : Nat) (below : List Frame) (meth : Method) (c : Code) : GC := (p, l, e, room_1, s, m, #[Value.ref b], below, meth, c, (fun q => s.heap.size ≤ q), 4, lw_Z below #[Value.ref b] s)
theorem law_ctx {p : Program} {l : Launch} {e : Env} {s : State} {m : MethodId} {below : List Frame} {meth : Method} {c : Code} {b L : Nat} {xs : Nat → Int32} (C0 : lw_At p s m meth c b L xs) : ∃ E : GE, Cx (XL p l e s m b below meth c) E cL_law RL 1300 4 ∧ SX (XL p l e s m b below meth c) b L xs := by
  obtain ⟨hx, hb, hr, hml, hown, hts, hX, hbl, hlocks, hgv⟩ := C0
  have htg : ∀ w ∈ lw_g, w.before #[Value.ref b] s = true := fun w hw => hts w (List.mem_filter.mp hw).1
  obtain ⟨D, hD⟩ := law_known htg
  obtain ⟨ci, i1, i2⟩ := law_arr (htg _ mar_int)
  obtain ⟨cb, b1, b2⟩ := law_arr (htg _ mar_byte)
  refine ⟨(D, ci, cb, s.heap.size), ⟨hx, hb, hml, hown, htg, ⟨hD, fun k q hq => ?_⟩, fun q h => h, fun q h => h, law_SF htg hts hgv, ⟨by decide, by decide⟩, Nat.le_refl _, hlocks, rfl⟩, hX, hbl, by show ¬ s.heap.size ≤ b; omega⟩
  match k, hq with
  | 0, hq => cases hq; exact ⟨i1, i2⟩
  | 1, hq => cases hq; exact ⟨b1, b2⟩
  | k + 2, hq => simp [gty] at hq
