/-! rows for constructors: what is made -/
theorem Cn.ofVI {l : Launch} {E : GE} {y : MethodName} {bytes : ByteArray} {maxL : Nat} {rk mc ms : Nat} {av : List Value} {wc : va_W} {B : va_W → Prop} (hy : plainFor y = true) (hn : (lg_sl av).length ≤ maxL)
    (h : ∀ X : GC, X.2.1 = l → X.2.2.2.1 = rmk rk mc ms → X.2.2.2.2.2.2.2.2.1.name = y.name → Cx X E bytes y.cls rk maxL → RtV X E bytes mc ms B → Gx X E 0 0 wc 0 (lv_args 0 av) []) : Cn l E y bytes maxL none rk mc ms av wc B none := by
  intro sz
  refine Met_ofWF (cc := bytes) (maxL := maxL) (ret := none) hy rfl ?_
  intro p e s m args below meth c s₁ Bo hml hv
  obtain ⟨rfl, rfl, hP, hK, hD0, hB0, hSF⟩ := hv
  have hts := atoms_spec (ws := .code y bytes maxL none :: lw_g) Bo.pre
  have hown : s.vm.findClass y.cls = some m.cls := findClass_of_methodNamed Bo.named
  have hlocks := Bo.notSynchronized
  have hl := lv_entry av (n := maxL) hn
  rw [lg_entry_eq]
  refine h (p, l, e, rmk rk mc ms, s, m, av.toArray, below, meth, c, va_A wc s.heap.size, maxL, MQ below (Qw E B wc s.heap.size none) av.toArray s mc ms (va_A wc s.heap.size)) rfl rfl (name_of_methodNamed Bo.named Bo.method).1 ?_ ?_ s.heap [] _ hP (hD0.self) va_S.rf hl
  · refine ⟨Bo.exec, Bo.bytes, hml, hown, fun w hw => hts w (List.mem_cons_of_mem _ hw), hK, fun q hq => Or.inr hq, ?_, hSF, ⟨Nat.le_refl _, Nat.le_refl _⟩, hB0, hlocks, rfl⟩
    intro q hq
    rcases hq with ⟨k, e, hk⟩ | hq
    · exact hD0.2 k _ hk
    · exact Nat.le_trans hB0 hq
  · intro pc lv w hd hBw H locs ls hP hD hS hl
    exact W.vret Bo.exec Bo.bytes Bo.returns (fun t ht hW => ⟨⟨w, rfl, hBw, by rw [ht]; exact hP, hD⟩, hS.F ht⟩) hS.2.2 hd
section MK
variable {X : GC} {E : GE} {cc : ByteArray} {own : String} {rk mx kc ks : Nat} {ws : va_W} {pc : Nat} {lv : List (Nat × Value)} {st : List Value}
theorem g_objinit (C : Cx X E cc own rk mx) {idx a : Nat} (h1 : Cond.methodLink own idx objectInit ∈ lw_g) (h2 : Cond.instanceMethod objectInit ∈ lw_g) (h3 : Cond.code objectInit ⟨#[0xb1]⟩ 1 none ∈ lw_g) (hd : decode cc pc = .ok (.invokespecial idx, 3)) (hst : (st.map fun v => v.category).sum ≤ 8) (k : Gx X E kc ks ws (pc + 3) lv st) : Gx X E kc ks ws pc lv (.ref a :: st) := by
  obtain ⟨p, l, e, R, s, m, args, below, meth, c, A, nL, Q⟩ := X
  obtain ⟨hx, hb, hml, hown, hts, hK, hA, hAB, hSF, hR, hB0, hlk, hmx⟩ := C
  intro H locs ls hP hD hS hlv
  have r1 : 1 ≤ R.frames := by omega
  have r2 : 2 * (F0 m pc ls (.ref a :: st)).monitorRoom + (st.map fun v => v.category).sum + 12 ≤ R.locals := by
    have h8 : 2 * (F0 m pc ls (.ref a :: st)).monitorRoom + (st.map fun v => v.category).sum ≤ 8 := lv_room hst
    omega
  exact W.objInit hx hb hown (hts _ h1) (hts _ h2) (hts _ h3) (g := F0 m pc ls (.ref a :: st)) rfl (hlv.1.trans hml.symm) rfl hd r1 r2 (k H locs ls hP hD hS hlv)
theorem g_newi (C : Cx X E cc own rk mx) {n : Int32} {N : Nat} (harr : Cond.arrayClass .int ∈ lw_g) (hd : decode cc pc = .ok (.newarray .int, 2)) (hn : ¬ n < 0) (hN : n.toNatClampNeg = N) (hbt : N * componentBytes .int ≤ 536870912) (hc : kc + 1 ≤ X.2.2.2.1.cells) (hs : ks + N ≤ X.2.2.2.1.slots) (k : ∀ q, Gx X E (kc + 1) (ks + N) (ws ++ [(q, .inl (E.2.1, N, .inl fun _ => 0))]) (pc + 2) lv (.ref q :: st)) : Gx X E kc ks ws pc lv (.int n :: st) := by
  obtain ⟨p, l, e, R, s, m, args, below, meth, c, A, nL, Q⟩ := X
  obtain ⟨hx, hb, hml, hown, hts, hK, hA, hAB, hSF, hR, hB0, hlk, hmx⟩ := C
  intro H locs ls hP hD hS hlv
  refine va_newa (atype := .int) hx hb (hts _ harr) (ty := .int) rfl hK hP hD hS hA (a0 := (N, .inl fun _ => 0)) (fun cA => rfl) hn hN hbt hc hs hd (fun q cA H1 hK1 hP1 hD1 hS1 => ?_)
  have e1 : s.vm.findClass ("[" ++ FieldType.int.toString) = some E.2.1 := (hK.2 0 (E.2.1, .int) rfl).2
  have e2 : s.vm.findClass ("[" ++ FieldType.int.toString) = some cA := (hK1.2 2 (cA, .int) rfl).2
  have e3 : cA = E.2.1 := Option.some.inj (e2.symm.trans e1)
  rw [e3] at hP1 hD1
  exact k q H1 locs ls hP1 hD1 hS1 hlv
theorem g_newb (C : Cx X E cc own rk mx) {n : Int32} {N : Nat} (harr : Cond.arrayClass .byte ∈ lw_g) (hd : decode cc pc = .ok (.newarray .byte, 2)) (hn : ¬ n < 0) (hN : n.toNatClampNeg = N) (hbt : N * componentBytes .byte ≤ 536870912) (hc : kc + 1 ≤ X.2.2.2.1.cells) (hs : ks + N ≤ X.2.2.2.1.slots) (k : ∀ q, Gx X E (kc + 1) (ks + N) (ws ++ [(q, .inl (E.2.2.1, N, .inl fun _ => 0))]) (pc + 2) lv (.ref q :: st)) : Gx X E kc ks ws pc lv (.int n :: st) := by
  obtain ⟨p, l, e, R, s, m, args, below, meth, c, A, nL, Q⟩ := X
  obtain ⟨hx, hb, hml, hown, hts, hK, hA, hAB, hSF, hR, hB0, hlk, hmx⟩ := C
  intro H locs ls hP hD hS hlv
  refine va_newa (atype := .byte) hx hb (hts _ harr) (ty := .byte) rfl hK hP hD hS hA (a0 := (N, .inl fun _ => 0)) (fun cA => rfl) hn hN hbt hc hs hd (fun q cA H1 hK1 hP1 hD1 hS1 => ?_)
  have e1 : s.vm.findClass ("[" ++ FieldType.byte.toString) = some E.2.2.1 := (hK.2 1 (E.2.2.1, .byte) rfl).2
  have e2 : s.vm.findClass ("[" ++ FieldType.byte.toString) = some cA := (hK1.2 2 (cA, .byte) rfl).2
  have e3 : cA = E.2.2.1 := Option.some.inj (e2.symm.trans e1)
  rw [e3] at hP1 hD1
  exact k q H1 locs ls hP1 hD1 hS1 hlv
theorem g_putF (C : Cx X E cc own rk mx) {idx ci k a : Nat} {fs : List Value} {v : Value} {ws' : va_W} (ty : FieldType) (hin : X.2.2.2.2.2.2.2.2.1.name = "<init>") (hF : FL own idx ci k) (hd : decode cc pc = .ok (.putfield idx, 3)) (q0 : Nat) (he : ws[q0]? = some (a, .inr (ci, fs))) (hfin : (cls[ci]?).map (fun q => ((q.2.1 k).2.2.2, (q.2.1 k).1, parseFieldDescriptor (q.2.1 k).2.2.1)) = some (true, own, some ty)) (hn : narrow ty v = v) (hfit : fits ty v = true) (hlen : k < fs.length) (hw : ws.set q0 (a, .inr (ci, fs.set k v)) = ws') (kk : Gx X E kc ks ws' (pc + 3) lv st) : Gx X E kc ks ws pc lv (v :: .ref a :: st) := by
  obtain ⟨p, l, e, R, s, m, args, below, meth, c, A, nL, Q⟩ := X
  obtain ⟨hx, hb, hml, hown, hts, hK, hA, hAB, hSF, hR, hB0, hlk, hmx⟩ := C
  intro H locs ls hP hD hS hl
  obtain ⟨⟨Cl, T, N⟩, ty0, hc, hin1, hk, hlk2, hty, hnm⟩ := hF
  rw [hc] at hfin
  injection hfin with hfin
  injection hfin with hf1 hf2
  injection hf2 with hf2 hf3
  subst hw
  exact va_putF hx hb hts hin1 ty0 hty hnm hown hK hP hD hS q0 he hc k hk (hts _ hlk2) (fun _ h => h) hf1 hin hf2 hf3 hn hfit hlen hd (fun H1 locs1 hP hD hS => kk H1 locs1 ls hP hD hS hl)
theorem g_new (C : Cx X E cc own rk mx) {idx ci : Nat} {q : vw_C} {ty : Nat → FieldType} {fs : List Value} (hq : cls[ci]? = some q) (hin : ∀ w ∈ u_ws q.1 q.2.1 q.2.2, w ∈ lw_g) (hty : ∀ k, k < q.2.2 → parseFieldDescriptor (q.2.1 k).2.2.1 = some (ty k)) (h1 : Cond.classLink own idx q.1 ∈ lw_g) (h2 : Cond.instantiable q.1 q.2.2 ∈ lw_g) (h3 : Cond.initialized q.1 ∈ lw_g) (hfs : ∀ j, j < q.2.2 → defaultValue (ty j) = vp_V fs j) (hc : kc + 1 ≤ X.2.2.2.1.cells) (hs : ks + q.2.2 ≤ X.2.2.2.1.slots) (hd : decode cc pc = .ok (.new idx, 3)) (k : ∀ a, Gx X E (kc + 1) (ks + q.2.2) (ws ++ [(a, .inr (ci, fs))]) (pc + 3) lv (.ref a :: st)) : Gx X E kc ks ws pc lv st := by
  obtain ⟨p, l, e, R, s, m, args, below, meth, c, A, nL, Q⟩ := X
  obtain ⟨hx, hb, hml, hown, hts, hK, hA, hAB, hSF, hR, hB0, hlk, hmx⟩ := C
  intro H locs ls hP hD hS hl
  obtain ⟨Cl, T, N⟩ := q
  exact va_new hx hb hts hin ty hty hown (hts _ h1) (hts _ h2) (hts _ h3) hK hP hD hS hA hq hfs hc hs hd (fun a H1 hP1 hD1 hS1 => k a H1 locs ls hP1 hD1 hS1 hl)
variable {y : MethodName} {bytes : ByteArray} {maxL n idx rk' b mc ms : Nat} {As : List Value} {wc wr : va_W} {B : va_W → Prop}
/-- a constructor's call -/
theorem g_callI (C : Cx X E cc own rk mx) (hV : MV y bytes maxL none n) (hI : Cond.instanceMethod y ∈ lw_g) (hnm : y.name = "<init>") (hl : Cond.methodLink own idx y ∈ lw_g) (hM : Cn X.2.1 E y bytes maxL none rk' mc ms (.ref b :: As) wc B none) (hd : decode cc pc = .ok (.invokespecial idx, 3)) (hrk : rk' < rk ∧ maxL ≤ 44) (hn : As.length = n) (hst : (st.map fun v => v.category).sum ≤ 8) (hk : kc + mc ≤ X.2.2.2.1.cells ∧ ks + ms ≤ X.2.2.2.1.slots)
    (is isR : List Nat) (hC : is.map (fun i => ws[i]?) = wc.map some) (hR : isR.map (fun i => ws[i]?) = wr.map some) (hnd : va_nd is = true) (hndR : va_nd isR = true) (hdis : ∀ i ∈ isR, i ∉ is) {st0 : List Value} (hs0 : st0 = As.reverse ++ .ref b :: st)
    (k : ∀ w', B w' → Gx X E (kc + mc) (ks + ms) (wr ++ w') (pc + 3) lv st) : Gx X E kc ks ws pc lv st0 := by
  obtain ⟨p, l, e, R, s, m, args, below, meth, c, A, nL, Q⟩ := X
  obtain ⟨hx, hb, hml, hown, hts, hK, hA, hAB, hSF, hRR, hB0, hlk, hmx⟩ := C
  intro H locs ls hP hD hS hlv
  have hF := va_free (wc := wc) hD hS hA is hC
  subst hs0
  have cw : CallB R s args own idx y bytes maxL none (.code y bytes maxL none :: lw_g) (rmk rk' mc ms) mc ms n := callB_of n hts (lg_goodC hV.1) rfl rfl rfl (hts _ hV.2.1) (hts _ hl) hV.2.2 ⟨by show rk' + 1 + 1 ≤ _; omega, by show 8 + (maxL + 11) + 64 * (rk' + 1) ≤ _; omega⟩
  refine after_call (va_runI (As := As) (rest := st) ⟨hx, hb, hml, hown, hts⟩ (hM H.size) ⟨cw, hnm, hts _ hI⟩ ⟨Pw.blind, fun U hU hW => ⟨rfl, pw_of is hU hW hP hD hS hC hnd hK hAB hSF hB0 rfl⟩⟩ rfl hn hlv.1 rfl (lv_room hst) hd hk) hS hF (fun w' H1 locs1 hB hP1 hD1 hz hkq hS1 => ?_)
  obtain ⟨hP2, hD2⟩ := va_join (wr := wr) (w1 := w') hP hD is isR hC hR hndR hdis hkq hF hP1 hD1
  exact k w' hB H1 locs1 ls hP2 hD2 hS1 hlv
theorem g_callIN (C : Cx X E cc own rk mx) {host : String} (hV : MV y bytes maxL none n) (hI : Cond.instanceMethod y ∈ lw_g) (hnm : y.name = "<init>") (hl : Cond.methodLinkNest own idx y host ∈ nwl) (hM : Cn X.2.1 E y bytes maxL none rk' mc ms (.ref b :: As) wc B none) (hd : decode cc pc = .ok (.invokespecial idx, 3)) (hrk : rk' < rk ∧ maxL ≤ 44) (hn : As.length = n) (hst : (st.map fun v => v.category).sum ≤ 8) (hk : kc + mc ≤ X.2.2.2.1.cells ∧ ks + ms ≤ X.2.2.2.1.slots)
    (is isR : List Nat) (hC : is.map (fun i => ws[i]?) = wc.map some) (hR : isR.map (fun i => ws[i]?) = wr.map some) (hnd : va_nd is = true) (hndR : va_nd isR = true) (hdis : ∀ i ∈ isR, i ∉ is) {st0 : List Value} (hs0 : st0 = As.reverse ++ .ref b :: st)
    (k : ∀ w', B w' → Gx X E (kc + mc) (ks + ms) (wr ++ w') (pc + 3) lv st) : Gx X E kc ks ws pc lv st0 := by
  obtain ⟨p, l, e, R, s, m, args, below, meth, c, A, nL, Q⟩ := X
  obtain ⟨hx, hb, hml, hown, hts, hK, hA, hAB, hSF, hRR, hB0, hlk, hmx⟩ := C
  intro H locs ls hP hD hS hlv
  have hF := va_free (wc := wc) hD hS hA is hC
  subst hs0
  have cw : va_CN R s args own idx y host bytes maxL none (.code y bytes maxL none :: lw_g) (rmk rk' mc ms) mc ms n := va_cnB n hts (lg_goodC hV.1) rfl rfl rfl (hSF.2.2 _ hl) (hts _ hV.2.1) hV.2.2 ⟨by show rk' + 1 + 1 ≤ _; omega, by show 8 + (maxL + 11) + 64 * (rk' + 1) ≤ _; omega⟩
  refine after_call (va_runIN (As := As) (rest := st) ⟨hx, hb, hml, hown, hts⟩ (hM H.size) ⟨cw, hnm, hts _ hI⟩ ⟨Pw.blind, fun U hU hW => ⟨rfl, pw_of is hU hW hP hD hS hC hnd hK hAB hSF hB0 rfl⟩⟩ rfl hn hlv.1 rfl (lv_room hst) hd hk) hS hF (fun w' H1 locs1 hB hP1 hD1 hz hkq hS1 => ?_)
  obtain ⟨hP2, hD2⟩ := va_join (wr := wr) (w1 := w') hP hD is isR hC hR hndR hdis hkq hF hP1 hD1
  exact k w' hB H1 locs1 ls hP2 hD2 hS1 hlv
end MK
