/-- the callee's cells put in their places -/
def spl : List Nat → va_W → va_W → va_W
  | i :: is, c :: cs, ws => spl is cs (ws.set i c)
  | _, _, ws => ws
theorem spl_get : ∀ (is : List Nat) (w' ws : va_W) (k : Nat) (q : Nat × va_E), is.length = w'.length → (spl is w' ws)[k]? = some q → (∃ j : Nat, w'[j]? = some q) ∨ (k ∉ is ∧ ws[k]? = some q) := by
  intro is
  induction is with
  | nil => intro w' ws k q hl h; exact Or.inr ⟨by simp, by simpa [spl] using h⟩
  | cons i is ih =>
    intro w' ws k q hl h
    cases w' with
    | nil => simp at hl
    | cons c cs =>
      rcases ih cs (ws.set i c) k q (by simpa using hl) h with ⟨j, hj⟩ | ⟨hk, hq⟩
      · exact Or.inl ⟨j + 1, by simpa using hj⟩
      · by_cases hki : k = i
        · subst hki
          rw [List.getElem?_set] at hq
          simp only [if_true] at hq
          split at hq
          · exact Or.inl ⟨0, by simpa using hq⟩
          · cases hq
        · rw [List.getElem?_set_ne (fun e => hki e.symm)] at hq
          exact Or.inr ⟨by simp [hki, hk], hq⟩
theorem spl_fst : ∀ (is : List Nat) (w' ws : va_W), (∀ (j i : Nat) (c : Nat × va_E), is[j]? = some i → w'[j]? = some c → (ws.map Prod.fst)[i]? = some c.1) → (spl is w' ws).map Prod.fst = ws.map Prod.fst := by
  intro is
  induction is with
  | nil => intro w' ws _; rfl
  | cons i is ih =>
    intro w' ws h
    cases w' with
    | nil => rfl
    | cons c cs =>
      have h0 := h 0 i c rfl rfl
      have e : (ws.set i c).map Prod.fst = ws.map Prod.fst := by
        rw [List.map_set]
        apply List.ext_getElem?
        intro k
        rw [List.getElem?_set]
        split
        · rename_i hk
          subst hk
          split
          · exact h0.symm
          · rename_i hn
            simp at hn
            simp [hn]
        · rfl
      show (spl is cs (ws.set i c)).map Prod.fst = _
      rw [ih cs (ws.set i c) (fun j i' c' h1 h2 => by rw [e]; exact h (j + 1) i' c' (by simpa using h1) (by simpa using h2)), e]
theorem vaD_fst {A : Nat → Prop} {ws ws' : va_W} (e : ws'.map Prod.fst = ws.map Prod.fst) (h : va_D A ws) : va_D A ws' := by
  have g : ∀ (k : Nat) (q : Nat × va_E), ws'[k]? = some q → ∃ p : Nat × va_E, ws[k]? = some p ∧ p.1 = q.1 := by
    intro k q hq
    have h1 : (ws'.map Prod.fst)[k]? = some q.1 := by rw [List.getElem?_map, hq]; rfl
    rw [e, List.getElem?_map] at h1
    cases hw : ws[k]? with
    | none => rw [hw] at h1; cases h1
    | some p => rw [hw] at h1; exact ⟨p, rfl, Option.some.inj h1⟩
  refine ⟨fun i j p q hp hq hpq => ?_, fun k q hq => ?_⟩
  · obtain ⟨p0, h1, h2⟩ := g i p hp
    obtain ⟨q0, h3, h4⟩ := g j q hq
    exact h.1 i j p0 q0 h1 h3 (by rw [h2, h4]; exact hpq)
  · obtain ⟨p0, h1, h2⟩ := g k q hq
    rw [← h2]
    exact h.2 k p0 h1
section CA
variable {p : Program} {l : Launch} {e : Env} {R : Room} {s : State} {m : MethodId} {args : Array Value} {below : List Frame} {meth : Method} {c : Code} {H : Heap} {locs : List Loc} {kc ks mc ms : Nat} {Q : State → Prop} {A : Nat → Prop} {E : GE} {B : va_W → Prop} {ws wc : va_W} {rv : Option Value} {pc : Nat} {ls : Array Slot} {st st0 : List Value} {a : Array Value}
theorem after_call (hr : va_Run p l e R s m args below meth c H locs kc ks mc ms (F0 m pc ls st0) st (Qw E B wc H.size rv a) (va_A wc H.size)) (hS : va_S A s.heap H locs) (hF : ∀ q, va_A wc H.size q → A q)
    (kk : ∀ (w' : va_W) (H1 : Heap) (locs1 : List Loc), B w' → va_P E.1 cls w' H1 → va_D (va_A wc H.size) w' → H.size ≤ H1.size → (∀ q : Nat, q < H.size → ¬ va_A wc H.size q → H1[q]? = H[q]?) → va_S A s.heap H1 locs1 → W p l e R s m args below meth c H1 locs1 (kc + mc) (ks + ms) Q (F0 m (pc + 3) ls (rv.toList ++ st))) : W p l e R s m args below meth c H locs kc ks Q (F0 m pc ls st0) := by
  intro T hT X
  obtain ⟨v, st₀, t, T', L, h0, X', hL, e1, e2, ⟨⟨w', hv, hp, hb, hd⟩, hz, hk⟩, stp⟩ := hr T hT X
  cases hv
  rw [h0] at hz hk
  obtain ⟨t2, a1, b1⟩ := kk w' T'.heap (locs ++ L) hp (by rw [e1]; exact hb) hd (by rw [e1]; exact hz) (fun q h1 h2 => by rw [e1]; exact hk q h1 h2)
    ⟨Nat.le_trans hS.1 (by rw [e1]; exact hz), fun q h1 h2 => by rw [e1, hk q (Nat.lt_of_lt_of_le h1 hS.1) (fun z => h2 (hF q z))]; exact hS.2.1 q h1 h2, fun q hq => by
      rcases List.mem_append.mp hq with h | h
      · exact hS.2.2 q h
      · exact hF _ (hL q h)⟩ T' rfl X'
  exact ⟨t2, stp t2 a1, b1⟩
/-- behind a call that makes nothing: the world, the callee's cells changed in place -/
theorem spl_world {wc' : va_W} {H1 : Heap} (is : List Nat) (hP : va_P E.1 cls ws H) (hD : va_D A ws) (hC : is.map (fun i => ws[i]?) = wc.map some) (hf : wc'.map Prod.fst = wc.map Prod.fst) (hk : ∀ q : Nat, q < H.size → ¬ va_A wc H.size q → H1[q]? = H[q]?) (hP1 : va_P E.1 cls wc' H1) : va_P E.1 cls (spl is wc' ws) H1 ∧ va_D A (spl is wc' ws) := by
  have hlen : is.length = wc'.length := by
    have h1 := congrArg List.length hC
    have h2 := congrArg List.length hf
    simp at h1 h2
    omega
  have at' : ∀ (k : Nat) (q : Nat × va_E), wc[k]? = some q → ∃ i, is[k]? = some i ∧ ws[i]? = some q := by
    intro k q hq
    have h1 : (is.map (fun i => ws[i]?))[k]? = some (some q) := by rw [hC, List.getElem?_map, hq]; rfl
    rw [List.getElem?_map] at h1
    cases hi : is[k]? with
    | none => rw [hi] at h1; cases h1
    | some i => rw [hi] at h1; exact ⟨i, rfl, Option.some.inj h1⟩
  refine ⟨fun k q hq => ?_, vaD_fst (spl_fst is wc' ws ?_) hD⟩
  · rcases spl_get is wc' ws k q hlen hq with ⟨j, hj⟩ | ⟨hk1, hq1⟩
    · exact hP1 j q hj
    · have hl := (hP k q hq1).lt
      refine (hP k q hq1).kept (hk q.1 hl (fun h => ?_))
      rcases h with ⟨k2, e2, h⟩ | h
      · obtain ⟨i, h3, h4⟩ := at' k2 (q.1, e2) h
        have hij := hD.1 k i q (q.1, e2) hq1 h4 rfl
        subst hij
        exact hk1 (List.mem_of_getElem? h3)
      · omega
  · intro j i c' h1 h2
    have h3 : (wc'.map Prod.fst)[j]? = some c'.1 := by rw [List.getElem?_map, h2]; rfl
    rw [hf, List.getElem?_map] at h3
    cases hw : wc[j]? with
    | none => rw [hw] at h3; cases h3
    | some q =>
      rw [hw] at h3
      obtain ⟨i', h4, h5⟩ := at' j q hw
      rw [h1] at h4
      cases h4
      rw [List.getElem?_map, h5]
      exact h3
theorem pw_of {U : State} {sz : Nat} (is : List Nat) (hU : U.heap = H) (hW : s.WarmedH U.vm) (hP : va_P E.1 cls ws H) (hD : va_D A ws) (hS : va_S A s.heap H locs) (hC : is.map (fun i => ws[i]?) = wc.map some) (hnd : va_nd is = true) (hK : va_K E.1 cls (gty E) s) (hAB : ∀ q, A q → E.2.2.2 ≤ q) (hSF : SF E.2.2.2 s s.heap) (hB0 : E.2.2.2 ≤ s.heap.size) (hsz : sz = H.size) : Pw E wc sz U := by
  subst hsz
  refine ⟨by rw [hU], ?_, va_K.moved hW.alike hK, (hD.sub is hnd hC).weaken (fun k q _ h => hAB _ h), Nat.le_trans hB0 hS.1, ?_⟩
  · rw [hU]
    intro k q hq
    have h1 : (is.map (fun i => ws[i]?))[k]? = some (some q) := by rw [hC, List.getElem?_map, hq]; rfl
    rw [List.getElem?_map] at h1
    cases hi : is[k]? with
    | none => rw [hi] at h1; cases h1
    | some i => rw [hi] at h1; exact hP i q (Option.some.inj h1)
  · rw [hU]
    exact (hSF.kept hAB hS).moved hW
end CA
/-- what is said once of a method: its words -/
def MV (y : MethodName) (bytes : ByteArray) (maxL : Nat) (ret : Option FieldType) (n : Nat) : Prop := Cond.code y bytes maxL ret ∈ lw_g ∧ Cond.initialized y.cls ∈ lw_g ∧ (y.cls ≠ "java/lang/invoke/MethodHandle" ∧ y.cls ≠ "java/lang/invoke/VarHandle" ∧ (parseMethodDescriptor y.desc).map (fun d => d.parameters.length) = some n)
def MI (y : MethodName) : Prop := Cond.instanceMethod y ∈ lw_g ∧ Cond.selects y.cls y y ∈ lw_g
section CB
variable {X : GC} {E : GE} {cc : ByteArray} {own : String} {rk mx kc ks : Nat} {ws : va_W} {pc : Nat} {lv : List (Nat × Value)} {st : List Value}
variable {y : MethodName} {bytes : ByteArray} {maxL n idx rk' b : Nat} {ret : Option FieldType} {As : List Value} {wc wc' : va_W} {rv : Option Value}
/-- a call of a method of an object, nothing made -/
theorem g_callV (C : Cx X E cc own rk mx) (hV : MV y bytes maxL ret n) (hI : MI y) (hl : Cond.methodLink own idx y ∈ lw_g) (hM : Cn X.2.1 E y bytes maxL ret rk' 0 0 (.ref b :: As) wc (fun w => w = wc') rv) (hd : decode cc pc = .ok (.invokevirtual idx, 3)) (hrk : rk' < rk ∧ maxL ≤ 44) (hn : As.length = n) (hst : (st.map fun v => v.category).sum ≤ 8)
    (q0 ci : Nat) {fs : List Value} (he : ws[q0]? = some (b, .inr (ci, fs))) (hc : (cls[ci]?).map (fun q => q.1) = some y.cls) (is : List Nat) (hC : is.map (fun i => ws[i]?) = wc.map some) (hnd : va_nd is = true) (hf : wc'.map Prod.fst = wc.map Prod.fst)
    {ws' : va_W} {st0 st1 : List Value} (hs0 : st0 = As.reverse ++ .ref b :: st) (hs1 : rv.toList ++ st = st1) (hw : spl is wc' ws = ws') (k : Gx X E 0 0 ws' (pc + 3) lv st1) : Gx X E 0 0 ws pc lv st0 := by
  obtain ⟨p, l, e, R, s, m, args, below, meth, c, A, nL, Q⟩ := X
  obtain ⟨hx, hb, hml, hown, hts, hK, hA, hAB, hSF, hR, hB0, hlk, hmx⟩ := C
  intro H locs ls hP hD hS hlv
  have hF := va_free (wc := wc) hD hS hA is hC
  have cw : CallW R s args own y.cls idx y bytes maxL ret (.code y bytes maxL ret :: lw_g) (rmk rk' 0 0) 0 0 n := ⟨callB_of n hts (lg_goodC hV.1) rfl rfl rfl (hts _ hV.2.1) (hts _ hl) hV.2.2 ⟨by show rk' + 1 + 1 ≤ _; omega, by show 8 + (maxL + 11) + 64 * (rk' + 1) ≤ _; omega⟩, hts _ hI.1, hts _ hI.2⟩
  have hrecv : ∃ cell : Cell, H[b]? = some cell ∧ cell.vm.isStatics = false ∧ s.vm.findClass y.cls = some cell.cls := by
    cases hq : cls[ci]? with
    | none => rw [hq] at hc; cases hc
    | some q =>
      rw [hq] at hc
      have := va_recv hK hP hq he
      have hc : q.1 = y.cls := Option.some.inj hc
      rw [hc] at this
      exact this
  subst hw
  subst hs0
  subst hs1
  refine after_call (va_runV (As := As) (rest := st) ⟨hx, hb, hml, hown, hts⟩ (hM H.size) cw ⟨Pw.blind, hrecv, fun U hU hW => ⟨rfl, pw_of is hU hW hP hD hS hC hnd hK hAB hSF hB0 rfl⟩⟩ rfl hn hlv.1 rfl (lv_room hst) hd ⟨Nat.zero_le _, Nat.zero_le _⟩) hS hF (fun w' H1 locs1 hB hP1 hD1 hz hkq hS1 => ?_)
  subst hB
  obtain ⟨hP2, hD2⟩ := spl_world is hP hD hC hf hkq hP1
  exact k H1 locs1 ls hP2 hD2 hS1 hlv
/-- a static method's call, nothing made -/
theorem g_callS (C : Cx X E cc own rk mx) (hV : MV y bytes maxL ret n) (hI : Cond.static y ∈ lw_g) (hl : Cond.methodLink own idx y ∈ lw_g) (hM : Cn X.2.1 E y bytes maxL ret rk' 0 0 As wc (fun w => w = wc') rv) (hd : decode cc pc = .ok (.invokestatic idx, 3)) (hrk : rk' < rk ∧ maxL ≤ 44) (hn : As.length = n) (hst : (st.map fun v => v.category).sum ≤ 8)
    (is : List Nat) (hC : is.map (fun i => ws[i]?) = wc.map some) (hnd : va_nd is = true) (hf : wc'.map Prod.fst = wc.map Prod.fst)
    {ws' : va_W} {st0 st1 : List Value} (hs0 : st0 = As.reverse ++ st) (hs1 : rv.toList ++ st = st1) (hw : spl is wc' ws = ws') (k : Gx X E 0 0 ws' (pc + 3) lv st1) : Gx X E 0 0 ws pc lv st0 := by
  obtain ⟨p, l, e, R, s, m, args, below, meth, c, A, nL, Q⟩ := X
  obtain ⟨hx, hb, hml, hown, hts, hK, hA, hAB, hSF, hR, hB0, hlk, hmx⟩ := C
  intro H locs ls hP hD hS hlv
  have hF := va_free (wc := wc) hD hS hA is hC
  have cw : CallB R s args own idx y bytes maxL ret (.code y bytes maxL ret :: lw_g) (rmk rk' 0 0) 0 0 n ∧ (Cond.static y).before args s = true := ⟨callB_of n hts (lg_goodC hV.1) rfl rfl rfl (hts _ hV.2.1) (hts _ hl) hV.2.2 ⟨by show rk' + 1 + 1 ≤ _; omega, by show 8 + (maxL + 11) + 64 * (rk' + 1) ≤ _; omega⟩, hts _ hI⟩
  subst hw
  subst hs0
  subst hs1
  refine after_call (va_runS (As := As) (rest := st) ⟨hx, hb, hml, hown, hts⟩ (hM H.size) cw ⟨Pw.blind, fun U hU hW => ⟨rfl, pw_of is hU hW hP hD hS hC hnd hK hAB hSF hB0 rfl⟩⟩ rfl hn hlv.1 rfl (lv_room hst) hd ⟨Nat.zero_le _, Nat.zero_le _⟩) hS hF (fun w' H1 locs1 hB hP1 hD1 hz hkq hS1 => ?_)
  subst hB
  obtain ⟨hP2, hD2⟩ := spl_world is hP hD hC hf hkq hP1
  exact k H1 locs1 ls hP2 hD2 hS1 hlv
/-- a private static method of the nest's host -/
theorem g_callSN (C : Cx X E cc own rk mx) {host : String} (hV : MV y bytes maxL ret n) (hI : Cond.static y ∈ lw_g) (hl : Cond.methodLinkNest own idx y host ∈ nwl) (hM : Cn X.2.1 E y bytes maxL ret rk' 0 0 As wc (fun w => w = wc') rv) (hd : decode cc pc = .ok (.invokestatic idx, 3)) (hrk : rk' < rk ∧ maxL ≤ 44) (hn : As.length = n) (hst : (st.map fun v => v.category).sum ≤ 8)
    (is : List Nat) (hC : is.map (fun i => ws[i]?) = wc.map some) (hnd : va_nd is = true) (hf : wc'.map Prod.fst = wc.map Prod.fst)
    {ws' : va_W} {st0 st1 : List Value} (hs0 : st0 = As.reverse ++ st) (hs1 : rv.toList ++ st = st1) (hw : spl is wc' ws = ws') (k : Gx X E 0 0 ws' (pc + 3) lv st1) : Gx X E 0 0 ws pc lv st0 := by
  obtain ⟨p, l, e, R, s, m, args, below, meth, c, A, nL, Q⟩ := X
  obtain ⟨hx, hb, hml, hown, hts, hK, hA, hAB, hSF, hR, hB0, hlk, hmx⟩ := C
  intro H locs ls hP hD hS hlv
  have hF := va_free (wc := wc) hD hS hA is hC
  have cw : va_CN R s args own idx y host bytes maxL ret (.code y bytes maxL ret :: lw_g) (rmk rk' 0 0) 0 0 n := va_cnB n hts (lg_goodC hV.1) rfl rfl rfl (hSF.2.2 _ hl) (hts _ hV.2.1) hV.2.2 ⟨by show rk' + 1 + 1 ≤ _; omega, by show 8 + (maxL + 11) + 64 * (rk' + 1) ≤ _; omega⟩
  subst hw
  subst hs0
  subst hs1
  refine after_call (va_runSN (As := As) (rest := st) ⟨hx, hb, hml, hown, hts⟩ (hM H.size) ⟨cw, hts _ hI, trivial⟩ ⟨Pw.blind, fun U hU hW => ⟨rfl, pw_of is hU hW hP hD hS hC hnd hK hAB hSF hB0 rfl⟩⟩ rfl hn hlv.1 rfl (lv_room hst) hd ⟨Nat.zero_le _, Nat.zero_le _⟩) hS hF (fun w' H1 locs1 hB hP1 hD1 hz hkq hS1 => ?_)
  subst hB
  obtain ⟨hP2, hD2⟩ := spl_world is hP hD hC hf hkq hP1
  exact k H1 locs1 ls hP2 hD2 hS1 hlv
def imin (x y : Int32) : Int32 := if y < x then y else x
def imax (x y : Int32) : Int32 := if x < y then y else x
theorem g_mmin (C : Cx X E cc own rk mx) {x y : Int32} (hl : Cond.methodLink own idx Lib.Math.min.name ∈ lw_g) (h2 : Cond.static Lib.Math.min.name ∈ lw_g) (h3 : Cond.initialized "java/lang/Math" ∈ lw_g) (h4 : Cond.code Lib.Math.min.name Lib.Math.min.code 2 (some .int) ∈ lw_g) (hst : (st.map fun v => v.category).sum ≤ 8) (hk : kc ≤ X.2.2.2.1.cells ∧ ks ≤ X.2.2.2.1.slots) (hd : decode cc pc = .ok (.invokestatic idx, 3)) (k : Gx X E kc ks ws (pc + 3) lv (.int (imin x y) :: st)) : Gx X E kc ks ws pc lv (.int y :: .int x :: st) := by
  obtain ⟨p, l, e, R, s, m, args, below, meth, c, A, nL, Q⟩ := X
  obtain ⟨hx, hb, hml, hown, hts, hK, hA, hAB, hSF, hR, hB0, hlk, hmx⟩ := C
  intro H locs ls hP hD hS hlv
  have hk : kc ≤ R.cells ∧ ks ≤ R.slots := hk
  have r1 : 1 ≤ R.frames := by omega
  have r2 : (st.map fun v => v.category).sum + 13 ≤ R.locals := by omega
  exact va_mmin hx hb (hml.trans hlv.1.symm) hown (hts _ hl) (hts _ h2) (hts _ h3) (hts _ h4) r1 r2 hk.1 hk.2 hd (k H locs ls hP hD hS hlv)
theorem g_mmax (C : Cx X E cc own rk mx) {x y : Int32} (hl : Cond.methodLink own idx Lib.Math.max.name ∈ lw_g) (h2 : Cond.static Lib.Math.max.name ∈ lw_g) (h3 : Cond.initialized "java/lang/Math" ∈ lw_g) (h4 : Cond.code Lib.Math.max.name Lib.Math.max.code 2 (some .int) ∈ lw_g) (hst : (st.map fun v => v.category).sum ≤ 8) (hk : kc ≤ X.2.2.2.1.cells ∧ ks ≤ X.2.2.2.1.slots) (hd : decode cc pc = .ok (.invokestatic idx, 3)) (k : Gx X E kc ks ws (pc + 3) lv (.int (imax x y) :: st)) : Gx X E kc ks ws pc lv (.int y :: .int x :: st) := by
  obtain ⟨p, l, e, R, s, m, args, below, meth, c, A, nL, Q⟩ := X
  obtain ⟨hx, hb, hml, hown, hts, hK, hA, hAB, hSF, hR, hB0, hlk, hmx⟩ := C
  intro H locs ls hP hD hS hlv
  have hk : kc ≤ R.cells ∧ ks ≤ R.slots := hk
  have r1 : 1 ≤ R.frames := by omega
  have r2 : (st.map fun v => v.category).sum + 13 ≤ R.locals := by omega
  exact va_mmax hx hb (hml.trans hlv.1.symm) hown (hts _ hl) (hts _ h2) (hts _ h3) (hts _ h4) r1 r2 hk.1 hk.2 hd (k H locs ls hP hD hS hlv)
/-- the two static arrays -/
def LT (X : GC) (E : GE) (t : Nat) : Prop := match X with
  | (_, _, _, _, s, _, _, _, _, _, A, _, _) => va_T .char t 10 (fun j => .int (ltF j)) A s s.heap
def CT (X : GC) (E : GE) (t : Nat) : Prop := match X with
  | (_, _, _, _, s, _, _, _, _, _, A, _, _) => va_T .int t 72 (fun j => .int (chF j)) A s s.heap
theorem g_getsL (C : Cx X E cc own rk mx) {idx : Nat} (hl : Cond.fieldLink own idx RX2 "LETTERS" "[C" ∈ lw_g) (hd : decode cc pc = .ok (.getstatic idx, 3)) (k : ∀ t, LT X E t → Gx X E kc ks ws (pc + 3) lv (.ref t :: st)) : Gx X E kc ks ws pc lv st := by
  obtain ⟨p, l, e, R, s, m, args, below, meth, c, A, nL, Q⟩ := X
  obtain ⟨hx, hb, hml, hown, hts, hK, hA, hAB, hSF, hR, hB0, hlk, hmx⟩ := C
  intro H locs ls hP hD hS hlv
  obtain ⟨t, hZ, hT⟩ := hSF.1
  exact va_gets hx hb (hZ.narrow hAB) hS hown (hts _ hl) (fun _ h => h) hd (k t (hT.narrow hAB) H locs ls hP hD hS hlv)
theorem g_getsC (C : Cx X E cc own rk mx) {idx : Nat} (hl : Cond.fieldLink own idx RX6 "CHOOSE" "[I" ∈ lw_g) (hd : decode cc pc = .ok (.getstatic idx, 3)) (k : ∀ t, CT X E t → Gx X E kc ks ws (pc + 3) lv (.ref t :: st)) : Gx X E kc ks ws pc lv st := by
  obtain ⟨p, l, e, R, s, m, args, below, meth, c, A, nL, Q⟩ := X
  obtain ⟨hx, hb, hml, hown, hts, hK, hA, hAB, hSF, hR, hB0, hlk, hmx⟩ := C
  intro H locs ls hP hD hS hlv
  obtain ⟨t, hZ, hT⟩ := hSF.2.1
  exact va_gets hx hb (hZ.narrow hAB) hS hown (hts _ hl) (fun _ h => h) hd (k t (hT.narrow hAB) H locs ls hP hD hS hlv)
theorem g_caldL (C : Cx X E cc own rk mx) {α : Type} {r : α} {t : Nat} {i : Int32} {F : Int32 → Option α} (hT : LT X E t) (hd : decode cc pc = .ok (.caload, 1)) (h : rd ltF 10 i F = some r) (k : ∀ v, F v = some r → Gx X E kc ks ws (pc + 1) lv (.int v :: st)) : Gx X E kc ks ws pc lv (.int i :: .ref t :: st) := by
  obtain ⟨p, l, e, R, s, m, args, below, meth, c, A, nL, Q⟩ := X
  obtain ⟨hx, hb, hml, hown, hts, hK, hA, hAB, hSF, hR, hB0, hlk, hmx⟩ := C
  intro H locs ls hP hD hS hlv
  exact va_tc hx hb hT hS (rd_is h).1 rfl hd (k _ (rd_is h).2 H locs ls hP hD hS hlv)
theorem g_ialdC (C : Cx X E cc own rk mx) {α : Type} {r : α} {t : Nat} {i : Int32} {F : Int32 → Option α} (hT : CT X E t) (hd : decode cc pc = .ok (.iaload, 1)) (h : rd chF 72 i F = some r) (k : ∀ v, F v = some r → Gx X E kc ks ws (pc + 1) lv (.int v :: st)) : Gx X E kc ks ws pc lv (.int i :: .ref t :: st) := by
  obtain ⟨p, l, e, R, s, m, args, below, meth, c, A, nL, Q⟩ := X
  obtain ⟨hx, hb, hml, hown, hts, hK, hA, hAB, hSF, hR, hB0, hlk, hmx⟩ := C
  intro H locs ls hP hD hS hlv
  exact va_ti hx hb hT hS (rd_is h).1 rfl hd (k _ (rd_is h).2 H locs ls hP hD hS hlv)
theorem g_alenL (C : Cx X E cc own rk mx) {t : Nat} {v : Int32} (hT : LT X E t) (hd : decode cc pc = .ok (.arraylength, 1)) (hv : Int32.ofNat 10 = v) (k : Gx X E kc ks ws (pc + 1) lv (.int v :: st)) : Gx X E kc ks ws pc lv (.ref t :: st) := by
  obtain ⟨p, l, e, R, s, m, args, below, meth, c, A, nL, Q⟩ := X
  obtain ⟨hx, hb, hml, hown, hts, hK, hA, hAB, hSF, hR, hB0, hlk, hmx⟩ := C
  intro H locs ls hP hD hS hlv
  exact va_tlen hx hb hT hS hv hd (k H locs ls hP hD hS hlv)
/-- switches: the key that is hit, and none -/
theorem g_tabHit (C : Cx X E cc own rk mx) {dflt lo hi off : Int} {offs : Array Int} {len tgt : Nat} {x : Int32} (key : Int32) (hx1 : x = key) (hd : decode cc pc = .ok (.tableswitch dflt lo hi offs, len)) (h1 : ¬ key.toInt < lo) (h2 : ¬ hi < key.toInt) (ho : offs[(key.toInt - lo).toNat]? = some off) (ht : (pc : Int) + off = (tgt : Int)) (k : Gx X E kc ks ws tgt lv st) : Gx X E kc ks ws pc lv (.int x :: st) := by
  obtain ⟨p, l, e, R, s, m, args, below, meth, c, A, nL, Q⟩ := X
  obtain ⟨hx, hb, hml, hown, hts, hK, hA, hAB, hSF, hR, hB0, hlk, hmx⟩ := C
  intro H locs ls hP hD hS hlv
  subst hx1
  exact lv_tableIn hx hb hd h1 h2 ho ht (k H locs ls hP hD hS hlv)
theorem g_tabMiss (C : Cx X E cc own rk mx) {dflt lo hi : Int} {offs : Array Int} {len tgt : Nat} {x : Int32} (hd : decode cc pc = .ok (.tableswitch dflt lo hi offs, len)) (h : x.toInt < lo ∨ hi < x.toInt) (ht : (pc : Int) + dflt = (tgt : Int)) (k : Gx X E kc ks ws tgt lv st) : Gx X E kc ks ws pc lv (.int x :: st) := by
  obtain ⟨p, l, e, R, s, m, args, below, meth, c, A, nL, Q⟩ := X
  obtain ⟨hx, hb, hml, hown, hts, hK, hA, hAB, hSF, hR, hB0, hlk, hmx⟩ := C
  intro H locs ls hP hD hS hlv
  exact lv_tableOut hx hb hd h ht (k H locs ls hP hD hS hlv)
theorem g_look (C : Cx X E cc own rk mx) {dflt off : Int} {ps : Array (Int × Int)} {len tgt : Nat} {x : Int32} (hd : decode cc pc = .ok (.lookupswitch dflt ps, len)) (hp : (ps.toList.zip (ps.toList.drop 1)).all (fun (a, next) => a.1 < next.1) = true) (ho : Op.lookupswitch.offset ps.toList dflt x.toInt = off) (ht : (pc : Int) + off = (tgt : Int)) (k : Gx X E kc ks ws tgt lv st) : Gx X E kc ks ws pc lv (.int x :: st) := by
  obtain ⟨p, l, e, R, s, m, args, below, meth, c, A, nL, Q⟩ := X
  obtain ⟨hx, hb, hml, hown, hts, hK, hA, hAB, hSF, hR, hB0, hlk, hmx⟩ := C
  intro H locs ls hP hD hS hlv
  exact lv_lookup hx hb hd hp ho ht (k H locs ls hP hD hS hlv)
def cpy {β : Type} (f : Nat → Int32) (n0 : Nat) (g : Nat → Int32) (n1 : Nat) (sp dp n : Int32) (k : (Nat → Int32) → Option β) : Option β := if (¬ sp < 0 ∧ ¬ dp < 0 ∧ ¬ n < 0) ∧ sp.toNatClampNeg + n.toNatClampNeg ≤ n0 ∧ dp.toNatClampNeg + n.toNatClampNeg ≤ n1 then k (va_cpy f g sp.toNatClampNeg dp.toNatClampNeg n.toNatClampNeg) else none
theorem g_copy (C : Cx X E cc own rk mx) {α : Type} {r : α} {a a0 n0 n1 : Nat} {f g : Nat → Int32} {sp dp n : Int32} {F : (Nat → Int32) → Option α} (hl : Cond.methodLink own idx arraycopyName ∈ lw_g) (h2 : Cond.native arraycopyName ∈ lw_g) (h3 : Cond.static arraycopyName ∈ lw_g) (h4 : Cond.initialized "java/lang/System" ∈ lw_g) (hst : (st.map fun v => v.category).sum ≤ 8) (hd : decode cc pc = .ok (.invokestatic idx, 3)) (q0 q1 : Nat) (ha0 : ws[q0]? = some (a0, .inl (E.2.1, n0, .inl f))) (ha1 : ws[q1]? = some (a, .inl (E.2.1, n1, .inl g)))
    (h : cpy f n0 g n1 sp dp n F = some r) (k : ∀ g', F g' = some r → Gx X E kc ks (ws.set q1 (a, .inl (E.2.1, n1, .inl g'))) (pc + 3) lv st) : Gx X E kc ks ws pc lv (.int n :: .int dp :: .ref a :: .int sp :: .ref a0 :: st) := by
  obtain ⟨p, l, e, R, s, m, args, below, meth, c, A, nL, Q⟩ := X
  obtain ⟨hx, hb, hml, hown, hts, hK, hA, hAB, hSF, hR, hB0, hlk, hmx⟩ := C
  intro H locs ls hP hD hS hlv
  obtain ⟨⟨⟨c1, c2, c3⟩, c4, c5⟩, h⟩ := ite_some h
  have r1 : 1 ≤ R.frames := by omega
  have r3 : nativeFrameWords "java/lang/System" "arraycopy" 5 + 11 ≤ 56 := by decide +kernel
  have r2 : (st.map fun v => v.category).sum + (nativeFrameWords "java/lang/System" "arraycopy" 5 + 11) ≤ R.locals := by omega
  exact va_copyi hx hb (hml.trans hlv.1.symm) hown (hts _ hl) (hts _ h2) (hts _ h3) (hts _ h4) hK hP hD hS q0 q1 0 0 ha0 ha1 rfl rfl rfl c1 c2 c3 c4 c5 (fun i _ => rfl) r1 r2 hd (fun H1 locs1 hP hD hS => k _ h H1 locs1 ls hP hD hS hlv)
end CB
