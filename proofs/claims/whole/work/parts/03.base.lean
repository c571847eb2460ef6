/-! MY LAYER: one judgement Gx over the kit's W, one contract form Cn, a row an instruction -/
abbrev cls : List vw_C := [(RX0, TX0, 7), (RX1, TX1, 3), (RX2, TX2, 9), (RX3, TX3, 2), (RX4, TX4, 8), (RX6, TX6, 5), (RX7, TX7, 5), (RX8, TX8, 2), (RX9, TX9, 7), (RX10, TX10, 3), (RX11, TX11, 14), (RX12, TX12, 58)]
def lw_g : List Cond := lw_tbl.filter goodWord
theorem lg_in {w : Cond} (h : w ∈ lw_tbl) (h2 : goodWord w = true) : w ∈ lw_g := List.mem_filter.mpr ⟨h, h2⟩
theorem lg_good : GoodIn lw_g lw_g := fun w h => ⟨h, good_of_word (List.mem_filter.mp h).2⟩
theorem lg_goodC {w : Cond} (h : w ∈ lw_g) : GoodIn lw_g (w :: lw_g) := fun v hv => by
  rcases List.mem_cons.mp hv with rfl | h1
  · exact lg_good _ h
  · exact lg_good _ h1
def isNest : Cond → Bool
  | .methodLinkNest _ _ _ _ => true
  | _ => false
def nwl : List Cond := lw_tbl.filter isNest
theorem nw_moved {s U : State} (hW : s.WarmedH U.vm) (h : ∀ w ∈ nwl, va_Nw w s) : ∀ w ∈ nwl, va_Nw w U := by
  intro w hw
  have h1 := h w hw
  have h2 := (List.mem_filter.mp hw).2
  cases w <;> first | exact va_Nw.warmM hW h1 | (simp [isNest] at h2)
theorem nw_same {s U : State} (e : s.vm = U.vm) (h : ∀ w ∈ nwl, va_Nw w s) : ∀ w ∈ nwl, va_Nw w U := by
  intro w hw
  have h1 := h w hw
  have h2 := (List.mem_filter.mp hw).2
  cases w <;> first | exact va_Nw.same rfl e h1 | (simp [isNest] at h2)
def ltL : List Int32 := [119, 114, 100, 111, 117, 107, 110, 112, 99, 116]
def chL : List Int32 := [0, 0, 0, 0, 0, 0, 1, 7, 28, 84, 210, 462, 0, 0, 0, 0, 0, 1, 6, 21, 56, 126, 252, 462, 0, 0, 0, 0, 1, 5, 15, 35, 70, 126, 210, 330, 0, 0, 0, 1, 4, 10, 20, 35, 56, 84, 120, 165, 0, 0, 1, 3, 6, 10, 15, 21, 28, 36, 45, 55, 0, 1, 2, 3, 4, 5, 6, 7, 8, 9, 10, 11]
def ltF : Nat → Int32 := fun j => ltL.getD j 0
def chF : Nat → Int32 := fun j => chL.getD j 0
/-- the statics: two arrays that nothing writes, below B; and the nest's links -/
def SF (B : Nat) (U : State) (H : Heap) : Prop := (∃ t, va_Z RX2 "LETTERS" "[C" (.ref t) (fun q => B ≤ q) U H ∧ va_T .char t 10 (fun j => .int (ltF j)) (fun q => B ≤ q) U H) ∧ (∃ t, va_Z RX6 "CHOOSE" "[I" (.ref t) (fun q => B ≤ q) U H ∧ va_T .int t 72 (fun j => .int (chF j)) (fun q => B ≤ q) U H) ∧ ∀ w ∈ nwl, va_Nw w U
theorem SF.moved {B : Nat} {s U : State} {H : Heap} (hW : s.WarmedH U.vm) (h : SF B s H) : SF B U H := by
  obtain ⟨⟨t, z1, t1⟩, ⟨u, z2, t2⟩, n⟩ := h
  exact ⟨⟨t, z1.moved hW.alike, t1.moved hW.alike⟩, ⟨u, z2.moved hW.alike, t2.moved hW.alike⟩, nw_moved hW n⟩
theorem SF.same {B : Nat} {s U : State} {H : Heap} (e : s.vm = U.vm) (h : SF B s H) : SF B U H := by
  obtain ⟨⟨t, z1, t1⟩, ⟨u, z2, t2⟩, n⟩ := h
  have hv : s.vm.Alike U.vm := by rw [e]; exact Vm.Alike.refl _
  exact ⟨⟨t, z1.moved hv, t1.moved hv⟩, ⟨u, z2.moved hv, t2.moved hv⟩, nw_same e n⟩
theorem SF.kept {B : Nat} {s : State} {H H1 : Heap} {A : Nat → Prop} {locs : List Loc} (hA : ∀ q, A q → B ≤ q) (hS : va_S A H H1 locs) (h : SF B s H) : SF B s H1 := by
  obtain ⟨⟨t, z1, t1⟩, ⟨u, z2, t2⟩, n⟩ := h
  have hk : ∀ a : Nat, a < H.size → ¬ (B ≤ a) → H1[a]? = H[a]? := fun a h1 h2 => hS.2.1 a h1 (fun z => h2 (hA a z))
  exact ⟨⟨t, z1.kept hk, t1.kept hk⟩, ⟨u, z2.kept hk, t2.kept hk⟩, n⟩
abbrev GE : Type := va_G × ClassId × ClassId × Nat
abbrev gty (E : GE) : List (ClassId × FieldType) := [(E.2.1, .int), (E.2.2.1, .byte)]
abbrev GC : Type := Program × Launch × Env × Room × State × MethodId × Array Value × List Frame × Method × Code × (Nat → Prop) × Nat × (State → Prop)
def Pw (E : GE) (wc : va_W) (sz : Nat) (U : State) : Prop := U.heap.size = sz ∧ va_P E.1 cls wc U.heap ∧ va_K E.1 cls (gty E) U ∧ va_D (fun q => E.2.2.2 ≤ q) wc ∧ E.2.2.2 ≤ sz ∧ SF E.2.2.2 U U.heap
def Qw (E : GE) (B : va_W → Prop) (wc : va_W) (sz : Nat) (rv : Option Value) : Array Value → State → Outcome → State → Prop := fun _ st oc t => (∃ w', oc = .returned rv ∧ B w' ∧ va_P E.1 cls w' t.heap ∧ va_D (va_A wc sz) w') ∧ va_F (va_A wc sz) st t
def rmk (rk mc ms : Nat) : Room := { frames := rk + 1, cells := mc, slots := ms, locals := 64 * (rk + 1) }
def Cn (l : Launch) (E : GE) (y : MethodName) (bytes : ByteArray) (maxL : Nat) (ret : Option FieldType) (rk mc ms : Nat) (av : List Value) (wc : va_W) (B : va_W → Prop) (rv : Option Value) : Prop := ∀ sz, Met l y (.code y bytes maxL ret :: lw_g) (rmk rk mc ms) (va_Pc av (Pw E wc sz)) (Qw E B wc sz rv) mc ms (va_A wc sz)
def Cx (X : GC) (E : GE) (cc : ByteArray) (own : String) (rk mx : Nat) : Prop := match X with
  | (p, _, _, R, s, m, args, _, meth, c, A, nL, _) => p.tables.exec = Jvm.exec ∧ c.code = cc ∧ c.maxLocals = nL ∧ s.vm.findClass own = some m.cls ∧ (∀ w ∈ lw_g, w.before args s = true) ∧ va_K E.1 cls (gty E) s ∧ (∀ q, s.heap.size ≤ q → A q) ∧ (∀ q, A q → E.2.2.2 ≤ q) ∧ SF E.2.2.2 s s.heap ∧ (rk + 1 ≤ R.frames ∧ 64 * (rk + 1) ≤ R.locals) ∧ E.2.2.2 ≤ s.heap.size ∧ meth.locks = false ∧ nL = mx
def Gx (X : GC) (E : GE) (kc ks : Nat) (ws : va_W) (pc : Nat) (lv : List (Nat × Value)) (st : List Value) : Prop := match X with
  | (p, l, e, R, s, m, args, below, meth, c, A, nL, Q) => ∀ (H : Heap) (locs : List Loc) (ls : Array Slot), va_P E.1 cls ws H → va_D A ws → va_S A s.heap H locs → lv_has ls nL lv → W p l e R s m args below meth c H locs kc ks Q (F0 m pc ls st)
/-- the end: what the walk must come to -/
def RtI (X : GC) (E : GE) (cc : ByteArray) (ty : FieldType) (mc ms : Nat) (B : va_W → Prop) (v : Int32) : Prop := ∀ (pc : Nat) (lv : List (Nat × Value)) (w : va_W), decode cc pc = .ok (.ireturn, 1) → narrow ty (.int v) = .int v → B w → Gx X E mc ms w pc lv [.int v]
def RtV (X : GC) (E : GE) (cc : ByteArray) (mc ms : Nat) (B : va_W → Prop) : Prop := ∀ (pc : Nat) (lv : List (Nat × Value)) (w : va_W), decode cc pc = .ok (.return_, 1) → B w → Gx X E mc ms w pc lv []
/-- Met.ofW for a method of any class whose bytecode is run as it is -/
theorem Met_ofWF {l : Launch} {y : MethodName} {ws ws' : List Cond} {rm : Room} {Pc : Array Value → State → Prop} {Qc : Array Value → State → Outcome → State → Prop} {mc ms : Nat} {free : Addr → Prop} {cc : ByteArray} {maxL : Nat} {ret : Option FieldType}
    (hy : plainFor y = true) (hw : ws = Cond.code y cc maxL ret :: ws')
    (body : ∀ p e s m args below meth c s₁, BodyLoose p l y (headSpec ws rm) cc maxL ret e s m args below meth c s₁ → c.maxLocals = maxL → Pc args s →
      W p l e (headSpec ws rm).room s m args below meth c s.heap [] 0 0 (MQ below Qc args s mc ms free) (entryFrame m args maxL)) : Met l y ws rm Pc Qc mc ms free := by
  refine MetFree.of_bodySF (code := cc) (maxLocals := maxL) (ret := ret) hy ?_ ?_
  · intro args s m h hn
    obtain ⟨meth, c, h1, h2, h3, h4, h5, h6, -, -⟩ := Cond.code_spec hn (atoms_spec (ws := ws) h _ (by rw [hw]; exact List.mem_cons_self))
    exact ⟨meth, c, h1, h2, h3, h4, h5, h6⟩
  · intro p e s m args below meth c s₁ B hml hP _
    have hh0 : s₁.heap = s.heap := by rw [B.state]; rfl
    obtain ⟨t, a1, o, b1, b2, b3⟩ := body p e s m args below meth c s₁ B hml hP s₁ hh0 (Stand.of_body B)
    exact ⟨t, o, a1, b1, b2, ⟨b3.1, b3.2⟩⟩
theorem Cn.ofI {l : Launch} {E : GE} {y : MethodName} {bytes : ByteArray} {maxL : Nat} {ty : FieldType} {rk mc ms : Nat} {av : List Value} {wc : va_W} {B : va_W → Prop} {v : Int32} (hy : plainFor y = true) (hn : (lg_sl av).length ≤ maxL)
    (h : ∀ X : GC, X.2.1 = l → X.2.2.2.1 = rmk rk mc ms → Cx X E bytes y.cls rk maxL → RtI X E bytes ty mc ms B v → Gx X E 0 0 wc 0 (lv_args 0 av) []) : Cn l E y bytes maxL (some ty) rk mc ms av wc B (some (.int v)) := by
  intro sz
  refine Met_ofWF (cc := bytes) (maxL := maxL) (ret := some ty) hy rfl ?_
  intro p e s m args below meth c s₁ Bo hml hv
  obtain ⟨rfl, rfl, hP, hK, hD0, hB0, hSF⟩ := hv
  have hts := atoms_spec (ws := .code y bytes maxL (some ty) :: lw_g) Bo.pre
  have hown : s.vm.findClass y.cls = some m.cls := findClass_of_methodNamed Bo.named
  have hlocks := Bo.notSynchronized
  have hl := lv_entry av (n := maxL) hn
  rw [lg_entry_eq]
  refine h (p, l, e, rmk rk mc ms, s, m, av.toArray, below, meth, c, va_A wc s.heap.size, maxL, MQ below (Qw E B wc s.heap.size (some (.int v))) av.toArray s mc ms (va_A wc s.heap.size)) rfl rfl ?_ ?_ s.heap [] _ hP (hD0.self) va_S.rf hl
  · refine ⟨Bo.exec, Bo.bytes, hml, hown, fun w hw => hts w (List.mem_cons_of_mem _ hw), hK, fun q hq => Or.inr hq, ?_, hSF, ⟨Nat.le_refl _, Nat.le_refl _⟩, hB0, hlocks, rfl⟩
    intro q hq
    rcases hq with ⟨k, e, hk⟩ | hq
    · exact hD0.2 k _ hk
    · exact Nat.le_trans hB0 hq
  · intro pc lv w hd hn hBw H locs ls hP hD hS hl
    exact W.zret Bo.exec Bo.bytes Bo.returns hn (fun t ht hW => ⟨⟨w, rfl, hBw, by rw [ht]; exact hP, hD⟩, hS.F ht⟩) hS.2.2 hd
theorem Cn.ofV {l : Launch} {E : GE} {y : MethodName} {bytes : ByteArray} {maxL : Nat} {rk mc ms : Nat} {av : List Value} {wc : va_W} {B : va_W → Prop} (hy : plainFor y = true) (hn : (lg_sl av).length ≤ maxL)
    (h : ∀ X : GC, X.2.1 = l → X.2.2.2.1 = rmk rk mc ms → Cx X E bytes y.cls rk maxL → RtV X E bytes mc ms B → Gx X E 0 0 wc 0 (lv_args 0 av) []) : Cn l E y bytes maxL none rk mc ms av wc B none := by
  intro sz
  refine Met_ofWF (cc := bytes) (maxL := maxL) (ret := none) hy rfl ?_
  intro p e s m args below meth c s₁ Bo hml hv
  obtain ⟨rfl, rfl, hP, hK, hD0, hB0, hSF⟩ := hv
  have hts := atoms_spec (ws := .code y bytes maxL none :: lw_g) Bo.pre
  have hown : s.vm.findClass y.cls = some m.cls := findClass_of_methodNamed Bo.named
  have hlocks := Bo.notSynchronized
  have hl := lv_entry av (n := maxL) hn
  rw [lg_entry_eq]
  refine h (p, l, e, rmk rk mc ms, s, m, av.toArray, below, meth, c, va_A wc s.heap.size, maxL, MQ below (Qw E B wc s.heap.size none) av.toArray s mc ms (va_A wc s.heap.size)) rfl rfl ?_ ?_ s.heap [] _ hP (hD0.self) va_S.rf hl
  · refine ⟨Bo.exec, Bo.bytes, hml, hown, fun w hw => hts w (List.mem_cons_of_mem _ hw), hK, fun q hq => Or.inr hq, ?_, hSF, ⟨Nat.le_refl _, Nat.le_refl _⟩, hB0, hlocks, rfl⟩
    intro q hq
    rcases hq with ⟨k, e, hk⟩ | hq
    · exact hD0.2 k _ hk
    · exact Nat.le_trans hB0 hq
  · intro pc lv w hd hBw H locs ls hP hD hS hl
    exact W.vret Bo.exec Bo.bytes Bo.returns (fun t ht hW => ⟨⟨w, rfl, hBw, by rw [ht]; exact hP, hD⟩, hS.F ht⟩) hS.2.2 hd
theorem Pw.blind {E : GE} {wc : va_W} {sz : Nat} {av : List Value} : FrameBlind (va_Pc av (Pw E wc sz)) := by
  intro a U g mk h
  obtain ⟨h0, h1, h2, h3, h4, h5, h6⟩ := h
  exact ⟨h0, h1, h2, va_K.moved (u := U) (U := U.calling g mk a) (Vm.Alike.refl U.vm) h3, h4, h5, SF.same (s := U) (U := U.calling g mk a) (H := U.heap) rfl h6⟩
def lp {S β : Type} (body : (S → Option β) → S → Option β) : Nat → S → Option β
  | 0, _ => none
  | n + 1, s => body (lp body n) s
theorem lp_ind {S β : Type} {body : (S → Option β) → S → Option β} {r : β} (P : S → Prop) (hb : ∀ go : S → Option β, (∀ s, go s = some r → P s) → ∀ s, body go s = some r → P s) : ∀ (n : Nat) (s : S), lp body n s = some r → P s := by
  intro n
  induction n with
  | zero => intro s h; cases h
  | succ n ih => intro s h; exact hb _ ih s h
def jn {S β : Type} (J : S → Option β) (M : (S → Option β) → Option β) : Option β := M J
def fu : Nat := 20000
theorem bs {α β : Type} {x : Option α} {F : α → Option β} {r : β} (h : x.bind F = some r) : ∃ u, x = some u ∧ F u = some r := Option.bind_eq_some_iff.mp h
theorem ite_cs {α : Type} {c : Prop} [Decidable c] {P Q : Option α} {r : α} (h : (if c then P else Q) = some r) : (c ∧ P = some r) ∨ (¬ c ∧ Q = some r) := by
  split at h
  · exact Or.inl ⟨‹_›, h⟩
  · exact Or.inr ⟨‹_›, h⟩
