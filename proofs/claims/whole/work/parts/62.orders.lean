/-! ORDERS: the lines one behind another, carried out -/
def ldD : List CMD → DS → DS
  | [], D => D
  | c :: l, D => ldD l (apD c D)
def ldT : List CMD → TS → TS
  | [], T => T
  | c :: l, T => ldT l (apT c T)
def VCs : List CMD → DS → Prop
  | [], _ => True
  | c :: l, D => VC c D ∧ VCs l (apD c D)
def HAs (so nu on ot va : Nat → Int32) : Nat → List CMD → Prop
  | _, [] => True
  | L, c :: l => HA so nu on ot va L c ∧ HAs so nu on ot va (L + 1) l
theorem W_ldD : ∀ (l : List CMD) (D : DS), WDoors D → VCs l D → WDoors (ldD l D)
  | [], _, h, _ => h
  | _ :: l, _, h, v => W_ldD l _ (W_apD h v.1) v.2
theorem W_ldT : ∀ (l : List CMD) (T : TS), WTown T → WTown (ldT l T)
  | [], _, h => h
  | _ :: l, _, h => W_ldT l _ (W_apT h)
theorem ldT_eq : ∀ (l : List CMD) (T : TS), tt (ldT l T) = tt T ∧ rn (ldT l T) = rn T ∧ xx (ldT l T) = xx T ∧ ro (ldT l T) = ro T ∧ ha (ldT l T) = ha T ∧ pn (ldT l T) = pn T
  | [], _ => ⟨rfl, rfl, rfl, rfl, rfl, rfl⟩
  | c :: l, T => by
    have h := ldT_eq l (apT c T)
    have e : tt (apT c T) = tt T ∧ rn (apT c T) = rn T ∧ xx (apT c T) = xx T ∧ ro (apT c T) = ro T ∧ ha (apT c T) = ha T ∧ pn (apT c T) = pn T := by
      unfold apT
      split <;> exact ⟨rfl, rfl, rfl, rfl, rfl, rfl⟩
    exact ⟨h.1.trans e.1, h.2.1.trans e.2.1, h.2.2.1.trans e.2.2.1, h.2.2.2.1.trans e.2.2.2.1, h.2.2.2.2.1.trans e.2.2.2.2.1, h.2.2.2.2.2.trans e.2.2.2.2.2⟩
theorem st_X4_read_12 (script_end : Int32) (script_tape_size : Int32) (script_tape_bytes : (Nat → Int32)) (m : Nat) (s : Int32 × Int32 × Int32 × (Nat → Int32) × (Nat → Int32) × (Nat → Int32) × (Nat → Int32) × (Nat → Int32) × Int32 × Int32) : Lo_X4_read_12 script_end script_tape_size script_tape_bytes (m + 1) s = (if (16 : Int32) < s.1 then (some (s.2.1, s.2.2.1, s.2.2.2.1, s.2.2.2.2.1, s.2.2.2.2.2.1, s.2.2.2.2.2.2.1, s.2.2.2.2.2.2.2.1, s.2.2.2.2.2.2.2.2.1, s.2.2.2.2.2.2.2.2.2)) else (f_X7_isSound s.2.2.2.2.2.2.2.2.2).bind fun u1 => if u1 = 0 then (some (s.2.1, s.2.2.1, s.2.2.2.1, s.2.2.2.2.1, s.2.2.2.2.2.1, s.2.2.2.2.2.2.1, s.2.2.2.2.2.2.2.1, s.2.2.2.2.2.2.2.2.1, s.2.2.2.2.2.2.2.2.2)) else (fo_X4_readLine s.2.1 s.2.2.1 s.2.2.2.1 s.2.2.2.2.1 s.2.2.2.2.2.1 s.2.2.2.2.2.2.1 s.2.2.2.2.2.2.2.1 script_end s.2.2.2.2.2.2.2.2.1 s.2.2.2.2.2.2.2.2.2 script_tape_size script_tape_bytes).bind fun u2 => (f_X7_isSound u2.2.2.2.2.2.2.2.2).bind fun u3 => if u3 = 0 then (some (u2.1, u2.2.1, u2.2.2.1, u2.2.2.2.1, u2.2.2.2.2.1, u2.2.2.2.2.2.1, u2.2.2.2.2.2.2.1, u2.2.2.2.2.2.2.2.1, u2.2.2.2.2.2.2.2.2)) else (f_X7_isAtEnd script_end u2.2.2.2.2.2.2.2.1).bind fun u4 => if u4 = 0 then ((fo_X7_want script_end u2.2.2.2.2.2.2.2.1 u2.2.2.2.2.2.2.2.2 script_tape_size script_tape_bytes (59 : Int32)).bind fun u5 => nm (s.1 + (1 : Int32)) fun v6 => (Lo_X4_read_12 script_end script_tape_size script_tape_bytes m) (v6, u2.1, u2.2.1, u2.2.2.1, u2.2.2.2.1, u2.2.2.2.2.1, u2.2.2.2.2.2.1, u2.2.2.2.2.2.2.1, u5.1, u5.2)) else some (u2.1, u2.2.1, u2.2.2.1, u2.2.2.2.1, u2.2.2.2.2.1, u2.2.2.2.2.2.1, u2.2.2.2.2.2.2.1, u2.2.2.2.2.2.2.2.1, u2.2.2.2.2.2.2.2.2)) := rfl
theorem st_X12_orders_50 (t_taped : Int32) (t_length0 : Int32) (t_codeMany : Int32) (t_saidMany : Int32) (t_wasTold : Int32) (t_wasBarred : Int32) (t_aside : (Nat → Int32)) (t_wasProngs : (Nat → Int32)) (t_wasOne : (Nat → Int32)) (t_wasOther : (Nat → Int32)) (t_wasWards : (Nat → Int32)) (t_tape : (Nat → Int32)) (k0 : Int32 × Int32 × Int32 × Int32 × Int32 × Int32 × Int32 × (Nat → Int32) × (Nat → Int32) × (Nat → Int32) × (Nat → Int32) × (Nat → Int32) → Option (Int32 × Int32 × Int32 × Int32 × Int32 × Int32 × Int32 × Int32 × Int32 × Int32 × Int32 × Int32 × Int32 × (Nat → Int32) × (Nat → Int32) × (Nat → Int32) × (Nat → Int32) × (Nat → Int32) × (Nat → Int32) × (Nat → Int32) × (Nat → Int32) × (Nat → Int32) × (Nat → Int32))) (m : Nat) (s : Int32 × Int32 × Int32 × Int32 × Int32 × Int32 × Int32 × (Nat → Int32) × (Nat → Int32) × (Nat → Int32) × (Nat → Int32) × (Nat → Int32)) : L_X12_orders_50 t_taped t_length0 t_codeMany t_saidMany t_wasTold t_wasBarred t_aside t_wasProngs t_wasOne t_wasOther t_wasWards t_tape k0 (m + 1) s = (if s.1 = 0 then (k0 (s.1, s.2.1, s.2.2.1, s.2.2.2.1, s.2.2.2.2.1, s.2.2.2.2.2.1, s.2.2.2.2.2.2.1, s.2.2.2.2.2.2.2.1, s.2.2.2.2.2.2.2.2.1, s.2.2.2.2.2.2.2.2.2.1, s.2.2.2.2.2.2.2.2.2.2.1, s.2.2.2.2.2.2.2.2.2.2.2)) else if t_length0 ≤ s.2.2.2.1 then (k0 (s.1, s.2.1, s.2.2.1, s.2.2.2.1, s.2.2.2.2.1, s.2.2.2.2.2.1, s.2.2.2.2.2.2.1, s.2.2.2.2.2.2.2.1, s.2.2.2.2.2.2.2.2.1, s.2.2.2.2.2.2.2.2.2.1, s.2.2.2.2.2.2.2.2.2.2.1, s.2.2.2.2.2.2.2.2.2.2.2)) else (f_X12_takes s.2.2.2.1 t_length0 s.2.2.2.2.1 t_tape (59 : Int32)).bind fun u6 => if u6.1 = 0 then ((L_X12_orders_50 t_taped t_length0 t_codeMany t_saidMany t_wasTold t_wasBarred t_aside t_wasProngs t_wasOne t_wasOther t_wasWards t_tape k0 m) ((0 : Int32), s.2.1, s.2.2.1, u6.2.1, u6.2.2, s.2.2.2.2.2.1, s.2.2.2.2.2.2.1, s.2.2.2.2.2.2.2.1, s.2.2.2.2.2.2.2.2.1, s.2.2.2.2.2.2.2.2.2.1, s.2.2.2.2.2.2.2.2.2.2.1, s.2.2.2.2.2.2.2.2.2.2.2)) else (f_X12_readsLine s.2.1 s.2.2.1 u6.2.1 t_length0 u6.2.2 s.2.2.2.2.2.1 s.2.2.2.2.2.2.1 s.2.2.2.2.2.2.2.1 s.2.2.2.2.2.2.2.2.1 s.2.2.2.2.2.2.2.2.2.1 s.2.2.2.2.2.2.2.2.2.2.1 s.2.2.2.2.2.2.2.2.2.2.2 t_tape).bind fun u7 => if u7.1 = 0 then ((L_X12_orders_50 t_taped t_length0 t_codeMany t_saidMany t_wasTold t_wasBarred t_aside t_wasProngs t_wasOne t_wasOther t_wasWards t_tape k0 m) ((0 : Int32), u7.2.1, u7.2.2.1, u7.2.2.2.1, u7.2.2.2.2.1, u7.2.2.2.2.2.1, u7.2.2.2.2.2.2.1, u7.2.2.2.2.2.2.2.1, u7.2.2.2.2.2.2.2.2.1, u7.2.2.2.2.2.2.2.2.2.1, u7.2.2.2.2.2.2.2.2.2.2.1, u7.2.2.2.2.2.2.2.2.2.2.2)) else (L_X12_orders_50 t_taped t_length0 t_codeMany t_saidMany t_wasTold t_wasBarred t_aside t_wasProngs t_wasOne t_wasOther t_wasWards t_tape k0 m) ((1 : Int32), u7.2.1, u7.2.2.1, u7.2.2.2.1, u7.2.2.2.2.1, u7.2.2.2.2.2.1, u7.2.2.2.2.2.2.1, u7.2.2.2.2.2.2.2.1, u7.2.2.2.2.2.2.2.2.1, u7.2.2.2.2.2.2.2.2.2.1, u7.2.2.2.2.2.2.2.2.2.2.1, u7.2.2.2.2.2.2.2.2.2.2.2)) := rfl
theorem st_X4_carryOut_2 (t_lines : Int32) (t_sorts : (Nat → Int32)) (t_numbers : (Nat → Int32)) (t_ones : (Nat → Int32)) (t_others : (Nat → Int32)) (t_values : (Nat → Int32)) (p1_fits : (Nat → Int32)) (k0 : Int32 × Int32 × (Nat → Int32) × (Nat → Int32) × (Nat → Int32) × (Nat → Int32) × (Nat → Int32) → Option (Int32 × Int32 × (Nat → Int32) × (Nat → Int32) × (Nat → Int32) × (Nat → Int32) × (Nat → Int32) × (Nat → Int32))) (m : Nat) (s : Int32 × Int32 × Int32 × (Nat → Int32) × (Nat → Int32) × (Nat → Int32) × (Nat → Int32) × (Nat → Int32)) : L_X4_carryOut_2 t_lines t_sorts t_numbers t_ones t_others t_values p1_fits k0 (m + 1) s = (if t_lines ≤ s.1 then (k0 (s.2.1, s.2.2.1, s.2.2.2.1, s.2.2.2.2.1, s.2.2.2.2.2.1, s.2.2.2.2.2.2.1, s.2.2.2.2.2.2.2)) else if (16 : Int32) ≤ s.1 then (k0 (s.2.1, s.2.2.1, s.2.2.2.1, s.2.2.2.2.1, s.2.2.2.2.2.1, s.2.2.2.2.2.2.1, s.2.2.2.2.2.2.2)) else rd t_numbers 16 s.1 fun v1 => rd t_sorts 16 s.1 fun v2 => if v2 = (3 : Int32) then (rd t_values 16 s.1 fun v14 => (f_X0_bend s.2.2.2.2.2.2.1 v1 v14).bind fun u15 => nm (s.1 + (1 : Int32)) fun v16 => (L_X4_carryOut_2 t_lines t_sorts t_numbers t_ones t_others t_values p1_fits k0 m) (v16, s.2.1, s.2.2.1, s.2.2.2.1, s.2.2.2.2.1, s.2.2.2.2.2.1, u15, s.2.2.2.2.2.2.2)) else rd t_sorts 16 s.1 fun v3 => if v3 = 0 then (rd t_ones 16 s.1 fun v8 => rd t_others 16 s.1 fun v9 => rd t_values 16 s.1 fun v10 => (f_X0_tell s.2.1 s.2.2.1 s.2.2.2.1 s.2.2.2.2.1 s.2.2.2.2.2.1 v1 v8 v9 v10).bind fun u11 => (f_X9_unrust s.2.2.2.2.2.2.2 v1).bind fun u12 => nm (s.1 + (1 : Int32)) fun v13 => (L_X4_carryOut_2 t_lines t_sorts t_numbers t_ones t_others t_values p1_fits k0 m) (v13, u11.1, u11.2.1, u11.2.2.1, u11.2.2.2.1, u11.2.2.2.2, s.2.2.2.2.2.2.1, u12)) else rd t_sorts 16 s.1 fun v4 => jn (fun s5 : Int32 => (f_X0_bar s.2.1 s.2.2.1 v1 s5).bind fun u6 => nm (s.1 + (1 : Int32)) fun v7 => (L_X4_carryOut_2 t_lines t_sorts t_numbers t_ones t_others t_values p1_fits k0 m) (v7, s.2.1, u6, s.2.2.2.1, s.2.2.2.2.1, s.2.2.2.2.2.1, s.2.2.2.2.2.2.1, s.2.2.2.2.2.2.2)) fun j109 => if v4 = (1 : Int32) then (j109 (1 : Int32)) else j109 (0 : Int32)) := rfl
theorem lines_ok {n e : Nat} {t a1 a2 a3 a4 a5 : Int32} {f g a6 a7 a8 a9 a10 : Nat → Int32} {b : Nat → Nat} (k0 : _) (tC : CTape (nI n) f n b) (tM : MTape t g n b) (ht : txt e b) (he : e ≤ n) : ∀ (d L p : Nat) (D : DS) (T : TS) (x num : Int32) (sorts numbers ones others values now prongs one other wards : Nat → Int32) (m m' : Nat), L + d = 16 → p ≤ e → WDoors D → MDoors (nI (dt D)) (nI (db D)) one other wards prongs D → MTown now T → d + 3 ≤ m → d + 3 ≤ m' →
    (∃ w q r s8, 1 ≤ w ∧ w ≤ 7 ∧ q < 1000 ∧ Lo_X4_read_12 (nI e) (nI n) f m (nI L, nI L, nI (dt D), sorts, numbers, ones, others, values, nI p, nI 0) = some r ∧ r.2.2.2.2.2.2.2.2 = flt w q ∧ ((f_X12_readsLine (nI (dt D)) (nI (db D)) (nI p) (nI e) x num (nI L) now prongs one other wards g).bind fun u => if u.1 = nI 0 then L_X12_orders_50 a1 (nI e) a2 a3 a4 a5 a6 a7 a8 a9 a10 g k0 m' (nI 0, u.2.1, u.2.2.1, u.2.2.2.1, u.2.2.2.2.1, u.2.2.2.2.2.1, u.2.2.2.2.2.2.1, u.2.2.2.2.2.2.2.1, u.2.2.2.2.2.2.2.2.1, u.2.2.2.2.2.2.2.2.2.1, u.2.2.2.2.2.2.2.2.2.2.1, u.2.2.2.2.2.2.2.2.2.2.2) else L_X12_orders_50 a1 (nI e) a2 a3 a4 a5 a6 a7 a8 a9 a10 g k0 m' (nI 1, u.2.1, u.2.2.1, u.2.2.2.1, u.2.2.2.2.1, u.2.2.2.2.2.1, u.2.2.2.2.2.2.1, u.2.2.2.2.2.2.2.1, u.2.2.2.2.2.2.2.2.1, u.2.2.2.2.2.2.2.2.2.1, u.2.2.2.2.2.2.2.2.2.2.1, u.2.2.2.2.2.2.2.2.2.2.2)) = k0 s8 ∧ s8.1 = nI 0 ∧ s8.2.2.2.2.1 = flt w q) ∨
    (∃ l so' nu' on' ot' va' p' s8 to', L + l.length ≤ 16 ∧ Lo_X4_read_12 (nI e) (nI n) f m (nI L, nI L, nI (dt D), sorts, numbers, ones, others, values, nI p, nI 0) = some (nI (L + l.length), to', so', nu', on', ot', va', p', nI 0) ∧ HAs so' nu' on' ot' va' L l ∧ (∀ i, i < L → so' i = sorts i ∧ nu' i = numbers i ∧ on' i = ones i ∧ ot' i = others i ∧ va' i = values i) ∧ VCs l D ∧ ((f_X12_readsLine (nI (dt D)) (nI (db D)) (nI p) (nI e) x num (nI L) now prongs one other wards g).bind fun u => if u.1 = nI 0 then L_X12_orders_50 a1 (nI e) a2 a3 a4 a5 a6 a7 a8 a9 a10 g k0 m' (nI 0, u.2.1, u.2.2.1, u.2.2.2.1, u.2.2.2.2.1, u.2.2.2.2.2.1, u.2.2.2.2.2.2.1, u.2.2.2.2.2.2.2.1, u.2.2.2.2.2.2.2.2.1, u.2.2.2.2.2.2.2.2.2.1, u.2.2.2.2.2.2.2.2.2.2.1, u.2.2.2.2.2.2.2.2.2.2.2) else L_X12_orders_50 a1 (nI e) a2 a3 a4 a5 a6 a7 a8 a9 a10 g k0 m' (nI 1, u.2.1, u.2.2.1, u.2.2.2.1, u.2.2.2.2.1, u.2.2.2.2.2.1, u.2.2.2.2.2.2.1, u.2.2.2.2.2.2.2.1, u.2.2.2.2.2.2.2.2.1, u.2.2.2.2.2.2.2.2.2.1, u.2.2.2.2.2.2.2.2.2.2.1, u.2.2.2.2.2.2.2.2.2.2.2)) = k0 s8 ∧ s8.1 = nI 1 ∧ s8.2.2.2.2.2.2.1 = nI (L + l.length) ∧ MTown s8.2.2.2.2.2.2.2.1 (ldT l T) ∧ MDoors s8.2.1 s8.2.2.1 s8.2.2.2.2.2.2.2.2.2.1 s8.2.2.2.2.2.2.2.2.2.2.1 s8.2.2.2.2.2.2.2.2.2.2.2 s8.2.2.2.2.2.2.2.2.1 (ldD l D)) := by
  intro d
  induction d with
  | zero =>
    intro L p D T x num sorts numbers ones others values now prongs one other wards m m' hL hp hW dM hM hm hm'
    obtain ⟨m, rfl⟩ : ∃ k, m = k + 1 := ⟨m - 1, by omega⟩
    obtain ⟨m', rfl⟩ : ∃ k, m' = k + 1 := ⟨m' - 1, by omega⟩
    have q16 : (nI 16 < nI L) = False := by rw [lt_nI (by omega) (by omega)]; exact eq_false (by omega)
    rcases line_ok (x := x) (num := num) (sorts := sorts) (numbers := numbers) (ones := ones) (others := others) (values := values) tC tM ht he hp (show L ≤ 16 by omega) hW dM hM with ⟨w, q, r, r', C, M, h1, h2, h3, E1, E2, E3⟩ | ⟨c, p', so', nu', on', ot', va', r', C, hA, hO, M, E1, E2, E3, E4, E5, E6, E7, E8, E9, E10⟩
    · obtain ⟨r1, r2, r3, r4, r5, r6, r7, r8, r9⟩ := r
      obtain ⟨y1, y2, y3, y4, y5, y6, y7, y8, y9, y10, y11, y12⟩ := r'
      dsimp only at E1 E2 E3
      subst E1; subst E2; subst E3
      have hf := flt_ne w q h1 (by omega) (by omega)
      have C' : Lo_X4_read_12 (nI e) (nI n) f (m + 1) (nI L, nI L, nI (dt D), sorts, numbers, ones, others, values, nI p, nI 0) = some (r1, r2, r3, r4, r5, r6, r7, r8, flt w q) := by
        rw [st_X4_read_12]
        simp only [ltz]
        simp (disch := omega) only [↓reduceIte, ↓some_bind, ↓nm_eq, ↓jn_eq, ↓wr_nI, ↓rd_nI, ↓gb0, ↓gb1, n10, n00, q16, ↓bind_of sound_0, ↓bind_of C, ↓bind_of (sound_n hf)]
      have M' : ((f_X12_readsLine (nI (dt D)) (nI (db D)) (nI p) (nI e) x num (nI L) now prongs one other wards g).bind fun u => if u.1 = nI 0 then L_X12_orders_50 a1 (nI e) a2 a3 a4 a5 a6 a7 a8 a9 a10 g k0 (m' + 1) (nI 0, u.2.1, u.2.2.1, u.2.2.2.1, u.2.2.2.2.1, u.2.2.2.2.2.1, u.2.2.2.2.2.2.1, u.2.2.2.2.2.2.2.1, u.2.2.2.2.2.2.2.2.1, u.2.2.2.2.2.2.2.2.2.1, u.2.2.2.2.2.2.2.2.2.2.1, u.2.2.2.2.2.2.2.2.2.2.2) else L_X12_orders_50 a1 (nI e) a2 a3 a4 a5 a6 a7 a8 a9 a10 g k0 (m' + 1) (nI 1, u.2.1, u.2.2.1, u.2.2.2.1, u.2.2.2.2.1, u.2.2.2.2.2.1, u.2.2.2.2.2.2.1, u.2.2.2.2.2.2.2.1, u.2.2.2.2.2.2.2.2.1, u.2.2.2.2.2.2.2.2.2.1, u.2.2.2.2.2.2.2.2.2.2.1, u.2.2.2.2.2.2.2.2.2.2.2)) = k0 (nI 0, y2, y3, y4, flt w q, y6, y7, y8, y9, y10, y11, y12) := by
        rw [M, some_bind]
        dsimp only
        rw [if_pos rfl, st_X12_orders_50]
        simp only [ltz]
        simp (disch := omega) only [↓reduceIte, ↓some_bind, ↓nm_eq, ↓jn_eq, ↓wr_nI, ↓rd_nI, ↓gb0, ↓gb1, n10, n00]
      exact Or.inl ⟨w, q, _, _, h1, h2, h3, C', rfl, M', rfl, rfl⟩
    · omega
  | succ d ih =>
    intro L p D T x num sorts numbers ones others values now prongs one other wards m m' hL hp hW dM hM hm hm'
    obtain ⟨m, rfl⟩ : ∃ k, m = k + 1 + 1 := ⟨m - 2, by omega⟩
    obtain ⟨m', rfl⟩ : ∃ k, m' = k + 1 + 1 := ⟨m' - 2, by omega⟩
    have q16 : (nI 16 < nI L) = False := by rw [lt_nI (by omega) (by omega)]; exact eq_false (by omega)
    have q17 : (nI 16 < nI (L + 1)) = False := by rw [lt_nI (by omega) (by omega)]; exact eq_false (by omega)
    rcases line_ok (x := x) (num := num) (sorts := sorts) (numbers := numbers) (ones := ones) (others := others) (values := values) tC tM ht he hp (show L ≤ 16 by omega) hW dM hM with ⟨w, q, r, r', C, M, h1, h2, h3, E1, E2, E3⟩ | ⟨c, p', so', nu', on', ot', va', r', C, hA, hO, M, E1, E2, E3, E4, E5, E6, E7, E8, E9, E10⟩
    · obtain ⟨r1, r2, r3, r4, r5, r6, r7, r8, r9⟩ := r
      obtain ⟨y1, y2, y3, y4, y5, y6, y7, y8, y9, y10, y11, y12⟩ := r'
      dsimp only at E1 E2 E3
      subst E1; subst E2; subst E3
      have hf := flt_ne w q h1 (by omega) (by omega)
      have C' : Lo_X4_read_12 (nI e) (nI n) f (m + 1 + 1) (nI L, nI L, nI (dt D), sorts, numbers, ones, others, values, nI p, nI 0) = some (r1, r2, r3, r4, r5, r6, r7, r8, flt w q) := by
        rw [st_X4_read_12]
        simp only [ltz]
        simp (disch := omega) only [↓reduceIte, ↓some_bind, ↓nm_eq, ↓jn_eq, ↓wr_nI, ↓rd_nI, ↓gb0, ↓gb1, n10, n00, q16, ↓bind_of sound_0, ↓bind_of C, ↓bind_of (sound_n hf)]
      have M' : ((f_X12_readsLine (nI (dt D)) (nI (db D)) (nI p) (nI e) x num (nI L) now prongs one other wards g).bind fun u => if u.1 = nI 0 then L_X12_orders_50 a1 (nI e) a2 a3 a4 a5 a6 a7 a8 a9 a10 g k0 (m' + 1 + 1) (nI 0, u.2.1, u.2.2.1, u.2.2.2.1, u.2.2.2.2.1, u.2.2.2.2.2.1, u.2.2.2.2.2.2.1, u.2.2.2.2.2.2.2.1, u.2.2.2.2.2.2.2.2.1, u.2.2.2.2.2.2.2.2.2.1, u.2.2.2.2.2.2.2.2.2.2.1, u.2.2.2.2.2.2.2.2.2.2.2) else L_X12_orders_50 a1 (nI e) a2 a3 a4 a5 a6 a7 a8 a9 a10 g k0 (m' + 1 + 1) (nI 1, u.2.1, u.2.2.1, u.2.2.2.1, u.2.2.2.2.1, u.2.2.2.2.2.1, u.2.2.2.2.2.2.1, u.2.2.2.2.2.2.2.1, u.2.2.2.2.2.2.2.2.1, u.2.2.2.2.2.2.2.2.2.1, u.2.2.2.2.2.2.2.2.2.2.1, u.2.2.2.2.2.2.2.2.2.2.2)) = k0 (nI 0, y2, y3, y4, flt w q, y6, y7, y8, y9, y10, y11, y12) := by
        rw [M, some_bind]
        dsimp only
        rw [if_pos rfl, st_X12_orders_50]
        simp only [ltz]
        simp (disch := omega) only [↓reduceIte, ↓some_bind, ↓nm_eq, ↓jn_eq, ↓wr_nI, ↓rd_nI, ↓gb0, ↓gb1, n10, n00]
      exact Or.inl ⟨w, q, _, _, h1, h2, h3, C', rfl, M', rfl, rfl⟩
    · obtain ⟨y1, y2, y3, y4, y5, y6, y7, y8, y9, y10, y11, y12⟩ := r'
      dsimp only at E1 E2 E3 E4 E5 E6
      subst E1; subst E2; subst E3; subst E4
      obtain ⟨rfl, rfl, dM'⟩ := E6
      have dM2 : MDoors (nI (dt (apD c D))) (nI (db (apD c D))) y10 y11 y12 y9 (apD c D) := ⟨rfl, rfl, dM'⟩
      have hW2 := W_apD hW E7
      have he9 := ht.1
      have hpe : p' < 100000 := by omega
      rw [st_X4_read_12, M, some_bind]
      dsimp only
      rw [if_neg (show ¬ nI 1 = nI 0 by decide), st_X12_orders_50]
      simp only [ltz]
      by_cases hend : p' = e
      · have a1 : (nI p' < nI e) = False := by rw [lt_nI (by omega) (by omega)]; exact eq_false (by omega)
        have a2 : (nI e ≤ nI p') = True := by rw [le_nI (by omega) (by omega)]; exact eq_true (by omega)
        have aE : f_X7_isAtEnd (nI e) (nI p') = some (nI 1) := by unfold f_X7_isAtEnd; simp only [ltz, a1, ↓reduceIte]
        simp (disch := omega) only [↓reduceIte, ↓some_bind, ↓nm_eq, ↓jn_eq, ↓wr_nI, ↓rd_nI, ↓gb0, ↓gb1, n10, n00, q16, a2, ↓bind_of sound_0, ↓bind_of C, ↓bind_of aE]
        refine Or.inr ⟨[c], _, _, _, _, _, _, _, _, show L + 1 ≤ 16 by omega, rfl, ⟨hA, trivial⟩, fun i hi => hO i (by omega), ⟨E7, trivial⟩, rfl, rfl, rfl, E5, dM2⟩
      · have a1 : (nI p' < nI e) = True := by rw [lt_nI (by omega) (by omega)]; exact eq_true (by omega)
        have a2 : (nI e ≤ nI p') = False := by rw [le_nI (by omega) (by omega)]; exact eq_false (by omega)
        have aE : f_X7_isAtEnd (nI e) (nI p') = some (nI 0) := by unfold f_X7_isAtEnd; simp only [ltz, a1, ↓reduceIte]
        by_cases h59 : hN e b p' = 59
        · have wc := wantY tC ht he hpe (show 59 < 256 by omega) h59
          have wm := takesY (x := y5) tC.1 tM ht he hpe (show 59 < 256 by omega) h59
          simp (disch := omega) only [↓reduceIte, ↓some_bind, ↓nm_eq, ↓jn_eq, ↓wr_nI, ↓rd_nI, ↓gb0, ↓gb1, n10, n00, q16, a2, add_nI, ↓bind_of sound_0, ↓bind_of C, ↓bind_of aE, ↓bind_of wc, ↓bind_of wm]
          rcases ih (L + 1) (p' + 1) (apD c D) (apT c T) y5 y6 so' nu' on' ot' va' y8 y9 y10 y11 y12 (m + 1) (m' + 1) (by omega) (by have := hN_in ht h59 (by omega); omega) hW2 dM2 E5 (by omega) (by omega) with ⟨w, q, r, s8, h1, h2, h3, h4, h5, h6, h7, h8⟩ | ⟨l, so2, nu2, on2, ot2, va2, p2, s8, to2, h1, h2, h3, h4, h5, h6, h7, h8, h9, h10⟩
          · exact Or.inl ⟨w, q, r, s8, h1, h2, h3, h4, h5, h6, h7, h8⟩
          · have hl : L + (c :: l).length = L + 1 + l.length := by rw [List.length_cons]; omega
            have k := h4 L (by omega)
            refine Or.inr ⟨c :: l, so2, nu2, on2, ot2, va2, p2, s8, to2, by omega, ?_, ⟨?_, h3⟩, ?_, ⟨E7, h5⟩, h6, h7, ?_, h9, h10⟩
            · rw [hl]; exact h2
            · obtain ⟨i1, i2, i3, i4⟩ := hA
              exact ⟨k.1.trans i1, k.2.1.trans i2, fun h => ⟨k.2.2.1.trans (i3 h).1, k.2.2.2.1.trans (i3 h).2⟩, fun h => k.2.2.2.2.trans (i4 h)⟩
            · intro i hi
              have k1 := h4 i (by omega)
              have k2 := hO i (by omega)
              exact ⟨k1.1.trans k2.1, k1.2.1.trans k2.2.1, k1.2.2.1.trans k2.2.2.1, k1.2.2.2.1.trans k2.2.2.2.1, k1.2.2.2.2.trans k2.2.2.2.2⟩
            · rw [hl]; exact h8
        · have wc := wantN tC ht he hpe (show 59 < 256 by omega) h59
          have wm := takesN (x := y5) tC.1 tM ht he hpe (show 59 < 256 by omega) h59
          have hf := flt_ne 1 p' (by omega) (by omega) hpe
          simp (disch := omega) only [↓reduceIte, ↓some_bind, ↓nm_eq, ↓jn_eq, ↓wr_nI, ↓rd_nI, ↓gb0, ↓gb1, n10, n00, q16, a2, add_nI, ↓bind_of sound_0, ↓bind_of C, ↓bind_of aE, ↓bind_of wc, ↓bind_of wm]
          rw [st_X4_read_12, st_X12_orders_50]
          simp only [ltz]
          simp (disch := omega) only [↓reduceIte, ↓some_bind, ↓nm_eq, ↓jn_eq, ↓wr_nI, ↓rd_nI, ↓gb0, ↓gb1, n10, n00, q17, ↓bind_of (sound_n hf)]
          exact Or.inl ⟨1, p', _, _, by omega, by omega, by have := ht.1; omega, rfl, rfl, rfl, rfl, rfl⟩
theorem upd_upd (A : Nat → Int32) (d : Nat) (v u : Int32) : upd (upd A d v) d u = upd A d u := by
  funext i
  unfold upd
  by_cases h : i = d
  · rw [if_pos h, if_pos h]
  · rw [if_neg h, if_neg h, if_neg h]
theorem andn_cond {D : DS} (hW : WDoors D) {d k : Nat} (hd : d < 24) (hk : k < 6) : ((nI (wa D d) &&& (nI (pr D k) ^^^ (-nI 1))) = nI 0) = (fitB D d k = true) := by
  have h := andn_fit (wa D d) (by have := (hW.2.2.2.1 d hd).2.2; omega) (pr D k) (by have := hW.2.2.2.2.2 k hk; omega)
  show _ = ((wa D d &&& pr D k == wa D d) = true)
  rw [← h, decide_eq_true_eq]
  rfl
theorem fitAll_C {D : DS} {wards bent fits : Nat → Int32} (h5 : ∀ d, d < 24 → wards d = nI (wa D d)) (h7 : ∀ k, k < 6 → bent k = nI (pr D k)) (hW : WDoors D) : f_X0_fitAll wards fits bent = some (fun i => if i < 24 then nI (fitS D i) else fits i) := by
  have inner : ∀ (d : Nat) (F : Nat → Int32) (k0 : (Nat → Int32) → Option (Nat → Int32)), d < 24 → L_X0_fitAll_17 wards bent (nI d) k0 fu (nI 0, upd F d (nI 0)) = k0 (upd F d (nI (fitS D d))) := by
    intro d F k0 hd
    unfold L_X0_fitAll_17
    refine lp_run (fun k => (nI k, upd F d (nI (bitsN (fitB D d) k)))) 6 _ ?_ ?_ (fu_gt (by omega))
    · intro go k hk
      have q6 : (nI 6 ≤ nI k) = False := by rw [le_nI (by omega) (by omega)]; exact eq_false (by omega)
      have a0 := upd_at F d (nI (bitsN (fitB D d) k))
      simp (disch := omega) only [ltz, q6, ↓reduceIte, nm_eq, rd_nI, wr_nI, h5 d hd, h7 k hk, andn_cond hW hd hk, a0, or_bit, upd_upd, add_nI]
      rcases Bool.eq_false_or_eq_true (fitB D d k) with hb | hb <;> simp [hb, bitsN]
    · intro go
      have q6 : (nI 6 ≤ nI 6) = True := by rw [le_nI (by omega) (by omega)]; exact eq_true (by omega)
      simp only [ltz, q6, ↓reduceIte]
      rfl
  unfold f_X0_fitAll L_X0_fitAll_2
  refine lp_run (fun k => (nI k, fun i => if i < k then nI (fitS D i) else fits i)) 24 _ ?_ ?_ (fu_gt (by omega))
  · intro go k hk
    have q : (nI 24 ≤ nI k) = False := by rw [le_nI (by omega) (by omega)]; exact eq_false (by omega)
    simp (disch := omega) only [ltz, q, ↓reduceIte, nm_eq, wr_nI, inner, add_nI]
    congr 2
    funext i
    unfold upd
    by_cases h : i = k
    · rw [if_pos h, if_pos (by omega), h]
    · rw [if_neg h]
      dsimp only
      by_cases h2 : i < k
      · rw [if_pos h2, if_pos (by omega)]
      · rw [if_neg h2, if_neg (by omega)]
  · intro go
    have q : (nI 24 ≤ nI 24) = True := by rw [le_nI (by omega) (by omega)]; exact eq_true (by omega)
    simp only [ltz, q, ↓reduceIte]
theorem in_Y {a l h : Nat} (h1 : l ≤ a) (h2 : a ≤ h) (hh : h < 2147483648) : f_X11_isWithin (nI a) (nI l) (nI h) = some (nI 1) := by
  rw [win_in, in_nI (by omega) (by omega) hh, if_pos (by simp; omega)]
theorem carry_ok {so nu on_ ot_ va fits : Nat → Int32} {N : Nat} (k0 : _) : ∀ (l : List CMD) (L : Nat) (D : DS) (T : TS) (told barred : Int32) (one other wards bent rust : Nat → Int32) (m : Nat), L + l.length = N → N ≤ 16 → WDoors D → VCs l D → HAs so nu on_ ot_ va L l → MDoors told barred one other wards bent D → (∀ i, i < 24 → rust i = nI (ru T i)) → l.length < m →
    ∃ told' barred' one' other' wards' bent' rust', L_X4_carryOut_2 (nI N) so nu on_ ot_ va fits k0 m (nI L, told, barred, one, other, wards, bent, rust) = k0 (told', barred', one', other', wards', bent', rust') ∧ MDoors told' barred' one' other' wards' bent' (ldD l D) ∧ (∀ i, i < 24 → rust' i = nI (ru (ldT l T) i)) := by
  have z03 : (nI 0 = nI 3) = False := eq_false (by decide)
  have z13 : (nI 1 = nI 3) = False := eq_false (by decide)
  have z23 : (nI 2 = nI 3) = False := eq_false (by decide)
  have z10 : (nI 1 = nI 0) = False := eq_false (by decide)
  have z20 : (nI 2 = nI 0) = False := eq_false (by decide)
  have z21 : (nI 2 = nI 1) = False := eq_false (by decide)
  intro l
  induction l with
  | nil =>
    intro L D T told barred one other wards bent rust m hL hN hW hV hH hM hr hm
    obtain ⟨m, rfl⟩ : ∃ k, m = k + 1 := ⟨m - 1, by simp only [List.length_nil] at hm; omega⟩
    have q : (nI N ≤ nI L) = True := by rw [le_nI (by omega) (by omega)]; exact eq_true (by simp only [List.length_nil] at hL; omega)
    rw [st_X4_carryOut_2]
    simp only [q, ↓reduceIte]
    exact ⟨_, _, _, _, _, _, _, rfl, hM, hr⟩
  | cons c l ih =>
    intro L D T told barred one other wards bent rust m hL hN hW hV hH hM hr hm
    rw [List.length_cons] at hL hm
    obtain ⟨m, rfl⟩ : ∃ k, m = k + 1 := ⟨m - 1, by omega⟩
    have q : (nI N ≤ nI L) = False := by rw [le_nI (by omega) (by omega)]; exact eq_false (by omega)
    have q2 : (nI 16 ≤ nI L) = False := by rw [le_nI (by omega) (by omega)]; exact eq_false (by omega)
    obtain ⟨hA, hH⟩ := hH
    obtain ⟨hv, hV⟩ := hV
    have hW2 := W_apD hW hv
    obtain ⟨c1, c2, c3, c4, c5⟩ := c
    obtain ⟨i1, i2, i3, i4⟩ := hA
    obtain ⟨rfl, rfl, d3, d4, d5, d6⟩ := hM
    have j1 : so L = nI c1 := i1
    have j2 : nu L = nI c2 := i2
    clear i1 i2
    rw [st_X4_carryOut_2]
    simp only [ltz]
    rcases hv with ⟨h1, h2, h3⟩ | ⟨h1, h2, h3, h4, h5, h6⟩ | ⟨h1, h2, h3⟩
    · have h1 : c1 = 3 := h1
      subst h1
      have h2 : c2 < 6 := h2
      have j4 : va L = nI c5 := i4 (Or.inr rfl)
      have hb : f_X0_bend bent (nI c2) (nI c5) = some (upd bent c2 (nI c5)) := by
        unfold f_X0_bend
        simp only [ltz]
        simp (disch := omega) only [↓reduceIte, ↓some_bind, ↓nm_eq, ↓jn_eq, ↓wr_nI, ↓rd_nI, ↓gb0, ↓gb1, n10, n00, ↓bind_of (in_Y (a := c2) (l := 0) (h := 5) (by omega) (by omega) (by omega))]
      simp (disch := omega) only [↓reduceIte, ↓some_bind, ↓nm_eq, ↓jn_eq, ↓wr_nI, ↓rd_nI, ↓gb0, ↓gb1, n10, n00, q, q2, j1, j2, j4, eq_self, ↓bind_of hb, add_nI]
      exact ih (L + 1) _ T _ _ _ _ _ _ _ m (by omega) hN hW2 hV hH ⟨rfl, rfl, d3, d4, d5, upd_nI d6⟩ hr (by omega)
    · have h1 : c1 = 0 := h1
      subst h1
      have h2 : c2 < 24 := h2
      have j4 : va L = nI c5 := i4 (Or.inl rfl)
      have j3 : on_ L = nI c3 ∧ ot_ L = nI c4 := i3 rfl
      have hb : f_X0_tell (nI (dt D)) (nI (db D)) one other wards (nI c2) (nI c3) (nI c4) (nI c5) = some (nI (dt D ||| 2 ^ c2), nI (clr (db D) c2), upd one c2 (nI c3), upd other c2 (nI c4), upd wards c2 (nI c5)) := by
        unfold f_X0_tell
        simp only [ltz]
        simp (disch := omega) only [↓reduceIte, ↓some_bind, ↓nm_eq, ↓jn_eq, ↓wr_nI, ↓rd_nI, ↓gb0, ↓gb1, n10, n00, ↓bind_of (in_Y (a := c2) (l := 0) (h := 23) (by omega) (by omega) (by omega)), set_nI h2, clr_nI h2]
      have hu : f_X9_unrust rust (nI c2) = some (upd rust c2 (nI 0)) := by
        unfold f_X9_unrust
        simp only [ltz]
        simp (disch := omega) only [↓reduceIte, ↓some_bind, ↓nm_eq, ↓jn_eq, ↓wr_nI, ↓rd_nI, ↓gb0, ↓gb1, n10, n00, ↓bind_of (in_Y (a := c2) (l := 0) (h := 23) (by omega) (by omega) (by omega))]
      simp (disch := omega) only [↓reduceIte, ↓some_bind, ↓nm_eq, ↓jn_eq, ↓wr_nI, ↓rd_nI, ↓gb0, ↓gb1, n10, n00, q, q2, j1, j2, j4, j3.1, j3.2, z03, ↓bind_of hb, ↓bind_of hu, add_nI]
      exact ih (L + 1) _ (apT (mkC 0 c2 c3 c4 c5) T) _ _ _ _ _ _ _ m (by omega) hN hW2 hV hH ⟨rfl, rfl, upd_nI d3, upd_nI d4, upd_nI d5, d6⟩ (upd_nI hr) (by omega)
    · have g2 : c2 < 24 := h2
      have g3 : (dt D).testBit c2 = true := h3
      have hd := (door1 hW g2 g3).1
      rcases h1 with h1 | h1
      · have h1 : c1 = 1 := h1
        subst h1
        have hb : f_X0_bar (nI (dt D)) (nI (db D)) (nI c2) (nI 1) = some (nI (db D ||| 2 ^ c2)) := by
          unfold f_X0_bar
          simp only [ltz]
          simp (disch := omega) only [↓reduceIte, ↓some_bind, ↓nm_eq, ↓jn_eq, ↓wr_nI, ↓rd_nI, ↓gb0, ↓gb1, n10, n00, ↓bind_of hd, set_nI g2]
        simp (disch := omega) only [↓reduceIte, ↓some_bind, ↓nm_eq, ↓jn_eq, ↓wr_nI, ↓rd_nI, ↓gb0, ↓gb1, n10, n00, q, q2, j1, j2, z13, z10, eq_self, ↓bind_of hb, add_nI]
        exact ih (L + 1) _ T _ _ _ _ _ _ _ m (by omega) hN hW2 hV hH ⟨rfl, rfl, d3, d4, d5, d6⟩ hr (by omega)
      · have h1 : c1 = 2 := h1
        subst h1
        have hb : f_X0_bar (nI (dt D)) (nI (db D)) (nI c2) (nI 0) = some (nI (clr (db D) c2)) := by
          unfold f_X0_bar
          simp only [ltz]
          simp (disch := omega) only [↓reduceIte, ↓some_bind, ↓nm_eq, ↓jn_eq, ↓wr_nI, ↓rd_nI, ↓gb0, ↓gb1, n10, n00, ↓bind_of hd, clr_nI g2]
        simp (disch := omega) only [↓reduceIte, ↓some_bind, ↓nm_eq, ↓jn_eq, ↓wr_nI, ↓rd_nI, ↓gb0, ↓gb1, n10, n00, q, q2, j1, j2, z23, z20, z21, eq_self, ↓bind_of hb, add_nI]
        exact ih (L + 1) _ T _ _ _ _ _ _ _ m (by omega) hN hW2 hV hH ⟨rfl, rfl, d3, d4, d5, d6⟩ hr (by omega)
