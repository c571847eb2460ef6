/-! THE LAW: the model's conditions, step by step -/
def K0c : Int32 × Int32 × Int32 × Int32 × Int32 × Int32 × (Nat → Int32) × (Nat → Int32) → Option (Int32 × Int32 × Int32 × Int32 × Int32 × Int32 × Int32 × (Nat → Int32) × (Nat → Int32)) := (fun s26 => (f_X12_wrongAt s26.2.1 (1 : Int32) s26.1).bind fun u27 => gb u27.1 <| some (u27.1, s26.1, u27.2, s26.2.2.1, s26.2.2.2.1, s26.2.2.2.2.1, s26.2.2.2.2.2.1, s26.2.2.2.2.2.2.1, s26.2.2.2.2.2.2.2))
def KCc (t_length0 : Int32) (t_tape : Nat → Int32) (k0 : Int32 × Int32 × Int32 × Int32 × Int32 × Int32 × (Nat → Int32) × (Nat → Int32) → Option (Int32 × Int32 × Int32 × Int32 × Int32 × Int32 × Int32 × (Nat → Int32) × (Nat → Int32))) (m : Nat) (x num : Int32) (wa : Nat → Int32) : Int32 × Int32 × Int32 × Int32 × (Nat → Int32) → Option (Int32 × Int32 × Int32 × Int32 × Int32 × Int32 × Int32 × (Nat → Int32) × (Nat → Int32)) := (fun s16 => (f_X12_here s16.1 t_length0 t_tape).bind fun u17 => jn (fun s18 : Unit => (f_X12_here s16.1 t_length0 t_tape).bind fun u19 => jn (fun s20 : Int32 => (f_X12_lands s16.2.2.1 s16.2.2.2.1 s16.2.2.2.2 wa s20).bind fun u21 => (f_X12_here s16.1 t_length0 t_tape).bind fun u22 => jn (fun s23 : Int32 => (f_X12_jumps s16.1 s16.2.2.1 u21.1 u21.2 wa s23).bind fun u24 => (L_X12_readsCondition_40 t_length0 t_tape k0 m) (u24.1, x, num, s16.2.1, u24.2.1, u24.2.2.1, u24.2.2.2.1, u24.2.2.2.2)) fun j215 => if u22 = (38 : Int32) then (j215 (11 : Int32)) else j215 (12 : Int32)) fun j195 => if u19 = (124 : Int32) then (j195 (1 : Int32)) else j195 (0 : Int32)) fun j180 => if u17 = (38 : Int32) then (j180 ()) else (f_X12_here s16.1 t_length0 t_tape).bind fun u25 => if u25 = (124 : Int32) then (j180 ()) else k0 (s16.1, x, num, s16.2.1, s16.2.2.1, s16.2.2.2.1, s16.2.2.2.2, wa))
def TBm (e : Nat) (g : Nat → Int32) (m p : Nat) (x num : Int32) (o c : Nat) (W : List Nat) (sa wa : Nat → Int32) : Option (Int32 × Int32 × Int32 × Int32 × Int32 × Int32 × Int32 × (Nat → Int32) × (Nat → Int32)) := L_X12_readsCondition_40 (nI e) g K0c m (nI p, x, num, nI o, nI c, nI W.length, sa, wa)
def PLm (e : Nat) (g : Nat → Int32) (j m p : Nat) (x num : Int32) (o c : Nat) (W : List Nat) (sa wa : Nat → Int32) : Option (Int32 × Int32 × Int32 × Int32 × Int32 × Int32 × Int32 × (Nat → Int32) × (Nat → Int32)) := L_X12_readsCondition_92 (nI e) x num g wa (KCc (nI e) g K0c m x num wa) j (nI p, nI o, nI c, nI W.length, sa)
def EPm (e : Nat) (g : Nat → Int32) (j1 j2 m p : Nat) (x num : Int32) (o c : Nat) (W : List Nat) (sa wa : Nat → Int32) : Option (Int32 × Int32 × Int32 × Int32 × Int32 × Int32 × Int32 × (Nat → Int32) × (Nat → Int32)) := (L_X12_endsPiece_0 wa j1 (nI o, nI c, nI W.length, sa)).bind fun u7 => L_X12_readsCondition_92 (nI e) x num g wa (KCc (nI e) g K0c m x num wa) j2 (nI p, u7.1, u7.2.1, u7.2.2.1, u7.2.2.2)
def TG (k : Nat) (W : List Nat) : Prop := ∃ x r, W = x :: r ∧ k ≤ x / 1048576 ∧ x < 2147483648
theorem TG_TO {k : Nat} {W : List Nat} (h : TG k W) (hk : 10 ≤ k) : TO W := by
  obtain ⟨x, r, rfl, h1, h2⟩ := h
  exact TO_cons (by omega) h2
theorem TG_ne {k c : Nat} {W : List Nat} (h : TG k W) (hc : c < k) : (tpI W = nI c) = False := by
  obtain ⟨x, r, rfl, h1, h2⟩ := h
  show (nI (x / 1048576) = nI c) = False
  rw [eq_nI (by omega) (by omega)]
  exact eq_false (by omega)
theorem TG_mono {k k' : Nat} {W : List Nat} (h : TG k W) (hk : k' ≤ k) : TG k' W := by
  obtain ⟨x, r, h0, h1, h2⟩ := h
  exact ⟨x, r, h0, by omega, h2⟩
theorem TG_len {k : Nat} {W : List Nat} (h : TG k W) : 1 ≤ W.length := by
  obtain ⟨x, r, rfl, h1, h2⟩ := h
  rw [List.length_cons]; omega
theorem st_X12_readsCondition_40 (t_length0 : Int32) (t_tape : (Nat → Int32)) (k0 : Int32 × Int32 × Int32 × Int32 × Int32 × Int32 × (Nat → Int32) × (Nat → Int32) → Option (Int32 × Int32 × Int32 × Int32 × Int32 × Int32 × Int32 × (Nat → Int32) × (Nat → Int32))) (m : Nat) (s : Int32 × Int32 × Int32 × Int32 × Int32 × Int32 × (Nat → Int32) × (Nat → Int32)) : L_X12_readsCondition_40 t_length0 t_tape k0 (m + 1) s = ((f_X12_here s.1 t_length0 t_tape).bind fun u3 => jn (fun s4 : Unit => (f_X12_here s.1 t_length0 t_tape).bind fun u5 => jn (fun s6 : Int32 => (f_X12_opens s.1 s.2.1 s.2.2.2.1 s.2.2.2.2.2.1 s.2.2.2.2.2.2.2 s6).bind fun u7 => if u7.1 = 0 then (some ((0 : Int32), u7.2.1, u7.2.2.1, s.2.2.1, u7.2.2.2.1, s.2.2.2.2.1, u7.2.2.2.2.1, s.2.2.2.2.2.2.1, u7.2.2.2.2.2)) else (L_X12_readsCondition_40 t_length0 t_tape k0 m) (u7.2.1, u7.2.2.1, s.2.2.1, u7.2.2.2.1, s.2.2.2.2.1, u7.2.2.2.2.1, s.2.2.2.2.2.2.1, u7.2.2.2.2.2)) fun j75 => if u5 = (33 : Int32) then (j75 (10 : Int32)) else j75 (13 : Int32)) fun j58 => if u3 = (33 : Int32) then (j58 ()) else (f_X12_here s.1 t_length0 t_tape).bind fun u8 => if u8 = (40 : Int32) then (j58 ()) else (f_X12_readsCompared s.1 t_length0 s.2.1 s.2.2.1 s.2.2.2.1 s.2.2.2.2.1 s.2.2.2.2.2.1 t_tape s.2.2.2.2.2.2.1 s.2.2.2.2.2.2.2).bind fun u9 => if u9.1 = 0 then (some ((0 : Int32), u9.2.1, u9.2.2.1, u9.2.2.2.1, u9.2.2.2.2.1, u9.2.2.2.2.2.1, u9.2.2.2.2.2.2.1, u9.2.2.2.2.2.2.2.1, u9.2.2.2.2.2.2.2.2)) else L_X12_readsCondition_92 t_length0 u9.2.2.1 u9.2.2.2.1 t_tape u9.2.2.2.2.2.2.2.2 (fun s16 => (f_X12_here s16.1 t_length0 t_tape).bind fun u17 => jn (fun s18 : Unit => (f_X12_here s16.1 t_length0 t_tape).bind fun u19 => jn (fun s20 : Int32 => (f_X12_lands s16.2.2.1 s16.2.2.2.1 s16.2.2.2.2 u9.2.2.2.2.2.2.2.2 s20).bind fun u21 => (f_X12_here s16.1 t_length0 t_tape).bind fun u22 => jn (fun s23 : Int32 => (f_X12_jumps s16.1 s16.2.2.1 u21.1 u21.2 u9.2.2.2.2.2.2.2.2 s23).bind fun u24 => (L_X12_readsCondition_40 t_length0 t_tape k0 m) (u24.1, u9.2.2.1, u9.2.2.2.1, s16.2.1, u24.2.1, u24.2.2.1, u24.2.2.2.1, u24.2.2.2.2)) fun j215 => if u22 = (38 : Int32) then (j215 (11 : Int32)) else j215 (12 : Int32)) fun j195 => if u19 = (124 : Int32) then (j195 (1 : Int32)) else j195 (0 : Int32)) fun j180 => if u17 = (38 : Int32) then (j180 ()) else (f_X12_here s16.1 t_length0 t_tape).bind fun u25 => if u25 = (124 : Int32) then (j180 ()) else k0 (s16.1, u9.2.2.1, u9.2.2.2.1, s16.2.1, s16.2.2.1, s16.2.2.2.1, s16.2.2.2.2, u9.2.2.2.2.2.2.2.2)) fu (u9.2.1, u9.2.2.2.2.1, u9.2.2.2.2.2.1, u9.2.2.2.2.2.2.1, u9.2.2.2.2.2.2.2.1)) := rfl
theorem st_X12_readsCondition_92 (t_length0 : Int32) (t_fault : Int32) (t_number0 : Int32) (t_tape : (Nat → Int32)) (t_waitsAt : (Nat → Int32)) (k0 : Int32 × Int32 × Int32 × Int32 × (Nat → Int32) → Option (Int32 × Int32 × Int32 × Int32 × Int32 × Int32 × Int32 × (Nat → Int32) × (Nat → Int32))) (m : Nat) (s : Int32 × Int32 × Int32 × Int32 × (Nat → Int32)) : L_X12_readsCondition_92 t_length0 t_fault t_number0 t_tape t_waitsAt k0 (m + 1) s = ((f_X12_here s.1 t_length0 t_tape).bind fun u10 => if u10 = (41 : Int32) then ((f_X12_lands s.2.2.1 s.2.2.2.1 s.2.2.2.2 t_waitsAt (1 : Int32)).bind fun u11 => nm (u11.1 - (1 : Int32)) fun v12 => nm (s.2.1 - (1 : Int32)) fun v13 => nm (s.1 + (1 : Int32)) fun v14 => if v12 = 0 then (some ((1 : Int32), v14, t_fault, t_number0, v13, s.2.2.1, v12, u11.2, t_waitsAt)) else (f_X12_endsPiece v13 s.2.2.1 v12 u11.2 t_waitsAt).bind fun u15 => (L_X12_readsCondition_92 t_length0 t_fault t_number0 t_tape t_waitsAt k0 m) (v14, u15.1, u15.2.1, u15.2.2.1, u15.2.2.2)) else k0 (s.1, s.2.1, s.2.2.1, s.2.2.2.1, s.2.2.2.2)) := rfl
theorem st_X12_endsPiece_0 (t_waitsAt : (Nat → Int32)) (m : Nat) (s : Int32 × Int32 × Int32 × (Nat → Int32)) : L_X12_endsPiece_0 t_waitsAt (m + 1) s = ((f_X12_waitTop s.2.2.1 t_waitsAt).bind fun u1 => if u1 = (10 : Int32) then ((f_X12_notes s.2.1 s.2.2.2 (10 : Int32) (0 : Int32)).bind fun u2 => nm (s.2.2.1 - (1 : Int32)) fun v3 => nm (s.1 - (1 : Int32)) fun v4 => (L_X12_endsPiece_0 t_waitsAt m) (v4, u2.1, v3, u2.2)) else some (s.1, s.2.1, s.2.2.1, s.2.2.2)) := rfl
theorem st_X12_lands_0 (t_codeMany : Int32) (t_waitsAt : (Nat → Int32)) (x1 : Int32) (m : Nat) (s : Int32 × (Nat → Int32)) : L_X12_lands_0 t_codeMany t_waitsAt x1 (m + 1) s = ((f_X12_waitTop s.1 t_waitsAt).bind fun u1 => jn (fun s2 : Unit => rd t_waitsAt 260 (s.1 - (1 : Int32)) fun v3 => rm v3 (1048576 : Int32) fun v4 => rd s.2 260 v4 fun v5 => dv v5 (1048576 : Int32) fun v6 => wr s.2 260 v4 (((1048576 : Int32) * v6) + t_codeMany) fun g7 => nm (s.1 - (1 : Int32)) fun v8 => (L_X12_lands_0 t_codeMany t_waitsAt x1 m) (v8, g7)) fun j22 => if u1 = (11 : Int32) then (j22 ()) else if x1 = 0 then (some (s.1, s.2)) else (f_X12_waitTop s.1 t_waitsAt).bind fun u9 => if u9 = (12 : Int32) then (j22 ()) else some (s.1, s.2)) := rfl
theorem ep_not {e : Nat} {g : Nat → Int32} {j1 j2 m p o c : Nat} {x num : Int32} {W : List Nat} {sa wa : Nat → Int32} (hs : St wa (1048576 * 10 :: W)) (hl : W.length < 250) (hc : c < 260) : EPm e g (j1 + 1) j2 m p x num (o + 1) c (1048576 * 10 :: W) sa wa = EPm e g j1 j2 m p x num o (c + 1) W (upd sa c (nI (1048576 * 10 + 0))) wa := by
  have tp := top_M hs (by rw [List.length_cons]; omega)
  have tp : f_X12_waitTop (nI (W.length + 1)) wa = some (nI 10) := tp
  have nt := notes_M (k := 10) (v := 0) hc sa
  have q1 : nI (W.length + 1) - nI 1 = nI W.length := sub_nI (by omega)
  have q2 : nI (o + 1) - nI 1 = nI o := sub_nI (by omega)
  unfold EPm
  rw [st_X12_endsPiece_0, List.length_cons]
  simp only [ltz]
  simp (disch := omega) only [↓reduceIte, ↓some_bind, ↓nm_eq, ↓jn_eq, ↓wr_nI, ↓rd_nI, ↓gb0, ↓gb1, n10, n00, ↓bind_of tp, eq_self, ↓bind_of nt, q1, q2]
theorem ep_stop {e : Nat} {g : Nat → Int32} {j1 j2 m p o c k : Nat} {x num : Int32} {W : List Nat} {sa wa : Nat → Int32} (hs : St wa W) (hl : W.length ≤ 250) (hW : TG k W) (hk : 10 < k) : EPm e g (j1 + 1) j2 m p x num o c W sa wa = PLm e g j2 m p x num o c W sa wa := by
  have tp := top_M hs (by omega)
  have q := TG_ne hW hk
  unfold EPm PLm
  rw [st_X12_endsPiece_0]
  simp only [ltz]
  simp (disch := omega) only [↓reduceIte, ↓some_bind, ↓nm_eq, ↓jn_eq, ↓wr_nI, ↓rd_nI, ↓gb0, ↓gb1, n10, n00, ↓bind_of tp, q]
theorem tb_open {n e : Nat} {t : Int32} {g : Nat → Int32} {b : Nat → Nat} (hn : n ≤ 260) (tM : MTape t g n b) (ht : txt e b) (he : e ≤ n) (he2 : e ≤ 240) {m p o c : Nat} {x num : Int32} {W : List Nat} {sa wa : Nat → Int32} (hp : p ≤ e) {ch k : Nat} (h : hN e b p = ch) (hch : (ch = 33 ∧ k = 10) ∨ (ch = 40 ∧ k = 13)) (ho : o < 6) (hl : W.length < 250) : TBm e g (m + 1) p x num o c W sa wa = TBm e g m (p + 1) x num (o + 1) c (1048576 * k :: W) sa (upd wa W.length (nI (1048576 * k))) := by
  have hm0 := here_M hn tM he (show p < 100000 by omega)
  have s33 := eq_hr ht p (c := 33) (by omega)
  have s40 := eq_hr ht p (c := 40) (by omega)
  have hop := opens_Y (p := p) (k := k) (x := x) (W := W) (wa := wa) ho (by omega)
  unfold TBm
  rw [st_X12_readsCondition_40, List.length_cons]
  simp only [ltz]
  rcases hch with ⟨rfl, rfl⟩ | ⟨rfl, rfl⟩
  · rw [eq_true h] at s33
    simp (disch := omega) only [↓reduceIte, ↓some_bind, ↓nm_eq, ↓jn_eq, ↓wr_nI, ↓rd_nI, ↓gb0, ↓gb1, n10, n00, ↓bind_of hm0, s33, ↓bind_of hop]
  · rw [eq_true h] at s40
    rw [eq_false (show ¬ hN e b p = 33 by omega)] at s33
    simp (disch := omega) only [↓reduceIte, ↓some_bind, ↓nm_eq, ↓jn_eq, ↓wr_nI, ↓rd_nI, ↓gb0, ↓gb1, n10, n00, ↓bind_of hm0, s33, s40, ↓bind_of hop]
theorem tb_deep {n e : Nat} {t : Int32} {g : Nat → Int32} {b : Nat → Nat} (hn : n ≤ 260) (tM : MTape t g n b) (ht : txt e b) (he : e ≤ n) (he2 : e ≤ 240) {m p o c : Nat} {x num : Int32} {W : List Nat} {sa wa : Nat → Int32} (hp : p ≤ e) {ch : Nat} (h : hN e b p = ch) (hch : ch = 33 ∨ ch = 40) (ho : o = 6) : ∃ r, TBm e g (m + 1) p x num o c W sa wa = some r ∧ r.1 = nI 0 ∧ r.2.2.1 = flt 5 p := by
  subst ho
  have hm0 := here_M hn tM he (show p < 100000 by omega)
  have s33 := eq_hr ht p (c := 33) (by omega)
  have s40 := eq_hr ht p (c := 40) (by omega)
  unfold TBm
  rw [st_X12_readsCondition_40]
  simp only [ltz]
  rcases hch with rfl | rfl
  · have hop := opens_N (p := p) (k := 10) (x := x) (W := W) (wa := wa)
    rw [eq_true h] at s33
    simp (disch := omega) only [↓reduceIte, ↓some_bind, ↓nm_eq, ↓jn_eq, ↓wr_nI, ↓rd_nI, ↓gb0, ↓gb1, n10, n00, ↓bind_of hm0, s33, ↓bind_of hop]
    exact ⟨_, rfl, rfl, rfl⟩
  · have hop := opens_N (p := p) (k := 13) (x := x) (W := W) (wa := wa)
    rw [eq_true h] at s40
    rw [eq_false (show ¬ hN e b p = 33 by omega)] at s33
    simp (disch := omega) only [↓reduceIte, ↓some_bind, ↓nm_eq, ↓jn_eq, ↓wr_nI, ↓rd_nI, ↓gb0, ↓gb1, n10, n00, ↓bind_of hm0, s33, s40, ↓bind_of hop]
    exact ⟨_, rfl, rfl, rfl⟩
theorem tb_cmp {n e : Nat} {t : Int32} {g : Nat → Int32} {b : Nat → Nat} (hn : n ≤ 260) (tM : MTape t g n b) (ht : txt e b) (he : e ≤ n) (he2 : e ≤ 240) {m p o c : Nat} {x num : Int32} {W : List Nat} {sa wa : Nat → Int32} (hp : p ≤ e) (h1 : ¬ hN e b p = 33) (h2 : ¬ hN e b p = 40) : TBm e g (m + 1) p x num o c W sa wa = (f_X12_readsCompared (nI p) (nI e) x num (nI o) (nI c) (nI W.length) g sa wa).bind fun u9 => if u9.1 = nI 0 then some (nI 0, u9.2.1, u9.2.2.1, u9.2.2.2.1, u9.2.2.2.2.1, u9.2.2.2.2.2.1, u9.2.2.2.2.2.2.1, u9.2.2.2.2.2.2.2.1, u9.2.2.2.2.2.2.2.2) else L_X12_readsCondition_92 (nI e) u9.2.2.1 u9.2.2.2.1 g u9.2.2.2.2.2.2.2.2 (KCc (nI e) g K0c m u9.2.2.1 u9.2.2.2.1 u9.2.2.2.2.2.2.2.2) fu (u9.2.1, u9.2.2.2.2.1, u9.2.2.2.2.2.1, u9.2.2.2.2.2.2.1, u9.2.2.2.2.2.2.2.1) := by
  have hm0 := here_M hn tM he (show p < 100000 by omega)
  have s33 : (hr e b p = nI 33) = False := by rw [eq_hr ht p (by omega)]; exact eq_false h1
  have s40 : (hr e b p = nI 40) = False := by rw [eq_hr ht p (by omega)]; exact eq_false h2
  unfold TBm
  rw [st_X12_readsCondition_40]
  generalize hR : f_X12_readsCompared (nI p) (nI e) x num (nI o) (nI c) (nI W.length) g sa wa = r
  show ((f_X12_here (nI p) (nI e) g).bind fun u3 => _) = _
  rw [hm0, some_bind]
  show (if hr e b p = 33 then _ else _) = _
  have s33' : ¬ hr e b p = 33 := fun h => (of_eq_false s33) h
  have s40' : ¬ hr e b p = 40 := fun h => (of_eq_false s40) h
  rw [if_neg s33']
  rw [some_bind, if_neg s40']
  rfl
theorem cmp_bad1 {n e : Nat} {t : Int32} {g : Nat → Int32} {b : Nat → Nat} (hn : n ≤ 260) (tM : MTape t g n b) (ht : txt e b) (he : e ≤ n) (he2 : e ≤ 240) {p o c w q : Nat} {x num : Int32} {W : List Nat} {sa wa : Nat → Int32} (d : ∃ r, f_X12_readsSum (nI p) (nI e) x num (nI o) (nI c) (nI W.length) g sa wa = some r ∧ r.1 = nI 0 ∧ r.2.2.1 = flt w q) : ∃ r, f_X12_readsCompared (nI p) (nI e) x num (nI o) (nI c) (nI W.length) g sa wa = some r ∧ r.1 = nI 0 ∧ r.2.2.1 = flt w q := by
  obtain ⟨⟨r1, r2, r3, r4⟩, h1, h2, h3⟩ := d
  dsimp only at h2 h3
  subst h2; subst h3
  unfold f_X12_readsCompared
  simp only [ltz]
  simp (disch := omega) only [↓reduceIte, ↓some_bind, ↓nm_eq, ↓jn_eq, ↓wr_nI, ↓rd_nI, ↓gb0, ↓gb1, n10, n00, ↓bind_of h1]
  exact ⟨_, rfl, rfl, rfl⟩
theorem cmp_badS {n e : Nat} {t : Int32} {g : Nat → Int32} {b : Nat → Nat} (hn : n ≤ 260) (tM : MTape t g n b) (ht : txt e b) (he : e ≤ n) (he2 : e ≤ 240) {p p1 o c c1 : Nat} {x num num1 : Int32} {W : List Nat} {sa wa sa1 wa1 : Nat → Int32} (hp : p1 ≤ e) (d : f_X12_readsSum (nI p) (nI e) x num (nI o) (nI c) (nI W.length) g sa wa = some (nI 1, nI p1, x, num1, nI o, nI c1, nI W.length, sa1, wa1)) (h : ¬ cmpS (hN e b p1)) : ∃ r, f_X12_readsCompared (nI p) (nI e) x num (nI o) (nI c) (nI W.length) g sa wa = some r ∧ r.1 = nI 0 ∧ r.2.2.1 = flt 1 p1 := by
  have hm1 := here_M hn tM he (show p1 < 100000 by omega)
  have n60 : (hr e b p1 = nI 60) = False := by rw [eq_hr ht p1 (by omega)]; exact eq_false (fun e => h (by unfold cmpS; omega))
  have n62 : (hr e b p1 = nI 62) = False := by rw [eq_hr ht p1 (by omega)]; exact eq_false (fun e => h (by unfold cmpS; omega))
  have n61 : (hr e b p1 = nI 61) = False := by rw [eq_hr ht p1 (by omega)]; exact eq_false (fun e => h (by unfold cmpS; omega))
  unfold f_X12_readsCompared
  simp only [ltz]
  simp (disch := omega) only [↓reduceIte, ↓some_bind, ↓nm_eq, ↓jn_eq, ↓wr_nI, ↓rd_nI, ↓gb0, ↓gb1, n10, n00, ↓bind_of d, ↓bind_of hm1, n60, n62, n61, eq_self, ↓bind_of (wrong_M x 1 p1)]
  exact ⟨_, rfl, rfl, rfl⟩
theorem cmp_bad2 {n e : Nat} {t : Int32} {g : Nat → Int32} {b : Nat → Nat} (hn : n ≤ 260) (tM : MTape t g n b) (ht : txt e b) (he : e ≤ n) (he2 : e ≤ 240) {p p1 o c c1 w q : Nat} {x num num1 : Int32} {W : List Nat} {sa wa sa1 wa1 : Nat → Int32} (hp : p1 ≤ e) (d : f_X12_readsSum (nI p) (nI e) x num (nI o) (nI c) (nI W.length) g sa wa = some (nI 1, nI p1, x, num1, nI o, nI c1, nI W.length, sa1, wa1)) (h : cmpS (hN e b p1)) (d2 : ∃ r, f_X12_readsSum (nI (p1 + 1)) (nI e) x num1 (nI o) (nI c1) (nI W.length) g sa1 wa1 = some r ∧ r.1 = nI 0 ∧ r.2.2.1 = flt w q) : ∃ r, f_X12_readsCompared (nI p) (nI e) x num (nI o) (nI c) (nI W.length) g sa wa = some r ∧ r.1 = nI 0 ∧ r.2.2.1 = flt w q := by
  have hm1 := here_M hn tM he (show p1 < 100000 by omega)
  obtain ⟨⟨r1, r2, r3, r4⟩, h1, h2, h3⟩ := d2
  dsimp only at h2 h3
  subst h2; subst h3
  have z7 : (nI 7 = -nI 1) = False := eq_false (by decide)
  have z8 : (nI 8 = -nI 1) = False := eq_false (by decide)
  have z9 : (nI 9 = -nI 1) = False := eq_false (by decide)
  unfold f_X12_readsCompared
  simp only [ltz]
  unfold cmpS at h
  rcases h with h | h | h
  · have n60 : (hr e b p1 = nI 60) = True := by rw [eq_hr ht p1 (by omega)]; exact eq_true h
    simp (disch := omega) only [↓reduceIte, ↓some_bind, ↓nm_eq, ↓jn_eq, ↓wr_nI, ↓rd_nI, ↓gb0, ↓gb1, n10, n00, ↓bind_of d, ↓bind_of hm1, n60, z7, add_nI, ↓bind_of h1]
    exact ⟨_, rfl, rfl, rfl⟩
  · have n60 : (hr e b p1 = nI 60) = False := by rw [eq_hr ht p1 (by omega)]; exact eq_false (by omega)
    have n62 : (hr e b p1 = nI 62) = True := by rw [eq_hr ht p1 (by omega)]; exact eq_true h
    simp (disch := omega) only [↓reduceIte, ↓some_bind, ↓nm_eq, ↓jn_eq, ↓wr_nI, ↓rd_nI, ↓gb0, ↓gb1, n10, n00, ↓bind_of d, ↓bind_of hm1, n60, n62, z8, add_nI, ↓bind_of h1]
    exact ⟨_, rfl, rfl, rfl⟩
  · have n60 : (hr e b p1 = nI 60) = False := by rw [eq_hr ht p1 (by omega)]; exact eq_false (by omega)
    have n62 : (hr e b p1 = nI 62) = False := by rw [eq_hr ht p1 (by omega)]; exact eq_false (by omega)
    have n61 : (hr e b p1 = nI 61) = True := by rw [eq_hr ht p1 (by omega)]; exact eq_true h
    simp (disch := omega) only [↓reduceIte, ↓some_bind, ↓nm_eq, ↓jn_eq, ↓wr_nI, ↓rd_nI, ↓gb0, ↓gb1, n10, n00, ↓bind_of d, ↓bind_of hm1, n60, n62, n61, z9, add_nI, ↓bind_of h1]
    exact ⟨_, rfl, rfl, rfl⟩
theorem tb_cmpOK {n e : Nat} {t : Int32} {g : Nat → Int32} {b : Nat → Nat} (hn : n ≤ 260) (tM : MTape t g n b) (ht : txt e b) (he : e ≤ n) (he2 : e ≤ 240) {m p o c : Nat} {x num : Int32} {W : List Nat} {sa wa : Nat → Int32} (hp : p ≤ e) {p1 p2 c1 c2 : Nat} {num1 num2 : Int32} {sa1 wa1 sa2 wa2 : Nat → Int32} (k1 : ¬ hN e b p = 33) (k2 : ¬ hN e b p = 40) (hp1 : p1 ≤ e) (d : f_X12_readsSum (nI p) (nI e) x num (nI o) (nI c) (nI W.length) g sa wa = some (nI 1, nI p1, x, num1, nI o, nI c1, nI W.length, sa1, wa1)) (h : cmpS (hN e b p1)) (h1 : f_X12_readsSum (nI (p1 + 1)) (nI e) x num1 (nI o) (nI c1) (nI W.length) g sa1 wa1 = some (nI 1, nI p2, x, num2, nI o, nI c2, nI W.length, sa2, wa2)) (hc : c2 < 260) : TBm e g (m + 1) p x num o c W sa wa = EPm e g fu fu m p2 x num2 o (c2 + 1) W (upd sa2 c2 (nI (1048576 * mop (hN e b p1) + 0))) wa2 := by
  have hm1 := here_M hn tM he (show p1 < 100000 by omega)
  have z7 : (nI 7 = -nI 1) = False := eq_false (by decide)
  have z8 : (nI 8 = -nI 1) = False := eq_false (by decide)
  have z9 : (nI 9 = -nI 1) = False := eq_false (by decide)
  have key : f_X12_readsCompared (nI p) (nI e) x num (nI o) (nI c) (nI W.length) g sa wa = (L_X12_endsPiece_0 wa2 fu (nI o, nI (c2 + 1), nI W.length, upd sa2 c2 (nI (1048576 * mop (hN e b p1) + 0)))).bind fun u7 => some (nI 1, nI p2, x, num2, u7.1, u7.2.1, u7.2.2.1, u7.2.2.2, wa2) := by
    unfold f_X12_readsCompared f_X12_endsPiece
    simp only [ltz]
    unfold cmpS at h
    rcases h with h | h | h
    · have n60 : (hr e b p1 = nI 60) = True := by rw [eq_hr ht p1 (by omega)]; exact eq_true h
      have nt := notes_M (k := 7) (v := 0) hc sa2
      rw [h]
      simp (disch := omega) only [↓reduceIte, ↓some_bind, ↓nm_eq, ↓jn_eq, ↓wr_nI, ↓rd_nI, ↓gb0, ↓gb1, n10, n00, ↓bind_of d, ↓bind_of hm1, n60, z7, add_nI, ↓bind_of h1, ↓bind_of nt]
      rfl
    · have n60 : (hr e b p1 = nI 60) = False := by rw [eq_hr ht p1 (by omega)]; exact eq_false (by omega)
      have n62 : (hr e b p1 = nI 62) = True := by rw [eq_hr ht p1 (by omega)]; exact eq_true h
      have nt := notes_M (k := 8) (v := 0) hc sa2
      rw [h]
      simp (disch := omega) only [↓reduceIte, ↓some_bind, ↓nm_eq, ↓jn_eq, ↓wr_nI, ↓rd_nI, ↓gb0, ↓gb1, n10, n00, ↓bind_of d, ↓bind_of hm1, n60, n62, z8, add_nI, ↓bind_of h1, ↓bind_of nt]
      rfl
    · have n60 : (hr e b p1 = nI 60) = False := by rw [eq_hr ht p1 (by omega)]; exact eq_false (by omega)
      have n62 : (hr e b p1 = nI 62) = False := by rw [eq_hr ht p1 (by omega)]; exact eq_false (by omega)
      have n61 : (hr e b p1 = nI 61) = True := by rw [eq_hr ht p1 (by omega)]; exact eq_true h
      have nt := notes_M (k := 9) (v := 0) hc sa2
      rw [h]
      simp (disch := omega) only [↓reduceIte, ↓some_bind, ↓nm_eq, ↓jn_eq, ↓wr_nI, ↓rd_nI, ↓gb0, ↓gb1, n10, n00, ↓bind_of d, ↓bind_of hm1, n60, n62, n61, z9, add_nI, ↓bind_of h1, ↓bind_of nt]
      rfl
  rw [tb_cmp hn tM ht he he2 hp k1 k2, key]
  unfold EPm
  cases L_X12_endsPiece_0 wa2 fu (nI o, nI (c2 + 1), nI W.length, upd sa2 c2 (nI (1048576 * mop (hN e b p1) + 0))) with
  | none => rfl
  | some u =>
    rw [some_bind, some_bind, some_bind]
    rw [if_neg (show ¬ nI 1 = nI 0 by decide)]
theorem landStep {sa wa : Nat → Int32} {R : List Nat} {c J m x1 k : Nat} (hs : St wa ((1048576 * k + J) :: R)) (hl : R.length + 1 ≤ 250) (hJ : J < 260) (hc : c < 260) (hsa : sa J = nI (1048576 * k + 0)) (hx : x1 = 0 ∨ x1 = 1) (hk : k = 11 ∨ (k = 12 ∧ x1 = 1)) : L_X12_lands_0 (nI c) wa (nI x1) (m + 1) (nI (R.length + 1), sa) = L_X12_lands_0 (nI c) wa (nI x1) m (nI R.length, upd sa J (nI (1048576 * k + c))) := by
  have hk12 : k ≤ 12 := by omega
  have tp : f_X12_waitTop (nI (R.length + 1)) wa = some (nI k) := by
    have := top_M hs (by rw [List.length_cons]; omega)
    rw [List.length_cons] at this
    rw [this]
    show some (nI ((1048576 * k + J) / 1048576)) = _
    rw [show (1048576 * k + J) / 1048576 = k by omega]
  have q2 : nI (R.length + 1) - nI 1 = nI R.length := sub_nI (by omega)
  have hrm : ∀ kk : Int32 → Option (Int32 × (Nat → Int32)), rm (wa R.length) (nI 1048576) kk = kk (nI J) := fun kk => by
    rw [hs.1, rm_nI hs.2.1 (by omega) (by omega), show (1048576 * k + J) % 1048576 = J by omega]
  have hdv : ∀ kk : Int32 → Option (Int32 × (Nat → Int32)), dv (sa J) (nI 1048576) kk = kk (nI k) := fun kk => by
    rw [hsa, dv_nI (by omega) (by omega) (by omega), show (1048576 * k + 0) / 1048576 = k by omega]
  rw [st_X12_lands_0]
  simp only [ltz]
  rcases hk with rfl | ⟨rfl, rfl⟩
  · simp (disch := omega) only [↓reduceIte, ↓some_bind, ↓nm_eq, ↓jn_eq, ↓wr_nI, ↓rd_nI, ↓gb0, ↓gb1, n10, n00, ↓bind_of tp, eq_self, q2, ↓hrm, ↓hdv, mul_nI, add_nI]
  · have q3 : (nI 12 = nI 11) = False := eq_false (by decide)
    simp (disch := omega) only [↓reduceIte, ↓some_bind, ↓nm_eq, ↓jn_eq, ↓wr_nI, ↓rd_nI, ↓gb0, ↓gb1, n10, n00, ↓bind_of tp, q3, eq_self, q2, ↓hrm, ↓hdv, mul_nI, add_nI]
theorem landStop {sa wa : Nat → Int32} {W : List Nat} {c m x1 : Nat} (hs : St wa W) (hl : W.length ≤ 250) (hx : x1 = 0 ∨ x1 = 1) (hW : TG (12 + x1) W) : L_X12_lands_0 (nI c) wa (nI x1) (m + 1) (nI W.length, sa) = some (nI W.length, sa) := by
  have tp := top_M hs (by omega)
  have q1 := TG_ne hW (c := 11) (by omega)
  rw [st_X12_lands_0]
  simp only [ltz]
  rcases hx with rfl | rfl
  · simp (disch := omega) only [↓reduceIte, ↓some_bind, ↓nm_eq, ↓jn_eq, ↓wr_nI, ↓rd_nI, ↓gb0, ↓gb1, n10, n00, ↓bind_of tp, q1]
  · have q2 := TG_ne hW (c := 12) (by omega)
    simp (disch := omega) only [↓reduceIte, ↓some_bind, ↓nm_eq, ↓jn_eq, ↓wr_nI, ↓rd_nI, ↓gb0, ↓gb1, n10, n00, ↓bind_of tp, q1, q2]
theorem jumps_M {p c k : Nat} {W : List Nat} {sa wa : Nat → Int32} (hc : c < 260) (hl : W.length < 260) : f_X12_jumps (nI p) (nI c) (nI W.length) sa wa (nI k) = some (nI (p + 1), nI (c + 1), nI (W.length + 1), upd sa c (nI (1048576 * k + 0)), upd wa W.length (nI (1048576 * k + c))) := by
  have nt := notes_M (k := k) (v := 0) hc sa
  unfold f_X12_jumps
  simp only [ltz]
  simp (disch := omega) only [↓reduceIte, ↓some_bind, ↓nm_eq, ↓jn_eq, ↓wr_nI, ↓rd_nI, ↓gb0, ↓gb1, n10, n00, mul_nI, add_nI, ↓bind_of nt]
theorem pl_and {n e : Nat} {t : Int32} {g : Nat → Int32} {b : Nat → Nat} (hn : n ≤ 260) (tM : MTape t g n b) (ht : txt e b) (he : e ≤ n) (he2 : e ≤ 240) {j m p o c : Nat} {x num : Int32} {W R : List Nat} {sa wa sa1 : Nat → Int32} (hp : p ≤ e) (h : hN e b p = 38) (hl : f_X12_lands (nI c) (nI W.length) sa wa (nI 0) = some (nI R.length, sa1)) (hc : c < 260) (hR : R.length < 250) : PLm e g (j + 1) m p x num o c W sa wa = TBm e g m (p + 1) x num o (c + 1) ((1048576 * 11 + c) :: R) (upd sa1 c (nI (1048576 * 11 + 0))) (upd wa R.length (nI (1048576 * 11 + c))) := by
  have hm0 := here_M hn tM he (show p < 100000 by omega)
  have s41 : (hr e b p = nI 41) = False := by rw [eq_hr ht p (by omega)]; exact eq_false (by omega)
  have s38 : (hr e b p = nI 38) = True := by rw [eq_hr ht p (by omega)]; exact eq_true h
  have s124 : (hr e b p = nI 124) = False := by rw [eq_hr ht p (by omega)]; exact eq_false (by omega)
  have jm := jumps_M (p := p) (k := 11) (W := R) (sa := sa1) (wa := wa) hc (by omega)
  unfold PLm TBm
  rw [st_X12_readsCondition_92, List.length_cons]
  simp only [ltz]
  simp (disch := omega) only [↓reduceIte, ↓some_bind, ↓nm_eq, ↓jn_eq, ↓wr_nI, ↓rd_nI, ↓gb0, ↓gb1, n10, n00, ↓bind_of hm0, s41]
  unfold KCc
  simp only [ltz]
  simp (disch := omega) only [↓reduceIte, ↓some_bind, ↓nm_eq, ↓jn_eq, ↓wr_nI, ↓rd_nI, ↓gb0, ↓gb1, n10, n00, ↓bind_of hm0, s38, s124, ↓bind_of hl, ↓bind_of jm]
theorem pl_or {n e : Nat} {t : Int32} {g : Nat → Int32} {b : Nat → Nat} (hn : n ≤ 260) (tM : MTape t g n b) (ht : txt e b) (he : e ≤ n) (he2 : e ≤ 240) {j m p o c : Nat} {x num : Int32} {W R : List Nat} {sa wa sa1 : Nat → Int32} (hp : p ≤ e) (h : hN e b p = 124) (hl : f_X12_lands (nI c) (nI W.length) sa wa (nI 1) = some (nI R.length, sa1)) (hc : c < 260) (hR : R.length < 250) : PLm e g (j + 1) m p x num o c W sa wa = TBm e g m (p + 1) x num o (c + 1) ((1048576 * 12 + c) :: R) (upd sa1 c (nI (1048576 * 12 + 0))) (upd wa R.length (nI (1048576 * 12 + c))) := by
  have hm0 := here_M hn tM he (show p < 100000 by omega)
  have s41 : (hr e b p = nI 41) = False := by rw [eq_hr ht p (by omega)]; exact eq_false (by omega)
  have s38 : (hr e b p = nI 38) = False := by rw [eq_hr ht p (by omega)]; exact eq_false (by omega)
  have s124 : (hr e b p = nI 124) = True := by rw [eq_hr ht p (by omega)]; exact eq_true h
  have jm := jumps_M (p := p) (k := 12) (W := R) (sa := sa1) (wa := wa) hc (by omega)
  unfold PLm TBm
  rw [st_X12_readsCondition_92, List.length_cons]
  simp only [ltz]
  simp (disch := omega) only [↓reduceIte, ↓some_bind, ↓nm_eq, ↓jn_eq, ↓wr_nI, ↓rd_nI, ↓gb0, ↓gb1, n10, n00, ↓bind_of hm0, s41]
  unfold KCc
  simp only [ltz]
  simp (disch := omega) only [↓reduceIte, ↓some_bind, ↓nm_eq, ↓jn_eq, ↓wr_nI, ↓rd_nI, ↓gb0, ↓gb1, n10, n00, ↓bind_of hm0, s38, s124, ↓bind_of hl, ↓bind_of jm]
theorem pl_bad {n e : Nat} {t : Int32} {g : Nat → Int32} {b : Nat → Nat} (hn : n ≤ 260) (tM : MTape t g n b) (ht : txt e b) (he : e ≤ n) (he2 : e ≤ 240) {j m p o c : Nat} {x num : Int32} {W : List Nat} {sa wa : Nat → Int32} (hp : p ≤ e) (h1 : ¬ hN e b p = 38) (h2 : ¬ hN e b p = 124) (h3 : ¬ hN e b p = 41) : ∃ r, PLm e g (j + 1) m p x num o c W sa wa = some r ∧ r.1 = nI 0 ∧ r.2.2.1 = flt 1 p := by
  have hm0 := here_M hn tM he (show p < 100000 by omega)
  have s41 : (hr e b p = nI 41) = False := by rw [eq_hr ht p (by omega)]; exact eq_false h3
  have s38 : (hr e b p = nI 38) = False := by rw [eq_hr ht p (by omega)]; exact eq_false h1
  have s124 : (hr e b p = nI 124) = False := by rw [eq_hr ht p (by omega)]; exact eq_false h2
  unfold PLm
  rw [st_X12_readsCondition_92]
  simp only [ltz]
  simp (disch := omega) only [↓reduceIte, ↓some_bind, ↓nm_eq, ↓jn_eq, ↓wr_nI, ↓rd_nI, ↓gb0, ↓gb1, n10, n00, ↓bind_of hm0, s41]
  unfold KCc K0c
  simp only [ltz]
  simp (disch := omega) only [↓reduceIte, ↓some_bind, ↓nm_eq, ↓jn_eq, ↓wr_nI, ↓rd_nI, ↓gb0, ↓gb1, n10, n00, ↓bind_of hm0, s38, s124, ↓bind_of (wrong_M x 1 p)]
  exact ⟨_, rfl, rfl, rfl⟩
theorem pl_close {n e : Nat} {t : Int32} {g : Nat → Int32} {b : Nat → Nat} (hn : n ≤ 260) (tM : MTape t g n b) (ht : txt e b) (he : e ≤ n) (he2 : e ≤ 240) {j m p o c : Nat} {x num : Int32} {W R : List Nat} {sa wa sa1 : Nat → Int32} (hp : p ≤ e) (h : hN e b p = 41) (hl : f_X12_lands (nI c) (nI W.length) sa wa (nI 1) = some (nI (R.length + 1), sa1)) (hR : 1 ≤ R.length) (hR2 : R.length < 250) : PLm e g (j + 1) m p x num (o + 1) c W sa wa = EPm e g fu j m (p + 1) x num o c R sa1 wa := by
  have hm0 := here_M hn tM he (show p < 100000 by omega)
  have s41 : (hr e b p = nI 41) = True := by rw [eq_hr ht p (by omega)]; exact eq_true h
  have q1 : nI (R.length + 1) - nI 1 = nI R.length := sub_nI (by omega)
  have q2 : nI (o + 1) - nI 1 = nI o := sub_nI (by omega)
  have q3 : (nI R.length = nI 0) = False := by rw [eq_nI (by omega) (by omega)]; exact eq_false (by omega)
  unfold PLm EPm
  rw [st_X12_readsCondition_92]
  unfold f_X12_endsPiece
  simp only [ltz]
  simp (disch := omega) only [↓reduceIte, ↓some_bind, ↓nm_eq, ↓jn_eq, ↓wr_nI, ↓rd_nI, ↓gb0, ↓gb1, n10, n00, ↓bind_of hm0, s41, ↓bind_of hl, q1, q2, q3, add_nI]
theorem pl_done {n e : Nat} {t : Int32} {g : Nat → Int32} {b : Nat → Nat} (hn : n ≤ 260) (tM : MTape t g n b) (ht : txt e b) (he : e ≤ n) (he2 : e ≤ 240) {j m p o c : Nat} {x num : Int32} {W : List Nat} {sa wa sa1 : Nat → Int32} (hp : p ≤ e) (h : hN e b p = 41) (hl : f_X12_lands (nI c) (nI W.length) sa wa (nI 1) = some (nI (0 + 1), sa1)) : PLm e g (j + 1) m p x num (o + 1) c W sa wa = some (nI 1, nI (p + 1), x, num, nI o, nI c, nI 0, sa1, wa) := by
  have hm0 := here_M hn tM he (show p < 100000 by omega)
  have s41 : (hr e b p = nI 41) = True := by rw [eq_hr ht p (by omega)]; exact eq_true h
  have q1 : nI (0 + 1) - nI 1 = nI 0 := sub_nI (by omega)
  have q2 : nI (o + 1) - nI 1 = nI o := sub_nI (by omega)
  unfold PLm
  rw [st_X12_readsCondition_92]
  simp only [ltz]
  simp (disch := omega) only [↓reduceIte, ↓some_bind, ↓nm_eq, ↓jn_eq, ↓wr_nI, ↓rd_nI, ↓gb0, ↓gb1, n10, n00, ↓bind_of hm0, s41, ↓bind_of hl, q1, q2, add_nI]
