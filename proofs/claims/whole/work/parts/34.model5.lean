abbrev W_X12_hair (E : GE) (O_t : Nat) (a_t : Nat → Nat) (t_toldDoors : Int32) (t_barredDoors : Int32) (t_taped : Int32) (t_place0 : Int32) (t_length0 : Int32) (t_fault : Int32) (t_number0 : Int32) (t_open : Int32) (t_codeMany : Int32) (t_waiting : Int32) (t_saidMany : Int32) (t_clauses : Int32) (t_newMany : Int32) (t_rounds : Int32) (t_pinFrom : Int32) (t_pinTimes : Int32) (t_lines : Int32) (t_wasTold : Int32) (t_wasBarred : Int32) (t_goesNow : Int32) (t_jamsNow : Int32) (t_queued : Int32) (t_isKept : Int32) (t_now : (Nat → Int32)) (t_tape : (Nat → Int32)) (t_newPins : (Nat → Int32)) (t_roundFrom : (Nat → Int32)) (t_roundAt : (Nat → Int32)) (t_roundTimes : (Nat → Int32)) : va_W := [(O_t, ob_X12 a_t t_toldDoors t_barredDoors t_taped t_place0 t_length0 t_fault t_number0 t_open t_codeMany t_waiting t_saidMany t_clauses t_newMany t_rounds t_pinFrom t_pinTimes t_lines t_wasTold t_wasBarred t_goesNow t_jamsNow t_queued t_isKept), (a_t 0, .inl (E.2.1, 166, .inl t_now)), (a_t 13, .inl (E.2.2.1, 260, .inl t_tape)), (a_t 37, .inl (E.2.1, 60, .inl t_newPins)), (a_t 38, .inl (E.2.1, 2, .inl t_roundFrom)), (a_t 39, .inl (E.2.1, 2, .inl t_roundAt)), (a_t 40, .inl (E.2.1, 2, .inl t_roundTimes))]
def L_X12_hair_48 (t_taped : Int32) (t_length0 : Int32) (t_codeMany : Int32) (t_saidMany : Int32) (t_now : (Nat → Int32)) (t_tape : (Nat → Int32)) (x1 : Int32) (k0 : Int32 × Int32 × Int32 × Int32 × Int32 × Int32 × Int32 × (Nat → Int32) × (Nat → Int32) × (Nat → Int32) × (Nat → Int32) → Option (Int32 × Int32 × Int32 × Int32 × Int32 × Int32 × Int32 × Int32 × Int32 × Int32 × Int32 × (Nat → Int32) × (Nat → Int32) × (Nat → Int32) × (Nat → Int32) × (Nat → Int32))) : Nat → Int32 × Int32 × Int32 × Int32 × Int32 × Int32 × Int32 × (Nat → Int32) × (Nat → Int32) × (Nat → Int32) × (Nat → Int32) → Option (Int32 × Int32 × Int32 × Int32 × Int32 × Int32 × Int32 × Int32 × Int32 × Int32 × Int32 × (Nat → Int32) × (Nat → Int32) × (Nat → Int32) × (Nat → Int32) × (Nat → Int32)) := lp fun go s => if s.1 = 0 then (k0 (s.1, s.2.1, s.2.2.1, s.2.2.2.1, s.2.2.2.2.1, s.2.2.2.2.2.1, s.2.2.2.2.2.2.1, s.2.2.2.2.2.2.2.1, s.2.2.2.2.2.2.2.2.1, s.2.2.2.2.2.2.2.2.2.1, s.2.2.2.2.2.2.2.2.2.2)) else jn (fun s5 : Unit => (f_X12_readsPin s.2.1 t_length0 s.2.2.1 s.2.2.2.1 s.2.2.2.2.1 s.2.2.2.2.2.1 s.2.2.2.2.2.2.1 t_tape s.2.2.2.2.2.2.2.1 s.2.2.2.2.2.2.2.2.1 s.2.2.2.2.2.2.2.2.2.1 s.2.2.2.2.2.2.2.2.2.2).bind fun u6 => go (u6.1, u6.2.1, u6.2.2.1, u6.2.2.2.1, u6.2.2.2.2.1, u6.2.2.2.2.2.1, u6.2.2.2.2.2.2.1, u6.2.2.2.2.2.2.2.1, u6.2.2.2.2.2.2.2.2.1, u6.2.2.2.2.2.2.2.2.2.1, u6.2.2.2.2.2.2.2.2.2.2)) fun j70 => if s.2.1 < t_length0 then (j70 ()) else if s.2.2.2.2.1 ≤ 0 then (k0 (s.1, s.2.1, s.2.2.1, s.2.2.2.1, s.2.2.2.2.1, s.2.2.2.2.2.1, s.2.2.2.2.2.2.1, s.2.2.2.2.2.2.2.1, s.2.2.2.2.2.2.2.2.1, s.2.2.2.2.2.2.2.2.2.1, s.2.2.2.2.2.2.2.2.2.2)) else j70 ()
def L_X12_hair_95 (t_taped : Int32) (t_place0 : Int32) (t_length0 : Int32) (t_fault : Int32) (t_codeMany : Int32) (t_saidMany : Int32) (t_newMany : Int32) (t_rounds : Int32) (t_pinFrom : Int32) (t_pinTimes : Int32) (t_tape : (Nat → Int32)) (t_newPins : (Nat → Int32)) (t_roundFrom : (Nat → Int32)) (t_roundAt : (Nat → Int32)) (t_roundTimes : (Nat → Int32)) (x1 : Int32) (k0 : (Nat → Int32) → Option (Int32 × Int32 × Int32 × Int32 × Int32 × Int32 × Int32 × Int32 × Int32 × Int32 × Int32 × (Nat → Int32) × (Nat → Int32) × (Nat → Int32) × (Nat → Int32) × (Nat → Int32))) : Nat → Int32 × (Nat → Int32) → Option (Int32 × Int32 × Int32 × Int32 × Int32 × Int32 × Int32 × Int32 × Int32 × Int32 × Int32 × (Nat → Int32) × (Nat → Int32) × (Nat → Int32) × (Nat → Int32) × (Nat → Int32)) := lp fun go s => if (6 : Int32) ≤ s.1 then (k0 s.2) else wr s.2 166 (((44 : Int32) + ((6 : Int32) * x1)) + s.1) (0 : Int32) fun g8 => nm (s.1 + (1 : Int32)) fun v9 => go (v9, g8)
def L_X12_hair_127 (t_taped : Int32) (t_place0 : Int32) (t_length0 : Int32) (t_fault : Int32) (t_codeMany : Int32) (t_saidMany : Int32) (t_newMany : Int32) (t_rounds : Int32) (t_pinFrom : Int32) (t_pinTimes : Int32) (t_tape : (Nat → Int32)) (t_newPins : (Nat → Int32)) (t_roundFrom : (Nat → Int32)) (t_roundAt : (Nat → Int32)) (t_roundTimes : (Nat → Int32)) (x1 : Int32) (k0 : (Nat → Int32) → Option (Int32 × Int32 × Int32 × Int32 × Int32 × Int32 × Int32 × Int32 × Int32 × Int32 × Int32 × (Nat → Int32) × (Nat → Int32) × (Nat → Int32) × (Nat → Int32) × (Nat → Int32))) : Nat → Int32 × (Nat → Int32) → Option (Int32 × Int32 × Int32 × Int32 × Int32 × Int32 × Int32 × Int32 × Int32 × Int32 × Int32 × (Nat → Int32) × (Nat → Int32) × (Nat → Int32) × (Nat → Int32) × (Nat → Int32)) := lp fun go s => if t_newMany ≤ s.1 then (k0 s.2) else rd t_newPins 60 s.1 fun v11 => rd t_newPins 60 s.1 fun v12 => rd s.2 166 (((44 : Int32) + ((6 : Int32) * x1)) + v12) fun v13 => wr s.2 166 (((44 : Int32) + ((6 : Int32) * x1)) + v11) (v13 + (1 : Int32)) fun g14 => nm (s.1 + (1 : Int32)) fun v15 => go (v15, g14)
def f_X12_hair (t_taped : Int32) (t_place0 : Int32) (t_length0 : Int32) (t_fault : Int32) (t_codeMany : Int32) (t_saidMany : Int32) (t_newMany : Int32) (t_rounds : Int32) (t_pinFrom : Int32) (t_pinTimes : Int32) (t_now : (Nat → Int32)) (t_tape : (Nat → Int32)) (t_newPins : (Nat → Int32)) (t_roundFrom : (Nat → Int32)) (t_roundAt : (Nat → Int32)) (t_roundTimes : (Nat → Int32)) (x1 : Int32) (x2 : Int32) : Option (Int32 × Int32 × Int32 × Int32 × Int32 × Int32 × Int32 × Int32 × Int32 × Int32 × Int32 × (Nat → Int32) × (Nat → Int32) × (Nat → Int32) × (Nat → Int32) × (Nat → Int32)) := (f_X12_isWoman t_now x1).bind fun u1 => if u1 = 0 then (some ((-1 : Int32), t_taped, t_place0, t_length0, t_fault, t_codeMany, t_saidMany, t_newMany, t_rounds, t_pinFrom, t_pinTimes, t_now, t_newPins, t_roundFrom, t_roundAt, t_roundTimes)) else (f_X12_in x2 (1 : Int32) (60 : Int32)).bind fun u2 => if u2 = 0 then (some ((-1 : Int32), t_taped, t_place0, t_length0, t_fault, t_codeMany, t_saidMany, t_newMany, t_rounds, t_pinFrom, t_pinTimes, t_now, t_newPins, t_roundFrom, t_roundAt, t_roundTimes)) else if x2 ≤ t_taped then ((f_X12_beginsText t_place0 t_length0 t_codeMany t_saidMany x2).bind fun u3 => (f_X12_readsPin u3.1 u3.2.1 t_fault (0 : Int32) (0 : Int32) t_pinFrom t_pinTimes t_tape t_newPins t_roundFrom t_roundAt t_roundTimes).bind fun u4 => L_X12_hair_48 t_taped u3.2.1 u3.2.2.1 u3.2.2.2 t_now t_tape x1 (fun s7 => if s7.1 = 0 then (some (s7.2.2.1, (0 : Int32), s7.2.1, u3.2.1, s7.2.2.1, u3.2.2.1, u3.2.2.2, s7.2.2.2.1, s7.2.2.2.2.1, s7.2.2.2.2.2.1, s7.2.2.2.2.2.2.1, t_now, s7.2.2.2.2.2.2.2.1, s7.2.2.2.2.2.2.2.2.1, s7.2.2.2.2.2.2.2.2.2.1, s7.2.2.2.2.2.2.2.2.2.2)) else L_X12_hair_95 (0 : Int32) s7.2.1 u3.2.1 s7.2.2.1 u3.2.2.1 u3.2.2.2 s7.2.2.2.1 s7.2.2.2.2.1 s7.2.2.2.2.2.1 s7.2.2.2.2.2.2.1 t_tape s7.2.2.2.2.2.2.2.1 s7.2.2.2.2.2.2.2.2.1 s7.2.2.2.2.2.2.2.2.2.1 s7.2.2.2.2.2.2.2.2.2.2 x1 (fun s10 => L_X12_hair_127 (0 : Int32) s7.2.1 u3.2.1 s7.2.2.1 u3.2.2.1 u3.2.2.2 s7.2.2.2.1 s7.2.2.2.2.1 s7.2.2.2.2.2.1 s7.2.2.2.2.2.2.1 t_tape s7.2.2.2.2.2.2.2.1 s7.2.2.2.2.2.2.2.2.1 s7.2.2.2.2.2.2.2.2.2.1 s7.2.2.2.2.2.2.2.2.2.2 x1 (fun s16 => (f_X12_putsUp s16 x1).bind fun u17 => some (s7.2.2.2.1, (0 : Int32), s7.2.1, u3.2.1, s7.2.2.1, u3.2.2.1, u3.2.2.2, s7.2.2.2.1, s7.2.2.2.2.1, s7.2.2.2.2.2.1, s7.2.2.2.2.2.2.1, u17.2, s7.2.2.2.2.2.2.2.1, s7.2.2.2.2.2.2.2.2.1, s7.2.2.2.2.2.2.2.2.2.1, s7.2.2.2.2.2.2.2.2.2.2)) fu ((0 : Int32), s10)) fu ((0 : Int32), t_now)) fu (u4.1, u4.2.1, u4.2.2.1, u4.2.2.2.1, u4.2.2.2.2.1, u4.2.2.2.2.2.1, u4.2.2.2.2.2.2.1, u4.2.2.2.2.2.2.2.1, u4.2.2.2.2.2.2.2.2.1, u4.2.2.2.2.2.2.2.2.2.1, u4.2.2.2.2.2.2.2.2.2.2)) else some ((-1 : Int32), t_taped, t_place0, t_length0, t_fault, t_codeMany, t_saidMany, t_newMany, t_rounds, t_pinFrom, t_pinTimes, t_now, t_newPins, t_roundFrom, t_roundAt, t_roundTimes)
theorem dX12_hair_0 : decode cX12_hair 0 = .ok (.aload_n 0, 1) := by decide +kernel
theorem dX12_hair_1 : decode cX12_hair 1 = .ok (.iload_n 1, 1) := by decide +kernel
theorem dX12_hair_2 : decode cX12_hair 2 = .ok (.invokevirtual 268, 3) := by decide +kernel
theorem dX12_hair_5 : decode cX12_hair 5 = .ok (.ifCond .eq 21, 3) := by decide +kernel
theorem dX12_hair_8 : decode cX12_hair 8 = .ok (.iload_n 2, 1) := by decide +kernel
theorem dX12_hair_9 : decode cX12_hair 9 = .ok (.iconst 1, 1) := by decide +kernel
theorem dX12_hair_10 : decode cX12_hair 10 = .ok (.bipush 60, 2) := by decide +kernel
theorem dX12_hair_12 : decode cX12_hair 12 = .ok (.invokestatic 117, 3) := by decide +kernel
theorem dX12_hair_15 : decode cX12_hair 15 = .ok (.ifCond .eq 11, 3) := by decide +kernel
theorem dX12_hair_18 : decode cX12_hair 18 = .ok (.iload_n 2, 1) := by decide +kernel
theorem dX12_hair_19 : decode cX12_hair 19 = .ok (.aload_n 0, 1) := by decide +kernel
theorem dX12_hair_20 : decode cX12_hair 20 = .ok (.getfield 139, 3) := by decide +kernel
theorem dX12_hair_23 : decode cX12_hair 23 = .ok (.if_icmp .le 5, 3) := by decide +kernel
theorem dX12_hair_26 : decode cX12_hair 26 = .ok (.iconst (-1), 1) := by decide +kernel
theorem dX12_hair_27 : decode cX12_hair 27 = .ok (.ireturn, 1) := by decide +kernel
theorem dX12_hair_28 : decode cX12_hair 28 = .ok (.aload_n 0, 1) := by decide +kernel
theorem dX12_hair_29 : decode cX12_hair 29 = .ok (.iload_n 2, 1) := by decide +kernel
theorem dX12_hair_30 : decode cX12_hair 30 = .ok (.invokevirtual 230, 3) := by decide +kernel
theorem dX12_hair_33 : decode cX12_hair 33 = .ok (.aload_n 0, 1) := by decide +kernel
theorem dX12_hair_34 : decode cX12_hair 34 = .ok (.iconst 0, 1) := by decide +kernel
theorem dX12_hair_35 : decode cX12_hair 35 = .ok (.putfield 256, 3) := by decide +kernel
theorem dX12_hair_38 : decode cX12_hair 38 = .ok (.aload_n 0, 1) := by decide +kernel
theorem dX12_hair_39 : decode cX12_hair 39 = .ok (.iconst 0, 1) := by decide +kernel
theorem dX12_hair_40 : decode cX12_hair 40 = .ok (.putfield 262, 3) := by decide +kernel
theorem dX12_hair_43 : decode cX12_hair 43 = .ok (.aload_n 0, 1) := by decide +kernel
theorem dX12_hair_44 : decode cX12_hair 44 = .ok (.invokevirtual 271, 3) := by decide +kernel
theorem dX12_hair_47 : decode cX12_hair 47 = .ok (.istore_n 3, 1) := by decide +kernel
theorem dX12_hair_48 : decode cX12_hair 48 = .ok (.iload_n 3, 1) := by decide +kernel
theorem dX12_hair_49 : decode cX12_hair 49 = .ok (.ifCond .eq 29, 3) := by decide +kernel
theorem dX12_hair_52 : decode cX12_hair 52 = .ok (.aload_n 0, 1) := by decide +kernel
theorem dX12_hair_53 : decode cX12_hair 53 = .ok (.getfield 146, 3) := by decide +kernel
theorem dX12_hair_56 : decode cX12_hair 56 = .ok (.aload_n 0, 1) := by decide +kernel
theorem dX12_hair_57 : decode cX12_hair 57 = .ok (.getfield 149, 3) := by decide +kernel
theorem dX12_hair_60 : decode cX12_hair 60 = .ok (.if_icmp .lt 10, 3) := by decide +kernel
theorem dX12_hair_63 : decode cX12_hair 63 = .ok (.aload_n 0, 1) := by decide +kernel
theorem dX12_hair_64 : decode cX12_hair 64 = .ok (.getfield 262, 3) := by decide +kernel
theorem dX12_hair_67 : decode cX12_hair 67 = .ok (.ifCond .le 11, 3) := by decide +kernel
theorem dX12_hair_70 : decode cX12_hair 70 = .ok (.aload_n 0, 1) := by decide +kernel
theorem dX12_hair_71 : decode cX12_hair 71 = .ok (.invokevirtual 271, 3) := by decide +kernel
theorem dX12_hair_74 : decode cX12_hair 74 = .ok (.istore_n 3, 1) := by decide +kernel
theorem dX12_hair_75 : decode cX12_hair 75 = .ok (.goto (-27), 3) := by decide +kernel
theorem dX12_hair_78 : decode cX12_hair 78 = .ok (.aload_n 0, 1) := by decide +kernel
theorem dX12_hair_79 : decode cX12_hair 79 = .ok (.iconst 0, 1) := by decide +kernel
theorem dX12_hair_80 : decode cX12_hair 80 = .ok (.putfield 139, 3) := by decide +kernel
theorem dX12_hair_83 : decode cX12_hair 83 = .ok (.iload_n 3, 1) := by decide +kernel
theorem dX12_hair_84 : decode cX12_hair 84 = .ok (.ifCond .ne 8, 3) := by decide +kernel
theorem dX12_hair_87 : decode cX12_hair 87 = .ok (.aload_n 0, 1) := by decide +kernel
theorem dX12_hair_88 : decode cX12_hair 88 = .ok (.getfield 156, 3) := by decide +kernel
theorem dX12_hair_91 : decode cX12_hair 91 = .ok (.ireturn, 1) := by decide +kernel
theorem dX12_hair_92 : decode cX12_hair 92 = .ok (.iconst 0, 1) := by decide +kernel
theorem dX12_hair_93 : decode cX12_hair 93 = .ok (.istore 4, 2) := by decide +kernel
theorem dX12_hair_95 : decode cX12_hair 95 = .ok (.iload 4, 2) := by decide +kernel
theorem dX12_hair_97 : decode cX12_hair 97 = .ok (.bipush 6, 2) := by decide +kernel
theorem dX12_hair_99 : decode cX12_hair 99 = .ok (.if_icmp .ge 25, 3) := by decide +kernel
theorem dX12_hair_102 : decode cX12_hair 102 = .ok (.aload_n 0, 1) := by decide +kernel
theorem dX12_hair_103 : decode cX12_hair 103 = .ok (.getfield 7, 3) := by decide +kernel
theorem dX12_hair_106 : decode cX12_hair 106 = .ok (.bipush 44, 2) := by decide +kernel
theorem dX12_hair_108 : decode cX12_hair 108 = .ok (.bipush 6, 2) := by decide +kernel
theorem dX12_hair_110 : decode cX12_hair 110 = .ok (.iload_n 1, 1) := by decide +kernel
theorem dX12_hair_111 : decode cX12_hair 111 = .ok (.imul, 1) := by decide +kernel
theorem dX12_hair_112 : decode cX12_hair 112 = .ok (.iadd, 1) := by decide +kernel
theorem dX12_hair_113 : decode cX12_hair 113 = .ok (.iload 4, 2) := by decide +kernel
theorem dX12_hair_115 : decode cX12_hair 115 = .ok (.iadd, 1) := by decide +kernel
theorem dX12_hair_116 : decode cX12_hair 116 = .ok (.iconst 0, 1) := by decide +kernel
theorem dX12_hair_117 : decode cX12_hair 117 = .ok (.iastore, 1) := by decide +kernel
theorem dX12_hair_118 : decode cX12_hair 118 = .ok (.iinc 4 1, 3) := by decide +kernel
theorem dX12_hair_121 : decode cX12_hair 121 = .ok (.goto (-26), 3) := by decide +kernel
theorem dX12_hair_124 : decode cX12_hair 124 = .ok (.iconst 0, 1) := by decide +kernel
theorem dX12_hair_125 : decode cX12_hair 125 = .ok (.istore 4, 2) := by decide +kernel
theorem dX12_hair_127 : decode cX12_hair 127 = .ok (.iload 4, 2) := by decide +kernel
theorem dX12_hair_129 : decode cX12_hair 129 = .ok (.aload_n 0, 1) := by decide +kernel
theorem dX12_hair_130 : decode cX12_hair 130 = .ok (.getfield 256, 3) := by decide +kernel
theorem dX12_hair_133 : decode cX12_hair 133 = .ok (.if_icmp .ge 51, 3) := by decide +kernel
theorem dX12_hair_136 : decode cX12_hair 136 = .ok (.aload_n 0, 1) := by decide +kernel
theorem dX12_hair_137 : decode cX12_hair 137 = .ok (.getfield 7, 3) := by decide +kernel
theorem dX12_hair_140 : decode cX12_hair 140 = .ok (.bipush 44, 2) := by decide +kernel
theorem dX12_hair_142 : decode cX12_hair 142 = .ok (.bipush 6, 2) := by decide +kernel
theorem dX12_hair_144 : decode cX12_hair 144 = .ok (.iload_n 1, 1) := by decide +kernel
theorem dX12_hair_145 : decode cX12_hair 145 = .ok (.imul, 1) := by decide +kernel
theorem dX12_hair_146 : decode cX12_hair 146 = .ok (.iadd, 1) := by decide +kernel
theorem dX12_hair_147 : decode cX12_hair 147 = .ok (.aload_n 0, 1) := by decide +kernel
theorem dX12_hair_148 : decode cX12_hair 148 = .ok (.getfield 86, 3) := by decide +kernel
theorem dX12_hair_151 : decode cX12_hair 151 = .ok (.iload 4, 2) := by decide +kernel
theorem dX12_hair_153 : decode cX12_hair 153 = .ok (.iaload, 1) := by decide +kernel
theorem dX12_hair_154 : decode cX12_hair 154 = .ok (.iadd, 1) := by decide +kernel
theorem dX12_hair_155 : decode cX12_hair 155 = .ok (.aload_n 0, 1) := by decide +kernel
theorem dX12_hair_156 : decode cX12_hair 156 = .ok (.getfield 7, 3) := by decide +kernel
theorem dX12_hair_159 : decode cX12_hair 159 = .ok (.bipush 44, 2) := by decide +kernel
theorem dX12_hair_161 : decode cX12_hair 161 = .ok (.bipush 6, 2) := by decide +kernel
theorem dX12_hair_163 : decode cX12_hair 163 = .ok (.iload_n 1, 1) := by decide +kernel
theorem dX12_hair_164 : decode cX12_hair 164 = .ok (.imul, 1) := by decide +kernel
theorem dX12_hair_165 : decode cX12_hair 165 = .ok (.iadd, 1) := by decide +kernel
theorem dX12_hair_166 : decode cX12_hair 166 = .ok (.aload_n 0, 1) := by decide +kernel
theorem dX12_hair_167 : decode cX12_hair 167 = .ok (.getfield 86, 3) := by decide +kernel
theorem dX12_hair_170 : decode cX12_hair 170 = .ok (.iload 4, 2) := by decide +kernel
theorem dX12_hair_172 : decode cX12_hair 172 = .ok (.iaload, 1) := by decide +kernel
theorem dX12_hair_173 : decode cX12_hair 173 = .ok (.iadd, 1) := by decide +kernel
theorem dX12_hair_174 : decode cX12_hair 174 = .ok (.iaload, 1) := by decide +kernel
theorem dX12_hair_175 : decode cX12_hair 175 = .ok (.iconst 1, 1) := by decide +kernel
theorem dX12_hair_176 : decode cX12_hair 176 = .ok (.iadd, 1) := by decide +kernel
theorem dX12_hair_177 : decode cX12_hair 177 = .ok (.iastore, 1) := by decide +kernel
theorem dX12_hair_178 : decode cX12_hair 178 = .ok (.iinc 4 1, 3) := by decide +kernel
theorem dX12_hair_181 : decode cX12_hair 181 = .ok (.goto (-54), 3) := by decide +kernel
theorem dX12_hair_184 : decode cX12_hair 184 = .ok (.aload_n 0, 1) := by decide +kernel
theorem dX12_hair_185 : decode cX12_hair 185 = .ok (.iload_n 1, 1) := by decide +kernel
theorem dX12_hair_186 : decode cX12_hair 186 = .ok (.invokevirtual 274, 3) := by decide +kernel
theorem dX12_hair_189 : decode cX12_hair 189 = .ok (.pop, 1) := by decide +kernel
theorem dX12_hair_190 : decode cX12_hair 190 = .ok (.aload_n 0, 1) := by decide +kernel
theorem dX12_hair_191 : decode cX12_hair 191 = .ok (.getfield 256, 3) := by decide +kernel
theorem dX12_hair_194 : decode cX12_hair 194 = .ok (.ireturn, 1) := by decide +kernel
set_option maxHeartbeats 4000000 in
set_option maxRecDepth 100000 in
theorem kL_X12_hair_48 {X : GC} {E : GE} (C : Cx X E cX12_hair RX12 4 5) (o_t : Nat) (a_t : Nat → Nat) (t_toldDoors : Int32) (t_barredDoors : Int32) (t_number0 : Int32) (t_open : Int32) (t_waiting : Int32) (t_clauses : Int32) (t_lines : Int32) (t_wasTold : Int32) (t_wasBarred : Int32) (t_goesNow : Int32) (t_jamsNow : Int32) (t_queued : Int32) (t_isKept : Int32) (t_taped : Int32) (t_length0 : Int32) (t_codeMany : Int32) (t_saidMany : Int32) (t_now : (Nat → Int32)) (t_tape : (Nat → Int32)) (x1 : Int32) (k0 : Int32 × Int32 × Int32 × Int32 × Int32 × Int32 × Int32 × (Nat → Int32) × (Nat → Int32) × (Nat → Int32) × (Nat → Int32) → Option (Int32 × Int32 × Int32 × Int32 × Int32 × Int32 × Int32 × Int32 × Int32 × Int32 × Int32 × (Nat → Int32) × (Nat → Int32) × (Nat → Int32) × (Nat → Int32) × (Nat → Int32))) {r : Int32 × Int32 × Int32 × Int32 × Int32 × Int32 × Int32 × Int32 × Int32 × Int32 × Int32 × (Nat → Int32) × (Nat → Int32) × (Nat → Int32) × (Nat → Int32) × (Nat → Int32)} (hret : RtI X E cX12_hair .int 0 0 (fun w => w = (W_X12_hair E o_t a_t t_toldDoors t_barredDoors r.2.1 r.2.2.1 r.2.2.2.1 r.2.2.2.2.1 t_number0 t_open r.2.2.2.2.2.1 t_waiting r.2.2.2.2.2.2.1 t_clauses r.2.2.2.2.2.2.2.1 r.2.2.2.2.2.2.2.2.1 r.2.2.2.2.2.2.2.2.2.1 r.2.2.2.2.2.2.2.2.2.2.1 t_lines t_wasTold t_wasBarred t_goesNow t_jamsNow t_queued t_isKept r.2.2.2.2.2.2.2.2.2.2.2.1 t_tape r.2.2.2.2.2.2.2.2.2.2.2.2.1 r.2.2.2.2.2.2.2.2.2.2.2.2.2.1 r.2.2.2.2.2.2.2.2.2.2.2.2.2.2.1 r.2.2.2.2.2.2.2.2.2.2.2.2.2.2.2)) r.1) (hk0 : ∀ u, k0 u = some r → Gx X E 0 0 (W_X12_hair E o_t a_t t_toldDoors t_barredDoors t_taped u.2.1 t_length0 u.2.2.1 t_number0 t_open t_codeMany t_waiting t_saidMany t_clauses u.2.2.2.1 u.2.2.2.2.1 u.2.2.2.2.2.1 u.2.2.2.2.2.2.1 t_lines t_wasTold t_wasBarred t_goesNow t_jamsNow t_queued t_isKept t_now t_tape u.2.2.2.2.2.2.2.1 u.2.2.2.2.2.2.2.2.1 u.2.2.2.2.2.2.2.2.2.1 u.2.2.2.2.2.2.2.2.2.2) 78 [(0, .ref o_t), (1, .int x1), (3, .int u.1)] []) : ∀ (n : Nat) (s : Int32 × Int32 × Int32 × Int32 × Int32 × Int32 × Int32 × (Nat → Int32) × (Nat → Int32) × (Nat → Int32) × (Nat → Int32)), L_X12_hair_48 t_taped t_length0 t_codeMany t_saidMany t_now t_tape x1 k0 n s = some r → Gx X E 0 0 (W_X12_hair E o_t a_t t_toldDoors t_barredDoors t_taped s.2.1 t_length0 s.2.2.1 t_number0 t_open t_codeMany t_waiting t_saidMany t_clauses s.2.2.2.1 s.2.2.2.2.1 s.2.2.2.2.2.1 s.2.2.2.2.2.2.1 t_lines t_wasTold t_wasBarred t_goesNow t_jamsNow t_queued t_isKept t_now t_tape s.2.2.2.2.2.2.2.1 s.2.2.2.2.2.2.2.2.1 s.2.2.2.2.2.2.2.2.2.1 s.2.2.2.2.2.2.2.2.2.2) 48 [(0, .ref o_t), (1, .int x1), (3, .int s.1)] [] := by
  unfold L_X12_hair_48
  refine lp_ind _ (fun go ih s h => ?_)
  refine g_iload_n (pc := 48) C dX12_hair_48 rfl 2 rfl ?_
  refine g_if_eq (pc := 49) (tgt := 78) C dX12_hair_49 (by decide) h (fun h => ?_) (fun h => ?_)
  · exact hk0 _ h
  · refine g_aload_n (pc := 52) C dX12_hair_52 rfl 0 rfl ?_
    refine g_get (pc := 53) C fl_X12_146 dX12_hair_53 0 rfl rfl ?_
    refine g_aload_n (pc := 56) C dX12_hair_56 rfl 0 rfl ?_
    refine g_get (pc := 57) C fl_X12_149 dX12_hair_57 0 rfl rfl ?_
    refine g_jn (fun s5 : Unit => Gx X E 0 0 (W_X12_hair E o_t a_t t_toldDoors t_barredDoors t_taped s.2.1 t_length0 s.2.2.1 t_number0 t_open t_codeMany t_waiting t_saidMany t_clauses s.2.2.2.1 s.2.2.2.2.1 s.2.2.2.2.2.1 s.2.2.2.2.2.2.1 t_lines t_wasTold t_wasBarred t_goesNow t_jamsNow t_queued t_isKept t_now t_tape s.2.2.2.2.2.2.2.1 s.2.2.2.2.2.2.2.2.1 s.2.2.2.2.2.2.2.2.2.1 s.2.2.2.2.2.2.2.2.2.2) 70 [(0, .ref o_t), (1, .int x1)] []) h (fun s5 h => ?_) (fun j70 hj70 h => ?_)
    · refine g_aload_n (pc := 70) C dX12_hair_70 rfl 0 rfl ?_
      obtain ⟨u6, hu6, h⟩ := bs h
      refine g_callV (pc := 71) (st := []) (st1 := [.int u6.1]) (ws' := (W_X12_hair E o_t a_t t_toldDoors t_barredDoors t_taped u6.2.1 t_length0 u6.2.2.1 t_number0 t_open t_codeMany t_waiting t_saidMany t_clauses u6.2.2.2.1 u6.2.2.2.2.1 u6.2.2.2.2.2.1 u6.2.2.2.2.2.2.1 t_lines t_wasTold t_wasBarred t_goesNow t_jamsNow t_queued t_isKept t_now t_tape u6.2.2.2.2.2.2.2.1 u6.2.2.2.2.2.2.2.2.1 u6.2.2.2.2.2.2.2.2.2.1 u6.2.2.2.2.2.2.2.2.2.2)) C mv_X12_readsPin mi_X12_readsPin ml_X12_271 (c_X12_readsPin X.2.1 E o_t a_t t_toldDoors t_barredDoors t_taped s.2.1 t_length0 s.2.2.1 t_number0 t_open t_codeMany t_waiting t_saidMany t_clauses s.2.2.2.1 s.2.2.2.2.1 s.2.2.2.2.2.1 s.2.2.2.2.2.2.1 t_lines t_wasTold t_wasBarred t_goesNow t_jamsNow t_queued t_isKept t_tape s.2.2.2.2.2.2.2.1 s.2.2.2.2.2.2.2.2.1 s.2.2.2.2.2.2.2.2.2.1 s.2.2.2.2.2.2.2.2.2.2 u6 hu6) dX12_hair_71 (by decide) rfl (Nat.le_of_ble_eq_true rfl) 0 11 rfl rfl [0, 2, 3, 4, 5, 6] rfl (by decide) rfl rfl rfl rfl ?_
      refine g_istore_n (pc := 74) (lv' := [(3, .int u6.1), (0, .ref o_t), (1, .int x1)]) C dX12_hair_74 rfl (by decide) rfl ?_
      refine g_goto (pc := 75) (tgt := 48) C dX12_hair_75 (by decide) ?_
      refine g_sub [1, 2, 0] rfl ?_
      exact ih _ h
    refine g_icmp_lt (pc := 60) (tgt := 70) C dX12_hair_60 (by decide) h (fun h => ?_) (fun h => ?_)
    · refine g_sub [0, 1] rfl ?_
      exact hj70 _ h
    · refine g_aload_n (pc := 63) C dX12_hair_63 rfl 0 rfl ?_
      refine g_get (pc := 64) C fl_X12_262 dX12_hair_64 0 rfl rfl ?_
      refine g_if_le (pc := 67) (tgt := 78) C dX12_hair_67 (by decide) h (fun h => ?_) (fun h => ?_)
      · exact hk0 _ h
      · refine g_sub [0, 1] rfl ?_
        exact hj70 _ h
set_option maxHeartbeats 4000000 in
set_option maxRecDepth 100000 in
theorem kL_X12_hair_95 {X : GC} {E : GE} (C : Cx X E cX12_hair RX12 4 5) (o_t : Nat) (a_t : Nat → Nat) (t_toldDoors : Int32) (t_barredDoors : Int32) (t_number0 : Int32) (t_open : Int32) (t_waiting : Int32) (t_clauses : Int32) (t_lines : Int32) (t_wasTold : Int32) (t_wasBarred : Int32) (t_goesNow : Int32) (t_jamsNow : Int32) (t_queued : Int32) (t_isKept : Int32) (t_taped : Int32) (t_place0 : Int32) (t_length0 : Int32) (t_fault : Int32) (t_codeMany : Int32) (t_saidMany : Int32) (t_newMany : Int32) (t_rounds : Int32) (t_pinFrom : Int32) (t_pinTimes : Int32) (t_tape : (Nat → Int32)) (t_newPins : (Nat → Int32)) (t_roundFrom : (Nat → Int32)) (t_roundAt : (Nat → Int32)) (t_roundTimes : (Nat → Int32)) (x1 : Int32) (k0 : (Nat → Int32) → Option (Int32 × Int32 × Int32 × Int32 × Int32 × Int32 × Int32 × Int32 × Int32 × Int32 × Int32 × (Nat → Int32) × (Nat → Int32) × (Nat → Int32) × (Nat → Int32) × (Nat → Int32))) {r : Int32 × Int32 × Int32 × Int32 × Int32 × Int32 × Int32 × Int32 × Int32 × Int32 × Int32 × (Nat → Int32) × (Nat → Int32) × (Nat → Int32) × (Nat → Int32) × (Nat → Int32)} (hret : RtI X E cX12_hair .int 0 0 (fun w => w = (W_X12_hair E o_t a_t t_toldDoors t_barredDoors r.2.1 r.2.2.1 r.2.2.2.1 r.2.2.2.2.1 t_number0 t_open r.2.2.2.2.2.1 t_waiting r.2.2.2.2.2.2.1 t_clauses r.2.2.2.2.2.2.2.1 r.2.2.2.2.2.2.2.2.1 r.2.2.2.2.2.2.2.2.2.1 r.2.2.2.2.2.2.2.2.2.2.1 t_lines t_wasTold t_wasBarred t_goesNow t_jamsNow t_queued t_isKept r.2.2.2.2.2.2.2.2.2.2.2.1 t_tape r.2.2.2.2.2.2.2.2.2.2.2.2.1 r.2.2.2.2.2.2.2.2.2.2.2.2.2.1 r.2.2.2.2.2.2.2.2.2.2.2.2.2.2.1 r.2.2.2.2.2.2.2.2.2.2.2.2.2.2.2)) r.1) (hk0 : ∀ u, k0 u = some r → Gx X E 0 0 (W_X12_hair E o_t a_t t_toldDoors t_barredDoors t_taped t_place0 t_length0 t_fault t_number0 t_open t_codeMany t_waiting t_saidMany t_clauses t_newMany t_rounds t_pinFrom t_pinTimes t_lines t_wasTold t_wasBarred t_goesNow t_jamsNow t_queued t_isKept u t_tape t_newPins t_roundFrom t_roundAt t_roundTimes) 124 [(0, .ref o_t), (1, .int x1)] []) : ∀ (n : Nat) (s : Int32 × (Nat → Int32)), L_X12_hair_95 t_taped t_place0 t_length0 t_fault t_codeMany t_saidMany t_newMany t_rounds t_pinFrom t_pinTimes t_tape t_newPins t_roundFrom t_roundAt t_roundTimes x1 k0 n s = some r → Gx X E 0 0 (W_X12_hair E o_t a_t t_toldDoors t_barredDoors t_taped t_place0 t_length0 t_fault t_number0 t_open t_codeMany t_waiting t_saidMany t_clauses t_newMany t_rounds t_pinFrom t_pinTimes t_lines t_wasTold t_wasBarred t_goesNow t_jamsNow t_queued t_isKept s.2 t_tape t_newPins t_roundFrom t_roundAt t_roundTimes) 95 [(0, .ref o_t), (1, .int x1), (4, .int s.1)] [] := by
  unfold L_X12_hair_95
  refine lp_ind _ (fun go ih s h => ?_)
  refine g_iload (pc := 95) C dX12_hair_95 2 rfl ?_
  refine g_bipush (pc := 97) (v := 6) C dX12_hair_97 (by decide) ?_
  refine g_icmp_ge (pc := 99) (tgt := 124) C dX12_hair_99 (by decide) h (fun h => ?_) (fun h => ?_)
  · refine g_sub [0, 1] rfl ?_
    exact hk0 _ h
  · refine g_aload_n (pc := 102) C dX12_hair_102 rfl 0 rfl ?_
    refine g_get (pc := 103) C fl_X12_7 dX12_hair_103 0 rfl rfl ?_
    refine g_bipush (pc := 106) (v := 44) C dX12_hair_106 (by decide) ?_
    refine g_bipush (pc := 108) (v := 6) C dX12_hair_108 (by decide) ?_
    refine g_iload_n (pc := 110) C dX12_hair_110 rfl 1 rfl ?_
    refine g_imul (pc := 111) C dX12_hair_111 ?_
    refine g_iadd (pc := 112) C dX12_hair_112 ?_
    refine g_iload (pc := 113) C dX12_hair_113 2 rfl ?_
    refine g_iadd (pc := 115) C dX12_hair_115 ?_
    refine g_iconst (pc := 116) (v := 0) C dX12_hair_116 (by decide) ?_
    refine g_iast (pc := 117) C dX12_hair_117 1 rfl h (fun g8 h => ?_)
    refine g_ws (ws' := (W_X12_hair E o_t a_t t_toldDoors t_barredDoors t_taped t_place0 t_length0 t_fault t_number0 t_open t_codeMany t_waiting t_saidMany t_clauses t_newMany t_rounds t_pinFrom t_pinTimes t_lines t_wasTold t_wasBarred t_goesNow t_jamsNow t_queued t_isKept g8 t_tape t_newPins t_roundFrom t_roundAt t_roundTimes)) rfl ?_
    refine g_iincn (pc := 118) (j := 2) (d := 1) (lv' := fun v9 => [(4, .int v9), (0, .ref o_t), (1, .int x1)]) C dX12_hair_118 rfl (by decide) (by decide) (fun _ => rfl) h (fun v9 h => ?_)
    refine g_goto (pc := 121) (tgt := 95) C dX12_hair_121 (by decide) ?_
    refine g_sub [1, 2, 0] rfl ?_
    exact ih _ h
set_option maxHeartbeats 4000000 in
set_option maxRecDepth 100000 in
theorem kL_X12_hair_127 {X : GC} {E : GE} (C : Cx X E cX12_hair RX12 4 5) (o_t : Nat) (a_t : Nat → Nat) (t_toldDoors : Int32) (t_barredDoors : Int32) (t_number0 : Int32) (t_open : Int32) (t_waiting : Int32) (t_clauses : Int32) (t_lines : Int32) (t_wasTold : Int32) (t_wasBarred : Int32) (t_goesNow : Int32) (t_jamsNow : Int32) (t_queued : Int32) (t_isKept : Int32) (t_taped : Int32) (t_place0 : Int32) (t_length0 : Int32) (t_fault : Int32) (t_codeMany : Int32) (t_saidMany : Int32) (t_newMany : Int32) (t_rounds : Int32) (t_pinFrom : Int32) (t_pinTimes : Int32) (t_tape : (Nat → Int32)) (t_newPins : (Nat → Int32)) (t_roundFrom : (Nat → Int32)) (t_roundAt : (Nat → Int32)) (t_roundTimes : (Nat → Int32)) (x1 : Int32) (k0 : (Nat → Int32) → Option (Int32 × Int32 × Int32 × Int32 × Int32 × Int32 × Int32 × Int32 × Int32 × Int32 × Int32 × (Nat → Int32) × (Nat → Int32) × (Nat → Int32) × (Nat → Int32) × (Nat → Int32))) {r : Int32 × Int32 × Int32 × Int32 × Int32 × Int32 × Int32 × Int32 × Int32 × Int32 × Int32 × (Nat → Int32) × (Nat → Int32) × (Nat → Int32) × (Nat → Int32) × (Nat → Int32)} (hret : RtI X E cX12_hair .int 0 0 (fun w => w = (W_X12_hair E o_t a_t t_toldDoors t_barredDoors r.2.1 r.2.2.1 r.2.2.2.1 r.2.2.2.2.1 t_number0 t_open r.2.2.2.2.2.1 t_waiting r.2.2.2.2.2.2.1 t_clauses r.2.2.2.2.2.2.2.1 r.2.2.2.2.2.2.2.2.1 r.2.2.2.2.2.2.2.2.2.1 r.2.2.2.2.2.2.2.2.2.2.1 t_lines t_wasTold t_wasBarred t_goesNow t_jamsNow t_queued t_isKept r.2.2.2.2.2.2.2.2.2.2.2.1 t_tape r.2.2.2.2.2.2.2.2.2.2.2.2.1 r.2.2.2.2.2.2.2.2.2.2.2.2.2.1 r.2.2.2.2.2.2.2.2.2.2.2.2.2.2.1 r.2.2.2.2.2.2.2.2.2.2.2.2.2.2.2)) r.1) (hk0 : ∀ u, k0 u = some r → Gx X E 0 0 (W_X12_hair E o_t a_t t_toldDoors t_barredDoors t_taped t_place0 t_length0 t_fault t_number0 t_open t_codeMany t_waiting t_saidMany t_clauses t_newMany t_rounds t_pinFrom t_pinTimes t_lines t_wasTold t_wasBarred t_goesNow t_jamsNow t_queued t_isKept u t_tape t_newPins t_roundFrom t_roundAt t_roundTimes) 184 [(0, .ref o_t), (1, .int x1)] []) : ∀ (n : Nat) (s : Int32 × (Nat → Int32)), L_X12_hair_127 t_taped t_place0 t_length0 t_fault t_codeMany t_saidMany t_newMany t_rounds t_pinFrom t_pinTimes t_tape t_newPins t_roundFrom t_roundAt t_roundTimes x1 k0 n s = some r → Gx X E 0 0 (W_X12_hair E o_t a_t t_toldDoors t_barredDoors t_taped t_place0 t_length0 t_fault t_number0 t_open t_codeMany t_waiting t_saidMany t_clauses t_newMany t_rounds t_pinFrom t_pinTimes t_lines t_wasTold t_wasBarred t_goesNow t_jamsNow t_queued t_isKept s.2 t_tape t_newPins t_roundFrom t_roundAt t_roundTimes) 127 [(0, .ref o_t), (1, .int x1), (4, .int s.1)] [] := by
  unfold L_X12_hair_127
  refine lp_ind _ (fun go ih s h => ?_)
  refine g_iload (pc := 127) C dX12_hair_127 2 rfl ?_
  refine g_aload_n (pc := 129) C dX12_hair_129 rfl 0 rfl ?_
  refine g_get (pc := 130) C fl_X12_256 dX12_hair_130 0 rfl rfl ?_
  refine g_icmp_ge (pc := 133) (tgt := 184) C dX12_hair_133 (by decide) h (fun h => ?_) (fun h => ?_)
  · refine g_sub [0, 1] rfl ?_
    exact hk0 _ h
  · refine g_aload_n (pc := 136) C dX12_hair_136 rfl 0 rfl ?_
    refine g_get (pc := 137) C fl_X12_7 dX12_hair_137 0 rfl rfl ?_
    refine g_bipush (pc := 140) (v := 44) C dX12_hair_140 (by decide) ?_
    refine g_bipush (pc := 142) (v := 6) C dX12_hair_142 (by decide) ?_
    refine g_iload_n (pc := 144) C dX12_hair_144 rfl 1 rfl ?_
    refine g_imul (pc := 145) C dX12_hair_145 ?_
    refine g_iadd (pc := 146) C dX12_hair_146 ?_
    refine g_aload_n (pc := 147) C dX12_hair_147 rfl 0 rfl ?_
    refine g_get (pc := 148) C fl_X12_86 dX12_hair_148 0 rfl rfl ?_
    refine g_iload (pc := 151) C dX12_hair_151 2 rfl ?_
    refine g_iald (pc := 153) C dX12_hair_153 3 rfl h (fun v11 h => ?_)
    refine g_iadd (pc := 154) C dX12_hair_154 ?_
    refine g_aload_n (pc := 155) C dX12_hair_155 rfl 0 rfl ?_
    refine g_get (pc := 156) C fl_X12_7 dX12_hair_156 0 rfl rfl ?_
    refine g_bipush (pc := 159) (v := 44) C dX12_hair_159 (by decide) ?_
    refine g_bipush (pc := 161) (v := 6) C dX12_hair_161 (by decide) ?_
    refine g_iload_n (pc := 163) C dX12_hair_163 rfl 1 rfl ?_
    refine g_imul (pc := 164) C dX12_hair_164 ?_
    refine g_iadd (pc := 165) C dX12_hair_165 ?_
    refine g_aload_n (pc := 166) C dX12_hair_166 rfl 0 rfl ?_
    refine g_get (pc := 167) C fl_X12_86 dX12_hair_167 0 rfl rfl ?_
    refine g_iload (pc := 170) C dX12_hair_170 2 rfl ?_
    refine g_iald (pc := 172) C dX12_hair_172 3 rfl h (fun v12 h => ?_)
    refine g_iadd (pc := 173) C dX12_hair_173 ?_
    refine g_iald (pc := 174) C dX12_hair_174 1 rfl h (fun v13 h => ?_)
    refine g_iconst (pc := 175) (v := 1) C dX12_hair_175 (by decide) ?_
    refine g_iadd (pc := 176) C dX12_hair_176 ?_
    refine g_iast (pc := 177) C dX12_hair_177 1 rfl h (fun g14 h => ?_)
    refine g_ws (ws' := (W_X12_hair E o_t a_t t_toldDoors t_barredDoors t_taped t_place0 t_length0 t_fault t_number0 t_open t_codeMany t_waiting t_saidMany t_clauses t_newMany t_rounds t_pinFrom t_pinTimes t_lines t_wasTold t_wasBarred t_goesNow t_jamsNow t_queued t_isKept g14 t_tape t_newPins t_roundFrom t_roundAt t_roundTimes)) rfl ?_
    refine g_iincn (pc := 178) (j := 2) (d := 1) (lv' := fun v15 => [(4, .int v15), (0, .ref o_t), (1, .int x1)]) C dX12_hair_178 rfl (by decide) (by decide) (fun _ => rfl) h (fun v15 h => ?_)
    refine g_goto (pc := 181) (tgt := 127) C dX12_hair_181 (by decide) ?_
    refine g_sub [1, 2, 0] rfl ?_
    exact ih _ h
set_option maxHeartbeats 4000000 in
set_option maxRecDepth 100000 in
theorem c_X12_hair (l : Launch) (E : GE) (o_t : Nat) (a_t : Nat → Nat) (t_toldDoors : Int32) (t_barredDoors : Int32) (t_taped : Int32) (t_place0 : Int32) (t_length0 : Int32) (t_fault : Int32) (t_number0 : Int32) (t_open : Int32) (t_codeMany : Int32) (t_waiting : Int32) (t_saidMany : Int32) (t_clauses : Int32) (t_newMany : Int32) (t_rounds : Int32) (t_pinFrom : Int32) (t_pinTimes : Int32) (t_lines : Int32) (t_wasTold : Int32) (t_wasBarred : Int32) (t_goesNow : Int32) (t_jamsNow : Int32) (t_queued : Int32) (t_isKept : Int32) (t_now : (Nat → Int32)) (t_tape : (Nat → Int32)) (t_newPins : (Nat → Int32)) (t_roundFrom : (Nat → Int32)) (t_roundAt : (Nat → Int32)) (t_roundTimes : (Nat → Int32)) (x1 : Int32) (x2 : Int32) (r : Int32 × Int32 × Int32 × Int32 × Int32 × Int32 × Int32 × Int32 × Int32 × Int32 × Int32 × (Nat → Int32) × (Nat → Int32) × (Nat → Int32) × (Nat → Int32) × (Nat → Int32)) (h : f_X12_hair t_taped t_place0 t_length0 t_fault t_codeMany t_saidMany t_newMany t_rounds t_pinFrom t_pinTimes t_now t_tape t_newPins t_roundFrom t_roundAt t_roundTimes x1 x2 = some r) : Cn l E yX12_hair cX12_hair 5 (some .int) 4 0 0 [.ref o_t, .int x1, .int x2] (W_X12_hair E o_t a_t t_toldDoors t_barredDoors t_taped t_place0 t_length0 t_fault t_number0 t_open t_codeMany t_waiting t_saidMany t_clauses t_newMany t_rounds t_pinFrom t_pinTimes t_lines t_wasTold t_wasBarred t_goesNow t_jamsNow t_queued t_isKept t_now t_tape t_newPins t_roundFrom t_roundAt t_roundTimes) (fun w => w = (W_X12_hair E o_t a_t t_toldDoors t_barredDoors r.2.1 r.2.2.1 r.2.2.2.1 r.2.2.2.2.1 t_number0 t_open r.2.2.2.2.2.1 t_waiting r.2.2.2.2.2.2.1 t_clauses r.2.2.2.2.2.2.2.1 r.2.2.2.2.2.2.2.2.1 r.2.2.2.2.2.2.2.2.2.1 r.2.2.2.2.2.2.2.2.2.2.1 t_lines t_wasTold t_wasBarred t_goesNow t_jamsNow t_queued t_isKept r.2.2.2.2.2.2.2.2.2.2.2.1 t_tape r.2.2.2.2.2.2.2.2.2.2.2.2.1 r.2.2.2.2.2.2.2.2.2.2.2.2.2.1 r.2.2.2.2.2.2.2.2.2.2.2.2.2.2.1 r.2.2.2.2.2.2.2.2.2.2.2.2.2.2.2)) (some (.int r.1)) := by
  refine Cn.ofI (by decide +kernel) (Nat.le_of_ble_eq_true rfl) (fun X hX hR C hret => ?_)
  subst hX
  show Gx X E 0 0 (W_X12_hair E o_t a_t t_toldDoors t_barredDoors t_taped t_place0 t_length0 t_fault t_number0 t_open t_codeMany t_waiting t_saidMany t_clauses t_newMany t_rounds t_pinFrom t_pinTimes t_lines t_wasTold t_wasBarred t_goesNow t_jamsNow t_queued t_isKept t_now t_tape t_newPins t_roundFrom t_roundAt t_roundTimes) 0 [(0, .ref o_t), (1, .int x1), (2, .int x2)] []
  unfold f_X12_hair at h
  refine g_aload_n (pc := 0) C dX12_hair_0 rfl 0 rfl ?_
  refine g_iload_n (pc := 1) C dX12_hair_1 rfl 1 rfl ?_
  obtain ⟨u1, hu1, h⟩ := bs h
  refine g_callV (pc := 2) (st := []) (st1 := [.int u1]) (ws' := (W_X12_hair E o_t a_t t_toldDoors t_barredDoors t_taped t_place0 t_length0 t_fault t_number0 t_open t_codeMany t_waiting t_saidMany t_clauses t_newMany t_rounds t_pinFrom t_pinTimes t_lines t_wasTold t_wasBarred t_goesNow t_jamsNow t_queued t_isKept t_now t_tape t_newPins t_roundFrom t_roundAt t_roundTimes)) C mv_X12_isWoman mi_X12_isWoman ml_X12_268 (c_X12_isWoman X.2.1 E o_t a_t t_toldDoors t_barredDoors t_taped t_place0 t_length0 t_fault t_number0 t_open t_codeMany t_waiting t_saidMany t_clauses t_newMany t_rounds t_pinFrom t_pinTimes t_lines t_wasTold t_wasBarred t_goesNow t_jamsNow t_queued t_isKept t_now x1 u1 hu1) dX12_hair_2 (by decide) rfl (Nat.le_of_ble_eq_true rfl) 0 11 rfl rfl [0, 1] rfl (by decide) rfl rfl rfl rfl ?_
  refine g_if_eq (pc := 5) (tgt := 26) C dX12_hair_5 (by decide) h (fun h => ?_) (fun h => ?_)
  · refine g_iconst (pc := 26) (v := -1) C dX12_hair_26 (by decide) ?_
    cases h
    exact hret _ _ _ dX12_hair_27 rfl rfl
  · refine g_iload_n (pc := 8) C dX12_hair_8 rfl 2 rfl ?_
    refine g_iconst (pc := 9) (v := 1) C dX12_hair_9 (by decide) ?_
    refine g_bipush (pc := 10) (v := 60) C dX12_hair_10 (by decide) ?_
    obtain ⟨u2, hu2, h⟩ := bs h
    refine g_callS (pc := 12) (st := []) (st1 := [.int u2]) (ws' := (W_X12_hair E o_t a_t t_toldDoors t_barredDoors t_taped t_place0 t_length0 t_fault t_number0 t_open t_codeMany t_waiting t_saidMany t_clauses t_newMany t_rounds t_pinFrom t_pinTimes t_lines t_wasTold t_wasBarred t_goesNow t_jamsNow t_queued t_isKept t_now t_tape t_newPins t_roundFrom t_roundAt t_roundTimes)) C mv_X12_in ms_X12_in ml_X12_117 (c_X12_in X.2.1 E x2 (1 : Int32) (60 : Int32) u2 hu2) dX12_hair_12 (by decide) rfl (Nat.le_of_ble_eq_true rfl) [] rfl (by decide) rfl rfl rfl rfl ?_
    refine g_if_eq (pc := 15) (tgt := 26) C dX12_hair_15 (by decide) h (fun h => ?_) (fun h => ?_)
    · refine g_iconst (pc := 26) (v := -1) C dX12_hair_26 (by decide) ?_
      cases h
      exact hret _ _ _ dX12_hair_27 rfl rfl
    · refine g_iload_n (pc := 18) C dX12_hair_18 rfl 2 rfl ?_
      refine g_aload_n (pc := 19) C dX12_hair_19 rfl 0 rfl ?_
      refine g_get (pc := 20) C fl_X12_139 dX12_hair_20 0 rfl rfl ?_
      refine g_icmp_le (pc := 23) (tgt := 28) C dX12_hair_23 (by decide) h (fun h => ?_) (fun h => ?_)
      · refine g_aload_n (pc := 28) C dX12_hair_28 rfl 0 rfl ?_
        refine g_iload_n (pc := 29) C dX12_hair_29 rfl 2 rfl ?_
        obtain ⟨u3, hu3, h⟩ := bs h
        refine g_callV (pc := 30) (st := []) (st1 := []) (ws' := (W_X12_hair E o_t a_t t_toldDoors t_barredDoors t_taped u3.1 u3.2.1 t_fault t_number0 t_open u3.2.2.1 t_waiting u3.2.2.2 t_clauses t_newMany t_rounds t_pinFrom t_pinTimes t_lines t_wasTold t_wasBarred t_goesNow t_jamsNow t_queued t_isKept t_now t_tape t_newPins t_roundFrom t_roundAt t_roundTimes)) C mv_X12_beginsText mi_X12_beginsText ml_X12_230 (c_X12_beginsText X.2.1 E o_t a_t t_toldDoors t_barredDoors t_taped t_place0 t_length0 t_fault t_number0 t_open t_codeMany t_waiting t_saidMany t_clauses t_newMany t_rounds t_pinFrom t_pinTimes t_lines t_wasTold t_wasBarred t_goesNow t_jamsNow t_queued t_isKept x2 u3 hu3) dX12_hair_30 (by decide) rfl (Nat.le_of_ble_eq_true rfl) 0 11 rfl rfl [0] rfl (by decide) rfl rfl rfl rfl ?_
        refine g_aload_n (pc := 33) C dX12_hair_33 rfl 0 rfl ?_
        refine g_iconst (pc := 34) (v := 0) C dX12_hair_34 (by decide) ?_
        refine g_put (pc := 35) (ws' := (W_X12_hair E o_t a_t t_toldDoors t_barredDoors t_taped u3.1 u3.2.1 t_fault t_number0 t_open u3.2.2.1 t_waiting u3.2.2.2 t_clauses (0 : Int32) t_rounds t_pinFrom t_pinTimes t_lines t_wasTold t_wasBarred t_goesNow t_jamsNow t_queued t_isKept t_now t_tape t_newPins t_roundFrom t_roundAt t_roundTimes)) C .int fl_X12_256 dX12_hair_35 0 rfl (by decide +kernel) rfl rfl (Nat.le_of_ble_eq_true rfl) rfl ?_
        refine g_aload_n (pc := 38) C dX12_hair_38 rfl 0 rfl ?_
        refine g_iconst (pc := 39) (v := 0) C dX12_hair_39 (by decide) ?_
        refine g_put (pc := 40) (ws' := (W_X12_hair E o_t a_t t_toldDoors t_barredDoors t_taped u3.1 u3.2.1 t_fault t_number0 t_open u3.2.2.1 t_waiting u3.2.2.2 t_clauses (0 : Int32) (0 : Int32) t_pinFrom t_pinTimes t_lines t_wasTold t_wasBarred t_goesNow t_jamsNow t_queued t_isKept t_now t_tape t_newPins t_roundFrom t_roundAt t_roundTimes)) C .int fl_X12_262 dX12_hair_40 0 rfl (by decide +kernel) rfl rfl (Nat.le_of_ble_eq_true rfl) rfl ?_
        refine g_aload_n (pc := 43) C dX12_hair_43 rfl 0 rfl ?_
        obtain ⟨u4, hu4, h⟩ := bs h
        refine g_callV (pc := 44) (st := []) (st1 := [.int u4.1]) (ws' := (W_X12_hair E o_t a_t t_toldDoors t_barredDoors t_taped u4.2.1 u3.2.1 u4.2.2.1 t_number0 t_open u3.2.2.1 t_waiting u3.2.2.2 t_clauses u4.2.2.2.1 u4.2.2.2.2.1 u4.2.2.2.2.2.1 u4.2.2.2.2.2.2.1 t_lines t_wasTold t_wasBarred t_goesNow t_jamsNow t_queued t_isKept t_now t_tape u4.2.2.2.2.2.2.2.1 u4.2.2.2.2.2.2.2.2.1 u4.2.2.2.2.2.2.2.2.2.1 u4.2.2.2.2.2.2.2.2.2.2)) C mv_X12_readsPin mi_X12_readsPin ml_X12_271 (c_X12_readsPin X.2.1 E o_t a_t t_toldDoors t_barredDoors t_taped u3.1 u3.2.1 t_fault t_number0 t_open u3.2.2.1 t_waiting u3.2.2.2 t_clauses (0 : Int32) (0 : Int32) t_pinFrom t_pinTimes t_lines t_wasTold t_wasBarred t_goesNow t_jamsNow t_queued t_isKept t_tape t_newPins t_roundFrom t_roundAt t_roundTimes u4 hu4) dX12_hair_44 (by decide) rfl (Nat.le_of_ble_eq_true rfl) 0 11 rfl rfl [0, 2, 3, 4, 5, 6] rfl (by decide) rfl rfl rfl rfl ?_
        refine g_istore_n (pc := 47) (lv' := [(3, .int u4.1), (0, .ref o_t), (1, .int x1), (2, .int x2)]) C dX12_hair_47 rfl (by decide) rfl ?_
        refine g_sub [1, 2, 0] rfl ?_
        refine kL_X12_hair_48 C o_t a_t t_toldDoors t_barredDoors t_number0 t_open t_waiting t_clauses t_lines t_wasTold t_wasBarred t_goesNow t_jamsNow t_queued t_isKept t_taped u3.2.1 u3.2.2.1 u3.2.2.2 t_now t_tape x1 _ hret (fun s7 h => ?_) _ _ h
        refine g_aload_n (pc := 78) C dX12_hair_78 rfl 0 rfl ?_
        refine g_iconst (pc := 79) (v := 0) C dX12_hair_79 (by decide) ?_
        refine g_put (pc := 80) (ws' := (W_X12_hair E o_t a_t t_toldDoors t_barredDoors (0 : Int32) s7.2.1 u3.2.1 s7.2.2.1 t_number0 t_open u3.2.2.1 t_waiting u3.2.2.2 t_clauses s7.2.2.2.1 s7.2.2.2.2.1 s7.2.2.2.2.2.1 s7.2.2.2.2.2.2.1 t_lines t_wasTold t_wasBarred t_goesNow t_jamsNow t_queued t_isKept t_now t_tape s7.2.2.2.2.2.2.2.1 s7.2.2.2.2.2.2.2.2.1 s7.2.2.2.2.2.2.2.2.2.1 s7.2.2.2.2.2.2.2.2.2.2)) C .int fl_X12_139 dX12_hair_80 0 rfl (by decide +kernel) rfl rfl (Nat.le_of_ble_eq_true rfl) rfl ?_
        refine g_iload_n (pc := 83) C dX12_hair_83 rfl 2 rfl ?_
        refine g_if_ne (pc := 84) (tgt := 92) C dX12_hair_84 (by decide) h (fun h => ?_) (fun h => ?_)
        · refine g_iconst (pc := 92) (v := 0) C dX12_hair_92 (by decide) ?_
          refine g_istore (pc := 93) (lv' := [(4, .int (0 : Int32)), (0, .ref o_t), (1, .int x1), (3, .int s7.1)]) C dX12_hair_93 (by decide) rfl ?_
          refine g_sub [1, 2, 0] rfl ?_
          refine kL_X12_hair_95 C o_t a_t t_toldDoors t_barredDoors t_number0 t_open t_waiting t_clauses t_lines t_wasTold t_wasBarred t_goesNow t_jamsNow t_queued t_isKept (0 : Int32) s7.2.1 u3.2.1 s7.2.2.1 u3.2.2.1 u3.2.2.2 s7.2.2.2.1 s7.2.2.2.2.1 s7.2.2.2.2.2.1 s7.2.2.2.2.2.2.1 t_tape s7.2.2.2.2.2.2.2.1 s7.2.2.2.2.2.2.2.2.1 s7.2.2.2.2.2.2.2.2.2.1 s7.2.2.2.2.2.2.2.2.2.2 x1 _ hret (fun s10 h => ?_) _ _ h
          refine g_iconst (pc := 124) (v := 0) C dX12_hair_124 (by decide) ?_
          refine g_istore (pc := 125) (lv' := [(4, .int (0 : Int32)), (0, .ref o_t), (1, .int x1)]) C dX12_hair_125 (by decide) rfl ?_
          refine g_sub [1, 2, 0] rfl ?_
          refine kL_X12_hair_127 C o_t a_t t_toldDoors t_barredDoors t_number0 t_open t_waiting t_clauses t_lines t_wasTold t_wasBarred t_goesNow t_jamsNow t_queued t_isKept (0 : Int32) s7.2.1 u3.2.1 s7.2.2.1 u3.2.2.1 u3.2.2.2 s7.2.2.2.1 s7.2.2.2.2.1 s7.2.2.2.2.2.1 s7.2.2.2.2.2.2.1 t_tape s7.2.2.2.2.2.2.2.1 s7.2.2.2.2.2.2.2.2.1 s7.2.2.2.2.2.2.2.2.2.1 s7.2.2.2.2.2.2.2.2.2.2 x1 _ hret (fun s16 h => ?_) _ _ h
          refine g_aload_n (pc := 184) C dX12_hair_184 rfl 0 rfl ?_
          refine g_iload_n (pc := 185) C dX12_hair_185 rfl 1 rfl ?_
          obtain ⟨u17, hu17, h⟩ := bs h
          refine g_callV (pc := 186) (st := []) (st1 := [.int u17.1]) (ws' := (W_X12_hair E o_t a_t t_toldDoors t_barredDoors (0 : Int32) s7.2.1 u3.2.1 s7.2.2.1 t_number0 t_open u3.2.2.1 t_waiting u3.2.2.2 t_clauses s7.2.2.2.1 s7.2.2.2.2.1 s7.2.2.2.2.2.1 s7.2.2.2.2.2.2.1 t_lines t_wasTold t_wasBarred t_goesNow t_jamsNow t_queued t_isKept u17.2 t_tape s7.2.2.2.2.2.2.2.1 s7.2.2.2.2.2.2.2.2.1 s7.2.2.2.2.2.2.2.2.2.1 s7.2.2.2.2.2.2.2.2.2.2)) C mv_X12_putsUp mi_X12_putsUp ml_X12_274 (c_X12_putsUp X.2.1 E o_t a_t t_toldDoors t_barredDoors (0 : Int32) s7.2.1 u3.2.1 s7.2.2.1 t_number0 t_open u3.2.2.1 t_waiting u3.2.2.2 t_clauses s7.2.2.2.1 s7.2.2.2.2.1 s7.2.2.2.2.2.1 s7.2.2.2.2.2.2.1 t_lines t_wasTold t_wasBarred t_goesNow t_jamsNow t_queued t_isKept s16 x1 u17 hu17) dX12_hair_186 (by decide) rfl (Nat.le_of_ble_eq_true rfl) 0 11 rfl rfl [0, 1] rfl (by decide) rfl rfl rfl rfl ?_
          refine g_pop (pc := 189) C dX12_hair_189 rfl ?_
          refine g_aload_n (pc := 190) C dX12_hair_190 rfl 0 rfl ?_
          refine g_get (pc := 191) C fl_X12_256 dX12_hair_191 0 rfl rfl ?_
          cases h
          exact hret _ _ _ dX12_hair_194 rfl rfl
        · refine g_aload_n (pc := 87) C dX12_hair_87 rfl 0 rfl ?_
          refine g_get (pc := 88) C fl_X12_156 dX12_hair_88 0 rfl rfl ?_
          cases h
          exact hret _ _ _ dX12_hair_91 rfl rfl
      · refine g_iconst (pc := 26) (v := -1) C dX12_hair_26 (by decide) ?_
        cases h
        exact hret _ _ _ dX12_hair_27 rfl rfl
abbrev W_X12_laysWays (E : GE) (O_t : Nat) (a_t : Nat → Nat) (t_toldDoors : Int32) (t_barredDoors : Int32) (t_taped : Int32) (t_place0 : Int32) (t_length0 : Int32) (t_fault : Int32) (t_number0 : Int32) (t_open : Int32) (t_codeMany : Int32) (t_waiting : Int32) (t_saidMany : Int32) (t_clauses : Int32) (t_newMany : Int32) (t_rounds : Int32) (t_pinFrom : Int32) (t_pinTimes : Int32) (t_lines : Int32) (t_wasTold : Int32) (t_wasBarred : Int32) (t_goesNow : Int32) (t_jamsNow : Int32) (t_queued : Int32) (t_isKept : Int32) (t_now : (Nat → Int32)) (t_prongsOf : (Nat → Int32)) (t_oneOf : (Nat → Int32)) (t_otherOf : (Nat → Int32)) (t_wardsOf : (Nat → Int32)) (t_stepsTo : (Nat → Int32)) (t_firstBy : (Nat → Int32)) (t_queue : (Nat → Int32)) : va_W := [(O_t, ob_X12 a_t t_toldDoors t_barredDoors t_taped t_place0 t_length0 t_fault t_number0 t_open t_codeMany t_waiting t_saidMany t_clauses t_newMany t_rounds t_pinFrom t_pinTimes t_lines t_wasTold t_wasBarred t_goesNow t_jamsNow t_queued t_isKept), (a_t 0, .inl (E.2.1, 166, .inl t_now)), (a_t 3, .inl (E.2.1, 6, .inl t_prongsOf)), (a_t 4, .inl (E.2.1, 24, .inl t_oneOf)), (a_t 5, .inl (E.2.1, 24, .inl t_otherOf)), (a_t 6, .inl (E.2.1, 24, .inl t_wardsOf)), (a_t 50, .inl (E.2.2.1, 1882384, .inl t_stepsTo)), (a_t 51, .inl (E.2.2.1, 1882384, .inl t_firstBy)), (a_t 52, .inl (E.2.1, 15000, .inl t_queue))]
def L_X12_laysWays_107 (t_toldDoors : Int32) (t_barredDoors : Int32) (t_now : (Nat → Int32)) (t_prongsOf : (Nat → Int32)) (t_oneOf : (Nat → Int32)) (t_otherOf : (Nat → Int32)) (t_wardsOf : (Nat → Int32)) (x1 : Int32) (x3 : Int32) (x4 : Int32) (x5 : Int32) (k0 : Int32 × (Nat → Int32) × (Nat → Int32) × (Nat → Int32) → Option (Int32 × (Nat → Int32) × (Nat → Int32) × (Nat → Int32))) : Nat → Int32 × Int32 × (Nat → Int32) × (Nat → Int32) × (Nat → Int32) → Option (Int32 × (Nat → Int32) × (Nat → Int32) × (Nat → Int32)) := lp fun go s => if (6 : Int32) ≤ s.1 then (k0 (s.2.1, s.2.2.1, s.2.2.2.1, s.2.2.2.2)) else (f_X12_fits t_prongsOf t_wardsOf s.1 x5).bind fun u11 => if u11 = 0 then (nm (s.1 + (1 : Int32)) fun v12 => go (v12, s.2.1, s.2.2.1, s.2.2.2.1, s.2.2.2.2)) else (f_X12_goneOf x4 s.1).bind fun u13 => rd t_now 166 (((104 : Int32) + ((6 : Int32) * x1)) + s.1) fun v14 => if v14 ≤ u13 then (nm (s.1 + (1 : Int32)) fun v15 => go (v15, s.2.1, s.2.2.1, s.2.2.2.1, s.2.2.2.2)) else (f_X12_goesOn s.2.1 t_oneOf t_otherOf s.2.2.1 s.2.2.2.1 s.2.2.2.2 x1 x4 x5 s.1).bind fun u16 => nm (s.1 + (1 : Int32)) fun v17 => go (v17, u16.1, u16.2.1, u16.2.2.1, u16.2.2.2)
def L_X12_laysWays_69 (t_toldDoors : Int32) (t_barredDoors : Int32) (t_now : (Nat → Int32)) (t_prongsOf : (Nat → Int32)) (t_oneOf : (Nat → Int32)) (t_otherOf : (Nat → Int32)) (t_wardsOf : (Nat → Int32)) (x1 : Int32) (x3 : Int32) (x4 : Int32) (k0 : Int32 × (Nat → Int32) × (Nat → Int32) × (Nat → Int32) → Option (Int32 × (Nat → Int32) × (Nat → Int32) × (Nat → Int32))) : Nat → Int32 × Int32 × (Nat → Int32) × (Nat → Int32) × (Nat → Int32) → Option (Int32 × (Nat → Int32) × (Nat → Int32) × (Nat → Int32)) := lp fun go s => if (24 : Int32) ≤ s.1 then (k0 (s.2.1, s.2.2.1, s.2.2.2.1, s.2.2.2.2)) else (f_X12_canOpen t_toldDoors t_barredDoors s.1).bind fun u7 => if u7 = 0 then (nm (s.1 + (1 : Int32)) fun v8 => go (v8, s.2.1, s.2.2.1, s.2.2.2.1, s.2.2.2.2)) else dv x4 (117649 : Int32) fun v9 => (f_X12_behind t_oneOf t_otherOf s.1 v9).bind fun u10 => if u10 = (-1 : Int32) then (nm (s.1 + (1 : Int32)) fun v20 => go (v20, s.2.1, s.2.2.1, s.2.2.2.1, s.2.2.2.2)) else L_X12_laysWays_107 t_toldDoors t_barredDoors t_now t_prongsOf t_oneOf t_otherOf t_wardsOf x1 x3 x4 s.1 (fun s18 => nm (s.1 + (1 : Int32)) fun v19 => go (v19, s18.1, s18.2.1, s18.2.2.1, s18.2.2.2)) fu ((0 : Int32), s.2.1, s.2.2.1, s.2.2.2.1, s.2.2.2.2)
def L_X12_laysWays_35 (t_toldDoors : Int32) (t_barredDoors : Int32) (t_now : (Nat → Int32)) (t_prongsOf : (Nat → Int32)) (t_oneOf : (Nat → Int32)) (t_otherOf : (Nat → Int32)) (t_wardsOf : (Nat → Int32)) (x1 : Int32) : Nat → Int32 × Int32 × (Nat → Int32) × (Nat → Int32) × (Nat → Int32) → Option (Int32 × (Nat → Int32) × (Nat → Int32) × (Nat → Int32)) := lp fun go s => if s.2.1 ≤ s.1 then (some (s.2.1, s.2.2.1, s.2.2.2.1, s.2.2.2.2)) else rd s.2.2.2.2 15000 s.1 fun v5 => rd s.2.2.1 1882384 v5 fun v6 => if v6 ≤ (6 : Int32) then (L_X12_laysWays_69 t_toldDoors t_barredDoors t_now t_prongsOf t_oneOf t_otherOf t_wardsOf x1 s.1 v5 (fun s21 => nm (s.1 + (1 : Int32)) fun v22 => go (v22, s21.1, s21.2.1, s21.2.2.1, s21.2.2.2)) fu ((0 : Int32), s.2.1, s.2.2.1, s.2.2.2.1, s.2.2.2.2)) else nm (s.1 + (1 : Int32)) fun v23 => go (v23, s.2.1, s.2.2.1, s.2.2.2.1, s.2.2.2.2)
def f_X12_laysWays (t_toldDoors : Int32) (t_barredDoors : Int32) (t_queued : Int32) (t_now : (Nat → Int32)) (t_prongsOf : (Nat → Int32)) (t_oneOf : (Nat → Int32)) (t_otherOf : (Nat → Int32)) (t_wardsOf : (Nat → Int32)) (t_stepsTo : (Nat → Int32)) (t_firstBy : (Nat → Int32)) (t_queue : (Nat → Int32)) (x1 : Int32) : Option (Int32 × (Nat → Int32) × (Nat → Int32) × (Nat → Int32)) := rd t_now 166 ((34 : Int32) + x1) fun v1 => nm ((117649 : Int32) * v1) fun v2 => wr t_stepsTo 1882384 v2 (vp_nar .byte (1 : Int32)) fun g3 => wr t_queue 15000 (0 : Int32) v2 fun g4 => L_X12_laysWays_35 t_toldDoors t_barredDoors t_now t_prongsOf t_oneOf t_otherOf t_wardsOf x1 fu ((0 : Int32), (1 : Int32), g3, t_firstBy, g4)
theorem dX12_laysWays_0 : decode cX12_laysWays 0 = .ok (.ldc_w 363, 3) := by decide +kernel
theorem dX12_laysWays_3 : decode cX12_laysWays 3 = .ok (.aload_n 0, 1) := by decide +kernel
theorem dX12_laysWays_4 : decode cX12_laysWays 4 = .ok (.getfield 7, 3) := by decide +kernel
theorem dX12_laysWays_7 : decode cX12_laysWays 7 = .ok (.bipush 34, 2) := by decide +kernel
theorem dX12_laysWays_9 : decode cX12_laysWays 9 = .ok (.iload_n 1, 1) := by decide +kernel
theorem dX12_laysWays_10 : decode cX12_laysWays 10 = .ok (.iadd, 1) := by decide +kernel
theorem dX12_laysWays_11 : decode cX12_laysWays 11 = .ok (.iaload, 1) := by decide +kernel
theorem dX12_laysWays_12 : decode cX12_laysWays 12 = .ok (.imul, 1) := by decide +kernel
theorem dX12_laysWays_13 : decode cX12_laysWays 13 = .ok (.istore_n 2, 1) := by decide +kernel
theorem dX12_laysWays_14 : decode cX12_laysWays 14 = .ok (.aload_n 0, 1) := by decide +kernel
theorem dX12_laysWays_15 : decode cX12_laysWays 15 = .ok (.getfield 99, 3) := by decide +kernel
theorem dX12_laysWays_18 : decode cX12_laysWays 18 = .ok (.iload_n 2, 1) := by decide +kernel
theorem dX12_laysWays_19 : decode cX12_laysWays 19 = .ok (.iconst 1, 1) := by decide +kernel
theorem dX12_laysWays_20 : decode cX12_laysWays 20 = .ok (.bastore, 1) := by decide +kernel
theorem dX12_laysWays_21 : decode cX12_laysWays 21 = .ok (.aload_n 0, 1) := by decide +kernel
theorem dX12_laysWays_22 : decode cX12_laysWays 22 = .ok (.getfield 105, 3) := by decide +kernel
theorem dX12_laysWays_25 : decode cX12_laysWays 25 = .ok (.iconst 0, 1) := by decide +kernel
theorem dX12_laysWays_26 : decode cX12_laysWays 26 = .ok (.iload_n 2, 1) := by decide +kernel
theorem dX12_laysWays_27 : decode cX12_laysWays 27 = .ok (.iastore, 1) := by decide +kernel
theorem dX12_laysWays_28 : decode cX12_laysWays 28 = .ok (.aload_n 0, 1) := by decide +kernel
theorem dX12_laysWays_29 : decode cX12_laysWays 29 = .ok (.iconst 1, 1) := by decide +kernel
theorem dX12_laysWays_30 : decode cX12_laysWays 30 = .ok (.putfield 367, 3) := by decide +kernel
theorem dX12_laysWays_33 : decode cX12_laysWays 33 = .ok (.iconst 0, 1) := by decide +kernel
theorem dX12_laysWays_34 : decode cX12_laysWays 34 = .ok (.istore_n 3, 1) := by decide +kernel
theorem dX12_laysWays_35 : decode cX12_laysWays 35 = .ok (.iload_n 3, 1) := by decide +kernel
theorem dX12_laysWays_36 : decode cX12_laysWays 36 = .ok (.aload_n 0, 1) := by decide +kernel
theorem dX12_laysWays_37 : decode cX12_laysWays 37 = .ok (.getfield 367, 3) := by decide +kernel
theorem dX12_laysWays_40 : decode cX12_laysWays 40 = .ok (.if_icmp .ge 139, 3) := by decide +kernel
theorem dX12_laysWays_43 : decode cX12_laysWays 43 = .ok (.aload_n 0, 1) := by decide +kernel
theorem dX12_laysWays_44 : decode cX12_laysWays 44 = .ok (.getfield 105, 3) := by decide +kernel
theorem dX12_laysWays_47 : decode cX12_laysWays 47 = .ok (.iload_n 3, 1) := by decide +kernel
theorem dX12_laysWays_48 : decode cX12_laysWays 48 = .ok (.iaload, 1) := by decide +kernel
theorem dX12_laysWays_49 : decode cX12_laysWays 49 = .ok (.istore 4, 2) := by decide +kernel
theorem dX12_laysWays_51 : decode cX12_laysWays 51 = .ok (.aload_n 0, 1) := by decide +kernel
theorem dX12_laysWays_52 : decode cX12_laysWays 52 = .ok (.getfield 99, 3) := by decide +kernel
theorem dX12_laysWays_55 : decode cX12_laysWays 55 = .ok (.iload 4, 2) := by decide +kernel
theorem dX12_laysWays_57 : decode cX12_laysWays 57 = .ok (.baload, 1) := by decide +kernel
theorem dX12_laysWays_58 : decode cX12_laysWays 58 = .ok (.bipush 6, 2) := by decide +kernel
theorem dX12_laysWays_60 : decode cX12_laysWays 60 = .ok (.if_icmp .le 6, 3) := by decide +kernel
theorem dX12_laysWays_63 : decode cX12_laysWays 63 = .ok (.goto 110, 3) := by decide +kernel
theorem dX12_laysWays_66 : decode cX12_laysWays 66 = .ok (.iconst 0, 1) := by decide +kernel
theorem dX12_laysWays_67 : decode cX12_laysWays 67 = .ok (.istore 5, 2) := by decide +kernel
theorem dX12_laysWays_69 : decode cX12_laysWays 69 = .ok (.iload 5, 2) := by decide +kernel
theorem dX12_laysWays_71 : decode cX12_laysWays 71 = .ok (.bipush 24, 2) := by decide +kernel
theorem dX12_laysWays_73 : decode cX12_laysWays 73 = .ok (.if_icmp .ge 100, 3) := by decide +kernel
theorem dX12_laysWays_76 : decode cX12_laysWays 76 = .ok (.aload_n 0, 1) := by decide +kernel
theorem dX12_laysWays_77 : decode cX12_laysWays 77 = .ok (.iload 5, 2) := by decide +kernel
theorem dX12_laysWays_79 : decode cX12_laysWays 79 = .ok (.invokevirtual 329, 3) := by decide +kernel
theorem dX12_laysWays_82 : decode cX12_laysWays 82 = .ok (.ifCond .eq 85, 3) := by decide +kernel
theorem dX12_laysWays_85 : decode cX12_laysWays 85 = .ok (.aload_n 0, 1) := by decide +kernel
theorem dX12_laysWays_86 : decode cX12_laysWays 86 = .ok (.iload 5, 2) := by decide +kernel
theorem dX12_laysWays_88 : decode cX12_laysWays 88 = .ok (.iload 4, 2) := by decide +kernel
theorem dX12_laysWays_90 : decode cX12_laysWays 90 = .ok (.ldc_w 363, 3) := by decide +kernel
theorem dX12_laysWays_93 : decode cX12_laysWays 93 = .ok (.idiv, 1) := by decide +kernel
theorem dX12_laysWays_94 : decode cX12_laysWays 94 = .ok (.invokevirtual 317, 3) := by decide +kernel
theorem dX12_laysWays_97 : decode cX12_laysWays 97 = .ok (.iconst (-1), 1) := by decide +kernel
theorem dX12_laysWays_98 : decode cX12_laysWays 98 = .ok (.if_icmp .ne 6, 3) := by decide +kernel
theorem dX12_laysWays_101 : decode cX12_laysWays 101 = .ok (.goto 66, 3) := by decide +kernel
theorem dX12_laysWays_104 : decode cX12_laysWays 104 = .ok (.iconst 0, 1) := by decide +kernel
theorem dX12_laysWays_105 : decode cX12_laysWays 105 = .ok (.istore 6, 2) := by decide +kernel
theorem dX12_laysWays_107 : decode cX12_laysWays 107 = .ok (.iload 6, 2) := by decide +kernel
theorem dX12_laysWays_109 : decode cX12_laysWays 109 = .ok (.bipush 6, 2) := by decide +kernel
theorem dX12_laysWays_111 : decode cX12_laysWays 111 = .ok (.if_icmp .ge 56, 3) := by decide +kernel
theorem dX12_laysWays_114 : decode cX12_laysWays 114 = .ok (.aload_n 0, 1) := by decide +kernel
theorem dX12_laysWays_115 : decode cX12_laysWays 115 = .ok (.iload 6, 2) := by decide +kernel
theorem dX12_laysWays_117 : decode cX12_laysWays 117 = .ok (.iload 5, 2) := by decide +kernel
theorem dX12_laysWays_119 : decode cX12_laysWays 119 = .ok (.invokevirtual 136, 3) := by decide +kernel
theorem dX12_laysWays_122 : decode cX12_laysWays 122 = .ok (.ifCond .eq 39, 3) := by decide +kernel
theorem dX12_laysWays_125 : decode cX12_laysWays 125 = .ok (.iload 4, 2) := by decide +kernel
theorem dX12_laysWays_127 : decode cX12_laysWays 127 = .ok (.iload 6, 2) := by decide +kernel
theorem dX12_laysWays_129 : decode cX12_laysWays 129 = .ok (.invokestatic 370, 3) := by decide +kernel
theorem dX12_laysWays_132 : decode cX12_laysWays 132 = .ok (.aload_n 0, 1) := by decide +kernel
theorem dX12_laysWays_133 : decode cX12_laysWays 133 = .ok (.getfield 7, 3) := by decide +kernel
theorem dX12_laysWays_136 : decode cX12_laysWays 136 = .ok (.bipush 104, 2) := by decide +kernel
theorem dX12_laysWays_138 : decode cX12_laysWays 138 = .ok (.bipush 6, 2) := by decide +kernel
theorem dX12_laysWays_140 : decode cX12_laysWays 140 = .ok (.iload_n 1, 1) := by decide +kernel
theorem dX12_laysWays_141 : decode cX12_laysWays 141 = .ok (.imul, 1) := by decide +kernel
theorem dX12_laysWays_142 : decode cX12_laysWays 142 = .ok (.iadd, 1) := by decide +kernel
theorem dX12_laysWays_143 : decode cX12_laysWays 143 = .ok (.iload 6, 2) := by decide +kernel
theorem dX12_laysWays_145 : decode cX12_laysWays 145 = .ok (.iadd, 1) := by decide +kernel
theorem dX12_laysWays_146 : decode cX12_laysWays 146 = .ok (.iaload, 1) := by decide +kernel
theorem dX12_laysWays_147 : decode cX12_laysWays 147 = .ok (.if_icmp .ge 14, 3) := by decide +kernel
theorem dX12_laysWays_150 : decode cX12_laysWays 150 = .ok (.aload_n 0, 1) := by decide +kernel
theorem dX12_laysWays_151 : decode cX12_laysWays 151 = .ok (.iload_n 1, 1) := by decide +kernel
theorem dX12_laysWays_152 : decode cX12_laysWays 152 = .ok (.iload 4, 2) := by decide +kernel
theorem dX12_laysWays_154 : decode cX12_laysWays 154 = .ok (.iload 5, 2) := by decide +kernel
theorem dX12_laysWays_156 : decode cX12_laysWays 156 = .ok (.iload 6, 2) := by decide +kernel
theorem dX12_laysWays_158 : decode cX12_laysWays 158 = .ok (.invokevirtual 373, 3) := by decide +kernel
theorem dX12_laysWays_161 : decode cX12_laysWays 161 = .ok (.iinc 6 1, 3) := by decide +kernel
theorem dX12_laysWays_164 : decode cX12_laysWays 164 = .ok (.goto (-57), 3) := by decide +kernel
theorem dX12_laysWays_167 : decode cX12_laysWays 167 = .ok (.iinc 5 1, 3) := by decide +kernel
theorem dX12_laysWays_170 : decode cX12_laysWays 170 = .ok (.goto (-101), 3) := by decide +kernel
theorem dX12_laysWays_173 : decode cX12_laysWays 173 = .ok (.iinc 3 1, 3) := by decide +kernel
theorem dX12_laysWays_176 : decode cX12_laysWays 176 = .ok (.goto (-141), 3) := by decide +kernel
theorem dX12_laysWays_179 : decode cX12_laysWays 179 = .ok (.return_, 1) := by decide +kernel
set_option maxHeartbeats 4000000 in
set_option maxRecDepth 100000 in
theorem kL_X12_laysWays_107 {X : GC} {E : GE} (C : Cx X E cX12_laysWays RX12 4 7) (o_t : Nat) (a_t : Nat → Nat) (t_taped : Int32) (t_place0 : Int32) (t_length0 : Int32) (t_fault : Int32) (t_number0 : Int32) (t_open : Int32) (t_codeMany : Int32) (t_waiting : Int32) (t_saidMany : Int32) (t_clauses : Int32) (t_newMany : Int32) (t_rounds : Int32) (t_pinFrom : Int32) (t_pinTimes : Int32) (t_lines : Int32) (t_wasTold : Int32) (t_wasBarred : Int32) (t_goesNow : Int32) (t_jamsNow : Int32) (t_isKept : Int32) (t_toldDoors : Int32) (t_barredDoors : Int32) (t_now : (Nat → Int32)) (t_prongsOf : (Nat → Int32)) (t_oneOf : (Nat → Int32)) (t_otherOf : (Nat → Int32)) (t_wardsOf : (Nat → Int32)) (x1 : Int32) (x3 : Int32) (x4 : Int32) (x5 : Int32) (k0 : Int32 × (Nat → Int32) × (Nat → Int32) × (Nat → Int32) → Option (Int32 × (Nat → Int32) × (Nat → Int32) × (Nat → Int32))) {r : Int32 × (Nat → Int32) × (Nat → Int32) × (Nat → Int32)} (hret : RtV X E cX12_laysWays 0 0 (fun w => w = (W_X12_laysWays E o_t a_t t_toldDoors t_barredDoors t_taped t_place0 t_length0 t_fault t_number0 t_open t_codeMany t_waiting t_saidMany t_clauses t_newMany t_rounds t_pinFrom t_pinTimes t_lines t_wasTold t_wasBarred t_goesNow t_jamsNow r.1 t_isKept t_now t_prongsOf t_oneOf t_otherOf t_wardsOf r.2.1 r.2.2.1 r.2.2.2))) (hk0 : ∀ u, k0 u = some r → Gx X E 0 0 (W_X12_laysWays E o_t a_t t_toldDoors t_barredDoors t_taped t_place0 t_length0 t_fault t_number0 t_open t_codeMany t_waiting t_saidMany t_clauses t_newMany t_rounds t_pinFrom t_pinTimes t_lines t_wasTold t_wasBarred t_goesNow t_jamsNow u.1 t_isKept t_now t_prongsOf t_oneOf t_otherOf t_wardsOf u.2.1 u.2.2.1 u.2.2.2) 167 [(0, .ref o_t), (1, .int x1), (3, .int x3), (4, .int x4), (5, .int x5)] []) : ∀ (n : Nat) (s : Int32 × Int32 × (Nat → Int32) × (Nat → Int32) × (Nat → Int32)), L_X12_laysWays_107 t_toldDoors t_barredDoors t_now t_prongsOf t_oneOf t_otherOf t_wardsOf x1 x3 x4 x5 k0 n s = some r → Gx X E 0 0 (W_X12_laysWays E o_t a_t t_toldDoors t_barredDoors t_taped t_place0 t_length0 t_fault t_number0 t_open t_codeMany t_waiting t_saidMany t_clauses t_newMany t_rounds t_pinFrom t_pinTimes t_lines t_wasTold t_wasBarred t_goesNow t_jamsNow s.2.1 t_isKept t_now t_prongsOf t_oneOf t_otherOf t_wardsOf s.2.2.1 s.2.2.2.1 s.2.2.2.2) 107 [(0, .ref o_t), (1, .int x1), (3, .int x3), (4, .int x4), (5, .int x5), (6, .int s.1)] [] := by
  unfold L_X12_laysWays_107
  refine lp_ind _ (fun go ih s h => ?_)
  refine g_iload (pc := 107) C dX12_laysWays_107 5 rfl ?_
  refine g_bipush (pc := 109) (v := 6) C dX12_laysWays_109 (by decide) ?_
  refine g_icmp_ge (pc := 111) (tgt := 167) C dX12_laysWays_111 (by decide) h (fun h => ?_) (fun h => ?_)
  · refine g_sub [0, 1, 2, 3, 4] rfl ?_
    exact hk0 _ h
  · refine g_aload_n (pc := 114) C dX12_laysWays_114 rfl 0 rfl ?_
    refine g_iload (pc := 115) C dX12_laysWays_115 5 rfl ?_
    refine g_iload (pc := 117) C dX12_laysWays_117 4 rfl ?_
    obtain ⟨u11, hu11, h⟩ := bs h
    refine g_callV (pc := 119) (st := []) (st1 := [.int u11]) (ws' := (W_X12_laysWays E o_t a_t t_toldDoors t_barredDoors t_taped t_place0 t_length0 t_fault t_number0 t_open t_codeMany t_waiting t_saidMany t_clauses t_newMany t_rounds t_pinFrom t_pinTimes t_lines t_wasTold t_wasBarred t_goesNow t_jamsNow s.2.1 t_isKept t_now t_prongsOf t_oneOf t_otherOf t_wardsOf s.2.2.1 s.2.2.2.1 s.2.2.2.2)) C mv_X12_fits mi_X12_fits ml_X12_136 (c_X12_fits X.2.1 E o_t a_t t_toldDoors t_barredDoors t_taped t_place0 t_length0 t_fault t_number0 t_open t_codeMany t_waiting t_saidMany t_clauses t_newMany t_rounds t_pinFrom t_pinTimes t_lines t_wasTold t_wasBarred t_goesNow t_jamsNow s.2.1 t_isKept t_prongsOf t_wardsOf s.1 x5 u11 hu11) dX12_laysWays_119 (by decide) rfl (Nat.le_of_ble_eq_true rfl) 0 11 rfl rfl [0, 2, 5] rfl (by decide) rfl rfl rfl rfl ?_
    refine g_if_eq (pc := 122) (tgt := 161) C dX12_laysWays_122 (by decide) h (fun h => ?_) (fun h => ?_)
    · refine g_iincn (pc := 161) (j := 5) (d := 1) (lv' := fun v12 => [(6, .int v12), (0, .ref o_t), (1, .int x1), (3, .int x3), (4, .int x4), (5, .int x5)]) C dX12_laysWays_161 rfl (by decide) (by decide) (fun _ => rfl) h (fun v12 h => ?_)
      refine g_goto (pc := 164) (tgt := 107) C dX12_laysWays_164 (by decide) ?_
      refine g_sub [1, 2, 3, 4, 5, 0] rfl ?_
      exact ih _ h
    · refine g_iload (pc := 125) C dX12_laysWays_125 3 rfl ?_
      refine g_iload (pc := 127) C dX12_laysWays_127 5 rfl ?_
      obtain ⟨u13, hu13, h⟩ := bs h
      refine g_callS (pc := 129) (st := []) (st1 := [.int u13]) (ws' := (W_X12_laysWays E o_t a_t t_toldDoors t_barredDoors t_taped t_place0 t_length0 t_fault t_number0 t_open t_codeMany t_waiting t_saidMany t_clauses t_newMany t_rounds t_pinFrom t_pinTimes t_lines t_wasTold t_wasBarred t_goesNow t_jamsNow s.2.1 t_isKept t_now t_prongsOf t_oneOf t_otherOf t_wardsOf s.2.2.1 s.2.2.2.1 s.2.2.2.2)) C mv_X12_goneOf ms_X12_goneOf ml_X12_370 (c_X12_goneOf X.2.1 E x4 s.1 u13 hu13) dX12_laysWays_129 (by decide) rfl (Nat.le_of_ble_eq_true rfl) [] rfl (by decide) rfl rfl rfl rfl ?_
      refine g_aload_n (pc := 132) C dX12_laysWays_132 rfl 0 rfl ?_
      refine g_get (pc := 133) C fl_X12_7 dX12_laysWays_133 0 rfl rfl ?_
      refine g_bipush (pc := 136) (v := 104) C dX12_laysWays_136 (by decide) ?_
      refine g_bipush (pc := 138) (v := 6) C dX12_laysWays_138 (by decide) ?_
      refine g_iload_n (pc := 140) C dX12_laysWays_140 rfl 1 rfl ?_
      refine g_imul (pc := 141) C dX12_laysWays_141 ?_
      refine g_iadd (pc := 142) C dX12_laysWays_142 ?_
      refine g_iload (pc := 143) C dX12_laysWays_143 5 rfl ?_
      refine g_iadd (pc := 145) C dX12_laysWays_145 ?_
      refine g_iald (pc := 146) C dX12_laysWays_146 1 rfl h (fun v14 h => ?_)
      refine g_icmp_ge (pc := 147) (tgt := 161) C dX12_laysWays_147 (by decide) h (fun h => ?_) (fun h => ?_)
      · refine g_iincn (pc := 161) (j := 5) (d := 1) (lv' := fun v15 => [(6, .int v15), (0, .ref o_t), (1, .int x1), (3, .int x3), (4, .int x4), (5, .int x5)]) C dX12_laysWays_161 rfl (by decide) (by decide) (fun _ => rfl) h (fun v15 h => ?_)
        refine g_goto (pc := 164) (tgt := 107) C dX12_laysWays_164 (by decide) ?_
        refine g_sub [1, 2, 3, 4, 5, 0] rfl ?_
        exact ih _ h
      · refine g_aload_n (pc := 150) C dX12_laysWays_150 rfl 0 rfl ?_
        refine g_iload_n (pc := 151) C dX12_laysWays_151 rfl 1 rfl ?_
        refine g_iload (pc := 152) C dX12_laysWays_152 3 rfl ?_
        refine g_iload (pc := 154) C dX12_laysWays_154 4 rfl ?_
        refine g_iload (pc := 156) C dX12_laysWays_156 5 rfl ?_
        obtain ⟨u16, hu16, h⟩ := bs h
        refine g_callV (pc := 158) (st := []) (st1 := []) (ws' := (W_X12_laysWays E o_t a_t t_toldDoors t_barredDoors t_taped t_place0 t_length0 t_fault t_number0 t_open t_codeMany t_waiting t_saidMany t_clauses t_newMany t_rounds t_pinFrom t_pinTimes t_lines t_wasTold t_wasBarred t_goesNow t_jamsNow u16.1 t_isKept t_now t_prongsOf t_oneOf t_otherOf t_wardsOf u16.2.1 u16.2.2.1 u16.2.2.2)) C mv_X12_goesOn mi_X12_goesOn ml_X12_373 (c_X12_goesOn X.2.1 E o_t a_t t_toldDoors t_barredDoors t_taped t_place0 t_length0 t_fault t_number0 t_open t_codeMany t_waiting t_saidMany t_clauses t_newMany t_rounds t_pinFrom t_pinTimes t_lines t_wasTold t_wasBarred t_goesNow t_jamsNow s.2.1 t_isKept t_oneOf t_otherOf s.2.2.1 s.2.2.2.1 s.2.2.2.2 x1 x4 x5 s.1 u16 hu16) dX12_laysWays_158 (by decide) rfl (Nat.le_of_ble_eq_true rfl) 0 11 rfl rfl [0, 3, 4, 6, 7, 8] rfl (by decide) rfl rfl rfl rfl ?_
        refine g_iincn (pc := 161) (j := 5) (d := 1) (lv' := fun v17 => [(6, .int v17), (0, .ref o_t), (1, .int x1), (3, .int x3), (4, .int x4), (5, .int x5)]) C dX12_laysWays_161 rfl (by decide) (by decide) (fun _ => rfl) h (fun v17 h => ?_)
        refine g_goto (pc := 164) (tgt := 107) C dX12_laysWays_164 (by decide) ?_
        refine g_sub [1, 2, 3, 4, 5, 0] rfl ?_
        exact ih _ h
set_option maxHeartbeats 4000000 in
set_option maxRecDepth 100000 in
theorem kL_X12_laysWays_69 {X : GC} {E : GE} (C : Cx X E cX12_laysWays RX12 4 7) (o_t : Nat) (a_t : Nat → Nat) (t_taped : Int32) (t_place0 : Int32) (t_length0 : Int32) (t_fault : Int32) (t_number0 : Int32) (t_open : Int32) (t_codeMany : Int32) (t_waiting : Int32) (t_saidMany : Int32) (t_clauses : Int32) (t_newMany : Int32) (t_rounds : Int32) (t_pinFrom : Int32) (t_pinTimes : Int32) (t_lines : Int32) (t_wasTold : Int32) (t_wasBarred : Int32) (t_goesNow : Int32) (t_jamsNow : Int32) (t_isKept : Int32) (t_toldDoors : Int32) (t_barredDoors : Int32) (t_now : (Nat → Int32)) (t_prongsOf : (Nat → Int32)) (t_oneOf : (Nat → Int32)) (t_otherOf : (Nat → Int32)) (t_wardsOf : (Nat → Int32)) (x1 : Int32) (x3 : Int32) (x4 : Int32) (k0 : Int32 × (Nat → Int32) × (Nat → Int32) × (Nat → Int32) → Option (Int32 × (Nat → Int32) × (Nat → Int32) × (Nat → Int32))) {r : Int32 × (Nat → Int32) × (Nat → Int32) × (Nat → Int32)} (hret : RtV X E cX12_laysWays 0 0 (fun w => w = (W_X12_laysWays E o_t a_t t_toldDoors t_barredDoors t_taped t_place0 t_length0 t_fault t_number0 t_open t_codeMany t_waiting t_saidMany t_clauses t_newMany t_rounds t_pinFrom t_pinTimes t_lines t_wasTold t_wasBarred t_goesNow t_jamsNow r.1 t_isKept t_now t_prongsOf t_oneOf t_otherOf t_wardsOf r.2.1 r.2.2.1 r.2.2.2))) (hk0 : ∀ u, k0 u = some r → Gx X E 0 0 (W_X12_laysWays E o_t a_t t_toldDoors t_barredDoors t_taped t_place0 t_length0 t_fault t_number0 t_open t_codeMany t_waiting t_saidMany t_clauses t_newMany t_rounds t_pinFrom t_pinTimes t_lines t_wasTold t_wasBarred t_goesNow t_jamsNow u.1 t_isKept t_now t_prongsOf t_oneOf t_otherOf t_wardsOf u.2.1 u.2.2.1 u.2.2.2) 173 [(0, .ref o_t), (1, .int x1), (3, .int x3)] []) : ∀ (n : Nat) (s : Int32 × Int32 × (Nat → Int32) × (Nat → Int32) × (Nat → Int32)), L_X12_laysWays_69 t_toldDoors t_barredDoors t_now t_prongsOf t_oneOf t_otherOf t_wardsOf x1 x3 x4 k0 n s = some r → Gx X E 0 0 (W_X12_laysWays E o_t a_t t_toldDoors t_barredDoors t_taped t_place0 t_length0 t_fault t_number0 t_open t_codeMany t_waiting t_saidMany t_clauses t_newMany t_rounds t_pinFrom t_pinTimes t_lines t_wasTold t_wasBarred t_goesNow t_jamsNow s.2.1 t_isKept t_now t_prongsOf t_oneOf t_otherOf t_wardsOf s.2.2.1 s.2.2.2.1 s.2.2.2.2) 69 [(0, .ref o_t), (1, .int x1), (3, .int x3), (4, .int x4), (5, .int s.1)] [] := by
  unfold L_X12_laysWays_69
  refine lp_ind _ (fun go ih s h => ?_)
  refine g_iload (pc := 69) C dX12_laysWays_69 4 rfl ?_
  refine g_bipush (pc := 71) (v := 24) C dX12_laysWays_71 (by decide) ?_
  refine g_icmp_ge (pc := 73) (tgt := 173) C dX12_laysWays_73 (by decide) h (fun h => ?_) (fun h => ?_)
  · refine g_sub [0, 1, 2] rfl ?_
    exact hk0 _ h
  · refine g_aload_n (pc := 76) C dX12_laysWays_76 rfl 0 rfl ?_
    refine g_iload (pc := 77) C dX12_laysWays_77 4 rfl ?_
    obtain ⟨u7, hu7, h⟩ := bs h
    refine g_callV (pc := 79) (st := []) (st1 := [.int u7]) (ws' := (W_X12_laysWays E o_t a_t t_toldDoors t_barredDoors t_taped t_place0 t_length0 t_fault t_number0 t_open t_codeMany t_waiting t_saidMany t_clauses t_newMany t_rounds t_pinFrom t_pinTimes t_lines t_wasTold t_wasBarred t_goesNow t_jamsNow s.2.1 t_isKept t_now t_prongsOf t_oneOf t_otherOf t_wardsOf s.2.2.1 s.2.2.2.1 s.2.2.2.2)) C mv_X12_canOpen mi_X12_canOpen ml_X12_329 (c_X12_canOpen X.2.1 E o_t a_t t_toldDoors t_barredDoors t_taped t_place0 t_length0 t_fault t_number0 t_open t_codeMany t_waiting t_saidMany t_clauses t_newMany t_rounds t_pinFrom t_pinTimes t_lines t_wasTold t_wasBarred t_goesNow t_jamsNow s.2.1 t_isKept s.1 u7 hu7) dX12_laysWays_79 (by decide) rfl (Nat.le_of_ble_eq_true rfl) 0 11 rfl rfl [0] rfl (by decide) rfl rfl rfl rfl ?_
    refine g_if_eq (pc := 82) (tgt := 167) C dX12_laysWays_82 (by decide) h (fun h => ?_) (fun h => ?_)
    · refine g_iincn (pc := 167) (j := 4) (d := 1) (lv' := fun v8 => [(5, .int v8), (0, .ref o_t), (1, .int x1), (3, .int x3), (4, .int x4)]) C dX12_laysWays_167 rfl (by decide) (by decide) (fun _ => rfl) h (fun v8 h => ?_)
      refine g_goto (pc := 170) (tgt := 69) C dX12_laysWays_170 (by decide) ?_
      refine g_sub [1, 2, 3, 4, 0] rfl ?_
      exact ih _ h
    · refine g_aload_n (pc := 85) C dX12_laysWays_85 rfl 0 rfl ?_
      refine g_iload (pc := 86) C dX12_laysWays_86 4 rfl ?_
      refine g_iload (pc := 88) C dX12_laysWays_88 3 rfl ?_
      refine g_ldcw (pc := 90) C dX12_laysWays_90 ct_X12_363 ?_
      refine g_idiv (pc := 93) C dX12_laysWays_93 h (fun v9 h => ?_)
      obtain ⟨u10, hu10, h⟩ := bs h
      refine g_callV (pc := 94) (st := []) (st1 := [.int u10]) (ws' := (W_X12_laysWays E o_t a_t t_toldDoors t_barredDoors t_taped t_place0 t_length0 t_fault t_number0 t_open t_codeMany t_waiting t_saidMany t_clauses t_newMany t_rounds t_pinFrom t_pinTimes t_lines t_wasTold t_wasBarred t_goesNow t_jamsNow s.2.1 t_isKept t_now t_prongsOf t_oneOf t_otherOf t_wardsOf s.2.2.1 s.2.2.2.1 s.2.2.2.2)) C mv_X12_behind mi_X12_behind ml_X12_317 (c_X12_behind X.2.1 E o_t a_t t_toldDoors t_barredDoors t_taped t_place0 t_length0 t_fault t_number0 t_open t_codeMany t_waiting t_saidMany t_clauses t_newMany t_rounds t_pinFrom t_pinTimes t_lines t_wasTold t_wasBarred t_goesNow t_jamsNow s.2.1 t_isKept t_oneOf t_otherOf s.1 v9 u10 hu10) dX12_laysWays_94 (by decide) rfl (Nat.le_of_ble_eq_true rfl) 0 11 rfl rfl [0, 3, 4] rfl (by decide) rfl rfl rfl rfl ?_
      refine g_iconst (pc := 97) (v := -1) C dX12_laysWays_97 (by decide) ?_
      refine g_icmp_ne (pc := 98) (tgt := 104) C dX12_laysWays_98 (by decide) h (fun h => ?_) (fun h => ?_)
      · refine g_iconst (pc := 104) (v := 0) C dX12_laysWays_104 (by decide) ?_
        refine g_istore (pc := 105) (lv' := [(6, .int (0 : Int32)), (0, .ref o_t), (1, .int x1), (3, .int x3), (4, .int x4), (5, .int s.1)]) C dX12_laysWays_105 (by decide) rfl ?_
        refine g_sub [1, 2, 3, 4, 5, 0] rfl ?_
        refine kL_X12_laysWays_107 C o_t a_t t_taped t_place0 t_length0 t_fault t_number0 t_open t_codeMany t_waiting t_saidMany t_clauses t_newMany t_rounds t_pinFrom t_pinTimes t_lines t_wasTold t_wasBarred t_goesNow t_jamsNow t_isKept t_toldDoors t_barredDoors t_now t_prongsOf t_oneOf t_otherOf t_wardsOf x1 x3 x4 s.1 _ hret (fun s18 h => ?_) _ _ h
        refine g_iincn (pc := 167) (j := 4) (d := 1) (lv' := fun v19 => [(5, .int v19), (0, .ref o_t), (1, .int x1), (3, .int x3), (4, .int x4)]) C dX12_laysWays_167 rfl (by decide) (by decide) (fun _ => rfl) h (fun v19 h => ?_)
        refine g_goto (pc := 170) (tgt := 69) C dX12_laysWays_170 (by decide) ?_
        refine g_sub [1, 2, 3, 4, 0] rfl ?_
        exact ih _ h
      · refine g_goto (pc := 101) (tgt := 167) C dX12_laysWays_101 (by decide) ?_
        refine g_iincn (pc := 167) (j := 4) (d := 1) (lv' := fun v20 => [(5, .int v20), (0, .ref o_t), (1, .int x1), (3, .int x3), (4, .int x4)]) C dX12_laysWays_167 rfl (by decide) (by decide) (fun _ => rfl) h (fun v20 h => ?_)
        refine g_goto (pc := 170) (tgt := 69) C dX12_laysWays_170 (by decide) ?_
        refine g_sub [1, 2, 3, 4, 0] rfl ?_
        exact ih _ h
set_option maxHeartbeats 4000000 in
set_option maxRecDepth 100000 in
theorem kL_X12_laysWays_35 {X : GC} {E : GE} (C : Cx X E cX12_laysWays RX12 4 7) (o_t : Nat) (a_t : Nat → Nat) (t_taped : Int32) (t_place0 : Int32) (t_length0 : Int32) (t_fault : Int32) (t_number0 : Int32) (t_open : Int32) (t_codeMany : Int32) (t_waiting : Int32) (t_saidMany : Int32) (t_clauses : Int32) (t_newMany : Int32) (t_rounds : Int32) (t_pinFrom : Int32) (t_pinTimes : Int32) (t_lines : Int32) (t_wasTold : Int32) (t_wasBarred : Int32) (t_goesNow : Int32) (t_jamsNow : Int32) (t_isKept : Int32) (t_toldDoors : Int32) (t_barredDoors : Int32) (t_now : (Nat → Int32)) (t_prongsOf : (Nat → Int32)) (t_oneOf : (Nat → Int32)) (t_otherOf : (Nat → Int32)) (t_wardsOf : (Nat → Int32)) (x1 : Int32) {r : Int32 × (Nat → Int32) × (Nat → Int32) × (Nat → Int32)} (hret : RtV X E cX12_laysWays 0 0 (fun w => w = (W_X12_laysWays E o_t a_t t_toldDoors t_barredDoors t_taped t_place0 t_length0 t_fault t_number0 t_open t_codeMany t_waiting t_saidMany t_clauses t_newMany t_rounds t_pinFrom t_pinTimes t_lines t_wasTold t_wasBarred t_goesNow t_jamsNow r.1 t_isKept t_now t_prongsOf t_oneOf t_otherOf t_wardsOf r.2.1 r.2.2.1 r.2.2.2))) : ∀ (n : Nat) (s : Int32 × Int32 × (Nat → Int32) × (Nat → Int32) × (Nat → Int32)), L_X12_laysWays_35 t_toldDoors t_barredDoors t_now t_prongsOf t_oneOf t_otherOf t_wardsOf x1 n s = some r → Gx X E 0 0 (W_X12_laysWays E o_t a_t t_toldDoors t_barredDoors t_taped t_place0 t_length0 t_fault t_number0 t_open t_codeMany t_waiting t_saidMany t_clauses t_newMany t_rounds t_pinFrom t_pinTimes t_lines t_wasTold t_wasBarred t_goesNow t_jamsNow s.2.1 t_isKept t_now t_prongsOf t_oneOf t_otherOf t_wardsOf s.2.2.1 s.2.2.2.1 s.2.2.2.2) 35 [(0, .ref o_t), (1, .int x1), (3, .int s.1)] [] := by
  unfold L_X12_laysWays_35
  refine lp_ind _ (fun go ih s h => ?_)
  refine g_iload_n (pc := 35) C dX12_laysWays_35 rfl 2 rfl ?_
  refine g_aload_n (pc := 36) C dX12_laysWays_36 rfl 0 rfl ?_
  refine g_get (pc := 37) C fl_X12_367 dX12_laysWays_37 0 rfl rfl ?_
  refine g_icmp_ge (pc := 40) (tgt := 179) C dX12_laysWays_40 (by decide) h (fun h => ?_) (fun h => ?_)
  · cases h
    exact hret _ _ _ dX12_laysWays_179 rfl
  · refine g_aload_n (pc := 43) C dX12_laysWays_43 rfl 0 rfl ?_
    refine g_get (pc := 44) C fl_X12_105 dX12_laysWays_44 0 rfl rfl ?_
    refine g_iload_n (pc := 47) C dX12_laysWays_47 rfl 2 rfl ?_
    refine g_iald (pc := 48) C dX12_laysWays_48 8 rfl h (fun v5 h => ?_)
    refine g_istore (pc := 49) (lv' := [(4, .int v5), (0, .ref o_t), (1, .int x1), (3, .int s.1)]) C dX12_laysWays_49 (by decide) rfl ?_
    refine g_aload_n (pc := 51) C dX12_laysWays_51 rfl 1 rfl ?_
    refine g_get (pc := 52) C fl_X12_99 dX12_laysWays_52 0 rfl rfl ?_
    refine g_iload (pc := 55) C dX12_laysWays_55 0 rfl ?_
    refine g_bald (pc := 57) C dX12_laysWays_57 6 rfl h (fun v6 h => ?_)
    refine g_bipush (pc := 58) (v := 6) C dX12_laysWays_58 (by decide) ?_
    refine g_icmp_le (pc := 60) (tgt := 66) C dX12_laysWays_60 (by decide) h (fun h => ?_) (fun h => ?_)
    · refine g_iconst (pc := 66) (v := 0) C dX12_laysWays_66 (by decide) ?_
      refine g_istore (pc := 67) (lv' := [(5, .int (0 : Int32)), (4, .int v5), (0, .ref o_t), (1, .int x1), (3, .int s.1)]) C dX12_laysWays_67 (by decide) rfl ?_
      refine g_sub [2, 3, 4, 1, 0] rfl ?_
      refine kL_X12_laysWays_69 C o_t a_t t_taped t_place0 t_length0 t_fault t_number0 t_open t_codeMany t_waiting t_saidMany t_clauses t_newMany t_rounds t_pinFrom t_pinTimes t_lines t_wasTold t_wasBarred t_goesNow t_jamsNow t_isKept t_toldDoors t_barredDoors t_now t_prongsOf t_oneOf t_otherOf t_wardsOf x1 s.1 v5 _ hret (fun s21 h => ?_) _ _ h
      refine g_iincn (pc := 173) (j := 2) (d := 1) (lv' := fun v22 => [(3, .int v22), (0, .ref o_t), (1, .int x1)]) C dX12_laysWays_173 rfl (by decide) (by decide) (fun _ => rfl) h (fun v22 h => ?_)
      refine g_goto (pc := 176) (tgt := 35) C dX12_laysWays_176 (by decide) ?_
      refine g_sub [1, 2, 0] rfl ?_
      exact ih _ h
    · refine g_goto (pc := 63) (tgt := 173) C dX12_laysWays_63 (by decide) ?_
      refine g_iincn (pc := 173) (j := 3) (d := 1) (lv' := fun v23 => [(3, .int v23), (4, .int v5), (0, .ref o_t), (1, .int x1)]) C dX12_laysWays_173 rfl (by decide) (by decide) (fun _ => rfl) h (fun v23 h => ?_)
      refine g_goto (pc := 176) (tgt := 35) C dX12_laysWays_176 (by decide) ?_
      refine g_sub [2, 3, 0] rfl ?_
      exact ih _ h
set_option maxHeartbeats 4000000 in
set_option maxRecDepth 100000 in
theorem c_X12_laysWays (l : Launch) (E : GE) (o_t : Nat) (a_t : Nat → Nat) (t_toldDoors : Int32) (t_barredDoors : Int32) (t_taped : Int32) (t_place0 : Int32) (t_length0 : Int32) (t_fault : Int32) (t_number0 : Int32) (t_open : Int32) (t_codeMany : Int32) (t_waiting : Int32) (t_saidMany : Int32) (t_clauses : Int32) (t_newMany : Int32) (t_rounds : Int32) (t_pinFrom : Int32) (t_pinTimes : Int32) (t_lines : Int32) (t_wasTold : Int32) (t_wasBarred : Int32) (t_goesNow : Int32) (t_jamsNow : Int32) (t_queued : Int32) (t_isKept : Int32) (t_now : (Nat → Int32)) (t_prongsOf : (Nat → Int32)) (t_oneOf : (Nat → Int32)) (t_otherOf : (Nat → Int32)) (t_wardsOf : (Nat → Int32)) (t_stepsTo : (Nat → Int32)) (t_firstBy : (Nat → Int32)) (t_queue : (Nat → Int32)) (x1 : Int32) (r : Int32 × (Nat → Int32) × (Nat → Int32) × (Nat → Int32)) (h : f_X12_laysWays t_toldDoors t_barredDoors t_queued t_now t_prongsOf t_oneOf t_otherOf t_wardsOf t_stepsTo t_firstBy t_queue x1 = some r) : Cn l E yX12_laysWays cX12_laysWays 7 none 4 0 0 [.ref o_t, .int x1] (W_X12_laysWays E o_t a_t t_toldDoors t_barredDoors t_taped t_place0 t_length0 t_fault t_number0 t_open t_codeMany t_waiting t_saidMany t_clauses t_newMany t_rounds t_pinFrom t_pinTimes t_lines t_wasTold t_wasBarred t_goesNow t_jamsNow t_queued t_isKept t_now t_prongsOf t_oneOf t_otherOf t_wardsOf t_stepsTo t_firstBy t_queue) (fun w => w = (W_X12_laysWays E o_t a_t t_toldDoors t_barredDoors t_taped t_place0 t_length0 t_fault t_number0 t_open t_codeMany t_waiting t_saidMany t_clauses t_newMany t_rounds t_pinFrom t_pinTimes t_lines t_wasTold t_wasBarred t_goesNow t_jamsNow r.1 t_isKept t_now t_prongsOf t_oneOf t_otherOf t_wardsOf r.2.1 r.2.2.1 r.2.2.2)) none := by
  refine Cn.ofV (by decide +kernel) (Nat.le_of_ble_eq_true rfl) (fun X hX hR C hret => ?_)
  subst hX
  show Gx X E 0 0 (W_X12_laysWays E o_t a_t t_toldDoors t_barredDoors t_taped t_place0 t_length0 t_fault t_number0 t_open t_codeMany t_waiting t_saidMany t_clauses t_newMany t_rounds t_pinFrom t_pinTimes t_lines t_wasTold t_wasBarred t_goesNow t_jamsNow t_queued t_isKept t_now t_prongsOf t_oneOf t_otherOf t_wardsOf t_stepsTo t_firstBy t_queue) 0 [(0, .ref o_t), (1, .int x1)] []
  unfold f_X12_laysWays at h
  refine g_ldcw (pc := 0) C dX12_laysWays_0 ct_X12_363 ?_
  refine g_aload_n (pc := 3) C dX12_laysWays_3 rfl 0 rfl ?_
  refine g_get (pc := 4) C fl_X12_7 dX12_laysWays_4 0 rfl rfl ?_
  refine g_bipush (pc := 7) (v := 34) C dX12_laysWays_7 (by decide) ?_
  refine g_iload_n (pc := 9) C dX12_laysWays_9 rfl 1 rfl ?_
  refine g_iadd (pc := 10) C dX12_laysWays_10 ?_
  refine g_iald (pc := 11) C dX12_laysWays_11 1 rfl h (fun v1 h => ?_)
  refine g_imul (pc := 12) C dX12_laysWays_12 ?_
  refine g_nm h (fun v2 h => ?_)
  refine g_istore_n (pc := 13) (lv' := [(2, .int v2), (0, .ref o_t), (1, .int x1)]) C dX12_laysWays_13 rfl (by decide) rfl ?_
  refine g_aload_n (pc := 14) C dX12_laysWays_14 rfl 1 rfl ?_
  refine g_get (pc := 15) C fl_X12_99 dX12_laysWays_15 0 rfl rfl ?_
  refine g_iload_n (pc := 18) C dX12_laysWays_18 rfl 0 rfl ?_
  refine g_iconst (pc := 19) (v := 1) C dX12_laysWays_19 (by decide) ?_
  refine g_bast (pc := 20) C dX12_laysWays_20 6 rfl h (fun g3 h => ?_)
  refine g_ws (ws' := (W_X12_laysWays E o_t a_t t_toldDoors t_barredDoors t_taped t_place0 t_length0 t_fault t_number0 t_open t_codeMany t_waiting t_saidMany t_clauses t_newMany t_rounds t_pinFrom t_pinTimes t_lines t_wasTold t_wasBarred t_goesNow t_jamsNow t_queued t_isKept t_now t_prongsOf t_oneOf t_otherOf t_wardsOf g3 t_firstBy t_queue)) rfl ?_
  refine g_aload_n (pc := 21) C dX12_laysWays_21 rfl 1 rfl ?_
  refine g_get (pc := 22) C fl_X12_105 dX12_laysWays_22 0 rfl rfl ?_
  refine g_iconst (pc := 25) (v := 0) C dX12_laysWays_25 (by decide) ?_
  refine g_iload_n (pc := 26) C dX12_laysWays_26 rfl 0 rfl ?_
  refine g_iast (pc := 27) C dX12_laysWays_27 8 rfl h (fun g4 h => ?_)
  refine g_ws (ws' := (W_X12_laysWays E o_t a_t t_toldDoors t_barredDoors t_taped t_place0 t_length0 t_fault t_number0 t_open t_codeMany t_waiting t_saidMany t_clauses t_newMany t_rounds t_pinFrom t_pinTimes t_lines t_wasTold t_wasBarred t_goesNow t_jamsNow t_queued t_isKept t_now t_prongsOf t_oneOf t_otherOf t_wardsOf g3 t_firstBy g4)) rfl ?_
  refine g_aload_n (pc := 28) C dX12_laysWays_28 rfl 1 rfl ?_
  refine g_iconst (pc := 29) (v := 1) C dX12_laysWays_29 (by decide) ?_
  refine g_put (pc := 30) (ws' := (W_X12_laysWays E o_t a_t t_toldDoors t_barredDoors t_taped t_place0 t_length0 t_fault t_number0 t_open t_codeMany t_waiting t_saidMany t_clauses t_newMany t_rounds t_pinFrom t_pinTimes t_lines t_wasTold t_wasBarred t_goesNow t_jamsNow (1 : Int32) t_isKept t_now t_prongsOf t_oneOf t_otherOf t_wardsOf g3 t_firstBy g4)) C .int fl_X12_367 dX12_laysWays_30 0 rfl (by decide +kernel) rfl rfl (Nat.le_of_ble_eq_true rfl) rfl ?_
  refine g_iconst (pc := 33) (v := 0) C dX12_laysWays_33 (by decide) ?_
  refine g_istore_n (pc := 34) (lv' := [(3, .int (0 : Int32)), (2, .int v2), (0, .ref o_t), (1, .int x1)]) C dX12_laysWays_34 rfl (by decide) rfl ?_
  refine g_sub [2, 3, 0] rfl ?_
  refine kL_X12_laysWays_35 C o_t a_t t_taped t_place0 t_length0 t_fault t_number0 t_open t_codeMany t_waiting t_saidMany t_clauses t_newMany t_rounds t_pinFrom t_pinTimes t_lines t_wasTold t_wasBarred t_goesNow t_jamsNow t_isKept t_toldDoors t_barredDoors t_now t_prongsOf t_oneOf t_otherOf t_wardsOf x1 hret  _ _ h
abbrev W_X12_readsFactor (E : GE) (O_t : Nat) (a_t : Nat → Nat) (t_toldDoors : Int32) (t_barredDoors : Int32) (t_taped : Int32) (t_place0 : Int32) (t_length0 : Int32) (t_fault : Int32) (t_number0 : Int32) (t_open : Int32) (t_codeMany : Int32) (t_waiting : Int32) (t_saidMany : Int32) (t_clauses : Int32) (t_newMany : Int32) (t_rounds : Int32) (t_pinFrom : Int32) (t_pinTimes : Int32) (t_lines : Int32) (t_wasTold : Int32) (t_wasBarred : Int32) (t_goesNow : Int32) (t_jamsNow : Int32) (t_queued : Int32) (t_isKept : Int32) (t_tape : (Nat → Int32)) (t_said : (Nat → Int32)) (t_waitsAt : (Nat → Int32)) : va_W := [(O_t, ob_X12 a_t t_toldDoors t_barredDoors t_taped t_place0 t_length0 t_fault t_number0 t_open t_codeMany t_waiting t_saidMany t_clauses t_newMany t_rounds t_pinFrom t_pinTimes t_lines t_wasTold t_wasBarred t_goesNow t_jamsNow t_queued t_isKept), (a_t 13, .inl (E.2.2.1, 260, .inl t_tape)), (a_t 24, .inl (E.2.1, 260, .inl t_said)), (a_t 25, .inl (E.2.1, 260, .inl t_waitsAt))]
def L_X12_readsFactor_0 (t_length0 : Int32) (t_number0 : Int32) (t_codeMany : Int32) (t_tape : (Nat → Int32)) (t_said : (Nat → Int32)) (k0 : Int32 × Int32 × Int32 × Int32 × (Nat → Int32) → Option (Int32 × Int32 × Int32 × Int32 × Int32 × Int32 × Int32 × (Nat → Int32) × (Nat → Int32))) : Nat → Int32 × Int32 × Int32 × Int32 × (Nat → Int32) → Option (Int32 × Int32 × Int32 × Int32 × Int32 × Int32 × Int32 × (Nat → Int32) × (Nat → Int32)) := lp fun go s => (f_X12_here s.1 t_length0 t_tape).bind fun u1 => if u1 = (91 : Int32) then ((f_X12_opens s.1 s.2.1 s.2.2.1 s.2.2.2.1 s.2.2.2.2 (14 : Int32)).bind fun u2 => if u2.1 = 0 then (some ((0 : Int32), u2.2.1, u2.2.2.1, t_number0, u2.2.2.2.1, t_codeMany, u2.2.2.2.2.1, t_said, u2.2.2.2.2.2)) else go (u2.2.1, u2.2.2.1, u2.2.2.2.1, u2.2.2.2.2.1, u2.2.2.2.2.2)) else k0 (s.1, s.2.1, s.2.2.1, s.2.2.2.1, s.2.2.2.2)
def f_X12_readsFactor (t_place0 : Int32) (t_length0 : Int32) (t_fault : Int32) (t_number0 : Int32) (t_open : Int32) (t_codeMany : Int32) (t_waiting : Int32) (t_tape : (Nat → Int32)) (t_said : (Nat → Int32)) (t_waitsAt : (Nat → Int32)) : Option (Int32 × Int32 × Int32 × Int32 × Int32 × Int32 × Int32 × (Nat → Int32) × (Nat → Int32)) := L_X12_readsFactor_0 t_length0 t_number0 t_codeMany t_tape t_said (fun s3 => (f_X12_isDigit s3.1 t_length0 t_tape).bind fun u4 => if u4 = 0 then ((f_X12_here s3.1 t_length0 t_tape).bind fun u5 => (f_X12_factOf u5).bind fun u6 => if u6 = (-1 : Int32) then ((f_X12_wrongAt s3.2.1 (1 : Int32) s3.1).bind fun u9 => gb u9.1 <| some (u9.1, s3.1, u9.2, t_number0, s3.2.2.1, t_codeMany, s3.2.2.2.1, t_said, s3.2.2.2.2)) else (f_X12_notes t_codeMany t_said (1 : Int32) u6).bind fun u7 => nm (s3.1 + (1 : Int32)) fun v8 => some ((1 : Int32), v8, s3.2.1, t_number0, s3.2.2.1, u7.1, s3.2.2.2.1, u7.2, s3.2.2.2.2)) else (f_X12_readsNumber s3.1 t_length0 s3.2.1 t_number0 t_tape).bind fun u10 => if u10.1 = 0 then (some ((0 : Int32), u10.2.1, u10.2.2.1, u10.2.2.2, s3.2.2.1, t_codeMany, s3.2.2.2.1, t_said, s3.2.2.2.2)) else (f_X12_notes t_codeMany t_said (0 : Int32) u10.2.2.2).bind fun u11 => some ((1 : Int32), u10.2.1, u10.2.2.1, u10.2.2.2, s3.2.2.1, u11.1, s3.2.2.2.1, u11.2, s3.2.2.2.2)) fu (t_place0, t_fault, t_open, t_waiting, t_waitsAt)
theorem dX12_readsFactor_0 : decode cX12_readsFactor 0 = .ok (.aload_n 0, 1) := by decide +kernel
theorem dX12_readsFactor_1 : decode cX12_readsFactor 1 = .ok (.invokevirtual 152, 3) := by decide +kernel
theorem dX12_readsFactor_4 : decode cX12_readsFactor 4 = .ok (.bipush 91, 2) := by decide +kernel
theorem dX12_readsFactor_6 : decode cX12_readsFactor 6 = .ok (.if_icmp .ne 14, 3) := by decide +kernel
theorem dX12_readsFactor_9 : decode cX12_readsFactor 9 = .ok (.aload_n 0, 1) := by decide +kernel
theorem dX12_readsFactor_10 : decode cX12_readsFactor 10 = .ok (.bipush 14, 2) := by decide +kernel
theorem dX12_readsFactor_12 : decode cX12_readsFactor 12 = .ok (.invokevirtual 186, 3) := by decide +kernel
theorem dX12_readsFactor_15 : decode cX12_readsFactor 15 = .ok (.ifCond .ne (-15), 3) := by decide +kernel
theorem dX12_readsFactor_18 : decode cX12_readsFactor 18 = .ok (.iconst 0, 1) := by decide +kernel
theorem dX12_readsFactor_19 : decode cX12_readsFactor 19 = .ok (.ireturn, 1) := by decide +kernel
theorem dX12_readsFactor_20 : decode cX12_readsFactor 20 = .ok (.aload_n 0, 1) := by decide +kernel
theorem dX12_readsFactor_21 : decode cX12_readsFactor 21 = .ok (.invokevirtual 165, 3) := by decide +kernel
theorem dX12_readsFactor_24 : decode cX12_readsFactor 24 = .ok (.ifCond .eq 23, 3) := by decide +kernel
theorem dX12_readsFactor_27 : decode cX12_readsFactor 27 = .ok (.aload_n 0, 1) := by decide +kernel
theorem dX12_readsFactor_28 : decode cX12_readsFactor 28 = .ok (.invokevirtual 189, 3) := by decide +kernel
theorem dX12_readsFactor_31 : decode cX12_readsFactor 31 = .ok (.ifCond .ne 5, 3) := by decide +kernel
theorem dX12_readsFactor_34 : decode cX12_readsFactor 34 = .ok (.iconst 0, 1) := by decide +kernel
theorem dX12_readsFactor_35 : decode cX12_readsFactor 35 = .ok (.ireturn, 1) := by decide +kernel
theorem dX12_readsFactor_36 : decode cX12_readsFactor 36 = .ok (.aload_n 0, 1) := by decide +kernel
theorem dX12_readsFactor_37 : decode cX12_readsFactor 37 = .ok (.iconst 0, 1) := by decide +kernel
theorem dX12_readsFactor_38 : decode cX12_readsFactor 38 = .ok (.aload_n 0, 1) := by decide +kernel
theorem dX12_readsFactor_39 : decode cX12_readsFactor 39 = .ok (.getfield 162, 3) := by decide +kernel
theorem dX12_readsFactor_42 : decode cX12_readsFactor 42 = .ok (.invokevirtual 182, 3) := by decide +kernel
theorem dX12_readsFactor_45 : decode cX12_readsFactor 45 = .ok (.iconst 1, 1) := by decide +kernel
theorem dX12_readsFactor_46 : decode cX12_readsFactor 46 = .ok (.ireturn, 1) := by decide +kernel
theorem dX12_readsFactor_47 : decode cX12_readsFactor 47 = .ok (.aload_n 0, 1) := by decide +kernel
theorem dX12_readsFactor_48 : decode cX12_readsFactor 48 = .ok (.invokevirtual 152, 3) := by decide +kernel
theorem dX12_readsFactor_51 : decode cX12_readsFactor 51 = .ok (.invokestatic 192, 3) := by decide +kernel
theorem dX12_readsFactor_54 : decode cX12_readsFactor 54 = .ok (.istore_n 1, 1) := by decide +kernel
theorem dX12_readsFactor_55 : decode cX12_readsFactor 55 = .ok (.iload_n 1, 1) := by decide +kernel
theorem dX12_readsFactor_56 : decode cX12_readsFactor 56 = .ok (.iconst (-1), 1) := by decide +kernel
theorem dX12_readsFactor_57 : decode cX12_readsFactor 57 = .ok (.if_icmp .ne 13, 3) := by decide +kernel
theorem dX12_readsFactor_60 : decode cX12_readsFactor 60 = .ok (.aload_n 0, 1) := by decide +kernel
theorem dX12_readsFactor_61 : decode cX12_readsFactor 61 = .ok (.iconst 1, 1) := by decide +kernel
theorem dX12_readsFactor_62 : decode cX12_readsFactor 62 = .ok (.aload_n 0, 1) := by decide +kernel
theorem dX12_readsFactor_63 : decode cX12_readsFactor 63 = .ok (.getfield 146, 3) := by decide +kernel
theorem dX12_readsFactor_66 : decode cX12_readsFactor 66 = .ok (.invokevirtual 159, 3) := by decide +kernel
theorem dX12_readsFactor_69 : decode cX12_readsFactor 69 = .ok (.ireturn, 1) := by decide +kernel
theorem dX12_readsFactor_70 : decode cX12_readsFactor 70 = .ok (.aload_n 0, 1) := by decide +kernel
theorem dX12_readsFactor_71 : decode cX12_readsFactor 71 = .ok (.iconst 1, 1) := by decide +kernel
theorem dX12_readsFactor_72 : decode cX12_readsFactor 72 = .ok (.iload_n 1, 1) := by decide +kernel
theorem dX12_readsFactor_73 : decode cX12_readsFactor 73 = .ok (.invokevirtual 182, 3) := by decide +kernel
theorem dX12_readsFactor_76 : decode cX12_readsFactor 76 = .ok (.aload_n 0, 1) := by decide +kernel
theorem dX12_readsFactor_77 : decode cX12_readsFactor 77 = .ok (.aload_n 0, 1) := by decide +kernel
theorem dX12_readsFactor_78 : decode cX12_readsFactor 78 = .ok (.getfield 146, 3) := by decide +kernel
theorem dX12_readsFactor_81 : decode cX12_readsFactor 81 = .ok (.iconst 1, 1) := by decide +kernel
theorem dX12_readsFactor_82 : decode cX12_readsFactor 82 = .ok (.iadd, 1) := by decide +kernel
theorem dX12_readsFactor_83 : decode cX12_readsFactor 83 = .ok (.putfield 146, 3) := by decide +kernel
theorem dX12_readsFactor_86 : decode cX12_readsFactor 86 = .ok (.iconst 1, 1) := by decide +kernel
theorem dX12_readsFactor_87 : decode cX12_readsFactor 87 = .ok (.ireturn, 1) := by decide +kernel
set_option maxHeartbeats 4000000 in
set_option maxRecDepth 100000 in
theorem kL_X12_readsFactor_0 {X : GC} {E : GE} (C : Cx X E cX12_readsFactor RX12 4 2) (o_t : Nat) (a_t : Nat → Nat) (t_toldDoors : Int32) (t_barredDoors : Int32) (t_taped : Int32) (t_saidMany : Int32) (t_clauses : Int32) (t_newMany : Int32) (t_rounds : Int32) (t_pinFrom : Int32) (t_pinTimes : Int32) (t_lines : Int32) (t_wasTold : Int32) (t_wasBarred : Int32) (t_goesNow : Int32) (t_jamsNow : Int32) (t_queued : Int32) (t_isKept : Int32) (t_length0 : Int32) (t_number0 : Int32) (t_codeMany : Int32) (t_tape : (Nat → Int32)) (t_said : (Nat → Int32)) (k0 : Int32 × Int32 × Int32 × Int32 × (Nat → Int32) → Option (Int32 × Int32 × Int32 × Int32 × Int32 × Int32 × Int32 × (Nat → Int32) × (Nat → Int32))) {r : Int32 × Int32 × Int32 × Int32 × Int32 × Int32 × Int32 × (Nat → Int32) × (Nat → Int32)} (hret : RtI X E cX12_readsFactor .boolean 0 0 (fun w => w = (W_X12_readsFactor E o_t a_t t_toldDoors t_barredDoors t_taped r.2.1 t_length0 r.2.2.1 r.2.2.2.1 r.2.2.2.2.1 r.2.2.2.2.2.1 r.2.2.2.2.2.2.1 t_saidMany t_clauses t_newMany t_rounds t_pinFrom t_pinTimes t_lines t_wasTold t_wasBarred t_goesNow t_jamsNow t_queued t_isKept t_tape r.2.2.2.2.2.2.2.1 r.2.2.2.2.2.2.2.2)) r.1) (hk0 : ∀ u, k0 u = some r → Gx X E 0 0 (W_X12_readsFactor E o_t a_t t_toldDoors t_barredDoors t_taped u.1 t_length0 u.2.1 t_number0 u.2.2.1 t_codeMany u.2.2.2.1 t_saidMany t_clauses t_newMany t_rounds t_pinFrom t_pinTimes t_lines t_wasTold t_wasBarred t_goesNow t_jamsNow t_queued t_isKept t_tape t_said u.2.2.2.2) 20 [(0, .ref o_t)] []) : ∀ (n : Nat) (s : Int32 × Int32 × Int32 × Int32 × (Nat → Int32)), L_X12_readsFactor_0 t_length0 t_number0 t_codeMany t_tape t_said k0 n s = some r → Gx X E 0 0 (W_X12_readsFactor E o_t a_t t_toldDoors t_barredDoors t_taped s.1 t_length0 s.2.1 t_number0 s.2.2.1 t_codeMany s.2.2.2.1 t_saidMany t_clauses t_newMany t_rounds t_pinFrom t_pinTimes t_lines t_wasTold t_wasBarred t_goesNow t_jamsNow t_queued t_isKept t_tape t_said s.2.2.2.2) 0 [(0, .ref o_t)] [] := by
  unfold L_X12_readsFactor_0
  refine lp_ind _ (fun go ih s h => ?_)
  refine g_aload_n (pc := 0) C dX12_readsFactor_0 rfl 0 rfl ?_
  obtain ⟨u1, hu1, h⟩ := bs h
  refine g_callV (pc := 1) (st := []) (st1 := [.int u1]) (ws' := (W_X12_readsFactor E o_t a_t t_toldDoors t_barredDoors t_taped s.1 t_length0 s.2.1 t_number0 s.2.2.1 t_codeMany s.2.2.2.1 t_saidMany t_clauses t_newMany t_rounds t_pinFrom t_pinTimes t_lines t_wasTold t_wasBarred t_goesNow t_jamsNow t_queued t_isKept t_tape t_said s.2.2.2.2)) C mv_X12_here mi_X12_here ml_X12_152 (c_X12_here X.2.1 E o_t a_t t_toldDoors t_barredDoors t_taped s.1 t_length0 s.2.1 t_number0 s.2.2.1 t_codeMany s.2.2.2.1 t_saidMany t_clauses t_newMany t_rounds t_pinFrom t_pinTimes t_lines t_wasTold t_wasBarred t_goesNow t_jamsNow t_queued t_isKept t_tape u1 hu1) dX12_readsFactor_1 (by decide) rfl (Nat.le_of_ble_eq_true rfl) 0 11 rfl rfl [0, 1] rfl (by decide) rfl rfl rfl rfl ?_
  refine g_bipush (pc := 4) (v := 91) C dX12_readsFactor_4 (by decide) ?_
  refine g_icmp_ne (pc := 6) (tgt := 20) C dX12_readsFactor_6 (by decide) h (fun h => ?_) (fun h => ?_)
  · exact hk0 _ h
  · refine g_aload_n (pc := 9) C dX12_readsFactor_9 rfl 0 rfl ?_
    refine g_bipush (pc := 10) (v := 14) C dX12_readsFactor_10 (by decide) ?_
    obtain ⟨u2, hu2, h⟩ := bs h
    refine g_callV (pc := 12) (st := []) (st1 := [.int u2.1]) (ws' := (W_X12_readsFactor E o_t a_t t_toldDoors t_barredDoors t_taped u2.2.1 t_length0 u2.2.2.1 t_number0 u2.2.2.2.1 t_codeMany u2.2.2.2.2.1 t_saidMany t_clauses t_newMany t_rounds t_pinFrom t_pinTimes t_lines t_wasTold t_wasBarred t_goesNow t_jamsNow t_queued t_isKept t_tape t_said u2.2.2.2.2.2)) C mv_X12_opens mi_X12_opens ml_X12_186 (c_X12_opens X.2.1 E o_t a_t t_toldDoors t_barredDoors t_taped s.1 t_length0 s.2.1 t_number0 s.2.2.1 t_codeMany s.2.2.2.1 t_saidMany t_clauses t_newMany t_rounds t_pinFrom t_pinTimes t_lines t_wasTold t_wasBarred t_goesNow t_jamsNow t_queued t_isKept s.2.2.2.2 (14 : Int32) u2 hu2) dX12_readsFactor_12 (by decide) rfl (Nat.le_of_ble_eq_true rfl) 0 11 rfl rfl [0, 3] rfl (by decide) rfl rfl rfl rfl ?_
    refine g_if_ne (pc := 15) (tgt := 0) C dX12_readsFactor_15 (by decide) h (fun h => ?_) (fun h => ?_)
    · exact ih _ h
    · refine g_iconst (pc := 18) (v := 0) C dX12_readsFactor_18 (by decide) ?_
      cases h
      exact hret _ _ _ dX12_readsFactor_19 nb0 rfl
set_option maxHeartbeats 4000000 in
set_option maxRecDepth 100000 in
theorem c_X12_readsFactor (l : Launch) (E : GE) (o_t : Nat) (a_t : Nat → Nat) (t_toldDoors : Int32) (t_barredDoors : Int32) (t_taped : Int32) (t_place0 : Int32) (t_length0 : Int32) (t_fault : Int32) (t_number0 : Int32) (t_open : Int32) (t_codeMany : Int32) (t_waiting : Int32) (t_saidMany : Int32) (t_clauses : Int32) (t_newMany : Int32) (t_rounds : Int32) (t_pinFrom : Int32) (t_pinTimes : Int32) (t_lines : Int32) (t_wasTold : Int32) (t_wasBarred : Int32) (t_goesNow : Int32) (t_jamsNow : Int32) (t_queued : Int32) (t_isKept : Int32) (t_tape : (Nat → Int32)) (t_said : (Nat → Int32)) (t_waitsAt : (Nat → Int32)) (r : Int32 × Int32 × Int32 × Int32 × Int32 × Int32 × Int32 × (Nat → Int32) × (Nat → Int32)) (h : f_X12_readsFactor t_place0 t_length0 t_fault t_number0 t_open t_codeMany t_waiting t_tape t_said t_waitsAt = some r) : Cn l E yX12_readsFactor cX12_readsFactor 2 (some .boolean) 4 0 0 [.ref o_t] (W_X12_readsFactor E o_t a_t t_toldDoors t_barredDoors t_taped t_place0 t_length0 t_fault t_number0 t_open t_codeMany t_waiting t_saidMany t_clauses t_newMany t_rounds t_pinFrom t_pinTimes t_lines t_wasTold t_wasBarred t_goesNow t_jamsNow t_queued t_isKept t_tape t_said t_waitsAt) (fun w => w = (W_X12_readsFactor E o_t a_t t_toldDoors t_barredDoors t_taped r.2.1 t_length0 r.2.2.1 r.2.2.2.1 r.2.2.2.2.1 r.2.2.2.2.2.1 r.2.2.2.2.2.2.1 t_saidMany t_clauses t_newMany t_rounds t_pinFrom t_pinTimes t_lines t_wasTold t_wasBarred t_goesNow t_jamsNow t_queued t_isKept t_tape r.2.2.2.2.2.2.2.1 r.2.2.2.2.2.2.2.2)) (some (.int r.1)) := by
  refine Cn.ofI (by decide +kernel) (Nat.le_of_ble_eq_true rfl) (fun X hX hR C hret => ?_)
  subst hX
  show Gx X E 0 0 (W_X12_readsFactor E o_t a_t t_toldDoors t_barredDoors t_taped t_place0 t_length0 t_fault t_number0 t_open t_codeMany t_waiting t_saidMany t_clauses t_newMany t_rounds t_pinFrom t_pinTimes t_lines t_wasTold t_wasBarred t_goesNow t_jamsNow t_queued t_isKept t_tape t_said t_waitsAt) 0 [(0, .ref o_t)] []
  unfold f_X12_readsFactor at h
  refine kL_X12_readsFactor_0 C o_t a_t t_toldDoors t_barredDoors t_taped t_saidMany t_clauses t_newMany t_rounds t_pinFrom t_pinTimes t_lines t_wasTold t_wasBarred t_goesNow t_jamsNow t_queued t_isKept t_length0 t_number0 t_codeMany t_tape t_said _ hret (fun s3 h => ?_) _ _ h
  refine g_aload_n (pc := 20) C dX12_readsFactor_20 rfl 0 rfl ?_
  obtain ⟨u4, hu4, h⟩ := bs h
  refine g_callV (pc := 21) (st := []) (st1 := [.int u4]) (ws' := (W_X12_readsFactor E o_t a_t t_toldDoors t_barredDoors t_taped s3.1 t_length0 s3.2.1 t_number0 s3.2.2.1 t_codeMany s3.2.2.2.1 t_saidMany t_clauses t_newMany t_rounds t_pinFrom t_pinTimes t_lines t_wasTold t_wasBarred t_goesNow t_jamsNow t_queued t_isKept t_tape t_said s3.2.2.2.2)) C mv_X12_isDigit mi_X12_isDigit ml_X12_165 (c_X12_isDigit X.2.1 E o_t a_t t_toldDoors t_barredDoors t_taped s3.1 t_length0 s3.2.1 t_number0 s3.2.2.1 t_codeMany s3.2.2.2.1 t_saidMany t_clauses t_newMany t_rounds t_pinFrom t_pinTimes t_lines t_wasTold t_wasBarred t_goesNow t_jamsNow t_queued t_isKept t_tape u4 hu4) dX12_readsFactor_21 (by decide) rfl (Nat.le_of_ble_eq_true rfl) 0 11 rfl rfl [0, 1] rfl (by decide) rfl rfl rfl rfl ?_
  refine g_if_eq (pc := 24) (tgt := 47) C dX12_readsFactor_24 (by decide) h (fun h => ?_) (fun h => ?_)
  · refine g_aload_n (pc := 47) C dX12_readsFactor_47 rfl 0 rfl ?_
    obtain ⟨u5, hu5, h⟩ := bs h
    refine g_callV (pc := 48) (st := []) (st1 := [.int u5]) (ws' := (W_X12_readsFactor E o_t a_t t_toldDoors t_barredDoors t_taped s3.1 t_length0 s3.2.1 t_number0 s3.2.2.1 t_codeMany s3.2.2.2.1 t_saidMany t_clauses t_newMany t_rounds t_pinFrom t_pinTimes t_lines t_wasTold t_wasBarred t_goesNow t_jamsNow t_queued t_isKept t_tape t_said s3.2.2.2.2)) C mv_X12_here mi_X12_here ml_X12_152 (c_X12_here X.2.1 E o_t a_t t_toldDoors t_barredDoors t_taped s3.1 t_length0 s3.2.1 t_number0 s3.2.2.1 t_codeMany s3.2.2.2.1 t_saidMany t_clauses t_newMany t_rounds t_pinFrom t_pinTimes t_lines t_wasTold t_wasBarred t_goesNow t_jamsNow t_queued t_isKept t_tape u5 hu5) dX12_readsFactor_48 (by decide) rfl (Nat.le_of_ble_eq_true rfl) 0 11 rfl rfl [0, 1] rfl (by decide) rfl rfl rfl rfl ?_
    obtain ⟨u6, hu6, h⟩ := bs h
    refine g_callS (pc := 51) (st := []) (st1 := [.int u6]) (ws' := (W_X12_readsFactor E o_t a_t t_toldDoors t_barredDoors t_taped s3.1 t_length0 s3.2.1 t_number0 s3.2.2.1 t_codeMany s3.2.2.2.1 t_saidMany t_clauses t_newMany t_rounds t_pinFrom t_pinTimes t_lines t_wasTold t_wasBarred t_goesNow t_jamsNow t_queued t_isKept t_tape t_said s3.2.2.2.2)) C mv_X12_factOf ms_X12_factOf ml_X12_192 (c_X12_factOf X.2.1 E u5 u6 hu6) dX12_readsFactor_51 (by decide) rfl (Nat.le_of_ble_eq_true rfl) [] rfl (by decide) rfl rfl rfl rfl ?_
    refine g_istore_n (pc := 54) (lv' := [(1, .int u6), (0, .ref o_t)]) C dX12_readsFactor_54 rfl (by decide) rfl ?_
    refine g_iload_n (pc := 55) C dX12_readsFactor_55 rfl 0 rfl ?_
    refine g_iconst (pc := 56) (v := -1) C dX12_readsFactor_56 (by decide) ?_
    refine g_icmp_ne (pc := 57) (tgt := 70) C dX12_readsFactor_57 (by decide) h (fun h => ?_) (fun h => ?_)
    · refine g_aload_n (pc := 70) C dX12_readsFactor_70 rfl 1 rfl ?_
      refine g_iconst (pc := 71) (v := 1) C dX12_readsFactor_71 (by decide) ?_
      refine g_iload_n (pc := 72) C dX12_readsFactor_72 rfl 0 rfl ?_
      obtain ⟨u7, hu7, h⟩ := bs h
      refine g_callV (pc := 73) (st := []) (st1 := []) (ws' := (W_X12_readsFactor E o_t a_t t_toldDoors t_barredDoors t_taped s3.1 t_length0 s3.2.1 t_number0 s3.2.2.1 u7.1 s3.2.2.2.1 t_saidMany t_clauses t_newMany t_rounds t_pinFrom t_pinTimes t_lines t_wasTold t_wasBarred t_goesNow t_jamsNow t_queued t_isKept t_tape u7.2 s3.2.2.2.2)) C mv_X12_notes mi_X12_notes ml_X12_182 (c_X12_notes X.2.1 E o_t a_t t_toldDoors t_barredDoors t_taped s3.1 t_length0 s3.2.1 t_number0 s3.2.2.1 t_codeMany s3.2.2.2.1 t_saidMany t_clauses t_newMany t_rounds t_pinFrom t_pinTimes t_lines t_wasTold t_wasBarred t_goesNow t_jamsNow t_queued t_isKept t_said (1 : Int32) u6 u7 hu7) dX12_readsFactor_73 (by decide) rfl (Nat.le_of_ble_eq_true rfl) 0 11 rfl rfl [0, 2] rfl (by decide) rfl rfl rfl rfl ?_
      refine g_aload_n (pc := 76) C dX12_readsFactor_76 rfl 1 rfl ?_
      refine g_aload_n (pc := 77) C dX12_readsFactor_77 rfl 1 rfl ?_
      refine g_get (pc := 78) C fl_X12_146 dX12_readsFactor_78 0 rfl rfl ?_
      refine g_iconst (pc := 81) (v := 1) C dX12_readsFactor_81 (by decide) ?_
      refine g_iadd (pc := 82) C dX12_readsFactor_82 ?_
      refine g_nm h (fun v8 h => ?_)
      refine g_put (pc := 83) (ws' := (W_X12_readsFactor E o_t a_t t_toldDoors t_barredDoors t_taped v8 t_length0 s3.2.1 t_number0 s3.2.2.1 u7.1 s3.2.2.2.1 t_saidMany t_clauses t_newMany t_rounds t_pinFrom t_pinTimes t_lines t_wasTold t_wasBarred t_goesNow t_jamsNow t_queued t_isKept t_tape u7.2 s3.2.2.2.2)) C .int fl_X12_146 dX12_readsFactor_83 0 rfl (by decide +kernel) rfl rfl (Nat.le_of_ble_eq_true rfl) rfl ?_
      refine g_iconst (pc := 86) (v := 1) C dX12_readsFactor_86 (by decide) ?_
      cases h
      exact hret _ _ _ dX12_readsFactor_87 nb1 rfl
    · refine g_aload_n (pc := 60) C dX12_readsFactor_60 rfl 1 rfl ?_
      refine g_iconst (pc := 61) (v := 1) C dX12_readsFactor_61 (by decide) ?_
      refine g_aload_n (pc := 62) C dX12_readsFactor_62 rfl 1 rfl ?_
      refine g_get (pc := 63) C fl_X12_146 dX12_readsFactor_63 0 rfl rfl ?_
      obtain ⟨u9, hu9, h⟩ := bs h
      refine g_callV (pc := 66) (st := []) (st1 := [.int u9.1]) (ws' := (W_X12_readsFactor E o_t a_t t_toldDoors t_barredDoors t_taped s3.1 t_length0 u9.2 t_number0 s3.2.2.1 t_codeMany s3.2.2.2.1 t_saidMany t_clauses t_newMany t_rounds t_pinFrom t_pinTimes t_lines t_wasTold t_wasBarred t_goesNow t_jamsNow t_queued t_isKept t_tape t_said s3.2.2.2.2)) C mv_X12_wrongAt mi_X12_wrongAt ml_X12_159 (c_X12_wrongAt X.2.1 E o_t a_t t_toldDoors t_barredDoors t_taped s3.1 t_length0 s3.2.1 t_number0 s3.2.2.1 t_codeMany s3.2.2.2.1 t_saidMany t_clauses t_newMany t_rounds t_pinFrom t_pinTimes t_lines t_wasTold t_wasBarred t_goesNow t_jamsNow t_queued t_isKept (1 : Int32) s3.1 u9 hu9) dX12_readsFactor_66 (by decide) rfl (Nat.le_of_ble_eq_true rfl) 0 11 rfl rfl [0] rfl (by decide) rfl rfl rfl rfl ?_
      obtain ⟨hgb, h⟩ := gb_is h
      cases h
      exact hret _ _ _ dX12_readsFactor_69 hgb rfl
  · refine g_aload_n (pc := 27) C dX12_readsFactor_27 rfl 0 rfl ?_
    obtain ⟨u10, hu10, h⟩ := bs h
    refine g_callV (pc := 28) (st := []) (st1 := [.int u10.1]) (ws' := (W_X12_readsFactor E o_t a_t t_toldDoors t_barredDoors t_taped u10.2.1 t_length0 u10.2.2.1 u10.2.2.2 s3.2.2.1 t_codeMany s3.2.2.2.1 t_saidMany t_clauses t_newMany t_rounds t_pinFrom t_pinTimes t_lines t_wasTold t_wasBarred t_goesNow t_jamsNow t_queued t_isKept t_tape t_said s3.2.2.2.2)) C mv_X12_readsNumber mi_X12_readsNumber ml_X12_189 (c_X12_readsNumber X.2.1 E o_t a_t t_toldDoors t_barredDoors t_taped s3.1 t_length0 s3.2.1 t_number0 s3.2.2.1 t_codeMany s3.2.2.2.1 t_saidMany t_clauses t_newMany t_rounds t_pinFrom t_pinTimes t_lines t_wasTold t_wasBarred t_goesNow t_jamsNow t_queued t_isKept t_tape u10 hu10) dX12_readsFactor_28 (by decide) rfl (Nat.le_of_ble_eq_true rfl) 0 11 rfl rfl [0, 1] rfl (by decide) rfl rfl rfl rfl ?_
    refine g_if_ne (pc := 31) (tgt := 36) C dX12_readsFactor_31 (by decide) h (fun h => ?_) (fun h => ?_)
    · refine g_aload_n (pc := 36) C dX12_readsFactor_36 rfl 0 rfl ?_
      refine g_iconst (pc := 37) (v := 0) C dX12_readsFactor_37 (by decide) ?_
      refine g_aload_n (pc := 38) C dX12_readsFactor_38 rfl 0 rfl ?_
      refine g_get (pc := 39) C fl_X12_162 dX12_readsFactor_39 0 rfl rfl ?_
      obtain ⟨u11, hu11, h⟩ := bs h
      refine g_callV (pc := 42) (st := []) (st1 := []) (ws' := (W_X12_readsFactor E o_t a_t t_toldDoors t_barredDoors t_taped u10.2.1 t_length0 u10.2.2.1 u10.2.2.2 s3.2.2.1 u11.1 s3.2.2.2.1 t_saidMany t_clauses t_newMany t_rounds t_pinFrom t_pinTimes t_lines t_wasTold t_wasBarred t_goesNow t_jamsNow t_queued t_isKept t_tape u11.2 s3.2.2.2.2)) C mv_X12_notes mi_X12_notes ml_X12_182 (c_X12_notes X.2.1 E o_t a_t t_toldDoors t_barredDoors t_taped u10.2.1 t_length0 u10.2.2.1 u10.2.2.2 s3.2.2.1 t_codeMany s3.2.2.2.1 t_saidMany t_clauses t_newMany t_rounds t_pinFrom t_pinTimes t_lines t_wasTold t_wasBarred t_goesNow t_jamsNow t_queued t_isKept t_said (0 : Int32) u10.2.2.2 u11 hu11) dX12_readsFactor_42 (by decide) rfl (Nat.le_of_ble_eq_true rfl) 0 11 rfl rfl [0, 2] rfl (by decide) rfl rfl rfl rfl ?_
      refine g_iconst (pc := 45) (v := 1) C dX12_readsFactor_45 (by decide) ?_
      cases h
      exact hret _ _ _ dX12_readsFactor_46 nb1 rfl
    · refine g_iconst (pc := 34) (v := 0) C dX12_readsFactor_34 (by decide) ?_
      cases h
      exact hret _ _ _ dX12_readsFactor_35 nb0 rfl
abbrev W_X12_readsKind (E : GE) (O_t : Nat) (a_t : Nat → Nat) (t_toldDoors : Int32) (t_barredDoors : Int32) (t_taped : Int32) (t_place0 : Int32) (t_length0 : Int32) (t_fault : Int32) (t_number0 : Int32) (t_open : Int32) (t_codeMany : Int32) (t_waiting : Int32) (t_saidMany : Int32) (t_clauses : Int32) (t_newMany : Int32) (t_rounds : Int32) (t_pinFrom : Int32) (t_pinTimes : Int32) (t_lines : Int32) (t_wasTold : Int32) (t_wasBarred : Int32) (t_goesNow : Int32) (t_jamsNow : Int32) (t_queued : Int32) (t_isKept : Int32) (t_prongsOf : (Nat → Int32)) (t_tape : (Nat → Int32)) : va_W := [(O_t, ob_X12 a_t t_toldDoors t_barredDoors t_taped t_place0 t_length0 t_fault t_number0 t_open t_codeMany t_waiting t_saidMany t_clauses t_newMany t_rounds t_pinFrom t_pinTimes t_lines t_wasTold t_wasBarred t_goesNow t_jamsNow t_queued t_isKept), (a_t 3, .inl (E.2.1, 6, .inl t_prongsOf)), (a_t 13, .inl (E.2.2.1, 260, .inl t_tape))]
def f_X12_readsKind (t_place0 : Int32) (t_length0 : Int32) (t_fault : Int32) (t_number0 : Int32) (t_prongsOf : (Nat → Int32)) (t_tape : (Nat → Int32)) : Option (Int32 × Int32 × Int32 × Int32 × (Nat → Int32)) := (f_X12_here t_place0 t_length0 t_tape).bind fun u1 => nm (u1 - (97 : Int32)) fun v2 => nm (t_place0 + (1 : Int32)) fun v3 => (f_X12_takes v3 t_length0 t_fault t_tape (61 : Int32)).bind fun u4 => if u4.1 = 0 then (some ((0 : Int32), u4.2.1, u4.2.2, t_number0, t_prongsOf)) else (f_X12_readsWithin u4.2.1 t_length0 u4.2.2 t_number0 t_tape (63 : Int32)).bind fun u5 => if u5.1 = 0 then (some ((0 : Int32), u5.2.1, u5.2.2.1, u5.2.2.2, t_prongsOf)) else wr t_prongsOf 6 v2 u5.2.2.2 fun g6 => some ((1 : Int32), u5.2.1, u5.2.2.1, u5.2.2.2, g6)
theorem dX12_readsKind_0 : decode cX12_readsKind 0 = .ok (.aload_n 0, 1) := by decide +kernel
theorem dX12_readsKind_1 : decode cX12_readsKind 1 = .ok (.invokevirtual 152, 3) := by decide +kernel
theorem dX12_readsKind_4 : decode cX12_readsKind 4 = .ok (.bipush 97, 2) := by decide +kernel
theorem dX12_readsKind_6 : decode cX12_readsKind 6 = .ok (.isub, 1) := by decide +kernel
theorem dX12_readsKind_7 : decode cX12_readsKind 7 = .ok (.istore_n 1, 1) := by decide +kernel
theorem dX12_readsKind_8 : decode cX12_readsKind 8 = .ok (.aload_n 0, 1) := by decide +kernel
theorem dX12_readsKind_9 : decode cX12_readsKind 9 = .ok (.aload_n 0, 1) := by decide +kernel
theorem dX12_readsKind_10 : decode cX12_readsKind 10 = .ok (.getfield 146, 3) := by decide +kernel
theorem dX12_readsKind_13 : decode cX12_readsKind 13 = .ok (.iconst 1, 1) := by decide +kernel
theorem dX12_readsKind_14 : decode cX12_readsKind 14 = .ok (.iadd, 1) := by decide +kernel
theorem dX12_readsKind_15 : decode cX12_readsKind 15 = .ok (.putfield 146, 3) := by decide +kernel
theorem dX12_readsKind_18 : decode cX12_readsKind 18 = .ok (.aload_n 0, 1) := by decide +kernel
theorem dX12_readsKind_19 : decode cX12_readsKind 19 = .ok (.bipush 61, 2) := by decide +kernel
theorem dX12_readsKind_21 : decode cX12_readsKind 21 = .ok (.invokevirtual 236, 3) := by decide +kernel
theorem dX12_readsKind_24 : decode cX12_readsKind 24 = .ok (.ifCond .eq 12, 3) := by decide +kernel
theorem dX12_readsKind_27 : decode cX12_readsKind 27 = .ok (.aload_n 0, 1) := by decide +kernel
theorem dX12_readsKind_28 : decode cX12_readsKind 28 = .ok (.bipush 63, 2) := by decide +kernel
theorem dX12_readsKind_30 : decode cX12_readsKind 30 = .ok (.invokevirtual 277, 3) := by decide +kernel
theorem dX12_readsKind_33 : decode cX12_readsKind 33 = .ok (.ifCond .ne 5, 3) := by decide +kernel
theorem dX12_readsKind_36 : decode cX12_readsKind 36 = .ok (.iconst 0, 1) := by decide +kernel
theorem dX12_readsKind_37 : decode cX12_readsKind 37 = .ok (.ireturn, 1) := by decide +kernel
theorem dX12_readsKind_38 : decode cX12_readsKind 38 = .ok (.aload_n 0, 1) := by decide +kernel
theorem dX12_readsKind_39 : decode cX12_readsKind 39 = .ok (.getfield 19, 3) := by decide +kernel
theorem dX12_readsKind_42 : decode cX12_readsKind 42 = .ok (.iload_n 1, 1) := by decide +kernel
theorem dX12_readsKind_43 : decode cX12_readsKind 43 = .ok (.aload_n 0, 1) := by decide +kernel
theorem dX12_readsKind_44 : decode cX12_readsKind 44 = .ok (.getfield 162, 3) := by decide +kernel
theorem dX12_readsKind_47 : decode cX12_readsKind 47 = .ok (.iastore, 1) := by decide +kernel
theorem dX12_readsKind_48 : decode cX12_readsKind 48 = .ok (.iconst 1, 1) := by decide +kernel
theorem dX12_readsKind_49 : decode cX12_readsKind 49 = .ok (.ireturn, 1) := by decide +kernel
set_option maxHeartbeats 4000000 in
set_option maxRecDepth 100000 in
theorem c_X12_readsKind (l : Launch) (E : GE) (o_t : Nat) (a_t : Nat → Nat) (t_toldDoors : Int32) (t_barredDoors : Int32) (t_taped : Int32) (t_place0 : Int32) (t_length0 : Int32) (t_fault : Int32) (t_number0 : Int32) (t_open : Int32) (t_codeMany : Int32) (t_waiting : Int32) (t_saidMany : Int32) (t_clauses : Int32) (t_newMany : Int32) (t_rounds : Int32) (t_pinFrom : Int32) (t_pinTimes : Int32) (t_lines : Int32) (t_wasTold : Int32) (t_wasBarred : Int32) (t_goesNow : Int32) (t_jamsNow : Int32) (t_queued : Int32) (t_isKept : Int32) (t_prongsOf : (Nat → Int32)) (t_tape : (Nat → Int32)) (r : Int32 × Int32 × Int32 × Int32 × (Nat → Int32)) (h : f_X12_readsKind t_place0 t_length0 t_fault t_number0 t_prongsOf t_tape = some r) : Cn l E yX12_readsKind cX12_readsKind 2 (some .boolean) 4 0 0 [.ref o_t] (W_X12_readsKind E o_t a_t t_toldDoors t_barredDoors t_taped t_place0 t_length0 t_fault t_number0 t_open t_codeMany t_waiting t_saidMany t_clauses t_newMany t_rounds t_pinFrom t_pinTimes t_lines t_wasTold t_wasBarred t_goesNow t_jamsNow t_queued t_isKept t_prongsOf t_tape) (fun w => w = (W_X12_readsKind E o_t a_t t_toldDoors t_barredDoors t_taped r.2.1 t_length0 r.2.2.1 r.2.2.2.1 t_open t_codeMany t_waiting t_saidMany t_clauses t_newMany t_rounds t_pinFrom t_pinTimes t_lines t_wasTold t_wasBarred t_goesNow t_jamsNow t_queued t_isKept r.2.2.2.2 t_tape)) (some (.int r.1)) := by
  refine Cn.ofI (by decide +kernel) (Nat.le_of_ble_eq_true rfl) (fun X hX hR C hret => ?_)
  subst hX
  show Gx X E 0 0 (W_X12_readsKind E o_t a_t t_toldDoors t_barredDoors t_taped t_place0 t_length0 t_fault t_number0 t_open t_codeMany t_waiting t_saidMany t_clauses t_newMany t_rounds t_pinFrom t_pinTimes t_lines t_wasTold t_wasBarred t_goesNow t_jamsNow t_queued t_isKept t_prongsOf t_tape) 0 [(0, .ref o_t)] []
  unfold f_X12_readsKind at h
  refine g_aload_n (pc := 0) C dX12_readsKind_0 rfl 0 rfl ?_
  obtain ⟨u1, hu1, h⟩ := bs h
  refine g_callV (pc := 1) (st := []) (st1 := [.int u1]) (ws' := (W_X12_readsKind E o_t a_t t_toldDoors t_barredDoors t_taped t_place0 t_length0 t_fault t_number0 t_open t_codeMany t_waiting t_saidMany t_clauses t_newMany t_rounds t_pinFrom t_pinTimes t_lines t_wasTold t_wasBarred t_goesNow t_jamsNow t_queued t_isKept t_prongsOf t_tape)) C mv_X12_here mi_X12_here ml_X12_152 (c_X12_here X.2.1 E o_t a_t t_toldDoors t_barredDoors t_taped t_place0 t_length0 t_fault t_number0 t_open t_codeMany t_waiting t_saidMany t_clauses t_newMany t_rounds t_pinFrom t_pinTimes t_lines t_wasTold t_wasBarred t_goesNow t_jamsNow t_queued t_isKept t_tape u1 hu1) dX12_readsKind_1 (by decide) rfl (Nat.le_of_ble_eq_true rfl) 0 11 rfl rfl [0, 2] rfl (by decide) rfl rfl rfl rfl ?_
  refine g_bipush (pc := 4) (v := 97) C dX12_readsKind_4 (by decide) ?_
  refine g_isub (pc := 6) C dX12_readsKind_6 ?_
  refine g_nm h (fun v2 h => ?_)
  refine g_istore_n (pc := 7) (lv' := [(1, .int v2), (0, .ref o_t)]) C dX12_readsKind_7 rfl (by decide) rfl ?_
  refine g_aload_n (pc := 8) C dX12_readsKind_8 rfl 1 rfl ?_
  refine g_aload_n (pc := 9) C dX12_readsKind_9 rfl 1 rfl ?_
  refine g_get (pc := 10) C fl_X12_146 dX12_readsKind_10 0 rfl rfl ?_
  refine g_iconst (pc := 13) (v := 1) C dX12_readsKind_13 (by decide) ?_
  refine g_iadd (pc := 14) C dX12_readsKind_14 ?_
  refine g_nm h (fun v3 h => ?_)
  refine g_put (pc := 15) (ws' := (W_X12_readsKind E o_t a_t t_toldDoors t_barredDoors t_taped v3 t_length0 t_fault t_number0 t_open t_codeMany t_waiting t_saidMany t_clauses t_newMany t_rounds t_pinFrom t_pinTimes t_lines t_wasTold t_wasBarred t_goesNow t_jamsNow t_queued t_isKept t_prongsOf t_tape)) C .int fl_X12_146 dX12_readsKind_15 0 rfl (by decide +kernel) rfl rfl (Nat.le_of_ble_eq_true rfl) rfl ?_
  refine g_aload_n (pc := 18) C dX12_readsKind_18 rfl 1 rfl ?_
  refine g_bipush (pc := 19) (v := 61) C dX12_readsKind_19 (by decide) ?_
  obtain ⟨u4, hu4, h⟩ := bs h
  refine g_callV (pc := 21) (st := []) (st1 := [.int u4.1]) (ws' := (W_X12_readsKind E o_t a_t t_toldDoors t_barredDoors t_taped u4.2.1 t_length0 u4.2.2 t_number0 t_open t_codeMany t_waiting t_saidMany t_clauses t_newMany t_rounds t_pinFrom t_pinTimes t_lines t_wasTold t_wasBarred t_goesNow t_jamsNow t_queued t_isKept t_prongsOf t_tape)) C mv_X12_takes mi_X12_takes ml_X12_236 (c_X12_takes X.2.1 E o_t a_t t_toldDoors t_barredDoors t_taped v3 t_length0 t_fault t_number0 t_open t_codeMany t_waiting t_saidMany t_clauses t_newMany t_rounds t_pinFrom t_pinTimes t_lines t_wasTold t_wasBarred t_goesNow t_jamsNow t_queued t_isKept t_tape (61 : Int32) u4 hu4) dX12_readsKind_21 (by decide) rfl (Nat.le_of_ble_eq_true rfl) 0 11 rfl rfl [0, 2] rfl (by decide) rfl rfl rfl rfl ?_
  refine g_if_eq (pc := 24) (tgt := 36) C dX12_readsKind_24 (by decide) h (fun h => ?_) (fun h => ?_)
  · refine g_iconst (pc := 36) (v := 0) C dX12_readsKind_36 (by decide) ?_
    cases h
    exact hret _ _ _ dX12_readsKind_37 nb0 rfl
  · refine g_aload_n (pc := 27) C dX12_readsKind_27 rfl 1 rfl ?_
    refine g_bipush (pc := 28) (v := 63) C dX12_readsKind_28 (by decide) ?_
    obtain ⟨u5, hu5, h⟩ := bs h
    refine g_callV (pc := 30) (st := []) (st1 := [.int u5.1]) (ws' := (W_X12_readsKind E o_t a_t t_toldDoors t_barredDoors t_taped u5.2.1 t_length0 u5.2.2.1 u5.2.2.2 t_open t_codeMany t_waiting t_saidMany t_clauses t_newMany t_rounds t_pinFrom t_pinTimes t_lines t_wasTold t_wasBarred t_goesNow t_jamsNow t_queued t_isKept t_prongsOf t_tape)) C mv_X12_readsWithin mi_X12_readsWithin ml_X12_277 (c_X12_readsWithin X.2.1 E o_t a_t t_toldDoors t_barredDoors t_taped u4.2.1 t_length0 u4.2.2 t_number0 t_open t_codeMany t_waiting t_saidMany t_clauses t_newMany t_rounds t_pinFrom t_pinTimes t_lines t_wasTold t_wasBarred t_goesNow t_jamsNow t_queued t_isKept t_tape (63 : Int32) u5 hu5) dX12_readsKind_30 (by decide) rfl (Nat.le_of_ble_eq_true rfl) 0 11 rfl rfl [0, 2] rfl (by decide) rfl rfl rfl rfl ?_
    refine g_if_ne (pc := 33) (tgt := 38) C dX12_readsKind_33 (by decide) h (fun h => ?_) (fun h => ?_)
    · refine g_aload_n (pc := 38) C dX12_readsKind_38 rfl 1 rfl ?_
      refine g_get (pc := 39) C fl_X12_19 dX12_readsKind_39 0 rfl rfl ?_
      refine g_iload_n (pc := 42) C dX12_readsKind_42 rfl 0 rfl ?_
      refine g_aload_n (pc := 43) C dX12_readsKind_43 rfl 1 rfl ?_
      refine g_get (pc := 44) C fl_X12_162 dX12_readsKind_44 0 rfl rfl ?_
      refine g_iast (pc := 47) C dX12_readsKind_47 1 rfl h (fun g6 h => ?_)
      refine g_ws (ws' := (W_X12_readsKind E o_t a_t t_toldDoors t_barredDoors t_taped u5.2.1 t_length0 u5.2.2.1 u5.2.2.2 t_open t_codeMany t_waiting t_saidMany t_clauses t_newMany t_rounds t_pinFrom t_pinTimes t_lines t_wasTold t_wasBarred t_goesNow t_jamsNow t_queued t_isKept g6 t_tape)) rfl ?_
      refine g_iconst (pc := 48) (v := 1) C dX12_readsKind_48 (by decide) ?_
      cases h
      exact hret _ _ _ dX12_readsKind_49 nb1 rfl
    · refine g_iconst (pc := 36) (v := 0) C dX12_readsKind_36 (by decide) ?_
      cases h
      exact hret _ _ _ dX12_readsKind_37 nb0 rfl
abbrev W_X12_readsRooms (E : GE) (O_t : Nat) (a_t : Nat → Nat) (t_toldDoors : Int32) (t_barredDoors : Int32) (t_taped : Int32) (t_place0 : Int32) (t_length0 : Int32) (t_fault : Int32) (t_number0 : Int32) (t_open : Int32) (t_codeMany : Int32) (t_waiting : Int32) (t_saidMany : Int32) (t_clauses : Int32) (t_newMany : Int32) (t_rounds : Int32) (t_pinFrom : Int32) (t_pinTimes : Int32) (t_lines : Int32) (t_wasTold : Int32) (t_wasBarred : Int32) (t_goesNow : Int32) (t_jamsNow : Int32) (t_queued : Int32) (t_isKept : Int32) (t_now : (Nat → Int32)) (t_oneOf : (Nat → Int32)) (t_otherOf : (Nat → Int32)) (t_wardsOf : (Nat → Int32)) (t_tape : (Nat → Int32)) : va_W := [(O_t, ob_X12 a_t t_toldDoors t_barredDoors t_taped t_place0 t_length0 t_fault t_number0 t_open t_codeMany t_waiting t_saidMany t_clauses t_newMany t_rounds t_pinFrom t_pinTimes t_lines t_wasTold t_wasBarred t_goesNow t_jamsNow t_queued t_isKept), (a_t 0, .inl (E.2.1, 166, .inl t_now)), (a_t 4, .inl (E.2.1, 24, .inl t_oneOf)), (a_t 5, .inl (E.2.1, 24, .inl t_otherOf)), (a_t 6, .inl (E.2.1, 24, .inl t_wardsOf)), (a_t 13, .inl (E.2.2.1, 260, .inl t_tape))]
def f_X12_readsRooms (t_toldDoors : Int32) (t_barredDoors : Int32) (t_place0 : Int32) (t_length0 : Int32) (t_fault : Int32) (t_number0 : Int32) (t_now : (Nat → Int32)) (t_oneOf : (Nat → Int32)) (t_otherOf : (Nat → Int32)) (t_wardsOf : (Nat → Int32)) (t_tape : (Nat → Int32)) (x1 : Int32) : Option (Int32 × Int32 × Int32 × Int32 × Int32 × Int32 × (Nat → Int32) × (Nat → Int32) × (Nat → Int32) × (Nat → Int32)) := (f_X12_readsWithin t_place0 t_length0 t_fault t_number0 t_tape (15 : Int32)).bind fun u1 => if u1.1 = 0 then (some ((0 : Int32), t_toldDoors, t_barredDoors, u1.2.1, u1.2.2.1, u1.2.2.2, t_now, t_oneOf, t_otherOf, t_wardsOf)) else (f_X12_takes u1.2.1 t_length0 u1.2.2.1 t_tape (45 : Int32)).bind fun u2 => if u2.1 = 0 then (some ((0 : Int32), t_toldDoors, t_barredDoors, u2.2.1, u2.2.2, u1.2.2.2, t_now, t_oneOf, t_otherOf, t_wardsOf)) else (f_X12_readsWithin u2.2.1 t_length0 u2.2.2 u1.2.2.2 t_tape (15 : Int32)).bind fun u3 => if u3.1 = 0 then (some ((0 : Int32), t_toldDoors, t_barredDoors, u3.2.1, u3.2.2.1, u3.2.2.2, t_now, t_oneOf, t_otherOf, t_wardsOf)) else if u1.2.2.2 = u3.2.2.2 then ((f_X12_wrongAt u3.2.2.1 (6 : Int32) u2.2.1).bind fun u12 => gb u12.1 <| some (u12.1, t_toldDoors, t_barredDoors, u3.2.1, u12.2, u3.2.2.2, t_now, t_oneOf, t_otherOf, t_wardsOf)) else (f_X12_takes u3.2.1 t_length0 u3.2.2.1 t_tape (61 : Int32)).bind fun u4 => if u4.1 = 0 then (some ((0 : Int32), t_toldDoors, t_barredDoors, u4.2.1, u4.2.2, u3.2.2.2, t_now, t_oneOf, t_otherOf, t_wardsOf)) else (f_X12_readsWithin u4.2.1 t_length0 u4.2.2 u3.2.2.2 t_tape (63 : Int32)).bind fun u5 => if u5.1 = 0 then (some ((0 : Int32), t_toldDoors, t_barredDoors, u5.2.1, u5.2.2.1, u5.2.2.2, t_now, t_oneOf, t_otherOf, t_wardsOf)) else nm (t_toldDoors ||| ((1 : Int32) <<< (x1 &&& 31))) fun v6 => nm (t_barredDoors &&& (((1 : Int32) <<< (x1 &&& 31)) ^^^ (-1 : Int32))) fun v7 => wr t_oneOf 24 x1 u1.2.2.2 fun g8 => wr t_otherOf 24 x1 u3.2.2.2 fun g9 => wr t_wardsOf 24 x1 u5.2.2.2 fun g10 => wr t_now 166 ((0 : Int32) + x1) (0 : Int32) fun g11 => some ((1 : Int32), v6, v7, u5.2.1, u5.2.2.1, u5.2.2.2, g11, g8, g9, g10)
theorem dX12_readsRooms_0 : decode cX12_readsRooms 0 = .ok (.aload_n 0, 1) := by decide +kernel
theorem dX12_readsRooms_1 : decode cX12_readsRooms 1 = .ok (.bipush 15, 2) := by decide +kernel
theorem dX12_readsRooms_3 : decode cX12_readsRooms 3 = .ok (.invokevirtual 277, 3) := by decide +kernel
theorem dX12_readsRooms_6 : decode cX12_readsRooms 6 = .ok (.ifCond .ne 5, 3) := by decide +kernel
theorem dX12_readsRooms_9 : decode cX12_readsRooms 9 = .ok (.iconst 0, 1) := by decide +kernel
theorem dX12_readsRooms_10 : decode cX12_readsRooms 10 = .ok (.ireturn, 1) := by decide +kernel
theorem dX12_readsRooms_11 : decode cX12_readsRooms 11 = .ok (.aload_n 0, 1) := by decide +kernel
theorem dX12_readsRooms_12 : decode cX12_readsRooms 12 = .ok (.getfield 162, 3) := by decide +kernel
theorem dX12_readsRooms_15 : decode cX12_readsRooms 15 = .ok (.istore_n 2, 1) := by decide +kernel
theorem dX12_readsRooms_16 : decode cX12_readsRooms 16 = .ok (.aload_n 0, 1) := by decide +kernel
theorem dX12_readsRooms_17 : decode cX12_readsRooms 17 = .ok (.bipush 45, 2) := by decide +kernel
theorem dX12_readsRooms_19 : decode cX12_readsRooms 19 = .ok (.invokevirtual 236, 3) := by decide +kernel
theorem dX12_readsRooms_22 : decode cX12_readsRooms 22 = .ok (.ifCond .ne 5, 3) := by decide +kernel
theorem dX12_readsRooms_25 : decode cX12_readsRooms 25 = .ok (.iconst 0, 1) := by decide +kernel
theorem dX12_readsRooms_26 : decode cX12_readsRooms 26 = .ok (.ireturn, 1) := by decide +kernel
theorem dX12_readsRooms_27 : decode cX12_readsRooms 27 = .ok (.aload_n 0, 1) := by decide +kernel
theorem dX12_readsRooms_28 : decode cX12_readsRooms 28 = .ok (.getfield 146, 3) := by decide +kernel
theorem dX12_readsRooms_31 : decode cX12_readsRooms 31 = .ok (.istore_n 3, 1) := by decide +kernel
theorem dX12_readsRooms_32 : decode cX12_readsRooms 32 = .ok (.aload_n 0, 1) := by decide +kernel
theorem dX12_readsRooms_33 : decode cX12_readsRooms 33 = .ok (.bipush 15, 2) := by decide +kernel
theorem dX12_readsRooms_35 : decode cX12_readsRooms 35 = .ok (.invokevirtual 277, 3) := by decide +kernel
theorem dX12_readsRooms_38 : decode cX12_readsRooms 38 = .ok (.ifCond .ne 5, 3) := by decide +kernel
theorem dX12_readsRooms_41 : decode cX12_readsRooms 41 = .ok (.iconst 0, 1) := by decide +kernel
theorem dX12_readsRooms_42 : decode cX12_readsRooms 42 = .ok (.ireturn, 1) := by decide +kernel
theorem dX12_readsRooms_43 : decode cX12_readsRooms 43 = .ok (.aload_n 0, 1) := by decide +kernel
theorem dX12_readsRooms_44 : decode cX12_readsRooms 44 = .ok (.getfield 162, 3) := by decide +kernel
theorem dX12_readsRooms_47 : decode cX12_readsRooms 47 = .ok (.istore 4, 2) := by decide +kernel
theorem dX12_readsRooms_49 : decode cX12_readsRooms 49 = .ok (.iload_n 2, 1) := by decide +kernel
theorem dX12_readsRooms_50 : decode cX12_readsRooms 50 = .ok (.iload 4, 2) := by decide +kernel
theorem dX12_readsRooms_52 : decode cX12_readsRooms 52 = .ok (.if_icmp .ne 11, 3) := by decide +kernel
theorem dX12_readsRooms_55 : decode cX12_readsRooms 55 = .ok (.aload_n 0, 1) := by decide +kernel
theorem dX12_readsRooms_56 : decode cX12_readsRooms 56 = .ok (.bipush 6, 2) := by decide +kernel
theorem dX12_readsRooms_58 : decode cX12_readsRooms 58 = .ok (.iload_n 3, 1) := by decide +kernel
theorem dX12_readsRooms_59 : decode cX12_readsRooms 59 = .ok (.invokevirtual 159, 3) := by decide +kernel
theorem dX12_readsRooms_62 : decode cX12_readsRooms 62 = .ok (.ireturn, 1) := by decide +kernel
theorem dX12_readsRooms_63 : decode cX12_readsRooms 63 = .ok (.aload_n 0, 1) := by decide +kernel
theorem dX12_readsRooms_64 : decode cX12_readsRooms 64 = .ok (.bipush 61, 2) := by decide +kernel
theorem dX12_readsRooms_66 : decode cX12_readsRooms 66 = .ok (.invokevirtual 236, 3) := by decide +kernel
theorem dX12_readsRooms_69 : decode cX12_readsRooms 69 = .ok (.ifCond .eq 12, 3) := by decide +kernel
theorem dX12_readsRooms_72 : decode cX12_readsRooms 72 = .ok (.aload_n 0, 1) := by decide +kernel
theorem dX12_readsRooms_73 : decode cX12_readsRooms 73 = .ok (.bipush 63, 2) := by decide +kernel
theorem dX12_readsRooms_75 : decode cX12_readsRooms 75 = .ok (.invokevirtual 277, 3) := by decide +kernel
theorem dX12_readsRooms_78 : decode cX12_readsRooms 78 = .ok (.ifCond .ne 5, 3) := by decide +kernel
theorem dX12_readsRooms_81 : decode cX12_readsRooms 81 = .ok (.iconst 0, 1) := by decide +kernel
theorem dX12_readsRooms_82 : decode cX12_readsRooms 82 = .ok (.ireturn, 1) := by decide +kernel
theorem dX12_readsRooms_83 : decode cX12_readsRooms 83 = .ok (.aload_n 0, 1) := by decide +kernel
theorem dX12_readsRooms_84 : decode cX12_readsRooms 84 = .ok (.aload_n 0, 1) := by decide +kernel
theorem dX12_readsRooms_85 : decode cX12_readsRooms 85 = .ok (.getfield 121, 3) := by decide +kernel
theorem dX12_readsRooms_88 : decode cX12_readsRooms 88 = .ok (.iconst 1, 1) := by decide +kernel
theorem dX12_readsRooms_89 : decode cX12_readsRooms 89 = .ok (.iload_n 1, 1) := by decide +kernel
theorem dX12_readsRooms_90 : decode cX12_readsRooms 90 = .ok (.ishl, 1) := by decide +kernel
theorem dX12_readsRooms_91 : decode cX12_readsRooms 91 = .ok (.ior, 1) := by decide +kernel
theorem dX12_readsRooms_92 : decode cX12_readsRooms 92 = .ok (.putfield 121, 3) := by decide +kernel
theorem dX12_readsRooms_95 : decode cX12_readsRooms 95 = .ok (.aload_n 0, 1) := by decide +kernel
theorem dX12_readsRooms_96 : decode cX12_readsRooms 96 = .ok (.aload_n 0, 1) := by decide +kernel
theorem dX12_readsRooms_97 : decode cX12_readsRooms 97 = .ok (.getfield 133, 3) := by decide +kernel
theorem dX12_readsRooms_100 : decode cX12_readsRooms 100 = .ok (.iconst 1, 1) := by decide +kernel
theorem dX12_readsRooms_101 : decode cX12_readsRooms 101 = .ok (.iload_n 1, 1) := by decide +kernel
theorem dX12_readsRooms_102 : decode cX12_readsRooms 102 = .ok (.ishl, 1) := by decide +kernel
theorem dX12_readsRooms_103 : decode cX12_readsRooms 103 = .ok (.iconst (-1), 1) := by decide +kernel
theorem dX12_readsRooms_104 : decode cX12_readsRooms 104 = .ok (.ixor, 1) := by decide +kernel
theorem dX12_readsRooms_105 : decode cX12_readsRooms 105 = .ok (.iand, 1) := by decide +kernel
theorem dX12_readsRooms_106 : decode cX12_readsRooms 106 = .ok (.putfield 133, 3) := by decide +kernel
theorem dX12_readsRooms_109 : decode cX12_readsRooms 109 = .ok (.aload_n 0, 1) := by decide +kernel
theorem dX12_readsRooms_110 : decode cX12_readsRooms 110 = .ok (.getfield 22, 3) := by decide +kernel
theorem dX12_readsRooms_113 : decode cX12_readsRooms 113 = .ok (.iload_n 1, 1) := by decide +kernel
theorem dX12_readsRooms_114 : decode cX12_readsRooms 114 = .ok (.iload_n 2, 1) := by decide +kernel
theorem dX12_readsRooms_115 : decode cX12_readsRooms 115 = .ok (.iastore, 1) := by decide +kernel
theorem dX12_readsRooms_116 : decode cX12_readsRooms 116 = .ok (.aload_n 0, 1) := by decide +kernel
theorem dX12_readsRooms_117 : decode cX12_readsRooms 117 = .ok (.getfield 25, 3) := by decide +kernel
theorem dX12_readsRooms_120 : decode cX12_readsRooms 120 = .ok (.iload_n 1, 1) := by decide +kernel
theorem dX12_readsRooms_121 : decode cX12_readsRooms 121 = .ok (.iload 4, 2) := by decide +kernel
theorem dX12_readsRooms_123 : decode cX12_readsRooms 123 = .ok (.iastore, 1) := by decide +kernel
theorem dX12_readsRooms_124 : decode cX12_readsRooms 124 = .ok (.aload_n 0, 1) := by decide +kernel
theorem dX12_readsRooms_125 : decode cX12_readsRooms 125 = .ok (.getfield 28, 3) := by decide +kernel
theorem dX12_readsRooms_128 : decode cX12_readsRooms 128 = .ok (.iload_n 1, 1) := by decide +kernel
theorem dX12_readsRooms_129 : decode cX12_readsRooms 129 = .ok (.aload_n 0, 1) := by decide +kernel
theorem dX12_readsRooms_130 : decode cX12_readsRooms 130 = .ok (.getfield 162, 3) := by decide +kernel
theorem dX12_readsRooms_133 : decode cX12_readsRooms 133 = .ok (.iastore, 1) := by decide +kernel
theorem dX12_readsRooms_134 : decode cX12_readsRooms 134 = .ok (.aload_n 0, 1) := by decide +kernel
theorem dX12_readsRooms_135 : decode cX12_readsRooms 135 = .ok (.getfield 7, 3) := by decide +kernel
theorem dX12_readsRooms_138 : decode cX12_readsRooms 138 = .ok (.iconst 0, 1) := by decide +kernel
theorem dX12_readsRooms_139 : decode cX12_readsRooms 139 = .ok (.iload_n 1, 1) := by decide +kernel
theorem dX12_readsRooms_140 : decode cX12_readsRooms 140 = .ok (.iadd, 1) := by decide +kernel
theorem dX12_readsRooms_141 : decode cX12_readsRooms 141 = .ok (.iconst 0, 1) := by decide +kernel
theorem dX12_readsRooms_142 : decode cX12_readsRooms 142 = .ok (.iastore, 1) := by decide +kernel
theorem dX12_readsRooms_143 : decode cX12_readsRooms 143 = .ok (.iconst 1, 1) := by decide +kernel
theorem dX12_readsRooms_144 : decode cX12_readsRooms 144 = .ok (.ireturn, 1) := by decide +kernel
set_option maxHeartbeats 4000000 in
set_option maxRecDepth 100000 in
theorem c_X12_readsRooms (l : Launch) (E : GE) (o_t : Nat) (a_t : Nat → Nat) (t_toldDoors : Int32) (t_barredDoors : Int32) (t_taped : Int32) (t_place0 : Int32) (t_length0 : Int32) (t_fault : Int32) (t_number0 : Int32) (t_open : Int32) (t_codeMany : Int32) (t_waiting : Int32) (t_saidMany : Int32) (t_clauses : Int32) (t_newMany : Int32) (t_rounds : Int32) (t_pinFrom : Int32) (t_pinTimes : Int32) (t_lines : Int32) (t_wasTold : Int32) (t_wasBarred : Int32) (t_goesNow : Int32) (t_jamsNow : Int32) (t_queued : Int32) (t_isKept : Int32) (t_now : (Nat → Int32)) (t_oneOf : (Nat → Int32)) (t_otherOf : (Nat → Int32)) (t_wardsOf : (Nat → Int32)) (t_tape : (Nat → Int32)) (x1 : Int32) (r : Int32 × Int32 × Int32 × Int32 × Int32 × Int32 × (Nat → Int32) × (Nat → Int32) × (Nat → Int32) × (Nat → Int32)) (h : f_X12_readsRooms t_toldDoors t_barredDoors t_place0 t_length0 t_fault t_number0 t_now t_oneOf t_otherOf t_wardsOf t_tape x1 = some r) : Cn l E yX12_readsRooms cX12_readsRooms 5 (some .boolean) 4 0 0 [.ref o_t, .int x1] (W_X12_readsRooms E o_t a_t t_toldDoors t_barredDoors t_taped t_place0 t_length0 t_fault t_number0 t_open t_codeMany t_waiting t_saidMany t_clauses t_newMany t_rounds t_pinFrom t_pinTimes t_lines t_wasTold t_wasBarred t_goesNow t_jamsNow t_queued t_isKept t_now t_oneOf t_otherOf t_wardsOf t_tape) (fun w => w = (W_X12_readsRooms E o_t a_t r.2.1 r.2.2.1 t_taped r.2.2.2.1 t_length0 r.2.2.2.2.1 r.2.2.2.2.2.1 t_open t_codeMany t_waiting t_saidMany t_clauses t_newMany t_rounds t_pinFrom t_pinTimes t_lines t_wasTold t_wasBarred t_goesNow t_jamsNow t_queued t_isKept r.2.2.2.2.2.2.1 r.2.2.2.2.2.2.2.1 r.2.2.2.2.2.2.2.2.1 r.2.2.2.2.2.2.2.2.2 t_tape)) (some (.int r.1)) := by
  refine Cn.ofI (by decide +kernel) (Nat.le_of_ble_eq_true rfl) (fun X hX hR C hret => ?_)
  subst hX
  show Gx X E 0 0 (W_X12_readsRooms E o_t a_t t_toldDoors t_barredDoors t_taped t_place0 t_length0 t_fault t_number0 t_open t_codeMany t_waiting t_saidMany t_clauses t_newMany t_rounds t_pinFrom t_pinTimes t_lines t_wasTold t_wasBarred t_goesNow t_jamsNow t_queued t_isKept t_now t_oneOf t_otherOf t_wardsOf t_tape) 0 [(0, .ref o_t), (1, .int x1)] []
  unfold f_X12_readsRooms at h
  refine g_aload_n (pc := 0) C dX12_readsRooms_0 rfl 0 rfl ?_
  refine g_bipush (pc := 1) (v := 15) C dX12_readsRooms_1 (by decide) ?_
  obtain ⟨u1, hu1, h⟩ := bs h
  refine g_callV (pc := 3) (st := []) (st1 := [.int u1.1]) (ws' := (W_X12_readsRooms E o_t a_t t_toldDoors t_barredDoors t_taped u1.2.1 t_length0 u1.2.2.1 u1.2.2.2 t_open t_codeMany t_waiting t_saidMany t_clauses t_newMany t_rounds t_pinFrom t_pinTimes t_lines t_wasTold t_wasBarred t_goesNow t_jamsNow t_queued t_isKept t_now t_oneOf t_otherOf t_wardsOf t_tape)) C mv_X12_readsWithin mi_X12_readsWithin ml_X12_277 (c_X12_readsWithin X.2.1 E o_t a_t t_toldDoors t_barredDoors t_taped t_place0 t_length0 t_fault t_number0 t_open t_codeMany t_waiting t_saidMany t_clauses t_newMany t_rounds t_pinFrom t_pinTimes t_lines t_wasTold t_wasBarred t_goesNow t_jamsNow t_queued t_isKept t_tape (15 : Int32) u1 hu1) dX12_readsRooms_3 (by decide) rfl (Nat.le_of_ble_eq_true rfl) 0 11 rfl rfl [0, 5] rfl (by decide) rfl rfl rfl rfl ?_
  refine g_if_ne (pc := 6) (tgt := 11) C dX12_readsRooms_6 (by decide) h (fun h => ?_) (fun h => ?_)
  · refine g_aload_n (pc := 11) C dX12_readsRooms_11 rfl 0 rfl ?_
    refine g_get (pc := 12) C fl_X12_162 dX12_readsRooms_12 0 rfl rfl ?_
    refine g_istore_n (pc := 15) (lv' := [(2, .int u1.2.2.2), (0, .ref o_t), (1, .int x1)]) C dX12_readsRooms_15 rfl (by decide) rfl ?_
    refine g_aload_n (pc := 16) C dX12_readsRooms_16 rfl 1 rfl ?_
    refine g_bipush (pc := 17) (v := 45) C dX12_readsRooms_17 (by decide) ?_
    obtain ⟨u2, hu2, h⟩ := bs h
    refine g_callV (pc := 19) (st := []) (st1 := [.int u2.1]) (ws' := (W_X12_readsRooms E o_t a_t t_toldDoors t_barredDoors t_taped u2.2.1 t_length0 u2.2.2 u1.2.2.2 t_open t_codeMany t_waiting t_saidMany t_clauses t_newMany t_rounds t_pinFrom t_pinTimes t_lines t_wasTold t_wasBarred t_goesNow t_jamsNow t_queued t_isKept t_now t_oneOf t_otherOf t_wardsOf t_tape)) C mv_X12_takes mi_X12_takes ml_X12_236 (c_X12_takes X.2.1 E o_t a_t t_toldDoors t_barredDoors t_taped u1.2.1 t_length0 u1.2.2.1 u1.2.2.2 t_open t_codeMany t_waiting t_saidMany t_clauses t_newMany t_rounds t_pinFrom t_pinTimes t_lines t_wasTold t_wasBarred t_goesNow t_jamsNow t_queued t_isKept t_tape (45 : Int32) u2 hu2) dX12_readsRooms_19 (by decide) rfl (Nat.le_of_ble_eq_true rfl) 0 11 rfl rfl [0, 5] rfl (by decide) rfl rfl rfl rfl ?_
    refine g_if_ne (pc := 22) (tgt := 27) C dX12_readsRooms_22 (by decide) h (fun h => ?_) (fun h => ?_)
    · refine g_aload_n (pc := 27) C dX12_readsRooms_27 rfl 1 rfl ?_
      refine g_get (pc := 28) C fl_X12_146 dX12_readsRooms_28 0 rfl rfl ?_
      refine g_istore_n (pc := 31) (lv' := [(3, .int u2.2.1), (2, .int u1.2.2.2), (0, .ref o_t), (1, .int x1)]) C dX12_readsRooms_31 rfl (by decide) rfl ?_
      refine g_aload_n (pc := 32) C dX12_readsRooms_32 rfl 2 rfl ?_
      refine g_bipush (pc := 33) (v := 15) C dX12_readsRooms_33 (by decide) ?_
      obtain ⟨u3, hu3, h⟩ := bs h
      refine g_callV (pc := 35) (st := []) (st1 := [.int u3.1]) (ws' := (W_X12_readsRooms E o_t a_t t_toldDoors t_barredDoors t_taped u3.2.1 t_length0 u3.2.2.1 u3.2.2.2 t_open t_codeMany t_waiting t_saidMany t_clauses t_newMany t_rounds t_pinFrom t_pinTimes t_lines t_wasTold t_wasBarred t_goesNow t_jamsNow t_queued t_isKept t_now t_oneOf t_otherOf t_wardsOf t_tape)) C mv_X12_readsWithin mi_X12_readsWithin ml_X12_277 (c_X12_readsWithin X.2.1 E o_t a_t t_toldDoors t_barredDoors t_taped u2.2.1 t_length0 u2.2.2 u1.2.2.2 t_open t_codeMany t_waiting t_saidMany t_clauses t_newMany t_rounds t_pinFrom t_pinTimes t_lines t_wasTold t_wasBarred t_goesNow t_jamsNow t_queued t_isKept t_tape (15 : Int32) u3 hu3) dX12_readsRooms_35 (by decide) rfl (Nat.le_of_ble_eq_true rfl) 0 11 rfl rfl [0, 5] rfl (by decide) rfl rfl rfl rfl ?_
      refine g_if_ne (pc := 38) (tgt := 43) C dX12_readsRooms_38 (by decide) h (fun h => ?_) (fun h => ?_)
      · refine g_aload_n (pc := 43) C dX12_readsRooms_43 rfl 2 rfl ?_
        refine g_get (pc := 44) C fl_X12_162 dX12_readsRooms_44 0 rfl rfl ?_
        refine g_istore (pc := 47) (lv' := [(4, .int u3.2.2.2), (3, .int u2.2.1), (2, .int u1.2.2.2), (0, .ref o_t), (1, .int x1)]) C dX12_readsRooms_47 (by decide) rfl ?_
        refine g_iload_n (pc := 49) C dX12_readsRooms_49 rfl 2 rfl ?_
        refine g_iload (pc := 50) C dX12_readsRooms_50 0 rfl ?_
        refine g_icmp_ne (pc := 52) (tgt := 63) C dX12_readsRooms_52 (by decide) h (fun h => ?_) (fun h => ?_)
        · refine g_aload_n (pc := 63) C dX12_readsRooms_63 rfl 3 rfl ?_
          refine g_bipush (pc := 64) (v := 61) C dX12_readsRooms_64 (by decide) ?_
          obtain ⟨u4, hu4, h⟩ := bs h
          refine g_callV (pc := 66) (st := []) (st1 := [.int u4.1]) (ws' := (W_X12_readsRooms E o_t a_t t_toldDoors t_barredDoors t_taped u4.2.1 t_length0 u4.2.2 u3.2.2.2 t_open t_codeMany t_waiting t_saidMany t_clauses t_newMany t_rounds t_pinFrom t_pinTimes t_lines t_wasTold t_wasBarred t_goesNow t_jamsNow t_queued t_isKept t_now t_oneOf t_otherOf t_wardsOf t_tape)) C mv_X12_takes mi_X12_takes ml_X12_236 (c_X12_takes X.2.1 E o_t a_t t_toldDoors t_barredDoors t_taped u3.2.1 t_length0 u3.2.2.1 u3.2.2.2 t_open t_codeMany t_waiting t_saidMany t_clauses t_newMany t_rounds t_pinFrom t_pinTimes t_lines t_wasTold t_wasBarred t_goesNow t_jamsNow t_queued t_isKept t_tape (61 : Int32) u4 hu4) dX12_readsRooms_66 (by decide) rfl (Nat.le_of_ble_eq_true rfl) 0 11 rfl rfl [0, 5] rfl (by decide) rfl rfl rfl rfl ?_
          refine g_if_eq (pc := 69) (tgt := 81) C dX12_readsRooms_69 (by decide) h (fun h => ?_) (fun h => ?_)
          · refine g_iconst (pc := 81) (v := 0) C dX12_readsRooms_81 (by decide) ?_
            cases h
            exact hret _ _ _ dX12_readsRooms_82 nb0 rfl
          · refine g_aload_n (pc := 72) C dX12_readsRooms_72 rfl 3 rfl ?_
            refine g_bipush (pc := 73) (v := 63) C dX12_readsRooms_73 (by decide) ?_
            obtain ⟨u5, hu5, h⟩ := bs h
            refine g_callV (pc := 75) (st := []) (st1 := [.int u5.1]) (ws' := (W_X12_readsRooms E o_t a_t t_toldDoors t_barredDoors t_taped u5.2.1 t_length0 u5.2.2.1 u5.2.2.2 t_open t_codeMany t_waiting t_saidMany t_clauses t_newMany t_rounds t_pinFrom t_pinTimes t_lines t_wasTold t_wasBarred t_goesNow t_jamsNow t_queued t_isKept t_now t_oneOf t_otherOf t_wardsOf t_tape)) C mv_X12_readsWithin mi_X12_readsWithin ml_X12_277 (c_X12_readsWithin X.2.1 E o_t a_t t_toldDoors t_barredDoors t_taped u4.2.1 t_length0 u4.2.2 u3.2.2.2 t_open t_codeMany t_waiting t_saidMany t_clauses t_newMany t_rounds t_pinFrom t_pinTimes t_lines t_wasTold t_wasBarred t_goesNow t_jamsNow t_queued t_isKept t_tape (63 : Int32) u5 hu5) dX12_readsRooms_75 (by decide) rfl (Nat.le_of_ble_eq_true rfl) 0 11 rfl rfl [0, 5] rfl (by decide) rfl rfl rfl rfl ?_
            refine g_if_ne (pc := 78) (tgt := 83) C dX12_readsRooms_78 (by decide) h (fun h => ?_) (fun h => ?_)
            · refine g_aload_n (pc := 83) C dX12_readsRooms_83 rfl 3 rfl ?_
              refine g_aload_n (pc := 84) C dX12_readsRooms_84 rfl 3 rfl ?_
              refine g_get (pc := 85) C fl_X12_121 dX12_readsRooms_85 0 rfl rfl ?_
              refine g_iconst (pc := 88) (v := 1) C dX12_readsRooms_88 (by decide) ?_
              refine g_iload_n (pc := 89) C dX12_readsRooms_89 rfl 4 rfl ?_
              refine g_ishl (pc := 90) C dX12_readsRooms_90 ?_
              refine g_ior (pc := 91) C dX12_readsRooms_91 ?_
              refine g_nm h (fun v6 h => ?_)
              refine g_put (pc := 92) (ws' := (W_X12_readsRooms E o_t a_t v6 t_barredDoors t_taped u5.2.1 t_length0 u5.2.2.1 u5.2.2.2 t_open t_codeMany t_waiting t_saidMany t_clauses t_newMany t_rounds t_pinFrom t_pinTimes t_lines t_wasTold t_wasBarred t_goesNow t_jamsNow t_queued t_isKept t_now t_oneOf t_otherOf t_wardsOf t_tape)) C .int fl_X12_121 dX12_readsRooms_92 0 rfl (by decide +kernel) rfl rfl (Nat.le_of_ble_eq_true rfl) rfl ?_
              refine g_aload_n (pc := 95) C dX12_readsRooms_95 rfl 3 rfl ?_
              refine g_aload_n (pc := 96) C dX12_readsRooms_96 rfl 3 rfl ?_
              refine g_get (pc := 97) C fl_X12_133 dX12_readsRooms_97 0 rfl rfl ?_
              refine g_iconst (pc := 100) (v := 1) C dX12_readsRooms_100 (by decide) ?_
              refine g_iload_n (pc := 101) C dX12_readsRooms_101 rfl 4 rfl ?_
              refine g_ishl (pc := 102) C dX12_readsRooms_102 ?_
              refine g_iconst (pc := 103) (v := -1) C dX12_readsRooms_103 (by decide) ?_
              refine g_ixor (pc := 104) C dX12_readsRooms_104 ?_
              refine g_iand (pc := 105) C dX12_readsRooms_105 ?_
              refine g_nm h (fun v7 h => ?_)
              refine g_put (pc := 106) (ws' := (W_X12_readsRooms E o_t a_t v6 v7 t_taped u5.2.1 t_length0 u5.2.2.1 u5.2.2.2 t_open t_codeMany t_waiting t_saidMany t_clauses t_newMany t_rounds t_pinFrom t_pinTimes t_lines t_wasTold t_wasBarred t_goesNow t_jamsNow t_queued t_isKept t_now t_oneOf t_otherOf t_wardsOf t_tape)) C .int fl_X12_133 dX12_readsRooms_106 0 rfl (by decide +kernel) rfl rfl (Nat.le_of_ble_eq_true rfl) rfl ?_
              refine g_aload_n (pc := 109) C dX12_readsRooms_109 rfl 3 rfl ?_
              refine g_get (pc := 110) C fl_X12_22 dX12_readsRooms_110 0 rfl rfl ?_
              refine g_iload_n (pc := 113) C dX12_readsRooms_113 rfl 4 rfl ?_
              refine g_iload_n (pc := 114) C dX12_readsRooms_114 rfl 2 rfl ?_
              refine g_iast (pc := 115) C dX12_readsRooms_115 2 rfl h (fun g8 h => ?_)
              refine g_ws (ws' := (W_X12_readsRooms E o_t a_t v6 v7 t_taped u5.2.1 t_length0 u5.2.2.1 u5.2.2.2 t_open t_codeMany t_waiting t_saidMany t_clauses t_newMany t_rounds t_pinFrom t_pinTimes t_lines t_wasTold t_wasBarred t_goesNow t_jamsNow t_queued t_isKept t_now g8 t_otherOf t_wardsOf t_tape)) rfl ?_
              refine g_aload_n (pc := 116) C dX12_readsRooms_116 rfl 3 rfl ?_
              refine g_get (pc := 117) C fl_X12_25 dX12_readsRooms_117 0 rfl rfl ?_
              refine g_iload_n (pc := 120) C dX12_readsRooms_120 rfl 4 rfl ?_
              refine g_iload (pc := 121) C dX12_readsRooms_121 0 rfl ?_
              refine g_iast (pc := 123) C dX12_readsRooms_123 3 rfl h (fun g9 h => ?_)
              refine g_ws (ws' := (W_X12_readsRooms E o_t a_t v6 v7 t_taped u5.2.1 t_length0 u5.2.2.1 u5.2.2.2 t_open t_codeMany t_waiting t_saidMany t_clauses t_newMany t_rounds t_pinFrom t_pinTimes t_lines t_wasTold t_wasBarred t_goesNow t_jamsNow t_queued t_isKept t_now g8 g9 t_wardsOf t_tape)) rfl ?_
              refine g_aload_n (pc := 124) C dX12_readsRooms_124 rfl 3 rfl ?_
              refine g_get (pc := 125) C fl_X12_28 dX12_readsRooms_125 0 rfl rfl ?_
              refine g_iload_n (pc := 128) C dX12_readsRooms_128 rfl 4 rfl ?_
              refine g_aload_n (pc := 129) C dX12_readsRooms_129 rfl 3 rfl ?_
              refine g_get (pc := 130) C fl_X12_162 dX12_readsRooms_130 0 rfl rfl ?_
              refine g_iast (pc := 133) C dX12_readsRooms_133 4 rfl h (fun g10 h => ?_)
              refine g_ws (ws' := (W_X12_readsRooms E o_t a_t v6 v7 t_taped u5.2.1 t_length0 u5.2.2.1 u5.2.2.2 t_open t_codeMany t_waiting t_saidMany t_clauses t_newMany t_rounds t_pinFrom t_pinTimes t_lines t_wasTold t_wasBarred t_goesNow t_jamsNow t_queued t_isKept t_now g8 g9 g10 t_tape)) rfl ?_
              refine g_aload_n (pc := 134) C dX12_readsRooms_134 rfl 3 rfl ?_
              refine g_get (pc := 135) C fl_X12_7 dX12_readsRooms_135 0 rfl rfl ?_
              refine g_iconst (pc := 138) (v := 0) C dX12_readsRooms_138 (by decide) ?_
              refine g_iload_n (pc := 139) C dX12_readsRooms_139 rfl 4 rfl ?_
              refine g_iadd (pc := 140) C dX12_readsRooms_140 ?_
              refine g_iconst (pc := 141) (v := 0) C dX12_readsRooms_141 (by decide) ?_
              refine g_iast (pc := 142) C dX12_readsRooms_142 1 rfl h (fun g11 h => ?_)
              refine g_ws (ws' := (W_X12_readsRooms E o_t a_t v6 v7 t_taped u5.2.1 t_length0 u5.2.2.1 u5.2.2.2 t_open t_codeMany t_waiting t_saidMany t_clauses t_newMany t_rounds t_pinFrom t_pinTimes t_lines t_wasTold t_wasBarred t_goesNow t_jamsNow t_queued t_isKept g11 g8 g9 g10 t_tape)) rfl ?_
              refine g_iconst (pc := 143) (v := 1) C dX12_readsRooms_143 (by decide) ?_
              cases h
              exact hret _ _ _ dX12_readsRooms_144 nb1 rfl
            · refine g_iconst (pc := 81) (v := 0) C dX12_readsRooms_81 (by decide) ?_
              cases h
              exact hret _ _ _ dX12_readsRooms_82 nb0 rfl
        · refine g_aload_n (pc := 55) C dX12_readsRooms_55 rfl 3 rfl ?_
          refine g_bipush (pc := 56) (v := 6) C dX12_readsRooms_56 (by decide) ?_
          refine g_iload_n (pc := 58) C dX12_readsRooms_58 rfl 1 rfl ?_
          obtain ⟨u12, hu12, h⟩ := bs h
          refine g_callV (pc := 59) (st := []) (st1 := [.int u12.1]) (ws' := (W_X12_readsRooms E o_t a_t t_toldDoors t_barredDoors t_taped u3.2.1 t_length0 u12.2 u3.2.2.2 t_open t_codeMany t_waiting t_saidMany t_clauses t_newMany t_rounds t_pinFrom t_pinTimes t_lines t_wasTold t_wasBarred t_goesNow t_jamsNow t_queued t_isKept t_now t_oneOf t_otherOf t_wardsOf t_tape)) C mv_X12_wrongAt mi_X12_wrongAt ml_X12_159 (c_X12_wrongAt X.2.1 E o_t a_t t_toldDoors t_barredDoors t_taped u3.2.1 t_length0 u3.2.2.1 u3.2.2.2 t_open t_codeMany t_waiting t_saidMany t_clauses t_newMany t_rounds t_pinFrom t_pinTimes t_lines t_wasTold t_wasBarred t_goesNow t_jamsNow t_queued t_isKept (6 : Int32) u2.2.1 u12 hu12) dX12_readsRooms_59 (by decide) rfl (Nat.le_of_ble_eq_true rfl) 0 11 rfl rfl [0] rfl (by decide) rfl rfl rfl rfl ?_
          obtain ⟨hgb, h⟩ := gb_is h
          cases h
          exact hret _ _ _ dX12_readsRooms_62 hgb rfl
      · refine g_iconst (pc := 41) (v := 0) C dX12_readsRooms_41 (by decide) ?_
        cases h
        exact hret _ _ _ dX12_readsRooms_42 nb0 rfl
    · refine g_iconst (pc := 25) (v := 0) C dX12_readsRooms_25 (by decide) ?_
      cases h
      exact hret _ _ _ dX12_readsRooms_26 nb0 rfl
  · refine g_iconst (pc := 9) (v := 0) C dX12_readsRooms_9 (by decide) ?_
    cases h
    exact hret _ _ _ dX12_readsRooms_10 nb0 rfl
abbrev W_X12_chosenBy (E : GE) (O_t : Nat) (a_t : Nat → Nat) (t_toldDoors : Int32) (t_barredDoors : Int32) (t_taped : Int32) (t_place0 : Int32) (t_length0 : Int32) (t_fault : Int32) (t_number0 : Int32) (t_open : Int32) (t_codeMany : Int32) (t_waiting : Int32) (t_saidMany : Int32) (t_clauses : Int32) (t_newMany : Int32) (t_rounds : Int32) (t_pinFrom : Int32) (t_pinTimes : Int32) (t_lines : Int32) (t_wasTold : Int32) (t_wasBarred : Int32) (t_goesNow : Int32) (t_jamsNow : Int32) (t_queued : Int32) (t_isKept : Int32) (t_now : (Nat → Int32)) (t_prongsOf : (Nat → Int32)) (t_oneOf : (Nat → Int32)) (t_otherOf : (Nat → Int32)) (t_wardsOf : (Nat → Int32)) (t_codes : (Nat → Int32)) (t_clauseOf : (Nat → Int32)) (t_codeFrom : (Nat → Int32)) (t_codeHalf : (Nat → Int32)) (t_codeTo : (Nat → Int32)) (t_stack : (Nat → Int32)) (t_facts : (Nat → Int32)) : va_W := [(O_t, ob_X12 a_t t_toldDoors t_barredDoors t_taped t_place0 t_length0 t_fault t_number0 t_open t_codeMany t_waiting t_saidMany t_clauses t_newMany t_rounds t_pinFrom t_pinTimes t_lines t_wasTold t_wasBarred t_goesNow t_jamsNow t_queued t_isKept), (a_t 0, .inl (E.2.1, 166, .inl t_now)), (a_t 3, .inl (E.2.1, 6, .inl t_prongsOf)), (a_t 4, .inl (E.2.1, 24, .inl t_oneOf)), (a_t 5, .inl (E.2.1, 24, .inl t_otherOf)), (a_t 6, .inl (E.2.1, 24, .inl t_wardsOf)), (a_t 30, .inl (E.2.1, 260, .inl t_codes)), (a_t 31, .inl (E.2.1, 16, .inl t_clauseOf)), (a_t 32, .inl (E.2.1, 16, .inl t_codeFrom)), (a_t 33, .inl (E.2.1, 16, .inl t_codeHalf)), (a_t 34, .inl (E.2.1, 16, .inl t_codeTo)), (a_t 35, .inl (E.2.1, 260, .inl t_stack)), (a_t 36, .inl (E.2.1, 10, .inl t_facts))]
def L_X12_chosenBy_7 (t_toldDoors : Int32) (t_barredDoors : Int32) (t_clauses : Int32) (t_now : (Nat → Int32)) (t_prongsOf : (Nat → Int32)) (t_oneOf : (Nat → Int32)) (t_otherOf : (Nat → Int32)) (t_wardsOf : (Nat → Int32)) (t_codes : (Nat → Int32)) (t_clauseOf : (Nat → Int32)) (t_codeFrom : (Nat → Int32)) (t_codeHalf : (Nat → Int32)) (t_codeTo : (Nat → Int32)) (x1 : Int32) : Nat → Int32 × Int32 × Int32 × (Nat → Int32) × (Nat → Int32) → Option (Int32 × (Nat → Int32) × (Nat → Int32)) := lp fun go s => if (24 : Int32) ≤ s.2.2.1 then (some (s.1, s.2.2.2.1, s.2.2.2.2)) else (f_X12_canOpen t_toldDoors t_barredDoors s.2.2.1).bind fun u1 => if u1 = 0 then (nm (s.2.2.1 + (1 : Int32)) fun v2 => go (s.1, s.2.1, v2, s.2.2.2.1, s.2.2.2.2)) else rd t_now 166 ((34 : Int32) + x1) fun v3 => (f_X12_behind t_oneOf t_otherOf s.2.2.1 v3).bind fun u4 => if u4 = (-1 : Int32) then (nm (s.2.2.1 + (1 : Int32)) fun v5 => go (s.1, s.2.1, v5, s.2.2.2.1, s.2.2.2.2)) else (f_X12_kindFor t_now t_prongsOf t_wardsOf x1 s.2.2.1).bind fun u6 => if u6 = (-1 : Int32) then (nm (s.2.2.1 + (1 : Int32)) fun v11 => go (s.1, s.2.1, v11, s.2.2.2.1, s.2.2.2.2)) else (f_X12_feelsDoor t_now t_prongsOf t_oneOf t_otherOf t_wardsOf s.2.2.2.2 x1 s.2.2.1).bind fun u7 => (f_X12_byLaw t_clauses t_codes t_clauseOf t_codeFrom t_codeHalf t_codeTo s.2.2.2.1 u7 (101 : Int32) (9999 : Int32)).bind fun u8 => if s.2.1 < u8.1 then (nm (s.2.2.1 + (1 : Int32)) fun v9 => go (s.2.2.1, u8.1, v9, u8.2, u7)) else nm (s.2.2.1 + (1 : Int32)) fun v10 => go (s.1, s.2.1, v10, u8.2, u7)
def f_X12_chosenBy (t_toldDoors : Int32) (t_barredDoors : Int32) (t_clauses : Int32) (t_now : (Nat → Int32)) (t_prongsOf : (Nat → Int32)) (t_oneOf : (Nat → Int32)) (t_otherOf : (Nat → Int32)) (t_wardsOf : (Nat → Int32)) (t_codes : (Nat → Int32)) (t_clauseOf : (Nat → Int32)) (t_codeFrom : (Nat → Int32)) (t_codeHalf : (Nat → Int32)) (t_codeTo : (Nat → Int32)) (t_stack : (Nat → Int32)) (t_facts : (Nat → Int32)) (x1 : Int32) : Option (Int32 × (Nat → Int32) × (Nat → Int32)) := L_X12_chosenBy_7 t_toldDoors t_barredDoors t_clauses t_now t_prongsOf t_oneOf t_otherOf t_wardsOf t_codes t_clauseOf t_codeFrom t_codeHalf t_codeTo x1 fu ((-1 : Int32), (0 : Int32), (0 : Int32), t_stack, t_facts)
theorem dX12_chosenBy_0 : decode cX12_chosenBy 0 = .ok (.iconst (-1), 1) := by decide +kernel
theorem dX12_chosenBy_1 : decode cX12_chosenBy 1 = .ok (.istore_n 2, 1) := by decide +kernel
theorem dX12_chosenBy_2 : decode cX12_chosenBy 2 = .ok (.iconst 0, 1) := by decide +kernel
theorem dX12_chosenBy_3 : decode cX12_chosenBy 3 = .ok (.istore_n 3, 1) := by decide +kernel
theorem dX12_chosenBy_4 : decode cX12_chosenBy 4 = .ok (.iconst 0, 1) := by decide +kernel
theorem dX12_chosenBy_5 : decode cX12_chosenBy 5 = .ok (.istore 4, 2) := by decide +kernel
theorem dX12_chosenBy_7 : decode cX12_chosenBy 7 = .ok (.iload 4, 2) := by decide +kernel
theorem dX12_chosenBy_9 : decode cX12_chosenBy 9 = .ok (.bipush 24, 2) := by decide +kernel
theorem dX12_chosenBy_11 : decode cX12_chosenBy 11 = .ok (.if_icmp .ge 84, 3) := by decide +kernel
theorem dX12_chosenBy_14 : decode cX12_chosenBy 14 = .ok (.aload_n 0, 1) := by decide +kernel
theorem dX12_chosenBy_15 : decode cX12_chosenBy 15 = .ok (.iload 4, 2) := by decide +kernel
theorem dX12_chosenBy_17 : decode cX12_chosenBy 17 = .ok (.invokevirtual 329, 3) := by decide +kernel
theorem dX12_chosenBy_20 : decode cX12_chosenBy 20 = .ok (.ifCond .eq 69, 3) := by decide +kernel
theorem dX12_chosenBy_23 : decode cX12_chosenBy 23 = .ok (.aload_n 0, 1) := by decide +kernel
theorem dX12_chosenBy_24 : decode cX12_chosenBy 24 = .ok (.iload 4, 2) := by decide +kernel
theorem dX12_chosenBy_26 : decode cX12_chosenBy 26 = .ok (.aload_n 0, 1) := by decide +kernel
theorem dX12_chosenBy_27 : decode cX12_chosenBy 27 = .ok (.getfield 7, 3) := by decide +kernel
theorem dX12_chosenBy_30 : decode cX12_chosenBy 30 = .ok (.bipush 34, 2) := by decide +kernel
theorem dX12_chosenBy_32 : decode cX12_chosenBy 32 = .ok (.iload_n 1, 1) := by decide +kernel
theorem dX12_chosenBy_33 : decode cX12_chosenBy 33 = .ok (.iadd, 1) := by decide +kernel
theorem dX12_chosenBy_34 : decode cX12_chosenBy 34 = .ok (.iaload, 1) := by decide +kernel
theorem dX12_chosenBy_35 : decode cX12_chosenBy 35 = .ok (.invokevirtual 317, 3) := by decide +kernel
theorem dX12_chosenBy_38 : decode cX12_chosenBy 38 = .ok (.iconst (-1), 1) := by decide +kernel
theorem dX12_chosenBy_39 : decode cX12_chosenBy 39 = .ok (.if_icmp .eq 50, 3) := by decide +kernel
theorem dX12_chosenBy_42 : decode cX12_chosenBy 42 = .ok (.aload_n 0, 1) := by decide +kernel
theorem dX12_chosenBy_43 : decode cX12_chosenBy 43 = .ok (.iload_n 1, 1) := by decide +kernel
theorem dX12_chosenBy_44 : decode cX12_chosenBy 44 = .ok (.iload 4, 2) := by decide +kernel
theorem dX12_chosenBy_46 : decode cX12_chosenBy 46 = .ok (.invokevirtual 320, 3) := by decide +kernel
theorem dX12_chosenBy_49 : decode cX12_chosenBy 49 = .ok (.iconst (-1), 1) := by decide +kernel
theorem dX12_chosenBy_50 : decode cX12_chosenBy 50 = .ok (.if_icmp .ne 6, 3) := by decide +kernel
theorem dX12_chosenBy_53 : decode cX12_chosenBy 53 = .ok (.goto 36, 3) := by decide +kernel
theorem dX12_chosenBy_56 : decode cX12_chosenBy 56 = .ok (.aload_n 0, 1) := by decide +kernel
theorem dX12_chosenBy_57 : decode cX12_chosenBy 57 = .ok (.iload_n 1, 1) := by decide +kernel
theorem dX12_chosenBy_58 : decode cX12_chosenBy 58 = .ok (.iload 4, 2) := by decide +kernel
theorem dX12_chosenBy_60 : decode cX12_chosenBy 60 = .ok (.invokevirtual 332, 3) := by decide +kernel
theorem dX12_chosenBy_63 : decode cX12_chosenBy 63 = .ok (.aload_n 0, 1) := by decide +kernel
theorem dX12_chosenBy_64 : decode cX12_chosenBy 64 = .ok (.bipush 101, 2) := by decide +kernel
theorem dX12_chosenBy_66 : decode cX12_chosenBy 66 = .ok (.sipush 9999, 3) := by decide +kernel
theorem dX12_chosenBy_69 : decode cX12_chosenBy 69 = .ok (.invokevirtual 335, 3) := by decide +kernel
theorem dX12_chosenBy_72 : decode cX12_chosenBy 72 = .ok (.istore 5, 2) := by decide +kernel
theorem dX12_chosenBy_74 : decode cX12_chosenBy 74 = .ok (.iload 5, 2) := by decide +kernel
theorem dX12_chosenBy_76 : decode cX12_chosenBy 76 = .ok (.iload_n 3, 1) := by decide +kernel
theorem dX12_chosenBy_77 : decode cX12_chosenBy 77 = .ok (.if_icmp .gt 6, 3) := by decide +kernel
theorem dX12_chosenBy_80 : decode cX12_chosenBy 80 = .ok (.goto 9, 3) := by decide +kernel
theorem dX12_chosenBy_83 : decode cX12_chosenBy 83 = .ok (.iload 5, 2) := by decide +kernel
theorem dX12_chosenBy_85 : decode cX12_chosenBy 85 = .ok (.istore_n 3, 1) := by decide +kernel
theorem dX12_chosenBy_86 : decode cX12_chosenBy 86 = .ok (.iload 4, 2) := by decide +kernel
theorem dX12_chosenBy_88 : decode cX12_chosenBy 88 = .ok (.istore_n 2, 1) := by decide +kernel
theorem dX12_chosenBy_89 : decode cX12_chosenBy 89 = .ok (.iinc 4 1, 3) := by decide +kernel
theorem dX12_chosenBy_92 : decode cX12_chosenBy 92 = .ok (.goto (-85), 3) := by decide +kernel
theorem dX12_chosenBy_95 : decode cX12_chosenBy 95 = .ok (.iload_n 2, 1) := by decide +kernel
theorem dX12_chosenBy_96 : decode cX12_chosenBy 96 = .ok (.ireturn, 1) := by decide +kernel
set_option maxHeartbeats 4000000 in
set_option maxRecDepth 100000 in
theorem kL_X12_chosenBy_7 {X : GC} {E : GE} (C : Cx X E cX12_chosenBy RX12 5 6) (o_t : Nat) (a_t : Nat → Nat) (t_taped : Int32) (t_place0 : Int32) (t_length0 : Int32) (t_fault : Int32) (t_number0 : Int32) (t_open : Int32) (t_codeMany : Int32) (t_waiting : Int32) (t_saidMany : Int32) (t_newMany : Int32) (t_rounds : Int32) (t_pinFrom : Int32) (t_pinTimes : Int32) (t_lines : Int32) (t_wasTold : Int32) (t_wasBarred : Int32) (t_goesNow : Int32) (t_jamsNow : Int32) (t_queued : Int32) (t_isKept : Int32) (t_toldDoors : Int32) (t_barredDoors : Int32) (t_clauses : Int32) (t_now : (Nat → Int32)) (t_prongsOf : (Nat → Int32)) (t_oneOf : (Nat → Int32)) (t_otherOf : (Nat → Int32)) (t_wardsOf : (Nat → Int32)) (t_codes : (Nat → Int32)) (t_clauseOf : (Nat → Int32)) (t_codeFrom : (Nat → Int32)) (t_codeHalf : (Nat → Int32)) (t_codeTo : (Nat → Int32)) (x1 : Int32) {r : Int32 × (Nat → Int32) × (Nat → Int32)} (hret : RtI X E cX12_chosenBy .int 0 0 (fun w => w = (W_X12_chosenBy E o_t a_t t_toldDoors t_barredDoors t_taped t_place0 t_length0 t_fault t_number0 t_open t_codeMany t_waiting t_saidMany t_clauses t_newMany t_rounds t_pinFrom t_pinTimes t_lines t_wasTold t_wasBarred t_goesNow t_jamsNow t_queued t_isKept t_now t_prongsOf t_oneOf t_otherOf t_wardsOf t_codes t_clauseOf t_codeFrom t_codeHalf t_codeTo r.2.1 r.2.2)) r.1) : ∀ (n : Nat) (s : Int32 × Int32 × Int32 × (Nat → Int32) × (Nat → Int32)), L_X12_chosenBy_7 t_toldDoors t_barredDoors t_clauses t_now t_prongsOf t_oneOf t_otherOf t_wardsOf t_codes t_clauseOf t_codeFrom t_codeHalf t_codeTo x1 n s = some r → Gx X E 0 0 (W_X12_chosenBy E o_t a_t t_toldDoors t_barredDoors t_taped t_place0 t_length0 t_fault t_number0 t_open t_codeMany t_waiting t_saidMany t_clauses t_newMany t_rounds t_pinFrom t_pinTimes t_lines t_wasTold t_wasBarred t_goesNow t_jamsNow t_queued t_isKept t_now t_prongsOf t_oneOf t_otherOf t_wardsOf t_codes t_clauseOf t_codeFrom t_codeHalf t_codeTo s.2.2.2.1 s.2.2.2.2) 7 [(0, .ref o_t), (1, .int x1), (2, .int s.1), (3, .int s.2.1), (4, .int s.2.2.1)] [] := by
  unfold L_X12_chosenBy_7
  refine lp_ind _ (fun go ih s h => ?_)
  refine g_iload (pc := 7) C dX12_chosenBy_7 4 rfl ?_
  refine g_bipush (pc := 9) (v := 24) C dX12_chosenBy_9 (by decide) ?_
  refine g_icmp_ge (pc := 11) (tgt := 95) C dX12_chosenBy_11 (by decide) h (fun h => ?_) (fun h => ?_)
  · refine g_iload_n (pc := 95) C dX12_chosenBy_95 rfl 2 rfl ?_
    cases h
    exact hret _ _ _ dX12_chosenBy_96 rfl rfl
  · refine g_aload_n (pc := 14) C dX12_chosenBy_14 rfl 0 rfl ?_
    refine g_iload (pc := 15) C dX12_chosenBy_15 4 rfl ?_
    obtain ⟨u1, hu1, h⟩ := bs h
    refine g_callV (pc := 17) (st := []) (st1 := [.int u1]) (ws' := (W_X12_chosenBy E o_t a_t t_toldDoors t_barredDoors t_taped t_place0 t_length0 t_fault t_number0 t_open t_codeMany t_waiting t_saidMany t_clauses t_newMany t_rounds t_pinFrom t_pinTimes t_lines t_wasTold t_wasBarred t_goesNow t_jamsNow t_queued t_isKept t_now t_prongsOf t_oneOf t_otherOf t_wardsOf t_codes t_clauseOf t_codeFrom t_codeHalf t_codeTo s.2.2.2.1 s.2.2.2.2)) C mv_X12_canOpen mi_X12_canOpen ml_X12_329 (c_X12_canOpen X.2.1 E o_t a_t t_toldDoors t_barredDoors t_taped t_place0 t_length0 t_fault t_number0 t_open t_codeMany t_waiting t_saidMany t_clauses t_newMany t_rounds t_pinFrom t_pinTimes t_lines t_wasTold t_wasBarred t_goesNow t_jamsNow t_queued t_isKept s.2.2.1 u1 hu1) dX12_chosenBy_17 (by decide) rfl (Nat.le_of_ble_eq_true rfl) 0 11 rfl rfl [0] rfl (by decide) rfl rfl rfl rfl ?_
    refine g_if_eq (pc := 20) (tgt := 89) C dX12_chosenBy_20 (by decide) h (fun h => ?_) (fun h => ?_)
    · refine g_iincn (pc := 89) (j := 4) (d := 1) (lv' := fun v2 => [(4, .int v2), (0, .ref o_t), (1, .int x1), (2, .int s.1), (3, .int s.2.1)]) C dX12_chosenBy_89 rfl (by decide) (by decide) (fun _ => rfl) h (fun v2 h => ?_)
      refine g_goto (pc := 92) (tgt := 7) C dX12_chosenBy_92 (by decide) ?_
      refine g_sub [1, 2, 3, 4, 0] rfl ?_
      exact ih _ h
    · refine g_aload_n (pc := 23) C dX12_chosenBy_23 rfl 0 rfl ?_
      refine g_iload (pc := 24) C dX12_chosenBy_24 4 rfl ?_
      refine g_aload_n (pc := 26) C dX12_chosenBy_26 rfl 0 rfl ?_
      refine g_get (pc := 27) C fl_X12_7 dX12_chosenBy_27 0 rfl rfl ?_
      refine g_bipush (pc := 30) (v := 34) C dX12_chosenBy_30 (by decide) ?_
      refine g_iload_n (pc := 32) C dX12_chosenBy_32 rfl 1 rfl ?_
      refine g_iadd (pc := 33) C dX12_chosenBy_33 ?_
      refine g_iald (pc := 34) C dX12_chosenBy_34 1 rfl h (fun v3 h => ?_)
      obtain ⟨u4, hu4, h⟩ := bs h
      refine g_callV (pc := 35) (st := []) (st1 := [.int u4]) (ws' := (W_X12_chosenBy E o_t a_t t_toldDoors t_barredDoors t_taped t_place0 t_length0 t_fault t_number0 t_open t_codeMany t_waiting t_saidMany t_clauses t_newMany t_rounds t_pinFrom t_pinTimes t_lines t_wasTold t_wasBarred t_goesNow t_jamsNow t_queued t_isKept t_now t_prongsOf t_oneOf t_otherOf t_wardsOf t_codes t_clauseOf t_codeFrom t_codeHalf t_codeTo s.2.2.2.1 s.2.2.2.2)) C mv_X12_behind mi_X12_behind ml_X12_317 (c_X12_behind X.2.1 E o_t a_t t_toldDoors t_barredDoors t_taped t_place0 t_length0 t_fault t_number0 t_open t_codeMany t_waiting t_saidMany t_clauses t_newMany t_rounds t_pinFrom t_pinTimes t_lines t_wasTold t_wasBarred t_goesNow t_jamsNow t_queued t_isKept t_oneOf t_otherOf s.2.2.1 v3 u4 hu4) dX12_chosenBy_35 (by decide) rfl (Nat.le_of_ble_eq_true rfl) 0 11 rfl rfl [0, 3, 4] rfl (by decide) rfl rfl rfl rfl ?_
      refine g_iconst (pc := 38) (v := -1) C dX12_chosenBy_38 (by decide) ?_
      refine g_icmp_eq (pc := 39) (tgt := 89) C dX12_chosenBy_39 (by decide) h (fun h => ?_) (fun h => ?_)
      · refine g_iincn (pc := 89) (j := 4) (d := 1) (lv' := fun v5 => [(4, .int v5), (0, .ref o_t), (1, .int x1), (2, .int s.1), (3, .int s.2.1)]) C dX12_chosenBy_89 rfl (by decide) (by decide) (fun _ => rfl) h (fun v5 h => ?_)
        refine g_goto (pc := 92) (tgt := 7) C dX12_chosenBy_92 (by decide) ?_
        refine g_sub [1, 2, 3, 4, 0] rfl ?_
        exact ih _ h
      · refine g_aload_n (pc := 42) C dX12_chosenBy_42 rfl 0 rfl ?_
        refine g_iload_n (pc := 43) C dX12_chosenBy_43 rfl 1 rfl ?_
        refine g_iload (pc := 44) C dX12_chosenBy_44 4 rfl ?_
        obtain ⟨u6, hu6, h⟩ := bs h
        refine g_callV (pc := 46) (st := []) (st1 := [.int u6]) (ws' := (W_X12_chosenBy E o_t a_t t_toldDoors t_barredDoors t_taped t_place0 t_length0 t_fault t_number0 t_open t_codeMany t_waiting t_saidMany t_clauses t_newMany t_rounds t_pinFrom t_pinTimes t_lines t_wasTold t_wasBarred t_goesNow t_jamsNow t_queued t_isKept t_now t_prongsOf t_oneOf t_otherOf t_wardsOf t_codes t_clauseOf t_codeFrom t_codeHalf t_codeTo s.2.2.2.1 s.2.2.2.2)) C mv_X12_kindFor mi_X12_kindFor ml_X12_320 (c_X12_kindFor X.2.1 E o_t a_t t_toldDoors t_barredDoors t_taped t_place0 t_length0 t_fault t_number0 t_open t_codeMany t_waiting t_saidMany t_clauses t_newMany t_rounds t_pinFrom t_pinTimes t_lines t_wasTold t_wasBarred t_goesNow t_jamsNow t_queued t_isKept t_now t_prongsOf t_wardsOf x1 s.2.2.1 u6 hu6) dX12_chosenBy_46 (by decide) rfl (Nat.le_of_ble_eq_true rfl) 0 11 rfl rfl [0, 1, 2, 5] rfl (by decide) rfl rfl rfl rfl ?_
        refine g_iconst (pc := 49) (v := -1) C dX12_chosenBy_49 (by decide) ?_
        refine g_icmp_ne (pc := 50) (tgt := 56) C dX12_chosenBy_50 (by decide) h (fun h => ?_) (fun h => ?_)
        · refine g_aload_n (pc := 56) C dX12_chosenBy_56 rfl 0 rfl ?_
          refine g_iload_n (pc := 57) C dX12_chosenBy_57 rfl 1 rfl ?_
          refine g_iload (pc := 58) C dX12_chosenBy_58 4 rfl ?_
          obtain ⟨u7, hu7, h⟩ := bs h
          refine g_callV (pc := 60) (st := []) (st1 := []) (ws' := (W_X12_chosenBy E o_t a_t t_toldDoors t_barredDoors t_taped t_place0 t_length0 t_fault t_number0 t_open t_codeMany t_waiting t_saidMany t_clauses t_newMany t_rounds t_pinFrom t_pinTimes t_lines t_wasTold t_wasBarred t_goesNow t_jamsNow t_queued t_isKept t_now t_prongsOf t_oneOf t_otherOf t_wardsOf t_codes t_clauseOf t_codeFrom t_codeHalf t_codeTo s.2.2.2.1 u7)) C mv_X12_feelsDoor mi_X12_feelsDoor ml_X12_332 (c_X12_feelsDoor X.2.1 E o_t a_t t_toldDoors t_barredDoors t_taped t_place0 t_length0 t_fault t_number0 t_open t_codeMany t_waiting t_saidMany t_clauses t_newMany t_rounds t_pinFrom t_pinTimes t_lines t_wasTold t_wasBarred t_goesNow t_jamsNow t_queued t_isKept t_now t_prongsOf t_oneOf t_otherOf t_wardsOf s.2.2.2.2 x1 s.2.2.1 u7 hu7) dX12_chosenBy_60 (by decide) rfl (Nat.le_of_ble_eq_true rfl) 0 11 rfl rfl [0, 1, 2, 3, 4, 5, 12] rfl (by decide) rfl rfl rfl rfl ?_
          refine g_aload_n (pc := 63) C dX12_chosenBy_63 rfl 0 rfl ?_
          refine g_bipush (pc := 64) (v := 101) C dX12_chosenBy_64 (by decide) ?_
          refine g_sipush (pc := 66) (v := 9999) C dX12_chosenBy_66 (by decide) ?_
          obtain ⟨u8, hu8, h⟩ := bs h
          refine g_callV (pc := 69) (st := []) (st1 := [.int u8.1]) (ws' := (W_X12_chosenBy E o_t a_t t_toldDoors t_barredDoors t_taped t_place0 t_length0 t_fault t_number0 t_open t_codeMany t_waiting t_saidMany t_clauses t_newMany t_rounds t_pinFrom t_pinTimes t_lines t_wasTold t_wasBarred t_goesNow t_jamsNow t_queued t_isKept t_now t_prongsOf t_oneOf t_otherOf t_wardsOf t_codes t_clauseOf t_codeFrom t_codeHalf t_codeTo u8.2 u7)) C mv_X12_byLaw mi_X12_byLaw ml_X12_335 (c_X12_byLaw X.2.1 E o_t a_t t_toldDoors t_barredDoors t_taped t_place0 t_length0 t_fault t_number0 t_open t_codeMany t_waiting t_saidMany t_clauses t_newMany t_rounds t_pinFrom t_pinTimes t_lines t_wasTold t_wasBarred t_goesNow t_jamsNow t_queued t_isKept t_codes t_clauseOf t_codeFrom t_codeHalf t_codeTo s.2.2.2.1 u7 (101 : Int32) (9999 : Int32) u8 hu8) dX12_chosenBy_69 (by decide) rfl (Nat.le_of_ble_eq_true rfl) 0 11 rfl rfl [0, 6, 7, 8, 9, 10, 11, 12] rfl (by decide) rfl rfl rfl rfl ?_
          refine g_istore (pc := 72) (lv' := [(5, .int u8.1), (0, .ref o_t), (1, .int x1), (2, .int s.1), (3, .int s.2.1), (4, .int s.2.2.1)]) C dX12_chosenBy_72 (by decide) rfl ?_
          refine g_iload (pc := 74) C dX12_chosenBy_74 0 rfl ?_
          refine g_iload_n (pc := 76) C dX12_chosenBy_76 rfl 4 rfl ?_
          refine g_icmp_gt (pc := 77) (tgt := 83) C dX12_chosenBy_77 (by decide) h (fun h => ?_) (fun h => ?_)
          · refine g_iload (pc := 83) C dX12_chosenBy_83 0 rfl ?_
            refine g_istore_n (pc := 85) (lv' := [(3, .int u8.1), (5, .int u8.1), (0, .ref o_t), (1, .int x1), (2, .int s.1), (4, .int s.2.2.1)]) C dX12_chosenBy_85 rfl (by decide) rfl ?_
            refine g_iload (pc := 86) C dX12_chosenBy_86 5 rfl ?_
            refine g_istore_n (pc := 88) (lv' := [(2, .int s.2.2.1), (3, .int u8.1), (5, .int u8.1), (0, .ref o_t), (1, .int x1), (4, .int s.2.2.1)]) C dX12_chosenBy_88 rfl (by decide) rfl ?_
            refine g_iincn (pc := 89) (j := 5) (d := 1) (lv' := fun v9 => [(4, .int v9), (2, .int s.2.2.1), (3, .int u8.1), (5, .int u8.1), (0, .ref o_t), (1, .int x1)]) C dX12_chosenBy_89 rfl (by decide) (by decide) (fun _ => rfl) h (fun v9 h => ?_)
            refine g_goto (pc := 92) (tgt := 7) C dX12_chosenBy_92 (by decide) ?_
            refine g_sub [4, 5, 1, 2, 0] rfl ?_
            exact ih _ h
          · refine g_goto (pc := 80) (tgt := 89) C dX12_chosenBy_80 (by decide) ?_
            refine g_iincn (pc := 89) (j := 5) (d := 1) (lv' := fun v10 => [(4, .int v10), (5, .int u8.1), (0, .ref o_t), (1, .int x1), (2, .int s.1), (3, .int s.2.1)]) C dX12_chosenBy_89 rfl (by decide) (by decide) (fun _ => rfl) h (fun v10 h => ?_)
            refine g_goto (pc := 92) (tgt := 7) C dX12_chosenBy_92 (by decide) ?_
            refine g_sub [2, 3, 4, 5, 0] rfl ?_
            exact ih _ h
        · refine g_goto (pc := 53) (tgt := 89) C dX12_chosenBy_53 (by decide) ?_
          refine g_iincn (pc := 89) (j := 4) (d := 1) (lv' := fun v11 => [(4, .int v11), (0, .ref o_t), (1, .int x1), (2, .int s.1), (3, .int s.2.1)]) C dX12_chosenBy_89 rfl (by decide) (by decide) (fun _ => rfl) h (fun v11 h => ?_)
          refine g_goto (pc := 92) (tgt := 7) C dX12_chosenBy_92 (by decide) ?_
          refine g_sub [1, 2, 3, 4, 0] rfl ?_
          exact ih _ h
set_option maxHeartbeats 4000000 in
set_option maxRecDepth 100000 in
theorem c_X12_chosenBy (l : Launch) (E : GE) (o_t : Nat) (a_t : Nat → Nat) (t_toldDoors : Int32) (t_barredDoors : Int32) (t_taped : Int32) (t_place0 : Int32) (t_length0 : Int32) (t_fault : Int32) (t_number0 : Int32) (t_open : Int32) (t_codeMany : Int32) (t_waiting : Int32) (t_saidMany : Int32) (t_clauses : Int32) (t_newMany : Int32) (t_rounds : Int32) (t_pinFrom : Int32) (t_pinTimes : Int32) (t_lines : Int32) (t_wasTold : Int32) (t_wasBarred : Int32) (t_goesNow : Int32) (t_jamsNow : Int32) (t_queued : Int32) (t_isKept : Int32) (t_now : (Nat → Int32)) (t_prongsOf : (Nat → Int32)) (t_oneOf : (Nat → Int32)) (t_otherOf : (Nat → Int32)) (t_wardsOf : (Nat → Int32)) (t_codes : (Nat → Int32)) (t_clauseOf : (Nat → Int32)) (t_codeFrom : (Nat → Int32)) (t_codeHalf : (Nat → Int32)) (t_codeTo : (Nat → Int32)) (t_stack : (Nat → Int32)) (t_facts : (Nat → Int32)) (x1 : Int32) (r : Int32 × (Nat → Int32) × (Nat → Int32)) (h : f_X12_chosenBy t_toldDoors t_barredDoors t_clauses t_now t_prongsOf t_oneOf t_otherOf t_wardsOf t_codes t_clauseOf t_codeFrom t_codeHalf t_codeTo t_stack t_facts x1 = some r) : Cn l E yX12_chosenBy cX12_chosenBy 6 (some .int) 5 0 0 [.ref o_t, .int x1] (W_X12_chosenBy E o_t a_t t_toldDoors t_barredDoors t_taped t_place0 t_length0 t_fault t_number0 t_open t_codeMany t_waiting t_saidMany t_clauses t_newMany t_rounds t_pinFrom t_pinTimes t_lines t_wasTold t_wasBarred t_goesNow t_jamsNow t_queued t_isKept t_now t_prongsOf t_oneOf t_otherOf t_wardsOf t_codes t_clauseOf t_codeFrom t_codeHalf t_codeTo t_stack t_facts) (fun w => w = (W_X12_chosenBy E o_t a_t t_toldDoors t_barredDoors t_taped t_place0 t_length0 t_fault t_number0 t_open t_codeMany t_waiting t_saidMany t_clauses t_newMany t_rounds t_pinFrom t_pinTimes t_lines t_wasTold t_wasBarred t_goesNow t_jamsNow t_queued t_isKept t_now t_prongsOf t_oneOf t_otherOf t_wardsOf t_codes t_clauseOf t_codeFrom t_codeHalf t_codeTo r.2.1 r.2.2)) (some (.int r.1)) := by
  refine Cn.ofI (by decide +kernel) (Nat.le_of_ble_eq_true rfl) (fun X hX hR C hret => ?_)
  subst hX
  show Gx X E 0 0 (W_X12_chosenBy E o_t a_t t_toldDoors t_barredDoors t_taped t_place0 t_length0 t_fault t_number0 t_open t_codeMany t_waiting t_saidMany t_clauses t_newMany t_rounds t_pinFrom t_pinTimes t_lines t_wasTold t_wasBarred t_goesNow t_jamsNow t_queued t_isKept t_now t_prongsOf t_oneOf t_otherOf t_wardsOf t_codes t_clauseOf t_codeFrom t_codeHalf t_codeTo t_stack t_facts) 0 [(0, .ref o_t), (1, .int x1)] []
  unfold f_X12_chosenBy at h
  refine g_iconst (pc := 0) (v := -1) C dX12_chosenBy_0 (by decide) ?_
  refine g_istore_n (pc := 1) (lv' := [(2, .int (-1 : Int32)), (0, .ref o_t), (1, .int x1)]) C dX12_chosenBy_1 rfl (by decide) rfl ?_
  refine g_iconst (pc := 2) (v := 0) C dX12_chosenBy_2 (by decide) ?_
  refine g_istore_n (pc := 3) (lv' := [(3, .int (0 : Int32)), (2, .int (-1 : Int32)), (0, .ref o_t), (1, .int x1)]) C dX12_chosenBy_3 rfl (by decide) rfl ?_
  refine g_iconst (pc := 4) (v := 0) C dX12_chosenBy_4 (by decide) ?_
  refine g_istore (pc := 5) (lv' := [(4, .int (0 : Int32)), (3, .int (0 : Int32)), (2, .int (-1 : Int32)), (0, .ref o_t), (1, .int x1)]) C dX12_chosenBy_5 (by decide) rfl ?_
  refine g_sub [3, 4, 2, 1, 0] rfl ?_
  refine kL_X12_chosenBy_7 C o_t a_t t_taped t_place0 t_length0 t_fault t_number0 t_open t_codeMany t_waiting t_saidMany t_newMany t_rounds t_pinFrom t_pinTimes t_lines t_wasTold t_wasBarred t_goesNow t_jamsNow t_queued t_isKept t_toldDoors t_barredDoors t_clauses t_now t_prongsOf t_oneOf t_otherOf t_wardsOf t_codes t_clauseOf t_codeFrom t_codeHalf t_codeTo x1 hret  _ _ h
abbrev W_X12_getsTo (E : GE) (O_t : Nat) (a_t : Nat → Nat) (t_toldDoors : Int32) (t_barredDoors : Int32) (t_taped : Int32) (t_place0 : Int32) (t_length0 : Int32) (t_fault : Int32) (t_number0 : Int32) (t_open : Int32) (t_codeMany : Int32) (t_waiting : Int32) (t_saidMany : Int32) (t_clauses : Int32) (t_newMany : Int32) (t_rounds : Int32) (t_pinFrom : Int32) (t_pinTimes : Int32) (t_lines : Int32) (t_wasTold : Int32) (t_wasBarred : Int32) (t_goesNow : Int32) (t_jamsNow : Int32) (t_queued : Int32) (t_isKept : Int32) (t_now : (Nat → Int32)) (t_prongsOf : (Nat → Int32)) (t_oneOf : (Nat → Int32)) (t_otherOf : (Nat → Int32)) (t_wardsOf : (Nat → Int32)) (t_stepsTo : (Nat → Int32)) (t_firstBy : (Nat → Int32)) (t_queue : (Nat → Int32)) : va_W := [(O_t, ob_X12 a_t t_toldDoors t_barredDoors t_taped t_place0 t_length0 t_fault t_number0 t_open t_codeMany t_waiting t_saidMany t_clauses t_newMany t_rounds t_pinFrom t_pinTimes t_lines t_wasTold t_wasBarred t_goesNow t_jamsNow t_queued t_isKept), (a_t 0, .inl (E.2.1, 166, .inl t_now)), (a_t 3, .inl (E.2.1, 6, .inl t_prongsOf)), (a_t 4, .inl (E.2.1, 24, .inl t_oneOf)), (a_t 5, .inl (E.2.1, 24, .inl t_otherOf)), (a_t 6, .inl (E.2.1, 24, .inl t_wardsOf)), (a_t 50, .inl (E.2.2.1, 1882384, .inl t_stepsTo)), (a_t 51, .inl (E.2.2.1, 1882384, .inl t_firstBy)), (a_t 52, .inl (E.2.1, 15000, .inl t_queue))]
def L_X12_getsTo_69 (t_toldDoors : Int32) (t_barredDoors : Int32) (t_queued : Int32) (t_now : (Nat → Int32)) (t_prongsOf : (Nat → Int32)) (t_oneOf : (Nat → Int32)) (t_otherOf : (Nat → Int32)) (t_wardsOf : (Nat → Int32)) (t_stepsTo : (Nat → Int32)) (t_firstBy : (Nat → Int32)) (t_queue : (Nat → Int32)) (x2 : Int32) (x3 : Int32) (k0 : Int32 → Option (Int32 × Int32 × (Nat → Int32) × (Nat → Int32) × (Nat → Int32))) : Nat → Int32 × Int32 → Option (Int32 × Int32 × (Nat → Int32) × (Nat → Int32) × (Nat → Int32)) := lp fun go s => if s.2 < 0 then (k0 s.1) else rd t_queue 15000 s.2 fun v7 => dv v7 (117649 : Int32) fun v8 => if v8 = x2 then (rd t_queue 15000 s.2 fun v10 => nm (s.2 + (-1 : Int32)) fun v11 => go (v10, v11)) else nm (s.2 + (-1 : Int32)) fun v9 => go (s.1, v9)
def f_X12_getsTo (t_toldDoors : Int32) (t_barredDoors : Int32) (t_queued : Int32) (t_now : (Nat → Int32)) (t_prongsOf : (Nat → Int32)) (t_oneOf : (Nat → Int32)) (t_otherOf : (Nat → Int32)) (t_wardsOf : (Nat → Int32)) (t_stepsTo : (Nat → Int32)) (t_firstBy : (Nat → Int32)) (t_queue : (Nat → Int32)) (x1 : Int32) (x2 : Int32) (x3 : Int32) : Option (Int32 × Int32 × (Nat → Int32) × (Nat → Int32) × (Nat → Int32)) := (f_X12_isWoman t_now x1).bind fun u1 => if u1 = 0 then (some ((-1 : Int32), t_queued, t_stepsTo, t_firstBy, t_queue)) else (f_X12_in x2 (0 : Int32) (15 : Int32)).bind fun u2 => if u2 = 0 then (some ((-1 : Int32), t_queued, t_stepsTo, t_firstBy, t_queue)) else (f_X12_in x3 (0 : Int32) (1 : Int32)).bind fun u3 => if u3 = 0 then (some ((-1 : Int32), t_queued, t_stepsTo, t_firstBy, t_queue)) else rd t_now 166 ((34 : Int32) + x1) fun v4 => if v4 = x2 then (if x3 = 0 then (some ((0 : Int32), t_queued, t_stepsTo, t_firstBy, t_queue)) else some ((-4 : Int32), t_queued, t_stepsTo, t_firstBy, t_queue)) else (f_X12_laysWays t_toldDoors t_barredDoors t_queued t_now t_prongsOf t_oneOf t_otherOf t_wardsOf t_stepsTo t_firstBy t_queue x1).bind fun u5 => nm (u5.1 - (1 : Int32)) fun v6 => L_X12_getsTo_69 t_toldDoors t_barredDoors u5.1 t_now t_prongsOf t_oneOf t_otherOf t_wardsOf u5.2.1 u5.2.2.1 u5.2.2.2 x2 x3 (fun s12 => jn (fun s13 : Int32 => (f_X12_clearsWays u5.1 u5.2.1 u5.2.2.2).bind fun u14 => some (s13, u5.1, u14, u5.2.2.1, u5.2.2.2)) fun j138 => if s12 = (-1 : Int32) then (j138 (-2 : Int32)) else if x3 = 0 then (rd u5.2.1 1882384 s12 fun v16 => j138 (v16 - (1 : Int32))) else rd u5.2.2.1 1882384 s12 fun v15 => j138 v15) fu ((-1 : Int32), v6)
theorem dX12_getsTo_0 : decode cX12_getsTo 0 = .ok (.aload_n 0, 1) := by decide +kernel
theorem dX12_getsTo_1 : decode cX12_getsTo 1 = .ok (.iload_n 1, 1) := by decide +kernel
theorem dX12_getsTo_2 : decode cX12_getsTo 2 = .ok (.invokevirtual 268, 3) := by decide +kernel
theorem dX12_getsTo_5 : decode cX12_getsTo 5 = .ok (.ifCond .eq 22, 3) := by decide +kernel
theorem dX12_getsTo_8 : decode cX12_getsTo 8 = .ok (.iload_n 2, 1) := by decide +kernel
theorem dX12_getsTo_9 : decode cX12_getsTo 9 = .ok (.iconst 0, 1) := by decide +kernel
theorem dX12_getsTo_10 : decode cX12_getsTo 10 = .ok (.bipush 15, 2) := by decide +kernel
theorem dX12_getsTo_12 : decode cX12_getsTo 12 = .ok (.invokestatic 117, 3) := by decide +kernel
theorem dX12_getsTo_15 : decode cX12_getsTo 15 = .ok (.ifCond .eq 12, 3) := by decide +kernel
theorem dX12_getsTo_18 : decode cX12_getsTo 18 = .ok (.iload_n 3, 1) := by decide +kernel
theorem dX12_getsTo_19 : decode cX12_getsTo 19 = .ok (.iconst 0, 1) := by decide +kernel
theorem dX12_getsTo_20 : decode cX12_getsTo 20 = .ok (.iconst 1, 1) := by decide +kernel
theorem dX12_getsTo_21 : decode cX12_getsTo 21 = .ok (.invokestatic 117, 3) := by decide +kernel
theorem dX12_getsTo_24 : decode cX12_getsTo 24 = .ok (.ifCond .ne 5, 3) := by decide +kernel
theorem dX12_getsTo_27 : decode cX12_getsTo 27 = .ok (.iconst (-1), 1) := by decide +kernel
theorem dX12_getsTo_28 : decode cX12_getsTo 28 = .ok (.ireturn, 1) := by decide +kernel
theorem dX12_getsTo_29 : decode cX12_getsTo 29 = .ok (.aload_n 0, 1) := by decide +kernel
theorem dX12_getsTo_30 : decode cX12_getsTo 30 = .ok (.getfield 7, 3) := by decide +kernel
theorem dX12_getsTo_33 : decode cX12_getsTo 33 = .ok (.bipush 34, 2) := by decide +kernel
theorem dX12_getsTo_35 : decode cX12_getsTo 35 = .ok (.iload_n 1, 1) := by decide +kernel
theorem dX12_getsTo_36 : decode cX12_getsTo 36 = .ok (.iadd, 1) := by decide +kernel
theorem dX12_getsTo_37 : decode cX12_getsTo 37 = .ok (.iaload, 1) := by decide +kernel
theorem dX12_getsTo_38 : decode cX12_getsTo 38 = .ok (.iload_n 2, 1) := by decide +kernel
theorem dX12_getsTo_39 : decode cX12_getsTo 39 = .ok (.if_icmp .ne 14, 3) := by decide +kernel
theorem dX12_getsTo_42 : decode cX12_getsTo 42 = .ok (.iload_n 3, 1) := by decide +kernel
theorem dX12_getsTo_43 : decode cX12_getsTo 43 = .ok (.ifCond .ne 7, 3) := by decide +kernel
theorem dX12_getsTo_46 : decode cX12_getsTo 46 = .ok (.iconst 0, 1) := by decide +kernel
theorem dX12_getsTo_47 : decode cX12_getsTo 47 = .ok (.goto 5, 3) := by decide +kernel
theorem dX12_getsTo_50 : decode cX12_getsTo 50 = .ok (.bipush (-4), 2) := by decide +kernel
theorem dX12_getsTo_52 : decode cX12_getsTo 52 = .ok (.ireturn, 1) := by decide +kernel
theorem dX12_getsTo_53 : decode cX12_getsTo 53 = .ok (.aload_n 0, 1) := by decide +kernel
theorem dX12_getsTo_54 : decode cX12_getsTo 54 = .ok (.iload_n 1, 1) := by decide +kernel
theorem dX12_getsTo_55 : decode cX12_getsTo 55 = .ok (.invokevirtual 377, 3) := by decide +kernel
theorem dX12_getsTo_58 : decode cX12_getsTo 58 = .ok (.iconst (-1), 1) := by decide +kernel
theorem dX12_getsTo_59 : decode cX12_getsTo 59 = .ok (.istore 4, 2) := by decide +kernel
theorem dX12_getsTo_61 : decode cX12_getsTo 61 = .ok (.aload_n 0, 1) := by decide +kernel
theorem dX12_getsTo_62 : decode cX12_getsTo 62 = .ok (.getfield 367, 3) := by decide +kernel
theorem dX12_getsTo_65 : decode cX12_getsTo 65 = .ok (.iconst 1, 1) := by decide +kernel
theorem dX12_getsTo_66 : decode cX12_getsTo 66 = .ok (.isub, 1) := by decide +kernel
theorem dX12_getsTo_67 : decode cX12_getsTo 67 = .ok (.istore 5, 2) := by decide +kernel
theorem dX12_getsTo_69 : decode cX12_getsTo 69 = .ok (.iload 5, 2) := by decide +kernel
theorem dX12_getsTo_71 : decode cX12_getsTo 71 = .ok (.ifCond .lt 33, 3) := by decide +kernel
theorem dX12_getsTo_74 : decode cX12_getsTo 74 = .ok (.aload_n 0, 1) := by decide +kernel
theorem dX12_getsTo_75 : decode cX12_getsTo 75 = .ok (.getfield 105, 3) := by decide +kernel
theorem dX12_getsTo_78 : decode cX12_getsTo 78 = .ok (.iload 5, 2) := by decide +kernel
theorem dX12_getsTo_80 : decode cX12_getsTo 80 = .ok (.iaload, 1) := by decide +kernel
theorem dX12_getsTo_81 : decode cX12_getsTo 81 = .ok (.ldc_w 363, 3) := by decide +kernel
theorem dX12_getsTo_84 : decode cX12_getsTo 84 = .ok (.idiv, 1) := by decide +kernel
theorem dX12_getsTo_85 : decode cX12_getsTo 85 = .ok (.iload_n 2, 1) := by decide +kernel
theorem dX12_getsTo_86 : decode cX12_getsTo 86 = .ok (.if_icmp .ne 12, 3) := by decide +kernel
theorem dX12_getsTo_89 : decode cX12_getsTo 89 = .ok (.aload_n 0, 1) := by decide +kernel
theorem dX12_getsTo_90 : decode cX12_getsTo 90 = .ok (.getfield 105, 3) := by decide +kernel
theorem dX12_getsTo_93 : decode cX12_getsTo 93 = .ok (.iload 5, 2) := by decide +kernel
theorem dX12_getsTo_95 : decode cX12_getsTo 95 = .ok (.iaload, 1) := by decide +kernel
theorem dX12_getsTo_96 : decode cX12_getsTo 96 = .ok (.istore 4, 2) := by decide +kernel
theorem dX12_getsTo_98 : decode cX12_getsTo 98 = .ok (.iinc 5 (-1), 3) := by decide +kernel
theorem dX12_getsTo_101 : decode cX12_getsTo 101 = .ok (.goto (-32), 3) := by decide +kernel
theorem dX12_getsTo_104 : decode cX12_getsTo 104 = .ok (.iload 4, 2) := by decide +kernel
theorem dX12_getsTo_106 : decode cX12_getsTo 106 = .ok (.iconst (-1), 1) := by decide +kernel
theorem dX12_getsTo_107 : decode cX12_getsTo 107 = .ok (.if_icmp .ne 8, 3) := by decide +kernel
theorem dX12_getsTo_110 : decode cX12_getsTo 110 = .ok (.bipush (-2), 2) := by decide +kernel
theorem dX12_getsTo_112 : decode cX12_getsTo 112 = .ok (.goto 26, 3) := by decide +kernel
theorem dX12_getsTo_115 : decode cX12_getsTo 115 = .ok (.iload_n 3, 1) := by decide +kernel
theorem dX12_getsTo_116 : decode cX12_getsTo 116 = .ok (.ifCond .ne 15, 3) := by decide +kernel
theorem dX12_getsTo_119 : decode cX12_getsTo 119 = .ok (.aload_n 0, 1) := by decide +kernel
theorem dX12_getsTo_120 : decode cX12_getsTo 120 = .ok (.getfield 99, 3) := by decide +kernel
theorem dX12_getsTo_123 : decode cX12_getsTo 123 = .ok (.iload 4, 2) := by decide +kernel
theorem dX12_getsTo_125 : decode cX12_getsTo 125 = .ok (.baload, 1) := by decide +kernel
theorem dX12_getsTo_126 : decode cX12_getsTo 126 = .ok (.iconst 1, 1) := by decide +kernel
theorem dX12_getsTo_127 : decode cX12_getsTo 127 = .ok (.isub, 1) := by decide +kernel
theorem dX12_getsTo_128 : decode cX12_getsTo 128 = .ok (.goto 10, 3) := by decide +kernel
theorem dX12_getsTo_131 : decode cX12_getsTo 131 = .ok (.aload_n 0, 1) := by decide +kernel
theorem dX12_getsTo_132 : decode cX12_getsTo 132 = .ok (.getfield 102, 3) := by decide +kernel
theorem dX12_getsTo_135 : decode cX12_getsTo 135 = .ok (.iload 4, 2) := by decide +kernel
theorem dX12_getsTo_137 : decode cX12_getsTo 137 = .ok (.baload, 1) := by decide +kernel
theorem dX12_getsTo_138 : decode cX12_getsTo 138 = .ok (.istore 5, 2) := by decide +kernel
theorem dX12_getsTo_140 : decode cX12_getsTo 140 = .ok (.aload_n 0, 1) := by decide +kernel
theorem dX12_getsTo_141 : decode cX12_getsTo 141 = .ok (.invokevirtual 380, 3) := by decide +kernel
theorem dX12_getsTo_144 : decode cX12_getsTo 144 = .ok (.iload 5, 2) := by decide +kernel
theorem dX12_getsTo_146 : decode cX12_getsTo 146 = .ok (.ireturn, 1) := by decide +kernel
set_option maxHeartbeats 4000000 in
set_option maxRecDepth 100000 in
theorem kL_X12_getsTo_69 {X : GC} {E : GE} (C : Cx X E cX12_getsTo RX12 5 6) (o_t : Nat) (a_t : Nat → Nat) (t_taped : Int32) (t_place0 : Int32) (t_length0 : Int32) (t_fault : Int32) (t_number0 : Int32) (t_open : Int32) (t_codeMany : Int32) (t_waiting : Int32) (t_saidMany : Int32) (t_clauses : Int32) (t_newMany : Int32) (t_rounds : Int32) (t_pinFrom : Int32) (t_pinTimes : Int32) (t_lines : Int32) (t_wasTold : Int32) (t_wasBarred : Int32) (t_goesNow : Int32) (t_jamsNow : Int32) (t_isKept : Int32) (t_toldDoors : Int32) (t_barredDoors : Int32) (t_queued : Int32) (t_now : (Nat → Int32)) (t_prongsOf : (Nat → Int32)) (t_oneOf : (Nat → Int32)) (t_otherOf : (Nat → Int32)) (t_wardsOf : (Nat → Int32)) (t_stepsTo : (Nat → Int32)) (t_firstBy : (Nat → Int32)) (t_queue : (Nat → Int32)) (x2 : Int32) (x3 : Int32) (k0 : Int32 → Option (Int32 × Int32 × (Nat → Int32) × (Nat → Int32) × (Nat → Int32))) {r : Int32 × Int32 × (Nat → Int32) × (Nat → Int32) × (Nat → Int32)} (hret : RtI X E cX12_getsTo .int 0 0 (fun w => w = (W_X12_getsTo E o_t a_t t_toldDoors t_barredDoors t_taped t_place0 t_length0 t_fault t_number0 t_open t_codeMany t_waiting t_saidMany t_clauses t_newMany t_rounds t_pinFrom t_pinTimes t_lines t_wasTold t_wasBarred t_goesNow t_jamsNow r.2.1 t_isKept t_now t_prongsOf t_oneOf t_otherOf t_wardsOf r.2.2.1 r.2.2.2.1 r.2.2.2.2)) r.1) (hk0 : ∀ u, k0 u = some r → Gx X E 0 0 (W_X12_getsTo E o_t a_t t_toldDoors t_barredDoors t_taped t_place0 t_length0 t_fault t_number0 t_open t_codeMany t_waiting t_saidMany t_clauses t_newMany t_rounds t_pinFrom t_pinTimes t_lines t_wasTold t_wasBarred t_goesNow t_jamsNow t_queued t_isKept t_now t_prongsOf t_oneOf t_otherOf t_wardsOf t_stepsTo t_firstBy t_queue) 104 [(0, .ref o_t), (3, .int x3), (4, .int u)] []) : ∀ (n : Nat) (s : Int32 × Int32), L_X12_getsTo_69 t_toldDoors t_barredDoors t_queued t_now t_prongsOf t_oneOf t_otherOf t_wardsOf t_stepsTo t_firstBy t_queue x2 x3 k0 n s = some r → Gx X E 0 0 (W_X12_getsTo E o_t a_t t_toldDoors t_barredDoors t_taped t_place0 t_length0 t_fault t_number0 t_open t_codeMany t_waiting t_saidMany t_clauses t_newMany t_rounds t_pinFrom t_pinTimes t_lines t_wasTold t_wasBarred t_goesNow t_jamsNow t_queued t_isKept t_now t_prongsOf t_oneOf t_otherOf t_wardsOf t_stepsTo t_firstBy t_queue) 69 [(0, .ref o_t), (2, .int x2), (3, .int x3), (4, .int s.1), (5, .int s.2)] [] := by
  unfold L_X12_getsTo_69
  refine lp_ind _ (fun go ih s h => ?_)
  refine g_iload (pc := 69) C dX12_getsTo_69 4 rfl ?_
  refine g_if_lt (pc := 71) (tgt := 104) C dX12_getsTo_71 (by decide) h (fun h => ?_) (fun h => ?_)
  · refine g_sub [0, 2, 3] rfl ?_
    exact hk0 _ h
  · refine g_aload_n (pc := 74) C dX12_getsTo_74 rfl 0 rfl ?_
    refine g_get (pc := 75) C fl_X12_105 dX12_getsTo_75 0 rfl rfl ?_
    refine g_iload (pc := 78) C dX12_getsTo_78 4 rfl ?_
    refine g_iald (pc := 80) C dX12_getsTo_80 8 rfl h (fun v7 h => ?_)
    refine g_ldcw (pc := 81) C dX12_getsTo_81 ct_X12_363 ?_
    refine g_idiv (pc := 84) C dX12_getsTo_84 h (fun v8 h => ?_)
    refine g_iload_n (pc := 85) C dX12_getsTo_85 rfl 1 rfl ?_
    refine g_icmp_ne (pc := 86) (tgt := 98) C dX12_getsTo_86 (by decide) h (fun h => ?_) (fun h => ?_)
    · refine g_iincn (pc := 98) (j := 4) (d := -1) (lv' := fun v9 => [(5, .int v9), (0, .ref o_t), (2, .int x2), (3, .int x3), (4, .int s.1)]) C dX12_getsTo_98 rfl (by decide) (by decide) (fun _ => rfl) h (fun v9 h => ?_)
      refine g_goto (pc := 101) (tgt := 69) C dX12_getsTo_101 (by decide) ?_
      refine g_sub [1, 2, 3, 4, 0] rfl ?_
      exact ih _ h
    · refine g_aload_n (pc := 89) C dX12_getsTo_89 rfl 0 rfl ?_
      refine g_get (pc := 90) C fl_X12_105 dX12_getsTo_90 0 rfl rfl ?_
      refine g_iload (pc := 93) C dX12_getsTo_93 4 rfl ?_
      refine g_iald (pc := 95) C dX12_getsTo_95 8 rfl h (fun v10 h => ?_)
      refine g_istore (pc := 96) (lv' := [(4, .int v10), (0, .ref o_t), (2, .int x2), (3, .int x3), (5, .int s.2)]) C dX12_getsTo_96 (by decide) rfl ?_
      refine g_iincn (pc := 98) (j := 4) (d := -1) (lv' := fun v11 => [(5, .int v11), (4, .int v10), (0, .ref o_t), (2, .int x2), (3, .int x3)]) C dX12_getsTo_98 rfl (by decide) (by decide) (fun _ => rfl) h (fun v11 h => ?_)
      refine g_goto (pc := 101) (tgt := 69) C dX12_getsTo_101 (by decide) ?_
      refine g_sub [2, 3, 4, 1, 0] rfl ?_
      exact ih _ h
set_option maxHeartbeats 4000000 in
set_option maxRecDepth 100000 in
theorem c_X12_getsTo (l : Launch) (E : GE) (o_t : Nat) (a_t : Nat → Nat) (t_toldDoors : Int32) (t_barredDoors : Int32) (t_taped : Int32) (t_place0 : Int32) (t_length0 : Int32) (t_fault : Int32) (t_number0 : Int32) (t_open : Int32) (t_codeMany : Int32) (t_waiting : Int32) (t_saidMany : Int32) (t_clauses : Int32) (t_newMany : Int32) (t_rounds : Int32) (t_pinFrom : Int32) (t_pinTimes : Int32) (t_lines : Int32) (t_wasTold : Int32) (t_wasBarred : Int32) (t_goesNow : Int32) (t_jamsNow : Int32) (t_queued : Int32) (t_isKept : Int32) (t_now : (Nat → Int32)) (t_prongsOf : (Nat → Int32)) (t_oneOf : (Nat → Int32)) (t_otherOf : (Nat → Int32)) (t_wardsOf : (Nat → Int32)) (t_stepsTo : (Nat → Int32)) (t_firstBy : (Nat → Int32)) (t_queue : (Nat → Int32)) (x1 : Int32) (x2 : Int32) (x3 : Int32) (r : Int32 × Int32 × (Nat → Int32) × (Nat → Int32) × (Nat → Int32)) (h : f_X12_getsTo t_toldDoors t_barredDoors t_queued t_now t_prongsOf t_oneOf t_otherOf t_wardsOf t_stepsTo t_firstBy t_queue x1 x2 x3 = some r) : Cn l E yX12_getsTo cX12_getsTo 6 (some .int) 5 0 0 [.ref o_t, .int x1, .int x2, .int x3] (W_X12_getsTo E o_t a_t t_toldDoors t_barredDoors t_taped t_place0 t_length0 t_fault t_number0 t_open t_codeMany t_waiting t_saidMany t_clauses t_newMany t_rounds t_pinFrom t_pinTimes t_lines t_wasTold t_wasBarred t_goesNow t_jamsNow t_queued t_isKept t_now t_prongsOf t_oneOf t_otherOf t_wardsOf t_stepsTo t_firstBy t_queue) (fun w => w = (W_X12_getsTo E o_t a_t t_toldDoors t_barredDoors t_taped t_place0 t_length0 t_fault t_number0 t_open t_codeMany t_waiting t_saidMany t_clauses t_newMany t_rounds t_pinFrom t_pinTimes t_lines t_wasTold t_wasBarred t_goesNow t_jamsNow r.2.1 t_isKept t_now t_prongsOf t_oneOf t_otherOf t_wardsOf r.2.2.1 r.2.2.2.1 r.2.2.2.2)) (some (.int r.1)) := by
  refine Cn.ofI (by decide +kernel) (Nat.le_of_ble_eq_true rfl) (fun X hX hR C hret => ?_)
  subst hX
  show Gx X E 0 0 (W_X12_getsTo E o_t a_t t_toldDoors t_barredDoors t_taped t_place0 t_length0 t_fault t_number0 t_open t_codeMany t_waiting t_saidMany t_clauses t_newMany t_rounds t_pinFrom t_pinTimes t_lines t_wasTold t_wasBarred t_goesNow t_jamsNow t_queued t_isKept t_now t_prongsOf t_oneOf t_otherOf t_wardsOf t_stepsTo t_firstBy t_queue) 0 [(0, .ref o_t), (1, .int x1), (2, .int x2), (3, .int x3)] []
  unfold f_X12_getsTo at h
  refine g_aload_n (pc := 0) C dX12_getsTo_0 rfl 0 rfl ?_
  refine g_iload_n (pc := 1) C dX12_getsTo_1 rfl 1 rfl ?_
  obtain ⟨u1, hu1, h⟩ := bs h
  refine g_callV (pc := 2) (st := []) (st1 := [.int u1]) (ws' := (W_X12_getsTo E o_t a_t t_toldDoors t_barredDoors t_taped t_place0 t_length0 t_fault t_number0 t_open t_codeMany t_waiting t_saidMany t_clauses t_newMany t_rounds t_pinFrom t_pinTimes t_lines t_wasTold t_wasBarred t_goesNow t_jamsNow t_queued t_isKept t_now t_prongsOf t_oneOf t_otherOf t_wardsOf t_stepsTo t_firstBy t_queue)) C mv_X12_isWoman mi_X12_isWoman ml_X12_268 (c_X12_isWoman X.2.1 E o_t a_t t_toldDoors t_barredDoors t_taped t_place0 t_length0 t_fault t_number0 t_open t_codeMany t_waiting t_saidMany t_clauses t_newMany t_rounds t_pinFrom t_pinTimes t_lines t_wasTold t_wasBarred t_goesNow t_jamsNow t_queued t_isKept t_now x1 u1 hu1) dX12_getsTo_2 (by decide) rfl (Nat.le_of_ble_eq_true rfl) 0 11 rfl rfl [0, 1] rfl (by decide) rfl rfl rfl rfl ?_
  refine g_if_eq (pc := 5) (tgt := 27) C dX12_getsTo_5 (by decide) h (fun h => ?_) (fun h => ?_)
  · refine g_iconst (pc := 27) (v := -1) C dX12_getsTo_27 (by decide) ?_
    cases h
    exact hret _ _ _ dX12_getsTo_28 rfl rfl
  · refine g_iload_n (pc := 8) C dX12_getsTo_8 rfl 2 rfl ?_
    refine g_iconst (pc := 9) (v := 0) C dX12_getsTo_9 (by decide) ?_
    refine g_bipush (pc := 10) (v := 15) C dX12_getsTo_10 (by decide) ?_
    obtain ⟨u2, hu2, h⟩ := bs h
    refine g_callS (pc := 12) (st := []) (st1 := [.int u2]) (ws' := (W_X12_getsTo E o_t a_t t_toldDoors t_barredDoors t_taped t_place0 t_length0 t_fault t_number0 t_open t_codeMany t_waiting t_saidMany t_clauses t_newMany t_rounds t_pinFrom t_pinTimes t_lines t_wasTold t_wasBarred t_goesNow t_jamsNow t_queued t_isKept t_now t_prongsOf t_oneOf t_otherOf t_wardsOf t_stepsTo t_firstBy t_queue)) C mv_X12_in ms_X12_in ml_X12_117 (c_X12_in X.2.1 E x2 (0 : Int32) (15 : Int32) u2 hu2) dX12_getsTo_12 (by decide) rfl (Nat.le_of_ble_eq_true rfl) [] rfl (by decide) rfl rfl rfl rfl ?_
    refine g_if_eq (pc := 15) (tgt := 27) C dX12_getsTo_15 (by decide) h (fun h => ?_) (fun h => ?_)
    · refine g_iconst (pc := 27) (v := -1) C dX12_getsTo_27 (by decide) ?_
      cases h
      exact hret _ _ _ dX12_getsTo_28 rfl rfl
    · refine g_iload_n (pc := 18) C dX12_getsTo_18 rfl 3 rfl ?_
      refine g_iconst (pc := 19) (v := 0) C dX12_getsTo_19 (by decide) ?_
      refine g_iconst (pc := 20) (v := 1) C dX12_getsTo_20 (by decide) ?_
      obtain ⟨u3, hu3, h⟩ := bs h
      refine g_callS (pc := 21) (st := []) (st1 := [.int u3]) (ws' := (W_X12_getsTo E o_t a_t t_toldDoors t_barredDoors t_taped t_place0 t_length0 t_fault t_number0 t_open t_codeMany t_waiting t_saidMany t_clauses t_newMany t_rounds t_pinFrom t_pinTimes t_lines t_wasTold t_wasBarred t_goesNow t_jamsNow t_queued t_isKept t_now t_prongsOf t_oneOf t_otherOf t_wardsOf t_stepsTo t_firstBy t_queue)) C mv_X12_in ms_X12_in ml_X12_117 (c_X12_in X.2.1 E x3 (0 : Int32) (1 : Int32) u3 hu3) dX12_getsTo_21 (by decide) rfl (Nat.le_of_ble_eq_true rfl) [] rfl (by decide) rfl rfl rfl rfl ?_
      refine g_if_ne (pc := 24) (tgt := 29) C dX12_getsTo_24 (by decide) h (fun h => ?_) (fun h => ?_)
      · refine g_aload_n (pc := 29) C dX12_getsTo_29 rfl 0 rfl ?_
        refine g_get (pc := 30) C fl_X12_7 dX12_getsTo_30 0 rfl rfl ?_
        refine g_bipush (pc := 33) (v := 34) C dX12_getsTo_33 (by decide) ?_
        refine g_iload_n (pc := 35) C dX12_getsTo_35 rfl 1 rfl ?_
        refine g_iadd (pc := 36) C dX12_getsTo_36 ?_
        refine g_iald (pc := 37) C dX12_getsTo_37 1 rfl h (fun v4 h => ?_)
        refine g_iload_n (pc := 38) C dX12_getsTo_38 rfl 2 rfl ?_
        refine g_icmp_ne (pc := 39) (tgt := 53) C dX12_getsTo_39 (by decide) h (fun h => ?_) (fun h => ?_)
        · refine g_aload_n (pc := 53) C dX12_getsTo_53 rfl 0 rfl ?_
          refine g_iload_n (pc := 54) C dX12_getsTo_54 rfl 1 rfl ?_
          obtain ⟨u5, hu5, h⟩ := bs h
          refine g_callV (pc := 55) (st := []) (st1 := []) (ws' := (W_X12_getsTo E o_t a_t t_toldDoors t_barredDoors t_taped t_place0 t_length0 t_fault t_number0 t_open t_codeMany t_waiting t_saidMany t_clauses t_newMany t_rounds t_pinFrom t_pinTimes t_lines t_wasTold t_wasBarred t_goesNow t_jamsNow u5.1 t_isKept t_now t_prongsOf t_oneOf t_otherOf t_wardsOf u5.2.1 u5.2.2.1 u5.2.2.2)) C mv_X12_laysWays mi_X12_laysWays ml_X12_377 (c_X12_laysWays X.2.1 E o_t a_t t_toldDoors t_barredDoors t_taped t_place0 t_length0 t_fault t_number0 t_open t_codeMany t_waiting t_saidMany t_clauses t_newMany t_rounds t_pinFrom t_pinTimes t_lines t_wasTold t_wasBarred t_goesNow t_jamsNow t_queued t_isKept t_now t_prongsOf t_oneOf t_otherOf t_wardsOf t_stepsTo t_firstBy t_queue x1 u5 hu5) dX12_getsTo_55 (by decide) rfl (Nat.le_of_ble_eq_true rfl) 0 11 rfl rfl [0, 1, 2, 3, 4, 5, 6, 7, 8] rfl (by decide) rfl rfl rfl rfl ?_
          refine g_iconst (pc := 58) (v := -1) C dX12_getsTo_58 (by decide) ?_
          refine g_istore (pc := 59) (lv' := [(4, .int (-1 : Int32)), (0, .ref o_t), (1, .int x1), (2, .int x2), (3, .int x3)]) C dX12_getsTo_59 (by decide) rfl ?_
          refine g_aload_n (pc := 61) C dX12_getsTo_61 rfl 1 rfl ?_
          refine g_get (pc := 62) C fl_X12_367 dX12_getsTo_62 0 rfl rfl ?_
          refine g_iconst (pc := 65) (v := 1) C dX12_getsTo_65 (by decide) ?_
          refine g_isub (pc := 66) C dX12_getsTo_66 ?_
          refine g_nm h (fun v6 h => ?_)
          refine g_istore (pc := 67) (lv' := [(5, .int v6), (4, .int (-1 : Int32)), (0, .ref o_t), (1, .int x1), (2, .int x2), (3, .int x3)]) C dX12_getsTo_67 (by decide) rfl ?_
          refine g_sub [2, 4, 5, 1, 0] rfl ?_
          refine kL_X12_getsTo_69 C o_t a_t t_taped t_place0 t_length0 t_fault t_number0 t_open t_codeMany t_waiting t_saidMany t_clauses t_newMany t_rounds t_pinFrom t_pinTimes t_lines t_wasTold t_wasBarred t_goesNow t_jamsNow t_isKept t_toldDoors t_barredDoors u5.1 t_now t_prongsOf t_oneOf t_otherOf t_wardsOf u5.2.1 u5.2.2.1 u5.2.2.2 x2 x3 _ hret (fun s12 h => ?_) _ _ h
          refine g_iload (pc := 104) C dX12_getsTo_104 2 rfl ?_
          refine g_iconst (pc := 106) (v := -1) C dX12_getsTo_106 (by decide) ?_
          refine g_jn (fun s13 : Int32 => Gx X E 0 0 (W_X12_getsTo E o_t a_t t_toldDoors t_barredDoors t_taped t_place0 t_length0 t_fault t_number0 t_open t_codeMany t_waiting t_saidMany t_clauses t_newMany t_rounds t_pinFrom t_pinTimes t_lines t_wasTold t_wasBarred t_goesNow t_jamsNow u5.1 t_isKept t_now t_prongsOf t_oneOf t_otherOf t_wardsOf u5.2.1 u5.2.2.1 u5.2.2.2) 138 [(0, .ref o_t)] [.int s13]) h (fun s13 h => ?_) (fun j138 hj138 h => ?_)
          · refine g_istore (pc := 138) (lv' := [(5, .int s13), (0, .ref o_t)]) C dX12_getsTo_138 (by decide) rfl ?_
            refine g_aload_n (pc := 140) C dX12_getsTo_140 rfl 1 rfl ?_
            obtain ⟨u14, hu14, h⟩ := bs h
            refine g_callV (pc := 141) (st := []) (st1 := []) (ws' := (W_X12_getsTo E o_t a_t t_toldDoors t_barredDoors t_taped t_place0 t_length0 t_fault t_number0 t_open t_codeMany t_waiting t_saidMany t_clauses t_newMany t_rounds t_pinFrom t_pinTimes t_lines t_wasTold t_wasBarred t_goesNow t_jamsNow u5.1 t_isKept t_now t_prongsOf t_oneOf t_otherOf t_wardsOf u14 u5.2.2.1 u5.2.2.2)) C mv_X12_clearsWays mi_X12_clearsWays ml_X12_380 (c_X12_clearsWays X.2.1 E o_t a_t t_toldDoors t_barredDoors t_taped t_place0 t_length0 t_fault t_number0 t_open t_codeMany t_waiting t_saidMany t_clauses t_newMany t_rounds t_pinFrom t_pinTimes t_lines t_wasTold t_wasBarred t_goesNow t_jamsNow u5.1 t_isKept u5.2.1 u5.2.2.2 u14 hu14) dX12_getsTo_141 (by decide) rfl (Nat.le_of_ble_eq_true rfl) 0 11 rfl rfl [0, 6, 8] rfl (by decide) rfl rfl rfl rfl ?_
            refine g_iload (pc := 144) C dX12_getsTo_144 0 rfl ?_
            cases h
            exact hret _ _ _ dX12_getsTo_146 rfl rfl
          refine g_icmp_ne (pc := 107) (tgt := 115) C dX12_getsTo_107 (by decide) h (fun h => ?_) (fun h => ?_)
          · refine g_iload_n (pc := 115) C dX12_getsTo_115 rfl 1 rfl ?_
            refine g_if_ne (pc := 116) (tgt := 131) C dX12_getsTo_116 (by decide) h (fun h => ?_) (fun h => ?_)
            · refine g_aload_n (pc := 131) C dX12_getsTo_131 rfl 0 rfl ?_
              refine g_get (pc := 132) C fl_X12_102 dX12_getsTo_132 0 rfl rfl ?_
              refine g_iload (pc := 135) C dX12_getsTo_135 2 rfl ?_
              refine g_bald (pc := 137) C dX12_getsTo_137 7 rfl h (fun v15 h => ?_)
              refine g_sub [0] rfl ?_
              exact hj138 _ h
            · refine g_aload_n (pc := 119) C dX12_getsTo_119 rfl 0 rfl ?_
              refine g_get (pc := 120) C fl_X12_99 dX12_getsTo_120 0 rfl rfl ?_
              refine g_iload (pc := 123) C dX12_getsTo_123 2 rfl ?_
              refine g_bald (pc := 125) C dX12_getsTo_125 6 rfl h (fun v16 h => ?_)
              refine g_iconst (pc := 126) (v := 1) C dX12_getsTo_126 (by decide) ?_
              refine g_isub (pc := 127) C dX12_getsTo_127 ?_
              refine g_goto (pc := 128) (tgt := 138) C dX12_getsTo_128 (by decide) ?_
              refine g_sub [0] rfl ?_
              exact hj138 _ h
          · refine g_bipush (pc := 110) (v := -2) C dX12_getsTo_110 (by decide) ?_
            refine g_goto (pc := 112) (tgt := 138) C dX12_getsTo_112 (by decide) ?_
            refine g_sub [0] rfl ?_
            exact hj138 _ h
        · refine g_iload_n (pc := 42) C dX12_getsTo_42 rfl 3 rfl ?_
          refine g_if_ne (pc := 43) (tgt := 50) C dX12_getsTo_43 (by decide) h (fun h => ?_) (fun h => ?_)
          · refine g_bipush (pc := 50) (v := -4) C dX12_getsTo_50 (by decide) ?_
            cases h
            exact hret _ _ _ dX12_getsTo_52 rfl rfl
          · refine g_iconst (pc := 46) (v := 0) C dX12_getsTo_46 (by decide) ?_
            refine g_goto (pc := 47) (tgt := 52) C dX12_getsTo_47 (by decide) ?_
            cases h
            exact hret _ _ _ dX12_getsTo_52 rfl rfl
      · refine g_iconst (pc := 27) (v := -1) C dX12_getsTo_27 (by decide) ?_
        cases h
        exact hret _ _ _ dX12_getsTo_28 rfl rfl
abbrev W_X12_groups (E : GE) (O_t : Nat) (a_t : Nat → Nat) (t_toldDoors : Int32) (t_barredDoors : Int32) (t_taped : Int32) (t_place0 : Int32) (t_length0 : Int32) (t_fault : Int32) (t_number0 : Int32) (t_open : Int32) (t_codeMany : Int32) (t_waiting : Int32) (t_saidMany : Int32) (t_clauses : Int32) (t_newMany : Int32) (t_rounds : Int32) (t_pinFrom : Int32) (t_pinTimes : Int32) (t_lines : Int32) (t_wasTold : Int32) (t_wasBarred : Int32) (t_goesNow : Int32) (t_jamsNow : Int32) (t_queued : Int32) (t_isKept : Int32) (t_oneOf : (Nat → Int32)) (t_otherOf : (Nat → Int32)) : va_W := [(O_t, ob_X12 a_t t_toldDoors t_barredDoors t_taped t_place0 t_length0 t_fault t_number0 t_open t_codeMany t_waiting t_saidMany t_clauses t_newMany t_rounds t_pinFrom t_pinTimes t_lines t_wasTold t_wasBarred t_goesNow t_jamsNow t_queued t_isKept), (a_t 4, .inl (E.2.1, 24, .inl t_oneOf)), (a_t 5, .inl (E.2.1, 24, .inl t_otherOf))]
def L_X12_groups_7 (t_toldDoors : Int32) (t_barredDoors : Int32) (t_oneOf : (Nat → Int32)) (t_otherOf : (Nat → Int32)) (x1 : Int32) : Nat → Int32 × Int32 × Int32 → Option (Int32) := lp fun go s => if (16 : Int32) ≤ s.2.2 then (some s.1) else (f_X12_has s.2.1 s.2.2).bind fun u1 => if u1 = 0 then ((f_X12_groupOf t_toldDoors t_barredDoors t_oneOf t_otherOf s.2.2 x1).bind fun u2 => nm (s.2.1 ||| u2) fun v3 => nm (s.1 + (1 : Int32)) fun v4 => nm (s.2.2 + (1 : Int32)) fun v5 => go (v4, v3, v5)) else nm (s.2.2 + (1 : Int32)) fun v6 => go (s.1, s.2.1, v6)
def f_X12_groups (t_toldDoors : Int32) (t_barredDoors : Int32) (t_oneOf : (Nat → Int32)) (t_otherOf : (Nat → Int32)) (x1 : Int32) : Option (Int32) := L_X12_groups_7 t_toldDoors t_barredDoors t_oneOf t_otherOf x1 fu ((0 : Int32), (0 : Int32), (0 : Int32))
theorem dX12_groups_0 : decode cX12_groups 0 = .ok (.iconst 0, 1) := by decide +kernel
theorem dX12_groups_1 : decode cX12_groups 1 = .ok (.istore_n 2, 1) := by decide +kernel
theorem dX12_groups_2 : decode cX12_groups 2 = .ok (.iconst 0, 1) := by decide +kernel
theorem dX12_groups_3 : decode cX12_groups 3 = .ok (.istore_n 3, 1) := by decide +kernel
theorem dX12_groups_4 : decode cX12_groups 4 = .ok (.iconst 0, 1) := by decide +kernel
theorem dX12_groups_5 : decode cX12_groups 5 = .ok (.istore 4, 2) := by decide +kernel
theorem dX12_groups_7 : decode cX12_groups 7 = .ok (.iload 4, 2) := by decide +kernel
theorem dX12_groups_9 : decode cX12_groups 9 = .ok (.bipush 16, 2) := by decide +kernel
theorem dX12_groups_11 : decode cX12_groups 11 = .ok (.if_icmp .ge 35, 3) := by decide +kernel
theorem dX12_groups_14 : decode cX12_groups 14 = .ok (.iload_n 3, 1) := by decide +kernel
theorem dX12_groups_15 : decode cX12_groups 15 = .ok (.iload 4, 2) := by decide +kernel
theorem dX12_groups_17 : decode cX12_groups 17 = .ok (.invokestatic 125, 3) := by decide +kernel
theorem dX12_groups_20 : decode cX12_groups 20 = .ok (.ifCond .eq 6, 3) := by decide +kernel
theorem dX12_groups_23 : decode cX12_groups 23 = .ok (.goto 17, 3) := by decide +kernel
theorem dX12_groups_26 : decode cX12_groups 26 = .ok (.iload_n 3, 1) := by decide +kernel
theorem dX12_groups_27 : decode cX12_groups 27 = .ok (.aload_n 0, 1) := by decide +kernel
theorem dX12_groups_28 : decode cX12_groups 28 = .ok (.iload 4, 2) := by decide +kernel
theorem dX12_groups_30 : decode cX12_groups 30 = .ok (.iload_n 1, 1) := by decide +kernel
theorem dX12_groups_31 : decode cX12_groups 31 = .ok (.invokevirtual 390, 3) := by decide +kernel
theorem dX12_groups_34 : decode cX12_groups 34 = .ok (.ior, 1) := by decide +kernel
theorem dX12_groups_35 : decode cX12_groups 35 = .ok (.istore_n 3, 1) := by decide +kernel
theorem dX12_groups_36 : decode cX12_groups 36 = .ok (.iload_n 2, 1) := by decide +kernel
theorem dX12_groups_37 : decode cX12_groups 37 = .ok (.iconst 1, 1) := by decide +kernel
theorem dX12_groups_38 : decode cX12_groups 38 = .ok (.iadd, 1) := by decide +kernel
theorem dX12_groups_39 : decode cX12_groups 39 = .ok (.istore_n 2, 1) := by decide +kernel
theorem dX12_groups_40 : decode cX12_groups 40 = .ok (.iinc 4 1, 3) := by decide +kernel
theorem dX12_groups_43 : decode cX12_groups 43 = .ok (.goto (-36), 3) := by decide +kernel
theorem dX12_groups_46 : decode cX12_groups 46 = .ok (.iload_n 2, 1) := by decide +kernel
theorem dX12_groups_47 : decode cX12_groups 47 = .ok (.ireturn, 1) := by decide +kernel
set_option maxHeartbeats 4000000 in
set_option maxRecDepth 100000 in
theorem kL_X12_groups_7 {X : GC} {E : GE} (C : Cx X E cX12_groups RX12 5 5) (o_t : Nat) (a_t : Nat → Nat) (t_taped : Int32) (t_place0 : Int32) (t_length0 : Int32) (t_fault : Int32) (t_number0 : Int32) (t_open : Int32) (t_codeMany : Int32) (t_waiting : Int32) (t_saidMany : Int32) (t_clauses : Int32) (t_newMany : Int32) (t_rounds : Int32) (t_pinFrom : Int32) (t_pinTimes : Int32) (t_lines : Int32) (t_wasTold : Int32) (t_wasBarred : Int32) (t_goesNow : Int32) (t_jamsNow : Int32) (t_queued : Int32) (t_isKept : Int32) (t_toldDoors : Int32) (t_barredDoors : Int32) (t_oneOf : (Nat → Int32)) (t_otherOf : (Nat → Int32)) (x1 : Int32) {r : Int32} (hret : RtI X E cX12_groups .int 0 0 (fun w => w = (W_X12_groups E o_t a_t t_toldDoors t_barredDoors t_taped t_place0 t_length0 t_fault t_number0 t_open t_codeMany t_waiting t_saidMany t_clauses t_newMany t_rounds t_pinFrom t_pinTimes t_lines t_wasTold t_wasBarred t_goesNow t_jamsNow t_queued t_isKept t_oneOf t_otherOf)) r) : ∀ (n : Nat) (s : Int32 × Int32 × Int32), L_X12_groups_7 t_toldDoors t_barredDoors t_oneOf t_otherOf x1 n s = some r → Gx X E 0 0 (W_X12_groups E o_t a_t t_toldDoors t_barredDoors t_taped t_place0 t_length0 t_fault t_number0 t_open t_codeMany t_waiting t_saidMany t_clauses t_newMany t_rounds t_pinFrom t_pinTimes t_lines t_wasTold t_wasBarred t_goesNow t_jamsNow t_queued t_isKept t_oneOf t_otherOf) 7 [(0, .ref o_t), (1, .int x1), (2, .int s.1), (3, .int s.2.1), (4, .int s.2.2)] [] := by
  unfold L_X12_groups_7
  refine lp_ind _ (fun go ih s h => ?_)
  refine g_iload (pc := 7) C dX12_groups_7 4 rfl ?_
  refine g_bipush (pc := 9) (v := 16) C dX12_groups_9 (by decide) ?_
  refine g_icmp_ge (pc := 11) (tgt := 46) C dX12_groups_11 (by decide) h (fun h => ?_) (fun h => ?_)
  · refine g_iload_n (pc := 46) C dX12_groups_46 rfl 2 rfl ?_
    cases h
    exact hret _ _ _ dX12_groups_47 rfl rfl
  · refine g_iload_n (pc := 14) C dX12_groups_14 rfl 3 rfl ?_
    refine g_iload (pc := 15) C dX12_groups_15 4 rfl ?_
    obtain ⟨u1, hu1, h⟩ := bs h
    refine g_callS (pc := 17) (st := []) (st1 := [.int u1]) (ws' := (W_X12_groups E o_t a_t t_toldDoors t_barredDoors t_taped t_place0 t_length0 t_fault t_number0 t_open t_codeMany t_waiting t_saidMany t_clauses t_newMany t_rounds t_pinFrom t_pinTimes t_lines t_wasTold t_wasBarred t_goesNow t_jamsNow t_queued t_isKept t_oneOf t_otherOf)) C mv_X12_has ms_X12_has ml_X12_125 (c_X12_has X.2.1 E s.2.1 s.2.2 u1 hu1) dX12_groups_17 (by decide) rfl (Nat.le_of_ble_eq_true rfl) [] rfl (by decide) rfl rfl rfl rfl ?_
    refine g_if_eq (pc := 20) (tgt := 26) C dX12_groups_20 (by decide) h (fun h => ?_) (fun h => ?_)
    · refine g_iload_n (pc := 26) C dX12_groups_26 rfl 3 rfl ?_
      refine g_aload_n (pc := 27) C dX12_groups_27 rfl 0 rfl ?_
      refine g_iload (pc := 28) C dX12_groups_28 4 rfl ?_
      refine g_iload_n (pc := 30) C dX12_groups_30 rfl 1 rfl ?_
      obtain ⟨u2, hu2, h⟩ := bs h
      refine g_callV (pc := 31) (st := [.int s.2.1]) (st1 := [.int u2, .int s.2.1]) (ws' := (W_X12_groups E o_t a_t t_toldDoors t_barredDoors t_taped t_place0 t_length0 t_fault t_number0 t_open t_codeMany t_waiting t_saidMany t_clauses t_newMany t_rounds t_pinFrom t_pinTimes t_lines t_wasTold t_wasBarred t_goesNow t_jamsNow t_queued t_isKept t_oneOf t_otherOf)) C mv_X12_groupOf mi_X12_groupOf ml_X12_390 (c_X12_groupOf X.2.1 E o_t a_t t_toldDoors t_barredDoors t_taped t_place0 t_length0 t_fault t_number0 t_open t_codeMany t_waiting t_saidMany t_clauses t_newMany t_rounds t_pinFrom t_pinTimes t_lines t_wasTold t_wasBarred t_goesNow t_jamsNow t_queued t_isKept t_oneOf t_otherOf s.2.2 x1 u2 hu2) dX12_groups_31 (by decide) rfl (Nat.le_of_ble_eq_true rfl) 0 11 rfl rfl [0, 1, 2] rfl (by decide) rfl rfl rfl rfl ?_
      refine g_ior (pc := 34) C dX12_groups_34 ?_
      refine g_nm h (fun v3 h => ?_)
      refine g_istore_n (pc := 35) (lv' := [(3, .int v3), (0, .ref o_t), (1, .int x1), (2, .int s.1), (4, .int s.2.2)]) C dX12_groups_35 rfl (by decide) rfl ?_
      refine g_iload_n (pc := 36) C dX12_groups_36 rfl 3 rfl ?_
      refine g_iconst (pc := 37) (v := 1) C dX12_groups_37 (by decide) ?_
      refine g_iadd (pc := 38) C dX12_groups_38 ?_
      refine g_nm h (fun v4 h => ?_)
      refine g_istore_n (pc := 39) (lv' := [(2, .int v4), (3, .int v3), (0, .ref o_t), (1, .int x1), (4, .int s.2.2)]) C dX12_groups_39 rfl (by decide) rfl ?_
      refine g_iincn (pc := 40) (j := 4) (d := 1) (lv' := fun v5 => [(4, .int v5), (2, .int v4), (3, .int v3), (0, .ref o_t), (1, .int x1)]) C dX12_groups_40 rfl (by decide) (by decide) (fun _ => rfl) h (fun v5 h => ?_)
      refine g_goto (pc := 43) (tgt := 7) C dX12_groups_43 (by decide) ?_
      refine g_sub [3, 4, 1, 2, 0] rfl ?_
      exact ih _ h
    · refine g_goto (pc := 23) (tgt := 40) C dX12_groups_23 (by decide) ?_
      refine g_iincn (pc := 40) (j := 4) (d := 1) (lv' := fun v6 => [(4, .int v6), (0, .ref o_t), (1, .int x1), (2, .int s.1), (3, .int s.2.1)]) C dX12_groups_40 rfl (by decide) (by decide) (fun _ => rfl) h (fun v6 h => ?_)
      refine g_goto (pc := 43) (tgt := 7) C dX12_groups_43 (by decide) ?_
      refine g_sub [1, 2, 3, 4, 0] rfl ?_
      exact ih _ h
set_option maxHeartbeats 4000000 in
set_option maxRecDepth 100000 in
theorem c_X12_groups (l : Launch) (E : GE) (o_t : Nat) (a_t : Nat → Nat) (t_toldDoors : Int32) (t_barredDoors : Int32) (t_taped : Int32) (t_place0 : Int32) (t_length0 : Int32) (t_fault : Int32) (t_number0 : Int32) (t_open : Int32) (t_codeMany : Int32) (t_waiting : Int32) (t_saidMany : Int32) (t_clauses : Int32) (t_newMany : Int32) (t_rounds : Int32) (t_pinFrom : Int32) (t_pinTimes : Int32) (t_lines : Int32) (t_wasTold : Int32) (t_wasBarred : Int32) (t_goesNow : Int32) (t_jamsNow : Int32) (t_queued : Int32) (t_isKept : Int32) (t_oneOf : (Nat → Int32)) (t_otherOf : (Nat → Int32)) (x1 : Int32) (r : Int32) (h : f_X12_groups t_toldDoors t_barredDoors t_oneOf t_otherOf x1 = some r) : Cn l E yX12_groups cX12_groups 5 (some .int) 5 0 0 [.ref o_t, .int x1] (W_X12_groups E o_t a_t t_toldDoors t_barredDoors t_taped t_place0 t_length0 t_fault t_number0 t_open t_codeMany t_waiting t_saidMany t_clauses t_newMany t_rounds t_pinFrom t_pinTimes t_lines t_wasTold t_wasBarred t_goesNow t_jamsNow t_queued t_isKept t_oneOf t_otherOf) (fun w => w = (W_X12_groups E o_t a_t t_toldDoors t_barredDoors t_taped t_place0 t_length0 t_fault t_number0 t_open t_codeMany t_waiting t_saidMany t_clauses t_newMany t_rounds t_pinFrom t_pinTimes t_lines t_wasTold t_wasBarred t_goesNow t_jamsNow t_queued t_isKept t_oneOf t_otherOf)) (some (.int r)) := by
  refine Cn.ofI (by decide +kernel) (Nat.le_of_ble_eq_true rfl) (fun X hX hR C hret => ?_)
  subst hX
  show Gx X E 0 0 (W_X12_groups E o_t a_t t_toldDoors t_barredDoors t_taped t_place0 t_length0 t_fault t_number0 t_open t_codeMany t_waiting t_saidMany t_clauses t_newMany t_rounds t_pinFrom t_pinTimes t_lines t_wasTold t_wasBarred t_goesNow t_jamsNow t_queued t_isKept t_oneOf t_otherOf) 0 [(0, .ref o_t), (1, .int x1)] []
  unfold f_X12_groups at h
  refine g_iconst (pc := 0) (v := 0) C dX12_groups_0 (by decide) ?_
  refine g_istore_n (pc := 1) (lv' := [(2, .int (0 : Int32)), (0, .ref o_t), (1, .int x1)]) C dX12_groups_1 rfl (by decide) rfl ?_
  refine g_iconst (pc := 2) (v := 0) C dX12_groups_2 (by decide) ?_
  refine g_istore_n (pc := 3) (lv' := [(3, .int (0 : Int32)), (2, .int (0 : Int32)), (0, .ref o_t), (1, .int x1)]) C dX12_groups_3 rfl (by decide) rfl ?_
  refine g_iconst (pc := 4) (v := 0) C dX12_groups_4 (by decide) ?_
  refine g_istore (pc := 5) (lv' := [(4, .int (0 : Int32)), (3, .int (0 : Int32)), (2, .int (0 : Int32)), (0, .ref o_t), (1, .int x1)]) C dX12_groups_5 (by decide) rfl ?_
  refine g_sub [3, 4, 2, 1, 0] rfl ?_
  refine kL_X12_groups_7 C o_t a_t t_taped t_place0 t_length0 t_fault t_number0 t_open t_codeMany t_waiting t_saidMany t_clauses t_newMany t_rounds t_pinFrom t_pinTimes t_lines t_wasTold t_wasBarred t_goesNow t_jamsNow t_queued t_isKept t_toldDoors t_barredDoors t_oneOf t_otherOf x1 hret  _ _ h
abbrev W_X12_near (E : GE) (O_t : Nat) (a_t : Nat → Nat) (t_toldDoors : Int32) (t_barredDoors : Int32) (t_taped : Int32) (t_place0 : Int32) (t_length0 : Int32) (t_fault : Int32) (t_number0 : Int32) (t_open : Int32) (t_codeMany : Int32) (t_waiting : Int32) (t_saidMany : Int32) (t_clauses : Int32) (t_newMany : Int32) (t_rounds : Int32) (t_pinFrom : Int32) (t_pinTimes : Int32) (t_lines : Int32) (t_wasTold : Int32) (t_wasBarred : Int32) (t_goesNow : Int32) (t_jamsNow : Int32) (t_queued : Int32) (t_isKept : Int32) (t_now : (Nat → Int32)) (t_prongsOf : (Nat → Int32)) (t_oneOf : (Nat → Int32)) (t_otherOf : (Nat → Int32)) (t_wardsOf : (Nat → Int32)) (t_stepsTo : (Nat → Int32)) (t_firstBy : (Nat → Int32)) (t_queue : (Nat → Int32)) : va_W := [(O_t, ob_X12 a_t t_toldDoors t_barredDoors t_taped t_place0 t_length0 t_fault t_number0 t_open t_codeMany t_waiting t_saidMany t_clauses t_newMany t_rounds t_pinFrom t_pinTimes t_lines t_wasTold t_wasBarred t_goesNow t_jamsNow t_queued t_isKept), (a_t 0, .inl (E.2.1, 166, .inl t_now)), (a_t 3, .inl (E.2.1, 6, .inl t_prongsOf)), (a_t 4, .inl (E.2.1, 24, .inl t_oneOf)), (a_t 5, .inl (E.2.1, 24, .inl t_otherOf)), (a_t 6, .inl (E.2.1, 24, .inl t_wardsOf)), (a_t 50, .inl (E.2.2.1, 1882384, .inl t_stepsTo)), (a_t 51, .inl (E.2.2.1, 1882384, .inl t_firstBy)), (a_t 52, .inl (E.2.1, 15000, .inl t_queue))]
def L_X12_near_19 (t_toldDoors : Int32) (t_barredDoors : Int32) (t_queued : Int32) (t_now : (Nat → Int32)) (t_prongsOf : (Nat → Int32)) (t_oneOf : (Nat → Int32)) (t_otherOf : (Nat → Int32)) (t_wardsOf : (Nat → Int32)) (t_stepsTo : (Nat → Int32)) (t_firstBy : (Nat → Int32)) (t_queue : (Nat → Int32)) (k0 : Int32 → Option (Int32 × Int32 × (Nat → Int32) × (Nat → Int32) × (Nat → Int32))) : Nat → Int32 × Int32 → Option (Int32 × Int32 × (Nat → Int32) × (Nat → Int32) × (Nat → Int32)) := lp fun go s => if t_queued ≤ s.2 then (k0 s.1) else rd t_queue 15000 s.2 fun v3 => dv v3 (117649 : Int32) fun v4 => nm (s.1 ||| ((1 : Int32) <<< (v4 &&& 31))) fun v5 => nm (s.2 + (1 : Int32)) fun v6 => go (v5, v6)
def f_X12_near (t_toldDoors : Int32) (t_barredDoors : Int32) (t_queued : Int32) (t_now : (Nat → Int32)) (t_prongsOf : (Nat → Int32)) (t_oneOf : (Nat → Int32)) (t_otherOf : (Nat → Int32)) (t_wardsOf : (Nat → Int32)) (t_stepsTo : (Nat → Int32)) (t_firstBy : (Nat → Int32)) (t_queue : (Nat → Int32)) (x1 : Int32) : Option (Int32 × Int32 × (Nat → Int32) × (Nat → Int32) × (Nat → Int32)) := (f_X12_isWoman t_now x1).bind fun u1 => if u1 = 0 then (some ((-1 : Int32), t_queued, t_stepsTo, t_firstBy, t_queue)) else (f_X12_laysWays t_toldDoors t_barredDoors t_queued t_now t_prongsOf t_oneOf t_otherOf t_wardsOf t_stepsTo t_firstBy t_queue x1).bind fun u2 => L_X12_near_19 t_toldDoors t_barredDoors u2.1 t_now t_prongsOf t_oneOf t_otherOf t_wardsOf u2.2.1 u2.2.2.1 u2.2.2.2 (fun s7 => (f_X12_clearsWays u2.1 u2.2.1 u2.2.2.2).bind fun u8 => some (s7, u2.1, u8, u2.2.2.1, u2.2.2.2)) fu ((0 : Int32), (0 : Int32))
theorem dX12_near_0 : decode cX12_near 0 = .ok (.aload_n 0, 1) := by decide +kernel
theorem dX12_near_1 : decode cX12_near 1 = .ok (.iload_n 1, 1) := by decide +kernel
theorem dX12_near_2 : decode cX12_near 2 = .ok (.invokevirtual 268, 3) := by decide +kernel
theorem dX12_near_5 : decode cX12_near 5 = .ok (.ifCond .ne 5, 3) := by decide +kernel
theorem dX12_near_8 : decode cX12_near 8 = .ok (.iconst (-1), 1) := by decide +kernel
theorem dX12_near_9 : decode cX12_near 9 = .ok (.ireturn, 1) := by decide +kernel
theorem dX12_near_10 : decode cX12_near 10 = .ok (.aload_n 0, 1) := by decide +kernel
theorem dX12_near_11 : decode cX12_near 11 = .ok (.iload_n 1, 1) := by decide +kernel
theorem dX12_near_12 : decode cX12_near 12 = .ok (.invokevirtual 377, 3) := by decide +kernel
theorem dX12_near_15 : decode cX12_near 15 = .ok (.iconst 0, 1) := by decide +kernel
theorem dX12_near_16 : decode cX12_near 16 = .ok (.istore_n 2, 1) := by decide +kernel
theorem dX12_near_17 : decode cX12_near 17 = .ok (.iconst 0, 1) := by decide +kernel
theorem dX12_near_18 : decode cX12_near 18 = .ok (.istore_n 3, 1) := by decide +kernel
theorem dX12_near_19 : decode cX12_near 19 = .ok (.iload_n 3, 1) := by decide +kernel
theorem dX12_near_20 : decode cX12_near 20 = .ok (.aload_n 0, 1) := by decide +kernel
theorem dX12_near_21 : decode cX12_near 21 = .ok (.getfield 367, 3) := by decide +kernel
theorem dX12_near_24 : decode cX12_near 24 = .ok (.if_icmp .ge 24, 3) := by decide +kernel
theorem dX12_near_27 : decode cX12_near 27 = .ok (.iload_n 2, 1) := by decide +kernel
theorem dX12_near_28 : decode cX12_near 28 = .ok (.iconst 1, 1) := by decide +kernel
theorem dX12_near_29 : decode cX12_near 29 = .ok (.aload_n 0, 1) := by decide +kernel
theorem dX12_near_30 : decode cX12_near 30 = .ok (.getfield 105, 3) := by decide +kernel
theorem dX12_near_33 : decode cX12_near 33 = .ok (.iload_n 3, 1) := by decide +kernel
theorem dX12_near_34 : decode cX12_near 34 = .ok (.iaload, 1) := by decide +kernel
theorem dX12_near_35 : decode cX12_near 35 = .ok (.ldc_w 363, 3) := by decide +kernel
theorem dX12_near_38 : decode cX12_near 38 = .ok (.idiv, 1) := by decide +kernel
theorem dX12_near_39 : decode cX12_near 39 = .ok (.ishl, 1) := by decide +kernel
theorem dX12_near_40 : decode cX12_near 40 = .ok (.ior, 1) := by decide +kernel
theorem dX12_near_41 : decode cX12_near 41 = .ok (.istore_n 2, 1) := by decide +kernel
theorem dX12_near_42 : decode cX12_near 42 = .ok (.iinc 3 1, 3) := by decide +kernel
theorem dX12_near_45 : decode cX12_near 45 = .ok (.goto (-26), 3) := by decide +kernel
theorem dX12_near_48 : decode cX12_near 48 = .ok (.aload_n 0, 1) := by decide +kernel
theorem dX12_near_49 : decode cX12_near 49 = .ok (.invokevirtual 380, 3) := by decide +kernel
theorem dX12_near_52 : decode cX12_near 52 = .ok (.iload_n 2, 1) := by decide +kernel
theorem dX12_near_53 : decode cX12_near 53 = .ok (.ireturn, 1) := by decide +kernel
set_option maxHeartbeats 4000000 in
set_option maxRecDepth 100000 in
theorem kL_X12_near_19 {X : GC} {E : GE} (C : Cx X E cX12_near RX12 5 4) (o_t : Nat) (a_t : Nat → Nat) (t_taped : Int32) (t_place0 : Int32) (t_length0 : Int32) (t_fault : Int32) (t_number0 : Int32) (t_open : Int32) (t_codeMany : Int32) (t_waiting : Int32) (t_saidMany : Int32) (t_clauses : Int32) (t_newMany : Int32) (t_rounds : Int32) (t_pinFrom : Int32) (t_pinTimes : Int32) (t_lines : Int32) (t_wasTold : Int32) (t_wasBarred : Int32) (t_goesNow : Int32) (t_jamsNow : Int32) (t_isKept : Int32) (t_toldDoors : Int32) (t_barredDoors : Int32) (t_queued : Int32) (t_now : (Nat → Int32)) (t_prongsOf : (Nat → Int32)) (t_oneOf : (Nat → Int32)) (t_otherOf : (Nat → Int32)) (t_wardsOf : (Nat → Int32)) (t_stepsTo : (Nat → Int32)) (t_firstBy : (Nat → Int32)) (t_queue : (Nat → Int32)) (k0 : Int32 → Option (Int32 × Int32 × (Nat → Int32) × (Nat → Int32) × (Nat → Int32))) {r : Int32 × Int32 × (Nat → Int32) × (Nat → Int32) × (Nat → Int32)} (hret : RtI X E cX12_near .int 0 0 (fun w => w = (W_X12_near E o_t a_t t_toldDoors t_barredDoors t_taped t_place0 t_length0 t_fault t_number0 t_open t_codeMany t_waiting t_saidMany t_clauses t_newMany t_rounds t_pinFrom t_pinTimes t_lines t_wasTold t_wasBarred t_goesNow t_jamsNow r.2.1 t_isKept t_now t_prongsOf t_oneOf t_otherOf t_wardsOf r.2.2.1 r.2.2.2.1 r.2.2.2.2)) r.1) (hk0 : ∀ u, k0 u = some r → Gx X E 0 0 (W_X12_near E o_t a_t t_toldDoors t_barredDoors t_taped t_place0 t_length0 t_fault t_number0 t_open t_codeMany t_waiting t_saidMany t_clauses t_newMany t_rounds t_pinFrom t_pinTimes t_lines t_wasTold t_wasBarred t_goesNow t_jamsNow t_queued t_isKept t_now t_prongsOf t_oneOf t_otherOf t_wardsOf t_stepsTo t_firstBy t_queue) 48 [(0, .ref o_t), (2, .int u)] []) : ∀ (n : Nat) (s : Int32 × Int32), L_X12_near_19 t_toldDoors t_barredDoors t_queued t_now t_prongsOf t_oneOf t_otherOf t_wardsOf t_stepsTo t_firstBy t_queue k0 n s = some r → Gx X E 0 0 (W_X12_near E o_t a_t t_toldDoors t_barredDoors t_taped t_place0 t_length0 t_fault t_number0 t_open t_codeMany t_waiting t_saidMany t_clauses t_newMany t_rounds t_pinFrom t_pinTimes t_lines t_wasTold t_wasBarred t_goesNow t_jamsNow t_queued t_isKept t_now t_prongsOf t_oneOf t_otherOf t_wardsOf t_stepsTo t_firstBy t_queue) 19 [(0, .ref o_t), (2, .int s.1), (3, .int s.2)] [] := by
  unfold L_X12_near_19
  refine lp_ind _ (fun go ih s h => ?_)
  refine g_iload_n (pc := 19) C dX12_near_19 rfl 2 rfl ?_
  refine g_aload_n (pc := 20) C dX12_near_20 rfl 0 rfl ?_
  refine g_get (pc := 21) C fl_X12_367 dX12_near_21 0 rfl rfl ?_
  refine g_icmp_ge (pc := 24) (tgt := 48) C dX12_near_24 (by decide) h (fun h => ?_) (fun h => ?_)
  · refine g_sub [0, 1] rfl ?_
    exact hk0 _ h
  · refine g_iload_n (pc := 27) C dX12_near_27 rfl 1 rfl ?_
    refine g_iconst (pc := 28) (v := 1) C dX12_near_28 (by decide) ?_
    refine g_aload_n (pc := 29) C dX12_near_29 rfl 0 rfl ?_
    refine g_get (pc := 30) C fl_X12_105 dX12_near_30 0 rfl rfl ?_
    refine g_iload_n (pc := 33) C dX12_near_33 rfl 2 rfl ?_
    refine g_iald (pc := 34) C dX12_near_34 8 rfl h (fun v3 h => ?_)
    refine g_ldcw (pc := 35) C dX12_near_35 ct_X12_363 ?_
    refine g_idiv (pc := 38) C dX12_near_38 h (fun v4 h => ?_)
    refine g_ishl (pc := 39) C dX12_near_39 ?_
    refine g_ior (pc := 40) C dX12_near_40 ?_
    refine g_nm h (fun v5 h => ?_)
    refine g_istore_n (pc := 41) (lv' := [(2, .int v5), (0, .ref o_t), (3, .int s.2)]) C dX12_near_41 rfl (by decide) rfl ?_
    refine g_iincn (pc := 42) (j := 2) (d := 1) (lv' := fun v6 => [(3, .int v6), (2, .int v5), (0, .ref o_t)]) C dX12_near_42 rfl (by decide) (by decide) (fun _ => rfl) h (fun v6 h => ?_)
    refine g_goto (pc := 45) (tgt := 19) C dX12_near_45 (by decide) ?_
    refine g_sub [2, 1, 0] rfl ?_
    exact ih _ h
set_option maxHeartbeats 4000000 in
set_option maxRecDepth 100000 in
theorem c_X12_near (l : Launch) (E : GE) (o_t : Nat) (a_t : Nat → Nat) (t_toldDoors : Int32) (t_barredDoors : Int32) (t_taped : Int32) (t_place0 : Int32) (t_length0 : Int32) (t_fault : Int32) (t_number0 : Int32) (t_open : Int32) (t_codeMany : Int32) (t_waiting : Int32) (t_saidMany : Int32) (t_clauses : Int32) (t_newMany : Int32) (t_rounds : Int32) (t_pinFrom : Int32) (t_pinTimes : Int32) (t_lines : Int32) (t_wasTold : Int32) (t_wasBarred : Int32) (t_goesNow : Int32) (t_jamsNow : Int32) (t_queued : Int32) (t_isKept : Int32) (t_now : (Nat → Int32)) (t_prongsOf : (Nat → Int32)) (t_oneOf : (Nat → Int32)) (t_otherOf : (Nat → Int32)) (t_wardsOf : (Nat → Int32)) (t_stepsTo : (Nat → Int32)) (t_firstBy : (Nat → Int32)) (t_queue : (Nat → Int32)) (x1 : Int32) (r : Int32 × Int32 × (Nat → Int32) × (Nat → Int32) × (Nat → Int32)) (h : f_X12_near t_toldDoors t_barredDoors t_queued t_now t_prongsOf t_oneOf t_otherOf t_wardsOf t_stepsTo t_firstBy t_queue x1 = some r) : Cn l E yX12_near cX12_near 4 (some .int) 5 0 0 [.ref o_t, .int x1] (W_X12_near E o_t a_t t_toldDoors t_barredDoors t_taped t_place0 t_length0 t_fault t_number0 t_open t_codeMany t_waiting t_saidMany t_clauses t_newMany t_rounds t_pinFrom t_pinTimes t_lines t_wasTold t_wasBarred t_goesNow t_jamsNow t_queued t_isKept t_now t_prongsOf t_oneOf t_otherOf t_wardsOf t_stepsTo t_firstBy t_queue) (fun w => w = (W_X12_near E o_t a_t t_toldDoors t_barredDoors t_taped t_place0 t_length0 t_fault t_number0 t_open t_codeMany t_waiting t_saidMany t_clauses t_newMany t_rounds t_pinFrom t_pinTimes t_lines t_wasTold t_wasBarred t_goesNow t_jamsNow r.2.1 t_isKept t_now t_prongsOf t_oneOf t_otherOf t_wardsOf r.2.2.1 r.2.2.2.1 r.2.2.2.2)) (some (.int r.1)) := by
  refine Cn.ofI (by decide +kernel) (Nat.le_of_ble_eq_true rfl) (fun X hX hR C hret => ?_)
  subst hX
  show Gx X E 0 0 (W_X12_near E o_t a_t t_toldDoors t_barredDoors t_taped t_place0 t_length0 t_fault t_number0 t_open t_codeMany t_waiting t_saidMany t_clauses t_newMany t_rounds t_pinFrom t_pinTimes t_lines t_wasTold t_wasBarred t_goesNow t_jamsNow t_queued t_isKept t_now t_prongsOf t_oneOf t_otherOf t_wardsOf t_stepsTo t_firstBy t_queue) 0 [(0, .ref o_t), (1, .int x1)] []
  unfold f_X12_near at h
  refine g_aload_n (pc := 0) C dX12_near_0 rfl 0 rfl ?_
  refine g_iload_n (pc := 1) C dX12_near_1 rfl 1 rfl ?_
  obtain ⟨u1, hu1, h⟩ := bs h
  refine g_callV (pc := 2) (st := []) (st1 := [.int u1]) (ws' := (W_X12_near E o_t a_t t_toldDoors t_barredDoors t_taped t_place0 t_length0 t_fault t_number0 t_open t_codeMany t_waiting t_saidMany t_clauses t_newMany t_rounds t_pinFrom t_pinTimes t_lines t_wasTold t_wasBarred t_goesNow t_jamsNow t_queued t_isKept t_now t_prongsOf t_oneOf t_otherOf t_wardsOf t_stepsTo t_firstBy t_queue)) C mv_X12_isWoman mi_X12_isWoman ml_X12_268 (c_X12_isWoman X.2.1 E o_t a_t t_toldDoors t_barredDoors t_taped t_place0 t_length0 t_fault t_number0 t_open t_codeMany t_waiting t_saidMany t_clauses t_newMany t_rounds t_pinFrom t_pinTimes t_lines t_wasTold t_wasBarred t_goesNow t_jamsNow t_queued t_isKept t_now x1 u1 hu1) dX12_near_2 (by decide) rfl (Nat.le_of_ble_eq_true rfl) 0 11 rfl rfl [0, 1] rfl (by decide) rfl rfl rfl rfl ?_
  refine g_if_ne (pc := 5) (tgt := 10) C dX12_near_5 (by decide) h (fun h => ?_) (fun h => ?_)
  · refine g_aload_n (pc := 10) C dX12_near_10 rfl 0 rfl ?_
    refine g_iload_n (pc := 11) C dX12_near_11 rfl 1 rfl ?_
    obtain ⟨u2, hu2, h⟩ := bs h
    refine g_callV (pc := 12) (st := []) (st1 := []) (ws' := (W_X12_near E o_t a_t t_toldDoors t_barredDoors t_taped t_place0 t_length0 t_fault t_number0 t_open t_codeMany t_waiting t_saidMany t_clauses t_newMany t_rounds t_pinFrom t_pinTimes t_lines t_wasTold t_wasBarred t_goesNow t_jamsNow u2.1 t_isKept t_now t_prongsOf t_oneOf t_otherOf t_wardsOf u2.2.1 u2.2.2.1 u2.2.2.2)) C mv_X12_laysWays mi_X12_laysWays ml_X12_377 (c_X12_laysWays X.2.1 E o_t a_t t_toldDoors t_barredDoors t_taped t_place0 t_length0 t_fault t_number0 t_open t_codeMany t_waiting t_saidMany t_clauses t_newMany t_rounds t_pinFrom t_pinTimes t_lines t_wasTold t_wasBarred t_goesNow t_jamsNow t_queued t_isKept t_now t_prongsOf t_oneOf t_otherOf t_wardsOf t_stepsTo t_firstBy t_queue x1 u2 hu2) dX12_near_12 (by decide) rfl (Nat.le_of_ble_eq_true rfl) 0 11 rfl rfl [0, 1, 2, 3, 4, 5, 6, 7, 8] rfl (by decide) rfl rfl rfl rfl ?_
    refine g_iconst (pc := 15) (v := 0) C dX12_near_15 (by decide) ?_
    refine g_istore_n (pc := 16) (lv' := [(2, .int (0 : Int32)), (0, .ref o_t), (1, .int x1)]) C dX12_near_16 rfl (by decide) rfl ?_
    refine g_iconst (pc := 17) (v := 0) C dX12_near_17 (by decide) ?_
    refine g_istore_n (pc := 18) (lv' := [(3, .int (0 : Int32)), (2, .int (0 : Int32)), (0, .ref o_t), (1, .int x1)]) C dX12_near_18 rfl (by decide) rfl ?_
    refine g_sub [2, 1, 0] rfl ?_
    refine kL_X12_near_19 C o_t a_t t_taped t_place0 t_length0 t_fault t_number0 t_open t_codeMany t_waiting t_saidMany t_clauses t_newMany t_rounds t_pinFrom t_pinTimes t_lines t_wasTold t_wasBarred t_goesNow t_jamsNow t_isKept t_toldDoors t_barredDoors u2.1 t_now t_prongsOf t_oneOf t_otherOf t_wardsOf u2.2.1 u2.2.2.1 u2.2.2.2 _ hret (fun s7 h => ?_) _ _ h
    refine g_aload_n (pc := 48) C dX12_near_48 rfl 0 rfl ?_
    obtain ⟨u8, hu8, h⟩ := bs h
    refine g_callV (pc := 49) (st := []) (st1 := []) (ws' := (W_X12_near E o_t a_t t_toldDoors t_barredDoors t_taped t_place0 t_length0 t_fault t_number0 t_open t_codeMany t_waiting t_saidMany t_clauses t_newMany t_rounds t_pinFrom t_pinTimes t_lines t_wasTold t_wasBarred t_goesNow t_jamsNow u2.1 t_isKept t_now t_prongsOf t_oneOf t_otherOf t_wardsOf u8 u2.2.2.1 u2.2.2.2)) C mv_X12_clearsWays mi_X12_clearsWays ml_X12_380 (c_X12_clearsWays X.2.1 E o_t a_t t_toldDoors t_barredDoors t_taped t_place0 t_length0 t_fault t_number0 t_open t_codeMany t_waiting t_saidMany t_clauses t_newMany t_rounds t_pinFrom t_pinTimes t_lines t_wasTold t_wasBarred t_goesNow t_jamsNow u2.1 t_isKept u2.2.1 u2.2.2.2 u8 hu8) dX12_near_49 (by decide) rfl (Nat.le_of_ble_eq_true rfl) 0 11 rfl rfl [0, 6, 8] rfl (by decide) rfl rfl rfl rfl ?_
    refine g_iload_n (pc := 52) C dX12_near_52 rfl 1 rfl ?_
    cases h
    exact hret _ _ _ dX12_near_53 rfl rfl
  · refine g_iconst (pc := 8) (v := -1) C dX12_near_8 (by decide) ?_
    cases h
    exact hret _ _ _ dX12_near_9 rfl rfl
abbrev W_X12_readsDoor (E : GE) (O_t : Nat) (a_t : Nat → Nat) (t_toldDoors : Int32) (t_barredDoors : Int32) (t_taped : Int32) (t_place0 : Int32) (t_length0 : Int32) (t_fault : Int32) (t_number0 : Int32) (t_open : Int32) (t_codeMany : Int32) (t_waiting : Int32) (t_saidMany : Int32) (t_clauses : Int32) (t_newMany : Int32) (t_rounds : Int32) (t_pinFrom : Int32) (t_pinTimes : Int32) (t_lines : Int32) (t_wasTold : Int32) (t_wasBarred : Int32) (t_goesNow : Int32) (t_jamsNow : Int32) (t_queued : Int32) (t_isKept : Int32) (t_now : (Nat → Int32)) (t_oneOf : (Nat → Int32)) (t_otherOf : (Nat → Int32)) (t_wardsOf : (Nat → Int32)) (t_tape : (Nat → Int32)) : va_W := [(O_t, ob_X12 a_t t_toldDoors t_barredDoors t_taped t_place0 t_length0 t_fault t_number0 t_open t_codeMany t_waiting t_saidMany t_clauses t_newMany t_rounds t_pinFrom t_pinTimes t_lines t_wasTold t_wasBarred t_goesNow t_jamsNow t_queued t_isKept), (a_t 0, .inl (E.2.1, 166, .inl t_now)), (a_t 4, .inl (E.2.1, 24, .inl t_oneOf)), (a_t 5, .inl (E.2.1, 24, .inl t_otherOf)), (a_t 6, .inl (E.2.1, 24, .inl t_wardsOf)), (a_t 13, .inl (E.2.2.1, 260, .inl t_tape))]
def f_X12_readsDoor (t_toldDoors : Int32) (t_barredDoors : Int32) (t_place0 : Int32) (t_length0 : Int32) (t_fault : Int32) (t_number0 : Int32) (t_now : (Nat → Int32)) (t_oneOf : (Nat → Int32)) (t_otherOf : (Nat → Int32)) (t_wardsOf : (Nat → Int32)) (t_tape : (Nat → Int32)) : Option (Int32 × Int32 × Int32 × Int32 × Int32 × Int32 × (Nat → Int32) × (Nat → Int32) × (Nat → Int32) × (Nat → Int32)) := (f_X12_readsWithin t_place0 t_length0 t_fault t_number0 t_tape (23 : Int32)).bind fun u1 => if u1.1 = 0 then (some ((0 : Int32), t_toldDoors, t_barredDoors, u1.2.1, u1.2.2.1, u1.2.2.2, t_now, t_oneOf, t_otherOf, t_wardsOf)) else (f_X12_here u1.2.1 t_length0 t_tape).bind fun u2 => jn (fun s3 : Unit => jn (fun s4 : Unit => nm (u1.2.1 + (1 : Int32)) fun v5 => if u2 = (58 : Int32) then ((f_X12_readsRooms t_toldDoors t_barredDoors v5 t_length0 u1.2.2.1 u1.2.2.2 t_now t_oneOf t_otherOf t_wardsOf t_tape u1.2.2.2).bind fun u8 => gb u8.1 <| some (u8.1, u8.2.1, u8.2.2.1, u8.2.2.2.1, u8.2.2.2.2.1, u8.2.2.2.2.2.1, u8.2.2.2.2.2.2.1, u8.2.2.2.2.2.2.2.1, u8.2.2.2.2.2.2.2.2.1, u8.2.2.2.2.2.2.2.2.2)) else if u2 = (33 : Int32) then (nm (t_barredDoors ||| ((1 : Int32) <<< (u1.2.2.2 &&& 31))) fun v7 => some ((1 : Int32), t_toldDoors, v7, v5, u1.2.2.1, u1.2.2.2, t_now, t_oneOf, t_otherOf, t_wardsOf)) else nm (t_barredDoors &&& (((1 : Int32) <<< (u1.2.2.2 &&& 31)) ^^^ (-1 : Int32))) fun v6 => some ((1 : Int32), t_toldDoors, v6, v5, u1.2.2.1, u1.2.2.2, t_now, t_oneOf, t_otherOf, t_wardsOf)) fun j76 => if u2 = (58 : Int32) then (j76 ()) else (f_X12_isDoor t_toldDoors u1.2.2.2).bind fun u9 => if u9 = 0 then ((f_X12_wrongAt u1.2.2.1 (7 : Int32) t_place0).bind fun u10 => gb u10.1 <| some (u10.1, t_toldDoors, t_barredDoors, u1.2.1, u10.2, u1.2.2.2, t_now, t_oneOf, t_otherOf, t_wardsOf)) else j76 ()) fun j54 => if u2 = (58 : Int32) then (j54 ()) else if u2 = (33 : Int32) then (j54 ()) else if u2 = (63 : Int32) then (j54 ()) else (f_X12_wrongAt u1.2.2.1 (1 : Int32) u1.2.1).bind fun u11 => gb u11.1 <| some (u11.1, t_toldDoors, t_barredDoors, u1.2.1, u11.2, u1.2.2.2, t_now, t_oneOf, t_otherOf, t_wardsOf)
theorem dX12_readsDoor_0 : decode cX12_readsDoor 0 = .ok (.aload_n 0, 1) := by decide +kernel
theorem dX12_readsDoor_1 : decode cX12_readsDoor 1 = .ok (.getfield 146, 3) := by decide +kernel
theorem dX12_readsDoor_4 : decode cX12_readsDoor 4 = .ok (.istore_n 1, 1) := by decide +kernel
theorem dX12_readsDoor_5 : decode cX12_readsDoor 5 = .ok (.aload_n 0, 1) := by decide +kernel
theorem dX12_readsDoor_6 : decode cX12_readsDoor 6 = .ok (.bipush 23, 2) := by decide +kernel
theorem dX12_readsDoor_8 : decode cX12_readsDoor 8 = .ok (.invokevirtual 277, 3) := by decide +kernel
theorem dX12_readsDoor_11 : decode cX12_readsDoor 11 = .ok (.ifCond .ne 5, 3) := by decide +kernel
theorem dX12_readsDoor_14 : decode cX12_readsDoor 14 = .ok (.iconst 0, 1) := by decide +kernel
theorem dX12_readsDoor_15 : decode cX12_readsDoor 15 = .ok (.ireturn, 1) := by decide +kernel
theorem dX12_readsDoor_16 : decode cX12_readsDoor 16 = .ok (.aload_n 0, 1) := by decide +kernel
theorem dX12_readsDoor_17 : decode cX12_readsDoor 17 = .ok (.getfield 162, 3) := by decide +kernel
theorem dX12_readsDoor_20 : decode cX12_readsDoor 20 = .ok (.istore_n 2, 1) := by decide +kernel
theorem dX12_readsDoor_21 : decode cX12_readsDoor 21 = .ok (.aload_n 0, 1) := by decide +kernel
theorem dX12_readsDoor_22 : decode cX12_readsDoor 22 = .ok (.invokevirtual 152, 3) := by decide +kernel
theorem dX12_readsDoor_25 : decode cX12_readsDoor 25 = .ok (.istore_n 3, 1) := by decide +kernel
theorem dX12_readsDoor_26 : decode cX12_readsDoor 26 = .ok (.iload_n 3, 1) := by decide +kernel
theorem dX12_readsDoor_27 : decode cX12_readsDoor 27 = .ok (.bipush 58, 2) := by decide +kernel
theorem dX12_readsDoor_29 : decode cX12_readsDoor 29 = .ok (.if_icmp .eq 25, 3) := by decide +kernel
theorem dX12_readsDoor_32 : decode cX12_readsDoor 32 = .ok (.iload_n 3, 1) := by decide +kernel
theorem dX12_readsDoor_33 : decode cX12_readsDoor 33 = .ok (.bipush 33, 2) := by decide +kernel
theorem dX12_readsDoor_35 : decode cX12_readsDoor 35 = .ok (.if_icmp .eq 19, 3) := by decide +kernel
theorem dX12_readsDoor_38 : decode cX12_readsDoor 38 = .ok (.iload_n 3, 1) := by decide +kernel
theorem dX12_readsDoor_39 : decode cX12_readsDoor 39 = .ok (.bipush 63, 2) := by decide +kernel
theorem dX12_readsDoor_41 : decode cX12_readsDoor 41 = .ok (.if_icmp .eq 13, 3) := by decide +kernel
theorem dX12_readsDoor_44 : decode cX12_readsDoor 44 = .ok (.aload_n 0, 1) := by decide +kernel
theorem dX12_readsDoor_45 : decode cX12_readsDoor 45 = .ok (.iconst 1, 1) := by decide +kernel
theorem dX12_readsDoor_46 : decode cX12_readsDoor 46 = .ok (.aload_n 0, 1) := by decide +kernel
theorem dX12_readsDoor_47 : decode cX12_readsDoor 47 = .ok (.getfield 146, 3) := by decide +kernel
theorem dX12_readsDoor_50 : decode cX12_readsDoor 50 = .ok (.invokevirtual 159, 3) := by decide +kernel
theorem dX12_readsDoor_53 : decode cX12_readsDoor 53 = .ok (.ireturn, 1) := by decide +kernel
theorem dX12_readsDoor_54 : decode cX12_readsDoor 54 = .ok (.iload_n 3, 1) := by decide +kernel
theorem dX12_readsDoor_55 : decode cX12_readsDoor 55 = .ok (.bipush 58, 2) := by decide +kernel
theorem dX12_readsDoor_57 : decode cX12_readsDoor 57 = .ok (.if_icmp .eq 19, 3) := by decide +kernel
theorem dX12_readsDoor_60 : decode cX12_readsDoor 60 = .ok (.aload_n 0, 1) := by decide +kernel
theorem dX12_readsDoor_61 : decode cX12_readsDoor 61 = .ok (.iload_n 2, 1) := by decide +kernel
theorem dX12_readsDoor_62 : decode cX12_readsDoor 62 = .ok (.invokevirtual 129, 3) := by decide +kernel
theorem dX12_readsDoor_65 : decode cX12_readsDoor 65 = .ok (.ifCond .ne 11, 3) := by decide +kernel
theorem dX12_readsDoor_68 : decode cX12_readsDoor 68 = .ok (.aload_n 0, 1) := by decide +kernel
theorem dX12_readsDoor_69 : decode cX12_readsDoor 69 = .ok (.bipush 7, 2) := by decide +kernel
theorem dX12_readsDoor_71 : decode cX12_readsDoor 71 = .ok (.iload_n 1, 1) := by decide +kernel
theorem dX12_readsDoor_72 : decode cX12_readsDoor 72 = .ok (.invokevirtual 159, 3) := by decide +kernel
theorem dX12_readsDoor_75 : decode cX12_readsDoor 75 = .ok (.ireturn, 1) := by decide +kernel
theorem dX12_readsDoor_76 : decode cX12_readsDoor 76 = .ok (.aload_n 0, 1) := by decide +kernel
theorem dX12_readsDoor_77 : decode cX12_readsDoor 77 = .ok (.aload_n 0, 1) := by decide +kernel
theorem dX12_readsDoor_78 : decode cX12_readsDoor 78 = .ok (.getfield 146, 3) := by decide +kernel
theorem dX12_readsDoor_81 : decode cX12_readsDoor 81 = .ok (.iconst 1, 1) := by decide +kernel
theorem dX12_readsDoor_82 : decode cX12_readsDoor 82 = .ok (.iadd, 1) := by decide +kernel
theorem dX12_readsDoor_83 : decode cX12_readsDoor 83 = .ok (.putfield 146, 3) := by decide +kernel
theorem dX12_readsDoor_86 : decode cX12_readsDoor 86 = .ok (.iload_n 3, 1) := by decide +kernel
theorem dX12_readsDoor_87 : decode cX12_readsDoor 87 = .ok (.bipush 58, 2) := by decide +kernel
theorem dX12_readsDoor_89 : decode cX12_readsDoor 89 = .ok (.if_icmp .ne 9, 3) := by decide +kernel
theorem dX12_readsDoor_92 : decode cX12_readsDoor 92 = .ok (.aload_n 0, 1) := by decide +kernel
theorem dX12_readsDoor_93 : decode cX12_readsDoor 93 = .ok (.iload_n 2, 1) := by decide +kernel
theorem dX12_readsDoor_94 : decode cX12_readsDoor 94 = .ok (.invokevirtual 280, 3) := by decide +kernel
theorem dX12_readsDoor_97 : decode cX12_readsDoor 97 = .ok (.ireturn, 1) := by decide +kernel
theorem dX12_readsDoor_98 : decode cX12_readsDoor 98 = .ok (.aload_n 0, 1) := by decide +kernel
theorem dX12_readsDoor_99 : decode cX12_readsDoor 99 = .ok (.iload_n 3, 1) := by decide +kernel
theorem dX12_readsDoor_100 : decode cX12_readsDoor 100 = .ok (.bipush 33, 2) := by decide +kernel
theorem dX12_readsDoor_102 : decode cX12_readsDoor 102 = .ok (.if_icmp .ne 14, 3) := by decide +kernel
theorem dX12_readsDoor_105 : decode cX12_readsDoor 105 = .ok (.aload_n 0, 1) := by decide +kernel
theorem dX12_readsDoor_106 : decode cX12_readsDoor 106 = .ok (.getfield 133, 3) := by decide +kernel
theorem dX12_readsDoor_109 : decode cX12_readsDoor 109 = .ok (.iconst 1, 1) := by decide +kernel
theorem dX12_readsDoor_110 : decode cX12_readsDoor 110 = .ok (.iload_n 2, 1) := by decide +kernel
theorem dX12_readsDoor_111 : decode cX12_readsDoor 111 = .ok (.ishl, 1) := by decide +kernel
theorem dX12_readsDoor_112 : decode cX12_readsDoor 112 = .ok (.ior, 1) := by decide +kernel
theorem dX12_readsDoor_113 : decode cX12_readsDoor 113 = .ok (.goto 13, 3) := by decide +kernel
theorem dX12_readsDoor_116 : decode cX12_readsDoor 116 = .ok (.aload_n 0, 1) := by decide +kernel
theorem dX12_readsDoor_117 : decode cX12_readsDoor 117 = .ok (.getfield 133, 3) := by decide +kernel
theorem dX12_readsDoor_120 : decode cX12_readsDoor 120 = .ok (.iconst 1, 1) := by decide +kernel
theorem dX12_readsDoor_121 : decode cX12_readsDoor 121 = .ok (.iload_n 2, 1) := by decide +kernel
theorem dX12_readsDoor_122 : decode cX12_readsDoor 122 = .ok (.ishl, 1) := by decide +kernel
theorem dX12_readsDoor_123 : decode cX12_readsDoor 123 = .ok (.iconst (-1), 1) := by decide +kernel
theorem dX12_readsDoor_124 : decode cX12_readsDoor 124 = .ok (.ixor, 1) := by decide +kernel
theorem dX12_readsDoor_125 : decode cX12_readsDoor 125 = .ok (.iand, 1) := by decide +kernel
theorem dX12_readsDoor_126 : decode cX12_readsDoor 126 = .ok (.putfield 133, 3) := by decide +kernel
theorem dX12_readsDoor_129 : decode cX12_readsDoor 129 = .ok (.iconst 1, 1) := by decide +kernel
theorem dX12_readsDoor_130 : decode cX12_readsDoor 130 = .ok (.ireturn, 1) := by decide +kernel
set_option maxHeartbeats 4000000 in
set_option maxRecDepth 100000 in
theorem c_X12_readsDoor (l : Launch) (E : GE) (o_t : Nat) (a_t : Nat → Nat) (t_toldDoors : Int32) (t_barredDoors : Int32) (t_taped : Int32) (t_place0 : Int32) (t_length0 : Int32) (t_fault : Int32) (t_number0 : Int32) (t_open : Int32) (t_codeMany : Int32) (t_waiting : Int32) (t_saidMany : Int32) (t_clauses : Int32) (t_newMany : Int32) (t_rounds : Int32) (t_pinFrom : Int32) (t_pinTimes : Int32) (t_lines : Int32) (t_wasTold : Int32) (t_wasBarred : Int32) (t_goesNow : Int32) (t_jamsNow : Int32) (t_queued : Int32) (t_isKept : Int32) (t_now : (Nat → Int32)) (t_oneOf : (Nat → Int32)) (t_otherOf : (Nat → Int32)) (t_wardsOf : (Nat → Int32)) (t_tape : (Nat → Int32)) (r : Int32 × Int32 × Int32 × Int32 × Int32 × Int32 × (Nat → Int32) × (Nat → Int32) × (Nat → Int32) × (Nat → Int32)) (h : f_X12_readsDoor t_toldDoors t_barredDoors t_place0 t_length0 t_fault t_number0 t_now t_oneOf t_otherOf t_wardsOf t_tape = some r) : Cn l E yX12_readsDoor cX12_readsDoor 4 (some .boolean) 5 0 0 [.ref o_t] (W_X12_readsDoor E o_t a_t t_toldDoors t_barredDoors t_taped t_place0 t_length0 t_fault t_number0 t_open t_codeMany t_waiting t_saidMany t_clauses t_newMany t_rounds t_pinFrom t_pinTimes t_lines t_wasTold t_wasBarred t_goesNow t_jamsNow t_queued t_isKept t_now t_oneOf t_otherOf t_wardsOf t_tape) (fun w => w = (W_X12_readsDoor E o_t a_t r.2.1 r.2.2.1 t_taped r.2.2.2.1 t_length0 r.2.2.2.2.1 r.2.2.2.2.2.1 t_open t_codeMany t_waiting t_saidMany t_clauses t_newMany t_rounds t_pinFrom t_pinTimes t_lines t_wasTold t_wasBarred t_goesNow t_jamsNow t_queued t_isKept r.2.2.2.2.2.2.1 r.2.2.2.2.2.2.2.1 r.2.2.2.2.2.2.2.2.1 r.2.2.2.2.2.2.2.2.2 t_tape)) (some (.int r.1)) := by
  refine Cn.ofI (by decide +kernel) (Nat.le_of_ble_eq_true rfl) (fun X hX hR C hret => ?_)
  subst hX
  show Gx X E 0 0 (W_X12_readsDoor E o_t a_t t_toldDoors t_barredDoors t_taped t_place0 t_length0 t_fault t_number0 t_open t_codeMany t_waiting t_saidMany t_clauses t_newMany t_rounds t_pinFrom t_pinTimes t_lines t_wasTold t_wasBarred t_goesNow t_jamsNow t_queued t_isKept t_now t_oneOf t_otherOf t_wardsOf t_tape) 0 [(0, .ref o_t)] []
  unfold f_X12_readsDoor at h
  refine g_aload_n (pc := 0) C dX12_readsDoor_0 rfl 0 rfl ?_
  refine g_get (pc := 1) C fl_X12_146 dX12_readsDoor_1 0 rfl rfl ?_
  refine g_istore_n (pc := 4) (lv' := [(1, .int t_place0), (0, .ref o_t)]) C dX12_readsDoor_4 rfl (by decide) rfl ?_
  refine g_aload_n (pc := 5) C dX12_readsDoor_5 rfl 1 rfl ?_
  refine g_bipush (pc := 6) (v := 23) C dX12_readsDoor_6 (by decide) ?_
  obtain ⟨u1, hu1, h⟩ := bs h
  refine g_callV (pc := 8) (st := []) (st1 := [.int u1.1]) (ws' := (W_X12_readsDoor E o_t a_t t_toldDoors t_barredDoors t_taped u1.2.1 t_length0 u1.2.2.1 u1.2.2.2 t_open t_codeMany t_waiting t_saidMany t_clauses t_newMany t_rounds t_pinFrom t_pinTimes t_lines t_wasTold t_wasBarred t_goesNow t_jamsNow t_queued t_isKept t_now t_oneOf t_otherOf t_wardsOf t_tape)) C mv_X12_readsWithin mi_X12_readsWithin ml_X12_277 (c_X12_readsWithin X.2.1 E o_t a_t t_toldDoors t_barredDoors t_taped t_place0 t_length0 t_fault t_number0 t_open t_codeMany t_waiting t_saidMany t_clauses t_newMany t_rounds t_pinFrom t_pinTimes t_lines t_wasTold t_wasBarred t_goesNow t_jamsNow t_queued t_isKept t_tape (23 : Int32) u1 hu1) dX12_readsDoor_8 (by decide) rfl (Nat.le_of_ble_eq_true rfl) 0 11 rfl rfl [0, 5] rfl (by decide) rfl rfl rfl rfl ?_
  refine g_if_ne (pc := 11) (tgt := 16) C dX12_readsDoor_11 (by decide) h (fun h => ?_) (fun h => ?_)
  · refine g_aload_n (pc := 16) C dX12_readsDoor_16 rfl 1 rfl ?_
    refine g_get (pc := 17) C fl_X12_162 dX12_readsDoor_17 0 rfl rfl ?_
    refine g_istore_n (pc := 20) (lv' := [(2, .int u1.2.2.2), (1, .int t_place0), (0, .ref o_t)]) C dX12_readsDoor_20 rfl (by decide) rfl ?_
    refine g_aload_n (pc := 21) C dX12_readsDoor_21 rfl 2 rfl ?_
    obtain ⟨u2, hu2, h⟩ := bs h
    refine g_callV (pc := 22) (st := []) (st1 := [.int u2]) (ws' := (W_X12_readsDoor E o_t a_t t_toldDoors t_barredDoors t_taped u1.2.1 t_length0 u1.2.2.1 u1.2.2.2 t_open t_codeMany t_waiting t_saidMany t_clauses t_newMany t_rounds t_pinFrom t_pinTimes t_lines t_wasTold t_wasBarred t_goesNow t_jamsNow t_queued t_isKept t_now t_oneOf t_otherOf t_wardsOf t_tape)) C mv_X12_here mi_X12_here ml_X12_152 (c_X12_here X.2.1 E o_t a_t t_toldDoors t_barredDoors t_taped u1.2.1 t_length0 u1.2.2.1 u1.2.2.2 t_open t_codeMany t_waiting t_saidMany t_clauses t_newMany t_rounds t_pinFrom t_pinTimes t_lines t_wasTold t_wasBarred t_goesNow t_jamsNow t_queued t_isKept t_tape u2 hu2) dX12_readsDoor_22 (by decide) rfl (Nat.le_of_ble_eq_true rfl) 0 11 rfl rfl [0, 5] rfl (by decide) rfl rfl rfl rfl ?_
    refine g_istore_n (pc := 25) (lv' := [(3, .int u2), (2, .int u1.2.2.2), (1, .int t_place0), (0, .ref o_t)]) C dX12_readsDoor_25 rfl (by decide) rfl ?_
    refine g_iload_n (pc := 26) C dX12_readsDoor_26 rfl 0 rfl ?_
    refine g_bipush (pc := 27) (v := 58) C dX12_readsDoor_27 (by decide) ?_
    refine g_jn (fun s3 : Unit => Gx X E 0 0 (W_X12_readsDoor E o_t a_t t_toldDoors t_barredDoors t_taped u1.2.1 t_length0 u1.2.2.1 u1.2.2.2 t_open t_codeMany t_waiting t_saidMany t_clauses t_newMany t_rounds t_pinFrom t_pinTimes t_lines t_wasTold t_wasBarred t_goesNow t_jamsNow t_queued t_isKept t_now t_oneOf t_otherOf t_wardsOf t_tape) 54 [(0, .ref o_t), (1, .int t_place0), (2, .int u1.2.2.2), (3, .int u2)] []) h (fun s3 h => ?_) (fun j54 hj54 h => ?_)
    · refine g_iload_n (pc := 54) C dX12_readsDoor_54 rfl 3 rfl ?_
      refine g_bipush (pc := 55) (v := 58) C dX12_readsDoor_55 (by decide) ?_
      refine g_jn (fun s4 : Unit => Gx X E 0 0 (W_X12_readsDoor E o_t a_t t_toldDoors t_barredDoors t_taped u1.2.1 t_length0 u1.2.2.1 u1.2.2.2 t_open t_codeMany t_waiting t_saidMany t_clauses t_newMany t_rounds t_pinFrom t_pinTimes t_lines t_wasTold t_wasBarred t_goesNow t_jamsNow t_queued t_isKept t_now t_oneOf t_otherOf t_wardsOf t_tape) 76 [(0, .ref o_t), (2, .int u1.2.2.2), (3, .int u2)] []) h (fun s4 h => ?_) (fun j76 hj76 h => ?_)
      · refine g_aload_n (pc := 76) C dX12_readsDoor_76 rfl 0 rfl ?_
        refine g_aload_n (pc := 77) C dX12_readsDoor_77 rfl 0 rfl ?_
        refine g_get (pc := 78) C fl_X12_146 dX12_readsDoor_78 0 rfl rfl ?_
        refine g_iconst (pc := 81) (v := 1) C dX12_readsDoor_81 (by decide) ?_
        refine g_iadd (pc := 82) C dX12_readsDoor_82 ?_
        refine g_nm h (fun v5 h => ?_)
        refine g_put (pc := 83) (ws' := (W_X12_readsDoor E o_t a_t t_toldDoors t_barredDoors t_taped v5 t_length0 u1.2.2.1 u1.2.2.2 t_open t_codeMany t_waiting t_saidMany t_clauses t_newMany t_rounds t_pinFrom t_pinTimes t_lines t_wasTold t_wasBarred t_goesNow t_jamsNow t_queued t_isKept t_now t_oneOf t_otherOf t_wardsOf t_tape)) C .int fl_X12_146 dX12_readsDoor_83 0 rfl (by decide +kernel) rfl rfl (Nat.le_of_ble_eq_true rfl) rfl ?_
        refine g_iload_n (pc := 86) C dX12_readsDoor_86 rfl 2 rfl ?_
        refine g_bipush (pc := 87) (v := 58) C dX12_readsDoor_87 (by decide) ?_
        refine g_icmp_ne (pc := 89) (tgt := 98) C dX12_readsDoor_89 (by decide) h (fun h => ?_) (fun h => ?_)
        · refine g_aload_n (pc := 98) C dX12_readsDoor_98 rfl 0 rfl ?_
          refine g_iload_n (pc := 99) C dX12_readsDoor_99 rfl 2 rfl ?_
          refine g_bipush (pc := 100) (v := 33) C dX12_readsDoor_100 (by decide) ?_
          refine g_icmp_ne (pc := 102) (tgt := 116) C dX12_readsDoor_102 (by decide) h (fun h => ?_) (fun h => ?_)
          · refine g_aload_n (pc := 116) C dX12_readsDoor_116 rfl 0 rfl ?_
            refine g_get (pc := 117) C fl_X12_133 dX12_readsDoor_117 0 rfl rfl ?_
            refine g_iconst (pc := 120) (v := 1) C dX12_readsDoor_120 (by decide) ?_
            refine g_iload_n (pc := 121) C dX12_readsDoor_121 rfl 1 rfl ?_
            refine g_ishl (pc := 122) C dX12_readsDoor_122 ?_
            refine g_iconst (pc := 123) (v := -1) C dX12_readsDoor_123 (by decide) ?_
            refine g_ixor (pc := 124) C dX12_readsDoor_124 ?_
            refine g_iand (pc := 125) C dX12_readsDoor_125 ?_
            refine g_nm h (fun v6 h => ?_)
            refine g_put (pc := 126) (ws' := (W_X12_readsDoor E o_t a_t t_toldDoors v6 t_taped v5 t_length0 u1.2.2.1 u1.2.2.2 t_open t_codeMany t_waiting t_saidMany t_clauses t_newMany t_rounds t_pinFrom t_pinTimes t_lines t_wasTold t_wasBarred t_goesNow t_jamsNow t_queued t_isKept t_now t_oneOf t_otherOf t_wardsOf t_tape)) C .int fl_X12_133 dX12_readsDoor_126 0 rfl (by decide +kernel) rfl rfl (Nat.le_of_ble_eq_true rfl) rfl ?_
            refine g_iconst (pc := 129) (v := 1) C dX12_readsDoor_129 (by decide) ?_
            cases h
            exact hret _ _ _ dX12_readsDoor_130 nb1 rfl
          · refine g_aload_n (pc := 105) C dX12_readsDoor_105 rfl 0 rfl ?_
            refine g_get (pc := 106) C fl_X12_133 dX12_readsDoor_106 0 rfl rfl ?_
            refine g_iconst (pc := 109) (v := 1) C dX12_readsDoor_109 (by decide) ?_
            refine g_iload_n (pc := 110) C dX12_readsDoor_110 rfl 1 rfl ?_
            refine g_ishl (pc := 111) C dX12_readsDoor_111 ?_
            refine g_ior (pc := 112) C dX12_readsDoor_112 ?_
            refine g_goto (pc := 113) (tgt := 126) C dX12_readsDoor_113 (by decide) ?_
            refine g_nm h (fun v7 h => ?_)
            refine g_put (pc := 126) (ws' := (W_X12_readsDoor E o_t a_t t_toldDoors v7 t_taped v5 t_length0 u1.2.2.1 u1.2.2.2 t_open t_codeMany t_waiting t_saidMany t_clauses t_newMany t_rounds t_pinFrom t_pinTimes t_lines t_wasTold t_wasBarred t_goesNow t_jamsNow t_queued t_isKept t_now t_oneOf t_otherOf t_wardsOf t_tape)) C .int fl_X12_133 dX12_readsDoor_126 0 rfl (by decide +kernel) rfl rfl (Nat.le_of_ble_eq_true rfl) rfl ?_
            refine g_iconst (pc := 129) (v := 1) C dX12_readsDoor_129 (by decide) ?_
            cases h
            exact hret _ _ _ dX12_readsDoor_130 nb1 rfl
        · refine g_aload_n (pc := 92) C dX12_readsDoor_92 rfl 0 rfl ?_
          refine g_iload_n (pc := 93) C dX12_readsDoor_93 rfl 1 rfl ?_
          obtain ⟨u8, hu8, h⟩ := bs h
          refine g_callV (pc := 94) (st := []) (st1 := [.int u8.1]) (ws' := (W_X12_readsDoor E o_t a_t u8.2.1 u8.2.2.1 t_taped u8.2.2.2.1 t_length0 u8.2.2.2.2.1 u8.2.2.2.2.2.1 t_open t_codeMany t_waiting t_saidMany t_clauses t_newMany t_rounds t_pinFrom t_pinTimes t_lines t_wasTold t_wasBarred t_goesNow t_jamsNow t_queued t_isKept u8.2.2.2.2.2.2.1 u8.2.2.2.2.2.2.2.1 u8.2.2.2.2.2.2.2.2.1 u8.2.2.2.2.2.2.2.2.2 t_tape)) C mv_X12_readsRooms mi_X12_readsRooms ml_X12_280 (c_X12_readsRooms X.2.1 E o_t a_t t_toldDoors t_barredDoors t_taped v5 t_length0 u1.2.2.1 u1.2.2.2 t_open t_codeMany t_waiting t_saidMany t_clauses t_newMany t_rounds t_pinFrom t_pinTimes t_lines t_wasTold t_wasBarred t_goesNow t_jamsNow t_queued t_isKept t_now t_oneOf t_otherOf t_wardsOf t_tape u1.2.2.2 u8 hu8) dX12_readsDoor_94 (by decide) rfl (Nat.le_of_ble_eq_true rfl) 0 11 rfl rfl [0, 1, 2, 3, 4, 5] rfl (by decide) rfl rfl rfl rfl ?_
          obtain ⟨hgb, h⟩ := gb_is h
          cases h
          exact hret _ _ _ dX12_readsDoor_97 hgb rfl
      refine g_icmp_eq (pc := 57) (tgt := 76) C dX12_readsDoor_57 (by decide) h (fun h => ?_) (fun h => ?_)
      · refine g_sub [0, 2, 3] rfl ?_
        exact hj76 _ h
      · refine g_aload_n (pc := 60) C dX12_readsDoor_60 rfl 0 rfl ?_
        refine g_iload_n (pc := 61) C dX12_readsDoor_61 rfl 2 rfl ?_
        obtain ⟨u9, hu9, h⟩ := bs h
        refine g_callV (pc := 62) (st := []) (st1 := [.int u9]) (ws' := (W_X12_readsDoor E o_t a_t t_toldDoors t_barredDoors t_taped u1.2.1 t_length0 u1.2.2.1 u1.2.2.2 t_open t_codeMany t_waiting t_saidMany t_clauses t_newMany t_rounds t_pinFrom t_pinTimes t_lines t_wasTold t_wasBarred t_goesNow t_jamsNow t_queued t_isKept t_now t_oneOf t_otherOf t_wardsOf t_tape)) C mv_X12_isDoor mi_X12_isDoor ml_X12_129 (c_X12_isDoor X.2.1 E o_t a_t t_toldDoors t_barredDoors t_taped u1.2.1 t_length0 u1.2.2.1 u1.2.2.2 t_open t_codeMany t_waiting t_saidMany t_clauses t_newMany t_rounds t_pinFrom t_pinTimes t_lines t_wasTold t_wasBarred t_goesNow t_jamsNow t_queued t_isKept u1.2.2.2 u9 hu9) dX12_readsDoor_62 (by decide) rfl (Nat.le_of_ble_eq_true rfl) 0 11 rfl rfl [0] rfl (by decide) rfl rfl rfl rfl ?_
        refine g_if_ne (pc := 65) (tgt := 76) C dX12_readsDoor_65 (by decide) h (fun h => ?_) (fun h => ?_)
        · refine g_sub [0, 2, 3] rfl ?_
          exact hj76 _ h
        · refine g_aload_n (pc := 68) C dX12_readsDoor_68 rfl 0 rfl ?_
          refine g_bipush (pc := 69) (v := 7) C dX12_readsDoor_69 (by decide) ?_
          refine g_iload_n (pc := 71) C dX12_readsDoor_71 rfl 1 rfl ?_
          obtain ⟨u10, hu10, h⟩ := bs h
          refine g_callV (pc := 72) (st := []) (st1 := [.int u10.1]) (ws' := (W_X12_readsDoor E o_t a_t t_toldDoors t_barredDoors t_taped u1.2.1 t_length0 u10.2 u1.2.2.2 t_open t_codeMany t_waiting t_saidMany t_clauses t_newMany t_rounds t_pinFrom t_pinTimes t_lines t_wasTold t_wasBarred t_goesNow t_jamsNow t_queued t_isKept t_now t_oneOf t_otherOf t_wardsOf t_tape)) C mv_X12_wrongAt mi_X12_wrongAt ml_X12_159 (c_X12_wrongAt X.2.1 E o_t a_t t_toldDoors t_barredDoors t_taped u1.2.1 t_length0 u1.2.2.1 u1.2.2.2 t_open t_codeMany t_waiting t_saidMany t_clauses t_newMany t_rounds t_pinFrom t_pinTimes t_lines t_wasTold t_wasBarred t_goesNow t_jamsNow t_queued t_isKept (7 : Int32) t_place0 u10 hu10) dX12_readsDoor_72 (by decide) rfl (Nat.le_of_ble_eq_true rfl) 0 11 rfl rfl [0] rfl (by decide) rfl rfl rfl rfl ?_
          obtain ⟨hgb, h⟩ := gb_is h
          cases h
          exact hret _ _ _ dX12_readsDoor_75 hgb rfl
    refine g_icmp_eq (pc := 29) (tgt := 54) C dX12_readsDoor_29 (by decide) h (fun h => ?_) (fun h => ?_)
    · refine g_sub [3, 2, 1, 0] rfl ?_
      exact hj54 _ h
    · refine g_iload_n (pc := 32) C dX12_readsDoor_32 rfl 0 rfl ?_
      refine g_bipush (pc := 33) (v := 33) C dX12_readsDoor_33 (by decide) ?_
      refine g_icmp_eq (pc := 35) (tgt := 54) C dX12_readsDoor_35 (by decide) h (fun h => ?_) (fun h => ?_)
      · refine g_sub [3, 2, 1, 0] rfl ?_
        exact hj54 _ h
      · refine g_iload_n (pc := 38) C dX12_readsDoor_38 rfl 0 rfl ?_
        refine g_bipush (pc := 39) (v := 63) C dX12_readsDoor_39 (by decide) ?_
        refine g_icmp_eq (pc := 41) (tgt := 54) C dX12_readsDoor_41 (by decide) h (fun h => ?_) (fun h => ?_)
        · refine g_sub [3, 2, 1, 0] rfl ?_
          exact hj54 _ h
        · refine g_aload_n (pc := 44) C dX12_readsDoor_44 rfl 3 rfl ?_
          refine g_iconst (pc := 45) (v := 1) C dX12_readsDoor_45 (by decide) ?_
          refine g_aload_n (pc := 46) C dX12_readsDoor_46 rfl 3 rfl ?_
          refine g_get (pc := 47) C fl_X12_146 dX12_readsDoor_47 0 rfl rfl ?_
          obtain ⟨u11, hu11, h⟩ := bs h
          refine g_callV (pc := 50) (st := []) (st1 := [.int u11.1]) (ws' := (W_X12_readsDoor E o_t a_t t_toldDoors t_barredDoors t_taped u1.2.1 t_length0 u11.2 u1.2.2.2 t_open t_codeMany t_waiting t_saidMany t_clauses t_newMany t_rounds t_pinFrom t_pinTimes t_lines t_wasTold t_wasBarred t_goesNow t_jamsNow t_queued t_isKept t_now t_oneOf t_otherOf t_wardsOf t_tape)) C mv_X12_wrongAt mi_X12_wrongAt ml_X12_159 (c_X12_wrongAt X.2.1 E o_t a_t t_toldDoors t_barredDoors t_taped u1.2.1 t_length0 u1.2.2.1 u1.2.2.2 t_open t_codeMany t_waiting t_saidMany t_clauses t_newMany t_rounds t_pinFrom t_pinTimes t_lines t_wasTold t_wasBarred t_goesNow t_jamsNow t_queued t_isKept (1 : Int32) u1.2.1 u11 hu11) dX12_readsDoor_50 (by decide) rfl (Nat.le_of_ble_eq_true rfl) 0 11 rfl rfl [0] rfl (by decide) rfl rfl rfl rfl ?_
          obtain ⟨hgb, h⟩ := gb_is h
          cases h
          exact hret _ _ _ dX12_readsDoor_53 hgb rfl
  · refine g_iconst (pc := 14) (v := 0) C dX12_readsDoor_14 (by decide) ?_
    cases h
    exact hret _ _ _ dX12_readsDoor_15 nb0 rfl
abbrev W_X12_readsSum (E : GE) (O_t : Nat) (a_t : Nat → Nat) (t_toldDoors : Int32) (t_barredDoors : Int32) (t_taped : Int32) (t_place0 : Int32) (t_length0 : Int32) (t_fault : Int32) (t_number0 : Int32) (t_open : Int32) (t_codeMany : Int32) (t_waiting : Int32) (t_saidMany : Int32) (t_clauses : Int32) (t_newMany : Int32) (t_rounds : Int32) (t_pinFrom : Int32) (t_pinTimes : Int32) (t_lines : Int32) (t_wasTold : Int32) (t_wasBarred : Int32) (t_goesNow : Int32) (t_jamsNow : Int32) (t_queued : Int32) (t_isKept : Int32) (t_tape : (Nat → Int32)) (t_said : (Nat → Int32)) (t_waitsAt : (Nat → Int32)) : va_W := [(O_t, ob_X12 a_t t_toldDoors t_barredDoors t_taped t_place0 t_length0 t_fault t_number0 t_open t_codeMany t_waiting t_saidMany t_clauses t_newMany t_rounds t_pinFrom t_pinTimes t_lines t_wasTold t_wasBarred t_goesNow t_jamsNow t_queued t_isKept), (a_t 13, .inl (E.2.2.1, 260, .inl t_tape)), (a_t 24, .inl (E.2.1, 260, .inl t_said)), (a_t 25, .inl (E.2.1, 260, .inl t_waitsAt))]
def L_X12_readsSum_14 (t_length0 : Int32) (t_tape : (Nat → Int32)) (x1 : Int32) (k0 : Int32 × Int32 × Int32 × Int32 × Int32 × Int32 × (Nat → Int32) × (Nat → Int32) → Option (Int32 × Int32 × Int32 × Int32 × Int32 × Int32 × Int32 × (Nat → Int32) × (Nat → Int32))) : Nat → Int32 × Int32 × Int32 × Int32 × Int32 × Int32 × (Nat → Int32) × (Nat → Int32) → Option (Int32 × Int32 × Int32 × Int32 × Int32 × Int32 × Int32 × (Nat → Int32) × (Nat → Int32)) := lp fun go s => (f_X12_here s.1 t_length0 t_tape).bind fun u2 => (f_X12_sumSign u2).bind fun u3 => if u3 = (-1 : Int32) then ((f_X12_here s.1 t_length0 t_tape).bind fun u4 => if u4 = (93 : Int32) then ((f_X12_hasOpenSum s.2.2.2.2.2.1 s.2.2.2.2.2.2.2 x1).bind fun u5 => if u5 = 0 then (k0 (s.1, s.2.1, s.2.2.1, s.2.2.2.1, s.2.2.2.2.1, s.2.2.2.2.2.1, s.2.2.2.2.2.2.1, s.2.2.2.2.2.2.2)) else (f_X12_closesSums s.2.2.2.2.1 s.2.2.2.2.2.1 s.2.2.2.2.2.2.1 s.2.2.2.2.2.2.2 (1 : Int32)).bind fun u6 => nm (u6.2.1 - (1 : Int32)) fun v7 => nm (s.2.2.2.1 - (1 : Int32)) fun v8 => nm (s.1 + (1 : Int32)) fun v9 => go (v9, s.2.1, s.2.2.1, v8, u6.1, v7, u6.2.2, s.2.2.2.2.2.2.2)) else k0 (s.1, s.2.1, s.2.2.1, s.2.2.2.1, s.2.2.2.2.1, s.2.2.2.2.2.1, s.2.2.2.2.2.2.1, s.2.2.2.2.2.2.2)) else jn (fun s10 : Int32 => (f_X12_closesSums s.2.2.2.2.1 s.2.2.2.2.2.1 s.2.2.2.2.2.2.1 s.2.2.2.2.2.2.2 s10).bind fun u11 => wr s.2.2.2.2.2.2.2 260 u11.2.1 ((1048576 : Int32) * u3) fun g12 => nm (u11.2.1 + (1 : Int32)) fun v13 => nm (s.1 + (1 : Int32)) fun v14 => (f_X12_readsFactor v14 t_length0 s.2.1 s.2.2.1 s.2.2.2.1 u11.1 v13 t_tape u11.2.2 g12).bind fun u15 => if u15.1 = 0 then (some ((0 : Int32), u15.2.1, u15.2.2.1, u15.2.2.2.1, u15.2.2.2.2.1, u15.2.2.2.2.2.1, u15.2.2.2.2.2.2.1, u15.2.2.2.2.2.2.2.1, u15.2.2.2.2.2.2.2.2)) else go (u15.2.1, u15.2.2.1, u15.2.2.2.1, u15.2.2.2.2.1, u15.2.2.2.2.2.1, u15.2.2.2.2.2.2.1, u15.2.2.2.2.2.2.2.1, u15.2.2.2.2.2.2.2.2)) fun j38 => if (4 : Int32) ≤ u3 then (j38 (0 : Int32)) else j38 (1 : Int32)
def f_X12_readsSum (t_place0 : Int32) (t_length0 : Int32) (t_fault : Int32) (t_number0 : Int32) (t_open : Int32) (t_codeMany : Int32) (t_waiting : Int32) (t_tape : (Nat → Int32)) (t_said : (Nat → Int32)) (t_waitsAt : (Nat → Int32)) : Option (Int32 × Int32 × Int32 × Int32 × Int32 × Int32 × Int32 × (Nat → Int32) × (Nat → Int32)) := (f_X12_readsFactor t_place0 t_length0 t_fault t_number0 t_open t_codeMany t_waiting t_tape t_said t_waitsAt).bind fun u1 => if u1.1 = 0 then (some ((0 : Int32), u1.2.1, u1.2.2.1, u1.2.2.2.1, u1.2.2.2.2.1, u1.2.2.2.2.2.1, u1.2.2.2.2.2.2.1, u1.2.2.2.2.2.2.2.1, u1.2.2.2.2.2.2.2.2)) else L_X12_readsSum_14 t_length0 t_tape t_waiting (fun s16 => (f_X12_hasOpenSum s16.2.2.2.2.2.1 s16.2.2.2.2.2.2.2 t_waiting).bind fun u17 => if u17 = 0 then ((f_X12_closesSums s16.2.2.2.2.1 s16.2.2.2.2.2.1 s16.2.2.2.2.2.2.1 s16.2.2.2.2.2.2.2 (1 : Int32)).bind fun u18 => some ((1 : Int32), s16.1, s16.2.1, s16.2.2.1, s16.2.2.2.1, u18.1, u18.2.1, u18.2.2, s16.2.2.2.2.2.2.2)) else (f_X12_wrongAt s16.2.1 (1 : Int32) s16.1).bind fun u19 => gb u19.1 <| some (u19.1, s16.1, u19.2, s16.2.2.1, s16.2.2.2.1, s16.2.2.2.2.1, s16.2.2.2.2.2.1, s16.2.2.2.2.2.2.1, s16.2.2.2.2.2.2.2)) fu (u1.2.1, u1.2.2.1, u1.2.2.2.1, u1.2.2.2.2.1, u1.2.2.2.2.2.1, u1.2.2.2.2.2.2.1, u1.2.2.2.2.2.2.2.1, u1.2.2.2.2.2.2.2.2)
theorem dX12_readsSum_0 : decode cX12_readsSum 0 = .ok (.aload_n 0, 1) := by decide +kernel
theorem dX12_readsSum_1 : decode cX12_readsSum 1 = .ok (.getfield 176, 3) := by decide +kernel
theorem dX12_readsSum_4 : decode cX12_readsSum 4 = .ok (.istore_n 1, 1) := by decide +kernel
theorem dX12_readsSum_5 : decode cX12_readsSum 5 = .ok (.aload_n 0, 1) := by decide +kernel
theorem dX12_readsSum_6 : decode cX12_readsSum 6 = .ok (.invokevirtual 196, 3) := by decide +kernel
theorem dX12_readsSum_9 : decode cX12_readsSum 9 = .ok (.ifCond .ne 5, 3) := by decide +kernel
theorem dX12_readsSum_12 : decode cX12_readsSum 12 = .ok (.iconst 0, 1) := by decide +kernel
theorem dX12_readsSum_13 : decode cX12_readsSum 13 = .ok (.ireturn, 1) := by decide +kernel
theorem dX12_readsSum_14 : decode cX12_readsSum 14 = .ok (.aload_n 0, 1) := by decide +kernel
theorem dX12_readsSum_15 : decode cX12_readsSum 15 = .ok (.invokevirtual 152, 3) := by decide +kernel
theorem dX12_readsSum_18 : decode cX12_readsSum 18 = .ok (.invokestatic 199, 3) := by decide +kernel
theorem dX12_readsSum_21 : decode cX12_readsSum 21 = .ok (.istore_n 2, 1) := by decide +kernel
theorem dX12_readsSum_22 : decode cX12_readsSum 22 = .ok (.iload_n 2, 1) := by decide +kernel
theorem dX12_readsSum_23 : decode cX12_readsSum 23 = .ok (.iconst (-1), 1) := by decide +kernel
theorem dX12_readsSum_24 : decode cX12_readsSum 24 = .ok (.if_icmp .eq 59, 3) := by decide +kernel
theorem dX12_readsSum_27 : decode cX12_readsSum 27 = .ok (.aload_n 0, 1) := by decide +kernel
theorem dX12_readsSum_28 : decode cX12_readsSum 28 = .ok (.iload_n 2, 1) := by decide +kernel
theorem dX12_readsSum_29 : decode cX12_readsSum 29 = .ok (.iconst 4, 1) := by decide +kernel
theorem dX12_readsSum_30 : decode cX12_readsSum 30 = .ok (.if_icmp .ge 7, 3) := by decide +kernel
theorem dX12_readsSum_33 : decode cX12_readsSum 33 = .ok (.iconst 1, 1) := by decide +kernel
theorem dX12_readsSum_34 : decode cX12_readsSum 34 = .ok (.goto 4, 3) := by decide +kernel
theorem dX12_readsSum_37 : decode cX12_readsSum 37 = .ok (.iconst 0, 1) := by decide +kernel
theorem dX12_readsSum_38 : decode cX12_readsSum 38 = .ok (.invokevirtual 202, 3) := by decide +kernel
theorem dX12_readsSum_41 : decode cX12_readsSum 41 = .ok (.aload_n 0, 1) := by decide +kernel
theorem dX12_readsSum_42 : decode cX12_readsSum 42 = .ok (.getfield 50, 3) := by decide +kernel
theorem dX12_readsSum_45 : decode cX12_readsSum 45 = .ok (.aload_n 0, 1) := by decide +kernel
theorem dX12_readsSum_46 : decode cX12_readsSum 46 = .ok (.getfield 176, 3) := by decide +kernel
theorem dX12_readsSum_49 : decode cX12_readsSum 49 = .ok (.ldc 172, 2) := by decide +kernel
theorem dX12_readsSum_51 : decode cX12_readsSum 51 = .ok (.iload_n 2, 1) := by decide +kernel
theorem dX12_readsSum_52 : decode cX12_readsSum 52 = .ok (.imul, 1) := by decide +kernel
theorem dX12_readsSum_53 : decode cX12_readsSum 53 = .ok (.iastore, 1) := by decide +kernel
theorem dX12_readsSum_54 : decode cX12_readsSum 54 = .ok (.aload_n 0, 1) := by decide +kernel
theorem dX12_readsSum_55 : decode cX12_readsSum 55 = .ok (.aload_n 0, 1) := by decide +kernel
theorem dX12_readsSum_56 : decode cX12_readsSum 56 = .ok (.getfield 176, 3) := by decide +kernel
theorem dX12_readsSum_59 : decode cX12_readsSum 59 = .ok (.iconst 1, 1) := by decide +kernel
theorem dX12_readsSum_60 : decode cX12_readsSum 60 = .ok (.iadd, 1) := by decide +kernel
theorem dX12_readsSum_61 : decode cX12_readsSum 61 = .ok (.putfield 176, 3) := by decide +kernel
theorem dX12_readsSum_64 : decode cX12_readsSum 64 = .ok (.aload_n 0, 1) := by decide +kernel
theorem dX12_readsSum_65 : decode cX12_readsSum 65 = .ok (.aload_n 0, 1) := by decide +kernel
theorem dX12_readsSum_66 : decode cX12_readsSum 66 = .ok (.getfield 146, 3) := by decide +kernel
theorem dX12_readsSum_69 : decode cX12_readsSum 69 = .ok (.iconst 1, 1) := by decide +kernel
theorem dX12_readsSum_70 : decode cX12_readsSum 70 = .ok (.iadd, 1) := by decide +kernel
theorem dX12_readsSum_71 : decode cX12_readsSum 71 = .ok (.putfield 146, 3) := by decide +kernel
theorem dX12_readsSum_74 : decode cX12_readsSum 74 = .ok (.aload_n 0, 1) := by decide +kernel
theorem dX12_readsSum_75 : decode cX12_readsSum 75 = .ok (.invokevirtual 196, 3) := by decide +kernel
theorem dX12_readsSum_78 : decode cX12_readsSum 78 = .ok (.ifCond .ne 85, 3) := by decide +kernel
theorem dX12_readsSum_81 : decode cX12_readsSum 81 = .ok (.iconst 0, 1) := by decide +kernel
theorem dX12_readsSum_82 : decode cX12_readsSum 82 = .ok (.ireturn, 1) := by decide +kernel
theorem dX12_readsSum_83 : decode cX12_readsSum 83 = .ok (.aload_n 0, 1) := by decide +kernel
theorem dX12_readsSum_84 : decode cX12_readsSum 84 = .ok (.invokevirtual 152, 3) := by decide +kernel
theorem dX12_readsSum_87 : decode cX12_readsSum 87 = .ok (.bipush 93, 2) := by decide +kernel
theorem dX12_readsSum_89 : decode cX12_readsSum 89 = .ok (.if_icmp .ne 49, 3) := by decide +kernel
theorem dX12_readsSum_92 : decode cX12_readsSum 92 = .ok (.aload_n 0, 1) := by decide +kernel
theorem dX12_readsSum_93 : decode cX12_readsSum 93 = .ok (.iload_n 1, 1) := by decide +kernel
theorem dX12_readsSum_94 : decode cX12_readsSum 94 = .ok (.invokevirtual 206, 3) := by decide +kernel
theorem dX12_readsSum_97 : decode cX12_readsSum 97 = .ok (.ifCond .eq 41, 3) := by decide +kernel
theorem dX12_readsSum_100 : decode cX12_readsSum 100 = .ok (.aload_n 0, 1) := by decide +kernel
theorem dX12_readsSum_101 : decode cX12_readsSum 101 = .ok (.iconst 1, 1) := by decide +kernel
theorem dX12_readsSum_102 : decode cX12_readsSum 102 = .ok (.invokevirtual 202, 3) := by decide +kernel
theorem dX12_readsSum_105 : decode cX12_readsSum 105 = .ok (.aload_n 0, 1) := by decide +kernel
theorem dX12_readsSum_106 : decode cX12_readsSum 106 = .ok (.aload_n 0, 1) := by decide +kernel
theorem dX12_readsSum_107 : decode cX12_readsSum 107 = .ok (.getfield 176, 3) := by decide +kernel
theorem dX12_readsSum_110 : decode cX12_readsSum 110 = .ok (.iconst 1, 1) := by decide +kernel
theorem dX12_readsSum_111 : decode cX12_readsSum 111 = .ok (.isub, 1) := by decide +kernel
theorem dX12_readsSum_112 : decode cX12_readsSum 112 = .ok (.putfield 176, 3) := by decide +kernel
theorem dX12_readsSum_115 : decode cX12_readsSum 115 = .ok (.aload_n 0, 1) := by decide +kernel
theorem dX12_readsSum_116 : decode cX12_readsSum 116 = .ok (.aload_n 0, 1) := by decide +kernel
theorem dX12_readsSum_117 : decode cX12_readsSum 117 = .ok (.getfield 173, 3) := by decide +kernel
theorem dX12_readsSum_120 : decode cX12_readsSum 120 = .ok (.iconst 1, 1) := by decide +kernel
theorem dX12_readsSum_121 : decode cX12_readsSum 121 = .ok (.isub, 1) := by decide +kernel
theorem dX12_readsSum_122 : decode cX12_readsSum 122 = .ok (.putfield 173, 3) := by decide +kernel
theorem dX12_readsSum_125 : decode cX12_readsSum 125 = .ok (.aload_n 0, 1) := by decide +kernel
theorem dX12_readsSum_126 : decode cX12_readsSum 126 = .ok (.aload_n 0, 1) := by decide +kernel
theorem dX12_readsSum_127 : decode cX12_readsSum 127 = .ok (.getfield 146, 3) := by decide +kernel
theorem dX12_readsSum_130 : decode cX12_readsSum 130 = .ok (.iconst 1, 1) := by decide +kernel
theorem dX12_readsSum_131 : decode cX12_readsSum 131 = .ok (.iadd, 1) := by decide +kernel
theorem dX12_readsSum_132 : decode cX12_readsSum 132 = .ok (.putfield 146, 3) := by decide +kernel
theorem dX12_readsSum_135 : decode cX12_readsSum 135 = .ok (.goto 28, 3) := by decide +kernel
theorem dX12_readsSum_138 : decode cX12_readsSum 138 = .ok (.aload_n 0, 1) := by decide +kernel
theorem dX12_readsSum_139 : decode cX12_readsSum 139 = .ok (.iload_n 1, 1) := by decide +kernel
theorem dX12_readsSum_140 : decode cX12_readsSum 140 = .ok (.invokevirtual 206, 3) := by decide +kernel
theorem dX12_readsSum_143 : decode cX12_readsSum 143 = .ok (.ifCond .eq 13, 3) := by decide +kernel
theorem dX12_readsSum_146 : decode cX12_readsSum 146 = .ok (.aload_n 0, 1) := by decide +kernel
theorem dX12_readsSum_147 : decode cX12_readsSum 147 = .ok (.iconst 1, 1) := by decide +kernel
theorem dX12_readsSum_148 : decode cX12_readsSum 148 = .ok (.aload_n 0, 1) := by decide +kernel
theorem dX12_readsSum_149 : decode cX12_readsSum 149 = .ok (.getfield 146, 3) := by decide +kernel
theorem dX12_readsSum_152 : decode cX12_readsSum 152 = .ok (.invokevirtual 159, 3) := by decide +kernel
theorem dX12_readsSum_155 : decode cX12_readsSum 155 = .ok (.ireturn, 1) := by decide +kernel
theorem dX12_readsSum_156 : decode cX12_readsSum 156 = .ok (.aload_n 0, 1) := by decide +kernel
theorem dX12_readsSum_157 : decode cX12_readsSum 157 = .ok (.iconst 1, 1) := by decide +kernel
theorem dX12_readsSum_158 : decode cX12_readsSum 158 = .ok (.invokevirtual 202, 3) := by decide +kernel
theorem dX12_readsSum_161 : decode cX12_readsSum 161 = .ok (.iconst 1, 1) := by decide +kernel
theorem dX12_readsSum_162 : decode cX12_readsSum 162 = .ok (.ireturn, 1) := by decide +kernel
theorem dX12_readsSum_163 : decode cX12_readsSum 163 = .ok (.goto (-149), 3) := by decide +kernel
set_option maxHeartbeats 4000000 in
set_option maxRecDepth 100000 in
theorem kL_X12_readsSum_14 {X : GC} {E : GE} (C : Cx X E cX12_readsSum RX12 5 3) (o_t : Nat) (a_t : Nat → Nat) (t_toldDoors : Int32) (t_barredDoors : Int32) (t_taped : Int32) (t_saidMany : Int32) (t_clauses : Int32) (t_newMany : Int32) (t_rounds : Int32) (t_pinFrom : Int32) (t_pinTimes : Int32) (t_lines : Int32) (t_wasTold : Int32) (t_wasBarred : Int32) (t_goesNow : Int32) (t_jamsNow : Int32) (t_queued : Int32) (t_isKept : Int32) (t_length0 : Int32) (t_tape : (Nat → Int32)) (x1 : Int32) (k0 : Int32 × Int32 × Int32 × Int32 × Int32 × Int32 × (Nat → Int32) × (Nat → Int32) → Option (Int32 × Int32 × Int32 × Int32 × Int32 × Int32 × Int32 × (Nat → Int32) × (Nat → Int32))) {r : Int32 × Int32 × Int32 × Int32 × Int32 × Int32 × Int32 × (Nat → Int32) × (Nat → Int32)} (hret : RtI X E cX12_readsSum .boolean 0 0 (fun w => w = (W_X12_readsSum E o_t a_t t_toldDoors t_barredDoors t_taped r.2.1 t_length0 r.2.2.1 r.2.2.2.1 r.2.2.2.2.1 r.2.2.2.2.2.1 r.2.2.2.2.2.2.1 t_saidMany t_clauses t_newMany t_rounds t_pinFrom t_pinTimes t_lines t_wasTold t_wasBarred t_goesNow t_jamsNow t_queued t_isKept t_tape r.2.2.2.2.2.2.2.1 r.2.2.2.2.2.2.2.2)) r.1) (hk0 : ∀ u, k0 u = some r → Gx X E 0 0 (W_X12_readsSum E o_t a_t t_toldDoors t_barredDoors t_taped u.1 t_length0 u.2.1 u.2.2.1 u.2.2.2.1 u.2.2.2.2.1 u.2.2.2.2.2.1 t_saidMany t_clauses t_newMany t_rounds t_pinFrom t_pinTimes t_lines t_wasTold t_wasBarred t_goesNow t_jamsNow t_queued t_isKept t_tape u.2.2.2.2.2.2.1 u.2.2.2.2.2.2.2) 138 [(0, .ref o_t), (1, .int x1)] []) : ∀ (n : Nat) (s : Int32 × Int32 × Int32 × Int32 × Int32 × Int32 × (Nat → Int32) × (Nat → Int32)), L_X12_readsSum_14 t_length0 t_tape x1 k0 n s = some r → Gx X E 0 0 (W_X12_readsSum E o_t a_t t_toldDoors t_barredDoors t_taped s.1 t_length0 s.2.1 s.2.2.1 s.2.2.2.1 s.2.2.2.2.1 s.2.2.2.2.2.1 t_saidMany t_clauses t_newMany t_rounds t_pinFrom t_pinTimes t_lines t_wasTold t_wasBarred t_goesNow t_jamsNow t_queued t_isKept t_tape s.2.2.2.2.2.2.1 s.2.2.2.2.2.2.2) 14 [(0, .ref o_t), (1, .int x1)] [] := by
  unfold L_X12_readsSum_14
  refine lp_ind _ (fun go ih s h => ?_)
  refine g_aload_n (pc := 14) C dX12_readsSum_14 rfl 0 rfl ?_
  obtain ⟨u2, hu2, h⟩ := bs h
  refine g_callV (pc := 15) (st := []) (st1 := [.int u2]) (ws' := (W_X12_readsSum E o_t a_t t_toldDoors t_barredDoors t_taped s.1 t_length0 s.2.1 s.2.2.1 s.2.2.2.1 s.2.2.2.2.1 s.2.2.2.2.2.1 t_saidMany t_clauses t_newMany t_rounds t_pinFrom t_pinTimes t_lines t_wasTold t_wasBarred t_goesNow t_jamsNow t_queued t_isKept t_tape s.2.2.2.2.2.2.1 s.2.2.2.2.2.2.2)) C mv_X12_here mi_X12_here ml_X12_152 (c_X12_here X.2.1 E o_t a_t t_toldDoors t_barredDoors t_taped s.1 t_length0 s.2.1 s.2.2.1 s.2.2.2.1 s.2.2.2.2.1 s.2.2.2.2.2.1 t_saidMany t_clauses t_newMany t_rounds t_pinFrom t_pinTimes t_lines t_wasTold t_wasBarred t_goesNow t_jamsNow t_queued t_isKept t_tape u2 hu2) dX12_readsSum_15 (by decide) rfl (Nat.le_of_ble_eq_true rfl) 0 11 rfl rfl [0, 1] rfl (by decide) rfl rfl rfl rfl ?_
  obtain ⟨u3, hu3, h⟩ := bs h
  refine g_callS (pc := 18) (st := []) (st1 := [.int u3]) (ws' := (W_X12_readsSum E o_t a_t t_toldDoors t_barredDoors t_taped s.1 t_length0 s.2.1 s.2.2.1 s.2.2.2.1 s.2.2.2.2.1 s.2.2.2.2.2.1 t_saidMany t_clauses t_newMany t_rounds t_pinFrom t_pinTimes t_lines t_wasTold t_wasBarred t_goesNow t_jamsNow t_queued t_isKept t_tape s.2.2.2.2.2.2.1 s.2.2.2.2.2.2.2)) C mv_X12_sumSign ms_X12_sumSign ml_X12_199 (c_X12_sumSign X.2.1 E u2 u3 hu3) dX12_readsSum_18 (by decide) rfl (Nat.le_of_ble_eq_true rfl) [] rfl (by decide) rfl rfl rfl rfl ?_
  refine g_istore_n (pc := 21) (lv' := [(2, .int u3), (0, .ref o_t), (1, .int x1)]) C dX12_readsSum_21 rfl (by decide) rfl ?_
  refine g_iload_n (pc := 22) C dX12_readsSum_22 rfl 0 rfl ?_
  refine g_iconst (pc := 23) (v := -1) C dX12_readsSum_23 (by decide) ?_
  refine g_icmp_eq (pc := 24) (tgt := 83) C dX12_readsSum_24 (by decide) h (fun h => ?_) (fun h => ?_)
  · refine g_aload_n (pc := 83) C dX12_readsSum_83 rfl 1 rfl ?_
    obtain ⟨u4, hu4, h⟩ := bs h
    refine g_callV (pc := 84) (st := []) (st1 := [.int u4]) (ws' := (W_X12_readsSum E o_t a_t t_toldDoors t_barredDoors t_taped s.1 t_length0 s.2.1 s.2.2.1 s.2.2.2.1 s.2.2.2.2.1 s.2.2.2.2.2.1 t_saidMany t_clauses t_newMany t_rounds t_pinFrom t_pinTimes t_lines t_wasTold t_wasBarred t_goesNow t_jamsNow t_queued t_isKept t_tape s.2.2.2.2.2.2.1 s.2.2.2.2.2.2.2)) C mv_X12_here mi_X12_here ml_X12_152 (c_X12_here X.2.1 E o_t a_t t_toldDoors t_barredDoors t_taped s.1 t_length0 s.2.1 s.2.2.1 s.2.2.2.1 s.2.2.2.2.1 s.2.2.2.2.2.1 t_saidMany t_clauses t_newMany t_rounds t_pinFrom t_pinTimes t_lines t_wasTold t_wasBarred t_goesNow t_jamsNow t_queued t_isKept t_tape u4 hu4) dX12_readsSum_84 (by decide) rfl (Nat.le_of_ble_eq_true rfl) 0 11 rfl rfl [0, 1] rfl (by decide) rfl rfl rfl rfl ?_
    refine g_bipush (pc := 87) (v := 93) C dX12_readsSum_87 (by decide) ?_
    refine g_icmp_ne (pc := 89) (tgt := 138) C dX12_readsSum_89 (by decide) h (fun h => ?_) (fun h => ?_)
    · refine g_sub [1, 2] rfl ?_
      exact hk0 _ h
    · refine g_aload_n (pc := 92) C dX12_readsSum_92 rfl 1 rfl ?_
      refine g_iload_n (pc := 93) C dX12_readsSum_93 rfl 2 rfl ?_
      obtain ⟨u5, hu5, h⟩ := bs h
      refine g_callV (pc := 94) (st := []) (st1 := [.int u5]) (ws' := (W_X12_readsSum E o_t a_t t_toldDoors t_barredDoors t_taped s.1 t_length0 s.2.1 s.2.2.1 s.2.2.2.1 s.2.2.2.2.1 s.2.2.2.2.2.1 t_saidMany t_clauses t_newMany t_rounds t_pinFrom t_pinTimes t_lines t_wasTold t_wasBarred t_goesNow t_jamsNow t_queued t_isKept t_tape s.2.2.2.2.2.2.1 s.2.2.2.2.2.2.2)) C mv_X12_hasOpenSum mi_X12_hasOpenSum ml_X12_206 (c_X12_hasOpenSum X.2.1 E o_t a_t t_toldDoors t_barredDoors t_taped s.1 t_length0 s.2.1 s.2.2.1 s.2.2.2.1 s.2.2.2.2.1 s.2.2.2.2.2.1 t_saidMany t_clauses t_newMany t_rounds t_pinFrom t_pinTimes t_lines t_wasTold t_wasBarred t_goesNow t_jamsNow t_queued t_isKept s.2.2.2.2.2.2.2 x1 u5 hu5) dX12_readsSum_94 (by decide) rfl (Nat.le_of_ble_eq_true rfl) 0 11 rfl rfl [0, 3] rfl (by decide) rfl rfl rfl rfl ?_
      refine g_if_eq (pc := 97) (tgt := 138) C dX12_readsSum_97 (by decide) h (fun h => ?_) (fun h => ?_)
      · refine g_sub [1, 2] rfl ?_
        exact hk0 _ h
      · refine g_aload_n (pc := 100) C dX12_readsSum_100 rfl 1 rfl ?_
        refine g_iconst (pc := 101) (v := 1) C dX12_readsSum_101 (by decide) ?_
        obtain ⟨u6, hu6, h⟩ := bs h
        refine g_callV (pc := 102) (st := []) (st1 := []) (ws' := (W_X12_readsSum E o_t a_t t_toldDoors t_barredDoors t_taped s.1 t_length0 s.2.1 s.2.2.1 s.2.2.2.1 u6.1 u6.2.1 t_saidMany t_clauses t_newMany t_rounds t_pinFrom t_pinTimes t_lines t_wasTold t_wasBarred t_goesNow t_jamsNow t_queued t_isKept t_tape u6.2.2 s.2.2.2.2.2.2.2)) C mv_X12_closesSums mi_X12_closesSums ml_X12_202 (c_X12_closesSums X.2.1 E o_t a_t t_toldDoors t_barredDoors t_taped s.1 t_length0 s.2.1 s.2.2.1 s.2.2.2.1 s.2.2.2.2.1 s.2.2.2.2.2.1 t_saidMany t_clauses t_newMany t_rounds t_pinFrom t_pinTimes t_lines t_wasTold t_wasBarred t_goesNow t_jamsNow t_queued t_isKept s.2.2.2.2.2.2.1 s.2.2.2.2.2.2.2 (1 : Int32) u6 hu6) dX12_readsSum_102 (by decide) rfl (Nat.le_of_ble_eq_true rfl) 0 11 rfl rfl [0, 2, 3] rfl (by decide) rfl rfl rfl rfl ?_
        refine g_aload_n (pc := 105) C dX12_readsSum_105 rfl 1 rfl ?_
        refine g_aload_n (pc := 106) C dX12_readsSum_106 rfl 1 rfl ?_
        refine g_get (pc := 107) C fl_X12_176 dX12_readsSum_107 0 rfl rfl ?_
        refine g_iconst (pc := 110) (v := 1) C dX12_readsSum_110 (by decide) ?_
        refine g_isub (pc := 111) C dX12_readsSum_111 ?_
        refine g_nm h (fun v7 h => ?_)
        refine g_put (pc := 112) (ws' := (W_X12_readsSum E o_t a_t t_toldDoors t_barredDoors t_taped s.1 t_length0 s.2.1 s.2.2.1 s.2.2.2.1 u6.1 v7 t_saidMany t_clauses t_newMany t_rounds t_pinFrom t_pinTimes t_lines t_wasTold t_wasBarred t_goesNow t_jamsNow t_queued t_isKept t_tape u6.2.2 s.2.2.2.2.2.2.2)) C .int fl_X12_176 dX12_readsSum_112 0 rfl (by decide +kernel) rfl rfl (Nat.le_of_ble_eq_true rfl) rfl ?_
        refine g_aload_n (pc := 115) C dX12_readsSum_115 rfl 1 rfl ?_
        refine g_aload_n (pc := 116) C dX12_readsSum_116 rfl 1 rfl ?_
        refine g_get (pc := 117) C fl_X12_173 dX12_readsSum_117 0 rfl rfl ?_
        refine g_iconst (pc := 120) (v := 1) C dX12_readsSum_120 (by decide) ?_
        refine g_isub (pc := 121) C dX12_readsSum_121 ?_
        refine g_nm h (fun v8 h => ?_)
        refine g_put (pc := 122) (ws' := (W_X12_readsSum E o_t a_t t_toldDoors t_barredDoors t_taped s.1 t_length0 s.2.1 s.2.2.1 v8 u6.1 v7 t_saidMany t_clauses t_newMany t_rounds t_pinFrom t_pinTimes t_lines t_wasTold t_wasBarred t_goesNow t_jamsNow t_queued t_isKept t_tape u6.2.2 s.2.2.2.2.2.2.2)) C .int fl_X12_173 dX12_readsSum_122 0 rfl (by decide +kernel) rfl rfl (Nat.le_of_ble_eq_true rfl) rfl ?_
        refine g_aload_n (pc := 125) C dX12_readsSum_125 rfl 1 rfl ?_
        refine g_aload_n (pc := 126) C dX12_readsSum_126 rfl 1 rfl ?_
        refine g_get (pc := 127) C fl_X12_146 dX12_readsSum_127 0 rfl rfl ?_
        refine g_iconst (pc := 130) (v := 1) C dX12_readsSum_130 (by decide) ?_
        refine g_iadd (pc := 131) C dX12_readsSum_131 ?_
        refine g_nm h (fun v9 h => ?_)
        refine g_put (pc := 132) (ws' := (W_X12_readsSum E o_t a_t t_toldDoors t_barredDoors t_taped v9 t_length0 s.2.1 s.2.2.1 v8 u6.1 v7 t_saidMany t_clauses t_newMany t_rounds t_pinFrom t_pinTimes t_lines t_wasTold t_wasBarred t_goesNow t_jamsNow t_queued t_isKept t_tape u6.2.2 s.2.2.2.2.2.2.2)) C .int fl_X12_146 dX12_readsSum_132 0 rfl (by decide +kernel) rfl rfl (Nat.le_of_ble_eq_true rfl) rfl ?_
        refine g_goto (pc := 135) (tgt := 163) C dX12_readsSum_135 (by decide) ?_
        refine g_goto (pc := 163) (tgt := 14) C dX12_readsSum_163 (by decide) ?_
        refine g_sub [1, 2] rfl ?_
        exact ih _ h
  · refine g_aload_n (pc := 27) C dX12_readsSum_27 rfl 1 rfl ?_
    refine g_iload_n (pc := 28) C dX12_readsSum_28 rfl 0 rfl ?_
    refine g_iconst (pc := 29) (v := 4) C dX12_readsSum_29 (by decide) ?_
    refine g_jn (fun s10 : Int32 => Gx X E 0 0 (W_X12_readsSum E o_t a_t t_toldDoors t_barredDoors t_taped s.1 t_length0 s.2.1 s.2.2.1 s.2.2.2.1 s.2.2.2.2.1 s.2.2.2.2.2.1 t_saidMany t_clauses t_newMany t_rounds t_pinFrom t_pinTimes t_lines t_wasTold t_wasBarred t_goesNow t_jamsNow t_queued t_isKept t_tape s.2.2.2.2.2.2.1 s.2.2.2.2.2.2.2) 38 [(0, .ref o_t), (1, .int x1), (2, .int u3)] [.int s10, .ref o_t]) h (fun s10 h => ?_) (fun j38 hj38 h => ?_)
    · obtain ⟨u11, hu11, h⟩ := bs h
      refine g_callV (pc := 38) (st := []) (st1 := []) (ws' := (W_X12_readsSum E o_t a_t t_toldDoors t_barredDoors t_taped s.1 t_length0 s.2.1 s.2.2.1 s.2.2.2.1 u11.1 u11.2.1 t_saidMany t_clauses t_newMany t_rounds t_pinFrom t_pinTimes t_lines t_wasTold t_wasBarred t_goesNow t_jamsNow t_queued t_isKept t_tape u11.2.2 s.2.2.2.2.2.2.2)) C mv_X12_closesSums mi_X12_closesSums ml_X12_202 (c_X12_closesSums X.2.1 E o_t a_t t_toldDoors t_barredDoors t_taped s.1 t_length0 s.2.1 s.2.2.1 s.2.2.2.1 s.2.2.2.2.1 s.2.2.2.2.2.1 t_saidMany t_clauses t_newMany t_rounds t_pinFrom t_pinTimes t_lines t_wasTold t_wasBarred t_goesNow t_jamsNow t_queued t_isKept s.2.2.2.2.2.2.1 s.2.2.2.2.2.2.2 s10 u11 hu11) dX12_readsSum_38 (by decide) rfl (Nat.le_of_ble_eq_true rfl) 0 11 rfl rfl [0, 2, 3] rfl (by decide) rfl rfl rfl rfl ?_
      refine g_aload_n (pc := 41) C dX12_readsSum_41 rfl 0 rfl ?_
      refine g_get (pc := 42) C fl_X12_50 dX12_readsSum_42 0 rfl rfl ?_
      refine g_aload_n (pc := 45) C dX12_readsSum_45 rfl 0 rfl ?_
      refine g_get (pc := 46) C fl_X12_176 dX12_readsSum_46 0 rfl rfl ?_
      refine g_ldc (pc := 49) C dX12_readsSum_49 ct_X12_172 ?_
      refine g_iload_n (pc := 51) C dX12_readsSum_51 rfl 2 rfl ?_
      refine g_imul (pc := 52) C dX12_readsSum_52 ?_
      refine g_iast (pc := 53) C dX12_readsSum_53 3 rfl h (fun g12 h => ?_)
      refine g_ws (ws' := (W_X12_readsSum E o_t a_t t_toldDoors t_barredDoors t_taped s.1 t_length0 s.2.1 s.2.2.1 s.2.2.2.1 u11.1 u11.2.1 t_saidMany t_clauses t_newMany t_rounds t_pinFrom t_pinTimes t_lines t_wasTold t_wasBarred t_goesNow t_jamsNow t_queued t_isKept t_tape u11.2.2 g12)) rfl ?_
      refine g_aload_n (pc := 54) C dX12_readsSum_54 rfl 0 rfl ?_
      refine g_aload_n (pc := 55) C dX12_readsSum_55 rfl 0 rfl ?_
      refine g_get (pc := 56) C fl_X12_176 dX12_readsSum_56 0 rfl rfl ?_
      refine g_iconst (pc := 59) (v := 1) C dX12_readsSum_59 (by decide) ?_
      refine g_iadd (pc := 60) C dX12_readsSum_60 ?_
      refine g_nm h (fun v13 h => ?_)
      refine g_put (pc := 61) (ws' := (W_X12_readsSum E o_t a_t t_toldDoors t_barredDoors t_taped s.1 t_length0 s.2.1 s.2.2.1 s.2.2.2.1 u11.1 v13 t_saidMany t_clauses t_newMany t_rounds t_pinFrom t_pinTimes t_lines t_wasTold t_wasBarred t_goesNow t_jamsNow t_queued t_isKept t_tape u11.2.2 g12)) C .int fl_X12_176 dX12_readsSum_61 0 rfl (by decide +kernel) rfl rfl (Nat.le_of_ble_eq_true rfl) rfl ?_
      refine g_aload_n (pc := 64) C dX12_readsSum_64 rfl 0 rfl ?_
      refine g_aload_n (pc := 65) C dX12_readsSum_65 rfl 0 rfl ?_
      refine g_get (pc := 66) C fl_X12_146 dX12_readsSum_66 0 rfl rfl ?_
      refine g_iconst (pc := 69) (v := 1) C dX12_readsSum_69 (by decide) ?_
      refine g_iadd (pc := 70) C dX12_readsSum_70 ?_
      refine g_nm h (fun v14 h => ?_)
      refine g_put (pc := 71) (ws' := (W_X12_readsSum E o_t a_t t_toldDoors t_barredDoors t_taped v14 t_length0 s.2.1 s.2.2.1 s.2.2.2.1 u11.1 v13 t_saidMany t_clauses t_newMany t_rounds t_pinFrom t_pinTimes t_lines t_wasTold t_wasBarred t_goesNow t_jamsNow t_queued t_isKept t_tape u11.2.2 g12)) C .int fl_X12_146 dX12_readsSum_71 0 rfl (by decide +kernel) rfl rfl (Nat.le_of_ble_eq_true rfl) rfl ?_
      refine g_aload_n (pc := 74) C dX12_readsSum_74 rfl 0 rfl ?_
      obtain ⟨u15, hu15, h⟩ := bs h
      refine g_callV (pc := 75) (st := []) (st1 := [.int u15.1]) (ws' := (W_X12_readsSum E o_t a_t t_toldDoors t_barredDoors t_taped u15.2.1 t_length0 u15.2.2.1 u15.2.2.2.1 u15.2.2.2.2.1 u15.2.2.2.2.2.1 u15.2.2.2.2.2.2.1 t_saidMany t_clauses t_newMany t_rounds t_pinFrom t_pinTimes t_lines t_wasTold t_wasBarred t_goesNow t_jamsNow t_queued t_isKept t_tape u15.2.2.2.2.2.2.2.1 u15.2.2.2.2.2.2.2.2)) C mv_X12_readsFactor mi_X12_readsFactor ml_X12_196 (c_X12_readsFactor X.2.1 E o_t a_t t_toldDoors t_barredDoors t_taped v14 t_length0 s.2.1 s.2.2.1 s.2.2.2.1 u11.1 v13 t_saidMany t_clauses t_newMany t_rounds t_pinFrom t_pinTimes t_lines t_wasTold t_wasBarred t_goesNow t_jamsNow t_queued t_isKept t_tape u11.2.2 g12 u15 hu15) dX12_readsSum_75 (by decide) rfl (Nat.le_of_ble_eq_true rfl) 0 11 rfl rfl [0, 1, 2, 3] rfl (by decide) rfl rfl rfl rfl ?_
      refine g_if_ne (pc := 78) (tgt := 163) C dX12_readsSum_78 (by decide) h (fun h => ?_) (fun h => ?_)
      · refine g_goto (pc := 163) (tgt := 14) C dX12_readsSum_163 (by decide) ?_
        refine g_sub [0, 1] rfl ?_
        exact ih _ h
      · refine g_iconst (pc := 81) (v := 0) C dX12_readsSum_81 (by decide) ?_
        cases h
        exact hret _ _ _ dX12_readsSum_82 nb0 rfl
    refine g_icmp_ge (pc := 30) (tgt := 37) C dX12_readsSum_30 (by decide) h (fun h => ?_) (fun h => ?_)
    · refine g_iconst (pc := 37) (v := 0) C dX12_readsSum_37 (by decide) ?_
      refine g_sub [1, 2, 0] rfl ?_
      exact hj38 _ h
    · refine g_iconst (pc := 33) (v := 1) C dX12_readsSum_33 (by decide) ?_
      refine g_goto (pc := 34) (tgt := 38) C dX12_readsSum_34 (by decide) ?_
      refine g_sub [1, 2, 0] rfl ?_
      exact hj38 _ h
set_option maxHeartbeats 4000000 in
set_option maxRecDepth 100000 in
theorem c_X12_readsSum (l : Launch) (E : GE) (o_t : Nat) (a_t : Nat → Nat) (t_toldDoors : Int32) (t_barredDoors : Int32) (t_taped : Int32) (t_place0 : Int32) (t_length0 : Int32) (t_fault : Int32) (t_number0 : Int32) (t_open : Int32) (t_codeMany : Int32) (t_waiting : Int32) (t_saidMany : Int32) (t_clauses : Int32) (t_newMany : Int32) (t_rounds : Int32) (t_pinFrom : Int32) (t_pinTimes : Int32) (t_lines : Int32) (t_wasTold : Int32) (t_wasBarred : Int32) (t_goesNow : Int32) (t_jamsNow : Int32) (t_queued : Int32) (t_isKept : Int32) (t_tape : (Nat → Int32)) (t_said : (Nat → Int32)) (t_waitsAt : (Nat → Int32)) (r : Int32 × Int32 × Int32 × Int32 × Int32 × Int32 × Int32 × (Nat → Int32) × (Nat → Int32)) (h : f_X12_readsSum t_place0 t_length0 t_fault t_number0 t_open t_codeMany t_waiting t_tape t_said t_waitsAt = some r) : Cn l E yX12_readsSum cX12_readsSum 3 (some .boolean) 5 0 0 [.ref o_t] (W_X12_readsSum E o_t a_t t_toldDoors t_barredDoors t_taped t_place0 t_length0 t_fault t_number0 t_open t_codeMany t_waiting t_saidMany t_clauses t_newMany t_rounds t_pinFrom t_pinTimes t_lines t_wasTold t_wasBarred t_goesNow t_jamsNow t_queued t_isKept t_tape t_said t_waitsAt) (fun w => w = (W_X12_readsSum E o_t a_t t_toldDoors t_barredDoors t_taped r.2.1 t_length0 r.2.2.1 r.2.2.2.1 r.2.2.2.2.1 r.2.2.2.2.2.1 r.2.2.2.2.2.2.1 t_saidMany t_clauses t_newMany t_rounds t_pinFrom t_pinTimes t_lines t_wasTold t_wasBarred t_goesNow t_jamsNow t_queued t_isKept t_tape r.2.2.2.2.2.2.2.1 r.2.2.2.2.2.2.2.2)) (some (.int r.1)) := by
  refine Cn.ofI (by decide +kernel) (Nat.le_of_ble_eq_true rfl) (fun X hX hR C hret => ?_)
  subst hX
  show Gx X E 0 0 (W_X12_readsSum E o_t a_t t_toldDoors t_barredDoors t_taped t_place0 t_length0 t_fault t_number0 t_open t_codeMany t_waiting t_saidMany t_clauses t_newMany t_rounds t_pinFrom t_pinTimes t_lines t_wasTold t_wasBarred t_goesNow t_jamsNow t_queued t_isKept t_tape t_said t_waitsAt) 0 [(0, .ref o_t)] []
  unfold f_X12_readsSum at h
  refine g_aload_n (pc := 0) C dX12_readsSum_0 rfl 0 rfl ?_
  refine g_get (pc := 1) C fl_X12_176 dX12_readsSum_1 0 rfl rfl ?_
  refine g_istore_n (pc := 4) (lv' := [(1, .int t_waiting), (0, .ref o_t)]) C dX12_readsSum_4 rfl (by decide) rfl ?_
  refine g_aload_n (pc := 5) C dX12_readsSum_5 rfl 1 rfl ?_
  obtain ⟨u1, hu1, h⟩ := bs h
  refine g_callV (pc := 6) (st := []) (st1 := [.int u1.1]) (ws' := (W_X12_readsSum E o_t a_t t_toldDoors t_barredDoors t_taped u1.2.1 t_length0 u1.2.2.1 u1.2.2.2.1 u1.2.2.2.2.1 u1.2.2.2.2.2.1 u1.2.2.2.2.2.2.1 t_saidMany t_clauses t_newMany t_rounds t_pinFrom t_pinTimes t_lines t_wasTold t_wasBarred t_goesNow t_jamsNow t_queued t_isKept t_tape u1.2.2.2.2.2.2.2.1 u1.2.2.2.2.2.2.2.2)) C mv_X12_readsFactor mi_X12_readsFactor ml_X12_196 (c_X12_readsFactor X.2.1 E o_t a_t t_toldDoors t_barredDoors t_taped t_place0 t_length0 t_fault t_number0 t_open t_codeMany t_waiting t_saidMany t_clauses t_newMany t_rounds t_pinFrom t_pinTimes t_lines t_wasTold t_wasBarred t_goesNow t_jamsNow t_queued t_isKept t_tape t_said t_waitsAt u1 hu1) dX12_readsSum_6 (by decide) rfl (Nat.le_of_ble_eq_true rfl) 0 11 rfl rfl [0, 1, 2, 3] rfl (by decide) rfl rfl rfl rfl ?_
  refine g_if_ne (pc := 9) (tgt := 14) C dX12_readsSum_9 (by decide) h (fun h => ?_) (fun h => ?_)
  · refine g_sub [1, 0] rfl ?_
    refine kL_X12_readsSum_14 C o_t a_t t_toldDoors t_barredDoors t_taped t_saidMany t_clauses t_newMany t_rounds t_pinFrom t_pinTimes t_lines t_wasTold t_wasBarred t_goesNow t_jamsNow t_queued t_isKept t_length0 t_tape t_waiting _ hret (fun s16 h => ?_) _ _ h
    refine g_aload_n (pc := 138) C dX12_readsSum_138 rfl 0 rfl ?_
    refine g_iload_n (pc := 139) C dX12_readsSum_139 rfl 1 rfl ?_
    obtain ⟨u17, hu17, h⟩ := bs h
    refine g_callV (pc := 140) (st := []) (st1 := [.int u17]) (ws' := (W_X12_readsSum E o_t a_t t_toldDoors t_barredDoors t_taped s16.1 t_length0 s16.2.1 s16.2.2.1 s16.2.2.2.1 s16.2.2.2.2.1 s16.2.2.2.2.2.1 t_saidMany t_clauses t_newMany t_rounds t_pinFrom t_pinTimes t_lines t_wasTold t_wasBarred t_goesNow t_jamsNow t_queued t_isKept t_tape s16.2.2.2.2.2.2.1 s16.2.2.2.2.2.2.2)) C mv_X12_hasOpenSum mi_X12_hasOpenSum ml_X12_206 (c_X12_hasOpenSum X.2.1 E o_t a_t t_toldDoors t_barredDoors t_taped s16.1 t_length0 s16.2.1 s16.2.2.1 s16.2.2.2.1 s16.2.2.2.2.1 s16.2.2.2.2.2.1 t_saidMany t_clauses t_newMany t_rounds t_pinFrom t_pinTimes t_lines t_wasTold t_wasBarred t_goesNow t_jamsNow t_queued t_isKept s16.2.2.2.2.2.2.2 t_waiting u17 hu17) dX12_readsSum_140 (by decide) rfl (Nat.le_of_ble_eq_true rfl) 0 11 rfl rfl [0, 3] rfl (by decide) rfl rfl rfl rfl ?_
    refine g_if_eq (pc := 143) (tgt := 156) C dX12_readsSum_143 (by decide) h (fun h => ?_) (fun h => ?_)
    · refine g_aload_n (pc := 156) C dX12_readsSum_156 rfl 0 rfl ?_
      refine g_iconst (pc := 157) (v := 1) C dX12_readsSum_157 (by decide) ?_
      obtain ⟨u18, hu18, h⟩ := bs h
      refine g_callV (pc := 158) (st := []) (st1 := []) (ws' := (W_X12_readsSum E o_t a_t t_toldDoors t_barredDoors t_taped s16.1 t_length0 s16.2.1 s16.2.2.1 s16.2.2.2.1 u18.1 u18.2.1 t_saidMany t_clauses t_newMany t_rounds t_pinFrom t_pinTimes t_lines t_wasTold t_wasBarred t_goesNow t_jamsNow t_queued t_isKept t_tape u18.2.2 s16.2.2.2.2.2.2.2)) C mv_X12_closesSums mi_X12_closesSums ml_X12_202 (c_X12_closesSums X.2.1 E o_t a_t t_toldDoors t_barredDoors t_taped s16.1 t_length0 s16.2.1 s16.2.2.1 s16.2.2.2.1 s16.2.2.2.2.1 s16.2.2.2.2.2.1 t_saidMany t_clauses t_newMany t_rounds t_pinFrom t_pinTimes t_lines t_wasTold t_wasBarred t_goesNow t_jamsNow t_queued t_isKept s16.2.2.2.2.2.2.1 s16.2.2.2.2.2.2.2 (1 : Int32) u18 hu18) dX12_readsSum_158 (by decide) rfl (Nat.le_of_ble_eq_true rfl) 0 11 rfl rfl [0, 2, 3] rfl (by decide) rfl rfl rfl rfl ?_
      refine g_iconst (pc := 161) (v := 1) C dX12_readsSum_161 (by decide) ?_
      cases h
      exact hret _ _ _ dX12_readsSum_162 nb1 rfl
    · refine g_aload_n (pc := 146) C dX12_readsSum_146 rfl 0 rfl ?_
      refine g_iconst (pc := 147) (v := 1) C dX12_readsSum_147 (by decide) ?_
      refine g_aload_n (pc := 148) C dX12_readsSum_148 rfl 0 rfl ?_
      refine g_get (pc := 149) C fl_X12_146 dX12_readsSum_149 0 rfl rfl ?_
      obtain ⟨u19, hu19, h⟩ := bs h
      refine g_callV (pc := 152) (st := []) (st1 := [.int u19.1]) (ws' := (W_X12_readsSum E o_t a_t t_toldDoors t_barredDoors t_taped s16.1 t_length0 u19.2 s16.2.2.1 s16.2.2.2.1 s16.2.2.2.2.1 s16.2.2.2.2.2.1 t_saidMany t_clauses t_newMany t_rounds t_pinFrom t_pinTimes t_lines t_wasTold t_wasBarred t_goesNow t_jamsNow t_queued t_isKept t_tape s16.2.2.2.2.2.2.1 s16.2.2.2.2.2.2.2)) C mv_X12_wrongAt mi_X12_wrongAt ml_X12_159 (c_X12_wrongAt X.2.1 E o_t a_t t_toldDoors t_barredDoors t_taped s16.1 t_length0 s16.2.1 s16.2.2.1 s16.2.2.2.1 s16.2.2.2.2.1 s16.2.2.2.2.2.1 t_saidMany t_clauses t_newMany t_rounds t_pinFrom t_pinTimes t_lines t_wasTold t_wasBarred t_goesNow t_jamsNow t_queued t_isKept (1 : Int32) s16.1 u19 hu19) dX12_readsSum_152 (by decide) rfl (Nat.le_of_ble_eq_true rfl) 0 11 rfl rfl [0] rfl (by decide) rfl rfl rfl rfl ?_
      obtain ⟨hgb, h⟩ := gb_is h
      cases h
      exact hret _ _ _ dX12_readsSum_155 hgb rfl
  · refine g_iconst (pc := 12) (v := 0) C dX12_readsSum_12 (by decide) ?_
    cases h
    exact hret _ _ _ dX12_readsSum_13 nb0 rfl
