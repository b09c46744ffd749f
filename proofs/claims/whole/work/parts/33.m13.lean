theorem dX6_goThrough_0 : decode cX6_goThrough 0 = .ok (.aload_n 0, 1) := by decide +kernel
theorem dX6_goThrough_1 : decode cX6_goThrough 1 = .ok (.dup, 1) := by decide +kernel
theorem dX6_goThrough_2 : decode cX6_goThrough 2 = .ok (.getfield 83, 3) := by decide +kernel
theorem dX6_goThrough_5 : decode cX6_goThrough 5 = .ok (.iconst 1, 1) := by decide +kernel
theorem dX6_goThrough_6 : decode cX6_goThrough 6 = .ok (.iadd, 1) := by decide +kernel
theorem dX6_goThrough_7 : decode cX6_goThrough 7 = .ok (.putfield 83, 3) := by decide +kernel
theorem dX6_goThrough_10 : decode cX6_goThrough 10 = .ok (.aload_n 0, 1) := by decide +kernel
theorem dX6_goThrough_11 : decode cX6_goThrough 11 = .ok (.lconst 0, 1) := by decide +kernel
theorem dX6_goThrough_12 : decode cX6_goThrough 12 = .ok (.putfield 142, 3) := by decide +kernel
theorem dX6_goThrough_15 : decode cX6_goThrough 15 = .ok (.aload_n 0, 1) := by decide +kernel
theorem dX6_goThrough_16 : decode cX6_goThrough 16 = .ok (.aload_n 1, 1) := by decide +kernel
theorem dX6_goThrough_17 : decode cX6_goThrough 17 = .ok (.invokevirtual 146, 3) := by decide +kernel
theorem dX6_goThrough_20 : decode cX6_goThrough 20 = .ok (.istore_n 3, 1) := by decide +kernel
theorem dX6_goThrough_21 : decode cX6_goThrough 21 = .ok (.iload_n 3, 1) := by decide +kernel
theorem dX6_goThrough_22 : decode cX6_goThrough 22 = .ok (.iconst (-1), 1) := by decide +kernel
theorem dX6_goThrough_23 : decode cX6_goThrough 23 = .ok (.if_icmp .eq 27, 3) := by decide +kernel
theorem dX6_goThrough_26 : decode cX6_goThrough 26 = .ok (.aload_n 0, 1) := by decide +kernel
theorem dX6_goThrough_27 : decode cX6_goThrough 27 = .ok (.getfield 65, 3) := by decide +kernel
theorem dX6_goThrough_30 : decode cX6_goThrough 30 = .ok (.iconst 1, 1) := by decide +kernel
theorem dX6_goThrough_31 : decode cX6_goThrough 31 = .ok (.if_icmp .eq 19, 3) := by decide +kernel
theorem dX6_goThrough_34 : decode cX6_goThrough 34 = .ok (.aload_n 0, 1) := by decide +kernel
theorem dX6_goThrough_35 : decode cX6_goThrough 35 = .ok (.dup, 1) := by decide +kernel
theorem dX6_goThrough_36 : decode cX6_goThrough 36 = .ok (.getfield 86, 3) := by decide +kernel
theorem dX6_goThrough_39 : decode cX6_goThrough 39 = .ok (.iconst 1, 1) := by decide +kernel
theorem dX6_goThrough_40 : decode cX6_goThrough 40 = .ok (.iadd, 1) := by decide +kernel
theorem dX6_goThrough_41 : decode cX6_goThrough 41 = .ok (.putfield 86, 3) := by decide +kernel
theorem dX6_goThrough_44 : decode cX6_goThrough 44 = .ok (.aload_n 0, 1) := by decide +kernel
theorem dX6_goThrough_45 : decode cX6_goThrough 45 = .ok (.aload_n 1, 1) := by decide +kernel
theorem dX6_goThrough_46 : decode cX6_goThrough 46 = .ok (.iload_n 3, 1) := by decide +kernel
theorem dX6_goThrough_47 : decode cX6_goThrough 47 = .ok (.invokevirtual 150, 3) := by decide +kernel
theorem dX6_goThrough_50 : decode cX6_goThrough 50 = .ok (.aload_n 0, 1) := by decide +kernel
theorem dX6_goThrough_51 : decode cX6_goThrough 51 = .ok (.getfield 65, 3) := by decide +kernel
theorem dX6_goThrough_54 : decode cX6_goThrough 54 = .ok (.iconst 1, 1) := by decide +kernel
theorem dX6_goThrough_55 : decode cX6_goThrough 55 = .ok (.if_icmp .ne 16, 3) := by decide +kernel
theorem dX6_goThrough_58 : decode cX6_goThrough 58 = .ok (.aload_n 0, 1) := by decide +kernel
theorem dX6_goThrough_59 : decode cX6_goThrough 59 = .ok (.dup, 1) := by decide +kernel
theorem dX6_goThrough_60 : decode cX6_goThrough 60 = .ok (.getfield 44, 3) := by decide +kernel
theorem dX6_goThrough_63 : decode cX6_goThrough 63 = .ok (.iconst 1, 1) := by decide +kernel
theorem dX6_goThrough_64 : decode cX6_goThrough 64 = .ok (.iadd, 1) := by decide +kernel
theorem dX6_goThrough_65 : decode cX6_goThrough 65 = .ok (.putfield 44, 3) := by decide +kernel
theorem dX6_goThrough_68 : decode cX6_goThrough 68 = .ok (.goto 85, 3) := by decide +kernel
theorem dX6_goThrough_71 : decode cX6_goThrough 71 = .ok (.iload_n 3, 1) := by decide +kernel
theorem dX6_goThrough_72 : decode cX6_goThrough 72 = .ok (.iconst (-1), 1) := by decide +kernel
theorem dX6_goThrough_73 : decode cX6_goThrough 73 = .ok (.if_icmp .eq 41, 3) := by decide +kernel
theorem dX6_goThrough_76 : decode cX6_goThrough 76 = .ok (.aload_n 0, 1) := by decide +kernel
theorem dX6_goThrough_77 : decode cX6_goThrough 77 = .ok (.dup, 1) := by decide +kernel
theorem dX6_goThrough_78 : decode cX6_goThrough 78 = .ok (.getfield 44, 3) := by decide +kernel
theorem dX6_goThrough_81 : decode cX6_goThrough 81 = .ok (.aload_n 1, 1) := by decide +kernel
theorem dX6_goThrough_82 : decode cX6_goThrough 82 = .ok (.aload_n 1, 1) := by decide +kernel
theorem dX6_goThrough_83 : decode cX6_goThrough 83 = .ok (.getfield 154, 3) := by decide +kernel
theorem dX6_goThrough_86 : decode cX6_goThrough 86 = .ok (.iload_n 3, 1) := by decide +kernel
theorem dX6_goThrough_87 : decode cX6_goThrough 87 = .ok (.aaload, 1) := by decide +kernel
theorem dX6_goThrough_88 : decode cX6_goThrough 88 = .ok (.getfield 158, 3) := by decide +kernel
theorem dX6_goThrough_91 : decode cX6_goThrough 91 = .ok (.invokestatic 163, 3) := by decide +kernel
theorem dX6_goThrough_94 : decode cX6_goThrough 94 = .ok (.iadd, 1) := by decide +kernel
theorem dX6_goThrough_95 : decode cX6_goThrough 95 = .ok (.putfield 44, 3) := by decide +kernel
theorem dX6_goThrough_98 : decode cX6_goThrough 98 = .ok (.aload_n 0, 1) := by decide +kernel
theorem dX6_goThrough_99 : decode cX6_goThrough 99 = .ok (.aload_n 1, 1) := by decide +kernel
theorem dX6_goThrough_100 : decode cX6_goThrough 100 = .ok (.getfield 154, 3) := by decide +kernel
theorem dX6_goThrough_103 : decode cX6_goThrough 103 = .ok (.iload_n 3, 1) := by decide +kernel
theorem dX6_goThrough_104 : decode cX6_goThrough 104 = .ok (.aaload, 1) := by decide +kernel
theorem dX6_goThrough_105 : decode cX6_goThrough 105 = .ok (.getfield 167, 3) := by decide +kernel
theorem dX6_goThrough_108 : decode cX6_goThrough 108 = .ok (.putfield 34, 3) := by decide +kernel
theorem dX6_goThrough_111 : decode cX6_goThrough 111 = .ok (.goto 42, 3) := by decide +kernel
theorem dX6_goThrough_114 : decode cX6_goThrough 114 = .ok (.aload_n 0, 1) := by decide +kernel
theorem dX6_goThrough_115 : decode cX6_goThrough 115 = .ok (.dup, 1) := by decide +kernel
theorem dX6_goThrough_116 : decode cX6_goThrough 116 = .ok (.getfield 44, 3) := by decide +kernel
theorem dX6_goThrough_119 : decode cX6_goThrough 119 = .ok (.aload_n 1, 1) := by decide +kernel
theorem dX6_goThrough_120 : decode cX6_goThrough 120 = .ok (.getfield 53, 3) := by decide +kernel
theorem dX6_goThrough_123 : decode cX6_goThrough 123 = .ok (.iadd, 1) := by decide +kernel
theorem dX6_goThrough_124 : decode cX6_goThrough 124 = .ok (.putfield 44, 3) := by decide +kernel
theorem dX6_goThrough_127 : decode cX6_goThrough 127 = .ok (.aload_n 0, 1) := by decide +kernel
theorem dX6_goThrough_128 : decode cX6_goThrough 128 = .ok (.dup, 1) := by decide +kernel
theorem dX6_goThrough_129 : decode cX6_goThrough 129 = .ok (.getfield 62, 3) := by decide +kernel
theorem dX6_goThrough_132 : decode cX6_goThrough 132 = .ok (.aload_n 1, 1) := by decide +kernel
theorem dX6_goThrough_133 : decode cX6_goThrough 133 = .ok (.getfield 170, 3) := by decide +kernel
theorem dX6_goThrough_136 : decode cX6_goThrough 136 = .ok (.iadd, 1) := by decide +kernel
theorem dX6_goThrough_137 : decode cX6_goThrough 137 = .ok (.putfield 62, 3) := by decide +kernel
theorem dX6_goThrough_140 : decode cX6_goThrough 140 = .ok (.aload_n 0, 1) := by decide +kernel
theorem dX6_goThrough_141 : decode cX6_goThrough 141 = .ok (.aload_n 2, 1) := by decide +kernel
theorem dX6_goThrough_142 : decode cX6_goThrough 142 = .ok (.aload_n 1, 1) := by decide +kernel
theorem dX6_goThrough_143 : decode cX6_goThrough 143 = .ok (.invokevirtual 173, 3) := by decide +kernel
theorem dX6_goThrough_146 : decode cX6_goThrough 146 = .ok (.aload_n 0, 1) := by decide +kernel
theorem dX6_goThrough_147 : decode cX6_goThrough 147 = .ok (.getfield 176, 3) := by decide +kernel
theorem dX6_goThrough_150 : decode cX6_goThrough 150 = .ok (.invokevirtual 134, 3) := by decide +kernel
theorem dX6_goThrough_153 : decode cX6_goThrough 153 = .ok (.return_, 1) := by decide +kernel
def fX6_goThrough_50 (x0 x1 x2 x3 : Int) (v : V_) : Option (Int × V_) :=
  if (v x0 4) = 1 then (
    lt_ (up_ v x0 6 (wr_ ((v x0 6) + 1))) fun v20 =>
    some (0, v20))
  else (
    if x3 = (-1) then (
      lt_ (up_ v x0 6 (wr_ ((v x0 6) + (v x1 1)))) fun v7 =>
      lt_ (up_ v7 x0 5 (wr_ ((v7 x0 5) + (v7 x1 9)))) fun v8 =>
      bd_ (fX10_lastBlock x1 v8) fun q9 =>
      bd_ (fX6_leave x0 x2 q9.1 (q9.2 x0 10) q9.2) fun q10 =>
      some (0, q10.2))
    else (
      ck_ (0 ≤ x3 ∧ x3 < 34) (
      bd_ (fX6_blocksTo x1 (v ((x1 + 2) + (5 + 2 * x3)) 2) v) fun q14 =>
      lt_ (up_ q14.2 x0 6 (wr_ ((v x0 6) + q14.1))) fun v15 =>
      ck_ (0 ≤ x3 ∧ x3 < 34) (
      lt_ (up_ v15 x0 9 (v15 ((x1 + 2) + (5 + 2 * x3)) 5)) fun v19 =>
      some (0, v19)))))
def fX6_goThrough (x0 x1 x2 : Int) (v : V_) : Option (Int × V_) :=
  lt_ (up_ v x0 7 (wr_ ((v x0 7) + 1))) fun v1 =>
  lt_ (up_ v1 x0 11 0) fun v2 =>
  bd_ (fX6_goCycles x0 x1 v2) fun q3 =>
  if q3.1 = (-1) then (
    fX6_goThrough_50 x0 x1 x2 q3.1 q3.2)
  else (
    if (q3.2 x0 4) = 1 then (
      fX6_goThrough_50 x0 x1 x2 q3.1 q3.2)
    else (
      lt_ (up_ q3.2 x0 8 (wr_ ((q3.2 x0 8) + 1))) fun v22 =>
      bd_ (fX6_doCopied x0 x1 q3.1 v22) fun q23 =>
      fX6_goThrough_50 x0 x1 x2 q3.1 q23.2))
section
variable {E : En_} {p : Program} {l : Launch} {e : Env} {s : State} {m : MethodId} {args : Array Value} {below : List Frame} {meth : Method} {c : Code} {sz : Int}
theorem tX6_goThrough_50 (C : MC_ E p s m c cX6_goThrough 4 RX6) (hr : meth.sig.returnType = (none : Option FieldType)) (hlk : meth.locks = false) (hC : Cl_ E.2.2.2.2.2 sz) {out : Int × V_} (x0 x1 x2 x3 : Int) (v : V_) (T0 : (E.2.2.2.2.2 x0 ∧ ty_ x0 = 6 ∧ ln_ x0 = 0)) (T1 : (E.2.2.2.2.2 x1 ∧ ty_ x1 = 10 ∧ ln_ x1 = 0)) (T2 : (E.2.2.2.2.2 x2 ∧ ty_ x2 = 5 ∧ ln_ x2 = 0)) (h : fX6_goThrough_50 x0 x1 x2 x3 v = some out) : G_ E p l e (rm_ 4 94) s m args below meth c 4 sz (Q_ E below args s sz sz 9 out.1 out.2) 50 [(0, (2, x0)), (1, (2, x1)), (2, (2, x2)), (3, (0, x3))] [] v sz := by
  rw [fX6_goThrough_50] at h
  refine g_aload_n C (f := 0) dX6_goThrough_50 0 rfl ?_
  refine g_getf C (k := 4) (kd := 0) okX6 (by decide) kf_RX6_65 dX6_goThrough_51 (rg_ hC T0.1) T0.2.1 rfl ?_
  refine g_iconst C (n := 1) dX6_goThrough_54 (by decide) ?_
  refine g_icmp_ne C 71 dX6_goThrough_55 rfl (fun c5 => ?_) (fun c5 => ?_)
  · replace h := if_f h c5
    refine g_iload_n C (f := 3) dX6_goThrough_71 3 rfl ?_
    refine g_iconst C (n := (-1)) dX6_goThrough_72 (by decide) ?_
    refine g_icmp_eq C 114 dX6_goThrough_73 rfl (fun c6 => ?_) (fun c6 => ?_)
    · replace h := if_t h c6
      refine g_aload_n C (f := 0) dX6_goThrough_114 0 rfl ?_
      refine g_dup C (Nat.ne_of_beq_eq_false rfl) dX6_goThrough_115 ?_
      refine g_getf C (k := 6) (kd := 0) okX6 (by decide) kf_RX6_44 dX6_goThrough_116 (rg_ hC T0.1) T0.2.1 rfl ?_
      refine g_aload_n C (f := 1) dX6_goThrough_119 1 rfl ?_
      refine g_getf C (k := 1) (kd := 0) okX10 (by decide) kf_RX6_53 dX6_goThrough_120 (rg_ hC T1.1) T1.2.1 rfl ?_
      refine g_iadd C dX6_goThrough_123 ?_
      obtain ⟨v7, ev7, h⟩ := lt_e h
      refine g_putf C (k := 6) (kd := 0) okX6 (by decide) kf_RX6_44 dX6_goThrough_124 (rg_ hC T0.1) T0.2.1 rfl rfl nvI (Or.inl rfl) v7 ev7 ?_
      refine g_aload_n C (f := 0) dX6_goThrough_127 0 rfl ?_
      refine g_dup C (Nat.ne_of_beq_eq_false rfl) dX6_goThrough_128 ?_
      refine g_getf C (k := 5) (kd := 0) okX6 (by decide) kf_RX6_62 dX6_goThrough_129 (rg_ hC T0.1) T0.2.1 rfl ?_
      refine g_aload_n C (f := 1) dX6_goThrough_132 1 rfl ?_
      refine g_getf C (k := 9) (kd := 0) okX10 (by decide) kf_RX6_170 dX6_goThrough_133 (rg_ hC T1.1) T1.2.1 rfl ?_
      refine g_iadd C dX6_goThrough_136 ?_
      obtain ⟨v8, ev8, h⟩ := lt_e h
      refine g_putf C (k := 5) (kd := 0) okX6 (by decide) kf_RX6_62 dX6_goThrough_137 (rg_ hC T0.1) T0.2.1 rfl rfl nvI (Or.inl rfl) v8 ev8 ?_
      refine g_aload_n C (f := 0) dX6_goThrough_140 0 rfl ?_
      refine g_aload_n C (f := 2) dX6_goThrough_141 2 rfl ?_
      refine g_aload_n C (f := 1) dX6_goThrough_142 1 rfl ?_
      obtain ⟨q9, eq9, h⟩ := bd_e h
      refine g_cV C [] (cX10_lastBlock_ok l hC T1 eq9) okX10 T1.2.1 (rg_ hC T1.1) km_RX6_173 cv_X10_lastBlock rfl (by decide) rfl rfl (Nat.le_of_ble_eq_true rfl) dX6_goThrough_143 ?_
      refine g_aload_n C (f := 0) dX6_goThrough_146 0 rfl ?_
      refine g_getf C (k := 10) (kd := 0) okX6 (by decide) kf_RX6_176 dX6_goThrough_147 (rg_ hC T0.1) T0.2.1 rfl ?_
      obtain ⟨q10, eq10, h⟩ := bd_e h
      refine g_cV C [(2, x2), (0, q9.1), (0, q9.2 x0 10)] (cX6_leave_ok l hC T0 T2 eq10) okX6 T0.2.1 (rg_ hC T0.1) km_RX6_134 cv_X6_leave rfl (by decide) rfl rfl (Nat.le_of_ble_eq_true rfl) dX6_goThrough_150 ?_
      cases h
      exact g_vret C dX6_goThrough_153 hr hlk
    · replace h := if_f h c6
      refine g_aload_n C (f := 0) dX6_goThrough_76 0 rfl ?_
      refine g_dup C (Nat.ne_of_beq_eq_false rfl) dX6_goThrough_77 ?_
      refine g_getf C (k := 6) (kd := 0) okX6 (by decide) kf_RX6_44 dX6_goThrough_78 (rg_ hC T0.1) T0.2.1 rfl ?_
      refine g_aload_n C (f := 1) dX6_goThrough_81 1 rfl ?_
      refine g_aload_n C (f := 1) dX6_goThrough_82 1 rfl ?_
      have F11 := fX10_2 hC T1.1 T1.2.1
      refine g_getR C (k := 2) (o := 2) okX10 (by decide) kf_RX6_154 dX6_goThrough_83 hC T1.1 T1.2.1 rfl rfl ?_
      refine g_iload_n C (f := 3) dX6_goThrough_86 3 rfl ?_
      obtain ⟨c12, h⟩ := ck_e h
      have F13 := fE_items (i := x3) hC F11.1 F11.2.1 F11.2.2 c12
      refine g_aald C 26 34 5 2 dX6_goThrough_87 hC F11.1 F11.2.1 F11.2.2 c12 (by decide) oA_items ?_
      refine g_getf C (k := 2) (kd := 0) okX1 (by decide) kf_RX6_158 dX6_goThrough_88 (rg_ hC F13.1) F13.2.1 rfl ?_
      obtain ⟨q14, eq14, h⟩ := bd_e h
      refine g_cS C [(2, x1), (0, v ((x1 + 2) + (5 + 2 * x3)) 2)] (cX6_blocksTo_ok l hC T1 eq14) km_RX6_163 cs_X6_blocksTo rfl (by decide) rfl rfl (Nat.le_of_ble_eq_true rfl) dX6_goThrough_91 ?_
      refine g_iadd C dX6_goThrough_94 ?_
      obtain ⟨v15, ev15, h⟩ := lt_e h
      refine g_putf C (k := 6) (kd := 0) okX6 (by decide) kf_RX6_44 dX6_goThrough_95 (rg_ hC T0.1) T0.2.1 rfl rfl nvI (Or.inl rfl) v15 ev15 ?_
      refine g_aload_n C (f := 0) dX6_goThrough_98 0 rfl ?_
      refine g_aload_n C (f := 1) dX6_goThrough_99 1 rfl ?_
      have F16 := fX10_2 hC T1.1 T1.2.1
      refine g_getR C (k := 2) (o := 2) okX10 (by decide) kf_RX6_154 dX6_goThrough_100 hC T1.1 T1.2.1 rfl rfl ?_
      refine g_iload_n C (f := 3) dX6_goThrough_103 3 rfl ?_
      obtain ⟨c17, h⟩ := ck_e h
      have F18 := fE_items (i := x3) hC F16.1 F16.2.1 F16.2.2 c17
      refine g_aald C 26 34 5 2 dX6_goThrough_104 hC F16.1 F16.2.1 F16.2.2 c17 (by decide) oA_items ?_
      refine g_getf C (k := 5) (kd := 0) okX1 (by decide) kf_RX6_167 dX6_goThrough_105 (rg_ hC F18.1) F18.2.1 rfl ?_
      obtain ⟨v19, ev19, h⟩ := lt_e h
      refine g_putf C (k := 9) (kd := 0) okX6 (by decide) kf_RX6_34 dX6_goThrough_108 (rg_ hC T0.1) T0.2.1 rfl rfl nvI (Or.inl rfl) v19 ev19 ?_
      refine g_goto C 153 dX6_goThrough_111 rfl ?_
      cases h
      exact g_vret C dX6_goThrough_153 hr hlk
  · replace h := if_t h c5
    refine g_aload_n C (f := 0) dX6_goThrough_58 0 rfl ?_
    refine g_dup C (Nat.ne_of_beq_eq_false rfl) dX6_goThrough_59 ?_
    refine g_getf C (k := 6) (kd := 0) okX6 (by decide) kf_RX6_44 dX6_goThrough_60 (rg_ hC T0.1) T0.2.1 rfl ?_
    refine g_iconst C (n := 1) dX6_goThrough_63 (by decide) ?_
    refine g_iadd C dX6_goThrough_64 ?_
    obtain ⟨v20, ev20, h⟩ := lt_e h
    refine g_putf C (k := 6) (kd := 0) okX6 (by decide) kf_RX6_44 dX6_goThrough_65 (rg_ hC T0.1) T0.2.1 rfl rfl nvI (Or.inl rfl) v20 ev20 ?_
    refine g_goto C 153 dX6_goThrough_68 rfl ?_
    cases h
    exact g_vret C dX6_goThrough_153 hr hlk
end
theorem cX6_goThrough_ok (l : Launch) {E : En_} {sz : Int} (hC : Cl_ E.2.2.2.2.2 sz) {x0 x1 x2 : Int} {v : V_} {out : Int × V_} (T0 : (E.2.2.2.2.2 x0 ∧ ty_ x0 = 6 ∧ ln_ x0 = 0)) (T1 : (E.2.2.2.2.2 x1 ∧ ty_ x1 = 10 ∧ ln_ x1 = 0)) (T2 : (E.2.2.2.2.2 x2 ∧ ty_ x2 = 5 ∧ ln_ x2 = 0)) (h : fX6_goThrough x0 x1 x2 v = some out) : Met l yX6_goThrough [.code yX6_goThrough cX6_goThrough 4 (none : Option FieldType)] (rm_ 4 94) (Pc_ E sz v [(2, x0), (2, x1), (2, x2)]) (Qc_ E sz 9 out.1 out.2) 0 0 (fun q => E.1 < q) := by
  refine met_G0 RX6 (by decide +kernel) rfl (Nat.le_of_ble_eq_true rfl) ?_
  intro p e s m args below meth c C hr hlk
  rw [fX6_goThrough] at h
  refine g_aload_n C (f := 0) dX6_goThrough_0 0 rfl ?_
  refine g_dup C (Nat.ne_of_beq_eq_false rfl) dX6_goThrough_1 ?_
  refine g_getf C (k := 7) (kd := 0) okX6 (by decide) kf_RX6_83 dX6_goThrough_2 (rg_ hC T0.1) T0.2.1 rfl ?_
  refine g_iconst C (n := 1) dX6_goThrough_5 (by decide) ?_
  refine g_iadd C dX6_goThrough_6 ?_
  obtain ⟨v1, ev1, h⟩ := lt_e h
  refine g_putf C (k := 7) (kd := 0) okX6 (by decide) kf_RX6_83 dX6_goThrough_7 (rg_ hC T0.1) T0.2.1 rfl rfl nvI (Or.inl rfl) v1 ev1 ?_
  refine g_aload_n C (f := 0) dX6_goThrough_10 0 rfl ?_
  refine g_lconst C (z := 0) dX6_goThrough_11 (by decide) ?_
  obtain ⟨v2, ev2, h⟩ := lt_e h
  refine g_putf C (k := 11) (kd := 1) okX6 (by decide) kf_RX6_142 dX6_goThrough_12 (rg_ hC T0.1) T0.2.1 rfl rfl nvJ (Or.inl rfl) v2 ev2 ?_
  refine g_aload_n C (f := 0) dX6_goThrough_15 0 rfl ?_
  refine g_aload_n C (f := 1) dX6_goThrough_16 1 rfl ?_
  obtain ⟨q3, eq3, h⟩ := bd_e h
  refine g_cV C [(2, x1)] (cX6_goCycles_ok l hC T0 T1 eq3) okX6 T0.2.1 (rg_ hC T0.1) km_RX6_146 cv_X6_goCycles rfl (by decide) rfl rfl (Nat.le_of_ble_eq_true rfl) dX6_goThrough_17 ?_
  refine g_istore_n C (f := 3) (ls' := [(3, (0, q3.1)), (0, (2, x0)), (1, (2, x1)), (2, (2, x2))]) dX6_goThrough_20 (by decide) rfl ?_
  refine g_iload_n C (f := 3) dX6_goThrough_21 0 rfl ?_
  refine g_iconst C (n := (-1)) dX6_goThrough_22 (by decide) ?_
  refine g_icmp_eq C 50 dX6_goThrough_23 rfl (fun c4 => ?_) (fun c4 => ?_)
  · replace h := if_t h c4
    refine g_sub [1, 2, 3, 0] rfl rfl ?_
    exact tX6_goThrough_50 C hr hlk hC _ _ _ _ _ T0 T1 T2 h
  · replace h := if_f h c4
    refine g_aload_n C (f := 0) dX6_goThrough_26 1 rfl ?_
    refine g_getf C (k := 4) (kd := 0) okX6 (by decide) kf_RX6_65 dX6_goThrough_27 (rg_ hC T0.1) T0.2.1 rfl ?_
    refine g_iconst C (n := 1) dX6_goThrough_30 (by decide) ?_
    refine g_icmp_eq C 50 dX6_goThrough_31 rfl (fun c21 => ?_) (fun c21 => ?_)
    · replace h := if_t h c21
      refine g_sub [1, 2, 3, 0] rfl rfl ?_
      exact tX6_goThrough_50 C hr hlk hC _ _ _ _ _ T0 T1 T2 h
    · replace h := if_f h c21
      refine g_aload_n C (f := 0) dX6_goThrough_34 1 rfl ?_
      refine g_dup C (Nat.ne_of_beq_eq_false rfl) dX6_goThrough_35 ?_
      refine g_getf C (k := 8) (kd := 0) okX6 (by decide) kf_RX6_86 dX6_goThrough_36 (rg_ hC T0.1) T0.2.1 rfl ?_
      refine g_iconst C (n := 1) dX6_goThrough_39 (by decide) ?_
      refine g_iadd C dX6_goThrough_40 ?_
      obtain ⟨v22, ev22, h⟩ := lt_e h
      refine g_putf C (k := 8) (kd := 0) okX6 (by decide) kf_RX6_86 dX6_goThrough_41 (rg_ hC T0.1) T0.2.1 rfl rfl nvI (Or.inl rfl) v22 ev22 ?_
      refine g_aload_n C (f := 0) dX6_goThrough_44 1 rfl ?_
      refine g_aload_n C (f := 1) dX6_goThrough_45 2 rfl ?_
      refine g_iload_n C (f := 3) dX6_goThrough_46 0 rfl ?_
      obtain ⟨q23, eq23, h⟩ := bd_e h
      refine g_cV C [(2, x1), (0, q3.1)] (cX6_doCopied_ok l hC T0 T1 eq23) okX6 T0.2.1 (rg_ hC T0.1) km_RX6_150 cv_X6_doCopied rfl (by decide) rfl rfl (Nat.le_of_ble_eq_true rfl) dX6_goThrough_47 ?_
      refine g_sub [1, 2, 3, 0] rfl rfl ?_
      exact tX6_goThrough_50 C hr hlk hC _ _ _ _ _ T0 T1 T2 h
theorem dX6_goFast_0 : decode cX6_goFast 0 = .ok (.aload_n 0, 1) := by decide +kernel
theorem dX6_goFast_1 : decode cX6_goFast 1 = .ok (.aload_n 1, 1) := by decide +kernel
theorem dX6_goFast_2 : decode cX6_goFast 2 = .ok (.aload_n 2, 1) := by decide +kernel
theorem dX6_goFast_3 : decode cX6_goFast 3 = .ok (.invokevirtual 30, 3) := by decide +kernel
theorem dX6_goFast_6 : decode cX6_goFast 6 = .ok (.iconst 0, 1) := by decide +kernel
theorem dX6_goFast_7 : decode cX6_goFast 7 = .ok (.istore 4, 2) := by decide +kernel
theorem dX6_goFast_9 : decode cX6_goFast 9 = .ok (.iload 4, 2) := by decide +kernel
theorem dX6_goFast_11 : decode cX6_goFast 11 = .ok (.sipush 200, 3) := by decide +kernel
theorem dX6_goFast_14 : decode cX6_goFast 14 = .ok (.if_icmp .ge 101, 3) := by decide +kernel
theorem dX6_goFast_17 : decode cX6_goFast 17 = .ok (.aload_n 0, 1) := by decide +kernel
theorem dX6_goFast_18 : decode cX6_goFast 18 = .ok (.getfield 34, 3) := by decide +kernel
theorem dX6_goFast_21 : decode cX6_goFast 21 = .ok (.iconst (-1), 1) := by decide +kernel
theorem dX6_goFast_22 : decode cX6_goFast 22 = .ok (.if_icmp .eq 93, 3) := by decide +kernel
theorem dX6_goFast_25 : decode cX6_goFast 25 = .ok (.aload_n 0, 1) := by decide +kernel
theorem dX6_goFast_26 : decode cX6_goFast 26 = .ok (.getfield 44, 3) := by decide +kernel
theorem dX6_goFast_29 : decode cX6_goFast 29 = .ok (.sipush 200, 3) := by decide +kernel
theorem dX6_goFast_32 : decode cX6_goFast 32 = .ok (.if_icmp .ge 83, 3) := by decide +kernel
theorem dX6_goFast_35 : decode cX6_goFast 35 = .ok (.aload_n 3, 1) := by decide +kernel
theorem dX6_goFast_36 : decode cX6_goFast 36 = .ok (.aload_n 0, 1) := by decide +kernel
theorem dX6_goFast_37 : decode cX6_goFast 37 = .ok (.getfield 34, 3) := by decide +kernel
theorem dX6_goFast_40 : decode cX6_goFast 40 = .ok (.invokevirtual 47, 3) := by decide +kernel
theorem dX6_goFast_43 : decode cX6_goFast 43 = .ok (.astore 5, 2) := by decide +kernel
theorem dX6_goFast_45 : decode cX6_goFast 45 = .ok (.aload 5, 2) := by decide +kernel
theorem dX6_goFast_47 : decode cX6_goFast 47 = .ok (.ifnull 29, 3) := by decide +kernel
theorem dX6_goFast_50 : decode cX6_goFast 50 = .ok (.aload_n 0, 1) := by decide +kernel
theorem dX6_goFast_51 : decode cX6_goFast 51 = .ok (.getfield 44, 3) := by decide +kernel
theorem dX6_goFast_54 : decode cX6_goFast 54 = .ok (.aload 5, 2) := by decide +kernel
theorem dX6_goFast_56 : decode cX6_goFast 56 = .ok (.getfield 53, 3) := by decide +kernel
theorem dX6_goFast_59 : decode cX6_goFast 59 = .ok (.iadd, 1) := by decide +kernel
theorem dX6_goFast_60 : decode cX6_goFast 60 = .ok (.sipush 200, 3) := by decide +kernel
theorem dX6_goFast_63 : decode cX6_goFast 63 = .ok (.if_icmp .gt 13, 3) := by decide +kernel
theorem dX6_goFast_66 : decode cX6_goFast 66 = .ok (.aload_n 0, 1) := by decide +kernel
theorem dX6_goFast_67 : decode cX6_goFast 67 = .ok (.aload 5, 2) := by decide +kernel
theorem dX6_goFast_69 : decode cX6_goFast 69 = .ok (.aload_n 1, 1) := by decide +kernel
theorem dX6_goFast_70 : decode cX6_goFast 70 = .ok (.invokevirtual 58, 3) := by decide +kernel
theorem dX6_goFast_73 : decode cX6_goFast 73 = .ok (.goto 36, 3) := by decide +kernel
theorem dX6_goFast_76 : decode cX6_goFast 76 = .ok (.aload_n 0, 1) := by decide +kernel
theorem dX6_goFast_77 : decode cX6_goFast 77 = .ok (.getfield 62, 3) := by decide +kernel
theorem dX6_goFast_80 : decode cX6_goFast 80 = .ok (.istore 6, 2) := by decide +kernel
theorem dX6_goFast_82 : decode cX6_goFast 82 = .ok (.aload_n 0, 1) := by decide +kernel
theorem dX6_goFast_83 : decode cX6_goFast 83 = .ok (.aload_n 1, 1) := by decide +kernel
theorem dX6_goFast_84 : decode cX6_goFast 84 = .ok (.aload_n 2, 1) := by decide +kernel
theorem dX6_goFast_85 : decode cX6_goFast 85 = .ok (.invokevirtual 38, 3) := by decide +kernel
theorem dX6_goFast_88 : decode cX6_goFast 88 = .ok (.aload_n 0, 1) := by decide +kernel
theorem dX6_goFast_89 : decode cX6_goFast 89 = .ok (.aload_n 0, 1) := by decide +kernel
theorem dX6_goFast_90 : decode cX6_goFast 90 = .ok (.getfield 65, 3) := by decide +kernel
theorem dX6_goFast_93 : decode cX6_goFast 93 = .ok (.iconst 1, 1) := by decide +kernel
theorem dX6_goFast_94 : decode cX6_goFast 94 = .ok (.if_icmp .ne 8, 3) := by decide +kernel
theorem dX6_goFast_97 : decode cX6_goFast 97 = .ok (.iload 6, 2) := by decide +kernel
theorem dX6_goFast_99 : decode cX6_goFast 99 = .ok (.goto 7, 3) := by decide +kernel
theorem dX6_goFast_102 : decode cX6_goFast 102 = .ok (.aload_n 0, 1) := by decide +kernel
theorem dX6_goFast_103 : decode cX6_goFast 103 = .ok (.getfield 62, 3) := by decide +kernel
theorem dX6_goFast_106 : decode cX6_goFast 106 = .ok (.putfield 62, 3) := by decide +kernel
theorem dX6_goFast_109 : decode cX6_goFast 109 = .ok (.iinc 4 1, 3) := by decide +kernel
theorem dX6_goFast_112 : decode cX6_goFast 112 = .ok (.goto (-103), 3) := by decide +kernel
theorem dX6_goFast_115 : decode cX6_goFast 115 = .ok (.aload_n 0, 1) := by decide +kernel
theorem dX6_goFast_116 : decode cX6_goFast 116 = .ok (.invokevirtual 41, 3) := by decide +kernel
theorem dX6_goFast_119 : decode cX6_goFast 119 = .ok (.return_, 1) := by decide +kernel
def fX6_goFast_76 (k9 : Int → Int → Int → Int → Int → V_ → Option (Int × V_)) (x0 x1 x2 x3 x4 : Int) (v : V_) : Option (Int × V_) :=
  lt_ (v x0 5) fun y11 =>
  bd_ (fX6_goAlone x0 x1 x2 v) fun q12 =>
  if (q12.2 x0 4) = 1 then (
    lt_ (up_ q12.2 x0 5 y11) fun v16 =>
    lt_ (wr_ (x4 + 1)) fun y17 =>
    k9 x0 x1 x2 x3 y17 v16)
  else (
    lt_ (up_ q12.2 x0 5 (q12.2 x0 5)) fun v14 =>
    lt_ (wr_ (x4 + 1)) fun y15 =>
    k9 x0 x1 x2 x3 y15 v14)
def fX6_goFast_9 : Nat → Int → Int → Int → Int → Int → V_ → Option (Int × V_)
  | 0, _, _, _, _, _, _ => none
  | n + 1, x0, x1, x2, x3, x4, v =>
    if 200 ≤ x4 then (
      bd_ (fX6_endIfTooLong x0 v) fun q3 =>
      some (0, q3.2))
    else (
      if (v x0 9) = (-1) then (
        bd_ (fX6_endIfTooLong x0 v) fun q5 =>
        some (0, q5.2))
      else (
        if 200 ≤ (v x0 6) then (
          bd_ (fX6_endIfTooLong x0 v) fun q7 =>
          some (0, q7.2))
        else (
          bd_ (fX4_startedBy x3 (v x0 9) v) fun q8 =>
          if q8.1 = 0 then (
            fX6_goFast_76 (fX6_goFast_9 n) x0 x1 x2 x3 x4 q8.2)
          else (
            if 200 < (wr_ ((q8.2 x0 6) + (q8.2 q8.1 1))) then (
              fX6_goFast_76 (fX6_goFast_9 n) x0 x1 x2 x3 x4 q8.2)
            else (
              bd_ (fX6_goThrough x0 q8.1 x1 q8.2) fun q20 =>
              lt_ (wr_ (x4 + 1)) fun y21 =>
              (fX6_goFast_9 n) x0 x1 x2 x3 y21 q20.2)))))
def fX6_goFast (x0 x1 x2 x3 : Int) (v : V_) : Option (Int × V_) :=
  bd_ (fX6_begin x0 x1 x2 v) fun q1 =>
  fX6_goFast_9 fu_ x0 x1 x2 x3 0 q1.2
section
variable {E : En_} {p : Program} {l : Launch} {e : Env} {s : State} {m : MethodId} {args : Array Value} {below : List Frame} {meth : Method} {c : Code} {sz : Int}
theorem tX6_goFast_76 (C : MC_ E p s m c cX6_goFast 7 RX6) (hr : meth.sig.returnType = (none : Option FieldType)) (hlk : meth.locks = false) (hC : Cl_ E.2.2.2.2.2 sz) {out : Int × V_} (k9 : Int → Int → Int → Int → Int → V_ → Option (Int × V_)) (H_9 : ∀ (x0 x1 x2 x3 x4 : Int) (v : V_), (E.2.2.2.2.2 x0 ∧ ty_ x0 = 6 ∧ ln_ x0 = 0) → (E.2.2.2.2.2 x1 ∧ ty_ x1 = 5 ∧ ln_ x1 = 0) → (E.2.2.2.2.2 x2 ∧ ty_ x2 = 7 ∧ ln_ x2 = 0) → (E.2.2.2.2.2 x3 ∧ ty_ x3 = 4 ∧ ln_ x3 = 0) → k9 x0 x1 x2 x3 x4 v = some out → G_ E p l e (rm_ 5 117) s m args below meth c 7 sz (Q_ E below args s sz sz 9 out.1 out.2) 9 [(0, (2, x0)), (1, (2, x1)), (2, (2, x2)), (3, (2, x3)), (4, (0, x4))] [] v sz) (x0 x1 x2 x3 x4 : Int) (v : V_) (T0 : (E.2.2.2.2.2 x0 ∧ ty_ x0 = 6 ∧ ln_ x0 = 0)) (T1 : (E.2.2.2.2.2 x1 ∧ ty_ x1 = 5 ∧ ln_ x1 = 0)) (T2 : (E.2.2.2.2.2 x2 ∧ ty_ x2 = 7 ∧ ln_ x2 = 0)) (T3 : (E.2.2.2.2.2 x3 ∧ ty_ x3 = 4 ∧ ln_ x3 = 0)) (h : fX6_goFast_76 k9 x0 x1 x2 x3 x4 v = some out) : G_ E p l e (rm_ 5 117) s m args below meth c 7 sz (Q_ E below args s sz sz 9 out.1 out.2) 76 [(0, (2, x0)), (1, (2, x1)), (2, (2, x2)), (3, (2, x3)), (4, (0, x4))] [] v sz := by
  rw [fX6_goFast_76] at h
  refine g_aload_n C (f := 0) dX6_goFast_76 0 rfl ?_
  refine g_getf C (k := 5) (kd := 0) okX6 (by decide) kf_RX6_62 dX6_goFast_77 (rg_ hC T0.1) T0.2.1 rfl ?_
  obtain ⟨y11, ey11, h⟩ := lt_e h
  refine g_set C ey11 ?_
  refine g_istore C (i := 6) (ls' := [(6, (0, y11)), (0, (2, x0)), (1, (2, x1)), (2, (2, x2)), (3, (2, x3)), (4, (0, x4))]) dX6_goFast_80 (by decide) rfl ?_
  refine g_aload_n C (f := 0) dX6_goFast_82 1 rfl ?_
  refine g_aload_n C (f := 1) dX6_goFast_83 2 rfl ?_
  refine g_aload_n C (f := 2) dX6_goFast_84 3 rfl ?_
  obtain ⟨q12, eq12, h⟩ := bd_e h
  refine g_cV C [(2, x1), (2, x2)] (cX6_goAlone_ok l hC T0 T1 T2 eq12) okX6 T0.2.1 (rg_ hC T0.1) km_RX6_38 cv_X6_goAlone rfl (by decide) rfl rfl (Nat.le_of_ble_eq_true rfl) dX6_goFast_85 ?_
  refine g_aload_n C (f := 0) dX6_goFast_88 1 rfl ?_
  refine g_aload_n C (f := 0) dX6_goFast_89 1 rfl ?_
  refine g_getf C (k := 4) (kd := 0) okX6 (by decide) kf_RX6_65 dX6_goFast_90 (rg_ hC T0.1) T0.2.1 rfl ?_
  refine g_iconst C (n := 1) dX6_goFast_93 (by decide) ?_
  refine g_icmp_ne C 102 dX6_goFast_94 rfl (fun c13 => ?_) (fun c13 => ?_)
  · replace h := if_f h c13
    refine g_aload_n C (f := 0) dX6_goFast_102 1 rfl ?_
    refine g_getf C (k := 5) (kd := 0) okX6 (by decide) kf_RX6_62 dX6_goFast_103 (rg_ hC T0.1) T0.2.1 rfl ?_
    obtain ⟨v14, ev14, h⟩ := lt_e h
    refine g_putf C (k := 5) (kd := 0) okX6 (by decide) kf_RX6_62 dX6_goFast_106 (rg_ hC T0.1) T0.2.1 rfl rfl nvI (Or.inl rfl) v14 ev14 ?_
    obtain ⟨y15, ey15, h⟩ := lt_e h
    refine g_iincx C (ls' := [(4, (0, y15)), (6, (0, y11)), (0, (2, x0)), (1, (2, x1)), (2, (2, x2)), (3, (2, x3))]) ey15 dX6_goFast_109 5 rfl (by decide) (by decide) rfl ?_
    refine g_goto C 9 dX6_goFast_112 rfl ?_
    refine g_sub [2, 3, 4, 5, 0] rfl rfl ?_
    exact H_9 _ _ _ _ _ _ T0 T1 T2 T3 h
  · replace h := if_t h c13
    refine g_iload C (i := 6) dX6_goFast_97 0 rfl ?_
    refine g_goto C 106 dX6_goFast_99 rfl ?_
    obtain ⟨v16, ev16, h⟩ := lt_e h
    refine g_putf C (k := 5) (kd := 0) okX6 (by decide) kf_RX6_62 dX6_goFast_106 (rg_ hC T0.1) T0.2.1 rfl rfl nvI (Or.inl rfl) v16 ev16 ?_
    obtain ⟨y17, ey17, h⟩ := lt_e h
    refine g_iincx C (ls' := [(4, (0, y17)), (6, (0, y11)), (0, (2, x0)), (1, (2, x1)), (2, (2, x2)), (3, (2, x3))]) ey17 dX6_goFast_109 5 rfl (by decide) (by decide) rfl ?_
    refine g_goto C 9 dX6_goFast_112 rfl ?_
    refine g_sub [2, 3, 4, 5, 0] rfl rfl ?_
    exact H_9 _ _ _ _ _ _ T0 T1 T2 T3 h
theorem tX6_goFast_9 (C : MC_ E p s m c cX6_goFast 7 RX6) (hr : meth.sig.returnType = (none : Option FieldType)) (hlk : meth.locks = false) (hC : Cl_ E.2.2.2.2.2 sz) {out : Int × V_} : ∀ (n : Nat) (x0 x1 x2 x3 x4 : Int) (v : V_), (E.2.2.2.2.2 x0 ∧ ty_ x0 = 6 ∧ ln_ x0 = 0) → (E.2.2.2.2.2 x1 ∧ ty_ x1 = 5 ∧ ln_ x1 = 0) → (E.2.2.2.2.2 x2 ∧ ty_ x2 = 7 ∧ ln_ x2 = 0) → (E.2.2.2.2.2 x3 ∧ ty_ x3 = 4 ∧ ln_ x3 = 0) → fX6_goFast_9 n x0 x1 x2 x3 x4 v = some out → G_ E p l e (rm_ 5 117) s m args below meth c 7 sz (Q_ E below args s sz sz 9 out.1 out.2) 9 [(0, (2, x0)), (1, (2, x1)), (2, (2, x2)), (3, (2, x3)), (4, (0, x4))] [] v sz := by
  intro n
  induction n with
  | zero =>
    intro x0 x1 x2 x3 x4 v T0 T1 T2 T3 h
    cases h
  | succ n H_9 =>
    intro x0 x1 x2 x3 x4 v T0 T1 T2 T3 h
    rw [fX6_goFast_9] at h
    refine g_iload C (i := 4) dX6_goFast_9 4 rfl ?_
    refine g_sipush C (n := 200) dX6_goFast_11 (by decide) ?_
    refine g_icmp_ge C 115 dX6_goFast_14 rfl (fun c2 => ?_) (fun c2 => ?_)
    · replace h := if_t h c2
      refine g_aload_n C (f := 0) dX6_goFast_115 0 rfl ?_
      obtain ⟨q3, eq3, h⟩ := bd_e h
      refine g_cV C [] (cX6_endIfTooLong_ok l hC T0 eq3) okX6 T0.2.1 (rg_ hC T0.1) km_RX6_41 cv_X6_endIfTooLong rfl (by decide) rfl rfl (Nat.le_of_ble_eq_true rfl) dX6_goFast_116 ?_
      cases h
      exact g_vret C dX6_goFast_119 hr hlk
    · replace h := if_f h c2
      refine g_aload_n C (f := 0) dX6_goFast_17 0 rfl ?_
      refine g_getf C (k := 9) (kd := 0) okX6 (by decide) kf_RX6_34 dX6_goFast_18 (rg_ hC T0.1) T0.2.1 rfl ?_
      refine g_iconst C (n := (-1)) dX6_goFast_21 (by decide) ?_
      refine g_icmp_eq C 115 dX6_goFast_22 rfl (fun c4 => ?_) (fun c4 => ?_)
      · replace h := if_t h c4
        refine g_aload_n C (f := 0) dX6_goFast_115 0 rfl ?_
        obtain ⟨q5, eq5, h⟩ := bd_e h
        refine g_cV C [] (cX6_endIfTooLong_ok l hC T0 eq5) okX6 T0.2.1 (rg_ hC T0.1) km_RX6_41 cv_X6_endIfTooLong rfl (by decide) rfl rfl (Nat.le_of_ble_eq_true rfl) dX6_goFast_116 ?_
        cases h
        exact g_vret C dX6_goFast_119 hr hlk
      · replace h := if_f h c4
        refine g_aload_n C (f := 0) dX6_goFast_25 0 rfl ?_
        refine g_getf C (k := 6) (kd := 0) okX6 (by decide) kf_RX6_44 dX6_goFast_26 (rg_ hC T0.1) T0.2.1 rfl ?_
        refine g_sipush C (n := 200) dX6_goFast_29 (by decide) ?_
        refine g_icmp_ge C 115 dX6_goFast_32 rfl (fun c6 => ?_) (fun c6 => ?_)
        · replace h := if_t h c6
          refine g_aload_n C (f := 0) dX6_goFast_115 0 rfl ?_
          obtain ⟨q7, eq7, h⟩ := bd_e h
          refine g_cV C [] (cX6_endIfTooLong_ok l hC T0 eq7) okX6 T0.2.1 (rg_ hC T0.1) km_RX6_41 cv_X6_endIfTooLong rfl (by decide) rfl rfl (Nat.le_of_ble_eq_true rfl) dX6_goFast_116 ?_
          cases h
          exact g_vret C dX6_goFast_119 hr hlk
        · replace h := if_f h c6
          refine g_aload_n C (f := 3) dX6_goFast_35 3 rfl ?_
          refine g_aload_n C (f := 0) dX6_goFast_36 0 rfl ?_
          refine g_getf C (k := 9) (kd := 0) okX6 (by decide) kf_RX6_34 dX6_goFast_37 (rg_ hC T0.1) T0.2.1 rfl ?_
          obtain ⟨q8, eq8, h⟩ := bd_e h
          refine g_cV C [(0, v x0 9)] (cX4_startedBy_ok l hC T3 eq8) okX4 T3.2.1 (rg_ hC T3.1) km_RX6_47 cv_X4_startedBy rfl (by decide) rfl rfl (Nat.le_of_ble_eq_true rfl) dX6_goFast_40 ?_
          have F9 := rX4_startedBy_ok hC T3 eq8
          refine g_astore C (i := 5) (ls' := [(5, (2, q8.1)), (0, (2, x0)), (1, (2, x1)), (2, (2, x2)), (3, (2, x3)), (4, (0, x4))]) dX6_goFast_43 (by decide) rfl ?_
          refine g_aload C (i := 5) dX6_goFast_45 0 rfl ?_
          refine g_ifnull C 76 dX6_goFast_47 rfl (fun c10 => ?_) (fun c10 => ?_)
          · replace h := if_t h c10
            refine g_sub [1, 2, 3, 4, 5] rfl rfl ?_
            exact tX6_goFast_76 C hr hlk hC _ H_9 _ _ _ _ _ _ T0 T1 T2 T3 h
          · replace h := if_f h c10
            have F18 := Or.resolve_left F9 c10
            refine g_aload_n C (f := 0) dX6_goFast_50 1 rfl ?_
            refine g_getf C (k := 6) (kd := 0) okX6 (by decide) kf_RX6_44 dX6_goFast_51 (rg_ hC T0.1) T0.2.1 rfl ?_
            refine g_aload C (i := 5) dX6_goFast_54 0 rfl ?_
            refine g_getf C (k := 1) (kd := 0) okX10 (by decide) kf_RX6_53 dX6_goFast_56 (rg_ hC F18.1) F18.2.1 rfl ?_
            refine g_iadd C dX6_goFast_59 ?_
            refine g_sipush C (n := 200) dX6_goFast_60 (by decide) ?_
            refine g_icmp_gt C 76 dX6_goFast_63 rfl (fun c19 => ?_) (fun c19 => ?_)
            · replace h := if_t h c19
              refine g_sub [1, 2, 3, 4, 5] rfl rfl ?_
              exact tX6_goFast_76 C hr hlk hC _ H_9 _ _ _ _ _ _ T0 T1 T2 T3 h
            · replace h := if_f h c19
              refine g_aload_n C (f := 0) dX6_goFast_66 1 rfl ?_
              refine g_aload C (i := 5) dX6_goFast_67 0 rfl ?_
              refine g_aload_n C (f := 1) dX6_goFast_69 2 rfl ?_
              obtain ⟨q20, eq20, h⟩ := bd_e h
              refine g_cV C [(2, q8.1), (2, x1)] (cX6_goThrough_ok l hC T0 F18 T1 eq20) okX6 T0.2.1 (rg_ hC T0.1) km_RX6_58 cv_X6_goThrough rfl (by decide) rfl rfl (Nat.le_of_ble_eq_true rfl) dX6_goFast_70 ?_
              refine g_goto C 109 dX6_goFast_73 rfl ?_
              obtain ⟨y21, ey21, h⟩ := lt_e h
              refine g_iincx C (ls' := [(4, (0, y21)), (5, (2, q8.1)), (0, (2, x0)), (1, (2, x1)), (2, (2, x2)), (3, (2, x3))]) ey21 dX6_goFast_109 5 rfl (by decide) (by decide) rfl ?_
              refine g_goto C 9 dX6_goFast_112 rfl ?_
              refine g_sub [2, 3, 4, 5, 0] rfl rfl ?_
              exact H_9 _ _ _ _ _ _ T0 T1 T2 T3 h
end
theorem cX6_goFast_ok (l : Launch) {E : En_} {sz : Int} (hC : Cl_ E.2.2.2.2.2 sz) {x0 x1 x2 x3 : Int} {v : V_} {out : Int × V_} (T0 : (E.2.2.2.2.2 x0 ∧ ty_ x0 = 6 ∧ ln_ x0 = 0)) (T1 : (E.2.2.2.2.2 x1 ∧ ty_ x1 = 5 ∧ ln_ x1 = 0)) (T2 : (E.2.2.2.2.2 x2 ∧ ty_ x2 = 7 ∧ ln_ x2 = 0)) (T3 : (E.2.2.2.2.2 x3 ∧ ty_ x3 = 4 ∧ ln_ x3 = 0)) (h : fX6_goFast x0 x1 x2 x3 v = some out) : Met l yX6_goFast [.code yX6_goFast cX6_goFast 7 (none : Option FieldType)] (rm_ 5 117) (Pc_ E sz v [(2, x0), (2, x1), (2, x2), (2, x3)]) (Qc_ E sz 9 out.1 out.2) 0 0 (fun q => E.1 < q) := by
  refine met_G0 RX6 (by decide +kernel) rfl (Nat.le_of_ble_eq_true rfl) ?_
  intro p e s m args below meth c C hr hlk
  rw [fX6_goFast] at h
  refine g_aload_n C (f := 0) dX6_goFast_0 0 rfl ?_
  refine g_aload_n C (f := 1) dX6_goFast_1 1 rfl ?_
  refine g_aload_n C (f := 2) dX6_goFast_2 2 rfl ?_
  obtain ⟨q1, eq1, h⟩ := bd_e h
  refine g_cV C [(2, x1), (2, x2)] (cX6_begin_ok l hC T0 T1 T2 eq1) okX6 T0.2.1 (rg_ hC T0.1) km_RX6_30 cv_X6_begin rfl (by decide) rfl rfl (Nat.le_of_ble_eq_true rfl) dX6_goFast_3 ?_
  refine g_iconst C (n := 0) dX6_goFast_6 (by decide) ?_
  refine g_istore C (i := 4) (ls' := [(4, (0, 0)), (0, (2, x0)), (1, (2, x1)), (2, (2, x2)), (3, (2, x3))]) dX6_goFast_7 (by decide) rfl ?_
  refine g_sub [1, 2, 3, 4, 0] rfl rfl ?_
  exact tX6_goFast_9 C hr hlk hC _ _ _ _ _ _ _ T0 T1 T2 T3 h
theorem dX6_goSlow_0 : decode cX6_goSlow 0 = .ok (.aload_n 0, 1) := by decide +kernel
theorem dX6_goSlow_1 : decode cX6_goSlow 1 = .ok (.aload_n 1, 1) := by decide +kernel
theorem dX6_goSlow_2 : decode cX6_goSlow 2 = .ok (.aload_n 2, 1) := by decide +kernel
theorem dX6_goSlow_3 : decode cX6_goSlow 3 = .ok (.invokevirtual 30, 3) := by decide +kernel
theorem dX6_goSlow_6 : decode cX6_goSlow 6 = .ok (.iconst 0, 1) := by decide +kernel
theorem dX6_goSlow_7 : decode cX6_goSlow 7 = .ok (.istore_n 3, 1) := by decide +kernel
theorem dX6_goSlow_8 : decode cX6_goSlow 8 = .ok (.iload_n 3, 1) := by decide +kernel
theorem dX6_goSlow_9 : decode cX6_goSlow 9 = .ok (.sipush 200, 3) := by decide +kernel
theorem dX6_goSlow_12 : decode cX6_goSlow 12 = .ok (.if_icmp .ge 23, 3) := by decide +kernel
theorem dX6_goSlow_15 : decode cX6_goSlow 15 = .ok (.aload_n 0, 1) := by decide +kernel
theorem dX6_goSlow_16 : decode cX6_goSlow 16 = .ok (.getfield 34, 3) := by decide +kernel
theorem dX6_goSlow_19 : decode cX6_goSlow 19 = .ok (.iconst (-1), 1) := by decide +kernel
theorem dX6_goSlow_20 : decode cX6_goSlow 20 = .ok (.if_icmp .eq 15, 3) := by decide +kernel
theorem dX6_goSlow_23 : decode cX6_goSlow 23 = .ok (.aload_n 0, 1) := by decide +kernel
theorem dX6_goSlow_24 : decode cX6_goSlow 24 = .ok (.aload_n 1, 1) := by decide +kernel
theorem dX6_goSlow_25 : decode cX6_goSlow 25 = .ok (.aload_n 2, 1) := by decide +kernel
theorem dX6_goSlow_26 : decode cX6_goSlow 26 = .ok (.invokevirtual 38, 3) := by decide +kernel
theorem dX6_goSlow_29 : decode cX6_goSlow 29 = .ok (.iinc 3 1, 3) := by decide +kernel
theorem dX6_goSlow_32 : decode cX6_goSlow 32 = .ok (.goto (-24), 3) := by decide +kernel
theorem dX6_goSlow_35 : decode cX6_goSlow 35 = .ok (.aload_n 0, 1) := by decide +kernel
theorem dX6_goSlow_36 : decode cX6_goSlow 36 = .ok (.invokevirtual 41, 3) := by decide +kernel
theorem dX6_goSlow_39 : decode cX6_goSlow 39 = .ok (.return_, 1) := by decide +kernel
def fX6_goSlow_8 : Nat → Int → Int → Int → Int → V_ → Option (Int × V_)
  | 0, _, _, _, _, _ => none
  | n + 1, x0, x1, x2, x3, v =>
    if 200 ≤ x3 then (
      bd_ (fX6_endIfTooLong x0 v) fun q3 =>
      some (0, q3.2))
    else (
      if (v x0 9) = (-1) then (
        bd_ (fX6_endIfTooLong x0 v) fun q5 =>
        some (0, q5.2))
      else (
        bd_ (fX6_goAlone x0 x1 x2 v) fun q6 =>
        lt_ (wr_ (x3 + 1)) fun y7 =>
        (fX6_goSlow_8 n) x0 x1 x2 y7 q6.2))
def fX6_goSlow (x0 x1 x2 : Int) (v : V_) : Option (Int × V_) :=
  bd_ (fX6_begin x0 x1 x2 v) fun q1 =>
  fX6_goSlow_8 fu_ x0 x1 x2 0 q1.2
section
variable {E : En_} {p : Program} {l : Launch} {e : Env} {s : State} {m : MethodId} {args : Array Value} {below : List Frame} {meth : Method} {c : Code} {sz : Int}
theorem tX6_goSlow_8 (C : MC_ E p s m c cX6_goSlow 4 RX6) (hr : meth.sig.returnType = (none : Option FieldType)) (hlk : meth.locks = false) (hC : Cl_ E.2.2.2.2.2 sz) {out : Int × V_} : ∀ (n : Nat) (x0 x1 x2 x3 : Int) (v : V_), (E.2.2.2.2.2 x0 ∧ ty_ x0 = 6 ∧ ln_ x0 = 0) → (E.2.2.2.2.2 x1 ∧ ty_ x1 = 5 ∧ ln_ x1 = 0) → (E.2.2.2.2.2 x2 ∧ ty_ x2 = 7 ∧ ln_ x2 = 0) → fX6_goSlow_8 n x0 x1 x2 x3 v = some out → G_ E p l e (rm_ 3 70) s m args below meth c 4 sz (Q_ E below args s sz sz 9 out.1 out.2) 8 [(0, (2, x0)), (1, (2, x1)), (2, (2, x2)), (3, (0, x3))] [] v sz := by
  intro n
  induction n with
  | zero =>
    intro x0 x1 x2 x3 v T0 T1 T2 h
    cases h
  | succ n H_8 =>
    intro x0 x1 x2 x3 v T0 T1 T2 h
    rw [fX6_goSlow_8] at h
    refine g_iload_n C (f := 3) dX6_goSlow_8 3 rfl ?_
    refine g_sipush C (n := 200) dX6_goSlow_9 (by decide) ?_
    refine g_icmp_ge C 35 dX6_goSlow_12 rfl (fun c2 => ?_) (fun c2 => ?_)
    · replace h := if_t h c2
      refine g_aload_n C (f := 0) dX6_goSlow_35 0 rfl ?_
      obtain ⟨q3, eq3, h⟩ := bd_e h
      refine g_cV C [] (cX6_endIfTooLong_ok l hC T0 eq3) okX6 T0.2.1 (rg_ hC T0.1) km_RX6_41 cv_X6_endIfTooLong rfl (by decide) rfl rfl (Nat.le_of_ble_eq_true rfl) dX6_goSlow_36 ?_
      cases h
      exact g_vret C dX6_goSlow_39 hr hlk
    · replace h := if_f h c2
      refine g_aload_n C (f := 0) dX6_goSlow_15 0 rfl ?_
      refine g_getf C (k := 9) (kd := 0) okX6 (by decide) kf_RX6_34 dX6_goSlow_16 (rg_ hC T0.1) T0.2.1 rfl ?_
      refine g_iconst C (n := (-1)) dX6_goSlow_19 (by decide) ?_
      refine g_icmp_eq C 35 dX6_goSlow_20 rfl (fun c4 => ?_) (fun c4 => ?_)
      · replace h := if_t h c4
        refine g_aload_n C (f := 0) dX6_goSlow_35 0 rfl ?_
        obtain ⟨q5, eq5, h⟩ := bd_e h
        refine g_cV C [] (cX6_endIfTooLong_ok l hC T0 eq5) okX6 T0.2.1 (rg_ hC T0.1) km_RX6_41 cv_X6_endIfTooLong rfl (by decide) rfl rfl (Nat.le_of_ble_eq_true rfl) dX6_goSlow_36 ?_
        cases h
        exact g_vret C dX6_goSlow_39 hr hlk
      · replace h := if_f h c4
        refine g_aload_n C (f := 0) dX6_goSlow_23 0 rfl ?_
        refine g_aload_n C (f := 1) dX6_goSlow_24 1 rfl ?_
        refine g_aload_n C (f := 2) dX6_goSlow_25 2 rfl ?_
        obtain ⟨q6, eq6, h⟩ := bd_e h
        refine g_cV C [(2, x1), (2, x2)] (cX6_goAlone_ok l hC T0 T1 T2 eq6) okX6 T0.2.1 (rg_ hC T0.1) km_RX6_38 cv_X6_goAlone rfl (by decide) rfl rfl (Nat.le_of_ble_eq_true rfl) dX6_goSlow_26 ?_
        obtain ⟨y7, ey7, h⟩ := lt_e h
        refine g_iincx C (ls' := [(3, (0, y7)), (0, (2, x0)), (1, (2, x1)), (2, (2, x2))]) ey7 dX6_goSlow_29 3 rfl (by decide) (by decide) rfl ?_
        refine g_goto C 8 dX6_goSlow_32 rfl ?_
        refine g_sub [1, 2, 3, 0] rfl rfl ?_
        exact H_8 _ _ _ _ _ T0 T1 T2 h
end
theorem cX6_goSlow_ok (l : Launch) {E : En_} {sz : Int} (hC : Cl_ E.2.2.2.2.2 sz) {x0 x1 x2 : Int} {v : V_} {out : Int × V_} (T0 : (E.2.2.2.2.2 x0 ∧ ty_ x0 = 6 ∧ ln_ x0 = 0)) (T1 : (E.2.2.2.2.2 x1 ∧ ty_ x1 = 5 ∧ ln_ x1 = 0)) (T2 : (E.2.2.2.2.2 x2 ∧ ty_ x2 = 7 ∧ ln_ x2 = 0)) (h : fX6_goSlow x0 x1 x2 v = some out) : Met l yX6_goSlow [.code yX6_goSlow cX6_goSlow 4 (none : Option FieldType)] (rm_ 3 70) (Pc_ E sz v [(2, x0), (2, x1), (2, x2)]) (Qc_ E sz 9 out.1 out.2) 0 0 (fun q => E.1 < q) := by
  refine met_G0 RX6 (by decide +kernel) rfl (Nat.le_of_ble_eq_true rfl) ?_
  intro p e s m args below meth c C hr hlk
  rw [fX6_goSlow] at h
  refine g_aload_n C (f := 0) dX6_goSlow_0 0 rfl ?_
  refine g_aload_n C (f := 1) dX6_goSlow_1 1 rfl ?_
  refine g_aload_n C (f := 2) dX6_goSlow_2 2 rfl ?_
  obtain ⟨q1, eq1, h⟩ := bd_e h
  refine g_cV C [(2, x1), (2, x2)] (cX6_begin_ok l hC T0 T1 T2 eq1) okX6 T0.2.1 (rg_ hC T0.1) km_RX6_30 cv_X6_begin rfl (by decide) rfl rfl (Nat.le_of_ble_eq_true rfl) dX6_goSlow_3 ?_
  refine g_iconst C (n := 0) dX6_goSlow_6 (by decide) ?_
  refine g_istore_n C (f := 3) (ls' := [(3, (0, 0)), (0, (2, x0)), (1, (2, x1)), (2, (2, x2))]) dX6_goSlow_7 (by decide) rfl ?_
  refine g_sub [1, 2, 3, 0] rfl rfl ?_
  exact tX6_goSlow_8 C hr hlk hC _ _ _ _ _ _ T0 T1 T2 h
theorem dX7_addCounts_0 : decode cX7_addCounts 0 = .ok (.iconst 0, 1) := by decide +kernel
theorem dX7_addCounts_1 : decode cX7_addCounts 1 = .ok (.istore_n 3, 1) := by decide +kernel
theorem dX7_addCounts_2 : decode cX7_addCounts 2 = .ok (.iload_n 3, 1) := by decide +kernel
theorem dX7_addCounts_3 : decode cX7_addCounts 3 = .ok (.bipush 8, 2) := by decide +kernel
theorem dX7_addCounts_5 : decode cX7_addCounts 5 = .ok (.if_icmp .ge 36, 3) := by decide +kernel
theorem dX7_addCounts_8 : decode cX7_addCounts 8 = .ok (.aload_n 0, 1) := by decide +kernel
theorem dX7_addCounts_9 : decode cX7_addCounts 9 = .ok (.getfield 11, 3) := by decide +kernel
theorem dX7_addCounts_12 : decode cX7_addCounts 12 = .ok (.bipush 14, 2) := by decide +kernel
theorem dX7_addCounts_14 : decode cX7_addCounts 14 = .ok (.iload_n 3, 1) := by decide +kernel
theorem dX7_addCounts_15 : decode cX7_addCounts 15 = .ok (.iadd, 1) := by decide +kernel
theorem dX7_addCounts_16 : decode cX7_addCounts 16 = .ok (.ldc 35, 2) := by decide +kernel
theorem dX7_addCounts_18 : decode cX7_addCounts 18 = .ok (.aload_n 0, 1) := by decide +kernel
theorem dX7_addCounts_19 : decode cX7_addCounts 19 = .ok (.getfield 11, 3) := by decide +kernel
theorem dX7_addCounts_22 : decode cX7_addCounts 22 = .ok (.bipush 14, 2) := by decide +kernel
theorem dX7_addCounts_24 : decode cX7_addCounts 24 = .ok (.iload_n 3, 1) := by decide +kernel
theorem dX7_addCounts_25 : decode cX7_addCounts 25 = .ok (.iadd, 1) := by decide +kernel
theorem dX7_addCounts_26 : decode cX7_addCounts 26 = .ok (.iaload, 1) := by decide +kernel
theorem dX7_addCounts_27 : decode cX7_addCounts 27 = .ok (.aload_n 1, 1) := by decide +kernel
theorem dX7_addCounts_28 : decode cX7_addCounts 28 = .ok (.iload_n 3, 1) := by decide +kernel
theorem dX7_addCounts_29 : decode cX7_addCounts 29 = .ok (.iaload, 1) := by decide +kernel
theorem dX7_addCounts_30 : decode cX7_addCounts 30 = .ok (.iadd, 1) := by decide +kernel
theorem dX7_addCounts_31 : decode cX7_addCounts 31 = .ok (.invokestatic 36, 3) := by decide +kernel
theorem dX7_addCounts_34 : decode cX7_addCounts 34 = .ok (.iastore, 1) := by decide +kernel
theorem dX7_addCounts_35 : decode cX7_addCounts 35 = .ok (.iinc 3 1, 3) := by decide +kernel
theorem dX7_addCounts_38 : decode cX7_addCounts 38 = .ok (.goto (-36), 3) := by decide +kernel
theorem dX7_addCounts_41 : decode cX7_addCounts 41 = .ok (.iconst 0, 1) := by decide +kernel
theorem dX7_addCounts_42 : decode cX7_addCounts 42 = .ok (.istore_n 3, 1) := by decide +kernel
theorem dX7_addCounts_43 : decode cX7_addCounts 43 = .ok (.iload_n 3, 1) := by decide +kernel
theorem dX7_addCounts_44 : decode cX7_addCounts 44 = .ok (.bipush 16, 2) := by decide +kernel
theorem dX7_addCounts_46 : decode cX7_addCounts 46 = .ok (.if_icmp .ge 36, 3) := by decide +kernel
theorem dX7_addCounts_49 : decode cX7_addCounts 49 = .ok (.aload_n 0, 1) := by decide +kernel
theorem dX7_addCounts_50 : decode cX7_addCounts 50 = .ok (.getfield 11, 3) := by decide +kernel
theorem dX7_addCounts_53 : decode cX7_addCounts 53 = .ok (.bipush 22, 2) := by decide +kernel
theorem dX7_addCounts_55 : decode cX7_addCounts 55 = .ok (.iload_n 3, 1) := by decide +kernel
theorem dX7_addCounts_56 : decode cX7_addCounts 56 = .ok (.iadd, 1) := by decide +kernel
theorem dX7_addCounts_57 : decode cX7_addCounts 57 = .ok (.ldc 35, 2) := by decide +kernel
theorem dX7_addCounts_59 : decode cX7_addCounts 59 = .ok (.aload_n 0, 1) := by decide +kernel
theorem dX7_addCounts_60 : decode cX7_addCounts 60 = .ok (.getfield 11, 3) := by decide +kernel
theorem dX7_addCounts_63 : decode cX7_addCounts 63 = .ok (.bipush 22, 2) := by decide +kernel
theorem dX7_addCounts_65 : decode cX7_addCounts 65 = .ok (.iload_n 3, 1) := by decide +kernel
theorem dX7_addCounts_66 : decode cX7_addCounts 66 = .ok (.iadd, 1) := by decide +kernel
theorem dX7_addCounts_67 : decode cX7_addCounts 67 = .ok (.iaload, 1) := by decide +kernel
theorem dX7_addCounts_68 : decode cX7_addCounts 68 = .ok (.aload_n 2, 1) := by decide +kernel
theorem dX7_addCounts_69 : decode cX7_addCounts 69 = .ok (.iload_n 3, 1) := by decide +kernel
theorem dX7_addCounts_70 : decode cX7_addCounts 70 = .ok (.iaload, 1) := by decide +kernel
theorem dX7_addCounts_71 : decode cX7_addCounts 71 = .ok (.iadd, 1) := by decide +kernel
theorem dX7_addCounts_72 : decode cX7_addCounts 72 = .ok (.invokestatic 36, 3) := by decide +kernel
theorem dX7_addCounts_75 : decode cX7_addCounts 75 = .ok (.iastore, 1) := by decide +kernel
theorem dX7_addCounts_76 : decode cX7_addCounts 76 = .ok (.iinc 3 1, 3) := by decide +kernel
theorem dX7_addCounts_79 : decode cX7_addCounts 79 = .ok (.goto (-36), 3) := by decide +kernel
theorem dX7_addCounts_82 : decode cX7_addCounts 82 = .ok (.return_, 1) := by decide +kernel
def fX7_addCounts_43 : Nat → Int → Int → Int → V_ → Option (Int × V_)
  | 0, _, _, _, _ => none
  | n + 1, x0, x2, x3, v =>
    if 16 ≤ x3 then (
      some (0, v))
    else (
      ck_ (0 ≤ wr_ (22 + x3) ∧ wr_ (22 + x3) < 47) (
      ck_ (0 ≤ x3 ∧ x3 < 16) (
      ck_ (0 ≤ wr_ (22 + x3) ∧ wr_ (22 + x3) < 47) (
      lt_ (up_ v (x0 + 1) (wr_ (22 + x3)) (mn_ 1000000 (wr_ ((v (x0 + 1) (wr_ (22 + x3))) + (v x2 x3))))) fun v8 =>
      lt_ (wr_ (x3 + 1)) fun y9 =>
      (fX7_addCounts_43 n) x0 x2 y9 v8))))
def fX7_addCounts_2 : Nat → Int → Int → Int → Int → V_ → Option (Int × V_)
  | 0, _, _, _, _, _ => none
  | n + 1, x0, x1, x2, x3, v =>
    if 8 ≤ x3 then (
      fX7_addCounts_43 fu_ x0 x2 0 v)
    else (
      ck_ (0 ≤ wr_ (14 + x3) ∧ wr_ (14 + x3) < 47) (
      ck_ (0 ≤ x3 ∧ x3 < 8) (
      ck_ (0 ≤ wr_ (14 + x3) ∧ wr_ (14 + x3) < 47) (
      lt_ (up_ v (x0 + 1) (wr_ (14 + x3)) (mn_ 1000000 (wr_ ((v (x0 + 1) (wr_ (14 + x3))) + (v x1 x3))))) fun v15 =>
      lt_ (wr_ (x3 + 1)) fun y16 =>
      (fX7_addCounts_2 n) x0 x1 x2 y16 v15))))
def fX7_addCounts (x0 x1 x2 : Int) (v : V_) : Option (Int × V_) :=
  fX7_addCounts_2 fu_ x0 x1 x2 0 v
section
variable {E : En_} {p : Program} {l : Launch} {e : Env} {s : State} {m : MethodId} {args : Array Value} {below : List Frame} {meth : Method} {c : Code} {sz : Int}
theorem tX7_addCounts_43 (C : MC_ E p s m c cX7_addCounts 4 RX7) (hr : meth.sig.returnType = (none : Option FieldType)) (hlk : meth.locks = false) (hC : Cl_ E.2.2.2.2.2 sz) {out : Int × V_} : ∀ (n : Nat) (x0 x2 x3 : Int) (v : V_), (E.2.2.2.2.2 x0 ∧ ty_ x0 = 7 ∧ ln_ x0 = 0) → (E.2.2.2.2.2 x2 ∧ ty_ x2 = 20 ∧ ln_ x2 = 16) → fX7_addCounts_43 n x0 x2 x3 v = some out → G_ E p l e (rm_ 1 21) s m args below meth c 4 sz (Q_ E below args s sz sz 9 out.1 out.2) 43 [(0, (2, x0)), (2, (2, x2)), (3, (0, x3))] [] v sz := by
  intro n
  induction n with
  | zero =>
    intro x0 x2 x3 v T0 T2 h
    cases h
  | succ n H_43 =>
    intro x0 x2 x3 v T0 T2 h
    rw [fX7_addCounts_43] at h
    refine g_iload_n C (f := 3) dX7_addCounts_43 2 rfl ?_
    refine g_bipush C (n := 16) dX7_addCounts_44 (by decide) ?_
    refine g_icmp_ge C 82 dX7_addCounts_46 rfl (fun c2 => ?_) (fun c2 => ?_)
    · replace h := if_t h c2
      cases h
      exact g_vret C dX7_addCounts_82 hr hlk
    · replace h := if_f h c2
      refine g_aload_n C (f := 0) dX7_addCounts_49 0 rfl ?_
      have F3 := fX7_0 hC T0.1 T0.2.1
      refine g_getR C (k := 0) (o := 1) okX7 (by decide) kf_RX7_11 dX7_addCounts_50 hC T0.1 T0.2.1 rfl rfl ?_
      refine g_bipush C (n := 22) dX7_addCounts_53 (by decide) ?_
      refine g_iload_n C (f := 3) dX7_addCounts_55 2 rfl ?_
      refine g_iadd C dX7_addCounts_56 ?_
      refine g_ldc C (n := 1000000) kc_RX7_35 dX7_addCounts_57 (by decide) ?_
      refine g_aload_n C (f := 0) dX7_addCounts_59 0 rfl ?_
      have F4 := fX7_0 hC T0.1 T0.2.1
      refine g_getR C (k := 0) (o := 1) okX7 (by decide) kf_RX7_11 dX7_addCounts_60 hC T0.1 T0.2.1 rfl rfl ?_
      refine g_bipush C (n := 22) dX7_addCounts_63 (by decide) ?_
      refine g_iload_n C (f := 3) dX7_addCounts_65 2 rfl ?_
      refine g_iadd C dX7_addCounts_66 ?_
      obtain ⟨c5, h⟩ := ck_e h
      refine g_iald C 47 dX7_addCounts_67 (rg_ hC F4.1) F4.2.1 F4.2.2 c5 ?_
      refine g_aload_n C (f := 2) dX7_addCounts_68 1 rfl ?_
      refine g_iload_n C (f := 3) dX7_addCounts_69 2 rfl ?_
      obtain ⟨c6, h⟩ := ck_e h
      refine g_iald C 16 dX7_addCounts_70 (rg_ hC T2.1) T2.2.1 T2.2.2 c6 ?_
      refine g_iadd C dX7_addCounts_71 ?_
      refine g_min0 C km_RX7_36 dX7_addCounts_72 ⟨Nat.le_of_ble_eq_true rfl, Nat.le_of_ble_eq_true rfl⟩ ?_
      obtain ⟨c7, h⟩ := ck_e h
      obtain ⟨v8, ev8, h⟩ := lt_e h
      refine g_iast C 47 dX7_addCounts_75 (rg_ hC F3.1) F3.2.1 F3.2.2 c7 v8 ev8 ?_
      obtain ⟨y9, ey9, h⟩ := lt_e h
      refine g_iincx C (ls' := [(3, (0, y9)), (0, (2, x0)), (2, (2, x2))]) ey9 dX7_addCounts_76 2 rfl (by decide) (by decide) rfl ?_
      refine g_goto C 43 dX7_addCounts_79 rfl ?_
      refine g_sub [1, 2, 0] rfl rfl ?_
      exact H_43 _ _ _ _ T0 T2 h
theorem tX7_addCounts_2 (C : MC_ E p s m c cX7_addCounts 4 RX7) (hr : meth.sig.returnType = (none : Option FieldType)) (hlk : meth.locks = false) (hC : Cl_ E.2.2.2.2.2 sz) {out : Int × V_} : ∀ (n : Nat) (x0 x1 x2 x3 : Int) (v : V_), (E.2.2.2.2.2 x0 ∧ ty_ x0 = 7 ∧ ln_ x0 = 0) → (E.2.2.2.2.2 x1 ∧ ty_ x1 = 20 ∧ ln_ x1 = 8) → (E.2.2.2.2.2 x2 ∧ ty_ x2 = 20 ∧ ln_ x2 = 16) → fX7_addCounts_2 n x0 x1 x2 x3 v = some out → G_ E p l e (rm_ 1 21) s m args below meth c 4 sz (Q_ E below args s sz sz 9 out.1 out.2) 2 [(0, (2, x0)), (1, (2, x1)), (2, (2, x2)), (3, (0, x3))] [] v sz := by
  intro n
  induction n with
  | zero =>
    intro x0 x1 x2 x3 v T0 T1 T2 h
    cases h
  | succ n H_2 =>
    intro x0 x1 x2 x3 v T0 T1 T2 h
    rw [fX7_addCounts_2] at h
    refine g_iload_n C (f := 3) dX7_addCounts_2 3 rfl ?_
    refine g_bipush C (n := 8) dX7_addCounts_3 (by decide) ?_
    refine g_icmp_ge C 41 dX7_addCounts_5 rfl (fun c1 => ?_) (fun c1 => ?_)
    · replace h := if_t h c1
      refine g_iconst C (n := 0) dX7_addCounts_41 (by decide) ?_
      refine g_istore_n C (f := 3) (ls' := [(3, (0, 0)), (0, (2, x0)), (1, (2, x1)), (2, (2, x2))]) dX7_addCounts_42 (by decide) rfl ?_
      refine g_sub [1, 3, 0] rfl rfl ?_
      exact tX7_addCounts_43 C hr hlk hC _ _ _ _ _ T0 T2 h
    · replace h := if_f h c1
      refine g_aload_n C (f := 0) dX7_addCounts_8 0 rfl ?_
      have F10 := fX7_0 hC T0.1 T0.2.1
      refine g_getR C (k := 0) (o := 1) okX7 (by decide) kf_RX7_11 dX7_addCounts_9 hC T0.1 T0.2.1 rfl rfl ?_
      refine g_bipush C (n := 14) dX7_addCounts_12 (by decide) ?_
      refine g_iload_n C (f := 3) dX7_addCounts_14 3 rfl ?_
      refine g_iadd C dX7_addCounts_15 ?_
      refine g_ldc C (n := 1000000) kc_RX7_35 dX7_addCounts_16 (by decide) ?_
      refine g_aload_n C (f := 0) dX7_addCounts_18 0 rfl ?_
      have F11 := fX7_0 hC T0.1 T0.2.1
      refine g_getR C (k := 0) (o := 1) okX7 (by decide) kf_RX7_11 dX7_addCounts_19 hC T0.1 T0.2.1 rfl rfl ?_
      refine g_bipush C (n := 14) dX7_addCounts_22 (by decide) ?_
      refine g_iload_n C (f := 3) dX7_addCounts_24 3 rfl ?_
      refine g_iadd C dX7_addCounts_25 ?_
      obtain ⟨c12, h⟩ := ck_e h
      refine g_iald C 47 dX7_addCounts_26 (rg_ hC F11.1) F11.2.1 F11.2.2 c12 ?_
      refine g_aload_n C (f := 1) dX7_addCounts_27 1 rfl ?_
      refine g_iload_n C (f := 3) dX7_addCounts_28 3 rfl ?_
      obtain ⟨c13, h⟩ := ck_e h
      refine g_iald C 8 dX7_addCounts_29 (rg_ hC T1.1) T1.2.1 T1.2.2 c13 ?_
      refine g_iadd C dX7_addCounts_30 ?_
      refine g_min0 C km_RX7_36 dX7_addCounts_31 ⟨Nat.le_of_ble_eq_true rfl, Nat.le_of_ble_eq_true rfl⟩ ?_
      obtain ⟨c14, h⟩ := ck_e h
      obtain ⟨v15, ev15, h⟩ := lt_e h
      refine g_iast C 47 dX7_addCounts_34 (rg_ hC F10.1) F10.2.1 F10.2.2 c14 v15 ev15 ?_
      obtain ⟨y16, ey16, h⟩ := lt_e h
      refine g_iincx C (ls' := [(3, (0, y16)), (0, (2, x0)), (1, (2, x1)), (2, (2, x2))]) ey16 dX7_addCounts_35 3 rfl (by decide) (by decide) rfl ?_
      refine g_goto C 2 dX7_addCounts_38 rfl ?_
      refine g_sub [1, 2, 3, 0] rfl rfl ?_
      exact H_2 _ _ _ _ _ T0 T1 T2 h
end
theorem cX7_addCounts_ok (l : Launch) {E : En_} {sz : Int} (hC : Cl_ E.2.2.2.2.2 sz) {x0 x1 x2 : Int} {v : V_} {out : Int × V_} (T0 : (E.2.2.2.2.2 x0 ∧ ty_ x0 = 7 ∧ ln_ x0 = 0)) (T1 : (E.2.2.2.2.2 x1 ∧ ty_ x1 = 20 ∧ ln_ x1 = 8)) (T2 : (E.2.2.2.2.2 x2 ∧ ty_ x2 = 20 ∧ ln_ x2 = 16)) (h : fX7_addCounts x0 x1 x2 v = some out) : Met l yX7_addCounts [.code yX7_addCounts cX7_addCounts 4 (none : Option FieldType)] (rm_ 1 21) (Pc_ E sz v [(2, x0), (2, x1), (2, x2)]) (Qc_ E sz 9 out.1 out.2) 0 0 (fun q => E.1 < q) := by
  refine met_G0 RX7 (by decide +kernel) rfl (Nat.le_of_ble_eq_true rfl) ?_
  intro p e s m args below meth c C hr hlk
  rw [fX7_addCounts] at h
  refine g_iconst C (n := 0) dX7_addCounts_0 (by decide) ?_
  refine g_istore_n C (f := 3) (ls' := [(3, (0, 0)), (0, (2, x0)), (1, (2, x1)), (2, (2, x2))]) dX7_addCounts_1 (by decide) rfl ?_
  refine g_sub [1, 2, 3, 0] rfl rfl ?_
  exact tX7_addCounts_2 C hr hlk hC _ _ _ _ _ _ T0 T1 T2 h
theorem dX7_allBegun_0 : decode cX7_allBegun 0 = .ok (.iconst 0, 1) := by decide +kernel
theorem dX7_allBegun_1 : decode cX7_allBegun 1 = .ok (.istore_n 1, 1) := by decide +kernel
theorem dX7_allBegun_2 : decode cX7_allBegun 2 = .ok (.iconst 0, 1) := by decide +kernel
theorem dX7_allBegun_3 : decode cX7_allBegun 3 = .ok (.istore_n 2, 1) := by decide +kernel
theorem dX7_allBegun_4 : decode cX7_allBegun 4 = .ok (.iload_n 2, 1) := by decide +kernel
theorem dX7_allBegun_5 : decode cX7_allBegun 5 = .ok (.bipush 8, 2) := by decide +kernel
theorem dX7_allBegun_7 : decode cX7_allBegun 7 = .ok (.if_icmp .ge 17, 3) := by decide +kernel
theorem dX7_allBegun_10 : decode cX7_allBegun 10 = .ok (.iload_n 1, 1) := by decide +kernel
theorem dX7_allBegun_11 : decode cX7_allBegun 11 = .ok (.aload_n 0, 1) := by decide +kernel
theorem dX7_allBegun_12 : decode cX7_allBegun 12 = .ok (.iload_n 2, 1) := by decide +kernel
theorem dX7_allBegun_13 : decode cX7_allBegun 13 = .ok (.invokevirtual 42, 3) := by decide +kernel
theorem dX7_allBegun_16 : decode cX7_allBegun 16 = .ok (.iadd, 1) := by decide +kernel
theorem dX7_allBegun_17 : decode cX7_allBegun 17 = .ok (.istore_n 1, 1) := by decide +kernel
theorem dX7_allBegun_18 : decode cX7_allBegun 18 = .ok (.iinc 2 1, 3) := by decide +kernel
theorem dX7_allBegun_21 : decode cX7_allBegun 21 = .ok (.goto (-17), 3) := by decide +kernel
theorem dX7_allBegun_24 : decode cX7_allBegun 24 = .ok (.iload_n 1, 1) := by decide +kernel
theorem dX7_allBegun_25 : decode cX7_allBegun 25 = .ok (.ireturn, 1) := by decide +kernel
def fX7_allBegun_4 : Nat → Int → Int → Int → V_ → Option (Int × V_)
  | 0, _, _, _, _ => none
  | n + 1, x0, x1, x2, v =>
    if 8 ≤ x2 then (
      some (x1, v))
    else (
      bd_ (fX7_begunOf x0 x2 v) fun q2 =>
      lt_ (wr_ (x1 + q2.1)) fun y3 =>
      lt_ (wr_ (x2 + 1)) fun y4 =>
      (fX7_allBegun_4 n) x0 y3 y4 q2.2)
def fX7_allBegun (x0 : Int) (v : V_) : Option (Int × V_) :=
  fX7_allBegun_4 fu_ x0 0 0 v
section
variable {E : En_} {p : Program} {l : Launch} {e : Env} {s : State} {m : MethodId} {args : Array Value} {below : List Frame} {meth : Method} {c : Code} {sz : Int}
theorem tX7_allBegun_4 (C : MC_ E p s m c cX7_allBegun 3 RX7) (hr : meth.sig.returnType = (some FieldType.int)) (hlk : meth.locks = false) (hC : Cl_ E.2.2.2.2.2 sz) {out : Int × V_} : ∀ (n : Nat) (x0 x1 x2 : Int) (v : V_), (E.2.2.2.2.2 x0 ∧ ty_ x0 = 7 ∧ ln_ x0 = 0) → fX7_allBegun_4 n x0 x1 x2 v = some out → G_ E p l e (rm_ 1 21) s m args below meth c 3 sz (Q_ E below args s sz sz 0 out.1 out.2) 4 [(0, (2, x0)), (1, (0, x1)), (2, (0, x2))] [] v sz := by
  intro n
  induction n with
  | zero =>
    intro x0 x1 x2 v T0 h
    cases h
  | succ n H_4 =>
    intro x0 x1 x2 v T0 h
    rw [fX7_allBegun_4] at h
    refine g_iload_n C (f := 2) dX7_allBegun_4 2 rfl ?_
    refine g_bipush C (n := 8) dX7_allBegun_5 (by decide) ?_
    refine g_icmp_ge C 24 dX7_allBegun_7 rfl (fun c1 => ?_) (fun c1 => ?_)
    · replace h := if_t h c1
      refine g_iload_n C (f := 1) dX7_allBegun_24 1 rfl ?_
      cases h
      exact g_iret C dX7_allBegun_25 hr hlk
    · replace h := if_f h c1
      refine g_iload_n C (f := 1) dX7_allBegun_10 1 rfl ?_
      refine g_aload_n C (f := 0) dX7_allBegun_11 0 rfl ?_
      refine g_iload_n C (f := 2) dX7_allBegun_12 2 rfl ?_
      obtain ⟨q2, eq2, h⟩ := bd_e h
      refine g_cV C [(0, x2)] (cX7_begunOf_ok l hC T0 eq2) okX7 T0.2.1 (rg_ hC T0.1) km_RX7_42 cv_X7_begunOf rfl (by decide) rfl rfl (Nat.le_of_ble_eq_true rfl) dX7_allBegun_13 ?_
      refine g_iadd C dX7_allBegun_16 ?_
      obtain ⟨y3, ey3, h⟩ := lt_e h
      refine g_set C ey3 ?_
      refine g_istore_n C (f := 1) (ls' := [(1, (0, y3)), (0, (2, x0)), (2, (0, x2))]) dX7_allBegun_17 (by decide) rfl ?_
      obtain ⟨y4, ey4, h⟩ := lt_e h
      refine g_iincx C (ls' := [(2, (0, y4)), (1, (0, y3)), (0, (2, x0))]) ey4 dX7_allBegun_18 2 rfl (by decide) (by decide) rfl ?_
      refine g_goto C 4 dX7_allBegun_21 rfl ?_
      refine g_sub [2, 1, 0] rfl rfl ?_
      exact H_4 _ _ _ _ T0 h
end
theorem cX7_allBegun_ok (l : Launch) {E : En_} {sz : Int} (hC : Cl_ E.2.2.2.2.2 sz) {x0 : Int} {v : V_} {out : Int × V_} (T0 : (E.2.2.2.2.2 x0 ∧ ty_ x0 = 7 ∧ ln_ x0 = 0)) (h : fX7_allBegun x0 v = some out) : Met l yX7_allBegun [.code yX7_allBegun cX7_allBegun 3 (some FieldType.int)] (rm_ 1 21) (Pc_ E sz v [(2, x0)]) (Qc_ E sz 0 out.1 out.2) 0 0 (fun q => E.1 < q) := by
  refine met_G0 RX7 (by decide +kernel) rfl (Nat.le_of_ble_eq_true rfl) ?_
  intro p e s m args below meth c C hr hlk
  rw [fX7_allBegun] at h
  refine g_iconst C (n := 0) dX7_allBegun_0 (by decide) ?_
  refine g_istore_n C (f := 1) (ls' := [(1, (0, 0)), (0, (2, x0))]) dX7_allBegun_1 (by decide) rfl ?_
  refine g_iconst C (n := 0) dX7_allBegun_2 (by decide) ?_
  refine g_istore_n C (f := 2) (ls' := [(2, (0, 0)), (1, (0, 0)), (0, (2, x0))]) dX7_allBegun_3 (by decide) rfl ?_
  refine g_sub [2, 1, 0] rfl rfl ?_
  exact tX7_allBegun_4 C hr hlk hC _ _ _ _ _ T0 h
theorem dX7_begin_0 : decode cX7_begin 0 = .ok (.aload_n 0, 1) := by decide +kernel
theorem dX7_begin_1 : decode cX7_begin 1 = .ok (.getfield 11, 3) := by decide +kernel
theorem dX7_begin_4 : decode cX7_begin 4 = .ok (.iconst 0, 1) := by decide +kernel
theorem dX7_begin_5 : decode cX7_begin 5 = .ok (.invokestatic 15, 3) := by decide +kernel
theorem dX7_begin_8 : decode cX7_begin 8 = .ok (.aload_n 1, 1) := by decide +kernel
theorem dX7_begin_9 : decode cX7_begin 9 = .ok (.getfield 21, 3) := by decide +kernel
theorem dX7_begin_12 : decode cX7_begin 12 = .ok (.iconst 0, 1) := by decide +kernel
theorem dX7_begin_13 : decode cX7_begin 13 = .ok (.aload_n 0, 1) := by decide +kernel
theorem dX7_begin_14 : decode cX7_begin 14 = .ok (.getfield 11, 3) := by decide +kernel
theorem dX7_begin_17 : decode cX7_begin 17 = .ok (.bipush 38, 2) := by decide +kernel
theorem dX7_begin_19 : decode cX7_begin 19 = .ok (.iconst 4, 1) := by decide +kernel
theorem dX7_begin_20 : decode cX7_begin 20 = .ok (.invokestatic 26, 3) := by decide +kernel
theorem dX7_begin_23 : decode cX7_begin 23 = .ok (.aload_n 1, 1) := by decide +kernel
theorem dX7_begin_24 : decode cX7_begin 24 = .ok (.getfield 32, 3) := by decide +kernel
theorem dX7_begin_27 : decode cX7_begin 27 = .ok (.iconst 0, 1) := by decide +kernel
theorem dX7_begin_28 : decode cX7_begin 28 = .ok (.aload_n 0, 1) := by decide +kernel
theorem dX7_begin_29 : decode cX7_begin 29 = .ok (.getfield 11, 3) := by decide +kernel
theorem dX7_begin_32 : decode cX7_begin 32 = .ok (.bipush 42, 2) := by decide +kernel
theorem dX7_begin_34 : decode cX7_begin 34 = .ok (.iconst 4, 1) := by decide +kernel
theorem dX7_begin_35 : decode cX7_begin 35 = .ok (.invokestatic 26, 3) := by decide +kernel
theorem dX7_begin_38 : decode cX7_begin 38 = .ok (.aload_n 0, 1) := by decide +kernel
theorem dX7_begin_39 : decode cX7_begin 39 = .ok (.getfield 11, 3) := by decide +kernel
theorem dX7_begin_42 : decode cX7_begin 42 = .ok (.bipush 46, 2) := by decide +kernel
theorem dX7_begin_44 : decode cX7_begin 44 = .ok (.iconst 1, 1) := by decide +kernel
theorem dX7_begin_45 : decode cX7_begin 45 = .ok (.iastore, 1) := by decide +kernel
theorem dX7_begin_46 : decode cX7_begin 46 = .ok (.return_, 1) := by decide +kernel
def fX7_begin (x0 x1 : Int) (v : V_) : Option (Int × V_) :=
  lt_ (fl_ v (x0 + 1) 47 0) fun v2 =>
  lt_ (cp_ v2 (x1 + 6) 0 (x0 + 1) 38 4) fun v5 =>
  lt_ (cp_ v5 (x1 + 7) 0 (x0 + 1) 42 4) fun v8 =>
  lt_ (up_ v8 (x0 + 1) 46 1) fun v10 =>
  some (0, v10)
theorem cX7_begin_ok (l : Launch) {E : En_} {sz : Int} (hC : Cl_ E.2.2.2.2.2 sz) {x0 x1 : Int} {v : V_} {out : Int × V_} (T0 : (E.2.2.2.2.2 x0 ∧ ty_ x0 = 7 ∧ ln_ x0 = 0)) (T1 : (E.2.2.2.2.2 x1 ∧ ty_ x1 = 5 ∧ ln_ x1 = 0)) (h : fX7_begin x0 x1 v = some out) : Met l yX7_begin [.code yX7_begin cX7_begin 2 (none : Option FieldType)] (rm_ 1 26) (Pc_ E sz v [(2, x0), (2, x1)]) (Qc_ E sz 9 out.1 out.2) 0 0 (fun q => E.1 < q) := by
  refine met_G0 RX7 (by decide +kernel) rfl (Nat.le_of_ble_eq_true rfl) ?_
  intro p e s m args below meth c C hr hlk
  rw [fX7_begin] at h
  refine g_aload_n C (f := 0) dX7_begin_0 0 rfl ?_
  have F1 := fX7_0 hC T0.1 T0.2.1
  refine g_getR C (k := 0) (o := 1) okX7 (by decide) kf_RX7_11 dX7_begin_1 hC T0.1 T0.2.1 rfl rfl ?_
  refine g_iconst C (n := 0) dX7_begin_4 (by decide) ?_
  obtain ⟨v2, ev2, h⟩ := lt_e h
  refine g_cS C [(2, x0 + 1), (0, 0)] (c_fillI l (rg_ hC F1.1) F1.2.1 F1.2.2 (by decide)) km_RX7_15 cs_FillI rfl (by decide) rfl rfl (Nat.le_of_ble_eq_true rfl) dX7_begin_5 ?_
  refine g_setv C ev2 ?_
  refine g_aload_n C (f := 1) dX7_begin_8 1 rfl ?_
  have F3 := fX5_6 hC T1.1 T1.2.1
  refine g_getR C (k := 6) (o := 6) okX5 (by decide) kf_RX7_21 dX7_begin_9 hC T1.1 T1.2.1 rfl rfl ?_
  refine g_iconst C (n := 0) dX7_begin_12 (by decide) ?_
  refine g_aload_n C (f := 0) dX7_begin_13 0 rfl ?_
  have F4 := fX7_0 hC T0.1 T0.2.1
  refine g_getR C (k := 0) (o := 1) okX7 (by decide) kf_RX7_11 dX7_begin_14 hC T0.1 T0.2.1 rfl rfl ?_
  refine g_bipush C (n := 38) dX7_begin_17 (by decide) ?_
  refine g_iconst C (n := 4) dX7_begin_19 (by decide) ?_
  obtain ⟨v5, ev5, h⟩ := lt_e h
  refine g_copy C km_RX7_26 4 47 dX7_begin_20 (rg_ hC F3.1) F3.2.1 F3.2.2 (rg_ hC F4.1) F4.2.1 F4.2.2 (by decide) ⟨Nat.le_of_ble_eq_true rfl, Nat.le_of_ble_eq_true rfl⟩ v5 ev5 ?_
  refine g_aload_n C (f := 1) dX7_begin_23 1 rfl ?_
  have F6 := fX5_7 hC T1.1 T1.2.1
  refine g_getR C (k := 7) (o := 7) okX5 (by decide) kf_RX7_32 dX7_begin_24 hC T1.1 T1.2.1 rfl rfl ?_
  refine g_iconst C (n := 0) dX7_begin_27 (by decide) ?_
  refine g_aload_n C (f := 0) dX7_begin_28 0 rfl ?_
  have F7 := fX7_0 hC T0.1 T0.2.1
  refine g_getR C (k := 0) (o := 1) okX7 (by decide) kf_RX7_11 dX7_begin_29 hC T0.1 T0.2.1 rfl rfl ?_
  refine g_bipush C (n := 42) dX7_begin_32 (by decide) ?_
  refine g_iconst C (n := 4) dX7_begin_34 (by decide) ?_
  obtain ⟨v8, ev8, h⟩ := lt_e h
  refine g_copy C km_RX7_26 4 47 dX7_begin_35 (rg_ hC F6.1) F6.2.1 F6.2.2 (rg_ hC F7.1) F7.2.1 F7.2.2 (by decide) ⟨Nat.le_of_ble_eq_true rfl, Nat.le_of_ble_eq_true rfl⟩ v8 ev8 ?_
  refine g_aload_n C (f := 0) dX7_begin_38 0 rfl ?_
  have F9 := fX7_0 hC T0.1 T0.2.1
  refine g_getR C (k := 0) (o := 1) okX7 (by decide) kf_RX7_11 dX7_begin_39 hC T0.1 T0.2.1 rfl rfl ?_
  refine g_bipush C (n := 46) dX7_begin_42 (by decide) ?_
  refine g_iconst C (n := 1) dX7_begin_44 (by decide) ?_
  obtain ⟨v10, ev10, h⟩ := lt_e h
  refine g_iast C 47 dX7_begin_45 (rg_ hC F9.1) F9.2.1 F9.2.2 (by decide) v10 ev10 ?_
  cases h
  exact g_vret C dX7_begin_46 hr hlk
theorem dX7_clearCounts_0 : decode cX7_clearCounts 0 = .ok (.bipush 14, 2) := by decide +kernel
theorem dX7_clearCounts_2 : decode cX7_clearCounts 2 = .ok (.istore_n 1, 1) := by decide +kernel
theorem dX7_clearCounts_3 : decode cX7_clearCounts 3 = .ok (.iload_n 1, 1) := by decide +kernel
theorem dX7_clearCounts_4 : decode cX7_clearCounts 4 = .ok (.bipush 38, 2) := by decide +kernel
theorem dX7_clearCounts_6 : decode cX7_clearCounts 6 = .ok (.if_icmp .ge 16, 3) := by decide +kernel
theorem dX7_clearCounts_9 : decode cX7_clearCounts 9 = .ok (.aload_n 0, 1) := by decide +kernel
theorem dX7_clearCounts_10 : decode cX7_clearCounts 10 = .ok (.getfield 11, 3) := by decide +kernel
theorem dX7_clearCounts_13 : decode cX7_clearCounts 13 = .ok (.iload_n 1, 1) := by decide +kernel
theorem dX7_clearCounts_14 : decode cX7_clearCounts 14 = .ok (.iconst 0, 1) := by decide +kernel
theorem dX7_clearCounts_15 : decode cX7_clearCounts 15 = .ok (.iastore, 1) := by decide +kernel
theorem dX7_clearCounts_16 : decode cX7_clearCounts 16 = .ok (.iinc 1 1, 3) := by decide +kernel
theorem dX7_clearCounts_19 : decode cX7_clearCounts 19 = .ok (.goto (-16), 3) := by decide +kernel
theorem dX7_clearCounts_22 : decode cX7_clearCounts 22 = .ok (.return_, 1) := by decide +kernel
def fX7_clearCounts_3 : Nat → Int → Int → V_ → Option (Int × V_)
  | 0, _, _, _ => none
  | n + 1, x0, x1, v =>
    if 38 ≤ x1 then (
      some (0, v))
    else (
      ck_ (0 ≤ x1 ∧ x1 < 47) (
      lt_ (up_ v (x0 + 1) x1 0) fun v4 =>
      lt_ (wr_ (x1 + 1)) fun y5 =>
      (fX7_clearCounts_3 n) x0 y5 v4))
def fX7_clearCounts (x0 : Int) (v : V_) : Option (Int × V_) :=
  fX7_clearCounts_3 fu_ x0 14 v
section
variable {E : En_} {p : Program} {l : Launch} {e : Env} {s : State} {m : MethodId} {args : Array Value} {below : List Frame} {meth : Method} {c : Code} {sz : Int}
theorem tX7_clearCounts_3 (C : MC_ E p s m c cX7_clearCounts 2 RX7) (hr : meth.sig.returnType = (none : Option FieldType)) (hlk : meth.locks = false) (hC : Cl_ E.2.2.2.2.2 sz) {out : Int × V_} : ∀ (n : Nat) (x0 x1 : Int) (v : V_), (E.2.2.2.2.2 x0 ∧ ty_ x0 = 7 ∧ ln_ x0 = 0) → fX7_clearCounts_3 n x0 x1 v = some out → G_ E p l e (rm_ 0 0) s m args below meth c 2 sz (Q_ E below args s sz sz 9 out.1 out.2) 3 [(0, (2, x0)), (1, (0, x1))] [] v sz := by
  intro n
  induction n with
  | zero =>
    intro x0 x1 v T0 h
    cases h
  | succ n H_3 =>
    intro x0 x1 v T0 h
    rw [fX7_clearCounts_3] at h
    refine g_iload_n C (f := 1) dX7_clearCounts_3 1 rfl ?_
    refine g_bipush C (n := 38) dX7_clearCounts_4 (by decide) ?_
    refine g_icmp_ge C 22 dX7_clearCounts_6 rfl (fun c1 => ?_) (fun c1 => ?_)
    · replace h := if_t h c1
      cases h
      exact g_vret C dX7_clearCounts_22 hr hlk
    · replace h := if_f h c1
      refine g_aload_n C (f := 0) dX7_clearCounts_9 0 rfl ?_
      have F2 := fX7_0 hC T0.1 T0.2.1
      refine g_getR C (k := 0) (o := 1) okX7 (by decide) kf_RX7_11 dX7_clearCounts_10 hC T0.1 T0.2.1 rfl rfl ?_
      refine g_iload_n C (f := 1) dX7_clearCounts_13 1 rfl ?_
      refine g_iconst C (n := 0) dX7_clearCounts_14 (by decide) ?_
      obtain ⟨c3, h⟩ := ck_e h
      obtain ⟨v4, ev4, h⟩ := lt_e h
      refine g_iast C 47 dX7_clearCounts_15 (rg_ hC F2.1) F2.2.1 F2.2.2 c3 v4 ev4 ?_
      obtain ⟨y5, ey5, h⟩ := lt_e h
      refine g_iincx C (ls' := [(1, (0, y5)), (0, (2, x0))]) ey5 dX7_clearCounts_16 1 rfl (by decide) (by decide) rfl ?_
      refine g_goto C 3 dX7_clearCounts_19 rfl ?_
      refine g_sub [1, 0] rfl rfl ?_
      exact H_3 _ _ _ T0 h
end
theorem cX7_clearCounts_ok (l : Launch) {E : En_} {sz : Int} (hC : Cl_ E.2.2.2.2.2 sz) {x0 : Int} {v : V_} {out : Int × V_} (T0 : (E.2.2.2.2.2 x0 ∧ ty_ x0 = 7 ∧ ln_ x0 = 0)) (h : fX7_clearCounts x0 v = some out) : Met l yX7_clearCounts [.code yX7_clearCounts cX7_clearCounts 2 (none : Option FieldType)] (rm_ 0 0) (Pc_ E sz v [(2, x0)]) (Qc_ E sz 9 out.1 out.2) 0 0 (fun q => E.1 < q) := by
  refine met_G0 RX7 (by decide +kernel) rfl (Nat.le_of_ble_eq_true rfl) ?_
  intro p e s m args below meth c C hr hlk
  rw [fX7_clearCounts] at h
  refine g_bipush C (n := 14) dX7_clearCounts_0 (by decide) ?_
  refine g_istore_n C (f := 1) (ls' := [(1, (0, 14)), (0, (2, x0))]) dX7_clearCounts_2 (by decide) rfl ?_
  refine g_sub [1, 0] rfl rfl ?_
  exact tX7_clearCounts_3 C hr hlk hC _ _ _ _ T0 h
theorem dX7_goOnFrom_0 : decode cX7_goOnFrom 0 = .ok (.aload_n 1, 1) := by decide +kernel
theorem dX7_goOnFrom_1 : decode cX7_goOnFrom 1 = .ok (.iconst 0, 1) := by decide +kernel
theorem dX7_goOnFrom_2 : decode cX7_goOnFrom 2 = .ok (.aload_n 0, 1) := by decide +kernel
theorem dX7_goOnFrom_3 : decode cX7_goOnFrom 3 = .ok (.getfield 11, 3) := by decide +kernel
theorem dX7_goOnFrom_6 : decode cX7_goOnFrom 6 = .ok (.iconst 0, 1) := by decide +kernel
theorem dX7_goOnFrom_7 : decode cX7_goOnFrom 7 = .ok (.bipush 6, 2) := by decide +kernel
theorem dX7_goOnFrom_9 : decode cX7_goOnFrom 9 = .ok (.invokestatic 26, 3) := by decide +kernel
theorem dX7_goOnFrom_12 : decode cX7_goOnFrom 12 = .ok (.aload_n 2, 1) := by decide +kernel
theorem dX7_goOnFrom_13 : decode cX7_goOnFrom 13 = .ok (.iconst 0, 1) := by decide +kernel
theorem dX7_goOnFrom_14 : decode cX7_goOnFrom 14 = .ok (.aload_n 0, 1) := by decide +kernel
theorem dX7_goOnFrom_15 : decode cX7_goOnFrom 15 = .ok (.getfield 11, 3) := by decide +kernel
theorem dX7_goOnFrom_18 : decode cX7_goOnFrom 18 = .ok (.bipush 6, 2) := by decide +kernel
theorem dX7_goOnFrom_20 : decode cX7_goOnFrom 20 = .ok (.bipush 8, 2) := by decide +kernel
theorem dX7_goOnFrom_22 : decode cX7_goOnFrom 22 = .ok (.invokestatic 26, 3) := by decide +kernel
theorem dX7_goOnFrom_25 : decode cX7_goOnFrom 25 = .ok (.return_, 1) := by decide +kernel
def fX7_goOnFrom (x0 x1 x2 : Int) (v : V_) : Option (Int × V_) :=
  lt_ (cp_ v x1 0 (x0 + 1) 0 6) fun v2 =>
  lt_ (cp_ v2 x2 0 (x0 + 1) 6 8) fun v4 =>
  some (0, v4)
theorem cX7_goOnFrom_ok (l : Launch) {E : En_} {sz : Int} (hC : Cl_ E.2.2.2.2.2 sz) {x0 x1 x2 : Int} {v : V_} {out : Int × V_} (T0 : (E.2.2.2.2.2 x0 ∧ ty_ x0 = 7 ∧ ln_ x0 = 0)) (T1 : (E.2.2.2.2.2 x1 ∧ ty_ x1 = 20 ∧ ln_ x1 = 12)) (T2 : (E.2.2.2.2.2 x2 ∧ ty_ x2 = 20 ∧ ln_ x2 = 8)) (h : fX7_goOnFrom x0 x1 x2 v = some out) : Met l yX7_goOnFrom [.code yX7_goOnFrom cX7_goOnFrom 3 (none : Option FieldType)] (rm_ 1 26) (Pc_ E sz v [(2, x0), (2, x1), (2, x2)]) (Qc_ E sz 9 out.1 out.2) 0 0 (fun q => E.1 < q) := by
  refine met_G0 RX7 (by decide +kernel) rfl (Nat.le_of_ble_eq_true rfl) ?_
  intro p e s m args below meth c C hr hlk
  rw [fX7_goOnFrom] at h
  refine g_aload_n C (f := 1) dX7_goOnFrom_0 1 rfl ?_
  refine g_iconst C (n := 0) dX7_goOnFrom_1 (by decide) ?_
  refine g_aload_n C (f := 0) dX7_goOnFrom_2 0 rfl ?_
  have F1 := fX7_0 hC T0.1 T0.2.1
  refine g_getR C (k := 0) (o := 1) okX7 (by decide) kf_RX7_11 dX7_goOnFrom_3 hC T0.1 T0.2.1 rfl rfl ?_
  refine g_iconst C (n := 0) dX7_goOnFrom_6 (by decide) ?_
  refine g_bipush C (n := 6) dX7_goOnFrom_7 (by decide) ?_
  obtain ⟨v2, ev2, h⟩ := lt_e h
  refine g_copy C km_RX7_26 12 47 dX7_goOnFrom_9 (rg_ hC T1.1) T1.2.1 T1.2.2 (rg_ hC F1.1) F1.2.1 F1.2.2 (by decide) ⟨Nat.le_of_ble_eq_true rfl, Nat.le_of_ble_eq_true rfl⟩ v2 ev2 ?_
  refine g_aload_n C (f := 2) dX7_goOnFrom_12 2 rfl ?_
  refine g_iconst C (n := 0) dX7_goOnFrom_13 (by decide) ?_
  refine g_aload_n C (f := 0) dX7_goOnFrom_14 0 rfl ?_
  have F3 := fX7_0 hC T0.1 T0.2.1
  refine g_getR C (k := 0) (o := 1) okX7 (by decide) kf_RX7_11 dX7_goOnFrom_15 hC T0.1 T0.2.1 rfl rfl ?_
  refine g_bipush C (n := 6) dX7_goOnFrom_18 (by decide) ?_
  refine g_bipush C (n := 8) dX7_goOnFrom_20 (by decide) ?_
  obtain ⟨v4, ev4, h⟩ := lt_e h
  refine g_copy C km_RX7_26 8 47 dX7_goOnFrom_22 (rg_ hC T2.1) T2.2.1 T2.2.2 (rg_ hC F3.1) F3.2.1 F3.2.2 (by decide) ⟨Nat.le_of_ble_eq_true rfl, Nat.le_of_ble_eq_true rfl⟩ v4 ev4 ?_
  cases h
  exact g_vret C dX7_goOnFrom_25 hr hlk
theorem dX7_setCell_0 : decode cX7_setCell 0 = .ok (.aload_n 0, 1) := by decide +kernel
theorem dX7_setCell_1 : decode cX7_setCell 1 = .ok (.getfield 11, 3) := by decide +kernel
theorem dX7_setCell_4 : decode cX7_setCell 4 = .ok (.bipush 6, 2) := by decide +kernel
theorem dX7_setCell_6 : decode cX7_setCell 6 = .ok (.iload_n 1, 1) := by decide +kernel
theorem dX7_setCell_7 : decode cX7_setCell 7 = .ok (.iadd, 1) := by decide +kernel
theorem dX7_setCell_8 : decode cX7_setCell 8 = .ok (.iload_n 2, 1) := by decide +kernel
theorem dX7_setCell_9 : decode cX7_setCell 9 = .ok (.iastore, 1) := by decide +kernel
theorem dX7_setCell_10 : decode cX7_setCell 10 = .ok (.return_, 1) := by decide +kernel
def fX7_setCell (x0 x1 x2 : Int) (v : V_) : Option (Int × V_) :=
  ck_ (0 ≤ wr_ (6 + x1) ∧ wr_ (6 + x1) < 47) (
  lt_ (up_ v (x0 + 1) (wr_ (6 + x1)) x2) fun v3 =>
  some (0, v3))
theorem cX7_setCell_ok (l : Launch) {E : En_} {sz : Int} (hC : Cl_ E.2.2.2.2.2 sz) {x0 x1 x2 : Int} {v : V_} {out : Int × V_} (T0 : (E.2.2.2.2.2 x0 ∧ ty_ x0 = 7 ∧ ln_ x0 = 0)) (h : fX7_setCell x0 x1 x2 v = some out) : Met l yX7_setCell [.code yX7_setCell cX7_setCell 3 (none : Option FieldType)] (rm_ 0 0) (Pc_ E sz v [(2, x0), (0, x1), (0, x2)]) (Qc_ E sz 9 out.1 out.2) 0 0 (fun q => E.1 < q) := by
  refine met_G0 RX7 (by decide +kernel) rfl (Nat.le_of_ble_eq_true rfl) ?_
  intro p e s m args below meth c C hr hlk
  rw [fX7_setCell] at h
  refine g_aload_n C (f := 0) dX7_setCell_0 0 rfl ?_
  have F1 := fX7_0 hC T0.1 T0.2.1
  refine g_getR C (k := 0) (o := 1) okX7 (by decide) kf_RX7_11 dX7_setCell_1 hC T0.1 T0.2.1 rfl rfl ?_
  refine g_bipush C (n := 6) dX7_setCell_4 (by decide) ?_
  refine g_iload_n C (f := 1) dX7_setCell_6 1 rfl ?_
  refine g_iadd C dX7_setCell_7 ?_
  refine g_iload_n C (f := 2) dX7_setCell_8 2 rfl ?_
  obtain ⟨c2, h⟩ := ck_e h
  obtain ⟨v3, ev3, h⟩ := lt_e h
  refine g_iast C 47 dX7_setCell_9 (rg_ hC F1.1) F1.2.1 F1.2.2 c2 v3 ev3 ?_
  cases h
  exact g_vret C dX7_setCell_10 hr hlk
theorem dX7_setRegister_0 : decode cX7_setRegister 0 = .ok (.aload_n 0, 1) := by decide +kernel
theorem dX7_setRegister_1 : decode cX7_setRegister 1 = .ok (.getfield 11, 3) := by decide +kernel
theorem dX7_setRegister_4 : decode cX7_setRegister 4 = .ok (.iload_n 1, 1) := by decide +kernel
theorem dX7_setRegister_5 : decode cX7_setRegister 5 = .ok (.iload_n 2, 1) := by decide +kernel
theorem dX7_setRegister_6 : decode cX7_setRegister 6 = .ok (.iastore, 1) := by decide +kernel
theorem dX7_setRegister_7 : decode cX7_setRegister 7 = .ok (.return_, 1) := by decide +kernel
def fX7_setRegister (x0 x1 x2 : Int) (v : V_) : Option (Int × V_) :=
  ck_ (0 ≤ x1 ∧ x1 < 47) (
  lt_ (up_ v (x0 + 1) x1 x2) fun v3 =>
  some (0, v3))
theorem cX7_setRegister_ok (l : Launch) {E : En_} {sz : Int} (hC : Cl_ E.2.2.2.2.2 sz) {x0 x1 x2 : Int} {v : V_} {out : Int × V_} (T0 : (E.2.2.2.2.2 x0 ∧ ty_ x0 = 7 ∧ ln_ x0 = 0)) (h : fX7_setRegister x0 x1 x2 v = some out) : Met l yX7_setRegister [.code yX7_setRegister cX7_setRegister 3 (none : Option FieldType)] (rm_ 0 0) (Pc_ E sz v [(2, x0), (0, x1), (0, x2)]) (Qc_ E sz 9 out.1 out.2) 0 0 (fun q => E.1 < q) := by
  refine met_G0 RX7 (by decide +kernel) rfl (Nat.le_of_ble_eq_true rfl) ?_
  intro p e s m args below meth c C hr hlk
  rw [fX7_setRegister] at h
  refine g_aload_n C (f := 0) dX7_setRegister_0 0 rfl ?_
  have F1 := fX7_0 hC T0.1 T0.2.1
  refine g_getR C (k := 0) (o := 1) okX7 (by decide) kf_RX7_11 dX7_setRegister_1 hC T0.1 T0.2.1 rfl rfl ?_
  refine g_iload_n C (f := 1) dX7_setRegister_4 1 rfl ?_
  refine g_iload_n C (f := 2) dX7_setRegister_5 2 rfl ?_
  obtain ⟨c2, h⟩ := ck_e h
  obtain ⟨v3, ev3, h⟩ := lt_e h
  refine g_iast C 47 dX7_setRegister_6 (rg_ hC F1.1) F1.2.1 F1.2.2 c2 v3 ev3 ?_
  cases h
  exact g_vret C dX7_setRegister_7 hr hlk
theorem dX7_setRenames_0 : decode cX7_setRenames 0 = .ok (.aload_n 0, 1) := by decide +kernel
theorem dX7_setRenames_1 : decode cX7_setRenames 1 = .ok (.getfield 11, 3) := by decide +kernel
theorem dX7_setRenames_4 : decode cX7_setRenames 4 = .ok (.bipush 46, 2) := by decide +kernel
theorem dX7_setRenames_6 : decode cX7_setRenames 6 = .ok (.iload_n 1, 1) := by decide +kernel
theorem dX7_setRenames_7 : decode cX7_setRenames 7 = .ok (.ifCond .eq 7, 3) := by decide +kernel
theorem dX7_setRenames_10 : decode cX7_setRenames 10 = .ok (.iconst 1, 1) := by decide +kernel
theorem dX7_setRenames_11 : decode cX7_setRenames 11 = .ok (.goto 4, 3) := by decide +kernel
theorem dX7_setRenames_14 : decode cX7_setRenames 14 = .ok (.iconst 0, 1) := by decide +kernel
theorem dX7_setRenames_15 : decode cX7_setRenames 15 = .ok (.iastore, 1) := by decide +kernel
theorem dX7_setRenames_16 : decode cX7_setRenames 16 = .ok (.return_, 1) := by decide +kernel
def fX7_setRenames (x0 x1 : Int) (v : V_) : Option (Int × V_) :=
  if x1 = 0 then (
    lt_ (up_ v (x0 + 1) 46 0) fun v3 =>
    some (0, v3))
  else (
    lt_ (up_ v (x0 + 1) 46 1) fun v4 =>
    some (0, v4))
theorem cX7_setRenames_ok (l : Launch) {E : En_} {sz : Int} (hC : Cl_ E.2.2.2.2.2 sz) {x0 x1 : Int} {v : V_} {out : Int × V_} (T0 : (E.2.2.2.2.2 x0 ∧ ty_ x0 = 7 ∧ ln_ x0 = 0)) (h : fX7_setRenames x0 x1 v = some out) : Met l yX7_setRenames [.code yX7_setRenames cX7_setRenames 2 (none : Option FieldType)] (rm_ 0 0) (Pc_ E sz v [(2, x0), (0, x1)]) (Qc_ E sz 9 out.1 out.2) 0 0 (fun q => E.1 < q) := by
  refine met_G0 RX7 (by decide +kernel) rfl (Nat.le_of_ble_eq_true rfl) ?_
  intro p e s m args below meth c C hr hlk
  rw [fX7_setRenames] at h
  refine g_aload_n C (f := 0) dX7_setRenames_0 0 rfl ?_
  have F1 := fX7_0 hC T0.1 T0.2.1
  refine g_getR C (k := 0) (o := 1) okX7 (by decide) kf_RX7_11 dX7_setRenames_1 hC T0.1 T0.2.1 rfl rfl ?_
  refine g_bipush C (n := 46) dX7_setRenames_4 (by decide) ?_
  refine g_iload_n C (f := 1) dX7_setRenames_6 1 rfl ?_
  refine g_if_eq C 14 dX7_setRenames_7 rfl (fun c2 => ?_) (fun c2 => ?_)
  · replace h := if_t h c2
    refine g_iconst C (n := 0) dX7_setRenames_14 (by decide) ?_
    obtain ⟨v3, ev3, h⟩ := lt_e h
    refine g_iast C 47 dX7_setRenames_15 (rg_ hC F1.1) F1.2.1 F1.2.2 (by decide) v3 ev3 ?_
    cases h
    exact g_vret C dX7_setRenames_16 hr hlk
  · replace h := if_f h c2
    refine g_iconst C (n := 1) dX7_setRenames_10 (by decide) ?_
    refine g_goto C 15 dX7_setRenames_11 rfl ?_
    obtain ⟨v4, ev4, h⟩ := lt_e h
    refine g_iast C 47 dX7_setRenames_15 (rg_ hC F1.1) F1.2.1 F1.2.2 (by decide) v4 ev4 ?_
    cases h
    exact g_vret C dX7_setRenames_16 hr hlk
theorem dX7_setUnits_0 : decode cX7_setUnits 0 = .ok (.aload_n 0, 1) := by decide +kernel
theorem dX7_setUnits_1 : decode cX7_setUnits 1 = .ok (.getfield 11, 3) := by decide +kernel
theorem dX7_setUnits_4 : decode cX7_setUnits 4 = .ok (.bipush 38, 2) := by decide +kernel
theorem dX7_setUnits_6 : decode cX7_setUnits 6 = .ok (.iload_n 1, 1) := by decide +kernel
theorem dX7_setUnits_7 : decode cX7_setUnits 7 = .ok (.iadd, 1) := by decide +kernel
theorem dX7_setUnits_8 : decode cX7_setUnits 8 = .ok (.iload_n 2, 1) := by decide +kernel
theorem dX7_setUnits_9 : decode cX7_setUnits 9 = .ok (.iastore, 1) := by decide +kernel
theorem dX7_setUnits_10 : decode cX7_setUnits 10 = .ok (.aload_n 0, 1) := by decide +kernel
theorem dX7_setUnits_11 : decode cX7_setUnits 11 = .ok (.getfield 11, 3) := by decide +kernel
theorem dX7_setUnits_14 : decode cX7_setUnits 14 = .ok (.bipush 42, 2) := by decide +kernel
theorem dX7_setUnits_16 : decode cX7_setUnits 16 = .ok (.iload_n 1, 1) := by decide +kernel
theorem dX7_setUnits_17 : decode cX7_setUnits 17 = .ok (.iadd, 1) := by decide +kernel
theorem dX7_setUnits_18 : decode cX7_setUnits 18 = .ok (.iload_n 3, 1) := by decide +kernel
theorem dX7_setUnits_19 : decode cX7_setUnits 19 = .ok (.iastore, 1) := by decide +kernel
theorem dX7_setUnits_20 : decode cX7_setUnits 20 = .ok (.return_, 1) := by decide +kernel
def fX7_setUnits (x0 x1 x2 x3 : Int) (v : V_) : Option (Int × V_) :=
  ck_ (0 ≤ wr_ (38 + x1) ∧ wr_ (38 + x1) < 47) (
  lt_ (up_ v (x0 + 1) (wr_ (38 + x1)) x2) fun v3 =>
  ck_ (0 ≤ wr_ (42 + x1) ∧ wr_ (42 + x1) < 47) (
  lt_ (up_ v3 (x0 + 1) (wr_ (42 + x1)) x3) fun v6 =>
  some (0, v6)))
theorem cX7_setUnits_ok (l : Launch) {E : En_} {sz : Int} (hC : Cl_ E.2.2.2.2.2 sz) {x0 x1 x2 x3 : Int} {v : V_} {out : Int × V_} (T0 : (E.2.2.2.2.2 x0 ∧ ty_ x0 = 7 ∧ ln_ x0 = 0)) (h : fX7_setUnits x0 x1 x2 x3 v = some out) : Met l yX7_setUnits [.code yX7_setUnits cX7_setUnits 4 (none : Option FieldType)] (rm_ 0 0) (Pc_ E sz v [(2, x0), (0, x1), (0, x2), (0, x3)]) (Qc_ E sz 9 out.1 out.2) 0 0 (fun q => E.1 < q) := by
  refine met_G0 RX7 (by decide +kernel) rfl (Nat.le_of_ble_eq_true rfl) ?_
  intro p e s m args below meth c C hr hlk
  rw [fX7_setUnits] at h
  refine g_aload_n C (f := 0) dX7_setUnits_0 0 rfl ?_
  have F1 := fX7_0 hC T0.1 T0.2.1
  refine g_getR C (k := 0) (o := 1) okX7 (by decide) kf_RX7_11 dX7_setUnits_1 hC T0.1 T0.2.1 rfl rfl ?_
  refine g_bipush C (n := 38) dX7_setUnits_4 (by decide) ?_
  refine g_iload_n C (f := 1) dX7_setUnits_6 1 rfl ?_
  refine g_iadd C dX7_setUnits_7 ?_
  refine g_iload_n C (f := 2) dX7_setUnits_8 2 rfl ?_
  obtain ⟨c2, h⟩ := ck_e h
  obtain ⟨v3, ev3, h⟩ := lt_e h
  refine g_iast C 47 dX7_setUnits_9 (rg_ hC F1.1) F1.2.1 F1.2.2 c2 v3 ev3 ?_
  refine g_aload_n C (f := 0) dX7_setUnits_10 0 rfl ?_
  have F4 := fX7_0 hC T0.1 T0.2.1
  refine g_getR C (k := 0) (o := 1) okX7 (by decide) kf_RX7_11 dX7_setUnits_11 hC T0.1 T0.2.1 rfl rfl ?_
  refine g_bipush C (n := 42) dX7_setUnits_14 (by decide) ?_
  refine g_iload_n C (f := 1) dX7_setUnits_16 1 rfl ?_
  refine g_iadd C dX7_setUnits_17 ?_
  refine g_iload_n C (f := 3) dX7_setUnits_18 3 rfl ?_
  obtain ⟨c5, h⟩ := ck_e h
  obtain ⟨v6, ev6, h⟩ := lt_e h
  refine g_iast C 47 dX7_setUnits_19 (rg_ hC F4.1) F4.2.1 F4.2.2 c5 v6 ev6 ?_
  cases h
  exact g_vret C dX7_setUnits_20 hr hlk
