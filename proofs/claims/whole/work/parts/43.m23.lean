theorem dX12_reckons_0 : decode cX12_reckons 0 = .ok (.aload_n 0, 1) := by decide +kernel
theorem dX12_reckons_1 : decode cX12_reckons 1 = .ok (.iload_n 3, 1) := by decide +kernel
theorem dX12_reckons_2 : decode cX12_reckons 2 = .ok (.invokevirtual 341, 3) := by decide +kernel
theorem dX12_reckons_5 : decode cX12_reckons 5 = .ok (.istore 5, 2) := by decide +kernel
theorem dX12_reckons_7 : decode cX12_reckons 7 = .ok (.aload_n 0, 1) := by decide +kernel
theorem dX12_reckons_8 : decode cX12_reckons 8 = .ok (.iload 4, 2) := by decide +kernel
theorem dX12_reckons_10 : decode cX12_reckons 10 = .ok (.invokevirtual 341, 3) := by decide +kernel
theorem dX12_reckons_13 : decode cX12_reckons 13 = .ok (.istore 6, 2) := by decide +kernel
theorem dX12_reckons_15 : decode cX12_reckons 15 = .ok (.aload_n 0, 1) := by decide +kernel
theorem dX12_reckons_16 : decode cX12_reckons 16 = .ok (.iconst 0, 1) := by decide +kernel
theorem dX12_reckons_17 : decode cX12_reckons 17 = .ok (.putfield 344, 3) := by decide +kernel
theorem dX12_reckons_20 : decode cX12_reckons 20 = .ok (.aload_n 0, 1) := by decide +kernel
theorem dX12_reckons_21 : decode cX12_reckons 21 = .ok (.iconst (-1), 1) := by decide +kernel
theorem dX12_reckons_22 : decode cX12_reckons 22 = .ok (.putfield 347, 3) := by decide +kernel
theorem dX12_reckons_25 : decode cX12_reckons 25 = .ok (.aload_n 0, 1) := by decide +kernel
theorem dX12_reckons_26 : decode cX12_reckons 26 = .ok (.iconst 0, 1) := by decide +kernel
theorem dX12_reckons_27 : decode cX12_reckons 27 = .ok (.putfield 350, 3) := by decide +kernel
theorem dX12_reckons_30 : decode cX12_reckons 30 = .ok (.iload_n 1, 1) := by decide +kernel
theorem dX12_reckons_31 : decode cX12_reckons 31 = .ok (.ifCond .ne 79, 3) := by decide +kernel
theorem dX12_reckons_34 : decode cX12_reckons 34 = .ok (.aload_n 0, 1) := by decide +kernel
theorem dX12_reckons_35 : decode cX12_reckons 35 = .ok (.iload_n 2, 1) := by decide +kernel
theorem dX12_reckons_36 : decode cX12_reckons 36 = .ok (.iconst 3, 1) := by decide +kernel
theorem dX12_reckons_37 : decode cX12_reckons 37 = .ok (.if_icmp .ne 12, 3) := by decide +kernel
theorem dX12_reckons_40 : decode cX12_reckons 40 = .ok (.iload 6, 2) := by decide +kernel
theorem dX12_reckons_42 : decode cX12_reckons 42 = .ok (.ifCond .ne 7, 3) := by decide +kernel
theorem dX12_reckons_45 : decode cX12_reckons 45 = .ok (.iconst 1, 1) := by decide +kernel
theorem dX12_reckons_46 : decode cX12_reckons 46 = .ok (.goto 4, 3) := by decide +kernel
theorem dX12_reckons_49 : decode cX12_reckons 49 = .ok (.iconst 0, 1) := by decide +kernel
theorem dX12_reckons_50 : decode cX12_reckons 50 = .ok (.putfield 344, 3) := by decide +kernel
theorem dX12_reckons_53 : decode cX12_reckons 53 = .ok (.aload_n 0, 1) := by decide +kernel
theorem dX12_reckons_54 : decode cX12_reckons 54 = .ok (.getfield 344, 3) := by decide +kernel
theorem dX12_reckons_57 : decode cX12_reckons 57 = .ok (.ifCond .ne 113, 3) := by decide +kernel
theorem dX12_reckons_60 : decode cX12_reckons 60 = .ok (.aload_n 0, 1) := by decide +kernel
theorem dX12_reckons_61 : decode cX12_reckons 61 = .ok (.iload_n 2, 1) := by decide +kernel
theorem dX12_reckons_62 : decode cX12_reckons 62 = .ok (.ifCond .ne 11, 3) := by decide +kernel
theorem dX12_reckons_65 : decode cX12_reckons 65 = .ok (.iload 5, 2) := by decide +kernel
theorem dX12_reckons_67 : decode cX12_reckons 67 = .ok (.iload 6, 2) := by decide +kernel
theorem dX12_reckons_69 : decode cX12_reckons 69 = .ok (.iadd, 1) := by decide +kernel
theorem dX12_reckons_70 : decode cX12_reckons 70 = .ok (.goto 34, 3) := by decide +kernel
theorem dX12_reckons_73 : decode cX12_reckons 73 = .ok (.iload_n 2, 1) := by decide +kernel
theorem dX12_reckons_74 : decode cX12_reckons 74 = .ok (.iconst 1, 1) := by decide +kernel
theorem dX12_reckons_75 : decode cX12_reckons 75 = .ok (.if_icmp .ne 11, 3) := by decide +kernel
theorem dX12_reckons_78 : decode cX12_reckons 78 = .ok (.iload 5, 2) := by decide +kernel
theorem dX12_reckons_80 : decode cX12_reckons 80 = .ok (.iload 6, 2) := by decide +kernel
theorem dX12_reckons_82 : decode cX12_reckons 82 = .ok (.isub, 1) := by decide +kernel
theorem dX12_reckons_83 : decode cX12_reckons 83 = .ok (.goto 21, 3) := by decide +kernel
theorem dX12_reckons_86 : decode cX12_reckons 86 = .ok (.iload_n 2, 1) := by decide +kernel
theorem dX12_reckons_87 : decode cX12_reckons 87 = .ok (.iconst 2, 1) := by decide +kernel
theorem dX12_reckons_88 : decode cX12_reckons 88 = .ok (.if_icmp .ne 11, 3) := by decide +kernel
theorem dX12_reckons_91 : decode cX12_reckons 91 = .ok (.iload 5, 2) := by decide +kernel
theorem dX12_reckons_93 : decode cX12_reckons 93 = .ok (.iload 6, 2) := by decide +kernel
theorem dX12_reckons_95 : decode cX12_reckons 95 = .ok (.imul, 1) := by decide +kernel
theorem dX12_reckons_96 : decode cX12_reckons 96 = .ok (.goto 8, 3) := by decide +kernel
theorem dX12_reckons_99 : decode cX12_reckons 99 = .ok (.iload 5, 2) := by decide +kernel
theorem dX12_reckons_101 : decode cX12_reckons 101 = .ok (.iload 6, 2) := by decide +kernel
theorem dX12_reckons_103 : decode cX12_reckons 103 = .ok (.idiv, 1) := by decide +kernel
theorem dX12_reckons_104 : decode cX12_reckons 104 = .ok (.putfield 350, 3) := by decide +kernel
theorem dX12_reckons_107 : decode cX12_reckons 107 = .ok (.goto 63, 3) := by decide +kernel
theorem dX12_reckons_110 : decode cX12_reckons 110 = .ok (.aload_n 0, 1) := by decide +kernel
theorem dX12_reckons_111 : decode cX12_reckons 111 = .ok (.iload 5, 2) := by decide +kernel
theorem dX12_reckons_113 : decode cX12_reckons 113 = .ok (.iconst 0, 1) := by decide +kernel
theorem dX12_reckons_114 : decode cX12_reckons 114 = .ok (.bipush 7, 2) := by decide +kernel
theorem dX12_reckons_116 : decode cX12_reckons 116 = .ok (.invokestatic 334, 3) := by decide +kernel
theorem dX12_reckons_119 : decode cX12_reckons 119 = .ok (.ifCond .ne 7, 3) := by decide +kernel
theorem dX12_reckons_122 : decode cX12_reckons 122 = .ok (.iconst 1, 1) := by decide +kernel
theorem dX12_reckons_123 : decode cX12_reckons 123 = .ok (.goto 4, 3) := by decide +kernel
theorem dX12_reckons_126 : decode cX12_reckons 126 = .ok (.iconst 0, 1) := by decide +kernel
theorem dX12_reckons_127 : decode cX12_reckons 127 = .ok (.putfield 344, 3) := by decide +kernel
theorem dX12_reckons_130 : decode cX12_reckons 130 = .ok (.aload_n 0, 1) := by decide +kernel
theorem dX12_reckons_131 : decode cX12_reckons 131 = .ok (.getfield 344, 3) := by decide +kernel
theorem dX12_reckons_134 : decode cX12_reckons 134 = .ok (.ifCond .eq 4, 3) := by decide +kernel
theorem dX12_reckons_137 : decode cX12_reckons 137 = .ok (.return_, 1) := by decide +kernel
theorem dX12_reckons_138 : decode cX12_reckons 138 = .ok (.iload_n 1, 1) := by decide +kernel
theorem dX12_reckons_139 : decode cX12_reckons 139 = .ok (.iconst 2, 1) := by decide +kernel
theorem dX12_reckons_140 : decode cX12_reckons 140 = .ok (.if_icmp .ne 9, 3) := by decide +kernel
theorem dX12_reckons_143 : decode cX12_reckons 143 = .ok (.aload_n 0, 1) := by decide +kernel
theorem dX12_reckons_144 : decode cX12_reckons 144 = .ok (.iload 5, 2) := by decide +kernel
theorem dX12_reckons_146 : decode cX12_reckons 146 = .ok (.putfield 347, 3) := by decide +kernel
theorem dX12_reckons_149 : decode cX12_reckons 149 = .ok (.aload_n 0, 1) := by decide +kernel
theorem dX12_reckons_150 : decode cX12_reckons 150 = .ok (.iload_n 1, 1) := by decide +kernel
theorem dX12_reckons_151 : decode cX12_reckons 151 = .ok (.iconst 1, 1) := by decide +kernel
theorem dX12_reckons_152 : decode cX12_reckons 152 = .ok (.if_icmp .ne 13, 3) := by decide +kernel
theorem dX12_reckons_155 : decode cX12_reckons 155 = .ok (.aload_n 0, 1) := by decide +kernel
theorem dX12_reckons_156 : decode cX12_reckons 156 = .ok (.getfield 94, 3) := by decide +kernel
theorem dX12_reckons_159 : decode cX12_reckons 159 = .ok (.iload 5, 2) := by decide +kernel
theorem dX12_reckons_161 : decode cX12_reckons 161 = .ok (.iaload, 1) := by decide +kernel
theorem dX12_reckons_162 : decode cX12_reckons 162 = .ok (.goto 5, 3) := by decide +kernel
theorem dX12_reckons_165 : decode cX12_reckons 165 = .ok (.iload 6, 2) := by decide +kernel
theorem dX12_reckons_167 : decode cX12_reckons 167 = .ok (.putfield 350, 3) := by decide +kernel
theorem dX12_reckons_170 : decode cX12_reckons 170 = .ok (.return_, 1) := by decide +kernel
def fX12_reckons_149 (x0 x1 x5 x6 : Int) (v : V_) : Option (Int × V_) :=
  if x1 = 1 then (
    ck_ (0 ≤ x5 ∧ x5 < 8) (
    lt_ (up_ v x0 40 (v (x0 + 26) x5)) fun v17 =>
    some (0, v17)))
  else (
    lt_ (up_ v x0 40 x6) fun v14 =>
    some (0, v14))
def fX12_reckons_127 (x0 x1 x5 x6 s0 s1 : Int) (v : V_) : Option (Int × V_) :=
  ck_ (s1 = 0 ∨ s1 = 1) (
  lt_ (up_ v s0 42 s1) fun v10 =>
  if (v10 x0 42) = 0 then (
    if x1 = 2 then (
      lt_ (up_ v10 x0 41 x5) fun v18 =>
      fX12_reckons_149 x0 x1 x5 x6 v18)
    else (
      fX12_reckons_149 x0 x1 x5 x6 v10))
  else (
    some (0, v10)))
def fX12_reckons_50 (x0 x2 x5 x6 s0 s1 : Int) (v : V_) : Option (Int × V_) :=
  ck_ (s1 = 0 ∨ s1 = 1) (
  lt_ (up_ v s0 42 s1) fun v21 =>
  if (v21 x0 42) = 0 then (
    if x2 = 0 then (
      lt_ (up_ v21 x0 40 (wr_ (x5 + x6))) fun v30 =>
      some (0, v30))
    else (
      if x2 = 1 then (
        lt_ (up_ v21 x0 40 (wr_ (x5 - x6))) fun v29 =>
        some (0, v29))
      else (
        if x2 = 2 then (
          lt_ (up_ v21 x0 40 (wr_ (x5 * x6))) fun v28 =>
          some (0, v28))
        else (
          ck_ (x6 ≠ 0) (
          lt_ (up_ v21 x0 40 (wr_ (Int.tdiv x5 x6))) fun v27 =>
          some (0, v27))))))
  else (
    some (0, v21)))
def fX12_reckons_49 (x0 x2 x5 x6 s0 : Int) (v : V_) : Option (Int × V_) :=
  fX12_reckons_50 x0 x2 x5 x6 s0 0 v
def fX12_reckons (x0 x1 x2 x3 x4 : Int) (v : V_) : Option (Int × V_) :=
  bd_ (fX12_valueOf x0 x3 v) fun q1 =>
  bd_ (fX12_valueOf x0 x4 q1.2) fun q2 =>
  lt_ (up_ q2.2 x0 42 0) fun v3 =>
  lt_ (up_ v3 x0 41 (-1)) fun v4 =>
  lt_ (up_ v4 x0 40 0) fun v5 =>
  if x1 = 0 then (
    if x2 = 3 then (
      if q2.1 = 0 then (
        fX12_reckons_50 x0 x2 q1.1 q2.1 x0 1 v5)
      else (
        fX12_reckons_49 x0 x2 q1.1 q2.1 x0 v5))
    else (
      fX12_reckons_49 x0 x2 q1.1 q2.1 x0 v5))
  else (
    bd_ (fX12_in q1.1 0 7 v5) fun q7 =>
    if q7.1 = 0 then (
      fX12_reckons_127 x0 x1 q1.1 q2.1 x0 1 q7.2)
    else (
      fX12_reckons_127 x0 x1 q1.1 q2.1 x0 0 q7.2))
section
variable {E : En_} {p : Program} {l : Launch} {e : Env} {s : State} {m : MethodId} {args : Array Value} {below : List Frame} {meth : Method} {c : Code} {sz : Int}
theorem tX12_reckons_149 (C : MC_ E p s m c cX12_reckons 7 RX12) (hr : meth.sig.returnType = (none : Option FieldType)) (hlk : meth.locks = false) (hC : Cl_ E.2.2.2.2.2 sz) {out : Int × V_} (x0 x1 x5 x6 : Int) (v : V_) (T0 : (E.2.2.2.2.2 x0 ∧ ty_ x0 = 12 ∧ ln_ x0 = 0)) (h : fX12_reckons_149 x0 x1 x5 x6 v = some out) : G_ E p l e (rm_ 1 22) s m args below meth c 7 sz (Q_ E below args s sz sz 9 out.1 out.2) 149 [(0, (2, x0)), (1, (0, x1)), (5, (0, x5)), (6, (0, x6))] [] v sz := by
  rw [fX12_reckons_149] at h
  refine g_aload_n C (f := 0) dX12_reckons_149 0 rfl ?_
  refine g_iload_n C (f := 1) dX12_reckons_150 1 rfl ?_
  refine g_iconst C (n := 1) dX12_reckons_151 (by decide) ?_
  refine g_icmp_ne C 165 dX12_reckons_152 rfl (fun c13 => ?_) (fun c13 => ?_)
  · replace h := if_f h c13
    refine g_iload C (i := 6) dX12_reckons_165 3 rfl ?_
    obtain ⟨v14, ev14, h⟩ := lt_e h
    refine g_putf C (k := 40) (kd := 0) okX12 (by decide) kf_RX12_350 dX12_reckons_167 (rg_ hC T0.1) T0.2.1 rfl rfl nvI (Or.inl rfl) v14 ev14 ?_
    cases h
    exact g_vret C dX12_reckons_170 hr hlk
  · replace h := if_t h c13
    refine g_aload_n C (f := 0) dX12_reckons_155 0 rfl ?_
    have F15 := fX12_39 hC T0.1 T0.2.1
    refine g_getR C (k := 39) (o := 26) okX12 (by decide) kf_RX12_94 dX12_reckons_156 hC T0.1 T0.2.1 rfl rfl ?_
    refine g_iload C (i := 5) dX12_reckons_159 2 rfl ?_
    obtain ⟨c16, h⟩ := ck_e h
    refine g_iald C 8 dX12_reckons_161 (rg_ hC F15.1) F15.2.1 F15.2.2 c16 ?_
    refine g_goto C 167 dX12_reckons_162 rfl ?_
    obtain ⟨v17, ev17, h⟩ := lt_e h
    refine g_putf C (k := 40) (kd := 0) okX12 (by decide) kf_RX12_350 dX12_reckons_167 (rg_ hC T0.1) T0.2.1 rfl rfl nvI (Or.inl rfl) v17 ev17 ?_
    cases h
    exact g_vret C dX12_reckons_170 hr hlk
theorem tX12_reckons_127 (C : MC_ E p s m c cX12_reckons 7 RX12) (hr : meth.sig.returnType = (none : Option FieldType)) (hlk : meth.locks = false) (hC : Cl_ E.2.2.2.2.2 sz) {out : Int × V_} (x0 x1 x5 x6 s0 s1 : Int) (v : V_) (T0 : (E.2.2.2.2.2 x0 ∧ ty_ x0 = 12 ∧ ln_ x0 = 0)) (S0 : (E.2.2.2.2.2 s0 ∧ ty_ s0 = 12 ∧ ln_ s0 = 0)) (h : fX12_reckons_127 x0 x1 x5 x6 s0 s1 v = some out) : G_ E p l e (rm_ 1 22) s m args below meth c 7 sz (Q_ E below args s sz sz 9 out.1 out.2) 127 [(0, (2, x0)), (1, (0, x1)), (5, (0, x5)), (6, (0, x6))] [(0, s1), (2, s0)] v sz := by
  rw [fX12_reckons_127] at h
  obtain ⟨c9, h⟩ := ck_e h
  obtain ⟨v10, ev10, h⟩ := lt_e h
  refine g_putf C (k := 42) (kd := 0) okX12 (by decide) kf_RX12_344 dX12_reckons_127 (rg_ hC S0.1) S0.2.1 rfl rfl (nvZ c9) (Or.inl rfl) v10 ev10 ?_
  refine g_aload_n C (f := 0) dX12_reckons_130 0 rfl ?_
  refine g_getf C (k := 42) (kd := 0) okX12 (by decide) kf_RX12_344 dX12_reckons_131 (rg_ hC T0.1) T0.2.1 rfl ?_
  refine g_if_eq C 138 dX12_reckons_134 rfl (fun c11 => ?_) (fun c11 => ?_)
  · replace h := if_t h c11
    refine g_iload_n C (f := 1) dX12_reckons_138 1 rfl ?_
    refine g_iconst C (n := 2) dX12_reckons_139 (by decide) ?_
    refine g_icmp_ne C 149 dX12_reckons_140 rfl (fun c12 => ?_) (fun c12 => ?_)
    · replace h := if_f h c12
      refine g_sub [0, 1, 2, 3] rfl rfl ?_
      exact tX12_reckons_149 C hr hlk hC _ _ _ _ _ T0 h
    · replace h := if_t h c12
      refine g_aload_n C (f := 0) dX12_reckons_143 0 rfl ?_
      refine g_iload C (i := 5) dX12_reckons_144 2 rfl ?_
      obtain ⟨v18, ev18, h⟩ := lt_e h
      refine g_putf C (k := 41) (kd := 0) okX12 (by decide) kf_RX12_347 dX12_reckons_146 (rg_ hC T0.1) T0.2.1 rfl rfl nvI (Or.inl rfl) v18 ev18 ?_
      refine g_sub [0, 1, 2, 3] rfl rfl ?_
      exact tX12_reckons_149 C hr hlk hC _ _ _ _ _ T0 h
  · replace h := if_f h c11
    cases h
    exact g_vret C dX12_reckons_137 hr hlk
theorem tX12_reckons_50 (C : MC_ E p s m c cX12_reckons 7 RX12) (hr : meth.sig.returnType = (none : Option FieldType)) (hlk : meth.locks = false) (hC : Cl_ E.2.2.2.2.2 sz) {out : Int × V_} (x0 x2 x5 x6 s0 s1 : Int) (v : V_) (T0 : (E.2.2.2.2.2 x0 ∧ ty_ x0 = 12 ∧ ln_ x0 = 0)) (S0 : (E.2.2.2.2.2 s0 ∧ ty_ s0 = 12 ∧ ln_ s0 = 0)) (h : fX12_reckons_50 x0 x2 x5 x6 s0 s1 v = some out) : G_ E p l e (rm_ 1 22) s m args below meth c 7 sz (Q_ E below args s sz sz 9 out.1 out.2) 50 [(0, (2, x0)), (2, (0, x2)), (5, (0, x5)), (6, (0, x6))] [(0, s1), (2, s0)] v sz := by
  rw [fX12_reckons_50] at h
  obtain ⟨c20, h⟩ := ck_e h
  obtain ⟨v21, ev21, h⟩ := lt_e h
  refine g_putf C (k := 42) (kd := 0) okX12 (by decide) kf_RX12_344 dX12_reckons_50 (rg_ hC S0.1) S0.2.1 rfl rfl (nvZ c20) (Or.inl rfl) v21 ev21 ?_
  refine g_aload_n C (f := 0) dX12_reckons_53 0 rfl ?_
  refine g_getf C (k := 42) (kd := 0) okX12 (by decide) kf_RX12_344 dX12_reckons_54 (rg_ hC T0.1) T0.2.1 rfl ?_
  refine g_if_ne C 170 dX12_reckons_57 rfl (fun c22 => ?_) (fun c22 => ?_)
  · replace h := if_f h c22
    cases h
    exact g_vret C dX12_reckons_170 hr hlk
  · replace h := if_t h c22
    refine g_aload_n C (f := 0) dX12_reckons_60 0 rfl ?_
    refine g_iload_n C (f := 2) dX12_reckons_61 1 rfl ?_
    refine g_if_ne C 73 dX12_reckons_62 rfl (fun c23 => ?_) (fun c23 => ?_)
    · replace h := if_f h c23
      refine g_iload_n C (f := 2) dX12_reckons_73 1 rfl ?_
      refine g_iconst C (n := 1) dX12_reckons_74 (by decide) ?_
      refine g_icmp_ne C 86 dX12_reckons_75 rfl (fun c24 => ?_) (fun c24 => ?_)
      · replace h := if_f h c24
        refine g_iload_n C (f := 2) dX12_reckons_86 1 rfl ?_
        refine g_iconst C (n := 2) dX12_reckons_87 (by decide) ?_
        refine g_icmp_ne C 99 dX12_reckons_88 rfl (fun c25 => ?_) (fun c25 => ?_)
        · replace h := if_f h c25
          refine g_iload C (i := 5) dX12_reckons_99 2 rfl ?_
          refine g_iload C (i := 6) dX12_reckons_101 3 rfl ?_
          obtain ⟨c26, h⟩ := ck_e h
          refine g_idiv C dX12_reckons_103 c26 ?_
          obtain ⟨v27, ev27, h⟩ := lt_e h
          refine g_putf C (k := 40) (kd := 0) okX12 (by decide) kf_RX12_350 dX12_reckons_104 (rg_ hC T0.1) T0.2.1 rfl rfl nvI (Or.inl rfl) v27 ev27 ?_
          refine g_goto C 170 dX12_reckons_107 rfl ?_
          cases h
          exact g_vret C dX12_reckons_170 hr hlk
        · replace h := if_t h c25
          refine g_iload C (i := 5) dX12_reckons_91 2 rfl ?_
          refine g_iload C (i := 6) dX12_reckons_93 3 rfl ?_
          refine g_imul C dX12_reckons_95 ?_
          refine g_goto C 104 dX12_reckons_96 rfl ?_
          obtain ⟨v28, ev28, h⟩ := lt_e h
          refine g_putf C (k := 40) (kd := 0) okX12 (by decide) kf_RX12_350 dX12_reckons_104 (rg_ hC T0.1) T0.2.1 rfl rfl nvI (Or.inl rfl) v28 ev28 ?_
          refine g_goto C 170 dX12_reckons_107 rfl ?_
          cases h
          exact g_vret C dX12_reckons_170 hr hlk
      · replace h := if_t h c24
        refine g_iload C (i := 5) dX12_reckons_78 2 rfl ?_
        refine g_iload C (i := 6) dX12_reckons_80 3 rfl ?_
        refine g_isub C dX12_reckons_82 ?_
        refine g_goto C 104 dX12_reckons_83 rfl ?_
        obtain ⟨v29, ev29, h⟩ := lt_e h
        refine g_putf C (k := 40) (kd := 0) okX12 (by decide) kf_RX12_350 dX12_reckons_104 (rg_ hC T0.1) T0.2.1 rfl rfl nvI (Or.inl rfl) v29 ev29 ?_
        refine g_goto C 170 dX12_reckons_107 rfl ?_
        cases h
        exact g_vret C dX12_reckons_170 hr hlk
    · replace h := if_t h c23
      refine g_iload C (i := 5) dX12_reckons_65 2 rfl ?_
      refine g_iload C (i := 6) dX12_reckons_67 3 rfl ?_
      refine g_iadd C dX12_reckons_69 ?_
      refine g_goto C 104 dX12_reckons_70 rfl ?_
      obtain ⟨v30, ev30, h⟩ := lt_e h
      refine g_putf C (k := 40) (kd := 0) okX12 (by decide) kf_RX12_350 dX12_reckons_104 (rg_ hC T0.1) T0.2.1 rfl rfl nvI (Or.inl rfl) v30 ev30 ?_
      refine g_goto C 170 dX12_reckons_107 rfl ?_
      cases h
      exact g_vret C dX12_reckons_170 hr hlk
theorem tX12_reckons_49 (C : MC_ E p s m c cX12_reckons 7 RX12) (hr : meth.sig.returnType = (none : Option FieldType)) (hlk : meth.locks = false) (hC : Cl_ E.2.2.2.2.2 sz) {out : Int × V_} (x0 x2 x5 x6 s0 : Int) (v : V_) (T0 : (E.2.2.2.2.2 x0 ∧ ty_ x0 = 12 ∧ ln_ x0 = 0)) (S0 : (E.2.2.2.2.2 s0 ∧ ty_ s0 = 12 ∧ ln_ s0 = 0)) (h : fX12_reckons_49 x0 x2 x5 x6 s0 v = some out) : G_ E p l e (rm_ 1 22) s m args below meth c 7 sz (Q_ E below args s sz sz 9 out.1 out.2) 49 [(0, (2, x0)), (2, (0, x2)), (5, (0, x5)), (6, (0, x6))] [(2, s0)] v sz := by
  rw [fX12_reckons_49] at h
  refine g_iconst C (n := 0) dX12_reckons_49 (by decide) ?_
  refine g_sub [0, 1, 2, 3] rfl rfl ?_
  exact tX12_reckons_50 C hr hlk hC _ _ _ _ _ _ _ T0 S0 h
end
theorem cX12_reckons_ok (l : Launch) {E : En_} {sz : Int} (hC : Cl_ E.2.2.2.2.2 sz) {x0 x1 x2 x3 x4 : Int} {v : V_} {out : Int × V_} (T0 : (E.2.2.2.2.2 x0 ∧ ty_ x0 = 12 ∧ ln_ x0 = 0)) (h : fX12_reckons x0 x1 x2 x3 x4 v = some out) : Met l yX12_reckons [.code yX12_reckons cX12_reckons 7 (none : Option FieldType)] (rm_ 1 22) (Pc_ E sz v [(2, x0), (0, x1), (0, x2), (0, x3), (0, x4)]) (Qc_ E sz 9 out.1 out.2) 0 0 (fun q => E.1 < q) := by
  refine met_G0 RX12 (by decide +kernel) rfl (Nat.le_of_ble_eq_true rfl) ?_
  intro p e s m args below meth c C hr hlk
  rw [fX12_reckons] at h
  refine g_aload_n C (f := 0) dX12_reckons_0 0 rfl ?_
  refine g_iload_n C (f := 3) dX12_reckons_1 3 rfl ?_
  obtain ⟨q1, eq1, h⟩ := bd_e h
  refine g_cV C [(0, x3)] (cX12_valueOf_ok l hC T0 eq1) okX12 T0.2.1 (rg_ hC T0.1) km_RX12_341 cv_X12_valueOf rfl (by decide) rfl rfl (Nat.le_of_ble_eq_true rfl) dX12_reckons_2 ?_
  refine g_istore C (i := 5) (ls' := [(5, (0, q1.1)), (0, (2, x0)), (1, (0, x1)), (2, (0, x2)), (3, (0, x3)), (4, (0, x4))]) dX12_reckons_5 (by decide) rfl ?_
  refine g_aload_n C (f := 0) dX12_reckons_7 1 rfl ?_
  refine g_iload C (i := 4) dX12_reckons_8 5 rfl ?_
  obtain ⟨q2, eq2, h⟩ := bd_e h
  refine g_cV C [(0, x4)] (cX12_valueOf_ok l hC T0 eq2) okX12 T0.2.1 (rg_ hC T0.1) km_RX12_341 cv_X12_valueOf rfl (by decide) rfl rfl (Nat.le_of_ble_eq_true rfl) dX12_reckons_10 ?_
  refine g_istore C (i := 6) (ls' := [(6, (0, q2.1)), (5, (0, q1.1)), (0, (2, x0)), (1, (0, x1)), (2, (0, x2)), (3, (0, x3)), (4, (0, x4))]) dX12_reckons_13 (by decide) rfl ?_
  refine g_aload_n C (f := 0) dX12_reckons_15 2 rfl ?_
  refine g_iconst C (n := 0) dX12_reckons_16 (by decide) ?_
  obtain ⟨v3, ev3, h⟩ := lt_e h
  refine g_putf C (k := 42) (kd := 0) okX12 (by decide) kf_RX12_344 dX12_reckons_17 (rg_ hC T0.1) T0.2.1 rfl rfl (nvZ (Or.inl rfl)) (Or.inl rfl) v3 ev3 ?_
  refine g_aload_n C (f := 0) dX12_reckons_20 2 rfl ?_
  refine g_iconst C (n := (-1)) dX12_reckons_21 (by decide) ?_
  obtain ⟨v4, ev4, h⟩ := lt_e h
  refine g_putf C (k := 41) (kd := 0) okX12 (by decide) kf_RX12_347 dX12_reckons_22 (rg_ hC T0.1) T0.2.1 rfl rfl nvI (Or.inl rfl) v4 ev4 ?_
  refine g_aload_n C (f := 0) dX12_reckons_25 2 rfl ?_
  refine g_iconst C (n := 0) dX12_reckons_26 (by decide) ?_
  obtain ⟨v5, ev5, h⟩ := lt_e h
  refine g_putf C (k := 40) (kd := 0) okX12 (by decide) kf_RX12_350 dX12_reckons_27 (rg_ hC T0.1) T0.2.1 rfl rfl nvI (Or.inl rfl) v5 ev5 ?_
  refine g_iload_n C (f := 1) dX12_reckons_30 3 rfl ?_
  refine g_if_ne C 110 dX12_reckons_31 rfl (fun c6 => ?_) (fun c6 => ?_)
  · replace h := if_f h c6
    refine g_aload_n C (f := 0) dX12_reckons_110 2 rfl ?_
    refine g_iload C (i := 5) dX12_reckons_111 1 rfl ?_
    refine g_iconst C (n := 0) dX12_reckons_113 (by decide) ?_
    refine g_bipush C (n := 7) dX12_reckons_114 (by decide) ?_
    obtain ⟨q7, eq7, h⟩ := bd_e h
    refine g_cS C [(0, q1.1), (0, 0), (0, 7)] (cX12_in_ok l hC eq7) km_RX12_334 cs_X12_in rfl (by decide) rfl rfl (Nat.le_of_ble_eq_true rfl) dX12_reckons_116 ?_
    refine g_if_ne C 126 dX12_reckons_119 rfl (fun c8 => ?_) (fun c8 => ?_)
    · replace h := if_f h c8
      refine g_iconst C (n := 0) dX12_reckons_126 (by decide) ?_
      refine g_sub [2, 3, 1, 0] rfl rfl ?_
      exact tX12_reckons_127 C hr hlk hC _ _ _ _ _ _ _ T0 T0 h
    · replace h := if_t h c8
      refine g_iconst C (n := 1) dX12_reckons_122 (by decide) ?_
      refine g_goto C 127 dX12_reckons_123 rfl ?_
      refine g_sub [2, 3, 1, 0] rfl rfl ?_
      exact tX12_reckons_127 C hr hlk hC _ _ _ _ _ _ _ T0 T0 h
  · replace h := if_t h c6
    refine g_aload_n C (f := 0) dX12_reckons_34 2 rfl ?_
    refine g_iload_n C (f := 2) dX12_reckons_35 4 rfl ?_
    refine g_iconst C (n := 3) dX12_reckons_36 (by decide) ?_
    refine g_icmp_ne C 49 dX12_reckons_37 rfl (fun c19 => ?_) (fun c19 => ?_)
    · replace h := if_f h c19
      refine g_sub [2, 4, 1, 0] rfl rfl ?_
      exact tX12_reckons_49 C hr hlk hC _ _ _ _ _ _ T0 T0 h
    · replace h := if_t h c19
      refine g_iload C (i := 6) dX12_reckons_40 0 rfl ?_
      refine g_if_ne C 49 dX12_reckons_42 rfl (fun c31 => ?_) (fun c31 => ?_)
      · replace h := if_f h c31
        refine g_sub [2, 4, 1, 0] rfl rfl ?_
        exact tX12_reckons_49 C hr hlk hC _ _ _ _ _ _ T0 T0 h
      · replace h := if_t h c31
        refine g_iconst C (n := 1) dX12_reckons_45 (by decide) ?_
        refine g_goto C 50 dX12_reckons_46 rfl ?_
        refine g_sub [2, 4, 1, 0] rfl rfl ?_
        exact tX12_reckons_50 C hr hlk hC _ _ _ _ _ _ _ T0 T0 h
theorem dX12_sets_0 : decode cX12_sets 0 = .ok (.aload_n 0, 1) := by decide +kernel
theorem dX12_sets_1 : decode cX12_sets 1 = .ok (.getfield 347, 3) := by decide +kernel
theorem dX12_sets_4 : decode cX12_sets 4 = .ok (.ifCond .lt 19, 3) := by decide +kernel
theorem dX12_sets_7 : decode cX12_sets 7 = .ok (.aload_n 0, 1) := by decide +kernel
theorem dX12_sets_8 : decode cX12_sets 8 = .ok (.getfield 94, 3) := by decide +kernel
theorem dX12_sets_11 : decode cX12_sets 11 = .ok (.aload_n 0, 1) := by decide +kernel
theorem dX12_sets_12 : decode cX12_sets 12 = .ok (.getfield 347, 3) := by decide +kernel
theorem dX12_sets_15 : decode cX12_sets 15 = .ok (.aload_n 0, 1) := by decide +kernel
theorem dX12_sets_16 : decode cX12_sets 16 = .ok (.getfield 350, 3) := by decide +kernel
theorem dX12_sets_19 : decode cX12_sets 19 = .ok (.iastore, 1) := by decide +kernel
theorem dX12_sets_20 : decode cX12_sets 20 = .ok (.goto 17, 3) := by decide +kernel
theorem dX12_sets_23 : decode cX12_sets 23 = .ok (.iload_n 1, 1) := by decide +kernel
theorem dX12_sets_24 : decode cX12_sets 24 = .ok (.ifCond .lt 13, 3) := by decide +kernel
theorem dX12_sets_27 : decode cX12_sets 27 = .ok (.aload_n 0, 1) := by decide +kernel
theorem dX12_sets_28 : decode cX12_sets 28 = .ok (.getfield 91, 3) := by decide +kernel
theorem dX12_sets_31 : decode cX12_sets 31 = .ok (.iload_n 1, 1) := by decide +kernel
theorem dX12_sets_32 : decode cX12_sets 32 = .ok (.aload_n 0, 1) := by decide +kernel
theorem dX12_sets_33 : decode cX12_sets 33 = .ok (.getfield 350, 3) := by decide +kernel
theorem dX12_sets_36 : decode cX12_sets 36 = .ok (.iastore, 1) := by decide +kernel
theorem dX12_sets_37 : decode cX12_sets 37 = .ok (.return_, 1) := by decide +kernel
def fX12_sets (x0 x1 : Int) (v : V_) : Option (Int × V_) :=
  if (v x0 41) < 0 then (
    if x1 < 0 then (
      some (0, v))
    else (
      ck_ (0 ≤ x1 ∧ x1 < 12) (
      lt_ (up_ v (x0 + 25) x1 (v x0 40)) fun v5 =>
      some (0, v5))))
  else (
    ck_ (0 ≤ v x0 41 ∧ v x0 41 < 8) (
    lt_ (up_ v (x0 + 26) (v x0 41) (v x0 40)) fun v8 =>
    some (0, v8)))
theorem cX12_sets_ok (l : Launch) {E : En_} {sz : Int} (hC : Cl_ E.2.2.2.2.2 sz) {x0 x1 : Int} {v : V_} {out : Int × V_} (T0 : (E.2.2.2.2.2 x0 ∧ ty_ x0 = 12 ∧ ln_ x0 = 0)) (h : fX12_sets x0 x1 v = some out) : Met l yX12_sets [.code yX12_sets cX12_sets 2 (none : Option FieldType)] (rm_ 0 0) (Pc_ E sz v [(2, x0), (0, x1)]) (Qc_ E sz 9 out.1 out.2) 0 0 (fun q => E.1 < q) := by
  refine met_G0 RX12 (by decide +kernel) rfl (Nat.le_of_ble_eq_true rfl) ?_
  intro p e s m args below meth c C hr hlk
  rw [fX12_sets] at h
  refine g_aload_n C (f := 0) dX12_sets_0 0 rfl ?_
  refine g_getf C (k := 41) (kd := 0) okX12 (by decide) kf_RX12_347 dX12_sets_1 (rg_ hC T0.1) T0.2.1 rfl ?_
  refine g_if_lt C 23 dX12_sets_4 rfl (fun c1 => ?_) (fun c1 => ?_)
  · replace h := if_t h c1
    refine g_iload_n C (f := 1) dX12_sets_23 1 rfl ?_
    refine g_if_lt C 37 dX12_sets_24 rfl (fun c2 => ?_) (fun c2 => ?_)
    · replace h := if_t h c2
      cases h
      exact g_vret C dX12_sets_37 hr hlk
    · replace h := if_f h c2
      refine g_aload_n C (f := 0) dX12_sets_27 0 rfl ?_
      have F3 := fX12_38 hC T0.1 T0.2.1
      refine g_getR C (k := 38) (o := 25) okX12 (by decide) kf_RX12_91 dX12_sets_28 hC T0.1 T0.2.1 rfl rfl ?_
      refine g_iload_n C (f := 1) dX12_sets_31 1 rfl ?_
      refine g_aload_n C (f := 0) dX12_sets_32 0 rfl ?_
      refine g_getf C (k := 40) (kd := 0) okX12 (by decide) kf_RX12_350 dX12_sets_33 (rg_ hC T0.1) T0.2.1 rfl ?_
      obtain ⟨c4, h⟩ := ck_e h
      obtain ⟨v5, ev5, h⟩ := lt_e h
      refine g_iast C 12 dX12_sets_36 (rg_ hC F3.1) F3.2.1 F3.2.2 c4 v5 ev5 ?_
      cases h
      exact g_vret C dX12_sets_37 hr hlk
  · replace h := if_f h c1
    refine g_aload_n C (f := 0) dX12_sets_7 0 rfl ?_
    have F6 := fX12_39 hC T0.1 T0.2.1
    refine g_getR C (k := 39) (o := 26) okX12 (by decide) kf_RX12_94 dX12_sets_8 hC T0.1 T0.2.1 rfl rfl ?_
    refine g_aload_n C (f := 0) dX12_sets_11 0 rfl ?_
    refine g_getf C (k := 41) (kd := 0) okX12 (by decide) kf_RX12_347 dX12_sets_12 (rg_ hC T0.1) T0.2.1 rfl ?_
    refine g_aload_n C (f := 0) dX12_sets_15 0 rfl ?_
    refine g_getf C (k := 40) (kd := 0) okX12 (by decide) kf_RX12_350 dX12_sets_16 (rg_ hC T0.1) T0.2.1 rfl ?_
    obtain ⟨c7, h⟩ := ck_e h
    obtain ⟨v8, ev8, h⟩ := lt_e h
    refine g_iast C 8 dX12_sets_19 (rg_ hC F6.1) F6.2.1 F6.2.2 c7 v8 ev8 ?_
    refine g_goto C 37 dX12_sets_20 rfl ?_
    cases h
    exact g_vret C dX12_sets_37 hr hlk
theorem dX12_linesDone_0 : decode cX12_linesDone 0 = .ok (.iconst 0, 1) := by decide +kernel
theorem dX12_linesDone_1 : decode cX12_linesDone 1 = .ok (.istore_n 2, 1) := by decide +kernel
theorem dX12_linesDone_2 : decode cX12_linesDone 2 = .ok (.iload_n 2, 1) := by decide +kernel
theorem dX12_linesDone_3 : decode cX12_linesDone 3 = .ok (.aload_n 0, 1) := by decide +kernel
theorem dX12_linesDone_4 : decode cX12_linesDone 4 = .ok (.iload_n 1, 1) := by decide +kernel
theorem dX12_linesDone_5 : decode cX12_linesDone 5 = .ok (.invokevirtual 359, 3) := by decide +kernel
theorem dX12_linesDone_8 : decode cX12_linesDone 8 = .ok (.if_icmp .ge 81, 3) := by decide +kernel
theorem dX12_linesDone_11 : decode cX12_linesDone 11 = .ok (.aload_n 0, 1) := by decide +kernel
theorem dX12_linesDone_12 : decode cX12_linesDone 12 = .ok (.iload_n 1, 1) := by decide +kernel
theorem dX12_linesDone_13 : decode cX12_linesDone 13 = .ok (.iload_n 2, 1) := by decide +kernel
theorem dX12_linesDone_14 : decode cX12_linesDone 14 = .ok (.invokevirtual 362, 3) := by decide +kernel
theorem dX12_linesDone_17 : decode cX12_linesDone 17 = .ok (.istore_n 3, 1) := by decide +kernel
theorem dX12_linesDone_18 : decode cX12_linesDone 18 = .ok (.aload_n 0, 1) := by decide +kernel
theorem dX12_linesDone_19 : decode cX12_linesDone 19 = .ok (.aload_n 0, 1) := by decide +kernel
theorem dX12_linesDone_20 : decode cX12_linesDone 20 = .ok (.getfield 55, 3) := by decide +kernel
theorem dX12_linesDone_23 : decode cX12_linesDone 23 = .ok (.iload_n 3, 1) := by decide +kernel
theorem dX12_linesDone_24 : decode cX12_linesDone 24 = .ok (.iaload, 1) := by decide +kernel
theorem dX12_linesDone_25 : decode cX12_linesDone 25 = .ok (.aload_n 0, 1) := by decide +kernel
theorem dX12_linesDone_26 : decode cX12_linesDone 26 = .ok (.getfield 58, 3) := by decide +kernel
theorem dX12_linesDone_29 : decode cX12_linesDone 29 = .ok (.iload_n 3, 1) := by decide +kernel
theorem dX12_linesDone_30 : decode cX12_linesDone 30 = .ok (.iaload, 1) := by decide +kernel
theorem dX12_linesDone_31 : decode cX12_linesDone 31 = .ok (.aload_n 0, 1) := by decide +kernel
theorem dX12_linesDone_32 : decode cX12_linesDone 32 = .ok (.getfield 64, 3) := by decide +kernel
theorem dX12_linesDone_35 : decode cX12_linesDone 35 = .ok (.iload_n 3, 1) := by decide +kernel
theorem dX12_linesDone_36 : decode cX12_linesDone 36 = .ok (.iaload, 1) := by decide +kernel
theorem dX12_linesDone_37 : decode cX12_linesDone 37 = .ok (.aload_n 0, 1) := by decide +kernel
theorem dX12_linesDone_38 : decode cX12_linesDone 38 = .ok (.getfield 67, 3) := by decide +kernel
theorem dX12_linesDone_41 : decode cX12_linesDone 41 = .ok (.iload_n 3, 1) := by decide +kernel
theorem dX12_linesDone_42 : decode cX12_linesDone 42 = .ok (.iaload, 1) := by decide +kernel
theorem dX12_linesDone_43 : decode cX12_linesDone 43 = .ok (.invokevirtual 365, 3) := by decide +kernel
theorem dX12_linesDone_46 : decode cX12_linesDone 46 = .ok (.aload_n 0, 1) := by decide +kernel
theorem dX12_linesDone_47 : decode cX12_linesDone 47 = .ok (.getfield 344, 3) := by decide +kernel
theorem dX12_linesDone_50 : decode cX12_linesDone 50 = .ok (.ifCond .eq 5, 3) := by decide +kernel
theorem dX12_linesDone_53 : decode cX12_linesDone 53 = .ok (.iconst 0, 1) := by decide +kernel
theorem dX12_linesDone_54 : decode cX12_linesDone 54 = .ok (.ireturn, 1) := by decide +kernel
theorem dX12_linesDone_55 : decode cX12_linesDone 55 = .ok (.aload_n 0, 1) := by decide +kernel
theorem dX12_linesDone_56 : decode cX12_linesDone 56 = .ok (.aload_n 0, 1) := by decide +kernel
theorem dX12_linesDone_57 : decode cX12_linesDone 57 = .ok (.getfield 61, 3) := by decide +kernel
theorem dX12_linesDone_60 : decode cX12_linesDone 60 = .ok (.iload_n 3, 1) := by decide +kernel
theorem dX12_linesDone_61 : decode cX12_linesDone 61 = .ok (.iaload, 1) := by decide +kernel
theorem dX12_linesDone_62 : decode cX12_linesDone 62 = .ok (.invokevirtual 369, 3) := by decide +kernel
theorem dX12_linesDone_65 : decode cX12_linesDone 65 = .ok (.aload_n 0, 1) := by decide +kernel
theorem dX12_linesDone_66 : decode cX12_linesDone 66 = .ok (.dup, 1) := by decide +kernel
theorem dX12_linesDone_67 : decode cX12_linesDone 67 = .ok (.getfield 353, 3) := by decide +kernel
theorem dX12_linesDone_70 : decode cX12_linesDone 70 = .ok (.aload_n 0, 1) := by decide +kernel
theorem dX12_linesDone_71 : decode cX12_linesDone 71 = .ok (.aload_n 0, 1) := by decide +kernel
theorem dX12_linesDone_72 : decode cX12_linesDone 72 = .ok (.iload_n 3, 1) := by decide +kernel
theorem dX12_linesDone_73 : decode cX12_linesDone 73 = .ok (.invokevirtual 372, 3) := by decide +kernel
theorem dX12_linesDone_76 : decode cX12_linesDone 76 = .ok (.invokevirtual 375, 3) := by decide +kernel
theorem dX12_linesDone_79 : decode cX12_linesDone 79 = .ok (.iadd, 1) := by decide +kernel
theorem dX12_linesDone_80 : decode cX12_linesDone 80 = .ok (.putfield 353, 3) := by decide +kernel
theorem dX12_linesDone_83 : decode cX12_linesDone 83 = .ok (.iinc 2 1, 3) := by decide +kernel
theorem dX12_linesDone_86 : decode cX12_linesDone 86 = .ok (.goto (-84), 3) := by decide +kernel
theorem dX12_linesDone_89 : decode cX12_linesDone 89 = .ok (.iconst 1, 1) := by decide +kernel
theorem dX12_linesDone_90 : decode cX12_linesDone 90 = .ok (.ireturn, 1) := by decide +kernel
def fX12_linesDone_2 : Nat → Int → Int → Int → V_ → Option (Int × V_)
  | 0, _, _, _, _ => none
  | n + 1, x0, x1, x2, v =>
    bd_ (fX12_linesOf x0 x1 v) fun q1 =>
    if q1.1 ≤ x2 then (
      some (1, q1.2))
    else (
      bd_ (fX12_lineAt x0 x1 x2 q1.2) fun q3 =>
      ck_ (0 ≤ q3.1 ∧ q3.1 < 96) (
      ck_ (0 ≤ q3.1 ∧ q3.1 < 96) (
      ck_ (0 ≤ q3.1 ∧ q3.1 < 96) (
      ck_ (0 ≤ q3.1 ∧ q3.1 < 96) (
      bd_ (fX12_reckons x0 (q3.2 (x0 + 13) q3.1) (q3.2 (x0 + 14) q3.1) (q3.2 (x0 + 16) q3.1) (q3.2 (x0 + 17) q3.1) q3.2) fun q12 =>
      if (q12.2 x0 42) = 0 then (
        ck_ (0 ≤ q3.1 ∧ q3.1 < 96) (
        bd_ (fX12_sets x0 (q12.2 (x0 + 15) q3.1) q12.2) fun q16 =>
        bd_ (fX12_kindOf x0 q3.1 q16.2) fun q17 =>
        bd_ (fX12_takesOf x0 q17.1 q17.2) fun q18 =>
        lt_ (up_ q18.2 x0 45 (wr_ ((q16.2 x0 45) + q18.1))) fun v19 =>
        lt_ (wr_ (x2 + 1)) fun y20 =>
        (fX12_linesDone_2 n) x0 x1 y20 v19))
      else (
        some (0, q12.2)))))))
def fX12_linesDone (x0 x1 : Int) (v : V_) : Option (Int × V_) :=
  fX12_linesDone_2 fu_ x0 x1 0 v
section
variable {E : En_} {p : Program} {l : Launch} {e : Env} {s : State} {m : MethodId} {args : Array Value} {below : List Frame} {meth : Method} {c : Code} {sz : Int}
theorem tX12_linesDone_2 (C : MC_ E p s m c cX12_linesDone 4 RX12) (hr : meth.sig.returnType = (some FieldType.boolean)) (hlk : meth.locks = false) (hC : Cl_ E.2.2.2.2.2 sz) {out : Int × V_} : ∀ (n : Nat) (x0 x1 x2 : Int) (v : V_), (E.2.2.2.2.2 x0 ∧ ty_ x0 = 12 ∧ ln_ x0 = 0) → fX12_linesDone_2 n x0 x1 x2 v = some out → G_ E p l e (rm_ 2 48) s m args below meth c 4 sz (Q_ E below args s sz sz 0 out.1 out.2) 2 [(0, (2, x0)), (1, (0, x1)), (2, (0, x2))] [] v sz := by
  intro n
  induction n with
  | zero =>
    intro x0 x1 x2 v T0 h
    cases h
  | succ n H_2 =>
    intro x0 x1 x2 v T0 h
    rw [fX12_linesDone_2] at h
    refine g_iload_n C (f := 2) dX12_linesDone_2 2 rfl ?_
    refine g_aload_n C (f := 0) dX12_linesDone_3 0 rfl ?_
    refine g_iload_n C (f := 1) dX12_linesDone_4 1 rfl ?_
    obtain ⟨q1, eq1, h⟩ := bd_e h
    refine g_cV C [(0, x1)] (cX12_linesOf_ok l hC T0 eq1) okX12 T0.2.1 (rg_ hC T0.1) km_RX12_359 cv_X12_linesOf rfl (by decide) rfl rfl (Nat.le_of_ble_eq_true rfl) dX12_linesDone_5 ?_
    refine g_icmp_ge C 89 dX12_linesDone_8 rfl (fun c2 => ?_) (fun c2 => ?_)
    · replace h := if_t h c2
      refine g_iconst C (n := 1) dX12_linesDone_89 (by decide) ?_
      cases h
      exact g_zret C dX12_linesDone_90 hr hlk (Or.inr rfl)
    · replace h := if_f h c2
      refine g_aload_n C (f := 0) dX12_linesDone_11 0 rfl ?_
      refine g_iload_n C (f := 1) dX12_linesDone_12 1 rfl ?_
      refine g_iload_n C (f := 2) dX12_linesDone_13 2 rfl ?_
      obtain ⟨q3, eq3, h⟩ := bd_e h
      refine g_cV C [(0, x1), (0, x2)] (cX12_lineAt_ok l hC T0 eq3) okX12 T0.2.1 (rg_ hC T0.1) km_RX12_362 cv_X12_lineAt rfl (by decide) rfl rfl (Nat.le_of_ble_eq_true rfl) dX12_linesDone_14 ?_
      refine g_istore_n C (f := 3) (ls' := [(3, (0, q3.1)), (0, (2, x0)), (1, (0, x1)), (2, (0, x2))]) dX12_linesDone_17 (by decide) rfl ?_
      refine g_aload_n C (f := 0) dX12_linesDone_18 1 rfl ?_
      refine g_aload_n C (f := 0) dX12_linesDone_19 1 rfl ?_
      have F4 := fX12_26 hC T0.1 T0.2.1
      refine g_getR C (k := 26) (o := 13) okX12 (by decide) kf_RX12_55 dX12_linesDone_20 hC T0.1 T0.2.1 rfl rfl ?_
      refine g_iload_n C (f := 3) dX12_linesDone_23 0 rfl ?_
      obtain ⟨c5, h⟩ := ck_e h
      refine g_iald C 96 dX12_linesDone_24 (rg_ hC F4.1) F4.2.1 F4.2.2 c5 ?_
      refine g_aload_n C (f := 0) dX12_linesDone_25 1 rfl ?_
      have F6 := fX12_27 hC T0.1 T0.2.1
      refine g_getR C (k := 27) (o := 14) okX12 (by decide) kf_RX12_58 dX12_linesDone_26 hC T0.1 T0.2.1 rfl rfl ?_
      refine g_iload_n C (f := 3) dX12_linesDone_29 0 rfl ?_
      obtain ⟨c7, h⟩ := ck_e h
      refine g_iald C 96 dX12_linesDone_30 (rg_ hC F6.1) F6.2.1 F6.2.2 c7 ?_
      refine g_aload_n C (f := 0) dX12_linesDone_31 1 rfl ?_
      have F8 := fX12_29 hC T0.1 T0.2.1
      refine g_getR C (k := 29) (o := 16) okX12 (by decide) kf_RX12_64 dX12_linesDone_32 hC T0.1 T0.2.1 rfl rfl ?_
      refine g_iload_n C (f := 3) dX12_linesDone_35 0 rfl ?_
      obtain ⟨c9, h⟩ := ck_e h
      refine g_iald C 96 dX12_linesDone_36 (rg_ hC F8.1) F8.2.1 F8.2.2 c9 ?_
      refine g_aload_n C (f := 0) dX12_linesDone_37 1 rfl ?_
      have F10 := fX12_30 hC T0.1 T0.2.1
      refine g_getR C (k := 30) (o := 17) okX12 (by decide) kf_RX12_67 dX12_linesDone_38 hC T0.1 T0.2.1 rfl rfl ?_
      refine g_iload_n C (f := 3) dX12_linesDone_41 0 rfl ?_
      obtain ⟨c11, h⟩ := ck_e h
      refine g_iald C 96 dX12_linesDone_42 (rg_ hC F10.1) F10.2.1 F10.2.2 c11 ?_
      obtain ⟨q12, eq12, h⟩ := bd_e h
      refine g_cV C [(0, q3.2 (x0 + 13) q3.1), (0, q3.2 (x0 + 14) q3.1), (0, q3.2 (x0 + 16) q3.1), (0, q3.2 (x0 + 17) q3.1)] (cX12_reckons_ok l hC T0 eq12) okX12 T0.2.1 (rg_ hC T0.1) km_RX12_365 cv_X12_reckons rfl (by decide) rfl rfl (Nat.le_of_ble_eq_true rfl) dX12_linesDone_43 ?_
      refine g_aload_n C (f := 0) dX12_linesDone_46 1 rfl ?_
      refine g_getf C (k := 42) (kd := 0) okX12 (by decide) kf_RX12_344 dX12_linesDone_47 (rg_ hC T0.1) T0.2.1 rfl ?_
      refine g_if_eq C 55 dX12_linesDone_50 rfl (fun c13 => ?_) (fun c13 => ?_)
      · replace h := if_t h c13
        refine g_aload_n C (f := 0) dX12_linesDone_55 1 rfl ?_
        refine g_aload_n C (f := 0) dX12_linesDone_56 1 rfl ?_
        have F14 := fX12_28 hC T0.1 T0.2.1
        refine g_getR C (k := 28) (o := 15) okX12 (by decide) kf_RX12_61 dX12_linesDone_57 hC T0.1 T0.2.1 rfl rfl ?_
        refine g_iload_n C (f := 3) dX12_linesDone_60 0 rfl ?_
        obtain ⟨c15, h⟩ := ck_e h
        refine g_iald C 96 dX12_linesDone_61 (rg_ hC F14.1) F14.2.1 F14.2.2 c15 ?_
        obtain ⟨q16, eq16, h⟩ := bd_e h
        refine g_cV C [(0, q12.2 (x0 + 15) q3.1)] (cX12_sets_ok l hC T0 eq16) okX12 T0.2.1 (rg_ hC T0.1) km_RX12_369 cv_X12_sets rfl (by decide) rfl rfl (Nat.le_of_ble_eq_true rfl) dX12_linesDone_62 ?_
        refine g_aload_n C (f := 0) dX12_linesDone_65 1 rfl ?_
        refine g_dup C (Nat.ne_of_beq_eq_false rfl) dX12_linesDone_66 ?_
        refine g_getf C (k := 45) (kd := 0) okX12 (by decide) kf_RX12_353 dX12_linesDone_67 (rg_ hC T0.1) T0.2.1 rfl ?_
        refine g_aload_n C (f := 0) dX12_linesDone_70 1 rfl ?_
        refine g_aload_n C (f := 0) dX12_linesDone_71 1 rfl ?_
        refine g_iload_n C (f := 3) dX12_linesDone_72 0 rfl ?_
        obtain ⟨q17, eq17, h⟩ := bd_e h
        refine g_cV C [(0, q3.1)] (cX12_kindOf_ok l hC T0 eq17) okX12 T0.2.1 (rg_ hC T0.1) km_RX12_372 cv_X12_kindOf rfl (by decide) rfl rfl (Nat.le_of_ble_eq_true rfl) dX12_linesDone_73 ?_
        obtain ⟨q18, eq18, h⟩ := bd_e h
        refine g_cV C [(0, q17.1)] (cX12_takesOf_ok l hC T0 eq18) okX12 T0.2.1 (rg_ hC T0.1) km_RX12_375 cv_X12_takesOf rfl (by decide) rfl rfl (Nat.le_of_ble_eq_true rfl) dX12_linesDone_76 ?_
        refine g_iadd C dX12_linesDone_79 ?_
        obtain ⟨v19, ev19, h⟩ := lt_e h
        refine g_putf C (k := 45) (kd := 0) okX12 (by decide) kf_RX12_353 dX12_linesDone_80 (rg_ hC T0.1) T0.2.1 rfl rfl nvI (Or.inl rfl) v19 ev19 ?_
        obtain ⟨y20, ey20, h⟩ := lt_e h
        refine g_iincx C (ls' := [(2, (0, y20)), (3, (0, q3.1)), (0, (2, x0)), (1, (0, x1))]) ey20 dX12_linesDone_83 3 rfl (by decide) (by decide) rfl ?_
        refine g_goto C 2 dX12_linesDone_86 rfl ?_
        refine g_sub [2, 3, 0] rfl rfl ?_
        exact H_2 _ _ _ _ T0 h
      · replace h := if_f h c13
        refine g_iconst C (n := 0) dX12_linesDone_53 (by decide) ?_
        cases h
        exact g_zret C dX12_linesDone_54 hr hlk (Or.inl rfl)
end
theorem cX12_linesDone_ok (l : Launch) {E : En_} {sz : Int} (hC : Cl_ E.2.2.2.2.2 sz) {x0 x1 : Int} {v : V_} {out : Int × V_} (T0 : (E.2.2.2.2.2 x0 ∧ ty_ x0 = 12 ∧ ln_ x0 = 0)) (h : fX12_linesDone x0 x1 v = some out) : Met l yX12_linesDone [.code yX12_linesDone cX12_linesDone 4 (some FieldType.boolean)] (rm_ 2 48) (Pc_ E sz v [(2, x0), (0, x1)]) (Qc_ E sz 0 out.1 out.2) 0 0 (fun q => E.1 < q) := by
  refine met_G0 RX12 (by decide +kernel) rfl (Nat.le_of_ble_eq_true rfl) ?_
  intro p e s m args below meth c C hr hlk
  rw [fX12_linesDone] at h
  refine g_iconst C (n := 0) dX12_linesDone_0 (by decide) ?_
  refine g_istore_n C (f := 2) (ls' := [(2, (0, 0)), (0, (2, x0)), (1, (0, x1))]) dX12_linesDone_1 (by decide) rfl ?_
  refine g_sub [1, 2, 0] rfl rfl ?_
  exact tX12_linesDone_2 C hr hlk hC _ _ _ _ _ T0 h
theorem dX12_runsFrom_0 : decode cX12_runsFrom 0 = .ok (.iconst 0, 1) := by decide +kernel
theorem dX12_runsFrom_1 : decode cX12_runsFrom 1 = .ok (.istore_n 1, 1) := by decide +kernel
theorem dX12_runsFrom_2 : decode cX12_runsFrom 2 = .ok (.iload_n 1, 1) := by decide +kernel
theorem dX12_runsFrom_3 : decode cX12_runsFrom 3 = .ok (.bipush 12, 2) := by decide +kernel
theorem dX12_runsFrom_5 : decode cX12_runsFrom 5 = .ok (.if_icmp .ge 31, 3) := by decide +kernel
theorem dX12_runsFrom_8 : decode cX12_runsFrom 8 = .ok (.aload_n 0, 1) := by decide +kernel
theorem dX12_runsFrom_9 : decode cX12_runsFrom 9 = .ok (.getfield 91, 3) := by decide +kernel
theorem dX12_runsFrom_12 : decode cX12_runsFrom 12 = .ok (.iload_n 1, 1) := by decide +kernel
theorem dX12_runsFrom_13 : decode cX12_runsFrom 13 = .ok (.iload_n 1, 1) := by decide +kernel
theorem dX12_runsFrom_14 : decode cX12_runsFrom 14 = .ok (.bipush 6, 2) := by decide +kernel
theorem dX12_runsFrom_16 : decode cX12_runsFrom 16 = .ok (.if_icmp .ge 12, 3) := by decide +kernel
theorem dX12_runsFrom_19 : decode cX12_runsFrom 19 = .ok (.aload_n 0, 1) := by decide +kernel
theorem dX12_runsFrom_20 : decode cX12_runsFrom 20 = .ok (.getfield 88, 3) := by decide +kernel
theorem dX12_runsFrom_23 : decode cX12_runsFrom 23 = .ok (.iload_n 1, 1) := by decide +kernel
theorem dX12_runsFrom_24 : decode cX12_runsFrom 24 = .ok (.iaload, 1) := by decide +kernel
theorem dX12_runsFrom_25 : decode cX12_runsFrom 25 = .ok (.goto 4, 3) := by decide +kernel
theorem dX12_runsFrom_28 : decode cX12_runsFrom 28 = .ok (.iconst 0, 1) := by decide +kernel
theorem dX12_runsFrom_29 : decode cX12_runsFrom 29 = .ok (.iastore, 1) := by decide +kernel
theorem dX12_runsFrom_30 : decode cX12_runsFrom 30 = .ok (.iinc 1 1, 3) := by decide +kernel
theorem dX12_runsFrom_33 : decode cX12_runsFrom 33 = .ok (.goto (-31), 3) := by decide +kernel
theorem dX12_runsFrom_36 : decode cX12_runsFrom 36 = .ok (.iconst 0, 1) := by decide +kernel
theorem dX12_runsFrom_37 : decode cX12_runsFrom 37 = .ok (.istore_n 1, 1) := by decide +kernel
theorem dX12_runsFrom_38 : decode cX12_runsFrom 38 = .ok (.iload_n 1, 1) := by decide +kernel
theorem dX12_runsFrom_39 : decode cX12_runsFrom 39 = .ok (.bipush 8, 2) := by decide +kernel
theorem dX12_runsFrom_41 : decode cX12_runsFrom 41 = .ok (.if_icmp .ge 31, 3) := by decide +kernel
theorem dX12_runsFrom_44 : decode cX12_runsFrom 44 = .ok (.aload_n 0, 1) := by decide +kernel
theorem dX12_runsFrom_45 : decode cX12_runsFrom 45 = .ok (.getfield 94, 3) := by decide +kernel
theorem dX12_runsFrom_48 : decode cX12_runsFrom 48 = .ok (.iload_n 1, 1) := by decide +kernel
theorem dX12_runsFrom_49 : decode cX12_runsFrom 49 = .ok (.aload_n 0, 1) := by decide +kernel
theorem dX12_runsFrom_50 : decode cX12_runsFrom 50 = .ok (.getfield 88, 3) := by decide +kernel
theorem dX12_runsFrom_53 : decode cX12_runsFrom 53 = .ok (.bipush 6, 2) := by decide +kernel
theorem dX12_runsFrom_55 : decode cX12_runsFrom 55 = .ok (.iload_n 1, 1) := by decide +kernel
theorem dX12_runsFrom_56 : decode cX12_runsFrom 56 = .ok (.iadd, 1) := by decide +kernel
theorem dX12_runsFrom_57 : decode cX12_runsFrom 57 = .ok (.iaload, 1) := by decide +kernel
theorem dX12_runsFrom_58 : decode cX12_runsFrom 58 = .ok (.iastore, 1) := by decide +kernel
theorem dX12_runsFrom_59 : decode cX12_runsFrom 59 = .ok (.aload_n 0, 1) := by decide +kernel
theorem dX12_runsFrom_60 : decode cX12_runsFrom 60 = .ok (.getfield 97, 3) := by decide +kernel
theorem dX12_runsFrom_63 : decode cX12_runsFrom 63 = .ok (.iload_n 1, 1) := by decide +kernel
theorem dX12_runsFrom_64 : decode cX12_runsFrom 64 = .ok (.iconst 0, 1) := by decide +kernel
theorem dX12_runsFrom_65 : decode cX12_runsFrom 65 = .ok (.iastore, 1) := by decide +kernel
theorem dX12_runsFrom_66 : decode cX12_runsFrom 66 = .ok (.iinc 1 1, 3) := by decide +kernel
theorem dX12_runsFrom_69 : decode cX12_runsFrom 69 = .ok (.goto (-31), 3) := by decide +kernel
theorem dX12_runsFrom_72 : decode cX12_runsFrom 72 = .ok (.iconst 0, 1) := by decide +kernel
theorem dX12_runsFrom_73 : decode cX12_runsFrom 73 = .ok (.istore_n 1, 1) := by decide +kernel
theorem dX12_runsFrom_74 : decode cX12_runsFrom 74 = .ok (.iload_n 1, 1) := by decide +kernel
theorem dX12_runsFrom_75 : decode cX12_runsFrom 75 = .ok (.bipush 16, 2) := by decide +kernel
theorem dX12_runsFrom_77 : decode cX12_runsFrom 77 = .ok (.if_icmp .ge 16, 3) := by decide +kernel
theorem dX12_runsFrom_80 : decode cX12_runsFrom 80 = .ok (.aload_n 0, 1) := by decide +kernel
theorem dX12_runsFrom_81 : decode cX12_runsFrom 81 = .ok (.getfield 100, 3) := by decide +kernel
theorem dX12_runsFrom_84 : decode cX12_runsFrom 84 = .ok (.iload_n 1, 1) := by decide +kernel
theorem dX12_runsFrom_85 : decode cX12_runsFrom 85 = .ok (.iconst 0, 1) := by decide +kernel
theorem dX12_runsFrom_86 : decode cX12_runsFrom 86 = .ok (.iastore, 1) := by decide +kernel
theorem dX12_runsFrom_87 : decode cX12_runsFrom 87 = .ok (.iinc 1 1, 3) := by decide +kernel
theorem dX12_runsFrom_90 : decode cX12_runsFrom 90 = .ok (.goto (-16), 3) := by decide +kernel
theorem dX12_runsFrom_93 : decode cX12_runsFrom 93 = .ok (.aload_n 0, 1) := by decide +kernel
theorem dX12_runsFrom_94 : decode cX12_runsFrom 94 = .ok (.iconst 0, 1) := by decide +kernel
theorem dX12_runsFrom_95 : decode cX12_runsFrom 95 = .ok (.putfield 353, 3) := by decide +kernel
theorem dX12_runsFrom_98 : decode cX12_runsFrom 98 = .ok (.aload_n 0, 1) := by decide +kernel
theorem dX12_runsFrom_99 : decode cX12_runsFrom 99 = .ok (.iconst 0, 1) := by decide +kernel
theorem dX12_runsFrom_100 : decode cX12_runsFrom 100 = .ok (.putfield 356, 3) := by decide +kernel
theorem dX12_runsFrom_103 : decode cX12_runsFrom 103 = .ok (.return_, 1) := by decide +kernel
def fX12_runsFrom_74 : Nat → Int → Int → V_ → Option (Int × V_)
  | 0, _, _, _ => none
  | n + 1, x0, x1, v =>
    if 16 ≤ x1 then (
      lt_ (up_ v x0 45 0) fun v4 =>
      lt_ (up_ v4 x0 46 0) fun v5 =>
      some (0, v5))
    else (
      ck_ (0 ≤ x1 ∧ x1 < 16) (
      lt_ (up_ v (x0 + 28) x1 0) fun v8 =>
      lt_ (wr_ (x1 + 1)) fun y9 =>
      (fX12_runsFrom_74 n) x0 y9 v8))
def fX12_runsFrom_38 : Nat → Int → Int → V_ → Option (Int × V_)
  | 0, _, _, _ => none
  | n + 1, x0, x1, v =>
    if 8 ≤ x1 then (
      fX12_runsFrom_74 fu_ x0 0 v)
    else (
      ck_ (0 ≤ wr_ (6 + x1) ∧ wr_ (6 + x1) < 47) (
      ck_ (0 ≤ x1 ∧ x1 < 8) (
      lt_ (up_ v (x0 + 26) x1 (v (x0 + 24) (wr_ (6 + x1)))) fun v14 =>
      ck_ (0 ≤ x1 ∧ x1 < 8) (
      lt_ (up_ v14 (x0 + 27) x1 0) fun v17 =>
      lt_ (wr_ (x1 + 1)) fun y18 =>
      (fX12_runsFrom_38 n) x0 y18 v17))))
def fX12_runsFrom_2 : Nat → Int → Int → V_ → Option (Int × V_)
  | 0, _, _, _ => none
  | n + 1, x0, x1, v =>
    if 12 ≤ x1 then (
      fX12_runsFrom_38 fu_ x0 0 v)
    else (
      if 6 ≤ x1 then (
        ck_ (0 ≤ x1 ∧ x1 < 12) (
        lt_ (up_ v (x0 + 25) x1 0) fun v22 =>
        lt_ (wr_ (x1 + 1)) fun y23 =>
        (fX12_runsFrom_2 n) x0 y23 v22))
      else (
        ck_ (0 ≤ x1 ∧ x1 < 47) (
        ck_ (0 ≤ x1 ∧ x1 < 12) (
        lt_ (up_ v (x0 + 25) x1 (v (x0 + 24) x1)) fun v27 =>
        lt_ (wr_ (x1 + 1)) fun y28 =>
        (fX12_runsFrom_2 n) x0 y28 v27))))
def fX12_runsFrom (x0 : Int) (v : V_) : Option (Int × V_) :=
  fX12_runsFrom_2 fu_ x0 0 v
section
variable {E : En_} {p : Program} {l : Launch} {e : Env} {s : State} {m : MethodId} {args : Array Value} {below : List Frame} {meth : Method} {c : Code} {sz : Int}
theorem tX12_runsFrom_74 (C : MC_ E p s m c cX12_runsFrom 2 RX12) (hr : meth.sig.returnType = (none : Option FieldType)) (hlk : meth.locks = false) (hC : Cl_ E.2.2.2.2.2 sz) {out : Int × V_} : ∀ (n : Nat) (x0 x1 : Int) (v : V_), (E.2.2.2.2.2 x0 ∧ ty_ x0 = 12 ∧ ln_ x0 = 0) → fX12_runsFrom_74 n x0 x1 v = some out → G_ E p l e (rm_ 0 0) s m args below meth c 2 sz (Q_ E below args s sz sz 9 out.1 out.2) 74 [(0, (2, x0)), (1, (0, x1))] [] v sz := by
  intro n
  induction n with
  | zero =>
    intro x0 x1 v T0 h
    cases h
  | succ n H_74 =>
    intro x0 x1 v T0 h
    rw [fX12_runsFrom_74] at h
    refine g_iload_n C (f := 1) dX12_runsFrom_74 1 rfl ?_
    refine g_bipush C (n := 16) dX12_runsFrom_75 (by decide) ?_
    refine g_icmp_ge C 93 dX12_runsFrom_77 rfl (fun c3 => ?_) (fun c3 => ?_)
    · replace h := if_t h c3
      refine g_aload_n C (f := 0) dX12_runsFrom_93 0 rfl ?_
      refine g_iconst C (n := 0) dX12_runsFrom_94 (by decide) ?_
      obtain ⟨v4, ev4, h⟩ := lt_e h
      refine g_putf C (k := 45) (kd := 0) okX12 (by decide) kf_RX12_353 dX12_runsFrom_95 (rg_ hC T0.1) T0.2.1 rfl rfl nvI (Or.inl rfl) v4 ev4 ?_
      refine g_aload_n C (f := 0) dX12_runsFrom_98 0 rfl ?_
      refine g_iconst C (n := 0) dX12_runsFrom_99 (by decide) ?_
      obtain ⟨v5, ev5, h⟩ := lt_e h
      refine g_putf C (k := 46) (kd := 0) okX12 (by decide) kf_RX12_356 dX12_runsFrom_100 (rg_ hC T0.1) T0.2.1 rfl rfl nvI (Or.inl rfl) v5 ev5 ?_
      cases h
      exact g_vret C dX12_runsFrom_103 hr hlk
    · replace h := if_f h c3
      refine g_aload_n C (f := 0) dX12_runsFrom_80 0 rfl ?_
      have F6 := fX12_44 hC T0.1 T0.2.1
      refine g_getR C (k := 44) (o := 28) okX12 (by decide) kf_RX12_100 dX12_runsFrom_81 hC T0.1 T0.2.1 rfl rfl ?_
      refine g_iload_n C (f := 1) dX12_runsFrom_84 1 rfl ?_
      refine g_iconst C (n := 0) dX12_runsFrom_85 (by decide) ?_
      obtain ⟨c7, h⟩ := ck_e h
      obtain ⟨v8, ev8, h⟩ := lt_e h
      refine g_iast C 16 dX12_runsFrom_86 (rg_ hC F6.1) F6.2.1 F6.2.2 c7 v8 ev8 ?_
      obtain ⟨y9, ey9, h⟩ := lt_e h
      refine g_iincx C (ls' := [(1, (0, y9)), (0, (2, x0))]) ey9 dX12_runsFrom_87 1 rfl (by decide) (by decide) rfl ?_
      refine g_goto C 74 dX12_runsFrom_90 rfl ?_
      refine g_sub [1, 0] rfl rfl ?_
      exact H_74 _ _ _ T0 h
theorem tX12_runsFrom_38 (C : MC_ E p s m c cX12_runsFrom 2 RX12) (hr : meth.sig.returnType = (none : Option FieldType)) (hlk : meth.locks = false) (hC : Cl_ E.2.2.2.2.2 sz) {out : Int × V_} : ∀ (n : Nat) (x0 x1 : Int) (v : V_), (E.2.2.2.2.2 x0 ∧ ty_ x0 = 12 ∧ ln_ x0 = 0) → fX12_runsFrom_38 n x0 x1 v = some out → G_ E p l e (rm_ 0 0) s m args below meth c 2 sz (Q_ E below args s sz sz 9 out.1 out.2) 38 [(0, (2, x0)), (1, (0, x1))] [] v sz := by
  intro n
  induction n with
  | zero =>
    intro x0 x1 v T0 h
    cases h
  | succ n H_38 =>
    intro x0 x1 v T0 h
    rw [fX12_runsFrom_38] at h
    refine g_iload_n C (f := 1) dX12_runsFrom_38 1 rfl ?_
    refine g_bipush C (n := 8) dX12_runsFrom_39 (by decide) ?_
    refine g_icmp_ge C 72 dX12_runsFrom_41 rfl (fun c2 => ?_) (fun c2 => ?_)
    · replace h := if_t h c2
      refine g_iconst C (n := 0) dX12_runsFrom_72 (by decide) ?_
      refine g_istore_n C (f := 1) (ls' := [(1, (0, 0)), (0, (2, x0))]) dX12_runsFrom_73 (by decide) rfl ?_
      refine g_sub [1, 0] rfl rfl ?_
      exact tX12_runsFrom_74 C hr hlk hC _ _ _ _ T0 h
    · replace h := if_f h c2
      refine g_aload_n C (f := 0) dX12_runsFrom_44 0 rfl ?_
      have F10 := fX12_39 hC T0.1 T0.2.1
      refine g_getR C (k := 39) (o := 26) okX12 (by decide) kf_RX12_94 dX12_runsFrom_45 hC T0.1 T0.2.1 rfl rfl ?_
      refine g_iload_n C (f := 1) dX12_runsFrom_48 1 rfl ?_
      refine g_aload_n C (f := 0) dX12_runsFrom_49 0 rfl ?_
      have F11 := fX12_37 hC T0.1 T0.2.1
      refine g_getR C (k := 37) (o := 24) okX12 (by decide) kf_RX12_88 dX12_runsFrom_50 hC T0.1 T0.2.1 rfl rfl ?_
      refine g_bipush C (n := 6) dX12_runsFrom_53 (by decide) ?_
      refine g_iload_n C (f := 1) dX12_runsFrom_55 1 rfl ?_
      refine g_iadd C dX12_runsFrom_56 ?_
      obtain ⟨c12, h⟩ := ck_e h
      refine g_iald C 47 dX12_runsFrom_57 (rg_ hC F11.1) F11.2.1 F11.2.2 c12 ?_
      obtain ⟨c13, h⟩ := ck_e h
      obtain ⟨v14, ev14, h⟩ := lt_e h
      refine g_iast C 8 dX12_runsFrom_58 (rg_ hC F10.1) F10.2.1 F10.2.2 c13 v14 ev14 ?_
      refine g_aload_n C (f := 0) dX12_runsFrom_59 0 rfl ?_
      have F15 := fX12_43 hC T0.1 T0.2.1
      refine g_getR C (k := 43) (o := 27) okX12 (by decide) kf_RX12_97 dX12_runsFrom_60 hC T0.1 T0.2.1 rfl rfl ?_
      refine g_iload_n C (f := 1) dX12_runsFrom_63 1 rfl ?_
      refine g_iconst C (n := 0) dX12_runsFrom_64 (by decide) ?_
      obtain ⟨c16, h⟩ := ck_e h
      obtain ⟨v17, ev17, h⟩ := lt_e h
      refine g_iast C 8 dX12_runsFrom_65 (rg_ hC F15.1) F15.2.1 F15.2.2 c16 v17 ev17 ?_
      obtain ⟨y18, ey18, h⟩ := lt_e h
      refine g_iincx C (ls' := [(1, (0, y18)), (0, (2, x0))]) ey18 dX12_runsFrom_66 1 rfl (by decide) (by decide) rfl ?_
      refine g_goto C 38 dX12_runsFrom_69 rfl ?_
      refine g_sub [1, 0] rfl rfl ?_
      exact H_38 _ _ _ T0 h
theorem tX12_runsFrom_2 (C : MC_ E p s m c cX12_runsFrom 2 RX12) (hr : meth.sig.returnType = (none : Option FieldType)) (hlk : meth.locks = false) (hC : Cl_ E.2.2.2.2.2 sz) {out : Int × V_} : ∀ (n : Nat) (x0 x1 : Int) (v : V_), (E.2.2.2.2.2 x0 ∧ ty_ x0 = 12 ∧ ln_ x0 = 0) → fX12_runsFrom_2 n x0 x1 v = some out → G_ E p l e (rm_ 0 0) s m args below meth c 2 sz (Q_ E below args s sz sz 9 out.1 out.2) 2 [(0, (2, x0)), (1, (0, x1))] [] v sz := by
  intro n
  induction n with
  | zero =>
    intro x0 x1 v T0 h
    cases h
  | succ n H_2 =>
    intro x0 x1 v T0 h
    rw [fX12_runsFrom_2] at h
    refine g_iload_n C (f := 1) dX12_runsFrom_2 1 rfl ?_
    refine g_bipush C (n := 12) dX12_runsFrom_3 (by decide) ?_
    refine g_icmp_ge C 36 dX12_runsFrom_5 rfl (fun c1 => ?_) (fun c1 => ?_)
    · replace h := if_t h c1
      refine g_iconst C (n := 0) dX12_runsFrom_36 (by decide) ?_
      refine g_istore_n C (f := 1) (ls' := [(1, (0, 0)), (0, (2, x0))]) dX12_runsFrom_37 (by decide) rfl ?_
      refine g_sub [1, 0] rfl rfl ?_
      exact tX12_runsFrom_38 C hr hlk hC _ _ _ _ T0 h
    · replace h := if_f h c1
      refine g_aload_n C (f := 0) dX12_runsFrom_8 0 rfl ?_
      have F19 := fX12_38 hC T0.1 T0.2.1
      refine g_getR C (k := 38) (o := 25) okX12 (by decide) kf_RX12_91 dX12_runsFrom_9 hC T0.1 T0.2.1 rfl rfl ?_
      refine g_iload_n C (f := 1) dX12_runsFrom_12 1 rfl ?_
      refine g_iload_n C (f := 1) dX12_runsFrom_13 1 rfl ?_
      refine g_bipush C (n := 6) dX12_runsFrom_14 (by decide) ?_
      refine g_icmp_ge C 28 dX12_runsFrom_16 rfl (fun c20 => ?_) (fun c20 => ?_)
      · replace h := if_t h c20
        refine g_iconst C (n := 0) dX12_runsFrom_28 (by decide) ?_
        obtain ⟨c21, h⟩ := ck_e h
        obtain ⟨v22, ev22, h⟩ := lt_e h
        refine g_iast C 12 dX12_runsFrom_29 (rg_ hC F19.1) F19.2.1 F19.2.2 c21 v22 ev22 ?_
        obtain ⟨y23, ey23, h⟩ := lt_e h
        refine g_iincx C (ls' := [(1, (0, y23)), (0, (2, x0))]) ey23 dX12_runsFrom_30 1 rfl (by decide) (by decide) rfl ?_
        refine g_goto C 2 dX12_runsFrom_33 rfl ?_
        refine g_sub [1, 0] rfl rfl ?_
        exact H_2 _ _ _ T0 h
      · replace h := if_f h c20
        refine g_aload_n C (f := 0) dX12_runsFrom_19 0 rfl ?_
        have F24 := fX12_37 hC T0.1 T0.2.1
        refine g_getR C (k := 37) (o := 24) okX12 (by decide) kf_RX12_88 dX12_runsFrom_20 hC T0.1 T0.2.1 rfl rfl ?_
        refine g_iload_n C (f := 1) dX12_runsFrom_23 1 rfl ?_
        obtain ⟨c25, h⟩ := ck_e h
        refine g_iald C 47 dX12_runsFrom_24 (rg_ hC F24.1) F24.2.1 F24.2.2 c25 ?_
        refine g_goto C 29 dX12_runsFrom_25 rfl ?_
        obtain ⟨c26, h⟩ := ck_e h
        obtain ⟨v27, ev27, h⟩ := lt_e h
        refine g_iast C 12 dX12_runsFrom_29 (rg_ hC F19.1) F19.2.1 F19.2.2 c26 v27 ev27 ?_
        obtain ⟨y28, ey28, h⟩ := lt_e h
        refine g_iincx C (ls' := [(1, (0, y28)), (0, (2, x0))]) ey28 dX12_runsFrom_30 1 rfl (by decide) (by decide) rfl ?_
        refine g_goto C 2 dX12_runsFrom_33 rfl ?_
        refine g_sub [1, 0] rfl rfl ?_
        exact H_2 _ _ _ T0 h
end
theorem cX12_runsFrom_ok (l : Launch) {E : En_} {sz : Int} (hC : Cl_ E.2.2.2.2.2 sz) {x0 : Int} {v : V_} {out : Int × V_} (T0 : (E.2.2.2.2.2 x0 ∧ ty_ x0 = 12 ∧ ln_ x0 = 0)) (h : fX12_runsFrom x0 v = some out) : Met l yX12_runsFrom [.code yX12_runsFrom cX12_runsFrom 2 (none : Option FieldType)] (rm_ 0 0) (Pc_ E sz v [(2, x0)]) (Qc_ E sz 9 out.1 out.2) 0 0 (fun q => E.1 < q) := by
  refine met_G0 RX12 (by decide +kernel) rfl (Nat.le_of_ble_eq_true rfl) ?_
  intro p e s m args below meth c C hr hlk
  rw [fX12_runsFrom] at h
  refine g_iconst C (n := 0) dX12_runsFrom_0 (by decide) ?_
  refine g_istore_n C (f := 1) (ls' := [(1, (0, 0)), (0, (2, x0))]) dX12_runsFrom_1 (by decide) rfl ?_
  refine g_sub [1, 0] rfl rfl ?_
  exact tX12_runsFrom_2 C hr hlk hC _ _ _ _ T0 h
theorem dX12_isCopied_0 : decode cX12_isCopied 0 = .ok (.aload_n 0, 1) := by decide +kernel
theorem dX12_isCopied_1 : decode cX12_isCopied 1 = .ok (.getfield 121, 3) := by decide +kernel
theorem dX12_isCopied_4 : decode cX12_isCopied 4 = .ok (.bipush 34, 2) := by decide +kernel
theorem dX12_isCopied_6 : decode cX12_isCopied 6 = .ok (.iload_n 1, 1) := by decide +kernel
theorem dX12_isCopied_7 : decode cX12_isCopied 7 = .ok (.imul, 1) := by decide +kernel
theorem dX12_isCopied_8 : decode cX12_isCopied 8 = .ok (.iload_n 2, 1) := by decide +kernel
theorem dX12_isCopied_9 : decode cX12_isCopied 9 = .ok (.iadd, 1) := by decide +kernel
theorem dX12_isCopied_10 : decode cX12_isCopied 10 = .ok (.iaload, 1) := by decide +kernel
theorem dX12_isCopied_11 : decode cX12_isCopied 11 = .ok (.iconst 2, 1) := by decide +kernel
theorem dX12_isCopied_12 : decode cX12_isCopied 12 = .ok (.if_icmp .ne 37, 3) := by decide +kernel
theorem dX12_isCopied_15 : decode cX12_isCopied 15 = .ok (.iload_n 3, 1) := by decide +kernel
theorem dX12_isCopied_16 : decode cX12_isCopied 16 = .ok (.iload_n 2, 1) := by decide +kernel
theorem dX12_isCopied_17 : decode cX12_isCopied 17 = .ok (.if_icmp .ge 32, 3) := by decide +kernel
theorem dX12_isCopied_20 : decode cX12_isCopied 20 = .ok (.aload_n 0, 1) := by decide +kernel
theorem dX12_isCopied_21 : decode cX12_isCopied 21 = .ok (.getfield 148, 3) := by decide +kernel
theorem dX12_isCopied_24 : decode cX12_isCopied 24 = .ok (.bipush 34, 2) := by decide +kernel
theorem dX12_isCopied_26 : decode cX12_isCopied 26 = .ok (.iload_n 1, 1) := by decide +kernel
theorem dX12_isCopied_27 : decode cX12_isCopied 27 = .ok (.imul, 1) := by decide +kernel
theorem dX12_isCopied_28 : decode cX12_isCopied 28 = .ok (.iload_n 3, 1) := by decide +kernel
theorem dX12_isCopied_29 : decode cX12_isCopied 29 = .ok (.iadd, 1) := by decide +kernel
theorem dX12_isCopied_30 : decode cX12_isCopied 30 = .ok (.iaload, 1) := by decide +kernel
theorem dX12_isCopied_31 : decode cX12_isCopied 31 = .ok (.aload_n 0, 1) := by decide +kernel
theorem dX12_isCopied_32 : decode cX12_isCopied 32 = .ok (.getfield 148, 3) := by decide +kernel
theorem dX12_isCopied_35 : decode cX12_isCopied 35 = .ok (.bipush 34, 2) := by decide +kernel
theorem dX12_isCopied_37 : decode cX12_isCopied 37 = .ok (.iload_n 1, 1) := by decide +kernel
theorem dX12_isCopied_38 : decode cX12_isCopied 38 = .ok (.imul, 1) := by decide +kernel
theorem dX12_isCopied_39 : decode cX12_isCopied 39 = .ok (.iload_n 2, 1) := by decide +kernel
theorem dX12_isCopied_40 : decode cX12_isCopied 40 = .ok (.iadd, 1) := by decide +kernel
theorem dX12_isCopied_41 : decode cX12_isCopied 41 = .ok (.iaload, 1) := by decide +kernel
theorem dX12_isCopied_42 : decode cX12_isCopied 42 = .ok (.if_icmp .le 7, 3) := by decide +kernel
theorem dX12_isCopied_45 : decode cX12_isCopied 45 = .ok (.iconst 1, 1) := by decide +kernel
theorem dX12_isCopied_46 : decode cX12_isCopied 46 = .ok (.goto 4, 3) := by decide +kernel
theorem dX12_isCopied_49 : decode cX12_isCopied 49 = .ok (.iconst 0, 1) := by decide +kernel
theorem dX12_isCopied_50 : decode cX12_isCopied 50 = .ok (.ireturn, 1) := by decide +kernel
def fX12_isCopied (x0 x1 x2 x3 : Int) (v : V_) : Option (Int × V_) :=
  ck_ (0 ≤ wr_ ((wr_ (34 * x1)) + x2) ∧ wr_ ((wr_ (34 * x1)) + x2) < 272) (
  if (v (x0 + 35) (wr_ ((wr_ (34 * x1)) + x2))) = 2 then (
    if x2 ≤ x3 then (
      some (0, v))
    else (
      ck_ (0 ≤ wr_ ((wr_ (34 * x1)) + x3) ∧ wr_ ((wr_ (34 * x1)) + x3) < 272) (
      ck_ (0 ≤ wr_ ((wr_ (34 * x1)) + x2) ∧ wr_ ((wr_ (34 * x1)) + x2) < 272) (
      if (v (x0 + 44) (wr_ ((wr_ (34 * x1)) + x3))) ≤ (v (x0 + 44) (wr_ ((wr_ (34 * x1)) + x2))) then (
        some (0, v))
      else (
        some (1, v))))))
  else (
    some (0, v)))
theorem cX12_isCopied_ok (l : Launch) {E : En_} {sz : Int} (hC : Cl_ E.2.2.2.2.2 sz) {x0 x1 x2 x3 : Int} {v : V_} {out : Int × V_} (T0 : (E.2.2.2.2.2 x0 ∧ ty_ x0 = 12 ∧ ln_ x0 = 0)) (h : fX12_isCopied x0 x1 x2 x3 v = some out) : Met l yX12_isCopied [.code yX12_isCopied cX12_isCopied 4 (some FieldType.boolean)] (rm_ 0 0) (Pc_ E sz v [(2, x0), (0, x1), (0, x2), (0, x3)]) (Qc_ E sz 0 out.1 out.2) 0 0 (fun q => E.1 < q) := by
  refine met_G0 RX12 (by decide +kernel) rfl (Nat.le_of_ble_eq_true rfl) ?_
  intro p e s m args below meth c C hr hlk
  rw [fX12_isCopied] at h
  refine g_aload_n C (f := 0) dX12_isCopied_0 0 rfl ?_
  have F1 := fX12_54 hC T0.1 T0.2.1
  refine g_getR C (k := 54) (o := 35) okX12 (by decide) kf_RX12_121 dX12_isCopied_1 hC T0.1 T0.2.1 rfl rfl ?_
  refine g_bipush C (n := 34) dX12_isCopied_4 (by decide) ?_
  refine g_iload_n C (f := 1) dX12_isCopied_6 1 rfl ?_
  refine g_imul C dX12_isCopied_7 ?_
  refine g_iload_n C (f := 2) dX12_isCopied_8 2 rfl ?_
  refine g_iadd C dX12_isCopied_9 ?_
  obtain ⟨c2, h⟩ := ck_e h
  refine g_iald C 272 dX12_isCopied_10 (rg_ hC F1.1) F1.2.1 F1.2.2 c2 ?_
  refine g_iconst C (n := 2) dX12_isCopied_11 (by decide) ?_
  refine g_icmp_ne C 49 dX12_isCopied_12 rfl (fun c3 => ?_) (fun c3 => ?_)
  · replace h := if_f h c3
    refine g_iconst C (n := 0) dX12_isCopied_49 (by decide) ?_
    cases h
    exact g_zret C dX12_isCopied_50 hr hlk (Or.inl rfl)
  · replace h := if_t h c3
    refine g_iload_n C (f := 3) dX12_isCopied_15 3 rfl ?_
    refine g_iload_n C (f := 2) dX12_isCopied_16 2 rfl ?_
    refine g_icmp_ge C 49 dX12_isCopied_17 rfl (fun c4 => ?_) (fun c4 => ?_)
    · replace h := if_t h c4
      refine g_iconst C (n := 0) dX12_isCopied_49 (by decide) ?_
      cases h
      exact g_zret C dX12_isCopied_50 hr hlk (Or.inl rfl)
    · replace h := if_f h c4
      refine g_aload_n C (f := 0) dX12_isCopied_20 0 rfl ?_
      have F5 := fX12_63 hC T0.1 T0.2.1
      refine g_getR C (k := 63) (o := 44) okX12 (by decide) kf_RX12_148 dX12_isCopied_21 hC T0.1 T0.2.1 rfl rfl ?_
      refine g_bipush C (n := 34) dX12_isCopied_24 (by decide) ?_
      refine g_iload_n C (f := 1) dX12_isCopied_26 1 rfl ?_
      refine g_imul C dX12_isCopied_27 ?_
      refine g_iload_n C (f := 3) dX12_isCopied_28 3 rfl ?_
      refine g_iadd C dX12_isCopied_29 ?_
      obtain ⟨c6, h⟩ := ck_e h
      refine g_iald C 272 dX12_isCopied_30 (rg_ hC F5.1) F5.2.1 F5.2.2 c6 ?_
      refine g_aload_n C (f := 0) dX12_isCopied_31 0 rfl ?_
      have F7 := fX12_63 hC T0.1 T0.2.1
      refine g_getR C (k := 63) (o := 44) okX12 (by decide) kf_RX12_148 dX12_isCopied_32 hC T0.1 T0.2.1 rfl rfl ?_
      refine g_bipush C (n := 34) dX12_isCopied_35 (by decide) ?_
      refine g_iload_n C (f := 1) dX12_isCopied_37 1 rfl ?_
      refine g_imul C dX12_isCopied_38 ?_
      refine g_iload_n C (f := 2) dX12_isCopied_39 2 rfl ?_
      refine g_iadd C dX12_isCopied_40 ?_
      obtain ⟨c8, h⟩ := ck_e h
      refine g_iald C 272 dX12_isCopied_41 (rg_ hC F7.1) F7.2.1 F7.2.2 c8 ?_
      refine g_icmp_le C 49 dX12_isCopied_42 rfl (fun c9 => ?_) (fun c9 => ?_)
      · replace h := if_t h c9
        refine g_iconst C (n := 0) dX12_isCopied_49 (by decide) ?_
        cases h
        exact g_zret C dX12_isCopied_50 hr hlk (Or.inl rfl)
      · replace h := if_f h c9
        refine g_iconst C (n := 1) dX12_isCopied_45 (by decide) ?_
        refine g_goto C 50 dX12_isCopied_46 rfl ?_
        cases h
        exact g_zret C dX12_isCopied_50 hr hlk (Or.inr rfl)
theorem dX12_goesWay_0 : decode cX12_goesWay 0 = .ok (.aload_n 0, 1) := by decide +kernel
theorem dX12_goesWay_1 : decode cX12_goesWay 1 = .ok (.getfield 130, 3) := by decide +kernel
theorem dX12_goesWay_4 : decode cX12_goesWay 4 = .ok (.iload_n 1, 1) := by decide +kernel
theorem dX12_goesWay_5 : decode cX12_goesWay 5 = .ok (.iaload, 1) := by decide +kernel
theorem dX12_goesWay_6 : decode cX12_goesWay 6 = .ok (.iconst 2, 1) := by decide +kernel
theorem dX12_goesWay_7 : decode cX12_goesWay 7 = .ok (.if_icmp .ne 7, 3) := by decide +kernel
theorem dX12_goesWay_10 : decode cX12_goesWay 10 = .ok (.iconst (-1), 1) := by decide +kernel
theorem dX12_goesWay_11 : decode cX12_goesWay 11 = .ok (.goto 40, 3) := by decide +kernel
theorem dX12_goesWay_14 : decode cX12_goesWay 14 = .ok (.aload_n 0, 1) := by decide +kernel
theorem dX12_goesWay_15 : decode cX12_goesWay 15 = .ok (.getfield 130, 3) := by decide +kernel
theorem dX12_goesWay_18 : decode cX12_goesWay 18 = .ok (.iload_n 1, 1) := by decide +kernel
theorem dX12_goesWay_19 : decode cX12_goesWay 19 = .ok (.iaload, 1) := by decide +kernel
theorem dX12_goesWay_20 : decode cX12_goesWay 20 = .ok (.ifCond .eq 26, 3) := by decide +kernel
theorem dX12_goesWay_23 : decode cX12_goesWay 23 = .ok (.aload_n 0, 1) := by decide +kernel
theorem dX12_goesWay_24 : decode cX12_goesWay 24 = .ok (.aload_n 0, 1) := by decide +kernel
theorem dX12_goesWay_25 : decode cX12_goesWay 25 = .ok (.getfield 139, 3) := by decide +kernel
theorem dX12_goesWay_28 : decode cX12_goesWay 28 = .ok (.iload_n 1, 1) := by decide +kernel
theorem dX12_goesWay_29 : decode cX12_goesWay 29 = .ok (.iaload, 1) := by decide +kernel
theorem dX12_goesWay_30 : decode cX12_goesWay 30 = .ok (.invokevirtual 341, 3) := by decide +kernel
theorem dX12_goesWay_33 : decode cX12_goesWay 33 = .ok (.aload_n 0, 1) := by decide +kernel
theorem dX12_goesWay_34 : decode cX12_goesWay 34 = .ok (.aload_n 0, 1) := by decide +kernel
theorem dX12_goesWay_35 : decode cX12_goesWay 35 = .ok (.getfield 142, 3) := by decide +kernel
theorem dX12_goesWay_38 : decode cX12_goesWay 38 = .ok (.iload_n 1, 1) := by decide +kernel
theorem dX12_goesWay_39 : decode cX12_goesWay 39 = .ok (.iaload, 1) := by decide +kernel
theorem dX12_goesWay_40 : decode cX12_goesWay 40 = .ok (.invokevirtual 341, 3) := by decide +kernel
theorem dX12_goesWay_43 : decode cX12_goesWay 43 = .ok (.if_icmp .ge 7, 3) := by decide +kernel
theorem dX12_goesWay_46 : decode cX12_goesWay 46 = .ok (.iconst 0, 1) := by decide +kernel
theorem dX12_goesWay_47 : decode cX12_goesWay 47 = .ok (.goto 4, 3) := by decide +kernel
theorem dX12_goesWay_50 : decode cX12_goesWay 50 = .ok (.iconst 1, 1) := by decide +kernel
theorem dX12_goesWay_51 : decode cX12_goesWay 51 = .ok (.ireturn, 1) := by decide +kernel
def fX12_goesWay (x0 x1 : Int) (v : V_) : Option (Int × V_) :=
  ck_ (0 ≤ x1 ∧ x1 < 272) (
  if (v (x0 + 38) x1) = 2 then (
    some ((-1), v))
  else (
    ck_ (0 ≤ x1 ∧ x1 < 272) (
    if (v (x0 + 38) x1) = 0 then (
      some (0, v))
    else (
      ck_ (0 ≤ x1 ∧ x1 < 272) (
      bd_ (fX12_valueOf x0 (v (x0 + 41) x1) v) fun q9 =>
      ck_ (0 ≤ x1 ∧ x1 < 272) (
      bd_ (fX12_valueOf x0 (q9.2 (x0 + 42) x1) q9.2) fun q12 =>
      if q12.1 ≤ q9.1 then (
        some (1, q12.2))
      else (
        some (0, q12.2))))))))
theorem cX12_goesWay_ok (l : Launch) {E : En_} {sz : Int} (hC : Cl_ E.2.2.2.2.2 sz) {x0 x1 : Int} {v : V_} {out : Int × V_} (T0 : (E.2.2.2.2.2 x0 ∧ ty_ x0 = 12 ∧ ln_ x0 = 0)) (h : fX12_goesWay x0 x1 v = some out) : Met l yX12_goesWay [.code yX12_goesWay cX12_goesWay 2 (some FieldType.int)] (rm_ 1 21) (Pc_ E sz v [(2, x0), (0, x1)]) (Qc_ E sz 0 out.1 out.2) 0 0 (fun q => E.1 < q) := by
  refine met_G0 RX12 (by decide +kernel) rfl (Nat.le_of_ble_eq_true rfl) ?_
  intro p e s m args below meth c C hr hlk
  rw [fX12_goesWay] at h
  refine g_aload_n C (f := 0) dX12_goesWay_0 0 rfl ?_
  have F1 := fX12_57 hC T0.1 T0.2.1
  refine g_getR C (k := 57) (o := 38) okX12 (by decide) kf_RX12_130 dX12_goesWay_1 hC T0.1 T0.2.1 rfl rfl ?_
  refine g_iload_n C (f := 1) dX12_goesWay_4 1 rfl ?_
  obtain ⟨c2, h⟩ := ck_e h
  refine g_iald C 272 dX12_goesWay_5 (rg_ hC F1.1) F1.2.1 F1.2.2 c2 ?_
  refine g_iconst C (n := 2) dX12_goesWay_6 (by decide) ?_
  refine g_icmp_ne C 14 dX12_goesWay_7 rfl (fun c3 => ?_) (fun c3 => ?_)
  · replace h := if_f h c3
    refine g_aload_n C (f := 0) dX12_goesWay_14 0 rfl ?_
    have F4 := fX12_57 hC T0.1 T0.2.1
    refine g_getR C (k := 57) (o := 38) okX12 (by decide) kf_RX12_130 dX12_goesWay_15 hC T0.1 T0.2.1 rfl rfl ?_
    refine g_iload_n C (f := 1) dX12_goesWay_18 1 rfl ?_
    obtain ⟨c5, h⟩ := ck_e h
    refine g_iald C 272 dX12_goesWay_19 (rg_ hC F4.1) F4.2.1 F4.2.2 c5 ?_
    refine g_if_eq C 46 dX12_goesWay_20 rfl (fun c6 => ?_) (fun c6 => ?_)
    · replace h := if_t h c6
      refine g_iconst C (n := 0) dX12_goesWay_46 (by decide) ?_
      refine g_goto C 51 dX12_goesWay_47 rfl ?_
      cases h
      exact g_iret C dX12_goesWay_51 hr hlk
    · replace h := if_f h c6
      refine g_aload_n C (f := 0) dX12_goesWay_23 0 rfl ?_
      refine g_aload_n C (f := 0) dX12_goesWay_24 0 rfl ?_
      have F7 := fX12_60 hC T0.1 T0.2.1
      refine g_getR C (k := 60) (o := 41) okX12 (by decide) kf_RX12_139 dX12_goesWay_25 hC T0.1 T0.2.1 rfl rfl ?_
      refine g_iload_n C (f := 1) dX12_goesWay_28 1 rfl ?_
      obtain ⟨c8, h⟩ := ck_e h
      refine g_iald C 272 dX12_goesWay_29 (rg_ hC F7.1) F7.2.1 F7.2.2 c8 ?_
      obtain ⟨q9, eq9, h⟩ := bd_e h
      refine g_cV C [(0, v (x0 + 41) x1)] (cX12_valueOf_ok l hC T0 eq9) okX12 T0.2.1 (rg_ hC T0.1) km_RX12_341 cv_X12_valueOf rfl (by decide) rfl rfl (Nat.le_of_ble_eq_true rfl) dX12_goesWay_30 ?_
      refine g_aload_n C (f := 0) dX12_goesWay_33 0 rfl ?_
      refine g_aload_n C (f := 0) dX12_goesWay_34 0 rfl ?_
      have F10 := fX12_61 hC T0.1 T0.2.1
      refine g_getR C (k := 61) (o := 42) okX12 (by decide) kf_RX12_142 dX12_goesWay_35 hC T0.1 T0.2.1 rfl rfl ?_
      refine g_iload_n C (f := 1) dX12_goesWay_38 1 rfl ?_
      obtain ⟨c11, h⟩ := ck_e h
      refine g_iald C 272 dX12_goesWay_39 (rg_ hC F10.1) F10.2.1 F10.2.2 c11 ?_
      obtain ⟨q12, eq12, h⟩ := bd_e h
      refine g_cV C [(0, q9.2 (x0 + 42) x1)] (cX12_valueOf_ok l hC T0 eq12) okX12 T0.2.1 (rg_ hC T0.1) km_RX12_341 cv_X12_valueOf rfl (by decide) rfl rfl (Nat.le_of_ble_eq_true rfl) dX12_goesWay_40 ?_
      refine g_icmp_ge C 50 dX12_goesWay_43 rfl (fun c13 => ?_) (fun c13 => ?_)
      · replace h := if_t h c13
        refine g_iconst C (n := 1) dX12_goesWay_50 (by decide) ?_
        cases h
        exact g_iret C dX12_goesWay_51 hr hlk
      · replace h := if_f h c13
        refine g_iconst C (n := 0) dX12_goesWay_46 (by decide) ?_
        refine g_goto C 51 dX12_goesWay_47 rfl ?_
        cases h
        exact g_iret C dX12_goesWay_51 hr hlk
  · replace h := if_t h c3
    refine g_iconst C (n := (-1)) dX12_goesWay_10 (by decide) ?_
    refine g_goto C 51 dX12_goesWay_11 rfl ?_
    cases h
    exact g_iret C dX12_goesWay_51 hr hlk
theorem dX12_isEnd_0 : decode cX12_isEnd 0 = .ok (.aload_n 0, 1) := by decide +kernel
theorem dX12_isEnd_1 : decode cX12_isEnd 1 = .ok (.getfield 121, 3) := by decide +kernel
theorem dX12_isEnd_4 : decode cX12_isEnd 4 = .ok (.iload_n 1, 1) := by decide +kernel
theorem dX12_isEnd_5 : decode cX12_isEnd 5 = .ok (.iaload, 1) := by decide +kernel
theorem dX12_isEnd_6 : decode cX12_isEnd 6 = .ok (.iconst 2, 1) := by decide +kernel
theorem dX12_isEnd_7 : decode cX12_isEnd 7 = .ok (.if_icmp .eq 13, 3) := by decide +kernel
theorem dX12_isEnd_10 : decode cX12_isEnd 10 = .ok (.aload_n 0, 1) := by decide +kernel
theorem dX12_isEnd_11 : decode cX12_isEnd 11 = .ok (.getfield 121, 3) := by decide +kernel
theorem dX12_isEnd_14 : decode cX12_isEnd 14 = .ok (.iload_n 1, 1) := by decide +kernel
theorem dX12_isEnd_15 : decode cX12_isEnd 15 = .ok (.iaload, 1) := by decide +kernel
theorem dX12_isEnd_16 : decode cX12_isEnd 16 = .ok (.iconst 3, 1) := by decide +kernel
theorem dX12_isEnd_17 : decode cX12_isEnd 17 = .ok (.if_icmp .ne 7, 3) := by decide +kernel
theorem dX12_isEnd_20 : decode cX12_isEnd 20 = .ok (.iconst 1, 1) := by decide +kernel
theorem dX12_isEnd_21 : decode cX12_isEnd 21 = .ok (.goto 4, 3) := by decide +kernel
theorem dX12_isEnd_24 : decode cX12_isEnd 24 = .ok (.iconst 0, 1) := by decide +kernel
theorem dX12_isEnd_25 : decode cX12_isEnd 25 = .ok (.ireturn, 1) := by decide +kernel
def fX12_isEnd (x0 x1 : Int) (v : V_) : Option (Int × V_) :=
  ck_ (0 ≤ x1 ∧ x1 < 272) (
  if (v (x0 + 35) x1) = 2 then (
    some (1, v))
  else (
    ck_ (0 ≤ x1 ∧ x1 < 272) (
    if (v (x0 + 35) x1) = 3 then (
      some (1, v))
    else (
      some (0, v)))))
theorem cX12_isEnd_ok (l : Launch) {E : En_} {sz : Int} (hC : Cl_ E.2.2.2.2.2 sz) {x0 x1 : Int} {v : V_} {out : Int × V_} (T0 : (E.2.2.2.2.2 x0 ∧ ty_ x0 = 12 ∧ ln_ x0 = 0)) (h : fX12_isEnd x0 x1 v = some out) : Met l yX12_isEnd [.code yX12_isEnd cX12_isEnd 2 (some FieldType.boolean)] (rm_ 0 0) (Pc_ E sz v [(2, x0), (0, x1)]) (Qc_ E sz 0 out.1 out.2) 0 0 (fun q => E.1 < q) := by
  refine met_G0 RX12 (by decide +kernel) rfl (Nat.le_of_ble_eq_true rfl) ?_
  intro p e s m args below meth c C hr hlk
  rw [fX12_isEnd] at h
  refine g_aload_n C (f := 0) dX12_isEnd_0 0 rfl ?_
  have F1 := fX12_54 hC T0.1 T0.2.1
  refine g_getR C (k := 54) (o := 35) okX12 (by decide) kf_RX12_121 dX12_isEnd_1 hC T0.1 T0.2.1 rfl rfl ?_
  refine g_iload_n C (f := 1) dX12_isEnd_4 1 rfl ?_
  obtain ⟨c2, h⟩ := ck_e h
  refine g_iald C 272 dX12_isEnd_5 (rg_ hC F1.1) F1.2.1 F1.2.2 c2 ?_
  refine g_iconst C (n := 2) dX12_isEnd_6 (by decide) ?_
  refine g_icmp_eq C 20 dX12_isEnd_7 rfl (fun c3 => ?_) (fun c3 => ?_)
  · replace h := if_t h c3
    refine g_iconst C (n := 1) dX12_isEnd_20 (by decide) ?_
    refine g_goto C 25 dX12_isEnd_21 rfl ?_
    cases h
    exact g_zret C dX12_isEnd_25 hr hlk (Or.inr rfl)
  · replace h := if_f h c3
    refine g_aload_n C (f := 0) dX12_isEnd_10 0 rfl ?_
    have F4 := fX12_54 hC T0.1 T0.2.1
    refine g_getR C (k := 54) (o := 35) okX12 (by decide) kf_RX12_121 dX12_isEnd_11 hC T0.1 T0.2.1 rfl rfl ?_
    refine g_iload_n C (f := 1) dX12_isEnd_14 1 rfl ?_
    obtain ⟨c5, h⟩ := ck_e h
    refine g_iald C 272 dX12_isEnd_15 (rg_ hC F4.1) F4.2.1 F4.2.2 c5 ?_
    refine g_iconst C (n := 3) dX12_isEnd_16 (by decide) ?_
    refine g_icmp_ne C 24 dX12_isEnd_17 rfl (fun c6 => ?_) (fun c6 => ?_)
    · replace h := if_f h c6
      refine g_iconst C (n := 0) dX12_isEnd_24 (by decide) ?_
      cases h
      exact g_zret C dX12_isEnd_25 hr hlk (Or.inl rfl)
    · replace h := if_t h c6
      refine g_iconst C (n := 1) dX12_isEnd_20 (by decide) ?_
      refine g_goto C 25 dX12_isEnd_21 rfl ?_
      cases h
      exact g_zret C dX12_isEnd_25 hr hlk (Or.inr rfl)
theorem dX12_readsItem_0 : decode cX12_readsItem 0 = .ok (.bipush 34, 2) := by decide +kernel
theorem dX12_readsItem_2 : decode cX12_readsItem 2 = .ok (.iload_n 1, 1) := by decide +kernel
theorem dX12_readsItem_3 : decode cX12_readsItem 3 = .ok (.imul, 1) := by decide +kernel
theorem dX12_readsItem_4 : decode cX12_readsItem 4 = .ok (.iload_n 2, 1) := by decide +kernel
theorem dX12_readsItem_5 : decode cX12_readsItem 5 = .ok (.iadd, 1) := by decide +kernel
theorem dX12_readsItem_6 : decode cX12_readsItem 6 = .ok (.istore_n 3, 1) := by decide +kernel
theorem dX12_readsItem_7 : decode cX12_readsItem 7 = .ok (.aload_n 0, 1) := by decide +kernel
theorem dX12_readsItem_8 : decode cX12_readsItem 8 = .ok (.getfield 172, 3) := by decide +kernel
theorem dX12_readsItem_11 : decode cX12_readsItem 11 = .ok (.iload_n 2, 1) := by decide +kernel
theorem dX12_readsItem_12 : decode cX12_readsItem 12 = .ok (.iconst 0, 1) := by decide +kernel
theorem dX12_readsItem_13 : decode cX12_readsItem 13 = .ok (.bastore, 1) := by decide +kernel
theorem dX12_readsItem_14 : decode cX12_readsItem 14 = .ok (.aload_n 0, 1) := by decide +kernel
theorem dX12_readsItem_15 : decode cX12_readsItem 15 = .ok (.iload_n 3, 1) := by decide +kernel
theorem dX12_readsItem_16 : decode cX12_readsItem 16 = .ok (.invokevirtual 500, 3) := by decide +kernel
theorem dX12_readsItem_19 : decode cX12_readsItem 19 = .ok (.ifCond .eq 15, 3) := by decide +kernel
theorem dX12_readsItem_22 : decode cX12_readsItem 22 = .ok (.aload_n 0, 1) := by decide +kernel
theorem dX12_readsItem_23 : decode cX12_readsItem 23 = .ok (.getfield 179, 3) := by decide +kernel
theorem dX12_readsItem_26 : decode cX12_readsItem 26 = .ok (.iload_n 2, 1) := by decide +kernel
theorem dX12_readsItem_27 : decode cX12_readsItem 27 = .ok (.aload_n 0, 1) := by decide +kernel
theorem dX12_readsItem_28 : decode cX12_readsItem 28 = .ok (.iload_n 3, 1) := by decide +kernel
theorem dX12_readsItem_29 : decode cX12_readsItem 29 = .ok (.invokevirtual 503, 3) := by decide +kernel
theorem dX12_readsItem_32 : decode cX12_readsItem 32 = .ok (.iastore, 1) := by decide +kernel
theorem dX12_readsItem_33 : decode cX12_readsItem 33 = .ok (.return_, 1) := by decide +kernel
theorem dX12_readsItem_34 : decode cX12_readsItem 34 = .ok (.aload_n 0, 1) := by decide +kernel
theorem dX12_readsItem_35 : decode cX12_readsItem 35 = .ok (.aload_n 0, 1) := by decide +kernel
theorem dX12_readsItem_36 : decode cX12_readsItem 36 = .ok (.getfield 130, 3) := by decide +kernel
theorem dX12_readsItem_39 : decode cX12_readsItem 39 = .ok (.iload_n 3, 1) := by decide +kernel
theorem dX12_readsItem_40 : decode cX12_readsItem 40 = .ok (.iaload, 1) := by decide +kernel
theorem dX12_readsItem_41 : decode cX12_readsItem 41 = .ok (.aload_n 0, 1) := by decide +kernel
theorem dX12_readsItem_42 : decode cX12_readsItem 42 = .ok (.getfield 133, 3) := by decide +kernel
theorem dX12_readsItem_45 : decode cX12_readsItem 45 = .ok (.iload_n 3, 1) := by decide +kernel
theorem dX12_readsItem_46 : decode cX12_readsItem 46 = .ok (.iaload, 1) := by decide +kernel
theorem dX12_readsItem_47 : decode cX12_readsItem 47 = .ok (.aload_n 0, 1) := by decide +kernel
theorem dX12_readsItem_48 : decode cX12_readsItem 48 = .ok (.getfield 139, 3) := by decide +kernel
theorem dX12_readsItem_51 : decode cX12_readsItem 51 = .ok (.iload_n 3, 1) := by decide +kernel
theorem dX12_readsItem_52 : decode cX12_readsItem 52 = .ok (.iaload, 1) := by decide +kernel
theorem dX12_readsItem_53 : decode cX12_readsItem 53 = .ok (.aload_n 0, 1) := by decide +kernel
theorem dX12_readsItem_54 : decode cX12_readsItem 54 = .ok (.getfield 142, 3) := by decide +kernel
theorem dX12_readsItem_57 : decode cX12_readsItem 57 = .ok (.iload_n 3, 1) := by decide +kernel
theorem dX12_readsItem_58 : decode cX12_readsItem 58 = .ok (.iaload, 1) := by decide +kernel
theorem dX12_readsItem_59 : decode cX12_readsItem 59 = .ok (.invokevirtual 365, 3) := by decide +kernel
theorem dX12_readsItem_62 : decode cX12_readsItem 62 = .ok (.aload_n 0, 1) := by decide +kernel
theorem dX12_readsItem_63 : decode cX12_readsItem 63 = .ok (.getfield 172, 3) := by decide +kernel
theorem dX12_readsItem_66 : decode cX12_readsItem 66 = .ok (.iload_n 2, 1) := by decide +kernel
theorem dX12_readsItem_67 : decode cX12_readsItem 67 = .ok (.aload_n 0, 1) := by decide +kernel
theorem dX12_readsItem_68 : decode cX12_readsItem 68 = .ok (.getfield 344, 3) := by decide +kernel
theorem dX12_readsItem_71 : decode cX12_readsItem 71 = .ok (.bastore, 1) := by decide +kernel
theorem dX12_readsItem_72 : decode cX12_readsItem 72 = .ok (.aload_n 0, 1) := by decide +kernel
theorem dX12_readsItem_73 : decode cX12_readsItem 73 = .ok (.getfield 166, 3) := by decide +kernel
theorem dX12_readsItem_76 : decode cX12_readsItem 76 = .ok (.iload_n 2, 1) := by decide +kernel
theorem dX12_readsItem_77 : decode cX12_readsItem 77 = .ok (.aload_n 0, 1) := by decide +kernel
theorem dX12_readsItem_78 : decode cX12_readsItem 78 = .ok (.getfield 350, 3) := by decide +kernel
theorem dX12_readsItem_81 : decode cX12_readsItem 81 = .ok (.iastore, 1) := by decide +kernel
theorem dX12_readsItem_82 : decode cX12_readsItem 82 = .ok (.aload_n 0, 1) := by decide +kernel
theorem dX12_readsItem_83 : decode cX12_readsItem 83 = .ok (.getfield 169, 3) := by decide +kernel
theorem dX12_readsItem_86 : decode cX12_readsItem 86 = .ok (.iload_n 2, 1) := by decide +kernel
theorem dX12_readsItem_87 : decode cX12_readsItem 87 = .ok (.aload_n 0, 1) := by decide +kernel
theorem dX12_readsItem_88 : decode cX12_readsItem 88 = .ok (.getfield 347, 3) := by decide +kernel
theorem dX12_readsItem_91 : decode cX12_readsItem 91 = .ok (.iastore, 1) := by decide +kernel
theorem dX12_readsItem_92 : decode cX12_readsItem 92 = .ok (.return_, 1) := by decide +kernel
def fX12_readsItem (x0 x1 x2 : Int) (v : V_) : Option (Int × V_) :=
  lt_ (wr_ ((wr_ (34 * x1)) + x2)) fun y1 =>
  ck_ (0 ≤ x2 ∧ x2 < 34) (
  lt_ (up_ v (x0 + 52) x2 0) fun v4 =>
  bd_ (fX12_isEnd x0 y1 v4) fun q5 =>
  if q5.1 = 0 then (
    ck_ (0 ≤ y1 ∧ y1 < 272) (
    ck_ (0 ≤ y1 ∧ y1 < 272) (
    ck_ (0 ≤ y1 ∧ y1 < 272) (
    ck_ (0 ≤ y1 ∧ y1 < 272) (
    bd_ (fX12_reckons x0 (q5.2 (x0 + 38) y1) (q5.2 (x0 + 39) y1) (q5.2 (x0 + 41) y1) (q5.2 (x0 + 42) y1) q5.2) fun q15 =>
    ck_ (0 ≤ x2 ∧ x2 < 34) (
    ck_ (q15.2 x0 42 = 0 ∨ q15.2 x0 42 = 1) (
    lt_ (up_ q15.2 (x0 + 52) x2 (q15.2 x0 42)) fun v19 =>
    ck_ (0 ≤ x2 ∧ x2 < 34) (
    lt_ (up_ v19 (x0 + 50) x2 (v19 x0 40)) fun v22 =>
    ck_ (0 ≤ x2 ∧ x2 < 34) (
    lt_ (up_ v22 (x0 + 51) x2 (v22 x0 41)) fun v25 =>
    some (0, v25))))))))))
  else (
    bd_ (fX12_goesWay x0 y1 q5.2) fun q27 =>
    ck_ (0 ≤ x2 ∧ x2 < 34) (
    lt_ (up_ q27.2 (x0 + 54) x2 q27.1) fun v29 =>
    some (0, v29))))
theorem cX12_readsItem_ok (l : Launch) {E : En_} {sz : Int} (hC : Cl_ E.2.2.2.2.2 sz) {x0 x1 x2 : Int} {v : V_} {out : Int × V_} (T0 : (E.2.2.2.2.2 x0 ∧ ty_ x0 = 12 ∧ ln_ x0 = 0)) (h : fX12_readsItem x0 x1 x2 v = some out) : Met l yX12_readsItem [.code yX12_readsItem cX12_readsItem 4 (none : Option FieldType)] (rm_ 2 48) (Pc_ E sz v [(2, x0), (0, x1), (0, x2)]) (Qc_ E sz 9 out.1 out.2) 0 0 (fun q => E.1 < q) := by
  refine met_G0 RX12 (by decide +kernel) rfl (Nat.le_of_ble_eq_true rfl) ?_
  intro p e s m args below meth c C hr hlk
  rw [fX12_readsItem] at h
  refine g_bipush C (n := 34) dX12_readsItem_0 (by decide) ?_
  refine g_iload_n C (f := 1) dX12_readsItem_2 1 rfl ?_
  refine g_imul C dX12_readsItem_3 ?_
  refine g_iload_n C (f := 2) dX12_readsItem_4 2 rfl ?_
  refine g_iadd C dX12_readsItem_5 ?_
  obtain ⟨y1, ey1, h⟩ := lt_e h
  refine g_set C ey1 ?_
  refine g_istore_n C (f := 3) (ls' := [(3, (0, y1)), (0, (2, x0)), (1, (0, x1)), (2, (0, x2))]) dX12_readsItem_6 (by decide) rfl ?_
  refine g_aload_n C (f := 0) dX12_readsItem_7 1 rfl ?_
  have F2 := fX12_72 hC T0.1 T0.2.1
  refine g_getR C (k := 72) (o := 52) okX12 (by decide) kf_RX12_172 dX12_readsItem_8 hC T0.1 T0.2.1 rfl rfl ?_
  refine g_iload_n C (f := 2) dX12_readsItem_11 3 rfl ?_
  refine g_iconst C (n := 0) dX12_readsItem_12 (by decide) ?_
  obtain ⟨c3, h⟩ := ck_e h
  obtain ⟨v4, ev4, h⟩ := lt_e h
  refine g_zast C 34 dX12_readsItem_13 (rg_ hC F2.1) F2.2.1 F2.2.2 c3 (Or.inl rfl) v4 ev4 ?_
  refine g_aload_n C (f := 0) dX12_readsItem_14 1 rfl ?_
  refine g_iload_n C (f := 3) dX12_readsItem_15 0 rfl ?_
  obtain ⟨q5, eq5, h⟩ := bd_e h
  refine g_cV C [(0, y1)] (cX12_isEnd_ok l hC T0 eq5) okX12 T0.2.1 (rg_ hC T0.1) km_RX12_500 cv_X12_isEnd rfl (by decide) rfl rfl (Nat.le_of_ble_eq_true rfl) dX12_readsItem_16 ?_
  refine g_if_eq C 34 dX12_readsItem_19 rfl (fun c6 => ?_) (fun c6 => ?_)
  · replace h := if_t h c6
    refine g_aload_n C (f := 0) dX12_readsItem_34 1 rfl ?_
    refine g_aload_n C (f := 0) dX12_readsItem_35 1 rfl ?_
    have F7 := fX12_57 hC T0.1 T0.2.1
    refine g_getR C (k := 57) (o := 38) okX12 (by decide) kf_RX12_130 dX12_readsItem_36 hC T0.1 T0.2.1 rfl rfl ?_
    refine g_iload_n C (f := 3) dX12_readsItem_39 0 rfl ?_
    obtain ⟨c8, h⟩ := ck_e h
    refine g_iald C 272 dX12_readsItem_40 (rg_ hC F7.1) F7.2.1 F7.2.2 c8 ?_
    refine g_aload_n C (f := 0) dX12_readsItem_41 1 rfl ?_
    have F9 := fX12_58 hC T0.1 T0.2.1
    refine g_getR C (k := 58) (o := 39) okX12 (by decide) kf_RX12_133 dX12_readsItem_42 hC T0.1 T0.2.1 rfl rfl ?_
    refine g_iload_n C (f := 3) dX12_readsItem_45 0 rfl ?_
    obtain ⟨c10, h⟩ := ck_e h
    refine g_iald C 272 dX12_readsItem_46 (rg_ hC F9.1) F9.2.1 F9.2.2 c10 ?_
    refine g_aload_n C (f := 0) dX12_readsItem_47 1 rfl ?_
    have F11 := fX12_60 hC T0.1 T0.2.1
    refine g_getR C (k := 60) (o := 41) okX12 (by decide) kf_RX12_139 dX12_readsItem_48 hC T0.1 T0.2.1 rfl rfl ?_
    refine g_iload_n C (f := 3) dX12_readsItem_51 0 rfl ?_
    obtain ⟨c12, h⟩ := ck_e h
    refine g_iald C 272 dX12_readsItem_52 (rg_ hC F11.1) F11.2.1 F11.2.2 c12 ?_
    refine g_aload_n C (f := 0) dX12_readsItem_53 1 rfl ?_
    have F13 := fX12_61 hC T0.1 T0.2.1
    refine g_getR C (k := 61) (o := 42) okX12 (by decide) kf_RX12_142 dX12_readsItem_54 hC T0.1 T0.2.1 rfl rfl ?_
    refine g_iload_n C (f := 3) dX12_readsItem_57 0 rfl ?_
    obtain ⟨c14, h⟩ := ck_e h
    refine g_iald C 272 dX12_readsItem_58 (rg_ hC F13.1) F13.2.1 F13.2.2 c14 ?_
    obtain ⟨q15, eq15, h⟩ := bd_e h
    refine g_cV C [(0, q5.2 (x0 + 38) y1), (0, q5.2 (x0 + 39) y1), (0, q5.2 (x0 + 41) y1), (0, q5.2 (x0 + 42) y1)] (cX12_reckons_ok l hC T0 eq15) okX12 T0.2.1 (rg_ hC T0.1) km_RX12_365 cv_X12_reckons rfl (by decide) rfl rfl (Nat.le_of_ble_eq_true rfl) dX12_readsItem_59 ?_
    refine g_aload_n C (f := 0) dX12_readsItem_62 1 rfl ?_
    have F16 := fX12_72 hC T0.1 T0.2.1
    refine g_getR C (k := 72) (o := 52) okX12 (by decide) kf_RX12_172 dX12_readsItem_63 hC T0.1 T0.2.1 rfl rfl ?_
    refine g_iload_n C (f := 2) dX12_readsItem_66 3 rfl ?_
    refine g_aload_n C (f := 0) dX12_readsItem_67 1 rfl ?_
    refine g_getf C (k := 42) (kd := 0) okX12 (by decide) kf_RX12_344 dX12_readsItem_68 (rg_ hC T0.1) T0.2.1 rfl ?_
    obtain ⟨c17, h⟩ := ck_e h
    obtain ⟨c18, h⟩ := ck_e h
    obtain ⟨v19, ev19, h⟩ := lt_e h
    refine g_zast C 34 dX12_readsItem_71 (rg_ hC F16.1) F16.2.1 F16.2.2 c17 c18 v19 ev19 ?_
    refine g_aload_n C (f := 0) dX12_readsItem_72 1 rfl ?_
    have F20 := fX12_70 hC T0.1 T0.2.1
    refine g_getR C (k := 70) (o := 50) okX12 (by decide) kf_RX12_166 dX12_readsItem_73 hC T0.1 T0.2.1 rfl rfl ?_
    refine g_iload_n C (f := 2) dX12_readsItem_76 3 rfl ?_
    refine g_aload_n C (f := 0) dX12_readsItem_77 1 rfl ?_
    refine g_getf C (k := 40) (kd := 0) okX12 (by decide) kf_RX12_350 dX12_readsItem_78 (rg_ hC T0.1) T0.2.1 rfl ?_
    obtain ⟨c21, h⟩ := ck_e h
    obtain ⟨v22, ev22, h⟩ := lt_e h
    refine g_iast C 34 dX12_readsItem_81 (rg_ hC F20.1) F20.2.1 F20.2.2 c21 v22 ev22 ?_
    refine g_aload_n C (f := 0) dX12_readsItem_82 1 rfl ?_
    have F23 := fX12_71 hC T0.1 T0.2.1
    refine g_getR C (k := 71) (o := 51) okX12 (by decide) kf_RX12_169 dX12_readsItem_83 hC T0.1 T0.2.1 rfl rfl ?_
    refine g_iload_n C (f := 2) dX12_readsItem_86 3 rfl ?_
    refine g_aload_n C (f := 0) dX12_readsItem_87 1 rfl ?_
    refine g_getf C (k := 41) (kd := 0) okX12 (by decide) kf_RX12_347 dX12_readsItem_88 (rg_ hC T0.1) T0.2.1 rfl ?_
    obtain ⟨c24, h⟩ := ck_e h
    obtain ⟨v25, ev25, h⟩ := lt_e h
    refine g_iast C 34 dX12_readsItem_91 (rg_ hC F23.1) F23.2.1 F23.2.2 c24 v25 ev25 ?_
    cases h
    exact g_vret C dX12_readsItem_92 hr hlk
  · replace h := if_f h c6
    refine g_aload_n C (f := 0) dX12_readsItem_22 1 rfl ?_
    have F26 := fX12_74 hC T0.1 T0.2.1
    refine g_getR C (k := 74) (o := 54) okX12 (by decide) kf_RX12_179 dX12_readsItem_23 hC T0.1 T0.2.1 rfl rfl ?_
    refine g_iload_n C (f := 2) dX12_readsItem_26 3 rfl ?_
    refine g_aload_n C (f := 0) dX12_readsItem_27 1 rfl ?_
    refine g_iload_n C (f := 3) dX12_readsItem_28 0 rfl ?_
    obtain ⟨q27, eq27, h⟩ := bd_e h
    refine g_cV C [(0, y1)] (cX12_goesWay_ok l hC T0 eq27) okX12 T0.2.1 (rg_ hC T0.1) km_RX12_503 cv_X12_goesWay rfl (by decide) rfl rfl (Nat.le_of_ble_eq_true rfl) dX12_readsItem_29 ?_
    obtain ⟨c28, h⟩ := ck_e h
    obtain ⟨v29, ev29, h⟩ := lt_e h
    refine g_iast C 34 dX12_readsItem_32 (rg_ hC F26.1) F26.2.1 F26.2.2 c28 v29 ev29 ?_
    cases h
    exact g_vret C dX12_readsItem_33 hr hlk
