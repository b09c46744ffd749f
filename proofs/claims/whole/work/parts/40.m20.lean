theorem dX12_needOf_0 : decode cX12_needOf 0 = .ok (.bipush (-2), 2) := by decide +kernel
theorem dX12_needOf_2 : decode cX12_needOf 2 = .ok (.istore_n 3, 1) := by decide +kernel
theorem dX12_needOf_3 : decode cX12_needOf 3 = .ok (.aload_n 0, 1) := by decide +kernel
theorem dX12_needOf_4 : decode cX12_needOf 4 = .ok (.iload_n 1, 1) := by decide +kernel
theorem dX12_needOf_5 : decode cX12_needOf 5 = .ok (.iload_n 2, 1) := by decide +kernel
theorem dX12_needOf_6 : decode cX12_needOf 6 = .ok (.invokevirtual 452, 3) := by decide +kernel
theorem dX12_needOf_9 : decode cX12_needOf 9 = .ok (.ifCond .eq 13, 3) := by decide +kernel
theorem dX12_needOf_12 : decode cX12_needOf 12 = .ok (.iload_n 3, 1) := by decide +kernel
theorem dX12_needOf_13 : decode cX12_needOf 13 = .ok (.aload_n 0, 1) := by decide +kernel
theorem dX12_needOf_14 : decode cX12_needOf 14 = .ok (.iload_n 1, 1) := by decide +kernel
theorem dX12_needOf_15 : decode cX12_needOf 15 = .ok (.invokevirtual 455, 3) := by decide +kernel
theorem dX12_needOf_18 : decode cX12_needOf 18 = .ok (.invokestatic 458, 3) := by decide +kernel
theorem dX12_needOf_21 : decode cX12_needOf 21 = .ok (.istore_n 3, 1) := by decide +kernel
theorem dX12_needOf_22 : decode cX12_needOf 22 = .ok (.aload_n 0, 1) := by decide +kernel
theorem dX12_needOf_23 : decode cX12_needOf 23 = .ok (.iload_n 1, 1) := by decide +kernel
theorem dX12_needOf_24 : decode cX12_needOf 24 = .ok (.aload_n 0, 1) := by decide +kernel
theorem dX12_needOf_25 : decode cX12_needOf 25 = .ok (.getfield 136, 3) := by decide +kernel
theorem dX12_needOf_28 : decode cX12_needOf 28 = .ok (.iload_n 2, 1) := by decide +kernel
theorem dX12_needOf_29 : decode cX12_needOf 29 = .ok (.iaload, 1) := by decide +kernel
theorem dX12_needOf_30 : decode cX12_needOf 30 = .ok (.invokevirtual 446, 3) := by decide +kernel
theorem dX12_needOf_33 : decode cX12_needOf 33 = .ok (.ifCond .eq 9, 3) := by decide +kernel
theorem dX12_needOf_36 : decode cX12_needOf 36 = .ok (.iload_n 3, 1) := by decide +kernel
theorem dX12_needOf_37 : decode cX12_needOf 37 = .ok (.iconst 0, 1) := by decide +kernel
theorem dX12_needOf_38 : decode cX12_needOf 38 = .ok (.invokestatic 458, 3) := by decide +kernel
theorem dX12_needOf_41 : decode cX12_needOf 41 = .ok (.istore_n 3, 1) := by decide +kernel
theorem dX12_needOf_42 : decode cX12_needOf 42 = .ok (.aload_n 0, 1) := by decide +kernel
theorem dX12_needOf_43 : decode cX12_needOf 43 = .ok (.getfield 136, 3) := by decide +kernel
theorem dX12_needOf_46 : decode cX12_needOf 46 = .ok (.iload_n 1, 1) := by decide +kernel
theorem dX12_needOf_47 : decode cX12_needOf 47 = .ok (.iaload, 1) := by decide +kernel
theorem dX12_needOf_48 : decode cX12_needOf 48 = .ok (.ifCond .lt 40, 3) := by decide +kernel
theorem dX12_needOf_51 : decode cX12_needOf 51 = .ok (.aload_n 0, 1) := by decide +kernel
theorem dX12_needOf_52 : decode cX12_needOf 52 = .ok (.getfield 136, 3) := by decide +kernel
theorem dX12_needOf_55 : decode cX12_needOf 55 = .ok (.iload_n 1, 1) := by decide +kernel
theorem dX12_needOf_56 : decode cX12_needOf 56 = .ok (.iaload, 1) := by decide +kernel
theorem dX12_needOf_57 : decode cX12_needOf 57 = .ok (.aload_n 0, 1) := by decide +kernel
theorem dX12_needOf_58 : decode cX12_needOf 58 = .ok (.getfield 136, 3) := by decide +kernel
theorem dX12_needOf_61 : decode cX12_needOf 61 = .ok (.iload_n 2, 1) := by decide +kernel
theorem dX12_needOf_62 : decode cX12_needOf 62 = .ok (.iaload, 1) := by decide +kernel
theorem dX12_needOf_63 : decode cX12_needOf 63 = .ok (.if_icmp .ne 25, 3) := by decide +kernel
theorem dX12_needOf_66 : decode cX12_needOf 66 = .ok (.iload_n 3, 1) := by decide +kernel
theorem dX12_needOf_67 : decode cX12_needOf 67 = .ok (.iconst 1, 1) := by decide +kernel
theorem dX12_needOf_68 : decode cX12_needOf 68 = .ok (.aload_n 0, 1) := by decide +kernel
theorem dX12_needOf_69 : decode cX12_needOf 69 = .ok (.iload_n 1, 1) := by decide +kernel
theorem dX12_needOf_70 : decode cX12_needOf 70 = .ok (.invokevirtual 455, 3) := by decide +kernel
theorem dX12_needOf_73 : decode cX12_needOf 73 = .ok (.aload_n 0, 1) := by decide +kernel
theorem dX12_needOf_74 : decode cX12_needOf 74 = .ok (.iload_n 2, 1) := by decide +kernel
theorem dX12_needOf_75 : decode cX12_needOf 75 = .ok (.invokevirtual 455, 3) := by decide +kernel
theorem dX12_needOf_78 : decode cX12_needOf 78 = .ok (.isub, 1) := by decide +kernel
theorem dX12_needOf_79 : decode cX12_needOf 79 = .ok (.iconst 1, 1) := by decide +kernel
theorem dX12_needOf_80 : decode cX12_needOf 80 = .ok (.iadd, 1) := by decide +kernel
theorem dX12_needOf_81 : decode cX12_needOf 81 = .ok (.invokestatic 458, 3) := by decide +kernel
theorem dX12_needOf_84 : decode cX12_needOf 84 = .ok (.invokestatic 458, 3) := by decide +kernel
theorem dX12_needOf_87 : decode cX12_needOf 87 = .ok (.istore_n 3, 1) := by decide +kernel
theorem dX12_needOf_88 : decode cX12_needOf 88 = .ok (.aload_n 0, 1) := by decide +kernel
theorem dX12_needOf_89 : decode cX12_needOf 89 = .ok (.iload_n 1, 1) := by decide +kernel
theorem dX12_needOf_90 : decode cX12_needOf 90 = .ok (.invokevirtual 449, 3) := by decide +kernel
theorem dX12_needOf_93 : decode cX12_needOf 93 = .ok (.ifCond .eq 21, 3) := by decide +kernel
theorem dX12_needOf_96 : decode cX12_needOf 96 = .ok (.aload_n 0, 1) := by decide +kernel
theorem dX12_needOf_97 : decode cX12_needOf 97 = .ok (.iload_n 2, 1) := by decide +kernel
theorem dX12_needOf_98 : decode cX12_needOf 98 = .ok (.invokevirtual 461, 3) := by decide +kernel
theorem dX12_needOf_101 : decode cX12_needOf 101 = .ok (.ifCond .eq 13, 3) := by decide +kernel
theorem dX12_needOf_104 : decode cX12_needOf 104 = .ok (.iload_n 3, 1) := by decide +kernel
theorem dX12_needOf_105 : decode cX12_needOf 105 = .ok (.aload_n 0, 1) := by decide +kernel
theorem dX12_needOf_106 : decode cX12_needOf 106 = .ok (.iload_n 1, 1) := by decide +kernel
theorem dX12_needOf_107 : decode cX12_needOf 107 = .ok (.invokevirtual 455, 3) := by decide +kernel
theorem dX12_needOf_110 : decode cX12_needOf 110 = .ok (.invokestatic 458, 3) := by decide +kernel
theorem dX12_needOf_113 : decode cX12_needOf 113 = .ok (.istore_n 3, 1) := by decide +kernel
theorem dX12_needOf_114 : decode cX12_needOf 114 = .ok (.aload_n 0, 1) := by decide +kernel
theorem dX12_needOf_115 : decode cX12_needOf 115 = .ok (.iload_n 1, 1) := by decide +kernel
theorem dX12_needOf_116 : decode cX12_needOf 116 = .ok (.invokevirtual 461, 3) := by decide +kernel
theorem dX12_needOf_119 : decode cX12_needOf 119 = .ok (.ifCond .eq 17, 3) := by decide +kernel
theorem dX12_needOf_122 : decode cX12_needOf 122 = .ok (.aload_n 0, 1) := by decide +kernel
theorem dX12_needOf_123 : decode cX12_needOf 123 = .ok (.iload_n 2, 1) := by decide +kernel
theorem dX12_needOf_124 : decode cX12_needOf 124 = .ok (.invokevirtual 449, 3) := by decide +kernel
theorem dX12_needOf_127 : decode cX12_needOf 127 = .ok (.ifCond .eq 9, 3) := by decide +kernel
theorem dX12_needOf_130 : decode cX12_needOf 130 = .ok (.iload_n 3, 1) := by decide +kernel
theorem dX12_needOf_131 : decode cX12_needOf 131 = .ok (.iconst 0, 1) := by decide +kernel
theorem dX12_needOf_132 : decode cX12_needOf 132 = .ok (.invokestatic 458, 3) := by decide +kernel
theorem dX12_needOf_135 : decode cX12_needOf 135 = .ok (.istore_n 3, 1) := by decide +kernel
theorem dX12_needOf_136 : decode cX12_needOf 136 = .ok (.aload_n 0, 1) := by decide +kernel
theorem dX12_needOf_137 : decode cX12_needOf 137 = .ok (.iload_n 1, 1) := by decide +kernel
theorem dX12_needOf_138 : decode cX12_needOf 138 = .ok (.invokevirtual 449, 3) := by decide +kernel
theorem dX12_needOf_141 : decode cX12_needOf 141 = .ok (.ifCond .eq 17, 3) := by decide +kernel
theorem dX12_needOf_144 : decode cX12_needOf 144 = .ok (.aload_n 0, 1) := by decide +kernel
theorem dX12_needOf_145 : decode cX12_needOf 145 = .ok (.iload_n 2, 1) := by decide +kernel
theorem dX12_needOf_146 : decode cX12_needOf 146 = .ok (.invokevirtual 449, 3) := by decide +kernel
theorem dX12_needOf_149 : decode cX12_needOf 149 = .ok (.ifCond .eq 9, 3) := by decide +kernel
theorem dX12_needOf_152 : decode cX12_needOf 152 = .ok (.iload_n 3, 1) := by decide +kernel
theorem dX12_needOf_153 : decode cX12_needOf 153 = .ok (.iconst 1, 1) := by decide +kernel
theorem dX12_needOf_154 : decode cX12_needOf 154 = .ok (.invokestatic 458, 3) := by decide +kernel
theorem dX12_needOf_157 : decode cX12_needOf 157 = .ok (.istore_n 3, 1) := by decide +kernel
theorem dX12_needOf_158 : decode cX12_needOf 158 = .ok (.aload_n 0, 1) := by decide +kernel
theorem dX12_needOf_159 : decode cX12_needOf 159 = .ok (.getfield 121, 3) := by decide +kernel
theorem dX12_needOf_162 : decode cX12_needOf 162 = .ok (.iload_n 1, 1) := by decide +kernel
theorem dX12_needOf_163 : decode cX12_needOf 163 = .ok (.iaload, 1) := by decide +kernel
theorem dX12_needOf_164 : decode cX12_needOf 164 = .ok (.iconst 2, 1) := by decide +kernel
theorem dX12_needOf_165 : decode cX12_needOf 165 = .ok (.if_icmp .ne 18, 3) := by decide +kernel
theorem dX12_needOf_168 : decode cX12_needOf 168 = .ok (.aload_n 0, 1) := by decide +kernel
theorem dX12_needOf_169 : decode cX12_needOf 169 = .ok (.iload_n 1, 1) := by decide +kernel
theorem dX12_needOf_170 : decode cX12_needOf 170 = .ok (.iload_n 2, 1) := by decide +kernel
theorem dX12_needOf_171 : decode cX12_needOf 171 = .ok (.invokevirtual 464, 3) := by decide +kernel
theorem dX12_needOf_174 : decode cX12_needOf 174 = .ok (.ifCond .eq 9, 3) := by decide +kernel
theorem dX12_needOf_177 : decode cX12_needOf 177 = .ok (.iload_n 3, 1) := by decide +kernel
theorem dX12_needOf_178 : decode cX12_needOf 178 = .ok (.iconst 1, 1) := by decide +kernel
theorem dX12_needOf_179 : decode cX12_needOf 179 = .ok (.invokestatic 458, 3) := by decide +kernel
theorem dX12_needOf_182 : decode cX12_needOf 182 = .ok (.istore_n 3, 1) := by decide +kernel
theorem dX12_needOf_183 : decode cX12_needOf 183 = .ok (.aload_n 0, 1) := by decide +kernel
theorem dX12_needOf_184 : decode cX12_needOf 184 = .ok (.getfield 121, 3) := by decide +kernel
theorem dX12_needOf_187 : decode cX12_needOf 187 = .ok (.iload_n 2, 1) := by decide +kernel
theorem dX12_needOf_188 : decode cX12_needOf 188 = .ok (.iaload, 1) := by decide +kernel
theorem dX12_needOf_189 : decode cX12_needOf 189 = .ok (.iconst 3, 1) := by decide +kernel
theorem dX12_needOf_190 : decode cX12_needOf 190 = .ok (.if_icmp .ne 9, 3) := by decide +kernel
theorem dX12_needOf_193 : decode cX12_needOf 193 = .ok (.iload_n 3, 1) := by decide +kernel
theorem dX12_needOf_194 : decode cX12_needOf 194 = .ok (.iconst 0, 1) := by decide +kernel
theorem dX12_needOf_195 : decode cX12_needOf 195 = .ok (.invokestatic 458, 3) := by decide +kernel
theorem dX12_needOf_198 : decode cX12_needOf 198 = .ok (.istore_n 3, 1) := by decide +kernel
theorem dX12_needOf_199 : decode cX12_needOf 199 = .ok (.iload_n 3, 1) := by decide +kernel
theorem dX12_needOf_200 : decode cX12_needOf 200 = .ok (.ireturn, 1) := by decide +kernel
def fX12_needOf_183 (x0 x2 x3 : Int) (v : V_) : Option (Int × V_) :=
  ck_ (0 ≤ x2 ∧ x2 < 272) (
  if (v (x0 + 35) x2) = 3 then (
    bd_ (fX12_more x3 0 v) fun q22 =>
    some (q22.1, q22.2))
  else (
    some (x3, v)))
def fX12_needOf_158 (x0 x1 x2 x3 : Int) (v : V_) : Option (Int × V_) :=
  ck_ (0 ≤ x1 ∧ x1 < 272) (
  if (v (x0 + 35) x1) = 2 then (
    bd_ (fX12_isKept x0 x1 x2 v) fun q23 =>
    if q23.1 = 0 then (
      fX12_needOf_183 x0 x2 x3 q23.2)
    else (
      bd_ (fX12_more x3 1 q23.2) fun q25 =>
      fX12_needOf_183 x0 x2 q25.1 q25.2))
  else (
    fX12_needOf_183 x0 x2 x3 v))
def fX12_needOf_136 (x0 x1 x2 x3 : Int) (v : V_) : Option (Int × V_) :=
  bd_ (fX12_isStore x0 x1 v) fun q14 =>
  if q14.1 = 0 then (
    fX12_needOf_158 x0 x1 x2 x3 q14.2)
  else (
    bd_ (fX12_isStore x0 x2 q14.2) fun q26 =>
    if q26.1 = 0 then (
      fX12_needOf_158 x0 x1 x2 x3 q26.2)
    else (
      bd_ (fX12_more x3 1 q26.2) fun q28 =>
      fX12_needOf_158 x0 x1 x2 q28.1 q28.2))
def fX12_needOf_114 (x0 x1 x2 x3 : Int) (v : V_) : Option (Int × V_) :=
  bd_ (fX12_isLoad x0 x1 v) fun q12 =>
  if q12.1 = 0 then (
    fX12_needOf_136 x0 x1 x2 x3 q12.2)
  else (
    bd_ (fX12_isStore x0 x2 q12.2) fun q29 =>
    if q29.1 = 0 then (
      fX12_needOf_136 x0 x1 x2 x3 q29.2)
    else (
      bd_ (fX12_more x3 0 q29.2) fun q31 =>
      fX12_needOf_136 x0 x1 x2 q31.1 q31.2))
def fX12_needOf_88 (x0 x1 x2 x3 : Int) (v : V_) : Option (Int × V_) :=
  bd_ (fX12_isStore x0 x1 v) fun q10 =>
  if q10.1 = 0 then (
    fX12_needOf_114 x0 x1 x2 x3 q10.2)
  else (
    bd_ (fX12_isLoad x0 x2 q10.2) fun q32 =>
    if q32.1 = 0 then (
      fX12_needOf_114 x0 x1 x2 x3 q32.2)
    else (
      bd_ (fX12_takesItem x0 x1 q32.2) fun q34 =>
      bd_ (fX12_more x3 q34.1 q34.2) fun q35 =>
      fX12_needOf_114 x0 x1 x2 q35.1 q35.2))
def fX12_needOf_42 (x0 x1 x2 x3 : Int) (v : V_) : Option (Int × V_) :=
  ck_ (0 ≤ x1 ∧ x1 < 272) (
  if (v (x0 + 40) x1) < 0 then (
    fX12_needOf_88 x0 x1 x2 x3 v)
  else (
    ck_ (0 ≤ x1 ∧ x1 < 272) (
    ck_ (0 ≤ x2 ∧ x2 < 272) (
    if (v (x0 + 40) x1) = (v (x0 + 40) x2) then (
      bd_ (fX12_takesItem x0 x1 v) fun q41 =>
      bd_ (fX12_takesItem x0 x2 q41.2) fun q42 =>
      bd_ (fX12_more 1 (wr_ ((wr_ (q41.1 - q42.1)) + 1)) q42.2) fun q43 =>
      bd_ (fX12_more x3 q43.1 q43.2) fun q44 =>
      fX12_needOf_88 x0 x1 x2 q44.1 q44.2)
    else (
      fX12_needOf_88 x0 x1 x2 x3 v)))))
def fX12_needOf_22 (x0 x1 x2 x3 : Int) (v : V_) : Option (Int × V_) :=
  ck_ (0 ≤ x2 ∧ x2 < 272) (
  bd_ (fX12_doesRead x0 x1 (v (x0 + 40) x2) v) fun q5 =>
  if q5.1 = 0 then (
    fX12_needOf_42 x0 x1 x2 x3 q5.2)
  else (
    bd_ (fX12_more x3 0 q5.2) fun q45 =>
    fX12_needOf_42 x0 x1 x2 q45.1 q45.2))
def fX12_needOf (x0 x1 x2 : Int) (v : V_) : Option (Int × V_) :=
  bd_ (fX12_isLastSet x0 x1 x2 v) fun q1 =>
  if q1.1 = 0 then (
    fX12_needOf_22 x0 x1 x2 (-2) q1.2)
  else (
    bd_ (fX12_takesItem x0 x1 q1.2) fun q46 =>
    bd_ (fX12_more (-2) q46.1 q46.2) fun q47 =>
    fX12_needOf_22 x0 x1 x2 q47.1 q47.2)
section
variable {E : En_} {p : Program} {l : Launch} {e : Env} {s : State} {m : MethodId} {args : Array Value} {below : List Frame} {meth : Method} {c : Code} {sz : Int}
theorem tX12_needOf_183 (C : MC_ E p s m c cX12_needOf 4 RX12) (hr : meth.sig.returnType = (some FieldType.int)) (hlk : meth.locks = false) (hC : Cl_ E.2.2.2.2.2 sz) {out : Int × V_} (x0 x2 x3 : Int) (v : V_) (T0 : (E.2.2.2.2.2 x0 ∧ ty_ x0 = 12 ∧ ln_ x0 = 0)) (h : fX12_needOf_183 x0 x2 x3 v = some out) : G_ E p l e (rm_ 2 45) s m args below meth c 4 sz (Q_ E below args s sz sz 0 out.1 out.2) 183 [(0, (2, x0)), (2, (0, x2)), (3, (0, x3))] [] v sz := by
  rw [fX12_needOf_183] at h
  refine g_aload_n C (f := 0) dX12_needOf_183 0 rfl ?_
  have F19 := fX12_54 hC T0.1 T0.2.1
  refine g_getR C (k := 54) (o := 35) okX12 (by decide) kf_RX12_121 dX12_needOf_184 hC T0.1 T0.2.1 rfl rfl ?_
  refine g_iload_n C (f := 2) dX12_needOf_187 1 rfl ?_
  obtain ⟨c20, h⟩ := ck_e h
  refine g_iald C 272 dX12_needOf_188 (rg_ hC F19.1) F19.2.1 F19.2.2 c20 ?_
  refine g_iconst C (n := 3) dX12_needOf_189 (by decide) ?_
  refine g_icmp_ne C 199 dX12_needOf_190 rfl (fun c21 => ?_) (fun c21 => ?_)
  · replace h := if_f h c21
    refine g_iload_n C (f := 3) dX12_needOf_199 2 rfl ?_
    cases h
    exact g_iret C dX12_needOf_200 hr hlk
  · replace h := if_t h c21
    refine g_iload_n C (f := 3) dX12_needOf_193 2 rfl ?_
    refine g_iconst C (n := 0) dX12_needOf_194 (by decide) ?_
    obtain ⟨q22, eq22, h⟩ := bd_e h
    refine g_cS C [(0, x3), (0, 0)] (cX12_more_ok l hC eq22) km_RX12_458 cs_X12_more rfl (by decide) rfl rfl (Nat.le_of_ble_eq_true rfl) dX12_needOf_195 ?_
    refine g_istore_n C (f := 3) (ls' := [(3, (0, q22.1)), (0, (2, x0)), (2, (0, x2))]) dX12_needOf_198 (by decide) rfl ?_
    refine g_iload_n C (f := 3) dX12_needOf_199 0 rfl ?_
    cases h
    exact g_iret C dX12_needOf_200 hr hlk
theorem tX12_needOf_158 (C : MC_ E p s m c cX12_needOf 4 RX12) (hr : meth.sig.returnType = (some FieldType.int)) (hlk : meth.locks = false) (hC : Cl_ E.2.2.2.2.2 sz) {out : Int × V_} (x0 x1 x2 x3 : Int) (v : V_) (T0 : (E.2.2.2.2.2 x0 ∧ ty_ x0 = 12 ∧ ln_ x0 = 0)) (h : fX12_needOf_158 x0 x1 x2 x3 v = some out) : G_ E p l e (rm_ 2 45) s m args below meth c 4 sz (Q_ E below args s sz sz 0 out.1 out.2) 158 [(0, (2, x0)), (1, (0, x1)), (2, (0, x2)), (3, (0, x3))] [] v sz := by
  rw [fX12_needOf_158] at h
  refine g_aload_n C (f := 0) dX12_needOf_158 0 rfl ?_
  have F16 := fX12_54 hC T0.1 T0.2.1
  refine g_getR C (k := 54) (o := 35) okX12 (by decide) kf_RX12_121 dX12_needOf_159 hC T0.1 T0.2.1 rfl rfl ?_
  refine g_iload_n C (f := 1) dX12_needOf_162 1 rfl ?_
  obtain ⟨c17, h⟩ := ck_e h
  refine g_iald C 272 dX12_needOf_163 (rg_ hC F16.1) F16.2.1 F16.2.2 c17 ?_
  refine g_iconst C (n := 2) dX12_needOf_164 (by decide) ?_
  refine g_icmp_ne C 183 dX12_needOf_165 rfl (fun c18 => ?_) (fun c18 => ?_)
  · replace h := if_f h c18
    refine g_sub [0, 2, 3] rfl rfl ?_
    exact tX12_needOf_183 C hr hlk hC _ _ _ _ T0 h
  · replace h := if_t h c18
    refine g_aload_n C (f := 0) dX12_needOf_168 0 rfl ?_
    refine g_iload_n C (f := 1) dX12_needOf_169 1 rfl ?_
    refine g_iload_n C (f := 2) dX12_needOf_170 2 rfl ?_
    obtain ⟨q23, eq23, h⟩ := bd_e h
    refine g_cV C [(0, x1), (0, x2)] (cX12_isKept_ok l hC T0 eq23) okX12 T0.2.1 (rg_ hC T0.1) km_RX12_464 cv_X12_isKept rfl (by decide) rfl rfl (Nat.le_of_ble_eq_true rfl) dX12_needOf_171 ?_
    refine g_if_eq C 183 dX12_needOf_174 rfl (fun c24 => ?_) (fun c24 => ?_)
    · replace h := if_t h c24
      refine g_sub [0, 2, 3] rfl rfl ?_
      exact tX12_needOf_183 C hr hlk hC _ _ _ _ T0 h
    · replace h := if_f h c24
      refine g_iload_n C (f := 3) dX12_needOf_177 3 rfl ?_
      refine g_iconst C (n := 1) dX12_needOf_178 (by decide) ?_
      obtain ⟨q25, eq25, h⟩ := bd_e h
      refine g_cS C [(0, x3), (0, 1)] (cX12_more_ok l hC eq25) km_RX12_458 cs_X12_more rfl (by decide) rfl rfl (Nat.le_of_ble_eq_true rfl) dX12_needOf_179 ?_
      refine g_istore_n C (f := 3) (ls' := [(3, (0, q25.1)), (0, (2, x0)), (1, (0, x1)), (2, (0, x2))]) dX12_needOf_182 (by decide) rfl ?_
      refine g_sub [1, 3, 0] rfl rfl ?_
      exact tX12_needOf_183 C hr hlk hC _ _ _ _ T0 h
theorem tX12_needOf_136 (C : MC_ E p s m c cX12_needOf 4 RX12) (hr : meth.sig.returnType = (some FieldType.int)) (hlk : meth.locks = false) (hC : Cl_ E.2.2.2.2.2 sz) {out : Int × V_} (x0 x1 x2 x3 : Int) (v : V_) (T0 : (E.2.2.2.2.2 x0 ∧ ty_ x0 = 12 ∧ ln_ x0 = 0)) (h : fX12_needOf_136 x0 x1 x2 x3 v = some out) : G_ E p l e (rm_ 2 45) s m args below meth c 4 sz (Q_ E below args s sz sz 0 out.1 out.2) 136 [(0, (2, x0)), (1, (0, x1)), (2, (0, x2)), (3, (0, x3))] [] v sz := by
  rw [fX12_needOf_136] at h
  refine g_aload_n C (f := 0) dX12_needOf_136 0 rfl ?_
  refine g_iload_n C (f := 1) dX12_needOf_137 1 rfl ?_
  obtain ⟨q14, eq14, h⟩ := bd_e h
  refine g_cV C [(0, x1)] (cX12_isStore_ok l hC T0 eq14) okX12 T0.2.1 (rg_ hC T0.1) km_RX12_449 cv_X12_isStore rfl (by decide) rfl rfl (Nat.le_of_ble_eq_true rfl) dX12_needOf_138 ?_
  refine g_if_eq C 158 dX12_needOf_141 rfl (fun c15 => ?_) (fun c15 => ?_)
  · replace h := if_t h c15
    refine g_sub [0, 1, 2, 3] rfl rfl ?_
    exact tX12_needOf_158 C hr hlk hC _ _ _ _ _ T0 h
  · replace h := if_f h c15
    refine g_aload_n C (f := 0) dX12_needOf_144 0 rfl ?_
    refine g_iload_n C (f := 2) dX12_needOf_145 2 rfl ?_
    obtain ⟨q26, eq26, h⟩ := bd_e h
    refine g_cV C [(0, x2)] (cX12_isStore_ok l hC T0 eq26) okX12 T0.2.1 (rg_ hC T0.1) km_RX12_449 cv_X12_isStore rfl (by decide) rfl rfl (Nat.le_of_ble_eq_true rfl) dX12_needOf_146 ?_
    refine g_if_eq C 158 dX12_needOf_149 rfl (fun c27 => ?_) (fun c27 => ?_)
    · replace h := if_t h c27
      refine g_sub [0, 1, 2, 3] rfl rfl ?_
      exact tX12_needOf_158 C hr hlk hC _ _ _ _ _ T0 h
    · replace h := if_f h c27
      refine g_iload_n C (f := 3) dX12_needOf_152 3 rfl ?_
      refine g_iconst C (n := 1) dX12_needOf_153 (by decide) ?_
      obtain ⟨q28, eq28, h⟩ := bd_e h
      refine g_cS C [(0, x3), (0, 1)] (cX12_more_ok l hC eq28) km_RX12_458 cs_X12_more rfl (by decide) rfl rfl (Nat.le_of_ble_eq_true rfl) dX12_needOf_154 ?_
      refine g_istore_n C (f := 3) (ls' := [(3, (0, q28.1)), (0, (2, x0)), (1, (0, x1)), (2, (0, x2))]) dX12_needOf_157 (by decide) rfl ?_
      refine g_sub [1, 2, 3, 0] rfl rfl ?_
      exact tX12_needOf_158 C hr hlk hC _ _ _ _ _ T0 h
theorem tX12_needOf_114 (C : MC_ E p s m c cX12_needOf 4 RX12) (hr : meth.sig.returnType = (some FieldType.int)) (hlk : meth.locks = false) (hC : Cl_ E.2.2.2.2.2 sz) {out : Int × V_} (x0 x1 x2 x3 : Int) (v : V_) (T0 : (E.2.2.2.2.2 x0 ∧ ty_ x0 = 12 ∧ ln_ x0 = 0)) (h : fX12_needOf_114 x0 x1 x2 x3 v = some out) : G_ E p l e (rm_ 2 45) s m args below meth c 4 sz (Q_ E below args s sz sz 0 out.1 out.2) 114 [(0, (2, x0)), (1, (0, x1)), (2, (0, x2)), (3, (0, x3))] [] v sz := by
  rw [fX12_needOf_114] at h
  refine g_aload_n C (f := 0) dX12_needOf_114 0 rfl ?_
  refine g_iload_n C (f := 1) dX12_needOf_115 1 rfl ?_
  obtain ⟨q12, eq12, h⟩ := bd_e h
  refine g_cV C [(0, x1)] (cX12_isLoad_ok l hC T0 eq12) okX12 T0.2.1 (rg_ hC T0.1) km_RX12_461 cv_X12_isLoad rfl (by decide) rfl rfl (Nat.le_of_ble_eq_true rfl) dX12_needOf_116 ?_
  refine g_if_eq C 136 dX12_needOf_119 rfl (fun c13 => ?_) (fun c13 => ?_)
  · replace h := if_t h c13
    refine g_sub [0, 1, 2, 3] rfl rfl ?_
    exact tX12_needOf_136 C hr hlk hC _ _ _ _ _ T0 h
  · replace h := if_f h c13
    refine g_aload_n C (f := 0) dX12_needOf_122 0 rfl ?_
    refine g_iload_n C (f := 2) dX12_needOf_123 2 rfl ?_
    obtain ⟨q29, eq29, h⟩ := bd_e h
    refine g_cV C [(0, x2)] (cX12_isStore_ok l hC T0 eq29) okX12 T0.2.1 (rg_ hC T0.1) km_RX12_449 cv_X12_isStore rfl (by decide) rfl rfl (Nat.le_of_ble_eq_true rfl) dX12_needOf_124 ?_
    refine g_if_eq C 136 dX12_needOf_127 rfl (fun c30 => ?_) (fun c30 => ?_)
    · replace h := if_t h c30
      refine g_sub [0, 1, 2, 3] rfl rfl ?_
      exact tX12_needOf_136 C hr hlk hC _ _ _ _ _ T0 h
    · replace h := if_f h c30
      refine g_iload_n C (f := 3) dX12_needOf_130 3 rfl ?_
      refine g_iconst C (n := 0) dX12_needOf_131 (by decide) ?_
      obtain ⟨q31, eq31, h⟩ := bd_e h
      refine g_cS C [(0, x3), (0, 0)] (cX12_more_ok l hC eq31) km_RX12_458 cs_X12_more rfl (by decide) rfl rfl (Nat.le_of_ble_eq_true rfl) dX12_needOf_132 ?_
      refine g_istore_n C (f := 3) (ls' := [(3, (0, q31.1)), (0, (2, x0)), (1, (0, x1)), (2, (0, x2))]) dX12_needOf_135 (by decide) rfl ?_
      refine g_sub [1, 2, 3, 0] rfl rfl ?_
      exact tX12_needOf_136 C hr hlk hC _ _ _ _ _ T0 h
theorem tX12_needOf_88 (C : MC_ E p s m c cX12_needOf 4 RX12) (hr : meth.sig.returnType = (some FieldType.int)) (hlk : meth.locks = false) (hC : Cl_ E.2.2.2.2.2 sz) {out : Int × V_} (x0 x1 x2 x3 : Int) (v : V_) (T0 : (E.2.2.2.2.2 x0 ∧ ty_ x0 = 12 ∧ ln_ x0 = 0)) (h : fX12_needOf_88 x0 x1 x2 x3 v = some out) : G_ E p l e (rm_ 2 45) s m args below meth c 4 sz (Q_ E below args s sz sz 0 out.1 out.2) 88 [(0, (2, x0)), (1, (0, x1)), (2, (0, x2)), (3, (0, x3))] [] v sz := by
  rw [fX12_needOf_88] at h
  refine g_aload_n C (f := 0) dX12_needOf_88 0 rfl ?_
  refine g_iload_n C (f := 1) dX12_needOf_89 1 rfl ?_
  obtain ⟨q10, eq10, h⟩ := bd_e h
  refine g_cV C [(0, x1)] (cX12_isStore_ok l hC T0 eq10) okX12 T0.2.1 (rg_ hC T0.1) km_RX12_449 cv_X12_isStore rfl (by decide) rfl rfl (Nat.le_of_ble_eq_true rfl) dX12_needOf_90 ?_
  refine g_if_eq C 114 dX12_needOf_93 rfl (fun c11 => ?_) (fun c11 => ?_)
  · replace h := if_t h c11
    refine g_sub [0, 1, 2, 3] rfl rfl ?_
    exact tX12_needOf_114 C hr hlk hC _ _ _ _ _ T0 h
  · replace h := if_f h c11
    refine g_aload_n C (f := 0) dX12_needOf_96 0 rfl ?_
    refine g_iload_n C (f := 2) dX12_needOf_97 2 rfl ?_
    obtain ⟨q32, eq32, h⟩ := bd_e h
    refine g_cV C [(0, x2)] (cX12_isLoad_ok l hC T0 eq32) okX12 T0.2.1 (rg_ hC T0.1) km_RX12_461 cv_X12_isLoad rfl (by decide) rfl rfl (Nat.le_of_ble_eq_true rfl) dX12_needOf_98 ?_
    refine g_if_eq C 114 dX12_needOf_101 rfl (fun c33 => ?_) (fun c33 => ?_)
    · replace h := if_t h c33
      refine g_sub [0, 1, 2, 3] rfl rfl ?_
      exact tX12_needOf_114 C hr hlk hC _ _ _ _ _ T0 h
    · replace h := if_f h c33
      refine g_iload_n C (f := 3) dX12_needOf_104 3 rfl ?_
      refine g_aload_n C (f := 0) dX12_needOf_105 0 rfl ?_
      refine g_iload_n C (f := 1) dX12_needOf_106 1 rfl ?_
      obtain ⟨q34, eq34, h⟩ := bd_e h
      refine g_cV C [(0, x1)] (cX12_takesItem_ok l hC T0 eq34) okX12 T0.2.1 (rg_ hC T0.1) km_RX12_455 cv_X12_takesItem rfl (by decide) rfl rfl (Nat.le_of_ble_eq_true rfl) dX12_needOf_107 ?_
      obtain ⟨q35, eq35, h⟩ := bd_e h
      refine g_cS C [(0, x3), (0, q34.1)] (cX12_more_ok l hC eq35) km_RX12_458 cs_X12_more rfl (by decide) rfl rfl (Nat.le_of_ble_eq_true rfl) dX12_needOf_110 ?_
      refine g_istore_n C (f := 3) (ls' := [(3, (0, q35.1)), (0, (2, x0)), (1, (0, x1)), (2, (0, x2))]) dX12_needOf_113 (by decide) rfl ?_
      refine g_sub [1, 2, 3, 0] rfl rfl ?_
      exact tX12_needOf_114 C hr hlk hC _ _ _ _ _ T0 h
theorem tX12_needOf_42 (C : MC_ E p s m c cX12_needOf 4 RX12) (hr : meth.sig.returnType = (some FieldType.int)) (hlk : meth.locks = false) (hC : Cl_ E.2.2.2.2.2 sz) {out : Int × V_} (x0 x1 x2 x3 : Int) (v : V_) (T0 : (E.2.2.2.2.2 x0 ∧ ty_ x0 = 12 ∧ ln_ x0 = 0)) (h : fX12_needOf_42 x0 x1 x2 x3 v = some out) : G_ E p l e (rm_ 2 45) s m args below meth c 4 sz (Q_ E below args s sz sz 0 out.1 out.2) 42 [(0, (2, x0)), (1, (0, x1)), (2, (0, x2)), (3, (0, x3))] [] v sz := by
  rw [fX12_needOf_42] at h
  refine g_aload_n C (f := 0) dX12_needOf_42 0 rfl ?_
  have F7 := fX12_59 hC T0.1 T0.2.1
  refine g_getR C (k := 59) (o := 40) okX12 (by decide) kf_RX12_136 dX12_needOf_43 hC T0.1 T0.2.1 rfl rfl ?_
  refine g_iload_n C (f := 1) dX12_needOf_46 1 rfl ?_
  obtain ⟨c8, h⟩ := ck_e h
  refine g_iald C 272 dX12_needOf_47 (rg_ hC F7.1) F7.2.1 F7.2.2 c8 ?_
  refine g_if_lt C 88 dX12_needOf_48 rfl (fun c9 => ?_) (fun c9 => ?_)
  · replace h := if_t h c9
    refine g_sub [0, 1, 2, 3] rfl rfl ?_
    exact tX12_needOf_88 C hr hlk hC _ _ _ _ _ T0 h
  · replace h := if_f h c9
    refine g_aload_n C (f := 0) dX12_needOf_51 0 rfl ?_
    have F36 := fX12_59 hC T0.1 T0.2.1
    refine g_getR C (k := 59) (o := 40) okX12 (by decide) kf_RX12_136 dX12_needOf_52 hC T0.1 T0.2.1 rfl rfl ?_
    refine g_iload_n C (f := 1) dX12_needOf_55 1 rfl ?_
    obtain ⟨c37, h⟩ := ck_e h
    refine g_iald C 272 dX12_needOf_56 (rg_ hC F36.1) F36.2.1 F36.2.2 c37 ?_
    refine g_aload_n C (f := 0) dX12_needOf_57 0 rfl ?_
    have F38 := fX12_59 hC T0.1 T0.2.1
    refine g_getR C (k := 59) (o := 40) okX12 (by decide) kf_RX12_136 dX12_needOf_58 hC T0.1 T0.2.1 rfl rfl ?_
    refine g_iload_n C (f := 2) dX12_needOf_61 2 rfl ?_
    obtain ⟨c39, h⟩ := ck_e h
    refine g_iald C 272 dX12_needOf_62 (rg_ hC F38.1) F38.2.1 F38.2.2 c39 ?_
    refine g_icmp_ne C 88 dX12_needOf_63 rfl (fun c40 => ?_) (fun c40 => ?_)
    · replace h := if_f h c40
      refine g_sub [0, 1, 2, 3] rfl rfl ?_
      exact tX12_needOf_88 C hr hlk hC _ _ _ _ _ T0 h
    · replace h := if_t h c40
      refine g_iload_n C (f := 3) dX12_needOf_66 3 rfl ?_
      refine g_iconst C (n := 1) dX12_needOf_67 (by decide) ?_
      refine g_aload_n C (f := 0) dX12_needOf_68 0 rfl ?_
      refine g_iload_n C (f := 1) dX12_needOf_69 1 rfl ?_
      obtain ⟨q41, eq41, h⟩ := bd_e h
      refine g_cV C [(0, x1)] (cX12_takesItem_ok l hC T0 eq41) okX12 T0.2.1 (rg_ hC T0.1) km_RX12_455 cv_X12_takesItem rfl (by decide) rfl rfl (Nat.le_of_ble_eq_true rfl) dX12_needOf_70 ?_
      refine g_aload_n C (f := 0) dX12_needOf_73 0 rfl ?_
      refine g_iload_n C (f := 2) dX12_needOf_74 2 rfl ?_
      obtain ⟨q42, eq42, h⟩ := bd_e h
      refine g_cV C [(0, x2)] (cX12_takesItem_ok l hC T0 eq42) okX12 T0.2.1 (rg_ hC T0.1) km_RX12_455 cv_X12_takesItem rfl (by decide) rfl rfl (Nat.le_of_ble_eq_true rfl) dX12_needOf_75 ?_
      refine g_isub C dX12_needOf_78 ?_
      refine g_iconst C (n := 1) dX12_needOf_79 (by decide) ?_
      refine g_iadd C dX12_needOf_80 ?_
      obtain ⟨q43, eq43, h⟩ := bd_e h
      refine g_cS C [(0, 1), (0, wr_ ((wr_ (q41.1 - q42.1)) + 1))] (cX12_more_ok l hC eq43) km_RX12_458 cs_X12_more rfl (by decide) rfl rfl (Nat.le_of_ble_eq_true rfl) dX12_needOf_81 ?_
      obtain ⟨q44, eq44, h⟩ := bd_e h
      refine g_cS C [(0, x3), (0, q43.1)] (cX12_more_ok l hC eq44) km_RX12_458 cs_X12_more rfl (by decide) rfl rfl (Nat.le_of_ble_eq_true rfl) dX12_needOf_84 ?_
      refine g_istore_n C (f := 3) (ls' := [(3, (0, q44.1)), (0, (2, x0)), (1, (0, x1)), (2, (0, x2))]) dX12_needOf_87 (by decide) rfl ?_
      refine g_sub [1, 2, 3, 0] rfl rfl ?_
      exact tX12_needOf_88 C hr hlk hC _ _ _ _ _ T0 h
theorem tX12_needOf_22 (C : MC_ E p s m c cX12_needOf 4 RX12) (hr : meth.sig.returnType = (some FieldType.int)) (hlk : meth.locks = false) (hC : Cl_ E.2.2.2.2.2 sz) {out : Int × V_} (x0 x1 x2 x3 : Int) (v : V_) (T0 : (E.2.2.2.2.2 x0 ∧ ty_ x0 = 12 ∧ ln_ x0 = 0)) (h : fX12_needOf_22 x0 x1 x2 x3 v = some out) : G_ E p l e (rm_ 2 45) s m args below meth c 4 sz (Q_ E below args s sz sz 0 out.1 out.2) 22 [(0, (2, x0)), (1, (0, x1)), (2, (0, x2)), (3, (0, x3))] [] v sz := by
  rw [fX12_needOf_22] at h
  refine g_aload_n C (f := 0) dX12_needOf_22 0 rfl ?_
  refine g_iload_n C (f := 1) dX12_needOf_23 1 rfl ?_
  refine g_aload_n C (f := 0) dX12_needOf_24 0 rfl ?_
  have F3 := fX12_59 hC T0.1 T0.2.1
  refine g_getR C (k := 59) (o := 40) okX12 (by decide) kf_RX12_136 dX12_needOf_25 hC T0.1 T0.2.1 rfl rfl ?_
  refine g_iload_n C (f := 2) dX12_needOf_28 2 rfl ?_
  obtain ⟨c4, h⟩ := ck_e h
  refine g_iald C 272 dX12_needOf_29 (rg_ hC F3.1) F3.2.1 F3.2.2 c4 ?_
  obtain ⟨q5, eq5, h⟩ := bd_e h
  refine g_cV C [(0, x1), (0, v (x0 + 40) x2)] (cX12_doesRead_ok l hC T0 eq5) okX12 T0.2.1 (rg_ hC T0.1) km_RX12_446 cv_X12_doesRead rfl (by decide) rfl rfl (Nat.le_of_ble_eq_true rfl) dX12_needOf_30 ?_
  refine g_if_eq C 42 dX12_needOf_33 rfl (fun c6 => ?_) (fun c6 => ?_)
  · replace h := if_t h c6
    refine g_sub [0, 1, 2, 3] rfl rfl ?_
    exact tX12_needOf_42 C hr hlk hC _ _ _ _ _ T0 h
  · replace h := if_f h c6
    refine g_iload_n C (f := 3) dX12_needOf_36 3 rfl ?_
    refine g_iconst C (n := 0) dX12_needOf_37 (by decide) ?_
    obtain ⟨q45, eq45, h⟩ := bd_e h
    refine g_cS C [(0, x3), (0, 0)] (cX12_more_ok l hC eq45) km_RX12_458 cs_X12_more rfl (by decide) rfl rfl (Nat.le_of_ble_eq_true rfl) dX12_needOf_38 ?_
    refine g_istore_n C (f := 3) (ls' := [(3, (0, q45.1)), (0, (2, x0)), (1, (0, x1)), (2, (0, x2))]) dX12_needOf_41 (by decide) rfl ?_
    refine g_sub [1, 2, 3, 0] rfl rfl ?_
    exact tX12_needOf_42 C hr hlk hC _ _ _ _ _ T0 h
end
theorem cX12_needOf_ok (l : Launch) {E : En_} {sz : Int} (hC : Cl_ E.2.2.2.2.2 sz) {x0 x1 x2 : Int} {v : V_} {out : Int × V_} (T0 : (E.2.2.2.2.2 x0 ∧ ty_ x0 = 12 ∧ ln_ x0 = 0)) (h : fX12_needOf x0 x1 x2 v = some out) : Met l yX12_needOf [.code yX12_needOf cX12_needOf 4 (some FieldType.int)] (rm_ 2 45) (Pc_ E sz v [(2, x0), (0, x1), (0, x2)]) (Qc_ E sz 0 out.1 out.2) 0 0 (fun q => E.1 < q) := by
  refine met_G0 RX12 (by decide +kernel) rfl (Nat.le_of_ble_eq_true rfl) ?_
  intro p e s m args below meth c C hr hlk
  rw [fX12_needOf] at h
  refine g_bipush C (n := (-2)) dX12_needOf_0 (by decide) ?_
  refine g_istore_n C (f := 3) (ls' := [(3, (0, (-2))), (0, (2, x0)), (1, (0, x1)), (2, (0, x2))]) dX12_needOf_2 (by decide) rfl ?_
  refine g_aload_n C (f := 0) dX12_needOf_3 1 rfl ?_
  refine g_iload_n C (f := 1) dX12_needOf_4 2 rfl ?_
  refine g_iload_n C (f := 2) dX12_needOf_5 3 rfl ?_
  obtain ⟨q1, eq1, h⟩ := bd_e h
  refine g_cV C [(0, x1), (0, x2)] (cX12_isLastSet_ok l hC T0 eq1) okX12 T0.2.1 (rg_ hC T0.1) km_RX12_452 cv_X12_isLastSet rfl (by decide) rfl rfl (Nat.le_of_ble_eq_true rfl) dX12_needOf_6 ?_
  refine g_if_eq C 22 dX12_needOf_9 rfl (fun c2 => ?_) (fun c2 => ?_)
  · replace h := if_t h c2
    refine g_sub [1, 2, 3, 0] rfl rfl ?_
    exact tX12_needOf_22 C hr hlk hC _ _ _ _ _ T0 h
  · replace h := if_f h c2
    refine g_iload_n C (f := 3) dX12_needOf_12 0 rfl ?_
    refine g_aload_n C (f := 0) dX12_needOf_13 1 rfl ?_
    refine g_iload_n C (f := 1) dX12_needOf_14 2 rfl ?_
    obtain ⟨q46, eq46, h⟩ := bd_e h
    refine g_cV C [(0, x1)] (cX12_takesItem_ok l hC T0 eq46) okX12 T0.2.1 (rg_ hC T0.1) km_RX12_455 cv_X12_takesItem rfl (by decide) rfl rfl (Nat.le_of_ble_eq_true rfl) dX12_needOf_15 ?_
    obtain ⟨q47, eq47, h⟩ := bd_e h
    refine g_cS C [(0, (-2)), (0, q46.1)] (cX12_more_ok l hC eq47) km_RX12_458 cs_X12_more rfl (by decide) rfl rfl (Nat.le_of_ble_eq_true rfl) dX12_needOf_18 ?_
    refine g_istore_n C (f := 3) (ls' := [(3, (0, q47.1)), (0, (2, x0)), (1, (0, x1)), (2, (0, x2))]) dX12_needOf_21 (by decide) rfl ?_
    refine g_sub [1, 2, 3, 0] rfl rfl ?_
    exact tX12_needOf_22 C hr hlk hC _ _ _ _ _ T0 h
theorem dX12_fillsNeeds_0 : decode cX12_fillsNeeds 0 = .ok (.aload_n 0, 1) := by decide +kernel
theorem dX12_fillsNeeds_1 : decode cX12_fillsNeeds 1 = .ok (.getfield 118, 3) := by decide +kernel
theorem dX12_fillsNeeds_4 : decode cX12_fillsNeeds 4 = .ok (.iload_n 1, 1) := by decide +kernel
theorem dX12_fillsNeeds_5 : decode cX12_fillsNeeds 5 = .ok (.iaload, 1) := by decide +kernel
theorem dX12_fillsNeeds_6 : decode cX12_fillsNeeds 6 = .ok (.istore_n 2, 1) := by decide +kernel
theorem dX12_fillsNeeds_7 : decode cX12_fillsNeeds 7 = .ok (.iload_n 2, 1) := by decide +kernel
theorem dX12_fillsNeeds_8 : decode cX12_fillsNeeds 8 = .ok (.iconst 1, 1) := by decide +kernel
theorem dX12_fillsNeeds_9 : decode cX12_fillsNeeds 9 = .ok (.isub, 1) := by decide +kernel
theorem dX12_fillsNeeds_10 : decode cX12_fillsNeeds 10 = .ok (.istore_n 3, 1) := by decide +kernel
theorem dX12_fillsNeeds_11 : decode cX12_fillsNeeds 11 = .ok (.iload_n 3, 1) := by decide +kernel
theorem dX12_fillsNeeds_12 : decode cX12_fillsNeeds 12 = .ok (.ifCond .lt 132, 3) := by decide +kernel
theorem dX12_fillsNeeds_15 : decode cX12_fillsNeeds 15 = .ok (.aload_n 0, 1) := by decide +kernel
theorem dX12_fillsNeeds_16 : decode cX12_fillsNeeds 16 = .ok (.getfield 151, 3) := by decide +kernel
theorem dX12_fillsNeeds_19 : decode cX12_fillsNeeds 19 = .ok (.bipush 34, 2) := by decide +kernel
theorem dX12_fillsNeeds_21 : decode cX12_fillsNeeds 21 = .ok (.iload_n 1, 1) := by decide +kernel
theorem dX12_fillsNeeds_22 : decode cX12_fillsNeeds 22 = .ok (.imul, 1) := by decide +kernel
theorem dX12_fillsNeeds_23 : decode cX12_fillsNeeds 23 = .ok (.iload_n 3, 1) := by decide +kernel
theorem dX12_fillsNeeds_24 : decode cX12_fillsNeeds 24 = .ok (.iadd, 1) := by decide +kernel
theorem dX12_fillsNeeds_25 : decode cX12_fillsNeeds 25 = .ok (.iconst 0, 1) := by decide +kernel
theorem dX12_fillsNeeds_26 : decode cX12_fillsNeeds 26 = .ok (.iastore, 1) := by decide +kernel
theorem dX12_fillsNeeds_27 : decode cX12_fillsNeeds 27 = .ok (.iload_n 3, 1) := by decide +kernel
theorem dX12_fillsNeeds_28 : decode cX12_fillsNeeds 28 = .ok (.iconst 1, 1) := by decide +kernel
theorem dX12_fillsNeeds_29 : decode cX12_fillsNeeds 29 = .ok (.iadd, 1) := by decide +kernel
theorem dX12_fillsNeeds_30 : decode cX12_fillsNeeds 30 = .ok (.istore 4, 2) := by decide +kernel
theorem dX12_fillsNeeds_32 : decode cX12_fillsNeeds 32 = .ok (.iload 4, 2) := by decide +kernel
theorem dX12_fillsNeeds_34 : decode cX12_fillsNeeds 34 = .ok (.iload_n 2, 1) := by decide +kernel
theorem dX12_fillsNeeds_35 : decode cX12_fillsNeeds 35 = .ok (.if_icmp .ge 103, 3) := by decide +kernel
theorem dX12_fillsNeeds_38 : decode cX12_fillsNeeds 38 = .ok (.aload_n 0, 1) := by decide +kernel
theorem dX12_fillsNeeds_39 : decode cX12_fillsNeeds 39 = .ok (.getfield 160, 3) := by decide +kernel
theorem dX12_fillsNeeds_42 : decode cX12_fillsNeeds 42 = .ok (.bipush 34, 2) := by decide +kernel
theorem dX12_fillsNeeds_44 : decode cX12_fillsNeeds 44 = .ok (.iload_n 3, 1) := by decide +kernel
theorem dX12_fillsNeeds_45 : decode cX12_fillsNeeds 45 = .ok (.imul, 1) := by decide +kernel
theorem dX12_fillsNeeds_46 : decode cX12_fillsNeeds 46 = .ok (.iload 4, 2) := by decide +kernel
theorem dX12_fillsNeeds_48 : decode cX12_fillsNeeds 48 = .ok (.iadd, 1) := by decide +kernel
theorem dX12_fillsNeeds_49 : decode cX12_fillsNeeds 49 = .ok (.aload_n 0, 1) := by decide +kernel
theorem dX12_fillsNeeds_50 : decode cX12_fillsNeeds 50 = .ok (.bipush 34, 2) := by decide +kernel
theorem dX12_fillsNeeds_52 : decode cX12_fillsNeeds 52 = .ok (.iload_n 1, 1) := by decide +kernel
theorem dX12_fillsNeeds_53 : decode cX12_fillsNeeds 53 = .ok (.imul, 1) := by decide +kernel
theorem dX12_fillsNeeds_54 : decode cX12_fillsNeeds 54 = .ok (.iload_n 3, 1) := by decide +kernel
theorem dX12_fillsNeeds_55 : decode cX12_fillsNeeds 55 = .ok (.iadd, 1) := by decide +kernel
theorem dX12_fillsNeeds_56 : decode cX12_fillsNeeds 56 = .ok (.bipush 34, 2) := by decide +kernel
theorem dX12_fillsNeeds_58 : decode cX12_fillsNeeds 58 = .ok (.iload_n 1, 1) := by decide +kernel
theorem dX12_fillsNeeds_59 : decode cX12_fillsNeeds 59 = .ok (.imul, 1) := by decide +kernel
theorem dX12_fillsNeeds_60 : decode cX12_fillsNeeds 60 = .ok (.iload 4, 2) := by decide +kernel
theorem dX12_fillsNeeds_62 : decode cX12_fillsNeeds 62 = .ok (.iadd, 1) := by decide +kernel
theorem dX12_fillsNeeds_63 : decode cX12_fillsNeeds 63 = .ok (.invokevirtual 467, 3) := by decide +kernel
theorem dX12_fillsNeeds_66 : decode cX12_fillsNeeds 66 = .ok (.iastore, 1) := by decide +kernel
theorem dX12_fillsNeeds_67 : decode cX12_fillsNeeds 67 = .ok (.aload_n 0, 1) := by decide +kernel
theorem dX12_fillsNeeds_68 : decode cX12_fillsNeeds 68 = .ok (.getfield 160, 3) := by decide +kernel
theorem dX12_fillsNeeds_71 : decode cX12_fillsNeeds 71 = .ok (.bipush 34, 2) := by decide +kernel
theorem dX12_fillsNeeds_73 : decode cX12_fillsNeeds 73 = .ok (.iload_n 3, 1) := by decide +kernel
theorem dX12_fillsNeeds_74 : decode cX12_fillsNeeds 74 = .ok (.imul, 1) := by decide +kernel
theorem dX12_fillsNeeds_75 : decode cX12_fillsNeeds 75 = .ok (.iload 4, 2) := by decide +kernel
theorem dX12_fillsNeeds_77 : decode cX12_fillsNeeds 77 = .ok (.iadd, 1) := by decide +kernel
theorem dX12_fillsNeeds_78 : decode cX12_fillsNeeds 78 = .ok (.iaload, 1) := by decide +kernel
theorem dX12_fillsNeeds_79 : decode cX12_fillsNeeds 79 = .ok (.ifCond .lt 53, 3) := by decide +kernel
theorem dX12_fillsNeeds_82 : decode cX12_fillsNeeds 82 = .ok (.aload_n 0, 1) := by decide +kernel
theorem dX12_fillsNeeds_83 : decode cX12_fillsNeeds 83 = .ok (.getfield 151, 3) := by decide +kernel
theorem dX12_fillsNeeds_86 : decode cX12_fillsNeeds 86 = .ok (.bipush 34, 2) := by decide +kernel
theorem dX12_fillsNeeds_88 : decode cX12_fillsNeeds 88 = .ok (.iload_n 1, 1) := by decide +kernel
theorem dX12_fillsNeeds_89 : decode cX12_fillsNeeds 89 = .ok (.imul, 1) := by decide +kernel
theorem dX12_fillsNeeds_90 : decode cX12_fillsNeeds 90 = .ok (.iload_n 3, 1) := by decide +kernel
theorem dX12_fillsNeeds_91 : decode cX12_fillsNeeds 91 = .ok (.iadd, 1) := by decide +kernel
theorem dX12_fillsNeeds_92 : decode cX12_fillsNeeds 92 = .ok (.aload_n 0, 1) := by decide +kernel
theorem dX12_fillsNeeds_93 : decode cX12_fillsNeeds 93 = .ok (.getfield 151, 3) := by decide +kernel
theorem dX12_fillsNeeds_96 : decode cX12_fillsNeeds 96 = .ok (.bipush 34, 2) := by decide +kernel
theorem dX12_fillsNeeds_98 : decode cX12_fillsNeeds 98 = .ok (.iload_n 1, 1) := by decide +kernel
theorem dX12_fillsNeeds_99 : decode cX12_fillsNeeds 99 = .ok (.imul, 1) := by decide +kernel
theorem dX12_fillsNeeds_100 : decode cX12_fillsNeeds 100 = .ok (.iload_n 3, 1) := by decide +kernel
theorem dX12_fillsNeeds_101 : decode cX12_fillsNeeds 101 = .ok (.iadd, 1) := by decide +kernel
theorem dX12_fillsNeeds_102 : decode cX12_fillsNeeds 102 = .ok (.iaload, 1) := by decide +kernel
theorem dX12_fillsNeeds_103 : decode cX12_fillsNeeds 103 = .ok (.aload_n 0, 1) := by decide +kernel
theorem dX12_fillsNeeds_104 : decode cX12_fillsNeeds 104 = .ok (.getfield 160, 3) := by decide +kernel
theorem dX12_fillsNeeds_107 : decode cX12_fillsNeeds 107 = .ok (.bipush 34, 2) := by decide +kernel
theorem dX12_fillsNeeds_109 : decode cX12_fillsNeeds 109 = .ok (.iload_n 3, 1) := by decide +kernel
theorem dX12_fillsNeeds_110 : decode cX12_fillsNeeds 110 = .ok (.imul, 1) := by decide +kernel
theorem dX12_fillsNeeds_111 : decode cX12_fillsNeeds 111 = .ok (.iload 4, 2) := by decide +kernel
theorem dX12_fillsNeeds_113 : decode cX12_fillsNeeds 113 = .ok (.iadd, 1) := by decide +kernel
theorem dX12_fillsNeeds_114 : decode cX12_fillsNeeds 114 = .ok (.iaload, 1) := by decide +kernel
theorem dX12_fillsNeeds_115 : decode cX12_fillsNeeds 115 = .ok (.aload_n 0, 1) := by decide +kernel
theorem dX12_fillsNeeds_116 : decode cX12_fillsNeeds 116 = .ok (.getfield 151, 3) := by decide +kernel
theorem dX12_fillsNeeds_119 : decode cX12_fillsNeeds 119 = .ok (.bipush 34, 2) := by decide +kernel
theorem dX12_fillsNeeds_121 : decode cX12_fillsNeeds 121 = .ok (.iload_n 1, 1) := by decide +kernel
theorem dX12_fillsNeeds_122 : decode cX12_fillsNeeds 122 = .ok (.imul, 1) := by decide +kernel
theorem dX12_fillsNeeds_123 : decode cX12_fillsNeeds 123 = .ok (.iload 4, 2) := by decide +kernel
theorem dX12_fillsNeeds_125 : decode cX12_fillsNeeds 125 = .ok (.iadd, 1) := by decide +kernel
theorem dX12_fillsNeeds_126 : decode cX12_fillsNeeds 126 = .ok (.iaload, 1) := by decide +kernel
theorem dX12_fillsNeeds_127 : decode cX12_fillsNeeds 127 = .ok (.iadd, 1) := by decide +kernel
theorem dX12_fillsNeeds_128 : decode cX12_fillsNeeds 128 = .ok (.invokestatic 458, 3) := by decide +kernel
theorem dX12_fillsNeeds_131 : decode cX12_fillsNeeds 131 = .ok (.iastore, 1) := by decide +kernel
theorem dX12_fillsNeeds_132 : decode cX12_fillsNeeds 132 = .ok (.iinc 4 1, 3) := by decide +kernel
theorem dX12_fillsNeeds_135 : decode cX12_fillsNeeds 135 = .ok (.goto (-103), 3) := by decide +kernel
theorem dX12_fillsNeeds_138 : decode cX12_fillsNeeds 138 = .ok (.iinc 3 (-1), 3) := by decide +kernel
theorem dX12_fillsNeeds_141 : decode cX12_fillsNeeds 141 = .ok (.goto (-130), 3) := by decide +kernel
theorem dX12_fillsNeeds_144 : decode cX12_fillsNeeds 144 = .ok (.return_, 1) := by decide +kernel
def fX12_fillsNeeds_32 (k11 : Int → Int → Int → Int → V_ → Option (Int × V_)) : Nat → Int → Int → Int → Int → Int → V_ → Option (Int × V_)
  | 0, _, _, _, _, _, _ => none
  | n + 1, x0, x1, x2, x3, x4, v =>
    if x2 ≤ x4 then (
      lt_ (wr_ (x3 + (-1))) fun y11 =>
      k11 x0 x1 x2 y11 v)
    else (
      bd_ (fX12_needOf x0 (wr_ ((wr_ (34 * x1)) + x3)) (wr_ ((wr_ (34 * x1)) + x4)) v) fun q13 =>
      ck_ (0 ≤ wr_ ((wr_ (34 * x3)) + x4) ∧ wr_ ((wr_ (34 * x3)) + x4) < 1156) (
      lt_ (up_ q13.2 (x0 + 48) (wr_ ((wr_ (34 * x3)) + x4)) q13.1) fun v15 =>
      ck_ (0 ≤ wr_ ((wr_ (34 * x3)) + x4) ∧ wr_ ((wr_ (34 * x3)) + x4) < 1156) (
      if (v15 (x0 + 48) (wr_ ((wr_ (34 * x3)) + x4))) < 0 then (
        lt_ (wr_ (x4 + 1)) fun y19 =>
        (fX12_fillsNeeds_32 k11 n) x0 x1 x2 x3 y19 v15)
      else (
        ck_ (0 ≤ wr_ ((wr_ (34 * x1)) + x3) ∧ wr_ ((wr_ (34 * x1)) + x3) < 272) (
        ck_ (0 ≤ wr_ ((wr_ (34 * x3)) + x4) ∧ wr_ ((wr_ (34 * x3)) + x4) < 1156) (
        ck_ (0 ≤ wr_ ((wr_ (34 * x1)) + x4) ∧ wr_ ((wr_ (34 * x1)) + x4) < 272) (
        bd_ (fX12_more (v15 (x0 + 45) (wr_ ((wr_ (34 * x1)) + x3))) (wr_ ((v15 (x0 + 48) (wr_ ((wr_ (34 * x3)) + x4))) + (v15 (x0 + 45) (wr_ ((wr_ (34 * x1)) + x4))))) v15) fun q27 =>
        ck_ (0 ≤ wr_ ((wr_ (34 * x1)) + x3) ∧ wr_ ((wr_ (34 * x1)) + x3) < 272) (
        lt_ (up_ q27.2 (x0 + 45) (wr_ ((wr_ (34 * x1)) + x3)) q27.1) fun v29 =>
        lt_ (wr_ (x4 + 1)) fun y30 =>
        (fX12_fillsNeeds_32 k11 n) x0 x1 x2 x3 y30 v29))))))))
def fX12_fillsNeeds_11 : Nat → Int → Int → Int → Int → V_ → Option (Int × V_)
  | 0, _, _, _, _, _ => none
  | n + 1, x0, x1, x2, x3, v =>
    if x3 < 0 then (
      some (0, v))
    else (
      ck_ (0 ≤ wr_ ((wr_ (34 * x1)) + x3) ∧ wr_ ((wr_ (34 * x1)) + x3) < 272) (
      lt_ (up_ v (x0 + 45) (wr_ ((wr_ (34 * x1)) + x3)) 0) fun v8 =>
      lt_ (wr_ (x3 + 1)) fun y9 =>
      fX12_fillsNeeds_32 (fX12_fillsNeeds_11 n) fu_ x0 x1 x2 x3 y9 v8))
def fX12_fillsNeeds (x0 x1 : Int) (v : V_) : Option (Int × V_) :=
  ck_ (0 ≤ x1 ∧ x1 < 8) (
  lt_ (v (x0 + 34) x1) fun y3 =>
  lt_ (wr_ (y3 - 1)) fun y4 =>
  fX12_fillsNeeds_11 fu_ x0 x1 y3 y4 v)
section
variable {E : En_} {p : Program} {l : Launch} {e : Env} {s : State} {m : MethodId} {args : Array Value} {below : List Frame} {meth : Method} {c : Code} {sz : Int}
theorem tX12_fillsNeeds_32 (C : MC_ E p s m c cX12_fillsNeeds 5 RX12) (hr : meth.sig.returnType = (none : Option FieldType)) (hlk : meth.locks = false) (hC : Cl_ E.2.2.2.2.2 sz) {out : Int × V_} (k11 : Int → Int → Int → Int → V_ → Option (Int × V_)) (H_11 : ∀ (x0 x1 x2 x3 : Int) (v : V_), (E.2.2.2.2.2 x0 ∧ ty_ x0 = 12 ∧ ln_ x0 = 0) → k11 x0 x1 x2 x3 v = some out → G_ E p l e (rm_ 3 68) s m args below meth c 5 sz (Q_ E below args s sz sz 9 out.1 out.2) 11 [(0, (2, x0)), (1, (0, x1)), (2, (0, x2)), (3, (0, x3))] [] v sz) : ∀ (n : Nat) (x0 x1 x2 x3 x4 : Int) (v : V_), (E.2.2.2.2.2 x0 ∧ ty_ x0 = 12 ∧ ln_ x0 = 0) → fX12_fillsNeeds_32 k11 n x0 x1 x2 x3 x4 v = some out → G_ E p l e (rm_ 3 68) s m args below meth c 5 sz (Q_ E below args s sz sz 9 out.1 out.2) 32 [(0, (2, x0)), (1, (0, x1)), (2, (0, x2)), (3, (0, x3)), (4, (0, x4))] [] v sz := by
  intro n
  induction n with
  | zero =>
    intro x0 x1 x2 x3 x4 v T0 h
    cases h
  | succ n H_32 =>
    intro x0 x1 x2 x3 x4 v T0 h
    rw [fX12_fillsNeeds_32] at h
    refine g_iload C (i := 4) dX12_fillsNeeds_32 4 rfl ?_
    refine g_iload_n C (f := 2) dX12_fillsNeeds_34 2 rfl ?_
    refine g_icmp_ge C 138 dX12_fillsNeeds_35 rfl (fun c10 => ?_) (fun c10 => ?_)
    · replace h := if_t h c10
      obtain ⟨y11, ey11, h⟩ := lt_e h
      refine g_iincx C (ls' := [(3, (0, y11)), (0, (2, x0)), (1, (0, x1)), (2, (0, x2)), (4, (0, x4))]) ey11 dX12_fillsNeeds_138 3 rfl (by decide) (by decide) rfl ?_
      refine g_goto C 11 dX12_fillsNeeds_141 rfl ?_
      refine g_sub [1, 2, 3, 0] rfl rfl ?_
      exact H_11 _ _ _ _ _ T0 h
    · replace h := if_f h c10
      refine g_aload_n C (f := 0) dX12_fillsNeeds_38 0 rfl ?_
      have F12 := fX12_67 hC T0.1 T0.2.1
      refine g_getR C (k := 67) (o := 48) okX12 (by decide) kf_RX12_160 dX12_fillsNeeds_39 hC T0.1 T0.2.1 rfl rfl ?_
      refine g_bipush C (n := 34) dX12_fillsNeeds_42 (by decide) ?_
      refine g_iload_n C (f := 3) dX12_fillsNeeds_44 3 rfl ?_
      refine g_imul C dX12_fillsNeeds_45 ?_
      refine g_iload C (i := 4) dX12_fillsNeeds_46 4 rfl ?_
      refine g_iadd C dX12_fillsNeeds_48 ?_
      refine g_aload_n C (f := 0) dX12_fillsNeeds_49 0 rfl ?_
      refine g_bipush C (n := 34) dX12_fillsNeeds_50 (by decide) ?_
      refine g_iload_n C (f := 1) dX12_fillsNeeds_52 1 rfl ?_
      refine g_imul C dX12_fillsNeeds_53 ?_
      refine g_iload_n C (f := 3) dX12_fillsNeeds_54 3 rfl ?_
      refine g_iadd C dX12_fillsNeeds_55 ?_
      refine g_bipush C (n := 34) dX12_fillsNeeds_56 (by decide) ?_
      refine g_iload_n C (f := 1) dX12_fillsNeeds_58 1 rfl ?_
      refine g_imul C dX12_fillsNeeds_59 ?_
      refine g_iload C (i := 4) dX12_fillsNeeds_60 4 rfl ?_
      refine g_iadd C dX12_fillsNeeds_62 ?_
      obtain ⟨q13, eq13, h⟩ := bd_e h
      refine g_cV C [(0, wr_ ((wr_ (34 * x1)) + x3)), (0, wr_ ((wr_ (34 * x1)) + x4))] (cX12_needOf_ok l hC T0 eq13) okX12 T0.2.1 (rg_ hC T0.1) km_RX12_467 cv_X12_needOf rfl (by decide) rfl rfl (Nat.le_of_ble_eq_true rfl) dX12_fillsNeeds_63 ?_
      obtain ⟨c14, h⟩ := ck_e h
      obtain ⟨v15, ev15, h⟩ := lt_e h
      refine g_iast C 1156 dX12_fillsNeeds_66 (rg_ hC F12.1) F12.2.1 F12.2.2 c14 v15 ev15 ?_
      refine g_aload_n C (f := 0) dX12_fillsNeeds_67 0 rfl ?_
      have F16 := fX12_67 hC T0.1 T0.2.1
      refine g_getR C (k := 67) (o := 48) okX12 (by decide) kf_RX12_160 dX12_fillsNeeds_68 hC T0.1 T0.2.1 rfl rfl ?_
      refine g_bipush C (n := 34) dX12_fillsNeeds_71 (by decide) ?_
      refine g_iload_n C (f := 3) dX12_fillsNeeds_73 3 rfl ?_
      refine g_imul C dX12_fillsNeeds_74 ?_
      refine g_iload C (i := 4) dX12_fillsNeeds_75 4 rfl ?_
      refine g_iadd C dX12_fillsNeeds_77 ?_
      obtain ⟨c17, h⟩ := ck_e h
      refine g_iald C 1156 dX12_fillsNeeds_78 (rg_ hC F16.1) F16.2.1 F16.2.2 c17 ?_
      refine g_if_lt C 132 dX12_fillsNeeds_79 rfl (fun c18 => ?_) (fun c18 => ?_)
      · replace h := if_t h c18
        obtain ⟨y19, ey19, h⟩ := lt_e h
        refine g_iincx C (ls' := [(4, (0, y19)), (0, (2, x0)), (1, (0, x1)), (2, (0, x2)), (3, (0, x3))]) ey19 dX12_fillsNeeds_132 4 rfl (by decide) (by decide) rfl ?_
        refine g_goto C 32 dX12_fillsNeeds_135 rfl ?_
        refine g_sub [1, 2, 3, 4, 0] rfl rfl ?_
        exact H_32 _ _ _ _ _ _ T0 h
      · replace h := if_f h c18
        refine g_aload_n C (f := 0) dX12_fillsNeeds_82 0 rfl ?_
        have F20 := fX12_64 hC T0.1 T0.2.1
        refine g_getR C (k := 64) (o := 45) okX12 (by decide) kf_RX12_151 dX12_fillsNeeds_83 hC T0.1 T0.2.1 rfl rfl ?_
        refine g_bipush C (n := 34) dX12_fillsNeeds_86 (by decide) ?_
        refine g_iload_n C (f := 1) dX12_fillsNeeds_88 1 rfl ?_
        refine g_imul C dX12_fillsNeeds_89 ?_
        refine g_iload_n C (f := 3) dX12_fillsNeeds_90 3 rfl ?_
        refine g_iadd C dX12_fillsNeeds_91 ?_
        refine g_aload_n C (f := 0) dX12_fillsNeeds_92 0 rfl ?_
        have F21 := fX12_64 hC T0.1 T0.2.1
        refine g_getR C (k := 64) (o := 45) okX12 (by decide) kf_RX12_151 dX12_fillsNeeds_93 hC T0.1 T0.2.1 rfl rfl ?_
        refine g_bipush C (n := 34) dX12_fillsNeeds_96 (by decide) ?_
        refine g_iload_n C (f := 1) dX12_fillsNeeds_98 1 rfl ?_
        refine g_imul C dX12_fillsNeeds_99 ?_
        refine g_iload_n C (f := 3) dX12_fillsNeeds_100 3 rfl ?_
        refine g_iadd C dX12_fillsNeeds_101 ?_
        obtain ⟨c22, h⟩ := ck_e h
        refine g_iald C 272 dX12_fillsNeeds_102 (rg_ hC F21.1) F21.2.1 F21.2.2 c22 ?_
        refine g_aload_n C (f := 0) dX12_fillsNeeds_103 0 rfl ?_
        have F23 := fX12_67 hC T0.1 T0.2.1
        refine g_getR C (k := 67) (o := 48) okX12 (by decide) kf_RX12_160 dX12_fillsNeeds_104 hC T0.1 T0.2.1 rfl rfl ?_
        refine g_bipush C (n := 34) dX12_fillsNeeds_107 (by decide) ?_
        refine g_iload_n C (f := 3) dX12_fillsNeeds_109 3 rfl ?_
        refine g_imul C dX12_fillsNeeds_110 ?_
        refine g_iload C (i := 4) dX12_fillsNeeds_111 4 rfl ?_
        refine g_iadd C dX12_fillsNeeds_113 ?_
        obtain ⟨c24, h⟩ := ck_e h
        refine g_iald C 1156 dX12_fillsNeeds_114 (rg_ hC F23.1) F23.2.1 F23.2.2 c24 ?_
        refine g_aload_n C (f := 0) dX12_fillsNeeds_115 0 rfl ?_
        have F25 := fX12_64 hC T0.1 T0.2.1
        refine g_getR C (k := 64) (o := 45) okX12 (by decide) kf_RX12_151 dX12_fillsNeeds_116 hC T0.1 T0.2.1 rfl rfl ?_
        refine g_bipush C (n := 34) dX12_fillsNeeds_119 (by decide) ?_
        refine g_iload_n C (f := 1) dX12_fillsNeeds_121 1 rfl ?_
        refine g_imul C dX12_fillsNeeds_122 ?_
        refine g_iload C (i := 4) dX12_fillsNeeds_123 4 rfl ?_
        refine g_iadd C dX12_fillsNeeds_125 ?_
        obtain ⟨c26, h⟩ := ck_e h
        refine g_iald C 272 dX12_fillsNeeds_126 (rg_ hC F25.1) F25.2.1 F25.2.2 c26 ?_
        refine g_iadd C dX12_fillsNeeds_127 ?_
        obtain ⟨q27, eq27, h⟩ := bd_e h
        refine g_cS C [(0, v15 (x0 + 45) (wr_ ((wr_ (34 * x1)) + x3))), (0, wr_ ((v15 (x0 + 48) (wr_ ((wr_ (34 * x3)) + x4))) + (v15 (x0 + 45) (wr_ ((wr_ (34 * x1)) + x4)))))] (cX12_more_ok l hC eq27) km_RX12_458 cs_X12_more rfl (by decide) rfl rfl (Nat.le_of_ble_eq_true rfl) dX12_fillsNeeds_128 ?_
        obtain ⟨c28, h⟩ := ck_e h
        obtain ⟨v29, ev29, h⟩ := lt_e h
        refine g_iast C 272 dX12_fillsNeeds_131 (rg_ hC F20.1) F20.2.1 F20.2.2 c28 v29 ev29 ?_
        obtain ⟨y30, ey30, h⟩ := lt_e h
        refine g_iincx C (ls' := [(4, (0, y30)), (0, (2, x0)), (1, (0, x1)), (2, (0, x2)), (3, (0, x3))]) ey30 dX12_fillsNeeds_132 4 rfl (by decide) (by decide) rfl ?_
        refine g_goto C 32 dX12_fillsNeeds_135 rfl ?_
        refine g_sub [1, 2, 3, 4, 0] rfl rfl ?_
        exact H_32 _ _ _ _ _ _ T0 h
theorem tX12_fillsNeeds_11 (C : MC_ E p s m c cX12_fillsNeeds 5 RX12) (hr : meth.sig.returnType = (none : Option FieldType)) (hlk : meth.locks = false) (hC : Cl_ E.2.2.2.2.2 sz) {out : Int × V_} : ∀ (n : Nat) (x0 x1 x2 x3 : Int) (v : V_), (E.2.2.2.2.2 x0 ∧ ty_ x0 = 12 ∧ ln_ x0 = 0) → fX12_fillsNeeds_11 n x0 x1 x2 x3 v = some out → G_ E p l e (rm_ 3 68) s m args below meth c 5 sz (Q_ E below args s sz sz 9 out.1 out.2) 11 [(0, (2, x0)), (1, (0, x1)), (2, (0, x2)), (3, (0, x3))] [] v sz := by
  intro n
  induction n with
  | zero =>
    intro x0 x1 x2 x3 v T0 h
    cases h
  | succ n H_11 =>
    intro x0 x1 x2 x3 v T0 h
    rw [fX12_fillsNeeds_11] at h
    refine g_iload_n C (f := 3) dX12_fillsNeeds_11 3 rfl ?_
    refine g_if_lt C 144 dX12_fillsNeeds_12 rfl (fun c5 => ?_) (fun c5 => ?_)
    · replace h := if_t h c5
      cases h
      exact g_vret C dX12_fillsNeeds_144 hr hlk
    · replace h := if_f h c5
      refine g_aload_n C (f := 0) dX12_fillsNeeds_15 0 rfl ?_
      have F6 := fX12_64 hC T0.1 T0.2.1
      refine g_getR C (k := 64) (o := 45) okX12 (by decide) kf_RX12_151 dX12_fillsNeeds_16 hC T0.1 T0.2.1 rfl rfl ?_
      refine g_bipush C (n := 34) dX12_fillsNeeds_19 (by decide) ?_
      refine g_iload_n C (f := 1) dX12_fillsNeeds_21 1 rfl ?_
      refine g_imul C dX12_fillsNeeds_22 ?_
      refine g_iload_n C (f := 3) dX12_fillsNeeds_23 3 rfl ?_
      refine g_iadd C dX12_fillsNeeds_24 ?_
      refine g_iconst C (n := 0) dX12_fillsNeeds_25 (by decide) ?_
      obtain ⟨c7, h⟩ := ck_e h
      obtain ⟨v8, ev8, h⟩ := lt_e h
      refine g_iast C 272 dX12_fillsNeeds_26 (rg_ hC F6.1) F6.2.1 F6.2.2 c7 v8 ev8 ?_
      refine g_iload_n C (f := 3) dX12_fillsNeeds_27 3 rfl ?_
      refine g_iconst C (n := 1) dX12_fillsNeeds_28 (by decide) ?_
      refine g_iadd C dX12_fillsNeeds_29 ?_
      obtain ⟨y9, ey9, h⟩ := lt_e h
      refine g_set C ey9 ?_
      refine g_istore C (i := 4) (ls' := [(4, (0, y9)), (0, (2, x0)), (1, (0, x1)), (2, (0, x2)), (3, (0, x3))]) dX12_fillsNeeds_30 (by decide) rfl ?_
      refine g_sub [1, 2, 3, 4, 0] rfl rfl ?_
      exact tX12_fillsNeeds_32 C hr hlk hC _ H_11 _ _ _ _ _ _ _ T0 h
end
theorem cX12_fillsNeeds_ok (l : Launch) {E : En_} {sz : Int} (hC : Cl_ E.2.2.2.2.2 sz) {x0 x1 : Int} {v : V_} {out : Int × V_} (T0 : (E.2.2.2.2.2 x0 ∧ ty_ x0 = 12 ∧ ln_ x0 = 0)) (h : fX12_fillsNeeds x0 x1 v = some out) : Met l yX12_fillsNeeds [.code yX12_fillsNeeds cX12_fillsNeeds 5 (none : Option FieldType)] (rm_ 3 68) (Pc_ E sz v [(2, x0), (0, x1)]) (Qc_ E sz 9 out.1 out.2) 0 0 (fun q => E.1 < q) := by
  refine met_G0 RX12 (by decide +kernel) rfl (Nat.le_of_ble_eq_true rfl) ?_
  intro p e s m args below meth c C hr hlk
  rw [fX12_fillsNeeds] at h
  refine g_aload_n C (f := 0) dX12_fillsNeeds_0 0 rfl ?_
  have F1 := fX12_53 hC T0.1 T0.2.1
  refine g_getR C (k := 53) (o := 34) okX12 (by decide) kf_RX12_118 dX12_fillsNeeds_1 hC T0.1 T0.2.1 rfl rfl ?_
  refine g_iload_n C (f := 1) dX12_fillsNeeds_4 1 rfl ?_
  obtain ⟨c2, h⟩ := ck_e h
  refine g_iald C 8 dX12_fillsNeeds_5 (rg_ hC F1.1) F1.2.1 F1.2.2 c2 ?_
  obtain ⟨y3, ey3, h⟩ := lt_e h
  refine g_set C ey3 ?_
  refine g_istore_n C (f := 2) (ls' := [(2, (0, y3)), (0, (2, x0)), (1, (0, x1))]) dX12_fillsNeeds_6 (by decide) rfl ?_
  refine g_iload_n C (f := 2) dX12_fillsNeeds_7 0 rfl ?_
  refine g_iconst C (n := 1) dX12_fillsNeeds_8 (by decide) ?_
  refine g_isub C dX12_fillsNeeds_9 ?_
  obtain ⟨y4, ey4, h⟩ := lt_e h
  refine g_set C ey4 ?_
  refine g_istore_n C (f := 3) (ls' := [(3, (0, y4)), (2, (0, y3)), (0, (2, x0)), (1, (0, x1))]) dX12_fillsNeeds_10 (by decide) rfl ?_
  refine g_sub [2, 3, 1, 0] rfl rfl ?_
  exact tX12_fillsNeeds_11 C hr hlk hC _ _ _ _ _ _ T0 h
theorem dX12_goneOf_0 : decode cX12_goneOf 0 = .ok (.aload_n 0, 1) := by decide +kernel
theorem dX12_goneOf_1 : decode cX12_goneOf 1 = .ok (.getfield 88, 3) := by decide +kernel
theorem dX12_goneOf_4 : decode cX12_goneOf 4 = .ok (.bipush 22, 2) := by decide +kernel
theorem dX12_goneOf_6 : decode cX12_goneOf 6 = .ok (.iconst 2, 1) := by decide +kernel
theorem dX12_goneOf_7 : decode cX12_goneOf 7 = .ok (.iload_n 1, 1) := by decide +kernel
theorem dX12_goneOf_8 : decode cX12_goneOf 8 = .ok (.imul, 1) := by decide +kernel
theorem dX12_goneOf_9 : decode cX12_goneOf 9 = .ok (.iadd, 1) := by decide +kernel
theorem dX12_goneOf_10 : decode cX12_goneOf 10 = .ok (.iload_n 2, 1) := by decide +kernel
theorem dX12_goneOf_11 : decode cX12_goneOf 11 = .ok (.iadd, 1) := by decide +kernel
theorem dX12_goneOf_12 : decode cX12_goneOf 12 = .ok (.iaload, 1) := by decide +kernel
theorem dX12_goneOf_13 : decode cX12_goneOf 13 = .ok (.ireturn, 1) := by decide +kernel
def fX12_goneOf (x0 x1 x2 : Int) (v : V_) : Option (Int × V_) :=
  ck_ (0 ≤ wr_ ((wr_ (22 + (wr_ (2 * x1)))) + x2) ∧ wr_ ((wr_ (22 + (wr_ (2 * x1)))) + x2) < 47) (
  some (v (x0 + 24) (wr_ ((wr_ (22 + (wr_ (2 * x1)))) + x2)), v))
theorem cX12_goneOf_ok (l : Launch) {E : En_} {sz : Int} (hC : Cl_ E.2.2.2.2.2 sz) {x0 x1 x2 : Int} {v : V_} {out : Int × V_} (T0 : (E.2.2.2.2.2 x0 ∧ ty_ x0 = 12 ∧ ln_ x0 = 0)) (h : fX12_goneOf x0 x1 x2 v = some out) : Met l yX12_goneOf [.code yX12_goneOf cX12_goneOf 3 (some FieldType.int)] (rm_ 0 0) (Pc_ E sz v [(2, x0), (0, x1), (0, x2)]) (Qc_ E sz 0 out.1 out.2) 0 0 (fun q => E.1 < q) := by
  refine met_G0 RX12 (by decide +kernel) rfl (Nat.le_of_ble_eq_true rfl) ?_
  intro p e s m args below meth c C hr hlk
  rw [fX12_goneOf] at h
  refine g_aload_n C (f := 0) dX12_goneOf_0 0 rfl ?_
  have F1 := fX12_37 hC T0.1 T0.2.1
  refine g_getR C (k := 37) (o := 24) okX12 (by decide) kf_RX12_88 dX12_goneOf_1 hC T0.1 T0.2.1 rfl rfl ?_
  refine g_bipush C (n := 22) dX12_goneOf_4 (by decide) ?_
  refine g_iconst C (n := 2) dX12_goneOf_6 (by decide) ?_
  refine g_iload_n C (f := 1) dX12_goneOf_7 1 rfl ?_
  refine g_imul C dX12_goneOf_8 ?_
  refine g_iadd C dX12_goneOf_9 ?_
  refine g_iload_n C (f := 2) dX12_goneOf_10 2 rfl ?_
  refine g_iadd C dX12_goneOf_11 ?_
  obtain ⟨c2, h⟩ := ck_e h
  refine g_iald C 47 dX12_goneOf_12 (rg_ hC F1.1) F1.2.1 F1.2.2 c2 ?_
  cases h
  exact g_iret C dX12_goneOf_13 hr hlk
theorem dX12_isBlock_0 : decode cX12_isBlock 0 = .ok (.iload_n 1, 1) := by decide +kernel
theorem dX12_isBlock_1 : decode cX12_isBlock 1 = .ok (.iconst 0, 1) := by decide +kernel
theorem dX12_isBlock_2 : decode cX12_isBlock 2 = .ok (.aload_n 0, 1) := by decide +kernel
theorem dX12_isBlock_3 : decode cX12_isBlock 3 = .ok (.getfield 43, 3) := by decide +kernel
theorem dX12_isBlock_6 : decode cX12_isBlock 6 = .ok (.aload_n 0, 1) := by decide +kernel
theorem dX12_isBlock_7 : decode cX12_isBlock 7 = .ok (.getfield 272, 3) := by decide +kernel
theorem dX12_isBlock_10 : decode cX12_isBlock 10 = .ok (.iaload, 1) := by decide +kernel
theorem dX12_isBlock_11 : decode cX12_isBlock 11 = .ok (.iconst 1, 1) := by decide +kernel
theorem dX12_isBlock_12 : decode cX12_isBlock 12 = .ok (.isub, 1) := by decide +kernel
theorem dX12_isBlock_13 : decode cX12_isBlock 13 = .ok (.invokestatic 334, 3) := by decide +kernel
theorem dX12_isBlock_16 : decode cX12_isBlock 16 = .ok (.ireturn, 1) := by decide +kernel
def fX12_isBlock (x0 x1 : Int) (v : V_) : Option (Int × V_) :=
  ck_ (0 ≤ v x0 18 ∧ v x0 18 < 2) (
  bd_ (fX12_in x1 0 (wr_ ((v (x0 + 9) (v x0 18)) - 1)) v) fun q3 =>
  ck_ (q3.1 = 0 ∨ q3.1 = 1) (
  some (q3.1, q3.2)))
theorem cX12_isBlock_ok (l : Launch) {E : En_} {sz : Int} (hC : Cl_ E.2.2.2.2.2 sz) {x0 x1 : Int} {v : V_} {out : Int × V_} (T0 : (E.2.2.2.2.2 x0 ∧ ty_ x0 = 12 ∧ ln_ x0 = 0)) (h : fX12_isBlock x0 x1 v = some out) : Met l yX12_isBlock [.code yX12_isBlock cX12_isBlock 2 (some FieldType.boolean)] (rm_ 1 22) (Pc_ E sz v [(2, x0), (0, x1)]) (Qc_ E sz 0 out.1 out.2) 0 0 (fun q => E.1 < q) := by
  refine met_G0 RX12 (by decide +kernel) rfl (Nat.le_of_ble_eq_true rfl) ?_
  intro p e s m args below meth c C hr hlk
  rw [fX12_isBlock] at h
  refine g_iload_n C (f := 1) dX12_isBlock_0 1 rfl ?_
  refine g_iconst C (n := 0) dX12_isBlock_1 (by decide) ?_
  refine g_aload_n C (f := 0) dX12_isBlock_2 0 rfl ?_
  have F1 := fX12_22 hC T0.1 T0.2.1
  refine g_getR C (k := 22) (o := 9) okX12 (by decide) kf_RX12_43 dX12_isBlock_3 hC T0.1 T0.2.1 rfl rfl ?_
  refine g_aload_n C (f := 0) dX12_isBlock_6 0 rfl ?_
  refine g_getf C (k := 18) (kd := 0) okX12 (by decide) kf_RX12_272 dX12_isBlock_7 (rg_ hC T0.1) T0.2.1 rfl ?_
  obtain ⟨c2, h⟩ := ck_e h
  refine g_iald C 2 dX12_isBlock_10 (rg_ hC F1.1) F1.2.1 F1.2.2 c2 ?_
  refine g_iconst C (n := 1) dX12_isBlock_11 (by decide) ?_
  refine g_isub C dX12_isBlock_12 ?_
  obtain ⟨q3, eq3, h⟩ := bd_e h
  refine g_cS C [(0, x1), (0, 0), (0, wr_ ((v (x0 + 9) (v x0 18)) - 1))] (cX12_in_ok l hC eq3) km_RX12_334 cs_X12_in rfl (by decide) rfl rfl (Nat.le_of_ble_eq_true rfl) dX12_isBlock_13 ?_
  obtain ⟨c4, h⟩ := ck_e h
  cases h
  exact g_zret C dX12_isBlock_16 hr hlk c4
theorem dX12_joinsAt_0 : decode cX12_joinsAt 0 = .ok (.aload_n 0, 1) := by decide +kernel
theorem dX12_joinsAt_1 : decode cX12_joinsAt 1 = .ok (.getfield 402, 3) := by decide +kernel
theorem dX12_joinsAt_4 : decode cX12_joinsAt 4 = .ok (.istore_n 3, 1) := by decide +kernel
theorem dX12_joinsAt_5 : decode cX12_joinsAt 5 = .ok (.aload_n 0, 1) := by decide +kernel
theorem dX12_joinsAt_6 : decode cX12_joinsAt 6 = .ok (.getfield 115, 3) := by decide +kernel
theorem dX12_joinsAt_9 : decode cX12_joinsAt 9 = .ok (.iload_n 3, 1) := by decide +kernel
theorem dX12_joinsAt_10 : decode cX12_joinsAt 10 = .ok (.iaload, 1) := by decide +kernel
theorem dX12_joinsAt_11 : decode cX12_joinsAt 11 = .ok (.istore 4, 2) := by decide +kernel
theorem dX12_joinsAt_13 : decode cX12_joinsAt 13 = .ok (.iload 4, 2) := by decide +kernel
theorem dX12_joinsAt_15 : decode cX12_joinsAt 15 = .ok (.iload_n 1, 1) := by decide +kernel
theorem dX12_joinsAt_16 : decode cX12_joinsAt 16 = .ok (.if_icmp .le 33, 3) := by decide +kernel
theorem dX12_joinsAt_19 : decode cX12_joinsAt 19 = .ok (.aload_n 0, 1) := by decide +kernel
theorem dX12_joinsAt_20 : decode cX12_joinsAt 20 = .ok (.getfield 112, 3) := by decide +kernel
theorem dX12_joinsAt_23 : decode cX12_joinsAt 23 = .ok (.iconst 4, 1) := by decide +kernel
theorem dX12_joinsAt_24 : decode cX12_joinsAt 24 = .ok (.iload_n 3, 1) := by decide +kernel
theorem dX12_joinsAt_25 : decode cX12_joinsAt 25 = .ok (.imul, 1) := by decide +kernel
theorem dX12_joinsAt_26 : decode cX12_joinsAt 26 = .ok (.iload 4, 2) := by decide +kernel
theorem dX12_joinsAt_28 : decode cX12_joinsAt 28 = .ok (.iadd, 1) := by decide +kernel
theorem dX12_joinsAt_29 : decode cX12_joinsAt 29 = .ok (.aload_n 0, 1) := by decide +kernel
theorem dX12_joinsAt_30 : decode cX12_joinsAt 30 = .ok (.getfield 112, 3) := by decide +kernel
theorem dX12_joinsAt_33 : decode cX12_joinsAt 33 = .ok (.iconst 4, 1) := by decide +kernel
theorem dX12_joinsAt_34 : decode cX12_joinsAt 34 = .ok (.iload_n 3, 1) := by decide +kernel
theorem dX12_joinsAt_35 : decode cX12_joinsAt 35 = .ok (.imul, 1) := by decide +kernel
theorem dX12_joinsAt_36 : decode cX12_joinsAt 36 = .ok (.iload 4, 2) := by decide +kernel
theorem dX12_joinsAt_38 : decode cX12_joinsAt 38 = .ok (.iadd, 1) := by decide +kernel
theorem dX12_joinsAt_39 : decode cX12_joinsAt 39 = .ok (.iconst 1, 1) := by decide +kernel
theorem dX12_joinsAt_40 : decode cX12_joinsAt 40 = .ok (.isub, 1) := by decide +kernel
theorem dX12_joinsAt_41 : decode cX12_joinsAt 41 = .ok (.iaload, 1) := by decide +kernel
theorem dX12_joinsAt_42 : decode cX12_joinsAt 42 = .ok (.iastore, 1) := by decide +kernel
theorem dX12_joinsAt_43 : decode cX12_joinsAt 43 = .ok (.iinc 4 (-1), 3) := by decide +kernel
theorem dX12_joinsAt_46 : decode cX12_joinsAt 46 = .ok (.goto (-33), 3) := by decide +kernel
theorem dX12_joinsAt_49 : decode cX12_joinsAt 49 = .ok (.aload_n 0, 1) := by decide +kernel
theorem dX12_joinsAt_50 : decode cX12_joinsAt 50 = .ok (.getfield 112, 3) := by decide +kernel
theorem dX12_joinsAt_53 : decode cX12_joinsAt 53 = .ok (.iconst 4, 1) := by decide +kernel
theorem dX12_joinsAt_54 : decode cX12_joinsAt 54 = .ok (.iload_n 3, 1) := by decide +kernel
theorem dX12_joinsAt_55 : decode cX12_joinsAt 55 = .ok (.imul, 1) := by decide +kernel
theorem dX12_joinsAt_56 : decode cX12_joinsAt 56 = .ok (.iload_n 1, 1) := by decide +kernel
theorem dX12_joinsAt_57 : decode cX12_joinsAt 57 = .ok (.iadd, 1) := by decide +kernel
theorem dX12_joinsAt_58 : decode cX12_joinsAt 58 = .ok (.iload_n 2, 1) := by decide +kernel
theorem dX12_joinsAt_59 : decode cX12_joinsAt 59 = .ok (.iastore, 1) := by decide +kernel
theorem dX12_joinsAt_60 : decode cX12_joinsAt 60 = .ok (.aload_n 0, 1) := by decide +kernel
theorem dX12_joinsAt_61 : decode cX12_joinsAt 61 = .ok (.getfield 115, 3) := by decide +kernel
theorem dX12_joinsAt_64 : decode cX12_joinsAt 64 = .ok (.iload_n 3, 1) := by decide +kernel
theorem dX12_joinsAt_65 : decode cX12_joinsAt 65 = .ok (.dup2, 1) := by decide +kernel
theorem dX12_joinsAt_66 : decode cX12_joinsAt 66 = .ok (.iaload, 1) := by decide +kernel
theorem dX12_joinsAt_67 : decode cX12_joinsAt 67 = .ok (.iconst 1, 1) := by decide +kernel
theorem dX12_joinsAt_68 : decode cX12_joinsAt 68 = .ok (.iadd, 1) := by decide +kernel
theorem dX12_joinsAt_69 : decode cX12_joinsAt 69 = .ok (.iastore, 1) := by decide +kernel
theorem dX12_joinsAt_70 : decode cX12_joinsAt 70 = .ok (.aload_n 0, 1) := by decide +kernel
theorem dX12_joinsAt_71 : decode cX12_joinsAt 71 = .ok (.getfield 106, 3) := by decide +kernel
theorem dX12_joinsAt_74 : decode cX12_joinsAt 74 = .ok (.iload_n 2, 1) := by decide +kernel
theorem dX12_joinsAt_75 : decode cX12_joinsAt 75 = .ok (.iload_n 3, 1) := by decide +kernel
theorem dX12_joinsAt_76 : decode cX12_joinsAt 76 = .ok (.iastore, 1) := by decide +kernel
theorem dX12_joinsAt_77 : decode cX12_joinsAt 77 = .ok (.return_, 1) := by decide +kernel
def fX12_joinsAt_13 : Nat → Int → Int → Int → Int → Int → V_ → Option (Int × V_)
  | 0, _, _, _, _, _, _ => none
  | n + 1, x0, x1, x2, x3, x4, v =>
    if x4 ≤ x1 then (
      ck_ (0 ≤ wr_ ((wr_ (4 * x3)) + x1) ∧ wr_ ((wr_ (4 * x3)) + x1) < 32) (
      lt_ (up_ v (x0 + 32) (wr_ ((wr_ (4 * x3)) + x1)) x2) fun v8 =>
      ck_ (0 ≤ x3 ∧ x3 < 8) (
      ck_ (0 ≤ x3 ∧ x3 < 8) (
      lt_ (up_ v8 (x0 + 33) x3 (wr_ ((v8 (x0 + 33) x3) + 1))) fun v12 =>
      ck_ (0 ≤ x2 ∧ x2 < 8) (
      lt_ (up_ v12 (x0 + 30) x2 x3) fun v15 =>
      some (0, v15))))))
    else (
      ck_ (0 ≤ wr_ ((wr_ ((wr_ (4 * x3)) + x4)) - 1) ∧ wr_ ((wr_ ((wr_ (4 * x3)) + x4)) - 1) < 32) (
      ck_ (0 ≤ wr_ ((wr_ (4 * x3)) + x4) ∧ wr_ ((wr_ (4 * x3)) + x4) < 32) (
      lt_ (up_ v (x0 + 32) (wr_ ((wr_ (4 * x3)) + x4)) (v (x0 + 32) (wr_ ((wr_ ((wr_ (4 * x3)) + x4)) - 1)))) fun v20 =>
      lt_ (wr_ (x4 + (-1))) fun y21 =>
      (fX12_joinsAt_13 n) x0 x1 x2 x3 y21 v20)))
def fX12_joinsAt (x0 x1 x2 : Int) (v : V_) : Option (Int × V_) :=
  lt_ (v x0 52) fun y1 =>
  ck_ (0 ≤ y1 ∧ y1 < 8) (
  lt_ (v (x0 + 33) y1) fun y4 =>
  fX12_joinsAt_13 fu_ x0 x1 x2 y1 y4 v)
section
variable {E : En_} {p : Program} {l : Launch} {e : Env} {s : State} {m : MethodId} {args : Array Value} {below : List Frame} {meth : Method} {c : Code} {sz : Int}
theorem tX12_joinsAt_13 (C : MC_ E p s m c cX12_joinsAt 5 RX12) (hr : meth.sig.returnType = (none : Option FieldType)) (hlk : meth.locks = false) (hC : Cl_ E.2.2.2.2.2 sz) {out : Int × V_} : ∀ (n : Nat) (x0 x1 x2 x3 x4 : Int) (v : V_), (E.2.2.2.2.2 x0 ∧ ty_ x0 = 12 ∧ ln_ x0 = 0) → fX12_joinsAt_13 n x0 x1 x2 x3 x4 v = some out → G_ E p l e (rm_ 0 0) s m args below meth c 5 sz (Q_ E below args s sz sz 9 out.1 out.2) 13 [(0, (2, x0)), (1, (0, x1)), (2, (0, x2)), (3, (0, x3)), (4, (0, x4))] [] v sz := by
  intro n
  induction n with
  | zero =>
    intro x0 x1 x2 x3 x4 v T0 h
    cases h
  | succ n H_13 =>
    intro x0 x1 x2 x3 x4 v T0 h
    rw [fX12_joinsAt_13] at h
    refine g_iload C (i := 4) dX12_joinsAt_13 4 rfl ?_
    refine g_iload_n C (f := 1) dX12_joinsAt_15 1 rfl ?_
    refine g_icmp_le C 49 dX12_joinsAt_16 rfl (fun c5 => ?_) (fun c5 => ?_)
    · replace h := if_t h c5
      refine g_aload_n C (f := 0) dX12_joinsAt_49 0 rfl ?_
      have F6 := fX12_50 hC T0.1 T0.2.1
      refine g_getR C (k := 50) (o := 32) okX12 (by decide) kf_RX12_112 dX12_joinsAt_50 hC T0.1 T0.2.1 rfl rfl ?_
      refine g_iconst C (n := 4) dX12_joinsAt_53 (by decide) ?_
      refine g_iload_n C (f := 3) dX12_joinsAt_54 3 rfl ?_
      refine g_imul C dX12_joinsAt_55 ?_
      refine g_iload_n C (f := 1) dX12_joinsAt_56 1 rfl ?_
      refine g_iadd C dX12_joinsAt_57 ?_
      refine g_iload_n C (f := 2) dX12_joinsAt_58 2 rfl ?_
      obtain ⟨c7, h⟩ := ck_e h
      obtain ⟨v8, ev8, h⟩ := lt_e h
      refine g_iast C 32 dX12_joinsAt_59 (rg_ hC F6.1) F6.2.1 F6.2.2 c7 v8 ev8 ?_
      refine g_aload_n C (f := 0) dX12_joinsAt_60 0 rfl ?_
      have F9 := fX12_51 hC T0.1 T0.2.1
      refine g_getR C (k := 51) (o := 33) okX12 (by decide) kf_RX12_115 dX12_joinsAt_61 hC T0.1 T0.2.1 rfl rfl ?_
      refine g_iload_n C (f := 3) dX12_joinsAt_64 3 rfl ?_
      refine g_dup2 C (Nat.ne_of_beq_eq_false rfl) (Nat.ne_of_beq_eq_false rfl) dX12_joinsAt_65 ?_
      obtain ⟨c10, h⟩ := ck_e h
      refine g_iald C 8 dX12_joinsAt_66 (rg_ hC F9.1) F9.2.1 F9.2.2 c10 ?_
      refine g_iconst C (n := 1) dX12_joinsAt_67 (by decide) ?_
      refine g_iadd C dX12_joinsAt_68 ?_
      obtain ⟨c11, h⟩ := ck_e h
      obtain ⟨v12, ev12, h⟩ := lt_e h
      refine g_iast C 8 dX12_joinsAt_69 (rg_ hC F9.1) F9.2.1 F9.2.2 c11 v12 ev12 ?_
      refine g_aload_n C (f := 0) dX12_joinsAt_70 0 rfl ?_
      have F13 := fX12_48 hC T0.1 T0.2.1
      refine g_getR C (k := 48) (o := 30) okX12 (by decide) kf_RX12_106 dX12_joinsAt_71 hC T0.1 T0.2.1 rfl rfl ?_
      refine g_iload_n C (f := 2) dX12_joinsAt_74 2 rfl ?_
      refine g_iload_n C (f := 3) dX12_joinsAt_75 3 rfl ?_
      obtain ⟨c14, h⟩ := ck_e h
      obtain ⟨v15, ev15, h⟩ := lt_e h
      refine g_iast C 8 dX12_joinsAt_76 (rg_ hC F13.1) F13.2.1 F13.2.2 c14 v15 ev15 ?_
      cases h
      exact g_vret C dX12_joinsAt_77 hr hlk
    · replace h := if_f h c5
      refine g_aload_n C (f := 0) dX12_joinsAt_19 0 rfl ?_
      have F16 := fX12_50 hC T0.1 T0.2.1
      refine g_getR C (k := 50) (o := 32) okX12 (by decide) kf_RX12_112 dX12_joinsAt_20 hC T0.1 T0.2.1 rfl rfl ?_
      refine g_iconst C (n := 4) dX12_joinsAt_23 (by decide) ?_
      refine g_iload_n C (f := 3) dX12_joinsAt_24 3 rfl ?_
      refine g_imul C dX12_joinsAt_25 ?_
      refine g_iload C (i := 4) dX12_joinsAt_26 4 rfl ?_
      refine g_iadd C dX12_joinsAt_28 ?_
      refine g_aload_n C (f := 0) dX12_joinsAt_29 0 rfl ?_
      have F17 := fX12_50 hC T0.1 T0.2.1
      refine g_getR C (k := 50) (o := 32) okX12 (by decide) kf_RX12_112 dX12_joinsAt_30 hC T0.1 T0.2.1 rfl rfl ?_
      refine g_iconst C (n := 4) dX12_joinsAt_33 (by decide) ?_
      refine g_iload_n C (f := 3) dX12_joinsAt_34 3 rfl ?_
      refine g_imul C dX12_joinsAt_35 ?_
      refine g_iload C (i := 4) dX12_joinsAt_36 4 rfl ?_
      refine g_iadd C dX12_joinsAt_38 ?_
      refine g_iconst C (n := 1) dX12_joinsAt_39 (by decide) ?_
      refine g_isub C dX12_joinsAt_40 ?_
      obtain ⟨c18, h⟩ := ck_e h
      refine g_iald C 32 dX12_joinsAt_41 (rg_ hC F17.1) F17.2.1 F17.2.2 c18 ?_
      obtain ⟨c19, h⟩ := ck_e h
      obtain ⟨v20, ev20, h⟩ := lt_e h
      refine g_iast C 32 dX12_joinsAt_42 (rg_ hC F16.1) F16.2.1 F16.2.2 c19 v20 ev20 ?_
      obtain ⟨y21, ey21, h⟩ := lt_e h
      refine g_iincx C (ls' := [(4, (0, y21)), (0, (2, x0)), (1, (0, x1)), (2, (0, x2)), (3, (0, x3))]) ey21 dX12_joinsAt_43 4 rfl (by decide) (by decide) rfl ?_
      refine g_goto C 13 dX12_joinsAt_46 rfl ?_
      refine g_sub [1, 2, 3, 4, 0] rfl rfl ?_
      exact H_13 _ _ _ _ _ _ T0 h
end
theorem cX12_joinsAt_ok (l : Launch) {E : En_} {sz : Int} (hC : Cl_ E.2.2.2.2.2 sz) {x0 x1 x2 : Int} {v : V_} {out : Int × V_} (T0 : (E.2.2.2.2.2 x0 ∧ ty_ x0 = 12 ∧ ln_ x0 = 0)) (h : fX12_joinsAt x0 x1 x2 v = some out) : Met l yX12_joinsAt [.code yX12_joinsAt cX12_joinsAt 5 (none : Option FieldType)] (rm_ 0 0) (Pc_ E sz v [(2, x0), (0, x1), (0, x2)]) (Qc_ E sz 9 out.1 out.2) 0 0 (fun q => E.1 < q) := by
  refine met_G0 RX12 (by decide +kernel) rfl (Nat.le_of_ble_eq_true rfl) ?_
  intro p e s m args below meth c C hr hlk
  rw [fX12_joinsAt] at h
  refine g_aload_n C (f := 0) dX12_joinsAt_0 0 rfl ?_
  refine g_getf C (k := 52) (kd := 0) okX12 (by decide) kf_RX12_402 dX12_joinsAt_1 (rg_ hC T0.1) T0.2.1 rfl ?_
  obtain ⟨y1, ey1, h⟩ := lt_e h
  refine g_set C ey1 ?_
  refine g_istore_n C (f := 3) (ls' := [(3, (0, y1)), (0, (2, x0)), (1, (0, x1)), (2, (0, x2))]) dX12_joinsAt_4 (by decide) rfl ?_
  refine g_aload_n C (f := 0) dX12_joinsAt_5 1 rfl ?_
  have F2 := fX12_51 hC T0.1 T0.2.1
  refine g_getR C (k := 51) (o := 33) okX12 (by decide) kf_RX12_115 dX12_joinsAt_6 hC T0.1 T0.2.1 rfl rfl ?_
  refine g_iload_n C (f := 3) dX12_joinsAt_9 0 rfl ?_
  obtain ⟨c3, h⟩ := ck_e h
  refine g_iald C 8 dX12_joinsAt_10 (rg_ hC F2.1) F2.2.1 F2.2.2 c3 ?_
  obtain ⟨y4, ey4, h⟩ := lt_e h
  refine g_set C ey4 ?_
  refine g_istore C (i := 4) (ls' := [(4, (0, y4)), (3, (0, y1)), (0, (2, x0)), (1, (0, x1)), (2, (0, x2))]) dX12_joinsAt_11 (by decide) rfl ?_
  refine g_sub [2, 3, 4, 1, 0] rfl rfl ?_
  exact tX12_joinsAt_13 C hr hlk hC _ _ _ _ _ _ _ T0 h
theorem dX12_mostWay_0 : decode cX12_mostWay 0 = .ok (.aload_n 0, 1) := by decide +kernel
theorem dX12_mostWay_1 : decode cX12_mostWay 1 = .ok (.iload_n 1, 1) := by decide +kernel
theorem dX12_mostWay_2 : decode cX12_mostWay 2 = .ok (.invokevirtual 393, 3) := by decide +kernel
theorem dX12_mostWay_5 : decode cX12_mostWay 5 = .ok (.ifCond .ne 7, 3) := by decide +kernel
theorem dX12_mostWay_8 : decode cX12_mostWay 8 = .ok (.iconst (-1), 1) := by decide +kernel
theorem dX12_mostWay_9 : decode cX12_mostWay 9 = .ok (.goto 32, 3) := by decide +kernel
theorem dX12_mostWay_12 : decode cX12_mostWay 12 = .ok (.aload_n 0, 1) := by decide +kernel
theorem dX12_mostWay_13 : decode cX12_mostWay 13 = .ok (.iload_n 1, 1) := by decide +kernel
theorem dX12_mostWay_14 : decode cX12_mostWay 14 = .ok (.invokevirtual 393, 3) := by decide +kernel
theorem dX12_mostWay_17 : decode cX12_mostWay 17 = .ok (.iconst 2, 1) := by decide +kernel
theorem dX12_mostWay_18 : decode cX12_mostWay 18 = .ok (.if_icmp .ne 22, 3) := by decide +kernel
theorem dX12_mostWay_21 : decode cX12_mostWay 21 = .ok (.aload_n 0, 1) := by decide +kernel
theorem dX12_mostWay_22 : decode cX12_mostWay 22 = .ok (.iload_n 1, 1) := by decide +kernel
theorem dX12_mostWay_23 : decode cX12_mostWay 23 = .ok (.iconst 1, 1) := by decide +kernel
theorem dX12_mostWay_24 : decode cX12_mostWay 24 = .ok (.invokevirtual 399, 3) := by decide +kernel
theorem dX12_mostWay_27 : decode cX12_mostWay 27 = .ok (.aload_n 0, 1) := by decide +kernel
theorem dX12_mostWay_28 : decode cX12_mostWay 28 = .ok (.iload_n 1, 1) := by decide +kernel
theorem dX12_mostWay_29 : decode cX12_mostWay 29 = .ok (.iconst 0, 1) := by decide +kernel
theorem dX12_mostWay_30 : decode cX12_mostWay 30 = .ok (.invokevirtual 399, 3) := by decide +kernel
theorem dX12_mostWay_33 : decode cX12_mostWay 33 = .ok (.if_icmp .le 7, 3) := by decide +kernel
theorem dX12_mostWay_36 : decode cX12_mostWay 36 = .ok (.iconst 1, 1) := by decide +kernel
theorem dX12_mostWay_37 : decode cX12_mostWay 37 = .ok (.goto 4, 3) := by decide +kernel
theorem dX12_mostWay_40 : decode cX12_mostWay 40 = .ok (.iconst 0, 1) := by decide +kernel
theorem dX12_mostWay_41 : decode cX12_mostWay 41 = .ok (.ireturn, 1) := by decide +kernel
def fX12_mostWay (x0 x1 : Int) (v : V_) : Option (Int × V_) :=
  bd_ (fX12_waysOf x0 x1 v) fun q1 =>
  if q1.1 = 0 then (
    some ((-1), q1.2))
  else (
    bd_ (fX12_waysOf x0 x1 q1.2) fun q3 =>
    if q3.1 = 2 then (
      bd_ (fX12_goneOf x0 x1 1 q3.2) fun q5 =>
      bd_ (fX12_goneOf x0 x1 0 q5.2) fun q6 =>
      if q5.1 ≤ q6.1 then (
        some (0, q6.2))
      else (
        some (1, q6.2)))
    else (
      some (0, q3.2)))
theorem cX12_mostWay_ok (l : Launch) {E : En_} {sz : Int} (hC : Cl_ E.2.2.2.2.2 sz) {x0 x1 : Int} {v : V_} {out : Int × V_} (T0 : (E.2.2.2.2.2 x0 ∧ ty_ x0 = 12 ∧ ln_ x0 = 0)) (h : fX12_mostWay x0 x1 v = some out) : Met l yX12_mostWay [.code yX12_mostWay cX12_mostWay 2 (some FieldType.int)] (rm_ 2 42) (Pc_ E sz v [(2, x0), (0, x1)]) (Qc_ E sz 0 out.1 out.2) 0 0 (fun q => E.1 < q) := by
  refine met_G0 RX12 (by decide +kernel) rfl (Nat.le_of_ble_eq_true rfl) ?_
  intro p e s m args below meth c C hr hlk
  rw [fX12_mostWay] at h
  refine g_aload_n C (f := 0) dX12_mostWay_0 0 rfl ?_
  refine g_iload_n C (f := 1) dX12_mostWay_1 1 rfl ?_
  obtain ⟨q1, eq1, h⟩ := bd_e h
  refine g_cV C [(0, x1)] (cX12_waysOf_ok l hC T0 eq1) okX12 T0.2.1 (rg_ hC T0.1) km_RX12_393 cv_X12_waysOf rfl (by decide) rfl rfl (Nat.le_of_ble_eq_true rfl) dX12_mostWay_2 ?_
  refine g_if_ne C 12 dX12_mostWay_5 rfl (fun c2 => ?_) (fun c2 => ?_)
  · replace h := if_f h c2
    refine g_aload_n C (f := 0) dX12_mostWay_12 0 rfl ?_
    refine g_iload_n C (f := 1) dX12_mostWay_13 1 rfl ?_
    obtain ⟨q3, eq3, h⟩ := bd_e h
    refine g_cV C [(0, x1)] (cX12_waysOf_ok l hC T0 eq3) okX12 T0.2.1 (rg_ hC T0.1) km_RX12_393 cv_X12_waysOf rfl (by decide) rfl rfl (Nat.le_of_ble_eq_true rfl) dX12_mostWay_14 ?_
    refine g_iconst C (n := 2) dX12_mostWay_17 (by decide) ?_
    refine g_icmp_ne C 40 dX12_mostWay_18 rfl (fun c4 => ?_) (fun c4 => ?_)
    · replace h := if_f h c4
      refine g_iconst C (n := 0) dX12_mostWay_40 (by decide) ?_
      cases h
      exact g_iret C dX12_mostWay_41 hr hlk
    · replace h := if_t h c4
      refine g_aload_n C (f := 0) dX12_mostWay_21 0 rfl ?_
      refine g_iload_n C (f := 1) dX12_mostWay_22 1 rfl ?_
      refine g_iconst C (n := 1) dX12_mostWay_23 (by decide) ?_
      obtain ⟨q5, eq5, h⟩ := bd_e h
      refine g_cV C [(0, x1), (0, 1)] (cX12_goneOf_ok l hC T0 eq5) okX12 T0.2.1 (rg_ hC T0.1) km_RX12_399 cv_X12_goneOf rfl (by decide) rfl rfl (Nat.le_of_ble_eq_true rfl) dX12_mostWay_24 ?_
      refine g_aload_n C (f := 0) dX12_mostWay_27 0 rfl ?_
      refine g_iload_n C (f := 1) dX12_mostWay_28 1 rfl ?_
      refine g_iconst C (n := 0) dX12_mostWay_29 (by decide) ?_
      obtain ⟨q6, eq6, h⟩ := bd_e h
      refine g_cV C [(0, x1), (0, 0)] (cX12_goneOf_ok l hC T0 eq6) okX12 T0.2.1 (rg_ hC T0.1) km_RX12_399 cv_X12_goneOf rfl (by decide) rfl rfl (Nat.le_of_ble_eq_true rfl) dX12_mostWay_30 ?_
      refine g_icmp_le C 40 dX12_mostWay_33 rfl (fun c7 => ?_) (fun c7 => ?_)
      · replace h := if_t h c7
        refine g_iconst C (n := 0) dX12_mostWay_40 (by decide) ?_
        cases h
        exact g_iret C dX12_mostWay_41 hr hlk
      · replace h := if_f h c7
        refine g_iconst C (n := 1) dX12_mostWay_36 (by decide) ?_
        refine g_goto C 41 dX12_mostWay_37 rfl ?_
        cases h
        exact g_iret C dX12_mostWay_41 hr hlk
  · replace h := if_t h c2
    refine g_iconst C (n := (-1)) dX12_mostWay_8 (by decide) ?_
    refine g_goto C 41 dX12_mostWay_9 rfl ?_
    cases h
    exact g_iret C dX12_mostWay_41 hr hlk
