theorem dX12_tellLine_0 : decode cX12_tellLine 0 = .ok (.aload_n 0, 1) := by decide +kernel
theorem dX12_tellLine_1 : decode cX12_tellLine 1 = .ok (.getfield 58, 3) := by decide +kernel
theorem dX12_tellLine_4 : decode cX12_tellLine 4 = .ok (.iload_n 1, 1) := by decide +kernel
theorem dX12_tellLine_5 : decode cX12_tellLine 5 = .ok (.iconst 0, 1) := by decide +kernel
theorem dX12_tellLine_6 : decode cX12_tellLine 6 = .ok (.iastore, 1) := by decide +kernel
theorem dX12_tellLine_7 : decode cX12_tellLine 7 = .ok (.aload_n 0, 1) := by decide +kernel
theorem dX12_tellLine_8 : decode cX12_tellLine 8 = .ok (.bipush 26, 2) := by decide +kernel
theorem dX12_tellLine_10 : decode cX12_tellLine 10 = .ok (.invokevirtual 263, 3) := by decide +kernel
theorem dX12_tellLine_13 : decode cX12_tellLine 13 = .ok (.ifCond .eq 53, 3) := by decide +kernel
theorem dX12_tellLine_16 : decode cX12_tellLine 16 = .ok (.aload_n 0, 1) := by decide +kernel
theorem dX12_tellLine_17 : decode cX12_tellLine 17 = .ok (.invokevirtual 266, 3) := by decide +kernel
theorem dX12_tellLine_20 : decode cX12_tellLine 20 = .ok (.aload_n 0, 1) := by decide +kernel
theorem dX12_tellLine_21 : decode cX12_tellLine 21 = .ok (.getfield 55, 3) := by decide +kernel
theorem dX12_tellLine_24 : decode cX12_tellLine 24 = .ok (.iload_n 1, 1) := by decide +kernel
theorem dX12_tellLine_25 : decode cX12_tellLine 25 = .ok (.iconst 2, 1) := by decide +kernel
theorem dX12_tellLine_26 : decode cX12_tellLine 26 = .ok (.iastore, 1) := by decide +kernel
theorem dX12_tellLine_27 : decode cX12_tellLine 27 = .ok (.aload_n 0, 1) := by decide +kernel
theorem dX12_tellLine_28 : decode cX12_tellLine 28 = .ok (.getfield 61, 3) := by decide +kernel
theorem dX12_tellLine_31 : decode cX12_tellLine 31 = .ok (.iload_n 1, 1) := by decide +kernel
theorem dX12_tellLine_32 : decode cX12_tellLine 32 = .ok (.bipush (-2), 2) := by decide +kernel
theorem dX12_tellLine_34 : decode cX12_tellLine 34 = .ok (.iastore, 1) := by decide +kernel
theorem dX12_tellLine_35 : decode cX12_tellLine 35 = .ok (.aload_n 0, 1) := by decide +kernel
theorem dX12_tellLine_36 : decode cX12_tellLine 36 = .ok (.getfield 64, 3) := by decide +kernel
theorem dX12_tellLine_39 : decode cX12_tellLine 39 = .ok (.iload_n 1, 1) := by decide +kernel
theorem dX12_tellLine_40 : decode cX12_tellLine 40 = .ok (.aload_n 0, 1) := by decide +kernel
theorem dX12_tellLine_41 : decode cX12_tellLine 41 = .ok (.invokevirtual 328, 3) := by decide +kernel
theorem dX12_tellLine_44 : decode cX12_tellLine 44 = .ok (.iastore, 1) := by decide +kernel
theorem dX12_tellLine_45 : decode cX12_tellLine 45 = .ok (.aload_n 0, 1) := by decide +kernel
theorem dX12_tellLine_46 : decode cX12_tellLine 46 = .ok (.iconst 5, 1) := by decide +kernel
theorem dX12_tellLine_47 : decode cX12_tellLine 47 = .ok (.invokevirtual 308, 3) := by decide +kernel
theorem dX12_tellLine_50 : decode cX12_tellLine 50 = .ok (.aload_n 0, 1) := by decide +kernel
theorem dX12_tellLine_51 : decode cX12_tellLine 51 = .ok (.getfield 67, 3) := by decide +kernel
theorem dX12_tellLine_54 : decode cX12_tellLine 54 = .ok (.iload_n 1, 1) := by decide +kernel
theorem dX12_tellLine_55 : decode cX12_tellLine 55 = .ok (.aload_n 0, 1) := by decide +kernel
theorem dX12_tellLine_56 : decode cX12_tellLine 56 = .ok (.invokevirtual 328, 3) := by decide +kernel
theorem dX12_tellLine_59 : decode cX12_tellLine 59 = .ok (.iastore, 1) := by decide +kernel
theorem dX12_tellLine_60 : decode cX12_tellLine 60 = .ok (.aload_n 0, 1) := by decide +kernel
theorem dX12_tellLine_61 : decode cX12_tellLine 61 = .ok (.iconst 4, 1) := by decide +kernel
theorem dX12_tellLine_62 : decode cX12_tellLine 62 = .ok (.invokevirtual 308, 3) := by decide +kernel
theorem dX12_tellLine_65 : decode cX12_tellLine 65 = .ok (.return_, 1) := by decide +kernel
theorem dX12_tellLine_66 : decode cX12_tellLine 66 = .ok (.aload_n 0, 1) := by decide +kernel
theorem dX12_tellLine_67 : decode cX12_tellLine 67 = .ok (.getfield 61, 3) := by decide +kernel
theorem dX12_tellLine_70 : decode cX12_tellLine 70 = .ok (.iload_n 1, 1) := by decide +kernel
theorem dX12_tellLine_71 : decode cX12_tellLine 71 = .ok (.aload_n 0, 1) := by decide +kernel
theorem dX12_tellLine_72 : decode cX12_tellLine 72 = .ok (.invokevirtual 324, 3) := by decide +kernel
theorem dX12_tellLine_75 : decode cX12_tellLine 75 = .ok (.iastore, 1) := by decide +kernel
theorem dX12_tellLine_76 : decode cX12_tellLine 76 = .ok (.aload_n 0, 1) := by decide +kernel
theorem dX12_tellLine_77 : decode cX12_tellLine 77 = .ok (.iconst 5, 1) := by decide +kernel
theorem dX12_tellLine_78 : decode cX12_tellLine 78 = .ok (.invokevirtual 308, 3) := by decide +kernel
theorem dX12_tellLine_81 : decode cX12_tellLine 81 = .ok (.aload_n 0, 1) := by decide +kernel
theorem dX12_tellLine_82 : decode cX12_tellLine 82 = .ok (.bipush 26, 2) := by decide +kernel
theorem dX12_tellLine_84 : decode cX12_tellLine 84 = .ok (.invokevirtual 263, 3) := by decide +kernel
theorem dX12_tellLine_87 : decode cX12_tellLine 87 = .ok (.ifCond .eq 38, 3) := by decide +kernel
theorem dX12_tellLine_90 : decode cX12_tellLine 90 = .ok (.aload_n 0, 1) := by decide +kernel
theorem dX12_tellLine_91 : decode cX12_tellLine 91 = .ok (.invokevirtual 266, 3) := by decide +kernel
theorem dX12_tellLine_94 : decode cX12_tellLine 94 = .ok (.aload_n 0, 1) := by decide +kernel
theorem dX12_tellLine_95 : decode cX12_tellLine 95 = .ok (.getfield 55, 3) := by decide +kernel
theorem dX12_tellLine_98 : decode cX12_tellLine 98 = .ok (.iload_n 1, 1) := by decide +kernel
theorem dX12_tellLine_99 : decode cX12_tellLine 99 = .ok (.iconst 1, 1) := by decide +kernel
theorem dX12_tellLine_100 : decode cX12_tellLine 100 = .ok (.iastore, 1) := by decide +kernel
theorem dX12_tellLine_101 : decode cX12_tellLine 101 = .ok (.aload_n 0, 1) := by decide +kernel
theorem dX12_tellLine_102 : decode cX12_tellLine 102 = .ok (.getfield 64, 3) := by decide +kernel
theorem dX12_tellLine_105 : decode cX12_tellLine 105 = .ok (.iload_n 1, 1) := by decide +kernel
theorem dX12_tellLine_106 : decode cX12_tellLine 106 = .ok (.aload_n 0, 1) := by decide +kernel
theorem dX12_tellLine_107 : decode cX12_tellLine 107 = .ok (.invokevirtual 328, 3) := by decide +kernel
theorem dX12_tellLine_110 : decode cX12_tellLine 110 = .ok (.iastore, 1) := by decide +kernel
theorem dX12_tellLine_111 : decode cX12_tellLine 111 = .ok (.aload_n 0, 1) := by decide +kernel
theorem dX12_tellLine_112 : decode cX12_tellLine 112 = .ok (.getfield 67, 3) := by decide +kernel
theorem dX12_tellLine_115 : decode cX12_tellLine 115 = .ok (.iload_n 1, 1) := by decide +kernel
theorem dX12_tellLine_116 : decode cX12_tellLine 116 = .ok (.bipush 20, 2) := by decide +kernel
theorem dX12_tellLine_118 : decode cX12_tellLine 118 = .ok (.iastore, 1) := by decide +kernel
theorem dX12_tellLine_119 : decode cX12_tellLine 119 = .ok (.aload_n 0, 1) := by decide +kernel
theorem dX12_tellLine_120 : decode cX12_tellLine 120 = .ok (.iconst 4, 1) := by decide +kernel
theorem dX12_tellLine_121 : decode cX12_tellLine 121 = .ok (.invokevirtual 308, 3) := by decide +kernel
theorem dX12_tellLine_124 : decode cX12_tellLine 124 = .ok (.return_, 1) := by decide +kernel
theorem dX12_tellLine_125 : decode cX12_tellLine 125 = .ok (.aload_n 0, 1) := by decide +kernel
theorem dX12_tellLine_126 : decode cX12_tellLine 126 = .ok (.getfield 55, 3) := by decide +kernel
theorem dX12_tellLine_129 : decode cX12_tellLine 129 = .ok (.iload_n 1, 1) := by decide +kernel
theorem dX12_tellLine_130 : decode cX12_tellLine 130 = .ok (.iconst 0, 1) := by decide +kernel
theorem dX12_tellLine_131 : decode cX12_tellLine 131 = .ok (.iastore, 1) := by decide +kernel
theorem dX12_tellLine_132 : decode cX12_tellLine 132 = .ok (.aload_n 0, 1) := by decide +kernel
theorem dX12_tellLine_133 : decode cX12_tellLine 133 = .ok (.getfield 64, 3) := by decide +kernel
theorem dX12_tellLine_136 : decode cX12_tellLine 136 = .ok (.iload_n 1, 1) := by decide +kernel
theorem dX12_tellLine_137 : decode cX12_tellLine 137 = .ok (.aload_n 0, 1) := by decide +kernel
theorem dX12_tellLine_138 : decode cX12_tellLine 138 = .ok (.invokevirtual 328, 3) := by decide +kernel
theorem dX12_tellLine_141 : decode cX12_tellLine 141 = .ok (.iastore, 1) := by decide +kernel
theorem dX12_tellLine_142 : decode cX12_tellLine 142 = .ok (.aload_n 0, 1) := by decide +kernel
theorem dX12_tellLine_143 : decode cX12_tellLine 143 = .ok (.bipush 8, 2) := by decide +kernel
theorem dX12_tellLine_145 : decode cX12_tellLine 145 = .ok (.invokevirtual 263, 3) := by decide +kernel
theorem dX12_tellLine_148 : decode cX12_tellLine 148 = .ok (.ifCond .eq 13, 3) := by decide +kernel
theorem dX12_tellLine_151 : decode cX12_tellLine 151 = .ok (.aload_n 0, 1) := by decide +kernel
theorem dX12_tellLine_152 : decode cX12_tellLine 152 = .ok (.getfield 58, 3) := by decide +kernel
theorem dX12_tellLine_155 : decode cX12_tellLine 155 = .ok (.iload_n 1, 1) := by decide +kernel
theorem dX12_tellLine_156 : decode cX12_tellLine 156 = .ok (.iconst 0, 1) := by decide +kernel
theorem dX12_tellLine_157 : decode cX12_tellLine 157 = .ok (.iastore, 1) := by decide +kernel
theorem dX12_tellLine_158 : decode cX12_tellLine 158 = .ok (.goto 65, 3) := by decide +kernel
theorem dX12_tellLine_161 : decode cX12_tellLine 161 = .ok (.aload_n 0, 1) := by decide +kernel
theorem dX12_tellLine_162 : decode cX12_tellLine 162 = .ok (.bipush 9, 2) := by decide +kernel
theorem dX12_tellLine_164 : decode cX12_tellLine 164 = .ok (.invokevirtual 263, 3) := by decide +kernel
theorem dX12_tellLine_167 : decode cX12_tellLine 167 = .ok (.ifCond .eq 13, 3) := by decide +kernel
theorem dX12_tellLine_170 : decode cX12_tellLine 170 = .ok (.aload_n 0, 1) := by decide +kernel
theorem dX12_tellLine_171 : decode cX12_tellLine 171 = .ok (.getfield 58, 3) := by decide +kernel
theorem dX12_tellLine_174 : decode cX12_tellLine 174 = .ok (.iload_n 1, 1) := by decide +kernel
theorem dX12_tellLine_175 : decode cX12_tellLine 175 = .ok (.iconst 1, 1) := by decide +kernel
theorem dX12_tellLine_176 : decode cX12_tellLine 176 = .ok (.iastore, 1) := by decide +kernel
theorem dX12_tellLine_177 : decode cX12_tellLine 177 = .ok (.goto 46, 3) := by decide +kernel
theorem dX12_tellLine_180 : decode cX12_tellLine 180 = .ok (.aload_n 0, 1) := by decide +kernel
theorem dX12_tellLine_181 : decode cX12_tellLine 181 = .ok (.bipush 10, 2) := by decide +kernel
theorem dX12_tellLine_183 : decode cX12_tellLine 183 = .ok (.invokevirtual 263, 3) := by decide +kernel
theorem dX12_tellLine_186 : decode cX12_tellLine 186 = .ok (.ifCond .eq 13, 3) := by decide +kernel
theorem dX12_tellLine_189 : decode cX12_tellLine 189 = .ok (.aload_n 0, 1) := by decide +kernel
theorem dX12_tellLine_190 : decode cX12_tellLine 190 = .ok (.getfield 58, 3) := by decide +kernel
theorem dX12_tellLine_193 : decode cX12_tellLine 193 = .ok (.iload_n 1, 1) := by decide +kernel
theorem dX12_tellLine_194 : decode cX12_tellLine 194 = .ok (.iconst 2, 1) := by decide +kernel
theorem dX12_tellLine_195 : decode cX12_tellLine 195 = .ok (.iastore, 1) := by decide +kernel
theorem dX12_tellLine_196 : decode cX12_tellLine 196 = .ok (.goto 27, 3) := by decide +kernel
theorem dX12_tellLine_199 : decode cX12_tellLine 199 = .ok (.aload_n 0, 1) := by decide +kernel
theorem dX12_tellLine_200 : decode cX12_tellLine 200 = .ok (.bipush 15, 2) := by decide +kernel
theorem dX12_tellLine_202 : decode cX12_tellLine 202 = .ok (.invokevirtual 263, 3) := by decide +kernel
theorem dX12_tellLine_205 : decode cX12_tellLine 205 = .ok (.ifCond .eq 13, 3) := by decide +kernel
theorem dX12_tellLine_208 : decode cX12_tellLine 208 = .ok (.aload_n 0, 1) := by decide +kernel
theorem dX12_tellLine_209 : decode cX12_tellLine 209 = .ok (.getfield 58, 3) := by decide +kernel
theorem dX12_tellLine_212 : decode cX12_tellLine 212 = .ok (.iload_n 1, 1) := by decide +kernel
theorem dX12_tellLine_213 : decode cX12_tellLine 213 = .ok (.iconst 3, 1) := by decide +kernel
theorem dX12_tellLine_214 : decode cX12_tellLine 214 = .ok (.iastore, 1) := by decide +kernel
theorem dX12_tellLine_215 : decode cX12_tellLine 215 = .ok (.goto 8, 3) := by decide +kernel
theorem dX12_tellLine_218 : decode cX12_tellLine 218 = .ok (.aload_n 0, 1) := by decide +kernel
theorem dX12_tellLine_219 : decode cX12_tellLine 219 = .ok (.iconst 1, 1) := by decide +kernel
theorem dX12_tellLine_220 : decode cX12_tellLine 220 = .ok (.invokevirtual 260, 3) := by decide +kernel
theorem dX12_tellLine_223 : decode cX12_tellLine 223 = .ok (.aload_n 0, 1) := by decide +kernel
theorem dX12_tellLine_224 : decode cX12_tellLine 224 = .ok (.getfield 245, 3) := by decide +kernel
theorem dX12_tellLine_227 : decode cX12_tellLine 227 = .ok (.ifCond .ne 7, 3) := by decide +kernel
theorem dX12_tellLine_230 : decode cX12_tellLine 230 = .ok (.aload_n 0, 1) := by decide +kernel
theorem dX12_tellLine_231 : decode cX12_tellLine 231 = .ok (.invokevirtual 266, 3) := by decide +kernel
theorem dX12_tellLine_234 : decode cX12_tellLine 234 = .ok (.aload_n 0, 1) := by decide +kernel
theorem dX12_tellLine_235 : decode cX12_tellLine 235 = .ok (.getfield 67, 3) := by decide +kernel
theorem dX12_tellLine_238 : decode cX12_tellLine 238 = .ok (.iload_n 1, 1) := by decide +kernel
theorem dX12_tellLine_239 : decode cX12_tellLine 239 = .ok (.aload_n 0, 1) := by decide +kernel
theorem dX12_tellLine_240 : decode cX12_tellLine 240 = .ok (.invokevirtual 328, 3) := by decide +kernel
theorem dX12_tellLine_243 : decode cX12_tellLine 243 = .ok (.iastore, 1) := by decide +kernel
theorem dX12_tellLine_244 : decode cX12_tellLine 244 = .ok (.aload_n 0, 1) := by decide +kernel
theorem dX12_tellLine_245 : decode cX12_tellLine 245 = .ok (.iconst 4, 1) := by decide +kernel
theorem dX12_tellLine_246 : decode cX12_tellLine 246 = .ok (.invokevirtual 308, 3) := by decide +kernel
theorem dX12_tellLine_249 : decode cX12_tellLine 249 = .ok (.return_, 1) := by decide +kernel
def fX12_tellLine_234 (x0 x1 : Int) (v : V_) : Option (Int × V_) :=
  bd_ (fX12_valueTold x0 v) fun q31 =>
  ck_ (0 ≤ x1 ∧ x1 < 96) (
  lt_ (up_ q31.2 (x0 + 17) x1 q31.1) fun v33 =>
  bd_ (fX12_must x0 4 v33) fun q34 =>
  some (0, q34.2))
def fX12_tellLine_223 (x0 x1 : Int) (v : V_) : Option (Int × V_) :=
  if (v x0 13) = 0 then (
    bd_ (fX12_goesOn x0 v) fun q35 =>
    fX12_tellLine_234 x0 x1 q35.2)
  else (
    fX12_tellLine_234 x0 x1 v)
def fX12_tellLine (x0 x1 : Int) (v : V_) : Option (Int × V_) :=
  ck_ (0 ≤ x1 ∧ x1 < 96) (
  lt_ (up_ v (x0 + 14) x1 0) fun v3 =>
  bd_ (fX12_is x0 26 v3) fun q4 =>
  if q4.1 = 0 then (
    bd_ (fX12_registerTold x0 q4.2) fun q7 =>
    ck_ (0 ≤ x1 ∧ x1 < 96) (
    lt_ (up_ q7.2 (x0 + 15) x1 q7.1) fun v9 =>
    bd_ (fX12_must x0 5 v9) fun q10 =>
    bd_ (fX12_is x0 26 q10.2) fun q11 =>
    if q11.1 = 0 then (
      ck_ (0 ≤ x1 ∧ x1 < 96) (
      lt_ (up_ q11.2 (x0 + 13) x1 0) fun v15 =>
      bd_ (fX12_valueTold x0 v15) fun q17 =>
      ck_ (0 ≤ x1 ∧ x1 < 96) (
      lt_ (up_ q17.2 (x0 + 16) x1 q17.1) fun v19 =>
      bd_ (fX12_is x0 8 v19) fun q20 =>
      if q20.1 = 0 then (
        bd_ (fX12_is x0 9 q20.2) fun q22 =>
        if q22.1 = 0 then (
          bd_ (fX12_is x0 10 q22.2) fun q24 =>
          if q24.1 = 0 then (
            bd_ (fX12_is x0 15 q24.2) fun q26 =>
            if q26.1 = 0 then (
              bd_ (fX12_fail x0 1 q26.2) fun q28 =>
              fX12_tellLine_223 x0 x1 q28.2)
            else (
              ck_ (0 ≤ x1 ∧ x1 < 96) (
              lt_ (up_ q26.2 (x0 + 14) x1 3) fun v38 =>
              fX12_tellLine_223 x0 x1 v38)))
          else (
            ck_ (0 ≤ x1 ∧ x1 < 96) (
            lt_ (up_ q24.2 (x0 + 14) x1 2) fun v41 =>
            fX12_tellLine_223 x0 x1 v41)))
        else (
          ck_ (0 ≤ x1 ∧ x1 < 96) (
          lt_ (up_ q22.2 (x0 + 14) x1 1) fun v44 =>
          fX12_tellLine_223 x0 x1 v44)))
      else (
        ck_ (0 ≤ x1 ∧ x1 < 96) (
        lt_ (up_ q20.2 (x0 + 14) x1 0) fun v47 =>
        fX12_tellLine_223 x0 x1 v47)))))
    else (
      bd_ (fX12_goesOn x0 q11.2) fun q48 =>
      ck_ (0 ≤ x1 ∧ x1 < 96) (
      lt_ (up_ q48.2 (x0 + 13) x1 1) fun v51 =>
      bd_ (fX12_valueTold x0 v51) fun q53 =>
      ck_ (0 ≤ x1 ∧ x1 < 96) (
      lt_ (up_ q53.2 (x0 + 16) x1 q53.1) fun v55 =>
      ck_ (0 ≤ x1 ∧ x1 < 96) (
      lt_ (up_ v55 (x0 + 17) x1 20) fun v58 =>
      bd_ (fX12_must x0 4 v58) fun q59 =>
      some (0, q59.2)))))))
  else (
    bd_ (fX12_goesOn x0 q4.2) fun q60 =>
    ck_ (0 ≤ x1 ∧ x1 < 96) (
    lt_ (up_ q60.2 (x0 + 13) x1 2) fun v63 =>
    ck_ (0 ≤ x1 ∧ x1 < 96) (
    lt_ (up_ v63 (x0 + 15) x1 (-2)) fun v66 =>
    bd_ (fX12_valueTold x0 v66) fun q68 =>
    ck_ (0 ≤ x1 ∧ x1 < 96) (
    lt_ (up_ q68.2 (x0 + 16) x1 q68.1) fun v70 =>
    bd_ (fX12_must x0 5 v70) fun q71 =>
    bd_ (fX12_valueTold x0 q71.2) fun q73 =>
    ck_ (0 ≤ x1 ∧ x1 < 96) (
    lt_ (up_ q73.2 (x0 + 17) x1 q73.1) fun v75 =>
    bd_ (fX12_must x0 4 v75) fun q76 =>
    some (0, q76.2)))))))
section
variable {E : En_} {p : Program} {l : Launch} {e : Env} {s : State} {m : MethodId} {args : Array Value} {below : List Frame} {meth : Method} {c : Code} {sz : Int}
theorem tX12_tellLine_234 (C : MC_ E p s m c cX12_tellLine 2 RX12) (hr : meth.sig.returnType = (none : Option FieldType)) (hlk : meth.locks = false) (hC : Cl_ E.2.2.2.2.2 sz) {out : Int × V_} (x0 x1 : Int) (v : V_) (T0 : (E.2.2.2.2.2 x0 ∧ ty_ x0 = 12 ∧ ln_ x0 = 0)) (h : fX12_tellLine_234 x0 x1 v = some out) : G_ E p l e (rm_ 4 83) s m args below meth c 2 sz (Q_ E below args s sz sz 9 out.1 out.2) 234 [(0, (2, x0)), (1, (0, x1))] [] v sz := by
  rw [fX12_tellLine_234] at h
  refine g_aload_n C (f := 0) dX12_tellLine_234 0 rfl ?_
  have F30 := fX12_30 hC T0.1 T0.2.1
  refine g_getR C (k := 30) (o := 17) okX12 (by decide) kf_RX12_67 dX12_tellLine_235 hC T0.1 T0.2.1 rfl rfl ?_
  refine g_iload_n C (f := 1) dX12_tellLine_238 1 rfl ?_
  refine g_aload_n C (f := 0) dX12_tellLine_239 0 rfl ?_
  obtain ⟨q31, eq31, h⟩ := bd_e h
  refine g_cV C [] (cX12_valueTold_ok l hC T0 eq31) okX12 T0.2.1 (rg_ hC T0.1) km_RX12_328 cv_X12_valueTold rfl (by decide) rfl rfl (Nat.le_of_ble_eq_true rfl) dX12_tellLine_240 ?_
  obtain ⟨c32, h⟩ := ck_e h
  obtain ⟨v33, ev33, h⟩ := lt_e h
  refine g_iast C 96 dX12_tellLine_243 (rg_ hC F30.1) F30.2.1 F30.2.2 c32 v33 ev33 ?_
  refine g_aload_n C (f := 0) dX12_tellLine_244 0 rfl ?_
  refine g_iconst C (n := 4) dX12_tellLine_245 (by decide) ?_
  obtain ⟨q34, eq34, h⟩ := bd_e h
  refine g_cV C [(0, 4)] (cX12_must_ok l hC T0 eq34) okX12 T0.2.1 (rg_ hC T0.1) km_RX12_308 cv_X12_must rfl (by decide) rfl rfl (Nat.le_of_ble_eq_true rfl) dX12_tellLine_246 ?_
  cases h
  exact g_vret C dX12_tellLine_249 hr hlk
theorem tX12_tellLine_223 (C : MC_ E p s m c cX12_tellLine 2 RX12) (hr : meth.sig.returnType = (none : Option FieldType)) (hlk : meth.locks = false) (hC : Cl_ E.2.2.2.2.2 sz) {out : Int × V_} (x0 x1 : Int) (v : V_) (T0 : (E.2.2.2.2.2 x0 ∧ ty_ x0 = 12 ∧ ln_ x0 = 0)) (h : fX12_tellLine_223 x0 x1 v = some out) : G_ E p l e (rm_ 4 83) s m args below meth c 2 sz (Q_ E below args s sz sz 9 out.1 out.2) 223 [(0, (2, x0)), (1, (0, x1))] [] v sz := by
  rw [fX12_tellLine_223] at h
  refine g_aload_n C (f := 0) dX12_tellLine_223 0 rfl ?_
  refine g_getf C (k := 13) (kd := 0) okX12 (by decide) kf_RX12_245 dX12_tellLine_224 (rg_ hC T0.1) T0.2.1 rfl ?_
  refine g_if_ne C 234 dX12_tellLine_227 rfl (fun c29 => ?_) (fun c29 => ?_)
  · replace h := if_f h c29
    refine g_sub [0, 1] rfl rfl ?_
    exact tX12_tellLine_234 C hr hlk hC _ _ _ T0 h
  · replace h := if_t h c29
    refine g_aload_n C (f := 0) dX12_tellLine_230 0 rfl ?_
    obtain ⟨q35, eq35, h⟩ := bd_e h
    refine g_cV C [] (cX12_goesOn_ok l hC T0 eq35) okX12 T0.2.1 (rg_ hC T0.1) km_RX12_266 cv_X12_goesOn rfl (by decide) rfl rfl (Nat.le_of_ble_eq_true rfl) dX12_tellLine_231 ?_
    refine g_sub [0, 1] rfl rfl ?_
    exact tX12_tellLine_234 C hr hlk hC _ _ _ T0 h
end
theorem cX12_tellLine_ok (l : Launch) {E : En_} {sz : Int} (hC : Cl_ E.2.2.2.2.2 sz) {x0 x1 : Int} {v : V_} {out : Int × V_} (T0 : (E.2.2.2.2.2 x0 ∧ ty_ x0 = 12 ∧ ln_ x0 = 0)) (h : fX12_tellLine x0 x1 v = some out) : Met l yX12_tellLine [.code yX12_tellLine cX12_tellLine 2 (none : Option FieldType)] (rm_ 4 83) (Pc_ E sz v [(2, x0), (0, x1)]) (Qc_ E sz 9 out.1 out.2) 0 0 (fun q => E.1 < q) := by
  refine met_G0 RX12 (by decide +kernel) rfl (Nat.le_of_ble_eq_true rfl) ?_
  intro p e s m args below meth c C hr hlk
  rw [fX12_tellLine] at h
  refine g_aload_n C (f := 0) dX12_tellLine_0 0 rfl ?_
  have F1 := fX12_27 hC T0.1 T0.2.1
  refine g_getR C (k := 27) (o := 14) okX12 (by decide) kf_RX12_58 dX12_tellLine_1 hC T0.1 T0.2.1 rfl rfl ?_
  refine g_iload_n C (f := 1) dX12_tellLine_4 1 rfl ?_
  refine g_iconst C (n := 0) dX12_tellLine_5 (by decide) ?_
  obtain ⟨c2, h⟩ := ck_e h
  obtain ⟨v3, ev3, h⟩ := lt_e h
  refine g_iast C 96 dX12_tellLine_6 (rg_ hC F1.1) F1.2.1 F1.2.2 c2 v3 ev3 ?_
  refine g_aload_n C (f := 0) dX12_tellLine_7 0 rfl ?_
  refine g_bipush C (n := 26) dX12_tellLine_8 (by decide) ?_
  obtain ⟨q4, eq4, h⟩ := bd_e h
  refine g_cV C [(0, 26)] (cX12_is_ok l hC T0 eq4) okX12 T0.2.1 (rg_ hC T0.1) km_RX12_263 cv_X12_is rfl (by decide) rfl rfl (Nat.le_of_ble_eq_true rfl) dX12_tellLine_10 ?_
  refine g_if_eq C 66 dX12_tellLine_13 rfl (fun c5 => ?_) (fun c5 => ?_)
  · replace h := if_t h c5
    refine g_aload_n C (f := 0) dX12_tellLine_66 0 rfl ?_
    have F6 := fX12_28 hC T0.1 T0.2.1
    refine g_getR C (k := 28) (o := 15) okX12 (by decide) kf_RX12_61 dX12_tellLine_67 hC T0.1 T0.2.1 rfl rfl ?_
    refine g_iload_n C (f := 1) dX12_tellLine_70 1 rfl ?_
    refine g_aload_n C (f := 0) dX12_tellLine_71 0 rfl ?_
    obtain ⟨q7, eq7, h⟩ := bd_e h
    refine g_cV C [] (cX12_registerTold_ok l hC T0 eq7) okX12 T0.2.1 (rg_ hC T0.1) km_RX12_324 cv_X12_registerTold rfl (by decide) rfl rfl (Nat.le_of_ble_eq_true rfl) dX12_tellLine_72 ?_
    obtain ⟨c8, h⟩ := ck_e h
    obtain ⟨v9, ev9, h⟩ := lt_e h
    refine g_iast C 96 dX12_tellLine_75 (rg_ hC F6.1) F6.2.1 F6.2.2 c8 v9 ev9 ?_
    refine g_aload_n C (f := 0) dX12_tellLine_76 0 rfl ?_
    refine g_iconst C (n := 5) dX12_tellLine_77 (by decide) ?_
    obtain ⟨q10, eq10, h⟩ := bd_e h
    refine g_cV C [(0, 5)] (cX12_must_ok l hC T0 eq10) okX12 T0.2.1 (rg_ hC T0.1) km_RX12_308 cv_X12_must rfl (by decide) rfl rfl (Nat.le_of_ble_eq_true rfl) dX12_tellLine_78 ?_
    refine g_aload_n C (f := 0) dX12_tellLine_81 0 rfl ?_
    refine g_bipush C (n := 26) dX12_tellLine_82 (by decide) ?_
    obtain ⟨q11, eq11, h⟩ := bd_e h
    refine g_cV C [(0, 26)] (cX12_is_ok l hC T0 eq11) okX12 T0.2.1 (rg_ hC T0.1) km_RX12_263 cv_X12_is rfl (by decide) rfl rfl (Nat.le_of_ble_eq_true rfl) dX12_tellLine_84 ?_
    refine g_if_eq C 125 dX12_tellLine_87 rfl (fun c12 => ?_) (fun c12 => ?_)
    · replace h := if_t h c12
      refine g_aload_n C (f := 0) dX12_tellLine_125 0 rfl ?_
      have F13 := fX12_26 hC T0.1 T0.2.1
      refine g_getR C (k := 26) (o := 13) okX12 (by decide) kf_RX12_55 dX12_tellLine_126 hC T0.1 T0.2.1 rfl rfl ?_
      refine g_iload_n C (f := 1) dX12_tellLine_129 1 rfl ?_
      refine g_iconst C (n := 0) dX12_tellLine_130 (by decide) ?_
      obtain ⟨c14, h⟩ := ck_e h
      obtain ⟨v15, ev15, h⟩ := lt_e h
      refine g_iast C 96 dX12_tellLine_131 (rg_ hC F13.1) F13.2.1 F13.2.2 c14 v15 ev15 ?_
      refine g_aload_n C (f := 0) dX12_tellLine_132 0 rfl ?_
      have F16 := fX12_29 hC T0.1 T0.2.1
      refine g_getR C (k := 29) (o := 16) okX12 (by decide) kf_RX12_64 dX12_tellLine_133 hC T0.1 T0.2.1 rfl rfl ?_
      refine g_iload_n C (f := 1) dX12_tellLine_136 1 rfl ?_
      refine g_aload_n C (f := 0) dX12_tellLine_137 0 rfl ?_
      obtain ⟨q17, eq17, h⟩ := bd_e h
      refine g_cV C [] (cX12_valueTold_ok l hC T0 eq17) okX12 T0.2.1 (rg_ hC T0.1) km_RX12_328 cv_X12_valueTold rfl (by decide) rfl rfl (Nat.le_of_ble_eq_true rfl) dX12_tellLine_138 ?_
      obtain ⟨c18, h⟩ := ck_e h
      obtain ⟨v19, ev19, h⟩ := lt_e h
      refine g_iast C 96 dX12_tellLine_141 (rg_ hC F16.1) F16.2.1 F16.2.2 c18 v19 ev19 ?_
      refine g_aload_n C (f := 0) dX12_tellLine_142 0 rfl ?_
      refine g_bipush C (n := 8) dX12_tellLine_143 (by decide) ?_
      obtain ⟨q20, eq20, h⟩ := bd_e h
      refine g_cV C [(0, 8)] (cX12_is_ok l hC T0 eq20) okX12 T0.2.1 (rg_ hC T0.1) km_RX12_263 cv_X12_is rfl (by decide) rfl rfl (Nat.le_of_ble_eq_true rfl) dX12_tellLine_145 ?_
      refine g_if_eq C 161 dX12_tellLine_148 rfl (fun c21 => ?_) (fun c21 => ?_)
      · replace h := if_t h c21
        refine g_aload_n C (f := 0) dX12_tellLine_161 0 rfl ?_
        refine g_bipush C (n := 9) dX12_tellLine_162 (by decide) ?_
        obtain ⟨q22, eq22, h⟩ := bd_e h
        refine g_cV C [(0, 9)] (cX12_is_ok l hC T0 eq22) okX12 T0.2.1 (rg_ hC T0.1) km_RX12_263 cv_X12_is rfl (by decide) rfl rfl (Nat.le_of_ble_eq_true rfl) dX12_tellLine_164 ?_
        refine g_if_eq C 180 dX12_tellLine_167 rfl (fun c23 => ?_) (fun c23 => ?_)
        · replace h := if_t h c23
          refine g_aload_n C (f := 0) dX12_tellLine_180 0 rfl ?_
          refine g_bipush C (n := 10) dX12_tellLine_181 (by decide) ?_
          obtain ⟨q24, eq24, h⟩ := bd_e h
          refine g_cV C [(0, 10)] (cX12_is_ok l hC T0 eq24) okX12 T0.2.1 (rg_ hC T0.1) km_RX12_263 cv_X12_is rfl (by decide) rfl rfl (Nat.le_of_ble_eq_true rfl) dX12_tellLine_183 ?_
          refine g_if_eq C 199 dX12_tellLine_186 rfl (fun c25 => ?_) (fun c25 => ?_)
          · replace h := if_t h c25
            refine g_aload_n C (f := 0) dX12_tellLine_199 0 rfl ?_
            refine g_bipush C (n := 15) dX12_tellLine_200 (by decide) ?_
            obtain ⟨q26, eq26, h⟩ := bd_e h
            refine g_cV C [(0, 15)] (cX12_is_ok l hC T0 eq26) okX12 T0.2.1 (rg_ hC T0.1) km_RX12_263 cv_X12_is rfl (by decide) rfl rfl (Nat.le_of_ble_eq_true rfl) dX12_tellLine_202 ?_
            refine g_if_eq C 218 dX12_tellLine_205 rfl (fun c27 => ?_) (fun c27 => ?_)
            · replace h := if_t h c27
              refine g_aload_n C (f := 0) dX12_tellLine_218 0 rfl ?_
              refine g_iconst C (n := 1) dX12_tellLine_219 (by decide) ?_
              obtain ⟨q28, eq28, h⟩ := bd_e h
              refine g_cV C [(0, 1)] (cX12_fail_ok l hC T0 eq28) okX12 T0.2.1 (rg_ hC T0.1) km_RX12_260 cv_X12_fail rfl (by decide) rfl rfl (Nat.le_of_ble_eq_true rfl) dX12_tellLine_220 ?_
              refine g_sub [0, 1] rfl rfl ?_
              exact tX12_tellLine_223 C hr hlk hC _ _ _ T0 h
            · replace h := if_f h c27
              refine g_aload_n C (f := 0) dX12_tellLine_208 0 rfl ?_
              have F36 := fX12_27 hC T0.1 T0.2.1
              refine g_getR C (k := 27) (o := 14) okX12 (by decide) kf_RX12_58 dX12_tellLine_209 hC T0.1 T0.2.1 rfl rfl ?_
              refine g_iload_n C (f := 1) dX12_tellLine_212 1 rfl ?_
              refine g_iconst C (n := 3) dX12_tellLine_213 (by decide) ?_
              obtain ⟨c37, h⟩ := ck_e h
              obtain ⟨v38, ev38, h⟩ := lt_e h
              refine g_iast C 96 dX12_tellLine_214 (rg_ hC F36.1) F36.2.1 F36.2.2 c37 v38 ev38 ?_
              refine g_goto C 223 dX12_tellLine_215 rfl ?_
              refine g_sub [0, 1] rfl rfl ?_
              exact tX12_tellLine_223 C hr hlk hC _ _ _ T0 h
          · replace h := if_f h c25
            refine g_aload_n C (f := 0) dX12_tellLine_189 0 rfl ?_
            have F39 := fX12_27 hC T0.1 T0.2.1
            refine g_getR C (k := 27) (o := 14) okX12 (by decide) kf_RX12_58 dX12_tellLine_190 hC T0.1 T0.2.1 rfl rfl ?_
            refine g_iload_n C (f := 1) dX12_tellLine_193 1 rfl ?_
            refine g_iconst C (n := 2) dX12_tellLine_194 (by decide) ?_
            obtain ⟨c40, h⟩ := ck_e h
            obtain ⟨v41, ev41, h⟩ := lt_e h
            refine g_iast C 96 dX12_tellLine_195 (rg_ hC F39.1) F39.2.1 F39.2.2 c40 v41 ev41 ?_
            refine g_goto C 223 dX12_tellLine_196 rfl ?_
            refine g_sub [0, 1] rfl rfl ?_
            exact tX12_tellLine_223 C hr hlk hC _ _ _ T0 h
        · replace h := if_f h c23
          refine g_aload_n C (f := 0) dX12_tellLine_170 0 rfl ?_
          have F42 := fX12_27 hC T0.1 T0.2.1
          refine g_getR C (k := 27) (o := 14) okX12 (by decide) kf_RX12_58 dX12_tellLine_171 hC T0.1 T0.2.1 rfl rfl ?_
          refine g_iload_n C (f := 1) dX12_tellLine_174 1 rfl ?_
          refine g_iconst C (n := 1) dX12_tellLine_175 (by decide) ?_
          obtain ⟨c43, h⟩ := ck_e h
          obtain ⟨v44, ev44, h⟩ := lt_e h
          refine g_iast C 96 dX12_tellLine_176 (rg_ hC F42.1) F42.2.1 F42.2.2 c43 v44 ev44 ?_
          refine g_goto C 223 dX12_tellLine_177 rfl ?_
          refine g_sub [0, 1] rfl rfl ?_
          exact tX12_tellLine_223 C hr hlk hC _ _ _ T0 h
      · replace h := if_f h c21
        refine g_aload_n C (f := 0) dX12_tellLine_151 0 rfl ?_
        have F45 := fX12_27 hC T0.1 T0.2.1
        refine g_getR C (k := 27) (o := 14) okX12 (by decide) kf_RX12_58 dX12_tellLine_152 hC T0.1 T0.2.1 rfl rfl ?_
        refine g_iload_n C (f := 1) dX12_tellLine_155 1 rfl ?_
        refine g_iconst C (n := 0) dX12_tellLine_156 (by decide) ?_
        obtain ⟨c46, h⟩ := ck_e h
        obtain ⟨v47, ev47, h⟩ := lt_e h
        refine g_iast C 96 dX12_tellLine_157 (rg_ hC F45.1) F45.2.1 F45.2.2 c46 v47 ev47 ?_
        refine g_goto C 223 dX12_tellLine_158 rfl ?_
        refine g_sub [0, 1] rfl rfl ?_
        exact tX12_tellLine_223 C hr hlk hC _ _ _ T0 h
    · replace h := if_f h c12
      refine g_aload_n C (f := 0) dX12_tellLine_90 0 rfl ?_
      obtain ⟨q48, eq48, h⟩ := bd_e h
      refine g_cV C [] (cX12_goesOn_ok l hC T0 eq48) okX12 T0.2.1 (rg_ hC T0.1) km_RX12_266 cv_X12_goesOn rfl (by decide) rfl rfl (Nat.le_of_ble_eq_true rfl) dX12_tellLine_91 ?_
      refine g_aload_n C (f := 0) dX12_tellLine_94 0 rfl ?_
      have F49 := fX12_26 hC T0.1 T0.2.1
      refine g_getR C (k := 26) (o := 13) okX12 (by decide) kf_RX12_55 dX12_tellLine_95 hC T0.1 T0.2.1 rfl rfl ?_
      refine g_iload_n C (f := 1) dX12_tellLine_98 1 rfl ?_
      refine g_iconst C (n := 1) dX12_tellLine_99 (by decide) ?_
      obtain ⟨c50, h⟩ := ck_e h
      obtain ⟨v51, ev51, h⟩ := lt_e h
      refine g_iast C 96 dX12_tellLine_100 (rg_ hC F49.1) F49.2.1 F49.2.2 c50 v51 ev51 ?_
      refine g_aload_n C (f := 0) dX12_tellLine_101 0 rfl ?_
      have F52 := fX12_29 hC T0.1 T0.2.1
      refine g_getR C (k := 29) (o := 16) okX12 (by decide) kf_RX12_64 dX12_tellLine_102 hC T0.1 T0.2.1 rfl rfl ?_
      refine g_iload_n C (f := 1) dX12_tellLine_105 1 rfl ?_
      refine g_aload_n C (f := 0) dX12_tellLine_106 0 rfl ?_
      obtain ⟨q53, eq53, h⟩ := bd_e h
      refine g_cV C [] (cX12_valueTold_ok l hC T0 eq53) okX12 T0.2.1 (rg_ hC T0.1) km_RX12_328 cv_X12_valueTold rfl (by decide) rfl rfl (Nat.le_of_ble_eq_true rfl) dX12_tellLine_107 ?_
      obtain ⟨c54, h⟩ := ck_e h
      obtain ⟨v55, ev55, h⟩ := lt_e h
      refine g_iast C 96 dX12_tellLine_110 (rg_ hC F52.1) F52.2.1 F52.2.2 c54 v55 ev55 ?_
      refine g_aload_n C (f := 0) dX12_tellLine_111 0 rfl ?_
      have F56 := fX12_30 hC T0.1 T0.2.1
      refine g_getR C (k := 30) (o := 17) okX12 (by decide) kf_RX12_67 dX12_tellLine_112 hC T0.1 T0.2.1 rfl rfl ?_
      refine g_iload_n C (f := 1) dX12_tellLine_115 1 rfl ?_
      refine g_bipush C (n := 20) dX12_tellLine_116 (by decide) ?_
      obtain ⟨c57, h⟩ := ck_e h
      obtain ⟨v58, ev58, h⟩ := lt_e h
      refine g_iast C 96 dX12_tellLine_118 (rg_ hC F56.1) F56.2.1 F56.2.2 c57 v58 ev58 ?_
      refine g_aload_n C (f := 0) dX12_tellLine_119 0 rfl ?_
      refine g_iconst C (n := 4) dX12_tellLine_120 (by decide) ?_
      obtain ⟨q59, eq59, h⟩ := bd_e h
      refine g_cV C [(0, 4)] (cX12_must_ok l hC T0 eq59) okX12 T0.2.1 (rg_ hC T0.1) km_RX12_308 cv_X12_must rfl (by decide) rfl rfl (Nat.le_of_ble_eq_true rfl) dX12_tellLine_121 ?_
      cases h
      exact g_vret C dX12_tellLine_124 hr hlk
  · replace h := if_f h c5
    refine g_aload_n C (f := 0) dX12_tellLine_16 0 rfl ?_
    obtain ⟨q60, eq60, h⟩ := bd_e h
    refine g_cV C [] (cX12_goesOn_ok l hC T0 eq60) okX12 T0.2.1 (rg_ hC T0.1) km_RX12_266 cv_X12_goesOn rfl (by decide) rfl rfl (Nat.le_of_ble_eq_true rfl) dX12_tellLine_17 ?_
    refine g_aload_n C (f := 0) dX12_tellLine_20 0 rfl ?_
    have F61 := fX12_26 hC T0.1 T0.2.1
    refine g_getR C (k := 26) (o := 13) okX12 (by decide) kf_RX12_55 dX12_tellLine_21 hC T0.1 T0.2.1 rfl rfl ?_
    refine g_iload_n C (f := 1) dX12_tellLine_24 1 rfl ?_
    refine g_iconst C (n := 2) dX12_tellLine_25 (by decide) ?_
    obtain ⟨c62, h⟩ := ck_e h
    obtain ⟨v63, ev63, h⟩ := lt_e h
    refine g_iast C 96 dX12_tellLine_26 (rg_ hC F61.1) F61.2.1 F61.2.2 c62 v63 ev63 ?_
    refine g_aload_n C (f := 0) dX12_tellLine_27 0 rfl ?_
    have F64 := fX12_28 hC T0.1 T0.2.1
    refine g_getR C (k := 28) (o := 15) okX12 (by decide) kf_RX12_61 dX12_tellLine_28 hC T0.1 T0.2.1 rfl rfl ?_
    refine g_iload_n C (f := 1) dX12_tellLine_31 1 rfl ?_
    refine g_bipush C (n := (-2)) dX12_tellLine_32 (by decide) ?_
    obtain ⟨c65, h⟩ := ck_e h
    obtain ⟨v66, ev66, h⟩ := lt_e h
    refine g_iast C 96 dX12_tellLine_34 (rg_ hC F64.1) F64.2.1 F64.2.2 c65 v66 ev66 ?_
    refine g_aload_n C (f := 0) dX12_tellLine_35 0 rfl ?_
    have F67 := fX12_29 hC T0.1 T0.2.1
    refine g_getR C (k := 29) (o := 16) okX12 (by decide) kf_RX12_64 dX12_tellLine_36 hC T0.1 T0.2.1 rfl rfl ?_
    refine g_iload_n C (f := 1) dX12_tellLine_39 1 rfl ?_
    refine g_aload_n C (f := 0) dX12_tellLine_40 0 rfl ?_
    obtain ⟨q68, eq68, h⟩ := bd_e h
    refine g_cV C [] (cX12_valueTold_ok l hC T0 eq68) okX12 T0.2.1 (rg_ hC T0.1) km_RX12_328 cv_X12_valueTold rfl (by decide) rfl rfl (Nat.le_of_ble_eq_true rfl) dX12_tellLine_41 ?_
    obtain ⟨c69, h⟩ := ck_e h
    obtain ⟨v70, ev70, h⟩ := lt_e h
    refine g_iast C 96 dX12_tellLine_44 (rg_ hC F67.1) F67.2.1 F67.2.2 c69 v70 ev70 ?_
    refine g_aload_n C (f := 0) dX12_tellLine_45 0 rfl ?_
    refine g_iconst C (n := 5) dX12_tellLine_46 (by decide) ?_
    obtain ⟨q71, eq71, h⟩ := bd_e h
    refine g_cV C [(0, 5)] (cX12_must_ok l hC T0 eq71) okX12 T0.2.1 (rg_ hC T0.1) km_RX12_308 cv_X12_must rfl (by decide) rfl rfl (Nat.le_of_ble_eq_true rfl) dX12_tellLine_47 ?_
    refine g_aload_n C (f := 0) dX12_tellLine_50 0 rfl ?_
    have F72 := fX12_30 hC T0.1 T0.2.1
    refine g_getR C (k := 30) (o := 17) okX12 (by decide) kf_RX12_67 dX12_tellLine_51 hC T0.1 T0.2.1 rfl rfl ?_
    refine g_iload_n C (f := 1) dX12_tellLine_54 1 rfl ?_
    refine g_aload_n C (f := 0) dX12_tellLine_55 0 rfl ?_
    obtain ⟨q73, eq73, h⟩ := bd_e h
    refine g_cV C [] (cX12_valueTold_ok l hC T0 eq73) okX12 T0.2.1 (rg_ hC T0.1) km_RX12_328 cv_X12_valueTold rfl (by decide) rfl rfl (Nat.le_of_ble_eq_true rfl) dX12_tellLine_56 ?_
    obtain ⟨c74, h⟩ := ck_e h
    obtain ⟨v75, ev75, h⟩ := lt_e h
    refine g_iast C 96 dX12_tellLine_59 (rg_ hC F72.1) F72.2.1 F72.2.2 c74 v75 ev75 ?_
    refine g_aload_n C (f := 0) dX12_tellLine_60 0 rfl ?_
    refine g_iconst C (n := 4) dX12_tellLine_61 (by decide) ?_
    obtain ⟨q76, eq76, h⟩ := bd_e h
    refine g_cV C [(0, 4)] (cX12_must_ok l hC T0 eq76) okX12 T0.2.1 (rg_ hC T0.1) km_RX12_308 cv_X12_must rfl (by decide) rfl rfl (Nat.le_of_ble_eq_true rfl) dX12_tellLine_62 ?_
    cases h
    exact g_vret C dX12_tellLine_65 hr hlk
theorem dX12_tellBlock_0 : decode cX12_tellBlock 0 = .ok (.bipush 8, 2) := by decide +kernel
theorem dX12_tellBlock_2 : decode cX12_tellBlock 2 = .ok (.aload_n 0, 1) := by decide +kernel
theorem dX12_tellBlock_3 : decode cX12_tellBlock 3 = .ok (.getfield 275, 3) := by decide +kernel
theorem dX12_tellBlock_6 : decode cX12_tellBlock 6 = .ok (.imul, 1) := by decide +kernel
theorem dX12_tellBlock_7 : decode cX12_tellBlock 7 = .ok (.aload_n 0, 1) := by decide +kernel
theorem dX12_tellBlock_8 : decode cX12_tellBlock 8 = .ok (.getfield 43, 3) := by decide +kernel
theorem dX12_tellBlock_11 : decode cX12_tellBlock 11 = .ok (.aload_n 0, 1) := by decide +kernel
theorem dX12_tellBlock_12 : decode cX12_tellBlock 12 = .ok (.getfield 275, 3) := by decide +kernel
theorem dX12_tellBlock_15 : decode cX12_tellBlock 15 = .ok (.iaload, 1) := by decide +kernel
theorem dX12_tellBlock_16 : decode cX12_tellBlock 16 = .ok (.iadd, 1) := by decide +kernel
theorem dX12_tellBlock_17 : decode cX12_tellBlock 17 = .ok (.istore_n 1, 1) := by decide +kernel
theorem dX12_tellBlock_18 : decode cX12_tellBlock 18 = .ok (.aload_n 0, 1) := by decide +kernel
theorem dX12_tellBlock_19 : decode cX12_tellBlock 19 = .ok (.getfield 248, 3) := by decide +kernel
theorem dX12_tellBlock_22 : decode cX12_tellBlock 22 = .ok (.istore_n 2, 1) := by decide +kernel
theorem dX12_tellBlock_23 : decode cX12_tellBlock 23 = .ok (.aload_n 0, 1) := by decide +kernel
theorem dX12_tellBlock_24 : decode cX12_tellBlock 24 = .ok (.iconst 1, 1) := by decide +kernel
theorem dX12_tellBlock_25 : decode cX12_tellBlock 25 = .ok (.invokevirtual 308, 3) := by decide +kernel
theorem dX12_tellBlock_28 : decode cX12_tellBlock 28 = .ok (.iconst 0, 1) := by decide +kernel
theorem dX12_tellBlock_29 : decode cX12_tellBlock 29 = .ok (.istore_n 3, 1) := by decide +kernel
theorem dX12_tellBlock_30 : decode cX12_tellBlock 30 = .ok (.iload_n 3, 1) := by decide +kernel
theorem dX12_tellBlock_31 : decode cX12_tellBlock 31 = .ok (.aload_n 0, 1) := by decide +kernel
theorem dX12_tellBlock_32 : decode cX12_tellBlock 32 = .ok (.getfield 278, 3) := by decide +kernel
theorem dX12_tellBlock_35 : decode cX12_tellBlock 35 = .ok (.if_icmp .ge 38, 3) := by decide +kernel
theorem dX12_tellBlock_38 : decode cX12_tellBlock 38 = .ok (.aload_n 0, 1) := by decide +kernel
theorem dX12_tellBlock_39 : decode cX12_tellBlock 39 = .ok (.getfield 245, 3) := by decide +kernel
theorem dX12_tellBlock_42 : decode cX12_tellBlock 42 = .ok (.ifCond .ne 31, 3) := by decide +kernel
theorem dX12_tellBlock_45 : decode cX12_tellBlock 45 = .ok (.aload_n 0, 1) := by decide +kernel
theorem dX12_tellBlock_46 : decode cX12_tellBlock 46 = .ok (.getfield 40, 3) := by decide +kernel
theorem dX12_tellBlock_49 : decode cX12_tellBlock 49 = .ok (.iload_n 3, 1) := by decide +kernel
theorem dX12_tellBlock_50 : decode cX12_tellBlock 50 = .ok (.laload, 1) := by decide +kernel
theorem dX12_tellBlock_51 : decode cX12_tellBlock 51 = .ok (.aload_n 0, 1) := by decide +kernel
theorem dX12_tellBlock_52 : decode cX12_tellBlock 52 = .ok (.getfield 30, 3) := by decide +kernel
theorem dX12_tellBlock_55 : decode cX12_tellBlock 55 = .ok (.iload_n 2, 1) := by decide +kernel
theorem dX12_tellBlock_56 : decode cX12_tellBlock 56 = .ok (.laload, 1) := by decide +kernel
theorem dX12_tellBlock_57 : decode cX12_tellBlock 57 = .ok (.lcmp, 1) := by decide +kernel
theorem dX12_tellBlock_58 : decode cX12_tellBlock 58 = .ok (.ifCond .ne 9, 3) := by decide +kernel
theorem dX12_tellBlock_61 : decode cX12_tellBlock 61 = .ok (.aload_n 0, 1) := by decide +kernel
theorem dX12_tellBlock_62 : decode cX12_tellBlock 62 = .ok (.iconst 3, 1) := by decide +kernel
theorem dX12_tellBlock_63 : decode cX12_tellBlock 63 = .ok (.iload_n 2, 1) := by decide +kernel
theorem dX12_tellBlock_64 : decode cX12_tellBlock 64 = .ok (.invokevirtual 311, 3) := by decide +kernel
theorem dX12_tellBlock_67 : decode cX12_tellBlock 67 = .ok (.iinc 3 1, 3) := by decide +kernel
theorem dX12_tellBlock_70 : decode cX12_tellBlock 70 = .ok (.goto (-40), 3) := by decide +kernel
theorem dX12_tellBlock_73 : decode cX12_tellBlock 73 = .ok (.aload_n 0, 1) := by decide +kernel
theorem dX12_tellBlock_74 : decode cX12_tellBlock 74 = .ok (.iconst 4, 1) := by decide +kernel
theorem dX12_tellBlock_75 : decode cX12_tellBlock 75 = .ok (.invokevirtual 308, 3) := by decide +kernel
theorem dX12_tellBlock_78 : decode cX12_tellBlock 78 = .ok (.aload_n 0, 1) := by decide +kernel
theorem dX12_tellBlock_79 : decode cX12_tellBlock 79 = .ok (.getfield 245, 3) := by decide +kernel
theorem dX12_tellBlock_82 : decode cX12_tellBlock 82 = .ok (.ifCond .le 4, 3) := by decide +kernel
theorem dX12_tellBlock_85 : decode cX12_tellBlock 85 = .ok (.return_, 1) := by decide +kernel
theorem dX12_tellBlock_86 : decode cX12_tellBlock 86 = .ok (.aload_n 0, 1) := by decide +kernel
theorem dX12_tellBlock_87 : decode cX12_tellBlock 87 = .ok (.getfield 40, 3) := by decide +kernel
theorem dX12_tellBlock_90 : decode cX12_tellBlock 90 = .ok (.aload_n 0, 1) := by decide +kernel
theorem dX12_tellBlock_91 : decode cX12_tellBlock 91 = .ok (.getfield 278, 3) := by decide +kernel
theorem dX12_tellBlock_94 : decode cX12_tellBlock 94 = .ok (.aload_n 0, 1) := by decide +kernel
theorem dX12_tellBlock_95 : decode cX12_tellBlock 95 = .ok (.getfield 30, 3) := by decide +kernel
theorem dX12_tellBlock_98 : decode cX12_tellBlock 98 = .ok (.iload_n 2, 1) := by decide +kernel
theorem dX12_tellBlock_99 : decode cX12_tellBlock 99 = .ok (.laload, 1) := by decide +kernel
theorem dX12_tellBlock_100 : decode cX12_tellBlock 100 = .ok (.lastore, 1) := by decide +kernel
theorem dX12_tellBlock_101 : decode cX12_tellBlock 101 = .ok (.aload_n 0, 1) := by decide +kernel
theorem dX12_tellBlock_102 : decode cX12_tellBlock 102 = .ok (.dup, 1) := by decide +kernel
theorem dX12_tellBlock_103 : decode cX12_tellBlock 103 = .ok (.getfield 278, 3) := by decide +kernel
theorem dX12_tellBlock_106 : decode cX12_tellBlock 106 = .ok (.iconst 1, 1) := by decide +kernel
theorem dX12_tellBlock_107 : decode cX12_tellBlock 107 = .ok (.iadd, 1) := by decide +kernel
theorem dX12_tellBlock_108 : decode cX12_tellBlock 108 = .ok (.putfield 278, 3) := by decide +kernel
theorem dX12_tellBlock_111 : decode cX12_tellBlock 111 = .ok (.aload_n 0, 1) := by decide +kernel
theorem dX12_tellBlock_112 : decode cX12_tellBlock 112 = .ok (.getfield 52, 3) := by decide +kernel
theorem dX12_tellBlock_115 : decode cX12_tellBlock 115 = .ok (.iload_n 1, 1) := by decide +kernel
theorem dX12_tellBlock_116 : decode cX12_tellBlock 116 = .ok (.iconst 0, 1) := by decide +kernel
theorem dX12_tellBlock_117 : decode cX12_tellBlock 117 = .ok (.iastore, 1) := by decide +kernel
theorem dX12_tellBlock_118 : decode cX12_tellBlock 118 = .ok (.aload_n 0, 1) := by decide +kernel
theorem dX12_tellBlock_119 : decode cX12_tellBlock 119 = .ok (.invokevirtual 314, 3) := by decide +kernel
theorem dX12_tellBlock_122 : decode cX12_tellBlock 122 = .ok (.ifCond .ne 12, 3) := by decide +kernel
theorem dX12_tellBlock_125 : decode cX12_tellBlock 125 = .ok (.aload_n 0, 1) := by decide +kernel
theorem dX12_tellBlock_126 : decode cX12_tellBlock 126 = .ok (.bipush 26, 2) := by decide +kernel
theorem dX12_tellBlock_128 : decode cX12_tellBlock 128 = .ok (.invokevirtual 263, 3) := by decide +kernel
theorem dX12_tellBlock_131 : decode cX12_tellBlock 131 = .ok (.ifCond .eq 55, 3) := by decide +kernel
theorem dX12_tellBlock_134 : decode cX12_tellBlock 134 = .ok (.aload_n 0, 1) := by decide +kernel
theorem dX12_tellBlock_135 : decode cX12_tellBlock 135 = .ok (.getfield 52, 3) := by decide +kernel
theorem dX12_tellBlock_138 : decode cX12_tellBlock 138 = .ok (.iload_n 1, 1) := by decide +kernel
theorem dX12_tellBlock_139 : decode cX12_tellBlock 139 = .ok (.iaload, 1) := by decide +kernel
theorem dX12_tellBlock_140 : decode cX12_tellBlock 140 = .ok (.bipush 6, 2) := by decide +kernel
theorem dX12_tellBlock_142 : decode cX12_tellBlock 142 = .ok (.if_icmp .ne 8, 3) := by decide +kernel
theorem dX12_tellBlock_145 : decode cX12_tellBlock 145 = .ok (.aload_n 0, 1) := by decide +kernel
theorem dX12_tellBlock_146 : decode cX12_tellBlock 146 = .ok (.iconst 2, 1) := by decide +kernel
theorem dX12_tellBlock_147 : decode cX12_tellBlock 147 = .ok (.invokevirtual 260, 3) := by decide +kernel
theorem dX12_tellBlock_150 : decode cX12_tellBlock 150 = .ok (.aload_n 0, 1) := by decide +kernel
theorem dX12_tellBlock_151 : decode cX12_tellBlock 151 = .ok (.getfield 245, 3) := by decide +kernel
theorem dX12_tellBlock_154 : decode cX12_tellBlock 154 = .ok (.ifCond .le 4, 3) := by decide +kernel
theorem dX12_tellBlock_157 : decode cX12_tellBlock 157 = .ok (.return_, 1) := by decide +kernel
theorem dX12_tellBlock_158 : decode cX12_tellBlock 158 = .ok (.aload_n 0, 1) := by decide +kernel
theorem dX12_tellBlock_159 : decode cX12_tellBlock 159 = .ok (.bipush 6, 2) := by decide +kernel
theorem dX12_tellBlock_161 : decode cX12_tellBlock 161 = .ok (.iload_n 1, 1) := by decide +kernel
theorem dX12_tellBlock_162 : decode cX12_tellBlock 162 = .ok (.imul, 1) := by decide +kernel
theorem dX12_tellBlock_163 : decode cX12_tellBlock 163 = .ok (.aload_n 0, 1) := by decide +kernel
theorem dX12_tellBlock_164 : decode cX12_tellBlock 164 = .ok (.getfield 52, 3) := by decide +kernel
theorem dX12_tellBlock_167 : decode cX12_tellBlock 167 = .ok (.iload_n 1, 1) := by decide +kernel
theorem dX12_tellBlock_168 : decode cX12_tellBlock 168 = .ok (.iaload, 1) := by decide +kernel
theorem dX12_tellBlock_169 : decode cX12_tellBlock 169 = .ok (.iadd, 1) := by decide +kernel
theorem dX12_tellBlock_170 : decode cX12_tellBlock 170 = .ok (.invokevirtual 318, 3) := by decide +kernel
theorem dX12_tellBlock_173 : decode cX12_tellBlock 173 = .ok (.aload_n 0, 1) := by decide +kernel
theorem dX12_tellBlock_174 : decode cX12_tellBlock 174 = .ok (.getfield 52, 3) := by decide +kernel
theorem dX12_tellBlock_177 : decode cX12_tellBlock 177 = .ok (.iload_n 1, 1) := by decide +kernel
theorem dX12_tellBlock_178 : decode cX12_tellBlock 178 = .ok (.dup2, 1) := by decide +kernel
theorem dX12_tellBlock_179 : decode cX12_tellBlock 179 = .ok (.iaload, 1) := by decide +kernel
theorem dX12_tellBlock_180 : decode cX12_tellBlock 180 = .ok (.iconst 1, 1) := by decide +kernel
theorem dX12_tellBlock_181 : decode cX12_tellBlock 181 = .ok (.iadd, 1) := by decide +kernel
theorem dX12_tellBlock_182 : decode cX12_tellBlock 182 = .ok (.iastore, 1) := by decide +kernel
theorem dX12_tellBlock_183 : decode cX12_tellBlock 183 = .ok (.goto (-65), 3) := by decide +kernel
theorem dX12_tellBlock_186 : decode cX12_tellBlock 186 = .ok (.aload_n 0, 1) := by decide +kernel
theorem dX12_tellBlock_187 : decode cX12_tellBlock 187 = .ok (.getfield 245, 3) := by decide +kernel
theorem dX12_tellBlock_190 : decode cX12_tellBlock 190 = .ok (.ifCond .ne 8, 3) := by decide +kernel
theorem dX12_tellBlock_193 : decode cX12_tellBlock 193 = .ok (.aload_n 0, 1) := by decide +kernel
theorem dX12_tellBlock_194 : decode cX12_tellBlock 194 = .ok (.iload_n 1, 1) := by decide +kernel
theorem dX12_tellBlock_195 : decode cX12_tellBlock 195 = .ok (.invokevirtual 321, 3) := by decide +kernel
theorem dX12_tellBlock_198 : decode cX12_tellBlock 198 = .ok (.aload_n 0, 1) := by decide +kernel
theorem dX12_tellBlock_199 : decode cX12_tellBlock 199 = .ok (.getfield 245, 3) := by decide +kernel
theorem dX12_tellBlock_202 : decode cX12_tellBlock 202 = .ok (.ifCond .ne 16, 3) := by decide +kernel
theorem dX12_tellBlock_205 : decode cX12_tellBlock 205 = .ok (.aload_n 0, 1) := by decide +kernel
theorem dX12_tellBlock_206 : decode cX12_tellBlock 206 = .ok (.getfield 43, 3) := by decide +kernel
theorem dX12_tellBlock_209 : decode cX12_tellBlock 209 = .ok (.aload_n 0, 1) := by decide +kernel
theorem dX12_tellBlock_210 : decode cX12_tellBlock 210 = .ok (.getfield 275, 3) := by decide +kernel
theorem dX12_tellBlock_213 : decode cX12_tellBlock 213 = .ok (.dup2, 1) := by decide +kernel
theorem dX12_tellBlock_214 : decode cX12_tellBlock 214 = .ok (.iaload, 1) := by decide +kernel
theorem dX12_tellBlock_215 : decode cX12_tellBlock 215 = .ok (.iconst 1, 1) := by decide +kernel
theorem dX12_tellBlock_216 : decode cX12_tellBlock 216 = .ok (.iadd, 1) := by decide +kernel
theorem dX12_tellBlock_217 : decode cX12_tellBlock 217 = .ok (.iastore, 1) := by decide +kernel
theorem dX12_tellBlock_218 : decode cX12_tellBlock 218 = .ok (.return_, 1) := by decide +kernel
def fX12_tellBlock_150 (k118 : Int → Int → V_ → Option (Int × V_)) (x0 x1 : Int) (v : V_) : Option (Int × V_) :=
  if (v x0 13) ≤ 0 then (
    ck_ (0 ≤ x1 ∧ x1 < 16) (
    bd_ (fX12_tellLine x0 (wr_ ((wr_ (6 * x1)) + (v (x0 + 12) x1))) v) fun q26 =>
    ck_ (0 ≤ x1 ∧ x1 < 16) (
    ck_ (0 ≤ x1 ∧ x1 < 16) (
    lt_ (up_ q26.2 (x0 + 12) x1 (wr_ ((q26.2 (x0 + 12) x1) + 1))) fun v30 =>
    k118 x0 x1 v30))))
  else (
    some (0, v))
def fX12_tellBlock_134 (k118 : Int → Int → V_ → Option (Int × V_)) (x0 x1 : Int) (v : V_) : Option (Int × V_) :=
  ck_ (0 ≤ x1 ∧ x1 < 16) (
  if (v (x0 + 12) x1) = 6 then (
    bd_ (fX12_fail x0 2 v) fun q31 =>
    fX12_tellBlock_150 k118 x0 x1 q31.2)
  else (
    fX12_tellBlock_150 k118 x0 x1 v))
def fX12_tellBlock_198 (x0 : Int) (v : V_) : Option (Int × V_) :=
  if (v x0 13) = 0 then (
    ck_ (0 ≤ v x0 19 ∧ v x0 19 < 2) (
    ck_ (0 ≤ v x0 19 ∧ v x0 19 < 2) (
    lt_ (up_ v (x0 + 9) (v x0 19) (wr_ ((v (x0 + 9) (v x0 19)) + 1))) fun v39 =>
    some (0, v39))))
  else (
    some (0, v))
def fX12_tellBlock_118 : Nat → Int → Int → V_ → Option (Int × V_)
  | 0, _, _, _ => none
  | n + 1, x0, x1, v =>
    bd_ (fX12_isRegister x0 v) fun q18 =>
    if q18.1 = 0 then (
      bd_ (fX12_is x0 26 q18.2) fun q32 =>
      if q32.1 = 0 then (
        if (q32.2 x0 13) = 0 then (
          bd_ (fX12_tellEnd x0 x1 q32.2) fun q40 =>
          fX12_tellBlock_198 x0 q40.2)
        else (
          fX12_tellBlock_198 x0 q32.2))
      else (
        fX12_tellBlock_134 (fX12_tellBlock_118 n) x0 x1 q32.2))
    else (
      fX12_tellBlock_134 (fX12_tellBlock_118 n) x0 x1 q18.2)
def fX12_tellBlock_73 (x0 x1 x2 : Int) (v : V_) : Option (Int × V_) :=
  bd_ (fX12_must x0 4 v) fun q7 =>
  if (q7.2 x0 13) ≤ 0 then (
    ck_ (0 ≤ x2 ∧ x2 < 403) (
    ck_ (0 ≤ q7.2 x0 20 ∧ q7.2 x0 20 < 8) (
    lt_ (up_ q7.2 (x0 + 8) (q7.2 x0 20) (q7.2 (x0 + 6) x2)) fun v13 =>
    lt_ (up_ v13 x0 20 (wr_ ((v13 x0 20) + 1))) fun v14 =>
    ck_ (0 ≤ x1 ∧ x1 < 16) (
    lt_ (up_ v14 (x0 + 12) x1 0) fun v17 =>
    fX12_tellBlock_118 fu_ x0 x1 v17))))
  else (
    some (0, q7.2))
def fX12_tellBlock_30 : Nat → Int → Int → Int → Int → V_ → Option (Int × V_)
  | 0, _, _, _, _, _ => none
  | n + 1, x0, x1, x2, x3, v =>
    if (v x0 20) ≤ x3 then (
      fX12_tellBlock_73 x0 x1 x2 v)
    else (
      if (v x0 13) = 0 then (
        ck_ (0 ≤ x3 ∧ x3 < 8) (
        ck_ (0 ≤ x2 ∧ x2 < 403) (
        if (lc_ (v (x0 + 8) x3) (v (x0 + 6) x2)) = 0 then (
          bd_ (fX12_wrong x0 3 x2 v) fun q48 =>
          lt_ (wr_ (x3 + 1)) fun y49 =>
          (fX12_tellBlock_30 n) x0 x1 x2 y49 q48.2)
        else (
          lt_ (wr_ (x3 + 1)) fun y47 =>
          (fX12_tellBlock_30 n) x0 x1 x2 y47 v))))
      else (
        fX12_tellBlock_73 x0 x1 x2 v))
def fX12_tellBlock (x0 : Int) (v : V_) : Option (Int × V_) :=
  ck_ (0 ≤ v x0 19 ∧ v x0 19 < 2) (
  lt_ (wr_ ((wr_ (8 * (v x0 19))) + (v (x0 + 9) (v x0 19)))) fun y3 =>
  lt_ (v x0 11) fun y4 =>
  bd_ (fX12_must x0 1 v) fun q5 =>
  fX12_tellBlock_30 fu_ x0 y3 y4 0 q5.2)
section
variable {E : En_} {p : Program} {l : Launch} {e : Env} {s : State} {m : MethodId} {args : Array Value} {below : List Frame} {meth : Method} {c : Code} {sz : Int}
theorem tX12_tellBlock_150 (C : MC_ E p s m c cX12_tellBlock 4 RX12) (hr : meth.sig.returnType = (none : Option FieldType)) (hlk : meth.locks = false) (hC : Cl_ E.2.2.2.2.2 sz) {out : Int × V_} (k118 : Int → Int → V_ → Option (Int × V_)) (H_118 : ∀ (x0 x1 : Int) (v : V_), (E.2.2.2.2.2 x0 ∧ ty_ x0 = 12 ∧ ln_ x0 = 0) → k118 x0 x1 v = some out → G_ E p l e (rm_ 5 104) s m args below meth c 4 sz (Q_ E below args s sz sz 9 out.1 out.2) 118 [(0, (2, x0)), (1, (0, x1))] [] v sz) (x0 x1 : Int) (v : V_) (T0 : (E.2.2.2.2.2 x0 ∧ ty_ x0 = 12 ∧ ln_ x0 = 0)) (h : fX12_tellBlock_150 k118 x0 x1 v = some out) : G_ E p l e (rm_ 5 104) s m args below meth c 4 sz (Q_ E below args s sz sz 9 out.1 out.2) 150 [(0, (2, x0)), (1, (0, x1))] [] v sz := by
  rw [fX12_tellBlock_150] at h
  refine g_aload_n C (f := 0) dX12_tellBlock_150 0 rfl ?_
  refine g_getf C (k := 13) (kd := 0) okX12 (by decide) kf_RX12_245 dX12_tellBlock_151 (rg_ hC T0.1) T0.2.1 rfl ?_
  refine g_if_le C 158 dX12_tellBlock_154 rfl (fun c23 => ?_) (fun c23 => ?_)
  · replace h := if_t h c23
    refine g_aload_n C (f := 0) dX12_tellBlock_158 0 rfl ?_
    refine g_bipush C (n := 6) dX12_tellBlock_159 (by decide) ?_
    refine g_iload_n C (f := 1) dX12_tellBlock_161 1 rfl ?_
    refine g_imul C dX12_tellBlock_162 ?_
    refine g_aload_n C (f := 0) dX12_tellBlock_163 0 rfl ?_
    have F24 := fX12_25 hC T0.1 T0.2.1
    refine g_getR C (k := 25) (o := 12) okX12 (by decide) kf_RX12_52 dX12_tellBlock_164 hC T0.1 T0.2.1 rfl rfl ?_
    refine g_iload_n C (f := 1) dX12_tellBlock_167 1 rfl ?_
    obtain ⟨c25, h⟩ := ck_e h
    refine g_iald C 16 dX12_tellBlock_168 (rg_ hC F24.1) F24.2.1 F24.2.2 c25 ?_
    refine g_iadd C dX12_tellBlock_169 ?_
    obtain ⟨q26, eq26, h⟩ := bd_e h
    refine g_cV C [(0, wr_ ((wr_ (6 * x1)) + (v (x0 + 12) x1)))] (cX12_tellLine_ok l hC T0 eq26) okX12 T0.2.1 (rg_ hC T0.1) km_RX12_318 cv_X12_tellLine rfl (by decide) rfl rfl (Nat.le_of_ble_eq_true rfl) dX12_tellBlock_170 ?_
    refine g_aload_n C (f := 0) dX12_tellBlock_173 0 rfl ?_
    have F27 := fX12_25 hC T0.1 T0.2.1
    refine g_getR C (k := 25) (o := 12) okX12 (by decide) kf_RX12_52 dX12_tellBlock_174 hC T0.1 T0.2.1 rfl rfl ?_
    refine g_iload_n C (f := 1) dX12_tellBlock_177 1 rfl ?_
    refine g_dup2 C (Nat.ne_of_beq_eq_false rfl) (Nat.ne_of_beq_eq_false rfl) dX12_tellBlock_178 ?_
    obtain ⟨c28, h⟩ := ck_e h
    refine g_iald C 16 dX12_tellBlock_179 (rg_ hC F27.1) F27.2.1 F27.2.2 c28 ?_
    refine g_iconst C (n := 1) dX12_tellBlock_180 (by decide) ?_
    refine g_iadd C dX12_tellBlock_181 ?_
    obtain ⟨c29, h⟩ := ck_e h
    obtain ⟨v30, ev30, h⟩ := lt_e h
    refine g_iast C 16 dX12_tellBlock_182 (rg_ hC F27.1) F27.2.1 F27.2.2 c29 v30 ev30 ?_
    refine g_goto C 118 dX12_tellBlock_183 rfl ?_
    refine g_sub [0, 1] rfl rfl ?_
    exact H_118 _ _ _ T0 h
  · replace h := if_f h c23
    cases h
    exact g_vret C dX12_tellBlock_157 hr hlk
theorem tX12_tellBlock_134 (C : MC_ E p s m c cX12_tellBlock 4 RX12) (hr : meth.sig.returnType = (none : Option FieldType)) (hlk : meth.locks = false) (hC : Cl_ E.2.2.2.2.2 sz) {out : Int × V_} (k118 : Int → Int → V_ → Option (Int × V_)) (H_118 : ∀ (x0 x1 : Int) (v : V_), (E.2.2.2.2.2 x0 ∧ ty_ x0 = 12 ∧ ln_ x0 = 0) → k118 x0 x1 v = some out → G_ E p l e (rm_ 5 104) s m args below meth c 4 sz (Q_ E below args s sz sz 9 out.1 out.2) 118 [(0, (2, x0)), (1, (0, x1))] [] v sz) (x0 x1 : Int) (v : V_) (T0 : (E.2.2.2.2.2 x0 ∧ ty_ x0 = 12 ∧ ln_ x0 = 0)) (h : fX12_tellBlock_134 k118 x0 x1 v = some out) : G_ E p l e (rm_ 5 104) s m args below meth c 4 sz (Q_ E below args s sz sz 9 out.1 out.2) 134 [(0, (2, x0)), (1, (0, x1))] [] v sz := by
  rw [fX12_tellBlock_134] at h
  refine g_aload_n C (f := 0) dX12_tellBlock_134 0 rfl ?_
  have F20 := fX12_25 hC T0.1 T0.2.1
  refine g_getR C (k := 25) (o := 12) okX12 (by decide) kf_RX12_52 dX12_tellBlock_135 hC T0.1 T0.2.1 rfl rfl ?_
  refine g_iload_n C (f := 1) dX12_tellBlock_138 1 rfl ?_
  obtain ⟨c21, h⟩ := ck_e h
  refine g_iald C 16 dX12_tellBlock_139 (rg_ hC F20.1) F20.2.1 F20.2.2 c21 ?_
  refine g_bipush C (n := 6) dX12_tellBlock_140 (by decide) ?_
  refine g_icmp_ne C 150 dX12_tellBlock_142 rfl (fun c22 => ?_) (fun c22 => ?_)
  · replace h := if_f h c22
    refine g_sub [0, 1] rfl rfl ?_
    exact tX12_tellBlock_150 C hr hlk hC _ H_118 _ _ _ T0 h
  · replace h := if_t h c22
    refine g_aload_n C (f := 0) dX12_tellBlock_145 0 rfl ?_
    refine g_iconst C (n := 2) dX12_tellBlock_146 (by decide) ?_
    obtain ⟨q31, eq31, h⟩ := bd_e h
    refine g_cV C [(0, 2)] (cX12_fail_ok l hC T0 eq31) okX12 T0.2.1 (rg_ hC T0.1) km_RX12_260 cv_X12_fail rfl (by decide) rfl rfl (Nat.le_of_ble_eq_true rfl) dX12_tellBlock_147 ?_
    refine g_sub [0, 1] rfl rfl ?_
    exact tX12_tellBlock_150 C hr hlk hC _ H_118 _ _ _ T0 h
theorem tX12_tellBlock_198 (C : MC_ E p s m c cX12_tellBlock 4 RX12) (hr : meth.sig.returnType = (none : Option FieldType)) (hlk : meth.locks = false) (hC : Cl_ E.2.2.2.2.2 sz) {out : Int × V_} (x0 : Int) (v : V_) (T0 : (E.2.2.2.2.2 x0 ∧ ty_ x0 = 12 ∧ ln_ x0 = 0)) (h : fX12_tellBlock_198 x0 v = some out) : G_ E p l e (rm_ 5 104) s m args below meth c 4 sz (Q_ E below args s sz sz 9 out.1 out.2) 198 [(0, (2, x0))] [] v sz := by
  rw [fX12_tellBlock_198] at h
  refine g_aload_n C (f := 0) dX12_tellBlock_198 0 rfl ?_
  refine g_getf C (k := 13) (kd := 0) okX12 (by decide) kf_RX12_245 dX12_tellBlock_199 (rg_ hC T0.1) T0.2.1 rfl ?_
  refine g_if_ne C 218 dX12_tellBlock_202 rfl (fun c35 => ?_) (fun c35 => ?_)
  · replace h := if_f h c35
    cases h
    exact g_vret C dX12_tellBlock_218 hr hlk
  · replace h := if_t h c35
    refine g_aload_n C (f := 0) dX12_tellBlock_205 0 rfl ?_
    have F36 := fX12_22 hC T0.1 T0.2.1
    refine g_getR C (k := 22) (o := 9) okX12 (by decide) kf_RX12_43 dX12_tellBlock_206 hC T0.1 T0.2.1 rfl rfl ?_
    refine g_aload_n C (f := 0) dX12_tellBlock_209 0 rfl ?_
    refine g_getf C (k := 19) (kd := 0) okX12 (by decide) kf_RX12_275 dX12_tellBlock_210 (rg_ hC T0.1) T0.2.1 rfl ?_
    refine g_dup2 C (Nat.ne_of_beq_eq_false rfl) (Nat.ne_of_beq_eq_false rfl) dX12_tellBlock_213 ?_
    obtain ⟨c37, h⟩ := ck_e h
    refine g_iald C 2 dX12_tellBlock_214 (rg_ hC F36.1) F36.2.1 F36.2.2 c37 ?_
    refine g_iconst C (n := 1) dX12_tellBlock_215 (by decide) ?_
    refine g_iadd C dX12_tellBlock_216 ?_
    obtain ⟨c38, h⟩ := ck_e h
    obtain ⟨v39, ev39, h⟩ := lt_e h
    refine g_iast C 2 dX12_tellBlock_217 (rg_ hC F36.1) F36.2.1 F36.2.2 c38 v39 ev39 ?_
    cases h
    exact g_vret C dX12_tellBlock_218 hr hlk
theorem tX12_tellBlock_118 (C : MC_ E p s m c cX12_tellBlock 4 RX12) (hr : meth.sig.returnType = (none : Option FieldType)) (hlk : meth.locks = false) (hC : Cl_ E.2.2.2.2.2 sz) {out : Int × V_} : ∀ (n : Nat) (x0 x1 : Int) (v : V_), (E.2.2.2.2.2 x0 ∧ ty_ x0 = 12 ∧ ln_ x0 = 0) → fX12_tellBlock_118 n x0 x1 v = some out → G_ E p l e (rm_ 5 104) s m args below meth c 4 sz (Q_ E below args s sz sz 9 out.1 out.2) 118 [(0, (2, x0)), (1, (0, x1))] [] v sz := by
  intro n
  induction n with
  | zero =>
    intro x0 x1 v T0 h
    cases h
  | succ n H_118 =>
    intro x0 x1 v T0 h
    rw [fX12_tellBlock_118] at h
    refine g_aload_n C (f := 0) dX12_tellBlock_118 0 rfl ?_
    obtain ⟨q18, eq18, h⟩ := bd_e h
    refine g_cV C [] (cX12_isRegister_ok l hC T0 eq18) okX12 T0.2.1 (rg_ hC T0.1) km_RX12_314 cv_X12_isRegister rfl (by decide) rfl rfl (Nat.le_of_ble_eq_true rfl) dX12_tellBlock_119 ?_
    refine g_if_ne C 134 dX12_tellBlock_122 rfl (fun c19 => ?_) (fun c19 => ?_)
    · replace h := if_f h c19
      refine g_sub [0, 1] rfl rfl ?_
      exact tX12_tellBlock_134 C hr hlk hC _ H_118 _ _ _ T0 h
    · replace h := if_t h c19
      refine g_aload_n C (f := 0) dX12_tellBlock_125 0 rfl ?_
      refine g_bipush C (n := 26) dX12_tellBlock_126 (by decide) ?_
      obtain ⟨q32, eq32, h⟩ := bd_e h
      refine g_cV C [(0, 26)] (cX12_is_ok l hC T0 eq32) okX12 T0.2.1 (rg_ hC T0.1) km_RX12_263 cv_X12_is rfl (by decide) rfl rfl (Nat.le_of_ble_eq_true rfl) dX12_tellBlock_128 ?_
      refine g_if_eq C 186 dX12_tellBlock_131 rfl (fun c33 => ?_) (fun c33 => ?_)
      · replace h := if_t h c33
        refine g_aload_n C (f := 0) dX12_tellBlock_186 0 rfl ?_
        refine g_getf C (k := 13) (kd := 0) okX12 (by decide) kf_RX12_245 dX12_tellBlock_187 (rg_ hC T0.1) T0.2.1 rfl ?_
        refine g_if_ne C 198 dX12_tellBlock_190 rfl (fun c34 => ?_) (fun c34 => ?_)
        · replace h := if_f h c34
          refine g_sub [0] rfl rfl ?_
          exact tX12_tellBlock_198 C hr hlk hC _ _ T0 h
        · replace h := if_t h c34
          refine g_aload_n C (f := 0) dX12_tellBlock_193 0 rfl ?_
          refine g_iload_n C (f := 1) dX12_tellBlock_194 1 rfl ?_
          obtain ⟨q40, eq40, h⟩ := bd_e h
          refine g_cV C [(0, x1)] (cX12_tellEnd_ok l hC T0 eq40) okX12 T0.2.1 (rg_ hC T0.1) km_RX12_321 cv_X12_tellEnd rfl (by decide) rfl rfl (Nat.le_of_ble_eq_true rfl) dX12_tellBlock_195 ?_
          refine g_sub [0] rfl rfl ?_
          exact tX12_tellBlock_198 C hr hlk hC _ _ T0 h
      · replace h := if_f h c33
        refine g_sub [0, 1] rfl rfl ?_
        exact tX12_tellBlock_134 C hr hlk hC _ H_118 _ _ _ T0 h
theorem tX12_tellBlock_73 (C : MC_ E p s m c cX12_tellBlock 4 RX12) (hr : meth.sig.returnType = (none : Option FieldType)) (hlk : meth.locks = false) (hC : Cl_ E.2.2.2.2.2 sz) {out : Int × V_} (x0 x1 x2 : Int) (v : V_) (T0 : (E.2.2.2.2.2 x0 ∧ ty_ x0 = 12 ∧ ln_ x0 = 0)) (h : fX12_tellBlock_73 x0 x1 x2 v = some out) : G_ E p l e (rm_ 5 104) s m args below meth c 4 sz (Q_ E below args s sz sz 9 out.1 out.2) 73 [(0, (2, x0)), (1, (0, x1)), (2, (0, x2))] [] v sz := by
  rw [fX12_tellBlock_73] at h
  refine g_aload_n C (f := 0) dX12_tellBlock_73 0 rfl ?_
  refine g_iconst C (n := 4) dX12_tellBlock_74 (by decide) ?_
  obtain ⟨q7, eq7, h⟩ := bd_e h
  refine g_cV C [(0, 4)] (cX12_must_ok l hC T0 eq7) okX12 T0.2.1 (rg_ hC T0.1) km_RX12_308 cv_X12_must rfl (by decide) rfl rfl (Nat.le_of_ble_eq_true rfl) dX12_tellBlock_75 ?_
  refine g_aload_n C (f := 0) dX12_tellBlock_78 0 rfl ?_
  refine g_getf C (k := 13) (kd := 0) okX12 (by decide) kf_RX12_245 dX12_tellBlock_79 (rg_ hC T0.1) T0.2.1 rfl ?_
  refine g_if_le C 86 dX12_tellBlock_82 rfl (fun c8 => ?_) (fun c8 => ?_)
  · replace h := if_t h c8
    refine g_aload_n C (f := 0) dX12_tellBlock_86 0 rfl ?_
    have F9 := fX12_21 hC T0.1 T0.2.1
    refine g_getR C (k := 21) (o := 8) okX12 (by decide) kf_RX12_40 dX12_tellBlock_87 hC T0.1 T0.2.1 rfl rfl ?_
    refine g_aload_n C (f := 0) dX12_tellBlock_90 0 rfl ?_
    refine g_getf C (k := 20) (kd := 0) okX12 (by decide) kf_RX12_278 dX12_tellBlock_91 (rg_ hC T0.1) T0.2.1 rfl ?_
    refine g_aload_n C (f := 0) dX12_tellBlock_94 0 rfl ?_
    have F10 := fX12_8 hC T0.1 T0.2.1
    refine g_getR C (k := 8) (o := 6) okX12 (by decide) kf_RX12_30 dX12_tellBlock_95 hC T0.1 T0.2.1 rfl rfl ?_
    refine g_iload_n C (f := 2) dX12_tellBlock_98 2 rfl ?_
    obtain ⟨c11, h⟩ := ck_e h
    refine g_lald C 403 dX12_tellBlock_99 (rg_ hC F10.1) F10.2.1 F10.2.2 c11 ?_
    obtain ⟨c12, h⟩ := ck_e h
    obtain ⟨v13, ev13, h⟩ := lt_e h
    refine g_last C 8 dX12_tellBlock_100 (rg_ hC F9.1) F9.2.1 F9.2.2 c12 v13 ev13 ?_
    refine g_aload_n C (f := 0) dX12_tellBlock_101 0 rfl ?_
    refine g_dup C (Nat.ne_of_beq_eq_false rfl) dX12_tellBlock_102 ?_
    refine g_getf C (k := 20) (kd := 0) okX12 (by decide) kf_RX12_278 dX12_tellBlock_103 (rg_ hC T0.1) T0.2.1 rfl ?_
    refine g_iconst C (n := 1) dX12_tellBlock_106 (by decide) ?_
    refine g_iadd C dX12_tellBlock_107 ?_
    obtain ⟨v14, ev14, h⟩ := lt_e h
    refine g_putf C (k := 20) (kd := 0) okX12 (by decide) kf_RX12_278 dX12_tellBlock_108 (rg_ hC T0.1) T0.2.1 rfl rfl nvI (Or.inl rfl) v14 ev14 ?_
    refine g_aload_n C (f := 0) dX12_tellBlock_111 0 rfl ?_
    have F15 := fX12_25 hC T0.1 T0.2.1
    refine g_getR C (k := 25) (o := 12) okX12 (by decide) kf_RX12_52 dX12_tellBlock_112 hC T0.1 T0.2.1 rfl rfl ?_
    refine g_iload_n C (f := 1) dX12_tellBlock_115 1 rfl ?_
    refine g_iconst C (n := 0) dX12_tellBlock_116 (by decide) ?_
    obtain ⟨c16, h⟩ := ck_e h
    obtain ⟨v17, ev17, h⟩ := lt_e h
    refine g_iast C 16 dX12_tellBlock_117 (rg_ hC F15.1) F15.2.1 F15.2.2 c16 v17 ev17 ?_
    refine g_sub [0, 1] rfl rfl ?_
    exact tX12_tellBlock_118 C hr hlk hC _ _ _ _ T0 h
  · replace h := if_f h c8
    cases h
    exact g_vret C dX12_tellBlock_85 hr hlk
theorem tX12_tellBlock_30 (C : MC_ E p s m c cX12_tellBlock 4 RX12) (hr : meth.sig.returnType = (none : Option FieldType)) (hlk : meth.locks = false) (hC : Cl_ E.2.2.2.2.2 sz) {out : Int × V_} : ∀ (n : Nat) (x0 x1 x2 x3 : Int) (v : V_), (E.2.2.2.2.2 x0 ∧ ty_ x0 = 12 ∧ ln_ x0 = 0) → fX12_tellBlock_30 n x0 x1 x2 x3 v = some out → G_ E p l e (rm_ 5 104) s m args below meth c 4 sz (Q_ E below args s sz sz 9 out.1 out.2) 30 [(0, (2, x0)), (1, (0, x1)), (2, (0, x2)), (3, (0, x3))] [] v sz := by
  intro n
  induction n with
  | zero =>
    intro x0 x1 x2 x3 v T0 h
    cases h
  | succ n H_30 =>
    intro x0 x1 x2 x3 v T0 h
    rw [fX12_tellBlock_30] at h
    refine g_iload_n C (f := 3) dX12_tellBlock_30 3 rfl ?_
    refine g_aload_n C (f := 0) dX12_tellBlock_31 0 rfl ?_
    refine g_getf C (k := 20) (kd := 0) okX12 (by decide) kf_RX12_278 dX12_tellBlock_32 (rg_ hC T0.1) T0.2.1 rfl ?_
    refine g_icmp_ge C 73 dX12_tellBlock_35 rfl (fun c6 => ?_) (fun c6 => ?_)
    · replace h := if_t h c6
      refine g_sub [0, 1, 2] rfl rfl ?_
      exact tX12_tellBlock_73 C hr hlk hC _ _ _ _ T0 h
    · replace h := if_f h c6
      refine g_aload_n C (f := 0) dX12_tellBlock_38 0 rfl ?_
      refine g_getf C (k := 13) (kd := 0) okX12 (by decide) kf_RX12_245 dX12_tellBlock_39 (rg_ hC T0.1) T0.2.1 rfl ?_
      refine g_if_ne C 73 dX12_tellBlock_42 rfl (fun c41 => ?_) (fun c41 => ?_)
      · replace h := if_f h c41
        refine g_sub [0, 1, 2] rfl rfl ?_
        exact tX12_tellBlock_73 C hr hlk hC _ _ _ _ T0 h
      · replace h := if_t h c41
        refine g_aload_n C (f := 0) dX12_tellBlock_45 0 rfl ?_
        have F42 := fX12_21 hC T0.1 T0.2.1
        refine g_getR C (k := 21) (o := 8) okX12 (by decide) kf_RX12_40 dX12_tellBlock_46 hC T0.1 T0.2.1 rfl rfl ?_
        refine g_iload_n C (f := 3) dX12_tellBlock_49 3 rfl ?_
        obtain ⟨c43, h⟩ := ck_e h
        refine g_lald C 8 dX12_tellBlock_50 (rg_ hC F42.1) F42.2.1 F42.2.2 c43 ?_
        refine g_aload_n C (f := 0) dX12_tellBlock_51 0 rfl ?_
        have F44 := fX12_8 hC T0.1 T0.2.1
        refine g_getR C (k := 8) (o := 6) okX12 (by decide) kf_RX12_30 dX12_tellBlock_52 hC T0.1 T0.2.1 rfl rfl ?_
        refine g_iload_n C (f := 2) dX12_tellBlock_55 2 rfl ?_
        obtain ⟨c45, h⟩ := ck_e h
        refine g_lald C 403 dX12_tellBlock_56 (rg_ hC F44.1) F44.2.1 F44.2.2 c45 ?_
        refine g_lcmp C dX12_tellBlock_57 ?_
        refine g_if_ne C 67 dX12_tellBlock_58 rfl (fun c46 => ?_) (fun c46 => ?_)
        · replace h := if_f h c46
          obtain ⟨y47, ey47, h⟩ := lt_e h
          refine g_iincx C (ls' := [(3, (0, y47)), (0, (2, x0)), (1, (0, x1)), (2, (0, x2))]) ey47 dX12_tellBlock_67 3 rfl (by decide) (by decide) rfl ?_
          refine g_goto C 30 dX12_tellBlock_70 rfl ?_
          refine g_sub [1, 2, 3, 0] rfl rfl ?_
          exact H_30 _ _ _ _ _ T0 h
        · replace h := if_t h c46
          refine g_aload_n C (f := 0) dX12_tellBlock_61 0 rfl ?_
          refine g_iconst C (n := 3) dX12_tellBlock_62 (by decide) ?_
          refine g_iload_n C (f := 2) dX12_tellBlock_63 2 rfl ?_
          obtain ⟨q48, eq48, h⟩ := bd_e h
          refine g_cV C [(0, 3), (0, x2)] (cX12_wrong_ok l hC T0 eq48) okX12 T0.2.1 (rg_ hC T0.1) km_RX12_311 cv_X12_wrong rfl (by decide) rfl rfl (Nat.le_of_ble_eq_true rfl) dX12_tellBlock_64 ?_
          obtain ⟨y49, ey49, h⟩ := lt_e h
          refine g_iincx C (ls' := [(3, (0, y49)), (0, (2, x0)), (1, (0, x1)), (2, (0, x2))]) ey49 dX12_tellBlock_67 3 rfl (by decide) (by decide) rfl ?_
          refine g_goto C 30 dX12_tellBlock_70 rfl ?_
          refine g_sub [1, 2, 3, 0] rfl rfl ?_
          exact H_30 _ _ _ _ _ T0 h
end
theorem cX12_tellBlock_ok (l : Launch) {E : En_} {sz : Int} (hC : Cl_ E.2.2.2.2.2 sz) {x0 : Int} {v : V_} {out : Int × V_} (T0 : (E.2.2.2.2.2 x0 ∧ ty_ x0 = 12 ∧ ln_ x0 = 0)) (h : fX12_tellBlock x0 v = some out) : Met l yX12_tellBlock [.code yX12_tellBlock cX12_tellBlock 4 (none : Option FieldType)] (rm_ 5 104) (Pc_ E sz v [(2, x0)]) (Qc_ E sz 9 out.1 out.2) 0 0 (fun q => E.1 < q) := by
  refine met_G0 RX12 (by decide +kernel) rfl (Nat.le_of_ble_eq_true rfl) ?_
  intro p e s m args below meth c C hr hlk
  rw [fX12_tellBlock] at h
  refine g_bipush C (n := 8) dX12_tellBlock_0 (by decide) ?_
  refine g_aload_n C (f := 0) dX12_tellBlock_2 0 rfl ?_
  refine g_getf C (k := 19) (kd := 0) okX12 (by decide) kf_RX12_275 dX12_tellBlock_3 (rg_ hC T0.1) T0.2.1 rfl ?_
  refine g_imul C dX12_tellBlock_6 ?_
  refine g_aload_n C (f := 0) dX12_tellBlock_7 0 rfl ?_
  have F1 := fX12_22 hC T0.1 T0.2.1
  refine g_getR C (k := 22) (o := 9) okX12 (by decide) kf_RX12_43 dX12_tellBlock_8 hC T0.1 T0.2.1 rfl rfl ?_
  refine g_aload_n C (f := 0) dX12_tellBlock_11 0 rfl ?_
  refine g_getf C (k := 19) (kd := 0) okX12 (by decide) kf_RX12_275 dX12_tellBlock_12 (rg_ hC T0.1) T0.2.1 rfl ?_
  obtain ⟨c2, h⟩ := ck_e h
  refine g_iald C 2 dX12_tellBlock_15 (rg_ hC F1.1) F1.2.1 F1.2.2 c2 ?_
  refine g_iadd C dX12_tellBlock_16 ?_
  obtain ⟨y3, ey3, h⟩ := lt_e h
  refine g_set C ey3 ?_
  refine g_istore_n C (f := 1) (ls' := [(1, (0, y3)), (0, (2, x0))]) dX12_tellBlock_17 (by decide) rfl ?_
  refine g_aload_n C (f := 0) dX12_tellBlock_18 1 rfl ?_
  refine g_getf C (k := 11) (kd := 0) okX12 (by decide) kf_RX12_248 dX12_tellBlock_19 (rg_ hC T0.1) T0.2.1 rfl ?_
  obtain ⟨y4, ey4, h⟩ := lt_e h
  refine g_set C ey4 ?_
  refine g_istore_n C (f := 2) (ls' := [(2, (0, y4)), (1, (0, y3)), (0, (2, x0))]) dX12_tellBlock_22 (by decide) rfl ?_
  refine g_aload_n C (f := 0) dX12_tellBlock_23 2 rfl ?_
  refine g_iconst C (n := 1) dX12_tellBlock_24 (by decide) ?_
  obtain ⟨q5, eq5, h⟩ := bd_e h
  refine g_cV C [(0, 1)] (cX12_must_ok l hC T0 eq5) okX12 T0.2.1 (rg_ hC T0.1) km_RX12_308 cv_X12_must rfl (by decide) rfl rfl (Nat.le_of_ble_eq_true rfl) dX12_tellBlock_25 ?_
  refine g_iconst C (n := 0) dX12_tellBlock_28 (by decide) ?_
  refine g_istore_n C (f := 3) (ls' := [(3, (0, 0)), (2, (0, y4)), (1, (0, y3)), (0, (2, x0))]) dX12_tellBlock_29 (by decide) rfl ?_
  refine g_sub [3, 2, 1, 0] rfl rfl ?_
  exact tX12_tellBlock_30 C hr hlk hC _ _ _ _ _ _ T0 h
theorem dX12_tellUnits_0 : decode cX12_tellUnits 0 = .ok (.aload_n 0, 1) := by decide +kernel
theorem dX12_tellUnits_1 : decode cX12_tellUnits 1 = .ok (.getfield 20, 3) := by decide +kernel
theorem dX12_tellUnits_4 : decode cX12_tellUnits 4 = .ok (.aload_n 0, 1) := by decide +kernel
theorem dX12_tellUnits_5 : decode cX12_tellUnits 5 = .ok (.getfield 248, 3) := by decide +kernel
theorem dX12_tellUnits_8 : decode cX12_tellUnits 8 = .ok (.iaload, 1) := by decide +kernel
theorem dX12_tellUnits_9 : decode cX12_tellUnits 9 = .ok (.bipush 22, 2) := by decide +kernel
theorem dX12_tellUnits_11 : decode cX12_tellUnits 11 = .ok (.isub, 1) := by decide +kernel
theorem dX12_tellUnits_12 : decode cX12_tellUnits 12 = .ok (.istore_n 1, 1) := by decide +kernel
theorem dX12_tellUnits_13 : decode cX12_tellUnits 13 = .ok (.iload_n 1, 1) := by decide +kernel
theorem dX12_tellUnits_14 : decode cX12_tellUnits 14 = .ok (.ifCond .lt 17, 3) := by decide +kernel
theorem dX12_tellUnits_17 : decode cX12_tellUnits 17 = .ok (.aload_n 0, 1) := by decide +kernel
theorem dX12_tellUnits_18 : decode cX12_tellUnits 18 = .ok (.getfield 20, 3) := by decide +kernel
theorem dX12_tellUnits_21 : decode cX12_tellUnits 21 = .ok (.aload_n 0, 1) := by decide +kernel
theorem dX12_tellUnits_22 : decode cX12_tellUnits 22 = .ok (.getfield 248, 3) := by decide +kernel
theorem dX12_tellUnits_25 : decode cX12_tellUnits 25 = .ok (.iaload, 1) := by decide +kernel
theorem dX12_tellUnits_26 : decode cX12_tellUnits 26 = .ok (.bipush 25, 2) := by decide +kernel
theorem dX12_tellUnits_28 : decode cX12_tellUnits 28 = .ok (.if_icmp .le 8, 3) := by decide +kernel
theorem dX12_tellUnits_31 : decode cX12_tellUnits 31 = .ok (.aload_n 0, 1) := by decide +kernel
theorem dX12_tellUnits_32 : decode cX12_tellUnits 32 = .ok (.iconst 1, 1) := by decide +kernel
theorem dX12_tellUnits_33 : decode cX12_tellUnits 33 = .ok (.invokevirtual 260, 3) := by decide +kernel
theorem dX12_tellUnits_36 : decode cX12_tellUnits 36 = .ok (.aload_n 0, 1) := by decide +kernel
theorem dX12_tellUnits_37 : decode cX12_tellUnits 37 = .ok (.getfield 245, 3) := by decide +kernel
theorem dX12_tellUnits_40 : decode cX12_tellUnits 40 = .ok (.ifCond .le 4, 3) := by decide +kernel
theorem dX12_tellUnits_43 : decode cX12_tellUnits 43 = .ok (.return_, 1) := by decide +kernel
theorem dX12_tellUnits_44 : decode cX12_tellUnits 44 = .ok (.aload_n 0, 1) := by decide +kernel
theorem dX12_tellUnits_45 : decode cX12_tellUnits 45 = .ok (.invokevirtual 266, 3) := by decide +kernel
theorem dX12_tellUnits_48 : decode cX12_tellUnits 48 = .ok (.aload_n 0, 1) := by decide +kernel
theorem dX12_tellUnits_49 : decode cX12_tellUnits 49 = .ok (.getfield 46, 3) := by decide +kernel
theorem dX12_tellUnits_52 : decode cX12_tellUnits 52 = .ok (.iconst 4, 1) := by decide +kernel
theorem dX12_tellUnits_53 : decode cX12_tellUnits 53 = .ok (.aload_n 0, 1) := by decide +kernel
theorem dX12_tellUnits_54 : decode cX12_tellUnits 54 = .ok (.getfield 275, 3) := by decide +kernel
theorem dX12_tellUnits_57 : decode cX12_tellUnits 57 = .ok (.imul, 1) := by decide +kernel
theorem dX12_tellUnits_58 : decode cX12_tellUnits 58 = .ok (.iload_n 1, 1) := by decide +kernel
theorem dX12_tellUnits_59 : decode cX12_tellUnits 59 = .ok (.iadd, 1) := by decide +kernel
theorem dX12_tellUnits_60 : decode cX12_tellUnits 60 = .ok (.aload_n 0, 1) := by decide +kernel
theorem dX12_tellUnits_61 : decode cX12_tellUnits 61 = .ok (.iconst 1, 1) := by decide +kernel
theorem dX12_tellUnits_62 : decode cX12_tellUnits 62 = .ok (.iconst 4, 1) := by decide +kernel
theorem dX12_tellUnits_63 : decode cX12_tellUnits 63 = .ok (.invokevirtual 304, 3) := by decide +kernel
theorem dX12_tellUnits_66 : decode cX12_tellUnits 66 = .ok (.iastore, 1) := by decide +kernel
theorem dX12_tellUnits_67 : decode cX12_tellUnits 67 = .ok (.aload_n 0, 1) := by decide +kernel
theorem dX12_tellUnits_68 : decode cX12_tellUnits 68 = .ok (.getfield 49, 3) := by decide +kernel
theorem dX12_tellUnits_71 : decode cX12_tellUnits 71 = .ok (.iconst 4, 1) := by decide +kernel
theorem dX12_tellUnits_72 : decode cX12_tellUnits 72 = .ok (.aload_n 0, 1) := by decide +kernel
theorem dX12_tellUnits_73 : decode cX12_tellUnits 73 = .ok (.getfield 275, 3) := by decide +kernel
theorem dX12_tellUnits_76 : decode cX12_tellUnits 76 = .ok (.imul, 1) := by decide +kernel
theorem dX12_tellUnits_77 : decode cX12_tellUnits 77 = .ok (.iload_n 1, 1) := by decide +kernel
theorem dX12_tellUnits_78 : decode cX12_tellUnits 78 = .ok (.iadd, 1) := by decide +kernel
theorem dX12_tellUnits_79 : decode cX12_tellUnits 79 = .ok (.aload_n 0, 1) := by decide +kernel
theorem dX12_tellUnits_80 : decode cX12_tellUnits 80 = .ok (.iconst 1, 1) := by decide +kernel
theorem dX12_tellUnits_81 : decode cX12_tellUnits 81 = .ok (.bipush 6, 2) := by decide +kernel
theorem dX12_tellUnits_83 : decode cX12_tellUnits 83 = .ok (.invokevirtual 304, 3) := by decide +kernel
theorem dX12_tellUnits_86 : decode cX12_tellUnits 86 = .ok (.iastore, 1) := by decide +kernel
theorem dX12_tellUnits_87 : decode cX12_tellUnits 87 = .ok (.aload_n 0, 1) := by decide +kernel
theorem dX12_tellUnits_88 : decode cX12_tellUnits 88 = .ok (.iconst 4, 1) := by decide +kernel
theorem dX12_tellUnits_89 : decode cX12_tellUnits 89 = .ok (.invokevirtual 308, 3) := by decide +kernel
theorem dX12_tellUnits_92 : decode cX12_tellUnits 92 = .ok (.return_, 1) := by decide +kernel
def fX12_tellUnits_36 (x0 x1 : Int) (v : V_) : Option (Int × V_) :=
  if (v x0 13) ≤ 0 then (
    bd_ (fX12_goesOn x0 v) fun q7 =>
    bd_ (fX12_bounded x0 1 4 q7.2) fun q9 =>
    ck_ (0 ≤ wr_ ((wr_ (4 * (q7.2 x0 19))) + x1) ∧ wr_ ((wr_ (4 * (q7.2 x0 19))) + x1) < 8) (
    lt_ (up_ q9.2 (x0 + 10) (wr_ ((wr_ (4 * (q7.2 x0 19))) + x1)) q9.1) fun v11 =>
    bd_ (fX12_bounded x0 1 6 v11) fun q13 =>
    ck_ (0 ≤ wr_ ((wr_ (4 * (v11 x0 19))) + x1) ∧ wr_ ((wr_ (4 * (v11 x0 19))) + x1) < 8) (
    lt_ (up_ q13.2 (x0 + 11) (wr_ ((wr_ (4 * (v11 x0 19))) + x1)) q13.1) fun v15 =>
    bd_ (fX12_must x0 4 v15) fun q16 =>
    some (0, q16.2))))
  else (
    some (0, v))
def fX12_tellUnits_31 (x0 x1 : Int) (v : V_) : Option (Int × V_) :=
  bd_ (fX12_fail x0 1 v) fun q5 =>
  fX12_tellUnits_36 x0 x1 q5.2
def fX12_tellUnits (x0 : Int) (v : V_) : Option (Int × V_) :=
  ck_ (0 ≤ v x0 11 ∧ v x0 11 < 403) (
  lt_ (wr_ ((v (x0 + 3) (v x0 11)) - 22)) fun y3 =>
  if y3 < 0 then (
    fX12_tellUnits_31 x0 y3 v)
  else (
    ck_ (0 ≤ v x0 11 ∧ v x0 11 < 403) (
    if (v (x0 + 3) (v x0 11)) ≤ 25 then (
      fX12_tellUnits_36 x0 y3 v)
    else (
      fX12_tellUnits_31 x0 y3 v))))
section
variable {E : En_} {p : Program} {l : Launch} {e : Env} {s : State} {m : MethodId} {args : Array Value} {below : List Frame} {meth : Method} {c : Code} {sz : Int}
theorem tX12_tellUnits_36 (C : MC_ E p s m c cX12_tellUnits 2 RX12) (hr : meth.sig.returnType = (none : Option FieldType)) (hlk : meth.locks = false) (hC : Cl_ E.2.2.2.2.2 sz) {out : Int × V_} (x0 x1 : Int) (v : V_) (T0 : (E.2.2.2.2.2 x0 ∧ ty_ x0 = 12 ∧ ln_ x0 = 0)) (h : fX12_tellUnits_36 x0 x1 v = some out) : G_ E p l e (rm_ 3 64) s m args below meth c 2 sz (Q_ E below args s sz sz 9 out.1 out.2) 36 [(0, (2, x0)), (1, (0, x1))] [] v sz := by
  rw [fX12_tellUnits_36] at h
  refine g_aload_n C (f := 0) dX12_tellUnits_36 0 rfl ?_
  refine g_getf C (k := 13) (kd := 0) okX12 (by decide) kf_RX12_245 dX12_tellUnits_37 (rg_ hC T0.1) T0.2.1 rfl ?_
  refine g_if_le C 44 dX12_tellUnits_40 rfl (fun c6 => ?_) (fun c6 => ?_)
  · replace h := if_t h c6
    refine g_aload_n C (f := 0) dX12_tellUnits_44 0 rfl ?_
    obtain ⟨q7, eq7, h⟩ := bd_e h
    refine g_cV C [] (cX12_goesOn_ok l hC T0 eq7) okX12 T0.2.1 (rg_ hC T0.1) km_RX12_266 cv_X12_goesOn rfl (by decide) rfl rfl (Nat.le_of_ble_eq_true rfl) dX12_tellUnits_45 ?_
    refine g_aload_n C (f := 0) dX12_tellUnits_48 0 rfl ?_
    have F8 := fX12_23 hC T0.1 T0.2.1
    refine g_getR C (k := 23) (o := 10) okX12 (by decide) kf_RX12_46 dX12_tellUnits_49 hC T0.1 T0.2.1 rfl rfl ?_
    refine g_iconst C (n := 4) dX12_tellUnits_52 (by decide) ?_
    refine g_aload_n C (f := 0) dX12_tellUnits_53 0 rfl ?_
    refine g_getf C (k := 19) (kd := 0) okX12 (by decide) kf_RX12_275 dX12_tellUnits_54 (rg_ hC T0.1) T0.2.1 rfl ?_
    refine g_imul C dX12_tellUnits_57 ?_
    refine g_iload_n C (f := 1) dX12_tellUnits_58 1 rfl ?_
    refine g_iadd C dX12_tellUnits_59 ?_
    refine g_aload_n C (f := 0) dX12_tellUnits_60 0 rfl ?_
    refine g_iconst C (n := 1) dX12_tellUnits_61 (by decide) ?_
    refine g_iconst C (n := 4) dX12_tellUnits_62 (by decide) ?_
    obtain ⟨q9, eq9, h⟩ := bd_e h
    refine g_cV C [(0, 1), (0, 4)] (cX12_bounded_ok l hC T0 eq9) okX12 T0.2.1 (rg_ hC T0.1) km_RX12_304 cv_X12_bounded rfl (by decide) rfl rfl (Nat.le_of_ble_eq_true rfl) dX12_tellUnits_63 ?_
    obtain ⟨c10, h⟩ := ck_e h
    obtain ⟨v11, ev11, h⟩ := lt_e h
    refine g_iast C 8 dX12_tellUnits_66 (rg_ hC F8.1) F8.2.1 F8.2.2 c10 v11 ev11 ?_
    refine g_aload_n C (f := 0) dX12_tellUnits_67 0 rfl ?_
    have F12 := fX12_24 hC T0.1 T0.2.1
    refine g_getR C (k := 24) (o := 11) okX12 (by decide) kf_RX12_49 dX12_tellUnits_68 hC T0.1 T0.2.1 rfl rfl ?_
    refine g_iconst C (n := 4) dX12_tellUnits_71 (by decide) ?_
    refine g_aload_n C (f := 0) dX12_tellUnits_72 0 rfl ?_
    refine g_getf C (k := 19) (kd := 0) okX12 (by decide) kf_RX12_275 dX12_tellUnits_73 (rg_ hC T0.1) T0.2.1 rfl ?_
    refine g_imul C dX12_tellUnits_76 ?_
    refine g_iload_n C (f := 1) dX12_tellUnits_77 1 rfl ?_
    refine g_iadd C dX12_tellUnits_78 ?_
    refine g_aload_n C (f := 0) dX12_tellUnits_79 0 rfl ?_
    refine g_iconst C (n := 1) dX12_tellUnits_80 (by decide) ?_
    refine g_bipush C (n := 6) dX12_tellUnits_81 (by decide) ?_
    obtain ⟨q13, eq13, h⟩ := bd_e h
    refine g_cV C [(0, 1), (0, 6)] (cX12_bounded_ok l hC T0 eq13) okX12 T0.2.1 (rg_ hC T0.1) km_RX12_304 cv_X12_bounded rfl (by decide) rfl rfl (Nat.le_of_ble_eq_true rfl) dX12_tellUnits_83 ?_
    obtain ⟨c14, h⟩ := ck_e h
    obtain ⟨v15, ev15, h⟩ := lt_e h
    refine g_iast C 8 dX12_tellUnits_86 (rg_ hC F12.1) F12.2.1 F12.2.2 c14 v15 ev15 ?_
    refine g_aload_n C (f := 0) dX12_tellUnits_87 0 rfl ?_
    refine g_iconst C (n := 4) dX12_tellUnits_88 (by decide) ?_
    obtain ⟨q16, eq16, h⟩ := bd_e h
    refine g_cV C [(0, 4)] (cX12_must_ok l hC T0 eq16) okX12 T0.2.1 (rg_ hC T0.1) km_RX12_308 cv_X12_must rfl (by decide) rfl rfl (Nat.le_of_ble_eq_true rfl) dX12_tellUnits_89 ?_
    cases h
    exact g_vret C dX12_tellUnits_92 hr hlk
  · replace h := if_f h c6
    cases h
    exact g_vret C dX12_tellUnits_43 hr hlk
theorem tX12_tellUnits_31 (C : MC_ E p s m c cX12_tellUnits 2 RX12) (hr : meth.sig.returnType = (none : Option FieldType)) (hlk : meth.locks = false) (hC : Cl_ E.2.2.2.2.2 sz) {out : Int × V_} (x0 x1 : Int) (v : V_) (T0 : (E.2.2.2.2.2 x0 ∧ ty_ x0 = 12 ∧ ln_ x0 = 0)) (h : fX12_tellUnits_31 x0 x1 v = some out) : G_ E p l e (rm_ 3 64) s m args below meth c 2 sz (Q_ E below args s sz sz 9 out.1 out.2) 31 [(0, (2, x0)), (1, (0, x1))] [] v sz := by
  rw [fX12_tellUnits_31] at h
  refine g_aload_n C (f := 0) dX12_tellUnits_31 0 rfl ?_
  refine g_iconst C (n := 1) dX12_tellUnits_32 (by decide) ?_
  obtain ⟨q5, eq5, h⟩ := bd_e h
  refine g_cV C [(0, 1)] (cX12_fail_ok l hC T0 eq5) okX12 T0.2.1 (rg_ hC T0.1) km_RX12_260 cv_X12_fail rfl (by decide) rfl rfl (Nat.le_of_ble_eq_true rfl) dX12_tellUnits_33 ?_
  refine g_sub [0, 1] rfl rfl ?_
  exact tX12_tellUnits_36 C hr hlk hC _ _ _ T0 h
end
theorem cX12_tellUnits_ok (l : Launch) {E : En_} {sz : Int} (hC : Cl_ E.2.2.2.2.2 sz) {x0 : Int} {v : V_} {out : Int × V_} (T0 : (E.2.2.2.2.2 x0 ∧ ty_ x0 = 12 ∧ ln_ x0 = 0)) (h : fX12_tellUnits x0 v = some out) : Met l yX12_tellUnits [.code yX12_tellUnits cX12_tellUnits 2 (none : Option FieldType)] (rm_ 3 64) (Pc_ E sz v [(2, x0)]) (Qc_ E sz 9 out.1 out.2) 0 0 (fun q => E.1 < q) := by
  refine met_G0 RX12 (by decide +kernel) rfl (Nat.le_of_ble_eq_true rfl) ?_
  intro p e s m args below meth c C hr hlk
  rw [fX12_tellUnits] at h
  refine g_aload_n C (f := 0) dX12_tellUnits_0 0 rfl ?_
  have F1 := fX12_5 hC T0.1 T0.2.1
  refine g_getR C (k := 5) (o := 3) okX12 (by decide) kf_RX12_20 dX12_tellUnits_1 hC T0.1 T0.2.1 rfl rfl ?_
  refine g_aload_n C (f := 0) dX12_tellUnits_4 0 rfl ?_
  refine g_getf C (k := 11) (kd := 0) okX12 (by decide) kf_RX12_248 dX12_tellUnits_5 (rg_ hC T0.1) T0.2.1 rfl ?_
  obtain ⟨c2, h⟩ := ck_e h
  refine g_iald C 403 dX12_tellUnits_8 (rg_ hC F1.1) F1.2.1 F1.2.2 c2 ?_
  refine g_bipush C (n := 22) dX12_tellUnits_9 (by decide) ?_
  refine g_isub C dX12_tellUnits_11 ?_
  obtain ⟨y3, ey3, h⟩ := lt_e h
  refine g_set C ey3 ?_
  refine g_istore_n C (f := 1) (ls' := [(1, (0, y3)), (0, (2, x0))]) dX12_tellUnits_12 (by decide) rfl ?_
  refine g_iload_n C (f := 1) dX12_tellUnits_13 0 rfl ?_
  refine g_if_lt C 31 dX12_tellUnits_14 rfl (fun c4 => ?_) (fun c4 => ?_)
  · replace h := if_t h c4
    refine g_sub [1, 0] rfl rfl ?_
    exact tX12_tellUnits_31 C hr hlk hC _ _ _ T0 h
  · replace h := if_f h c4
    refine g_aload_n C (f := 0) dX12_tellUnits_17 1 rfl ?_
    have F17 := fX12_5 hC T0.1 T0.2.1
    refine g_getR C (k := 5) (o := 3) okX12 (by decide) kf_RX12_20 dX12_tellUnits_18 hC T0.1 T0.2.1 rfl rfl ?_
    refine g_aload_n C (f := 0) dX12_tellUnits_21 1 rfl ?_
    refine g_getf C (k := 11) (kd := 0) okX12 (by decide) kf_RX12_248 dX12_tellUnits_22 (rg_ hC T0.1) T0.2.1 rfl ?_
    obtain ⟨c18, h⟩ := ck_e h
    refine g_iald C 403 dX12_tellUnits_25 (rg_ hC F17.1) F17.2.1 F17.2.2 c18 ?_
    refine g_bipush C (n := 25) dX12_tellUnits_26 (by decide) ?_
    refine g_icmp_le C 36 dX12_tellUnits_28 rfl (fun c19 => ?_) (fun c19 => ?_)
    · replace h := if_t h c19
      refine g_sub [1, 0] rfl rfl ?_
      exact tX12_tellUnits_36 C hr hlk hC _ _ _ T0 h
    · replace h := if_f h c19
      refine g_sub [1, 0] rfl rfl ?_
      exact tX12_tellUnits_31 C hr hlk hC _ _ _ T0 h
