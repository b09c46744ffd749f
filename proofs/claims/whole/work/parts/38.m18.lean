theorem dX12_addsLine_0 : decode cX12_addsLine 0 = .ok (.aload_n 0, 1) := by decide +kernel
theorem dX12_addsLine_1 : decode cX12_addsLine 1 = .ok (.getfield 61, 3) := by decide +kernel
theorem dX12_addsLine_4 : decode cX12_addsLine 4 = .ok (.iload_n 3, 1) := by decide +kernel
theorem dX12_addsLine_5 : decode cX12_addsLine 5 = .ok (.iaload, 1) := by decide +kernel
theorem dX12_addsLine_6 : decode cX12_addsLine 6 = .ok (.istore 4, 2) := by decide +kernel
theorem dX12_addsLine_8 : decode cX12_addsLine 8 = .ok (.aload_n 0, 1) := by decide +kernel
theorem dX12_addsLine_9 : decode cX12_addsLine 9 = .ok (.getfield 88, 3) := by decide +kernel
theorem dX12_addsLine_12 : decode cX12_addsLine 12 = .ok (.bipush 38, 2) := by decide +kernel
theorem dX12_addsLine_14 : decode cX12_addsLine 14 = .ok (.iaload, 1) := by decide +kernel
theorem dX12_addsLine_15 : decode cX12_addsLine 15 = .ok (.iconst 1, 1) := by decide +kernel
theorem dX12_addsLine_16 : decode cX12_addsLine 16 = .ok (.if_icmp .ne 33, 3) := by decide +kernel
theorem dX12_addsLine_19 : decode cX12_addsLine 19 = .ok (.iload 4, 2) := by decide +kernel
theorem dX12_addsLine_21 : decode cX12_addsLine 21 = .ok (.ifCond .lt 28, 3) := by decide +kernel
theorem dX12_addsLine_24 : decode cX12_addsLine 24 = .ok (.aload_n 0, 1) := by decide +kernel
theorem dX12_addsLine_25 : decode cX12_addsLine 25 = .ok (.getfield 154, 3) := by decide +kernel
theorem dX12_addsLine_28 : decode cX12_addsLine 28 = .ok (.iload_n 1, 1) := by decide +kernel
theorem dX12_addsLine_29 : decode cX12_addsLine 29 = .ok (.iaload, 1) := by decide +kernel
theorem dX12_addsLine_30 : decode cX12_addsLine 30 = .ok (.bipush 6, 2) := by decide +kernel
theorem dX12_addsLine_32 : decode cX12_addsLine 32 = .ok (.if_icmp .ge 17, 3) := by decide +kernel
theorem dX12_addsLine_35 : decode cX12_addsLine 35 = .ok (.aload_n 0, 1) := by decide +kernel
theorem dX12_addsLine_36 : decode cX12_addsLine 36 = .ok (.iload_n 1, 1) := by decide +kernel
theorem dX12_addsLine_37 : decode cX12_addsLine 37 = .ok (.iload 4, 2) := by decide +kernel
theorem dX12_addsLine_39 : decode cX12_addsLine 39 = .ok (.invokevirtual 430, 3) := by decide +kernel
theorem dX12_addsLine_42 : decode cX12_addsLine 42 = .ok (.ifCond .eq 7, 3) := by decide +kernel
theorem dX12_addsLine_45 : decode cX12_addsLine 45 = .ok (.iconst 1, 1) := by decide +kernel
theorem dX12_addsLine_46 : decode cX12_addsLine 46 = .ok (.goto 4, 3) := by decide +kernel
theorem dX12_addsLine_49 : decode cX12_addsLine 49 = .ok (.iconst 0, 1) := by decide +kernel
theorem dX12_addsLine_50 : decode cX12_addsLine 50 = .ok (.istore 5, 2) := by decide +kernel
theorem dX12_addsLine_52 : decode cX12_addsLine 52 = .ok (.aload_n 0, 1) := by decide +kernel
theorem dX12_addsLine_53 : decode cX12_addsLine 53 = .ok (.iload_n 1, 1) := by decide +kernel
theorem dX12_addsLine_54 : decode cX12_addsLine 54 = .ok (.iconst 0, 1) := by decide +kernel
theorem dX12_addsLine_55 : decode cX12_addsLine 55 = .ok (.iload_n 2, 1) := by decide +kernel
theorem dX12_addsLine_56 : decode cX12_addsLine 56 = .ok (.invokevirtual 433, 3) := by decide +kernel
theorem dX12_addsLine_59 : decode cX12_addsLine 59 = .ok (.istore 6, 2) := by decide +kernel
theorem dX12_addsLine_61 : decode cX12_addsLine 61 = .ok (.aload_n 0, 1) := by decide +kernel
theorem dX12_addsLine_62 : decode cX12_addsLine 62 = .ok (.getfield 127, 3) := by decide +kernel
theorem dX12_addsLine_65 : decode cX12_addsLine 65 = .ok (.iload 6, 2) := by decide +kernel
theorem dX12_addsLine_67 : decode cX12_addsLine 67 = .ok (.aload_n 0, 1) := by decide +kernel
theorem dX12_addsLine_68 : decode cX12_addsLine 68 = .ok (.iload_n 3, 1) := by decide +kernel
theorem dX12_addsLine_69 : decode cX12_addsLine 69 = .ok (.invokevirtual 372, 3) := by decide +kernel
theorem dX12_addsLine_72 : decode cX12_addsLine 72 = .ok (.iastore, 1) := by decide +kernel
theorem dX12_addsLine_73 : decode cX12_addsLine 73 = .ok (.aload_n 0, 1) := by decide +kernel
theorem dX12_addsLine_74 : decode cX12_addsLine 74 = .ok (.getfield 130, 3) := by decide +kernel
theorem dX12_addsLine_77 : decode cX12_addsLine 77 = .ok (.iload 6, 2) := by decide +kernel
theorem dX12_addsLine_79 : decode cX12_addsLine 79 = .ok (.aload_n 0, 1) := by decide +kernel
theorem dX12_addsLine_80 : decode cX12_addsLine 80 = .ok (.getfield 55, 3) := by decide +kernel
theorem dX12_addsLine_83 : decode cX12_addsLine 83 = .ok (.iload_n 3, 1) := by decide +kernel
theorem dX12_addsLine_84 : decode cX12_addsLine 84 = .ok (.iaload, 1) := by decide +kernel
theorem dX12_addsLine_85 : decode cX12_addsLine 85 = .ok (.iastore, 1) := by decide +kernel
theorem dX12_addsLine_86 : decode cX12_addsLine 86 = .ok (.aload_n 0, 1) := by decide +kernel
theorem dX12_addsLine_87 : decode cX12_addsLine 87 = .ok (.getfield 133, 3) := by decide +kernel
theorem dX12_addsLine_90 : decode cX12_addsLine 90 = .ok (.iload 6, 2) := by decide +kernel
theorem dX12_addsLine_92 : decode cX12_addsLine 92 = .ok (.aload_n 0, 1) := by decide +kernel
theorem dX12_addsLine_93 : decode cX12_addsLine 93 = .ok (.getfield 58, 3) := by decide +kernel
theorem dX12_addsLine_96 : decode cX12_addsLine 96 = .ok (.iload_n 3, 1) := by decide +kernel
theorem dX12_addsLine_97 : decode cX12_addsLine 97 = .ok (.iaload, 1) := by decide +kernel
theorem dX12_addsLine_98 : decode cX12_addsLine 98 = .ok (.iastore, 1) := by decide +kernel
theorem dX12_addsLine_99 : decode cX12_addsLine 99 = .ok (.aload_n 0, 1) := by decide +kernel
theorem dX12_addsLine_100 : decode cX12_addsLine 100 = .ok (.getfield 139, 3) := by decide +kernel
theorem dX12_addsLine_103 : decode cX12_addsLine 103 = .ok (.iload 6, 2) := by decide +kernel
theorem dX12_addsLine_105 : decode cX12_addsLine 105 = .ok (.aload_n 0, 1) := by decide +kernel
theorem dX12_addsLine_106 : decode cX12_addsLine 106 = .ok (.aload_n 0, 1) := by decide +kernel
theorem dX12_addsLine_107 : decode cX12_addsLine 107 = .ok (.getfield 64, 3) := by decide +kernel
theorem dX12_addsLine_110 : decode cX12_addsLine 110 = .ok (.iload_n 3, 1) := by decide +kernel
theorem dX12_addsLine_111 : decode cX12_addsLine 111 = .ok (.iaload, 1) := by decide +kernel
theorem dX12_addsLine_112 : decode cX12_addsLine 112 = .ok (.invokevirtual 436, 3) := by decide +kernel
theorem dX12_addsLine_115 : decode cX12_addsLine 115 = .ok (.iastore, 1) := by decide +kernel
theorem dX12_addsLine_116 : decode cX12_addsLine 116 = .ok (.aload_n 0, 1) := by decide +kernel
theorem dX12_addsLine_117 : decode cX12_addsLine 117 = .ok (.getfield 142, 3) := by decide +kernel
theorem dX12_addsLine_120 : decode cX12_addsLine 120 = .ok (.iload 6, 2) := by decide +kernel
theorem dX12_addsLine_122 : decode cX12_addsLine 122 = .ok (.aload_n 0, 1) := by decide +kernel
theorem dX12_addsLine_123 : decode cX12_addsLine 123 = .ok (.aload_n 0, 1) := by decide +kernel
theorem dX12_addsLine_124 : decode cX12_addsLine 124 = .ok (.getfield 67, 3) := by decide +kernel
theorem dX12_addsLine_127 : decode cX12_addsLine 127 = .ok (.iload_n 3, 1) := by decide +kernel
theorem dX12_addsLine_128 : decode cX12_addsLine 128 = .ok (.iaload, 1) := by decide +kernel
theorem dX12_addsLine_129 : decode cX12_addsLine 129 = .ok (.invokevirtual 436, 3) := by decide +kernel
theorem dX12_addsLine_132 : decode cX12_addsLine 132 = .ok (.iastore, 1) := by decide +kernel
theorem dX12_addsLine_133 : decode cX12_addsLine 133 = .ok (.aload_n 0, 1) := by decide +kernel
theorem dX12_addsLine_134 : decode cX12_addsLine 134 = .ok (.getfield 136, 3) := by decide +kernel
theorem dX12_addsLine_137 : decode cX12_addsLine 137 = .ok (.iload 6, 2) := by decide +kernel
theorem dX12_addsLine_139 : decode cX12_addsLine 139 = .ok (.iload 5, 2) := by decide +kernel
theorem dX12_addsLine_141 : decode cX12_addsLine 141 = .ok (.ifCond .eq 15, 3) := by decide +kernel
theorem dX12_addsLine_144 : decode cX12_addsLine 144 = .ok (.bipush 6, 2) := by decide +kernel
theorem dX12_addsLine_146 : decode cX12_addsLine 146 = .ok (.aload_n 0, 1) := by decide +kernel
theorem dX12_addsLine_147 : decode cX12_addsLine 147 = .ok (.getfield 154, 3) := by decide +kernel
theorem dX12_addsLine_150 : decode cX12_addsLine 150 = .ok (.iload_n 1, 1) := by decide +kernel
theorem dX12_addsLine_151 : decode cX12_addsLine 151 = .ok (.iaload, 1) := by decide +kernel
theorem dX12_addsLine_152 : decode cX12_addsLine 152 = .ok (.iadd, 1) := by decide +kernel
theorem dX12_addsLine_153 : decode cX12_addsLine 153 = .ok (.goto 5, 3) := by decide +kernel
theorem dX12_addsLine_156 : decode cX12_addsLine 156 = .ok (.iload 4, 2) := by decide +kernel
theorem dX12_addsLine_158 : decode cX12_addsLine 158 = .ok (.iastore, 1) := by decide +kernel
theorem dX12_addsLine_159 : decode cX12_addsLine 159 = .ok (.iload 4, 2) := by decide +kernel
theorem dX12_addsLine_161 : decode cX12_addsLine 161 = .ok (.ifCond .lt 17, 3) := by decide +kernel
theorem dX12_addsLine_164 : decode cX12_addsLine 164 = .ok (.aload_n 0, 1) := by decide +kernel
theorem dX12_addsLine_165 : decode cX12_addsLine 165 = .ok (.getfield 157, 3) := by decide +kernel
theorem dX12_addsLine_168 : decode cX12_addsLine 168 = .ok (.iload 4, 2) := by decide +kernel
theorem dX12_addsLine_170 : decode cX12_addsLine 170 = .ok (.aload_n 0, 1) := by decide +kernel
theorem dX12_addsLine_171 : decode cX12_addsLine 171 = .ok (.getfield 136, 3) := by decide +kernel
theorem dX12_addsLine_174 : decode cX12_addsLine 174 = .ok (.iload 6, 2) := by decide +kernel
theorem dX12_addsLine_176 : decode cX12_addsLine 176 = .ok (.iaload, 1) := by decide +kernel
theorem dX12_addsLine_177 : decode cX12_addsLine 177 = .ok (.iastore, 1) := by decide +kernel
theorem dX12_addsLine_178 : decode cX12_addsLine 178 = .ok (.iload 5, 2) := by decide +kernel
theorem dX12_addsLine_180 : decode cX12_addsLine 180 = .ok (.ifCond .ne 4, 3) := by decide +kernel
theorem dX12_addsLine_183 : decode cX12_addsLine 183 = .ok (.return_, 1) := by decide +kernel
theorem dX12_addsLine_184 : decode cX12_addsLine 184 = .ok (.aload_n 0, 1) := by decide +kernel
theorem dX12_addsLine_185 : decode cX12_addsLine 185 = .ok (.getfield 154, 3) := by decide +kernel
theorem dX12_addsLine_188 : decode cX12_addsLine 188 = .ok (.iload_n 1, 1) := by decide +kernel
theorem dX12_addsLine_189 : decode cX12_addsLine 189 = .ok (.dup2, 1) := by decide +kernel
theorem dX12_addsLine_190 : decode cX12_addsLine 190 = .ok (.iaload, 1) := by decide +kernel
theorem dX12_addsLine_191 : decode cX12_addsLine 191 = .ok (.iconst 1, 1) := by decide +kernel
theorem dX12_addsLine_192 : decode cX12_addsLine 192 = .ok (.iadd, 1) := by decide +kernel
theorem dX12_addsLine_193 : decode cX12_addsLine 193 = .ok (.iastore, 1) := by decide +kernel
theorem dX12_addsLine_194 : decode cX12_addsLine 194 = .ok (.aload_n 0, 1) := by decide +kernel
theorem dX12_addsLine_195 : decode cX12_addsLine 195 = .ok (.iload_n 1, 1) := by decide +kernel
theorem dX12_addsLine_196 : decode cX12_addsLine 196 = .ok (.iconst 1, 1) := by decide +kernel
theorem dX12_addsLine_197 : decode cX12_addsLine 197 = .ok (.iload_n 2, 1) := by decide +kernel
theorem dX12_addsLine_198 : decode cX12_addsLine 198 = .ok (.invokevirtual 433, 3) := by decide +kernel
theorem dX12_addsLine_201 : decode cX12_addsLine 201 = .ok (.istore 7, 2) := by decide +kernel
theorem dX12_addsLine_203 : decode cX12_addsLine 203 = .ok (.aload_n 0, 1) := by decide +kernel
theorem dX12_addsLine_204 : decode cX12_addsLine 204 = .ok (.getfield 127, 3) := by decide +kernel
theorem dX12_addsLine_207 : decode cX12_addsLine 207 = .ok (.iload 7, 2) := by decide +kernel
theorem dX12_addsLine_209 : decode cX12_addsLine 209 = .ok (.iconst 0, 1) := by decide +kernel
theorem dX12_addsLine_210 : decode cX12_addsLine 210 = .ok (.iastore, 1) := by decide +kernel
theorem dX12_addsLine_211 : decode cX12_addsLine 211 = .ok (.aload_n 0, 1) := by decide +kernel
theorem dX12_addsLine_212 : decode cX12_addsLine 212 = .ok (.getfield 139, 3) := by decide +kernel
theorem dX12_addsLine_215 : decode cX12_addsLine 215 = .ok (.iload 7, 2) := by decide +kernel
theorem dX12_addsLine_217 : decode cX12_addsLine 217 = .ok (.aload_n 0, 1) := by decide +kernel
theorem dX12_addsLine_218 : decode cX12_addsLine 218 = .ok (.getfield 136, 3) := by decide +kernel
theorem dX12_addsLine_221 : decode cX12_addsLine 221 = .ok (.iload 6, 2) := by decide +kernel
theorem dX12_addsLine_223 : decode cX12_addsLine 223 = .ok (.iaload, 1) := by decide +kernel
theorem dX12_addsLine_224 : decode cX12_addsLine 224 = .ok (.iastore, 1) := by decide +kernel
theorem dX12_addsLine_225 : decode cX12_addsLine 225 = .ok (.aload_n 0, 1) := by decide +kernel
theorem dX12_addsLine_226 : decode cX12_addsLine 226 = .ok (.getfield 136, 3) := by decide +kernel
theorem dX12_addsLine_229 : decode cX12_addsLine 229 = .ok (.iload 7, 2) := by decide +kernel
theorem dX12_addsLine_231 : decode cX12_addsLine 231 = .ok (.iload 4, 2) := by decide +kernel
theorem dX12_addsLine_233 : decode cX12_addsLine 233 = .ok (.iastore, 1) := by decide +kernel
theorem dX12_addsLine_234 : decode cX12_addsLine 234 = .ok (.return_, 1) := by decide +kernel
def fX12_addsLine_178 (x0 x1 x2 x4 x5 x6 : Int) (v : V_) : Option (Int × V_) :=
  if x5 = 0 then (
    some (0, v))
  else (
    ck_ (0 ≤ x1 ∧ x1 < 8) (
    ck_ (0 ≤ x1 ∧ x1 < 8) (
    lt_ (up_ v (x0 + 46) x1 (wr_ ((v (x0 + 46) x1) + 1))) fun v42 =>
    bd_ (fX12_adds x0 x1 1 x2 v42) fun q43 =>
    ck_ (0 ≤ q43.1 ∧ q43.1 < 272) (
    lt_ (up_ q43.2 (x0 + 37) q43.1 0) fun v46 =>
    ck_ (0 ≤ x6 ∧ x6 < 272) (
    ck_ (0 ≤ q43.1 ∧ q43.1 < 272) (
    lt_ (up_ v46 (x0 + 41) q43.1 (v46 (x0 + 40) x6)) fun v51 =>
    ck_ (0 ≤ q43.1 ∧ q43.1 < 272) (
    lt_ (up_ v51 (x0 + 40) q43.1 x4) fun v54 =>
    some (0, v54))))))))
def fX12_addsLine_158 (x0 x1 x2 x4 x5 x6 s0 s1 s2 : Int) (v : V_) : Option (Int × V_) :=
  ck_ (0 ≤ s1 ∧ s1 < 272) (
  lt_ (up_ v s0 s1 s2) fun v36 =>
  if x4 < 0 then (
    fX12_addsLine_178 x0 x1 x2 x4 x5 x6 v36)
  else (
    ck_ (0 ≤ x6 ∧ x6 < 272) (
    ck_ (0 ≤ x4 ∧ x4 < 6) (
    lt_ (up_ v36 (x0 + 47) x4 (v36 (x0 + 40) x6)) fun v59 =>
    fX12_addsLine_178 x0 x1 x2 x4 x5 x6 v59))))
def fX12_addsLine_50 (x0 x1 x2 x3 x4 s0 : Int) (v : V_) : Option (Int × V_) :=
  bd_ (fX12_adds x0 x1 0 x2 v) fun q6 =>
  bd_ (fX12_kindOf x0 x3 q6.2) fun q8 =>
  ck_ (0 ≤ q6.1 ∧ q6.1 < 272) (
  lt_ (up_ q8.2 (x0 + 37) q6.1 q8.1) fun v10 =>
  ck_ (0 ≤ x3 ∧ x3 < 96) (
  ck_ (0 ≤ q6.1 ∧ q6.1 < 272) (
  lt_ (up_ v10 (x0 + 38) q6.1 (v10 (x0 + 13) x3)) fun v15 =>
  ck_ (0 ≤ x3 ∧ x3 < 96) (
  ck_ (0 ≤ q6.1 ∧ q6.1 < 272) (
  lt_ (up_ v15 (x0 + 39) q6.1 (v15 (x0 + 14) x3)) fun v20 =>
  ck_ (0 ≤ x3 ∧ x3 < 96) (
  bd_ (fX12_readAs x0 (v20 (x0 + 16) x3) v20) fun q24 =>
  ck_ (0 ≤ q6.1 ∧ q6.1 < 272) (
  lt_ (up_ q24.2 (x0 + 41) q6.1 q24.1) fun v26 =>
  ck_ (0 ≤ x3 ∧ x3 < 96) (
  bd_ (fX12_readAs x0 (v26 (x0 + 17) x3) v26) fun q30 =>
  ck_ (0 ≤ q6.1 ∧ q6.1 < 272) (
  lt_ (up_ q30.2 (x0 + 42) q6.1 q30.1) fun v32 =>
  if s0 = 0 then (
    fX12_addsLine_158 x0 x1 x2 x4 s0 q6.1 (x0 + 40) q6.1 x4 v32)
  else (
    ck_ (0 ≤ x1 ∧ x1 < 8) (
    fX12_addsLine_158 x0 x1 x2 x4 s0 q6.1 (x0 + 40) q6.1 (wr_ (6 + (v32 (x0 + 46) x1))) v32)))))))))))
def fX12_addsLine_49 (x0 x1 x2 x3 x4 : Int) (v : V_) : Option (Int × V_) :=
  fX12_addsLine_50 x0 x1 x2 x3 x4 0 v
def fX12_addsLine (x0 x1 x2 x3 : Int) (v : V_) : Option (Int × V_) :=
  ck_ (0 ≤ x3 ∧ x3 < 96) (
  lt_ (v (x0 + 15) x3) fun y3 =>
  if (v (x0 + 24) 38) = 1 then (
    if y3 < 0 then (
      fX12_addsLine_49 x0 x1 x2 x3 y3 v)
    else (
      ck_ (0 ≤ x1 ∧ x1 < 8) (
      if 6 ≤ (v (x0 + 46) x1) then (
        fX12_addsLine_49 x0 x1 x2 x3 y3 v)
      else (
        bd_ (fX12_isWanted x0 x1 y3 v) fun q66 =>
        if q66.1 = 0 then (
          fX12_addsLine_49 x0 x1 x2 x3 y3 q66.2)
        else (
          fX12_addsLine_50 x0 x1 x2 x3 y3 1 q66.2)))))
  else (
    fX12_addsLine_49 x0 x1 x2 x3 y3 v))
section
variable {E : En_} {p : Program} {l : Launch} {e : Env} {s : State} {m : MethodId} {args : Array Value} {below : List Frame} {meth : Method} {c : Code} {sz : Int}
theorem tX12_addsLine_178 (C : MC_ E p s m c cX12_addsLine 8 RX12) (hr : meth.sig.returnType = (none : Option FieldType)) (hlk : meth.locks = false) (hC : Cl_ E.2.2.2.2.2 sz) {out : Int × V_} (x0 x1 x2 x4 x5 x6 : Int) (v : V_) (T0 : (E.2.2.2.2.2 x0 ∧ ty_ x0 = 12 ∧ ln_ x0 = 0)) (h : fX12_addsLine_178 x0 x1 x2 x4 x5 x6 v = some out) : G_ E p l e (rm_ 2 45) s m args below meth c 8 sz (Q_ E below args s sz sz 9 out.1 out.2) 178 [(0, (2, x0)), (1, (0, x1)), (2, (0, x2)), (4, (0, x4)), (5, (0, x5)), (6, (0, x6))] [] v sz := by
  rw [fX12_addsLine_178] at h
  refine g_iload C (i := 5) dX12_addsLine_178 4 rfl ?_
  refine g_if_ne C 184 dX12_addsLine_180 rfl (fun c38 => ?_) (fun c38 => ?_)
  · replace h := if_f h c38
    refine g_aload_n C (f := 0) dX12_addsLine_184 0 rfl ?_
    have F39 := fX12_65 hC T0.1 T0.2.1
    refine g_getR C (k := 65) (o := 46) okX12 (by decide) kf_RX12_154 dX12_addsLine_185 hC T0.1 T0.2.1 rfl rfl ?_
    refine g_iload_n C (f := 1) dX12_addsLine_188 1 rfl ?_
    refine g_dup2 C (Nat.ne_of_beq_eq_false rfl) (Nat.ne_of_beq_eq_false rfl) dX12_addsLine_189 ?_
    obtain ⟨c40, h⟩ := ck_e h
    refine g_iald C 8 dX12_addsLine_190 (rg_ hC F39.1) F39.2.1 F39.2.2 c40 ?_
    refine g_iconst C (n := 1) dX12_addsLine_191 (by decide) ?_
    refine g_iadd C dX12_addsLine_192 ?_
    obtain ⟨c41, h⟩ := ck_e h
    obtain ⟨v42, ev42, h⟩ := lt_e h
    refine g_iast C 8 dX12_addsLine_193 (rg_ hC F39.1) F39.2.1 F39.2.2 c41 v42 ev42 ?_
    refine g_aload_n C (f := 0) dX12_addsLine_194 0 rfl ?_
    refine g_iload_n C (f := 1) dX12_addsLine_195 1 rfl ?_
    refine g_iconst C (n := 1) dX12_addsLine_196 (by decide) ?_
    refine g_iload_n C (f := 2) dX12_addsLine_197 2 rfl ?_
    obtain ⟨q43, eq43, h⟩ := bd_e h
    refine g_cV C [(0, x1), (0, 1), (0, x2)] (cX12_adds_ok l hC T0 eq43) okX12 T0.2.1 (rg_ hC T0.1) km_RX12_433 cv_X12_adds rfl (by decide) rfl rfl (Nat.le_of_ble_eq_true rfl) dX12_addsLine_198 ?_
    refine g_istore C (i := 7) (ls' := [(7, (0, q43.1)), (0, (2, x0)), (1, (0, x1)), (2, (0, x2)), (4, (0, x4)), (5, (0, x5)), (6, (0, x6))]) dX12_addsLine_201 (by decide) rfl ?_
    refine g_aload_n C (f := 0) dX12_addsLine_203 1 rfl ?_
    have F44 := fX12_56 hC T0.1 T0.2.1
    refine g_getR C (k := 56) (o := 37) okX12 (by decide) kf_RX12_127 dX12_addsLine_204 hC T0.1 T0.2.1 rfl rfl ?_
    refine g_iload C (i := 7) dX12_addsLine_207 0 rfl ?_
    refine g_iconst C (n := 0) dX12_addsLine_209 (by decide) ?_
    obtain ⟨c45, h⟩ := ck_e h
    obtain ⟨v46, ev46, h⟩ := lt_e h
    refine g_iast C 272 dX12_addsLine_210 (rg_ hC F44.1) F44.2.1 F44.2.2 c45 v46 ev46 ?_
    refine g_aload_n C (f := 0) dX12_addsLine_211 1 rfl ?_
    have F47 := fX12_60 hC T0.1 T0.2.1
    refine g_getR C (k := 60) (o := 41) okX12 (by decide) kf_RX12_139 dX12_addsLine_212 hC T0.1 T0.2.1 rfl rfl ?_
    refine g_iload C (i := 7) dX12_addsLine_215 0 rfl ?_
    refine g_aload_n C (f := 0) dX12_addsLine_217 1 rfl ?_
    have F48 := fX12_59 hC T0.1 T0.2.1
    refine g_getR C (k := 59) (o := 40) okX12 (by decide) kf_RX12_136 dX12_addsLine_218 hC T0.1 T0.2.1 rfl rfl ?_
    refine g_iload C (i := 6) dX12_addsLine_221 6 rfl ?_
    obtain ⟨c49, h⟩ := ck_e h
    refine g_iald C 272 dX12_addsLine_223 (rg_ hC F48.1) F48.2.1 F48.2.2 c49 ?_
    obtain ⟨c50, h⟩ := ck_e h
    obtain ⟨v51, ev51, h⟩ := lt_e h
    refine g_iast C 272 dX12_addsLine_224 (rg_ hC F47.1) F47.2.1 F47.2.2 c50 v51 ev51 ?_
    refine g_aload_n C (f := 0) dX12_addsLine_225 1 rfl ?_
    have F52 := fX12_59 hC T0.1 T0.2.1
    refine g_getR C (k := 59) (o := 40) okX12 (by decide) kf_RX12_136 dX12_addsLine_226 hC T0.1 T0.2.1 rfl rfl ?_
    refine g_iload C (i := 7) dX12_addsLine_229 0 rfl ?_
    refine g_iload C (i := 4) dX12_addsLine_231 4 rfl ?_
    obtain ⟨c53, h⟩ := ck_e h
    obtain ⟨v54, ev54, h⟩ := lt_e h
    refine g_iast C 272 dX12_addsLine_233 (rg_ hC F52.1) F52.2.1 F52.2.2 c53 v54 ev54 ?_
    cases h
    exact g_vret C dX12_addsLine_234 hr hlk
  · replace h := if_t h c38
    cases h
    exact g_vret C dX12_addsLine_183 hr hlk
theorem tX12_addsLine_158 (C : MC_ E p s m c cX12_addsLine 8 RX12) (hr : meth.sig.returnType = (none : Option FieldType)) (hlk : meth.locks = false) (hC : Cl_ E.2.2.2.2.2 sz) {out : Int × V_} (x0 x1 x2 x4 x5 x6 s0 s1 s2 : Int) (v : V_) (T0 : (E.2.2.2.2.2 x0 ∧ ty_ x0 = 12 ∧ ln_ x0 = 0)) (S0 : (E.2.2.2.2.2 s0 ∧ ty_ s0 = 20 ∧ ln_ s0 = 272)) (h : fX12_addsLine_158 x0 x1 x2 x4 x5 x6 s0 s1 s2 v = some out) : G_ E p l e (rm_ 2 45) s m args below meth c 8 sz (Q_ E below args s sz sz 9 out.1 out.2) 158 [(0, (2, x0)), (1, (0, x1)), (2, (0, x2)), (4, (0, x4)), (5, (0, x5)), (6, (0, x6))] [(0, s2), (0, s1), (2, s0)] v sz := by
  rw [fX12_addsLine_158] at h
  obtain ⟨c35, h⟩ := ck_e h
  obtain ⟨v36, ev36, h⟩ := lt_e h
  refine g_iast C 272 dX12_addsLine_158 (rg_ hC S0.1) S0.2.1 S0.2.2 c35 v36 ev36 ?_
  refine g_iload C (i := 4) dX12_addsLine_159 3 rfl ?_
  refine g_if_lt C 178 dX12_addsLine_161 rfl (fun c37 => ?_) (fun c37 => ?_)
  · replace h := if_t h c37
    refine g_sub [0, 1, 2, 3, 4, 5] rfl rfl ?_
    exact tX12_addsLine_178 C hr hlk hC _ _ _ _ _ _ _ T0 h
  · replace h := if_f h c37
    refine g_aload_n C (f := 0) dX12_addsLine_164 0 rfl ?_
    have F55 := fX12_66 hC T0.1 T0.2.1
    refine g_getR C (k := 66) (o := 47) okX12 (by decide) kf_RX12_157 dX12_addsLine_165 hC T0.1 T0.2.1 rfl rfl ?_
    refine g_iload C (i := 4) dX12_addsLine_168 3 rfl ?_
    refine g_aload_n C (f := 0) dX12_addsLine_170 0 rfl ?_
    have F56 := fX12_59 hC T0.1 T0.2.1
    refine g_getR C (k := 59) (o := 40) okX12 (by decide) kf_RX12_136 dX12_addsLine_171 hC T0.1 T0.2.1 rfl rfl ?_
    refine g_iload C (i := 6) dX12_addsLine_174 5 rfl ?_
    obtain ⟨c57, h⟩ := ck_e h
    refine g_iald C 272 dX12_addsLine_176 (rg_ hC F56.1) F56.2.1 F56.2.2 c57 ?_
    obtain ⟨c58, h⟩ := ck_e h
    obtain ⟨v59, ev59, h⟩ := lt_e h
    refine g_iast C 6 dX12_addsLine_177 (rg_ hC F55.1) F55.2.1 F55.2.2 c58 v59 ev59 ?_
    refine g_sub [0, 1, 2, 3, 4, 5] rfl rfl ?_
    exact tX12_addsLine_178 C hr hlk hC _ _ _ _ _ _ _ T0 h
theorem tX12_addsLine_50 (C : MC_ E p s m c cX12_addsLine 8 RX12) (hr : meth.sig.returnType = (none : Option FieldType)) (hlk : meth.locks = false) (hC : Cl_ E.2.2.2.2.2 sz) {out : Int × V_} (x0 x1 x2 x3 x4 s0 : Int) (v : V_) (T0 : (E.2.2.2.2.2 x0 ∧ ty_ x0 = 12 ∧ ln_ x0 = 0)) (h : fX12_addsLine_50 x0 x1 x2 x3 x4 s0 v = some out) : G_ E p l e (rm_ 2 45) s m args below meth c 8 sz (Q_ E below args s sz sz 9 out.1 out.2) 50 [(0, (2, x0)), (1, (0, x1)), (2, (0, x2)), (3, (0, x3)), (4, (0, x4))] [(0, s0)] v sz := by
  rw [fX12_addsLine_50] at h
  refine g_istore C (i := 5) (ls' := [(5, (0, s0)), (0, (2, x0)), (1, (0, x1)), (2, (0, x2)), (3, (0, x3)), (4, (0, x4))]) dX12_addsLine_50 (by decide) rfl ?_
  refine g_aload_n C (f := 0) dX12_addsLine_52 1 rfl ?_
  refine g_iload_n C (f := 1) dX12_addsLine_53 2 rfl ?_
  refine g_iconst C (n := 0) dX12_addsLine_54 (by decide) ?_
  refine g_iload_n C (f := 2) dX12_addsLine_55 3 rfl ?_
  obtain ⟨q6, eq6, h⟩ := bd_e h
  refine g_cV C [(0, x1), (0, 0), (0, x2)] (cX12_adds_ok l hC T0 eq6) okX12 T0.2.1 (rg_ hC T0.1) km_RX12_433 cv_X12_adds rfl (by decide) rfl rfl (Nat.le_of_ble_eq_true rfl) dX12_addsLine_56 ?_
  refine g_istore C (i := 6) (ls' := [(6, (0, q6.1)), (5, (0, s0)), (0, (2, x0)), (1, (0, x1)), (2, (0, x2)), (3, (0, x3)), (4, (0, x4))]) dX12_addsLine_59 (by decide) rfl ?_
  refine g_aload_n C (f := 0) dX12_addsLine_61 2 rfl ?_
  have F7 := fX12_56 hC T0.1 T0.2.1
  refine g_getR C (k := 56) (o := 37) okX12 (by decide) kf_RX12_127 dX12_addsLine_62 hC T0.1 T0.2.1 rfl rfl ?_
  refine g_iload C (i := 6) dX12_addsLine_65 0 rfl ?_
  refine g_aload_n C (f := 0) dX12_addsLine_67 2 rfl ?_
  refine g_iload_n C (f := 3) dX12_addsLine_68 5 rfl ?_
  obtain ⟨q8, eq8, h⟩ := bd_e h
  refine g_cV C [(0, x3)] (cX12_kindOf_ok l hC T0 eq8) okX12 T0.2.1 (rg_ hC T0.1) km_RX12_372 cv_X12_kindOf rfl (by decide) rfl rfl (Nat.le_of_ble_eq_true rfl) dX12_addsLine_69 ?_
  obtain ⟨c9, h⟩ := ck_e h
  obtain ⟨v10, ev10, h⟩ := lt_e h
  refine g_iast C 272 dX12_addsLine_72 (rg_ hC F7.1) F7.2.1 F7.2.2 c9 v10 ev10 ?_
  refine g_aload_n C (f := 0) dX12_addsLine_73 2 rfl ?_
  have F11 := fX12_57 hC T0.1 T0.2.1
  refine g_getR C (k := 57) (o := 38) okX12 (by decide) kf_RX12_130 dX12_addsLine_74 hC T0.1 T0.2.1 rfl rfl ?_
  refine g_iload C (i := 6) dX12_addsLine_77 0 rfl ?_
  refine g_aload_n C (f := 0) dX12_addsLine_79 2 rfl ?_
  have F12 := fX12_26 hC T0.1 T0.2.1
  refine g_getR C (k := 26) (o := 13) okX12 (by decide) kf_RX12_55 dX12_addsLine_80 hC T0.1 T0.2.1 rfl rfl ?_
  refine g_iload_n C (f := 3) dX12_addsLine_83 5 rfl ?_
  obtain ⟨c13, h⟩ := ck_e h
  refine g_iald C 96 dX12_addsLine_84 (rg_ hC F12.1) F12.2.1 F12.2.2 c13 ?_
  obtain ⟨c14, h⟩ := ck_e h
  obtain ⟨v15, ev15, h⟩ := lt_e h
  refine g_iast C 272 dX12_addsLine_85 (rg_ hC F11.1) F11.2.1 F11.2.2 c14 v15 ev15 ?_
  refine g_aload_n C (f := 0) dX12_addsLine_86 2 rfl ?_
  have F16 := fX12_58 hC T0.1 T0.2.1
  refine g_getR C (k := 58) (o := 39) okX12 (by decide) kf_RX12_133 dX12_addsLine_87 hC T0.1 T0.2.1 rfl rfl ?_
  refine g_iload C (i := 6) dX12_addsLine_90 0 rfl ?_
  refine g_aload_n C (f := 0) dX12_addsLine_92 2 rfl ?_
  have F17 := fX12_27 hC T0.1 T0.2.1
  refine g_getR C (k := 27) (o := 14) okX12 (by decide) kf_RX12_58 dX12_addsLine_93 hC T0.1 T0.2.1 rfl rfl ?_
  refine g_iload_n C (f := 3) dX12_addsLine_96 5 rfl ?_
  obtain ⟨c18, h⟩ := ck_e h
  refine g_iald C 96 dX12_addsLine_97 (rg_ hC F17.1) F17.2.1 F17.2.2 c18 ?_
  obtain ⟨c19, h⟩ := ck_e h
  obtain ⟨v20, ev20, h⟩ := lt_e h
  refine g_iast C 272 dX12_addsLine_98 (rg_ hC F16.1) F16.2.1 F16.2.2 c19 v20 ev20 ?_
  refine g_aload_n C (f := 0) dX12_addsLine_99 2 rfl ?_
  have F21 := fX12_60 hC T0.1 T0.2.1
  refine g_getR C (k := 60) (o := 41) okX12 (by decide) kf_RX12_139 dX12_addsLine_100 hC T0.1 T0.2.1 rfl rfl ?_
  refine g_iload C (i := 6) dX12_addsLine_103 0 rfl ?_
  refine g_aload_n C (f := 0) dX12_addsLine_105 2 rfl ?_
  refine g_aload_n C (f := 0) dX12_addsLine_106 2 rfl ?_
  have F22 := fX12_29 hC T0.1 T0.2.1
  refine g_getR C (k := 29) (o := 16) okX12 (by decide) kf_RX12_64 dX12_addsLine_107 hC T0.1 T0.2.1 rfl rfl ?_
  refine g_iload_n C (f := 3) dX12_addsLine_110 5 rfl ?_
  obtain ⟨c23, h⟩ := ck_e h
  refine g_iald C 96 dX12_addsLine_111 (rg_ hC F22.1) F22.2.1 F22.2.2 c23 ?_
  obtain ⟨q24, eq24, h⟩ := bd_e h
  refine g_cV C [(0, v20 (x0 + 16) x3)] (cX12_readAs_ok l hC T0 eq24) okX12 T0.2.1 (rg_ hC T0.1) km_RX12_436 cv_X12_readAs rfl (by decide) rfl rfl (Nat.le_of_ble_eq_true rfl) dX12_addsLine_112 ?_
  obtain ⟨c25, h⟩ := ck_e h
  obtain ⟨v26, ev26, h⟩ := lt_e h
  refine g_iast C 272 dX12_addsLine_115 (rg_ hC F21.1) F21.2.1 F21.2.2 c25 v26 ev26 ?_
  refine g_aload_n C (f := 0) dX12_addsLine_116 2 rfl ?_
  have F27 := fX12_61 hC T0.1 T0.2.1
  refine g_getR C (k := 61) (o := 42) okX12 (by decide) kf_RX12_142 dX12_addsLine_117 hC T0.1 T0.2.1 rfl rfl ?_
  refine g_iload C (i := 6) dX12_addsLine_120 0 rfl ?_
  refine g_aload_n C (f := 0) dX12_addsLine_122 2 rfl ?_
  refine g_aload_n C (f := 0) dX12_addsLine_123 2 rfl ?_
  have F28 := fX12_30 hC T0.1 T0.2.1
  refine g_getR C (k := 30) (o := 17) okX12 (by decide) kf_RX12_67 dX12_addsLine_124 hC T0.1 T0.2.1 rfl rfl ?_
  refine g_iload_n C (f := 3) dX12_addsLine_127 5 rfl ?_
  obtain ⟨c29, h⟩ := ck_e h
  refine g_iald C 96 dX12_addsLine_128 (rg_ hC F28.1) F28.2.1 F28.2.2 c29 ?_
  obtain ⟨q30, eq30, h⟩ := bd_e h
  refine g_cV C [(0, v26 (x0 + 17) x3)] (cX12_readAs_ok l hC T0 eq30) okX12 T0.2.1 (rg_ hC T0.1) km_RX12_436 cv_X12_readAs rfl (by decide) rfl rfl (Nat.le_of_ble_eq_true rfl) dX12_addsLine_129 ?_
  obtain ⟨c31, h⟩ := ck_e h
  obtain ⟨v32, ev32, h⟩ := lt_e h
  refine g_iast C 272 dX12_addsLine_132 (rg_ hC F27.1) F27.2.1 F27.2.2 c31 v32 ev32 ?_
  refine g_aload_n C (f := 0) dX12_addsLine_133 2 rfl ?_
  have F33 := fX12_59 hC T0.1 T0.2.1
  refine g_getR C (k := 59) (o := 40) okX12 (by decide) kf_RX12_136 dX12_addsLine_134 hC T0.1 T0.2.1 rfl rfl ?_
  refine g_iload C (i := 6) dX12_addsLine_137 0 rfl ?_
  refine g_iload C (i := 5) dX12_addsLine_139 1 rfl ?_
  refine g_if_eq C 156 dX12_addsLine_141 rfl (fun c34 => ?_) (fun c34 => ?_)
  · replace h := if_t h c34
    refine g_iload C (i := 4) dX12_addsLine_156 6 rfl ?_
    refine g_sub [2, 3, 4, 6, 1, 0] rfl rfl ?_
    exact tX12_addsLine_158 C hr hlk hC _ _ _ _ _ _ _ _ _ _ T0 F33 h
  · replace h := if_f h c34
    refine g_bipush C (n := 6) dX12_addsLine_144 (by decide) ?_
    refine g_aload_n C (f := 0) dX12_addsLine_146 2 rfl ?_
    have F60 := fX12_65 hC T0.1 T0.2.1
    refine g_getR C (k := 65) (o := 46) okX12 (by decide) kf_RX12_154 dX12_addsLine_147 hC T0.1 T0.2.1 rfl rfl ?_
    refine g_iload_n C (f := 1) dX12_addsLine_150 3 rfl ?_
    obtain ⟨c61, h⟩ := ck_e h
    refine g_iald C 8 dX12_addsLine_151 (rg_ hC F60.1) F60.2.1 F60.2.2 c61 ?_
    refine g_iadd C dX12_addsLine_152 ?_
    refine g_goto C 158 dX12_addsLine_153 rfl ?_
    refine g_sub [2, 3, 4, 6, 1, 0] rfl rfl ?_
    exact tX12_addsLine_158 C hr hlk hC _ _ _ _ _ _ _ _ _ _ T0 F33 h
theorem tX12_addsLine_49 (C : MC_ E p s m c cX12_addsLine 8 RX12) (hr : meth.sig.returnType = (none : Option FieldType)) (hlk : meth.locks = false) (hC : Cl_ E.2.2.2.2.2 sz) {out : Int × V_} (x0 x1 x2 x3 x4 : Int) (v : V_) (T0 : (E.2.2.2.2.2 x0 ∧ ty_ x0 = 12 ∧ ln_ x0 = 0)) (h : fX12_addsLine_49 x0 x1 x2 x3 x4 v = some out) : G_ E p l e (rm_ 2 45) s m args below meth c 8 sz (Q_ E below args s sz sz 9 out.1 out.2) 49 [(0, (2, x0)), (1, (0, x1)), (2, (0, x2)), (3, (0, x3)), (4, (0, x4))] [] v sz := by
  rw [fX12_addsLine_49] at h
  refine g_iconst C (n := 0) dX12_addsLine_49 (by decide) ?_
  refine g_sub [0, 1, 2, 3, 4] rfl rfl ?_
  exact tX12_addsLine_50 C hr hlk hC _ _ _ _ _ _ _ T0 h
end
theorem cX12_addsLine_ok (l : Launch) {E : En_} {sz : Int} (hC : Cl_ E.2.2.2.2.2 sz) {x0 x1 x2 x3 : Int} {v : V_} {out : Int × V_} (T0 : (E.2.2.2.2.2 x0 ∧ ty_ x0 = 12 ∧ ln_ x0 = 0)) (h : fX12_addsLine x0 x1 x2 x3 v = some out) : Met l yX12_addsLine [.code yX12_addsLine cX12_addsLine 8 (none : Option FieldType)] (rm_ 2 45) (Pc_ E sz v [(2, x0), (0, x1), (0, x2), (0, x3)]) (Qc_ E sz 9 out.1 out.2) 0 0 (fun q => E.1 < q) := by
  refine met_G0 RX12 (by decide +kernel) rfl (Nat.le_of_ble_eq_true rfl) ?_
  intro p e s m args below meth c C hr hlk
  rw [fX12_addsLine] at h
  refine g_aload_n C (f := 0) dX12_addsLine_0 0 rfl ?_
  have F1 := fX12_28 hC T0.1 T0.2.1
  refine g_getR C (k := 28) (o := 15) okX12 (by decide) kf_RX12_61 dX12_addsLine_1 hC T0.1 T0.2.1 rfl rfl ?_
  refine g_iload_n C (f := 3) dX12_addsLine_4 3 rfl ?_
  obtain ⟨c2, h⟩ := ck_e h
  refine g_iald C 96 dX12_addsLine_5 (rg_ hC F1.1) F1.2.1 F1.2.2 c2 ?_
  obtain ⟨y3, ey3, h⟩ := lt_e h
  refine g_set C ey3 ?_
  refine g_istore C (i := 4) (ls' := [(4, (0, y3)), (0, (2, x0)), (1, (0, x1)), (2, (0, x2)), (3, (0, x3))]) dX12_addsLine_6 (by decide) rfl ?_
  refine g_aload_n C (f := 0) dX12_addsLine_8 1 rfl ?_
  have F4 := fX12_37 hC T0.1 T0.2.1
  refine g_getR C (k := 37) (o := 24) okX12 (by decide) kf_RX12_88 dX12_addsLine_9 hC T0.1 T0.2.1 rfl rfl ?_
  refine g_bipush C (n := 38) dX12_addsLine_12 (by decide) ?_
  refine g_iald C 47 dX12_addsLine_14 (rg_ hC F4.1) F4.2.1 F4.2.2 (by decide) ?_
  refine g_iconst C (n := 1) dX12_addsLine_15 (by decide) ?_
  refine g_icmp_ne C 49 dX12_addsLine_16 rfl (fun c5 => ?_) (fun c5 => ?_)
  · replace h := if_f h c5
    refine g_sub [1, 2, 3, 4, 0] rfl rfl ?_
    exact tX12_addsLine_49 C hr hlk hC _ _ _ _ _ _ T0 h
  · replace h := if_t h c5
    refine g_iload C (i := 4) dX12_addsLine_19 0 rfl ?_
    refine g_if_lt C 49 dX12_addsLine_21 rfl (fun c62 => ?_) (fun c62 => ?_)
    · replace h := if_t h c62
      refine g_sub [1, 2, 3, 4, 0] rfl rfl ?_
      exact tX12_addsLine_49 C hr hlk hC _ _ _ _ _ _ T0 h
    · replace h := if_f h c62
      refine g_aload_n C (f := 0) dX12_addsLine_24 1 rfl ?_
      have F63 := fX12_65 hC T0.1 T0.2.1
      refine g_getR C (k := 65) (o := 46) okX12 (by decide) kf_RX12_154 dX12_addsLine_25 hC T0.1 T0.2.1 rfl rfl ?_
      refine g_iload_n C (f := 1) dX12_addsLine_28 2 rfl ?_
      obtain ⟨c64, h⟩ := ck_e h
      refine g_iald C 8 dX12_addsLine_29 (rg_ hC F63.1) F63.2.1 F63.2.2 c64 ?_
      refine g_bipush C (n := 6) dX12_addsLine_30 (by decide) ?_
      refine g_icmp_ge C 49 dX12_addsLine_32 rfl (fun c65 => ?_) (fun c65 => ?_)
      · replace h := if_t h c65
        refine g_sub [1, 2, 3, 4, 0] rfl rfl ?_
        exact tX12_addsLine_49 C hr hlk hC _ _ _ _ _ _ T0 h
      · replace h := if_f h c65
        refine g_aload_n C (f := 0) dX12_addsLine_35 1 rfl ?_
        refine g_iload_n C (f := 1) dX12_addsLine_36 2 rfl ?_
        refine g_iload C (i := 4) dX12_addsLine_37 0 rfl ?_
        obtain ⟨q66, eq66, h⟩ := bd_e h
        refine g_cV C [(0, x1), (0, y3)] (cX12_isWanted_ok l hC T0 eq66) okX12 T0.2.1 (rg_ hC T0.1) km_RX12_430 cv_X12_isWanted rfl (by decide) rfl rfl (Nat.le_of_ble_eq_true rfl) dX12_addsLine_39 ?_
        refine g_if_eq C 49 dX12_addsLine_42 rfl (fun c67 => ?_) (fun c67 => ?_)
        · replace h := if_t h c67
          refine g_sub [1, 2, 3, 4, 0] rfl rfl ?_
          exact tX12_addsLine_49 C hr hlk hC _ _ _ _ _ _ T0 h
        · replace h := if_f h c67
          refine g_iconst C (n := 1) dX12_addsLine_45 (by decide) ?_
          refine g_goto C 50 dX12_addsLine_46 rfl ?_
          refine g_sub [1, 2, 3, 4, 0] rfl rfl ?_
          exact tX12_addsLine_50 C hr hlk hC _ _ _ _ _ _ _ T0 h
theorem dX12_copies_0 : decode cX12_copies 0 = .ok (.iconst 0, 1) := by decide +kernel
theorem dX12_copies_1 : decode cX12_copies 1 = .ok (.istore_n 1, 1) := by decide +kernel
theorem dX12_copies_2 : decode cX12_copies 2 = .ok (.iload_n 1, 1) := by decide +kernel
theorem dX12_copies_3 : decode cX12_copies 3 = .ok (.bipush 47, 2) := by decide +kernel
theorem dX12_copies_5 : decode cX12_copies 5 = .ok (.if_icmp .ge 21, 3) := by decide +kernel
theorem dX12_copies_8 : decode cX12_copies 8 = .ok (.aload_n 0, 1) := by decide +kernel
theorem dX12_copies_9 : decode cX12_copies 9 = .ok (.getfield 88, 3) := by decide +kernel
theorem dX12_copies_12 : decode cX12_copies 12 = .ok (.iload_n 1, 1) := by decide +kernel
theorem dX12_copies_13 : decode cX12_copies 13 = .ok (.aload_n 0, 1) := by decide +kernel
theorem dX12_copies_14 : decode cX12_copies 14 = .ok (.getfield 85, 3) := by decide +kernel
theorem dX12_copies_17 : decode cX12_copies 17 = .ok (.iload_n 1, 1) := by decide +kernel
theorem dX12_copies_18 : decode cX12_copies 18 = .ok (.iaload, 1) := by decide +kernel
theorem dX12_copies_19 : decode cX12_copies 19 = .ok (.iastore, 1) := by decide +kernel
theorem dX12_copies_20 : decode cX12_copies 20 = .ok (.iinc 1 1, 3) := by decide +kernel
theorem dX12_copies_23 : decode cX12_copies 23 = .ok (.goto (-21), 3) := by decide +kernel
theorem dX12_copies_26 : decode cX12_copies 26 = .ok (.return_, 1) := by decide +kernel
def fX12_copies_2 : Nat → Int → Int → V_ → Option (Int × V_)
  | 0, _, _, _ => none
  | n + 1, x0, x1, v =>
    if 47 ≤ x1 then (
      some (0, v))
    else (
      ck_ (0 ≤ x1 ∧ x1 < 47) (
      ck_ (0 ≤ x1 ∧ x1 < 47) (
      lt_ (up_ v (x0 + 24) x1 (v (x0 + 23) x1)) fun v6 =>
      lt_ (wr_ (x1 + 1)) fun y7 =>
      (fX12_copies_2 n) x0 y7 v6)))
def fX12_copies (x0 : Int) (v : V_) : Option (Int × V_) :=
  fX12_copies_2 fu_ x0 0 v
section
variable {E : En_} {p : Program} {l : Launch} {e : Env} {s : State} {m : MethodId} {args : Array Value} {below : List Frame} {meth : Method} {c : Code} {sz : Int}
theorem tX12_copies_2 (C : MC_ E p s m c cX12_copies 2 RX12) (hr : meth.sig.returnType = (none : Option FieldType)) (hlk : meth.locks = false) (hC : Cl_ E.2.2.2.2.2 sz) {out : Int × V_} : ∀ (n : Nat) (x0 x1 : Int) (v : V_), (E.2.2.2.2.2 x0 ∧ ty_ x0 = 12 ∧ ln_ x0 = 0) → fX12_copies_2 n x0 x1 v = some out → G_ E p l e (rm_ 0 0) s m args below meth c 2 sz (Q_ E below args s sz sz 9 out.1 out.2) 2 [(0, (2, x0)), (1, (0, x1))] [] v sz := by
  intro n
  induction n with
  | zero =>
    intro x0 x1 v T0 h
    cases h
  | succ n H_2 =>
    intro x0 x1 v T0 h
    rw [fX12_copies_2] at h
    refine g_iload_n C (f := 1) dX12_copies_2 1 rfl ?_
    refine g_bipush C (n := 47) dX12_copies_3 (by decide) ?_
    refine g_icmp_ge C 26 dX12_copies_5 rfl (fun c1 => ?_) (fun c1 => ?_)
    · replace h := if_t h c1
      cases h
      exact g_vret C dX12_copies_26 hr hlk
    · replace h := if_f h c1
      refine g_aload_n C (f := 0) dX12_copies_8 0 rfl ?_
      have F2 := fX12_37 hC T0.1 T0.2.1
      refine g_getR C (k := 37) (o := 24) okX12 (by decide) kf_RX12_88 dX12_copies_9 hC T0.1 T0.2.1 rfl rfl ?_
      refine g_iload_n C (f := 1) dX12_copies_12 1 rfl ?_
      refine g_aload_n C (f := 0) dX12_copies_13 0 rfl ?_
      have F3 := fX12_36 hC T0.1 T0.2.1
      refine g_getR C (k := 36) (o := 23) okX12 (by decide) kf_RX12_85 dX12_copies_14 hC T0.1 T0.2.1 rfl rfl ?_
      refine g_iload_n C (f := 1) dX12_copies_17 1 rfl ?_
      obtain ⟨c4, h⟩ := ck_e h
      refine g_iald C 47 dX12_copies_18 (rg_ hC F3.1) F3.2.1 F3.2.2 c4 ?_
      obtain ⟨c5, h⟩ := ck_e h
      obtain ⟨v6, ev6, h⟩ := lt_e h
      refine g_iast C 47 dX12_copies_19 (rg_ hC F2.1) F2.2.1 F2.2.2 c5 v6 ev6 ?_
      obtain ⟨y7, ey7, h⟩ := lt_e h
      refine g_iincx C (ls' := [(1, (0, y7)), (0, (2, x0))]) ey7 dX12_copies_20 1 rfl (by decide) (by decide) rfl ?_
      refine g_goto C 2 dX12_copies_23 rfl ?_
      refine g_sub [1, 0] rfl rfl ?_
      exact H_2 _ _ _ T0 h
end
theorem cX12_copies_ok (l : Launch) {E : En_} {sz : Int} (hC : Cl_ E.2.2.2.2.2 sz) {x0 : Int} {v : V_} {out : Int × V_} (T0 : (E.2.2.2.2.2 x0 ∧ ty_ x0 = 12 ∧ ln_ x0 = 0)) (h : fX12_copies x0 v = some out) : Met l yX12_copies [.code yX12_copies cX12_copies 2 (none : Option FieldType)] (rm_ 0 0) (Pc_ E sz v [(2, x0)]) (Qc_ E sz 9 out.1 out.2) 0 0 (fun q => E.1 < q) := by
  refine met_G0 RX12 (by decide +kernel) rfl (Nat.le_of_ble_eq_true rfl) ?_
  intro p e s m args below meth c C hr hlk
  rw [fX12_copies] at h
  refine g_iconst C (n := 0) dX12_copies_0 (by decide) ?_
  refine g_istore_n C (f := 1) (ls' := [(1, (0, 0)), (0, (2, x0))]) dX12_copies_1 (by decide) rfl ?_
  refine g_sub [1, 0] rfl rfl ?_
  exact tX12_copies_2 C hr hlk hC _ _ _ _ T0 h
theorem dX12_lineAt_0 : decode cX12_lineAt 0 = .ok (.bipush 48, 2) := by decide +kernel
theorem dX12_lineAt_2 : decode cX12_lineAt 2 = .ok (.aload_n 0, 1) := by decide +kernel
theorem dX12_lineAt_3 : decode cX12_lineAt 3 = .ok (.getfield 272, 3) := by decide +kernel
theorem dX12_lineAt_6 : decode cX12_lineAt 6 = .ok (.imul, 1) := by decide +kernel
theorem dX12_lineAt_7 : decode cX12_lineAt 7 = .ok (.bipush 6, 2) := by decide +kernel
theorem dX12_lineAt_9 : decode cX12_lineAt 9 = .ok (.iload_n 1, 1) := by decide +kernel
theorem dX12_lineAt_10 : decode cX12_lineAt 10 = .ok (.imul, 1) := by decide +kernel
theorem dX12_lineAt_11 : decode cX12_lineAt 11 = .ok (.iadd, 1) := by decide +kernel
theorem dX12_lineAt_12 : decode cX12_lineAt 12 = .ok (.iload_n 2, 1) := by decide +kernel
theorem dX12_lineAt_13 : decode cX12_lineAt 13 = .ok (.iadd, 1) := by decide +kernel
theorem dX12_lineAt_14 : decode cX12_lineAt 14 = .ok (.ireturn, 1) := by decide +kernel
def fX12_lineAt (x0 x1 x2 : Int) (v : V_) : Option (Int × V_) :=
  some (wr_ ((wr_ ((wr_ (48 * (v x0 18))) + (wr_ (6 * x1)))) + x2), v)
theorem cX12_lineAt_ok (l : Launch) {E : En_} {sz : Int} (hC : Cl_ E.2.2.2.2.2 sz) {x0 x1 x2 : Int} {v : V_} {out : Int × V_} (T0 : (E.2.2.2.2.2 x0 ∧ ty_ x0 = 12 ∧ ln_ x0 = 0)) (h : fX12_lineAt x0 x1 x2 v = some out) : Met l yX12_lineAt [.code yX12_lineAt cX12_lineAt 3 (some FieldType.int)] (rm_ 0 0) (Pc_ E sz v [(2, x0), (0, x1), (0, x2)]) (Qc_ E sz 0 out.1 out.2) 0 0 (fun q => E.1 < q) := by
  refine met_G0 RX12 (by decide +kernel) rfl (Nat.le_of_ble_eq_true rfl) ?_
  intro p e s m args below meth c C hr hlk
  rw [fX12_lineAt] at h
  refine g_bipush C (n := 48) dX12_lineAt_0 (by decide) ?_
  refine g_aload_n C (f := 0) dX12_lineAt_2 0 rfl ?_
  refine g_getf C (k := 18) (kd := 0) okX12 (by decide) kf_RX12_272 dX12_lineAt_3 (rg_ hC T0.1) T0.2.1 rfl ?_
  refine g_imul C dX12_lineAt_6 ?_
  refine g_bipush C (n := 6) dX12_lineAt_7 (by decide) ?_
  refine g_iload_n C (f := 1) dX12_lineAt_9 1 rfl ?_
  refine g_imul C dX12_lineAt_10 ?_
  refine g_iadd C dX12_lineAt_11 ?_
  refine g_iload_n C (f := 2) dX12_lineAt_12 2 rfl ?_
  refine g_iadd C dX12_lineAt_13 ?_
  cases h
  exact g_iret C dX12_lineAt_14 hr hlk
theorem dX12_linesOf_0 : decode cX12_linesOf 0 = .ok (.aload_n 0, 1) := by decide +kernel
theorem dX12_linesOf_1 : decode cX12_linesOf 1 = .ok (.getfield 52, 3) := by decide +kernel
theorem dX12_linesOf_4 : decode cX12_linesOf 4 = .ok (.bipush 8, 2) := by decide +kernel
theorem dX12_linesOf_6 : decode cX12_linesOf 6 = .ok (.aload_n 0, 1) := by decide +kernel
theorem dX12_linesOf_7 : decode cX12_linesOf 7 = .ok (.getfield 272, 3) := by decide +kernel
theorem dX12_linesOf_10 : decode cX12_linesOf 10 = .ok (.imul, 1) := by decide +kernel
theorem dX12_linesOf_11 : decode cX12_linesOf 11 = .ok (.iload_n 1, 1) := by decide +kernel
theorem dX12_linesOf_12 : decode cX12_linesOf 12 = .ok (.iadd, 1) := by decide +kernel
theorem dX12_linesOf_13 : decode cX12_linesOf 13 = .ok (.iaload, 1) := by decide +kernel
theorem dX12_linesOf_14 : decode cX12_linesOf 14 = .ok (.ireturn, 1) := by decide +kernel
def fX12_linesOf (x0 x1 : Int) (v : V_) : Option (Int × V_) :=
  ck_ (0 ≤ wr_ ((wr_ (8 * (v x0 18))) + x1) ∧ wr_ ((wr_ (8 * (v x0 18))) + x1) < 16) (
  some (v (x0 + 12) (wr_ ((wr_ (8 * (v x0 18))) + x1)), v))
theorem cX12_linesOf_ok (l : Launch) {E : En_} {sz : Int} (hC : Cl_ E.2.2.2.2.2 sz) {x0 x1 : Int} {v : V_} {out : Int × V_} (T0 : (E.2.2.2.2.2 x0 ∧ ty_ x0 = 12 ∧ ln_ x0 = 0)) (h : fX12_linesOf x0 x1 v = some out) : Met l yX12_linesOf [.code yX12_linesOf cX12_linesOf 2 (some FieldType.int)] (rm_ 0 0) (Pc_ E sz v [(2, x0), (0, x1)]) (Qc_ E sz 0 out.1 out.2) 0 0 (fun q => E.1 < q) := by
  refine met_G0 RX12 (by decide +kernel) rfl (Nat.le_of_ble_eq_true rfl) ?_
  intro p e s m args below meth c C hr hlk
  rw [fX12_linesOf] at h
  refine g_aload_n C (f := 0) dX12_linesOf_0 0 rfl ?_
  have F1 := fX12_25 hC T0.1 T0.2.1
  refine g_getR C (k := 25) (o := 12) okX12 (by decide) kf_RX12_52 dX12_linesOf_1 hC T0.1 T0.2.1 rfl rfl ?_
  refine g_bipush C (n := 8) dX12_linesOf_4 (by decide) ?_
  refine g_aload_n C (f := 0) dX12_linesOf_6 0 rfl ?_
  refine g_getf C (k := 18) (kd := 0) okX12 (by decide) kf_RX12_272 dX12_linesOf_7 (rg_ hC T0.1) T0.2.1 rfl ?_
  refine g_imul C dX12_linesOf_10 ?_
  refine g_iload_n C (f := 1) dX12_linesOf_11 1 rfl ?_
  refine g_iadd C dX12_linesOf_12 ?_
  obtain ⟨c2, h⟩ := ck_e h
  refine g_iald C 16 dX12_linesOf_13 (rg_ hC F1.1) F1.2.1 F1.2.2 c2 ?_
  cases h
  exact g_iret C dX12_linesOf_14 hr hlk
theorem dX12_fillsItems_0 : decode cX12_fillsItems 0 = .ok (.aload_n 0, 1) := by decide +kernel
theorem dX12_fillsItems_1 : decode cX12_fillsItems 1 = .ok (.getfield 118, 3) := by decide +kernel
theorem dX12_fillsItems_4 : decode cX12_fillsItems 4 = .ok (.iload_n 1, 1) := by decide +kernel
theorem dX12_fillsItems_5 : decode cX12_fillsItems 5 = .ok (.iconst 0, 1) := by decide +kernel
theorem dX12_fillsItems_6 : decode cX12_fillsItems 6 = .ok (.iastore, 1) := by decide +kernel
theorem dX12_fillsItems_7 : decode cX12_fillsItems 7 = .ok (.aload_n 0, 1) := by decide +kernel
theorem dX12_fillsItems_8 : decode cX12_fillsItems 8 = .ok (.getfield 154, 3) := by decide +kernel
theorem dX12_fillsItems_11 : decode cX12_fillsItems 11 = .ok (.iload_n 1, 1) := by decide +kernel
theorem dX12_fillsItems_12 : decode cX12_fillsItems 12 = .ok (.iconst 0, 1) := by decide +kernel
theorem dX12_fillsItems_13 : decode cX12_fillsItems 13 = .ok (.iastore, 1) := by decide +kernel
theorem dX12_fillsItems_14 : decode cX12_fillsItems 14 = .ok (.iconst 0, 1) := by decide +kernel
theorem dX12_fillsItems_15 : decode cX12_fillsItems 15 = .ok (.istore_n 2, 1) := by decide +kernel
theorem dX12_fillsItems_16 : decode cX12_fillsItems 16 = .ok (.iload_n 2, 1) := by decide +kernel
theorem dX12_fillsItems_17 : decode cX12_fillsItems 17 = .ok (.bipush 6, 2) := by decide +kernel
theorem dX12_fillsItems_19 : decode cX12_fillsItems 19 = .ok (.if_icmp .ge 16, 3) := by decide +kernel
theorem dX12_fillsItems_22 : decode cX12_fillsItems 22 = .ok (.aload_n 0, 1) := by decide +kernel
theorem dX12_fillsItems_23 : decode cX12_fillsItems 23 = .ok (.getfield 157, 3) := by decide +kernel
theorem dX12_fillsItems_26 : decode cX12_fillsItems 26 = .ok (.iload_n 2, 1) := by decide +kernel
theorem dX12_fillsItems_27 : decode cX12_fillsItems 27 = .ok (.iload_n 2, 1) := by decide +kernel
theorem dX12_fillsItems_28 : decode cX12_fillsItems 28 = .ok (.iastore, 1) := by decide +kernel
theorem dX12_fillsItems_29 : decode cX12_fillsItems 29 = .ok (.iinc 2 1, 3) := by decide +kernel
theorem dX12_fillsItems_32 : decode cX12_fillsItems 32 = .ok (.goto (-16), 3) := by decide +kernel
theorem dX12_fillsItems_35 : decode cX12_fillsItems 35 = .ok (.iconst 0, 1) := by decide +kernel
theorem dX12_fillsItems_36 : decode cX12_fillsItems 36 = .ok (.istore_n 2, 1) := by decide +kernel
theorem dX12_fillsItems_37 : decode cX12_fillsItems 37 = .ok (.iload_n 2, 1) := by decide +kernel
theorem dX12_fillsItems_38 : decode cX12_fillsItems 38 = .ok (.aload_n 0, 1) := by decide +kernel
theorem dX12_fillsItems_39 : decode cX12_fillsItems 39 = .ok (.getfield 115, 3) := by decide +kernel
theorem dX12_fillsItems_42 : decode cX12_fillsItems 42 = .ok (.iload_n 1, 1) := by decide +kernel
theorem dX12_fillsItems_43 : decode cX12_fillsItems 43 = .ok (.iaload, 1) := by decide +kernel
theorem dX12_fillsItems_44 : decode cX12_fillsItems 44 = .ok (.if_icmp .ge 86, 3) := by decide +kernel
theorem dX12_fillsItems_47 : decode cX12_fillsItems 47 = .ok (.aload_n 0, 1) := by decide +kernel
theorem dX12_fillsItems_48 : decode cX12_fillsItems 48 = .ok (.getfield 112, 3) := by decide +kernel
theorem dX12_fillsItems_51 : decode cX12_fillsItems 51 = .ok (.iconst 4, 1) := by decide +kernel
theorem dX12_fillsItems_52 : decode cX12_fillsItems 52 = .ok (.iload_n 1, 1) := by decide +kernel
theorem dX12_fillsItems_53 : decode cX12_fillsItems 53 = .ok (.imul, 1) := by decide +kernel
theorem dX12_fillsItems_54 : decode cX12_fillsItems 54 = .ok (.iload_n 2, 1) := by decide +kernel
theorem dX12_fillsItems_55 : decode cX12_fillsItems 55 = .ok (.iadd, 1) := by decide +kernel
theorem dX12_fillsItems_56 : decode cX12_fillsItems 56 = .ok (.iaload, 1) := by decide +kernel
theorem dX12_fillsItems_57 : decode cX12_fillsItems 57 = .ok (.istore_n 3, 1) := by decide +kernel
theorem dX12_fillsItems_58 : decode cX12_fillsItems 58 = .ok (.iconst 0, 1) := by decide +kernel
theorem dX12_fillsItems_59 : decode cX12_fillsItems 59 = .ok (.istore 4, 2) := by decide +kernel
theorem dX12_fillsItems_61 : decode cX12_fillsItems 61 = .ok (.iload 4, 2) := by decide +kernel
theorem dX12_fillsItems_63 : decode cX12_fillsItems 63 = .ok (.aload_n 0, 1) := by decide +kernel
theorem dX12_fillsItems_64 : decode cX12_fillsItems 64 = .ok (.iload_n 3, 1) := by decide +kernel
theorem dX12_fillsItems_65 : decode cX12_fillsItems 65 = .ok (.invokevirtual 359, 3) := by decide +kernel
theorem dX12_fillsItems_68 : decode cX12_fillsItems 68 = .ok (.if_icmp .ge 22, 3) := by decide +kernel
theorem dX12_fillsItems_71 : decode cX12_fillsItems 71 = .ok (.aload_n 0, 1) := by decide +kernel
theorem dX12_fillsItems_72 : decode cX12_fillsItems 72 = .ok (.iload_n 1, 1) := by decide +kernel
theorem dX12_fillsItems_73 : decode cX12_fillsItems 73 = .ok (.iload_n 3, 1) := by decide +kernel
theorem dX12_fillsItems_74 : decode cX12_fillsItems 74 = .ok (.aload_n 0, 1) := by decide +kernel
theorem dX12_fillsItems_75 : decode cX12_fillsItems 75 = .ok (.iload_n 3, 1) := by decide +kernel
theorem dX12_fillsItems_76 : decode cX12_fillsItems 76 = .ok (.iload 4, 2) := by decide +kernel
theorem dX12_fillsItems_78 : decode cX12_fillsItems 78 = .ok (.invokevirtual 362, 3) := by decide +kernel
theorem dX12_fillsItems_81 : decode cX12_fillsItems 81 = .ok (.invokevirtual 439, 3) := by decide +kernel
theorem dX12_fillsItems_84 : decode cX12_fillsItems 84 = .ok (.iinc 4 1, 3) := by decide +kernel
theorem dX12_fillsItems_87 : decode cX12_fillsItems 87 = .ok (.goto (-26), 3) := by decide +kernel
theorem dX12_fillsItems_90 : decode cX12_fillsItems 90 = .ok (.aload_n 0, 1) := by decide +kernel
theorem dX12_fillsItems_91 : decode cX12_fillsItems 91 = .ok (.iload_n 1, 1) := by decide +kernel
theorem dX12_fillsItems_92 : decode cX12_fillsItems 92 = .ok (.iload_n 3, 1) := by decide +kernel
theorem dX12_fillsItems_93 : decode cX12_fillsItems 93 = .ok (.iload_n 2, 1) := by decide +kernel
theorem dX12_fillsItems_94 : decode cX12_fillsItems 94 = .ok (.iconst 1, 1) := by decide +kernel
theorem dX12_fillsItems_95 : decode cX12_fillsItems 95 = .ok (.iadd, 1) := by decide +kernel
theorem dX12_fillsItems_96 : decode cX12_fillsItems 96 = .ok (.aload_n 0, 1) := by decide +kernel
theorem dX12_fillsItems_97 : decode cX12_fillsItems 97 = .ok (.getfield 115, 3) := by decide +kernel
theorem dX12_fillsItems_100 : decode cX12_fillsItems 100 = .ok (.iload_n 1, 1) := by decide +kernel
theorem dX12_fillsItems_101 : decode cX12_fillsItems 101 = .ok (.iaload, 1) := by decide +kernel
theorem dX12_fillsItems_102 : decode cX12_fillsItems 102 = .ok (.if_icmp .ge 18, 3) := by decide +kernel
theorem dX12_fillsItems_105 : decode cX12_fillsItems 105 = .ok (.aload_n 0, 1) := by decide +kernel
theorem dX12_fillsItems_106 : decode cX12_fillsItems 106 = .ok (.getfield 112, 3) := by decide +kernel
theorem dX12_fillsItems_109 : decode cX12_fillsItems 109 = .ok (.iconst 4, 1) := by decide +kernel
theorem dX12_fillsItems_110 : decode cX12_fillsItems 110 = .ok (.iload_n 1, 1) := by decide +kernel
theorem dX12_fillsItems_111 : decode cX12_fillsItems 111 = .ok (.imul, 1) := by decide +kernel
theorem dX12_fillsItems_112 : decode cX12_fillsItems 112 = .ok (.iload_n 2, 1) := by decide +kernel
theorem dX12_fillsItems_113 : decode cX12_fillsItems 113 = .ok (.iadd, 1) := by decide +kernel
theorem dX12_fillsItems_114 : decode cX12_fillsItems 114 = .ok (.iconst 1, 1) := by decide +kernel
theorem dX12_fillsItems_115 : decode cX12_fillsItems 115 = .ok (.iadd, 1) := by decide +kernel
theorem dX12_fillsItems_116 : decode cX12_fillsItems 116 = .ok (.iaload, 1) := by decide +kernel
theorem dX12_fillsItems_117 : decode cX12_fillsItems 117 = .ok (.goto 4, 3) := by decide +kernel
theorem dX12_fillsItems_120 : decode cX12_fillsItems 120 = .ok (.iconst (-1), 1) := by decide +kernel
theorem dX12_fillsItems_121 : decode cX12_fillsItems 121 = .ok (.invokevirtual 443, 3) := by decide +kernel
theorem dX12_fillsItems_124 : decode cX12_fillsItems 124 = .ok (.iinc 2 1, 3) := by decide +kernel
theorem dX12_fillsItems_127 : decode cX12_fillsItems 127 = .ok (.goto (-90), 3) := by decide +kernel
theorem dX12_fillsItems_130 : decode cX12_fillsItems 130 = .ok (.return_, 1) := by decide +kernel
def fX12_fillsItems_61 (k37 : Int → Int → Int → V_ → Option (Int × V_)) : Nat → Int → Int → Int → Int → Int → V_ → Option (Int × V_)
  | 0, _, _, _, _, _, _ => none
  | n + 1, x0, x1, x2, x3, x4, v =>
    bd_ (fX12_linesOf x0 x3 v) fun q14 =>
    if q14.1 ≤ x4 then (
      ck_ (0 ≤ x1 ∧ x1 < 8) (
      if (q14.2 (x0 + 33) x1) ≤ (wr_ (x2 + 1)) then (
        bd_ (fX12_addsEnd x0 x1 x3 (-1) q14.2) fun q19 =>
        lt_ (wr_ (x2 + 1)) fun y20 =>
        k37 x0 x1 y20 q19.2)
      else (
        ck_ (0 ≤ wr_ ((wr_ ((wr_ (4 * x1)) + x2)) + 1) ∧ wr_ ((wr_ ((wr_ (4 * x1)) + x2)) + 1) < 32) (
        bd_ (fX12_addsEnd x0 x1 x3 (q14.2 (x0 + 32) (wr_ ((wr_ ((wr_ (4 * x1)) + x2)) + 1))) q14.2) fun q23 =>
        lt_ (wr_ (x2 + 1)) fun y24 =>
        k37 x0 x1 y24 q23.2))))
    else (
      bd_ (fX12_lineAt x0 x3 x4 q14.2) fun q25 =>
      bd_ (fX12_addsLine x0 x1 x3 q25.1 q25.2) fun q26 =>
      lt_ (wr_ (x4 + 1)) fun y27 =>
      (fX12_fillsItems_61 k37 n) x0 x1 x2 x3 y27 q26.2)
def fX12_fillsItems_37 : Nat → Int → Int → Int → V_ → Option (Int × V_)
  | 0, _, _, _, _ => none
  | n + 1, x0, x1, x2, v =>
    ck_ (0 ≤ x1 ∧ x1 < 8) (
    if (v (x0 + 33) x1) ≤ x2 then (
      some (0, v))
    else (
      ck_ (0 ≤ wr_ ((wr_ (4 * x1)) + x2) ∧ wr_ ((wr_ (4 * x1)) + x2) < 32) (
      lt_ (v (x0 + 32) (wr_ ((wr_ (4 * x1)) + x2))) fun y13 =>
      fX12_fillsItems_61 (fX12_fillsItems_37 n) fu_ x0 x1 x2 y13 0 v)))
def fX12_fillsItems_16 : Nat → Int → Int → Int → V_ → Option (Int × V_)
  | 0, _, _, _, _ => none
  | n + 1, x0, x1, x2, v =>
    if 6 ≤ x2 then (
      fX12_fillsItems_37 fu_ x0 x1 0 v)
    else (
      ck_ (0 ≤ x2 ∧ x2 < 6) (
      lt_ (up_ v (x0 + 47) x2 x2) fun v30 =>
      lt_ (wr_ (x2 + 1)) fun y31 =>
      (fX12_fillsItems_16 n) x0 x1 y31 v30))
def fX12_fillsItems (x0 x1 : Int) (v : V_) : Option (Int × V_) :=
  ck_ (0 ≤ x1 ∧ x1 < 8) (
  lt_ (up_ v (x0 + 34) x1 0) fun v3 =>
  ck_ (0 ≤ x1 ∧ x1 < 8) (
  lt_ (up_ v3 (x0 + 46) x1 0) fun v6 =>
  fX12_fillsItems_16 fu_ x0 x1 0 v6))
section
variable {E : En_} {p : Program} {l : Launch} {e : Env} {s : State} {m : MethodId} {args : Array Value} {below : List Frame} {meth : Method} {c : Code} {sz : Int}
theorem tX12_fillsItems_61 (C : MC_ E p s m c cX12_fillsItems 5 RX12) (hr : meth.sig.returnType = (none : Option FieldType)) (hlk : meth.locks = false) (hC : Cl_ E.2.2.2.2.2 sz) {out : Int × V_} (k37 : Int → Int → Int → V_ → Option (Int × V_)) (H_37 : ∀ (x0 x1 x2 : Int) (v : V_), (E.2.2.2.2.2 x0 ∧ ty_ x0 = 12 ∧ ln_ x0 = 0) → k37 x0 x1 x2 v = some out → G_ E p l e (rm_ 3 72) s m args below meth c 5 sz (Q_ E below args s sz sz 9 out.1 out.2) 37 [(0, (2, x0)), (1, (0, x1)), (2, (0, x2))] [] v sz) : ∀ (n : Nat) (x0 x1 x2 x3 x4 : Int) (v : V_), (E.2.2.2.2.2 x0 ∧ ty_ x0 = 12 ∧ ln_ x0 = 0) → fX12_fillsItems_61 k37 n x0 x1 x2 x3 x4 v = some out → G_ E p l e (rm_ 3 72) s m args below meth c 5 sz (Q_ E below args s sz sz 9 out.1 out.2) 61 [(0, (2, x0)), (1, (0, x1)), (2, (0, x2)), (3, (0, x3)), (4, (0, x4))] [] v sz := by
  intro n
  induction n with
  | zero =>
    intro x0 x1 x2 x3 x4 v T0 h
    cases h
  | succ n H_61 =>
    intro x0 x1 x2 x3 x4 v T0 h
    rw [fX12_fillsItems_61] at h
    refine g_iload C (i := 4) dX12_fillsItems_61 4 rfl ?_
    refine g_aload_n C (f := 0) dX12_fillsItems_63 0 rfl ?_
    refine g_iload_n C (f := 3) dX12_fillsItems_64 3 rfl ?_
    obtain ⟨q14, eq14, h⟩ := bd_e h
    refine g_cV C [(0, x3)] (cX12_linesOf_ok l hC T0 eq14) okX12 T0.2.1 (rg_ hC T0.1) km_RX12_359 cv_X12_linesOf rfl (by decide) rfl rfl (Nat.le_of_ble_eq_true rfl) dX12_fillsItems_65 ?_
    refine g_icmp_ge C 90 dX12_fillsItems_68 rfl (fun c15 => ?_) (fun c15 => ?_)
    · replace h := if_t h c15
      refine g_aload_n C (f := 0) dX12_fillsItems_90 0 rfl ?_
      refine g_iload_n C (f := 1) dX12_fillsItems_91 1 rfl ?_
      refine g_iload_n C (f := 3) dX12_fillsItems_92 3 rfl ?_
      refine g_iload_n C (f := 2) dX12_fillsItems_93 2 rfl ?_
      refine g_iconst C (n := 1) dX12_fillsItems_94 (by decide) ?_
      refine g_iadd C dX12_fillsItems_95 ?_
      refine g_aload_n C (f := 0) dX12_fillsItems_96 0 rfl ?_
      have F16 := fX12_51 hC T0.1 T0.2.1
      refine g_getR C (k := 51) (o := 33) okX12 (by decide) kf_RX12_115 dX12_fillsItems_97 hC T0.1 T0.2.1 rfl rfl ?_
      refine g_iload_n C (f := 1) dX12_fillsItems_100 1 rfl ?_
      obtain ⟨c17, h⟩ := ck_e h
      refine g_iald C 8 dX12_fillsItems_101 (rg_ hC F16.1) F16.2.1 F16.2.2 c17 ?_
      refine g_icmp_ge C 120 dX12_fillsItems_102 rfl (fun c18 => ?_) (fun c18 => ?_)
      · replace h := if_t h c18
        refine g_iconst C (n := (-1)) dX12_fillsItems_120 (by decide) ?_
        obtain ⟨q19, eq19, h⟩ := bd_e h
        refine g_cV C [(0, x1), (0, x3), (0, (-1))] (cX12_addsEnd_ok l hC T0 eq19) okX12 T0.2.1 (rg_ hC T0.1) km_RX12_443 cv_X12_addsEnd rfl (by decide) rfl rfl (Nat.le_of_ble_eq_true rfl) dX12_fillsItems_121 ?_
        obtain ⟨y20, ey20, h⟩ := lt_e h
        refine g_iincx C (ls' := [(2, (0, y20)), (0, (2, x0)), (1, (0, x1)), (3, (0, x3)), (4, (0, x4))]) ey20 dX12_fillsItems_124 2 rfl (by decide) (by decide) rfl ?_
        refine g_goto C 37 dX12_fillsItems_127 rfl ?_
        refine g_sub [1, 2, 0] rfl rfl ?_
        exact H_37 _ _ _ _ T0 h
      · replace h := if_f h c18
        refine g_aload_n C (f := 0) dX12_fillsItems_105 0 rfl ?_
        have F21 := fX12_50 hC T0.1 T0.2.1
        refine g_getR C (k := 50) (o := 32) okX12 (by decide) kf_RX12_112 dX12_fillsItems_106 hC T0.1 T0.2.1 rfl rfl ?_
        refine g_iconst C (n := 4) dX12_fillsItems_109 (by decide) ?_
        refine g_iload_n C (f := 1) dX12_fillsItems_110 1 rfl ?_
        refine g_imul C dX12_fillsItems_111 ?_
        refine g_iload_n C (f := 2) dX12_fillsItems_112 2 rfl ?_
        refine g_iadd C dX12_fillsItems_113 ?_
        refine g_iconst C (n := 1) dX12_fillsItems_114 (by decide) ?_
        refine g_iadd C dX12_fillsItems_115 ?_
        obtain ⟨c22, h⟩ := ck_e h
        refine g_iald C 32 dX12_fillsItems_116 (rg_ hC F21.1) F21.2.1 F21.2.2 c22 ?_
        refine g_goto C 121 dX12_fillsItems_117 rfl ?_
        obtain ⟨q23, eq23, h⟩ := bd_e h
        refine g_cV C [(0, x1), (0, x3), (0, q14.2 (x0 + 32) (wr_ ((wr_ ((wr_ (4 * x1)) + x2)) + 1)))] (cX12_addsEnd_ok l hC T0 eq23) okX12 T0.2.1 (rg_ hC T0.1) km_RX12_443 cv_X12_addsEnd rfl (by decide) rfl rfl (Nat.le_of_ble_eq_true rfl) dX12_fillsItems_121 ?_
        obtain ⟨y24, ey24, h⟩ := lt_e h
        refine g_iincx C (ls' := [(2, (0, y24)), (0, (2, x0)), (1, (0, x1)), (3, (0, x3)), (4, (0, x4))]) ey24 dX12_fillsItems_124 2 rfl (by decide) (by decide) rfl ?_
        refine g_goto C 37 dX12_fillsItems_127 rfl ?_
        refine g_sub [1, 2, 0] rfl rfl ?_
        exact H_37 _ _ _ _ T0 h
    · replace h := if_f h c15
      refine g_aload_n C (f := 0) dX12_fillsItems_71 0 rfl ?_
      refine g_iload_n C (f := 1) dX12_fillsItems_72 1 rfl ?_
      refine g_iload_n C (f := 3) dX12_fillsItems_73 3 rfl ?_
      refine g_aload_n C (f := 0) dX12_fillsItems_74 0 rfl ?_
      refine g_iload_n C (f := 3) dX12_fillsItems_75 3 rfl ?_
      refine g_iload C (i := 4) dX12_fillsItems_76 4 rfl ?_
      obtain ⟨q25, eq25, h⟩ := bd_e h
      refine g_cV C [(0, x3), (0, x4)] (cX12_lineAt_ok l hC T0 eq25) okX12 T0.2.1 (rg_ hC T0.1) km_RX12_362 cv_X12_lineAt rfl (by decide) rfl rfl (Nat.le_of_ble_eq_true rfl) dX12_fillsItems_78 ?_
      obtain ⟨q26, eq26, h⟩ := bd_e h
      refine g_cV C [(0, x1), (0, x3), (0, q25.1)] (cX12_addsLine_ok l hC T0 eq26) okX12 T0.2.1 (rg_ hC T0.1) km_RX12_439 cv_X12_addsLine rfl (by decide) rfl rfl (Nat.le_of_ble_eq_true rfl) dX12_fillsItems_81 ?_
      obtain ⟨y27, ey27, h⟩ := lt_e h
      refine g_iincx C (ls' := [(4, (0, y27)), (0, (2, x0)), (1, (0, x1)), (2, (0, x2)), (3, (0, x3))]) ey27 dX12_fillsItems_84 4 rfl (by decide) (by decide) rfl ?_
      refine g_goto C 61 dX12_fillsItems_87 rfl ?_
      refine g_sub [1, 2, 3, 4, 0] rfl rfl ?_
      exact H_61 _ _ _ _ _ _ T0 h
theorem tX12_fillsItems_37 (C : MC_ E p s m c cX12_fillsItems 5 RX12) (hr : meth.sig.returnType = (none : Option FieldType)) (hlk : meth.locks = false) (hC : Cl_ E.2.2.2.2.2 sz) {out : Int × V_} : ∀ (n : Nat) (x0 x1 x2 : Int) (v : V_), (E.2.2.2.2.2 x0 ∧ ty_ x0 = 12 ∧ ln_ x0 = 0) → fX12_fillsItems_37 n x0 x1 x2 v = some out → G_ E p l e (rm_ 3 72) s m args below meth c 5 sz (Q_ E below args s sz sz 9 out.1 out.2) 37 [(0, (2, x0)), (1, (0, x1)), (2, (0, x2))] [] v sz := by
  intro n
  induction n with
  | zero =>
    intro x0 x1 x2 v T0 h
    cases h
  | succ n H_37 =>
    intro x0 x1 x2 v T0 h
    rw [fX12_fillsItems_37] at h
    refine g_iload_n C (f := 2) dX12_fillsItems_37 2 rfl ?_
    refine g_aload_n C (f := 0) dX12_fillsItems_38 0 rfl ?_
    have F8 := fX12_51 hC T0.1 T0.2.1
    refine g_getR C (k := 51) (o := 33) okX12 (by decide) kf_RX12_115 dX12_fillsItems_39 hC T0.1 T0.2.1 rfl rfl ?_
    refine g_iload_n C (f := 1) dX12_fillsItems_42 1 rfl ?_
    obtain ⟨c9, h⟩ := ck_e h
    refine g_iald C 8 dX12_fillsItems_43 (rg_ hC F8.1) F8.2.1 F8.2.2 c9 ?_
    refine g_icmp_ge C 130 dX12_fillsItems_44 rfl (fun c10 => ?_) (fun c10 => ?_)
    · replace h := if_t h c10
      cases h
      exact g_vret C dX12_fillsItems_130 hr hlk
    · replace h := if_f h c10
      refine g_aload_n C (f := 0) dX12_fillsItems_47 0 rfl ?_
      have F11 := fX12_50 hC T0.1 T0.2.1
      refine g_getR C (k := 50) (o := 32) okX12 (by decide) kf_RX12_112 dX12_fillsItems_48 hC T0.1 T0.2.1 rfl rfl ?_
      refine g_iconst C (n := 4) dX12_fillsItems_51 (by decide) ?_
      refine g_iload_n C (f := 1) dX12_fillsItems_52 1 rfl ?_
      refine g_imul C dX12_fillsItems_53 ?_
      refine g_iload_n C (f := 2) dX12_fillsItems_54 2 rfl ?_
      refine g_iadd C dX12_fillsItems_55 ?_
      obtain ⟨c12, h⟩ := ck_e h
      refine g_iald C 32 dX12_fillsItems_56 (rg_ hC F11.1) F11.2.1 F11.2.2 c12 ?_
      obtain ⟨y13, ey13, h⟩ := lt_e h
      refine g_set C ey13 ?_
      refine g_istore_n C (f := 3) (ls' := [(3, (0, y13)), (0, (2, x0)), (1, (0, x1)), (2, (0, x2))]) dX12_fillsItems_57 (by decide) rfl ?_
      refine g_iconst C (n := 0) dX12_fillsItems_58 (by decide) ?_
      refine g_istore C (i := 4) (ls' := [(4, (0, 0)), (3, (0, y13)), (0, (2, x0)), (1, (0, x1)), (2, (0, x2))]) dX12_fillsItems_59 (by decide) rfl ?_
      refine g_sub [2, 3, 4, 1, 0] rfl rfl ?_
      exact tX12_fillsItems_61 C hr hlk hC _ H_37 _ _ _ _ _ _ _ T0 h
theorem tX12_fillsItems_16 (C : MC_ E p s m c cX12_fillsItems 5 RX12) (hr : meth.sig.returnType = (none : Option FieldType)) (hlk : meth.locks = false) (hC : Cl_ E.2.2.2.2.2 sz) {out : Int × V_} : ∀ (n : Nat) (x0 x1 x2 : Int) (v : V_), (E.2.2.2.2.2 x0 ∧ ty_ x0 = 12 ∧ ln_ x0 = 0) → fX12_fillsItems_16 n x0 x1 x2 v = some out → G_ E p l e (rm_ 3 72) s m args below meth c 5 sz (Q_ E below args s sz sz 9 out.1 out.2) 16 [(0, (2, x0)), (1, (0, x1)), (2, (0, x2))] [] v sz := by
  intro n
  induction n with
  | zero =>
    intro x0 x1 x2 v T0 h
    cases h
  | succ n H_16 =>
    intro x0 x1 x2 v T0 h
    rw [fX12_fillsItems_16] at h
    refine g_iload_n C (f := 2) dX12_fillsItems_16 2 rfl ?_
    refine g_bipush C (n := 6) dX12_fillsItems_17 (by decide) ?_
    refine g_icmp_ge C 35 dX12_fillsItems_19 rfl (fun c7 => ?_) (fun c7 => ?_)
    · replace h := if_t h c7
      refine g_iconst C (n := 0) dX12_fillsItems_35 (by decide) ?_
      refine g_istore_n C (f := 2) (ls' := [(2, (0, 0)), (0, (2, x0)), (1, (0, x1))]) dX12_fillsItems_36 (by decide) rfl ?_
      refine g_sub [1, 2, 0] rfl rfl ?_
      exact tX12_fillsItems_37 C hr hlk hC _ _ _ _ _ T0 h
    · replace h := if_f h c7
      refine g_aload_n C (f := 0) dX12_fillsItems_22 0 rfl ?_
      have F28 := fX12_66 hC T0.1 T0.2.1
      refine g_getR C (k := 66) (o := 47) okX12 (by decide) kf_RX12_157 dX12_fillsItems_23 hC T0.1 T0.2.1 rfl rfl ?_
      refine g_iload_n C (f := 2) dX12_fillsItems_26 2 rfl ?_
      refine g_iload_n C (f := 2) dX12_fillsItems_27 2 rfl ?_
      obtain ⟨c29, h⟩ := ck_e h
      obtain ⟨v30, ev30, h⟩ := lt_e h
      refine g_iast C 6 dX12_fillsItems_28 (rg_ hC F28.1) F28.2.1 F28.2.2 c29 v30 ev30 ?_
      obtain ⟨y31, ey31, h⟩ := lt_e h
      refine g_iincx C (ls' := [(2, (0, y31)), (0, (2, x0)), (1, (0, x1))]) ey31 dX12_fillsItems_29 2 rfl (by decide) (by decide) rfl ?_
      refine g_goto C 16 dX12_fillsItems_32 rfl ?_
      refine g_sub [1, 2, 0] rfl rfl ?_
      exact H_16 _ _ _ _ T0 h
end
theorem cX12_fillsItems_ok (l : Launch) {E : En_} {sz : Int} (hC : Cl_ E.2.2.2.2.2 sz) {x0 x1 : Int} {v : V_} {out : Int × V_} (T0 : (E.2.2.2.2.2 x0 ∧ ty_ x0 = 12 ∧ ln_ x0 = 0)) (h : fX12_fillsItems x0 x1 v = some out) : Met l yX12_fillsItems [.code yX12_fillsItems cX12_fillsItems 5 (none : Option FieldType)] (rm_ 3 72) (Pc_ E sz v [(2, x0), (0, x1)]) (Qc_ E sz 9 out.1 out.2) 0 0 (fun q => E.1 < q) := by
  refine met_G0 RX12 (by decide +kernel) rfl (Nat.le_of_ble_eq_true rfl) ?_
  intro p e s m args below meth c C hr hlk
  rw [fX12_fillsItems] at h
  refine g_aload_n C (f := 0) dX12_fillsItems_0 0 rfl ?_
  have F1 := fX12_53 hC T0.1 T0.2.1
  refine g_getR C (k := 53) (o := 34) okX12 (by decide) kf_RX12_118 dX12_fillsItems_1 hC T0.1 T0.2.1 rfl rfl ?_
  refine g_iload_n C (f := 1) dX12_fillsItems_4 1 rfl ?_
  refine g_iconst C (n := 0) dX12_fillsItems_5 (by decide) ?_
  obtain ⟨c2, h⟩ := ck_e h
  obtain ⟨v3, ev3, h⟩ := lt_e h
  refine g_iast C 8 dX12_fillsItems_6 (rg_ hC F1.1) F1.2.1 F1.2.2 c2 v3 ev3 ?_
  refine g_aload_n C (f := 0) dX12_fillsItems_7 0 rfl ?_
  have F4 := fX12_65 hC T0.1 T0.2.1
  refine g_getR C (k := 65) (o := 46) okX12 (by decide) kf_RX12_154 dX12_fillsItems_8 hC T0.1 T0.2.1 rfl rfl ?_
  refine g_iload_n C (f := 1) dX12_fillsItems_11 1 rfl ?_
  refine g_iconst C (n := 0) dX12_fillsItems_12 (by decide) ?_
  obtain ⟨c5, h⟩ := ck_e h
  obtain ⟨v6, ev6, h⟩ := lt_e h
  refine g_iast C 8 dX12_fillsItems_13 (rg_ hC F4.1) F4.2.1 F4.2.2 c5 v6 ev6 ?_
  refine g_iconst C (n := 0) dX12_fillsItems_14 (by decide) ?_
  refine g_istore_n C (f := 2) (ls' := [(2, (0, 0)), (0, (2, x0)), (1, (0, x1))]) dX12_fillsItems_15 (by decide) rfl ?_
  refine g_sub [1, 2, 0] rfl rfl ?_
  exact tX12_fillsItems_16 C hr hlk hC _ _ _ _ _ T0 h
theorem dX12_bitOf_0 : decode cX12_bitOf 0 = .ok (.iload_n 0, 1) := by decide +kernel
theorem dX12_bitOf_1 : decode cX12_bitOf 1 = .ok (.bipush 6, 2) := by decide +kernel
theorem dX12_bitOf_3 : decode cX12_bitOf 3 = .ok (.if_icmp .ge 9, 3) := by decide +kernel
theorem dX12_bitOf_6 : decode cX12_bitOf 6 = .ok (.iconst 1, 1) := by decide +kernel
theorem dX12_bitOf_7 : decode cX12_bitOf 7 = .ok (.iload_n 0, 1) := by decide +kernel
theorem dX12_bitOf_8 : decode cX12_bitOf 8 = .ok (.ishl, 1) := by decide +kernel
theorem dX12_bitOf_9 : decode cX12_bitOf 9 = .ok (.goto 4, 3) := by decide +kernel
theorem dX12_bitOf_12 : decode cX12_bitOf 12 = .ok (.iconst 0, 1) := by decide +kernel
theorem dX12_bitOf_13 : decode cX12_bitOf 13 = .ok (.ireturn, 1) := by decide +kernel
def fX12_bitOf (x0 : Int) (v : V_) : Option (Int × V_) :=
  if 6 ≤ x0 then (
    some (0, v))
  else (
    some (sL_ 1 x0, v))
theorem cX12_bitOf_ok (l : Launch) {E : En_} {sz : Int} (hC : Cl_ E.2.2.2.2.2 sz) {x0 : Int} {v : V_} {out : Int × V_} (h : fX12_bitOf x0 v = some out) : Met l yX12_bitOf [.code yX12_bitOf cX12_bitOf 1 (some FieldType.int)] (rm_ 0 0) (Pc_ E sz v [(0, x0)]) (Qc_ E sz 0 out.1 out.2) 0 0 (fun q => E.1 < q) := by
  refine met_G0 RX12 (by decide +kernel) rfl (Nat.le_of_ble_eq_true rfl) ?_
  intro p e s m args below meth c C hr hlk
  rw [fX12_bitOf] at h
  refine g_iload_n C (f := 0) dX12_bitOf_0 0 rfl ?_
  refine g_bipush C (n := 6) dX12_bitOf_1 (by decide) ?_
  refine g_icmp_ge C 12 dX12_bitOf_3 rfl (fun c1 => ?_) (fun c1 => ?_)
  · replace h := if_t h c1
    refine g_iconst C (n := 0) dX12_bitOf_12 (by decide) ?_
    cases h
    exact g_iret C dX12_bitOf_13 hr hlk
  · replace h := if_f h c1
    refine g_iconst C (n := 1) dX12_bitOf_6 (by decide) ?_
    refine g_iload_n C (f := 0) dX12_bitOf_7 0 rfl ?_
    refine g_ishl C dX12_bitOf_8 ?_
    refine g_goto C 13 dX12_bitOf_9 rfl ?_
    cases h
    exact g_iret C dX12_bitOf_13 hr hlk
theorem dX12_liveAbove_0 : decode cX12_liveAbove 0 = .ok (.bipush 8, 2) := by decide +kernel
theorem dX12_liveAbove_2 : decode cX12_liveAbove 2 = .ok (.aload_n 0, 1) := by decide +kernel
theorem dX12_liveAbove_3 : decode cX12_liveAbove 3 = .ok (.getfield 272, 3) := by decide +kernel
theorem dX12_liveAbove_6 : decode cX12_liveAbove 6 = .ok (.imul, 1) := by decide +kernel
theorem dX12_liveAbove_7 : decode cX12_liveAbove 7 = .ok (.iload_n 1, 1) := by decide +kernel
theorem dX12_liveAbove_8 : decode cX12_liveAbove 8 = .ok (.iadd, 1) := by decide +kernel
theorem dX12_liveAbove_9 : decode cX12_liveAbove 9 = .ok (.istore_n 3, 1) := by decide +kernel
theorem dX12_liveAbove_10 : decode cX12_liveAbove 10 = .ok (.aload_n 0, 1) := by decide +kernel
theorem dX12_liveAbove_11 : decode cX12_liveAbove 11 = .ok (.getfield 70, 3) := by decide +kernel
theorem dX12_liveAbove_14 : decode cX12_liveAbove 14 = .ok (.iload_n 3, 1) := by decide +kernel
theorem dX12_liveAbove_15 : decode cX12_liveAbove 15 = .ok (.iaload, 1) := by decide +kernel
theorem dX12_liveAbove_16 : decode cX12_liveAbove 16 = .ok (.iconst 2, 1) := by decide +kernel
theorem dX12_liveAbove_17 : decode cX12_liveAbove 17 = .ok (.if_icmp .ne 8, 3) := by decide +kernel
theorem dX12_liveAbove_20 : decode cX12_liveAbove 20 = .ok (.bipush 63, 2) := by decide +kernel
theorem dX12_liveAbove_22 : decode cX12_liveAbove 22 = .ok (.goto 4, 3) := by decide +kernel
theorem dX12_liveAbove_25 : decode cX12_liveAbove 25 = .ok (.iload_n 2, 1) := by decide +kernel
theorem dX12_liveAbove_26 : decode cX12_liveAbove 26 = .ok (.istore 4, 2) := by decide +kernel
theorem dX12_liveAbove_28 : decode cX12_liveAbove 28 = .ok (.aload_n 0, 1) := by decide +kernel
theorem dX12_liveAbove_29 : decode cX12_liveAbove 29 = .ok (.getfield 70, 3) := by decide +kernel
theorem dX12_liveAbove_32 : decode cX12_liveAbove 32 = .ok (.iload_n 3, 1) := by decide +kernel
theorem dX12_liveAbove_33 : decode cX12_liveAbove 33 = .ok (.iaload, 1) := by decide +kernel
theorem dX12_liveAbove_34 : decode cX12_liveAbove 34 = .ok (.iconst 1, 1) := by decide +kernel
theorem dX12_liveAbove_35 : decode cX12_liveAbove 35 = .ok (.if_icmp .ne 27, 3) := by decide +kernel
theorem dX12_liveAbove_38 : decode cX12_liveAbove 38 = .ok (.iload 4, 2) := by decide +kernel
theorem dX12_liveAbove_40 : decode cX12_liveAbove 40 = .ok (.aload_n 0, 1) := by decide +kernel
theorem dX12_liveAbove_41 : decode cX12_liveAbove 41 = .ok (.getfield 73, 3) := by decide +kernel
theorem dX12_liveAbove_44 : decode cX12_liveAbove 44 = .ok (.iload_n 3, 1) := by decide +kernel
theorem dX12_liveAbove_45 : decode cX12_liveAbove 45 = .ok (.iaload, 1) := by decide +kernel
theorem dX12_liveAbove_46 : decode cX12_liveAbove 46 = .ok (.invokestatic 390, 3) := by decide +kernel
theorem dX12_liveAbove_49 : decode cX12_liveAbove 49 = .ok (.aload_n 0, 1) := by decide +kernel
theorem dX12_liveAbove_50 : decode cX12_liveAbove 50 = .ok (.getfield 76, 3) := by decide +kernel
theorem dX12_liveAbove_53 : decode cX12_liveAbove 53 = .ok (.iload_n 3, 1) := by decide +kernel
theorem dX12_liveAbove_54 : decode cX12_liveAbove 54 = .ok (.iaload, 1) := by decide +kernel
theorem dX12_liveAbove_55 : decode cX12_liveAbove 55 = .ok (.invokestatic 390, 3) := by decide +kernel
theorem dX12_liveAbove_58 : decode cX12_liveAbove 58 = .ok (.ior, 1) := by decide +kernel
theorem dX12_liveAbove_59 : decode cX12_liveAbove 59 = .ok (.ior, 1) := by decide +kernel
theorem dX12_liveAbove_60 : decode cX12_liveAbove 60 = .ok (.istore 4, 2) := by decide +kernel
theorem dX12_liveAbove_62 : decode cX12_liveAbove 62 = .ok (.aload_n 0, 1) := by decide +kernel
theorem dX12_liveAbove_63 : decode cX12_liveAbove 63 = .ok (.iload_n 1, 1) := by decide +kernel
theorem dX12_liveAbove_64 : decode cX12_liveAbove 64 = .ok (.invokevirtual 359, 3) := by decide +kernel
theorem dX12_liveAbove_67 : decode cX12_liveAbove 67 = .ok (.iconst 1, 1) := by decide +kernel
theorem dX12_liveAbove_68 : decode cX12_liveAbove 68 = .ok (.isub, 1) := by decide +kernel
theorem dX12_liveAbove_69 : decode cX12_liveAbove 69 = .ok (.istore 5, 2) := by decide +kernel
theorem dX12_liveAbove_71 : decode cX12_liveAbove 71 = .ok (.iload 5, 2) := by decide +kernel
theorem dX12_liveAbove_73 : decode cX12_liveAbove 73 = .ok (.ifCond .lt 70, 3) := by decide +kernel
theorem dX12_liveAbove_76 : decode cX12_liveAbove 76 = .ok (.aload_n 0, 1) := by decide +kernel
theorem dX12_liveAbove_77 : decode cX12_liveAbove 77 = .ok (.iload_n 1, 1) := by decide +kernel
theorem dX12_liveAbove_78 : decode cX12_liveAbove 78 = .ok (.iload 5, 2) := by decide +kernel
theorem dX12_liveAbove_80 : decode cX12_liveAbove 80 = .ok (.invokevirtual 362, 3) := by decide +kernel
theorem dX12_liveAbove_83 : decode cX12_liveAbove 83 = .ok (.istore 6, 2) := by decide +kernel
theorem dX12_liveAbove_85 : decode cX12_liveAbove 85 = .ok (.aload_n 0, 1) := by decide +kernel
theorem dX12_liveAbove_86 : decode cX12_liveAbove 86 = .ok (.getfield 61, 3) := by decide +kernel
theorem dX12_liveAbove_89 : decode cX12_liveAbove 89 = .ok (.iload 6, 2) := by decide +kernel
theorem dX12_liveAbove_91 : decode cX12_liveAbove 91 = .ok (.iaload, 1) := by decide +kernel
theorem dX12_liveAbove_92 : decode cX12_liveAbove 92 = .ok (.ifCond .lt 19, 3) := by decide +kernel
theorem dX12_liveAbove_95 : decode cX12_liveAbove 95 = .ok (.iload 4, 2) := by decide +kernel
theorem dX12_liveAbove_97 : decode cX12_liveAbove 97 = .ok (.iconst 1, 1) := by decide +kernel
theorem dX12_liveAbove_98 : decode cX12_liveAbove 98 = .ok (.aload_n 0, 1) := by decide +kernel
theorem dX12_liveAbove_99 : decode cX12_liveAbove 99 = .ok (.getfield 61, 3) := by decide +kernel
theorem dX12_liveAbove_102 : decode cX12_liveAbove 102 = .ok (.iload 6, 2) := by decide +kernel
theorem dX12_liveAbove_104 : decode cX12_liveAbove 104 = .ok (.iaload, 1) := by decide +kernel
theorem dX12_liveAbove_105 : decode cX12_liveAbove 105 = .ok (.ishl, 1) := by decide +kernel
theorem dX12_liveAbove_106 : decode cX12_liveAbove 106 = .ok (.iconst (-1), 1) := by decide +kernel
theorem dX12_liveAbove_107 : decode cX12_liveAbove 107 = .ok (.ixor, 1) := by decide +kernel
theorem dX12_liveAbove_108 : decode cX12_liveAbove 108 = .ok (.iand, 1) := by decide +kernel
theorem dX12_liveAbove_109 : decode cX12_liveAbove 109 = .ok (.istore 4, 2) := by decide +kernel
theorem dX12_liveAbove_111 : decode cX12_liveAbove 111 = .ok (.iload 4, 2) := by decide +kernel
theorem dX12_liveAbove_113 : decode cX12_liveAbove 113 = .ok (.aload_n 0, 1) := by decide +kernel
theorem dX12_liveAbove_114 : decode cX12_liveAbove 114 = .ok (.getfield 64, 3) := by decide +kernel
theorem dX12_liveAbove_117 : decode cX12_liveAbove 117 = .ok (.iload 6, 2) := by decide +kernel
theorem dX12_liveAbove_119 : decode cX12_liveAbove 119 = .ok (.iaload, 1) := by decide +kernel
theorem dX12_liveAbove_120 : decode cX12_liveAbove 120 = .ok (.invokestatic 390, 3) := by decide +kernel
theorem dX12_liveAbove_123 : decode cX12_liveAbove 123 = .ok (.aload_n 0, 1) := by decide +kernel
theorem dX12_liveAbove_124 : decode cX12_liveAbove 124 = .ok (.getfield 67, 3) := by decide +kernel
theorem dX12_liveAbove_127 : decode cX12_liveAbove 127 = .ok (.iload 6, 2) := by decide +kernel
theorem dX12_liveAbove_129 : decode cX12_liveAbove 129 = .ok (.iaload, 1) := by decide +kernel
theorem dX12_liveAbove_130 : decode cX12_liveAbove 130 = .ok (.invokestatic 390, 3) := by decide +kernel
theorem dX12_liveAbove_133 : decode cX12_liveAbove 133 = .ok (.ior, 1) := by decide +kernel
theorem dX12_liveAbove_134 : decode cX12_liveAbove 134 = .ok (.ior, 1) := by decide +kernel
theorem dX12_liveAbove_135 : decode cX12_liveAbove 135 = .ok (.istore 4, 2) := by decide +kernel
theorem dX12_liveAbove_137 : decode cX12_liveAbove 137 = .ok (.iinc 5 (-1), 3) := by decide +kernel
theorem dX12_liveAbove_140 : decode cX12_liveAbove 140 = .ok (.goto (-69), 3) := by decide +kernel
theorem dX12_liveAbove_143 : decode cX12_liveAbove 143 = .ok (.iload 4, 2) := by decide +kernel
theorem dX12_liveAbove_145 : decode cX12_liveAbove 145 = .ok (.ireturn, 1) := by decide +kernel
def fX12_liveAbove_111 (k71 : Int → Int → Int → Int → V_ → Option (Int × V_)) (x0 x1 x4 x5 x6 : Int) (v : V_) : Option (Int × V_) :=
  ck_ (0 ≤ x6 ∧ x6 < 96) (
  bd_ (fX12_bitOf (v (x0 + 16) x6) v) fun q17 =>
  ck_ (0 ≤ x6 ∧ x6 < 96) (
  bd_ (fX12_bitOf (q17.2 (x0 + 17) x6) q17.2) fun q20 =>
  lt_ (bO_ x4 (bO_ q17.1 q20.1)) fun y21 =>
  lt_ (wr_ (x5 + (-1))) fun y22 =>
  k71 x0 x1 y21 y22 q20.2))
def fX12_liveAbove_71 : Nat → Int → Int → Int → Int → V_ → Option (Int × V_)
  | 0, _, _, _, _, _ => none
  | n + 1, x0, x1, x4, x5, v =>
    if x5 < 0 then (
      some (x4, v))
    else (
      bd_ (fX12_lineAt x0 x1 x5 v) fun q11 =>
      ck_ (0 ≤ q11.1 ∧ q11.1 < 96) (
      if (q11.2 (x0 + 15) q11.1) < 0 then (
        fX12_liveAbove_111 (fX12_liveAbove_71 n) x0 x1 x4 x5 q11.1 q11.2)
      else (
        ck_ (0 ≤ q11.1 ∧ q11.1 < 96) (
        lt_ (bA_ x4 (bX_ (sL_ 1 (q11.2 (x0 + 15) q11.1)) (-1))) fun y25 =>
        fX12_liveAbove_111 (fX12_liveAbove_71 n) x0 x1 y25 x5 q11.1 q11.2))))
def fX12_liveAbove_62 (x0 x1 x4 : Int) (v : V_) : Option (Int × V_) :=
  bd_ (fX12_linesOf x0 x1 v) fun q8 =>
  lt_ (wr_ (q8.1 - 1)) fun y9 =>
  fX12_liveAbove_71 fu_ x0 x1 x4 y9 q8.2
def fX12_liveAbove_26 (x0 x1 x3 s0 : Int) (v : V_) : Option (Int × V_) :=
  ck_ (0 ≤ x3 ∧ x3 < 16) (
  if (v (x0 + 18) x3) = 1 then (
    ck_ (0 ≤ x3 ∧ x3 < 16) (
    bd_ (fX12_bitOf (v (x0 + 19) x3) v) fun q28 =>
    ck_ (0 ≤ x3 ∧ x3 < 16) (
    bd_ (fX12_bitOf (q28.2 (x0 + 20) x3) q28.2) fun q31 =>
    lt_ (bO_ s0 (bO_ q28.1 q31.1)) fun y32 =>
    fX12_liveAbove_62 x0 x1 y32 q31.2)))
  else (
    fX12_liveAbove_62 x0 x1 s0 v))
def fX12_liveAbove (x0 x1 x2 : Int) (v : V_) : Option (Int × V_) :=
  lt_ (wr_ ((wr_ (8 * (v x0 18))) + x1)) fun y1 =>
  ck_ (0 ≤ y1 ∧ y1 < 16) (
  if (v (x0 + 18) y1) = 2 then (
    fX12_liveAbove_26 x0 x1 y1 63 v)
  else (
    fX12_liveAbove_26 x0 x1 y1 x2 v))
section
variable {E : En_} {p : Program} {l : Launch} {e : Env} {s : State} {m : MethodId} {args : Array Value} {below : List Frame} {meth : Method} {c : Code} {sz : Int}
theorem tX12_liveAbove_111 (C : MC_ E p s m c cX12_liveAbove 7 RX12) (hr : meth.sig.returnType = (some FieldType.int)) (hlk : meth.locks = false) (hC : Cl_ E.2.2.2.2.2 sz) {out : Int × V_} (k71 : Int → Int → Int → Int → V_ → Option (Int × V_)) (H_71 : ∀ (x0 x1 x4 x5 : Int) (v : V_), (E.2.2.2.2.2 x0 ∧ ty_ x0 = 12 ∧ ln_ x0 = 0) → k71 x0 x1 x4 x5 v = some out → G_ E p l e (rm_ 1 22) s m args below meth c 7 sz (Q_ E below args s sz sz 0 out.1 out.2) 71 [(0, (2, x0)), (1, (0, x1)), (4, (0, x4)), (5, (0, x5))] [] v sz) (x0 x1 x4 x5 x6 : Int) (v : V_) (T0 : (E.2.2.2.2.2 x0 ∧ ty_ x0 = 12 ∧ ln_ x0 = 0)) (h : fX12_liveAbove_111 k71 x0 x1 x4 x5 x6 v = some out) : G_ E p l e (rm_ 1 22) s m args below meth c 7 sz (Q_ E below args s sz sz 0 out.1 out.2) 111 [(0, (2, x0)), (1, (0, x1)), (4, (0, x4)), (5, (0, x5)), (6, (0, x6))] [] v sz := by
  rw [fX12_liveAbove_111] at h
  refine g_iload C (i := 4) dX12_liveAbove_111 2 rfl ?_
  refine g_aload_n C (f := 0) dX12_liveAbove_113 0 rfl ?_
  have F15 := fX12_29 hC T0.1 T0.2.1
  refine g_getR C (k := 29) (o := 16) okX12 (by decide) kf_RX12_64 dX12_liveAbove_114 hC T0.1 T0.2.1 rfl rfl ?_
  refine g_iload C (i := 6) dX12_liveAbove_117 4 rfl ?_
  obtain ⟨c16, h⟩ := ck_e h
  refine g_iald C 96 dX12_liveAbove_119 (rg_ hC F15.1) F15.2.1 F15.2.2 c16 ?_
  obtain ⟨q17, eq17, h⟩ := bd_e h
  refine g_cS C [(0, v (x0 + 16) x6)] (cX12_bitOf_ok l hC eq17) km_RX12_390 cs_X12_bitOf rfl (by decide) rfl rfl (Nat.le_of_ble_eq_true rfl) dX12_liveAbove_120 ?_
  refine g_aload_n C (f := 0) dX12_liveAbove_123 0 rfl ?_
  have F18 := fX12_30 hC T0.1 T0.2.1
  refine g_getR C (k := 30) (o := 17) okX12 (by decide) kf_RX12_67 dX12_liveAbove_124 hC T0.1 T0.2.1 rfl rfl ?_
  refine g_iload C (i := 6) dX12_liveAbove_127 4 rfl ?_
  obtain ⟨c19, h⟩ := ck_e h
  refine g_iald C 96 dX12_liveAbove_129 (rg_ hC F18.1) F18.2.1 F18.2.2 c19 ?_
  obtain ⟨q20, eq20, h⟩ := bd_e h
  refine g_cS C [(0, q17.2 (x0 + 17) x6)] (cX12_bitOf_ok l hC eq20) km_RX12_390 cs_X12_bitOf rfl (by decide) rfl rfl (Nat.le_of_ble_eq_true rfl) dX12_liveAbove_130 ?_
  refine g_ior C dX12_liveAbove_133 ?_
  refine g_ior C dX12_liveAbove_134 ?_
  obtain ⟨y21, ey21, h⟩ := lt_e h
  refine g_set C ey21 ?_
  refine g_istore C (i := 4) (ls' := [(4, (0, y21)), (0, (2, x0)), (1, (0, x1)), (5, (0, x5)), (6, (0, x6))]) dX12_liveAbove_135 (by decide) rfl ?_
  obtain ⟨y22, ey22, h⟩ := lt_e h
  refine g_iincx C (ls' := [(5, (0, y22)), (4, (0, y21)), (0, (2, x0)), (1, (0, x1)), (6, (0, x6))]) ey22 dX12_liveAbove_137 3 rfl (by decide) (by decide) rfl ?_
  refine g_goto C 71 dX12_liveAbove_140 rfl ?_
  refine g_sub [2, 3, 1, 0] rfl rfl ?_
  exact H_71 _ _ _ _ _ T0 h
theorem tX12_liveAbove_71 (C : MC_ E p s m c cX12_liveAbove 7 RX12) (hr : meth.sig.returnType = (some FieldType.int)) (hlk : meth.locks = false) (hC : Cl_ E.2.2.2.2.2 sz) {out : Int × V_} : ∀ (n : Nat) (x0 x1 x4 x5 : Int) (v : V_), (E.2.2.2.2.2 x0 ∧ ty_ x0 = 12 ∧ ln_ x0 = 0) → fX12_liveAbove_71 n x0 x1 x4 x5 v = some out → G_ E p l e (rm_ 1 22) s m args below meth c 7 sz (Q_ E below args s sz sz 0 out.1 out.2) 71 [(0, (2, x0)), (1, (0, x1)), (4, (0, x4)), (5, (0, x5))] [] v sz := by
  intro n
  induction n with
  | zero =>
    intro x0 x1 x4 x5 v T0 h
    cases h
  | succ n H_71 =>
    intro x0 x1 x4 x5 v T0 h
    rw [fX12_liveAbove_71] at h
    refine g_iload C (i := 5) dX12_liveAbove_71 3 rfl ?_
    refine g_if_lt C 143 dX12_liveAbove_73 rfl (fun c10 => ?_) (fun c10 => ?_)
    · replace h := if_t h c10
      refine g_iload C (i := 4) dX12_liveAbove_143 2 rfl ?_
      cases h
      exact g_iret C dX12_liveAbove_145 hr hlk
    · replace h := if_f h c10
      refine g_aload_n C (f := 0) dX12_liveAbove_76 0 rfl ?_
      refine g_iload_n C (f := 1) dX12_liveAbove_77 1 rfl ?_
      refine g_iload C (i := 5) dX12_liveAbove_78 3 rfl ?_
      obtain ⟨q11, eq11, h⟩ := bd_e h
      refine g_cV C [(0, x1), (0, x5)] (cX12_lineAt_ok l hC T0 eq11) okX12 T0.2.1 (rg_ hC T0.1) km_RX12_362 cv_X12_lineAt rfl (by decide) rfl rfl (Nat.le_of_ble_eq_true rfl) dX12_liveAbove_80 ?_
      refine g_istore C (i := 6) (ls' := [(6, (0, q11.1)), (0, (2, x0)), (1, (0, x1)), (4, (0, x4)), (5, (0, x5))]) dX12_liveAbove_83 (by decide) rfl ?_
      refine g_aload_n C (f := 0) dX12_liveAbove_85 1 rfl ?_
      have F12 := fX12_28 hC T0.1 T0.2.1
      refine g_getR C (k := 28) (o := 15) okX12 (by decide) kf_RX12_61 dX12_liveAbove_86 hC T0.1 T0.2.1 rfl rfl ?_
      refine g_iload C (i := 6) dX12_liveAbove_89 0 rfl ?_
      obtain ⟨c13, h⟩ := ck_e h
      refine g_iald C 96 dX12_liveAbove_91 (rg_ hC F12.1) F12.2.1 F12.2.2 c13 ?_
      refine g_if_lt C 111 dX12_liveAbove_92 rfl (fun c14 => ?_) (fun c14 => ?_)
      · replace h := if_t h c14
        refine g_sub [1, 2, 3, 4, 0] rfl rfl ?_
        exact tX12_liveAbove_111 C hr hlk hC _ H_71 _ _ _ _ _ _ T0 h
      · replace h := if_f h c14
        refine g_iload C (i := 4) dX12_liveAbove_95 3 rfl ?_
        refine g_iconst C (n := 1) dX12_liveAbove_97 (by decide) ?_
        refine g_aload_n C (f := 0) dX12_liveAbove_98 1 rfl ?_
        have F23 := fX12_28 hC T0.1 T0.2.1
        refine g_getR C (k := 28) (o := 15) okX12 (by decide) kf_RX12_61 dX12_liveAbove_99 hC T0.1 T0.2.1 rfl rfl ?_
        refine g_iload C (i := 6) dX12_liveAbove_102 0 rfl ?_
        obtain ⟨c24, h⟩ := ck_e h
        refine g_iald C 96 dX12_liveAbove_104 (rg_ hC F23.1) F23.2.1 F23.2.2 c24 ?_
        refine g_ishl C dX12_liveAbove_105 ?_
        refine g_iconst C (n := (-1)) dX12_liveAbove_106 (by decide) ?_
        refine g_ixor C dX12_liveAbove_107 ?_
        refine g_iand C dX12_liveAbove_108 ?_
        obtain ⟨y25, ey25, h⟩ := lt_e h
        refine g_set C ey25 ?_
        refine g_istore C (i := 4) (ls' := [(4, (0, y25)), (6, (0, q11.1)), (0, (2, x0)), (1, (0, x1)), (5, (0, x5))]) dX12_liveAbove_109 (by decide) rfl ?_
        refine g_sub [2, 3, 0, 4, 1] rfl rfl ?_
        exact tX12_liveAbove_111 C hr hlk hC _ H_71 _ _ _ _ _ _ T0 h
theorem tX12_liveAbove_62 (C : MC_ E p s m c cX12_liveAbove 7 RX12) (hr : meth.sig.returnType = (some FieldType.int)) (hlk : meth.locks = false) (hC : Cl_ E.2.2.2.2.2 sz) {out : Int × V_} (x0 x1 x4 : Int) (v : V_) (T0 : (E.2.2.2.2.2 x0 ∧ ty_ x0 = 12 ∧ ln_ x0 = 0)) (h : fX12_liveAbove_62 x0 x1 x4 v = some out) : G_ E p l e (rm_ 1 22) s m args below meth c 7 sz (Q_ E below args s sz sz 0 out.1 out.2) 62 [(0, (2, x0)), (1, (0, x1)), (4, (0, x4))] [] v sz := by
  rw [fX12_liveAbove_62] at h
  refine g_aload_n C (f := 0) dX12_liveAbove_62 0 rfl ?_
  refine g_iload_n C (f := 1) dX12_liveAbove_63 1 rfl ?_
  obtain ⟨q8, eq8, h⟩ := bd_e h
  refine g_cV C [(0, x1)] (cX12_linesOf_ok l hC T0 eq8) okX12 T0.2.1 (rg_ hC T0.1) km_RX12_359 cv_X12_linesOf rfl (by decide) rfl rfl (Nat.le_of_ble_eq_true rfl) dX12_liveAbove_64 ?_
  refine g_iconst C (n := 1) dX12_liveAbove_67 (by decide) ?_
  refine g_isub C dX12_liveAbove_68 ?_
  obtain ⟨y9, ey9, h⟩ := lt_e h
  refine g_set C ey9 ?_
  refine g_istore C (i := 5) (ls' := [(5, (0, y9)), (0, (2, x0)), (1, (0, x1)), (4, (0, x4))]) dX12_liveAbove_69 (by decide) rfl ?_
  refine g_sub [1, 2, 3, 0] rfl rfl ?_
  exact tX12_liveAbove_71 C hr hlk hC _ _ _ _ _ _ T0 h
theorem tX12_liveAbove_26 (C : MC_ E p s m c cX12_liveAbove 7 RX12) (hr : meth.sig.returnType = (some FieldType.int)) (hlk : meth.locks = false) (hC : Cl_ E.2.2.2.2.2 sz) {out : Int × V_} (x0 x1 x3 s0 : Int) (v : V_) (T0 : (E.2.2.2.2.2 x0 ∧ ty_ x0 = 12 ∧ ln_ x0 = 0)) (h : fX12_liveAbove_26 x0 x1 x3 s0 v = some out) : G_ E p l e (rm_ 1 22) s m args below meth c 7 sz (Q_ E below args s sz sz 0 out.1 out.2) 26 [(0, (2, x0)), (1, (0, x1)), (3, (0, x3))] [(0, s0)] v sz := by
  rw [fX12_liveAbove_26] at h
  refine g_istore C (i := 4) (ls' := [(4, (0, s0)), (0, (2, x0)), (1, (0, x1)), (3, (0, x3))]) dX12_liveAbove_26 (by decide) rfl ?_
  refine g_aload_n C (f := 0) dX12_liveAbove_28 1 rfl ?_
  have F5 := fX12_31 hC T0.1 T0.2.1
  refine g_getR C (k := 31) (o := 18) okX12 (by decide) kf_RX12_70 dX12_liveAbove_29 hC T0.1 T0.2.1 rfl rfl ?_
  refine g_iload_n C (f := 3) dX12_liveAbove_32 3 rfl ?_
  obtain ⟨c6, h⟩ := ck_e h
  refine g_iald C 16 dX12_liveAbove_33 (rg_ hC F5.1) F5.2.1 F5.2.2 c6 ?_
  refine g_iconst C (n := 1) dX12_liveAbove_34 (by decide) ?_
  refine g_icmp_ne C 62 dX12_liveAbove_35 rfl (fun c7 => ?_) (fun c7 => ?_)
  · replace h := if_f h c7
    refine g_sub [1, 2, 0] rfl rfl ?_
    exact tX12_liveAbove_62 C hr hlk hC _ _ _ _ T0 h
  · replace h := if_t h c7
    refine g_iload C (i := 4) dX12_liveAbove_38 0 rfl ?_
    refine g_aload_n C (f := 0) dX12_liveAbove_40 1 rfl ?_
    have F26 := fX12_32 hC T0.1 T0.2.1
    refine g_getR C (k := 32) (o := 19) okX12 (by decide) kf_RX12_73 dX12_liveAbove_41 hC T0.1 T0.2.1 rfl rfl ?_
    refine g_iload_n C (f := 3) dX12_liveAbove_44 3 rfl ?_
    obtain ⟨c27, h⟩ := ck_e h
    refine g_iald C 16 dX12_liveAbove_45 (rg_ hC F26.1) F26.2.1 F26.2.2 c27 ?_
    obtain ⟨q28, eq28, h⟩ := bd_e h
    refine g_cS C [(0, v (x0 + 19) x3)] (cX12_bitOf_ok l hC eq28) km_RX12_390 cs_X12_bitOf rfl (by decide) rfl rfl (Nat.le_of_ble_eq_true rfl) dX12_liveAbove_46 ?_
    refine g_aload_n C (f := 0) dX12_liveAbove_49 1 rfl ?_
    have F29 := fX12_33 hC T0.1 T0.2.1
    refine g_getR C (k := 33) (o := 20) okX12 (by decide) kf_RX12_76 dX12_liveAbove_50 hC T0.1 T0.2.1 rfl rfl ?_
    refine g_iload_n C (f := 3) dX12_liveAbove_53 3 rfl ?_
    obtain ⟨c30, h⟩ := ck_e h
    refine g_iald C 16 dX12_liveAbove_54 (rg_ hC F29.1) F29.2.1 F29.2.2 c30 ?_
    obtain ⟨q31, eq31, h⟩ := bd_e h
    refine g_cS C [(0, q28.2 (x0 + 20) x3)] (cX12_bitOf_ok l hC eq31) km_RX12_390 cs_X12_bitOf rfl (by decide) rfl rfl (Nat.le_of_ble_eq_true rfl) dX12_liveAbove_55 ?_
    refine g_ior C dX12_liveAbove_58 ?_
    refine g_ior C dX12_liveAbove_59 ?_
    obtain ⟨y32, ey32, h⟩ := lt_e h
    refine g_set C ey32 ?_
    refine g_istore C (i := 4) (ls' := [(4, (0, y32)), (0, (2, x0)), (1, (0, x1)), (3, (0, x3))]) dX12_liveAbove_60 (by decide) rfl ?_
    refine g_sub [1, 2, 0] rfl rfl ?_
    exact tX12_liveAbove_62 C hr hlk hC _ _ _ _ T0 h
end
theorem cX12_liveAbove_ok (l : Launch) {E : En_} {sz : Int} (hC : Cl_ E.2.2.2.2.2 sz) {x0 x1 x2 : Int} {v : V_} {out : Int × V_} (T0 : (E.2.2.2.2.2 x0 ∧ ty_ x0 = 12 ∧ ln_ x0 = 0)) (h : fX12_liveAbove x0 x1 x2 v = some out) : Met l yX12_liveAbove [.code yX12_liveAbove cX12_liveAbove 7 (some FieldType.int)] (rm_ 1 22) (Pc_ E sz v [(2, x0), (0, x1), (0, x2)]) (Qc_ E sz 0 out.1 out.2) 0 0 (fun q => E.1 < q) := by
  refine met_G0 RX12 (by decide +kernel) rfl (Nat.le_of_ble_eq_true rfl) ?_
  intro p e s m args below meth c C hr hlk
  rw [fX12_liveAbove] at h
  refine g_bipush C (n := 8) dX12_liveAbove_0 (by decide) ?_
  refine g_aload_n C (f := 0) dX12_liveAbove_2 0 rfl ?_
  refine g_getf C (k := 18) (kd := 0) okX12 (by decide) kf_RX12_272 dX12_liveAbove_3 (rg_ hC T0.1) T0.2.1 rfl ?_
  refine g_imul C dX12_liveAbove_6 ?_
  refine g_iload_n C (f := 1) dX12_liveAbove_7 1 rfl ?_
  refine g_iadd C dX12_liveAbove_8 ?_
  obtain ⟨y1, ey1, h⟩ := lt_e h
  refine g_set C ey1 ?_
  refine g_istore_n C (f := 3) (ls' := [(3, (0, y1)), (0, (2, x0)), (1, (0, x1)), (2, (0, x2))]) dX12_liveAbove_9 (by decide) rfl ?_
  refine g_aload_n C (f := 0) dX12_liveAbove_10 1 rfl ?_
  have F2 := fX12_31 hC T0.1 T0.2.1
  refine g_getR C (k := 31) (o := 18) okX12 (by decide) kf_RX12_70 dX12_liveAbove_11 hC T0.1 T0.2.1 rfl rfl ?_
  refine g_iload_n C (f := 3) dX12_liveAbove_14 0 rfl ?_
  obtain ⟨c3, h⟩ := ck_e h
  refine g_iald C 16 dX12_liveAbove_15 (rg_ hC F2.1) F2.2.1 F2.2.2 c3 ?_
  refine g_iconst C (n := 2) dX12_liveAbove_16 (by decide) ?_
  refine g_icmp_ne C 25 dX12_liveAbove_17 rfl (fun c4 => ?_) (fun c4 => ?_)
  · replace h := if_f h c4
    refine g_iload_n C (f := 2) dX12_liveAbove_25 3 rfl ?_
    refine g_sub [1, 2, 0] rfl rfl ?_
    exact tX12_liveAbove_26 C hr hlk hC _ _ _ _ _ T0 h
  · replace h := if_t h c4
    refine g_bipush C (n := 63) dX12_liveAbove_20 (by decide) ?_
    refine g_goto C 26 dX12_liveAbove_22 rfl ?_
    refine g_sub [1, 2, 0] rfl rfl ?_
    exact tX12_liveAbove_26 C hr hlk hC _ _ _ _ _ T0 h
